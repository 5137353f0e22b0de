theorem dX5_init_0 : decode cX5_init 0 = .ok (.aload_n 0, 1) := by decide +kernel
theorem dX5_init_1 : decode cX5_init 1 = .ok (.invokespecial 1, 3) := by decide +kernel
theorem dX5_init_4 : decode cX5_init 4 = .ok (.aload_n 0, 1) := by decide +kernel
theorem dX5_init_5 : decode cX5_init 5 = .ok (.new 7, 3) := by decide +kernel
theorem dX5_init_8 : decode cX5_init 8 = .ok (.dup, 1) := by decide +kernel
theorem dX5_init_9 : decode cX5_init 9 = .ok (.invokespecial 9, 3) := by decide +kernel
theorem dX5_init_12 : decode cX5_init 12 = .ok (.putfield 10, 3) := by decide +kernel
theorem dX5_init_15 : decode cX5_init 15 = .ok (.aload_n 0, 1) := by decide +kernel
theorem dX5_init_16 : decode cX5_init 16 = .ok (.new 7, 3) := by decide +kernel
theorem dX5_init_19 : decode cX5_init 19 = .ok (.dup, 1) := by decide +kernel
theorem dX5_init_20 : decode cX5_init 20 = .ok (.invokespecial 9, 3) := by decide +kernel
theorem dX5_init_23 : decode cX5_init 23 = .ok (.putfield 16, 3) := by decide +kernel
theorem dX5_init_26 : decode cX5_init 26 = .ok (.aload_n 0, 1) := by decide +kernel
theorem dX5_init_27 : decode cX5_init 27 = .ok (.new 19, 3) := by decide +kernel
theorem dX5_init_30 : decode cX5_init 30 = .ok (.dup, 1) := by decide +kernel
theorem dX5_init_31 : decode cX5_init 31 = .ok (.invokespecial 21, 3) := by decide +kernel
theorem dX5_init_34 : decode cX5_init 34 = .ok (.putfield 22, 3) := by decide +kernel
theorem dX5_init_37 : decode cX5_init 37 = .ok (.aload_n 0, 1) := by decide +kernel
theorem dX5_init_38 : decode cX5_init 38 = .ok (.new 26, 3) := by decide +kernel
theorem dX5_init_41 : decode cX5_init 41 = .ok (.dup, 1) := by decide +kernel
theorem dX5_init_42 : decode cX5_init 42 = .ok (.invokespecial 28, 3) := by decide +kernel
theorem dX5_init_45 : decode cX5_init 45 = .ok (.putfield 29, 3) := by decide +kernel
theorem dX5_init_48 : decode cX5_init 48 = .ok (.aload_n 0, 1) := by decide +kernel
theorem dX5_init_49 : decode cX5_init 49 = .ok (.new 33, 3) := by decide +kernel
theorem dX5_init_52 : decode cX5_init 52 = .ok (.dup, 1) := by decide +kernel
theorem dX5_init_53 : decode cX5_init 53 = .ok (.invokespecial 35, 3) := by decide +kernel
theorem dX5_init_56 : decode cX5_init 56 = .ok (.putfield 36, 3) := by decide +kernel
theorem dX5_init_59 : decode cX5_init 59 = .ok (.aload_n 0, 1) := by decide +kernel
theorem dX5_init_60 : decode cX5_init 60 = .ok (.new 40, 3) := by decide +kernel
theorem dX5_init_63 : decode cX5_init 63 = .ok (.dup, 1) := by decide +kernel
theorem dX5_init_64 : decode cX5_init 64 = .ok (.iconst 2, 1) := by decide +kernel
theorem dX5_init_65 : decode cX5_init 65 = .ok (.invokespecial 42, 3) := by decide +kernel
theorem dX5_init_68 : decode cX5_init 68 = .ok (.putfield 45, 3) := by decide +kernel
theorem dX5_init_71 : decode cX5_init 71 = .ok (.aload_n 0, 1) := by decide +kernel
theorem dX5_init_72 : decode cX5_init 72 = .ok (.iconst 2, 1) := by decide +kernel
theorem dX5_init_73 : decode cX5_init 73 = .ok (.newarray .boolean, 2) := by decide +kernel
theorem dX5_init_75 : decode cX5_init 75 = .ok (.putfield 49, 3) := by decide +kernel
theorem dX5_init_78 : decode cX5_init 78 = .ok (.aload_n 0, 1) := by decide +kernel
theorem dX5_init_79 : decode cX5_init 79 = .ok (.iconst 2, 1) := by decide +kernel
theorem dX5_init_80 : decode cX5_init 80 = .ok (.newarray .int, 2) := by decide +kernel
theorem dX5_init_82 : decode cX5_init 82 = .ok (.putfield 53, 3) := by decide +kernel
theorem dX5_init_85 : decode cX5_init 85 = .ok (.return_, 1) := by decide +kernel
theorem dX5_feed_0 : decode cX5_feed 0 = .ok (.iload_n 1, 1) := by decide +kernel
theorem dX5_feed_1 : decode cX5_feed 1 = .ok (.ifCond .lt 10, 3) := by decide +kernel
theorem dX5_feed_4 : decode cX5_feed 4 = .ok (.iload_n 1, 1) := by decide +kernel
theorem dX5_feed_5 : decode cX5_feed 5 = .ok (.sipush 255, 3) := by decide +kernel
theorem dX5_feed_8 : decode cX5_feed 8 = .ok (.if_icmp .le 6, 3) := by decide +kernel
theorem dX5_feed_11 : decode cX5_feed 11 = .ok (.ldc 57, 2) := by decide +kernel
theorem dX5_feed_13 : decode cX5_feed 13 = .ok (.ireturn, 1) := by decide +kernel
theorem dX5_feed_14 : decode cX5_feed 14 = .ok (.aload_n 0, 1) := by decide +kernel
theorem dX5_feed_15 : decode cX5_feed 15 = .ok (.getfield 10, 3) := by decide +kernel
theorem dX5_feed_18 : decode cX5_feed 18 = .ok (.invokevirtual 58, 3) := by decide +kernel
theorem dX5_feed_21 : decode cX5_feed 21 = .ok (.bipush 8, 2) := by decide +kernel
theorem dX5_feed_23 : decode cX5_feed 23 = .ok (.if_icmp .lt 6, 3) := by decide +kernel
theorem dX5_feed_26 : decode cX5_feed 26 = .ok (.ldc 62, 2) := by decide +kernel
theorem dX5_feed_28 : decode cX5_feed 28 = .ok (.ireturn, 1) := by decide +kernel
theorem dX5_feed_29 : decode cX5_feed 29 = .ok (.aload_n 0, 1) := by decide +kernel
theorem dX5_feed_30 : decode cX5_feed 30 = .ok (.getfield 10, 3) := by decide +kernel
theorem dX5_feed_33 : decode cX5_feed 33 = .ok (.iload_n 1, 1) := by decide +kernel
theorem dX5_feed_34 : decode cX5_feed 34 = .ok (.invokevirtual 63, 3) := by decide +kernel
theorem dX5_feed_37 : decode cX5_feed 37 = .ok (.aload_n 0, 1) := by decide +kernel
theorem dX5_feed_38 : decode cX5_feed 38 = .ok (.getfield 10, 3) := by decide +kernel
theorem dX5_feed_41 : decode cX5_feed 41 = .ok (.invokevirtual 58, 3) := by decide +kernel
theorem dX5_feed_44 : decode cX5_feed 44 = .ok (.ireturn, 1) := by decide +kernel
theorem dX5_wipe_0 : decode cX5_wipe 0 = .ok (.aload_n 0, 1) := by decide +kernel
theorem dX5_wipe_1 : decode cX5_wipe 1 = .ok (.getfield 10, 3) := by decide +kernel
theorem dX5_wipe_4 : decode cX5_wipe 4 = .ok (.invokevirtual 58, 3) := by decide +kernel
theorem dX5_wipe_7 : decode cX5_wipe 7 = .ok (.istore_n 1, 1) := by decide +kernel
theorem dX5_wipe_8 : decode cX5_wipe 8 = .ok (.aload_n 0, 1) := by decide +kernel
theorem dX5_wipe_9 : decode cX5_wipe 9 = .ok (.getfield 10, 3) := by decide +kernel
theorem dX5_wipe_12 : decode cX5_wipe 12 = .ok (.invokevirtual 66, 3) := by decide +kernel
theorem dX5_wipe_15 : decode cX5_wipe 15 = .ok (.iload_n 1, 1) := by decide +kernel
theorem dX5_wipe_16 : decode cX5_wipe 16 = .ok (.ireturn, 1) := by decide +kernel
theorem dX5_type_0 : decode cX5_type 0 = .ok (.aload_n 0, 1) := by decide +kernel
theorem dX5_type_1 : decode cX5_type 1 = .ok (.getfield 22, 3) := by decide +kernel
theorem dX5_type_4 : decode cX5_type 4 = .ok (.iload_n 1, 1) := by decide +kernel
theorem dX5_type_5 : decode cX5_type 5 = .ok (.invokevirtual 69, 3) := by decide +kernel
theorem dX5_type_8 : decode cX5_type 8 = .ok (.ifCond .ne 6, 3) := by decide +kernel
theorem dX5_type_11 : decode cX5_type 11 = .ok (.ldc 73, 2) := by decide +kernel
theorem dX5_type_13 : decode cX5_type 13 = .ok (.ireturn, 1) := by decide +kernel
theorem dX5_type_14 : decode cX5_type 14 = .ok (.aload_n 0, 1) := by decide +kernel
theorem dX5_type_15 : decode cX5_type 15 = .ok (.getfield 10, 3) := by decide +kernel
theorem dX5_type_18 : decode cX5_type 18 = .ok (.aload_n 0, 1) := by decide +kernel
theorem dX5_type_19 : decode cX5_type 19 = .ok (.getfield 22, 3) := by decide +kernel
theorem dX5_type_22 : decode cX5_type 22 = .ok (.iload_n 1, 1) := by decide +kernel
theorem dX5_type_23 : decode cX5_type 23 = .ok (.invokevirtual 74, 3) := by decide +kernel
theorem dX5_type_26 : decode cX5_type 26 = .ok (.aload_n 0, 1) := by decide +kernel
theorem dX5_type_27 : decode cX5_type 27 = .ok (.getfield 22, 3) := by decide +kernel
theorem dX5_type_30 : decode cX5_type 30 = .ok (.iload_n 1, 1) := by decide +kernel
theorem dX5_type_31 : decode cX5_type 31 = .ok (.invokevirtual 78, 3) := by decide +kernel
theorem dX5_type_34 : decode cX5_type 34 = .ok (.invokevirtual 82, 3) := by decide +kernel
theorem dX5_type_37 : decode cX5_type 37 = .ok (.aload_n 0, 1) := by decide +kernel
theorem dX5_type_38 : decode cX5_type 38 = .ok (.getfield 10, 3) := by decide +kernel
theorem dX5_type_41 : decode cX5_type 41 = .ok (.invokevirtual 58, 3) := by decide +kernel
theorem dX5_type_44 : decode cX5_type 44 = .ok (.ireturn, 1) := by decide +kernel
theorem dX5_told_0 : decode cX5_told 0 = .ok (.iload_n 1, 1) := by decide +kernel
theorem dX5_told_1 : decode cX5_told 1 = .ok (.tableswitch 163 0 10 #[59, 67, 75, 83, 91, 99, 115, 123, 131, 143, 155], 59) := by decide +kernel
theorem dX5_told_60 : decode cX5_told 60 = .ok (.aload_n 0, 1) := by decide +kernel
theorem dX5_told_61 : decode cX5_told 61 = .ok (.getfield 22, 3) := by decide +kernel
theorem dX5_told_64 : decode cX5_told 64 = .ok (.invokevirtual 86, 3) := by decide +kernel
theorem dX5_told_67 : decode cX5_told 67 = .ok (.ireturn, 1) := by decide +kernel
theorem dX5_told_68 : decode cX5_told 68 = .ok (.aload_n 0, 1) := by decide +kernel
theorem dX5_told_69 : decode cX5_told 69 = .ok (.getfield 29, 3) := by decide +kernel
theorem dX5_told_72 : decode cX5_told 72 = .ok (.invokevirtual 89, 3) := by decide +kernel
theorem dX5_told_75 : decode cX5_told 75 = .ok (.ireturn, 1) := by decide +kernel
theorem dX5_told_76 : decode cX5_told 76 = .ok (.aload_n 0, 1) := by decide +kernel
theorem dX5_told_77 : decode cX5_told 77 = .ok (.getfield 10, 3) := by decide +kernel
theorem dX5_told_80 : decode cX5_told 80 = .ok (.invokevirtual 58, 3) := by decide +kernel
theorem dX5_told_83 : decode cX5_told 83 = .ok (.ireturn, 1) := by decide +kernel
theorem dX5_told_84 : decode cX5_told 84 = .ok (.aload_n 0, 1) := by decide +kernel
theorem dX5_told_85 : decode cX5_told 85 = .ok (.getfield 29, 3) := by decide +kernel
theorem dX5_told_88 : decode cX5_told 88 = .ok (.invokevirtual 90, 3) := by decide +kernel
theorem dX5_told_91 : decode cX5_told 91 = .ok (.ireturn, 1) := by decide +kernel
theorem dX5_told_92 : decode cX5_told 92 = .ok (.aload_n 0, 1) := by decide +kernel
theorem dX5_told_93 : decode cX5_told 93 = .ok (.getfield 29, 3) := by decide +kernel
theorem dX5_told_96 : decode cX5_told 96 = .ok (.invokevirtual 93, 3) := by decide +kernel
theorem dX5_told_99 : decode cX5_told 99 = .ok (.ireturn, 1) := by decide +kernel
theorem dX5_told_100 : decode cX5_told 100 = .ok (.aload_n 0, 1) := by decide +kernel
theorem dX5_told_101 : decode cX5_told 101 = .ok (.getfield 22, 3) := by decide +kernel
theorem dX5_told_104 : decode cX5_told 104 = .ok (.iconst 0, 1) := by decide +kernel
theorem dX5_told_105 : decode cX5_told 105 = .ok (.aload_n 0, 1) := by decide +kernel
theorem dX5_told_106 : decode cX5_told 106 = .ok (.getfield 22, 3) := by decide +kernel
theorem dX5_told_109 : decode cX5_told 109 = .ok (.invokevirtual 86, 3) := by decide +kernel
theorem dX5_told_112 : decode cX5_told 112 = .ok (.invokevirtual 96, 3) := by decide +kernel
theorem dX5_told_115 : decode cX5_told 115 = .ok (.ireturn, 1) := by decide +kernel
theorem dX5_told_116 : decode cX5_told 116 = .ok (.aload_n 0, 1) := by decide +kernel
theorem dX5_told_117 : decode cX5_told 117 = .ok (.getfield 29, 3) := by decide +kernel
theorem dX5_told_120 : decode cX5_told 120 = .ok (.invokevirtual 100, 3) := by decide +kernel
theorem dX5_told_123 : decode cX5_told 123 = .ok (.ireturn, 1) := by decide +kernel
theorem dX5_told_124 : decode cX5_told 124 = .ok (.aload_n 0, 1) := by decide +kernel
theorem dX5_told_125 : decode cX5_told 125 = .ok (.getfield 29, 3) := by decide +kernel
theorem dX5_told_128 : decode cX5_told 128 = .ok (.invokevirtual 103, 3) := by decide +kernel
theorem dX5_told_131 : decode cX5_told 131 = .ok (.ireturn, 1) := by decide +kernel
theorem dX5_told_132 : decode cX5_told 132 = .ok (.aload_n 0, 1) := by decide +kernel
theorem dX5_told_133 : decode cX5_told 133 = .ok (.getfield 22, 3) := by decide +kernel
theorem dX5_told_136 : decode cX5_told 136 = .ok (.aload_n 0, 1) := by decide +kernel
theorem dX5_told_137 : decode cX5_told 137 = .ok (.getfield 10, 3) := by decide +kernel
theorem dX5_told_140 : decode cX5_told 140 = .ok (.invokevirtual 106, 3) := by decide +kernel
theorem dX5_told_143 : decode cX5_told 143 = .ok (.ireturn, 1) := by decide +kernel
theorem dX5_told_144 : decode cX5_told 144 = .ok (.aload_n 0, 1) := by decide +kernel
theorem dX5_told_145 : decode cX5_told 145 = .ok (.getfield 22, 3) := by decide +kernel
theorem dX5_told_148 : decode cX5_told 148 = .ok (.aload_n 0, 1) := by decide +kernel
theorem dX5_told_149 : decode cX5_told 149 = .ok (.getfield 10, 3) := by decide +kernel
theorem dX5_told_152 : decode cX5_told 152 = .ok (.invokevirtual 110, 3) := by decide +kernel
theorem dX5_told_155 : decode cX5_told 155 = .ok (.ireturn, 1) := by decide +kernel
theorem dX5_told_156 : decode cX5_told 156 = .ok (.aload_n 0, 1) := by decide +kernel
theorem dX5_told_157 : decode cX5_told 157 = .ok (.getfield 36, 3) := by decide +kernel
theorem dX5_told_160 : decode cX5_told 160 = .ok (.invokevirtual 113, 3) := by decide +kernel
theorem dX5_told_163 : decode cX5_told 163 = .ok (.ireturn, 1) := by decide +kernel
theorem dX5_told_164 : decode cX5_told 164 = .ok (.ldc 57, 2) := by decide +kernel
theorem dX5_told_166 : decode cX5_told 166 = .ok (.ireturn, 1) := by decide +kernel
theorem dX5_key_0 : decode cX5_key 0 = .ok (.aload_n 0, 1) := by decide +kernel
theorem dX5_key_1 : decode cX5_key 1 = .ok (.getfield 22, 3) := by decide +kernel
theorem dX5_key_4 : decode cX5_key 4 = .ok (.iload_n 1, 1) := by decide +kernel
theorem dX5_key_5 : decode cX5_key 5 = .ok (.invokevirtual 69, 3) := by decide +kernel
theorem dX5_key_8 : decode cX5_key 8 = .ok (.ifCond .ne 6, 3) := by decide +kernel
theorem dX5_key_11 : decode cX5_key 11 = .ok (.ldc 73, 2) := by decide +kernel
theorem dX5_key_13 : decode cX5_key 13 = .ok (.ireturn, 1) := by decide +kernel
theorem dX5_key_14 : decode cX5_key 14 = .ok (.iload_n 2, 1) := by decide +kernel
theorem dX5_key_15 : decode cX5_key 15 = .ok (.ifCond .lt 38, 3) := by decide +kernel
theorem dX5_key_18 : decode cX5_key 18 = .ok (.iload_n 2, 1) := by decide +kernel
theorem dX5_key_19 : decode cX5_key 19 = .ok (.bipush 8, 2) := by decide +kernel
theorem dX5_key_21 : decode cX5_key 21 = .ok (.if_icmp .ge 32, 3) := by decide +kernel
theorem dX5_key_24 : decode cX5_key 24 = .ok (.iload_n 2, 1) := by decide +kernel
theorem dX5_key_25 : decode cX5_key 25 = .ok (.aload_n 0, 1) := by decide +kernel
theorem dX5_key_26 : decode cX5_key 26 = .ok (.getfield 22, 3) := by decide +kernel
theorem dX5_key_29 : decode cX5_key 29 = .ok (.iload_n 1, 1) := by decide +kernel
theorem dX5_key_30 : decode cX5_key 30 = .ok (.invokevirtual 78, 3) := by decide +kernel
theorem dX5_key_33 : decode cX5_key 33 = .ok (.if_icmp .ge 18, 3) := by decide +kernel
theorem dX5_key_36 : decode cX5_key 36 = .ok (.aload_n 0, 1) := by decide +kernel
theorem dX5_key_37 : decode cX5_key 37 = .ok (.getfield 22, 3) := by decide +kernel
theorem dX5_key_40 : decode cX5_key 40 = .ok (.iload_n 1, 1) := by decide +kernel
theorem dX5_key_41 : decode cX5_key 41 = .ok (.invokevirtual 74, 3) := by decide +kernel
theorem dX5_key_44 : decode cX5_key 44 = .ok (.iload_n 2, 1) := by decide +kernel
theorem dX5_key_45 : decode cX5_key 45 = .ok (.invokestatic 114, 3) := by decide +kernel
theorem dX5_key_48 : decode cX5_key 48 = .ok (.goto 4, 3) := by decide +kernel
theorem dX5_key_51 : decode cX5_key 51 = .ok (.iconst (-1), 1) := by decide +kernel
theorem dX5_key_52 : decode cX5_key 52 = .ok (.ireturn, 1) := by decide +kernel
theorem dX5_key_53 : decode cX5_key 53 = .ok (.iload_n 2, 1) := by decide +kernel
theorem dX5_key_54 : decode cX5_key 54 = .ok (.tableswitch 83 8 12 #[34, 43, 52, 61, 74], 34) := by decide +kernel
theorem dX5_key_88 : decode cX5_key 88 = .ok (.aload_n 0, 1) := by decide +kernel
theorem dX5_key_89 : decode cX5_key 89 = .ok (.getfield 22, 3) := by decide +kernel
theorem dX5_key_92 : decode cX5_key 92 = .ok (.iload_n 1, 1) := by decide +kernel
theorem dX5_key_93 : decode cX5_key 93 = .ok (.invokevirtual 78, 3) := by decide +kernel
theorem dX5_key_96 : decode cX5_key 96 = .ok (.ireturn, 1) := by decide +kernel
theorem dX5_key_97 : decode cX5_key 97 = .ok (.aload_n 0, 1) := by decide +kernel
theorem dX5_key_98 : decode cX5_key 98 = .ok (.getfield 22, 3) := by decide +kernel
theorem dX5_key_101 : decode cX5_key 101 = .ok (.iload_n 1, 1) := by decide +kernel
theorem dX5_key_102 : decode cX5_key 102 = .ok (.invokevirtual 118, 3) := by decide +kernel
theorem dX5_key_105 : decode cX5_key 105 = .ok (.ireturn, 1) := by decide +kernel
theorem dX5_key_106 : decode cX5_key 106 = .ok (.aload_n 0, 1) := by decide +kernel
theorem dX5_key_107 : decode cX5_key 107 = .ok (.getfield 29, 3) := by decide +kernel
theorem dX5_key_110 : decode cX5_key 110 = .ok (.iload_n 1, 1) := by decide +kernel
theorem dX5_key_111 : decode cX5_key 111 = .ok (.invokevirtual 121, 3) := by decide +kernel
theorem dX5_key_114 : decode cX5_key 114 = .ok (.ireturn, 1) := by decide +kernel
theorem dX5_key_115 : decode cX5_key 115 = .ok (.aload_n 0, 1) := by decide +kernel
theorem dX5_key_116 : decode cX5_key 116 = .ok (.getfield 22, 3) := by decide +kernel
theorem dX5_key_119 : decode cX5_key 119 = .ok (.iload_n 1, 1) := by decide +kernel
theorem dX5_key_120 : decode cX5_key 120 = .ok (.aload_n 0, 1) := by decide +kernel
theorem dX5_key_121 : decode cX5_key 121 = .ok (.getfield 10, 3) := by decide +kernel
theorem dX5_key_124 : decode cX5_key 124 = .ok (.invokevirtual 124, 3) := by decide +kernel
theorem dX5_key_127 : decode cX5_key 127 = .ok (.ireturn, 1) := by decide +kernel
theorem dX5_key_128 : decode cX5_key 128 = .ok (.aload_n 0, 1) := by decide +kernel
theorem dX5_key_129 : decode cX5_key 129 = .ok (.getfield 29, 3) := by decide +kernel
theorem dX5_key_132 : decode cX5_key 132 = .ok (.iload_n 1, 1) := by decide +kernel
theorem dX5_key_133 : decode cX5_key 133 = .ok (.invokevirtual 128, 3) := by decide +kernel
theorem dX5_key_136 : decode cX5_key 136 = .ok (.ireturn, 1) := by decide +kernel
theorem dX5_key_137 : decode cX5_key 137 = .ok (.ldc 57, 2) := by decide +kernel
theorem dX5_key_139 : decode cX5_key 139 = .ok (.ireturn, 1) := by decide +kernel
theorem dX5_branch_0 : decode cX5_branch 0 = .ok (.aload_n 0, 1) := by decide +kernel
theorem dX5_branch_1 : decode cX5_branch 1 = .ok (.getfield 29, 3) := by decide +kernel
theorem dX5_branch_4 : decode cX5_branch 4 = .ok (.iload_n 1, 1) := by decide +kernel
theorem dX5_branch_5 : decode cX5_branch 5 = .ok (.invokevirtual 131, 3) := by decide +kernel
theorem dX5_branch_8 : decode cX5_branch 8 = .ok (.ifCond .ne 6, 3) := by decide +kernel
theorem dX5_branch_11 : decode cX5_branch 11 = .ok (.ldc 73, 2) := by decide +kernel
theorem dX5_branch_13 : decode cX5_branch 13 = .ok (.ireturn, 1) := by decide +kernel
theorem dX5_branch_14 : decode cX5_branch 14 = .ok (.iload_n 2, 1) := by decide +kernel
theorem dX5_branch_15 : decode cX5_branch 15 = .ok (.tableswitch 91 0 5 #[37, 46, 55, 64, 73, 82], 37) := by decide +kernel
theorem dX5_branch_52 : decode cX5_branch 52 = .ok (.aload_n 0, 1) := by decide +kernel
theorem dX5_branch_53 : decode cX5_branch 53 = .ok (.getfield 29, 3) := by decide +kernel
theorem dX5_branch_56 : decode cX5_branch 56 = .ok (.iload_n 1, 1) := by decide +kernel
theorem dX5_branch_57 : decode cX5_branch 57 = .ok (.invokevirtual 132, 3) := by decide +kernel
theorem dX5_branch_60 : decode cX5_branch 60 = .ok (.ireturn, 1) := by decide +kernel
theorem dX5_branch_61 : decode cX5_branch 61 = .ok (.aload_n 0, 1) := by decide +kernel
theorem dX5_branch_62 : decode cX5_branch 62 = .ok (.getfield 29, 3) := by decide +kernel
theorem dX5_branch_65 : decode cX5_branch 65 = .ok (.iload_n 1, 1) := by decide +kernel
theorem dX5_branch_66 : decode cX5_branch 66 = .ok (.invokevirtual 135, 3) := by decide +kernel
theorem dX5_branch_69 : decode cX5_branch 69 = .ok (.ireturn, 1) := by decide +kernel
theorem dX5_branch_70 : decode cX5_branch 70 = .ok (.aload_n 0, 1) := by decide +kernel
theorem dX5_branch_71 : decode cX5_branch 71 = .ok (.getfield 29, 3) := by decide +kernel
theorem dX5_branch_74 : decode cX5_branch 74 = .ok (.iload_n 1, 1) := by decide +kernel
theorem dX5_branch_75 : decode cX5_branch 75 = .ok (.invokevirtual 138, 3) := by decide +kernel
theorem dX5_branch_78 : decode cX5_branch 78 = .ok (.ireturn, 1) := by decide +kernel
theorem dX5_branch_79 : decode cX5_branch 79 = .ok (.aload_n 0, 1) := by decide +kernel
theorem dX5_branch_80 : decode cX5_branch 80 = .ok (.getfield 29, 3) := by decide +kernel
theorem dX5_branch_83 : decode cX5_branch 83 = .ok (.iload_n 1, 1) := by decide +kernel
theorem dX5_branch_84 : decode cX5_branch 84 = .ok (.invokevirtual 141, 3) := by decide +kernel
theorem dX5_branch_87 : decode cX5_branch 87 = .ok (.ireturn, 1) := by decide +kernel
theorem dX5_branch_88 : decode cX5_branch 88 = .ok (.aload_n 0, 1) := by decide +kernel
theorem dX5_branch_89 : decode cX5_branch 89 = .ok (.getfield 29, 3) := by decide +kernel
theorem dX5_branch_92 : decode cX5_branch 92 = .ok (.iload_n 1, 1) := by decide +kernel
theorem dX5_branch_93 : decode cX5_branch 93 = .ok (.invokevirtual 144, 3) := by decide +kernel
theorem dX5_branch_96 : decode cX5_branch 96 = .ok (.ireturn, 1) := by decide +kernel
theorem dX5_branch_97 : decode cX5_branch 97 = .ok (.aload_n 0, 1) := by decide +kernel
theorem dX5_branch_98 : decode cX5_branch 98 = .ok (.getfield 29, 3) := by decide +kernel
theorem dX5_branch_101 : decode cX5_branch 101 = .ok (.iload_n 1, 1) := by decide +kernel
theorem dX5_branch_102 : decode cX5_branch 102 = .ok (.invokevirtual 147, 3) := by decide +kernel
theorem dX5_branch_105 : decode cX5_branch 105 = .ok (.ireturn, 1) := by decide +kernel
theorem dX5_branch_106 : decode cX5_branch 106 = .ok (.ldc 57, 2) := by decide +kernel
theorem dX5_branch_108 : decode cX5_branch 108 = .ok (.ireturn, 1) := by decide +kernel
theorem dX5_put_0 : decode cX5_put 0 = .ok (.iload_n 1, 1) := by decide +kernel
theorem dX5_put_1 : decode cX5_put 1 = .ok (.ifCond .lt 10, 3) := by decide +kernel
theorem dX5_put_4 : decode cX5_put 4 = .ok (.iload_n 1, 1) := by decide +kernel
theorem dX5_put_5 : decode cX5_put 5 = .ok (.sipush 9999, 3) := by decide +kernel
theorem dX5_put_8 : decode cX5_put 8 = .ok (.if_icmp .le 6, 3) := by decide +kernel
theorem dX5_put_11 : decode cX5_put 11 = .ok (.ldc 57, 2) := by decide +kernel
theorem dX5_put_13 : decode cX5_put 13 = .ok (.ireturn, 1) := by decide +kernel
theorem dX5_put_14 : decode cX5_put 14 = .ok (.aload_n 0, 1) := by decide +kernel
theorem dX5_put_15 : decode cX5_put 15 = .ok (.getfield 22, 3) := by decide +kernel
theorem dX5_put_18 : decode cX5_put 18 = .ok (.aload_n 0, 1) := by decide +kernel
theorem dX5_put_19 : decode cX5_put 19 = .ok (.getfield 10, 3) := by decide +kernel
theorem dX5_put_22 : decode cX5_put 22 = .ok (.invokevirtual 110, 3) := by decide +kernel
theorem dX5_put_25 : decode cX5_put 25 = .ok (.istore_n 2, 1) := by decide +kernel
theorem dX5_put_26 : decode cX5_put 26 = .ok (.iload_n 2, 1) := by decide +kernel
theorem dX5_put_27 : decode cX5_put 27 = .ok (.iconst (-1), 1) := by decide +kernel
theorem dX5_put_28 : decode cX5_put 28 = .ok (.if_icmp .ne 16, 3) := by decide +kernel
theorem dX5_put_31 : decode cX5_put 31 = .ok (.aload_n 0, 1) := by decide +kernel
theorem dX5_put_32 : decode cX5_put 32 = .ok (.getfield 22, 3) := by decide +kernel
theorem dX5_put_35 : decode cX5_put 35 = .ok (.invokevirtual 150, 3) := by decide +kernel
theorem dX5_put_38 : decode cX5_put 38 = .ok (.ifCond .eq 6, 3) := by decide +kernel
theorem dX5_put_41 : decode cX5_put 41 = .ok (.ldc 62, 2) := by decide +kernel
theorem dX5_put_43 : decode cX5_put 43 = .ok (.ireturn, 1) := by decide +kernel
theorem dX5_put_44 : decode cX5_put 44 = .ok (.iload_n 2, 1) := by decide +kernel
theorem dX5_put_45 : decode cX5_put 45 = .ok (.iconst (-1), 1) := by decide +kernel
theorem dX5_put_46 : decode cX5_put 46 = .ok (.if_icmp .ne 7, 3) := by decide +kernel
theorem dX5_put_49 : decode cX5_put 49 = .ok (.iconst (-1), 1) := by decide +kernel
theorem dX5_put_50 : decode cX5_put 50 = .ok (.goto 11, 3) := by decide +kernel
theorem dX5_put_53 : decode cX5_put 53 = .ok (.aload_n 0, 1) := by decide +kernel
theorem dX5_put_54 : decode cX5_put 54 = .ok (.getfield 22, 3) := by decide +kernel
theorem dX5_put_57 : decode cX5_put 57 = .ok (.iload_n 2, 1) := by decide +kernel
theorem dX5_put_58 : decode cX5_put 58 = .ok (.invokevirtual 118, 3) := by decide +kernel
theorem dX5_put_61 : decode cX5_put 61 = .ok (.istore_n 3, 1) := by decide +kernel
theorem dX5_put_62 : decode cX5_put 62 = .ok (.aload_n 0, 1) := by decide +kernel
theorem dX5_put_63 : decode cX5_put 63 = .ok (.getfield 36, 3) := by decide +kernel
theorem dX5_put_66 : decode cX5_put 66 = .ok (.aload_n 0, 1) := by decide +kernel
theorem dX5_put_67 : decode cX5_put 67 = .ok (.getfield 22, 3) := by decide +kernel
theorem dX5_put_70 : decode cX5_put 70 = .ok (.invokevirtual 154, 3) := by decide +kernel
theorem dX5_put_73 : decode cX5_put 73 = .ok (.aload_n 0, 1) := by decide +kernel
theorem dX5_put_74 : decode cX5_put 74 = .ok (.getfield 22, 3) := by decide +kernel
theorem dX5_put_77 : decode cX5_put 77 = .ok (.aload_n 0, 1) := by decide +kernel
theorem dX5_put_78 : decode cX5_put 78 = .ok (.getfield 10, 3) := by decide +kernel
theorem dX5_put_81 : decode cX5_put 81 = .ok (.iload_n 1, 1) := by decide +kernel
theorem dX5_put_82 : decode cX5_put 82 = .ok (.invokevirtual 158, 3) := by decide +kernel
theorem dX5_put_85 : decode cX5_put 85 = .ok (.aload_n 0, 1) := by decide +kernel
theorem dX5_put_86 : decode cX5_put 86 = .ok (.getfield 29, 3) := by decide +kernel
theorem dX5_put_89 : decode cX5_put 89 = .ok (.aload_n 0, 1) := by decide +kernel
theorem dX5_put_90 : decode cX5_put 90 = .ok (.getfield 22, 3) := by decide +kernel
theorem dX5_put_93 : decode cX5_put 93 = .ok (.invokevirtual 162, 3) := by decide +kernel
theorem dX5_put_96 : decode cX5_put 96 = .ok (.iload_n 3, 1) := by decide +kernel
theorem dX5_put_97 : decode cX5_put 97 = .ok (.ireturn, 1) := by decide +kernel
theorem dX5_take_0 : decode cX5_take 0 = .ok (.aload_n 0, 1) := by decide +kernel
theorem dX5_take_1 : decode cX5_take 1 = .ok (.getfield 22, 3) := by decide +kernel
theorem dX5_take_4 : decode cX5_take 4 = .ok (.aload_n 0, 1) := by decide +kernel
theorem dX5_take_5 : decode cX5_take 5 = .ok (.getfield 10, 3) := by decide +kernel
theorem dX5_take_8 : decode cX5_take 8 = .ok (.invokevirtual 110, 3) := by decide +kernel
theorem dX5_take_11 : decode cX5_take 11 = .ok (.istore_n 1, 1) := by decide +kernel
theorem dX5_take_12 : decode cX5_take 12 = .ok (.iload_n 1, 1) := by decide +kernel
theorem dX5_take_13 : decode cX5_take 13 = .ok (.iconst (-1), 1) := by decide +kernel
theorem dX5_take_14 : decode cX5_take 14 = .ok (.if_icmp .ne 6, 3) := by decide +kernel
theorem dX5_take_17 : decode cX5_take 17 = .ok (.ldc 165, 2) := by decide +kernel
theorem dX5_take_19 : decode cX5_take 19 = .ok (.ireturn, 1) := by decide +kernel
theorem dX5_take_20 : decode cX5_take 20 = .ok (.aload_n 0, 1) := by decide +kernel
theorem dX5_take_21 : decode cX5_take 21 = .ok (.getfield 22, 3) := by decide +kernel
theorem dX5_take_24 : decode cX5_take 24 = .ok (.iload_n 1, 1) := by decide +kernel
theorem dX5_take_25 : decode cX5_take 25 = .ok (.invokevirtual 118, 3) := by decide +kernel
theorem dX5_take_28 : decode cX5_take 28 = .ok (.istore_n 2, 1) := by decide +kernel
theorem dX5_take_29 : decode cX5_take 29 = .ok (.aload_n 0, 1) := by decide +kernel
theorem dX5_take_30 : decode cX5_take 30 = .ok (.getfield 36, 3) := by decide +kernel
theorem dX5_take_33 : decode cX5_take 33 = .ok (.aload_n 0, 1) := by decide +kernel
theorem dX5_take_34 : decode cX5_take 34 = .ok (.getfield 22, 3) := by decide +kernel
theorem dX5_take_37 : decode cX5_take 37 = .ok (.invokevirtual 154, 3) := by decide +kernel
theorem dX5_take_40 : decode cX5_take 40 = .ok (.aload_n 0, 1) := by decide +kernel
theorem dX5_take_41 : decode cX5_take 41 = .ok (.getfield 22, 3) := by decide +kernel
theorem dX5_take_44 : decode cX5_take 44 = .ok (.iload_n 1, 1) := by decide +kernel
theorem dX5_take_45 : decode cX5_take 45 = .ok (.iconst 1, 1) := by decide +kernel
theorem dX5_take_46 : decode cX5_take 46 = .ok (.invokevirtual 166, 3) := by decide +kernel
theorem dX5_take_49 : decode cX5_take 49 = .ok (.aload_n 0, 1) := by decide +kernel
theorem dX5_take_50 : decode cX5_take 50 = .ok (.getfield 29, 3) := by decide +kernel
theorem dX5_take_53 : decode cX5_take 53 = .ok (.aload_n 0, 1) := by decide +kernel
theorem dX5_take_54 : decode cX5_take 54 = .ok (.getfield 22, 3) := by decide +kernel
theorem dX5_take_57 : decode cX5_take 57 = .ok (.invokevirtual 162, 3) := by decide +kernel
theorem dX5_take_60 : decode cX5_take 60 = .ok (.iload_n 2, 1) := by decide +kernel
theorem dX5_take_61 : decode cX5_take 61 = .ok (.ireturn, 1) := by decide +kernel
theorem dX5_cut_0 : decode cX5_cut 0 = .ok (.aload_n 0, 1) := by decide +kernel
theorem dX5_cut_1 : decode cX5_cut 1 = .ok (.getfield 22, 3) := by decide +kernel
theorem dX5_cut_4 : decode cX5_cut 4 = .ok (.aload_n 0, 1) := by decide +kernel
theorem dX5_cut_5 : decode cX5_cut 5 = .ok (.getfield 10, 3) := by decide +kernel
theorem dX5_cut_8 : decode cX5_cut 8 = .ok (.invokevirtual 170, 3) := by decide +kernel
theorem dX5_cut_11 : decode cX5_cut 11 = .ok (.istore_n 1, 1) := by decide +kernel
theorem dX5_cut_12 : decode cX5_cut 12 = .ok (.aload_n 0, 1) := by decide +kernel
theorem dX5_cut_13 : decode cX5_cut 13 = .ok (.getfield 36, 3) := by decide +kernel
theorem dX5_cut_16 : decode cX5_cut 16 = .ok (.aload_n 0, 1) := by decide +kernel
theorem dX5_cut_17 : decode cX5_cut 17 = .ok (.getfield 22, 3) := by decide +kernel
theorem dX5_cut_20 : decode cX5_cut 20 = .ok (.invokevirtual 154, 3) := by decide +kernel
theorem dX5_cut_23 : decode cX5_cut 23 = .ok (.aload_n 0, 1) := by decide +kernel
theorem dX5_cut_24 : decode cX5_cut 24 = .ok (.getfield 22, 3) := by decide +kernel
theorem dX5_cut_27 : decode cX5_cut 27 = .ok (.aload_n 0, 1) := by decide +kernel
theorem dX5_cut_28 : decode cX5_cut 28 = .ok (.getfield 22, 3) := by decide +kernel
theorem dX5_cut_31 : decode cX5_cut 31 = .ok (.aload_n 0, 1) := by decide +kernel
theorem dX5_cut_32 : decode cX5_cut 32 = .ok (.getfield 10, 3) := by decide +kernel
theorem dX5_cut_35 : decode cX5_cut 35 = .ok (.invokevirtual 106, 3) := by decide +kernel
theorem dX5_cut_38 : decode cX5_cut 38 = .ok (.iload_n 1, 1) := by decide +kernel
theorem dX5_cut_39 : decode cX5_cut 39 = .ok (.invokevirtual 166, 3) := by decide +kernel
theorem dX5_cut_42 : decode cX5_cut 42 = .ok (.aload_n 0, 1) := by decide +kernel
theorem dX5_cut_43 : decode cX5_cut 43 = .ok (.getfield 29, 3) := by decide +kernel
theorem dX5_cut_46 : decode cX5_cut 46 = .ok (.aload_n 0, 1) := by decide +kernel
theorem dX5_cut_47 : decode cX5_cut 47 = .ok (.getfield 22, 3) := by decide +kernel
theorem dX5_cut_50 : decode cX5_cut 50 = .ok (.invokevirtual 162, 3) := by decide +kernel
theorem dX5_cut_53 : decode cX5_cut 53 = .ok (.iload_n 1, 1) := by decide +kernel
theorem dX5_cut_54 : decode cX5_cut 54 = .ok (.ireturn, 1) := by decide +kernel
theorem dX5_raise_0 : decode cX5_raise 0 = .ok (.iload_n 1, 1) := by decide +kernel
theorem dX5_raise_1 : decode cX5_raise 1 = .ok (.iconst 1, 1) := by decide +kernel
theorem dX5_raise_2 : decode cX5_raise 2 = .ok (.if_icmp .lt 10, 3) := by decide +kernel
theorem dX5_raise_5 : decode cX5_raise 5 = .ok (.iload_n 1, 1) := by decide +kernel
theorem dX5_raise_6 : decode cX5_raise 6 = .ok (.sipush 9999, 3) := by decide +kernel
theorem dX5_raise_9 : decode cX5_raise 9 = .ok (.if_icmp .le 6, 3) := by decide +kernel
theorem dX5_raise_12 : decode cX5_raise 12 = .ok (.ldc 57, 2) := by decide +kernel
theorem dX5_raise_14 : decode cX5_raise 14 = .ok (.ireturn, 1) := by decide +kernel
theorem dX5_raise_15 : decode cX5_raise 15 = .ok (.aload_n 0, 1) := by decide +kernel
theorem dX5_raise_16 : decode cX5_raise 16 = .ok (.getfield 22, 3) := by decide +kernel
theorem dX5_raise_19 : decode cX5_raise 19 = .ok (.aload_n 0, 1) := by decide +kernel
theorem dX5_raise_20 : decode cX5_raise 20 = .ok (.getfield 10, 3) := by decide +kernel
theorem dX5_raise_23 : decode cX5_raise 23 = .ok (.invokevirtual 170, 3) := by decide +kernel
theorem dX5_raise_26 : decode cX5_raise 26 = .ok (.istore_n 2, 1) := by decide +kernel
theorem dX5_raise_27 : decode cX5_raise 27 = .ok (.aload_n 0, 1) := by decide +kernel
theorem dX5_raise_28 : decode cX5_raise 28 = .ok (.getfield 36, 3) := by decide +kernel
theorem dX5_raise_31 : decode cX5_raise 31 = .ok (.aload_n 0, 1) := by decide +kernel
theorem dX5_raise_32 : decode cX5_raise 32 = .ok (.getfield 22, 3) := by decide +kernel
theorem dX5_raise_35 : decode cX5_raise 35 = .ok (.invokevirtual 154, 3) := by decide +kernel
theorem dX5_raise_38 : decode cX5_raise 38 = .ok (.aload_n 0, 1) := by decide +kernel
theorem dX5_raise_39 : decode cX5_raise 39 = .ok (.getfield 22, 3) := by decide +kernel
theorem dX5_raise_42 : decode cX5_raise 42 = .ok (.aload_n 0, 1) := by decide +kernel
theorem dX5_raise_43 : decode cX5_raise 43 = .ok (.getfield 22, 3) := by decide +kernel
theorem dX5_raise_46 : decode cX5_raise 46 = .ok (.aload_n 0, 1) := by decide +kernel
theorem dX5_raise_47 : decode cX5_raise 47 = .ok (.getfield 10, 3) := by decide +kernel
theorem dX5_raise_50 : decode cX5_raise 50 = .ok (.invokevirtual 106, 3) := by decide +kernel
theorem dX5_raise_53 : decode cX5_raise 53 = .ok (.iload_n 2, 1) := by decide +kernel
theorem dX5_raise_54 : decode cX5_raise 54 = .ok (.iload_n 1, 1) := by decide +kernel
theorem dX5_raise_55 : decode cX5_raise 55 = .ok (.invokevirtual 173, 3) := by decide +kernel
theorem dX5_raise_58 : decode cX5_raise 58 = .ok (.iload_n 2, 1) := by decide +kernel
theorem dX5_raise_59 : decode cX5_raise 59 = .ok (.ireturn, 1) := by decide +kernel
theorem dX5_drift_0 : decode cX5_drift 0 = .ok (.iload_n 1, 1) := by decide +kernel
theorem dX5_drift_1 : decode cX5_drift 1 = .ok (.iconst 1, 1) := by decide +kernel
theorem dX5_drift_2 : decode cX5_drift 2 = .ok (.if_icmp .lt 9, 3) := by decide +kernel
theorem dX5_drift_5 : decode cX5_drift 5 = .ok (.iload_n 1, 1) := by decide +kernel
theorem dX5_drift_6 : decode cX5_drift 6 = .ok (.bipush 20, 2) := by decide +kernel
theorem dX5_drift_8 : decode cX5_drift 8 = .ok (.if_icmp .le 6, 3) := by decide +kernel
theorem dX5_drift_11 : decode cX5_drift 11 = .ok (.ldc 57, 2) := by decide +kernel
theorem dX5_drift_13 : decode cX5_drift 13 = .ok (.ireturn, 1) := by decide +kernel
theorem dX5_drift_14 : decode cX5_drift 14 = .ok (.iconst 0, 1) := by decide +kernel
theorem dX5_drift_15 : decode cX5_drift 15 = .ok (.istore_n 2, 1) := by decide +kernel
theorem dX5_drift_16 : decode cX5_drift 16 = .ok (.iload_n 2, 1) := by decide +kernel
theorem dX5_drift_17 : decode cX5_drift 17 = .ok (.iload_n 1, 1) := by decide +kernel
theorem dX5_drift_18 : decode cX5_drift 18 = .ok (.if_icmp .ge 24, 3) := by decide +kernel
theorem dX5_drift_21 : decode cX5_drift 21 = .ok (.aload_n 0, 1) := by decide +kernel
theorem dX5_drift_22 : decode cX5_drift 22 = .ok (.getfield 36, 3) := by decide +kernel
theorem dX5_drift_25 : decode cX5_drift 25 = .ok (.aload_n 0, 1) := by decide +kernel
theorem dX5_drift_26 : decode cX5_drift 26 = .ok (.getfield 22, 3) := by decide +kernel
theorem dX5_drift_29 : decode cX5_drift 29 = .ok (.invokevirtual 154, 3) := by decide +kernel
theorem dX5_drift_32 : decode cX5_drift 32 = .ok (.aload_n 0, 1) := by decide +kernel
theorem dX5_drift_33 : decode cX5_drift 33 = .ok (.invokevirtual 177, 3) := by decide +kernel
theorem dX5_drift_36 : decode cX5_drift 36 = .ok (.iinc 2 1, 3) := by decide +kernel
theorem dX5_drift_39 : decode cX5_drift 39 = .ok (.goto (-23), 3) := by decide +kernel
theorem dX5_drift_42 : decode cX5_drift 42 = .ok (.aload_n 0, 1) := by decide +kernel
theorem dX5_drift_43 : decode cX5_drift 43 = .ok (.getfield 29, 3) := by decide +kernel
theorem dX5_drift_46 : decode cX5_drift 46 = .ok (.aload_n 0, 1) := by decide +kernel
theorem dX5_drift_47 : decode cX5_drift 47 = .ok (.getfield 22, 3) := by decide +kernel
theorem dX5_drift_50 : decode cX5_drift 50 = .ok (.invokevirtual 162, 3) := by decide +kernel
theorem dX5_drift_53 : decode cX5_drift 53 = .ok (.aload_n 0, 1) := by decide +kernel
theorem dX5_drift_54 : decode cX5_drift 54 = .ok (.getfield 22, 3) := by decide +kernel
theorem dX5_drift_57 : decode cX5_drift 57 = .ok (.invokevirtual 86, 3) := by decide +kernel
theorem dX5_drift_60 : decode cX5_drift 60 = .ok (.ireturn, 1) := by decide +kernel
theorem dX5_undo_0 : decode cX5_undo 0 = .ok (.iload_n 1, 1) := by decide +kernel
theorem dX5_undo_1 : decode cX5_undo 1 = .ok (.iconst 1, 1) := by decide +kernel
theorem dX5_undo_2 : decode cX5_undo 2 = .ok (.if_icmp .lt 9, 3) := by decide +kernel
theorem dX5_undo_5 : decode cX5_undo 5 = .ok (.iload_n 1, 1) := by decide +kernel
theorem dX5_undo_6 : decode cX5_undo 6 = .ok (.bipush 20, 2) := by decide +kernel
theorem dX5_undo_8 : decode cX5_undo 8 = .ok (.if_icmp .le 6, 3) := by decide +kernel
theorem dX5_undo_11 : decode cX5_undo 11 = .ok (.ldc 57, 2) := by decide +kernel
theorem dX5_undo_13 : decode cX5_undo 13 = .ok (.ireturn, 1) := by decide +kernel
theorem dX5_undo_14 : decode cX5_undo 14 = .ok (.iload_n 1, 1) := by decide +kernel
theorem dX5_undo_15 : decode cX5_undo 15 = .ok (.aload_n 0, 1) := by decide +kernel
theorem dX5_undo_16 : decode cX5_undo 16 = .ok (.getfield 36, 3) := by decide +kernel
theorem dX5_undo_19 : decode cX5_undo 19 = .ok (.invokevirtual 113, 3) := by decide +kernel
theorem dX5_undo_22 : decode cX5_undo 22 = .ok (.if_icmp .le 6, 3) := by decide +kernel
theorem dX5_undo_25 : decode cX5_undo 25 = .ok (.ldc 165, 2) := by decide +kernel
theorem dX5_undo_27 : decode cX5_undo 27 = .ok (.ireturn, 1) := by decide +kernel
theorem dX5_undo_28 : decode cX5_undo 28 = .ok (.aload_n 0, 1) := by decide +kernel
theorem dX5_undo_29 : decode cX5_undo 29 = .ok (.getfield 36, 3) := by decide +kernel
theorem dX5_undo_32 : decode cX5_undo 32 = .ok (.iload_n 1, 1) := by decide +kernel
theorem dX5_undo_33 : decode cX5_undo 33 = .ok (.aload_n 0, 1) := by decide +kernel
theorem dX5_undo_34 : decode cX5_undo 34 = .ok (.getfield 22, 3) := by decide +kernel
theorem dX5_undo_37 : decode cX5_undo 37 = .ok (.invokevirtual 180, 3) := by decide +kernel
theorem dX5_undo_40 : decode cX5_undo 40 = .ok (.aload_n 0, 1) := by decide +kernel
theorem dX5_undo_41 : decode cX5_undo 41 = .ok (.getfield 29, 3) := by decide +kernel
theorem dX5_undo_44 : decode cX5_undo 44 = .ok (.aload_n 0, 1) := by decide +kernel
theorem dX5_undo_45 : decode cX5_undo 45 = .ok (.getfield 22, 3) := by decide +kernel
theorem dX5_undo_48 : decode cX5_undo 48 = .ok (.invokevirtual 162, 3) := by decide +kernel
theorem dX5_undo_51 : decode cX5_undo 51 = .ok (.aload_n 0, 1) := by decide +kernel
theorem dX5_undo_52 : decode cX5_undo 52 = .ok (.getfield 22, 3) := by decide +kernel
theorem dX5_undo_55 : decode cX5_undo 55 = .ok (.invokevirtual 86, 3) := by decide +kernel
theorem dX5_undo_58 : decode cX5_undo 58 = .ok (.ireturn, 1) := by decide +kernel
theorem dX5_below_0 : decode cX5_below 0 = .ok (.aload_n 0, 1) := by decide +kernel
theorem dX5_below_1 : decode cX5_below 1 = .ok (.getfield 22, 3) := by decide +kernel
theorem dX5_below_4 : decode cX5_below 4 = .ok (.aload_n 0, 1) := by decide +kernel
theorem dX5_below_5 : decode cX5_below 5 = .ok (.getfield 10, 3) := by decide +kernel
theorem dX5_below_8 : decode cX5_below 8 = .ok (.invokevirtual 106, 3) := by decide +kernel
theorem dX5_below_11 : decode cX5_below 11 = .ok (.istore_n 2, 1) := by decide +kernel
theorem dX5_below_12 : decode cX5_below 12 = .ok (.aload_n 0, 1) := by decide +kernel
theorem dX5_below_13 : decode cX5_below 13 = .ok (.getfield 22, 3) := by decide +kernel
theorem dX5_below_16 : decode cX5_below 16 = .ok (.aload_n 0, 1) := by decide +kernel
theorem dX5_below_17 : decode cX5_below 17 = .ok (.getfield 10, 3) := by decide +kernel
theorem dX5_below_20 : decode cX5_below 20 = .ok (.invokevirtual 170, 3) := by decide +kernel
theorem dX5_below_23 : decode cX5_below 23 = .ok (.istore_n 3, 1) := by decide +kernel
theorem dX5_below_24 : decode cX5_below 24 = .ok (.iload_n 1, 1) := by decide +kernel
theorem dX5_below_25 : decode cX5_below 25 = .ok (.tableswitch 63 0 3 #[31, 33, 43, 53], 31) := by decide +kernel
theorem dX5_below_56 : decode cX5_below 56 = .ok (.iload_n 3, 1) := by decide +kernel
theorem dX5_below_57 : decode cX5_below 57 = .ok (.ireturn, 1) := by decide +kernel
theorem dX5_below_58 : decode cX5_below 58 = .ok (.iload_n 3, 1) := by decide +kernel
theorem dX5_below_59 : decode cX5_below 59 = .ok (.ifCond .le 7, 3) := by decide +kernel
theorem dX5_below_62 : decode cX5_below 62 = .ok (.iload_n 2, 1) := by decide +kernel
theorem dX5_below_63 : decode cX5_below 63 = .ok (.goto 4, 3) := by decide +kernel
theorem dX5_below_66 : decode cX5_below 66 = .ok (.iconst (-1), 1) := by decide +kernel
theorem dX5_below_67 : decode cX5_below 67 = .ok (.ireturn, 1) := by decide +kernel
theorem dX5_below_68 : decode cX5_below 68 = .ok (.aload_n 0, 1) := by decide +kernel
theorem dX5_below_69 : decode cX5_below 69 = .ok (.getfield 22, 3) := by decide +kernel
theorem dX5_below_72 : decode cX5_below 72 = .ok (.iload_n 2, 1) := by decide +kernel
theorem dX5_below_73 : decode cX5_below 73 = .ok (.iload_n 3, 1) := by decide +kernel
theorem dX5_below_74 : decode cX5_below 74 = .ok (.invokevirtual 96, 3) := by decide +kernel
theorem dX5_below_77 : decode cX5_below 77 = .ok (.ireturn, 1) := by decide +kernel
theorem dX5_below_78 : decode cX5_below 78 = .ok (.aload_n 0, 1) := by decide +kernel
theorem dX5_below_79 : decode cX5_below 79 = .ok (.getfield 22, 3) := by decide +kernel
theorem dX5_below_82 : decode cX5_below 82 = .ok (.iload_n 2, 1) := by decide +kernel
theorem dX5_below_83 : decode cX5_below 83 = .ok (.iload_n 3, 1) := by decide +kernel
theorem dX5_below_84 : decode cX5_below 84 = .ok (.invokevirtual 184, 3) := by decide +kernel
theorem dX5_below_87 : decode cX5_below 87 = .ok (.ireturn, 1) := by decide +kernel
theorem dX5_below_88 : decode cX5_below 88 = .ok (.ldc 57, 2) := by decide +kernel
theorem dX5_below_90 : decode cX5_below 90 = .ok (.ireturn, 1) := by decide +kernel
theorem dX5_stem_0 : decode cX5_stem 0 = .ok (.aload_n 0, 1) := by decide +kernel
theorem dX5_stem_1 : decode cX5_stem 1 = .ok (.getfield 22, 3) := by decide +kernel
theorem dX5_stem_4 : decode cX5_stem 4 = .ok (.aload_n 0, 1) := by decide +kernel
theorem dX5_stem_5 : decode cX5_stem 5 = .ok (.getfield 10, 3) := by decide +kernel
theorem dX5_stem_8 : decode cX5_stem 8 = .ok (.invokevirtual 187, 3) := by decide +kernel
theorem dX5_stem_11 : decode cX5_stem 11 = .ok (.ireturn, 1) := by decide +kernel
theorem dX5_beside_0 : decode cX5_beside 0 = .ok (.aload_n 0, 1) := by decide +kernel
theorem dX5_beside_1 : decode cX5_beside 1 = .ok (.getfield 22, 3) := by decide +kernel
theorem dX5_beside_4 : decode cX5_beside 4 = .ok (.aload_n 0, 1) := by decide +kernel
theorem dX5_beside_5 : decode cX5_beside 5 = .ok (.getfield 10, 3) := by decide +kernel
theorem dX5_beside_8 : decode cX5_beside 8 = .ok (.invokevirtual 106, 3) := by decide +kernel
theorem dX5_beside_11 : decode cX5_beside 11 = .ok (.istore_n 2, 1) := by decide +kernel
theorem dX5_beside_12 : decode cX5_beside 12 = .ok (.iload_n 1, 1) := by decide +kernel
theorem dX5_beside_13 : decode cX5_beside 13 = .ok (.lookupswitch 68 #[(0, 27), (1, 38)], 27) := by decide +kernel
theorem dX5_beside_40 : decode cX5_beside 40 = .ok (.aload_n 0, 1) := by decide +kernel
theorem dX5_beside_41 : decode cX5_beside 41 = .ok (.getfield 22, 3) := by decide +kernel
theorem dX5_beside_44 : decode cX5_beside 44 = .ok (.iload_n 2, 1) := by decide +kernel
theorem dX5_beside_45 : decode cX5_beside 45 = .ok (.iconst 1, 1) := by decide +kernel
theorem dX5_beside_46 : decode cX5_beside 46 = .ok (.isub, 1) := by decide +kernel
theorem dX5_beside_47 : decode cX5_beside 47 = .ok (.invokevirtual 190, 3) := by decide +kernel
theorem dX5_beside_50 : decode cX5_beside 50 = .ok (.ireturn, 1) := by decide +kernel
theorem dX5_beside_51 : decode cX5_beside 51 = .ok (.aload_n 0, 1) := by decide +kernel
theorem dX5_beside_52 : decode cX5_beside 52 = .ok (.getfield 22, 3) := by decide +kernel
theorem dX5_beside_55 : decode cX5_beside 55 = .ok (.aload_n 0, 1) := by decide +kernel
theorem dX5_beside_56 : decode cX5_beside 56 = .ok (.getfield 22, 3) := by decide +kernel
theorem dX5_beside_59 : decode cX5_beside 59 = .ok (.aload_n 0, 1) := by decide +kernel
theorem dX5_beside_60 : decode cX5_beside 60 = .ok (.getfield 10, 3) := by decide +kernel
theorem dX5_beside_63 : decode cX5_beside 63 = .ok (.invokevirtual 110, 3) := by decide +kernel
theorem dX5_beside_66 : decode cX5_beside 66 = .ok (.iconst (-1), 1) := by decide +kernel
theorem dX5_beside_67 : decode cX5_beside 67 = .ok (.if_icmp .ne 7, 3) := by decide +kernel
theorem dX5_beside_70 : decode cX5_beside 70 = .ok (.iload_n 2, 1) := by decide +kernel
theorem dX5_beside_71 : decode cX5_beside 71 = .ok (.goto 6, 3) := by decide +kernel
theorem dX5_beside_74 : decode cX5_beside 74 = .ok (.iload_n 2, 1) := by decide +kernel
theorem dX5_beside_75 : decode cX5_beside 75 = .ok (.iconst 1, 1) := by decide +kernel
theorem dX5_beside_76 : decode cX5_beside 76 = .ok (.iadd, 1) := by decide +kernel
theorem dX5_beside_77 : decode cX5_beside 77 = .ok (.invokevirtual 190, 3) := by decide +kernel
theorem dX5_beside_80 : decode cX5_beside 80 = .ok (.ireturn, 1) := by decide +kernel
theorem dX5_beside_81 : decode cX5_beside 81 = .ok (.ldc 57, 2) := by decide +kernel
theorem dX5_beside_83 : decode cX5_beside 83 = .ok (.ireturn, 1) := by decide +kernel
theorem dX5_closest_0 : decode cX5_closest 0 = .ok (.aload_n 0, 1) := by decide +kernel
theorem dX5_closest_1 : decode cX5_closest 1 = .ok (.getfield 22, 3) := by decide +kernel
theorem dX5_closest_4 : decode cX5_closest 4 = .ok (.aload_n 0, 1) := by decide +kernel
theorem dX5_closest_5 : decode cX5_closest 5 = .ok (.getfield 10, 3) := by decide +kernel
theorem dX5_closest_8 : decode cX5_closest 8 = .ok (.invokevirtual 193, 3) := by decide +kernel
theorem dX5_closest_11 : decode cX5_closest 11 = .ok (.ireturn, 1) := by decide +kernel
theorem dX5_off_0 : decode cX5_off 0 = .ok (.aload_n 0, 1) := by decide +kernel
theorem dX5_off_1 : decode cX5_off 1 = .ok (.getfield 22, 3) := by decide +kernel
theorem dX5_off_4 : decode cX5_off 4 = .ok (.aload_n 0, 1) := by decide +kernel
theorem dX5_off_5 : decode cX5_off 5 = .ok (.getfield 10, 3) := by decide +kernel
theorem dX5_off_8 : decode cX5_off 8 = .ok (.invokevirtual 193, 3) := by decide +kernel
theorem dX5_off_11 : decode cX5_off 11 = .ok (.istore_n 1, 1) := by decide +kernel
theorem dX5_off_12 : decode cX5_off 12 = .ok (.iload_n 1, 1) := by decide +kernel
theorem dX5_off_13 : decode cX5_off 13 = .ok (.iconst (-1), 1) := by decide +kernel
theorem dX5_off_14 : decode cX5_off 14 = .ok (.if_icmp .ne 5, 3) := by decide +kernel
theorem dX5_off_17 : decode cX5_off 17 = .ok (.iconst (-1), 1) := by decide +kernel
theorem dX5_off_18 : decode cX5_off 18 = .ok (.ireturn, 1) := by decide +kernel
theorem dX5_off_19 : decode cX5_off 19 = .ok (.aload_n 0, 1) := by decide +kernel
theorem dX5_off_20 : decode cX5_off 20 = .ok (.getfield 22, 3) := by decide +kernel
theorem dX5_off_23 : decode cX5_off 23 = .ok (.iload_n 1, 1) := by decide +kernel
theorem dX5_off_24 : decode cX5_off 24 = .ok (.aload_n 0, 1) := by decide +kernel
theorem dX5_off_25 : decode cX5_off 25 = .ok (.getfield 10, 3) := by decide +kernel
theorem dX5_off_28 : decode cX5_off 28 = .ok (.invokevirtual 124, 3) := by decide +kernel
theorem dX5_off_31 : decode cX5_off 31 = .ok (.istore_n 2, 1) := by decide +kernel
theorem dX5_off_32 : decode cX5_off 32 = .ok (.iload_n 2, 1) := by decide +kernel
theorem dX5_off_33 : decode cX5_off 33 = .ok (.bipush 72, 2) := by decide +kernel
theorem dX5_off_35 : decode cX5_off 35 = .ok (.if_icmp .ne 7, 3) := by decide +kernel
theorem dX5_off_38 : decode cX5_off 38 = .ok (.iconst (-1), 1) := by decide +kernel
theorem dX5_off_39 : decode cX5_off 39 = .ok (.goto 4, 3) := by decide +kernel
theorem dX5_off_42 : decode cX5_off 42 = .ok (.iload_n 2, 1) := by decide +kernel
theorem dX5_off_43 : decode cX5_off 43 = .ok (.ireturn, 1) := by decide +kernel
theorem dX5_blind_0 : decode cX5_blind 0 = .ok (.aload_n 0, 1) := by decide +kernel
theorem dX5_blind_1 : decode cX5_blind 1 = .ok (.getfield 29, 3) := by decide +kernel
theorem dX5_blind_4 : decode cX5_blind 4 = .ok (.aload_n 0, 1) := by decide +kernel
theorem dX5_blind_5 : decode cX5_blind 5 = .ok (.getfield 10, 3) := by decide +kernel
theorem dX5_blind_8 : decode cX5_blind 8 = .ok (.invokevirtual 196, 3) := by decide +kernel
theorem dX5_blind_11 : decode cX5_blind 11 = .ok (.istore_n 2, 1) := by decide +kernel
theorem dX5_blind_12 : decode cX5_blind 12 = .ok (.iload_n 1, 1) := by decide +kernel
theorem dX5_blind_13 : decode cX5_blind 13 = .ok (.lookupswitch 47 #[(0, 27), (1, 29)], 27) := by decide +kernel
theorem dX5_blind_40 : decode cX5_blind 40 = .ok (.iload_n 2, 1) := by decide +kernel
theorem dX5_blind_41 : decode cX5_blind 41 = .ok (.ireturn, 1) := by decide +kernel
theorem dX5_blind_42 : decode cX5_blind 42 = .ok (.iload_n 2, 1) := by decide +kernel
theorem dX5_blind_43 : decode cX5_blind 43 = .ok (.iconst (-1), 1) := by decide +kernel
theorem dX5_blind_44 : decode cX5_blind 44 = .ok (.if_icmp .ne 7, 3) := by decide +kernel
theorem dX5_blind_47 : decode cX5_blind 47 = .ok (.iconst 0, 1) := by decide +kernel
theorem dX5_blind_48 : decode cX5_blind 48 = .ok (.goto 11, 3) := by decide +kernel
theorem dX5_blind_51 : decode cX5_blind 51 = .ok (.aload_n 0, 1) := by decide +kernel
theorem dX5_blind_52 : decode cX5_blind 52 = .ok (.getfield 29, 3) := by decide +kernel
theorem dX5_blind_55 : decode cX5_blind 55 = .ok (.iload_n 2, 1) := by decide +kernel
theorem dX5_blind_56 : decode cX5_blind 56 = .ok (.invokevirtual 121, 3) := by decide +kernel
theorem dX5_blind_59 : decode cX5_blind 59 = .ok (.ireturn, 1) := by decide +kernel
theorem dX5_blind_60 : decode cX5_blind 60 = .ok (.ldc 57, 2) := by decide +kernel
theorem dX5_blind_62 : decode cX5_blind 62 = .ok (.ireturn, 1) := by decide +kernel
theorem dX5_way_0 : decode cX5_way 0 = .ok (.aload_n 0, 1) := by decide +kernel
theorem dX5_way_1 : decode cX5_way 1 = .ok (.getfield 22, 3) := by decide +kernel
theorem dX5_way_4 : decode cX5_way 4 = .ok (.iload_n 1, 1) := by decide +kernel
theorem dX5_way_5 : decode cX5_way 5 = .ok (.invokevirtual 69, 3) := by decide +kernel
theorem dX5_way_8 : decode cX5_way 8 = .ok (.ifCond .eq 15, 3) := by decide +kernel
theorem dX5_way_11 : decode cX5_way 11 = .ok (.aload_n 0, 1) := by decide +kernel
theorem dX5_way_12 : decode cX5_way 12 = .ok (.getfield 29, 3) := by decide +kernel
theorem dX5_way_15 : decode cX5_way 15 = .ok (.iload_n 1, 1) := by decide +kernel
theorem dX5_way_16 : decode cX5_way 16 = .ok (.iload_n 2, 1) := by decide +kernel
theorem dX5_way_17 : decode cX5_way 17 = .ok (.invokevirtual 199, 3) := by decide +kernel
theorem dX5_way_20 : decode cX5_way 20 = .ok (.goto 5, 3) := by decide +kernel
theorem dX5_way_23 : decode cX5_way 23 = .ok (.ldc 73, 2) := by decide +kernel
theorem dX5_way_25 : decode cX5_way 25 = .ok (.ireturn, 1) := by decide +kernel
theorem dX5_unlike_0 : decode cX5_unlike 0 = .ok (.aload_n 0, 1) := by decide +kernel
theorem dX5_unlike_1 : decode cX5_unlike 1 = .ok (.getfield 22, 3) := by decide +kernel
theorem dX5_unlike_4 : decode cX5_unlike 4 = .ok (.iload_n 1, 1) := by decide +kernel
theorem dX5_unlike_5 : decode cX5_unlike 5 = .ok (.invokevirtual 69, 3) := by decide +kernel
theorem dX5_unlike_8 : decode cX5_unlike 8 = .ok (.ifCond .eq 19, 3) := by decide +kernel
theorem dX5_unlike_11 : decode cX5_unlike 11 = .ok (.aload_n 0, 1) := by decide +kernel
theorem dX5_unlike_12 : decode cX5_unlike 12 = .ok (.getfield 22, 3) := by decide +kernel
theorem dX5_unlike_15 : decode cX5_unlike 15 = .ok (.iload_n 2, 1) := by decide +kernel
theorem dX5_unlike_16 : decode cX5_unlike 16 = .ok (.invokevirtual 69, 3) := by decide +kernel
theorem dX5_unlike_19 : decode cX5_unlike 19 = .ok (.ifCond .eq 8, 3) := by decide +kernel
theorem dX5_unlike_22 : decode cX5_unlike 22 = .ok (.iload_n 1, 1) := by decide +kernel
theorem dX5_unlike_23 : decode cX5_unlike 23 = .ok (.iload_n 2, 1) := by decide +kernel
theorem dX5_unlike_24 : decode cX5_unlike 24 = .ok (.if_icmp .ne 6, 3) := by decide +kernel
theorem dX5_unlike_27 : decode cX5_unlike 27 = .ok (.ldc 73, 2) := by decide +kernel
theorem dX5_unlike_29 : decode cX5_unlike 29 = .ok (.ireturn, 1) := by decide +kernel
theorem dX5_unlike_30 : decode cX5_unlike 30 = .ok (.aload_n 0, 1) := by decide +kernel
theorem dX5_unlike_31 : decode cX5_unlike 31 = .ok (.getfield 22, 3) := by decide +kernel
theorem dX5_unlike_34 : decode cX5_unlike 34 = .ok (.iload_n 1, 1) := by decide +kernel
theorem dX5_unlike_35 : decode cX5_unlike 35 = .ok (.iload_n 2, 1) := by decide +kernel
theorem dX5_unlike_36 : decode cX5_unlike 36 = .ok (.invokevirtual 202, 3) := by decide +kernel
theorem dX5_unlike_39 : decode cX5_unlike 39 = .ok (.ireturn, 1) := by decide +kernel
theorem dX5_bit_0 : decode cX5_bit 0 = .ok (.iload_n 1, 1) := by decide +kernel
theorem dX5_bit_1 : decode cX5_bit 1 = .ok (.ifCond .lt 9, 3) := by decide +kernel
theorem dX5_bit_4 : decode cX5_bit 4 = .ok (.iload_n 1, 1) := by decide +kernel
theorem dX5_bit_5 : decode cX5_bit 5 = .ok (.bipush 72, 2) := by decide +kernel
theorem dX5_bit_7 : decode cX5_bit 7 = .ok (.if_icmp .lt 6, 3) := by decide +kernel
theorem dX5_bit_10 : decode cX5_bit 10 = .ok (.ldc 57, 2) := by decide +kernel
theorem dX5_bit_12 : decode cX5_bit 12 = .ok (.ireturn, 1) := by decide +kernel
theorem dX5_bit_13 : decode cX5_bit 13 = .ok (.aload_n 0, 1) := by decide +kernel
theorem dX5_bit_14 : decode cX5_bit 14 = .ok (.getfield 10, 3) := by decide +kernel
theorem dX5_bit_17 : decode cX5_bit 17 = .ok (.iload_n 1, 1) := by decide +kernel
theorem dX5_bit_18 : decode cX5_bit 18 = .ok (.invokevirtual 205, 3) := by decide +kernel
theorem dX5_bit_21 : decode cX5_bit 21 = .ok (.ireturn, 1) := by decide +kernel
theorem dX5_seed_0 : decode cX5_seed 0 = .ok (.iload_n 1, 1) := by decide +kernel
theorem dX5_seed_1 : decode cX5_seed 1 = .ok (.ifCond .ge 6, 3) := by decide +kernel
theorem dX5_seed_4 : decode cX5_seed 4 = .ok (.ldc 57, 2) := by decide +kernel
theorem dX5_seed_6 : decode cX5_seed 6 = .ok (.ireturn, 1) := by decide +kernel
theorem dX5_seed_7 : decode cX5_seed 7 = .ok (.aload_n 0, 1) := by decide +kernel
theorem dX5_seed_8 : decode cX5_seed 8 = .ok (.getfield 208, 3) := by decide +kernel
theorem dX5_seed_11 : decode cX5_seed 11 = .ok (.istore_n 2, 1) := by decide +kernel
theorem dX5_seed_12 : decode cX5_seed 12 = .ok (.aload_n 0, 1) := by decide +kernel
theorem dX5_seed_13 : decode cX5_seed 13 = .ok (.iload_n 1, 1) := by decide +kernel
theorem dX5_seed_14 : decode cX5_seed 14 = .ok (.putfield 208, 3) := by decide +kernel
theorem dX5_seed_17 : decode cX5_seed 17 = .ok (.iload_n 2, 1) := by decide +kernel
theorem dX5_seed_18 : decode cX5_seed 18 = .ok (.ireturn, 1) := by decide +kernel
theorem dX5_keep_0 : decode cX5_keep 0 = .ok (.iload_n 1, 1) := by decide +kernel
theorem dX5_keep_1 : decode cX5_keep 1 = .ok (.ifCond .lt 8, 3) := by decide +kernel
theorem dX5_keep_4 : decode cX5_keep 4 = .ok (.iload_n 1, 1) := by decide +kernel
theorem dX5_keep_5 : decode cX5_keep 5 = .ok (.iconst 2, 1) := by decide +kernel
theorem dX5_keep_6 : decode cX5_keep 6 = .ok (.if_icmp .lt 6, 3) := by decide +kernel
theorem dX5_keep_9 : decode cX5_keep 9 = .ok (.ldc 73, 2) := by decide +kernel
theorem dX5_keep_11 : decode cX5_keep 11 = .ok (.ireturn, 1) := by decide +kernel
theorem dX5_keep_12 : decode cX5_keep 12 = .ok (.aload_n 0, 1) := by decide +kernel
theorem dX5_keep_13 : decode cX5_keep 13 = .ok (.getfield 45, 3) := by decide +kernel
theorem dX5_keep_16 : decode cX5_keep 16 = .ok (.iload_n 1, 1) := by decide +kernel
theorem dX5_keep_17 : decode cX5_keep 17 = .ok (.aload_n 0, 1) := by decide +kernel
theorem dX5_keep_18 : decode cX5_keep 18 = .ok (.getfield 22, 3) := by decide +kernel
theorem dX5_keep_21 : decode cX5_keep 21 = .ok (.invokevirtual 212, 3) := by decide +kernel
theorem dX5_keep_24 : decode cX5_keep 24 = .ok (.aload_n 0, 1) := by decide +kernel
theorem dX5_keep_25 : decode cX5_keep 25 = .ok (.getfield 53, 3) := by decide +kernel
theorem dX5_keep_28 : decode cX5_keep 28 = .ok (.iload_n 1, 1) := by decide +kernel
theorem dX5_keep_29 : decode cX5_keep 29 = .ok (.aload_n 0, 1) := by decide +kernel
theorem dX5_keep_30 : decode cX5_keep 30 = .ok (.getfield 208, 3) := by decide +kernel
theorem dX5_keep_33 : decode cX5_keep 33 = .ok (.iastore, 1) := by decide +kernel
theorem dX5_keep_34 : decode cX5_keep 34 = .ok (.aload_n 0, 1) := by decide +kernel
theorem dX5_keep_35 : decode cX5_keep 35 = .ok (.getfield 49, 3) := by decide +kernel
theorem dX5_keep_38 : decode cX5_keep 38 = .ok (.iload_n 1, 1) := by decide +kernel
theorem dX5_keep_39 : decode cX5_keep 39 = .ok (.iconst 1, 1) := by decide +kernel
theorem dX5_keep_40 : decode cX5_keep 40 = .ok (.bastore, 1) := by decide +kernel
theorem dX5_keep_41 : decode cX5_keep 41 = .ok (.aload_n 0, 1) := by decide +kernel
theorem dX5_keep_42 : decode cX5_keep 42 = .ok (.getfield 36, 3) := by decide +kernel
theorem dX5_keep_45 : decode cX5_keep 45 = .ok (.invokevirtual 215, 3) := by decide +kernel
theorem dX5_keep_48 : decode cX5_keep 48 = .ok (.iconst 1, 1) := by decide +kernel
theorem dX5_keep_49 : decode cX5_keep 49 = .ok (.ireturn, 1) := by decide +kernel
theorem dX5_goBack_0 : decode cX5_goBack 0 = .ok (.iload_n 1, 1) := by decide +kernel
theorem dX5_goBack_1 : decode cX5_goBack 1 = .ok (.ifCond .lt 8, 3) := by decide +kernel
theorem dX5_goBack_4 : decode cX5_goBack 4 = .ok (.iload_n 1, 1) := by decide +kernel
theorem dX5_goBack_5 : decode cX5_goBack 5 = .ok (.iconst 2, 1) := by decide +kernel
theorem dX5_goBack_6 : decode cX5_goBack 6 = .ok (.if_icmp .lt 6, 3) := by decide +kernel
theorem dX5_goBack_9 : decode cX5_goBack 9 = .ok (.ldc 73, 2) := by decide +kernel
theorem dX5_goBack_11 : decode cX5_goBack 11 = .ok (.ireturn, 1) := by decide +kernel
theorem dX5_goBack_12 : decode cX5_goBack 12 = .ok (.aload_n 0, 1) := by decide +kernel
theorem dX5_goBack_13 : decode cX5_goBack 13 = .ok (.getfield 49, 3) := by decide +kernel
theorem dX5_goBack_16 : decode cX5_goBack 16 = .ok (.iload_n 1, 1) := by decide +kernel
theorem dX5_goBack_17 : decode cX5_goBack 17 = .ok (.baload, 1) := by decide +kernel
theorem dX5_goBack_18 : decode cX5_goBack 18 = .ok (.ifCond .ne 6, 3) := by decide +kernel
theorem dX5_goBack_21 : decode cX5_goBack 21 = .ok (.ldc 165, 2) := by decide +kernel
theorem dX5_goBack_23 : decode cX5_goBack 23 = .ok (.ireturn, 1) := by decide +kernel
theorem dX5_goBack_24 : decode cX5_goBack 24 = .ok (.aload_n 0, 1) := by decide +kernel
theorem dX5_goBack_25 : decode cX5_goBack 25 = .ok (.getfield 45, 3) := by decide +kernel
theorem dX5_goBack_28 : decode cX5_goBack 28 = .ok (.iload_n 1, 1) := by decide +kernel
theorem dX5_goBack_29 : decode cX5_goBack 29 = .ok (.aload_n 0, 1) := by decide +kernel
theorem dX5_goBack_30 : decode cX5_goBack 30 = .ok (.getfield 22, 3) := by decide +kernel
theorem dX5_goBack_33 : decode cX5_goBack 33 = .ok (.invokevirtual 218, 3) := by decide +kernel
theorem dX5_goBack_36 : decode cX5_goBack 36 = .ok (.aload_n 0, 1) := by decide +kernel
theorem dX5_goBack_37 : decode cX5_goBack 37 = .ok (.aload_n 0, 1) := by decide +kernel
theorem dX5_goBack_38 : decode cX5_goBack 38 = .ok (.getfield 53, 3) := by decide +kernel
theorem dX5_goBack_41 : decode cX5_goBack 41 = .ok (.iload_n 1, 1) := by decide +kernel
theorem dX5_goBack_42 : decode cX5_goBack 42 = .ok (.iaload, 1) := by decide +kernel
theorem dX5_goBack_43 : decode cX5_goBack 43 = .ok (.putfield 208, 3) := by decide +kernel
theorem dX5_goBack_46 : decode cX5_goBack 46 = .ok (.aload_n 0, 1) := by decide +kernel
theorem dX5_goBack_47 : decode cX5_goBack 47 = .ok (.getfield 36, 3) := by decide +kernel
theorem dX5_goBack_50 : decode cX5_goBack 50 = .ok (.invokevirtual 215, 3) := by decide +kernel
theorem dX5_goBack_53 : decode cX5_goBack 53 = .ok (.aload_n 0, 1) := by decide +kernel
theorem dX5_goBack_54 : decode cX5_goBack 54 = .ok (.getfield 29, 3) := by decide +kernel
theorem dX5_goBack_57 : decode cX5_goBack 57 = .ok (.aload_n 0, 1) := by decide +kernel
theorem dX5_goBack_58 : decode cX5_goBack 58 = .ok (.getfield 22, 3) := by decide +kernel
theorem dX5_goBack_61 : decode cX5_goBack 61 = .ok (.invokevirtual 162, 3) := by decide +kernel
theorem dX5_goBack_64 : decode cX5_goBack 64 = .ok (.iconst 1, 1) := by decide +kernel
theorem dX5_goBack_65 : decode cX5_goBack 65 = .ok (.ireturn, 1) := by decide +kernel
theorem dX5_deedByDraws_0 : decode cX5_deedByDraws 0 = .ok (.aload_n 0, 1) := by decide +kernel
theorem dX5_deedByDraws_1 : decode cX5_deedByDraws 1 = .ok (.invokevirtual 221, 3) := by decide +kernel
theorem dX5_deedByDraws_4 : decode cX5_deedByDraws 4 = .ok (.aload_n 0, 1) := by decide +kernel
theorem dX5_deedByDraws_5 : decode cX5_deedByDraws 5 = .ok (.invokevirtual 224, 3) := by decide +kernel
theorem dX5_deedByDraws_8 : decode cX5_deedByDraws 8 = .ok (.iconst 4, 1) := by decide +kernel
theorem dX5_deedByDraws_9 : decode cX5_deedByDraws 9 = .ok (.irem, 1) := by decide +kernel
theorem dX5_deedByDraws_10 : decode cX5_deedByDraws 10 = .ok (.ifCond .ne 7, 3) := by decide +kernel
theorem dX5_deedByDraws_13 : decode cX5_deedByDraws 13 = .ok (.iconst 1, 1) := by decide +kernel
theorem dX5_deedByDraws_14 : decode cX5_deedByDraws 14 = .ok (.goto 4, 3) := by decide +kernel
theorem dX5_deedByDraws_17 : decode cX5_deedByDraws 17 = .ok (.iconst 0, 1) := by decide +kernel
theorem dX5_deedByDraws_18 : decode cX5_deedByDraws 18 = .ok (.istore_n 1, 1) := by decide +kernel
theorem dX5_deedByDraws_19 : decode cX5_deedByDraws 19 = .ok (.aload_n 0, 1) := by decide +kernel
theorem dX5_deedByDraws_20 : decode cX5_deedByDraws 20 = .ok (.getfield 22, 3) := by decide +kernel
theorem dX5_deedByDraws_23 : decode cX5_deedByDraws 23 = .ok (.aload_n 0, 1) := by decide +kernel
theorem dX5_deedByDraws_24 : decode cX5_deedByDraws 24 = .ok (.getfield 16, 3) := by decide +kernel
theorem dX5_deedByDraws_27 : decode cX5_deedByDraws 27 = .ok (.invokevirtual 110, 3) := by decide +kernel
theorem dX5_deedByDraws_30 : decode cX5_deedByDraws 30 = .ok (.istore_n 2, 1) := by decide +kernel
theorem dX5_deedByDraws_31 : decode cX5_deedByDraws 31 = .ok (.iload_n 1, 1) := by decide +kernel
theorem dX5_deedByDraws_32 : decode cX5_deedByDraws 32 = .ok (.ifCond .eq 20, 3) := by decide +kernel
theorem dX5_deedByDraws_35 : decode cX5_deedByDraws 35 = .ok (.iload_n 2, 1) := by decide +kernel
theorem dX5_deedByDraws_36 : decode cX5_deedByDraws 36 = .ok (.iconst (-1), 1) := by decide +kernel
theorem dX5_deedByDraws_37 : decode cX5_deedByDraws 37 = .ok (.if_icmp .eq 15, 3) := by decide +kernel
theorem dX5_deedByDraws_40 : decode cX5_deedByDraws 40 = .ok (.aload_n 0, 1) := by decide +kernel
theorem dX5_deedByDraws_41 : decode cX5_deedByDraws 41 = .ok (.getfield 22, 3) := by decide +kernel
theorem dX5_deedByDraws_44 : decode cX5_deedByDraws 44 = .ok (.iload_n 2, 1) := by decide +kernel
theorem dX5_deedByDraws_45 : decode cX5_deedByDraws 45 = .ok (.iconst 1, 1) := by decide +kernel
theorem dX5_deedByDraws_46 : decode cX5_deedByDraws 46 = .ok (.invokevirtual 166, 3) := by decide +kernel
theorem dX5_deedByDraws_49 : decode cX5_deedByDraws 49 = .ok (.goto 22, 3) := by decide +kernel
theorem dX5_deedByDraws_52 : decode cX5_deedByDraws 52 = .ok (.aload_n 0, 1) := by decide +kernel
theorem dX5_deedByDraws_53 : decode cX5_deedByDraws 53 = .ok (.getfield 22, 3) := by decide +kernel
theorem dX5_deedByDraws_56 : decode cX5_deedByDraws 56 = .ok (.aload_n 0, 1) := by decide +kernel
theorem dX5_deedByDraws_57 : decode cX5_deedByDraws 57 = .ok (.getfield 16, 3) := by decide +kernel
theorem dX5_deedByDraws_60 : decode cX5_deedByDraws 60 = .ok (.aload_n 0, 1) := by decide +kernel
theorem dX5_deedByDraws_61 : decode cX5_deedByDraws 61 = .ok (.invokevirtual 224, 3) := by decide +kernel
theorem dX5_deedByDraws_64 : decode cX5_deedByDraws 64 = .ok (.sipush 1000, 3) := by decide +kernel
theorem dX5_deedByDraws_67 : decode cX5_deedByDraws 67 = .ok (.irem, 1) := by decide +kernel
theorem dX5_deedByDraws_68 : decode cX5_deedByDraws 68 = .ok (.invokevirtual 158, 3) := by decide +kernel
theorem dX5_deedByDraws_71 : decode cX5_deedByDraws 71 = .ok (.return_, 1) := by decide +kernel
theorem dX5_drawWord_0 : decode cX5_drawWord 0 = .ok (.aload_n 0, 1) := by decide +kernel
theorem dX5_drawWord_1 : decode cX5_drawWord 1 = .ok (.invokevirtual 224, 3) := by decide +kernel
theorem dX5_drawWord_4 : decode cX5_drawWord 4 = .ok (.iconst 4, 1) := by decide +kernel
theorem dX5_drawWord_5 : decode cX5_drawWord 5 = .ok (.irem, 1) := by decide +kernel
theorem dX5_drawWord_6 : decode cX5_drawWord 6 = .ok (.istore_n 1, 1) := by decide +kernel
theorem dX5_drawWord_7 : decode cX5_drawWord 7 = .ok (.aload_n 0, 1) := by decide +kernel
theorem dX5_drawWord_8 : decode cX5_drawWord 8 = .ok (.getfield 16, 3) := by decide +kernel
theorem dX5_drawWord_11 : decode cX5_drawWord 11 = .ok (.invokevirtual 66, 3) := by decide +kernel
theorem dX5_drawWord_14 : decode cX5_drawWord 14 = .ok (.iconst 0, 1) := by decide +kernel
theorem dX5_drawWord_15 : decode cX5_drawWord 15 = .ok (.istore_n 2, 1) := by decide +kernel
theorem dX5_drawWord_16 : decode cX5_drawWord 16 = .ok (.iload_n 2, 1) := by decide +kernel
theorem dX5_drawWord_17 : decode cX5_drawWord 17 = .ok (.iload_n 1, 1) := by decide +kernel
theorem dX5_drawWord_18 : decode cX5_drawWord 18 = .ok (.if_icmp .ge 25, 3) := by decide +kernel
theorem dX5_drawWord_21 : decode cX5_drawWord 21 = .ok (.aload_n 0, 1) := by decide +kernel
theorem dX5_drawWord_22 : decode cX5_drawWord 22 = .ok (.getfield 16, 3) := by decide +kernel
theorem dX5_drawWord_25 : decode cX5_drawWord 25 = .ok (.bipush 97, 2) := by decide +kernel
theorem dX5_drawWord_27 : decode cX5_drawWord 27 = .ok (.aload_n 0, 1) := by decide +kernel
theorem dX5_drawWord_28 : decode cX5_drawWord 28 = .ok (.invokevirtual 224, 3) := by decide +kernel
theorem dX5_drawWord_31 : decode cX5_drawWord 31 = .ok (.iconst 3, 1) := by decide +kernel
theorem dX5_drawWord_32 : decode cX5_drawWord 32 = .ok (.irem, 1) := by decide +kernel
theorem dX5_drawWord_33 : decode cX5_drawWord 33 = .ok (.iadd, 1) := by decide +kernel
theorem dX5_drawWord_34 : decode cX5_drawWord 34 = .ok (.invokevirtual 63, 3) := by decide +kernel
theorem dX5_drawWord_37 : decode cX5_drawWord 37 = .ok (.iinc 2 1, 3) := by decide +kernel
theorem dX5_drawWord_40 : decode cX5_drawWord 40 = .ok (.goto (-24), 3) := by decide +kernel
theorem dX5_drawWord_43 : decode cX5_drawWord 43 = .ok (.return_, 1) := by decide +kernel
theorem dX5_nextDraw_0 : decode cX5_nextDraw 0 = .ok (.aload_n 0, 1) := by decide +kernel
theorem dX5_nextDraw_1 : decode cX5_nextDraw 1 = .ok (.aload_n 0, 1) := by decide +kernel
theorem dX5_nextDraw_2 : decode cX5_nextDraw 2 = .ok (.getfield 208, 3) := by decide +kernel
theorem dX5_nextDraw_5 : decode cX5_nextDraw 5 = .ok (.i2l, 1) := by decide +kernel
theorem dX5_nextDraw_6 : decode cX5_nextDraw 6 = .ok (.ldc2_w 227, 3) := by decide +kernel
theorem dX5_nextDraw_9 : decode cX5_nextDraw 9 = .ok (.lmul, 1) := by decide +kernel
theorem dX5_nextDraw_10 : decode cX5_nextDraw 10 = .ok (.ldc2_w 229, 3) := by decide +kernel
theorem dX5_nextDraw_13 : decode cX5_nextDraw 13 = .ok (.ladd, 1) := by decide +kernel
theorem dX5_nextDraw_14 : decode cX5_nextDraw 14 = .ok (.ldc2_w 231, 3) := by decide +kernel
theorem dX5_nextDraw_17 : decode cX5_nextDraw 17 = .ok (.land, 1) := by decide +kernel
theorem dX5_nextDraw_18 : decode cX5_nextDraw 18 = .ok (.l2i, 1) := by decide +kernel
theorem dX5_nextDraw_19 : decode cX5_nextDraw 19 = .ok (.putfield 208, 3) := by decide +kernel
theorem dX5_nextDraw_22 : decode cX5_nextDraw 22 = .ok (.aload_n 0, 1) := by decide +kernel
theorem dX5_nextDraw_23 : decode cX5_nextDraw 23 = .ok (.getfield 208, 3) := by decide +kernel
theorem dX5_nextDraw_26 : decode cX5_nextDraw 26 = .ok (.ldc 233, 2) := by decide +kernel
theorem dX5_nextDraw_28 : decode cX5_nextDraw 28 = .ok (.idiv, 1) := by decide +kernel
theorem dX5_nextDraw_29 : decode cX5_nextDraw 29 = .ok (.ireturn, 1) := by decide +kernel
