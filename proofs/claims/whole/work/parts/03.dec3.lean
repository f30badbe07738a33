theorem dX8_rank_48 : decode cX8_rank 48 = .ok (.bipush (-2), 2) := by decide +kernel
theorem dX8_rank_50 : decode cX8_rank 50 = .ok (.if_icmp .ne 10, 3) := by decide +kernel
theorem dX8_rank_53 : decode cX8_rank 53 = .ok (.aload_n 0, 1) := by decide +kernel
theorem dX8_rank_54 : decode cX8_rank 54 = .ok (.getfield 213, 3) := by decide +kernel
theorem dX8_rank_57 : decode cX8_rank 57 = .ok (.goto 22, 3) := by decide +kernel
theorem dX8_rank_60 : decode cX8_rank 60 = .ok (.iload_n 3, 1) := by decide +kernel
theorem dX8_rank_61 : decode cX8_rank 61 = .ok (.aload_n 0, 1) := by decide +kernel
theorem dX8_rank_62 : decode cX8_rank 62 = .ok (.getfield 213, 3) := by decide +kernel
theorem dX8_rank_65 : decode cX8_rank 65 = .ok (.if_icmp .ge 12, 3) := by decide +kernel
theorem dX8_rank_68 : decode cX8_rank 68 = .ok (.aload_n 0, 1) := by decide +kernel
theorem dX8_rank_69 : decode cX8_rank 69 = .ok (.getfield 84, 3) := by decide +kernel
theorem dX8_rank_72 : decode cX8_rank 72 = .ok (.iload_n 3, 1) := by decide +kernel
theorem dX8_rank_73 : decode cX8_rank 73 = .ok (.iaload, 1) := by decide +kernel
theorem dX8_rank_74 : decode cX8_rank 74 = .ok (.goto 5, 3) := by decide +kernel
theorem dX8_rank_77 : decode cX8_rank 77 = .ok (.bipush (-9), 2) := by decide +kernel
theorem dX8_rank_79 : decode cX8_rank 79 = .ok (.ireturn, 1) := by decide +kernel
theorem dX8_standing_0 : decode cX8_standing 0 = .ok (.aload_n 0, 1) := by decide +kernel
theorem dX8_standing_1 : decode cX8_standing 1 = .ok (.aload_n 1, 1) := by decide +kernel
theorem dX8_standing_2 : decode cX8_standing 2 = .ok (.invokevirtual 203, 3) := by decide +kernel
theorem dX8_standing_5 : decode cX8_standing 5 = .ok (.aload_n 0, 1) := by decide +kernel
theorem dX8_standing_6 : decode cX8_standing 6 = .ok (.aload_n 1, 1) := by decide +kernel
theorem dX8_standing_7 : decode cX8_standing 7 = .ok (.invokevirtual 239, 3) := by decide +kernel
theorem dX8_standing_10 : decode cX8_standing 10 = .ok (.lconst 0, 1) := by decide +kernel
theorem dX8_standing_11 : decode cX8_standing 11 = .ok (.lstore 4, 2) := by decide +kernel
theorem dX8_standing_13 : decode cX8_standing 13 = .ok (.iconst 0, 1) := by decide +kernel
theorem dX8_standing_14 : decode cX8_standing 14 = .ok (.istore 6, 2) := by decide +kernel
theorem dX8_standing_16 : decode cX8_standing 16 = .ok (.iload 6, 2) := by decide +kernel
theorem dX8_standing_18 : decode cX8_standing 18 = .ok (.aload_n 1, 1) := by decide +kernel
theorem dX8_standing_19 : decode cX8_standing 19 = .ok (.iconst 0, 1) := by decide +kernel
theorem dX8_standing_20 : decode cX8_standing 20 = .ok (.iaload, 1) := by decide +kernel
theorem dX8_standing_21 : decode cX8_standing 21 = .ok (.if_icmp .ge 122, 3) := by decide +kernel
theorem dX8_standing_24 : decode cX8_standing 24 = .ok (.iconst 0, 1) := by decide +kernel
theorem dX8_standing_25 : decode cX8_standing 25 = .ok (.istore 7, 2) := by decide +kernel
theorem dX8_standing_27 : decode cX8_standing 27 = .ok (.iload 7, 2) := by decide +kernel
theorem dX8_standing_29 : decode cX8_standing 29 = .ok (.bipush 9, 2) := by decide +kernel
theorem dX8_standing_31 : decode cX8_standing 31 = .ok (.aload_n 0, 1) := by decide +kernel
theorem dX8_standing_32 : decode cX8_standing 32 = .ok (.getfield 98, 3) := by decide +kernel
theorem dX8_standing_35 : decode cX8_standing 35 = .ok (.imul, 1) := by decide +kernel
theorem dX8_standing_36 : decode cX8_standing 36 = .ok (.if_icmp .ge 101, 3) := by decide +kernel
theorem dX8_standing_39 : decode cX8_standing 39 = .ok (.iload 7, 2) := by decide +kernel
theorem dX8_standing_41 : decode cX8_standing 41 = .ok (.aload_n 0, 1) := by decide +kernel
theorem dX8_standing_42 : decode cX8_standing 42 = .ok (.getfield 98, 3) := by decide +kernel
theorem dX8_standing_45 : decode cX8_standing 45 = .ok (.idiv, 1) := by decide +kernel
theorem dX8_standing_46 : decode cX8_standing 46 = .ok (.istore 8, 2) := by decide +kernel
theorem dX8_standing_48 : decode cX8_standing 48 = .ok (.iload 7, 2) := by decide +kernel
theorem dX8_standing_50 : decode cX8_standing 50 = .ok (.aload_n 0, 1) := by decide +kernel
theorem dX8_standing_51 : decode cX8_standing 51 = .ok (.getfield 98, 3) := by decide +kernel
theorem dX8_standing_54 : decode cX8_standing 54 = .ok (.irem, 1) := by decide +kernel
theorem dX8_standing_55 : decode cX8_standing 55 = .ok (.istore 9, 2) := by decide +kernel
theorem dX8_standing_57 : decode cX8_standing 57 = .ok (.aload_n 0, 1) := by decide +kernel
theorem dX8_standing_58 : decode cX8_standing 58 = .ok (.getfield 81, 3) := by decide +kernel
theorem dX8_standing_61 : decode cX8_standing 61 = .ok (.bipush 9, 2) := by decide +kernel
theorem dX8_standing_63 : decode cX8_standing 63 = .ok (.iload 6, 2) := by decide +kernel
theorem dX8_standing_65 : decode cX8_standing 65 = .ok (.imul, 1) := by decide +kernel
theorem dX8_standing_66 : decode cX8_standing 66 = .ok (.iload 8, 2) := by decide +kernel
theorem dX8_standing_68 : decode cX8_standing 68 = .ok (.iadd, 1) := by decide +kernel
theorem dX8_standing_69 : decode cX8_standing 69 = .ok (.laload, 1) := by decide +kernel
theorem dX8_standing_70 : decode cX8_standing 70 = .ok (.lconst 0, 1) := by decide +kernel
theorem dX8_standing_71 : decode cX8_standing 71 = .ok (.lcmp, 1) := by decide +kernel
theorem dX8_standing_72 : decode cX8_standing 72 = .ok (.ifCond .le 59, 3) := by decide +kernel
theorem dX8_standing_75 : decode cX8_standing 75 = .ok (.aload_n 0, 1) := by decide +kernel
theorem dX8_standing_76 : decode cX8_standing 76 = .ok (.aload_n 1, 1) := by decide +kernel
theorem dX8_standing_77 : decode cX8_standing 77 = .ok (.iload 9, 2) := by decide +kernel
theorem dX8_standing_79 : decode cX8_standing 79 = .ok (.iload 6, 2) := by decide +kernel
theorem dX8_standing_81 : decode cX8_standing 81 = .ok (.iload 8, 2) := by decide +kernel
theorem dX8_standing_83 : decode cX8_standing 83 = .ok (.invokevirtual 199, 3) := by decide +kernel
theorem dX8_standing_86 : decode cX8_standing 86 = .ok (.ifCond .eq 45, 3) := by decide +kernel
theorem dX8_standing_89 : decode cX8_standing 89 = .ok (.aload_n 0, 1) := by decide +kernel
theorem dX8_standing_90 : decode cX8_standing 90 = .ok (.aload_n 1, 1) := by decide +kernel
theorem dX8_standing_91 : decode cX8_standing 91 = .ok (.iload 9, 2) := by decide +kernel
theorem dX8_standing_93 : decode cX8_standing 93 = .ok (.iload 6, 2) := by decide +kernel
theorem dX8_standing_95 : decode cX8_standing 95 = .ok (.iload_n 2, 1) := by decide +kernel
theorem dX8_standing_96 : decode cX8_standing 96 = .ok (.iload_n 3, 1) := by decide +kernel
theorem dX8_standing_97 : decode cX8_standing 97 = .ok (.invokevirtual 242, 3) := by decide +kernel
theorem dX8_standing_100 : decode cX8_standing 100 = .ok (.ifCond .eq 31, 3) := by decide +kernel
theorem dX8_standing_103 : decode cX8_standing 103 = .ok (.lload 4, 2) := by decide +kernel
theorem dX8_standing_105 : decode cX8_standing 105 = .ok (.aload_n 0, 1) := by decide +kernel
theorem dX8_standing_106 : decode cX8_standing 106 = .ok (.getfield 81, 3) := by decide +kernel
theorem dX8_standing_109 : decode cX8_standing 109 = .ok (.bipush 9, 2) := by decide +kernel
theorem dX8_standing_111 : decode cX8_standing 111 = .ok (.iload 6, 2) := by decide +kernel
theorem dX8_standing_113 : decode cX8_standing 113 = .ok (.imul, 1) := by decide +kernel
theorem dX8_standing_114 : decode cX8_standing 114 = .ok (.iload 8, 2) := by decide +kernel
theorem dX8_standing_116 : decode cX8_standing 116 = .ok (.iadd, 1) := by decide +kernel
theorem dX8_standing_117 : decode cX8_standing 117 = .ok (.laload, 1) := by decide +kernel
theorem dX8_standing_118 : decode cX8_standing 118 = .ok (.aload_n 0, 1) := by decide +kernel
theorem dX8_standing_119 : decode cX8_standing 119 = .ok (.aload_n 1, 1) := by decide +kernel
theorem dX8_standing_120 : decode cX8_standing 120 = .ok (.iload 9, 2) := by decide +kernel
theorem dX8_standing_122 : decode cX8_standing 122 = .ok (.iload 6, 2) := by decide +kernel
theorem dX8_standing_124 : decode cX8_standing 124 = .ok (.invokevirtual 246, 3) := by decide +kernel
theorem dX8_standing_127 : decode cX8_standing 127 = .ok (.lmul, 1) := by decide +kernel
theorem dX8_standing_128 : decode cX8_standing 128 = .ok (.ladd, 1) := by decide +kernel
theorem dX8_standing_129 : decode cX8_standing 129 = .ok (.lstore 4, 2) := by decide +kernel
theorem dX8_standing_131 : decode cX8_standing 131 = .ok (.iinc 7 1, 3) := by decide +kernel
theorem dX8_standing_134 : decode cX8_standing 134 = .ok (.goto (-107), 3) := by decide +kernel
theorem dX8_standing_137 : decode cX8_standing 137 = .ok (.iinc 6 1, 3) := by decide +kernel
theorem dX8_standing_140 : decode cX8_standing 140 = .ok (.goto (-124), 3) := by decide +kernel
theorem dX8_standing_143 : decode cX8_standing 143 = .ok (.lload 4, 2) := by decide +kernel
theorem dX8_standing_145 : decode cX8_standing 145 = .ok (.lreturn, 1) := by decide +kernel
theorem dX8_hasAt_0 : decode cX8_hasAt 0 = .ok (.iconst 0, 1) := by decide +kernel
theorem dX8_hasAt_1 : decode cX8_hasAt 1 = .ok (.istore 6, 2) := by decide +kernel
theorem dX8_hasAt_3 : decode cX8_hasAt 3 = .ok (.iload_n 3, 1) := by decide +kernel
theorem dX8_hasAt_4 : decode cX8_hasAt 4 = .ok (.istore 7, 2) := by decide +kernel
theorem dX8_hasAt_6 : decode cX8_hasAt 6 = .ok (.iconst 0, 1) := by decide +kernel
theorem dX8_hasAt_7 : decode cX8_hasAt 7 = .ok (.istore 8, 2) := by decide +kernel
theorem dX8_hasAt_9 : decode cX8_hasAt 9 = .ok (.iload 8, 2) := by decide +kernel
theorem dX8_hasAt_11 : decode cX8_hasAt 11 = .ok (.aload_n 0, 1) := by decide +kernel
theorem dX8_hasAt_12 : decode cX8_hasAt 12 = .ok (.getfield 16, 3) := by decide +kernel
theorem dX8_hasAt_15 : decode cX8_hasAt 15 = .ok (.iload_n 2, 1) := by decide +kernel
theorem dX8_hasAt_16 : decode cX8_hasAt 16 = .ok (.iaload, 1) := by decide +kernel
theorem dX8_hasAt_17 : decode cX8_hasAt 17 = .ok (.if_icmp .ge 65, 3) := by decide +kernel
theorem dX8_hasAt_20 : decode cX8_hasAt 20 = .ok (.iload 6, 2) := by decide +kernel
theorem dX8_hasAt_22 : decode cX8_hasAt 22 = .ok (.ifCond .ne 26, 3) := by decide +kernel
theorem dX8_hasAt_25 : decode cX8_hasAt 25 = .ok (.iload 7, 2) := by decide +kernel
theorem dX8_hasAt_27 : decode cX8_hasAt 27 = .ok (.iload 4, 2) := by decide +kernel
theorem dX8_hasAt_29 : decode cX8_hasAt 29 = .ok (.if_icmp .ne 23, 3) := by decide +kernel
theorem dX8_hasAt_32 : decode cX8_hasAt 32 = .ok (.aload_n 0, 1) := by decide +kernel
theorem dX8_hasAt_33 : decode cX8_hasAt 33 = .ok (.getfield 19, 3) := by decide +kernel
theorem dX8_hasAt_36 : decode cX8_hasAt 36 = .ok (.iconst 5, 1) := by decide +kernel
theorem dX8_hasAt_37 : decode cX8_hasAt 37 = .ok (.iload_n 2, 1) := by decide +kernel
theorem dX8_hasAt_38 : decode cX8_hasAt 38 = .ok (.imul, 1) := by decide +kernel
theorem dX8_hasAt_39 : decode cX8_hasAt 39 = .ok (.iload 8, 2) := by decide +kernel
theorem dX8_hasAt_41 : decode cX8_hasAt 41 = .ok (.iadd, 1) := by decide +kernel
theorem dX8_hasAt_42 : decode cX8_hasAt 42 = .ok (.iaload, 1) := by decide +kernel
theorem dX8_hasAt_43 : decode cX8_hasAt 43 = .ok (.iload 5, 2) := by decide +kernel
theorem dX8_hasAt_45 : decode cX8_hasAt 45 = .ok (.if_icmp .ne 7, 3) := by decide +kernel
theorem dX8_hasAt_48 : decode cX8_hasAt 48 = .ok (.iconst 1, 1) := by decide +kernel
theorem dX8_hasAt_49 : decode cX8_hasAt 49 = .ok (.goto 4, 3) := by decide +kernel
theorem dX8_hasAt_52 : decode cX8_hasAt 52 = .ok (.iconst 0, 1) := by decide +kernel
theorem dX8_hasAt_53 : decode cX8_hasAt 53 = .ok (.istore 6, 2) := by decide +kernel
theorem dX8_hasAt_55 : decode cX8_hasAt 55 = .ok (.iload 7, 2) := by decide +kernel
theorem dX8_hasAt_57 : decode cX8_hasAt 57 = .ok (.aload_n 0, 1) := by decide +kernel
theorem dX8_hasAt_58 : decode cX8_hasAt 58 = .ok (.getfield 13, 3) := by decide +kernel
theorem dX8_hasAt_61 : decode cX8_hasAt 61 = .ok (.aload_n 0, 1) := by decide +kernel
theorem dX8_hasAt_62 : decode cX8_hasAt 62 = .ok (.getfield 19, 3) := by decide +kernel
theorem dX8_hasAt_65 : decode cX8_hasAt 65 = .ok (.iconst 5, 1) := by decide +kernel
theorem dX8_hasAt_66 : decode cX8_hasAt 66 = .ok (.iload_n 2, 1) := by decide +kernel
theorem dX8_hasAt_67 : decode cX8_hasAt 67 = .ok (.imul, 1) := by decide +kernel
theorem dX8_hasAt_68 : decode cX8_hasAt 68 = .ok (.iload 8, 2) := by decide +kernel
theorem dX8_hasAt_70 : decode cX8_hasAt 70 = .ok (.iadd, 1) := by decide +kernel
theorem dX8_hasAt_71 : decode cX8_hasAt 71 = .ok (.iaload, 1) := by decide +kernel
theorem dX8_hasAt_72 : decode cX8_hasAt 72 = .ok (.iaload, 1) := by decide +kernel
theorem dX8_hasAt_73 : decode cX8_hasAt 73 = .ok (.iadd, 1) := by decide +kernel
theorem dX8_hasAt_74 : decode cX8_hasAt 74 = .ok (.istore 7, 2) := by decide +kernel
theorem dX8_hasAt_76 : decode cX8_hasAt 76 = .ok (.iinc 8 1, 3) := by decide +kernel
theorem dX8_hasAt_79 : decode cX8_hasAt 79 = .ok (.goto (-70), 3) := by decide +kernel
theorem dX8_hasAt_82 : decode cX8_hasAt 82 = .ok (.iload 6, 2) := by decide +kernel
theorem dX8_hasAt_84 : decode cX8_hasAt 84 = .ok (.ifCond .ne 25, 3) := by decide +kernel
theorem dX8_hasAt_87 : decode cX8_hasAt 87 = .ok (.iload 5, 2) := by decide +kernel
theorem dX8_hasAt_89 : decode cX8_hasAt 89 = .ok (.bipush 6, 2) := by decide +kernel
theorem dX8_hasAt_91 : decode cX8_hasAt 91 = .ok (.if_icmp .ne 22, 3) := by decide +kernel
theorem dX8_hasAt_94 : decode cX8_hasAt 94 = .ok (.iload 7, 2) := by decide +kernel
theorem dX8_hasAt_96 : decode cX8_hasAt 96 = .ok (.iload 4, 2) := by decide +kernel
theorem dX8_hasAt_98 : decode cX8_hasAt 98 = .ok (.if_icmp .ne 15, 3) := by decide +kernel
theorem dX8_hasAt_101 : decode cX8_hasAt 101 = .ok (.iload 7, 2) := by decide +kernel
theorem dX8_hasAt_103 : decode cX8_hasAt 103 = .ok (.aload_n 1, 1) := by decide +kernel
theorem dX8_hasAt_104 : decode cX8_hasAt 104 = .ok (.iconst 0, 1) := by decide +kernel
theorem dX8_hasAt_105 : decode cX8_hasAt 105 = .ok (.iaload, 1) := by decide +kernel
theorem dX8_hasAt_106 : decode cX8_hasAt 106 = .ok (.if_icmp .ge 7, 3) := by decide +kernel
theorem dX8_hasAt_109 : decode cX8_hasAt 109 = .ok (.iconst 1, 1) := by decide +kernel
theorem dX8_hasAt_110 : decode cX8_hasAt 110 = .ok (.goto 4, 3) := by decide +kernel
theorem dX8_hasAt_113 : decode cX8_hasAt 113 = .ok (.iconst 0, 1) := by decide +kernel
theorem dX8_hasAt_114 : decode cX8_hasAt 114 = .ok (.ireturn, 1) := by decide +kernel
theorem dX8_stands_0 : decode cX8_stands 0 = .ok (.aload_n 0, 1) := by decide +kernel
theorem dX8_stands_1 : decode cX8_stands 1 = .ok (.iconst 0, 1) := by decide +kernel
theorem dX8_stands_2 : decode cX8_stands 2 = .ok (.putfield 94, 3) := by decide +kernel
theorem dX8_stands_5 : decode cX8_stands 5 = .ok (.aload_n 0, 1) := by decide +kernel
theorem dX8_stands_6 : decode cX8_stands 6 = .ok (.iload_n 1, 1) := by decide +kernel
theorem dX8_stands_7 : decode cX8_stands 7 = .ok (.invokevirtual 155, 3) := by decide +kernel
theorem dX8_stands_10 : decode cX8_stands 10 = .ok (.ifCond .eq 7, 3) := by decide +kernel
theorem dX8_stands_13 : decode cX8_stands 13 = .ok (.ldc2_w 250, 3) := by decide +kernel
theorem dX8_stands_16 : decode cX8_stands 16 = .ok (.lreturn, 1) := by decide +kernel
theorem dX8_stands_17 : decode cX8_stands 17 = .ok (.iload_n 2, 1) := by decide +kernel
theorem dX8_stands_18 : decode cX8_stands 18 = .ok (.i2l, 1) := by decide +kernel
theorem dX8_stands_19 : decode cX8_stands 19 = .ok (.lconst 0, 1) := by decide +kernel
theorem dX8_stands_20 : decode cX8_stands 20 = .ok (.ldc2_w 174, 3) := by decide +kernel
theorem dX8_stands_23 : decode cX8_stands 23 = .ok (.invokestatic 101, 3) := by decide +kernel
theorem dX8_stands_26 : decode cX8_stands 26 = .ok (.ifCond .eq 16, 3) := by decide +kernel
theorem dX8_stands_29 : decode cX8_stands 29 = .ok (.aload_n 0, 1) := by decide +kernel
theorem dX8_stands_30 : decode cX8_stands 30 = .ok (.aload_n 0, 1) := by decide +kernel
theorem dX8_stands_31 : decode cX8_stands 31 = .ok (.getfield 50, 3) := by decide +kernel
theorem dX8_stands_34 : decode cX8_stands 34 = .ok (.iload_n 1, 1) := by decide +kernel
theorem dX8_stands_35 : decode cX8_stands 35 = .ok (.iload_n 2, 1) := by decide +kernel
theorem dX8_stands_36 : decode cX8_stands 36 = .ok (.invokevirtual 252, 3) := by decide +kernel
theorem dX8_stands_39 : decode cX8_stands 39 = .ok (.goto 6, 3) := by decide +kernel
theorem dX8_stands_42 : decode cX8_stands 42 = .ok (.ldc2_w 255, 3) := by decide +kernel
theorem dX8_stands_45 : decode cX8_stands 45 = .ok (.lreturn, 1) := by decide +kernel
theorem dX8_begins_0 : decode cX8_begins 0 = .ok (.aload_n 0, 1) := by decide +kernel
theorem dX8_begins_1 : decode cX8_begins 1 = .ok (.iconst 0, 1) := by decide +kernel
theorem dX8_begins_2 : decode cX8_begins 2 = .ok (.putfield 94, 3) := by decide +kernel
theorem dX8_begins_5 : decode cX8_begins 5 = .ok (.aload_n 0, 1) := by decide +kernel
theorem dX8_begins_6 : decode cX8_begins 6 = .ok (.iload_n 1, 1) := by decide +kernel
theorem dX8_begins_7 : decode cX8_begins 7 = .ok (.invokevirtual 148, 3) := by decide +kernel
theorem dX8_begins_10 : decode cX8_begins 10 = .ok (.ifCond .ne 11, 3) := by decide +kernel
theorem dX8_begins_13 : decode cX8_begins 13 = .ok (.aload_n 0, 1) := by decide +kernel
theorem dX8_begins_14 : decode cX8_begins 14 = .ok (.iload_n 2, 1) := by decide +kernel
theorem dX8_begins_15 : decode cX8_begins 15 = .ok (.invokevirtual 155, 3) := by decide +kernel
theorem dX8_begins_18 : decode cX8_begins 18 = .ok (.ifCond .eq 7, 3) := by decide +kernel
theorem dX8_begins_21 : decode cX8_begins 21 = .ok (.ldc2_w 250, 3) := by decide +kernel
theorem dX8_begins_24 : decode cX8_begins 24 = .ok (.lreturn, 1) := by decide +kernel
theorem dX8_begins_25 : decode cX8_begins 25 = .ok (.aload_n 0, 1) := by decide +kernel
theorem dX8_begins_26 : decode cX8_begins 26 = .ok (.aload_n 0, 1) := by decide +kernel
theorem dX8_begins_27 : decode cX8_begins 27 = .ok (.getfield 50, 3) := by decide +kernel
theorem dX8_begins_30 : decode cX8_begins 30 = .ok (.invokevirtual 203, 3) := by decide +kernel
theorem dX8_begins_33 : decode cX8_begins 33 = .ok (.aload_n 0, 1) := by decide +kernel
theorem dX8_begins_34 : decode cX8_begins 34 = .ok (.aload_n 0, 1) := by decide +kernel
theorem dX8_begins_35 : decode cX8_begins 35 = .ok (.getfield 50, 3) := by decide +kernel
theorem dX8_begins_38 : decode cX8_begins 38 = .ok (.invokevirtual 239, 3) := by decide +kernel
theorem dX8_begins_41 : decode cX8_begins 41 = .ok (.lconst 0, 1) := by decide +kernel
theorem dX8_begins_42 : decode cX8_begins 42 = .ok (.lstore_n 3, 1) := by decide +kernel
theorem dX8_begins_43 : decode cX8_begins 43 = .ok (.iconst 0, 1) := by decide +kernel
theorem dX8_begins_44 : decode cX8_begins 44 = .ok (.istore 5, 2) := by decide +kernel
theorem dX8_begins_46 : decode cX8_begins 46 = .ok (.iload 5, 2) := by decide +kernel
theorem dX8_begins_48 : decode cX8_begins 48 = .ok (.bipush 8, 2) := by decide +kernel
theorem dX8_begins_50 : decode cX8_begins 50 = .ok (.if_icmp .gt 65, 3) := by decide +kernel
theorem dX8_begins_53 : decode cX8_begins 53 = .ok (.aload_n 0, 1) := by decide +kernel
theorem dX8_begins_54 : decode cX8_begins 54 = .ok (.getfield 81, 3) := by decide +kernel
theorem dX8_begins_57 : decode cX8_begins 57 = .ok (.bipush 9, 2) := by decide +kernel
theorem dX8_begins_59 : decode cX8_begins 59 = .ok (.iload_n 2, 1) := by decide +kernel
theorem dX8_begins_60 : decode cX8_begins 60 = .ok (.imul, 1) := by decide +kernel
theorem dX8_begins_61 : decode cX8_begins 61 = .ok (.iload 5, 2) := by decide +kernel
theorem dX8_begins_63 : decode cX8_begins 63 = .ok (.iadd, 1) := by decide +kernel
theorem dX8_begins_64 : decode cX8_begins 64 = .ok (.laload, 1) := by decide +kernel
theorem dX8_begins_65 : decode cX8_begins 65 = .ok (.lstore 6, 2) := by decide +kernel
theorem dX8_begins_67 : decode cX8_begins 67 = .ok (.lload_n 3, 1) := by decide +kernel
theorem dX8_begins_68 : decode cX8_begins 68 = .ok (.lload 6, 2) := by decide +kernel
theorem dX8_begins_70 : decode cX8_begins 70 = .ok (.lconst 0, 1) := by decide +kernel
theorem dX8_begins_71 : decode cX8_begins 71 = .ok (.lcmp, 1) := by decide +kernel
theorem dX8_begins_72 : decode cX8_begins 72 = .ok (.ifCond .le 34, 3) := by decide +kernel
theorem dX8_begins_75 : decode cX8_begins 75 = .ok (.aload_n 0, 1) := by decide +kernel
theorem dX8_begins_76 : decode cX8_begins 76 = .ok (.aload_n 0, 1) := by decide +kernel
theorem dX8_begins_77 : decode cX8_begins 77 = .ok (.getfield 50, 3) := by decide +kernel
theorem dX8_begins_80 : decode cX8_begins 80 = .ok (.iload_n 1, 1) := by decide +kernel
theorem dX8_begins_81 : decode cX8_begins 81 = .ok (.iload_n 2, 1) := by decide +kernel
theorem dX8_begins_82 : decode cX8_begins 82 = .ok (.iload 5, 2) := by decide +kernel
theorem dX8_begins_84 : decode cX8_begins 84 = .ok (.invokevirtual 199, 3) := by decide +kernel
theorem dX8_begins_87 : decode cX8_begins 87 = .ok (.ifCond .eq 19, 3) := by decide +kernel
theorem dX8_begins_90 : decode cX8_begins 90 = .ok (.lload 6, 2) := by decide +kernel
theorem dX8_begins_92 : decode cX8_begins 92 = .ok (.aload_n 0, 1) := by decide +kernel
theorem dX8_begins_93 : decode cX8_begins 93 = .ok (.aload_n 0, 1) := by decide +kernel
theorem dX8_begins_94 : decode cX8_begins 94 = .ok (.getfield 50, 3) := by decide +kernel
theorem dX8_begins_97 : decode cX8_begins 97 = .ok (.iload_n 1, 1) := by decide +kernel
theorem dX8_begins_98 : decode cX8_begins 98 = .ok (.iload_n 2, 1) := by decide +kernel
theorem dX8_begins_99 : decode cX8_begins 99 = .ok (.invokevirtual 246, 3) := by decide +kernel
theorem dX8_begins_102 : decode cX8_begins 102 = .ok (.lmul, 1) := by decide +kernel
theorem dX8_begins_103 : decode cX8_begins 103 = .ok (.goto 4, 3) := by decide +kernel
theorem dX8_begins_106 : decode cX8_begins 106 = .ok (.lconst 0, 1) := by decide +kernel
theorem dX8_begins_107 : decode cX8_begins 107 = .ok (.ladd, 1) := by decide +kernel
theorem dX8_begins_108 : decode cX8_begins 108 = .ok (.lstore_n 3, 1) := by decide +kernel
theorem dX8_begins_109 : decode cX8_begins 109 = .ok (.iinc 5 1, 3) := by decide +kernel
theorem dX8_begins_112 : decode cX8_begins 112 = .ok (.goto (-66), 3) := by decide +kernel
theorem dX8_begins_115 : decode cX8_begins 115 = .ok (.lload_n 3, 1) := by decide +kernel
theorem dX8_begins_116 : decode cX8_begins 116 = .ok (.lreturn, 1) := by decide +kernel
theorem dX8_sureAt_0 : decode cX8_sureAt 0 = .ok (.aload_n 0, 1) := by decide +kernel
theorem dX8_sureAt_1 : decode cX8_sureAt 1 = .ok (.aload_n 1, 1) := by decide +kernel
theorem dX8_sureAt_2 : decode cX8_sureAt 2 = .ok (.invokevirtual 231, 3) := by decide +kernel
theorem dX8_sureAt_5 : decode cX8_sureAt 5 = .ok (.lstore_n 3, 1) := by decide +kernel
theorem dX8_sureAt_6 : decode cX8_sureAt 6 = .ok (.bipush (-9), 2) := by decide +kernel
theorem dX8_sureAt_8 : decode cX8_sureAt 8 = .ok (.istore 5, 2) := by decide +kernel
theorem dX8_sureAt_10 : decode cX8_sureAt 10 = .ok (.iconst 0, 1) := by decide +kernel
theorem dX8_sureAt_11 : decode cX8_sureAt 11 = .ok (.istore 6, 2) := by decide +kernel
theorem dX8_sureAt_13 : decode cX8_sureAt 13 = .ok (.iload 6, 2) := by decide +kernel
theorem dX8_sureAt_15 : decode cX8_sureAt 15 = .ok (.bipush 6, 2) := by decide +kernel
theorem dX8_sureAt_17 : decode cX8_sureAt 17 = .ok (.if_icmp .gt 37, 3) := by decide +kernel
theorem dX8_sureAt_20 : decode cX8_sureAt 20 = .ok (.lload_n 3, 1) := by decide +kernel
theorem dX8_sureAt_21 : decode cX8_sureAt 21 = .ok (.lconst 0, 1) := by decide +kernel
theorem dX8_sureAt_22 : decode cX8_sureAt 22 = .ok (.lcmp, 1) := by decide +kernel
theorem dX8_sureAt_23 : decode cX8_sureAt 23 = .ok (.ifCond .le 21, 3) := by decide +kernel
theorem dX8_sureAt_26 : decode cX8_sureAt 26 = .ok (.aload_n 0, 1) := by decide +kernel
theorem dX8_sureAt_27 : decode cX8_sureAt 27 = .ok (.aload_n 1, 1) := by decide +kernel
theorem dX8_sureAt_28 : decode cX8_sureAt 28 = .ok (.iload_n 2, 1) := by decide +kernel
theorem dX8_sureAt_29 : decode cX8_sureAt 29 = .ok (.iload 6, 2) := by decide +kernel
theorem dX8_sureAt_31 : decode cX8_sureAt 31 = .ok (.invokevirtual 252, 3) := by decide +kernel
theorem dX8_sureAt_34 : decode cX8_sureAt 34 = .ok (.lload_n 3, 1) := by decide +kernel
theorem dX8_sureAt_35 : decode cX8_sureAt 35 = .ok (.lcmp, 1) := by decide +kernel
theorem dX8_sureAt_36 : decode cX8_sureAt 36 = .ok (.ifCond .ne 8, 3) := by decide +kernel
theorem dX8_sureAt_39 : decode cX8_sureAt 39 = .ok (.iload 6, 2) := by decide +kernel
theorem dX8_sureAt_41 : decode cX8_sureAt 41 = .ok (.goto 5, 3) := by decide +kernel
theorem dX8_sureAt_44 : decode cX8_sureAt 44 = .ok (.iload 5, 2) := by decide +kernel
theorem dX8_sureAt_46 : decode cX8_sureAt 46 = .ok (.istore 5, 2) := by decide +kernel
theorem dX8_sureAt_48 : decode cX8_sureAt 48 = .ok (.iinc 6 1, 3) := by decide +kernel
theorem dX8_sureAt_51 : decode cX8_sureAt 51 = .ok (.goto (-38), 3) := by decide +kernel
theorem dX8_sureAt_54 : decode cX8_sureAt 54 = .ok (.iload 5, 2) := by decide +kernel
theorem dX8_sureAt_56 : decode cX8_sureAt 56 = .ok (.ireturn, 1) := by decide +kernel
theorem dX8_sure_0 : decode cX8_sure 0 = .ok (.aload_n 0, 1) := by decide +kernel
theorem dX8_sure_1 : decode cX8_sure 1 = .ok (.iconst 0, 1) := by decide +kernel
theorem dX8_sure_2 : decode cX8_sure 2 = .ok (.putfield 94, 3) := by decide +kernel
theorem dX8_sure_5 : decode cX8_sure 5 = .ok (.aload_n 0, 1) := by decide +kernel
theorem dX8_sure_6 : decode cX8_sure 6 = .ok (.iload_n 1, 1) := by decide +kernel
theorem dX8_sure_7 : decode cX8_sure 7 = .ok (.invokevirtual 155, 3) := by decide +kernel
theorem dX8_sure_10 : decode cX8_sure 10 = .ok (.ifCond .eq 7, 3) := by decide +kernel
theorem dX8_sure_13 : decode cX8_sure 13 = .ok (.iconst (-1), 1) := by decide +kernel
theorem dX8_sure_14 : decode cX8_sure 14 = .ok (.goto 12, 3) := by decide +kernel
theorem dX8_sure_17 : decode cX8_sure 17 = .ok (.aload_n 0, 1) := by decide +kernel
theorem dX8_sure_18 : decode cX8_sure 18 = .ok (.aload_n 0, 1) := by decide +kernel
theorem dX8_sure_19 : decode cX8_sure 19 = .ok (.getfield 50, 3) := by decide +kernel
theorem dX8_sure_22 : decode cX8_sure 22 = .ok (.iload_n 1, 1) := by decide +kernel
theorem dX8_sure_23 : decode cX8_sure 23 = .ok (.invokevirtual 257, 3) := by decide +kernel
theorem dX8_sure_26 : decode cX8_sure 26 = .ok (.ireturn, 1) := by decide +kernel
theorem dX8_longPower_0 : decode cX8_longPower 0 = .ok (.lconst 1, 1) := by decide +kernel
theorem dX8_longPower_1 : decode cX8_longPower 1 = .ok (.lstore_n 3, 1) := by decide +kernel
theorem dX8_longPower_2 : decode cX8_longPower 2 = .ok (.iconst 0, 1) := by decide +kernel
theorem dX8_longPower_3 : decode cX8_longPower 3 = .ok (.istore 5, 2) := by decide +kernel
theorem dX8_longPower_5 : decode cX8_longPower 5 = .ok (.iload 5, 2) := by decide +kernel
theorem dX8_longPower_7 : decode cX8_longPower 7 = .ok (.iload_n 2, 1) := by decide +kernel
theorem dX8_longPower_8 : decode cX8_longPower 8 = .ok (.if_icmp .ge 13, 3) := by decide +kernel
theorem dX8_longPower_11 : decode cX8_longPower 11 = .ok (.lload_n 3, 1) := by decide +kernel
theorem dX8_longPower_12 : decode cX8_longPower 12 = .ok (.lload_n 0, 1) := by decide +kernel
theorem dX8_longPower_13 : decode cX8_longPower 13 = .ok (.lmul, 1) := by decide +kernel
theorem dX8_longPower_14 : decode cX8_longPower 14 = .ok (.lstore_n 3, 1) := by decide +kernel
theorem dX8_longPower_15 : decode cX8_longPower 15 = .ok (.iinc 5 1, 3) := by decide +kernel
theorem dX8_longPower_18 : decode cX8_longPower 18 = .ok (.goto (-13), 3) := by decide +kernel
theorem dX8_longPower_21 : decode cX8_longPower 21 = .ok (.lload_n 3, 1) := by decide +kernel
theorem dX8_longPower_22 : decode cX8_longPower 22 = .ok (.lreturn, 1) := by decide +kernel
theorem dX8_does_0 : decode cX8_does 0 = .ok (.iload_n 1, 1) := by decide +kernel
theorem dX8_does_1 : decode cX8_does 1 = .ok (.sipush 1000, 3) := by decide +kernel
theorem dX8_does_4 : decode cX8_does 4 = .ok (.idiv, 1) := by decide +kernel
theorem dX8_does_5 : decode cX8_does 5 = .ok (.bipush 10, 2) := by decide +kernel
theorem dX8_does_7 : decode cX8_does 7 = .ok (.irem, 1) := by decide +kernel
theorem dX8_does_8 : decode cX8_does 8 = .ok (.istore_n 2, 1) := by decide +kernel
theorem dX8_does_9 : decode cX8_does 9 = .ok (.iload_n 1, 1) := by decide +kernel
theorem dX8_does_10 : decode cX8_does 10 = .ok (.bipush 100, 2) := by decide +kernel
theorem dX8_does_12 : decode cX8_does 12 = .ok (.idiv, 1) := by decide +kernel
theorem dX8_does_13 : decode cX8_does 13 = .ok (.bipush 10, 2) := by decide +kernel
theorem dX8_does_15 : decode cX8_does 15 = .ok (.irem, 1) := by decide +kernel
theorem dX8_does_16 : decode cX8_does 16 = .ok (.istore_n 3, 1) := by decide +kernel
theorem dX8_does_17 : decode cX8_does 17 = .ok (.iload_n 1, 1) := by decide +kernel
theorem dX8_does_18 : decode cX8_does 18 = .ok (.bipush 10, 2) := by decide +kernel
theorem dX8_does_20 : decode cX8_does 20 = .ok (.idiv, 1) := by decide +kernel
theorem dX8_does_21 : decode cX8_does 21 = .ok (.bipush 10, 2) := by decide +kernel
theorem dX8_does_23 : decode cX8_does 23 = .ok (.irem, 1) := by decide +kernel
theorem dX8_does_24 : decode cX8_does 24 = .ok (.istore 4, 2) := by decide +kernel
theorem dX8_does_26 : decode cX8_does 26 = .ok (.iload_n 1, 1) := by decide +kernel
theorem dX8_does_27 : decode cX8_does 27 = .ok (.bipush 10, 2) := by decide +kernel
theorem dX8_does_29 : decode cX8_does 29 = .ok (.irem, 1) := by decide +kernel
theorem dX8_does_30 : decode cX8_does 30 = .ok (.istore 5, 2) := by decide +kernel
theorem dX8_does_32 : decode cX8_does 32 = .ok (.bipush 10, 2) := by decide +kernel
theorem dX8_does_34 : decode cX8_does 34 = .ok (.iload_n 2, 1) := by decide +kernel
theorem dX8_does_35 : decode cX8_does 35 = .ok (.imul, 1) := by decide +kernel
theorem dX8_does_36 : decode cX8_does 36 = .ok (.iload_n 3, 1) := by decide +kernel
theorem dX8_does_37 : decode cX8_does 37 = .ok (.iadd, 1) := by decide +kernel
theorem dX8_does_38 : decode cX8_does 38 = .ok (.istore 6, 2) := by decide +kernel
theorem dX8_does_40 : decode cX8_does 40 = .ok (.bipush 10, 2) := by decide +kernel
theorem dX8_does_42 : decode cX8_does 42 = .ok (.iload_n 3, 1) := by decide +kernel
theorem dX8_does_43 : decode cX8_does 43 = .ok (.imul, 1) := by decide +kernel
theorem dX8_does_44 : decode cX8_does 44 = .ok (.iload 4, 2) := by decide +kernel
theorem dX8_does_46 : decode cX8_does 46 = .ok (.iadd, 1) := by decide +kernel
theorem dX8_does_47 : decode cX8_does 47 = .ok (.istore 7, 2) := by decide +kernel
theorem dX8_does_49 : decode cX8_does 49 = .ok (.iload 6, 2) := by decide +kernel
theorem dX8_does_51 : decode cX8_does 51 = .ok (.aload_n 0, 1) := by decide +kernel
theorem dX8_does_52 : decode cX8_does 52 = .ok (.getfield 53, 3) := by decide +kernel
theorem dX8_does_55 : decode cX8_does 55 = .ok (.iconst 0, 1) := by decide +kernel
theorem dX8_does_56 : decode cX8_does 56 = .ok (.iaload, 1) := by decide +kernel
theorem dX8_does_57 : decode cX8_does 57 = .ok (.if_icmp .ge 7, 3) := by decide +kernel
theorem dX8_does_60 : decode cX8_does 60 = .ok (.iconst 1, 1) := by decide +kernel
theorem dX8_does_61 : decode cX8_does 61 = .ok (.goto 4, 3) := by decide +kernel
theorem dX8_does_64 : decode cX8_does 64 = .ok (.iconst 0, 1) := by decide +kernel
theorem dX8_does_65 : decode cX8_does 65 = .ok (.istore 8, 2) := by decide +kernel
theorem dX8_does_67 : decode cX8_does 67 = .ok (.iconst 0, 1) := by decide +kernel
theorem dX8_does_68 : decode cX8_does 68 = .ok (.istore 9, 2) := by decide +kernel
theorem dX8_does_70 : decode cX8_does 70 = .ok (.iload_n 1, 1) := by decide +kernel
theorem dX8_does_71 : decode cX8_does 71 = .ok (.sipush 10000, 3) := by decide +kernel
theorem dX8_does_74 : decode cX8_does 74 = .ok (.idiv, 1) := by decide +kernel
theorem dX8_does_75 : decode cX8_does 75 = .ok (.tableswitch 371 1 7 #[41, 96, 155, 208, 258, 302, 333], 41) := by decide +kernel
theorem dX8_does_116 : decode cX8_does 116 = .ok (.iload 8, 2) := by decide +kernel
theorem dX8_does_118 : decode cX8_does 118 = .ok (.ifCond .eq 32, 3) := by decide +kernel
theorem dX8_does_121 : decode cX8_does 121 = .ok (.iload 4, 2) := by decide +kernel
theorem dX8_does_123 : decode cX8_does 123 = .ok (.ifCond .ne 27, 3) := by decide +kernel
theorem dX8_does_126 : decode cX8_does 126 = .ok (.iload 5, 2) := by decide +kernel
theorem dX8_does_128 : decode cX8_does 128 = .ok (.ifCond .ne 22, 3) := by decide +kernel
theorem dX8_does_131 : decode cX8_does 131 = .ok (.aload_n 0, 1) := by decide +kernel
theorem dX8_does_132 : decode cX8_does 132 = .ok (.getfield 53, 3) := by decide +kernel
theorem dX8_does_135 : decode cX8_does 135 = .ok (.bipush 19, 2) := by decide +kernel
theorem dX8_does_137 : decode cX8_does 137 = .ok (.iload 6, 2) := by decide +kernel
theorem dX8_does_139 : decode cX8_does 139 = .ok (.iadd, 1) := by decide +kernel
theorem dX8_does_140 : decode cX8_does 140 = .ok (.iaload, 1) := by decide +kernel
theorem dX8_does_141 : decode cX8_does 141 = .ok (.bipush 6, 2) := by decide +kernel
theorem dX8_does_143 : decode cX8_does 143 = .ok (.if_icmp .gt 7, 3) := by decide +kernel
theorem dX8_does_146 : decode cX8_does 146 = .ok (.iconst 1, 1) := by decide +kernel
theorem dX8_does_147 : decode cX8_does 147 = .ok (.goto 4, 3) := by decide +kernel
theorem dX8_does_150 : decode cX8_does 150 = .ok (.iconst 0, 1) := by decide +kernel
theorem dX8_does_151 : decode cX8_does 151 = .ok (.istore 9, 2) := by decide +kernel
theorem dX8_does_153 : decode cX8_does 153 = .ok (.iload 9, 2) := by decide +kernel
theorem dX8_does_155 : decode cX8_does 155 = .ok (.ifCond .eq 13, 3) := by decide +kernel
theorem dX8_does_158 : decode cX8_does 158 = .ok (.aload_n 0, 1) := by decide +kernel
theorem dX8_does_159 : decode cX8_does 159 = .ok (.aload_n 0, 1) := by decide +kernel
theorem dX8_does_160 : decode cX8_does 160 = .ok (.getfield 53, 3) := by decide +kernel
theorem dX8_does_163 : decode cX8_does 163 = .ok (.iload 6, 2) := by decide +kernel
theorem dX8_does_165 : decode cX8_does 165 = .ok (.invokevirtual 170, 3) := by decide +kernel
theorem dX8_does_168 : decode cX8_does 168 = .ok (.iload 9, 2) := by decide +kernel
theorem dX8_does_170 : decode cX8_does 170 = .ok (.ireturn, 1) := by decide +kernel
theorem dX8_does_171 : decode cX8_does 171 = .ok (.iload 8, 2) := by decide +kernel
theorem dX8_does_173 : decode cX8_does 173 = .ok (.ifCond .eq 34, 3) := by decide +kernel
theorem dX8_does_176 : decode cX8_does 176 = .ok (.iload 4, 2) := by decide +kernel
theorem dX8_does_178 : decode cX8_does 178 = .ok (.bipush 6, 2) := by decide +kernel
theorem dX8_does_180 : decode cX8_does 180 = .ok (.if_icmp .gt 27, 3) := by decide +kernel
theorem dX8_does_183 : decode cX8_does 183 = .ok (.iload 5, 2) := by decide +kernel
theorem dX8_does_185 : decode cX8_does 185 = .ok (.ifCond .ne 22, 3) := by decide +kernel
theorem dX8_does_188 : decode cX8_does 188 = .ok (.aload_n 0, 1) := by decide +kernel
theorem dX8_does_189 : decode cX8_does 189 = .ok (.aload_n 0, 1) := by decide +kernel
theorem dX8_does_190 : decode cX8_does 190 = .ok (.getfield 53, 3) := by decide +kernel
theorem dX8_does_193 : decode cX8_does 193 = .ok (.iload 6, 2) := by decide +kernel
theorem dX8_does_195 : decode cX8_does 195 = .ok (.iload 4, 2) := by decide +kernel
theorem dX8_does_197 : decode cX8_does 197 = .ok (.invokevirtual 160, 3) := by decide +kernel
theorem dX8_does_200 : decode cX8_does 200 = .ok (.ifCond .eq 7, 3) := by decide +kernel
theorem dX8_does_203 : decode cX8_does 203 = .ok (.iconst 1, 1) := by decide +kernel
theorem dX8_does_204 : decode cX8_does 204 = .ok (.goto 4, 3) := by decide +kernel
theorem dX8_does_207 : decode cX8_does 207 = .ok (.iconst 0, 1) := by decide +kernel
theorem dX8_does_208 : decode cX8_does 208 = .ok (.istore 9, 2) := by decide +kernel
theorem dX8_does_210 : decode cX8_does 210 = .ok (.iload 9, 2) := by decide +kernel
theorem dX8_does_212 : decode cX8_does 212 = .ok (.ifCond .eq 15, 3) := by decide +kernel
theorem dX8_does_215 : decode cX8_does 215 = .ok (.aload_n 0, 1) := by decide +kernel
theorem dX8_does_216 : decode cX8_does 216 = .ok (.aload_n 0, 1) := by decide +kernel
theorem dX8_does_217 : decode cX8_does 217 = .ok (.getfield 53, 3) := by decide +kernel
theorem dX8_does_220 : decode cX8_does 220 = .ok (.iload 6, 2) := by decide +kernel
theorem dX8_does_222 : decode cX8_does 222 = .ok (.iload 4, 2) := by decide +kernel
theorem dX8_does_224 : decode cX8_does 224 = .ok (.invokevirtual 176, 3) := by decide +kernel
theorem dX8_does_227 : decode cX8_does 227 = .ok (.iload 9, 2) := by decide +kernel
theorem dX8_does_229 : decode cX8_does 229 = .ok (.ireturn, 1) := by decide +kernel
theorem dX8_does_230 : decode cX8_does 230 = .ok (.iload_n 2, 1) := by decide +kernel
theorem dX8_does_231 : decode cX8_does 231 = .ok (.aload_n 0, 1) := by decide +kernel
theorem dX8_does_232 : decode cX8_does 232 = .ok (.getfield 98, 3) := by decide +kernel
theorem dX8_does_235 : decode cX8_does 235 = .ok (.if_icmp .ge 21, 3) := by decide +kernel
theorem dX8_does_238 : decode cX8_does 238 = .ok (.iload_n 3, 1) := by decide +kernel
theorem dX8_does_239 : decode cX8_does 239 = .ok (.ifCond .ne 17, 3) := by decide +kernel
theorem dX8_does_242 : decode cX8_does 242 = .ok (.iload 4, 2) := by decide +kernel
theorem dX8_does_244 : decode cX8_does 244 = .ok (.ifCond .ne 12, 3) := by decide +kernel
theorem dX8_does_247 : decode cX8_does 247 = .ok (.iload 5, 2) := by decide +kernel
theorem dX8_does_249 : decode cX8_does 249 = .ok (.ifCond .ne 7, 3) := by decide +kernel
theorem dX8_does_252 : decode cX8_does 252 = .ok (.iconst 1, 1) := by decide +kernel
theorem dX8_does_253 : decode cX8_does 253 = .ok (.goto 4, 3) := by decide +kernel
theorem dX8_does_256 : decode cX8_does 256 = .ok (.iconst 0, 1) := by decide +kernel
theorem dX8_does_257 : decode cX8_does 257 = .ok (.istore 9, 2) := by decide +kernel
theorem dX8_does_259 : decode cX8_does 259 = .ok (.aload_n 0, 1) := by decide +kernel
theorem dX8_does_260 : decode cX8_does 260 = .ok (.getfield 53, 3) := by decide +kernel
theorem dX8_does_263 : decode cX8_does 263 = .ok (.iconst 1, 1) := by decide +kernel
theorem dX8_does_264 : decode cX8_does 264 = .ok (.dup2, 1) := by decide +kernel
theorem dX8_does_265 : decode cX8_does 265 = .ok (.iaload, 1) := by decide +kernel
theorem dX8_does_266 : decode cX8_does 266 = .ok (.iload 9, 2) := by decide +kernel
theorem dX8_does_268 : decode cX8_does 268 = .ok (.ifCond .eq 9, 3) := by decide +kernel
theorem dX8_does_271 : decode cX8_does 271 = .ok (.iconst 1, 1) := by decide +kernel
theorem dX8_does_272 : decode cX8_does 272 = .ok (.iload_n 2, 1) := by decide +kernel
theorem dX8_does_273 : decode cX8_does 273 = .ok (.ishl, 1) := by decide +kernel
theorem dX8_does_274 : decode cX8_does 274 = .ok (.goto 4, 3) := by decide +kernel
theorem dX8_does_277 : decode cX8_does 277 = .ok (.iconst 0, 1) := by decide +kernel
theorem dX8_does_278 : decode cX8_does 278 = .ok (.ixor, 1) := by decide +kernel
theorem dX8_does_279 : decode cX8_does 279 = .ok (.iastore, 1) := by decide +kernel
theorem dX8_does_280 : decode cX8_does 280 = .ok (.iload 9, 2) := by decide +kernel
theorem dX8_does_282 : decode cX8_does 282 = .ok (.ireturn, 1) := by decide +kernel
theorem dX8_does_283 : decode cX8_does 283 = .ok (.iload_n 2, 1) := by decide +kernel
theorem dX8_does_284 : decode cX8_does 284 = .ok (.iconst 3, 1) := by decide +kernel
theorem dX8_does_285 : decode cX8_does 285 = .ok (.if_icmp .ge 23, 3) := by decide +kernel
theorem dX8_does_288 : decode cX8_does 288 = .ok (.iload_n 3, 1) := by decide +kernel
theorem dX8_does_289 : decode cX8_does 289 = .ok (.iconst 3, 1) := by decide +kernel
theorem dX8_does_290 : decode cX8_does 290 = .ok (.if_icmp .ge 18, 3) := by decide +kernel
theorem dX8_does_293 : decode cX8_does 293 = .ok (.iload 4, 2) := by decide +kernel
theorem dX8_does_295 : decode cX8_does 295 = .ok (.iconst 3, 1) := by decide +kernel
theorem dX8_does_296 : decode cX8_does 296 = .ok (.if_icmp .ge 12, 3) := by decide +kernel
theorem dX8_does_299 : decode cX8_does 299 = .ok (.iload 5, 2) := by decide +kernel
theorem dX8_does_301 : decode cX8_does 301 = .ok (.ifCond .ne 7, 3) := by decide +kernel
theorem dX8_does_304 : decode cX8_does 304 = .ok (.iconst 1, 1) := by decide +kernel
theorem dX8_does_305 : decode cX8_does 305 = .ok (.goto 4, 3) := by decide +kernel
theorem dX8_does_308 : decode cX8_does 308 = .ok (.iconst 0, 1) := by decide +kernel
theorem dX8_does_309 : decode cX8_does 309 = .ok (.istore 9, 2) := by decide +kernel
theorem dX8_does_311 : decode cX8_does 311 = .ok (.iload 9, 2) := by decide +kernel
theorem dX8_does_313 : decode cX8_does 313 = .ok (.ifCond .eq 17, 3) := by decide +kernel
theorem dX8_does_316 : decode cX8_does 316 = .ok (.aload_n 0, 1) := by decide +kernel
theorem dX8_does_317 : decode cX8_does 317 = .ok (.getfield 53, 3) := by decide +kernel
theorem dX8_does_320 : decode cX8_does 320 = .ok (.iconst 2, 1) := by decide +kernel
theorem dX8_does_321 : decode cX8_does 321 = .ok (.iconst 3, 1) := by decide +kernel
theorem dX8_does_322 : decode cX8_does 322 = .ok (.iload_n 2, 1) := by decide +kernel
theorem dX8_does_323 : decode cX8_does 323 = .ok (.imul, 1) := by decide +kernel
theorem dX8_does_324 : decode cX8_does 324 = .ok (.iadd, 1) := by decide +kernel
theorem dX8_does_325 : decode cX8_does 325 = .ok (.iload_n 3, 1) := by decide +kernel
theorem dX8_does_326 : decode cX8_does 326 = .ok (.iadd, 1) := by decide +kernel
theorem dX8_does_327 : decode cX8_does 327 = .ok (.iload 4, 2) := by decide +kernel
theorem dX8_does_329 : decode cX8_does 329 = .ok (.iastore, 1) := by decide +kernel
theorem dX8_does_330 : decode cX8_does 330 = .ok (.iload 9, 2) := by decide +kernel
theorem dX8_does_332 : decode cX8_does 332 = .ok (.ireturn, 1) := by decide +kernel
theorem dX8_does_333 : decode cX8_does 333 = .ok (.iload_n 2, 1) := by decide +kernel
theorem dX8_does_334 : decode cX8_does 334 = .ok (.aload_n 0, 1) := by decide +kernel
theorem dX8_does_335 : decode cX8_does 335 = .ok (.getfield 98, 3) := by decide +kernel
theorem dX8_does_338 : decode cX8_does 338 = .ok (.if_icmp .ge 37, 3) := by decide +kernel
theorem dX8_does_341 : decode cX8_does 341 = .ok (.iload 7, 2) := by decide +kernel
theorem dX8_does_343 : decode cX8_does 343 = .ok (.aload_n 0, 1) := by decide +kernel
theorem dX8_does_344 : decode cX8_does 344 = .ok (.getfield 53, 3) := by decide +kernel
theorem dX8_does_347 : decode cX8_does 347 = .ok (.iconst 0, 1) := by decide +kernel
theorem dX8_does_348 : decode cX8_does 348 = .ok (.iaload, 1) := by decide +kernel
theorem dX8_does_349 : decode cX8_does 349 = .ok (.if_icmp .ge 26, 3) := by decide +kernel
theorem dX8_does_352 : decode cX8_does 352 = .ok (.iload 5, 2) := by decide +kernel
theorem dX8_does_354 : decode cX8_does 354 = .ok (.ifCond .ne 21, 3) := by decide +kernel
theorem dX8_does_357 : decode cX8_does 357 = .ok (.aload_n 0, 1) := by decide +kernel
theorem dX8_does_358 : decode cX8_does 358 = .ok (.aload_n 0, 1) := by decide +kernel
theorem dX8_does_359 : decode cX8_does 359 = .ok (.getfield 53, 3) := by decide +kernel
theorem dX8_does_362 : decode cX8_does 362 = .ok (.iload_n 2, 1) := by decide +kernel
theorem dX8_does_363 : decode cX8_does 363 = .ok (.iload 7, 2) := by decide +kernel
theorem dX8_does_365 : decode cX8_does 365 = .ok (.invokevirtual 193, 3) := by decide +kernel
theorem dX8_does_368 : decode cX8_does 368 = .ok (.ifCond .eq 7, 3) := by decide +kernel
theorem dX8_does_371 : decode cX8_does 371 = .ok (.iconst 1, 1) := by decide +kernel
theorem dX8_does_372 : decode cX8_does 372 = .ok (.goto 4, 3) := by decide +kernel
theorem dX8_does_375 : decode cX8_does 375 = .ok (.iconst 0, 1) := by decide +kernel
theorem dX8_does_376 : decode cX8_does 376 = .ok (.ireturn, 1) := by decide +kernel
theorem dX8_does_377 : decode cX8_does 377 = .ok (.iload 4, 2) := by decide +kernel
theorem dX8_does_379 : decode cX8_does 379 = .ok (.ifCond .ne 27, 3) := by decide +kernel
theorem dX8_does_382 : decode cX8_does 382 = .ok (.iload 5, 2) := by decide +kernel
theorem dX8_does_384 : decode cX8_does 384 = .ok (.ifCond .ne 22, 3) := by decide +kernel
theorem dX8_does_387 : decode cX8_does 387 = .ok (.aload_n 0, 1) := by decide +kernel
theorem dX8_does_388 : decode cX8_does 388 = .ok (.aload_n 0, 1) := by decide +kernel
theorem dX8_does_389 : decode cX8_does 389 = .ok (.getfield 53, 3) := by decide +kernel
theorem dX8_does_392 : decode cX8_does 392 = .ok (.invokevirtual 231, 3) := by decide +kernel
theorem dX8_does_395 : decode cX8_does 395 = .ok (.iload 6, 2) := by decide +kernel
theorem dX8_does_397 : decode cX8_does 397 = .ok (.i2l, 1) := by decide +kernel
theorem dX8_does_398 : decode cX8_does 398 = .ok (.lcmp, 1) := by decide +kernel
theorem dX8_does_399 : decode cX8_does 399 = .ok (.ifCond .gt 7, 3) := by decide +kernel
theorem dX8_does_402 : decode cX8_does 402 = .ok (.iconst 1, 1) := by decide +kernel
theorem dX8_does_403 : decode cX8_does 403 = .ok (.goto 4, 3) := by decide +kernel
theorem dX8_does_406 : decode cX8_does 406 = .ok (.iconst 0, 1) := by decide +kernel
theorem dX8_does_407 : decode cX8_does 407 = .ok (.ireturn, 1) := by decide +kernel
theorem dX8_does_408 : decode cX8_does 408 = .ok (.iload 8, 2) := by decide +kernel
theorem dX8_does_410 : decode cX8_does 410 = .ok (.ifCond .eq 34, 3) := by decide +kernel
theorem dX8_does_413 : decode cX8_does 413 = .ok (.iload 4, 2) := by decide +kernel
theorem dX8_does_415 : decode cX8_does 415 = .ok (.bipush 6, 2) := by decide +kernel
theorem dX8_does_417 : decode cX8_does 417 = .ok (.if_icmp .gt 27, 3) := by decide +kernel
theorem dX8_does_420 : decode cX8_does 420 = .ok (.iload 5, 2) := by decide +kernel
theorem dX8_does_422 : decode cX8_does 422 = .ok (.ifCond .ne 22, 3) := by decide +kernel
theorem dX8_does_425 : decode cX8_does 425 = .ok (.aload_n 0, 1) := by decide +kernel
theorem dX8_does_426 : decode cX8_does 426 = .ok (.aload_n 0, 1) := by decide +kernel
theorem dX8_does_427 : decode cX8_does 427 = .ok (.getfield 53, 3) := by decide +kernel
theorem dX8_does_430 : decode cX8_does 430 = .ok (.iload 6, 2) := by decide +kernel
theorem dX8_does_432 : decode cX8_does 432 = .ok (.invokevirtual 257, 3) := by decide +kernel
theorem dX8_does_435 : decode cX8_does 435 = .ok (.iload 4, 2) := by decide +kernel
theorem dX8_does_437 : decode cX8_does 437 = .ok (.if_icmp .ne 7, 3) := by decide +kernel
theorem dX8_does_440 : decode cX8_does 440 = .ok (.iconst 1, 1) := by decide +kernel
theorem dX8_does_441 : decode cX8_does 441 = .ok (.goto 4, 3) := by decide +kernel
theorem dX8_does_444 : decode cX8_does 444 = .ok (.iconst 0, 1) := by decide +kernel
theorem dX8_does_445 : decode cX8_does 445 = .ok (.ireturn, 1) := by decide +kernel
theorem dX8_does_446 : decode cX8_does 446 = .ok (.iconst 0, 1) := by decide +kernel
theorem dX8_does_447 : decode cX8_does 447 = .ok (.ireturn, 1) := by decide +kernel
theorem dX8_judge_0 : decode cX8_judge 0 = .ok (.aload_n 0, 1) := by decide +kernel
theorem dX8_judge_1 : decode cX8_judge 1 = .ok (.iconst 0, 1) := by decide +kernel
theorem dX8_judge_2 : decode cX8_judge 2 = .ok (.putfield 94, 3) := by decide +kernel
theorem dX8_judge_5 : decode cX8_judge 5 = .ok (.iload_n 1, 1) := by decide +kernel
theorem dX8_judge_6 : decode cX8_judge 6 = .ok (.i2l, 1) := by decide +kernel
theorem dX8_judge_7 : decode cX8_judge 7 = .ok (.lconst 1, 1) := by decide +kernel
theorem dX8_judge_8 : decode cX8_judge 8 = .ok (.ldc2_w 261, 3) := by decide +kernel
theorem dX8_judge_11 : decode cX8_judge 11 = .ok (.invokestatic 101, 3) := by decide +kernel
theorem dX8_judge_14 : decode cX8_judge 14 = .ok (.ifCond .eq 20, 3) := by decide +kernel
theorem dX8_judge_17 : decode cX8_judge 17 = .ok (.lload_n 2, 1) := by decide +kernel
theorem dX8_judge_18 : decode cX8_judge 18 = .ok (.lconst 0, 1) := by decide +kernel
theorem dX8_judge_19 : decode cX8_judge 19 = .ok (.ldc2_w 263, 3) := by decide +kernel
theorem dX8_judge_22 : decode cX8_judge 22 = .ok (.iload_n 1, 1) := by decide +kernel
theorem dX8_judge_23 : decode cX8_judge 23 = .ok (.invokestatic 265, 3) := by decide +kernel
theorem dX8_judge_26 : decode cX8_judge 26 = .ok (.lconst 1, 1) := by decide +kernel
theorem dX8_judge_27 : decode cX8_judge 27 = .ok (.lsub, 1) := by decide +kernel
theorem dX8_judge_28 : decode cX8_judge 28 = .ok (.invokestatic 101, 3) := by decide +kernel
theorem dX8_judge_31 : decode cX8_judge 31 = .ok (.ifCond .ne 6, 3) := by decide +kernel
theorem dX8_judge_34 : decode cX8_judge 34 = .ok (.bipush (-2), 2) := by decide +kernel
theorem dX8_judge_36 : decode cX8_judge 36 = .ok (.ireturn, 1) := by decide +kernel
theorem dX8_judge_37 : decode cX8_judge 37 = .ok (.aload_n 0, 1) := by decide +kernel
theorem dX8_judge_38 : decode cX8_judge 38 = .ok (.getfield 53, 3) := by decide +kernel
theorem dX8_judge_41 : decode cX8_judge 41 = .ok (.aload_n 0, 1) := by decide +kernel
theorem dX8_judge_42 : decode cX8_judge 42 = .ok (.getfield 50, 3) := by decide +kernel
theorem dX8_judge_45 : decode cX8_judge 45 = .ok (.invokestatic 141, 3) := by decide +kernel
theorem dX8_judge_48 : decode cX8_judge 48 = .ok (.iconst 0, 1) := by decide +kernel
theorem dX8_judge_49 : decode cX8_judge 49 = .ok (.istore 4, 2) := by decide +kernel
theorem dX8_judge_51 : decode cX8_judge 51 = .ok (.iload 4, 2) := by decide +kernel
theorem dX8_judge_53 : decode cX8_judge 53 = .ok (.iload_n 1, 1) := by decide +kernel
theorem dX8_judge_54 : decode cX8_judge 54 = .ok (.if_icmp .ge 38, 3) := by decide +kernel
theorem dX8_judge_57 : decode cX8_judge 57 = .ok (.aload_n 0, 1) := by decide +kernel
theorem dX8_judge_58 : decode cX8_judge 58 = .ok (.lload_n 2, 1) := by decide +kernel
theorem dX8_judge_59 : decode cX8_judge 59 = .ok (.ldc2_w 263, 3) := by decide +kernel
theorem dX8_judge_62 : decode cX8_judge 62 = .ok (.iload_n 1, 1) := by decide +kernel
theorem dX8_judge_63 : decode cX8_judge 63 = .ok (.iconst 1, 1) := by decide +kernel
theorem dX8_judge_64 : decode cX8_judge 64 = .ok (.isub, 1) := by decide +kernel
theorem dX8_judge_65 : decode cX8_judge 65 = .ok (.iload 4, 2) := by decide +kernel
theorem dX8_judge_67 : decode cX8_judge 67 = .ok (.isub, 1) := by decide +kernel
theorem dX8_judge_68 : decode cX8_judge 68 = .ok (.invokestatic 265, 3) := by decide +kernel
theorem dX8_judge_71 : decode cX8_judge 71 = .ok (.ldiv, 1) := by decide +kernel
theorem dX8_judge_72 : decode cX8_judge 72 = .ok (.ldc2_w 263, 3) := by decide +kernel
theorem dX8_judge_75 : decode cX8_judge 75 = .ok (.lrem, 1) := by decide +kernel
theorem dX8_judge_76 : decode cX8_judge 76 = .ok (.l2i, 1) := by decide +kernel
theorem dX8_judge_77 : decode cX8_judge 77 = .ok (.invokevirtual 269, 3) := by decide +kernel
theorem dX8_judge_80 : decode cX8_judge 80 = .ok (.ifCond .ne 6, 3) := by decide +kernel
theorem dX8_judge_83 : decode cX8_judge 83 = .ok (.iload 4, 2) := by decide +kernel
theorem dX8_judge_85 : decode cX8_judge 85 = .ok (.ireturn, 1) := by decide +kernel
theorem dX8_judge_86 : decode cX8_judge 86 = .ok (.iinc 4 1, 3) := by decide +kernel
theorem dX8_judge_89 : decode cX8_judge 89 = .ok (.goto (-38), 3) := by decide +kernel
theorem dX8_judge_92 : decode cX8_judge 92 = .ok (.bipush (-9), 2) := by decide +kernel
theorem dX8_judge_94 : decode cX8_judge 94 = .ok (.ireturn, 1) := by decide +kernel
theorem dX8_see_0 : decode cX8_see 0 = .ok (.aload_n 0, 1) := by decide +kernel
theorem dX8_see_1 : decode cX8_see 1 = .ok (.iconst 0, 1) := by decide +kernel
theorem dX8_see_2 : decode cX8_see 2 = .ok (.putfield 94, 3) := by decide +kernel
theorem dX8_see_5 : decode cX8_see 5 = .ok (.aload_n 0, 1) := by decide +kernel
theorem dX8_see_6 : decode cX8_see 6 = .ok (.iload_n 1, 1) := by decide +kernel
theorem dX8_see_7 : decode cX8_see 7 = .ok (.invokevirtual 148, 3) := by decide +kernel
theorem dX8_see_10 : decode cX8_see 10 = .ok (.ifCond .ne 11, 3) := by decide +kernel
theorem dX8_see_13 : decode cX8_see 13 = .ok (.aload_n 0, 1) := by decide +kernel
theorem dX8_see_14 : decode cX8_see 14 = .ok (.iload_n 2, 1) := by decide +kernel
theorem dX8_see_15 : decode cX8_see 15 = .ok (.invokevirtual 155, 3) := by decide +kernel
theorem dX8_see_18 : decode cX8_see 18 = .ok (.ifCond .eq 5, 3) := by decide +kernel
theorem dX8_see_21 : decode cX8_see 21 = .ok (.iconst (-1), 1) := by decide +kernel
theorem dX8_see_22 : decode cX8_see 22 = .ok (.ireturn, 1) := by decide +kernel
theorem dX8_see_23 : decode cX8_see 23 = .ok (.iload_n 3, 1) := by decide +kernel
theorem dX8_see_24 : decode cX8_see 24 = .ok (.i2l, 1) := by decide +kernel
theorem dX8_see_25 : decode cX8_see 25 = .ok (.lconst 0, 1) := by decide +kernel
theorem dX8_see_26 : decode cX8_see 26 = .ok (.lconst 1, 1) := by decide +kernel
theorem dX8_see_27 : decode cX8_see 27 = .ok (.invokestatic 101, 3) := by decide +kernel
theorem dX8_see_30 : decode cX8_see 30 = .ok (.ifCond .ne 6, 3) := by decide +kernel
theorem dX8_see_33 : decode cX8_see 33 = .ok (.bipush (-2), 2) := by decide +kernel
theorem dX8_see_35 : decode cX8_see 35 = .ok (.ireturn, 1) := by decide +kernel
theorem dX8_see_36 : decode cX8_see 36 = .ok (.aload_n 0, 1) := by decide +kernel
theorem dX8_see_37 : decode cX8_see 37 = .ok (.getfield 196, 3) := by decide +kernel
theorem dX8_see_40 : decode cX8_see 40 = .ok (.bipush 6, 2) := by decide +kernel
theorem dX8_see_42 : decode cX8_see 42 = .ok (.if_icmp .ne 6, 3) := by decide +kernel
theorem dX8_see_45 : decode cX8_see 45 = .ok (.bipush (-4), 2) := by decide +kernel
theorem dX8_see_47 : decode cX8_see 47 = .ok (.ireturn, 1) := by decide +kernel
theorem dX8_see_48 : decode cX8_see 48 = .ok (.aload_n 0, 1) := by decide +kernel
theorem dX8_see_49 : decode cX8_see 49 = .ok (.getfield 65, 3) := by decide +kernel
theorem dX8_see_52 : decode cX8_see 52 = .ok (.aload_n 0, 1) := by decide +kernel
theorem dX8_see_53 : decode cX8_see 53 = .ok (.getfield 196, 3) := by decide +kernel
theorem dX8_see_56 : decode cX8_see 56 = .ok (.iload_n 1, 1) := by decide +kernel
theorem dX8_see_57 : decode cX8_see 57 = .ok (.iastore, 1) := by decide +kernel
theorem dX8_see_58 : decode cX8_see 58 = .ok (.aload_n 0, 1) := by decide +kernel
theorem dX8_see_59 : decode cX8_see 59 = .ok (.getfield 68, 3) := by decide +kernel
theorem dX8_see_62 : decode cX8_see 62 = .ok (.aload_n 0, 1) := by decide +kernel
theorem dX8_see_63 : decode cX8_see 63 = .ok (.getfield 196, 3) := by decide +kernel
theorem dX8_see_66 : decode cX8_see 66 = .ok (.iload_n 2, 1) := by decide +kernel
theorem dX8_see_67 : decode cX8_see 67 = .ok (.iastore, 1) := by decide +kernel
theorem dX8_see_68 : decode cX8_see 68 = .ok (.aload_n 0, 1) := by decide +kernel
theorem dX8_see_69 : decode cX8_see 69 = .ok (.getfield 71, 3) := by decide +kernel
theorem dX8_see_72 : decode cX8_see 72 = .ok (.aload_n 0, 1) := by decide +kernel
theorem dX8_see_73 : decode cX8_see 73 = .ok (.getfield 196, 3) := by decide +kernel
theorem dX8_see_76 : decode cX8_see 76 = .ok (.iload_n 3, 1) := by decide +kernel
theorem dX8_see_77 : decode cX8_see 77 = .ok (.iastore, 1) := by decide +kernel
theorem dX8_see_78 : decode cX8_see 78 = .ok (.aload_n 0, 1) := by decide +kernel
theorem dX8_see_79 : decode cX8_see 79 = .ok (.dup, 1) := by decide +kernel
theorem dX8_see_80 : decode cX8_see 80 = .ok (.getfield 196, 3) := by decide +kernel
theorem dX8_see_83 : decode cX8_see 83 = .ok (.iconst 1, 1) := by decide +kernel
theorem dX8_see_84 : decode cX8_see 84 = .ok (.iadd, 1) := by decide +kernel
theorem dX8_see_85 : decode cX8_see 85 = .ok (.putfield 196, 3) := by decide +kernel
theorem dX8_see_88 : decode cX8_see 88 = .ok (.aload_n 0, 1) := by decide +kernel
theorem dX8_see_89 : decode cX8_see 89 = .ok (.getfield 196, 3) := by decide +kernel
theorem dX8_see_92 : decode cX8_see 92 = .ok (.ireturn, 1) := by decide +kernel
theorem dX8_unsee_0 : decode cX8_unsee 0 = .ok (.aload_n 0, 1) := by decide +kernel
theorem dX8_unsee_1 : decode cX8_unsee 1 = .ok (.iconst 0, 1) := by decide +kernel
theorem dX8_unsee_2 : decode cX8_unsee 2 = .ok (.putfield 94, 3) := by decide +kernel
theorem dX8_unsee_5 : decode cX8_unsee 5 = .ok (.aload_n 0, 1) := by decide +kernel
theorem dX8_unsee_6 : decode cX8_unsee 6 = .ok (.getfield 196, 3) := by decide +kernel
theorem dX8_unsee_9 : decode cX8_unsee 9 = .ok (.istore_n 1, 1) := by decide +kernel
theorem dX8_unsee_10 : decode cX8_unsee 10 = .ok (.aload_n 0, 1) := by decide +kernel
theorem dX8_unsee_11 : decode cX8_unsee 11 = .ok (.iconst 0, 1) := by decide +kernel
theorem dX8_unsee_12 : decode cX8_unsee 12 = .ok (.putfield 196, 3) := by decide +kernel
theorem dX8_unsee_15 : decode cX8_unsee 15 = .ok (.iload_n 1, 1) := by decide +kernel
theorem dX8_unsee_16 : decode cX8_unsee 16 = .ok (.ireturn, 1) := by decide +kernel
theorem dX8_aheadOf_0 : decode cX8_aheadOf 0 = .ok (.aload_n 0, 1) := by decide +kernel
theorem dX8_aheadOf_1 : decode cX8_aheadOf 1 = .ok (.aload_n 1, 1) := by decide +kernel
theorem dX8_aheadOf_2 : decode cX8_aheadOf 2 = .ok (.iconst 0, 1) := by decide +kernel
theorem dX8_aheadOf_3 : decode cX8_aheadOf 3 = .ok (.invokevirtual 223, 3) := by decide +kernel
theorem dX8_aheadOf_6 : decode cX8_aheadOf 6 = .ok (.lconst 0, 1) := by decide +kernel
theorem dX8_aheadOf_7 : decode cX8_aheadOf 7 = .ok (.lstore_n 2, 1) := by decide +kernel
theorem dX8_aheadOf_8 : decode cX8_aheadOf 8 = .ok (.aload_n 0, 1) := by decide +kernel
theorem dX8_aheadOf_9 : decode cX8_aheadOf 9 = .ok (.getfield 216, 3) := by decide +kernel
theorem dX8_aheadOf_12 : decode cX8_aheadOf 12 = .ok (.iconst 1, 1) := by decide +kernel
theorem dX8_aheadOf_13 : decode cX8_aheadOf 13 = .ok (.iadd, 1) := by decide +kernel
theorem dX8_aheadOf_14 : decode cX8_aheadOf 14 = .ok (.istore 4, 2) := by decide +kernel
theorem dX8_aheadOf_16 : decode cX8_aheadOf 16 = .ok (.iload 4, 2) := by decide +kernel
theorem dX8_aheadOf_18 : decode cX8_aheadOf 18 = .ok (.bipush 73, 2) := by decide +kernel
theorem dX8_aheadOf_20 : decode cX8_aheadOf 20 = .ok (.if_icmp .ge 23, 3) := by decide +kernel
theorem dX8_aheadOf_23 : decode cX8_aheadOf 23 = .ok (.lload_n 2, 1) := by decide +kernel
theorem dX8_aheadOf_24 : decode cX8_aheadOf 24 = .ok (.aload_n 0, 1) := by decide +kernel
theorem dX8_aheadOf_25 : decode cX8_aheadOf 25 = .ok (.getfield 74, 3) := by decide +kernel
theorem dX8_aheadOf_28 : decode cX8_aheadOf 28 = .ok (.sipush 584, 3) := by decide +kernel
theorem dX8_aheadOf_31 : decode cX8_aheadOf 31 = .ok (.iload 4, 2) := by decide +kernel
theorem dX8_aheadOf_33 : decode cX8_aheadOf 33 = .ok (.iadd, 1) := by decide +kernel
theorem dX8_aheadOf_34 : decode cX8_aheadOf 34 = .ok (.laload, 1) := by decide +kernel
theorem dX8_aheadOf_35 : decode cX8_aheadOf 35 = .ok (.ladd, 1) := by decide +kernel
theorem dX8_aheadOf_36 : decode cX8_aheadOf 36 = .ok (.lstore_n 2, 1) := by decide +kernel
theorem dX8_aheadOf_37 : decode cX8_aheadOf 37 = .ok (.iinc 4 1, 3) := by decide +kernel
theorem dX8_aheadOf_40 : decode cX8_aheadOf 40 = .ok (.goto (-24), 3) := by decide +kernel
theorem dX8_aheadOf_43 : decode cX8_aheadOf 43 = .ok (.aload_n 0, 1) := by decide +kernel
theorem dX8_aheadOf_44 : decode cX8_aheadOf 44 = .ok (.getfield 216, 3) := by decide +kernel
theorem dX8_aheadOf_47 : decode cX8_aheadOf 47 = .ok (.istore 4, 2) := by decide +kernel
theorem dX8_aheadOf_49 : decode cX8_aheadOf 49 = .ok (.iconst 0, 1) := by decide +kernel
theorem dX8_aheadOf_50 : decode cX8_aheadOf 50 = .ok (.istore 5, 2) := by decide +kernel
theorem dX8_aheadOf_52 : decode cX8_aheadOf 52 = .ok (.bipush 8, 2) := by decide +kernel
theorem dX8_aheadOf_54 : decode cX8_aheadOf 54 = .ok (.istore 6, 2) := by decide +kernel
theorem dX8_aheadOf_56 : decode cX8_aheadOf 56 = .ok (.iconst 0, 1) := by decide +kernel
theorem dX8_aheadOf_57 : decode cX8_aheadOf 57 = .ok (.istore 7, 2) := by decide +kernel
theorem dX8_aheadOf_59 : decode cX8_aheadOf 59 = .ok (.iload 7, 2) := by decide +kernel
theorem dX8_aheadOf_61 : decode cX8_aheadOf 61 = .ok (.aload_n 0, 1) := by decide +kernel
theorem dX8_aheadOf_62 : decode cX8_aheadOf 62 = .ok (.getfield 213, 3) := by decide +kernel
theorem dX8_aheadOf_65 : decode cX8_aheadOf 65 = .ok (.if_icmp .ge 106, 3) := by decide +kernel
theorem dX8_aheadOf_68 : decode cX8_aheadOf 68 = .ok (.iconst 0, 1) := by decide +kernel
theorem dX8_aheadOf_69 : decode cX8_aheadOf 69 = .ok (.istore 8, 2) := by decide +kernel
theorem dX8_aheadOf_71 : decode cX8_aheadOf 71 = .ok (.iload 8, 2) := by decide +kernel
theorem dX8_aheadOf_73 : decode cX8_aheadOf 73 = .ok (.aload_n 0, 1) := by decide +kernel
theorem dX8_aheadOf_74 : decode cX8_aheadOf 74 = .ok (.getfield 84, 3) := by decide +kernel
theorem dX8_aheadOf_77 : decode cX8_aheadOf 77 = .ok (.iload 7, 2) := by decide +kernel
theorem dX8_aheadOf_79 : decode cX8_aheadOf 79 = .ok (.iaload, 1) := by decide +kernel
theorem dX8_aheadOf_80 : decode cX8_aheadOf 80 = .ok (.if_icmp .ge 41, 3) := by decide +kernel
theorem dX8_aheadOf_83 : decode cX8_aheadOf 83 = .ok (.lload_n 2, 1) := by decide +kernel
theorem dX8_aheadOf_84 : decode cX8_aheadOf 84 = .ok (.aload_n 0, 1) := by decide +kernel
theorem dX8_aheadOf_85 : decode cX8_aheadOf 85 = .ok (.aload_n 1, 1) := by decide +kernel
theorem dX8_aheadOf_86 : decode cX8_aheadOf 86 = .ok (.iload 8, 2) := by decide +kernel
theorem dX8_aheadOf_88 : decode cX8_aheadOf 88 = .ok (.iload 5, 2) := by decide +kernel
theorem dX8_aheadOf_90 : decode cX8_aheadOf 90 = .ok (.iload 6, 2) := by decide +kernel
theorem dX8_aheadOf_92 : decode cX8_aheadOf 92 = .ok (.invokevirtual 199, 3) := by decide +kernel
theorem dX8_aheadOf_95 : decode cX8_aheadOf 95 = .ok (.ifCond .eq 17, 3) := by decide +kernel
theorem dX8_aheadOf_98 : decode cX8_aheadOf 98 = .ok (.aload_n 0, 1) := by decide +kernel
theorem dX8_aheadOf_99 : decode cX8_aheadOf 99 = .ok (.aload_n 1, 1) := by decide +kernel
theorem dX8_aheadOf_100 : decode cX8_aheadOf 100 = .ok (.iload 8, 2) := by decide +kernel
theorem dX8_aheadOf_102 : decode cX8_aheadOf 102 = .ok (.iload 5, 2) := by decide +kernel
theorem dX8_aheadOf_104 : decode cX8_aheadOf 104 = .ok (.iload 4, 2) := by decide +kernel
theorem dX8_aheadOf_106 : decode cX8_aheadOf 106 = .ok (.invokevirtual 219, 3) := by decide +kernel
theorem dX8_aheadOf_109 : decode cX8_aheadOf 109 = .ok (.goto 4, 3) := by decide +kernel
theorem dX8_aheadOf_112 : decode cX8_aheadOf 112 = .ok (.lconst 0, 1) := by decide +kernel
theorem dX8_aheadOf_113 : decode cX8_aheadOf 113 = .ok (.ladd, 1) := by decide +kernel
theorem dX8_aheadOf_114 : decode cX8_aheadOf 114 = .ok (.lstore_n 2, 1) := by decide +kernel
theorem dX8_aheadOf_115 : decode cX8_aheadOf 115 = .ok (.iinc 8 1, 3) := by decide +kernel
theorem dX8_aheadOf_118 : decode cX8_aheadOf 118 = .ok (.goto (-47), 3) := by decide +kernel
theorem dX8_aheadOf_121 : decode cX8_aheadOf 121 = .ok (.iload 4, 2) := by decide +kernel
theorem dX8_aheadOf_123 : decode cX8_aheadOf 123 = .ok (.aload_n 1, 1) := by decide +kernel
theorem dX8_aheadOf_124 : decode cX8_aheadOf 124 = .ok (.bipush 11, 2) := by decide +kernel
theorem dX8_aheadOf_126 : decode cX8_aheadOf 126 = .ok (.aload_n 0, 1) := by decide +kernel
theorem dX8_aheadOf_127 : decode cX8_aheadOf 127 = .ok (.getfield 84, 3) := by decide +kernel
theorem dX8_aheadOf_130 : decode cX8_aheadOf 130 = .ok (.iload 7, 2) := by decide +kernel
theorem dX8_aheadOf_132 : decode cX8_aheadOf 132 = .ok (.iaload, 1) := by decide +kernel
theorem dX8_aheadOf_133 : decode cX8_aheadOf 133 = .ok (.iadd, 1) := by decide +kernel
theorem dX8_aheadOf_134 : decode cX8_aheadOf 134 = .ok (.iaload, 1) := by decide +kernel
theorem dX8_aheadOf_135 : decode cX8_aheadOf 135 = .ok (.isub, 1) := by decide +kernel
theorem dX8_aheadOf_136 : decode cX8_aheadOf 136 = .ok (.istore 4, 2) := by decide +kernel
theorem dX8_aheadOf_138 : decode cX8_aheadOf 138 = .ok (.iload 5, 2) := by decide +kernel
theorem dX8_aheadOf_140 : decode cX8_aheadOf 140 = .ok (.aload_n 0, 1) := by decide +kernel
theorem dX8_aheadOf_141 : decode cX8_aheadOf 141 = .ok (.aload_n 0, 1) := by decide +kernel
theorem dX8_aheadOf_142 : decode cX8_aheadOf 142 = .ok (.getfield 84, 3) := by decide +kernel
theorem dX8_aheadOf_145 : decode cX8_aheadOf 145 = .ok (.iload 7, 2) := by decide +kernel
theorem dX8_aheadOf_147 : decode cX8_aheadOf 147 = .ok (.iaload, 1) := by decide +kernel
theorem dX8_aheadOf_148 : decode cX8_aheadOf 148 = .ok (.invokevirtual 152, 3) := by decide +kernel
theorem dX8_aheadOf_151 : decode cX8_aheadOf 151 = .ok (.iconst 1, 1) := by decide +kernel
theorem dX8_aheadOf_152 : decode cX8_aheadOf 152 = .ok (.iadd, 1) := by decide +kernel
theorem dX8_aheadOf_153 : decode cX8_aheadOf 153 = .ok (.iadd, 1) := by decide +kernel
theorem dX8_aheadOf_154 : decode cX8_aheadOf 154 = .ok (.istore 5, 2) := by decide +kernel
theorem dX8_aheadOf_156 : decode cX8_aheadOf 156 = .ok (.aload_n 0, 1) := by decide +kernel
theorem dX8_aheadOf_157 : decode cX8_aheadOf 157 = .ok (.getfield 84, 3) := by decide +kernel
theorem dX8_aheadOf_160 : decode cX8_aheadOf 160 = .ok (.iload 7, 2) := by decide +kernel
theorem dX8_aheadOf_162 : decode cX8_aheadOf 162 = .ok (.iaload, 1) := by decide +kernel
theorem dX8_aheadOf_163 : decode cX8_aheadOf 163 = .ok (.istore 6, 2) := by decide +kernel
theorem dX8_aheadOf_165 : decode cX8_aheadOf 165 = .ok (.iinc 7 1, 3) := by decide +kernel
theorem dX8_aheadOf_168 : decode cX8_aheadOf 168 = .ok (.goto (-109), 3) := by decide +kernel
theorem dX8_aheadOf_171 : decode cX8_aheadOf 171 = .ok (.lload_n 2, 1) := by decide +kernel
theorem dX8_aheadOf_172 : decode cX8_aheadOf 172 = .ok (.lreturn, 1) := by decide +kernel
theorem dX8_which_0 : decode cX8_which 0 = .ok (.aload_n 0, 1) := by decide +kernel
theorem dX8_which_1 : decode cX8_which 1 = .ok (.iconst 0, 1) := by decide +kernel
theorem dX8_which_2 : decode cX8_which 2 = .ok (.putfield 94, 3) := by decide +kernel
theorem dX8_which_5 : decode cX8_which 5 = .ok (.iload_n 1, 1) := by decide +kernel
theorem dX8_which_6 : decode cX8_which 6 = .ok (.i2l, 1) := by decide +kernel
theorem dX8_which_7 : decode cX8_which 7 = .ok (.lconst 0, 1) := by decide +kernel
theorem dX8_which_8 : decode cX8_which 8 = .ok (.lconst 1, 1) := by decide +kernel
theorem dX8_which_9 : decode cX8_which 9 = .ok (.invokestatic 101, 3) := by decide +kernel
theorem dX8_which_12 : decode cX8_which 12 = .ok (.ifCond .ne 7, 3) := by decide +kernel
theorem dX8_which_15 : decode cX8_which 15 = .ok (.ldc2_w 255, 3) := by decide +kernel
theorem dX8_which_18 : decode cX8_which 18 = .ok (.lreturn, 1) := by decide +kernel
theorem dX8_which_19 : decode cX8_which 19 = .ok (.aload_n 0, 1) := by decide +kernel
theorem dX8_which_20 : decode cX8_which 20 = .ok (.aload_n 0, 1) := by decide +kernel
theorem dX8_which_21 : decode cX8_which 21 = .ok (.getfield 50, 3) := by decide +kernel
theorem dX8_which_24 : decode cX8_which 24 = .ok (.iconst 1, 1) := by decide +kernel
theorem dX8_which_25 : decode cX8_which 25 = .ok (.invokevirtual 223, 3) := by decide +kernel
theorem dX8_which_28 : decode cX8_which 28 = .ok (.lconst 0, 1) := by decide +kernel
theorem dX8_which_29 : decode cX8_which 29 = .ok (.lstore_n 2, 1) := by decide +kernel
theorem dX8_which_30 : decode cX8_which 30 = .ok (.bipush (-9), 2) := by decide +kernel
theorem dX8_which_32 : decode cX8_which 32 = .ok (.istore 4, 2) := by decide +kernel
theorem dX8_which_34 : decode cX8_which 34 = .ok (.iconst 0, 1) := by decide +kernel
theorem dX8_which_35 : decode cX8_which 35 = .ok (.istore 5, 2) := by decide +kernel
theorem dX8_which_37 : decode cX8_which 37 = .ok (.iload 5, 2) := by decide +kernel
theorem dX8_which_39 : decode cX8_which 39 = .ok (.bipush 73, 2) := by decide +kernel
theorem dX8_which_41 : decode cX8_which 41 = .ok (.if_icmp .ge 57, 3) := by decide +kernel
theorem dX8_which_44 : decode cX8_which 44 = .ok (.aload_n 0, 1) := by decide +kernel
theorem dX8_which_45 : decode cX8_which 45 = .ok (.getfield 50, 3) := by decide +kernel
theorem dX8_which_48 : decode cX8_which 48 = .ok (.iconst 0, 1) := by decide +kernel
theorem dX8_which_49 : decode cX8_which 49 = .ok (.iaload, 1) := by decide +kernel
theorem dX8_which_50 : decode cX8_which 50 = .ok (.ifCond .le 48, 3) := by decide +kernel
theorem dX8_which_53 : decode cX8_which 53 = .ok (.lload_n 2, 1) := by decide +kernel
theorem dX8_which_54 : decode cX8_which 54 = .ok (.aload_n 0, 1) := by decide +kernel
theorem dX8_which_55 : decode cX8_which 55 = .ok (.getfield 74, 3) := by decide +kernel
theorem dX8_which_58 : decode cX8_which 58 = .ok (.sipush 584, 3) := by decide +kernel
theorem dX8_which_61 : decode cX8_which 61 = .ok (.iload 5, 2) := by decide +kernel
theorem dX8_which_63 : decode cX8_which 63 = .ok (.iadd, 1) := by decide +kernel
theorem dX8_which_64 : decode cX8_which 64 = .ok (.laload, 1) := by decide +kernel
theorem dX8_which_65 : decode cX8_which 65 = .ok (.ladd, 1) := by decide +kernel
theorem dX8_which_66 : decode cX8_which 66 = .ok (.lstore_n 2, 1) := by decide +kernel
theorem dX8_which_67 : decode cX8_which 67 = .ok (.aload_n 0, 1) := by decide +kernel
theorem dX8_which_68 : decode cX8_which 68 = .ok (.getfield 74, 3) := by decide +kernel
theorem dX8_which_71 : decode cX8_which 71 = .ok (.sipush 584, 3) := by decide +kernel
theorem dX8_which_74 : decode cX8_which 74 = .ok (.iload 5, 2) := by decide +kernel
theorem dX8_which_76 : decode cX8_which 76 = .ok (.iadd, 1) := by decide +kernel
theorem dX8_which_77 : decode cX8_which 77 = .ok (.laload, 1) := by decide +kernel
theorem dX8_which_78 : decode cX8_which 78 = .ok (.lconst 0, 1) := by decide +kernel
theorem dX8_which_79 : decode cX8_which 79 = .ok (.lcmp, 1) := by decide +kernel
theorem dX8_which_80 : decode cX8_which 80 = .ok (.ifCond .le 8, 3) := by decide +kernel
theorem dX8_which_83 : decode cX8_which 83 = .ok (.iload 5, 2) := by decide +kernel
theorem dX8_which_85 : decode cX8_which 85 = .ok (.goto 5, 3) := by decide +kernel
theorem dX8_which_88 : decode cX8_which 88 = .ok (.iload 4, 2) := by decide +kernel
theorem dX8_which_90 : decode cX8_which 90 = .ok (.istore 4, 2) := by decide +kernel
theorem dX8_which_92 : decode cX8_which 92 = .ok (.iinc 5 1, 3) := by decide +kernel
theorem dX8_which_95 : decode cX8_which 95 = .ok (.goto (-58), 3) := by decide +kernel
theorem dX8_which_98 : decode cX8_which 98 = .ok (.iload_n 1, 1) := by decide +kernel
theorem dX8_which_99 : decode cX8_which 99 = .ok (.ifCond .ne 5, 3) := by decide +kernel
theorem dX8_which_102 : decode cX8_which 102 = .ok (.lload_n 2, 1) := by decide +kernel
theorem dX8_which_103 : decode cX8_which 103 = .ok (.lreturn, 1) := by decide +kernel
theorem dX8_which_104 : decode cX8_which 104 = .ok (.iload 4, 2) := by decide +kernel
theorem dX8_which_106 : decode cX8_which 106 = .ok (.bipush (-9), 2) := by decide +kernel
theorem dX8_which_108 : decode cX8_which 108 = .ok (.if_icmp .ne 7, 3) := by decide +kernel
theorem dX8_which_111 : decode cX8_which 111 = .ok (.ldc2_w 272, 3) := by decide +kernel
theorem dX8_which_114 : decode cX8_which 114 = .ok (.lreturn, 1) := by decide +kernel
theorem dX8_which_115 : decode cX8_which 115 = .ok (.aload_n 0, 1) := by decide +kernel
theorem dX8_which_116 : decode cX8_which 116 = .ok (.aload_n 0, 1) := by decide +kernel
theorem dX8_which_117 : decode cX8_which 117 = .ok (.getfield 50, 3) := by decide +kernel
theorem dX8_which_120 : decode cX8_which 120 = .ok (.iload 4, 2) := by decide +kernel
theorem dX8_which_122 : decode cX8_which 122 = .ok (.lconst 0, 1) := by decide +kernel
theorem dX8_which_123 : decode cX8_which 123 = .ok (.iconst 1, 1) := by decide +kernel
theorem dX8_which_124 : decode cX8_which 124 = .ok (.invokevirtual 227, 3) := by decide +kernel
theorem dX8_which_127 : decode cX8_which 127 = .ok (.aload_n 0, 1) := by decide +kernel
theorem dX8_which_128 : decode cX8_which 128 = .ok (.aload_n 0, 1) := by decide +kernel
theorem dX8_which_129 : decode cX8_which 129 = .ok (.getfield 50, 3) := by decide +kernel
theorem dX8_which_132 : decode cX8_which 132 = .ok (.invokevirtual 274, 3) := by decide +kernel
theorem dX8_which_135 : decode cX8_which 135 = .ok (.lreturn, 1) := by decide +kernel
theorem dX8_divisor_0 : decode cX8_divisor 0 = .ok (.lload_n 0, 1) := by decide +kernel
theorem dX8_divisor_1 : decode cX8_divisor 1 = .ok (.lconst 0, 1) := by decide +kernel
theorem dX8_divisor_2 : decode cX8_divisor 2 = .ok (.lcmp, 1) := by decide +kernel
theorem dX8_divisor_3 : decode cX8_divisor 3 = .ok (.ifCond .ge 8, 3) := by decide +kernel
theorem dX8_divisor_6 : decode cX8_divisor 6 = .ok (.lload_n 0, 1) := by decide +kernel
theorem dX8_divisor_7 : decode cX8_divisor 7 = .ok (.lneg, 1) := by decide +kernel
theorem dX8_divisor_8 : decode cX8_divisor 8 = .ok (.goto 4, 3) := by decide +kernel
theorem dX8_divisor_11 : decode cX8_divisor 11 = .ok (.lload_n 0, 1) := by decide +kernel
theorem dX8_divisor_12 : decode cX8_divisor 12 = .ok (.lstore 4, 2) := by decide +kernel
theorem dX8_divisor_14 : decode cX8_divisor 14 = .ok (.lload_n 2, 1) := by decide +kernel
theorem dX8_divisor_15 : decode cX8_divisor 15 = .ok (.lstore 6, 2) := by decide +kernel
theorem dX8_divisor_17 : decode cX8_divisor 17 = .ok (.lload 6, 2) := by decide +kernel
theorem dX8_divisor_19 : decode cX8_divisor 19 = .ok (.lconst 0, 1) := by decide +kernel
theorem dX8_divisor_20 : decode cX8_divisor 20 = .ok (.lcmp, 1) := by decide +kernel
theorem dX8_divisor_21 : decode cX8_divisor 21 = .ok (.ifCond .eq 21, 3) := by decide +kernel
theorem dX8_divisor_24 : decode cX8_divisor 24 = .ok (.lload 4, 2) := by decide +kernel
theorem dX8_divisor_26 : decode cX8_divisor 26 = .ok (.lload 6, 2) := by decide +kernel
theorem dX8_divisor_28 : decode cX8_divisor 28 = .ok (.lrem, 1) := by decide +kernel
theorem dX8_divisor_29 : decode cX8_divisor 29 = .ok (.lstore 8, 2) := by decide +kernel
theorem dX8_divisor_31 : decode cX8_divisor 31 = .ok (.lload 6, 2) := by decide +kernel
theorem dX8_divisor_33 : decode cX8_divisor 33 = .ok (.lstore 4, 2) := by decide +kernel
theorem dX8_divisor_35 : decode cX8_divisor 35 = .ok (.lload 8, 2) := by decide +kernel
theorem dX8_divisor_37 : decode cX8_divisor 37 = .ok (.lstore 6, 2) := by decide +kernel
theorem dX8_divisor_39 : decode cX8_divisor 39 = .ok (.goto (-22), 3) := by decide +kernel
theorem dX8_divisor_42 : decode cX8_divisor 42 = .ok (.lload 4, 2) := by decide +kernel
theorem dX8_divisor_44 : decode cX8_divisor 44 = .ok (.lreturn, 1) := by decide +kernel
theorem dX8_fraction_0 : decode cX8_fraction 0 = .ok (.lload_n 0, 1) := by decide +kernel
theorem dX8_fraction_1 : decode cX8_fraction 1 = .ok (.lload_n 2, 1) := by decide +kernel
theorem dX8_fraction_2 : decode cX8_fraction 2 = .ok (.invokestatic 277, 3) := by decide +kernel
theorem dX8_fraction_5 : decode cX8_fraction 5 = .ok (.lstore 5, 2) := by decide +kernel
theorem dX8_fraction_7 : decode cX8_fraction 7 = .ok (.iload 4, 2) := by decide +kernel
theorem dX8_fraction_9 : decode cX8_fraction 9 = .ok (.ifCond .eq 10, 3) := by decide +kernel
theorem dX8_fraction_12 : decode cX8_fraction 12 = .ok (.lload_n 0, 1) := by decide +kernel
theorem dX8_fraction_13 : decode cX8_fraction 13 = .ok (.lload 5, 2) := by decide +kernel
theorem dX8_fraction_15 : decode cX8_fraction 15 = .ok (.ldiv, 1) := by decide +kernel
theorem dX8_fraction_16 : decode cX8_fraction 16 = .ok (.goto 7, 3) := by decide +kernel
theorem dX8_fraction_19 : decode cX8_fraction 19 = .ok (.lload_n 2, 1) := by decide +kernel
theorem dX8_fraction_20 : decode cX8_fraction 20 = .ok (.lload 5, 2) := by decide +kernel
theorem dX8_fraction_22 : decode cX8_fraction 22 = .ok (.ldiv, 1) := by decide +kernel
theorem dX8_fraction_23 : decode cX8_fraction 23 = .ok (.lreturn, 1) := by decide +kernel
theorem dX8_factorial_0 : decode cX8_factorial 0 = .ok (.lconst 1, 1) := by decide +kernel
theorem dX8_factorial_1 : decode cX8_factorial 1 = .ok (.lstore_n 1, 1) := by decide +kernel
theorem dX8_factorial_2 : decode cX8_factorial 2 = .ok (.iconst 2, 1) := by decide +kernel
theorem dX8_factorial_3 : decode cX8_factorial 3 = .ok (.istore_n 3, 1) := by decide +kernel
theorem dX8_factorial_4 : decode cX8_factorial 4 = .ok (.iload_n 3, 1) := by decide +kernel
theorem dX8_factorial_5 : decode cX8_factorial 5 = .ok (.iload_n 0, 1) := by decide +kernel
theorem dX8_factorial_6 : decode cX8_factorial 6 = .ok (.if_icmp .gt 14, 3) := by decide +kernel
theorem dX8_factorial_9 : decode cX8_factorial 9 = .ok (.lload_n 1, 1) := by decide +kernel
theorem dX8_factorial_10 : decode cX8_factorial 10 = .ok (.iload_n 3, 1) := by decide +kernel
theorem dX8_factorial_11 : decode cX8_factorial 11 = .ok (.i2l, 1) := by decide +kernel
theorem dX8_factorial_12 : decode cX8_factorial 12 = .ok (.lmul, 1) := by decide +kernel
theorem dX8_factorial_13 : decode cX8_factorial 13 = .ok (.lstore_n 1, 1) := by decide +kernel
theorem dX8_factorial_14 : decode cX8_factorial 14 = .ok (.iinc 3 1, 3) := by decide +kernel
theorem dX8_factorial_17 : decode cX8_factorial 17 = .ok (.goto (-13), 3) := by decide +kernel
theorem dX8_factorial_20 : decode cX8_factorial 20 = .ok (.lload_n 1, 1) := by decide +kernel
theorem dX8_factorial_21 : decode cX8_factorial 21 = .ok (.lreturn, 1) := by decide +kernel
theorem dX8_weighSets_0 : decode cX8_weighSets 0 = .ok (.aload_n 0, 1) := by decide +kernel
theorem dX8_weighSets_1 : decode cX8_weighSets 1 = .ok (.getfield 53, 3) := by decide +kernel
theorem dX8_weighSets_4 : decode cX8_weighSets 4 = .ok (.aload_n 0, 1) := by decide +kernel
theorem dX8_weighSets_5 : decode cX8_weighSets 5 = .ok (.getfield 50, 3) := by decide +kernel
theorem dX8_weighSets_8 : decode cX8_weighSets 8 = .ok (.invokestatic 141, 3) := by decide +kernel
theorem dX8_weighSets_11 : decode cX8_weighSets 11 = .ok (.iconst 0, 1) := by decide +kernel
theorem dX8_weighSets_12 : decode cX8_weighSets 12 = .ok (.istore_n 1, 1) := by decide +kernel
theorem dX8_weighSets_13 : decode cX8_weighSets 13 = .ok (.iload_n 1, 1) := by decide +kernel
theorem dX8_weighSets_14 : decode cX8_weighSets 14 = .ok (.iconst 1, 1) := by decide +kernel
theorem dX8_weighSets_15 : decode cX8_weighSets 15 = .ok (.aload_n 0, 1) := by decide +kernel
theorem dX8_weighSets_16 : decode cX8_weighSets 16 = .ok (.getfield 98, 3) := by decide +kernel
theorem dX8_weighSets_19 : decode cX8_weighSets 19 = .ok (.ishl, 1) := by decide +kernel
theorem dX8_weighSets_20 : decode cX8_weighSets 20 = .ok (.if_icmp .ge 48, 3) := by decide +kernel
theorem dX8_weighSets_23 : decode cX8_weighSets 23 = .ok (.aload_n 0, 1) := by decide +kernel
theorem dX8_weighSets_24 : decode cX8_weighSets 24 = .ok (.getfield 53, 3) := by decide +kernel
theorem dX8_weighSets_27 : decode cX8_weighSets 27 = .ok (.iconst 1, 1) := by decide +kernel
theorem dX8_weighSets_28 : decode cX8_weighSets 28 = .ok (.aload_n 0, 1) := by decide +kernel
theorem dX8_weighSets_29 : decode cX8_weighSets 29 = .ok (.getfield 50, 3) := by decide +kernel
theorem dX8_weighSets_32 : decode cX8_weighSets 32 = .ok (.iconst 1, 1) := by decide +kernel
theorem dX8_weighSets_33 : decode cX8_weighSets 33 = .ok (.iaload, 1) := by decide +kernel
theorem dX8_weighSets_34 : decode cX8_weighSets 34 = .ok (.iconst 1, 1) := by decide +kernel
theorem dX8_weighSets_35 : decode cX8_weighSets 35 = .ok (.aload_n 0, 1) := by decide +kernel
theorem dX8_weighSets_36 : decode cX8_weighSets 36 = .ok (.getfield 98, 3) := by decide +kernel
theorem dX8_weighSets_39 : decode cX8_weighSets 39 = .ok (.ishl, 1) := by decide +kernel
theorem dX8_weighSets_40 : decode cX8_weighSets 40 = .ok (.iconst 1, 1) := by decide +kernel
theorem dX8_weighSets_41 : decode cX8_weighSets 41 = .ok (.isub, 1) := by decide +kernel
theorem dX8_weighSets_42 : decode cX8_weighSets 42 = .ok (.iload_n 1, 1) := by decide +kernel
theorem dX8_weighSets_43 : decode cX8_weighSets 43 = .ok (.iconst (-1), 1) := by decide +kernel
theorem dX8_weighSets_44 : decode cX8_weighSets 44 = .ok (.ixor, 1) := by decide +kernel
theorem dX8_weighSets_45 : decode cX8_weighSets 45 = .ok (.iand, 1) := by decide +kernel
theorem dX8_weighSets_46 : decode cX8_weighSets 46 = .ok (.ior, 1) := by decide +kernel
theorem dX8_weighSets_47 : decode cX8_weighSets 47 = .ok (.iastore, 1) := by decide +kernel
theorem dX8_weighSets_48 : decode cX8_weighSets 48 = .ok (.aload_n 0, 1) := by decide +kernel
theorem dX8_weighSets_49 : decode cX8_weighSets 49 = .ok (.getfield 87, 3) := by decide +kernel
theorem dX8_weighSets_52 : decode cX8_weighSets 52 = .ok (.iload_n 1, 1) := by decide +kernel
theorem dX8_weighSets_53 : decode cX8_weighSets 53 = .ok (.aload_n 0, 1) := by decide +kernel
theorem dX8_weighSets_54 : decode cX8_weighSets 54 = .ok (.aload_n 0, 1) := by decide +kernel
theorem dX8_weighSets_55 : decode cX8_weighSets 55 = .ok (.getfield 53, 3) := by decide +kernel
theorem dX8_weighSets_58 : decode cX8_weighSets 58 = .ok (.invokevirtual 231, 3) := by decide +kernel
theorem dX8_weighSets_61 : decode cX8_weighSets 61 = .ok (.lastore, 1) := by decide +kernel
theorem dX8_weighSets_62 : decode cX8_weighSets 62 = .ok (.iinc 1 1, 3) := by decide +kernel
theorem dX8_weighSets_65 : decode cX8_weighSets 65 = .ok (.goto (-52), 3) := by decide +kernel
theorem dX8_weighSets_68 : decode cX8_weighSets 68 = .ok (.return_, 1) := by decide +kernel
theorem dX8_share_0 : decode cX8_share 0 = .ok (.aload_n 0, 1) := by decide +kernel
theorem dX8_share_1 : decode cX8_share 1 = .ok (.iconst 0, 1) := by decide +kernel
theorem dX8_share_2 : decode cX8_share 2 = .ok (.putfield 94, 3) := by decide +kernel
theorem dX8_share_5 : decode cX8_share 5 = .ok (.aload_n 0, 1) := by decide +kernel
theorem dX8_share_6 : decode cX8_share 6 = .ok (.iload_n 1, 1) := by decide +kernel
theorem dX8_share_7 : decode cX8_share 7 = .ok (.invokevirtual 148, 3) := by decide +kernel
theorem dX8_share_10 : decode cX8_share 10 = .ok (.ifCond .eq 7, 3) := by decide +kernel
theorem dX8_share_13 : decode cX8_share 13 = .ok (.ldc2_w 250, 3) := by decide +kernel
theorem dX8_share_16 : decode cX8_share 16 = .ok (.lreturn, 1) := by decide +kernel
theorem dX8_share_17 : decode cX8_share 17 = .ok (.aload_n 0, 1) := by decide +kernel
theorem dX8_share_18 : decode cX8_share 18 = .ok (.invokevirtual 281, 3) := by decide +kernel
theorem dX8_share_21 : decode cX8_share 21 = .ok (.lconst 0, 1) := by decide +kernel
theorem dX8_share_22 : decode cX8_share 22 = .ok (.lstore_n 3, 1) := by decide +kernel
theorem dX8_share_23 : decode cX8_share 23 = .ok (.iconst 0, 1) := by decide +kernel
theorem dX8_share_24 : decode cX8_share 24 = .ok (.istore 5, 2) := by decide +kernel
theorem dX8_share_26 : decode cX8_share 26 = .ok (.iload 5, 2) := by decide +kernel
theorem dX8_share_28 : decode cX8_share 28 = .ok (.iconst 1, 1) := by decide +kernel
theorem dX8_share_29 : decode cX8_share 29 = .ok (.aload_n 0, 1) := by decide +kernel
theorem dX8_share_30 : decode cX8_share 30 = .ok (.getfield 98, 3) := by decide +kernel
theorem dX8_share_33 : decode cX8_share 33 = .ok (.ishl, 1) := by decide +kernel
theorem dX8_share_34 : decode cX8_share 34 = .ok (.if_icmp .ge 70, 3) := by decide +kernel
theorem dX8_share_37 : decode cX8_share 37 = .ok (.iload 5, 2) := by decide +kernel
theorem dX8_share_39 : decode cX8_share 39 = .ok (.invokestatic 284, 3) := by decide +kernel
theorem dX8_share_42 : decode cX8_share 42 = .ok (.istore 6, 2) := by decide +kernel
theorem dX8_share_44 : decode cX8_share 44 = .ok (.lload_n 3, 1) := by decide +kernel
theorem dX8_share_45 : decode cX8_share 45 = .ok (.iload 5, 2) := by decide +kernel
theorem dX8_share_47 : decode cX8_share 47 = .ok (.iload_n 1, 1) := by decide +kernel
theorem dX8_share_48 : decode cX8_share 48 = .ok (.invokestatic 186, 3) := by decide +kernel
theorem dX8_share_51 : decode cX8_share 51 = .ok (.ifCond .eq 7, 3) := by decide +kernel
theorem dX8_share_54 : decode cX8_share 54 = .ok (.lconst 0, 1) := by decide +kernel
theorem dX8_share_55 : decode cX8_share 55 = .ok (.goto 41, 3) := by decide +kernel
theorem dX8_share_58 : decode cX8_share 58 = .ok (.iload 6, 2) := by decide +kernel
theorem dX8_share_60 : decode cX8_share 60 = .ok (.invokestatic 287, 3) := by decide +kernel
theorem dX8_share_63 : decode cX8_share 63 = .ok (.aload_n 0, 1) := by decide +kernel
theorem dX8_share_64 : decode cX8_share 64 = .ok (.getfield 98, 3) := by decide +kernel
theorem dX8_share_67 : decode cX8_share 67 = .ok (.iconst 1, 1) := by decide +kernel
theorem dX8_share_68 : decode cX8_share 68 = .ok (.isub, 1) := by decide +kernel
theorem dX8_share_69 : decode cX8_share 69 = .ok (.iload 6, 2) := by decide +kernel
theorem dX8_share_71 : decode cX8_share 71 = .ok (.isub, 1) := by decide +kernel
theorem dX8_share_72 : decode cX8_share 72 = .ok (.invokestatic 287, 3) := by decide +kernel
theorem dX8_share_75 : decode cX8_share 75 = .ok (.lmul, 1) := by decide +kernel
theorem dX8_share_76 : decode cX8_share 76 = .ok (.aload_n 0, 1) := by decide +kernel
theorem dX8_share_77 : decode cX8_share 77 = .ok (.getfield 87, 3) := by decide +kernel
theorem dX8_share_80 : decode cX8_share 80 = .ok (.iload 5, 2) := by decide +kernel
theorem dX8_share_82 : decode cX8_share 82 = .ok (.iconst 1, 1) := by decide +kernel
theorem dX8_share_83 : decode cX8_share 83 = .ok (.iload_n 1, 1) := by decide +kernel
theorem dX8_share_84 : decode cX8_share 84 = .ok (.ishl, 1) := by decide +kernel
theorem dX8_share_85 : decode cX8_share 85 = .ok (.ior, 1) := by decide +kernel
theorem dX8_share_86 : decode cX8_share 86 = .ok (.laload, 1) := by decide +kernel
theorem dX8_share_87 : decode cX8_share 87 = .ok (.aload_n 0, 1) := by decide +kernel
theorem dX8_share_88 : decode cX8_share 88 = .ok (.getfield 87, 3) := by decide +kernel
theorem dX8_share_91 : decode cX8_share 91 = .ok (.iload 5, 2) := by decide +kernel
theorem dX8_share_93 : decode cX8_share 93 = .ok (.laload, 1) := by decide +kernel
theorem dX8_share_94 : decode cX8_share 94 = .ok (.lsub, 1) := by decide +kernel
theorem dX8_share_95 : decode cX8_share 95 = .ok (.lmul, 1) := by decide +kernel
theorem dX8_share_96 : decode cX8_share 96 = .ok (.ladd, 1) := by decide +kernel
theorem dX8_share_97 : decode cX8_share 97 = .ok (.lstore_n 3, 1) := by decide +kernel
theorem dX8_share_98 : decode cX8_share 98 = .ok (.iinc 5 1, 3) := by decide +kernel
theorem dX8_share_101 : decode cX8_share 101 = .ok (.goto (-75), 3) := by decide +kernel
theorem dX8_share_104 : decode cX8_share 104 = .ok (.lload_n 3, 1) := by decide +kernel
theorem dX8_share_105 : decode cX8_share 105 = .ok (.aload_n 0, 1) := by decide +kernel
theorem dX8_share_106 : decode cX8_share 106 = .ok (.getfield 98, 3) := by decide +kernel
theorem dX8_share_109 : decode cX8_share 109 = .ok (.invokestatic 287, 3) := by decide +kernel
theorem dX8_share_112 : decode cX8_share 112 = .ok (.iload_n 2, 1) := by decide +kernel
theorem dX8_share_113 : decode cX8_share 113 = .ok (.invokestatic 291, 3) := by decide +kernel
theorem dX8_share_116 : decode cX8_share 116 = .ok (.lreturn, 1) := by decide +kernel
theorem dX8_lost_0 : decode cX8_lost 0 = .ok (.aload_n 0, 1) := by decide +kernel
theorem dX8_lost_1 : decode cX8_lost 1 = .ok (.iconst 0, 1) := by decide +kernel
theorem dX8_lost_2 : decode cX8_lost 2 = .ok (.putfield 94, 3) := by decide +kernel
theorem dX8_lost_5 : decode cX8_lost 5 = .ok (.iload_n 1, 1) := by decide +kernel
theorem dX8_lost_6 : decode cX8_lost 6 = .ok (.i2l, 1) := by decide +kernel
theorem dX8_lost_7 : decode cX8_lost 7 = .ok (.lconst 0, 1) := by decide +kernel
theorem dX8_lost_8 : decode cX8_lost 8 = .ok (.ldc2_w 295, 3) := by decide +kernel
theorem dX8_lost_11 : decode cX8_lost 11 = .ok (.invokestatic 101, 3) := by decide +kernel
theorem dX8_lost_14 : decode cX8_lost 14 = .ok (.ifCond .ne 6, 3) := by decide +kernel
theorem dX8_lost_17 : decode cX8_lost 17 = .ok (.bipush (-2), 2) := by decide +kernel
theorem dX8_lost_19 : decode cX8_lost 19 = .ok (.ireturn, 1) := by decide +kernel
theorem dX8_lost_20 : decode cX8_lost 20 = .ok (.aload_n 0, 1) := by decide +kernel
theorem dX8_lost_21 : decode cX8_lost 21 = .ok (.invokevirtual 281, 3) := by decide +kernel
theorem dX8_lost_24 : decode cX8_lost 24 = .ok (.lconst 0, 1) := by decide +kernel
theorem dX8_lost_25 : decode cX8_lost 25 = .ok (.lstore_n 3, 1) := by decide +kernel
theorem dX8_lost_26 : decode cX8_lost 26 = .ok (.iconst 0, 1) := by decide +kernel
theorem dX8_lost_27 : decode cX8_lost 27 = .ok (.istore 5, 2) := by decide +kernel
theorem dX8_lost_29 : decode cX8_lost 29 = .ok (.iload 5, 2) := by decide +kernel
theorem dX8_lost_31 : decode cX8_lost 31 = .ok (.iconst 1, 1) := by decide +kernel
theorem dX8_lost_32 : decode cX8_lost 32 = .ok (.aload_n 0, 1) := by decide +kernel
theorem dX8_lost_33 : decode cX8_lost 33 = .ok (.getfield 98, 3) := by decide +kernel
theorem dX8_lost_36 : decode cX8_lost 36 = .ok (.ishl, 1) := by decide +kernel
theorem dX8_lost_37 : decode cX8_lost 37 = .ok (.if_icmp .ge 57, 3) := by decide +kernel
theorem dX8_lost_40 : decode cX8_lost 40 = .ok (.iload 5, 2) := by decide +kernel
theorem dX8_lost_42 : decode cX8_lost 42 = .ok (.invokestatic 284, 3) := by decide +kernel
theorem dX8_lost_45 : decode cX8_lost 45 = .ok (.istore 6, 2) := by decide +kernel
theorem dX8_lost_47 : decode cX8_lost 47 = .ok (.lload_n 3, 1) := by decide +kernel
theorem dX8_lost_48 : decode cX8_lost 48 = .ok (.aload_n 0, 1) := by decide +kernel
theorem dX8_lost_49 : decode cX8_lost 49 = .ok (.getfield 87, 3) := by decide +kernel
theorem dX8_lost_52 : decode cX8_lost 52 = .ok (.iload 5, 2) := by decide +kernel
theorem dX8_lost_54 : decode cX8_lost 54 = .ok (.laload, 1) := by decide +kernel
theorem dX8_lost_55 : decode cX8_lost 55 = .ok (.lconst 0, 1) := by decide +kernel
theorem dX8_lost_56 : decode cX8_lost 56 = .ok (.lcmp, 1) := by decide +kernel
theorem dX8_lost_57 : decode cX8_lost 57 = .ok (.ifCond .le 28, 3) := by decide +kernel
theorem dX8_lost_60 : decode cX8_lost 60 = .ok (.bipush 10, 2) := by decide +kernel
theorem dX8_lost_62 : decode cX8_lost 62 = .ok (.iload_n 1, 1) := by decide +kernel
theorem dX8_lost_63 : decode cX8_lost 63 = .ok (.isub, 1) := by decide +kernel
theorem dX8_lost_64 : decode cX8_lost 64 = .ok (.iload 6, 2) := by decide +kernel
theorem dX8_lost_66 : decode cX8_lost 66 = .ok (.invokestatic 297, 3) := by decide +kernel
theorem dX8_lost_69 : decode cX8_lost 69 = .ok (.iload_n 1, 1) := by decide +kernel
theorem dX8_lost_70 : decode cX8_lost 70 = .ok (.aload_n 0, 1) := by decide +kernel
theorem dX8_lost_71 : decode cX8_lost 71 = .ok (.getfield 98, 3) := by decide +kernel
theorem dX8_lost_74 : decode cX8_lost 74 = .ok (.iload 6, 2) := by decide +kernel
theorem dX8_lost_76 : decode cX8_lost 76 = .ok (.isub, 1) := by decide +kernel
theorem dX8_lost_77 : decode cX8_lost 77 = .ok (.invokestatic 297, 3) := by decide +kernel
theorem dX8_lost_80 : decode cX8_lost 80 = .ok (.imul, 1) := by decide +kernel
theorem dX8_lost_81 : decode cX8_lost 81 = .ok (.i2l, 1) := by decide +kernel
theorem dX8_lost_82 : decode cX8_lost 82 = .ok (.goto 4, 3) := by decide +kernel
theorem dX8_lost_85 : decode cX8_lost 85 = .ok (.lconst 0, 1) := by decide +kernel
theorem dX8_lost_86 : decode cX8_lost 86 = .ok (.ladd, 1) := by decide +kernel
theorem dX8_lost_87 : decode cX8_lost 87 = .ok (.lstore_n 3, 1) := by decide +kernel
theorem dX8_lost_88 : decode cX8_lost 88 = .ok (.iinc 5 1, 3) := by decide +kernel
theorem dX8_lost_91 : decode cX8_lost 91 = .ok (.goto (-62), 3) := by decide +kernel
theorem dX8_lost_94 : decode cX8_lost 94 = .ok (.lload_n 3, 1) := by decide +kernel
theorem dX8_lost_95 : decode cX8_lost 95 = .ok (.bipush 10, 2) := by decide +kernel
theorem dX8_lost_97 : decode cX8_lost 97 = .ok (.aload_n 0, 1) := by decide +kernel
theorem dX8_lost_98 : decode cX8_lost 98 = .ok (.getfield 98, 3) := by decide +kernel
theorem dX8_lost_101 : decode cX8_lost 101 = .ok (.invokestatic 297, 3) := by decide +kernel
theorem dX8_lost_104 : decode cX8_lost 104 = .ok (.i2l, 1) := by decide +kernel
theorem dX8_lost_105 : decode cX8_lost 105 = .ok (.iload_n 2, 1) := by decide +kernel
theorem dX8_lost_106 : decode cX8_lost 106 = .ok (.invokestatic 291, 3) := by decide +kernel
theorem dX8_lost_109 : decode cX8_lost 109 = .ok (.l2i, 1) := by decide +kernel
theorem dX8_lost_110 : decode cX8_lost 110 = .ok (.ireturn, 1) := by decide +kernel
theorem dX8_seed_0 : decode cX8_seed 0 = .ok (.aload_n 0, 1) := by decide +kernel
theorem dX8_seed_1 : decode cX8_seed 1 = .ok (.iconst 0, 1) := by decide +kernel
theorem dX8_seed_2 : decode cX8_seed 2 = .ok (.putfield 94, 3) := by decide +kernel
theorem dX8_seed_5 : decode cX8_seed 5 = .ok (.aload_n 0, 1) := by decide +kernel
theorem dX8_seed_6 : decode cX8_seed 6 = .ok (.getfield 301, 3) := by decide +kernel
theorem dX8_seed_9 : decode cX8_seed 9 = .ok (.lstore_n 3, 1) := by decide +kernel
theorem dX8_seed_10 : decode cX8_seed 10 = .ok (.aload_n 0, 1) := by decide +kernel
theorem dX8_seed_11 : decode cX8_seed 11 = .ok (.lload_n 1, 1) := by decide +kernel
theorem dX8_seed_12 : decode cX8_seed 12 = .ok (.putfield 301, 3) := by decide +kernel
theorem dX8_seed_15 : decode cX8_seed 15 = .ok (.lload_n 3, 1) := by decide +kernel
theorem dX8_seed_16 : decode cX8_seed 16 = .ok (.lreturn, 1) := by decide +kernel
theorem dX8_drawn_0 : decode cX8_drawn 0 = .ok (.aload_n 0, 1) := by decide +kernel
theorem dX8_drawn_1 : decode cX8_drawn 1 = .ok (.iconst 0, 1) := by decide +kernel
theorem dX8_drawn_2 : decode cX8_drawn 2 = .ok (.putfield 94, 3) := by decide +kernel
theorem dX8_drawn_5 : decode cX8_drawn 5 = .ok (.iload_n 1, 1) := by decide +kernel
theorem dX8_drawn_6 : decode cX8_drawn 6 = .ok (.i2l, 1) := by decide +kernel
theorem dX8_drawn_7 : decode cX8_drawn 7 = .ok (.lconst 1, 1) := by decide +kernel
theorem dX8_drawn_8 : decode cX8_drawn 8 = .ok (.ldc2_w 305, 3) := by decide +kernel
theorem dX8_drawn_11 : decode cX8_drawn 11 = .ok (.invokestatic 101, 3) := by decide +kernel
theorem dX8_drawn_14 : decode cX8_drawn 14 = .ok (.ifCond .ne 6, 3) := by decide +kernel
theorem dX8_drawn_17 : decode cX8_drawn 17 = .ok (.bipush (-2), 2) := by decide +kernel
theorem dX8_drawn_19 : decode cX8_drawn 19 = .ok (.ireturn, 1) := by decide +kernel
theorem dX8_drawn_20 : decode cX8_drawn 20 = .ok (.aload_n 0, 1) := by decide +kernel
theorem dX8_drawn_21 : decode cX8_drawn 21 = .ok (.aload_n 0, 1) := by decide +kernel
theorem dX8_drawn_22 : decode cX8_drawn 22 = .ok (.getfield 50, 3) := by decide +kernel
theorem dX8_drawn_25 : decode cX8_drawn 25 = .ok (.invokevirtual 231, 3) := by decide +kernel
theorem dX8_drawn_28 : decode cX8_drawn 28 = .ok (.lstore_n 2, 1) := by decide +kernel
theorem dX8_drawn_29 : decode cX8_drawn 29 = .ok (.iconst 0, 1) := by decide +kernel
theorem dX8_drawn_30 : decode cX8_drawn 30 = .ok (.istore 4, 2) := by decide +kernel
theorem dX8_drawn_32 : decode cX8_drawn 32 = .ok (.iconst 0, 1) := by decide +kernel
theorem dX8_drawn_33 : decode cX8_drawn 33 = .ok (.istore 5, 2) := by decide +kernel
theorem dX8_drawn_35 : decode cX8_drawn 35 = .ok (.iload 5, 2) := by decide +kernel
theorem dX8_drawn_37 : decode cX8_drawn 37 = .ok (.iload_n 1, 1) := by decide +kernel
theorem dX8_drawn_38 : decode cX8_drawn 38 = .ok (.if_icmp .ge 64, 3) := by decide +kernel
theorem dX8_drawn_41 : decode cX8_drawn 41 = .ok (.aload_n 0, 1) := by decide +kernel
theorem dX8_drawn_42 : decode cX8_drawn 42 = .ok (.aload_n 0, 1) := by decide +kernel
theorem dX8_drawn_43 : decode cX8_drawn 43 = .ok (.getfield 301, 3) := by decide +kernel
theorem dX8_drawn_46 : decode cX8_drawn 46 = .ok (.ldc2_w 307, 3) := by decide +kernel
theorem dX8_drawn_49 : decode cX8_drawn 49 = .ok (.lmul, 1) := by decide +kernel
theorem dX8_drawn_50 : decode cX8_drawn 50 = .ok (.ldc2_w 309, 3) := by decide +kernel
theorem dX8_drawn_53 : decode cX8_drawn 53 = .ok (.ladd, 1) := by decide +kernel
theorem dX8_drawn_54 : decode cX8_drawn 54 = .ok (.putfield 301, 3) := by decide +kernel
theorem dX8_drawn_57 : decode cX8_drawn 57 = .ok (.iload 4, 2) := by decide +kernel
theorem dX8_drawn_59 : decode cX8_drawn 59 = .ok (.lload_n 2, 1) := by decide +kernel
theorem dX8_drawn_60 : decode cX8_drawn 60 = .ok (.lconst 0, 1) := by decide +kernel
theorem dX8_drawn_61 : decode cX8_drawn 61 = .ok (.lcmp, 1) := by decide +kernel
theorem dX8_drawn_62 : decode cX8_drawn 62 = .ok (.ifCond .le 30, 3) := by decide +kernel
theorem dX8_drawn_65 : decode cX8_drawn 65 = .ok (.aload_n 0, 1) := by decide +kernel
theorem dX8_drawn_66 : decode cX8_drawn 66 = .ok (.aload_n 0, 1) := by decide +kernel
theorem dX8_drawn_67 : decode cX8_drawn 67 = .ok (.getfield 50, 3) := by decide +kernel
theorem dX8_drawn_70 : decode cX8_drawn 70 = .ok (.aload_n 0, 1) := by decide +kernel
theorem dX8_drawn_71 : decode cX8_drawn 71 = .ok (.getfield 301, 3) := by decide +kernel
theorem dX8_drawn_74 : decode cX8_drawn 74 = .ok (.bipush 33, 2) := by decide +kernel
theorem dX8_drawn_76 : decode cX8_drawn 76 = .ok (.lushr, 1) := by decide +kernel
theorem dX8_drawn_77 : decode cX8_drawn 77 = .ok (.lload_n 2, 1) := by decide +kernel
theorem dX8_drawn_78 : decode cX8_drawn 78 = .ok (.lrem, 1) := by decide +kernel
theorem dX8_drawn_79 : decode cX8_drawn 79 = .ok (.invokevirtual 235, 3) := by decide +kernel
theorem dX8_drawn_82 : decode cX8_drawn 82 = .ok (.ifCond .eq 10, 3) := by decide +kernel
theorem dX8_drawn_85 : decode cX8_drawn 85 = .ok (.aload_n 0, 1) := by decide +kernel
theorem dX8_drawn_86 : decode cX8_drawn 86 = .ok (.getfield 216, 3) := by decide +kernel
theorem dX8_drawn_89 : decode cX8_drawn 89 = .ok (.goto 4, 3) := by decide +kernel
theorem dX8_drawn_92 : decode cX8_drawn 92 = .ok (.iconst 0, 1) := by decide +kernel
theorem dX8_drawn_93 : decode cX8_drawn 93 = .ok (.iadd, 1) := by decide +kernel
theorem dX8_drawn_94 : decode cX8_drawn 94 = .ok (.istore 4, 2) := by decide +kernel
theorem dX8_drawn_96 : decode cX8_drawn 96 = .ok (.iinc 5 1, 3) := by decide +kernel
theorem dX8_drawn_99 : decode cX8_drawn 99 = .ok (.goto (-64), 3) := by decide +kernel
theorem dX8_drawn_102 : decode cX8_drawn 102 = .ok (.iload 4, 2) := by decide +kernel
theorem dX8_drawn_104 : decode cX8_drawn 104 = .ok (.ireturn, 1) := by decide +kernel
theorem dX8_keep_0 : decode cX8_keep 0 = .ok (.aload_n 0, 1) := by decide +kernel
theorem dX8_keep_1 : decode cX8_keep 1 = .ok (.iconst 0, 1) := by decide +kernel
theorem dX8_keep_2 : decode cX8_keep 2 = .ok (.putfield 94, 3) := by decide +kernel
theorem dX8_keep_5 : decode cX8_keep 5 = .ok (.iload_n 1, 1) := by decide +kernel
theorem dX8_keep_6 : decode cX8_keep 6 = .ok (.i2l, 1) := by decide +kernel
theorem dX8_keep_7 : decode cX8_keep 7 = .ok (.lconst 0, 1) := by decide +kernel
theorem dX8_keep_8 : decode cX8_keep 8 = .ok (.lconst 1, 1) := by decide +kernel
theorem dX8_keep_9 : decode cX8_keep 9 = .ok (.invokestatic 101, 3) := by decide +kernel
theorem dX8_keep_12 : decode cX8_keep 12 = .ok (.ifCond .ne 5, 3) := by decide +kernel
theorem dX8_keep_15 : decode cX8_keep 15 = .ok (.iconst (-1), 1) := by decide +kernel
theorem dX8_keep_16 : decode cX8_keep 16 = .ok (.ireturn, 1) := by decide +kernel
theorem dX8_keep_17 : decode cX8_keep 17 = .ok (.aload_n 0, 1) := by decide +kernel
theorem dX8_keep_18 : decode cX8_keep 18 = .ok (.getfield 62, 3) := by decide +kernel
theorem dX8_keep_21 : decode cX8_keep 21 = .ok (.iload_n 1, 1) := by decide +kernel
theorem dX8_keep_22 : decode cX8_keep 22 = .ok (.iconst 1, 1) := by decide +kernel
theorem dX8_keep_23 : decode cX8_keep 23 = .ok (.bastore, 1) := by decide +kernel
theorem dX8_keep_24 : decode cX8_keep 24 = .ok (.iconst 0, 1) := by decide +kernel
theorem dX8_keep_25 : decode cX8_keep 25 = .ok (.istore_n 2, 1) := by decide +kernel
theorem dX8_keep_26 : decode cX8_keep 26 = .ok (.iload_n 2, 1) := by decide +kernel
theorem dX8_keep_27 : decode cX8_keep 27 = .ok (.bipush 43, 2) := by decide +kernel
theorem dX8_keep_29 : decode cX8_keep 29 = .ok (.if_icmp .ge 26, 3) := by decide +kernel
theorem dX8_keep_32 : decode cX8_keep 32 = .ok (.aload_n 0, 1) := by decide +kernel
theorem dX8_keep_33 : decode cX8_keep 33 = .ok (.getfield 59, 3) := by decide +kernel
theorem dX8_keep_36 : decode cX8_keep 36 = .ok (.bipush 43, 2) := by decide +kernel
theorem dX8_keep_38 : decode cX8_keep 38 = .ok (.iload_n 1, 1) := by decide +kernel
theorem dX8_keep_39 : decode cX8_keep 39 = .ok (.imul, 1) := by decide +kernel
theorem dX8_keep_40 : decode cX8_keep 40 = .ok (.iload_n 2, 1) := by decide +kernel
theorem dX8_keep_41 : decode cX8_keep 41 = .ok (.iadd, 1) := by decide +kernel
theorem dX8_keep_42 : decode cX8_keep 42 = .ok (.aload_n 0, 1) := by decide +kernel
theorem dX8_keep_43 : decode cX8_keep 43 = .ok (.getfield 50, 3) := by decide +kernel
theorem dX8_keep_46 : decode cX8_keep 46 = .ok (.iload_n 2, 1) := by decide +kernel
theorem dX8_keep_47 : decode cX8_keep 47 = .ok (.iaload, 1) := by decide +kernel
theorem dX8_keep_48 : decode cX8_keep 48 = .ok (.iastore, 1) := by decide +kernel
theorem dX8_keep_49 : decode cX8_keep 49 = .ok (.iinc 2 1, 3) := by decide +kernel
theorem dX8_keep_52 : decode cX8_keep 52 = .ok (.goto (-26), 3) := by decide +kernel
theorem dX8_keep_55 : decode cX8_keep 55 = .ok (.aload_n 0, 1) := by decide +kernel
theorem dX8_keep_56 : decode cX8_keep 56 = .ok (.getfield 98, 3) := by decide +kernel
theorem dX8_keep_59 : decode cX8_keep 59 = .ok (.ireturn, 1) := by decide +kernel
theorem dX8_again_0 : decode cX8_again 0 = .ok (.aload_n 0, 1) := by decide +kernel
theorem dX8_again_1 : decode cX8_again 1 = .ok (.iconst 0, 1) := by decide +kernel
theorem dX8_again_2 : decode cX8_again 2 = .ok (.putfield 94, 3) := by decide +kernel
theorem dX8_again_5 : decode cX8_again 5 = .ok (.iload_n 1, 1) := by decide +kernel
theorem dX8_again_6 : decode cX8_again 6 = .ok (.i2l, 1) := by decide +kernel
theorem dX8_again_7 : decode cX8_again 7 = .ok (.lconst 0, 1) := by decide +kernel
theorem dX8_again_8 : decode cX8_again 8 = .ok (.lconst 1, 1) := by decide +kernel
theorem dX8_again_9 : decode cX8_again 9 = .ok (.invokestatic 101, 3) := by decide +kernel
theorem dX8_again_12 : decode cX8_again 12 = .ok (.ifCond .ne 5, 3) := by decide +kernel
theorem dX8_again_15 : decode cX8_again 15 = .ok (.iconst (-1), 1) := by decide +kernel
theorem dX8_again_16 : decode cX8_again 16 = .ok (.ireturn, 1) := by decide +kernel
theorem dX8_again_17 : decode cX8_again 17 = .ok (.aload_n 0, 1) := by decide +kernel
theorem dX8_again_18 : decode cX8_again 18 = .ok (.getfield 62, 3) := by decide +kernel
theorem dX8_again_21 : decode cX8_again 21 = .ok (.iload_n 1, 1) := by decide +kernel
theorem dX8_again_22 : decode cX8_again 22 = .ok (.baload, 1) := by decide +kernel
theorem dX8_again_23 : decode cX8_again 23 = .ok (.ifCond .ne 6, 3) := by decide +kernel
theorem dX8_again_26 : decode cX8_again 26 = .ok (.bipush (-3), 2) := by decide +kernel
theorem dX8_again_28 : decode cX8_again 28 = .ok (.ireturn, 1) := by decide +kernel
theorem dX8_again_29 : decode cX8_again 29 = .ok (.iconst 0, 1) := by decide +kernel
theorem dX8_again_30 : decode cX8_again 30 = .ok (.istore_n 2, 1) := by decide +kernel
theorem dX8_again_31 : decode cX8_again 31 = .ok (.iload_n 2, 1) := by decide +kernel
theorem dX8_again_32 : decode cX8_again 32 = .ok (.bipush 43, 2) := by decide +kernel
theorem dX8_again_34 : decode cX8_again 34 = .ok (.if_icmp .ge 26, 3) := by decide +kernel
theorem dX8_again_37 : decode cX8_again 37 = .ok (.aload_n 0, 1) := by decide +kernel
theorem dX8_again_38 : decode cX8_again 38 = .ok (.getfield 50, 3) := by decide +kernel
theorem dX8_again_41 : decode cX8_again 41 = .ok (.iload_n 2, 1) := by decide +kernel
theorem dX8_again_42 : decode cX8_again 42 = .ok (.aload_n 0, 1) := by decide +kernel
theorem dX8_again_43 : decode cX8_again 43 = .ok (.getfield 59, 3) := by decide +kernel
theorem dX8_again_46 : decode cX8_again 46 = .ok (.bipush 43, 2) := by decide +kernel
theorem dX8_again_48 : decode cX8_again 48 = .ok (.iload_n 1, 1) := by decide +kernel
theorem dX8_again_49 : decode cX8_again 49 = .ok (.imul, 1) := by decide +kernel
theorem dX8_again_50 : decode cX8_again 50 = .ok (.iload_n 2, 1) := by decide +kernel
theorem dX8_again_51 : decode cX8_again 51 = .ok (.iadd, 1) := by decide +kernel
theorem dX8_again_52 : decode cX8_again 52 = .ok (.iaload, 1) := by decide +kernel
theorem dX8_again_53 : decode cX8_again 53 = .ok (.iastore, 1) := by decide +kernel
theorem dX8_again_54 : decode cX8_again 54 = .ok (.iinc 2 1, 3) := by decide +kernel
theorem dX8_again_57 : decode cX8_again 57 = .ok (.goto (-26), 3) := by decide +kernel
theorem dX8_again_60 : decode cX8_again 60 = .ok (.aload_n 0, 1) := by decide +kernel
theorem dX8_again_61 : decode cX8_again 61 = .ok (.iconst 0, 1) := by decide +kernel
theorem dX8_again_62 : decode cX8_again 62 = .ok (.putfield 145, 3) := by decide +kernel
theorem dX8_again_65 : decode cX8_again 65 = .ok (.aload_n 0, 1) := by decide +kernel
theorem dX8_again_66 : decode cX8_again 66 = .ok (.getfield 98, 3) := by decide +kernel
theorem dX8_again_69 : decode cX8_again 69 = .ok (.ireturn, 1) := by decide +kernel
theorem dX8_count_0 : decode cX8_count 0 = .ok (.aload_n 0, 1) := by decide +kernel
theorem dX8_count_1 : decode cX8_count 1 = .ok (.iconst 0, 1) := by decide +kernel
theorem dX8_count_2 : decode cX8_count 2 = .ok (.putfield 94, 3) := by decide +kernel
theorem dX8_count_5 : decode cX8_count 5 = .ok (.iload_n 1, 1) := by decide +kernel
theorem dX8_count_6 : decode cX8_count 6 = .ok (.tableswitch 85 0 6 #[42, 47, 52, 59, 68, 75, 80], 42) := by decide +kernel
theorem dX8_count_48 : decode cX8_count 48 = .ok (.aload_n 0, 1) := by decide +kernel
theorem dX8_count_49 : decode cX8_count 49 = .ok (.getfield 107, 3) := by decide +kernel
theorem dX8_count_52 : decode cX8_count 52 = .ok (.ireturn, 1) := by decide +kernel
theorem dX8_count_53 : decode cX8_count 53 = .ok (.aload_n 0, 1) := by decide +kernel
theorem dX8_count_54 : decode cX8_count 54 = .ok (.getfield 98, 3) := by decide +kernel
theorem dX8_count_57 : decode cX8_count 57 = .ok (.ireturn, 1) := by decide +kernel
theorem dX8_count_58 : decode cX8_count 58 = .ok (.aload_n 0, 1) := by decide +kernel
theorem dX8_count_59 : decode cX8_count 59 = .ok (.getfield 50, 3) := by decide +kernel
theorem dX8_count_62 : decode cX8_count 62 = .ok (.iconst 0, 1) := by decide +kernel
theorem dX8_count_63 : decode cX8_count 63 = .ok (.iaload, 1) := by decide +kernel
theorem dX8_count_64 : decode cX8_count 64 = .ok (.ireturn, 1) := by decide +kernel
theorem dX8_count_65 : decode cX8_count 65 = .ok (.aload_n 0, 1) := by decide +kernel
theorem dX8_count_66 : decode cX8_count 66 = .ok (.aload_n 0, 1) := by decide +kernel
theorem dX8_count_67 : decode cX8_count 67 = .ok (.getfield 50, 3) := by decide +kernel
theorem dX8_count_70 : decode cX8_count 70 = .ok (.invokevirtual 180, 3) := by decide +kernel
theorem dX8_count_73 : decode cX8_count 73 = .ok (.ireturn, 1) := by decide +kernel
theorem dX8_count_74 : decode cX8_count 74 = .ok (.aload_n 0, 1) := by decide +kernel
theorem dX8_count_75 : decode cX8_count 75 = .ok (.getfield 50, 3) := by decide +kernel
theorem dX8_count_78 : decode cX8_count 78 = .ok (.iconst 1, 1) := by decide +kernel
theorem dX8_count_79 : decode cX8_count 79 = .ok (.iaload, 1) := by decide +kernel
theorem dX8_count_80 : decode cX8_count 80 = .ok (.ireturn, 1) := by decide +kernel
theorem dX8_count_81 : decode cX8_count 81 = .ok (.aload_n 0, 1) := by decide +kernel
theorem dX8_count_82 : decode cX8_count 82 = .ok (.getfield 145, 3) := by decide +kernel
theorem dX8_count_85 : decode cX8_count 85 = .ok (.ireturn, 1) := by decide +kernel
theorem dX8_count_86 : decode cX8_count 86 = .ok (.aload_n 0, 1) := by decide +kernel
theorem dX8_count_87 : decode cX8_count 87 = .ok (.getfield 196, 3) := by decide +kernel
theorem dX8_count_90 : decode cX8_count 90 = .ok (.ireturn, 1) := by decide +kernel
theorem dX8_count_91 : decode cX8_count 91 = .ok (.bipush (-2), 2) := by decide +kernel
theorem dX8_count_93 : decode cX8_count 93 = .ok (.ireturn, 1) := by decide +kernel
theorem dJ6_bitCount_0f7a4_0 : decode cJ6_bitCount_0f7a4 0 = .ok (.iload_n 0, 1) := by decide +kernel
theorem dJ6_bitCount_0f7a4_1 : decode cJ6_bitCount_0f7a4 1 = .ok (.iload_n 0, 1) := by decide +kernel
theorem dJ6_bitCount_0f7a4_2 : decode cJ6_bitCount_0f7a4 2 = .ok (.iconst 1, 1) := by decide +kernel
theorem dJ6_bitCount_0f7a4_3 : decode cJ6_bitCount_0f7a4 3 = .ok (.iushr, 1) := by decide +kernel
theorem dJ6_bitCount_0f7a4_4 : decode cJ6_bitCount_0f7a4 4 = .ok (.ldc_w 265, 3) := by decide +kernel
theorem dJ6_bitCount_0f7a4_7 : decode cJ6_bitCount_0f7a4 7 = .ok (.iand, 1) := by decide +kernel
theorem dJ6_bitCount_0f7a4_8 : decode cJ6_bitCount_0f7a4 8 = .ok (.isub, 1) := by decide +kernel
theorem dJ6_bitCount_0f7a4_9 : decode cJ6_bitCount_0f7a4 9 = .ok (.istore_n 0, 1) := by decide +kernel
theorem dJ6_bitCount_0f7a4_10 : decode cJ6_bitCount_0f7a4 10 = .ok (.iload_n 0, 1) := by decide +kernel
theorem dJ6_bitCount_0f7a4_11 : decode cJ6_bitCount_0f7a4 11 = .ok (.ldc_w 266, 3) := by decide +kernel
theorem dJ6_bitCount_0f7a4_14 : decode cJ6_bitCount_0f7a4 14 = .ok (.iand, 1) := by decide +kernel
theorem dJ6_bitCount_0f7a4_15 : decode cJ6_bitCount_0f7a4 15 = .ok (.iload_n 0, 1) := by decide +kernel
theorem dJ6_bitCount_0f7a4_16 : decode cJ6_bitCount_0f7a4 16 = .ok (.iconst 2, 1) := by decide +kernel
theorem dJ6_bitCount_0f7a4_17 : decode cJ6_bitCount_0f7a4 17 = .ok (.iushr, 1) := by decide +kernel
theorem dJ6_bitCount_0f7a4_18 : decode cJ6_bitCount_0f7a4 18 = .ok (.ldc_w 266, 3) := by decide +kernel
theorem dJ6_bitCount_0f7a4_21 : decode cJ6_bitCount_0f7a4 21 = .ok (.iand, 1) := by decide +kernel
theorem dJ6_bitCount_0f7a4_22 : decode cJ6_bitCount_0f7a4 22 = .ok (.iadd, 1) := by decide +kernel
theorem dJ6_bitCount_0f7a4_23 : decode cJ6_bitCount_0f7a4 23 = .ok (.istore_n 0, 1) := by decide +kernel
theorem dJ6_bitCount_0f7a4_24 : decode cJ6_bitCount_0f7a4 24 = .ok (.iload_n 0, 1) := by decide +kernel
theorem dJ6_bitCount_0f7a4_25 : decode cJ6_bitCount_0f7a4 25 = .ok (.iload_n 0, 1) := by decide +kernel
theorem dJ6_bitCount_0f7a4_26 : decode cJ6_bitCount_0f7a4 26 = .ok (.iconst 4, 1) := by decide +kernel
theorem dJ6_bitCount_0f7a4_27 : decode cJ6_bitCount_0f7a4 27 = .ok (.iushr, 1) := by decide +kernel
theorem dJ6_bitCount_0f7a4_28 : decode cJ6_bitCount_0f7a4 28 = .ok (.iadd, 1) := by decide +kernel
theorem dJ6_bitCount_0f7a4_29 : decode cJ6_bitCount_0f7a4 29 = .ok (.ldc_w 267, 3) := by decide +kernel
theorem dJ6_bitCount_0f7a4_32 : decode cJ6_bitCount_0f7a4 32 = .ok (.iand, 1) := by decide +kernel
theorem dJ6_bitCount_0f7a4_33 : decode cJ6_bitCount_0f7a4 33 = .ok (.istore_n 0, 1) := by decide +kernel
theorem dJ6_bitCount_0f7a4_34 : decode cJ6_bitCount_0f7a4 34 = .ok (.iload_n 0, 1) := by decide +kernel
theorem dJ6_bitCount_0f7a4_35 : decode cJ6_bitCount_0f7a4 35 = .ok (.iload_n 0, 1) := by decide +kernel
theorem dJ6_bitCount_0f7a4_36 : decode cJ6_bitCount_0f7a4 36 = .ok (.bipush 8, 2) := by decide +kernel
theorem dJ6_bitCount_0f7a4_38 : decode cJ6_bitCount_0f7a4 38 = .ok (.iushr, 1) := by decide +kernel
theorem dJ6_bitCount_0f7a4_39 : decode cJ6_bitCount_0f7a4 39 = .ok (.iadd, 1) := by decide +kernel
theorem dJ6_bitCount_0f7a4_40 : decode cJ6_bitCount_0f7a4 40 = .ok (.istore_n 0, 1) := by decide +kernel
theorem dJ6_bitCount_0f7a4_41 : decode cJ6_bitCount_0f7a4 41 = .ok (.iload_n 0, 1) := by decide +kernel
theorem dJ6_bitCount_0f7a4_42 : decode cJ6_bitCount_0f7a4 42 = .ok (.iload_n 0, 1) := by decide +kernel
theorem dJ6_bitCount_0f7a4_43 : decode cJ6_bitCount_0f7a4 43 = .ok (.bipush 16, 2) := by decide +kernel
theorem dJ6_bitCount_0f7a4_45 : decode cJ6_bitCount_0f7a4 45 = .ok (.iushr, 1) := by decide +kernel
theorem dJ6_bitCount_0f7a4_46 : decode cJ6_bitCount_0f7a4 46 = .ok (.iadd, 1) := by decide +kernel
theorem dJ6_bitCount_0f7a4_47 : decode cJ6_bitCount_0f7a4 47 = .ok (.istore_n 0, 1) := by decide +kernel
theorem dJ6_bitCount_0f7a4_48 : decode cJ6_bitCount_0f7a4 48 = .ok (.iload_n 0, 1) := by decide +kernel
theorem dJ6_bitCount_0f7a4_49 : decode cJ6_bitCount_0f7a4 49 = .ok (.bipush 63, 2) := by decide +kernel
theorem dJ6_bitCount_0f7a4_51 : decode cJ6_bitCount_0f7a4 51 = .ok (.iand, 1) := by decide +kernel
theorem dJ6_bitCount_0f7a4_52 : decode cJ6_bitCount_0f7a4 52 = .ok (.ireturn, 1) := by decide +kernel
theorem dJ9_min_7cf53_0 : decode cJ9_min_7cf53 0 = .ok (.iload_n 0, 1) := by decide +kernel
theorem dJ9_min_7cf53_1 : decode cJ9_min_7cf53 1 = .ok (.iload_n 1, 1) := by decide +kernel
theorem dJ9_min_7cf53_2 : decode cJ9_min_7cf53 2 = .ok (.if_icmp .gt 7, 3) := by decide +kernel
theorem dJ9_min_7cf53_5 : decode cJ9_min_7cf53 5 = .ok (.iload_n 0, 1) := by decide +kernel
theorem dJ9_min_7cf53_6 : decode cJ9_min_7cf53 6 = .ok (.goto 4, 3) := by decide +kernel
theorem dJ9_min_7cf53_9 : decode cJ9_min_7cf53 9 = .ok (.iload_n 1, 1) := by decide +kernel
theorem dJ9_min_7cf53_10 : decode cJ9_min_7cf53 10 = .ok (.ireturn, 1) := by decide +kernel
theorem dJ7_fill_d0a16_0 : decode cJ7_fill_d0a16 0 = .ok (.iconst 0, 1) := by decide +kernel
theorem dJ7_fill_d0a16_1 : decode cJ7_fill_d0a16 1 = .ok (.istore_n 3, 1) := by decide +kernel
theorem dJ7_fill_d0a16_2 : decode cJ7_fill_d0a16 2 = .ok (.aload_n 0, 1) := by decide +kernel
theorem dJ7_fill_d0a16_3 : decode cJ7_fill_d0a16 3 = .ok (.arraylength, 1) := by decide +kernel
theorem dJ7_fill_d0a16_4 : decode cJ7_fill_d0a16 4 = .ok (.istore 4, 2) := by decide +kernel
theorem dJ7_fill_d0a16_6 : decode cJ7_fill_d0a16 6 = .ok (.iload_n 3, 1) := by decide +kernel
theorem dJ7_fill_d0a16_7 : decode cJ7_fill_d0a16 7 = .ok (.iload 4, 2) := by decide +kernel
theorem dJ7_fill_d0a16_9 : decode cJ7_fill_d0a16 9 = .ok (.if_icmp .ge 13, 3) := by decide +kernel
theorem dJ7_fill_d0a16_12 : decode cJ7_fill_d0a16 12 = .ok (.aload_n 0, 1) := by decide +kernel
theorem dJ7_fill_d0a16_13 : decode cJ7_fill_d0a16 13 = .ok (.iload_n 3, 1) := by decide +kernel
theorem dJ7_fill_d0a16_14 : decode cJ7_fill_d0a16 14 = .ok (.lload_n 1, 1) := by decide +kernel
theorem dJ7_fill_d0a16_15 : decode cJ7_fill_d0a16 15 = .ok (.lastore, 1) := by decide +kernel
theorem dJ7_fill_d0a16_16 : decode cJ7_fill_d0a16 16 = .ok (.iinc 3 1, 3) := by decide +kernel
theorem dJ7_fill_d0a16_19 : decode cJ7_fill_d0a16 19 = .ok (.goto (-13), 3) := by decide +kernel
theorem dJ7_fill_d0a16_22 : decode cJ7_fill_d0a16 22 = .ok (.return_, 1) := by decide +kernel
theorem dJ7_fill_53178_0 : decode cJ7_fill_53178 0 = .ok (.iconst 0, 1) := by decide +kernel
theorem dJ7_fill_53178_1 : decode cJ7_fill_53178 1 = .ok (.istore_n 2, 1) := by decide +kernel
theorem dJ7_fill_53178_2 : decode cJ7_fill_53178 2 = .ok (.aload_n 0, 1) := by decide +kernel
theorem dJ7_fill_53178_3 : decode cJ7_fill_53178 3 = .ok (.arraylength, 1) := by decide +kernel
theorem dJ7_fill_53178_4 : decode cJ7_fill_53178 4 = .ok (.istore_n 3, 1) := by decide +kernel
theorem dJ7_fill_53178_5 : decode cJ7_fill_53178 5 = .ok (.iload_n 2, 1) := by decide +kernel
theorem dJ7_fill_53178_6 : decode cJ7_fill_53178 6 = .ok (.iload_n 3, 1) := by decide +kernel
theorem dJ7_fill_53178_7 : decode cJ7_fill_53178 7 = .ok (.if_icmp .ge 13, 3) := by decide +kernel
theorem dJ7_fill_53178_10 : decode cJ7_fill_53178 10 = .ok (.aload_n 0, 1) := by decide +kernel
theorem dJ7_fill_53178_11 : decode cJ7_fill_53178 11 = .ok (.iload_n 2, 1) := by decide +kernel
theorem dJ7_fill_53178_12 : decode cJ7_fill_53178 12 = .ok (.iload_n 1, 1) := by decide +kernel
theorem dJ7_fill_53178_13 : decode cJ7_fill_53178 13 = .ok (.iastore, 1) := by decide +kernel
theorem dJ7_fill_53178_14 : decode cJ7_fill_53178 14 = .ok (.iinc 2 1, 3) := by decide +kernel
theorem dJ7_fill_53178_17 : decode cJ7_fill_53178 17 = .ok (.goto (-12), 3) := by decide +kernel
theorem dJ7_fill_53178_20 : decode cJ7_fill_53178 20 = .ok (.return_, 1) := by decide +kernel
theorem dL_law_0 : decode cL_law 0 = .ok (.new 7, 3) := by decide +kernel
theorem dL_law_3 : decode cL_law 3 = .ok (.dup, 1) := by decide +kernel
theorem dL_law_4 : decode cL_law 4 = .ok (.invokespecial 9, 3) := by decide +kernel
theorem dL_law_7 : decode cL_law 7 = .ok (.astore_n 1, 1) := by decide +kernel
theorem dL_law_8 : decode cL_law 8 = .ok (.new 10, 3) := by decide +kernel
theorem dL_law_11 : decode cL_law 11 = .ok (.dup, 1) := by decide +kernel
theorem dL_law_12 : decode cL_law 12 = .ok (.invokespecial 12, 3) := by decide +kernel
theorem dL_law_15 : decode cL_law 15 = .ok (.astore_n 2, 1) := by decide +kernel
theorem dL_law_16 : decode cL_law 16 = .ok (.iconst 0, 1) := by decide +kernel
theorem dL_law_17 : decode cL_law 17 = .ok (.istore_n 3, 1) := by decide +kernel
theorem dL_law_18 : decode cL_law 18 = .ok (.iload_n 3, 1) := by decide +kernel
theorem dL_law_19 : decode cL_law 19 = .ok (.aload_n 0, 1) := by decide +kernel
theorem dL_law_20 : decode cL_law 20 = .ok (.arraylength, 1) := by decide +kernel
theorem dL_law_21 : decode cL_law 21 = .ok (.iconst 4, 1) := by decide +kernel
theorem dL_law_22 : decode cL_law 22 = .ok (.isub, 1) := by decide +kernel
theorem dL_law_23 : decode cL_law 23 = .ok (.if_icmp .gt 1059, 3) := by decide +kernel
theorem dL_law_26 : decode cL_law 26 = .ok (.aload_n 0, 1) := by decide +kernel
theorem dL_law_27 : decode cL_law 27 = .ok (.iload_n 3, 1) := by decide +kernel
theorem dL_law_28 : decode cL_law 28 = .ok (.iaload, 1) := by decide +kernel
theorem dL_law_29 : decode cL_law 29 = .ok (.bipush 31, 2) := by decide +kernel
theorem dL_law_31 : decode cL_law 31 = .ok (.iand, 1) := by decide +kernel
theorem dL_law_32 : decode cL_law 32 = .ok (.tableswitch 1044 0 29 #[136, 159, 172, 185, 198, 231, 254, 287, 310, 343, 366, 409, 442, 455, 488, 502, 565, 599, 633, 656, 719, 762, 775, 799, 849, 898, 952, 975, 998, 1021], 136) := by decide +kernel
theorem dL_law_168 : decode cL_law 168 = .ok (.aload_n 1, 1) := by decide +kernel
theorem dL_law_169 : decode cL_law 169 = .ok (.aload_n 0, 1) := by decide +kernel
theorem dL_law_170 : decode cL_law 170 = .ok (.iload_n 3, 1) := by decide +kernel
theorem dL_law_171 : decode cL_law 171 = .ok (.iconst 1, 1) := by decide +kernel
theorem dL_law_172 : decode cL_law 172 = .ok (.iadd, 1) := by decide +kernel
theorem dL_law_173 : decode cL_law 173 = .ok (.iaload, 1) := by decide +kernel
theorem dL_law_174 : decode cL_law 174 = .ok (.invokevirtual 13, 3) := by decide +kernel
theorem dL_law_177 : decode cL_law 177 = .ok (.aload_n 2, 1) := by decide +kernel
theorem dL_law_178 : decode cL_law 178 = .ok (.aload_n 0, 1) := by decide +kernel
theorem dL_law_179 : decode cL_law 179 = .ok (.iload_n 3, 1) := by decide +kernel
theorem dL_law_180 : decode cL_law 180 = .ok (.iconst 1, 1) := by decide +kernel
theorem dL_law_181 : decode cL_law 181 = .ok (.iadd, 1) := by decide +kernel
theorem dL_law_182 : decode cL_law 182 = .ok (.iaload, 1) := by decide +kernel
theorem dL_law_183 : decode cL_law 183 = .ok (.invokevirtual 17, 3) := by decide +kernel
theorem dL_law_186 : decode cL_law 186 = .ok (.if_icmp .eq 890, 3) := by decide +kernel
theorem dL_law_189 : decode cL_law 189 = .ok (.iconst 0, 1) := by decide +kernel
theorem dL_law_190 : decode cL_law 190 = .ok (.ireturn, 1) := by decide +kernel
theorem dL_law_191 : decode cL_law 191 = .ok (.aload_n 1, 1) := by decide +kernel
theorem dL_law_192 : decode cL_law 192 = .ok (.invokevirtual 18, 3) := by decide +kernel
theorem dL_law_195 : decode cL_law 195 = .ok (.aload_n 2, 1) := by decide +kernel
theorem dL_law_196 : decode cL_law 196 = .ok (.invokevirtual 22, 3) := by decide +kernel
theorem dL_law_199 : decode cL_law 199 = .ok (.if_icmp .eq 877, 3) := by decide +kernel
theorem dL_law_202 : decode cL_law 202 = .ok (.iconst 0, 1) := by decide +kernel
theorem dL_law_203 : decode cL_law 203 = .ok (.ireturn, 1) := by decide +kernel
theorem dL_law_204 : decode cL_law 204 = .ok (.aload_n 1, 1) := by decide +kernel
theorem dL_law_205 : decode cL_law 205 = .ok (.invokevirtual 23, 3) := by decide +kernel
theorem dL_law_208 : decode cL_law 208 = .ok (.aload_n 2, 1) := by decide +kernel
theorem dL_law_209 : decode cL_law 209 = .ok (.invokevirtual 26, 3) := by decide +kernel
theorem dL_law_212 : decode cL_law 212 = .ok (.if_icmp .eq 864, 3) := by decide +kernel
theorem dL_law_215 : decode cL_law 215 = .ok (.iconst 0, 1) := by decide +kernel
theorem dL_law_216 : decode cL_law 216 = .ok (.ireturn, 1) := by decide +kernel
theorem dL_law_217 : decode cL_law 217 = .ok (.aload_n 1, 1) := by decide +kernel
theorem dL_law_218 : decode cL_law 218 = .ok (.invokevirtual 27, 3) := by decide +kernel
theorem dL_law_221 : decode cL_law 221 = .ok (.aload_n 2, 1) := by decide +kernel
theorem dL_law_222 : decode cL_law 222 = .ok (.invokevirtual 30, 3) := by decide +kernel
theorem dL_law_225 : decode cL_law 225 = .ok (.if_icmp .eq 851, 3) := by decide +kernel
theorem dL_law_228 : decode cL_law 228 = .ok (.iconst 0, 1) := by decide +kernel
theorem dL_law_229 : decode cL_law 229 = .ok (.ireturn, 1) := by decide +kernel
theorem dL_law_230 : decode cL_law 230 = .ok (.aload_n 1, 1) := by decide +kernel
theorem dL_law_231 : decode cL_law 231 = .ok (.aload_n 0, 1) := by decide +kernel
theorem dL_law_232 : decode cL_law 232 = .ok (.iload_n 3, 1) := by decide +kernel
theorem dL_law_233 : decode cL_law 233 = .ok (.iconst 1, 1) := by decide +kernel
theorem dL_law_234 : decode cL_law 234 = .ok (.iadd, 1) := by decide +kernel
theorem dL_law_235 : decode cL_law 235 = .ok (.iaload, 1) := by decide +kernel
theorem dL_law_236 : decode cL_law 236 = .ok (.aload_n 0, 1) := by decide +kernel
theorem dL_law_237 : decode cL_law 237 = .ok (.iload_n 3, 1) := by decide +kernel
theorem dL_law_238 : decode cL_law 238 = .ok (.iconst 2, 1) := by decide +kernel
theorem dL_law_239 : decode cL_law 239 = .ok (.iadd, 1) := by decide +kernel
theorem dL_law_240 : decode cL_law 240 = .ok (.iaload, 1) := by decide +kernel
theorem dL_law_241 : decode cL_law 241 = .ok (.invokevirtual 31, 3) := by decide +kernel
theorem dL_law_244 : decode cL_law 244 = .ok (.aload_n 2, 1) := by decide +kernel
theorem dL_law_245 : decode cL_law 245 = .ok (.aload_n 0, 1) := by decide +kernel
theorem dL_law_246 : decode cL_law 246 = .ok (.iload_n 3, 1) := by decide +kernel
theorem dL_law_247 : decode cL_law 247 = .ok (.iconst 1, 1) := by decide +kernel
theorem dL_law_248 : decode cL_law 248 = .ok (.iadd, 1) := by decide +kernel
theorem dL_law_249 : decode cL_law 249 = .ok (.iaload, 1) := by decide +kernel
theorem dL_law_250 : decode cL_law 250 = .ok (.aload_n 0, 1) := by decide +kernel
theorem dL_law_251 : decode cL_law 251 = .ok (.iload_n 3, 1) := by decide +kernel
theorem dL_law_252 : decode cL_law 252 = .ok (.iconst 2, 1) := by decide +kernel
theorem dL_law_253 : decode cL_law 253 = .ok (.iadd, 1) := by decide +kernel
theorem dL_law_254 : decode cL_law 254 = .ok (.iaload, 1) := by decide +kernel
theorem dL_law_255 : decode cL_law 255 = .ok (.invokevirtual 35, 3) := by decide +kernel
theorem dL_law_258 : decode cL_law 258 = .ok (.if_icmp .eq 818, 3) := by decide +kernel
theorem dL_law_261 : decode cL_law 261 = .ok (.iconst 0, 1) := by decide +kernel
theorem dL_law_262 : decode cL_law 262 = .ok (.ireturn, 1) := by decide +kernel
theorem dL_law_263 : decode cL_law 263 = .ok (.aload_n 1, 1) := by decide +kernel
theorem dL_law_264 : decode cL_law 264 = .ok (.aload_n 0, 1) := by decide +kernel
theorem dL_law_265 : decode cL_law 265 = .ok (.iload_n 3, 1) := by decide +kernel
theorem dL_law_266 : decode cL_law 266 = .ok (.iconst 1, 1) := by decide +kernel
theorem dL_law_267 : decode cL_law 267 = .ok (.iadd, 1) := by decide +kernel
theorem dL_law_268 : decode cL_law 268 = .ok (.iaload, 1) := by decide +kernel
theorem dL_law_269 : decode cL_law 269 = .ok (.invokevirtual 36, 3) := by decide +kernel
theorem dL_law_272 : decode cL_law 272 = .ok (.aload_n 2, 1) := by decide +kernel
theorem dL_law_273 : decode cL_law 273 = .ok (.aload_n 0, 1) := by decide +kernel
theorem dL_law_274 : decode cL_law 274 = .ok (.iload_n 3, 1) := by decide +kernel
theorem dL_law_275 : decode cL_law 275 = .ok (.iconst 1, 1) := by decide +kernel
theorem dL_law_276 : decode cL_law 276 = .ok (.iadd, 1) := by decide +kernel
theorem dL_law_277 : decode cL_law 277 = .ok (.iaload, 1) := by decide +kernel
theorem dL_law_278 : decode cL_law 278 = .ok (.invokevirtual 39, 3) := by decide +kernel
theorem dL_law_281 : decode cL_law 281 = .ok (.if_icmp .eq 795, 3) := by decide +kernel
theorem dL_law_284 : decode cL_law 284 = .ok (.iconst 0, 1) := by decide +kernel
theorem dL_law_285 : decode cL_law 285 = .ok (.ireturn, 1) := by decide +kernel
theorem dL_law_286 : decode cL_law 286 = .ok (.aload_n 1, 1) := by decide +kernel
theorem dL_law_287 : decode cL_law 287 = .ok (.aload_n 0, 1) := by decide +kernel
theorem dL_law_288 : decode cL_law 288 = .ok (.iload_n 3, 1) := by decide +kernel
theorem dL_law_289 : decode cL_law 289 = .ok (.iconst 1, 1) := by decide +kernel
theorem dL_law_290 : decode cL_law 290 = .ok (.iadd, 1) := by decide +kernel
theorem dL_law_291 : decode cL_law 291 = .ok (.iaload, 1) := by decide +kernel
theorem dL_law_292 : decode cL_law 292 = .ok (.aload_n 0, 1) := by decide +kernel
theorem dL_law_293 : decode cL_law 293 = .ok (.iload_n 3, 1) := by decide +kernel
theorem dL_law_294 : decode cL_law 294 = .ok (.iconst 2, 1) := by decide +kernel
theorem dL_law_295 : decode cL_law 295 = .ok (.iadd, 1) := by decide +kernel
theorem dL_law_296 : decode cL_law 296 = .ok (.iaload, 1) := by decide +kernel
theorem dL_law_297 : decode cL_law 297 = .ok (.invokevirtual 40, 3) := by decide +kernel
theorem dL_law_300 : decode cL_law 300 = .ok (.aload_n 2, 1) := by decide +kernel
theorem dL_law_301 : decode cL_law 301 = .ok (.aload_n 0, 1) := by decide +kernel
theorem dL_law_302 : decode cL_law 302 = .ok (.iload_n 3, 1) := by decide +kernel
theorem dL_law_303 : decode cL_law 303 = .ok (.iconst 1, 1) := by decide +kernel
theorem dL_law_304 : decode cL_law 304 = .ok (.iadd, 1) := by decide +kernel
theorem dL_law_305 : decode cL_law 305 = .ok (.iaload, 1) := by decide +kernel
theorem dL_law_306 : decode cL_law 306 = .ok (.aload_n 0, 1) := by decide +kernel
theorem dL_law_307 : decode cL_law 307 = .ok (.iload_n 3, 1) := by decide +kernel
theorem dL_law_308 : decode cL_law 308 = .ok (.iconst 2, 1) := by decide +kernel
theorem dL_law_309 : decode cL_law 309 = .ok (.iadd, 1) := by decide +kernel
theorem dL_law_310 : decode cL_law 310 = .ok (.iaload, 1) := by decide +kernel
theorem dL_law_311 : decode cL_law 311 = .ok (.invokevirtual 43, 3) := by decide +kernel
theorem dL_law_314 : decode cL_law 314 = .ok (.if_icmp .eq 762, 3) := by decide +kernel
theorem dL_law_317 : decode cL_law 317 = .ok (.iconst 0, 1) := by decide +kernel
theorem dL_law_318 : decode cL_law 318 = .ok (.ireturn, 1) := by decide +kernel
theorem dL_law_319 : decode cL_law 319 = .ok (.aload_n 1, 1) := by decide +kernel
theorem dL_law_320 : decode cL_law 320 = .ok (.aload_n 0, 1) := by decide +kernel
theorem dL_law_321 : decode cL_law 321 = .ok (.iload_n 3, 1) := by decide +kernel
theorem dL_law_322 : decode cL_law 322 = .ok (.iconst 1, 1) := by decide +kernel
theorem dL_law_323 : decode cL_law 323 = .ok (.iadd, 1) := by decide +kernel
theorem dL_law_324 : decode cL_law 324 = .ok (.iaload, 1) := by decide +kernel
theorem dL_law_325 : decode cL_law 325 = .ok (.invokevirtual 44, 3) := by decide +kernel
theorem dL_law_328 : decode cL_law 328 = .ok (.aload_n 2, 1) := by decide +kernel
theorem dL_law_329 : decode cL_law 329 = .ok (.aload_n 0, 1) := by decide +kernel
theorem dL_law_330 : decode cL_law 330 = .ok (.iload_n 3, 1) := by decide +kernel
theorem dL_law_331 : decode cL_law 331 = .ok (.iconst 1, 1) := by decide +kernel
theorem dL_law_332 : decode cL_law 332 = .ok (.iadd, 1) := by decide +kernel
theorem dL_law_333 : decode cL_law 333 = .ok (.iaload, 1) := by decide +kernel
theorem dL_law_334 : decode cL_law 334 = .ok (.invokevirtual 47, 3) := by decide +kernel
theorem dL_law_337 : decode cL_law 337 = .ok (.if_icmp .eq 739, 3) := by decide +kernel
theorem dL_law_340 : decode cL_law 340 = .ok (.iconst 0, 1) := by decide +kernel
theorem dL_law_341 : decode cL_law 341 = .ok (.ireturn, 1) := by decide +kernel
theorem dL_law_342 : decode cL_law 342 = .ok (.aload_n 1, 1) := by decide +kernel
theorem dL_law_343 : decode cL_law 343 = .ok (.aload_n 0, 1) := by decide +kernel
theorem dL_law_344 : decode cL_law 344 = .ok (.iload_n 3, 1) := by decide +kernel
theorem dL_law_345 : decode cL_law 345 = .ok (.iconst 1, 1) := by decide +kernel
theorem dL_law_346 : decode cL_law 346 = .ok (.iadd, 1) := by decide +kernel
theorem dL_law_347 : decode cL_law 347 = .ok (.iaload, 1) := by decide +kernel
theorem dL_law_348 : decode cL_law 348 = .ok (.aload_n 0, 1) := by decide +kernel
theorem dL_law_349 : decode cL_law 349 = .ok (.iload_n 3, 1) := by decide +kernel
theorem dL_law_350 : decode cL_law 350 = .ok (.iconst 2, 1) := by decide +kernel
theorem dL_law_351 : decode cL_law 351 = .ok (.iadd, 1) := by decide +kernel
theorem dL_law_352 : decode cL_law 352 = .ok (.iaload, 1) := by decide +kernel
theorem dL_law_353 : decode cL_law 353 = .ok (.invokevirtual 48, 3) := by decide +kernel
theorem dL_law_356 : decode cL_law 356 = .ok (.aload_n 2, 1) := by decide +kernel
theorem dL_law_357 : decode cL_law 357 = .ok (.aload_n 0, 1) := by decide +kernel
theorem dL_law_358 : decode cL_law 358 = .ok (.iload_n 3, 1) := by decide +kernel
theorem dL_law_359 : decode cL_law 359 = .ok (.iconst 1, 1) := by decide +kernel
theorem dL_law_360 : decode cL_law 360 = .ok (.iadd, 1) := by decide +kernel
theorem dL_law_361 : decode cL_law 361 = .ok (.iaload, 1) := by decide +kernel
theorem dL_law_362 : decode cL_law 362 = .ok (.aload_n 0, 1) := by decide +kernel
theorem dL_law_363 : decode cL_law 363 = .ok (.iload_n 3, 1) := by decide +kernel
theorem dL_law_364 : decode cL_law 364 = .ok (.iconst 2, 1) := by decide +kernel
theorem dL_law_365 : decode cL_law 365 = .ok (.iadd, 1) := by decide +kernel
theorem dL_law_366 : decode cL_law 366 = .ok (.iaload, 1) := by decide +kernel
theorem dL_law_367 : decode cL_law 367 = .ok (.invokevirtual 51, 3) := by decide +kernel
theorem dL_law_370 : decode cL_law 370 = .ok (.if_icmp .eq 706, 3) := by decide +kernel
theorem dL_law_373 : decode cL_law 373 = .ok (.iconst 0, 1) := by decide +kernel
theorem dL_law_374 : decode cL_law 374 = .ok (.ireturn, 1) := by decide +kernel
theorem dL_law_375 : decode cL_law 375 = .ok (.aload_n 1, 1) := by decide +kernel
theorem dL_law_376 : decode cL_law 376 = .ok (.aload_n 0, 1) := by decide +kernel
theorem dL_law_377 : decode cL_law 377 = .ok (.iload_n 3, 1) := by decide +kernel
theorem dL_law_378 : decode cL_law 378 = .ok (.iconst 1, 1) := by decide +kernel
theorem dL_law_379 : decode cL_law 379 = .ok (.iadd, 1) := by decide +kernel
theorem dL_law_380 : decode cL_law 380 = .ok (.iaload, 1) := by decide +kernel
theorem dL_law_381 : decode cL_law 381 = .ok (.invokevirtual 52, 3) := by decide +kernel
theorem dL_law_384 : decode cL_law 384 = .ok (.aload_n 2, 1) := by decide +kernel
theorem dL_law_385 : decode cL_law 385 = .ok (.aload_n 0, 1) := by decide +kernel
theorem dL_law_386 : decode cL_law 386 = .ok (.iload_n 3, 1) := by decide +kernel
theorem dL_law_387 : decode cL_law 387 = .ok (.iconst 1, 1) := by decide +kernel
theorem dL_law_388 : decode cL_law 388 = .ok (.iadd, 1) := by decide +kernel
theorem dL_law_389 : decode cL_law 389 = .ok (.iaload, 1) := by decide +kernel
theorem dL_law_390 : decode cL_law 390 = .ok (.invokevirtual 55, 3) := by decide +kernel
theorem dL_law_393 : decode cL_law 393 = .ok (.if_icmp .eq 683, 3) := by decide +kernel
theorem dL_law_396 : decode cL_law 396 = .ok (.iconst 0, 1) := by decide +kernel
theorem dL_law_397 : decode cL_law 397 = .ok (.ireturn, 1) := by decide +kernel
theorem dL_law_398 : decode cL_law 398 = .ok (.aload_n 1, 1) := by decide +kernel
theorem dL_law_399 : decode cL_law 399 = .ok (.aload_n 0, 1) := by decide +kernel
theorem dL_law_400 : decode cL_law 400 = .ok (.iload_n 3, 1) := by decide +kernel
theorem dL_law_401 : decode cL_law 401 = .ok (.iconst 1, 1) := by decide +kernel
theorem dL_law_402 : decode cL_law 402 = .ok (.iadd, 1) := by decide +kernel
theorem dL_law_403 : decode cL_law 403 = .ok (.iaload, 1) := by decide +kernel
theorem dL_law_404 : decode cL_law 404 = .ok (.aload_n 0, 1) := by decide +kernel
theorem dL_law_405 : decode cL_law 405 = .ok (.iload_n 3, 1) := by decide +kernel
theorem dL_law_406 : decode cL_law 406 = .ok (.iconst 2, 1) := by decide +kernel
theorem dL_law_407 : decode cL_law 407 = .ok (.iadd, 1) := by decide +kernel
theorem dL_law_408 : decode cL_law 408 = .ok (.iaload, 1) := by decide +kernel
theorem dL_law_409 : decode cL_law 409 = .ok (.aload_n 0, 1) := by decide +kernel
theorem dL_law_410 : decode cL_law 410 = .ok (.iload_n 3, 1) := by decide +kernel
theorem dL_law_411 : decode cL_law 411 = .ok (.iconst 3, 1) := by decide +kernel
theorem dL_law_412 : decode cL_law 412 = .ok (.iadd, 1) := by decide +kernel
theorem dL_law_413 : decode cL_law 413 = .ok (.iaload, 1) := by decide +kernel
theorem dL_law_414 : decode cL_law 414 = .ok (.invokevirtual 56, 3) := by decide +kernel
theorem dL_law_417 : decode cL_law 417 = .ok (.aload_n 2, 1) := by decide +kernel
theorem dL_law_418 : decode cL_law 418 = .ok (.aload_n 0, 1) := by decide +kernel
theorem dL_law_419 : decode cL_law 419 = .ok (.iload_n 3, 1) := by decide +kernel
theorem dL_law_420 : decode cL_law 420 = .ok (.iconst 1, 1) := by decide +kernel
theorem dL_law_421 : decode cL_law 421 = .ok (.iadd, 1) := by decide +kernel
theorem dL_law_422 : decode cL_law 422 = .ok (.iaload, 1) := by decide +kernel
theorem dL_law_423 : decode cL_law 423 = .ok (.aload_n 0, 1) := by decide +kernel
theorem dL_law_424 : decode cL_law 424 = .ok (.iload_n 3, 1) := by decide +kernel
theorem dL_law_425 : decode cL_law 425 = .ok (.iconst 2, 1) := by decide +kernel
theorem dL_law_426 : decode cL_law 426 = .ok (.iadd, 1) := by decide +kernel
theorem dL_law_427 : decode cL_law 427 = .ok (.iaload, 1) := by decide +kernel
theorem dL_law_428 : decode cL_law 428 = .ok (.aload_n 0, 1) := by decide +kernel
theorem dL_law_429 : decode cL_law 429 = .ok (.iload_n 3, 1) := by decide +kernel
theorem dL_law_430 : decode cL_law 430 = .ok (.iconst 3, 1) := by decide +kernel
theorem dL_law_431 : decode cL_law 431 = .ok (.iadd, 1) := by decide +kernel
theorem dL_law_432 : decode cL_law 432 = .ok (.iaload, 1) := by decide +kernel
theorem dL_law_433 : decode cL_law 433 = .ok (.invokevirtual 60, 3) := by decide +kernel
theorem dL_law_436 : decode cL_law 436 = .ok (.if_icmp .eq 640, 3) := by decide +kernel
theorem dL_law_439 : decode cL_law 439 = .ok (.iconst 0, 1) := by decide +kernel
theorem dL_law_440 : decode cL_law 440 = .ok (.ireturn, 1) := by decide +kernel
theorem dL_law_441 : decode cL_law 441 = .ok (.aload_n 1, 1) := by decide +kernel
theorem dL_law_442 : decode cL_law 442 = .ok (.aload_n 0, 1) := by decide +kernel
theorem dL_law_443 : decode cL_law 443 = .ok (.iload_n 3, 1) := by decide +kernel
theorem dL_law_444 : decode cL_law 444 = .ok (.iconst 1, 1) := by decide +kernel
theorem dL_law_445 : decode cL_law 445 = .ok (.iadd, 1) := by decide +kernel
theorem dL_law_446 : decode cL_law 446 = .ok (.iaload, 1) := by decide +kernel
theorem dL_law_447 : decode cL_law 447 = .ok (.aload_n 0, 1) := by decide +kernel
theorem dL_law_448 : decode cL_law 448 = .ok (.iload_n 3, 1) := by decide +kernel
theorem dL_law_449 : decode cL_law 449 = .ok (.iconst 2, 1) := by decide +kernel
theorem dL_law_450 : decode cL_law 450 = .ok (.iadd, 1) := by decide +kernel
theorem dL_law_451 : decode cL_law 451 = .ok (.iaload, 1) := by decide +kernel
theorem dL_law_452 : decode cL_law 452 = .ok (.invokevirtual 61, 3) := by decide +kernel
theorem dL_law_455 : decode cL_law 455 = .ok (.aload_n 2, 1) := by decide +kernel
theorem dL_law_456 : decode cL_law 456 = .ok (.aload_n 0, 1) := by decide +kernel
theorem dL_law_457 : decode cL_law 457 = .ok (.iload_n 3, 1) := by decide +kernel
theorem dL_law_458 : decode cL_law 458 = .ok (.iconst 1, 1) := by decide +kernel
theorem dL_law_459 : decode cL_law 459 = .ok (.iadd, 1) := by decide +kernel
theorem dL_law_460 : decode cL_law 460 = .ok (.iaload, 1) := by decide +kernel
theorem dL_law_461 : decode cL_law 461 = .ok (.aload_n 0, 1) := by decide +kernel
theorem dL_law_462 : decode cL_law 462 = .ok (.iload_n 3, 1) := by decide +kernel
theorem dL_law_463 : decode cL_law 463 = .ok (.iconst 2, 1) := by decide +kernel
theorem dL_law_464 : decode cL_law 464 = .ok (.iadd, 1) := by decide +kernel
theorem dL_law_465 : decode cL_law 465 = .ok (.iaload, 1) := by decide +kernel
theorem dL_law_466 : decode cL_law 466 = .ok (.invokevirtual 64, 3) := by decide +kernel
theorem dL_law_469 : decode cL_law 469 = .ok (.if_icmp .eq 607, 3) := by decide +kernel
theorem dL_law_472 : decode cL_law 472 = .ok (.iconst 0, 1) := by decide +kernel
theorem dL_law_473 : decode cL_law 473 = .ok (.ireturn, 1) := by decide +kernel
theorem dL_law_474 : decode cL_law 474 = .ok (.aload_n 1, 1) := by decide +kernel
theorem dL_law_475 : decode cL_law 475 = .ok (.invokevirtual 65, 3) := by decide +kernel
theorem dL_law_478 : decode cL_law 478 = .ok (.aload_n 2, 1) := by decide +kernel
theorem dL_law_479 : decode cL_law 479 = .ok (.invokevirtual 68, 3) := by decide +kernel
theorem dL_law_482 : decode cL_law 482 = .ok (.if_icmp .eq 594, 3) := by decide +kernel
theorem dL_law_485 : decode cL_law 485 = .ok (.iconst 0, 1) := by decide +kernel
theorem dL_law_486 : decode cL_law 486 = .ok (.ireturn, 1) := by decide +kernel
theorem dL_law_487 : decode cL_law 487 = .ok (.aload_n 1, 1) := by decide +kernel
theorem dL_law_488 : decode cL_law 488 = .ok (.aload_n 0, 1) := by decide +kernel
theorem dL_law_489 : decode cL_law 489 = .ok (.iload_n 3, 1) := by decide +kernel
theorem dL_law_490 : decode cL_law 490 = .ok (.iconst 1, 1) := by decide +kernel
theorem dL_law_491 : decode cL_law 491 = .ok (.iadd, 1) := by decide +kernel
theorem dL_law_492 : decode cL_law 492 = .ok (.iaload, 1) := by decide +kernel
theorem dL_law_493 : decode cL_law 493 = .ok (.aload_n 0, 1) := by decide +kernel
theorem dL_law_494 : decode cL_law 494 = .ok (.iload_n 3, 1) := by decide +kernel
theorem dL_law_495 : decode cL_law 495 = .ok (.iconst 2, 1) := by decide +kernel
theorem dL_law_496 : decode cL_law 496 = .ok (.iadd, 1) := by decide +kernel
theorem dL_law_497 : decode cL_law 497 = .ok (.iaload, 1) := by decide +kernel
theorem dL_law_498 : decode cL_law 498 = .ok (.invokevirtual 69, 3) := by decide +kernel
theorem dL_law_501 : decode cL_law 501 = .ok (.aload_n 2, 1) := by decide +kernel
theorem dL_law_502 : decode cL_law 502 = .ok (.aload_n 0, 1) := by decide +kernel
theorem dL_law_503 : decode cL_law 503 = .ok (.iload_n 3, 1) := by decide +kernel
theorem dL_law_504 : decode cL_law 504 = .ok (.iconst 1, 1) := by decide +kernel
theorem dL_law_505 : decode cL_law 505 = .ok (.iadd, 1) := by decide +kernel
theorem dL_law_506 : decode cL_law 506 = .ok (.iaload, 1) := by decide +kernel
theorem dL_law_507 : decode cL_law 507 = .ok (.aload_n 0, 1) := by decide +kernel
theorem dL_law_508 : decode cL_law 508 = .ok (.iload_n 3, 1) := by decide +kernel
theorem dL_law_509 : decode cL_law 509 = .ok (.iconst 2, 1) := by decide +kernel
theorem dL_law_510 : decode cL_law 510 = .ok (.iadd, 1) := by decide +kernel
theorem dL_law_511 : decode cL_law 511 = .ok (.iaload, 1) := by decide +kernel
theorem dL_law_512 : decode cL_law 512 = .ok (.invokevirtual 72, 3) := by decide +kernel
theorem dL_law_515 : decode cL_law 515 = .ok (.if_icmp .eq 561, 3) := by decide +kernel
theorem dL_law_518 : decode cL_law 518 = .ok (.iconst 0, 1) := by decide +kernel
theorem dL_law_519 : decode cL_law 519 = .ok (.ireturn, 1) := by decide +kernel
theorem dL_law_520 : decode cL_law 520 = .ok (.aload_n 1, 1) := by decide +kernel
theorem dL_law_521 : decode cL_law 521 = .ok (.invokevirtual 73, 3) := by decide +kernel
theorem dL_law_524 : decode cL_law 524 = .ok (.aload_n 2, 1) := by decide +kernel
theorem dL_law_525 : decode cL_law 525 = .ok (.invokevirtual 77, 3) := by decide +kernel
theorem dL_law_528 : decode cL_law 528 = .ok (.lcmp, 1) := by decide +kernel
theorem dL_law_529 : decode cL_law 529 = .ok (.ifCond .eq 547, 3) := by decide +kernel
theorem dL_law_532 : decode cL_law 532 = .ok (.iconst 0, 1) := by decide +kernel
theorem dL_law_533 : decode cL_law 533 = .ok (.ireturn, 1) := by decide +kernel
theorem dL_law_534 : decode cL_law 534 = .ok (.aload_n 1, 1) := by decide +kernel
theorem dL_law_535 : decode cL_law 535 = .ok (.aload_n 0, 1) := by decide +kernel
theorem dL_law_536 : decode cL_law 536 = .ok (.iload_n 3, 1) := by decide +kernel
theorem dL_law_537 : decode cL_law 537 = .ok (.iconst 1, 1) := by decide +kernel
theorem dL_law_538 : decode cL_law 538 = .ok (.iadd, 1) := by decide +kernel
theorem dL_law_539 : decode cL_law 539 = .ok (.iaload, 1) := by decide +kernel
theorem dL_law_540 : decode cL_law 540 = .ok (.i2l, 1) := by decide +kernel
theorem dL_law_541 : decode cL_law 541 = .ok (.bipush 32, 2) := by decide +kernel
theorem dL_law_543 : decode cL_law 543 = .ok (.lshl, 1) := by decide +kernel
theorem dL_law_544 : decode cL_law 544 = .ok (.aload_n 0, 1) := by decide +kernel
theorem dL_law_545 : decode cL_law 545 = .ok (.iload_n 3, 1) := by decide +kernel
theorem dL_law_546 : decode cL_law 546 = .ok (.iconst 2, 1) := by decide +kernel
theorem dL_law_547 : decode cL_law 547 = .ok (.iadd, 1) := by decide +kernel
theorem dL_law_548 : decode cL_law 548 = .ok (.iaload, 1) := by decide +kernel
theorem dL_law_549 : decode cL_law 549 = .ok (.i2l, 1) := by decide +kernel
theorem dL_law_550 : decode cL_law 550 = .ok (.ldc2_w 78, 3) := by decide +kernel
theorem dL_law_553 : decode cL_law 553 = .ok (.land, 1) := by decide +kernel
theorem dL_law_554 : decode cL_law 554 = .ok (.lor, 1) := by decide +kernel
theorem dL_law_555 : decode cL_law 555 = .ok (.aload_n 0, 1) := by decide +kernel
theorem dL_law_556 : decode cL_law 556 = .ok (.iload_n 3, 1) := by decide +kernel
theorem dL_law_557 : decode cL_law 557 = .ok (.iconst 3, 1) := by decide +kernel
theorem dL_law_558 : decode cL_law 558 = .ok (.iadd, 1) := by decide +kernel
theorem dL_law_559 : decode cL_law 559 = .ok (.iaload, 1) := by decide +kernel
theorem dL_law_560 : decode cL_law 560 = .ok (.invokevirtual 80, 3) := by decide +kernel
theorem dL_law_563 : decode cL_law 563 = .ok (.aload_n 2, 1) := by decide +kernel
theorem dL_law_564 : decode cL_law 564 = .ok (.aload_n 0, 1) := by decide +kernel
theorem dL_law_565 : decode cL_law 565 = .ok (.iload_n 3, 1) := by decide +kernel
theorem dL_law_566 : decode cL_law 566 = .ok (.iconst 1, 1) := by decide +kernel
theorem dL_law_567 : decode cL_law 567 = .ok (.iadd, 1) := by decide +kernel
theorem dL_law_568 : decode cL_law 568 = .ok (.iaload, 1) := by decide +kernel
theorem dL_law_569 : decode cL_law 569 = .ok (.i2l, 1) := by decide +kernel
theorem dL_law_570 : decode cL_law 570 = .ok (.bipush 32, 2) := by decide +kernel
theorem dL_law_572 : decode cL_law 572 = .ok (.lshl, 1) := by decide +kernel
theorem dL_law_573 : decode cL_law 573 = .ok (.aload_n 0, 1) := by decide +kernel
theorem dL_law_574 : decode cL_law 574 = .ok (.iload_n 3, 1) := by decide +kernel
theorem dL_law_575 : decode cL_law 575 = .ok (.iconst 2, 1) := by decide +kernel
theorem dL_law_576 : decode cL_law 576 = .ok (.iadd, 1) := by decide +kernel
theorem dL_law_577 : decode cL_law 577 = .ok (.iaload, 1) := by decide +kernel
theorem dL_law_578 : decode cL_law 578 = .ok (.i2l, 1) := by decide +kernel
theorem dL_law_579 : decode cL_law 579 = .ok (.ldc2_w 78, 3) := by decide +kernel
theorem dL_law_582 : decode cL_law 582 = .ok (.land, 1) := by decide +kernel
theorem dL_law_583 : decode cL_law 583 = .ok (.lor, 1) := by decide +kernel
theorem dL_law_584 : decode cL_law 584 = .ok (.aload_n 0, 1) := by decide +kernel
theorem dL_law_585 : decode cL_law 585 = .ok (.iload_n 3, 1) := by decide +kernel
theorem dL_law_586 : decode cL_law 586 = .ok (.iconst 3, 1) := by decide +kernel
theorem dL_law_587 : decode cL_law 587 = .ok (.iadd, 1) := by decide +kernel
theorem dL_law_588 : decode cL_law 588 = .ok (.iaload, 1) := by decide +kernel
theorem dL_law_589 : decode cL_law 589 = .ok (.invokevirtual 84, 3) := by decide +kernel
theorem dL_law_592 : decode cL_law 592 = .ok (.if_icmp .eq 484, 3) := by decide +kernel
theorem dL_law_595 : decode cL_law 595 = .ok (.iconst 0, 1) := by decide +kernel
theorem dL_law_596 : decode cL_law 596 = .ok (.ireturn, 1) := by decide +kernel
theorem dL_law_597 : decode cL_law 597 = .ok (.aload_n 1, 1) := by decide +kernel
theorem dL_law_598 : decode cL_law 598 = .ok (.aload_n 0, 1) := by decide +kernel
theorem dL_law_599 : decode cL_law 599 = .ok (.iload_n 3, 1) := by decide +kernel
theorem dL_law_600 : decode cL_law 600 = .ok (.iconst 1, 1) := by decide +kernel
theorem dL_law_601 : decode cL_law 601 = .ok (.iadd, 1) := by decide +kernel
theorem dL_law_602 : decode cL_law 602 = .ok (.iaload, 1) := by decide +kernel
theorem dL_law_603 : decode cL_law 603 = .ok (.aload_n 0, 1) := by decide +kernel
theorem dL_law_604 : decode cL_law 604 = .ok (.iload_n 3, 1) := by decide +kernel
theorem dL_law_605 : decode cL_law 605 = .ok (.iconst 2, 1) := by decide +kernel
theorem dL_law_606 : decode cL_law 606 = .ok (.iadd, 1) := by decide +kernel
theorem dL_law_607 : decode cL_law 607 = .ok (.iaload, 1) := by decide +kernel
theorem dL_law_608 : decode cL_law 608 = .ok (.invokevirtual 85, 3) := by decide +kernel
theorem dL_law_611 : decode cL_law 611 = .ok (.aload_n 2, 1) := by decide +kernel
theorem dL_law_612 : decode cL_law 612 = .ok (.aload_n 0, 1) := by decide +kernel
theorem dL_law_613 : decode cL_law 613 = .ok (.iload_n 3, 1) := by decide +kernel
theorem dL_law_614 : decode cL_law 614 = .ok (.iconst 1, 1) := by decide +kernel
theorem dL_law_615 : decode cL_law 615 = .ok (.iadd, 1) := by decide +kernel
theorem dL_law_616 : decode cL_law 616 = .ok (.iaload, 1) := by decide +kernel
theorem dL_law_617 : decode cL_law 617 = .ok (.aload_n 0, 1) := by decide +kernel
theorem dL_law_618 : decode cL_law 618 = .ok (.iload_n 3, 1) := by decide +kernel
theorem dL_law_619 : decode cL_law 619 = .ok (.iconst 2, 1) := by decide +kernel
theorem dL_law_620 : decode cL_law 620 = .ok (.iadd, 1) := by decide +kernel
theorem dL_law_621 : decode cL_law 621 = .ok (.iaload, 1) := by decide +kernel
theorem dL_law_622 : decode cL_law 622 = .ok (.invokevirtual 89, 3) := by decide +kernel
theorem dL_law_625 : decode cL_law 625 = .ok (.lcmp, 1) := by decide +kernel
theorem dL_law_626 : decode cL_law 626 = .ok (.ifCond .eq 450, 3) := by decide +kernel
theorem dL_law_629 : decode cL_law 629 = .ok (.iconst 0, 1) := by decide +kernel
theorem dL_law_630 : decode cL_law 630 = .ok (.ireturn, 1) := by decide +kernel
theorem dL_law_631 : decode cL_law 631 = .ok (.aload_n 1, 1) := by decide +kernel
theorem dL_law_632 : decode cL_law 632 = .ok (.aload_n 0, 1) := by decide +kernel
theorem dL_law_633 : decode cL_law 633 = .ok (.iload_n 3, 1) := by decide +kernel
theorem dL_law_634 : decode cL_law 634 = .ok (.iconst 1, 1) := by decide +kernel
theorem dL_law_635 : decode cL_law 635 = .ok (.iadd, 1) := by decide +kernel
theorem dL_law_636 : decode cL_law 636 = .ok (.iaload, 1) := by decide +kernel
theorem dL_law_637 : decode cL_law 637 = .ok (.aload_n 0, 1) := by decide +kernel
theorem dL_law_638 : decode cL_law 638 = .ok (.iload_n 3, 1) := by decide +kernel
theorem dL_law_639 : decode cL_law 639 = .ok (.iconst 2, 1) := by decide +kernel
theorem dL_law_640 : decode cL_law 640 = .ok (.iadd, 1) := by decide +kernel
theorem dL_law_641 : decode cL_law 641 = .ok (.iaload, 1) := by decide +kernel
theorem dL_law_642 : decode cL_law 642 = .ok (.invokevirtual 90, 3) := by decide +kernel
theorem dL_law_645 : decode cL_law 645 = .ok (.aload_n 2, 1) := by decide +kernel
theorem dL_law_646 : decode cL_law 646 = .ok (.aload_n 0, 1) := by decide +kernel
theorem dL_law_647 : decode cL_law 647 = .ok (.iload_n 3, 1) := by decide +kernel
theorem dL_law_648 : decode cL_law 648 = .ok (.iconst 1, 1) := by decide +kernel
theorem dL_law_649 : decode cL_law 649 = .ok (.iadd, 1) := by decide +kernel
theorem dL_law_650 : decode cL_law 650 = .ok (.iaload, 1) := by decide +kernel
theorem dL_law_651 : decode cL_law 651 = .ok (.aload_n 0, 1) := by decide +kernel
theorem dL_law_652 : decode cL_law 652 = .ok (.iload_n 3, 1) := by decide +kernel
theorem dL_law_653 : decode cL_law 653 = .ok (.iconst 2, 1) := by decide +kernel
theorem dL_law_654 : decode cL_law 654 = .ok (.iadd, 1) := by decide +kernel
theorem dL_law_655 : decode cL_law 655 = .ok (.iaload, 1) := by decide +kernel
theorem dL_law_656 : decode cL_law 656 = .ok (.invokevirtual 93, 3) := by decide +kernel
theorem dL_law_659 : decode cL_law 659 = .ok (.lcmp, 1) := by decide +kernel
theorem dL_law_660 : decode cL_law 660 = .ok (.ifCond .eq 416, 3) := by decide +kernel
theorem dL_law_663 : decode cL_law 663 = .ok (.iconst 0, 1) := by decide +kernel
theorem dL_law_664 : decode cL_law 664 = .ok (.ireturn, 1) := by decide +kernel
theorem dL_law_665 : decode cL_law 665 = .ok (.aload_n 1, 1) := by decide +kernel
theorem dL_law_666 : decode cL_law 666 = .ok (.aload_n 0, 1) := by decide +kernel
theorem dL_law_667 : decode cL_law 667 = .ok (.iload_n 3, 1) := by decide +kernel
theorem dL_law_668 : decode cL_law 668 = .ok (.iconst 1, 1) := by decide +kernel
theorem dL_law_669 : decode cL_law 669 = .ok (.iadd, 1) := by decide +kernel
theorem dL_law_670 : decode cL_law 670 = .ok (.iaload, 1) := by decide +kernel
theorem dL_law_671 : decode cL_law 671 = .ok (.invokevirtual 94, 3) := by decide +kernel
theorem dL_law_674 : decode cL_law 674 = .ok (.aload_n 2, 1) := by decide +kernel
theorem dL_law_675 : decode cL_law 675 = .ok (.aload_n 0, 1) := by decide +kernel
theorem dL_law_676 : decode cL_law 676 = .ok (.iload_n 3, 1) := by decide +kernel
theorem dL_law_677 : decode cL_law 677 = .ok (.iconst 1, 1) := by decide +kernel
theorem dL_law_678 : decode cL_law 678 = .ok (.iadd, 1) := by decide +kernel
theorem dL_law_679 : decode cL_law 679 = .ok (.iaload, 1) := by decide +kernel
theorem dL_law_680 : decode cL_law 680 = .ok (.invokevirtual 97, 3) := by decide +kernel
theorem dL_law_683 : decode cL_law 683 = .ok (.if_icmp .eq 393, 3) := by decide +kernel
theorem dL_law_686 : decode cL_law 686 = .ok (.iconst 0, 1) := by decide +kernel
theorem dL_law_687 : decode cL_law 687 = .ok (.ireturn, 1) := by decide +kernel
theorem dL_law_688 : decode cL_law 688 = .ok (.aload_n 1, 1) := by decide +kernel
theorem dL_law_689 : decode cL_law 689 = .ok (.aload_n 0, 1) := by decide +kernel
theorem dL_law_690 : decode cL_law 690 = .ok (.iload_n 3, 1) := by decide +kernel
theorem dL_law_691 : decode cL_law 691 = .ok (.iconst 1, 1) := by decide +kernel
theorem dL_law_692 : decode cL_law 692 = .ok (.iadd, 1) := by decide +kernel
theorem dL_law_693 : decode cL_law 693 = .ok (.iaload, 1) := by decide +kernel
theorem dL_law_694 : decode cL_law 694 = .ok (.aload_n 0, 1) := by decide +kernel
theorem dL_law_695 : decode cL_law 695 = .ok (.iload_n 3, 1) := by decide +kernel
theorem dL_law_696 : decode cL_law 696 = .ok (.iconst 2, 1) := by decide +kernel
theorem dL_law_697 : decode cL_law 697 = .ok (.iadd, 1) := by decide +kernel
theorem dL_law_698 : decode cL_law 698 = .ok (.iaload, 1) := by decide +kernel
theorem dL_law_699 : decode cL_law 699 = .ok (.i2l, 1) := by decide +kernel
theorem dL_law_700 : decode cL_law 700 = .ok (.bipush 32, 2) := by decide +kernel
theorem dL_law_702 : decode cL_law 702 = .ok (.lshl, 1) := by decide +kernel
theorem dL_law_703 : decode cL_law 703 = .ok (.aload_n 0, 1) := by decide +kernel
theorem dL_law_704 : decode cL_law 704 = .ok (.iload_n 3, 1) := by decide +kernel
theorem dL_law_705 : decode cL_law 705 = .ok (.iconst 3, 1) := by decide +kernel
theorem dL_law_706 : decode cL_law 706 = .ok (.iadd, 1) := by decide +kernel
theorem dL_law_707 : decode cL_law 707 = .ok (.iaload, 1) := by decide +kernel
theorem dL_law_708 : decode cL_law 708 = .ok (.i2l, 1) := by decide +kernel
theorem dL_law_709 : decode cL_law 709 = .ok (.ldc2_w 78, 3) := by decide +kernel
theorem dL_law_712 : decode cL_law 712 = .ok (.land, 1) := by decide +kernel
theorem dL_law_713 : decode cL_law 713 = .ok (.lor, 1) := by decide +kernel
theorem dL_law_714 : decode cL_law 714 = .ok (.invokevirtual 98, 3) := by decide +kernel
theorem dL_law_717 : decode cL_law 717 = .ok (.aload_n 2, 1) := by decide +kernel
theorem dL_law_718 : decode cL_law 718 = .ok (.aload_n 0, 1) := by decide +kernel
theorem dL_law_719 : decode cL_law 719 = .ok (.iload_n 3, 1) := by decide +kernel
theorem dL_law_720 : decode cL_law 720 = .ok (.iconst 1, 1) := by decide +kernel
theorem dL_law_721 : decode cL_law 721 = .ok (.iadd, 1) := by decide +kernel
theorem dL_law_722 : decode cL_law 722 = .ok (.iaload, 1) := by decide +kernel
theorem dL_law_723 : decode cL_law 723 = .ok (.aload_n 0, 1) := by decide +kernel
theorem dL_law_724 : decode cL_law 724 = .ok (.iload_n 3, 1) := by decide +kernel
theorem dL_law_725 : decode cL_law 725 = .ok (.iconst 2, 1) := by decide +kernel
theorem dL_law_726 : decode cL_law 726 = .ok (.iadd, 1) := by decide +kernel
theorem dL_law_727 : decode cL_law 727 = .ok (.iaload, 1) := by decide +kernel
theorem dL_law_728 : decode cL_law 728 = .ok (.i2l, 1) := by decide +kernel
theorem dL_law_729 : decode cL_law 729 = .ok (.bipush 32, 2) := by decide +kernel
theorem dL_law_731 : decode cL_law 731 = .ok (.lshl, 1) := by decide +kernel
theorem dL_law_732 : decode cL_law 732 = .ok (.aload_n 0, 1) := by decide +kernel
theorem dL_law_733 : decode cL_law 733 = .ok (.iload_n 3, 1) := by decide +kernel
theorem dL_law_734 : decode cL_law 734 = .ok (.iconst 3, 1) := by decide +kernel
theorem dL_law_735 : decode cL_law 735 = .ok (.iadd, 1) := by decide +kernel
theorem dL_law_736 : decode cL_law 736 = .ok (.iaload, 1) := by decide +kernel
theorem dL_law_737 : decode cL_law 737 = .ok (.i2l, 1) := by decide +kernel
theorem dL_law_738 : decode cL_law 738 = .ok (.ldc2_w 78, 3) := by decide +kernel
theorem dL_law_741 : decode cL_law 741 = .ok (.land, 1) := by decide +kernel
theorem dL_law_742 : decode cL_law 742 = .ok (.lor, 1) := by decide +kernel
theorem dL_law_743 : decode cL_law 743 = .ok (.invokevirtual 102, 3) := by decide +kernel
theorem dL_law_746 : decode cL_law 746 = .ok (.if_icmp .eq 330, 3) := by decide +kernel
theorem dL_law_749 : decode cL_law 749 = .ok (.iconst 0, 1) := by decide +kernel
theorem dL_law_750 : decode cL_law 750 = .ok (.ireturn, 1) := by decide +kernel
theorem dL_law_751 : decode cL_law 751 = .ok (.aload_n 1, 1) := by decide +kernel
theorem dL_law_752 : decode cL_law 752 = .ok (.aload_n 0, 1) := by decide +kernel
theorem dL_law_753 : decode cL_law 753 = .ok (.iload_n 3, 1) := by decide +kernel
theorem dL_law_754 : decode cL_law 754 = .ok (.iconst 1, 1) := by decide +kernel
theorem dL_law_755 : decode cL_law 755 = .ok (.iadd, 1) := by decide +kernel
theorem dL_law_756 : decode cL_law 756 = .ok (.iaload, 1) := by decide +kernel
theorem dL_law_757 : decode cL_law 757 = .ok (.aload_n 0, 1) := by decide +kernel
theorem dL_law_758 : decode cL_law 758 = .ok (.iload_n 3, 1) := by decide +kernel
theorem dL_law_759 : decode cL_law 759 = .ok (.iconst 2, 1) := by decide +kernel
theorem dL_law_760 : decode cL_law 760 = .ok (.iadd, 1) := by decide +kernel
theorem dL_law_761 : decode cL_law 761 = .ok (.iaload, 1) := by decide +kernel
theorem dL_law_762 : decode cL_law 762 = .ok (.aload_n 0, 1) := by decide +kernel
theorem dL_law_763 : decode cL_law 763 = .ok (.iload_n 3, 1) := by decide +kernel
theorem dL_law_764 : decode cL_law 764 = .ok (.iconst 3, 1) := by decide +kernel
theorem dL_law_765 : decode cL_law 765 = .ok (.iadd, 1) := by decide +kernel
theorem dL_law_766 : decode cL_law 766 = .ok (.iaload, 1) := by decide +kernel
theorem dL_law_767 : decode cL_law 767 = .ok (.invokevirtual 103, 3) := by decide +kernel
theorem dL_law_770 : decode cL_law 770 = .ok (.aload_n 2, 1) := by decide +kernel
theorem dL_law_771 : decode cL_law 771 = .ok (.aload_n 0, 1) := by decide +kernel
theorem dL_law_772 : decode cL_law 772 = .ok (.iload_n 3, 1) := by decide +kernel
theorem dL_law_773 : decode cL_law 773 = .ok (.iconst 1, 1) := by decide +kernel
theorem dL_law_774 : decode cL_law 774 = .ok (.iadd, 1) := by decide +kernel
theorem dL_law_775 : decode cL_law 775 = .ok (.iaload, 1) := by decide +kernel
theorem dL_law_776 : decode cL_law 776 = .ok (.aload_n 0, 1) := by decide +kernel
theorem dL_law_777 : decode cL_law 777 = .ok (.iload_n 3, 1) := by decide +kernel
theorem dL_law_778 : decode cL_law 778 = .ok (.iconst 2, 1) := by decide +kernel
theorem dL_law_779 : decode cL_law 779 = .ok (.iadd, 1) := by decide +kernel
theorem dL_law_780 : decode cL_law 780 = .ok (.iaload, 1) := by decide +kernel
theorem dL_law_781 : decode cL_law 781 = .ok (.aload_n 0, 1) := by decide +kernel
theorem dL_law_782 : decode cL_law 782 = .ok (.iload_n 3, 1) := by decide +kernel
theorem dL_law_783 : decode cL_law 783 = .ok (.iconst 3, 1) := by decide +kernel
theorem dL_law_784 : decode cL_law 784 = .ok (.iadd, 1) := by decide +kernel
theorem dL_law_785 : decode cL_law 785 = .ok (.iaload, 1) := by decide +kernel
theorem dL_law_786 : decode cL_law 786 = .ok (.invokevirtual 106, 3) := by decide +kernel
theorem dL_law_789 : decode cL_law 789 = .ok (.if_icmp .eq 287, 3) := by decide +kernel
theorem dL_law_792 : decode cL_law 792 = .ok (.iconst 0, 1) := by decide +kernel
theorem dL_law_793 : decode cL_law 793 = .ok (.ireturn, 1) := by decide +kernel
theorem dL_law_794 : decode cL_law 794 = .ok (.aload_n 1, 1) := by decide +kernel
theorem dL_law_795 : decode cL_law 795 = .ok (.invokevirtual 107, 3) := by decide +kernel
theorem dL_law_798 : decode cL_law 798 = .ok (.aload_n 2, 1) := by decide +kernel
theorem dL_law_799 : decode cL_law 799 = .ok (.invokevirtual 110, 3) := by decide +kernel
theorem dL_law_802 : decode cL_law 802 = .ok (.if_icmp .eq 274, 3) := by decide +kernel
theorem dL_law_805 : decode cL_law 805 = .ok (.iconst 0, 1) := by decide +kernel
theorem dL_law_806 : decode cL_law 806 = .ok (.ireturn, 1) := by decide +kernel
theorem dL_law_807 : decode cL_law 807 = .ok (.aload_n 1, 1) := by decide +kernel
theorem dL_law_808 : decode cL_law 808 = .ok (.aload_n 0, 1) := by decide +kernel
theorem dL_law_809 : decode cL_law 809 = .ok (.iload_n 3, 1) := by decide +kernel
theorem dL_law_810 : decode cL_law 810 = .ok (.iconst 1, 1) := by decide +kernel
theorem dL_law_811 : decode cL_law 811 = .ok (.iadd, 1) := by decide +kernel
theorem dL_law_812 : decode cL_law 812 = .ok (.iaload, 1) := by decide +kernel
theorem dL_law_813 : decode cL_law 813 = .ok (.invokevirtual 111, 3) := by decide +kernel
theorem dL_law_816 : decode cL_law 816 = .ok (.aload_n 2, 1) := by decide +kernel
theorem dL_law_817 : decode cL_law 817 = .ok (.aload_n 0, 1) := by decide +kernel
theorem dL_law_818 : decode cL_law 818 = .ok (.iload_n 3, 1) := by decide +kernel
theorem dL_law_819 : decode cL_law 819 = .ok (.iconst 1, 1) := by decide +kernel
theorem dL_law_820 : decode cL_law 820 = .ok (.iadd, 1) := by decide +kernel
theorem dL_law_821 : decode cL_law 821 = .ok (.iaload, 1) := by decide +kernel
theorem dL_law_822 : decode cL_law 822 = .ok (.invokevirtual 115, 3) := by decide +kernel
theorem dL_law_825 : decode cL_law 825 = .ok (.lcmp, 1) := by decide +kernel
theorem dL_law_826 : decode cL_law 826 = .ok (.ifCond .eq 250, 3) := by decide +kernel
theorem dL_law_829 : decode cL_law 829 = .ok (.iconst 0, 1) := by decide +kernel
theorem dL_law_830 : decode cL_law 830 = .ok (.ireturn, 1) := by decide +kernel
theorem dL_law_831 : decode cL_law 831 = .ok (.aload_n 1, 1) := by decide +kernel
theorem dL_law_832 : decode cL_law 832 = .ok (.aload_n 0, 1) := by decide +kernel
theorem dL_law_833 : decode cL_law 833 = .ok (.iload_n 3, 1) := by decide +kernel
theorem dL_law_834 : decode cL_law 834 = .ok (.iconst 1, 1) := by decide +kernel
theorem dL_law_835 : decode cL_law 835 = .ok (.iadd, 1) := by decide +kernel
theorem dL_law_836 : decode cL_law 836 = .ok (.iaload, 1) := by decide +kernel
theorem dL_law_837 : decode cL_law 837 = .ok (.aload_n 0, 1) := by decide +kernel
theorem dL_law_838 : decode cL_law 838 = .ok (.iload_n 3, 1) := by decide +kernel
theorem dL_law_839 : decode cL_law 839 = .ok (.iconst 2, 1) := by decide +kernel
theorem dL_law_840 : decode cL_law 840 = .ok (.iadd, 1) := by decide +kernel
theorem dL_law_841 : decode cL_law 841 = .ok (.iaload, 1) := by decide +kernel
theorem dL_law_842 : decode cL_law 842 = .ok (.ifCond .eq 7, 3) := by decide +kernel
theorem dL_law_845 : decode cL_law 845 = .ok (.iconst 1, 1) := by decide +kernel
theorem dL_law_846 : decode cL_law 846 = .ok (.goto 4, 3) := by decide +kernel
theorem dL_law_849 : decode cL_law 849 = .ok (.iconst 0, 1) := by decide +kernel
theorem dL_law_850 : decode cL_law 850 = .ok (.invokevirtual 116, 3) := by decide +kernel
theorem dL_law_853 : decode cL_law 853 = .ok (.aload_n 2, 1) := by decide +kernel
theorem dL_law_854 : decode cL_law 854 = .ok (.aload_n 0, 1) := by decide +kernel
theorem dL_law_855 : decode cL_law 855 = .ok (.iload_n 3, 1) := by decide +kernel
theorem dL_law_856 : decode cL_law 856 = .ok (.iconst 1, 1) := by decide +kernel
theorem dL_law_857 : decode cL_law 857 = .ok (.iadd, 1) := by decide +kernel
theorem dL_law_858 : decode cL_law 858 = .ok (.iaload, 1) := by decide +kernel
theorem dL_law_859 : decode cL_law 859 = .ok (.aload_n 0, 1) := by decide +kernel
theorem dL_law_860 : decode cL_law 860 = .ok (.iload_n 3, 1) := by decide +kernel
theorem dL_law_861 : decode cL_law 861 = .ok (.iconst 2, 1) := by decide +kernel
theorem dL_law_862 : decode cL_law 862 = .ok (.iadd, 1) := by decide +kernel
theorem dL_law_863 : decode cL_law 863 = .ok (.iaload, 1) := by decide +kernel
theorem dL_law_864 : decode cL_law 864 = .ok (.ifCond .eq 7, 3) := by decide +kernel
theorem dL_law_867 : decode cL_law 867 = .ok (.iconst 1, 1) := by decide +kernel
theorem dL_law_868 : decode cL_law 868 = .ok (.goto 4, 3) := by decide +kernel
theorem dL_law_871 : decode cL_law 871 = .ok (.iconst 0, 1) := by decide +kernel
theorem dL_law_872 : decode cL_law 872 = .ok (.invokevirtual 120, 3) := by decide +kernel
theorem dL_law_875 : decode cL_law 875 = .ok (.lcmp, 1) := by decide +kernel
theorem dL_law_876 : decode cL_law 876 = .ok (.ifCond .eq 200, 3) := by decide +kernel
theorem dL_law_879 : decode cL_law 879 = .ok (.iconst 0, 1) := by decide +kernel
theorem dL_law_880 : decode cL_law 880 = .ok (.ireturn, 1) := by decide +kernel
theorem dL_law_881 : decode cL_law 881 = .ok (.aload_n 1, 1) := by decide +kernel
theorem dL_law_882 : decode cL_law 882 = .ok (.aload_n 0, 1) := by decide +kernel
theorem dL_law_883 : decode cL_law 883 = .ok (.iload_n 3, 1) := by decide +kernel
theorem dL_law_884 : decode cL_law 884 = .ok (.iconst 1, 1) := by decide +kernel
theorem dL_law_885 : decode cL_law 885 = .ok (.iadd, 1) := by decide +kernel
theorem dL_law_886 : decode cL_law 886 = .ok (.iaload, 1) := by decide +kernel
theorem dL_law_887 : decode cL_law 887 = .ok (.aload_n 0, 1) := by decide +kernel
theorem dL_law_888 : decode cL_law 888 = .ok (.iload_n 3, 1) := by decide +kernel
theorem dL_law_889 : decode cL_law 889 = .ok (.iconst 2, 1) := by decide +kernel
theorem dL_law_890 : decode cL_law 890 = .ok (.iadd, 1) := by decide +kernel
theorem dL_law_891 : decode cL_law 891 = .ok (.iaload, 1) := by decide +kernel
theorem dL_law_892 : decode cL_law 892 = .ok (.ifCond .eq 7, 3) := by decide +kernel
theorem dL_law_895 : decode cL_law 895 = .ok (.iconst 1, 1) := by decide +kernel
theorem dL_law_896 : decode cL_law 896 = .ok (.goto 4, 3) := by decide +kernel
theorem dL_law_899 : decode cL_law 899 = .ok (.iconst 0, 1) := by decide +kernel
theorem dL_law_900 : decode cL_law 900 = .ok (.invokevirtual 121, 3) := by decide +kernel
theorem dL_law_903 : decode cL_law 903 = .ok (.aload_n 2, 1) := by decide +kernel
theorem dL_law_904 : decode cL_law 904 = .ok (.aload_n 0, 1) := by decide +kernel
theorem dL_law_905 : decode cL_law 905 = .ok (.iload_n 3, 1) := by decide +kernel
theorem dL_law_906 : decode cL_law 906 = .ok (.iconst 1, 1) := by decide +kernel
theorem dL_law_907 : decode cL_law 907 = .ok (.iadd, 1) := by decide +kernel
theorem dL_law_908 : decode cL_law 908 = .ok (.iaload, 1) := by decide +kernel
theorem dL_law_909 : decode cL_law 909 = .ok (.aload_n 0, 1) := by decide +kernel
theorem dL_law_910 : decode cL_law 910 = .ok (.iload_n 3, 1) := by decide +kernel
theorem dL_law_911 : decode cL_law 911 = .ok (.iconst 2, 1) := by decide +kernel
theorem dL_law_912 : decode cL_law 912 = .ok (.iadd, 1) := by decide +kernel
theorem dL_law_913 : decode cL_law 913 = .ok (.iaload, 1) := by decide +kernel
theorem dL_law_914 : decode cL_law 914 = .ok (.ifCond .eq 7, 3) := by decide +kernel
theorem dL_law_917 : decode cL_law 917 = .ok (.iconst 1, 1) := by decide +kernel
theorem dL_law_918 : decode cL_law 918 = .ok (.goto 4, 3) := by decide +kernel
theorem dL_law_921 : decode cL_law 921 = .ok (.iconst 0, 1) := by decide +kernel
theorem dL_law_922 : decode cL_law 922 = .ok (.invokevirtual 125, 3) := by decide +kernel
theorem dL_law_925 : decode cL_law 925 = .ok (.if_icmp .eq 151, 3) := by decide +kernel
theorem dL_law_928 : decode cL_law 928 = .ok (.iconst 0, 1) := by decide +kernel
theorem dL_law_929 : decode cL_law 929 = .ok (.ireturn, 1) := by decide +kernel
theorem dL_law_930 : decode cL_law 930 = .ok (.aload_n 1, 1) := by decide +kernel
theorem dL_law_931 : decode cL_law 931 = .ok (.aload_n 0, 1) := by decide +kernel
theorem dL_law_932 : decode cL_law 932 = .ok (.iload_n 3, 1) := by decide +kernel
theorem dL_law_933 : decode cL_law 933 = .ok (.iconst 1, 1) := by decide +kernel
theorem dL_law_934 : decode cL_law 934 = .ok (.iadd, 1) := by decide +kernel
theorem dL_law_935 : decode cL_law 935 = .ok (.iaload, 1) := by decide +kernel
theorem dL_law_936 : decode cL_law 936 = .ok (.i2l, 1) := by decide +kernel
theorem dL_law_937 : decode cL_law 937 = .ok (.bipush 32, 2) := by decide +kernel
theorem dL_law_939 : decode cL_law 939 = .ok (.lshl, 1) := by decide +kernel
theorem dL_law_940 : decode cL_law 940 = .ok (.aload_n 0, 1) := by decide +kernel
theorem dL_law_941 : decode cL_law 941 = .ok (.iload_n 3, 1) := by decide +kernel
theorem dL_law_942 : decode cL_law 942 = .ok (.iconst 2, 1) := by decide +kernel
theorem dL_law_943 : decode cL_law 943 = .ok (.iadd, 1) := by decide +kernel
theorem dL_law_944 : decode cL_law 944 = .ok (.iaload, 1) := by decide +kernel
theorem dL_law_945 : decode cL_law 945 = .ok (.i2l, 1) := by decide +kernel
theorem dL_law_946 : decode cL_law 946 = .ok (.ldc2_w 78, 3) := by decide +kernel
theorem dL_law_949 : decode cL_law 949 = .ok (.land, 1) := by decide +kernel
theorem dL_law_950 : decode cL_law 950 = .ok (.lor, 1) := by decide +kernel
theorem dL_law_951 : decode cL_law 951 = .ok (.invokevirtual 126, 3) := by decide +kernel
theorem dL_law_954 : decode cL_law 954 = .ok (.aload_n 2, 1) := by decide +kernel
theorem dL_law_955 : decode cL_law 955 = .ok (.aload_n 0, 1) := by decide +kernel
theorem dL_law_956 : decode cL_law 956 = .ok (.iload_n 3, 1) := by decide +kernel
theorem dL_law_957 : decode cL_law 957 = .ok (.iconst 1, 1) := by decide +kernel
theorem dL_law_958 : decode cL_law 958 = .ok (.iadd, 1) := by decide +kernel
theorem dL_law_959 : decode cL_law 959 = .ok (.iaload, 1) := by decide +kernel
theorem dL_law_960 : decode cL_law 960 = .ok (.i2l, 1) := by decide +kernel
theorem dL_law_961 : decode cL_law 961 = .ok (.bipush 32, 2) := by decide +kernel
theorem dL_law_963 : decode cL_law 963 = .ok (.lshl, 1) := by decide +kernel
theorem dL_law_964 : decode cL_law 964 = .ok (.aload_n 0, 1) := by decide +kernel
theorem dL_law_965 : decode cL_law 965 = .ok (.iload_n 3, 1) := by decide +kernel
theorem dL_law_966 : decode cL_law 966 = .ok (.iconst 2, 1) := by decide +kernel
theorem dL_law_967 : decode cL_law 967 = .ok (.iadd, 1) := by decide +kernel
theorem dL_law_968 : decode cL_law 968 = .ok (.iaload, 1) := by decide +kernel
theorem dL_law_969 : decode cL_law 969 = .ok (.i2l, 1) := by decide +kernel
theorem dL_law_970 : decode cL_law 970 = .ok (.ldc2_w 78, 3) := by decide +kernel
theorem dL_law_973 : decode cL_law 973 = .ok (.land, 1) := by decide +kernel
theorem dL_law_974 : decode cL_law 974 = .ok (.lor, 1) := by decide +kernel
theorem dL_law_975 : decode cL_law 975 = .ok (.invokevirtual 130, 3) := by decide +kernel
theorem dL_law_978 : decode cL_law 978 = .ok (.lcmp, 1) := by decide +kernel
theorem dL_law_979 : decode cL_law 979 = .ok (.ifCond .eq 97, 3) := by decide +kernel
theorem dL_law_982 : decode cL_law 982 = .ok (.iconst 0, 1) := by decide +kernel
theorem dL_law_983 : decode cL_law 983 = .ok (.ireturn, 1) := by decide +kernel
theorem dL_law_984 : decode cL_law 984 = .ok (.aload_n 1, 1) := by decide +kernel
theorem dL_law_985 : decode cL_law 985 = .ok (.aload_n 0, 1) := by decide +kernel
theorem dL_law_986 : decode cL_law 986 = .ok (.iload_n 3, 1) := by decide +kernel
theorem dL_law_987 : decode cL_law 987 = .ok (.iconst 1, 1) := by decide +kernel
theorem dL_law_988 : decode cL_law 988 = .ok (.iadd, 1) := by decide +kernel
theorem dL_law_989 : decode cL_law 989 = .ok (.iaload, 1) := by decide +kernel
theorem dL_law_990 : decode cL_law 990 = .ok (.invokevirtual 131, 3) := by decide +kernel
theorem dL_law_993 : decode cL_law 993 = .ok (.aload_n 2, 1) := by decide +kernel
theorem dL_law_994 : decode cL_law 994 = .ok (.aload_n 0, 1) := by decide +kernel
theorem dL_law_995 : decode cL_law 995 = .ok (.iload_n 3, 1) := by decide +kernel
theorem dL_law_996 : decode cL_law 996 = .ok (.iconst 1, 1) := by decide +kernel
theorem dL_law_997 : decode cL_law 997 = .ok (.iadd, 1) := by decide +kernel
theorem dL_law_998 : decode cL_law 998 = .ok (.iaload, 1) := by decide +kernel
theorem dL_law_999 : decode cL_law 999 = .ok (.invokevirtual 134, 3) := by decide +kernel
theorem dL_law_1002 : decode cL_law 1002 = .ok (.if_icmp .eq 74, 3) := by decide +kernel
theorem dL_law_1005 : decode cL_law 1005 = .ok (.iconst 0, 1) := by decide +kernel
theorem dL_law_1006 : decode cL_law 1006 = .ok (.ireturn, 1) := by decide +kernel
theorem dL_law_1007 : decode cL_law 1007 = .ok (.aload_n 1, 1) := by decide +kernel
theorem dL_law_1008 : decode cL_law 1008 = .ok (.aload_n 0, 1) := by decide +kernel
theorem dL_law_1009 : decode cL_law 1009 = .ok (.iload_n 3, 1) := by decide +kernel
theorem dL_law_1010 : decode cL_law 1010 = .ok (.iconst 1, 1) := by decide +kernel
theorem dL_law_1011 : decode cL_law 1011 = .ok (.iadd, 1) := by decide +kernel
theorem dL_law_1012 : decode cL_law 1012 = .ok (.iaload, 1) := by decide +kernel
theorem dL_law_1013 : decode cL_law 1013 = .ok (.invokevirtual 135, 3) := by decide +kernel
theorem dL_law_1016 : decode cL_law 1016 = .ok (.aload_n 2, 1) := by decide +kernel
theorem dL_law_1017 : decode cL_law 1017 = .ok (.aload_n 0, 1) := by decide +kernel
theorem dL_law_1018 : decode cL_law 1018 = .ok (.iload_n 3, 1) := by decide +kernel
theorem dL_law_1019 : decode cL_law 1019 = .ok (.iconst 1, 1) := by decide +kernel
theorem dL_law_1020 : decode cL_law 1020 = .ok (.iadd, 1) := by decide +kernel
theorem dL_law_1021 : decode cL_law 1021 = .ok (.iaload, 1) := by decide +kernel
theorem dL_law_1022 : decode cL_law 1022 = .ok (.invokevirtual 138, 3) := by decide +kernel
theorem dL_law_1025 : decode cL_law 1025 = .ok (.if_icmp .eq 51, 3) := by decide +kernel
theorem dL_law_1028 : decode cL_law 1028 = .ok (.iconst 0, 1) := by decide +kernel
theorem dL_law_1029 : decode cL_law 1029 = .ok (.ireturn, 1) := by decide +kernel
theorem dL_law_1030 : decode cL_law 1030 = .ok (.aload_n 1, 1) := by decide +kernel
theorem dL_law_1031 : decode cL_law 1031 = .ok (.aload_n 0, 1) := by decide +kernel
theorem dL_law_1032 : decode cL_law 1032 = .ok (.iload_n 3, 1) := by decide +kernel
