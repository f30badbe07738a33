theorem dX0_init_0 : decode cX0_init 0 = .ok (.aload_n 0, 1) := by decide +kernel
theorem dX0_init_1 : decode cX0_init 1 = .ok (.invokespecial 3, 3) := by decide +kernel
theorem dX0_init_4 : decode cX0_init 4 = .ok (.aload_n 0, 1) := by decide +kernel
theorem dX0_init_5 : decode cX0_init 5 = .ok (.bipush 25, 2) := by decide +kernel
theorem dX0_init_7 : decode cX0_init 7 = .ok (.newarray .int, 2) := by decide +kernel
theorem dX0_init_9 : decode cX0_init 9 = .ok (.putfield 9, 3) := by decide +kernel
theorem dX0_init_12 : decode cX0_init 12 = .ok (.aload_n 0, 1) := by decide +kernel
theorem dX0_init_13 : decode cX0_init 13 = .ok (.bipush 25, 2) := by decide +kernel
theorem dX0_init_15 : decode cX0_init 15 = .ok (.newarray .int, 2) := by decide +kernel
theorem dX0_init_17 : decode cX0_init 17 = .ok (.putfield 15, 3) := by decide +kernel
theorem dX0_init_20 : decode cX0_init 20 = .ok (.aload_n 0, 1) := by decide +kernel
theorem dX0_init_21 : decode cX0_init 21 = .ok (.bipush 8, 2) := by decide +kernel
theorem dX0_init_23 : decode cX0_init 23 = .ok (.newarray .int, 2) := by decide +kernel
theorem dX0_init_25 : decode cX0_init 25 = .ok (.putfield 18, 3) := by decide +kernel
theorem dX0_init_28 : decode cX0_init 28 = .ok (.aload_n 0, 1) := by decide +kernel
theorem dX0_init_29 : decode cX0_init 29 = .ok (.bipush 8, 2) := by decide +kernel
theorem dX0_init_31 : decode cX0_init 31 = .ok (.newarray .int, 2) := by decide +kernel
theorem dX0_init_33 : decode cX0_init 33 = .ok (.putfield 21, 3) := by decide +kernel
theorem dX0_init_36 : decode cX0_init 36 = .ok (.aload_n 0, 1) := by decide +kernel
theorem dX0_init_37 : decode cX0_init 37 = .ok (.sipush 200, 3) := by decide +kernel
theorem dX0_init_40 : decode cX0_init 40 = .ok (.newarray .long, 2) := by decide +kernel
theorem dX0_init_42 : decode cX0_init 42 = .ok (.putfield 24, 3) := by decide +kernel
theorem dX0_init_45 : decode cX0_init 45 = .ok (.aload_n 0, 1) := by decide +kernel
theorem dX0_init_46 : decode cX0_init 46 = .ok (.sipush 200, 3) := by decide +kernel
theorem dX0_init_49 : decode cX0_init 49 = .ok (.newarray .long, 2) := by decide +kernel
theorem dX0_init_51 : decode cX0_init 51 = .ok (.putfield 28, 3) := by decide +kernel
theorem dX0_init_54 : decode cX0_init 54 = .ok (.aload_n 0, 1) := by decide +kernel
theorem dX0_init_55 : decode cX0_init 55 = .ok (.iconst 0, 1) := by decide +kernel
theorem dX0_init_56 : decode cX0_init 56 = .ok (.putfield 31, 3) := by decide +kernel
theorem dX0_init_59 : decode cX0_init 59 = .ok (.aload_n 0, 1) := by decide +kernel
theorem dX0_init_60 : decode cX0_init 60 = .ok (.iconst 0, 1) := by decide +kernel
theorem dX0_init_61 : decode cX0_init 61 = .ok (.putfield 35, 3) := by decide +kernel
theorem dX0_init_64 : decode cX0_init 64 = .ok (.aload_n 0, 1) := by decide +kernel
theorem dX0_init_65 : decode cX0_init 65 = .ok (.iconst 0, 1) := by decide +kernel
theorem dX0_init_66 : decode cX0_init 66 = .ok (.putfield 38, 3) := by decide +kernel
theorem dX0_init_69 : decode cX0_init 69 = .ok (.return_, 1) := by decide +kernel
theorem dX0_countAll_0 : decode cX0_countAll 0 = .ok (.aload_n 0, 1) := by decide +kernel
theorem dX0_countAll_1 : decode cX0_countAll 1 = .ok (.aload_n 1, 1) := by decide +kernel
theorem dX0_countAll_2 : decode cX0_countAll 2 = .ok (.aload_n 2, 1) := by decide +kernel
theorem dX0_countAll_3 : decode cX0_countAll 3 = .ok (.invokevirtual 41, 3) := by decide +kernel
theorem dX0_countAll_6 : decode cX0_countAll 6 = .ok (.aload_n 0, 1) := by decide +kernel
theorem dX0_countAll_7 : decode cX0_countAll 7 = .ok (.invokevirtual 45, 3) := by decide +kernel
theorem dX0_countAll_10 : decode cX0_countAll 10 = .ok (.aload_n 0, 1) := by decide +kernel
theorem dX0_countAll_11 : decode cX0_countAll 11 = .ok (.aload_n 0, 1) := by decide +kernel
theorem dX0_countAll_12 : decode cX0_countAll 12 = .ok (.getfield 38, 3) := by decide +kernel
theorem dX0_countAll_15 : decode cX0_countAll 15 = .ok (.invokevirtual 48, 3) := by decide +kernel
theorem dX0_countAll_18 : decode cX0_countAll 18 = .ok (.lreturn, 1) := by decide +kernel
theorem dX0_countSelected_0 : decode cX0_countSelected 0 = .ok (.aload_n 0, 1) := by decide +kernel
theorem dX0_countSelected_1 : decode cX0_countSelected 1 = .ok (.aload_n 1, 1) := by decide +kernel
theorem dX0_countSelected_2 : decode cX0_countSelected 2 = .ok (.aload_n 2, 1) := by decide +kernel
theorem dX0_countSelected_3 : decode cX0_countSelected 3 = .ok (.invokevirtual 41, 3) := by decide +kernel
theorem dX0_countSelected_6 : decode cX0_countSelected 6 = .ok (.iconst 0, 1) := by decide +kernel
theorem dX0_countSelected_7 : decode cX0_countSelected 7 = .ok (.istore 4, 2) := by decide +kernel
theorem dX0_countSelected_9 : decode cX0_countSelected 9 = .ok (.iload 4, 2) := by decide +kernel
theorem dX0_countSelected_11 : decode cX0_countSelected 11 = .ok (.aload_n 3, 1) := by decide +kernel
theorem dX0_countSelected_12 : decode cX0_countSelected 12 = .ok (.getfield 52, 3) := by decide +kernel
theorem dX0_countSelected_15 : decode cX0_countSelected 15 = .ok (.if_icmp .ge 41, 3) := by decide +kernel
theorem dX0_countSelected_18 : decode cX0_countSelected 18 = .ok (.iload 4, 2) := by decide +kernel
theorem dX0_countSelected_20 : decode cX0_countSelected 20 = .ok (.bipush 6, 2) := by decide +kernel
theorem dX0_countSelected_22 : decode cX0_countSelected 22 = .ok (.if_icmp .ge 34, 3) := by decide +kernel
theorem dX0_countSelected_25 : decode cX0_countSelected 25 = .ok (.aload_n 0, 1) := by decide +kernel
theorem dX0_countSelected_26 : decode cX0_countSelected 26 = .ok (.aload_n 3, 1) := by decide +kernel
theorem dX0_countSelected_27 : decode cX0_countSelected 27 = .ok (.getfield 57, 3) := by decide +kernel
theorem dX0_countSelected_30 : decode cX0_countSelected 30 = .ok (.iload 4, 2) := by decide +kernel
theorem dX0_countSelected_32 : decode cX0_countSelected 32 = .ok (.iaload, 1) := by decide +kernel
theorem dX0_countSelected_33 : decode cX0_countSelected 33 = .ok (.aload_n 3, 1) := by decide +kernel
theorem dX0_countSelected_34 : decode cX0_countSelected 34 = .ok (.getfield 59, 3) := by decide +kernel
theorem dX0_countSelected_37 : decode cX0_countSelected 37 = .ok (.iload 4, 2) := by decide +kernel
theorem dX0_countSelected_39 : decode cX0_countSelected 39 = .ok (.iaload, 1) := by decide +kernel
theorem dX0_countSelected_40 : decode cX0_countSelected 40 = .ok (.aload_n 3, 1) := by decide +kernel
theorem dX0_countSelected_41 : decode cX0_countSelected 41 = .ok (.getfield 61, 3) := by decide +kernel
theorem dX0_countSelected_44 : decode cX0_countSelected 44 = .ok (.iload 4, 2) := by decide +kernel
theorem dX0_countSelected_46 : decode cX0_countSelected 46 = .ok (.baload, 1) := by decide +kernel
theorem dX0_countSelected_47 : decode cX0_countSelected 47 = .ok (.invokevirtual 65, 3) := by decide +kernel
theorem dX0_countSelected_50 : decode cX0_countSelected 50 = .ok (.iinc 4 1, 3) := by decide +kernel
theorem dX0_countSelected_53 : decode cX0_countSelected 53 = .ok (.goto (-44), 3) := by decide +kernel
theorem dX0_countSelected_56 : decode cX0_countSelected 56 = .ok (.aload_n 0, 1) := by decide +kernel
theorem dX0_countSelected_57 : decode cX0_countSelected 57 = .ok (.invokevirtual 45, 3) := by decide +kernel
theorem dX0_countSelected_60 : decode cX0_countSelected 60 = .ok (.aload_n 0, 1) := by decide +kernel
theorem dX0_countSelected_61 : decode cX0_countSelected 61 = .ok (.aload_n 0, 1) := by decide +kernel
theorem dX0_countSelected_62 : decode cX0_countSelected 62 = .ok (.getfield 38, 3) := by decide +kernel
theorem dX0_countSelected_65 : decode cX0_countSelected 65 = .ok (.invokevirtual 48, 3) := by decide +kernel
theorem dX0_countSelected_68 : decode cX0_countSelected 68 = .ok (.lreturn, 1) := by decide +kernel
theorem dX0_lay_0 : decode cX0_lay 0 = .ok (.aload_n 0, 1) := by decide +kernel
theorem dX0_lay_1 : decode cX0_lay 1 = .ok (.aload_n 2, 1) := by decide +kernel
theorem dX0_lay_2 : decode cX0_lay 2 = .ok (.getfield 69, 3) := by decide +kernel
theorem dX0_lay_5 : decode cX0_lay 5 = .ok (.putfield 31, 3) := by decide +kernel
theorem dX0_lay_8 : decode cX0_lay 8 = .ok (.aload_n 0, 1) := by decide +kernel
theorem dX0_lay_9 : decode cX0_lay 9 = .ok (.aload_n 1, 1) := by decide +kernel
theorem dX0_lay_10 : decode cX0_lay 10 = .ok (.getfield 72, 3) := by decide +kernel
theorem dX0_lay_13 : decode cX0_lay 13 = .ok (.putfield 35, 3) := by decide +kernel
theorem dX0_lay_16 : decode cX0_lay 16 = .ok (.aload_n 0, 1) := by decide +kernel
theorem dX0_lay_17 : decode cX0_lay 17 = .ok (.getfield 9, 3) := by decide +kernel
theorem dX0_lay_20 : decode cX0_lay 20 = .ok (.iconst 0, 1) := by decide +kernel
theorem dX0_lay_21 : decode cX0_lay 21 = .ok (.invokestatic 75, 3) := by decide +kernel
theorem dX0_lay_24 : decode cX0_lay 24 = .ok (.iconst 0, 1) := by decide +kernel
theorem dX0_lay_25 : decode cX0_lay 25 = .ok (.istore_n 3, 1) := by decide +kernel
theorem dX0_lay_26 : decode cX0_lay 26 = .ok (.iload_n 3, 1) := by decide +kernel
theorem dX0_lay_27 : decode cX0_lay 27 = .ok (.aload_n 0, 1) := by decide +kernel
theorem dX0_lay_28 : decode cX0_lay 28 = .ok (.getfield 35, 3) := by decide +kernel
theorem dX0_lay_31 : decode cX0_lay 31 = .ok (.if_icmp .ge 134, 3) := by decide +kernel
theorem dX0_lay_34 : decode cX0_lay 34 = .ok (.aload_n 0, 1) := by decide +kernel
theorem dX0_lay_35 : decode cX0_lay 35 = .ok (.getfield 21, 3) := by decide +kernel
theorem dX0_lay_38 : decode cX0_lay 38 = .ok (.iload_n 3, 1) := by decide +kernel
theorem dX0_lay_39 : decode cX0_lay 39 = .ok (.aload_n 1, 1) := by decide +kernel
theorem dX0_lay_40 : decode cX0_lay 40 = .ok (.getfield 81, 3) := by decide +kernel
theorem dX0_lay_43 : decode cX0_lay 43 = .ok (.iload_n 3, 1) := by decide +kernel
theorem dX0_lay_44 : decode cX0_lay 44 = .ok (.iaload, 1) := by decide +kernel
theorem dX0_lay_45 : decode cX0_lay 45 = .ok (.iastore, 1) := by decide +kernel
theorem dX0_lay_46 : decode cX0_lay 46 = .ok (.aload_n 0, 1) := by decide +kernel
theorem dX0_lay_47 : decode cX0_lay 47 = .ok (.getfield 18, 3) := by decide +kernel
theorem dX0_lay_50 : decode cX0_lay 50 = .ok (.iload_n 3, 1) := by decide +kernel
theorem dX0_lay_51 : decode cX0_lay 51 = .ok (.aload_n 1, 1) := by decide +kernel
theorem dX0_lay_52 : decode cX0_lay 52 = .ok (.aload_n 2, 1) := by decide +kernel
theorem dX0_lay_53 : decode cX0_lay 53 = .ok (.iload_n 3, 1) := by decide +kernel
theorem dX0_lay_54 : decode cX0_lay 54 = .ok (.invokestatic 82, 3) := by decide +kernel
theorem dX0_lay_57 : decode cX0_lay 57 = .ok (.iastore, 1) := by decide +kernel
theorem dX0_lay_58 : decode cX0_lay 58 = .ok (.iconst 0, 1) := by decide +kernel
theorem dX0_lay_59 : decode cX0_lay 59 = .ok (.istore 4, 2) := by decide +kernel
theorem dX0_lay_61 : decode cX0_lay 61 = .ok (.iload 4, 2) := by decide +kernel
theorem dX0_lay_63 : decode cX0_lay 63 = .ok (.aload_n 0, 1) := by decide +kernel
theorem dX0_lay_64 : decode cX0_lay 64 = .ok (.getfield 21, 3) := by decide +kernel
theorem dX0_lay_67 : decode cX0_lay 67 = .ok (.iload_n 3, 1) := by decide +kernel
theorem dX0_lay_68 : decode cX0_lay 68 = .ok (.iaload, 1) := by decide +kernel
theorem dX0_lay_69 : decode cX0_lay 69 = .ok (.iadd, 1) := by decide +kernel
theorem dX0_lay_70 : decode cX0_lay 70 = .ok (.aload_n 0, 1) := by decide +kernel
theorem dX0_lay_71 : decode cX0_lay 71 = .ok (.getfield 31, 3) := by decide +kernel
theorem dX0_lay_74 : decode cX0_lay 74 = .ok (.if_icmp .gt 85, 3) := by decide +kernel
theorem dX0_lay_77 : decode cX0_lay 77 = .ok (.aload_n 2, 1) := by decide +kernel
theorem dX0_lay_78 : decode cX0_lay 78 = .ok (.getfield 86, 3) := by decide +kernel
theorem dX0_lay_81 : decode cX0_lay 81 = .ok (.iload_n 3, 1) := by decide +kernel
theorem dX0_lay_82 : decode cX0_lay 82 = .ok (.ishr, 1) := by decide +kernel
theorem dX0_lay_83 : decode cX0_lay 83 = .ok (.iconst 1, 1) := by decide +kernel
theorem dX0_lay_84 : decode cX0_lay 84 = .ok (.iand, 1) := by decide +kernel
theorem dX0_lay_85 : decode cX0_lay 85 = .ok (.ifCond .ne 74, 3) := by decide +kernel
theorem dX0_lay_88 : decode cX0_lay 88 = .ok (.iload 4, 2) := by decide +kernel
theorem dX0_lay_90 : decode cX0_lay 90 = .ok (.aload_n 0, 1) := by decide +kernel
theorem dX0_lay_91 : decode cX0_lay 91 = .ok (.getfield 21, 3) := by decide +kernel
theorem dX0_lay_94 : decode cX0_lay 94 = .ok (.iload_n 3, 1) := by decide +kernel
theorem dX0_lay_95 : decode cX0_lay 95 = .ok (.iaload, 1) := by decide +kernel
theorem dX0_lay_96 : decode cX0_lay 96 = .ok (.iadd, 1) := by decide +kernel
theorem dX0_lay_97 : decode cX0_lay 97 = .ok (.istore 5, 2) := by decide +kernel
theorem dX0_lay_99 : decode cX0_lay 99 = .ok (.iload 5, 2) := by decide +kernel
theorem dX0_lay_101 : decode cX0_lay 101 = .ok (.aload_n 0, 1) := by decide +kernel
theorem dX0_lay_102 : decode cX0_lay 102 = .ok (.getfield 31, 3) := by decide +kernel
theorem dX0_lay_105 : decode cX0_lay 105 = .ok (.if_icmp .eq 12, 3) := by decide +kernel
theorem dX0_lay_108 : decode cX0_lay 108 = .ok (.aload_n 2, 1) := by decide +kernel
theorem dX0_lay_109 : decode cX0_lay 109 = .ok (.iload 5, 2) := by decide +kernel
theorem dX0_lay_111 : decode cX0_lay 111 = .ok (.invokevirtual 89, 3) := by decide +kernel
theorem dX0_lay_114 : decode cX0_lay 114 = .ok (.ifCond .eq 7, 3) := by decide +kernel
theorem dX0_lay_117 : decode cX0_lay 117 = .ok (.iconst 1, 1) := by decide +kernel
theorem dX0_lay_118 : decode cX0_lay 118 = .ok (.goto 4, 3) := by decide +kernel
theorem dX0_lay_121 : decode cX0_lay 121 = .ok (.iconst 0, 1) := by decide +kernel
theorem dX0_lay_122 : decode cX0_lay 122 = .ok (.istore 6, 2) := by decide +kernel
theorem dX0_lay_124 : decode cX0_lay 124 = .ok (.iload 6, 2) := by decide +kernel
theorem dX0_lay_126 : decode cX0_lay 126 = .ok (.ifCond .eq 27, 3) := by decide +kernel
theorem dX0_lay_129 : decode cX0_lay 129 = .ok (.aload_n 2, 1) := by decide +kernel
theorem dX0_lay_130 : decode cX0_lay 130 = .ok (.aload_n 1, 1) := by decide +kernel
theorem dX0_lay_131 : decode cX0_lay 131 = .ok (.iload_n 3, 1) := by decide +kernel
theorem dX0_lay_132 : decode cX0_lay 132 = .ok (.iload 4, 2) := by decide +kernel
theorem dX0_lay_134 : decode cX0_lay 134 = .ok (.invokevirtual 93, 3) := by decide +kernel
theorem dX0_lay_137 : decode cX0_lay 137 = .ok (.ifCond .eq 16, 3) := by decide +kernel
theorem dX0_lay_140 : decode cX0_lay 140 = .ok (.aload_n 0, 1) := by decide +kernel
theorem dX0_lay_141 : decode cX0_lay 141 = .ok (.getfield 9, 3) := by decide +kernel
theorem dX0_lay_144 : decode cX0_lay 144 = .ok (.iload 4, 2) := by decide +kernel
theorem dX0_lay_146 : decode cX0_lay 146 = .ok (.dup2, 1) := by decide +kernel
theorem dX0_lay_147 : decode cX0_lay 147 = .ok (.iaload, 1) := by decide +kernel
theorem dX0_lay_148 : decode cX0_lay 148 = .ok (.iconst 1, 1) := by decide +kernel
theorem dX0_lay_149 : decode cX0_lay 149 = .ok (.iload_n 3, 1) := by decide +kernel
theorem dX0_lay_150 : decode cX0_lay 150 = .ok (.ishl, 1) := by decide +kernel
theorem dX0_lay_151 : decode cX0_lay 151 = .ok (.ior, 1) := by decide +kernel
theorem dX0_lay_152 : decode cX0_lay 152 = .ok (.iastore, 1) := by decide +kernel
theorem dX0_lay_153 : decode cX0_lay 153 = .ok (.iinc 4 1, 3) := by decide +kernel
theorem dX0_lay_156 : decode cX0_lay 156 = .ok (.goto (-95), 3) := by decide +kernel
theorem dX0_lay_159 : decode cX0_lay 159 = .ok (.iinc 3 1, 3) := by decide +kernel
theorem dX0_lay_162 : decode cX0_lay 162 = .ok (.goto (-136), 3) := by decide +kernel
theorem dX0_lay_165 : decode cX0_lay 165 = .ok (.return_, 1) := by decide +kernel
theorem dX0_followersOf_0 : decode cX0_followersOf 0 = .ok (.iconst 0, 1) := by decide +kernel
theorem dX0_followersOf_1 : decode cX0_followersOf 1 = .ok (.istore_n 3, 1) := by decide +kernel
theorem dX0_followersOf_2 : decode cX0_followersOf 2 = .ok (.iconst 0, 1) := by decide +kernel
theorem dX0_followersOf_3 : decode cX0_followersOf 3 = .ok (.istore 4, 2) := by decide +kernel
theorem dX0_followersOf_5 : decode cX0_followersOf 5 = .ok (.iload 4, 2) := by decide +kernel
theorem dX0_followersOf_7 : decode cX0_followersOf 7 = .ok (.aload_n 0, 1) := by decide +kernel
theorem dX0_followersOf_8 : decode cX0_followersOf 8 = .ok (.getfield 72, 3) := by decide +kernel
theorem dX0_followersOf_11 : decode cX0_followersOf 11 = .ok (.if_icmp .ge 79, 3) := by decide +kernel
theorem dX0_followersOf_14 : decode cX0_followersOf 14 = .ok (.aload_n 1, 1) := by decide +kernel
theorem dX0_followersOf_15 : decode cX0_followersOf 15 = .ok (.getfield 97, 3) := by decide +kernel
theorem dX0_followersOf_18 : decode cX0_followersOf 18 = .ok (.aload_n 0, 1) := by decide +kernel
theorem dX0_followersOf_19 : decode cX0_followersOf 19 = .ok (.getfield 100, 3) := by decide +kernel
theorem dX0_followersOf_22 : decode cX0_followersOf 22 = .ok (.iload_n 2, 1) := by decide +kernel
theorem dX0_followersOf_23 : decode cX0_followersOf 23 = .ok (.iaload, 1) := by decide +kernel
theorem dX0_followersOf_24 : decode cX0_followersOf 24 = .ok (.iconst 3, 1) := by decide +kernel
theorem dX0_followersOf_25 : decode cX0_followersOf 25 = .ok (.imul, 1) := by decide +kernel
theorem dX0_followersOf_26 : decode cX0_followersOf 26 = .ok (.aload_n 0, 1) := by decide +kernel
theorem dX0_followersOf_27 : decode cX0_followersOf 27 = .ok (.getfield 100, 3) := by decide +kernel
theorem dX0_followersOf_30 : decode cX0_followersOf 30 = .ok (.iload 4, 2) := by decide +kernel
theorem dX0_followersOf_32 : decode cX0_followersOf 32 = .ok (.iaload, 1) := by decide +kernel
theorem dX0_followersOf_33 : decode cX0_followersOf 33 = .ok (.iadd, 1) := by decide +kernel
theorem dX0_followersOf_34 : decode cX0_followersOf 34 = .ok (.iaload, 1) := by decide +kernel
theorem dX0_followersOf_35 : decode cX0_followersOf 35 = .ok (.istore 5, 2) := by decide +kernel
theorem dX0_followersOf_37 : decode cX0_followersOf 37 = .ok (.aload_n 0, 1) := by decide +kernel
theorem dX0_followersOf_38 : decode cX0_followersOf 38 = .ok (.getfield 103, 3) := by decide +kernel
theorem dX0_followersOf_41 : decode cX0_followersOf 41 = .ok (.iload_n 2, 1) := by decide +kernel
theorem dX0_followersOf_42 : decode cX0_followersOf 42 = .ok (.iaload, 1) := by decide +kernel
theorem dX0_followersOf_43 : decode cX0_followersOf 43 = .ok (.aload_n 0, 1) := by decide +kernel
theorem dX0_followersOf_44 : decode cX0_followersOf 44 = .ok (.getfield 103, 3) := by decide +kernel
theorem dX0_followersOf_47 : decode cX0_followersOf 47 = .ok (.iload 4, 2) := by decide +kernel
theorem dX0_followersOf_49 : decode cX0_followersOf 49 = .ok (.iaload, 1) := by decide +kernel
theorem dX0_followersOf_50 : decode cX0_followersOf 50 = .ok (.if_icmp .ne 7, 3) := by decide +kernel
theorem dX0_followersOf_53 : decode cX0_followersOf 53 = .ok (.iconst 1, 1) := by decide +kernel
theorem dX0_followersOf_54 : decode cX0_followersOf 54 = .ok (.goto 4, 3) := by decide +kernel
theorem dX0_followersOf_57 : decode cX0_followersOf 57 = .ok (.iconst 0, 1) := by decide +kernel
theorem dX0_followersOf_58 : decode cX0_followersOf 58 = .ok (.istore 6, 2) := by decide +kernel
theorem dX0_followersOf_60 : decode cX0_followersOf 60 = .ok (.iload 5, 2) := by decide +kernel
theorem dX0_followersOf_62 : decode cX0_followersOf 62 = .ok (.iconst 1, 1) := by decide +kernel
theorem dX0_followersOf_63 : decode cX0_followersOf 63 = .ok (.if_icmp .eq 14, 3) := by decide +kernel
theorem dX0_followersOf_66 : decode cX0_followersOf 66 = .ok (.iload 5, 2) := by decide +kernel
theorem dX0_followersOf_68 : decode cX0_followersOf 68 = .ok (.iconst 2, 1) := by decide +kernel
theorem dX0_followersOf_69 : decode cX0_followersOf 69 = .ok (.if_icmp .ne 15, 3) := by decide +kernel
theorem dX0_followersOf_72 : decode cX0_followersOf 72 = .ok (.iload 6, 2) := by decide +kernel
theorem dX0_followersOf_74 : decode cX0_followersOf 74 = .ok (.ifCond .eq 10, 3) := by decide +kernel
theorem dX0_followersOf_77 : decode cX0_followersOf 77 = .ok (.iload_n 3, 1) := by decide +kernel
theorem dX0_followersOf_78 : decode cX0_followersOf 78 = .ok (.iconst 1, 1) := by decide +kernel
theorem dX0_followersOf_79 : decode cX0_followersOf 79 = .ok (.iload 4, 2) := by decide +kernel
theorem dX0_followersOf_81 : decode cX0_followersOf 81 = .ok (.ishl, 1) := by decide +kernel
theorem dX0_followersOf_82 : decode cX0_followersOf 82 = .ok (.ior, 1) := by decide +kernel
theorem dX0_followersOf_83 : decode cX0_followersOf 83 = .ok (.istore_n 3, 1) := by decide +kernel
theorem dX0_followersOf_84 : decode cX0_followersOf 84 = .ok (.iinc 4 1, 3) := by decide +kernel
theorem dX0_followersOf_87 : decode cX0_followersOf 87 = .ok (.goto (-82), 3) := by decide +kernel
theorem dX0_followersOf_90 : decode cX0_followersOf 90 = .ok (.iload_n 3, 1) := by decide +kernel
theorem dX0_followersOf_91 : decode cX0_followersOf 91 = .ok (.ireturn, 1) := by decide +kernel
theorem dX0_isOpen_0 : decode cX0_isOpen 0 = .ok (.aload_n 0, 1) := by decide +kernel
theorem dX0_isOpen_1 : decode cX0_isOpen 1 = .ok (.getfield 9, 3) := by decide +kernel
theorem dX0_isOpen_4 : decode cX0_isOpen 4 = .ok (.iload_n 1, 1) := by decide +kernel
theorem dX0_isOpen_5 : decode cX0_isOpen 5 = .ok (.iaload, 1) := by decide +kernel
theorem dX0_isOpen_6 : decode cX0_isOpen 6 = .ok (.iload_n 2, 1) := by decide +kernel
theorem dX0_isOpen_7 : decode cX0_isOpen 7 = .ok (.ishr, 1) := by decide +kernel
theorem dX0_isOpen_8 : decode cX0_isOpen 8 = .ok (.iconst 1, 1) := by decide +kernel
theorem dX0_isOpen_9 : decode cX0_isOpen 9 = .ok (.iand, 1) := by decide +kernel
theorem dX0_isOpen_10 : decode cX0_isOpen 10 = .ok (.ifCond .eq 7, 3) := by decide +kernel
theorem dX0_isOpen_13 : decode cX0_isOpen 13 = .ok (.iconst 1, 1) := by decide +kernel
theorem dX0_isOpen_14 : decode cX0_isOpen 14 = .ok (.goto 4, 3) := by decide +kernel
theorem dX0_isOpen_17 : decode cX0_isOpen 17 = .ok (.iconst 0, 1) := by decide +kernel
theorem dX0_isOpen_18 : decode cX0_isOpen 18 = .ok (.ireturn, 1) := by decide +kernel
theorem dX0_nextUnit_0 : decode cX0_nextUnit 0 = .ok (.iload_n 1, 1) := by decide +kernel
theorem dX0_nextUnit_1 : decode cX0_nextUnit 1 = .ok (.aload_n 0, 1) := by decide +kernel
theorem dX0_nextUnit_2 : decode cX0_nextUnit 2 = .ok (.getfield 21, 3) := by decide +kernel
theorem dX0_nextUnit_5 : decode cX0_nextUnit 5 = .ok (.iload_n 2, 1) := by decide +kernel
theorem dX0_nextUnit_6 : decode cX0_nextUnit 6 = .ok (.iaload, 1) := by decide +kernel
theorem dX0_nextUnit_7 : decode cX0_nextUnit 7 = .ok (.iadd, 1) := by decide +kernel
theorem dX0_nextUnit_8 : decode cX0_nextUnit 8 = .ok (.iconst 1, 1) := by decide +kernel
theorem dX0_nextUnit_9 : decode cX0_nextUnit 9 = .ok (.iadd, 1) := by decide +kernel
theorem dX0_nextUnit_10 : decode cX0_nextUnit 10 = .ok (.ireturn, 1) := by decide +kernel
theorem dX0_select_0 : decode cX0_select 0 = .ok (.iload_n 2, 1) := by decide +kernel
theorem dX0_select_1 : decode cX0_select 1 = .ok (.ifCond .lt 9, 3) := by decide +kernel
theorem dX0_select_4 : decode cX0_select 4 = .ok (.iload_n 2, 1) := by decide +kernel
theorem dX0_select_5 : decode cX0_select 5 = .ok (.bipush 24, 2) := by decide +kernel
theorem dX0_select_7 : decode cX0_select 7 = .ok (.if_icmp .lt 4, 3) := by decide +kernel
theorem dX0_select_10 : decode cX0_select 10 = .ok (.return_, 1) := by decide +kernel
theorem dX0_select_11 : decode cX0_select 11 = .ok (.iload_n 3, 1) := by decide +kernel
theorem dX0_select_12 : decode cX0_select 12 = .ok (.ifCond .ne 18, 3) := by decide +kernel
theorem dX0_select_15 : decode cX0_select 15 = .ok (.aload_n 0, 1) := by decide +kernel
theorem dX0_select_16 : decode cX0_select 16 = .ok (.getfield 9, 3) := by decide +kernel
theorem dX0_select_19 : decode cX0_select 19 = .ok (.iload_n 2, 1) := by decide +kernel
theorem dX0_select_20 : decode cX0_select 20 = .ok (.dup2, 1) := by decide +kernel
theorem dX0_select_21 : decode cX0_select 21 = .ok (.iaload, 1) := by decide +kernel
theorem dX0_select_22 : decode cX0_select 22 = .ok (.iconst 1, 1) := by decide +kernel
theorem dX0_select_23 : decode cX0_select 23 = .ok (.iload_n 1, 1) := by decide +kernel
theorem dX0_select_24 : decode cX0_select 24 = .ok (.ishl, 1) := by decide +kernel
theorem dX0_select_25 : decode cX0_select 25 = .ok (.iconst (-1), 1) := by decide +kernel
theorem dX0_select_26 : decode cX0_select 26 = .ok (.ixor, 1) := by decide +kernel
theorem dX0_select_27 : decode cX0_select 27 = .ok (.iand, 1) := by decide +kernel
theorem dX0_select_28 : decode cX0_select 28 = .ok (.iastore, 1) := by decide +kernel
theorem dX0_select_29 : decode cX0_select 29 = .ok (.return_, 1) := by decide +kernel
theorem dX0_select_30 : decode cX0_select 30 = .ok (.aload_n 0, 1) := by decide +kernel
theorem dX0_select_31 : decode cX0_select 31 = .ok (.getfield 9, 3) := by decide +kernel
theorem dX0_select_34 : decode cX0_select 34 = .ok (.iload_n 2, 1) := by decide +kernel
theorem dX0_select_35 : decode cX0_select 35 = .ok (.dup2, 1) := by decide +kernel
theorem dX0_select_36 : decode cX0_select 36 = .ok (.iaload, 1) := by decide +kernel
theorem dX0_select_37 : decode cX0_select 37 = .ok (.iconst 1, 1) := by decide +kernel
theorem dX0_select_38 : decode cX0_select 38 = .ok (.iload_n 1, 1) := by decide +kernel
theorem dX0_select_39 : decode cX0_select 39 = .ok (.ishl, 1) := by decide +kernel
theorem dX0_select_40 : decode cX0_select 40 = .ok (.iand, 1) := by decide +kernel
theorem dX0_select_41 : decode cX0_select 41 = .ok (.iastore, 1) := by decide +kernel
theorem dX0_select_42 : decode cX0_select 42 = .ok (.iconst 0, 1) := by decide +kernel
theorem dX0_select_43 : decode cX0_select 43 = .ok (.istore 4, 2) := by decide +kernel
theorem dX0_select_45 : decode cX0_select 45 = .ok (.iload 4, 2) := by decide +kernel
theorem dX0_select_47 : decode cX0_select 47 = .ok (.iload_n 2, 1) := by decide +kernel
theorem dX0_select_48 : decode cX0_select 48 = .ok (.if_icmp .ge 74, 3) := by decide +kernel
theorem dX0_select_51 : decode cX0_select 51 = .ok (.iconst 0, 1) := by decide +kernel
theorem dX0_select_52 : decode cX0_select 52 = .ok (.istore 5, 2) := by decide +kernel
theorem dX0_select_54 : decode cX0_select 54 = .ok (.iload 5, 2) := by decide +kernel
theorem dX0_select_56 : decode cX0_select 56 = .ok (.aload_n 0, 1) := by decide +kernel
theorem dX0_select_57 : decode cX0_select 57 = .ok (.getfield 35, 3) := by decide +kernel
theorem dX0_select_60 : decode cX0_select 60 = .ok (.if_icmp .ge 56, 3) := by decide +kernel
theorem dX0_select_63 : decode cX0_select 63 = .ok (.aload_n 0, 1) := by decide +kernel
theorem dX0_select_64 : decode cX0_select 64 = .ok (.iload 4, 2) := by decide +kernel
theorem dX0_select_66 : decode cX0_select 66 = .ok (.iload 5, 2) := by decide +kernel
theorem dX0_select_68 : decode cX0_select 68 = .ok (.invokevirtual 106, 3) := by decide +kernel
theorem dX0_select_71 : decode cX0_select 71 = .ok (.ifCond .eq 39, 3) := by decide +kernel
theorem dX0_select_74 : decode cX0_select 74 = .ok (.iload_n 2, 1) := by decide +kernel
theorem dX0_select_75 : decode cX0_select 75 = .ok (.aload_n 0, 1) := by decide +kernel
theorem dX0_select_76 : decode cX0_select 76 = .ok (.getfield 31, 3) := by decide +kernel
theorem dX0_select_79 : decode cX0_select 79 = .ok (.if_icmp .ge 15, 3) := by decide +kernel
theorem dX0_select_82 : decode cX0_select 82 = .ok (.aload_n 0, 1) := by decide +kernel
theorem dX0_select_83 : decode cX0_select 83 = .ok (.iload 4, 2) := by decide +kernel
theorem dX0_select_85 : decode cX0_select 85 = .ok (.iload 5, 2) := by decide +kernel
theorem dX0_select_87 : decode cX0_select 87 = .ok (.invokevirtual 110, 3) := by decide +kernel
theorem dX0_select_90 : decode cX0_select 90 = .ok (.iload_n 2, 1) := by decide +kernel
theorem dX0_select_91 : decode cX0_select 91 = .ok (.if_icmp .le 19, 3) := by decide +kernel
theorem dX0_select_94 : decode cX0_select 94 = .ok (.aload_n 0, 1) := by decide +kernel
theorem dX0_select_95 : decode cX0_select 95 = .ok (.getfield 9, 3) := by decide +kernel
theorem dX0_select_98 : decode cX0_select 98 = .ok (.iload 4, 2) := by decide +kernel
theorem dX0_select_100 : decode cX0_select 100 = .ok (.dup2, 1) := by decide +kernel
theorem dX0_select_101 : decode cX0_select 101 = .ok (.iaload, 1) := by decide +kernel
theorem dX0_select_102 : decode cX0_select 102 = .ok (.iconst 1, 1) := by decide +kernel
theorem dX0_select_103 : decode cX0_select 103 = .ok (.iload 5, 2) := by decide +kernel
theorem dX0_select_105 : decode cX0_select 105 = .ok (.ishl, 1) := by decide +kernel
theorem dX0_select_106 : decode cX0_select 106 = .ok (.iconst (-1), 1) := by decide +kernel
theorem dX0_select_107 : decode cX0_select 107 = .ok (.ixor, 1) := by decide +kernel
theorem dX0_select_108 : decode cX0_select 108 = .ok (.iand, 1) := by decide +kernel
theorem dX0_select_109 : decode cX0_select 109 = .ok (.iastore, 1) := by decide +kernel
theorem dX0_select_110 : decode cX0_select 110 = .ok (.iinc 5 1, 3) := by decide +kernel
theorem dX0_select_113 : decode cX0_select 113 = .ok (.goto (-59), 3) := by decide +kernel
theorem dX0_select_116 : decode cX0_select 116 = .ok (.iinc 4 1, 3) := by decide +kernel
theorem dX0_select_119 : decode cX0_select 119 = .ok (.goto (-74), 3) := by decide +kernel
theorem dX0_select_122 : decode cX0_select 122 = .ok (.return_, 1) := by decide +kernel
theorem dX0_prune_0 : decode cX0_prune 0 = .ok (.aload_n 0, 1) := by decide +kernel
theorem dX0_prune_1 : decode cX0_prune 1 = .ok (.getfield 31, 3) := by decide +kernel
theorem dX0_prune_4 : decode cX0_prune 4 = .ok (.iconst 1, 1) := by decide +kernel
theorem dX0_prune_5 : decode cX0_prune 5 = .ok (.isub, 1) := by decide +kernel
theorem dX0_prune_6 : decode cX0_prune 6 = .ok (.istore_n 1, 1) := by decide +kernel
theorem dX0_prune_7 : decode cX0_prune 7 = .ok (.iload_n 1, 1) := by decide +kernel
theorem dX0_prune_8 : decode cX0_prune 8 = .ok (.ifCond .lt 57, 3) := by decide +kernel
theorem dX0_prune_11 : decode cX0_prune 11 = .ok (.iconst 0, 1) := by decide +kernel
theorem dX0_prune_12 : decode cX0_prune 12 = .ok (.istore_n 2, 1) := by decide +kernel
theorem dX0_prune_13 : decode cX0_prune 13 = .ok (.iload_n 2, 1) := by decide +kernel
theorem dX0_prune_14 : decode cX0_prune 14 = .ok (.aload_n 0, 1) := by decide +kernel
theorem dX0_prune_15 : decode cX0_prune 15 = .ok (.getfield 35, 3) := by decide +kernel
theorem dX0_prune_18 : decode cX0_prune 18 = .ok (.if_icmp .ge 41, 3) := by decide +kernel
theorem dX0_prune_21 : decode cX0_prune 21 = .ok (.aload_n 0, 1) := by decide +kernel
theorem dX0_prune_22 : decode cX0_prune 22 = .ok (.iload_n 1, 1) := by decide +kernel
theorem dX0_prune_23 : decode cX0_prune 23 = .ok (.iload_n 2, 1) := by decide +kernel
theorem dX0_prune_24 : decode cX0_prune 24 = .ok (.invokevirtual 106, 3) := by decide +kernel
theorem dX0_prune_27 : decode cX0_prune 27 = .ok (.ifCond .eq 26, 3) := by decide +kernel
theorem dX0_prune_30 : decode cX0_prune 30 = .ok (.aload_n 0, 1) := by decide +kernel
theorem dX0_prune_31 : decode cX0_prune 31 = .ok (.iload_n 1, 1) := by decide +kernel
theorem dX0_prune_32 : decode cX0_prune 32 = .ok (.iload_n 2, 1) := by decide +kernel
theorem dX0_prune_33 : decode cX0_prune 33 = .ok (.invokevirtual 114, 3) := by decide +kernel
theorem dX0_prune_36 : decode cX0_prune 36 = .ok (.ifCond .ne 17, 3) := by decide +kernel
theorem dX0_prune_39 : decode cX0_prune 39 = .ok (.aload_n 0, 1) := by decide +kernel
theorem dX0_prune_40 : decode cX0_prune 40 = .ok (.getfield 9, 3) := by decide +kernel
theorem dX0_prune_43 : decode cX0_prune 43 = .ok (.iload_n 1, 1) := by decide +kernel
theorem dX0_prune_44 : decode cX0_prune 44 = .ok (.dup2, 1) := by decide +kernel
theorem dX0_prune_45 : decode cX0_prune 45 = .ok (.iaload, 1) := by decide +kernel
theorem dX0_prune_46 : decode cX0_prune 46 = .ok (.iconst 1, 1) := by decide +kernel
theorem dX0_prune_47 : decode cX0_prune 47 = .ok (.iload_n 2, 1) := by decide +kernel
theorem dX0_prune_48 : decode cX0_prune 48 = .ok (.ishl, 1) := by decide +kernel
theorem dX0_prune_49 : decode cX0_prune 49 = .ok (.iconst (-1), 1) := by decide +kernel
theorem dX0_prune_50 : decode cX0_prune 50 = .ok (.ixor, 1) := by decide +kernel
theorem dX0_prune_51 : decode cX0_prune 51 = .ok (.iand, 1) := by decide +kernel
theorem dX0_prune_52 : decode cX0_prune 52 = .ok (.iastore, 1) := by decide +kernel
theorem dX0_prune_53 : decode cX0_prune 53 = .ok (.iinc 2 1, 3) := by decide +kernel
theorem dX0_prune_56 : decode cX0_prune 56 = .ok (.goto (-43), 3) := by decide +kernel
theorem dX0_prune_59 : decode cX0_prune 59 = .ok (.iinc 1 (-1), 3) := by decide +kernel
theorem dX0_prune_62 : decode cX0_prune 62 = .ok (.goto (-55), 3) := by decide +kernel
theorem dX0_prune_65 : decode cX0_prune 65 = .ok (.aload_n 0, 1) := by decide +kernel
theorem dX0_prune_66 : decode cX0_prune 66 = .ok (.iconst 0, 1) := by decide +kernel
theorem dX0_prune_67 : decode cX0_prune 67 = .ok (.putfield 38, 3) := by decide +kernel
theorem dX0_prune_70 : decode cX0_prune 70 = .ok (.aload_n 0, 1) := by decide +kernel
theorem dX0_prune_71 : decode cX0_prune 71 = .ok (.getfield 15, 3) := by decide +kernel
theorem dX0_prune_74 : decode cX0_prune 74 = .ok (.iconst 0, 1) := by decide +kernel
theorem dX0_prune_75 : decode cX0_prune 75 = .ok (.invokestatic 75, 3) := by decide +kernel
theorem dX0_prune_78 : decode cX0_prune 78 = .ok (.aload_n 0, 1) := by decide +kernel
theorem dX0_prune_79 : decode cX0_prune 79 = .ok (.getfield 15, 3) := by decide +kernel
theorem dX0_prune_82 : decode cX0_prune 82 = .ok (.iconst 0, 1) := by decide +kernel
theorem dX0_prune_83 : decode cX0_prune 83 = .ok (.sipush 255, 3) := by decide +kernel
theorem dX0_prune_86 : decode cX0_prune 86 = .ok (.iastore, 1) := by decide +kernel
theorem dX0_prune_87 : decode cX0_prune 87 = .ok (.iconst 0, 1) := by decide +kernel
theorem dX0_prune_88 : decode cX0_prune 88 = .ok (.istore_n 1, 1) := by decide +kernel
theorem dX0_prune_89 : decode cX0_prune 89 = .ok (.iload_n 1, 1) := by decide +kernel
theorem dX0_prune_90 : decode cX0_prune 90 = .ok (.aload_n 0, 1) := by decide +kernel
theorem dX0_prune_91 : decode cX0_prune 91 = .ok (.getfield 31, 3) := by decide +kernel
theorem dX0_prune_94 : decode cX0_prune 94 = .ok (.if_icmp .ge 97, 3) := by decide +kernel
theorem dX0_prune_97 : decode cX0_prune 97 = .ok (.aload_n 0, 1) := by decide +kernel
theorem dX0_prune_98 : decode cX0_prune 98 = .ok (.getfield 9, 3) := by decide +kernel
theorem dX0_prune_101 : decode cX0_prune 101 = .ok (.iload_n 1, 1) := by decide +kernel
theorem dX0_prune_102 : decode cX0_prune 102 = .ok (.dup2, 1) := by decide +kernel
theorem dX0_prune_103 : decode cX0_prune 103 = .ok (.iaload, 1) := by decide +kernel
theorem dX0_prune_104 : decode cX0_prune 104 = .ok (.aload_n 0, 1) := by decide +kernel
theorem dX0_prune_105 : decode cX0_prune 105 = .ok (.getfield 15, 3) := by decide +kernel
theorem dX0_prune_108 : decode cX0_prune 108 = .ok (.iload_n 1, 1) := by decide +kernel
theorem dX0_prune_109 : decode cX0_prune 109 = .ok (.iaload, 1) := by decide +kernel
theorem dX0_prune_110 : decode cX0_prune 110 = .ok (.iand, 1) := by decide +kernel
theorem dX0_prune_111 : decode cX0_prune 111 = .ok (.iastore, 1) := by decide +kernel
theorem dX0_prune_112 : decode cX0_prune 112 = .ok (.aload_n 0, 1) := by decide +kernel
theorem dX0_prune_113 : decode cX0_prune 113 = .ok (.dup, 1) := by decide +kernel
theorem dX0_prune_114 : decode cX0_prune 114 = .ok (.getfield 38, 3) := by decide +kernel
theorem dX0_prune_117 : decode cX0_prune 117 = .ok (.aload_n 0, 1) := by decide +kernel
theorem dX0_prune_118 : decode cX0_prune 118 = .ok (.getfield 9, 3) := by decide +kernel
theorem dX0_prune_121 : decode cX0_prune 121 = .ok (.iload_n 1, 1) := by decide +kernel
theorem dX0_prune_122 : decode cX0_prune 122 = .ok (.iaload, 1) := by decide +kernel
theorem dX0_prune_123 : decode cX0_prune 123 = .ok (.ior, 1) := by decide +kernel
theorem dX0_prune_124 : decode cX0_prune 124 = .ok (.putfield 38, 3) := by decide +kernel
theorem dX0_prune_127 : decode cX0_prune 127 = .ok (.iconst 0, 1) := by decide +kernel
theorem dX0_prune_128 : decode cX0_prune 128 = .ok (.istore_n 2, 1) := by decide +kernel
theorem dX0_prune_129 : decode cX0_prune 129 = .ok (.iload_n 2, 1) := by decide +kernel
theorem dX0_prune_130 : decode cX0_prune 130 = .ok (.aload_n 0, 1) := by decide +kernel
theorem dX0_prune_131 : decode cX0_prune 131 = .ok (.getfield 35, 3) := by decide +kernel
theorem dX0_prune_134 : decode cX0_prune 134 = .ok (.if_icmp .ge 51, 3) := by decide +kernel
theorem dX0_prune_137 : decode cX0_prune 137 = .ok (.aload_n 0, 1) := by decide +kernel
theorem dX0_prune_138 : decode cX0_prune 138 = .ok (.iload_n 1, 1) := by decide +kernel
theorem dX0_prune_139 : decode cX0_prune 139 = .ok (.iload_n 2, 1) := by decide +kernel
theorem dX0_prune_140 : decode cX0_prune 140 = .ok (.invokevirtual 106, 3) := by decide +kernel
theorem dX0_prune_143 : decode cX0_prune 143 = .ok (.ifCond .eq 36, 3) := by decide +kernel
theorem dX0_prune_146 : decode cX0_prune 146 = .ok (.aload_n 0, 1) := by decide +kernel
theorem dX0_prune_147 : decode cX0_prune 147 = .ok (.iload_n 1, 1) := by decide +kernel
theorem dX0_prune_148 : decode cX0_prune 148 = .ok (.iload_n 2, 1) := by decide +kernel
theorem dX0_prune_149 : decode cX0_prune 149 = .ok (.invokevirtual 110, 3) := by decide +kernel
theorem dX0_prune_152 : decode cX0_prune 152 = .ok (.aload_n 0, 1) := by decide +kernel
theorem dX0_prune_153 : decode cX0_prune 153 = .ok (.getfield 31, 3) := by decide +kernel
theorem dX0_prune_156 : decode cX0_prune 156 = .ok (.if_icmp .gt 23, 3) := by decide +kernel
theorem dX0_prune_159 : decode cX0_prune 159 = .ok (.aload_n 0, 1) := by decide +kernel
theorem dX0_prune_160 : decode cX0_prune 160 = .ok (.getfield 15, 3) := by decide +kernel
theorem dX0_prune_163 : decode cX0_prune 163 = .ok (.aload_n 0, 1) := by decide +kernel
theorem dX0_prune_164 : decode cX0_prune 164 = .ok (.iload_n 1, 1) := by decide +kernel
theorem dX0_prune_165 : decode cX0_prune 165 = .ok (.iload_n 2, 1) := by decide +kernel
theorem dX0_prune_166 : decode cX0_prune 166 = .ok (.invokevirtual 110, 3) := by decide +kernel
theorem dX0_prune_169 : decode cX0_prune 169 = .ok (.dup2, 1) := by decide +kernel
theorem dX0_prune_170 : decode cX0_prune 170 = .ok (.iaload, 1) := by decide +kernel
theorem dX0_prune_171 : decode cX0_prune 171 = .ok (.aload_n 0, 1) := by decide +kernel
theorem dX0_prune_172 : decode cX0_prune 172 = .ok (.getfield 18, 3) := by decide +kernel
theorem dX0_prune_175 : decode cX0_prune 175 = .ok (.iload_n 2, 1) := by decide +kernel
theorem dX0_prune_176 : decode cX0_prune 176 = .ok (.iaload, 1) := by decide +kernel
theorem dX0_prune_177 : decode cX0_prune 177 = .ok (.ior, 1) := by decide +kernel
theorem dX0_prune_178 : decode cX0_prune 178 = .ok (.iastore, 1) := by decide +kernel
theorem dX0_prune_179 : decode cX0_prune 179 = .ok (.iinc 2 1, 3) := by decide +kernel
theorem dX0_prune_182 : decode cX0_prune 182 = .ok (.goto (-53), 3) := by decide +kernel
theorem dX0_prune_185 : decode cX0_prune 185 = .ok (.iinc 1 1, 3) := by decide +kernel
theorem dX0_prune_188 : decode cX0_prune 188 = .ok (.goto (-99), 3) := by decide +kernel
theorem dX0_prune_191 : decode cX0_prune 191 = .ok (.return_, 1) := by decide +kernel
theorem dX0_leadsOn_0 : decode cX0_leadsOn 0 = .ok (.aload_n 0, 1) := by decide +kernel
theorem dX0_leadsOn_1 : decode cX0_leadsOn 1 = .ok (.iload_n 1, 1) := by decide +kernel
theorem dX0_leadsOn_2 : decode cX0_leadsOn 2 = .ok (.iload_n 2, 1) := by decide +kernel
theorem dX0_leadsOn_3 : decode cX0_leadsOn 3 = .ok (.invokevirtual 110, 3) := by decide +kernel
theorem dX0_leadsOn_6 : decode cX0_leadsOn 6 = .ok (.istore_n 3, 1) := by decide +kernel
theorem dX0_leadsOn_7 : decode cX0_leadsOn 7 = .ok (.iload_n 3, 1) := by decide +kernel
theorem dX0_leadsOn_8 : decode cX0_leadsOn 8 = .ok (.aload_n 0, 1) := by decide +kernel
theorem dX0_leadsOn_9 : decode cX0_leadsOn 9 = .ok (.getfield 31, 3) := by decide +kernel
theorem dX0_leadsOn_12 : decode cX0_leadsOn 12 = .ok (.if_icmp .gt 19, 3) := by decide +kernel
theorem dX0_leadsOn_15 : decode cX0_leadsOn 15 = .ok (.aload_n 0, 1) := by decide +kernel
theorem dX0_leadsOn_16 : decode cX0_leadsOn 16 = .ok (.getfield 9, 3) := by decide +kernel
theorem dX0_leadsOn_19 : decode cX0_leadsOn 19 = .ok (.iload_n 3, 1) := by decide +kernel
theorem dX0_leadsOn_20 : decode cX0_leadsOn 20 = .ok (.iaload, 1) := by decide +kernel
theorem dX0_leadsOn_21 : decode cX0_leadsOn 21 = .ok (.aload_n 0, 1) := by decide +kernel
theorem dX0_leadsOn_22 : decode cX0_leadsOn 22 = .ok (.getfield 18, 3) := by decide +kernel
theorem dX0_leadsOn_25 : decode cX0_leadsOn 25 = .ok (.iload_n 2, 1) := by decide +kernel
theorem dX0_leadsOn_26 : decode cX0_leadsOn 26 = .ok (.iaload, 1) := by decide +kernel
theorem dX0_leadsOn_27 : decode cX0_leadsOn 27 = .ok (.iand, 1) := by decide +kernel
theorem dX0_leadsOn_28 : decode cX0_leadsOn 28 = .ok (.ifCond .eq 7, 3) := by decide +kernel
theorem dX0_leadsOn_31 : decode cX0_leadsOn 31 = .ok (.iconst 1, 1) := by decide +kernel
theorem dX0_leadsOn_32 : decode cX0_leadsOn 32 = .ok (.goto 4, 3) := by decide +kernel
theorem dX0_leadsOn_35 : decode cX0_leadsOn 35 = .ok (.iconst 0, 1) := by decide +kernel
theorem dX0_leadsOn_36 : decode cX0_leadsOn 36 = .ok (.ireturn, 1) := by decide +kernel
theorem dX0_countFrom_0 : decode cX0_countFrom 0 = .ok (.aload_n 0, 1) := by decide +kernel
theorem dX0_countFrom_1 : decode cX0_countFrom 1 = .ok (.getfield 31, 3) := by decide +kernel
theorem dX0_countFrom_4 : decode cX0_countFrom 4 = .ok (.iconst 1, 1) := by decide +kernel
theorem dX0_countFrom_5 : decode cX0_countFrom 5 = .ok (.isub, 1) := by decide +kernel
theorem dX0_countFrom_6 : decode cX0_countFrom 6 = .ok (.istore_n 2, 1) := by decide +kernel
theorem dX0_countFrom_7 : decode cX0_countFrom 7 = .ok (.iload_n 2, 1) := by decide +kernel
theorem dX0_countFrom_8 : decode cX0_countFrom 8 = .ok (.ifCond .lt 101, 3) := by decide +kernel
theorem dX0_countFrom_11 : decode cX0_countFrom 11 = .ok (.aload_n 0, 1) := by decide +kernel
theorem dX0_countFrom_12 : decode cX0_countFrom 12 = .ok (.getfield 9, 3) := by decide +kernel
theorem dX0_countFrom_15 : decode cX0_countFrom 15 = .ok (.iload_n 2, 1) := by decide +kernel
theorem dX0_countFrom_16 : decode cX0_countFrom 16 = .ok (.iaload, 1) := by decide +kernel
theorem dX0_countFrom_17 : decode cX0_countFrom 17 = .ok (.iload_n 1, 1) := by decide +kernel
theorem dX0_countFrom_18 : decode cX0_countFrom 18 = .ok (.iand, 1) := by decide +kernel
theorem dX0_countFrom_19 : decode cX0_countFrom 19 = .ok (.istore_n 3, 1) := by decide +kernel
theorem dX0_countFrom_20 : decode cX0_countFrom 20 = .ok (.iconst 0, 1) := by decide +kernel
theorem dX0_countFrom_21 : decode cX0_countFrom 21 = .ok (.istore 4, 2) := by decide +kernel
theorem dX0_countFrom_23 : decode cX0_countFrom 23 = .ok (.iload 4, 2) := by decide +kernel
theorem dX0_countFrom_25 : decode cX0_countFrom 25 = .ok (.aload_n 0, 1) := by decide +kernel
theorem dX0_countFrom_26 : decode cX0_countFrom 26 = .ok (.getfield 35, 3) := by decide +kernel
theorem dX0_countFrom_29 : decode cX0_countFrom 29 = .ok (.if_icmp .ge 74, 3) := by decide +kernel
theorem dX0_countFrom_32 : decode cX0_countFrom 32 = .ok (.iload_n 3, 1) := by decide +kernel
theorem dX0_countFrom_33 : decode cX0_countFrom 33 = .ok (.iload 4, 2) := by decide +kernel
theorem dX0_countFrom_35 : decode cX0_countFrom 35 = .ok (.ishr, 1) := by decide +kernel
theorem dX0_countFrom_36 : decode cX0_countFrom 36 = .ok (.ifCond .eq 67, 3) := by decide +kernel
theorem dX0_countFrom_39 : decode cX0_countFrom 39 = .ok (.iload_n 3, 1) := by decide +kernel
theorem dX0_countFrom_40 : decode cX0_countFrom 40 = .ok (.iload 4, 2) := by decide +kernel
theorem dX0_countFrom_42 : decode cX0_countFrom 42 = .ok (.ishr, 1) := by decide +kernel
theorem dX0_countFrom_43 : decode cX0_countFrom 43 = .ok (.iconst 1, 1) := by decide +kernel
theorem dX0_countFrom_44 : decode cX0_countFrom 44 = .ok (.iand, 1) := by decide +kernel
theorem dX0_countFrom_45 : decode cX0_countFrom 45 = .ok (.ifCond .eq 52, 3) := by decide +kernel
theorem dX0_countFrom_48 : decode cX0_countFrom 48 = .ok (.aload_n 0, 1) := by decide +kernel
theorem dX0_countFrom_49 : decode cX0_countFrom 49 = .ok (.iload_n 2, 1) := by decide +kernel
theorem dX0_countFrom_50 : decode cX0_countFrom 50 = .ok (.iload 4, 2) := by decide +kernel
theorem dX0_countFrom_52 : decode cX0_countFrom 52 = .ok (.invokevirtual 110, 3) := by decide +kernel
theorem dX0_countFrom_55 : decode cX0_countFrom 55 = .ok (.istore 5, 2) := by decide +kernel
theorem dX0_countFrom_57 : decode cX0_countFrom 57 = .ok (.aload_n 0, 1) := by decide +kernel
theorem dX0_countFrom_58 : decode cX0_countFrom 58 = .ok (.getfield 28, 3) := by decide +kernel
theorem dX0_countFrom_61 : decode cX0_countFrom 61 = .ok (.iload_n 2, 1) := by decide +kernel
theorem dX0_countFrom_62 : decode cX0_countFrom 62 = .ok (.bipush 8, 2) := by decide +kernel
theorem dX0_countFrom_64 : decode cX0_countFrom 64 = .ok (.imul, 1) := by decide +kernel
theorem dX0_countFrom_65 : decode cX0_countFrom 65 = .ok (.iload 4, 2) := by decide +kernel
theorem dX0_countFrom_67 : decode cX0_countFrom 67 = .ok (.iadd, 1) := by decide +kernel
theorem dX0_countFrom_68 : decode cX0_countFrom 68 = .ok (.iload 5, 2) := by decide +kernel
theorem dX0_countFrom_70 : decode cX0_countFrom 70 = .ok (.aload_n 0, 1) := by decide +kernel
theorem dX0_countFrom_71 : decode cX0_countFrom 71 = .ok (.getfield 31, 3) := by decide +kernel
theorem dX0_countFrom_74 : decode cX0_countFrom 74 = .ok (.if_icmp .le 7, 3) := by decide +kernel
theorem dX0_countFrom_77 : decode cX0_countFrom 77 = .ok (.lconst 1, 1) := by decide +kernel
theorem dX0_countFrom_78 : decode cX0_countFrom 78 = .ok (.goto 18, 3) := by decide +kernel
theorem dX0_countFrom_81 : decode cX0_countFrom 81 = .ok (.aload_n 0, 1) := by decide +kernel
theorem dX0_countFrom_82 : decode cX0_countFrom 82 = .ok (.iload 5, 2) := by decide +kernel
theorem dX0_countFrom_84 : decode cX0_countFrom 84 = .ok (.aload_n 0, 1) := by decide +kernel
theorem dX0_countFrom_85 : decode cX0_countFrom 85 = .ok (.getfield 18, 3) := by decide +kernel
theorem dX0_countFrom_88 : decode cX0_countFrom 88 = .ok (.iload 4, 2) := by decide +kernel
theorem dX0_countFrom_90 : decode cX0_countFrom 90 = .ok (.iaload, 1) := by decide +kernel
theorem dX0_countFrom_91 : decode cX0_countFrom 91 = .ok (.iload_n 1, 1) := by decide +kernel
theorem dX0_countFrom_92 : decode cX0_countFrom 92 = .ok (.iand, 1) := by decide +kernel
theorem dX0_countFrom_93 : decode cX0_countFrom 93 = .ok (.invokevirtual 117, 3) := by decide +kernel
theorem dX0_countFrom_96 : decode cX0_countFrom 96 = .ok (.lastore, 1) := by decide +kernel
theorem dX0_countFrom_97 : decode cX0_countFrom 97 = .ok (.iinc 4 1, 3) := by decide +kernel
theorem dX0_countFrom_100 : decode cX0_countFrom 100 = .ok (.goto (-77), 3) := by decide +kernel
theorem dX0_countFrom_103 : decode cX0_countFrom 103 = .ok (.iinc 2 (-1), 3) := by decide +kernel
theorem dX0_countFrom_106 : decode cX0_countFrom 106 = .ok (.goto (-99), 3) := by decide +kernel
theorem dX0_countFrom_109 : decode cX0_countFrom 109 = .ok (.aload_n 0, 1) := by decide +kernel
theorem dX0_countFrom_110 : decode cX0_countFrom 110 = .ok (.iconst 0, 1) := by decide +kernel
theorem dX0_countFrom_111 : decode cX0_countFrom 111 = .ok (.iload_n 1, 1) := by decide +kernel
theorem dX0_countFrom_112 : decode cX0_countFrom 112 = .ok (.invokevirtual 117, 3) := by decide +kernel
theorem dX0_countFrom_115 : decode cX0_countFrom 115 = .ok (.lreturn, 1) := by decide +kernel
theorem dX0_sumTails_0 : decode cX0_sumTails 0 = .ok (.aload_n 0, 1) := by decide +kernel
theorem dX0_sumTails_1 : decode cX0_sumTails 1 = .ok (.getfield 9, 3) := by decide +kernel
theorem dX0_sumTails_4 : decode cX0_sumTails 4 = .ok (.iload_n 1, 1) := by decide +kernel
theorem dX0_sumTails_5 : decode cX0_sumTails 5 = .ok (.iaload, 1) := by decide +kernel
theorem dX0_sumTails_6 : decode cX0_sumTails 6 = .ok (.iload_n 2, 1) := by decide +kernel
theorem dX0_sumTails_7 : decode cX0_sumTails 7 = .ok (.iand, 1) := by decide +kernel
theorem dX0_sumTails_8 : decode cX0_sumTails 8 = .ok (.istore_n 3, 1) := by decide +kernel
theorem dX0_sumTails_9 : decode cX0_sumTails 9 = .ok (.lconst 0, 1) := by decide +kernel
theorem dX0_sumTails_10 : decode cX0_sumTails 10 = .ok (.lstore 4, 2) := by decide +kernel
theorem dX0_sumTails_12 : decode cX0_sumTails 12 = .ok (.iconst 0, 1) := by decide +kernel
theorem dX0_sumTails_13 : decode cX0_sumTails 13 = .ok (.istore 6, 2) := by decide +kernel
theorem dX0_sumTails_15 : decode cX0_sumTails 15 = .ok (.iload 6, 2) := by decide +kernel
theorem dX0_sumTails_17 : decode cX0_sumTails 17 = .ok (.aload_n 0, 1) := by decide +kernel
theorem dX0_sumTails_18 : decode cX0_sumTails 18 = .ok (.getfield 35, 3) := by decide +kernel
theorem dX0_sumTails_21 : decode cX0_sumTails 21 = .ok (.if_icmp .ge 42, 3) := by decide +kernel
theorem dX0_sumTails_24 : decode cX0_sumTails 24 = .ok (.iload_n 3, 1) := by decide +kernel
theorem dX0_sumTails_25 : decode cX0_sumTails 25 = .ok (.iload 6, 2) := by decide +kernel
theorem dX0_sumTails_27 : decode cX0_sumTails 27 = .ok (.ishr, 1) := by decide +kernel
theorem dX0_sumTails_28 : decode cX0_sumTails 28 = .ok (.ifCond .eq 35, 3) := by decide +kernel
theorem dX0_sumTails_31 : decode cX0_sumTails 31 = .ok (.iload_n 3, 1) := by decide +kernel
theorem dX0_sumTails_32 : decode cX0_sumTails 32 = .ok (.iload 6, 2) := by decide +kernel
theorem dX0_sumTails_34 : decode cX0_sumTails 34 = .ok (.ishr, 1) := by decide +kernel
theorem dX0_sumTails_35 : decode cX0_sumTails 35 = .ok (.iconst 1, 1) := by decide +kernel
theorem dX0_sumTails_36 : decode cX0_sumTails 36 = .ok (.iand, 1) := by decide +kernel
theorem dX0_sumTails_37 : decode cX0_sumTails 37 = .ok (.ifCond .eq 20, 3) := by decide +kernel
theorem dX0_sumTails_40 : decode cX0_sumTails 40 = .ok (.lload 4, 2) := by decide +kernel
theorem dX0_sumTails_42 : decode cX0_sumTails 42 = .ok (.aload_n 0, 1) := by decide +kernel
theorem dX0_sumTails_43 : decode cX0_sumTails 43 = .ok (.getfield 28, 3) := by decide +kernel
theorem dX0_sumTails_46 : decode cX0_sumTails 46 = .ok (.iload_n 1, 1) := by decide +kernel
theorem dX0_sumTails_47 : decode cX0_sumTails 47 = .ok (.bipush 8, 2) := by decide +kernel
theorem dX0_sumTails_49 : decode cX0_sumTails 49 = .ok (.imul, 1) := by decide +kernel
theorem dX0_sumTails_50 : decode cX0_sumTails 50 = .ok (.iload 6, 2) := by decide +kernel
theorem dX0_sumTails_52 : decode cX0_sumTails 52 = .ok (.iadd, 1) := by decide +kernel
theorem dX0_sumTails_53 : decode cX0_sumTails 53 = .ok (.laload, 1) := by decide +kernel
theorem dX0_sumTails_54 : decode cX0_sumTails 54 = .ok (.ladd, 1) := by decide +kernel
theorem dX0_sumTails_55 : decode cX0_sumTails 55 = .ok (.lstore 4, 2) := by decide +kernel
theorem dX0_sumTails_57 : decode cX0_sumTails 57 = .ok (.iinc 6 1, 3) := by decide +kernel
theorem dX0_sumTails_60 : decode cX0_sumTails 60 = .ok (.goto (-45), 3) := by decide +kernel
theorem dX0_sumTails_63 : decode cX0_sumTails 63 = .ok (.lload 4, 2) := by decide +kernel
theorem dX0_sumTails_65 : decode cX0_sumTails 65 = .ok (.lreturn, 1) := by decide +kernel
theorem dX0_countHeads_0 : decode cX0_countHeads 0 = .ok (.aload_n 0, 1) := by decide +kernel
theorem dX0_countHeads_1 : decode cX0_countHeads 1 = .ok (.getfield 24, 3) := by decide +kernel
theorem dX0_countHeads_4 : decode cX0_countHeads 4 = .ok (.lconst 0, 1) := by decide +kernel
theorem dX0_countHeads_5 : decode cX0_countHeads 5 = .ok (.invokestatic 121, 3) := by decide +kernel
theorem dX0_countHeads_8 : decode cX0_countHeads 8 = .ok (.iconst 0, 1) := by decide +kernel
theorem dX0_countHeads_9 : decode cX0_countHeads 9 = .ok (.istore_n 1, 1) := by decide +kernel
theorem dX0_countHeads_10 : decode cX0_countHeads 10 = .ok (.iload_n 1, 1) := by decide +kernel
theorem dX0_countHeads_11 : decode cX0_countHeads 11 = .ok (.aload_n 0, 1) := by decide +kernel
theorem dX0_countHeads_12 : decode cX0_countHeads 12 = .ok (.getfield 35, 3) := by decide +kernel
theorem dX0_countHeads_15 : decode cX0_countHeads 15 = .ok (.if_icmp .ge 29, 3) := by decide +kernel
theorem dX0_countHeads_18 : decode cX0_countHeads 18 = .ok (.aload_n 0, 1) := by decide +kernel
theorem dX0_countHeads_19 : decode cX0_countHeads 19 = .ok (.getfield 24, 3) := by decide +kernel
theorem dX0_countHeads_22 : decode cX0_countHeads 22 = .ok (.iload_n 1, 1) := by decide +kernel
theorem dX0_countHeads_23 : decode cX0_countHeads 23 = .ok (.aload_n 0, 1) := by decide +kernel
theorem dX0_countHeads_24 : decode cX0_countHeads 24 = .ok (.iconst 0, 1) := by decide +kernel
theorem dX0_countHeads_25 : decode cX0_countHeads 25 = .ok (.iload_n 1, 1) := by decide +kernel
theorem dX0_countHeads_26 : decode cX0_countHeads 26 = .ok (.invokevirtual 106, 3) := by decide +kernel
theorem dX0_countHeads_29 : decode cX0_countHeads 29 = .ok (.ifCond .eq 7, 3) := by decide +kernel
theorem dX0_countHeads_32 : decode cX0_countHeads 32 = .ok (.lconst 1, 1) := by decide +kernel
theorem dX0_countHeads_33 : decode cX0_countHeads 33 = .ok (.goto 4, 3) := by decide +kernel
theorem dX0_countHeads_36 : decode cX0_countHeads 36 = .ok (.lconst 0, 1) := by decide +kernel
theorem dX0_countHeads_37 : decode cX0_countHeads 37 = .ok (.lastore, 1) := by decide +kernel
theorem dX0_countHeads_38 : decode cX0_countHeads 38 = .ok (.iinc 1 1, 3) := by decide +kernel
theorem dX0_countHeads_41 : decode cX0_countHeads 41 = .ok (.goto (-31), 3) := by decide +kernel
theorem dX0_countHeads_44 : decode cX0_countHeads 44 = .ok (.iconst 0, 1) := by decide +kernel
theorem dX0_countHeads_45 : decode cX0_countHeads 45 = .ok (.istore_n 1, 1) := by decide +kernel
theorem dX0_countHeads_46 : decode cX0_countHeads 46 = .ok (.iload_n 1, 1) := by decide +kernel
theorem dX0_countHeads_47 : decode cX0_countHeads 47 = .ok (.aload_n 0, 1) := by decide +kernel
theorem dX0_countHeads_48 : decode cX0_countHeads 48 = .ok (.getfield 31, 3) := by decide +kernel
theorem dX0_countHeads_51 : decode cX0_countHeads 51 = .ok (.if_icmp .ge 74, 3) := by decide +kernel
theorem dX0_countHeads_54 : decode cX0_countHeads 54 = .ok (.iconst 0, 1) := by decide +kernel
theorem dX0_countHeads_55 : decode cX0_countHeads 55 = .ok (.istore_n 2, 1) := by decide +kernel
theorem dX0_countHeads_56 : decode cX0_countHeads 56 = .ok (.iload_n 2, 1) := by decide +kernel
theorem dX0_countHeads_57 : decode cX0_countHeads 57 = .ok (.aload_n 0, 1) := by decide +kernel
theorem dX0_countHeads_58 : decode cX0_countHeads 58 = .ok (.getfield 35, 3) := by decide +kernel
theorem dX0_countHeads_61 : decode cX0_countHeads 61 = .ok (.if_icmp .ge 58, 3) := by decide +kernel
theorem dX0_countHeads_64 : decode cX0_countHeads 64 = .ok (.aload_n 0, 1) := by decide +kernel
theorem dX0_countHeads_65 : decode cX0_countHeads 65 = .ok (.iload_n 1, 1) := by decide +kernel
theorem dX0_countHeads_66 : decode cX0_countHeads 66 = .ok (.iload_n 2, 1) := by decide +kernel
theorem dX0_countHeads_67 : decode cX0_countHeads 67 = .ok (.invokevirtual 106, 3) := by decide +kernel
theorem dX0_countHeads_70 : decode cX0_countHeads 70 = .ok (.ifCond .eq 43, 3) := by decide +kernel
theorem dX0_countHeads_73 : decode cX0_countHeads 73 = .ok (.aload_n 0, 1) := by decide +kernel
theorem dX0_countHeads_74 : decode cX0_countHeads 74 = .ok (.iload_n 1, 1) := by decide +kernel
theorem dX0_countHeads_75 : decode cX0_countHeads 75 = .ok (.iload_n 2, 1) := by decide +kernel
theorem dX0_countHeads_76 : decode cX0_countHeads 76 = .ok (.invokevirtual 110, 3) := by decide +kernel
theorem dX0_countHeads_79 : decode cX0_countHeads 79 = .ok (.aload_n 0, 1) := by decide +kernel
theorem dX0_countHeads_80 : decode cX0_countHeads 80 = .ok (.getfield 31, 3) := by decide +kernel
theorem dX0_countHeads_83 : decode cX0_countHeads 83 = .ok (.if_icmp .gt 30, 3) := by decide +kernel
theorem dX0_countHeads_86 : decode cX0_countHeads 86 = .ok (.aload_n 0, 1) := by decide +kernel
theorem dX0_countHeads_87 : decode cX0_countHeads 87 = .ok (.aload_n 0, 1) := by decide +kernel
theorem dX0_countHeads_88 : decode cX0_countHeads 88 = .ok (.getfield 24, 3) := by decide +kernel
theorem dX0_countHeads_91 : decode cX0_countHeads 91 = .ok (.iload_n 1, 1) := by decide +kernel
theorem dX0_countHeads_92 : decode cX0_countHeads 92 = .ok (.bipush 8, 2) := by decide +kernel
theorem dX0_countHeads_94 : decode cX0_countHeads 94 = .ok (.imul, 1) := by decide +kernel
theorem dX0_countHeads_95 : decode cX0_countHeads 95 = .ok (.iload_n 2, 1) := by decide +kernel
theorem dX0_countHeads_96 : decode cX0_countHeads 96 = .ok (.iadd, 1) := by decide +kernel
theorem dX0_countHeads_97 : decode cX0_countHeads 97 = .ok (.laload, 1) := by decide +kernel
theorem dX0_countHeads_98 : decode cX0_countHeads 98 = .ok (.aload_n 0, 1) := by decide +kernel
theorem dX0_countHeads_99 : decode cX0_countHeads 99 = .ok (.iload_n 1, 1) := by decide +kernel
theorem dX0_countHeads_100 : decode cX0_countHeads 100 = .ok (.iload_n 2, 1) := by decide +kernel
theorem dX0_countHeads_101 : decode cX0_countHeads 101 = .ok (.invokevirtual 110, 3) := by decide +kernel
theorem dX0_countHeads_104 : decode cX0_countHeads 104 = .ok (.aload_n 0, 1) := by decide +kernel
theorem dX0_countHeads_105 : decode cX0_countHeads 105 = .ok (.getfield 18, 3) := by decide +kernel
theorem dX0_countHeads_108 : decode cX0_countHeads 108 = .ok (.iload_n 2, 1) := by decide +kernel
theorem dX0_countHeads_109 : decode cX0_countHeads 109 = .ok (.iaload, 1) := by decide +kernel
theorem dX0_countHeads_110 : decode cX0_countHeads 110 = .ok (.invokevirtual 124, 3) := by decide +kernel
theorem dX0_countHeads_113 : decode cX0_countHeads 113 = .ok (.iinc 2 1, 3) := by decide +kernel
theorem dX0_countHeads_116 : decode cX0_countHeads 116 = .ok (.goto (-60), 3) := by decide +kernel
theorem dX0_countHeads_119 : decode cX0_countHeads 119 = .ok (.iinc 1 1, 3) := by decide +kernel
theorem dX0_countHeads_122 : decode cX0_countHeads 122 = .ok (.goto (-76), 3) := by decide +kernel
theorem dX0_countHeads_125 : decode cX0_countHeads 125 = .ok (.return_, 1) := by decide +kernel
theorem dX0_passOn_0 : decode cX0_passOn 0 = .ok (.iconst 0, 1) := by decide +kernel
theorem dX0_passOn_1 : decode cX0_passOn 1 = .ok (.istore 5, 2) := by decide +kernel
theorem dX0_passOn_3 : decode cX0_passOn 3 = .ok (.iload 5, 2) := by decide +kernel
theorem dX0_passOn_5 : decode cX0_passOn 5 = .ok (.aload_n 0, 1) := by decide +kernel
theorem dX0_passOn_6 : decode cX0_passOn 6 = .ok (.getfield 35, 3) := by decide +kernel
theorem dX0_passOn_9 : decode cX0_passOn 9 = .ok (.if_icmp .ge 45, 3) := by decide +kernel
theorem dX0_passOn_12 : decode cX0_passOn 12 = .ok (.aload_n 0, 1) := by decide +kernel
theorem dX0_passOn_13 : decode cX0_passOn 13 = .ok (.iload_n 3, 1) := by decide +kernel
theorem dX0_passOn_14 : decode cX0_passOn 14 = .ok (.iload 5, 2) := by decide +kernel
theorem dX0_passOn_16 : decode cX0_passOn 16 = .ok (.invokevirtual 106, 3) := by decide +kernel
theorem dX0_passOn_19 : decode cX0_passOn 19 = .ok (.ifCond .eq 29, 3) := by decide +kernel
theorem dX0_passOn_22 : decode cX0_passOn 22 = .ok (.iload 4, 2) := by decide +kernel
theorem dX0_passOn_24 : decode cX0_passOn 24 = .ok (.iload 5, 2) := by decide +kernel
theorem dX0_passOn_26 : decode cX0_passOn 26 = .ok (.ishr, 1) := by decide +kernel
theorem dX0_passOn_27 : decode cX0_passOn 27 = .ok (.iconst 1, 1) := by decide +kernel
theorem dX0_passOn_28 : decode cX0_passOn 28 = .ok (.iand, 1) := by decide +kernel
theorem dX0_passOn_29 : decode cX0_passOn 29 = .ok (.ifCond .eq 19, 3) := by decide +kernel
theorem dX0_passOn_32 : decode cX0_passOn 32 = .ok (.aload_n 0, 1) := by decide +kernel
theorem dX0_passOn_33 : decode cX0_passOn 33 = .ok (.getfield 24, 3) := by decide +kernel
theorem dX0_passOn_36 : decode cX0_passOn 36 = .ok (.iload_n 3, 1) := by decide +kernel
theorem dX0_passOn_37 : decode cX0_passOn 37 = .ok (.bipush 8, 2) := by decide +kernel
theorem dX0_passOn_39 : decode cX0_passOn 39 = .ok (.imul, 1) := by decide +kernel
theorem dX0_passOn_40 : decode cX0_passOn 40 = .ok (.iload 5, 2) := by decide +kernel
theorem dX0_passOn_42 : decode cX0_passOn 42 = .ok (.iadd, 1) := by decide +kernel
theorem dX0_passOn_43 : decode cX0_passOn 43 = .ok (.dup2, 1) := by decide +kernel
theorem dX0_passOn_44 : decode cX0_passOn 44 = .ok (.laload, 1) := by decide +kernel
theorem dX0_passOn_45 : decode cX0_passOn 45 = .ok (.lload_n 1, 1) := by decide +kernel
theorem dX0_passOn_46 : decode cX0_passOn 46 = .ok (.ladd, 1) := by decide +kernel
theorem dX0_passOn_47 : decode cX0_passOn 47 = .ok (.lastore, 1) := by decide +kernel
theorem dX0_passOn_48 : decode cX0_passOn 48 = .ok (.iinc 5 1, 3) := by decide +kernel
theorem dX0_passOn_51 : decode cX0_passOn 51 = .ok (.goto (-48), 3) := by decide +kernel
theorem dX0_passOn_54 : decode cX0_passOn 54 = .ok (.return_, 1) := by decide +kernel
theorem dX0_countThrough_0 : decode cX0_countThrough 0 = .ok (.iload_n 1, 1) := by decide +kernel
theorem dX0_countThrough_1 : decode cX0_countThrough 1 = .ok (.bipush 8, 2) := by decide +kernel
theorem dX0_countThrough_3 : decode cX0_countThrough 3 = .ok (.imul, 1) := by decide +kernel
theorem dX0_countThrough_4 : decode cX0_countThrough 4 = .ok (.iload_n 2, 1) := by decide +kernel
theorem dX0_countThrough_5 : decode cX0_countThrough 5 = .ok (.iadd, 1) := by decide +kernel
theorem dX0_countThrough_6 : decode cX0_countThrough 6 = .ok (.istore_n 3, 1) := by decide +kernel
theorem dX0_countThrough_7 : decode cX0_countThrough 7 = .ok (.aload_n 0, 1) := by decide +kernel
theorem dX0_countThrough_8 : decode cX0_countThrough 8 = .ok (.iload_n 1, 1) := by decide +kernel
theorem dX0_countThrough_9 : decode cX0_countThrough 9 = .ok (.iload_n 2, 1) := by decide +kernel
theorem dX0_countThrough_10 : decode cX0_countThrough 10 = .ok (.invokevirtual 106, 3) := by decide +kernel
theorem dX0_countThrough_13 : decode cX0_countThrough 13 = .ok (.ifCond .eq 19, 3) := by decide +kernel
theorem dX0_countThrough_16 : decode cX0_countThrough 16 = .ok (.aload_n 0, 1) := by decide +kernel
theorem dX0_countThrough_17 : decode cX0_countThrough 17 = .ok (.getfield 24, 3) := by decide +kernel
theorem dX0_countThrough_20 : decode cX0_countThrough 20 = .ok (.iload_n 3, 1) := by decide +kernel
theorem dX0_countThrough_21 : decode cX0_countThrough 21 = .ok (.laload, 1) := by decide +kernel
theorem dX0_countThrough_22 : decode cX0_countThrough 22 = .ok (.aload_n 0, 1) := by decide +kernel
theorem dX0_countThrough_23 : decode cX0_countThrough 23 = .ok (.getfield 28, 3) := by decide +kernel
theorem dX0_countThrough_26 : decode cX0_countThrough 26 = .ok (.iload_n 3, 1) := by decide +kernel
theorem dX0_countThrough_27 : decode cX0_countThrough 27 = .ok (.laload, 1) := by decide +kernel
theorem dX0_countThrough_28 : decode cX0_countThrough 28 = .ok (.lmul, 1) := by decide +kernel
theorem dX0_countThrough_29 : decode cX0_countThrough 29 = .ok (.goto 4, 3) := by decide +kernel
theorem dX0_countThrough_32 : decode cX0_countThrough 32 = .ok (.lconst 0, 1) := by decide +kernel
theorem dX0_countThrough_33 : decode cX0_countThrough 33 = .ok (.lreturn, 1) := by decide +kernel
theorem dX0_countSign_0 : decode cX0_countSign 0 = .ok (.lconst 0, 1) := by decide +kernel
theorem dX0_countSign_1 : decode cX0_countSign 1 = .ok (.lstore 4, 2) := by decide +kernel
theorem dX0_countSign_3 : decode cX0_countSign 3 = .ok (.iconst 0, 1) := by decide +kernel
theorem dX0_countSign_4 : decode cX0_countSign 4 = .ok (.istore 6, 2) := by decide +kernel
theorem dX0_countSign_6 : decode cX0_countSign 6 = .ok (.iload 6, 2) := by decide +kernel
theorem dX0_countSign_8 : decode cX0_countSign 8 = .ok (.iload_n 2, 1) := by decide +kernel
theorem dX0_countSign_9 : decode cX0_countSign 9 = .ok (.if_icmp .gt 74, 3) := by decide +kernel
theorem dX0_countSign_12 : decode cX0_countSign 12 = .ok (.iload 6, 2) := by decide +kernel
theorem dX0_countSign_14 : decode cX0_countSign 14 = .ok (.aload_n 0, 1) := by decide +kernel
theorem dX0_countSign_15 : decode cX0_countSign 15 = .ok (.getfield 31, 3) := by decide +kernel
theorem dX0_countSign_18 : decode cX0_countSign 18 = .ok (.if_icmp .ge 65, 3) := by decide +kernel
theorem dX0_countSign_21 : decode cX0_countSign 21 = .ok (.iconst 0, 1) := by decide +kernel
theorem dX0_countSign_22 : decode cX0_countSign 22 = .ok (.istore 7, 2) := by decide +kernel
theorem dX0_countSign_24 : decode cX0_countSign 24 = .ok (.iload 7, 2) := by decide +kernel
theorem dX0_countSign_26 : decode cX0_countSign 26 = .ok (.aload_n 0, 1) := by decide +kernel
theorem dX0_countSign_27 : decode cX0_countSign 27 = .ok (.getfield 35, 3) := by decide +kernel
theorem dX0_countSign_30 : decode cX0_countSign 30 = .ok (.if_icmp .ge 47, 3) := by decide +kernel
theorem dX0_countSign_33 : decode cX0_countSign 33 = .ok (.aload_n 0, 1) := by decide +kernel
theorem dX0_countSign_34 : decode cX0_countSign 34 = .ok (.iload 6, 2) := by decide +kernel
theorem dX0_countSign_36 : decode cX0_countSign 36 = .ok (.iload 7, 2) := by decide +kernel
theorem dX0_countSign_38 : decode cX0_countSign 38 = .ok (.invokevirtual 106, 3) := by decide +kernel
theorem dX0_countSign_41 : decode cX0_countSign 41 = .ok (.ifCond .eq 30, 3) := by decide +kernel
theorem dX0_countSign_44 : decode cX0_countSign 44 = .ok (.aload_n 1, 1) := by decide +kernel
theorem dX0_countSign_45 : decode cX0_countSign 45 = .ok (.iload 7, 2) := by decide +kernel
theorem dX0_countSign_47 : decode cX0_countSign 47 = .ok (.iload_n 2, 1) := by decide +kernel
theorem dX0_countSign_48 : decode cX0_countSign 48 = .ok (.iload 6, 2) := by decide +kernel
theorem dX0_countSign_50 : decode cX0_countSign 50 = .ok (.isub, 1) := by decide +kernel
theorem dX0_countSign_51 : decode cX0_countSign 51 = .ok (.invokevirtual 128, 3) := by decide +kernel
theorem dX0_countSign_54 : decode cX0_countSign 54 = .ok (.iload_n 3, 1) := by decide +kernel
theorem dX0_countSign_55 : decode cX0_countSign 55 = .ok (.if_icmp .ne 16, 3) := by decide +kernel
theorem dX0_countSign_58 : decode cX0_countSign 58 = .ok (.lload 4, 2) := by decide +kernel
theorem dX0_countSign_60 : decode cX0_countSign 60 = .ok (.aload_n 0, 1) := by decide +kernel
theorem dX0_countSign_61 : decode cX0_countSign 61 = .ok (.iload 6, 2) := by decide +kernel
theorem dX0_countSign_63 : decode cX0_countSign 63 = .ok (.iload 7, 2) := by decide +kernel
theorem dX0_countSign_65 : decode cX0_countSign 65 = .ok (.invokevirtual 131, 3) := by decide +kernel
theorem dX0_countSign_68 : decode cX0_countSign 68 = .ok (.ladd, 1) := by decide +kernel
theorem dX0_countSign_69 : decode cX0_countSign 69 = .ok (.lstore 4, 2) := by decide +kernel
theorem dX0_countSign_71 : decode cX0_countSign 71 = .ok (.iinc 7 1, 3) := by decide +kernel
theorem dX0_countSign_74 : decode cX0_countSign 74 = .ok (.goto (-50), 3) := by decide +kernel
theorem dX0_countSign_77 : decode cX0_countSign 77 = .ok (.iinc 6 1, 3) := by decide +kernel
theorem dX0_countSign_80 : decode cX0_countSign 80 = .ok (.goto (-74), 3) := by decide +kernel
theorem dX0_countSign_83 : decode cX0_countSign 83 = .ok (.lload 4, 2) := by decide +kernel
theorem dX0_countSign_85 : decode cX0_countSign 85 = .ok (.lreturn, 1) := by decide +kernel
theorem dX1_init_0 : decode cX1_init 0 = .ok (.aload_n 0, 1) := by decide +kernel
theorem dX1_init_1 : decode cX1_init 1 = .ok (.invokespecial 3, 3) := by decide +kernel
theorem dX1_init_4 : decode cX1_init 4 = .ok (.aload_n 0, 1) := by decide +kernel
theorem dX1_init_5 : decode cX1_init 5 = .ok (.bipush 14, 2) := by decide +kernel
theorem dX1_init_7 : decode cX1_init 7 = .ok (.newarray .int, 2) := by decide +kernel
theorem dX1_init_9 : decode cX1_init 9 = .ok (.putfield 9, 3) := by decide +kernel
theorem dX1_init_12 : decode cX1_init 12 = .ok (.aload_n 0, 1) := by decide +kernel
theorem dX1_init_13 : decode cX1_init 13 = .ok (.bipush 14, 2) := by decide +kernel
theorem dX1_init_15 : decode cX1_init 15 = .ok (.newarray .int, 2) := by decide +kernel
theorem dX1_init_17 : decode cX1_init 17 = .ok (.putfield 15, 3) := by decide +kernel
theorem dX1_init_20 : decode cX1_init 20 = .ok (.aload_n 0, 1) := by decide +kernel
theorem dX1_init_21 : decode cX1_init 21 = .ok (.bipush 14, 2) := by decide +kernel
theorem dX1_init_23 : decode cX1_init 23 = .ok (.newarray .int, 2) := by decide +kernel
theorem dX1_init_25 : decode cX1_init 25 = .ok (.putfield 18, 3) := by decide +kernel
theorem dX1_init_28 : decode cX1_init 28 = .ok (.aload_n 0, 1) := by decide +kernel
theorem dX1_init_29 : decode cX1_init 29 = .ok (.iconst 0, 1) := by decide +kernel
theorem dX1_init_30 : decode cX1_init 30 = .ok (.putfield 21, 3) := by decide +kernel
theorem dX1_init_33 : decode cX1_init 33 = .ok (.aload_n 0, 1) := by decide +kernel
theorem dX1_init_34 : decode cX1_init 34 = .ok (.iconst 0, 1) := by decide +kernel
theorem dX1_init_35 : decode cX1_init 35 = .ok (.putfield 25, 3) := by decide +kernel
theorem dX1_init_38 : decode cX1_init 38 = .ok (.return_, 1) := by decide +kernel
theorem dX1_forget_0 : decode cX1_forget 0 = .ok (.aload_n 0, 1) := by decide +kernel
theorem dX1_forget_1 : decode cX1_forget 1 = .ok (.iconst 0, 1) := by decide +kernel
theorem dX1_forget_2 : decode cX1_forget 2 = .ok (.putfield 21, 3) := by decide +kernel
theorem dX1_forget_5 : decode cX1_forget 5 = .ok (.aload_n 0, 1) := by decide +kernel
theorem dX1_forget_6 : decode cX1_forget 6 = .ok (.iconst 0, 1) := by decide +kernel
theorem dX1_forget_7 : decode cX1_forget 7 = .ok (.putfield 25, 3) := by decide +kernel
theorem dX1_forget_10 : decode cX1_forget 10 = .ok (.return_, 1) := by decide +kernel
theorem dX1_record_0 : decode cX1_record 0 = .ok (.aload_n 0, 1) := by decide +kernel
theorem dX1_record_1 : decode cX1_record 1 = .ok (.getfield 25, 3) := by decide +kernel
theorem dX1_record_4 : decode cX1_record 4 = .ok (.ifCond .lt 12, 3) := by decide +kernel
theorem dX1_record_7 : decode cX1_record 7 = .ok (.aload_n 0, 1) := by decide +kernel
theorem dX1_record_8 : decode cX1_record 8 = .ok (.getfield 25, 3) := by decide +kernel
theorem dX1_record_11 : decode cX1_record 11 = .ok (.bipush 14, 2) := by decide +kernel
theorem dX1_record_13 : decode cX1_record 13 = .ok (.if_icmp .lt 4, 3) := by decide +kernel
theorem dX1_record_16 : decode cX1_record 16 = .ok (.return_, 1) := by decide +kernel
theorem dX1_record_17 : decode cX1_record 17 = .ok (.aload_n 0, 1) := by decide +kernel
theorem dX1_record_18 : decode cX1_record 18 = .ok (.getfield 9, 3) := by decide +kernel
theorem dX1_record_21 : decode cX1_record 21 = .ok (.aload_n 0, 1) := by decide +kernel
theorem dX1_record_22 : decode cX1_record 22 = .ok (.getfield 25, 3) := by decide +kernel
theorem dX1_record_25 : decode cX1_record 25 = .ok (.iload_n 1, 1) := by decide +kernel
theorem dX1_record_26 : decode cX1_record 26 = .ok (.iastore, 1) := by decide +kernel
theorem dX1_record_27 : decode cX1_record 27 = .ok (.aload_n 0, 1) := by decide +kernel
theorem dX1_record_28 : decode cX1_record 28 = .ok (.getfield 15, 3) := by decide +kernel
theorem dX1_record_31 : decode cX1_record 31 = .ok (.aload_n 0, 1) := by decide +kernel
theorem dX1_record_32 : decode cX1_record 32 = .ok (.getfield 25, 3) := by decide +kernel
theorem dX1_record_35 : decode cX1_record 35 = .ok (.iload_n 2, 1) := by decide +kernel
theorem dX1_record_36 : decode cX1_record 36 = .ok (.iastore, 1) := by decide +kernel
theorem dX1_record_37 : decode cX1_record 37 = .ok (.aload_n 0, 1) := by decide +kernel
theorem dX1_record_38 : decode cX1_record 38 = .ok (.getfield 18, 3) := by decide +kernel
theorem dX1_record_41 : decode cX1_record 41 = .ok (.aload_n 0, 1) := by decide +kernel
theorem dX1_record_42 : decode cX1_record 42 = .ok (.getfield 25, 3) := by decide +kernel
theorem dX1_record_45 : decode cX1_record 45 = .ok (.iload_n 3, 1) := by decide +kernel
theorem dX1_record_46 : decode cX1_record 46 = .ok (.iastore, 1) := by decide +kernel
theorem dX1_record_47 : decode cX1_record 47 = .ok (.aload_n 0, 1) := by decide +kernel
theorem dX1_record_48 : decode cX1_record 48 = .ok (.aload_n 0, 1) := by decide +kernel
theorem dX1_record_49 : decode cX1_record 49 = .ok (.getfield 25, 3) := by decide +kernel
theorem dX1_record_52 : decode cX1_record 52 = .ok (.iconst 1, 1) := by decide +kernel
theorem dX1_record_53 : decode cX1_record 53 = .ok (.iadd, 1) := by decide +kernel
theorem dX1_record_54 : decode cX1_record 54 = .ok (.bipush 14, 2) := by decide +kernel
theorem dX1_record_56 : decode cX1_record 56 = .ok (.irem, 1) := by decide +kernel
theorem dX1_record_57 : decode cX1_record 57 = .ok (.putfield 25, 3) := by decide +kernel
theorem dX1_record_60 : decode cX1_record 60 = .ok (.aload_n 0, 1) := by decide +kernel
theorem dX1_record_61 : decode cX1_record 61 = .ok (.aload_n 0, 1) := by decide +kernel
theorem dX1_record_62 : decode cX1_record 62 = .ok (.getfield 21, 3) := by decide +kernel
theorem dX1_record_65 : decode cX1_record 65 = .ok (.iconst 1, 1) := by decide +kernel
theorem dX1_record_66 : decode cX1_record 66 = .ok (.iadd, 1) := by decide +kernel
theorem dX1_record_67 : decode cX1_record 67 = .ok (.bipush 14, 2) := by decide +kernel
theorem dX1_record_69 : decode cX1_record 69 = .ok (.invokestatic 28, 3) := by decide +kernel
theorem dX1_record_72 : decode cX1_record 72 = .ok (.putfield 21, 3) := by decide +kernel
theorem dX1_record_75 : decode cX1_record 75 = .ok (.return_, 1) := by decide +kernel
theorem dX1_takeBack_0 : decode cX1_takeBack 0 = .ok (.aload_n 0, 1) := by decide +kernel
theorem dX1_takeBack_1 : decode cX1_takeBack 1 = .ok (.getfield 25, 3) := by decide +kernel
theorem dX1_takeBack_4 : decode cX1_takeBack 4 = .ok (.bipush 14, 2) := by decide +kernel
theorem dX1_takeBack_6 : decode cX1_takeBack 6 = .ok (.iadd, 1) := by decide +kernel
theorem dX1_takeBack_7 : decode cX1_takeBack 7 = .ok (.iconst 1, 1) := by decide +kernel
theorem dX1_takeBack_8 : decode cX1_takeBack 8 = .ok (.isub, 1) := by decide +kernel
theorem dX1_takeBack_9 : decode cX1_takeBack 9 = .ok (.bipush 14, 2) := by decide +kernel
theorem dX1_takeBack_11 : decode cX1_takeBack 11 = .ok (.irem, 1) := by decide +kernel
theorem dX1_takeBack_12 : decode cX1_takeBack 12 = .ok (.istore_n 3, 1) := by decide +kernel
theorem dX1_takeBack_13 : decode cX1_takeBack 13 = .ok (.aload_n 0, 1) := by decide +kernel
theorem dX1_takeBack_14 : decode cX1_takeBack 14 = .ok (.getfield 21, 3) := by decide +kernel
theorem dX1_takeBack_17 : decode cX1_takeBack 17 = .ok (.ifCond .le 7, 3) := by decide +kernel
theorem dX1_takeBack_20 : decode cX1_takeBack 20 = .ok (.iload_n 3, 1) := by decide +kernel
theorem dX1_takeBack_21 : decode cX1_takeBack 21 = .ok (.ifCond .ge 4, 3) := by decide +kernel
theorem dX1_takeBack_24 : decode cX1_takeBack 24 = .ok (.return_, 1) := by decide +kernel
theorem dX1_takeBack_25 : decode cX1_takeBack 25 = .ok (.aload_n 0, 1) := by decide +kernel
theorem dX1_takeBack_26 : decode cX1_takeBack 26 = .ok (.iload_n 3, 1) := by decide +kernel
theorem dX1_takeBack_27 : decode cX1_takeBack 27 = .ok (.putfield 25, 3) := by decide +kernel
theorem dX1_takeBack_30 : decode cX1_takeBack 30 = .ok (.aload_n 0, 1) := by decide +kernel
theorem dX1_takeBack_31 : decode cX1_takeBack 31 = .ok (.dup, 1) := by decide +kernel
theorem dX1_takeBack_32 : decode cX1_takeBack 32 = .ok (.getfield 21, 3) := by decide +kernel
theorem dX1_takeBack_35 : decode cX1_takeBack 35 = .ok (.iconst 1, 1) := by decide +kernel
theorem dX1_takeBack_36 : decode cX1_takeBack 36 = .ok (.isub, 1) := by decide +kernel
theorem dX1_takeBack_37 : decode cX1_takeBack 37 = .ok (.putfield 21, 3) := by decide +kernel
theorem dX1_takeBack_40 : decode cX1_takeBack 40 = .ok (.aload_n 0, 1) := by decide +kernel
theorem dX1_takeBack_41 : decode cX1_takeBack 41 = .ok (.getfield 15, 3) := by decide +kernel
theorem dX1_takeBack_44 : decode cX1_takeBack 44 = .ok (.iload_n 3, 1) := by decide +kernel
theorem dX1_takeBack_45 : decode cX1_takeBack 45 = .ok (.iaload, 1) := by decide +kernel
theorem dX1_takeBack_46 : decode cX1_takeBack 46 = .ok (.istore 4, 2) := by decide +kernel
theorem dX1_takeBack_48 : decode cX1_takeBack 48 = .ok (.aload_n 0, 1) := by decide +kernel
theorem dX1_takeBack_49 : decode cX1_takeBack 49 = .ok (.getfield 18, 3) := by decide +kernel
theorem dX1_takeBack_52 : decode cX1_takeBack 52 = .ok (.iload_n 3, 1) := by decide +kernel
theorem dX1_takeBack_53 : decode cX1_takeBack 53 = .ok (.iaload, 1) := by decide +kernel
theorem dX1_takeBack_54 : decode cX1_takeBack 54 = .ok (.istore 5, 2) := by decide +kernel
theorem dX1_takeBack_56 : decode cX1_takeBack 56 = .ok (.aload_n 0, 1) := by decide +kernel
theorem dX1_takeBack_57 : decode cX1_takeBack 57 = .ok (.getfield 9, 3) := by decide +kernel
theorem dX1_takeBack_60 : decode cX1_takeBack 60 = .ok (.iload_n 3, 1) := by decide +kernel
theorem dX1_takeBack_61 : decode cX1_takeBack 61 = .ok (.iaload, 1) := by decide +kernel
theorem dX1_takeBack_62 : decode cX1_takeBack 62 = .ok (.tableswitch 122 0 4 #[34, 51, 66, 77, 101], 34) := by decide +kernel
theorem dX1_takeBack_96 : decode cX1_takeBack 96 = .ok (.aload_n 2, 1) := by decide +kernel
theorem dX1_takeBack_97 : decode cX1_takeBack 97 = .ok (.iload 4, 2) := by decide +kernel
theorem dX1_takeBack_99 : decode cX1_takeBack 99 = .ok (.iload 5, 2) := by decide +kernel
theorem dX1_takeBack_101 : decode cX1_takeBack 101 = .ok (.aload_n 1, 1) := by decide +kernel
theorem dX1_takeBack_102 : decode cX1_takeBack 102 = .ok (.iload 5, 2) := by decide +kernel
theorem dX1_takeBack_104 : decode cX1_takeBack 104 = .ok (.invokevirtual 34, 3) := by decide +kernel
theorem dX1_takeBack_107 : decode cX1_takeBack 107 = .ok (.invokevirtual 40, 3) := by decide +kernel
theorem dX1_takeBack_110 : decode cX1_takeBack 110 = .ok (.goto 74, 3) := by decide +kernel
theorem dX1_takeBack_113 : decode cX1_takeBack 113 = .ok (.aload_n 2, 1) := by decide +kernel
theorem dX1_takeBack_114 : decode cX1_takeBack 114 = .ok (.iload 4, 2) := by decide +kernel
theorem dX1_takeBack_116 : decode cX1_takeBack 116 = .ok (.aload_n 1, 1) := by decide +kernel
theorem dX1_takeBack_117 : decode cX1_takeBack 117 = .ok (.iload 5, 2) := by decide +kernel
theorem dX1_takeBack_119 : decode cX1_takeBack 119 = .ok (.invokevirtual 34, 3) := by decide +kernel
theorem dX1_takeBack_122 : decode cX1_takeBack 122 = .ok (.invokevirtual 46, 3) := by decide +kernel
theorem dX1_takeBack_125 : decode cX1_takeBack 125 = .ok (.goto 59, 3) := by decide +kernel
theorem dX1_takeBack_128 : decode cX1_takeBack 128 = .ok (.aload_n 2, 1) := by decide +kernel
theorem dX1_takeBack_129 : decode cX1_takeBack 129 = .ok (.aload_n 1, 1) := by decide +kernel
theorem dX1_takeBack_130 : decode cX1_takeBack 130 = .ok (.iload 4, 2) := by decide +kernel
theorem dX1_takeBack_132 : decode cX1_takeBack 132 = .ok (.invokevirtual 50, 3) := by decide +kernel
theorem dX1_takeBack_135 : decode cX1_takeBack 135 = .ok (.pop, 1) := by decide +kernel
theorem dX1_takeBack_136 : decode cX1_takeBack 136 = .ok (.goto 48, 3) := by decide +kernel
theorem dX1_takeBack_139 : decode cX1_takeBack 139 = .ok (.iload 4, 2) := by decide +kernel
theorem dX1_takeBack_141 : decode cX1_takeBack 141 = .ok (.ifCond .lt 43, 3) := by decide +kernel
theorem dX1_takeBack_144 : decode cX1_takeBack 144 = .ok (.iload 4, 2) := by decide +kernel
theorem dX1_takeBack_146 : decode cX1_takeBack 146 = .ok (.bipush 9, 2) := by decide +kernel
theorem dX1_takeBack_148 : decode cX1_takeBack 148 = .ok (.if_icmp .ge 36, 3) := by decide +kernel
theorem dX1_takeBack_151 : decode cX1_takeBack 151 = .ok (.aload_n 2, 1) := by decide +kernel
theorem dX1_takeBack_152 : decode cX1_takeBack 152 = .ok (.getfield 54, 3) := by decide +kernel
theorem dX1_takeBack_155 : decode cX1_takeBack 155 = .ok (.iload 4, 2) := by decide +kernel
theorem dX1_takeBack_157 : decode cX1_takeBack 157 = .ok (.iload 5, 2) := by decide +kernel
theorem dX1_takeBack_159 : decode cX1_takeBack 159 = .ok (.iastore, 1) := by decide +kernel
theorem dX1_takeBack_160 : decode cX1_takeBack 160 = .ok (.goto 24, 3) := by decide +kernel
theorem dX1_takeBack_163 : decode cX1_takeBack 163 = .ok (.aload_n 1, 1) := by decide +kernel
theorem dX1_takeBack_164 : decode cX1_takeBack 164 = .ok (.iload 4, 2) := by decide +kernel
theorem dX1_takeBack_166 : decode cX1_takeBack 166 = .ok (.invokevirtual 57, 3) := by decide +kernel
theorem dX1_takeBack_169 : decode cX1_takeBack 169 = .ok (.ifCond .eq 15, 3) := by decide +kernel
theorem dX1_takeBack_172 : decode cX1_takeBack 172 = .ok (.aload_n 2, 1) := by decide +kernel
theorem dX1_takeBack_173 : decode cX1_takeBack 173 = .ok (.getfield 61, 3) := by decide +kernel
theorem dX1_takeBack_176 : decode cX1_takeBack 176 = .ok (.iload 4, 2) := by decide +kernel
theorem dX1_takeBack_178 : decode cX1_takeBack 178 = .ok (.iload 5, 2) := by decide +kernel
theorem dX1_takeBack_180 : decode cX1_takeBack 180 = .ok (.iastore, 1) := by decide +kernel
theorem dX1_takeBack_181 : decode cX1_takeBack 181 = .ok (.goto 3, 3) := by decide +kernel
theorem dX1_takeBack_184 : decode cX1_takeBack 184 = .ok (.return_, 1) := by decide +kernel
theorem dX2_init_0 : decode cX2_init 0 = .ok (.aload_n 0, 1) := by decide +kernel
theorem dX2_init_1 : decode cX2_init 1 = .ok (.invokespecial 3, 3) := by decide +kernel
theorem dX2_init_4 : decode cX2_init 4 = .ok (.aload_n 0, 1) := by decide +kernel
theorem dX2_init_5 : decode cX2_init 5 = .ok (.bipush 7, 2) := by decide +kernel
theorem dX2_init_7 : decode cX2_init 7 = .ok (.newarray .int, 2) := by decide +kernel
theorem dX2_init_9 : decode cX2_init 9 = .ok (.putfield 9, 3) := by decide +kernel
theorem dX2_init_12 : decode cX2_init 12 = .ok (.aload_n 0, 1) := by decide +kernel
theorem dX2_init_13 : decode cX2_init 13 = .ok (.bipush 40, 2) := by decide +kernel
theorem dX2_init_15 : decode cX2_init 15 = .ok (.newarray .int, 2) := by decide +kernel
theorem dX2_init_17 : decode cX2_init 17 = .ok (.putfield 15, 3) := by decide +kernel
theorem dX2_init_20 : decode cX2_init 20 = .ok (.aload_n 0, 1) := by decide +kernel
theorem dX2_init_21 : decode cX2_init 21 = .ok (.bipush 8, 2) := by decide +kernel
theorem dX2_init_23 : decode cX2_init 23 = .ok (.newarray .int, 2) := by decide +kernel
theorem dX2_init_25 : decode cX2_init 25 = .ok (.putfield 18, 3) := by decide +kernel
theorem dX2_init_28 : decode cX2_init 28 = .ok (.aload_n 0, 1) := by decide +kernel
theorem dX2_init_29 : decode cX2_init 29 = .ok (.bipush 8, 2) := by decide +kernel
theorem dX2_init_31 : decode cX2_init 31 = .ok (.newarray .int, 2) := by decide +kernel
theorem dX2_init_33 : decode cX2_init 33 = .ok (.putfield 21, 3) := by decide +kernel
theorem dX2_init_36 : decode cX2_init 36 = .ok (.aload_n 0, 1) := by decide +kernel
theorem dX2_init_37 : decode cX2_init 37 = .ok (.bipush 8, 2) := by decide +kernel
theorem dX2_init_39 : decode cX2_init 39 = .ok (.newarray .int, 2) := by decide +kernel
theorem dX2_init_41 : decode cX2_init 41 = .ok (.putfield 24, 3) := by decide +kernel
theorem dX2_init_44 : decode cX2_init 44 = .ok (.aload_n 0, 1) := by decide +kernel
theorem dX2_init_45 : decode cX2_init 45 = .ok (.bipush 8, 2) := by decide +kernel
theorem dX2_init_47 : decode cX2_init 47 = .ok (.newarray .int, 2) := by decide +kernel
theorem dX2_init_49 : decode cX2_init 49 = .ok (.putfield 27, 3) := by decide +kernel
theorem dX2_init_52 : decode cX2_init 52 = .ok (.aload_n 0, 1) := by decide +kernel
theorem dX2_init_53 : decode cX2_init 53 = .ok (.iconst 0, 1) := by decide +kernel
theorem dX2_init_54 : decode cX2_init 54 = .ok (.putfield 30, 3) := by decide +kernel
theorem dX2_init_57 : decode cX2_init 57 = .ok (.aload_n 0, 1) := by decide +kernel
theorem dX2_init_58 : decode cX2_init 58 = .ok (.getfield 9, 3) := by decide +kernel
theorem dX2_init_61 : decode cX2_init 61 = .ok (.iconst 1, 1) := by decide +kernel
theorem dX2_init_62 : decode cX2_init 62 = .ok (.invokestatic 34, 3) := by decide +kernel
theorem dX2_init_65 : decode cX2_init 65 = .ok (.return_, 1) := by decide +kernel
theorem dX2_copyFrom_0 : decode cX2_copyFrom 0 = .ok (.aload_n 1, 1) := by decide +kernel
theorem dX2_copyFrom_1 : decode cX2_copyFrom 1 = .ok (.getfield 9, 3) := by decide +kernel
theorem dX2_copyFrom_4 : decode cX2_copyFrom 4 = .ok (.iconst 0, 1) := by decide +kernel
theorem dX2_copyFrom_5 : decode cX2_copyFrom 5 = .ok (.aload_n 0, 1) := by decide +kernel
theorem dX2_copyFrom_6 : decode cX2_copyFrom 6 = .ok (.getfield 9, 3) := by decide +kernel
theorem dX2_copyFrom_9 : decode cX2_copyFrom 9 = .ok (.iconst 0, 1) := by decide +kernel
theorem dX2_copyFrom_10 : decode cX2_copyFrom 10 = .ok (.bipush 7, 2) := by decide +kernel
theorem dX2_copyFrom_12 : decode cX2_copyFrom 12 = .ok (.invokestatic 40, 3) := by decide +kernel
theorem dX2_copyFrom_15 : decode cX2_copyFrom 15 = .ok (.aload_n 1, 1) := by decide +kernel
theorem dX2_copyFrom_16 : decode cX2_copyFrom 16 = .ok (.getfield 15, 3) := by decide +kernel
theorem dX2_copyFrom_19 : decode cX2_copyFrom 19 = .ok (.iconst 0, 1) := by decide +kernel
theorem dX2_copyFrom_20 : decode cX2_copyFrom 20 = .ok (.aload_n 0, 1) := by decide +kernel
theorem dX2_copyFrom_21 : decode cX2_copyFrom 21 = .ok (.getfield 15, 3) := by decide +kernel
theorem dX2_copyFrom_24 : decode cX2_copyFrom 24 = .ok (.iconst 0, 1) := by decide +kernel
theorem dX2_copyFrom_25 : decode cX2_copyFrom 25 = .ok (.bipush 40, 2) := by decide +kernel
theorem dX2_copyFrom_27 : decode cX2_copyFrom 27 = .ok (.invokestatic 40, 3) := by decide +kernel
theorem dX2_copyFrom_30 : decode cX2_copyFrom 30 = .ok (.aload_n 1, 1) := by decide +kernel
theorem dX2_copyFrom_31 : decode cX2_copyFrom 31 = .ok (.getfield 18, 3) := by decide +kernel
theorem dX2_copyFrom_34 : decode cX2_copyFrom 34 = .ok (.iconst 0, 1) := by decide +kernel
theorem dX2_copyFrom_35 : decode cX2_copyFrom 35 = .ok (.aload_n 0, 1) := by decide +kernel
theorem dX2_copyFrom_36 : decode cX2_copyFrom 36 = .ok (.getfield 18, 3) := by decide +kernel
theorem dX2_copyFrom_39 : decode cX2_copyFrom 39 = .ok (.iconst 0, 1) := by decide +kernel
theorem dX2_copyFrom_40 : decode cX2_copyFrom 40 = .ok (.bipush 8, 2) := by decide +kernel
theorem dX2_copyFrom_42 : decode cX2_copyFrom 42 = .ok (.invokestatic 40, 3) := by decide +kernel
theorem dX2_copyFrom_45 : decode cX2_copyFrom 45 = .ok (.aload_n 1, 1) := by decide +kernel
theorem dX2_copyFrom_46 : decode cX2_copyFrom 46 = .ok (.getfield 21, 3) := by decide +kernel
theorem dX2_copyFrom_49 : decode cX2_copyFrom 49 = .ok (.iconst 0, 1) := by decide +kernel
theorem dX2_copyFrom_50 : decode cX2_copyFrom 50 = .ok (.aload_n 0, 1) := by decide +kernel
theorem dX2_copyFrom_51 : decode cX2_copyFrom 51 = .ok (.getfield 21, 3) := by decide +kernel
theorem dX2_copyFrom_54 : decode cX2_copyFrom 54 = .ok (.iconst 0, 1) := by decide +kernel
theorem dX2_copyFrom_55 : decode cX2_copyFrom 55 = .ok (.bipush 8, 2) := by decide +kernel
theorem dX2_copyFrom_57 : decode cX2_copyFrom 57 = .ok (.invokestatic 40, 3) := by decide +kernel
theorem dX2_copyFrom_60 : decode cX2_copyFrom 60 = .ok (.aload_n 1, 1) := by decide +kernel
theorem dX2_copyFrom_61 : decode cX2_copyFrom 61 = .ok (.getfield 24, 3) := by decide +kernel
theorem dX2_copyFrom_64 : decode cX2_copyFrom 64 = .ok (.iconst 0, 1) := by decide +kernel
theorem dX2_copyFrom_65 : decode cX2_copyFrom 65 = .ok (.aload_n 0, 1) := by decide +kernel
theorem dX2_copyFrom_66 : decode cX2_copyFrom 66 = .ok (.getfield 24, 3) := by decide +kernel
theorem dX2_copyFrom_69 : decode cX2_copyFrom 69 = .ok (.iconst 0, 1) := by decide +kernel
theorem dX2_copyFrom_70 : decode cX2_copyFrom 70 = .ok (.bipush 8, 2) := by decide +kernel
theorem dX2_copyFrom_72 : decode cX2_copyFrom 72 = .ok (.invokestatic 40, 3) := by decide +kernel
theorem dX2_copyFrom_75 : decode cX2_copyFrom 75 = .ok (.aload_n 1, 1) := by decide +kernel
theorem dX2_copyFrom_76 : decode cX2_copyFrom 76 = .ok (.getfield 27, 3) := by decide +kernel
theorem dX2_copyFrom_79 : decode cX2_copyFrom 79 = .ok (.iconst 0, 1) := by decide +kernel
theorem dX2_copyFrom_80 : decode cX2_copyFrom 80 = .ok (.aload_n 0, 1) := by decide +kernel
theorem dX2_copyFrom_81 : decode cX2_copyFrom 81 = .ok (.getfield 27, 3) := by decide +kernel
theorem dX2_copyFrom_84 : decode cX2_copyFrom 84 = .ok (.iconst 0, 1) := by decide +kernel
theorem dX2_copyFrom_85 : decode cX2_copyFrom 85 = .ok (.bipush 8, 2) := by decide +kernel
theorem dX2_copyFrom_87 : decode cX2_copyFrom 87 = .ok (.invokestatic 40, 3) := by decide +kernel
theorem dX2_copyFrom_90 : decode cX2_copyFrom 90 = .ok (.aload_n 0, 1) := by decide +kernel
theorem dX2_copyFrom_91 : decode cX2_copyFrom 91 = .ok (.aload_n 1, 1) := by decide +kernel
theorem dX2_copyFrom_92 : decode cX2_copyFrom 92 = .ok (.getfield 30, 3) := by decide +kernel
theorem dX2_copyFrom_95 : decode cX2_copyFrom 95 = .ok (.putfield 30, 3) := by decide +kernel
theorem dX2_copyFrom_98 : decode cX2_copyFrom 98 = .ok (.return_, 1) := by decide +kernel
theorem dX2_hasWord_0 : decode cX2_hasWord 0 = .ok (.iload_n 1, 1) := by decide +kernel
theorem dX2_hasWord_1 : decode cX2_hasWord 1 = .ok (.ifCond .lt 15, 3) := by decide +kernel
theorem dX2_hasWord_4 : decode cX2_hasWord 4 = .ok (.iload_n 1, 1) := by decide +kernel
theorem dX2_hasWord_5 : decode cX2_hasWord 5 = .ok (.aload_n 0, 1) := by decide +kernel
theorem dX2_hasWord_6 : decode cX2_hasWord 6 = .ok (.getfield 30, 3) := by decide +kernel
theorem dX2_hasWord_9 : decode cX2_hasWord 9 = .ok (.if_icmp .ge 7, 3) := by decide +kernel
theorem dX2_hasWord_12 : decode cX2_hasWord 12 = .ok (.iconst 1, 1) := by decide +kernel
theorem dX2_hasWord_13 : decode cX2_hasWord 13 = .ok (.goto 4, 3) := by decide +kernel
theorem dX2_hasWord_16 : decode cX2_hasWord 16 = .ok (.iconst 0, 1) := by decide +kernel
theorem dX2_hasWord_17 : decode cX2_hasWord 17 = .ok (.ireturn, 1) := by decide +kernel
theorem dX2_widthOf_0 : decode cX2_widthOf 0 = .ok (.iload_n 1, 1) := by decide +kernel
theorem dX2_widthOf_1 : decode cX2_widthOf 1 = .ok (.ifCond .lt 18, 3) := by decide +kernel
theorem dX2_widthOf_4 : decode cX2_widthOf 4 = .ok (.iload_n 1, 1) := by decide +kernel
theorem dX2_widthOf_5 : decode cX2_widthOf 5 = .ok (.bipush 7, 2) := by decide +kernel
theorem dX2_widthOf_7 : decode cX2_widthOf 7 = .ok (.if_icmp .ge 12, 3) := by decide +kernel
theorem dX2_widthOf_10 : decode cX2_widthOf 10 = .ok (.aload_n 0, 1) := by decide +kernel
theorem dX2_widthOf_11 : decode cX2_widthOf 11 = .ok (.getfield 9, 3) := by decide +kernel
theorem dX2_widthOf_14 : decode cX2_widthOf 14 = .ok (.iload_n 1, 1) := by decide +kernel
theorem dX2_widthOf_15 : decode cX2_widthOf 15 = .ok (.iaload, 1) := by decide +kernel
theorem dX2_widthOf_16 : decode cX2_widthOf 16 = .ok (.goto 4, 3) := by decide +kernel
theorem dX2_widthOf_19 : decode cX2_widthOf 19 = .ok (.iconst 1, 1) := by decide +kernel
theorem dX2_widthOf_20 : decode cX2_widthOf 20 = .ok (.ireturn, 1) := by decide +kernel
theorem dX2_letterOf_0 : decode cX2_letterOf 0 = .ok (.iload_n 1, 1) := by decide +kernel
theorem dX2_letterOf_1 : decode cX2_letterOf 1 = .ok (.ifCond .lt 24, 3) := by decide +kernel
theorem dX2_letterOf_4 : decode cX2_letterOf 4 = .ok (.iload_n 1, 1) := by decide +kernel
theorem dX2_letterOf_5 : decode cX2_letterOf 5 = .ok (.aload_n 0, 1) := by decide +kernel
theorem dX2_letterOf_6 : decode cX2_letterOf 6 = .ok (.getfield 30, 3) := by decide +kernel
theorem dX2_letterOf_9 : decode cX2_letterOf 9 = .ok (.if_icmp .ge 16, 3) := by decide +kernel
theorem dX2_letterOf_12 : decode cX2_letterOf 12 = .ok (.iload_n 2, 1) := by decide +kernel
theorem dX2_letterOf_13 : decode cX2_letterOf 13 = .ok (.ifCond .lt 12, 3) := by decide +kernel
theorem dX2_letterOf_16 : decode cX2_letterOf 16 = .ok (.iload_n 2, 1) := by decide +kernel
theorem dX2_letterOf_17 : decode cX2_letterOf 17 = .ok (.iconst 5, 1) := by decide +kernel
theorem dX2_letterOf_18 : decode cX2_letterOf 18 = .ok (.if_icmp .ge 7, 3) := by decide +kernel
theorem dX2_letterOf_21 : decode cX2_letterOf 21 = .ok (.iconst 1, 1) := by decide +kernel
theorem dX2_letterOf_22 : decode cX2_letterOf 22 = .ok (.goto 4, 3) := by decide +kernel
theorem dX2_letterOf_25 : decode cX2_letterOf 25 = .ok (.iconst 0, 1) := by decide +kernel
theorem dX2_letterOf_26 : decode cX2_letterOf 26 = .ok (.istore_n 3, 1) := by decide +kernel
theorem dX2_letterOf_27 : decode cX2_letterOf 27 = .ok (.iload_n 3, 1) := by decide +kernel
theorem dX2_letterOf_28 : decode cX2_letterOf 28 = .ok (.ifCond .eq 16, 3) := by decide +kernel
theorem dX2_letterOf_31 : decode cX2_letterOf 31 = .ok (.aload_n 0, 1) := by decide +kernel
theorem dX2_letterOf_32 : decode cX2_letterOf 32 = .ok (.getfield 15, 3) := by decide +kernel
theorem dX2_letterOf_35 : decode cX2_letterOf 35 = .ok (.iload_n 1, 1) := by decide +kernel
theorem dX2_letterOf_36 : decode cX2_letterOf 36 = .ok (.iconst 5, 1) := by decide +kernel
theorem dX2_letterOf_37 : decode cX2_letterOf 37 = .ok (.imul, 1) := by decide +kernel
theorem dX2_letterOf_38 : decode cX2_letterOf 38 = .ok (.iload_n 2, 1) := by decide +kernel
theorem dX2_letterOf_39 : decode cX2_letterOf 39 = .ok (.iadd, 1) := by decide +kernel
theorem dX2_letterOf_40 : decode cX2_letterOf 40 = .ok (.iaload, 1) := by decide +kernel
theorem dX2_letterOf_41 : decode cX2_letterOf 41 = .ok (.goto 5, 3) := by decide +kernel
theorem dX2_letterOf_44 : decode cX2_letterOf 44 = .ok (.bipush (-9), 2) := by decide +kernel
theorem dX2_letterOf_46 : decode cX2_letterOf 46 = .ok (.ireturn, 1) := by decide +kernel
theorem dX2_signBehind_0 : decode cX2_signBehind 0 = .ok (.aload_n 0, 1) := by decide +kernel
theorem dX2_signBehind_1 : decode cX2_signBehind 1 = .ok (.iload_n 1, 1) := by decide +kernel
theorem dX2_signBehind_2 : decode cX2_signBehind 2 = .ok (.invokevirtual 46, 3) := by decide +kernel
theorem dX2_signBehind_5 : decode cX2_signBehind 5 = .ok (.ifCond .ne 6, 3) := by decide +kernel
theorem dX2_signBehind_8 : decode cX2_signBehind 8 = .ok (.bipush (-9), 2) := by decide +kernel
theorem dX2_signBehind_10 : decode cX2_signBehind 10 = .ok (.ireturn, 1) := by decide +kernel
theorem dX2_signBehind_11 : decode cX2_signBehind 11 = .ok (.iconst 0, 1) := by decide +kernel
theorem dX2_signBehind_12 : decode cX2_signBehind 12 = .ok (.istore_n 3, 1) := by decide +kernel
theorem dX2_signBehind_13 : decode cX2_signBehind 13 = .ok (.iconst 0, 1) := by decide +kernel
theorem dX2_signBehind_14 : decode cX2_signBehind 14 = .ok (.istore 4, 2) := by decide +kernel
theorem dX2_signBehind_16 : decode cX2_signBehind 16 = .ok (.iload 4, 2) := by decide +kernel
theorem dX2_signBehind_18 : decode cX2_signBehind 18 = .ok (.aload_n 0, 1) := by decide +kernel
theorem dX2_signBehind_19 : decode cX2_signBehind 19 = .ok (.getfield 18, 3) := by decide +kernel
theorem dX2_signBehind_22 : decode cX2_signBehind 22 = .ok (.iload_n 1, 1) := by decide +kernel
theorem dX2_signBehind_23 : decode cX2_signBehind 23 = .ok (.iaload, 1) := by decide +kernel
theorem dX2_signBehind_24 : decode cX2_signBehind 24 = .ok (.if_icmp .ge 35, 3) := by decide +kernel
theorem dX2_signBehind_27 : decode cX2_signBehind 27 = .ok (.aload_n 0, 1) := by decide +kernel
theorem dX2_signBehind_28 : decode cX2_signBehind 28 = .ok (.iload_n 1, 1) := by decide +kernel
theorem dX2_signBehind_29 : decode cX2_signBehind 29 = .ok (.iload 4, 2) := by decide +kernel
theorem dX2_signBehind_31 : decode cX2_signBehind 31 = .ok (.invokevirtual 50, 3) := by decide +kernel
theorem dX2_signBehind_34 : decode cX2_signBehind 34 = .ok (.istore 5, 2) := by decide +kernel
theorem dX2_signBehind_36 : decode cX2_signBehind 36 = .ok (.iload_n 3, 1) := by decide +kernel
theorem dX2_signBehind_37 : decode cX2_signBehind 37 = .ok (.iload_n 2, 1) := by decide +kernel
theorem dX2_signBehind_38 : decode cX2_signBehind 38 = .ok (.if_icmp .ne 6, 3) := by decide +kernel
theorem dX2_signBehind_41 : decode cX2_signBehind 41 = .ok (.iload 5, 2) := by decide +kernel
theorem dX2_signBehind_43 : decode cX2_signBehind 43 = .ok (.ireturn, 1) := by decide +kernel
theorem dX2_signBehind_44 : decode cX2_signBehind 44 = .ok (.iload_n 3, 1) := by decide +kernel
theorem dX2_signBehind_45 : decode cX2_signBehind 45 = .ok (.aload_n 0, 1) := by decide +kernel
theorem dX2_signBehind_46 : decode cX2_signBehind 46 = .ok (.iload 5, 2) := by decide +kernel
theorem dX2_signBehind_48 : decode cX2_signBehind 48 = .ok (.invokevirtual 54, 3) := by decide +kernel
theorem dX2_signBehind_51 : decode cX2_signBehind 51 = .ok (.iadd, 1) := by decide +kernel
theorem dX2_signBehind_52 : decode cX2_signBehind 52 = .ok (.istore_n 3, 1) := by decide +kernel
theorem dX2_signBehind_53 : decode cX2_signBehind 53 = .ok (.iinc 4 1, 3) := by decide +kernel
theorem dX2_signBehind_56 : decode cX2_signBehind 56 = .ok (.goto (-40), 3) := by decide +kernel
theorem dX2_signBehind_59 : decode cX2_signBehind 59 = .ok (.iload_n 3, 1) := by decide +kernel
theorem dX2_signBehind_60 : decode cX2_signBehind 60 = .ok (.iload_n 2, 1) := by decide +kernel
theorem dX2_signBehind_61 : decode cX2_signBehind 61 = .ok (.if_icmp .ne 8, 3) := by decide +kernel
theorem dX2_signBehind_64 : decode cX2_signBehind 64 = .ok (.bipush 6, 2) := by decide +kernel
theorem dX2_signBehind_66 : decode cX2_signBehind 66 = .ok (.goto 5, 3) := by decide +kernel
theorem dX2_signBehind_69 : decode cX2_signBehind 69 = .ok (.bipush (-9), 2) := by decide +kernel
theorem dX2_signBehind_71 : decode cX2_signBehind 71 = .ok (.ireturn, 1) := by decide +kernel
theorem dX3_init_0 : decode cX3_init 0 = .ok (.aload_n 0, 1) := by decide +kernel
theorem dX3_init_1 : decode cX3_init 1 = .ok (.invokespecial 3, 3) := by decide +kernel
theorem dX3_init_4 : decode cX3_init 4 = .ok (.aload_n 0, 1) := by decide +kernel
theorem dX3_init_5 : decode cX3_init 5 = .ok (.iconst 0, 1) := by decide +kernel
theorem dX3_init_6 : decode cX3_init 6 = .ok (.newarray .long, 2) := by decide +kernel
theorem dX3_init_8 : decode cX3_init 8 = .ok (.putfield 9, 3) := by decide +kernel
theorem dX3_init_11 : decode cX3_init 11 = .ok (.aload_n 0, 1) := by decide +kernel
theorem dX3_init_12 : decode cX3_init 12 = .ok (.bipush 8, 2) := by decide +kernel
theorem dX3_init_14 : decode cX3_init 14 = .ok (.newarray .int, 2) := by decide +kernel
theorem dX3_init_16 : decode cX3_init 16 = .ok (.putfield 15, 3) := by decide +kernel
theorem dX3_init_19 : decode cX3_init 19 = .ok (.aload_n 0, 1) := by decide +kernel
theorem dX3_init_20 : decode cX3_init 20 = .ok (.bipush 8, 2) := by decide +kernel
theorem dX3_init_22 : decode cX3_init 22 = .ok (.newarray .int, 2) := by decide +kernel
theorem dX3_init_24 : decode cX3_init 24 = .ok (.putfield 19, 3) := by decide +kernel
theorem dX3_init_27 : decode cX3_init 27 = .ok (.aload_n 0, 1) := by decide +kernel
theorem dX3_init_28 : decode cX3_init 28 = .ok (.iconst 0, 1) := by decide +kernel
theorem dX3_init_29 : decode cX3_init 29 = .ok (.putfield 22, 3) := by decide +kernel
theorem dX3_init_32 : decode cX3_init 32 = .ok (.aload_n 0, 1) := by decide +kernel
theorem dX3_init_33 : decode cX3_init 33 = .ok (.iconst 0, 1) := by decide +kernel
theorem dX3_init_34 : decode cX3_init 34 = .ok (.putfield 26, 3) := by decide +kernel
theorem dX3_init_37 : decode cX3_init 37 = .ok (.return_, 1) := by decide +kernel
theorem dX3_build_0 : decode cX3_build 0 = .ok (.aload_n 0, 1) := by decide +kernel
theorem dX3_build_1 : decode cX3_build 1 = .ok (.getfield 9, 3) := by decide +kernel
theorem dX3_build_4 : decode cX3_build 4 = .ok (.arraylength, 1) := by decide +kernel
theorem dX3_build_5 : decode cX3_build 5 = .ok (.ifCond .ne 12, 3) := by decide +kernel
theorem dX3_build_8 : decode cX3_build 8 = .ok (.aload_n 0, 1) := by decide +kernel
theorem dX3_build_9 : decode cX3_build 9 = .ok (.sipush 14016, 3) := by decide +kernel
theorem dX3_build_12 : decode cX3_build 12 = .ok (.newarray .long, 2) := by decide +kernel
theorem dX3_build_14 : decode cX3_build 14 = .ok (.putfield 9, 3) := by decide +kernel
theorem dX3_build_17 : decode cX3_build 17 = .ok (.aload_n 2, 1) := by decide +kernel
theorem dX3_build_18 : decode cX3_build 18 = .ok (.iconst 0, 1) := by decide +kernel
theorem dX3_build_19 : decode cX3_build 19 = .ok (.aload_n 0, 1) := by decide +kernel
theorem dX3_build_20 : decode cX3_build 20 = .ok (.getfield 15, 3) := by decide +kernel
theorem dX3_build_23 : decode cX3_build 23 = .ok (.iconst 0, 1) := by decide +kernel
theorem dX3_build_24 : decode cX3_build 24 = .ok (.bipush 8, 2) := by decide +kernel
theorem dX3_build_26 : decode cX3_build 26 = .ok (.invokestatic 29, 3) := by decide +kernel
theorem dX3_build_29 : decode cX3_build 29 = .ok (.aload_n 1, 1) := by decide +kernel
theorem dX3_build_30 : decode cX3_build 30 = .ok (.getfield 35, 3) := by decide +kernel
theorem dX3_build_33 : decode cX3_build 33 = .ok (.iconst 1, 1) := by decide +kernel
theorem dX3_build_34 : decode cX3_build 34 = .ok (.isub, 1) := by decide +kernel
theorem dX3_build_35 : decode cX3_build 35 = .ok (.istore_n 3, 1) := by decide +kernel
theorem dX3_build_36 : decode cX3_build 36 = .ok (.iload_n 3, 1) := by decide +kernel
theorem dX3_build_37 : decode cX3_build 37 = .ok (.ifCond .lt 45, 3) := by decide +kernel
theorem dX3_build_40 : decode cX3_build 40 = .ok (.iconst 0, 1) := by decide +kernel
theorem dX3_build_41 : decode cX3_build 41 = .ok (.istore 4, 2) := by decide +kernel
theorem dX3_build_43 : decode cX3_build 43 = .ok (.iload 4, 2) := by decide +kernel
theorem dX3_build_45 : decode cX3_build 45 = .ok (.aload_n 1, 1) := by decide +kernel
theorem dX3_build_46 : decode cX3_build 46 = .ok (.getfield 40, 3) := by decide +kernel
theorem dX3_build_49 : decode cX3_build 49 = .ok (.if_icmp .ge 27, 3) := by decide +kernel
theorem dX3_build_52 : decode cX3_build 52 = .ok (.aload_n 1, 1) := by decide +kernel
theorem dX3_build_53 : decode cX3_build 53 = .ok (.iload_n 3, 1) := by decide +kernel
theorem dX3_build_54 : decode cX3_build 54 = .ok (.iload 4, 2) := by decide +kernel
theorem dX3_build_56 : decode cX3_build 56 = .ok (.invokevirtual 43, 3) := by decide +kernel
theorem dX3_build_59 : decode cX3_build 59 = .ok (.ifCond .eq 11, 3) := by decide +kernel
theorem dX3_build_62 : decode cX3_build 62 = .ok (.aload_n 0, 1) := by decide +kernel
theorem dX3_build_63 : decode cX3_build 63 = .ok (.aload_n 1, 1) := by decide +kernel
theorem dX3_build_64 : decode cX3_build 64 = .ok (.iload_n 3, 1) := by decide +kernel
theorem dX3_build_65 : decode cX3_build 65 = .ok (.iload 4, 2) := by decide +kernel
theorem dX3_build_67 : decode cX3_build 67 = .ok (.invokevirtual 47, 3) := by decide +kernel
theorem dX3_build_70 : decode cX3_build 70 = .ok (.iinc 4 1, 3) := by decide +kernel
theorem dX3_build_73 : decode cX3_build 73 = .ok (.goto (-30), 3) := by decide +kernel
theorem dX3_build_76 : decode cX3_build 76 = .ok (.iinc 3 (-1), 3) := by decide +kernel
theorem dX3_build_79 : decode cX3_build 79 = .ok (.goto (-43), 3) := by decide +kernel
theorem dX3_build_82 : decode cX3_build 82 = .ok (.return_, 1) := by decide +kernel
theorem dX3_fillRow_0 : decode cX3_fillRow 0 = .ok (.iload_n 2, 1) := by decide +kernel
theorem dX3_fillRow_1 : decode cX3_fillRow 1 = .ok (.iload_n 3, 1) := by decide +kernel
theorem dX3_fillRow_2 : decode cX3_fillRow 2 = .ok (.invokestatic 51, 3) := by decide +kernel
theorem dX3_fillRow_5 : decode cX3_fillRow 5 = .ok (.istore 4, 2) := by decide +kernel
theorem dX3_fillRow_7 : decode cX3_fillRow 7 = .ok (.aload_n 0, 1) := by decide +kernel
theorem dX3_fillRow_8 : decode cX3_fillRow 8 = .ok (.getfield 15, 3) := by decide +kernel
theorem dX3_fillRow_11 : decode cX3_fillRow 11 = .ok (.iload_n 3, 1) := by decide +kernel
theorem dX3_fillRow_12 : decode cX3_fillRow 12 = .ok (.iaload, 1) := by decide +kernel
theorem dX3_fillRow_13 : decode cX3_fillRow 13 = .ok (.istore 5, 2) := by decide +kernel
theorem dX3_fillRow_15 : decode cX3_fillRow 15 = .ok (.iconst 0, 1) := by decide +kernel
theorem dX3_fillRow_16 : decode cX3_fillRow 16 = .ok (.istore 6, 2) := by decide +kernel
theorem dX3_fillRow_18 : decode cX3_fillRow 18 = .ok (.iload 6, 2) := by decide +kernel
theorem dX3_fillRow_20 : decode cX3_fillRow 20 = .ok (.bipush 73, 2) := by decide +kernel
theorem dX3_fillRow_22 : decode cX3_fillRow 22 = .ok (.if_icmp .ge 20, 3) := by decide +kernel
theorem dX3_fillRow_25 : decode cX3_fillRow 25 = .ok (.aload_n 0, 1) := by decide +kernel
theorem dX3_fillRow_26 : decode cX3_fillRow 26 = .ok (.getfield 9, 3) := by decide +kernel
theorem dX3_fillRow_29 : decode cX3_fillRow 29 = .ok (.iload 4, 2) := by decide +kernel
theorem dX3_fillRow_31 : decode cX3_fillRow 31 = .ok (.iload 6, 2) := by decide +kernel
theorem dX3_fillRow_33 : decode cX3_fillRow 33 = .ok (.iadd, 1) := by decide +kernel
theorem dX3_fillRow_34 : decode cX3_fillRow 34 = .ok (.lconst 0, 1) := by decide +kernel
theorem dX3_fillRow_35 : decode cX3_fillRow 35 = .ok (.lastore, 1) := by decide +kernel
theorem dX3_fillRow_36 : decode cX3_fillRow 36 = .ok (.iinc 6 1, 3) := by decide +kernel
theorem dX3_fillRow_39 : decode cX3_fillRow 39 = .ok (.goto (-21), 3) := by decide +kernel
theorem dX3_fillRow_42 : decode cX3_fillRow 42 = .ok (.aload_n 1, 1) := by decide +kernel
theorem dX3_fillRow_43 : decode cX3_fillRow 43 = .ok (.iload_n 2, 1) := by decide +kernel
theorem dX3_fillRow_44 : decode cX3_fillRow 44 = .ok (.iload_n 3, 1) := by decide +kernel
theorem dX3_fillRow_45 : decode cX3_fillRow 45 = .ok (.invokevirtual 55, 3) := by decide +kernel
theorem dX3_fillRow_48 : decode cX3_fillRow 48 = .ok (.istore 6, 2) := by decide +kernel
theorem dX3_fillRow_50 : decode cX3_fillRow 50 = .ok (.iload 6, 2) := by decide +kernel
theorem dX3_fillRow_52 : decode cX3_fillRow 52 = .ok (.aload_n 1, 1) := by decide +kernel
theorem dX3_fillRow_53 : decode cX3_fillRow 53 = .ok (.getfield 35, 3) := by decide +kernel
theorem dX3_fillRow_56 : decode cX3_fillRow 56 = .ok (.if_icmp .le 15, 3) := by decide +kernel
theorem dX3_fillRow_59 : decode cX3_fillRow 59 = .ok (.aload_n 0, 1) := by decide +kernel
theorem dX3_fillRow_60 : decode cX3_fillRow 60 = .ok (.getfield 9, 3) := by decide +kernel
theorem dX3_fillRow_63 : decode cX3_fillRow 63 = .ok (.iload 4, 2) := by decide +kernel
theorem dX3_fillRow_65 : decode cX3_fillRow 65 = .ok (.iload 5, 2) := by decide +kernel
theorem dX3_fillRow_67 : decode cX3_fillRow 67 = .ok (.iadd, 1) := by decide +kernel
theorem dX3_fillRow_68 : decode cX3_fillRow 68 = .ok (.lconst 1, 1) := by decide +kernel
theorem dX3_fillRow_69 : decode cX3_fillRow 69 = .ok (.lastore, 1) := by decide +kernel
theorem dX3_fillRow_70 : decode cX3_fillRow 70 = .ok (.return_, 1) := by decide +kernel
theorem dX3_fillRow_71 : decode cX3_fillRow 71 = .ok (.aload_n 1, 1) := by decide +kernel
theorem dX3_fillRow_72 : decode cX3_fillRow 72 = .ok (.iload 6, 2) := by decide +kernel
theorem dX3_fillRow_74 : decode cX3_fillRow 74 = .ok (.invokestatic 58, 3) := by decide +kernel
theorem dX3_fillRow_77 : decode cX3_fillRow 77 = .ok (.bipush 72, 2) := by decide +kernel
theorem dX3_fillRow_79 : decode cX3_fillRow 79 = .ok (.iload 5, 2) := by decide +kernel
theorem dX3_fillRow_81 : decode cX3_fillRow 81 = .ok (.isub, 1) := by decide +kernel
theorem dX3_fillRow_82 : decode cX3_fillRow 82 = .ok (.invokestatic 62, 3) := by decide +kernel
theorem dX3_fillRow_85 : decode cX3_fillRow 85 = .ok (.istore 7, 2) := by decide +kernel
theorem dX3_fillRow_87 : decode cX3_fillRow 87 = .ok (.iconst 0, 1) := by decide +kernel
theorem dX3_fillRow_88 : decode cX3_fillRow 88 = .ok (.istore 8, 2) := by decide +kernel
theorem dX3_fillRow_90 : decode cX3_fillRow 90 = .ok (.iload 8, 2) := by decide +kernel
theorem dX3_fillRow_92 : decode cX3_fillRow 92 = .ok (.aload_n 1, 1) := by decide +kernel
theorem dX3_fillRow_93 : decode cX3_fillRow 93 = .ok (.getfield 40, 3) := by decide +kernel
theorem dX3_fillRow_96 : decode cX3_fillRow 96 = .ok (.if_icmp .ge 85, 3) := by decide +kernel
theorem dX3_fillRow_99 : decode cX3_fillRow 99 = .ok (.aload_n 1, 1) := by decide +kernel
theorem dX3_fillRow_100 : decode cX3_fillRow 100 = .ok (.iload 6, 2) := by decide +kernel
theorem dX3_fillRow_102 : decode cX3_fillRow 102 = .ok (.iload 8, 2) := by decide +kernel
theorem dX3_fillRow_104 : decode cX3_fillRow 104 = .ok (.invokevirtual 43, 3) := by decide +kernel
theorem dX3_fillRow_107 : decode cX3_fillRow 107 = .ok (.ifCond .eq 68, 3) := by decide +kernel
theorem dX3_fillRow_110 : decode cX3_fillRow 110 = .ok (.aload_n 1, 1) := by decide +kernel
theorem dX3_fillRow_111 : decode cX3_fillRow 111 = .ok (.getfield 67, 3) := by decide +kernel
theorem dX3_fillRow_114 : decode cX3_fillRow 114 = .ok (.iload_n 3, 1) := by decide +kernel
theorem dX3_fillRow_115 : decode cX3_fillRow 115 = .ok (.iaload, 1) := by decide +kernel
theorem dX3_fillRow_116 : decode cX3_fillRow 116 = .ok (.iload 8, 2) := by decide +kernel
theorem dX3_fillRow_118 : decode cX3_fillRow 118 = .ok (.ishr, 1) := by decide +kernel
theorem dX3_fillRow_119 : decode cX3_fillRow 119 = .ok (.iconst 1, 1) := by decide +kernel
theorem dX3_fillRow_120 : decode cX3_fillRow 120 = .ok (.iand, 1) := by decide +kernel
theorem dX3_fillRow_121 : decode cX3_fillRow 121 = .ok (.ifCond .eq 54, 3) := by decide +kernel
theorem dX3_fillRow_124 : decode cX3_fillRow 124 = .ok (.iload 6, 2) := by decide +kernel
theorem dX3_fillRow_126 : decode cX3_fillRow 126 = .ok (.iload 8, 2) := by decide +kernel
theorem dX3_fillRow_128 : decode cX3_fillRow 128 = .ok (.invokestatic 51, 3) := by decide +kernel
theorem dX3_fillRow_131 : decode cX3_fillRow 131 = .ok (.istore 9, 2) := by decide +kernel
theorem dX3_fillRow_133 : decode cX3_fillRow 133 = .ok (.iconst 1, 1) := by decide +kernel
theorem dX3_fillRow_134 : decode cX3_fillRow 134 = .ok (.istore 10, 2) := by decide +kernel
theorem dX3_fillRow_136 : decode cX3_fillRow 136 = .ok (.iload 10, 2) := by decide +kernel
theorem dX3_fillRow_138 : decode cX3_fillRow 138 = .ok (.iload 7, 2) := by decide +kernel
theorem dX3_fillRow_140 : decode cX3_fillRow 140 = .ok (.if_icmp .gt 35, 3) := by decide +kernel
theorem dX3_fillRow_143 : decode cX3_fillRow 143 = .ok (.aload_n 0, 1) := by decide +kernel
theorem dX3_fillRow_144 : decode cX3_fillRow 144 = .ok (.getfield 9, 3) := by decide +kernel
theorem dX3_fillRow_147 : decode cX3_fillRow 147 = .ok (.iload 4, 2) := by decide +kernel
theorem dX3_fillRow_149 : decode cX3_fillRow 149 = .ok (.iload 5, 2) := by decide +kernel
theorem dX3_fillRow_151 : decode cX3_fillRow 151 = .ok (.iadd, 1) := by decide +kernel
theorem dX3_fillRow_152 : decode cX3_fillRow 152 = .ok (.iload 10, 2) := by decide +kernel
theorem dX3_fillRow_154 : decode cX3_fillRow 154 = .ok (.iadd, 1) := by decide +kernel
theorem dX3_fillRow_155 : decode cX3_fillRow 155 = .ok (.dup2, 1) := by decide +kernel
theorem dX3_fillRow_156 : decode cX3_fillRow 156 = .ok (.laload, 1) := by decide +kernel
theorem dX3_fillRow_157 : decode cX3_fillRow 157 = .ok (.aload_n 0, 1) := by decide +kernel
theorem dX3_fillRow_158 : decode cX3_fillRow 158 = .ok (.getfield 9, 3) := by decide +kernel
theorem dX3_fillRow_161 : decode cX3_fillRow 161 = .ok (.iload 9, 2) := by decide +kernel
theorem dX3_fillRow_163 : decode cX3_fillRow 163 = .ok (.iload 10, 2) := by decide +kernel
theorem dX3_fillRow_165 : decode cX3_fillRow 165 = .ok (.iadd, 1) := by decide +kernel
theorem dX3_fillRow_166 : decode cX3_fillRow 166 = .ok (.laload, 1) := by decide +kernel
theorem dX3_fillRow_167 : decode cX3_fillRow 167 = .ok (.ladd, 1) := by decide +kernel
theorem dX3_fillRow_168 : decode cX3_fillRow 168 = .ok (.lastore, 1) := by decide +kernel
theorem dX3_fillRow_169 : decode cX3_fillRow 169 = .ok (.iinc 10 1, 3) := by decide +kernel
theorem dX3_fillRow_172 : decode cX3_fillRow 172 = .ok (.goto (-36), 3) := by decide +kernel
theorem dX3_fillRow_175 : decode cX3_fillRow 175 = .ok (.iinc 8 1, 3) := by decide +kernel
theorem dX3_fillRow_178 : decode cX3_fillRow 178 = .ok (.goto (-88), 3) := by decide +kernel
theorem dX3_fillRow_181 : decode cX3_fillRow 181 = .ok (.return_, 1) := by decide +kernel
theorem dX3_rowOf_0 : decode cX3_rowOf 0 = .ok (.iload_n 0, 1) := by decide +kernel
theorem dX3_rowOf_1 : decode cX3_rowOf 1 = .ok (.bipush 8, 2) := by decide +kernel
theorem dX3_rowOf_3 : decode cX3_rowOf 3 = .ok (.imul, 1) := by decide +kernel
theorem dX3_rowOf_4 : decode cX3_rowOf 4 = .ok (.iload_n 1, 1) := by decide +kernel
theorem dX3_rowOf_5 : decode cX3_rowOf 5 = .ok (.iadd, 1) := by decide +kernel
theorem dX3_rowOf_6 : decode cX3_rowOf 6 = .ok (.bipush 73, 2) := by decide +kernel
theorem dX3_rowOf_8 : decode cX3_rowOf 8 = .ok (.imul, 1) := by decide +kernel
theorem dX3_rowOf_9 : decode cX3_rowOf 9 = .ok (.ireturn, 1) := by decide +kernel
theorem dX3_heaviestFrom_0 : decode cX3_heaviestFrom 0 = .ok (.aload_n 0, 1) := by decide +kernel
theorem dX3_heaviestFrom_1 : decode cX3_heaviestFrom 1 = .ok (.getfield 35, 3) := by decide +kernel
theorem dX3_heaviestFrom_4 : decode cX3_heaviestFrom 4 = .ok (.iload_n 1, 1) := by decide +kernel
theorem dX3_heaviestFrom_5 : decode cX3_heaviestFrom 5 = .ok (.isub, 1) := by decide +kernel
theorem dX3_heaviestFrom_6 : decode cX3_heaviestFrom 6 = .ok (.iconst 1, 1) := by decide +kernel
theorem dX3_heaviestFrom_7 : decode cX3_heaviestFrom 7 = .ok (.iadd, 1) := by decide +kernel
theorem dX3_heaviestFrom_8 : decode cX3_heaviestFrom 8 = .ok (.iconst 3, 1) := by decide +kernel
theorem dX3_heaviestFrom_9 : decode cX3_heaviestFrom 9 = .ok (.idiv, 1) := by decide +kernel
theorem dX3_heaviestFrom_10 : decode cX3_heaviestFrom 10 = .ok (.bipush 9, 2) := by decide +kernel
theorem dX3_heaviestFrom_12 : decode cX3_heaviestFrom 12 = .ok (.imul, 1) := by decide +kernel
theorem dX3_heaviestFrom_13 : decode cX3_heaviestFrom 13 = .ok (.ireturn, 1) := by decide +kernel
theorem dX3_countWithWeight_0 : decode cX3_countWithWeight 0 = .ok (.lconst 0, 1) := by decide +kernel
theorem dX3_countWithWeight_1 : decode cX3_countWithWeight 1 = .ok (.lstore_n 3, 1) := by decide +kernel
theorem dX3_countWithWeight_2 : decode cX3_countWithWeight 2 = .ok (.iconst 0, 1) := by decide +kernel
theorem dX3_countWithWeight_3 : decode cX3_countWithWeight 3 = .ok (.istore 5, 2) := by decide +kernel
theorem dX3_countWithWeight_5 : decode cX3_countWithWeight 5 = .ok (.iload 5, 2) := by decide +kernel
theorem dX3_countWithWeight_7 : decode cX3_countWithWeight 7 = .ok (.aload_n 1, 1) := by decide +kernel
theorem dX3_countWithWeight_8 : decode cX3_countWithWeight 8 = .ok (.getfield 40, 3) := by decide +kernel
theorem dX3_countWithWeight_11 : decode cX3_countWithWeight 11 = .ok (.if_icmp .ge 35, 3) := by decide +kernel
theorem dX3_countWithWeight_14 : decode cX3_countWithWeight 14 = .ok (.aload_n 1, 1) := by decide +kernel
theorem dX3_countWithWeight_15 : decode cX3_countWithWeight 15 = .ok (.iconst 0, 1) := by decide +kernel
theorem dX3_countWithWeight_16 : decode cX3_countWithWeight 16 = .ok (.iload 5, 2) := by decide +kernel
theorem dX3_countWithWeight_18 : decode cX3_countWithWeight 18 = .ok (.invokevirtual 43, 3) := by decide +kernel
theorem dX3_countWithWeight_21 : decode cX3_countWithWeight 21 = .ok (.ifCond .eq 19, 3) := by decide +kernel
theorem dX3_countWithWeight_24 : decode cX3_countWithWeight 24 = .ok (.lload_n 3, 1) := by decide +kernel
theorem dX3_countWithWeight_25 : decode cX3_countWithWeight 25 = .ok (.aload_n 0, 1) := by decide +kernel
theorem dX3_countWithWeight_26 : decode cX3_countWithWeight 26 = .ok (.getfield 9, 3) := by decide +kernel
theorem dX3_countWithWeight_29 : decode cX3_countWithWeight 29 = .ok (.iconst 0, 1) := by decide +kernel
theorem dX3_countWithWeight_30 : decode cX3_countWithWeight 30 = .ok (.iload 5, 2) := by decide +kernel
theorem dX3_countWithWeight_32 : decode cX3_countWithWeight 32 = .ok (.invokestatic 51, 3) := by decide +kernel
theorem dX3_countWithWeight_35 : decode cX3_countWithWeight 35 = .ok (.iload_n 2, 1) := by decide +kernel
theorem dX3_countWithWeight_36 : decode cX3_countWithWeight 36 = .ok (.iadd, 1) := by decide +kernel
theorem dX3_countWithWeight_37 : decode cX3_countWithWeight 37 = .ok (.laload, 1) := by decide +kernel
theorem dX3_countWithWeight_38 : decode cX3_countWithWeight 38 = .ok (.ladd, 1) := by decide +kernel
theorem dX3_countWithWeight_39 : decode cX3_countWithWeight 39 = .ok (.lstore_n 3, 1) := by decide +kernel
theorem dX3_countWithWeight_40 : decode cX3_countWithWeight 40 = .ok (.iinc 5 1, 3) := by decide +kernel
theorem dX3_countWithWeight_43 : decode cX3_countWithWeight 43 = .ok (.goto (-38), 3) := by decide +kernel
theorem dX3_countWithWeight_46 : decode cX3_countWithWeight 46 = .ok (.lload_n 3, 1) := by decide +kernel
theorem dX3_countWithWeight_47 : decode cX3_countWithWeight 47 = .ok (.lreturn, 1) := by decide +kernel
theorem dX3_find_0 : decode cX3_find 0 = .ok (.lload_n 2, 1) := by decide +kernel
theorem dX3_find_1 : decode cX3_find 1 = .ok (.lstore 4, 2) := by decide +kernel
theorem dX3_find_3 : decode cX3_find 3 = .ok (.aload_n 0, 1) := by decide +kernel
theorem dX3_find_4 : decode cX3_find 4 = .ok (.iconst 0, 1) := by decide +kernel
theorem dX3_find_5 : decode cX3_find 5 = .ok (.putfield 26, 3) := by decide +kernel
theorem dX3_find_8 : decode cX3_find 8 = .ok (.aload_n 0, 1) := by decide +kernel
theorem dX3_find_9 : decode cX3_find 9 = .ok (.iconst 0, 1) := by decide +kernel
theorem dX3_find_10 : decode cX3_find 10 = .ok (.putfield 22, 3) := by decide +kernel
theorem dX3_find_13 : decode cX3_find 13 = .ok (.bipush 72, 2) := by decide +kernel
theorem dX3_find_15 : decode cX3_find 15 = .ok (.istore 6, 2) := by decide +kernel
theorem dX3_find_17 : decode cX3_find 17 = .ok (.iload 6, 2) := by decide +kernel
theorem dX3_find_19 : decode cX3_find 19 = .ok (.ifCond .le 49, 3) := by decide +kernel
theorem dX3_find_22 : decode cX3_find 22 = .ok (.aload_n 0, 1) := by decide +kernel
theorem dX3_find_23 : decode cX3_find 23 = .ok (.getfield 26, 3) := by decide +kernel
theorem dX3_find_26 : decode cX3_find 26 = .ok (.ifCond .ne 42, 3) := by decide +kernel
theorem dX3_find_29 : decode cX3_find 29 = .ok (.aload_n 0, 1) := by decide +kernel
theorem dX3_find_30 : decode cX3_find 30 = .ok (.aload_n 1, 1) := by decide +kernel
theorem dX3_find_31 : decode cX3_find 31 = .ok (.iload 6, 2) := by decide +kernel
theorem dX3_find_33 : decode cX3_find 33 = .ok (.invokevirtual 70, 3) := by decide +kernel
theorem dX3_find_36 : decode cX3_find 36 = .ok (.lstore 7, 2) := by decide +kernel
theorem dX3_find_38 : decode cX3_find 38 = .ok (.lload 4, 2) := by decide +kernel
theorem dX3_find_40 : decode cX3_find 40 = .ok (.lload 7, 2) := by decide +kernel
theorem dX3_find_42 : decode cX3_find 42 = .ok (.lcmp, 1) := by decide +kernel
theorem dX3_find_43 : decode cX3_find 43 = .ok (.ifCond .ge 12, 3) := by decide +kernel
theorem dX3_find_46 : decode cX3_find 46 = .ok (.aload_n 0, 1) := by decide +kernel
theorem dX3_find_47 : decode cX3_find 47 = .ok (.iload 6, 2) := by decide +kernel
theorem dX3_find_49 : decode cX3_find 49 = .ok (.putfield 26, 3) := by decide +kernel
theorem dX3_find_52 : decode cX3_find 52 = .ok (.goto 10, 3) := by decide +kernel
theorem dX3_find_55 : decode cX3_find 55 = .ok (.lload 4, 2) := by decide +kernel
theorem dX3_find_57 : decode cX3_find 57 = .ok (.lload 7, 2) := by decide +kernel
theorem dX3_find_59 : decode cX3_find 59 = .ok (.lsub, 1) := by decide +kernel
theorem dX3_find_60 : decode cX3_find 60 = .ok (.lstore 4, 2) := by decide +kernel
theorem dX3_find_62 : decode cX3_find 62 = .ok (.iinc 6 (-1), 3) := by decide +kernel
theorem dX3_find_65 : decode cX3_find 65 = .ok (.goto (-48), 3) := by decide +kernel
theorem dX3_find_68 : decode cX3_find 68 = .ok (.aload_n 0, 1) := by decide +kernel
theorem dX3_find_69 : decode cX3_find 69 = .ok (.aload_n 1, 1) := by decide +kernel
theorem dX3_find_70 : decode cX3_find 70 = .ok (.lload 4, 2) := by decide +kernel
theorem dX3_find_72 : decode cX3_find 72 = .ok (.invokevirtual 74, 3) := by decide +kernel
theorem dX3_find_75 : decode cX3_find 75 = .ok (.return_, 1) := by decide +kernel
theorem dX3_walk_0 : decode cX3_walk 0 = .ok (.lload_n 2, 1) := by decide +kernel
theorem dX3_walk_1 : decode cX3_walk 1 = .ok (.lstore 4, 2) := by decide +kernel
theorem dX3_walk_3 : decode cX3_walk 3 = .ok (.iconst 0, 1) := by decide +kernel
theorem dX3_walk_4 : decode cX3_walk 4 = .ok (.istore 6, 2) := by decide +kernel
theorem dX3_walk_6 : decode cX3_walk 6 = .ok (.aload_n 0, 1) := by decide +kernel
theorem dX3_walk_7 : decode cX3_walk 7 = .ok (.getfield 26, 3) := by decide +kernel
theorem dX3_walk_10 : decode cX3_walk 10 = .ok (.istore 7, 2) := by decide +kernel
theorem dX3_walk_12 : decode cX3_walk 12 = .ok (.aload_n 1, 1) := by decide +kernel
theorem dX3_walk_13 : decode cX3_walk 13 = .ok (.getfield 78, 3) := by decide +kernel
theorem dX3_walk_16 : decode cX3_walk 16 = .ok (.istore 8, 2) := by decide +kernel
theorem dX3_walk_18 : decode cX3_walk 18 = .ok (.iconst 0, 1) := by decide +kernel
theorem dX3_walk_19 : decode cX3_walk 19 = .ok (.istore 9, 2) := by decide +kernel
theorem dX3_walk_21 : decode cX3_walk 21 = .ok (.iload 9, 2) := by decide +kernel
theorem dX3_walk_23 : decode cX3_walk 23 = .ok (.bipush 8, 2) := by decide +kernel
theorem dX3_walk_25 : decode cX3_walk 25 = .ok (.if_icmp .ge 141, 3) := by decide +kernel
theorem dX3_walk_28 : decode cX3_walk 28 = .ok (.iload 6, 2) := by decide +kernel
theorem dX3_walk_30 : decode cX3_walk 30 = .ok (.aload_n 1, 1) := by decide +kernel
theorem dX3_walk_31 : decode cX3_walk 31 = .ok (.getfield 35, 3) := by decide +kernel
theorem dX3_walk_34 : decode cX3_walk 34 = .ok (.if_icmp .ge 132, 3) := by decide +kernel
theorem dX3_walk_37 : decode cX3_walk 37 = .ok (.iload 7, 2) := by decide +kernel
theorem dX3_walk_39 : decode cX3_walk 39 = .ok (.ifCond .le 127, 3) := by decide +kernel
theorem dX3_walk_42 : decode cX3_walk 42 = .ok (.bipush (-9), 2) := by decide +kernel
theorem dX3_walk_44 : decode cX3_walk 44 = .ok (.istore 10, 2) := by decide +kernel
theorem dX3_walk_46 : decode cX3_walk 46 = .ok (.iconst 0, 1) := by decide +kernel
theorem dX3_walk_47 : decode cX3_walk 47 = .ok (.istore 11, 2) := by decide +kernel
theorem dX3_walk_49 : decode cX3_walk 49 = .ok (.iload 11, 2) := by decide +kernel
theorem dX3_walk_51 : decode cX3_walk 51 = .ok (.aload_n 1, 1) := by decide +kernel
theorem dX3_walk_52 : decode cX3_walk 52 = .ok (.getfield 40, 3) := by decide +kernel
theorem dX3_walk_55 : decode cX3_walk 55 = .ok (.if_icmp .ge 51, 3) := by decide +kernel
theorem dX3_walk_58 : decode cX3_walk 58 = .ok (.iload 10, 2) := by decide +kernel
theorem dX3_walk_60 : decode cX3_walk 60 = .ok (.ifCond .ge 46, 3) := by decide +kernel
theorem dX3_walk_63 : decode cX3_walk 63 = .ok (.aload_n 0, 1) := by decide +kernel
theorem dX3_walk_64 : decode cX3_walk 64 = .ok (.aload_n 1, 1) := by decide +kernel
theorem dX3_walk_65 : decode cX3_walk 65 = .ok (.iload 6, 2) := by decide +kernel
theorem dX3_walk_67 : decode cX3_walk 67 = .ok (.iload 11, 2) := by decide +kernel
theorem dX3_walk_69 : decode cX3_walk 69 = .ok (.iload 8, 2) := by decide +kernel
theorem dX3_walk_71 : decode cX3_walk 71 = .ok (.iload 7, 2) := by decide +kernel
theorem dX3_walk_73 : decode cX3_walk 73 = .ok (.invokevirtual 81, 3) := by decide +kernel
theorem dX3_walk_76 : decode cX3_walk 76 = .ok (.lstore 12, 2) := by decide +kernel
theorem dX3_walk_78 : decode cX3_walk 78 = .ok (.lload 4, 2) := by decide +kernel
theorem dX3_walk_80 : decode cX3_walk 80 = .ok (.lload 12, 2) := by decide +kernel
theorem dX3_walk_82 : decode cX3_walk 82 = .ok (.lcmp, 1) := by decide +kernel
theorem dX3_walk_83 : decode cX3_walk 83 = .ok (.ifCond .ge 10, 3) := by decide +kernel
theorem dX3_walk_86 : decode cX3_walk 86 = .ok (.iload 11, 2) := by decide +kernel
theorem dX3_walk_88 : decode cX3_walk 88 = .ok (.istore 10, 2) := by decide +kernel
theorem dX3_walk_90 : decode cX3_walk 90 = .ok (.goto 10, 3) := by decide +kernel
theorem dX3_walk_93 : decode cX3_walk 93 = .ok (.lload 4, 2) := by decide +kernel
theorem dX3_walk_95 : decode cX3_walk 95 = .ok (.lload 12, 2) := by decide +kernel
theorem dX3_walk_97 : decode cX3_walk 97 = .ok (.lsub, 1) := by decide +kernel
theorem dX3_walk_98 : decode cX3_walk 98 = .ok (.lstore 4, 2) := by decide +kernel
theorem dX3_walk_100 : decode cX3_walk 100 = .ok (.iinc 11 1, 3) := by decide +kernel
theorem dX3_walk_103 : decode cX3_walk 103 = .ok (.goto (-54), 3) := by decide +kernel
theorem dX3_walk_106 : decode cX3_walk 106 = .ok (.iload 10, 2) := by decide +kernel
theorem dX3_walk_108 : decode cX3_walk 108 = .ok (.ifCond .ge 4, 3) := by decide +kernel
theorem dX3_walk_111 : decode cX3_walk 111 = .ok (.return_, 1) := by decide +kernel
theorem dX3_walk_112 : decode cX3_walk 112 = .ok (.aload_n 0, 1) := by decide +kernel
theorem dX3_walk_113 : decode cX3_walk 113 = .ok (.getfield 19, 3) := by decide +kernel
theorem dX3_walk_116 : decode cX3_walk 116 = .ok (.iload 9, 2) := by decide +kernel
theorem dX3_walk_118 : decode cX3_walk 118 = .ok (.iload 10, 2) := by decide +kernel
theorem dX3_walk_120 : decode cX3_walk 120 = .ok (.iastore, 1) := by decide +kernel
theorem dX3_walk_121 : decode cX3_walk 121 = .ok (.aload_n 0, 1) := by decide +kernel
theorem dX3_walk_122 : decode cX3_walk 122 = .ok (.iload 9, 2) := by decide +kernel
theorem dX3_walk_124 : decode cX3_walk 124 = .ok (.iconst 1, 1) := by decide +kernel
theorem dX3_walk_125 : decode cX3_walk 125 = .ok (.iadd, 1) := by decide +kernel
theorem dX3_walk_126 : decode cX3_walk 126 = .ok (.putfield 22, 3) := by decide +kernel
theorem dX3_walk_129 : decode cX3_walk 129 = .ok (.iload 7, 2) := by decide +kernel
theorem dX3_walk_131 : decode cX3_walk 131 = .ok (.aload_n 0, 1) := by decide +kernel
theorem dX3_walk_132 : decode cX3_walk 132 = .ok (.getfield 15, 3) := by decide +kernel
theorem dX3_walk_135 : decode cX3_walk 135 = .ok (.iload 10, 2) := by decide +kernel
theorem dX3_walk_137 : decode cX3_walk 137 = .ok (.iaload, 1) := by decide +kernel
theorem dX3_walk_138 : decode cX3_walk 138 = .ok (.isub, 1) := by decide +kernel
theorem dX3_walk_139 : decode cX3_walk 139 = .ok (.istore 7, 2) := by decide +kernel
theorem dX3_walk_141 : decode cX3_walk 141 = .ok (.aload_n 1, 1) := by decide +kernel
theorem dX3_walk_142 : decode cX3_walk 142 = .ok (.getfield 67, 3) := by decide +kernel
theorem dX3_walk_145 : decode cX3_walk 145 = .ok (.iload 10, 2) := by decide +kernel
theorem dX3_walk_147 : decode cX3_walk 147 = .ok (.iaload, 1) := by decide +kernel
theorem dX3_walk_148 : decode cX3_walk 148 = .ok (.istore 8, 2) := by decide +kernel
theorem dX3_walk_150 : decode cX3_walk 150 = .ok (.aload_n 1, 1) := by decide +kernel
theorem dX3_walk_151 : decode cX3_walk 151 = .ok (.iload 6, 2) := by decide +kernel
theorem dX3_walk_153 : decode cX3_walk 153 = .ok (.iload 10, 2) := by decide +kernel
theorem dX3_walk_155 : decode cX3_walk 155 = .ok (.invokevirtual 55, 3) := by decide +kernel
theorem dX3_walk_158 : decode cX3_walk 158 = .ok (.istore 6, 2) := by decide +kernel
theorem dX3_walk_160 : decode cX3_walk 160 = .ok (.iinc 9 1, 3) := by decide +kernel
theorem dX3_walk_163 : decode cX3_walk 163 = .ok (.goto (-142), 3) := by decide +kernel
theorem dX3_walk_166 : decode cX3_walk 166 = .ok (.return_, 1) := by decide +kernel
theorem dX3_endsOf_0 : decode cX3_endsOf 0 = .ok (.aload_n 1, 1) := by decide +kernel
theorem dX3_endsOf_1 : decode cX3_endsOf 1 = .ok (.iload_n 2, 1) := by decide +kernel
theorem dX3_endsOf_2 : decode cX3_endsOf 2 = .ok (.iload_n 3, 1) := by decide +kernel
theorem dX3_endsOf_3 : decode cX3_endsOf 3 = .ok (.invokevirtual 43, 3) := by decide +kernel
theorem dX3_endsOf_6 : decode cX3_endsOf 6 = .ok (.ifCond .eq 16, 3) := by decide +kernel
theorem dX3_endsOf_9 : decode cX3_endsOf 9 = .ok (.iload 4, 2) := by decide +kernel
theorem dX3_endsOf_11 : decode cX3_endsOf 11 = .ok (.iload_n 3, 1) := by decide +kernel
theorem dX3_endsOf_12 : decode cX3_endsOf 12 = .ok (.ishr, 1) := by decide +kernel
theorem dX3_endsOf_13 : decode cX3_endsOf 13 = .ok (.iconst 1, 1) := by decide +kernel
theorem dX3_endsOf_14 : decode cX3_endsOf 14 = .ok (.iand, 1) := by decide +kernel
theorem dX3_endsOf_15 : decode cX3_endsOf 15 = .ok (.ifCond .eq 7, 3) := by decide +kernel
theorem dX3_endsOf_18 : decode cX3_endsOf 18 = .ok (.iconst 1, 1) := by decide +kernel
theorem dX3_endsOf_19 : decode cX3_endsOf 19 = .ok (.goto 4, 3) := by decide +kernel
theorem dX3_endsOf_22 : decode cX3_endsOf 22 = .ok (.iconst 0, 1) := by decide +kernel
theorem dX3_endsOf_23 : decode cX3_endsOf 23 = .ok (.istore 6, 2) := by decide +kernel
theorem dX3_endsOf_25 : decode cX3_endsOf 25 = .ok (.iload 6, 2) := by decide +kernel
theorem dX3_endsOf_27 : decode cX3_endsOf 27 = .ok (.ifCond .eq 31, 3) := by decide +kernel
theorem dX3_endsOf_30 : decode cX3_endsOf 30 = .ok (.iload 5, 2) := by decide +kernel
theorem dX3_endsOf_32 : decode cX3_endsOf 32 = .ok (.ifCond .lt 26, 3) := by decide +kernel
theorem dX3_endsOf_35 : decode cX3_endsOf 35 = .ok (.iload 5, 2) := by decide +kernel
theorem dX3_endsOf_37 : decode cX3_endsOf 37 = .ok (.bipush 72, 2) := by decide +kernel
theorem dX3_endsOf_39 : decode cX3_endsOf 39 = .ok (.if_icmp .gt 19, 3) := by decide +kernel
theorem dX3_endsOf_42 : decode cX3_endsOf 42 = .ok (.aload_n 0, 1) := by decide +kernel
theorem dX3_endsOf_43 : decode cX3_endsOf 43 = .ok (.getfield 9, 3) := by decide +kernel
theorem dX3_endsOf_46 : decode cX3_endsOf 46 = .ok (.iload_n 2, 1) := by decide +kernel
theorem dX3_endsOf_47 : decode cX3_endsOf 47 = .ok (.iload_n 3, 1) := by decide +kernel
theorem dX3_endsOf_48 : decode cX3_endsOf 48 = .ok (.invokestatic 51, 3) := by decide +kernel
theorem dX3_endsOf_51 : decode cX3_endsOf 51 = .ok (.iload 5, 2) := by decide +kernel
theorem dX3_endsOf_53 : decode cX3_endsOf 53 = .ok (.iadd, 1) := by decide +kernel
theorem dX3_endsOf_54 : decode cX3_endsOf 54 = .ok (.laload, 1) := by decide +kernel
theorem dX3_endsOf_55 : decode cX3_endsOf 55 = .ok (.goto 4, 3) := by decide +kernel
theorem dX3_endsOf_58 : decode cX3_endsOf 58 = .ok (.lconst 0, 1) := by decide +kernel
theorem dX3_endsOf_59 : decode cX3_endsOf 59 = .ok (.lreturn, 1) := by decide +kernel
theorem dX3_rankOfPath_0 : decode cX3_rankOfPath 0 = .ok (.lconst 0, 1) := by decide +kernel
theorem dX3_rankOfPath_1 : decode cX3_rankOfPath 1 = .ok (.lstore_n 2, 1) := by decide +kernel
theorem dX3_rankOfPath_2 : decode cX3_rankOfPath 2 = .ok (.bipush 72, 2) := by decide +kernel
theorem dX3_rankOfPath_4 : decode cX3_rankOfPath 4 = .ok (.istore 4, 2) := by decide +kernel
theorem dX3_rankOfPath_6 : decode cX3_rankOfPath 6 = .ok (.iload 4, 2) := by decide +kernel
theorem dX3_rankOfPath_8 : decode cX3_rankOfPath 8 = .ok (.aload_n 0, 1) := by decide +kernel
theorem dX3_rankOfPath_9 : decode cX3_rankOfPath 9 = .ok (.getfield 26, 3) := by decide +kernel
theorem dX3_rankOfPath_12 : decode cX3_rankOfPath 12 = .ok (.if_icmp .le 19, 3) := by decide +kernel
theorem dX3_rankOfPath_15 : decode cX3_rankOfPath 15 = .ok (.lload_n 2, 1) := by decide +kernel
theorem dX3_rankOfPath_16 : decode cX3_rankOfPath 16 = .ok (.aload_n 0, 1) := by decide +kernel
theorem dX3_rankOfPath_17 : decode cX3_rankOfPath 17 = .ok (.aload_n 1, 1) := by decide +kernel
theorem dX3_rankOfPath_18 : decode cX3_rankOfPath 18 = .ok (.iload 4, 2) := by decide +kernel
theorem dX3_rankOfPath_20 : decode cX3_rankOfPath 20 = .ok (.invokevirtual 70, 3) := by decide +kernel
theorem dX3_rankOfPath_23 : decode cX3_rankOfPath 23 = .ok (.ladd, 1) := by decide +kernel
theorem dX3_rankOfPath_24 : decode cX3_rankOfPath 24 = .ok (.lstore_n 2, 1) := by decide +kernel
theorem dX3_rankOfPath_25 : decode cX3_rankOfPath 25 = .ok (.iinc 4 (-1), 3) := by decide +kernel
theorem dX3_rankOfPath_28 : decode cX3_rankOfPath 28 = .ok (.goto (-22), 3) := by decide +kernel
theorem dX3_rankOfPath_31 : decode cX3_rankOfPath 31 = .ok (.iconst 0, 1) := by decide +kernel
theorem dX3_rankOfPath_32 : decode cX3_rankOfPath 32 = .ok (.istore 4, 2) := by decide +kernel
theorem dX3_rankOfPath_34 : decode cX3_rankOfPath 34 = .ok (.aload_n 0, 1) := by decide +kernel
theorem dX3_rankOfPath_35 : decode cX3_rankOfPath 35 = .ok (.getfield 26, 3) := by decide +kernel
theorem dX3_rankOfPath_38 : decode cX3_rankOfPath 38 = .ok (.istore 5, 2) := by decide +kernel
theorem dX3_rankOfPath_40 : decode cX3_rankOfPath 40 = .ok (.aload_n 1, 1) := by decide +kernel
theorem dX3_rankOfPath_41 : decode cX3_rankOfPath 41 = .ok (.getfield 78, 3) := by decide +kernel
theorem dX3_rankOfPath_44 : decode cX3_rankOfPath 44 = .ok (.istore 6, 2) := by decide +kernel
theorem dX3_rankOfPath_46 : decode cX3_rankOfPath 46 = .ok (.iconst 0, 1) := by decide +kernel
theorem dX3_rankOfPath_47 : decode cX3_rankOfPath 47 = .ok (.istore 7, 2) := by decide +kernel
theorem dX3_rankOfPath_49 : decode cX3_rankOfPath 49 = .ok (.iload 7, 2) := by decide +kernel
theorem dX3_rankOfPath_51 : decode cX3_rankOfPath 51 = .ok (.aload_n 0, 1) := by decide +kernel
theorem dX3_rankOfPath_52 : decode cX3_rankOfPath 52 = .ok (.getfield 22, 3) := by decide +kernel
theorem dX3_rankOfPath_55 : decode cX3_rankOfPath 55 = .ok (.if_icmp .ge 101, 3) := by decide +kernel
theorem dX3_rankOfPath_58 : decode cX3_rankOfPath 58 = .ok (.iload 4, 2) := by decide +kernel
theorem dX3_rankOfPath_60 : decode cX3_rankOfPath 60 = .ok (.aload_n 1, 1) := by decide +kernel
theorem dX3_rankOfPath_61 : decode cX3_rankOfPath 61 = .ok (.getfield 35, 3) := by decide +kernel
theorem dX3_rankOfPath_64 : decode cX3_rankOfPath 64 = .ok (.if_icmp .ge 92, 3) := by decide +kernel
theorem dX3_rankOfPath_67 : decode cX3_rankOfPath 67 = .ok (.iconst 0, 1) := by decide +kernel
theorem dX3_rankOfPath_68 : decode cX3_rankOfPath 68 = .ok (.istore 8, 2) := by decide +kernel
theorem dX3_rankOfPath_70 : decode cX3_rankOfPath 70 = .ok (.iload 8, 2) := by decide +kernel
theorem dX3_rankOfPath_72 : decode cX3_rankOfPath 72 = .ok (.aload_n 0, 1) := by decide +kernel
theorem dX3_rankOfPath_73 : decode cX3_rankOfPath 73 = .ok (.getfield 19, 3) := by decide +kernel
theorem dX3_rankOfPath_76 : decode cX3_rankOfPath 76 = .ok (.iload 7, 2) := by decide +kernel
theorem dX3_rankOfPath_78 : decode cX3_rankOfPath 78 = .ok (.iaload, 1) := by decide +kernel
theorem dX3_rankOfPath_79 : decode cX3_rankOfPath 79 = .ok (.if_icmp .ge 25, 3) := by decide +kernel
theorem dX3_rankOfPath_82 : decode cX3_rankOfPath 82 = .ok (.lload_n 2, 1) := by decide +kernel
theorem dX3_rankOfPath_83 : decode cX3_rankOfPath 83 = .ok (.aload_n 0, 1) := by decide +kernel
theorem dX3_rankOfPath_84 : decode cX3_rankOfPath 84 = .ok (.aload_n 1, 1) := by decide +kernel
theorem dX3_rankOfPath_85 : decode cX3_rankOfPath 85 = .ok (.iload 4, 2) := by decide +kernel
theorem dX3_rankOfPath_87 : decode cX3_rankOfPath 87 = .ok (.iload 8, 2) := by decide +kernel
theorem dX3_rankOfPath_89 : decode cX3_rankOfPath 89 = .ok (.iload 6, 2) := by decide +kernel
theorem dX3_rankOfPath_91 : decode cX3_rankOfPath 91 = .ok (.iload 5, 2) := by decide +kernel
theorem dX3_rankOfPath_93 : decode cX3_rankOfPath 93 = .ok (.invokevirtual 81, 3) := by decide +kernel
theorem dX3_rankOfPath_96 : decode cX3_rankOfPath 96 = .ok (.ladd, 1) := by decide +kernel
theorem dX3_rankOfPath_97 : decode cX3_rankOfPath 97 = .ok (.lstore_n 2, 1) := by decide +kernel
theorem dX3_rankOfPath_98 : decode cX3_rankOfPath 98 = .ok (.iinc 8 1, 3) := by decide +kernel
theorem dX3_rankOfPath_101 : decode cX3_rankOfPath 101 = .ok (.goto (-31), 3) := by decide +kernel
theorem dX3_rankOfPath_104 : decode cX3_rankOfPath 104 = .ok (.iload 5, 2) := by decide +kernel
theorem dX3_rankOfPath_106 : decode cX3_rankOfPath 106 = .ok (.aload_n 0, 1) := by decide +kernel
theorem dX3_rankOfPath_107 : decode cX3_rankOfPath 107 = .ok (.getfield 15, 3) := by decide +kernel
theorem dX3_rankOfPath_110 : decode cX3_rankOfPath 110 = .ok (.aload_n 0, 1) := by decide +kernel
theorem dX3_rankOfPath_111 : decode cX3_rankOfPath 111 = .ok (.getfield 19, 3) := by decide +kernel
theorem dX3_rankOfPath_114 : decode cX3_rankOfPath 114 = .ok (.iload 7, 2) := by decide +kernel
theorem dX3_rankOfPath_116 : decode cX3_rankOfPath 116 = .ok (.iaload, 1) := by decide +kernel
theorem dX3_rankOfPath_117 : decode cX3_rankOfPath 117 = .ok (.iaload, 1) := by decide +kernel
theorem dX3_rankOfPath_118 : decode cX3_rankOfPath 118 = .ok (.isub, 1) := by decide +kernel
theorem dX3_rankOfPath_119 : decode cX3_rankOfPath 119 = .ok (.istore 5, 2) := by decide +kernel
theorem dX3_rankOfPath_121 : decode cX3_rankOfPath 121 = .ok (.aload_n 1, 1) := by decide +kernel
theorem dX3_rankOfPath_122 : decode cX3_rankOfPath 122 = .ok (.getfield 67, 3) := by decide +kernel
theorem dX3_rankOfPath_125 : decode cX3_rankOfPath 125 = .ok (.aload_n 0, 1) := by decide +kernel
theorem dX3_rankOfPath_126 : decode cX3_rankOfPath 126 = .ok (.getfield 19, 3) := by decide +kernel
theorem dX3_rankOfPath_129 : decode cX3_rankOfPath 129 = .ok (.iload 7, 2) := by decide +kernel
theorem dX3_rankOfPath_131 : decode cX3_rankOfPath 131 = .ok (.iaload, 1) := by decide +kernel
theorem dX3_rankOfPath_132 : decode cX3_rankOfPath 132 = .ok (.iaload, 1) := by decide +kernel
theorem dX3_rankOfPath_133 : decode cX3_rankOfPath 133 = .ok (.istore 6, 2) := by decide +kernel
theorem dX3_rankOfPath_135 : decode cX3_rankOfPath 135 = .ok (.aload_n 1, 1) := by decide +kernel
theorem dX3_rankOfPath_136 : decode cX3_rankOfPath 136 = .ok (.iload 4, 2) := by decide +kernel
theorem dX3_rankOfPath_138 : decode cX3_rankOfPath 138 = .ok (.aload_n 0, 1) := by decide +kernel
theorem dX3_rankOfPath_139 : decode cX3_rankOfPath 139 = .ok (.getfield 19, 3) := by decide +kernel
theorem dX3_rankOfPath_142 : decode cX3_rankOfPath 142 = .ok (.iload 7, 2) := by decide +kernel
theorem dX3_rankOfPath_144 : decode cX3_rankOfPath 144 = .ok (.iaload, 1) := by decide +kernel
theorem dX3_rankOfPath_145 : decode cX3_rankOfPath 145 = .ok (.invokevirtual 55, 3) := by decide +kernel
theorem dX3_rankOfPath_148 : decode cX3_rankOfPath 148 = .ok (.istore 4, 2) := by decide +kernel
theorem dX3_rankOfPath_150 : decode cX3_rankOfPath 150 = .ok (.iinc 7 1, 3) := by decide +kernel
theorem dX3_rankOfPath_153 : decode cX3_rankOfPath 153 = .ok (.goto (-104), 3) := by decide +kernel
theorem dX3_rankOfPath_156 : decode cX3_rankOfPath 156 = .ok (.lload_n 2, 1) := by decide +kernel
theorem dX3_rankOfPath_157 : decode cX3_rankOfPath 157 = .ok (.lreturn, 1) := by decide +kernel
theorem dX4_init_0 : decode cX4_init 0 = .ok (.aload_n 0, 1) := by decide +kernel
theorem dX4_init_1 : decode cX4_init 1 = .ok (.invokespecial 3, 3) := by decide +kernel
theorem dX4_init_4 : decode cX4_init 4 = .ok (.aload_n 0, 1) := by decide +kernel
theorem dX4_init_5 : decode cX4_init 5 = .ok (.bipush 110, 2) := by decide +kernel
theorem dX4_init_7 : decode cX4_init 7 = .ok (.newarray .int, 2) := by decide +kernel
theorem dX4_init_9 : decode cX4_init 9 = .ok (.putfield 9, 3) := by decide +kernel
theorem dX4_init_12 : decode cX4_init 12 = .ok (.aload_n 0, 1) := by decide +kernel
theorem dX4_init_13 : decode cX4_init 13 = .ok (.iconst 0, 1) := by decide +kernel
theorem dX4_init_14 : decode cX4_init 14 = .ok (.putfield 15, 3) := by decide +kernel
theorem dX4_init_17 : decode cX4_init 17 = .ok (.aload_n 0, 1) := by decide +kernel
theorem dX4_init_18 : decode cX4_init 18 = .ok (.new 19, 3) := by decide +kernel
theorem dX4_init_21 : decode cX4_init 21 = .ok (.dup, 1) := by decide +kernel
theorem dX4_init_22 : decode cX4_init 22 = .ok (.invokespecial 21, 3) := by decide +kernel
theorem dX4_init_25 : decode cX4_init 25 = .ok (.putfield 22, 3) := by decide +kernel
theorem dX4_init_28 : decode cX4_init 28 = .ok (.aload_n 0, 1) := by decide +kernel
theorem dX4_init_29 : decode cX4_init 29 = .ok (.new 26, 3) := by decide +kernel
theorem dX4_init_32 : decode cX4_init 32 = .ok (.dup, 1) := by decide +kernel
theorem dX4_init_33 : decode cX4_init 33 = .ok (.invokespecial 28, 3) := by decide +kernel
theorem dX4_init_36 : decode cX4_init 36 = .ok (.putfield 29, 3) := by decide +kernel
theorem dX4_init_39 : decode cX4_init 39 = .ok (.aload_n 0, 1) := by decide +kernel
theorem dX4_init_40 : decode cX4_init 40 = .ok (.iconst 0, 1) := by decide +kernel
theorem dX4_init_41 : decode cX4_init 41 = .ok (.putfield 33, 3) := by decide +kernel
theorem dX4_init_44 : decode cX4_init 44 = .ok (.aload_n 0, 1) := by decide +kernel
theorem dX4_init_45 : decode cX4_init 45 = .ok (.iconst 0, 1) := by decide +kernel
theorem dX4_init_46 : decode cX4_init 46 = .ok (.putfield 36, 3) := by decide +kernel
theorem dX4_init_49 : decode cX4_init 49 = .ok (.aload_n 0, 1) := by decide +kernel
theorem dX4_init_50 : decode cX4_init 50 = .ok (.iconst 0, 1) := by decide +kernel
theorem dX4_init_51 : decode cX4_init 51 = .ok (.putfield 40, 3) := by decide +kernel
theorem dX4_init_54 : decode cX4_init 54 = .ok (.return_, 1) := by decide +kernel
theorem dX4_append_0 : decode cX4_append 0 = .ok (.aload_n 0, 1) := by decide +kernel
theorem dX4_append_1 : decode cX4_append 1 = .ok (.getfield 15, 3) := by decide +kernel
theorem dX4_append_4 : decode cX4_append 4 = .ok (.ifCond .lt 32, 3) := by decide +kernel
theorem dX4_append_7 : decode cX4_append 7 = .ok (.aload_n 0, 1) := by decide +kernel
theorem dX4_append_8 : decode cX4_append 8 = .ok (.getfield 15, 3) := by decide +kernel
theorem dX4_append_11 : decode cX4_append 11 = .ok (.bipush 110, 2) := by decide +kernel
theorem dX4_append_13 : decode cX4_append 13 = .ok (.if_icmp .ge 23, 3) := by decide +kernel
theorem dX4_append_16 : decode cX4_append 16 = .ok (.aload_n 0, 1) := by decide +kernel
theorem dX4_append_17 : decode cX4_append 17 = .ok (.getfield 9, 3) := by decide +kernel
theorem dX4_append_20 : decode cX4_append 20 = .ok (.aload_n 0, 1) := by decide +kernel
theorem dX4_append_21 : decode cX4_append 21 = .ok (.getfield 15, 3) := by decide +kernel
theorem dX4_append_24 : decode cX4_append 24 = .ok (.iload_n 1, 1) := by decide +kernel
theorem dX4_append_25 : decode cX4_append 25 = .ok (.iastore, 1) := by decide +kernel
theorem dX4_append_26 : decode cX4_append 26 = .ok (.aload_n 0, 1) := by decide +kernel
theorem dX4_append_27 : decode cX4_append 27 = .ok (.dup, 1) := by decide +kernel
theorem dX4_append_28 : decode cX4_append 28 = .ok (.getfield 15, 3) := by decide +kernel
theorem dX4_append_31 : decode cX4_append 31 = .ok (.iconst 1, 1) := by decide +kernel
theorem dX4_append_32 : decode cX4_append 32 = .ok (.iadd, 1) := by decide +kernel
theorem dX4_append_33 : decode cX4_append 33 = .ok (.putfield 15, 3) := by decide +kernel
theorem dX4_append_36 : decode cX4_append 36 = .ok (.return_, 1) := by decide +kernel
theorem dX4_parse_0 : decode cX4_parse 0 = .ok (.aload_n 0, 1) := by decide +kernel
theorem dX4_parse_1 : decode cX4_parse 1 = .ok (.iconst 0, 1) := by decide +kernel
theorem dX4_parse_2 : decode cX4_parse 2 = .ok (.putfield 33, 3) := by decide +kernel
theorem dX4_parse_5 : decode cX4_parse 5 = .ok (.aload_n 0, 1) := by decide +kernel
theorem dX4_parse_6 : decode cX4_parse 6 = .ok (.iconst 0, 1) := by decide +kernel
theorem dX4_parse_7 : decode cX4_parse 7 = .ok (.putfield 36, 3) := by decide +kernel
theorem dX4_parse_10 : decode cX4_parse 10 = .ok (.aload_n 0, 1) := by decide +kernel
theorem dX4_parse_11 : decode cX4_parse 11 = .ok (.iconst 0, 1) := by decide +kernel
theorem dX4_parse_12 : decode cX4_parse 12 = .ok (.putfield 40, 3) := by decide +kernel
theorem dX4_parse_15 : decode cX4_parse 15 = .ok (.aload_n 0, 1) := by decide +kernel
theorem dX4_parse_16 : decode cX4_parse 16 = .ok (.getfield 22, 3) := by decide +kernel
theorem dX4_parse_19 : decode cX4_parse 19 = .ok (.iconst 0, 1) := by decide +kernel
theorem dX4_parse_20 : decode cX4_parse 20 = .ok (.putfield 43, 3) := by decide +kernel
theorem dX4_parse_23 : decode cX4_parse 23 = .ok (.aload_n 0, 1) := by decide +kernel
theorem dX4_parse_24 : decode cX4_parse 24 = .ok (.getfield 29, 3) := by decide +kernel
theorem dX4_parse_27 : decode cX4_parse 27 = .ok (.iconst 0, 1) := by decide +kernel
theorem dX4_parse_28 : decode cX4_parse 28 = .ok (.putfield 46, 3) := by decide +kernel
theorem dX4_parse_31 : decode cX4_parse 31 = .ok (.aload_n 0, 1) := by decide +kernel
theorem dX4_parse_32 : decode cX4_parse 32 = .ok (.getfield 29, 3) := by decide +kernel
theorem dX4_parse_35 : decode cX4_parse 35 = .ok (.iconst 0, 1) := by decide +kernel
theorem dX4_parse_36 : decode cX4_parse 36 = .ok (.putfield 49, 3) := by decide +kernel
theorem dX4_parse_39 : decode cX4_parse 39 = .ok (.aload_n 0, 1) := by decide +kernel
theorem dX4_parse_40 : decode cX4_parse 40 = .ok (.getfield 29, 3) := by decide +kernel
theorem dX4_parse_43 : decode cX4_parse 43 = .ok (.getfield 52, 3) := by decide +kernel
theorem dX4_parse_46 : decode cX4_parse 46 = .ok (.iconst 1, 1) := by decide +kernel
theorem dX4_parse_47 : decode cX4_parse 47 = .ok (.invokestatic 55, 3) := by decide +kernel
theorem dX4_parse_50 : decode cX4_parse 50 = .ok (.aload_n 0, 1) := by decide +kernel
theorem dX4_parse_51 : decode cX4_parse 51 = .ok (.invokevirtual 61, 3) := by decide +kernel
theorem dX4_parse_54 : decode cX4_parse 54 = .ok (.iconst 0, 1) := by decide +kernel
theorem dX4_parse_55 : decode cX4_parse 55 = .ok (.istore_n 1, 1) := by decide +kernel
theorem dX4_parse_56 : decode cX4_parse 56 = .ok (.iload_n 1, 1) := by decide +kernel
theorem dX4_parse_57 : decode cX4_parse 57 = .ok (.bipush 110, 2) := by decide +kernel
theorem dX4_parse_59 : decode cX4_parse 59 = .ok (.if_icmp .ge 31, 3) := by decide +kernel
theorem dX4_parse_62 : decode cX4_parse 62 = .ok (.aload_n 0, 1) := by decide +kernel
theorem dX4_parse_63 : decode cX4_parse 63 = .ok (.getfield 36, 3) := by decide +kernel
theorem dX4_parse_66 : decode cX4_parse 66 = .ok (.ifCond .ne 24, 3) := by decide +kernel
theorem dX4_parse_69 : decode cX4_parse 69 = .ok (.aload_n 0, 1) := by decide +kernel
theorem dX4_parse_70 : decode cX4_parse 70 = .ok (.getfield 33, 3) := by decide +kernel
theorem dX4_parse_73 : decode cX4_parse 73 = .ok (.aload_n 0, 1) := by decide +kernel
theorem dX4_parse_74 : decode cX4_parse 74 = .ok (.getfield 15, 3) := by decide +kernel
theorem dX4_parse_77 : decode cX4_parse 77 = .ok (.if_icmp .ge 13, 3) := by decide +kernel
theorem dX4_parse_80 : decode cX4_parse 80 = .ok (.aload_n 0, 1) := by decide +kernel
theorem dX4_parse_81 : decode cX4_parse 81 = .ok (.invokevirtual 64, 3) := by decide +kernel
theorem dX4_parse_84 : decode cX4_parse 84 = .ok (.iinc 1 1, 3) := by decide +kernel
theorem dX4_parse_87 : decode cX4_parse 87 = .ok (.goto (-31), 3) := by decide +kernel
theorem dX4_parse_90 : decode cX4_parse 90 = .ok (.aload_n 0, 1) := by decide +kernel
theorem dX4_parse_91 : decode cX4_parse 91 = .ok (.getfield 36, 3) := by decide +kernel
theorem dX4_parse_94 : decode cX4_parse 94 = .ok (.ifCond .eq 10, 3) := by decide +kernel
theorem dX4_parse_97 : decode cX4_parse 97 = .ok (.aload_n 0, 1) := by decide +kernel
theorem dX4_parse_98 : decode cX4_parse 98 = .ok (.getfield 33, 3) := by decide +kernel
theorem dX4_parse_101 : decode cX4_parse 101 = .ok (.goto 5, 3) := by decide +kernel
theorem dX4_parse_104 : decode cX4_parse 104 = .ok (.bipush (-9), 2) := by decide +kernel
theorem dX4_parse_106 : decode cX4_parse 106 = .ok (.ireturn, 1) := by decide +kernel
theorem dX4_parseWidths_0 : decode cX4_parseWidths 0 = .ok (.aload_n 0, 1) := by decide +kernel
theorem dX4_parseWidths_1 : decode cX4_parseWidths 1 = .ok (.invokevirtual 67, 3) := by decide +kernel
theorem dX4_parseWidths_4 : decode cX4_parseWidths 4 = .ok (.bipush 83, 2) := by decide +kernel
theorem dX4_parseWidths_6 : decode cX4_parseWidths 6 = .ok (.if_icmp .ne 16, 3) := by decide +kernel
theorem dX4_parseWidths_9 : decode cX4_parseWidths 9 = .ok (.aload_n 0, 1) := by decide +kernel
theorem dX4_parseWidths_10 : decode cX4_parseWidths 10 = .ok (.dup, 1) := by decide +kernel
theorem dX4_parseWidths_11 : decode cX4_parseWidths 11 = .ok (.getfield 33, 3) := by decide +kernel
theorem dX4_parseWidths_14 : decode cX4_parseWidths 14 = .ok (.iconst 1, 1) := by decide +kernel
theorem dX4_parseWidths_15 : decode cX4_parseWidths 15 = .ok (.iadd, 1) := by decide +kernel
theorem dX4_parseWidths_16 : decode cX4_parseWidths 16 = .ok (.putfield 33, 3) := by decide +kernel
theorem dX4_parseWidths_19 : decode cX4_parseWidths 19 = .ok (.goto 8, 3) := by decide +kernel
theorem dX4_parseWidths_22 : decode cX4_parseWidths 22 = .ok (.aload_n 0, 1) := by decide +kernel
theorem dX4_parseWidths_23 : decode cX4_parseWidths 23 = .ok (.iconst 1, 1) := by decide +kernel
theorem dX4_parseWidths_24 : decode cX4_parseWidths 24 = .ok (.putfield 36, 3) := by decide +kernel
theorem dX4_parseWidths_27 : decode cX4_parseWidths 27 = .ok (.iconst 0, 1) := by decide +kernel
theorem dX4_parseWidths_28 : decode cX4_parseWidths 28 = .ok (.istore_n 1, 1) := by decide +kernel
theorem dX4_parseWidths_29 : decode cX4_parseWidths 29 = .ok (.iload_n 1, 1) := by decide +kernel
theorem dX4_parseWidths_30 : decode cX4_parseWidths 30 = .ok (.bipush 6, 2) := by decide +kernel
theorem dX4_parseWidths_32 : decode cX4_parseWidths 32 = .ok (.if_icmp .ge 24, 3) := by decide +kernel
theorem dX4_parseWidths_35 : decode cX4_parseWidths 35 = .ok (.aload_n 0, 1) := by decide +kernel
theorem dX4_parseWidths_36 : decode cX4_parseWidths 36 = .ok (.getfield 22, 3) := by decide +kernel
theorem dX4_parseWidths_39 : decode cX4_parseWidths 39 = .ok (.getfield 71, 3) := by decide +kernel
theorem dX4_parseWidths_42 : decode cX4_parseWidths 42 = .ok (.iload_n 1, 1) := by decide +kernel
theorem dX4_parseWidths_43 : decode cX4_parseWidths 43 = .ok (.aload_n 0, 1) := by decide +kernel
theorem dX4_parseWidths_44 : decode cX4_parseWidths 44 = .ok (.iconst 1, 1) := by decide +kernel
theorem dX4_parseWidths_45 : decode cX4_parseWidths 45 = .ok (.iconst 3, 1) := by decide +kernel
theorem dX4_parseWidths_46 : decode cX4_parseWidths 46 = .ok (.invokevirtual 74, 3) := by decide +kernel
theorem dX4_parseWidths_49 : decode cX4_parseWidths 49 = .ok (.iastore, 1) := by decide +kernel
theorem dX4_parseWidths_50 : decode cX4_parseWidths 50 = .ok (.iinc 1 1, 3) := by decide +kernel
theorem dX4_parseWidths_53 : decode cX4_parseWidths 53 = .ok (.goto (-24), 3) := by decide +kernel
theorem dX4_parseWidths_56 : decode cX4_parseWidths 56 = .ok (.return_, 1) := by decide +kernel
theorem dX4_parsePart_0 : decode cX4_parsePart 0 = .ok (.aload_n 0, 1) := by decide +kernel
theorem dX4_parsePart_1 : decode cX4_parsePart 1 = .ok (.invokevirtual 67, 3) := by decide +kernel
theorem dX4_parsePart_4 : decode cX4_parsePart 4 = .ok (.lookupswitch 57 #[(100, 36), (108, 50), (114, 43)], 36) := by decide +kernel
theorem dX4_parsePart_40 : decode cX4_parsePart 40 = .ok (.aload_n 0, 1) := by decide +kernel
theorem dX4_parsePart_41 : decode cX4_parsePart 41 = .ok (.invokevirtual 78, 3) := by decide +kernel
theorem dX4_parsePart_44 : decode cX4_parsePart 44 = .ok (.goto 22, 3) := by decide +kernel
theorem dX4_parsePart_47 : decode cX4_parsePart 47 = .ok (.aload_n 0, 1) := by decide +kernel
theorem dX4_parsePart_48 : decode cX4_parsePart 48 = .ok (.invokevirtual 81, 3) := by decide +kernel
theorem dX4_parsePart_51 : decode cX4_parsePart 51 = .ok (.goto 15, 3) := by decide +kernel
theorem dX4_parsePart_54 : decode cX4_parsePart 54 = .ok (.aload_n 0, 1) := by decide +kernel
theorem dX4_parsePart_55 : decode cX4_parsePart 55 = .ok (.invokevirtual 84, 3) := by decide +kernel
theorem dX4_parsePart_58 : decode cX4_parsePart 58 = .ok (.goto 8, 3) := by decide +kernel
theorem dX4_parsePart_61 : decode cX4_parsePart 61 = .ok (.aload_n 0, 1) := by decide +kernel
theorem dX4_parsePart_62 : decode cX4_parsePart 62 = .ok (.iconst 1, 1) := by decide +kernel
theorem dX4_parsePart_63 : decode cX4_parsePart 63 = .ok (.putfield 36, 3) := by decide +kernel
theorem dX4_parsePart_66 : decode cX4_parsePart 66 = .ok (.return_, 1) := by decide +kernel
theorem dX4_parseWord_0 : decode cX4_parseWord 0 = .ok (.aload_n 0, 1) := by decide +kernel
theorem dX4_parseWord_1 : decode cX4_parseWord 1 = .ok (.getfield 22, 3) := by decide +kernel
theorem dX4_parseWord_4 : decode cX4_parseWord 4 = .ok (.getfield 43, 3) := by decide +kernel
theorem dX4_parseWord_7 : decode cX4_parseWord 7 = .ok (.istore_n 1, 1) := by decide +kernel
theorem dX4_parseWord_8 : decode cX4_parseWord 8 = .ok (.iload_n 1, 1) := by decide +kernel
theorem dX4_parseWord_9 : decode cX4_parseWord 9 = .ok (.ifCond .lt 9, 3) := by decide +kernel
theorem dX4_parseWord_12 : decode cX4_parseWord 12 = .ok (.iload_n 1, 1) := by decide +kernel
theorem dX4_parseWord_13 : decode cX4_parseWord 13 = .ok (.bipush 8, 2) := by decide +kernel
theorem dX4_parseWord_15 : decode cX4_parseWord 15 = .ok (.if_icmp .lt 9, 3) := by decide +kernel
theorem dX4_parseWord_18 : decode cX4_parseWord 18 = .ok (.aload_n 0, 1) := by decide +kernel
theorem dX4_parseWord_19 : decode cX4_parseWord 19 = .ok (.iconst 1, 1) := by decide +kernel
theorem dX4_parseWord_20 : decode cX4_parseWord 20 = .ok (.putfield 36, 3) := by decide +kernel
theorem dX4_parseWord_23 : decode cX4_parseWord 23 = .ok (.return_, 1) := by decide +kernel
theorem dX4_parseWord_24 : decode cX4_parseWord 24 = .ok (.aload_n 0, 1) := by decide +kernel
theorem dX4_parseWord_25 : decode cX4_parseWord 25 = .ok (.dup, 1) := by decide +kernel
theorem dX4_parseWord_26 : decode cX4_parseWord 26 = .ok (.getfield 33, 3) := by decide +kernel
theorem dX4_parseWord_29 : decode cX4_parseWord 29 = .ok (.iconst 1, 1) := by decide +kernel
theorem dX4_parseWord_30 : decode cX4_parseWord 30 = .ok (.iadd, 1) := by decide +kernel
theorem dX4_parseWord_31 : decode cX4_parseWord 31 = .ok (.putfield 33, 3) := by decide +kernel
theorem dX4_parseWord_34 : decode cX4_parseWord 34 = .ok (.iconst 0, 1) := by decide +kernel
theorem dX4_parseWord_35 : decode cX4_parseWord 35 = .ok (.istore_n 2, 1) := by decide +kernel
theorem dX4_parseWord_36 : decode cX4_parseWord 36 = .ok (.iconst 0, 1) := by decide +kernel
theorem dX4_parseWord_37 : decode cX4_parseWord 37 = .ok (.istore_n 3, 1) := by decide +kernel
theorem dX4_parseWord_38 : decode cX4_parseWord 38 = .ok (.iload_n 2, 1) := by decide +kernel
theorem dX4_parseWord_39 : decode cX4_parseWord 39 = .ok (.iconst 5, 1) := by decide +kernel
theorem dX4_parseWord_40 : decode cX4_parseWord 40 = .ok (.if_icmp .ge 65, 3) := by decide +kernel
theorem dX4_parseWord_43 : decode cX4_parseWord 43 = .ok (.aload_n 0, 1) := by decide +kernel
theorem dX4_parseWord_44 : decode cX4_parseWord 44 = .ok (.invokevirtual 67, 3) := by decide +kernel
theorem dX4_parseWord_47 : decode cX4_parseWord 47 = .ok (.invokestatic 87, 3) := by decide +kernel
theorem dX4_parseWord_50 : decode cX4_parseWord 50 = .ok (.ifCond .eq 55, 3) := by decide +kernel
theorem dX4_parseWord_53 : decode cX4_parseWord 53 = .ok (.aload_n 0, 1) := by decide +kernel
theorem dX4_parseWord_54 : decode cX4_parseWord 54 = .ok (.invokevirtual 67, 3) := by decide +kernel
theorem dX4_parseWord_57 : decode cX4_parseWord 57 = .ok (.bipush 97, 2) := by decide +kernel
theorem dX4_parseWord_59 : decode cX4_parseWord 59 = .ok (.isub, 1) := by decide +kernel
theorem dX4_parseWord_60 : decode cX4_parseWord 60 = .ok (.istore 4, 2) := by decide +kernel
theorem dX4_parseWord_62 : decode cX4_parseWord 62 = .ok (.aload_n 0, 1) := by decide +kernel
theorem dX4_parseWord_63 : decode cX4_parseWord 63 = .ok (.getfield 22, 3) := by decide +kernel
theorem dX4_parseWord_66 : decode cX4_parseWord 66 = .ok (.getfield 91, 3) := by decide +kernel
theorem dX4_parseWord_69 : decode cX4_parseWord 69 = .ok (.iload_n 1, 1) := by decide +kernel
theorem dX4_parseWord_70 : decode cX4_parseWord 70 = .ok (.iconst 5, 1) := by decide +kernel
theorem dX4_parseWord_71 : decode cX4_parseWord 71 = .ok (.imul, 1) := by decide +kernel
theorem dX4_parseWord_72 : decode cX4_parseWord 72 = .ok (.iload_n 2, 1) := by decide +kernel
theorem dX4_parseWord_73 : decode cX4_parseWord 73 = .ok (.iadd, 1) := by decide +kernel
theorem dX4_parseWord_74 : decode cX4_parseWord 74 = .ok (.iload 4, 2) := by decide +kernel
theorem dX4_parseWord_76 : decode cX4_parseWord 76 = .ok (.iastore, 1) := by decide +kernel
theorem dX4_parseWord_77 : decode cX4_parseWord 77 = .ok (.iload_n 3, 1) := by decide +kernel
theorem dX4_parseWord_78 : decode cX4_parseWord 78 = .ok (.aload_n 0, 1) := by decide +kernel
theorem dX4_parseWord_79 : decode cX4_parseWord 79 = .ok (.getfield 22, 3) := by decide +kernel
theorem dX4_parseWord_82 : decode cX4_parseWord 82 = .ok (.iload 4, 2) := by decide +kernel
theorem dX4_parseWord_84 : decode cX4_parseWord 84 = .ok (.invokevirtual 94, 3) := by decide +kernel
theorem dX4_parseWord_87 : decode cX4_parseWord 87 = .ok (.iadd, 1) := by decide +kernel
theorem dX4_parseWord_88 : decode cX4_parseWord 88 = .ok (.istore_n 3, 1) := by decide +kernel
theorem dX4_parseWord_89 : decode cX4_parseWord 89 = .ok (.iinc 2 1, 3) := by decide +kernel
theorem dX4_parseWord_92 : decode cX4_parseWord 92 = .ok (.aload_n 0, 1) := by decide +kernel
theorem dX4_parseWord_93 : decode cX4_parseWord 93 = .ok (.dup, 1) := by decide +kernel
theorem dX4_parseWord_94 : decode cX4_parseWord 94 = .ok (.getfield 33, 3) := by decide +kernel
theorem dX4_parseWord_97 : decode cX4_parseWord 97 = .ok (.iconst 1, 1) := by decide +kernel
theorem dX4_parseWord_98 : decode cX4_parseWord 98 = .ok (.iadd, 1) := by decide +kernel
theorem dX4_parseWord_99 : decode cX4_parseWord 99 = .ok (.putfield 33, 3) := by decide +kernel
theorem dX4_parseWord_102 : decode cX4_parseWord 102 = .ok (.goto (-64), 3) := by decide +kernel
theorem dX4_parseWord_105 : decode cX4_parseWord 105 = .ok (.iload_n 2, 1) := by decide +kernel
theorem dX4_parseWord_106 : decode cX4_parseWord 106 = .ok (.iconst 2, 1) := by decide +kernel
theorem dX4_parseWord_107 : decode cX4_parseWord 107 = .ok (.if_icmp .ge 8, 3) := by decide +kernel
theorem dX4_parseWord_110 : decode cX4_parseWord 110 = .ok (.aload_n 0, 1) := by decide +kernel
theorem dX4_parseWord_111 : decode cX4_parseWord 111 = .ok (.iconst 1, 1) := by decide +kernel
theorem dX4_parseWord_112 : decode cX4_parseWord 112 = .ok (.putfield 36, 3) := by decide +kernel
theorem dX4_parseWord_115 : decode cX4_parseWord 115 = .ok (.aload_n 0, 1) := by decide +kernel
theorem dX4_parseWord_116 : decode cX4_parseWord 116 = .ok (.getfield 22, 3) := by decide +kernel
theorem dX4_parseWord_119 : decode cX4_parseWord 119 = .ok (.getfield 98, 3) := by decide +kernel
theorem dX4_parseWord_122 : decode cX4_parseWord 122 = .ok (.iload_n 1, 1) := by decide +kernel
theorem dX4_parseWord_123 : decode cX4_parseWord 123 = .ok (.iload_n 2, 1) := by decide +kernel
theorem dX4_parseWord_124 : decode cX4_parseWord 124 = .ok (.iastore, 1) := by decide +kernel
theorem dX4_parseWord_125 : decode cX4_parseWord 125 = .ok (.aload_n 0, 1) := by decide +kernel
theorem dX4_parseWord_126 : decode cX4_parseWord 126 = .ok (.getfield 22, 3) := by decide +kernel
theorem dX4_parseWord_129 : decode cX4_parseWord 129 = .ok (.getfield 101, 3) := by decide +kernel
theorem dX4_parseWord_132 : decode cX4_parseWord 132 = .ok (.iload_n 1, 1) := by decide +kernel
theorem dX4_parseWord_133 : decode cX4_parseWord 133 = .ok (.iload_n 3, 1) := by decide +kernel
theorem dX4_parseWord_134 : decode cX4_parseWord 134 = .ok (.iastore, 1) := by decide +kernel
theorem dX4_parseWord_135 : decode cX4_parseWord 135 = .ok (.aload_n 0, 1) := by decide +kernel
theorem dX4_parseWord_136 : decode cX4_parseWord 136 = .ok (.getfield 22, 3) := by decide +kernel
theorem dX4_parseWord_139 : decode cX4_parseWord 139 = .ok (.getfield 104, 3) := by decide +kernel
theorem dX4_parseWord_142 : decode cX4_parseWord 142 = .ok (.iload_n 1, 1) := by decide +kernel
theorem dX4_parseWord_143 : decode cX4_parseWord 143 = .ok (.aload_n 0, 1) := by decide +kernel
theorem dX4_parseWord_144 : decode cX4_parseWord 144 = .ok (.iconst 0, 1) := by decide +kernel
theorem dX4_parseWord_145 : decode cX4_parseWord 145 = .ok (.iconst 2, 1) := by decide +kernel
theorem dX4_parseWord_146 : decode cX4_parseWord 146 = .ok (.invokevirtual 74, 3) := by decide +kernel
theorem dX4_parseWord_149 : decode cX4_parseWord 149 = .ok (.iastore, 1) := by decide +kernel
theorem dX4_parseWord_150 : decode cX4_parseWord 150 = .ok (.aload_n 0, 1) := by decide +kernel
theorem dX4_parseWord_151 : decode cX4_parseWord 151 = .ok (.getfield 22, 3) := by decide +kernel
theorem dX4_parseWord_154 : decode cX4_parseWord 154 = .ok (.getfield 107, 3) := by decide +kernel
theorem dX4_parseWord_157 : decode cX4_parseWord 157 = .ok (.iload_n 1, 1) := by decide +kernel
theorem dX4_parseWord_158 : decode cX4_parseWord 158 = .ok (.aload_n 0, 1) := by decide +kernel
theorem dX4_parseWord_159 : decode cX4_parseWord 159 = .ok (.iconst 0, 1) := by decide +kernel
theorem dX4_parseWord_160 : decode cX4_parseWord 160 = .ok (.iconst 2, 1) := by decide +kernel
theorem dX4_parseWord_161 : decode cX4_parseWord 161 = .ok (.invokevirtual 74, 3) := by decide +kernel
theorem dX4_parseWord_164 : decode cX4_parseWord 164 = .ok (.iastore, 1) := by decide +kernel
theorem dX4_parseWord_165 : decode cX4_parseWord 165 = .ok (.aload_n 0, 1) := by decide +kernel
theorem dX4_parseWord_166 : decode cX4_parseWord 166 = .ok (.getfield 29, 3) := by decide +kernel
theorem dX4_parseWord_169 : decode cX4_parseWord 169 = .ok (.getfield 110, 3) := by decide +kernel
theorem dX4_parseWord_172 : decode cX4_parseWord 172 = .ok (.iload_n 1, 1) := by decide +kernel
theorem dX4_parseWord_173 : decode cX4_parseWord 173 = .ok (.aload_n 0, 1) := by decide +kernel
theorem dX4_parseWord_174 : decode cX4_parseWord 174 = .ok (.iconst 1, 1) := by decide +kernel
theorem dX4_parseWord_175 : decode cX4_parseWord 175 = .ok (.bipush 9, 2) := by decide +kernel
theorem dX4_parseWord_177 : decode cX4_parseWord 177 = .ok (.invokevirtual 74, 3) := by decide +kernel
theorem dX4_parseWord_180 : decode cX4_parseWord 180 = .ok (.iastore, 1) := by decide +kernel
theorem dX4_parseWord_181 : decode cX4_parseWord 181 = .ok (.aload_n 0, 1) := by decide +kernel
theorem dX4_parseWord_182 : decode cX4_parseWord 182 = .ok (.getfield 22, 3) := by decide +kernel
theorem dX4_parseWord_185 : decode cX4_parseWord 185 = .ok (.iload_n 1, 1) := by decide +kernel
theorem dX4_parseWord_186 : decode cX4_parseWord 186 = .ok (.iconst 1, 1) := by decide +kernel
theorem dX4_parseWord_187 : decode cX4_parseWord 187 = .ok (.iadd, 1) := by decide +kernel
theorem dX4_parseWord_188 : decode cX4_parseWord 188 = .ok (.putfield 43, 3) := by decide +kernel
theorem dX4_parseWord_191 : decode cX4_parseWord 191 = .ok (.return_, 1) := by decide +kernel
theorem dX4_parseRule_0 : decode cX4_parseRule 0 = .ok (.sipush 511, 3) := by decide +kernel
theorem dX4_parseRule_3 : decode cX4_parseRule 3 = .ok (.istore_n 1, 1) := by decide +kernel
theorem dX4_parseRule_4 : decode cX4_parseRule 4 = .ok (.aload_n 0, 1) := by decide +kernel
theorem dX4_parseRule_5 : decode cX4_parseRule 5 = .ok (.getfield 40, 3) := by decide +kernel
theorem dX4_parseRule_8 : decode cX4_parseRule 8 = .ok (.iload_n 1, 1) := by decide +kernel
theorem dX4_parseRule_9 : decode cX4_parseRule 9 = .ok (.if_icmp .ne 9, 3) := by decide +kernel
theorem dX4_parseRule_12 : decode cX4_parseRule 12 = .ok (.aload_n 0, 1) := by decide +kernel
theorem dX4_parseRule_13 : decode cX4_parseRule 13 = .ok (.iconst 1, 1) := by decide +kernel
theorem dX4_parseRule_14 : decode cX4_parseRule 14 = .ok (.putfield 36, 3) := by decide +kernel
theorem dX4_parseRule_17 : decode cX4_parseRule 17 = .ok (.return_, 1) := by decide +kernel
theorem dX4_parseRule_18 : decode cX4_parseRule 18 = .ok (.aload_n 0, 1) := by decide +kernel
theorem dX4_parseRule_19 : decode cX4_parseRule 19 = .ok (.dup, 1) := by decide +kernel
theorem dX4_parseRule_20 : decode cX4_parseRule 20 = .ok (.getfield 33, 3) := by decide +kernel
theorem dX4_parseRule_23 : decode cX4_parseRule 23 = .ok (.iconst 1, 1) := by decide +kernel
theorem dX4_parseRule_24 : decode cX4_parseRule 24 = .ok (.iadd, 1) := by decide +kernel
theorem dX4_parseRule_25 : decode cX4_parseRule 25 = .ok (.putfield 33, 3) := by decide +kernel
theorem dX4_parseRule_28 : decode cX4_parseRule 28 = .ok (.aload_n 0, 1) := by decide +kernel
theorem dX4_parseRule_29 : decode cX4_parseRule 29 = .ok (.iconst 0, 1) := by decide +kernel
theorem dX4_parseRule_30 : decode cX4_parseRule 30 = .ok (.iconst 2, 1) := by decide +kernel
theorem dX4_parseRule_31 : decode cX4_parseRule 31 = .ok (.invokevirtual 74, 3) := by decide +kernel
theorem dX4_parseRule_34 : decode cX4_parseRule 34 = .ok (.istore_n 2, 1) := by decide +kernel
theorem dX4_parseRule_35 : decode cX4_parseRule 35 = .ok (.bipush 7, 2) := by decide +kernel
theorem dX4_parseRule_37 : decode cX4_parseRule 37 = .ok (.istore_n 3, 1) := by decide +kernel
theorem dX4_parseRule_38 : decode cX4_parseRule 38 = .ok (.aload_n 0, 1) := by decide +kernel
theorem dX4_parseRule_39 : decode cX4_parseRule 39 = .ok (.getfield 36, 3) := by decide +kernel
theorem dX4_parseRule_42 : decode cX4_parseRule 42 = .ok (.ifCond .ne 21, 3) := by decide +kernel
theorem dX4_parseRule_45 : decode cX4_parseRule 45 = .ok (.aload_n 0, 1) := by decide +kernel
theorem dX4_parseRule_46 : decode cX4_parseRule 46 = .ok (.getfield 40, 3) := by decide +kernel
theorem dX4_parseRule_49 : decode cX4_parseRule 49 = .ok (.iload_n 2, 1) := by decide +kernel
theorem dX4_parseRule_50 : decode cX4_parseRule 50 = .ok (.iconst 3, 1) := by decide +kernel
theorem dX4_parseRule_51 : decode cX4_parseRule 51 = .ok (.imul, 1) := by decide +kernel
theorem dX4_parseRule_52 : decode cX4_parseRule 52 = .ok (.ishr, 1) := by decide +kernel
theorem dX4_parseRule_53 : decode cX4_parseRule 53 = .ok (.iload_n 3, 1) := by decide +kernel
theorem dX4_parseRule_54 : decode cX4_parseRule 54 = .ok (.iand, 1) := by decide +kernel
theorem dX4_parseRule_55 : decode cX4_parseRule 55 = .ok (.iload_n 3, 1) := by decide +kernel
theorem dX4_parseRule_56 : decode cX4_parseRule 56 = .ok (.if_icmp .ne 7, 3) := by decide +kernel
theorem dX4_parseRule_59 : decode cX4_parseRule 59 = .ok (.aload_n 0, 1) := by decide +kernel
theorem dX4_parseRule_60 : decode cX4_parseRule 60 = .ok (.invokevirtual 113, 3) := by decide +kernel
theorem dX4_parseRule_63 : decode cX4_parseRule 63 = .ok (.aload_n 0, 1) := by decide +kernel
theorem dX4_parseRule_64 : decode cX4_parseRule 64 = .ok (.iconst 0, 1) := by decide +kernel
theorem dX4_parseRule_65 : decode cX4_parseRule 65 = .ok (.iconst 2, 1) := by decide +kernel
theorem dX4_parseRule_66 : decode cX4_parseRule 66 = .ok (.invokevirtual 74, 3) := by decide +kernel
theorem dX4_parseRule_69 : decode cX4_parseRule 69 = .ok (.istore 4, 2) := by decide +kernel
theorem dX4_parseRule_71 : decode cX4_parseRule 71 = .ok (.iconst 1, 1) := by decide +kernel
theorem dX4_parseRule_72 : decode cX4_parseRule 72 = .ok (.iload_n 2, 1) := by decide +kernel
theorem dX4_parseRule_73 : decode cX4_parseRule 73 = .ok (.iconst 3, 1) := by decide +kernel
theorem dX4_parseRule_74 : decode cX4_parseRule 74 = .ok (.imul, 1) := by decide +kernel
theorem dX4_parseRule_75 : decode cX4_parseRule 75 = .ok (.iload 4, 2) := by decide +kernel
theorem dX4_parseRule_77 : decode cX4_parseRule 77 = .ok (.iadd, 1) := by decide +kernel
theorem dX4_parseRule_78 : decode cX4_parseRule 78 = .ok (.ishl, 1) := by decide +kernel
theorem dX4_parseRule_79 : decode cX4_parseRule 79 = .ok (.istore 5, 2) := by decide +kernel
theorem dX4_parseRule_81 : decode cX4_parseRule 81 = .ok (.aload_n 0, 1) := by decide +kernel
theorem dX4_parseRule_82 : decode cX4_parseRule 82 = .ok (.getfield 36, 3) := by decide +kernel
theorem dX4_parseRule_85 : decode cX4_parseRule 85 = .ok (.ifCond .ne 17, 3) := by decide +kernel
theorem dX4_parseRule_88 : decode cX4_parseRule 88 = .ok (.aload_n 0, 1) := by decide +kernel
theorem dX4_parseRule_89 : decode cX4_parseRule 89 = .ok (.getfield 40, 3) := by decide +kernel
theorem dX4_parseRule_92 : decode cX4_parseRule 92 = .ok (.iload 5, 2) := by decide +kernel
theorem dX4_parseRule_94 : decode cX4_parseRule 94 = .ok (.iand, 1) := by decide +kernel
theorem dX4_parseRule_95 : decode cX4_parseRule 95 = .ok (.ifCond .eq 7, 3) := by decide +kernel
theorem dX4_parseRule_98 : decode cX4_parseRule 98 = .ok (.aload_n 0, 1) := by decide +kernel
theorem dX4_parseRule_99 : decode cX4_parseRule 99 = .ok (.invokevirtual 113, 3) := by decide +kernel
theorem dX4_parseRule_102 : decode cX4_parseRule 102 = .ok (.aload_n 0, 1) := by decide +kernel
theorem dX4_parseRule_103 : decode cX4_parseRule 103 = .ok (.iconst 0, 1) := by decide +kernel
theorem dX4_parseRule_104 : decode cX4_parseRule 104 = .ok (.iconst 2, 1) := by decide +kernel
theorem dX4_parseRule_105 : decode cX4_parseRule 105 = .ok (.invokevirtual 74, 3) := by decide +kernel
theorem dX4_parseRule_108 : decode cX4_parseRule 108 = .ok (.istore 6, 2) := by decide +kernel
theorem dX4_parseRule_110 : decode cX4_parseRule 110 = .ok (.aload_n 0, 1) := by decide +kernel
theorem dX4_parseRule_111 : decode cX4_parseRule 111 = .ok (.getfield 29, 3) := by decide +kernel
theorem dX4_parseRule_114 : decode cX4_parseRule 114 = .ok (.iload_n 2, 1) := by decide +kernel
theorem dX4_parseRule_115 : decode cX4_parseRule 115 = .ok (.iload 4, 2) := by decide +kernel
theorem dX4_parseRule_117 : decode cX4_parseRule 117 = .ok (.iload 6, 2) := by decide +kernel
theorem dX4_parseRule_119 : decode cX4_parseRule 119 = .ok (.invokevirtual 116, 3) := by decide +kernel
theorem dX4_parseRule_122 : decode cX4_parseRule 122 = .ok (.pop, 1) := by decide +kernel
theorem dX4_parseRule_123 : decode cX4_parseRule 123 = .ok (.aload_n 0, 1) := by decide +kernel
theorem dX4_parseRule_124 : decode cX4_parseRule 124 = .ok (.dup, 1) := by decide +kernel
theorem dX4_parseRule_125 : decode cX4_parseRule 125 = .ok (.getfield 40, 3) := by decide +kernel
theorem dX4_parseRule_128 : decode cX4_parseRule 128 = .ok (.iload 5, 2) := by decide +kernel
theorem dX4_parseRule_130 : decode cX4_parseRule 130 = .ok (.ior, 1) := by decide +kernel
theorem dX4_parseRule_131 : decode cX4_parseRule 131 = .ok (.putfield 40, 3) := by decide +kernel
theorem dX4_parseRule_134 : decode cX4_parseRule 134 = .ok (.return_, 1) := by decide +kernel
theorem dX4_parseLine_0 : decode cX4_parseLine 0 = .ok (.aload_n 0, 1) := by decide +kernel
theorem dX4_parseLine_1 : decode cX4_parseLine 1 = .ok (.dup, 1) := by decide +kernel
theorem dX4_parseLine_2 : decode cX4_parseLine 2 = .ok (.getfield 33, 3) := by decide +kernel
theorem dX4_parseLine_5 : decode cX4_parseLine 5 = .ok (.iconst 1, 1) := by decide +kernel
theorem dX4_parseLine_6 : decode cX4_parseLine 6 = .ok (.iadd, 1) := by decide +kernel
theorem dX4_parseLine_7 : decode cX4_parseLine 7 = .ok (.putfield 33, 3) := by decide +kernel
theorem dX4_parseLine_10 : decode cX4_parseLine 10 = .ok (.aload_n 0, 1) := by decide +kernel
theorem dX4_parseLine_11 : decode cX4_parseLine 11 = .ok (.getfield 33, 3) := by decide +kernel
theorem dX4_parseLine_14 : decode cX4_parseLine 14 = .ok (.aload_n 0, 1) := by decide +kernel
theorem dX4_parseLine_15 : decode cX4_parseLine 15 = .ok (.getfield 15, 3) := by decide +kernel
theorem dX4_parseLine_18 : decode cX4_parseLine 18 = .ok (.if_icmp .lt 8, 3) := by decide +kernel
theorem dX4_parseLine_21 : decode cX4_parseLine 21 = .ok (.aload_n 0, 1) := by decide +kernel
theorem dX4_parseLine_22 : decode cX4_parseLine 22 = .ok (.iconst 1, 1) := by decide +kernel
theorem dX4_parseLine_23 : decode cX4_parseLine 23 = .ok (.putfield 36, 3) := by decide +kernel
theorem dX4_parseLine_26 : decode cX4_parseLine 26 = .ok (.iconst 0, 1) := by decide +kernel
theorem dX4_parseLine_27 : decode cX4_parseLine 27 = .ok (.istore_n 1, 1) := by decide +kernel
theorem dX4_parseLine_28 : decode cX4_parseLine 28 = .ok (.iload_n 1, 1) := by decide +kernel
theorem dX4_parseLine_29 : decode cX4_parseLine 29 = .ok (.bipush 110, 2) := by decide +kernel
theorem dX4_parseLine_31 : decode cX4_parseLine 31 = .ok (.if_icmp .ge 35, 3) := by decide +kernel
theorem dX4_parseLine_34 : decode cX4_parseLine 34 = .ok (.aload_n 0, 1) := by decide +kernel
theorem dX4_parseLine_35 : decode cX4_parseLine 35 = .ok (.getfield 36, 3) := by decide +kernel
theorem dX4_parseLine_38 : decode cX4_parseLine 38 = .ok (.ifCond .ne 28, 3) := by decide +kernel
theorem dX4_parseLine_41 : decode cX4_parseLine 41 = .ok (.aload_n 0, 1) := by decide +kernel
theorem dX4_parseLine_42 : decode cX4_parseLine 42 = .ok (.getfield 33, 3) := by decide +kernel
theorem dX4_parseLine_45 : decode cX4_parseLine 45 = .ok (.aload_n 0, 1) := by decide +kernel
theorem dX4_parseLine_46 : decode cX4_parseLine 46 = .ok (.getfield 15, 3) := by decide +kernel
theorem dX4_parseLine_49 : decode cX4_parseLine 49 = .ok (.if_icmp .ge 17, 3) := by decide +kernel
theorem dX4_parseLine_52 : decode cX4_parseLine 52 = .ok (.aload_n 0, 1) := by decide +kernel
theorem dX4_parseLine_53 : decode cX4_parseLine 53 = .ok (.aload_n 0, 1) := by decide +kernel
theorem dX4_parseLine_54 : decode cX4_parseLine 54 = .ok (.invokevirtual 67, 3) := by decide +kernel
theorem dX4_parseLine_57 : decode cX4_parseLine 57 = .ok (.invokevirtual 120, 3) := by decide +kernel
theorem dX4_parseLine_60 : decode cX4_parseLine 60 = .ok (.iinc 1 1, 3) := by decide +kernel
theorem dX4_parseLine_63 : decode cX4_parseLine 63 = .ok (.goto (-35), 3) := by decide +kernel
theorem dX4_parseLine_66 : decode cX4_parseLine 66 = .ok (.return_, 1) := by decide +kernel
theorem dX4_parseSign_0 : decode cX4_parseSign 0 = .ok (.bipush 7, 2) := by decide +kernel
theorem dX4_parseSign_2 : decode cX4_parseSign 2 = .ok (.istore_n 2, 1) := by decide +kernel
theorem dX4_parseSign_3 : decode cX4_parseSign 3 = .ok (.iload_n 1, 1) := by decide +kernel
theorem dX4_parseSign_4 : decode cX4_parseSign 4 = .ok (.bipush 48, 2) := by decide +kernel
theorem dX4_parseSign_6 : decode cX4_parseSign 6 = .ok (.isub, 1) := by decide +kernel
theorem dX4_parseSign_7 : decode cX4_parseSign 7 = .ok (.istore_n 3, 1) := by decide +kernel
theorem dX4_parseSign_8 : decode cX4_parseSign 8 = .ok (.iload_n 1, 1) := by decide +kernel
theorem dX4_parseSign_9 : decode cX4_parseSign 9 = .ok (.invokestatic 87, 3) := by decide +kernel
theorem dX4_parseSign_12 : decode cX4_parseSign 12 = .ok (.ifCond .eq 20, 3) := by decide +kernel
theorem dX4_parseSign_15 : decode cX4_parseSign 15 = .ok (.iload_n 1, 1) := by decide +kernel
theorem dX4_parseSign_16 : decode cX4_parseSign 16 = .ok (.bipush 97, 2) := by decide +kernel
theorem dX4_parseSign_18 : decode cX4_parseSign 18 = .ok (.isub, 1) := by decide +kernel
theorem dX4_parseSign_19 : decode cX4_parseSign 19 = .ok (.istore_n 2, 1) := by decide +kernel
theorem dX4_parseSign_20 : decode cX4_parseSign 20 = .ok (.aload_n 0, 1) := by decide +kernel
theorem dX4_parseSign_21 : decode cX4_parseSign 21 = .ok (.getfield 22, 3) := by decide +kernel
theorem dX4_parseSign_24 : decode cX4_parseSign 24 = .ok (.iload_n 2, 1) := by decide +kernel
theorem dX4_parseSign_25 : decode cX4_parseSign 25 = .ok (.invokevirtual 94, 3) := by decide +kernel
theorem dX4_parseSign_28 : decode cX4_parseSign 28 = .ok (.istore_n 3, 1) := by decide +kernel
theorem dX4_parseSign_29 : decode cX4_parseSign 29 = .ok (.goto 14, 3) := by decide +kernel
theorem dX4_parseSign_32 : decode cX4_parseSign 32 = .ok (.iload_n 1, 1) := by decide +kernel
theorem dX4_parseSign_33 : decode cX4_parseSign 33 = .ok (.bipush 46, 2) := by decide +kernel
theorem dX4_parseSign_35 : decode cX4_parseSign 35 = .ok (.if_icmp .ne 8, 3) := by decide +kernel
theorem dX4_parseSign_38 : decode cX4_parseSign 38 = .ok (.bipush 6, 2) := by decide +kernel
theorem dX4_parseSign_40 : decode cX4_parseSign 40 = .ok (.istore_n 2, 1) := by decide +kernel
theorem dX4_parseSign_41 : decode cX4_parseSign 41 = .ok (.iconst 1, 1) := by decide +kernel
theorem dX4_parseSign_42 : decode cX4_parseSign 42 = .ok (.istore_n 3, 1) := by decide +kernel
theorem dX4_parseSign_43 : decode cX4_parseSign 43 = .ok (.iload_n 3, 1) := by decide +kernel
theorem dX4_parseSign_44 : decode cX4_parseSign 44 = .ok (.iconst 1, 1) := by decide +kernel
theorem dX4_parseSign_45 : decode cX4_parseSign 45 = .ok (.if_icmp .lt 23, 3) := by decide +kernel
theorem dX4_parseSign_48 : decode cX4_parseSign 48 = .ok (.iload_n 3, 1) := by decide +kernel
theorem dX4_parseSign_49 : decode cX4_parseSign 49 = .ok (.bipush 9, 2) := by decide +kernel
theorem dX4_parseSign_51 : decode cX4_parseSign 51 = .ok (.if_icmp .gt 17, 3) := by decide +kernel
theorem dX4_parseSign_54 : decode cX4_parseSign 54 = .ok (.aload_n 0, 1) := by decide +kernel
theorem dX4_parseSign_55 : decode cX4_parseSign 55 = .ok (.getfield 29, 3) := by decide +kernel
theorem dX4_parseSign_58 : decode cX4_parseSign 58 = .ok (.getfield 46, 3) := by decide +kernel
theorem dX4_parseSign_61 : decode cX4_parseSign 61 = .ok (.iload_n 3, 1) := by decide +kernel
theorem dX4_parseSign_62 : decode cX4_parseSign 62 = .ok (.iadd, 1) := by decide +kernel
theorem dX4_parseSign_63 : decode cX4_parseSign 63 = .ok (.bipush 24, 2) := by decide +kernel
theorem dX4_parseSign_65 : decode cX4_parseSign 65 = .ok (.if_icmp .le 9, 3) := by decide +kernel
theorem dX4_parseSign_68 : decode cX4_parseSign 68 = .ok (.aload_n 0, 1) := by decide +kernel
theorem dX4_parseSign_69 : decode cX4_parseSign 69 = .ok (.iconst 1, 1) := by decide +kernel
theorem dX4_parseSign_70 : decode cX4_parseSign 70 = .ok (.putfield 36, 3) := by decide +kernel
theorem dX4_parseSign_73 : decode cX4_parseSign 73 = .ok (.return_, 1) := by decide +kernel
theorem dX4_parseSign_74 : decode cX4_parseSign 74 = .ok (.aload_n 0, 1) := by decide +kernel
theorem dX4_parseSign_75 : decode cX4_parseSign 75 = .ok (.getfield 29, 3) := by decide +kernel
theorem dX4_parseSign_78 : decode cX4_parseSign 78 = .ok (.getfield 46, 3) := by decide +kernel
theorem dX4_parseSign_81 : decode cX4_parseSign 81 = .ok (.istore 4, 2) := by decide +kernel
theorem dX4_parseSign_83 : decode cX4_parseSign 83 = .ok (.aload_n 0, 1) := by decide +kernel
theorem dX4_parseSign_84 : decode cX4_parseSign 84 = .ok (.getfield 29, 3) := by decide +kernel
theorem dX4_parseSign_87 : decode cX4_parseSign 87 = .ok (.iload 4, 2) := by decide +kernel
theorem dX4_parseSign_89 : decode cX4_parseSign 89 = .ok (.iload_n 3, 1) := by decide +kernel
theorem dX4_parseSign_90 : decode cX4_parseSign 90 = .ok (.iadd, 1) := by decide +kernel
theorem dX4_parseSign_91 : decode cX4_parseSign 91 = .ok (.putfield 46, 3) := by decide +kernel
theorem dX4_parseSign_94 : decode cX4_parseSign 94 = .ok (.iload_n 2, 1) := by decide +kernel
theorem dX4_parseSign_95 : decode cX4_parseSign 95 = .ok (.bipush 7, 2) := by decide +kernel
theorem dX4_parseSign_97 : decode cX4_parseSign 97 = .ok (.if_icmp .ne 16, 3) := by decide +kernel
theorem dX4_parseSign_100 : decode cX4_parseSign 100 = .ok (.aload_n 0, 1) := by decide +kernel
theorem dX4_parseSign_101 : decode cX4_parseSign 101 = .ok (.getfield 29, 3) := by decide +kernel
theorem dX4_parseSign_104 : decode cX4_parseSign 104 = .ok (.iload 4, 2) := by decide +kernel
theorem dX4_parseSign_106 : decode cX4_parseSign 106 = .ok (.iload_n 3, 1) := by decide +kernel
theorem dX4_parseSign_107 : decode cX4_parseSign 107 = .ok (.invokevirtual 124, 3) := by decide +kernel
theorem dX4_parseSign_110 : decode cX4_parseSign 110 = .ok (.goto 14, 3) := by decide +kernel
theorem dX4_parseSign_113 : decode cX4_parseSign 113 = .ok (.aload_n 0, 1) := by decide +kernel
theorem dX4_parseSign_114 : decode cX4_parseSign 114 = .ok (.getfield 29, 3) := by decide +kernel
theorem dX4_parseSign_117 : decode cX4_parseSign 117 = .ok (.iload 4, 2) := by decide +kernel
theorem dX4_parseSign_119 : decode cX4_parseSign 119 = .ok (.iload_n 2, 1) := by decide +kernel
theorem dX4_parseSign_120 : decode cX4_parseSign 120 = .ok (.iload_n 3, 1) := by decide +kernel
theorem dX4_parseSign_121 : decode cX4_parseSign 121 = .ok (.invokevirtual 128, 3) := by decide +kernel
theorem dX4_parseSign_124 : decode cX4_parseSign 124 = .ok (.aload_n 0, 1) := by decide +kernel
theorem dX4_parseSign_125 : decode cX4_parseSign 125 = .ok (.dup, 1) := by decide +kernel
theorem dX4_parseSign_126 : decode cX4_parseSign 126 = .ok (.getfield 33, 3) := by decide +kernel
theorem dX4_parseSign_129 : decode cX4_parseSign 129 = .ok (.iconst 1, 1) := by decide +kernel
theorem dX4_parseSign_130 : decode cX4_parseSign 130 = .ok (.iadd, 1) := by decide +kernel
theorem dX4_parseSign_131 : decode cX4_parseSign 131 = .ok (.putfield 33, 3) := by decide +kernel
theorem dX4_parseSign_134 : decode cX4_parseSign 134 = .ok (.return_, 1) := by decide +kernel
theorem dX4_peek_0 : decode cX4_peek 0 = .ok (.aload_n 0, 1) := by decide +kernel
theorem dX4_peek_1 : decode cX4_peek 1 = .ok (.getfield 33, 3) := by decide +kernel
theorem dX4_peek_4 : decode cX4_peek 4 = .ok (.ifCond .lt 35, 3) := by decide +kernel
theorem dX4_peek_7 : decode cX4_peek 7 = .ok (.aload_n 0, 1) := by decide +kernel
theorem dX4_peek_8 : decode cX4_peek 8 = .ok (.getfield 33, 3) := by decide +kernel
theorem dX4_peek_11 : decode cX4_peek 11 = .ok (.aload_n 0, 1) := by decide +kernel
theorem dX4_peek_12 : decode cX4_peek 12 = .ok (.getfield 15, 3) := by decide +kernel
theorem dX4_peek_15 : decode cX4_peek 15 = .ok (.if_icmp .ge 24, 3) := by decide +kernel
theorem dX4_peek_18 : decode cX4_peek 18 = .ok (.aload_n 0, 1) := by decide +kernel
theorem dX4_peek_19 : decode cX4_peek 19 = .ok (.getfield 33, 3) := by decide +kernel
theorem dX4_peek_22 : decode cX4_peek 22 = .ok (.bipush 110, 2) := by decide +kernel
theorem dX4_peek_24 : decode cX4_peek 24 = .ok (.if_icmp .ge 15, 3) := by decide +kernel
theorem dX4_peek_27 : decode cX4_peek 27 = .ok (.aload_n 0, 1) := by decide +kernel
theorem dX4_peek_28 : decode cX4_peek 28 = .ok (.getfield 9, 3) := by decide +kernel
theorem dX4_peek_31 : decode cX4_peek 31 = .ok (.aload_n 0, 1) := by decide +kernel
theorem dX4_peek_32 : decode cX4_peek 32 = .ok (.getfield 33, 3) := by decide +kernel
theorem dX4_peek_35 : decode cX4_peek 35 = .ok (.iaload, 1) := by decide +kernel
theorem dX4_peek_36 : decode cX4_peek 36 = .ok (.goto 5, 3) := by decide +kernel
theorem dX4_peek_39 : decode cX4_peek 39 = .ok (.bipush (-9), 2) := by decide +kernel
theorem dX4_peek_41 : decode cX4_peek 41 = .ok (.ireturn, 1) := by decide +kernel
theorem dX4_isLetter_0 : decode cX4_isLetter 0 = .ok (.iload_n 0, 1) := by decide +kernel
theorem dX4_isLetter_1 : decode cX4_isLetter 1 = .ok (.bipush 97, 2) := by decide +kernel
theorem dX4_isLetter_3 : decode cX4_isLetter 3 = .ok (.if_icmp .lt 13, 3) := by decide +kernel
theorem dX4_isLetter_6 : decode cX4_isLetter 6 = .ok (.iload_n 0, 1) := by decide +kernel
theorem dX4_isLetter_7 : decode cX4_isLetter 7 = .ok (.bipush 103, 2) := by decide +kernel
theorem dX4_isLetter_9 : decode cX4_isLetter 9 = .ok (.if_icmp .ge 7, 3) := by decide +kernel
theorem dX4_isLetter_12 : decode cX4_isLetter 12 = .ok (.iconst 1, 1) := by decide +kernel
