theorem dX8_write_47 : decode cX8_write 47 = .ok (.iconst 1, 1) := by decide +kernel
theorem dX8_write_48 : decode cX8_write 48 = .ok (.iadd, 1) := by decide +kernel
theorem dX8_write_49 : decode cX8_write 49 = .ok (.putfield 107, 3) := by decide +kernel
theorem dX8_write_52 : decode cX8_write 52 = .ok (.aload_n 0, 1) := by decide +kernel
theorem dX8_write_53 : decode cX8_write 53 = .ok (.getfield 107, 3) := by decide +kernel
theorem dX8_write_56 : decode cX8_write 56 = .ok (.ireturn, 1) := by decide +kernel
theorem dX8_wipe_0 : decode cX8_wipe 0 = .ok (.aload_n 0, 1) := by decide +kernel
theorem dX8_wipe_1 : decode cX8_wipe 1 = .ok (.iconst 0, 1) := by decide +kernel
theorem dX8_wipe_2 : decode cX8_wipe 2 = .ok (.putfield 94, 3) := by decide +kernel
theorem dX8_wipe_5 : decode cX8_wipe 5 = .ok (.aload_n 0, 1) := by decide +kernel
theorem dX8_wipe_6 : decode cX8_wipe 6 = .ok (.getfield 107, 3) := by decide +kernel
theorem dX8_wipe_9 : decode cX8_wipe 9 = .ok (.istore_n 1, 1) := by decide +kernel
theorem dX8_wipe_10 : decode cX8_wipe 10 = .ok (.aload_n 0, 1) := by decide +kernel
theorem dX8_wipe_11 : decode cX8_wipe 11 = .ok (.iconst 0, 1) := by decide +kernel
theorem dX8_wipe_12 : decode cX8_wipe 12 = .ok (.putfield 107, 3) := by decide +kernel
theorem dX8_wipe_15 : decode cX8_wipe 15 = .ok (.iload_n 1, 1) := by decide +kernel
theorem dX8_wipe_16 : decode cX8_wipe 16 = .ok (.ireturn, 1) := by decide +kernel
theorem dX8_isNext_0 : decode cX8_isNext 0 = .ok (.aload_n 0, 1) := by decide +kernel
theorem dX8_isNext_1 : decode cX8_isNext 1 = .ok (.getfield 110, 3) := by decide +kernel
theorem dX8_isNext_4 : decode cX8_isNext 4 = .ok (.aload_n 0, 1) := by decide +kernel
theorem dX8_isNext_5 : decode cX8_isNext 5 = .ok (.getfield 107, 3) := by decide +kernel
theorem dX8_isNext_8 : decode cX8_isNext 8 = .ok (.if_icmp .ge 29, 3) := by decide +kernel
theorem dX8_isNext_11 : decode cX8_isNext 11 = .ok (.aload_n 0, 1) := by decide +kernel
theorem dX8_isNext_12 : decode cX8_isNext 12 = .ok (.getfield 7, 3) := by decide +kernel
theorem dX8_isNext_15 : decode cX8_isNext 15 = .ok (.aload_n 0, 1) := by decide +kernel
theorem dX8_isNext_16 : decode cX8_isNext 16 = .ok (.getfield 110, 3) := by decide +kernel
theorem dX8_isNext_19 : decode cX8_isNext 19 = .ok (.iaload, 1) := by decide +kernel
theorem dX8_isNext_20 : decode cX8_isNext 20 = .ok (.iload_n 1, 1) := by decide +kernel
theorem dX8_isNext_21 : decode cX8_isNext 21 = .ok (.isub, 1) := by decide +kernel
theorem dX8_isNext_22 : decode cX8_isNext 22 = .ok (.i2l, 1) := by decide +kernel
theorem dX8_isNext_23 : decode cX8_isNext 23 = .ok (.iload_n 2, 1) := by decide +kernel
theorem dX8_isNext_24 : decode cX8_isNext 24 = .ok (.i2l, 1) := by decide +kernel
theorem dX8_isNext_25 : decode cX8_isNext 25 = .ok (.iload_n 3, 1) := by decide +kernel
theorem dX8_isNext_26 : decode cX8_isNext 26 = .ok (.i2l, 1) := by decide +kernel
theorem dX8_isNext_27 : decode cX8_isNext 27 = .ok (.invokestatic 101, 3) := by decide +kernel
theorem dX8_isNext_30 : decode cX8_isNext 30 = .ok (.ifCond .eq 7, 3) := by decide +kernel
theorem dX8_isNext_33 : decode cX8_isNext 33 = .ok (.iconst 1, 1) := by decide +kernel
theorem dX8_isNext_34 : decode cX8_isNext 34 = .ok (.goto 4, 3) := by decide +kernel
theorem dX8_isNext_37 : decode cX8_isNext 37 = .ok (.iconst 0, 1) := by decide +kernel
theorem dX8_isNext_38 : decode cX8_isNext 38 = .ok (.ireturn, 1) := by decide +kernel
theorem dX8_readWord_0 : decode cX8_readWord 0 = .ok (.aload_n 0, 1) := by decide +kernel
theorem dX8_readWord_1 : decode cX8_readWord 1 = .ok (.getfield 113, 3) := by decide +kernel
theorem dX8_readWord_4 : decode cX8_readWord 4 = .ok (.bipush 8, 2) := by decide +kernel
theorem dX8_readWord_6 : decode cX8_readWord 6 = .ok (.if_icmp .ne 5, 3) := by decide +kernel
theorem dX8_readWord_9 : decode cX8_readWord 9 = .ok (.iconst 0, 1) := by decide +kernel
theorem dX8_readWord_10 : decode cX8_readWord 10 = .ok (.ireturn, 1) := by decide +kernel
theorem dX8_readWord_11 : decode cX8_readWord 11 = .ok (.aload_n 0, 1) := by decide +kernel
theorem dX8_readWord_12 : decode cX8_readWord 12 = .ok (.dup, 1) := by decide +kernel
theorem dX8_readWord_13 : decode cX8_readWord 13 = .ok (.getfield 110, 3) := by decide +kernel
theorem dX8_readWord_16 : decode cX8_readWord 16 = .ok (.iconst 1, 1) := by decide +kernel
theorem dX8_readWord_17 : decode cX8_readWord 17 = .ok (.iadd, 1) := by decide +kernel
theorem dX8_readWord_18 : decode cX8_readWord 18 = .ok (.putfield 110, 3) := by decide +kernel
theorem dX8_readWord_21 : decode cX8_readWord 21 = .ok (.aload_n 0, 1) := by decide +kernel
theorem dX8_readWord_22 : decode cX8_readWord 22 = .ok (.getfield 113, 3) := by decide +kernel
theorem dX8_readWord_25 : decode cX8_readWord 25 = .ok (.istore_n 1, 1) := by decide +kernel
theorem dX8_readWord_26 : decode cX8_readWord 26 = .ok (.aload_n 0, 1) := by decide +kernel
theorem dX8_readWord_27 : decode cX8_readWord 27 = .ok (.getfield 31, 3) := by decide +kernel
theorem dX8_readWord_30 : decode cX8_readWord 30 = .ok (.iload_n 1, 1) := by decide +kernel
theorem dX8_readWord_31 : decode cX8_readWord 31 = .ok (.iconst 0, 1) := by decide +kernel
theorem dX8_readWord_32 : decode cX8_readWord 32 = .ok (.iastore, 1) := by decide +kernel
theorem dX8_readWord_33 : decode cX8_readWord 33 = .ok (.aload_n 0, 1) := by decide +kernel
theorem dX8_readWord_34 : decode cX8_readWord 34 = .ok (.getfield 31, 3) := by decide +kernel
theorem dX8_readWord_37 : decode cX8_readWord 37 = .ok (.iload_n 1, 1) := by decide +kernel
theorem dX8_readWord_38 : decode cX8_readWord 38 = .ok (.iaload, 1) := by decide +kernel
theorem dX8_readWord_39 : decode cX8_readWord 39 = .ok (.iconst 5, 1) := by decide +kernel
theorem dX8_readWord_40 : decode cX8_readWord 40 = .ok (.if_icmp .ge 64, 3) := by decide +kernel
theorem dX8_readWord_43 : decode cX8_readWord 43 = .ok (.aload_n 0, 1) := by decide +kernel
theorem dX8_readWord_44 : decode cX8_readWord 44 = .ok (.bipush 97, 2) := by decide +kernel
theorem dX8_readWord_46 : decode cX8_readWord 46 = .ok (.iconst 0, 1) := by decide +kernel
theorem dX8_readWord_47 : decode cX8_readWord 47 = .ok (.iconst 5, 1) := by decide +kernel
theorem dX8_readWord_48 : decode cX8_readWord 48 = .ok (.invokevirtual 116, 3) := by decide +kernel
theorem dX8_readWord_51 : decode cX8_readWord 51 = .ok (.ifCond .eq 53, 3) := by decide +kernel
theorem dX8_readWord_54 : decode cX8_readWord 54 = .ok (.aload_n 0, 1) := by decide +kernel
theorem dX8_readWord_55 : decode cX8_readWord 55 = .ok (.getfield 34, 3) := by decide +kernel
theorem dX8_readWord_58 : decode cX8_readWord 58 = .ok (.iconst 5, 1) := by decide +kernel
theorem dX8_readWord_59 : decode cX8_readWord 59 = .ok (.iload_n 1, 1) := by decide +kernel
theorem dX8_readWord_60 : decode cX8_readWord 60 = .ok (.imul, 1) := by decide +kernel
theorem dX8_readWord_61 : decode cX8_readWord 61 = .ok (.aload_n 0, 1) := by decide +kernel
theorem dX8_readWord_62 : decode cX8_readWord 62 = .ok (.getfield 31, 3) := by decide +kernel
theorem dX8_readWord_65 : decode cX8_readWord 65 = .ok (.iload_n 1, 1) := by decide +kernel
theorem dX8_readWord_66 : decode cX8_readWord 66 = .ok (.iaload, 1) := by decide +kernel
theorem dX8_readWord_67 : decode cX8_readWord 67 = .ok (.iadd, 1) := by decide +kernel
theorem dX8_readWord_68 : decode cX8_readWord 68 = .ok (.aload_n 0, 1) := by decide +kernel
theorem dX8_readWord_69 : decode cX8_readWord 69 = .ok (.getfield 7, 3) := by decide +kernel
theorem dX8_readWord_72 : decode cX8_readWord 72 = .ok (.aload_n 0, 1) := by decide +kernel
theorem dX8_readWord_73 : decode cX8_readWord 73 = .ok (.getfield 110, 3) := by decide +kernel
theorem dX8_readWord_76 : decode cX8_readWord 76 = .ok (.iaload, 1) := by decide +kernel
theorem dX8_readWord_77 : decode cX8_readWord 77 = .ok (.bipush 97, 2) := by decide +kernel
theorem dX8_readWord_79 : decode cX8_readWord 79 = .ok (.isub, 1) := by decide +kernel
theorem dX8_readWord_80 : decode cX8_readWord 80 = .ok (.iastore, 1) := by decide +kernel
theorem dX8_readWord_81 : decode cX8_readWord 81 = .ok (.aload_n 0, 1) := by decide +kernel
theorem dX8_readWord_82 : decode cX8_readWord 82 = .ok (.getfield 31, 3) := by decide +kernel
theorem dX8_readWord_85 : decode cX8_readWord 85 = .ok (.iload_n 1, 1) := by decide +kernel
theorem dX8_readWord_86 : decode cX8_readWord 86 = .ok (.dup2, 1) := by decide +kernel
theorem dX8_readWord_87 : decode cX8_readWord 87 = .ok (.iaload, 1) := by decide +kernel
theorem dX8_readWord_88 : decode cX8_readWord 88 = .ok (.iconst 1, 1) := by decide +kernel
theorem dX8_readWord_89 : decode cX8_readWord 89 = .ok (.iadd, 1) := by decide +kernel
theorem dX8_readWord_90 : decode cX8_readWord 90 = .ok (.iastore, 1) := by decide +kernel
theorem dX8_readWord_91 : decode cX8_readWord 91 = .ok (.aload_n 0, 1) := by decide +kernel
theorem dX8_readWord_92 : decode cX8_readWord 92 = .ok (.dup, 1) := by decide +kernel
theorem dX8_readWord_93 : decode cX8_readWord 93 = .ok (.getfield 110, 3) := by decide +kernel
theorem dX8_readWord_96 : decode cX8_readWord 96 = .ok (.iconst 1, 1) := by decide +kernel
theorem dX8_readWord_97 : decode cX8_readWord 97 = .ok (.iadd, 1) := by decide +kernel
theorem dX8_readWord_98 : decode cX8_readWord 98 = .ok (.putfield 110, 3) := by decide +kernel
theorem dX8_readWord_101 : decode cX8_readWord 101 = .ok (.goto (-68), 3) := by decide +kernel
theorem dX8_readWord_104 : decode cX8_readWord 104 = .ok (.aload_n 0, 1) := by decide +kernel
theorem dX8_readWord_105 : decode cX8_readWord 105 = .ok (.getfield 31, 3) := by decide +kernel
theorem dX8_readWord_108 : decode cX8_readWord 108 = .ok (.iload_n 1, 1) := by decide +kernel
theorem dX8_readWord_109 : decode cX8_readWord 109 = .ok (.iaload, 1) := by decide +kernel
theorem dX8_readWord_110 : decode cX8_readWord 110 = .ok (.iconst 2, 1) := by decide +kernel
theorem dX8_readWord_111 : decode cX8_readWord 111 = .ok (.if_icmp .ge 5, 3) := by decide +kernel
theorem dX8_readWord_114 : decode cX8_readWord 114 = .ok (.iconst 0, 1) := by decide +kernel
theorem dX8_readWord_115 : decode cX8_readWord 115 = .ok (.ireturn, 1) := by decide +kernel
theorem dX8_readWord_116 : decode cX8_readWord 116 = .ok (.iconst 0, 1) := by decide +kernel
theorem dX8_readWord_117 : decode cX8_readWord 117 = .ok (.istore_n 2, 1) := by decide +kernel
theorem dX8_readWord_118 : decode cX8_readWord 118 = .ok (.iload_n 2, 1) := by decide +kernel
theorem dX8_readWord_119 : decode cX8_readWord 119 = .ok (.iconst 3, 1) := by decide +kernel
theorem dX8_readWord_120 : decode cX8_readWord 120 = .ok (.if_icmp .ge 103, 3) := by decide +kernel
theorem dX8_readWord_123 : decode cX8_readWord 123 = .ok (.aload_n 0, 1) := by decide +kernel
theorem dX8_readWord_124 : decode cX8_readWord 124 = .ok (.bipush 48, 2) := by decide +kernel
theorem dX8_readWord_126 : decode cX8_readWord 126 = .ok (.iload_n 2, 1) := by decide +kernel
theorem dX8_readWord_127 : decode cX8_readWord 127 = .ok (.iconst 2, 1) := by decide +kernel
theorem dX8_readWord_128 : decode cX8_readWord 128 = .ok (.if_icmp .ne 7, 3) := by decide +kernel
theorem dX8_readWord_131 : decode cX8_readWord 131 = .ok (.iconst 1, 1) := by decide +kernel
theorem dX8_readWord_132 : decode cX8_readWord 132 = .ok (.goto 4, 3) := by decide +kernel
theorem dX8_readWord_135 : decode cX8_readWord 135 = .ok (.iconst 0, 1) := by decide +kernel
theorem dX8_readWord_136 : decode cX8_readWord 136 = .ok (.iload_n 2, 1) := by decide +kernel
theorem dX8_readWord_137 : decode cX8_readWord 137 = .ok (.iconst 2, 1) := by decide +kernel
theorem dX8_readWord_138 : decode cX8_readWord 138 = .ok (.if_icmp .ne 8, 3) := by decide +kernel
theorem dX8_readWord_141 : decode cX8_readWord 141 = .ok (.bipush 9, 2) := by decide +kernel
theorem dX8_readWord_143 : decode cX8_readWord 143 = .ok (.goto 4, 3) := by decide +kernel
theorem dX8_readWord_146 : decode cX8_readWord 146 = .ok (.iconst 2, 1) := by decide +kernel
theorem dX8_readWord_147 : decode cX8_readWord 147 = .ok (.invokevirtual 116, 3) := by decide +kernel
theorem dX8_readWord_150 : decode cX8_readWord 150 = .ok (.ifCond .ne 5, 3) := by decide +kernel
theorem dX8_readWord_153 : decode cX8_readWord 153 = .ok (.iconst 0, 1) := by decide +kernel
theorem dX8_readWord_154 : decode cX8_readWord 154 = .ok (.ireturn, 1) := by decide +kernel
theorem dX8_readWord_155 : decode cX8_readWord 155 = .ok (.aload_n 0, 1) := by decide +kernel
theorem dX8_readWord_156 : decode cX8_readWord 156 = .ok (.getfield 7, 3) := by decide +kernel
theorem dX8_readWord_159 : decode cX8_readWord 159 = .ok (.aload_n 0, 1) := by decide +kernel
theorem dX8_readWord_160 : decode cX8_readWord 160 = .ok (.getfield 110, 3) := by decide +kernel
theorem dX8_readWord_163 : decode cX8_readWord 163 = .ok (.iaload, 1) := by decide +kernel
theorem dX8_readWord_164 : decode cX8_readWord 164 = .ok (.bipush 48, 2) := by decide +kernel
theorem dX8_readWord_166 : decode cX8_readWord 166 = .ok (.isub, 1) := by decide +kernel
theorem dX8_readWord_167 : decode cX8_readWord 167 = .ok (.istore_n 3, 1) := by decide +kernel
theorem dX8_readWord_168 : decode cX8_readWord 168 = .ok (.iload_n 2, 1) := by decide +kernel
theorem dX8_readWord_169 : decode cX8_readWord 169 = .ok (.ifCond .ne 13, 3) := by decide +kernel
theorem dX8_readWord_172 : decode cX8_readWord 172 = .ok (.aload_n 0, 1) := by decide +kernel
theorem dX8_readWord_173 : decode cX8_readWord 173 = .ok (.getfield 37, 3) := by decide +kernel
theorem dX8_readWord_176 : decode cX8_readWord 176 = .ok (.iload_n 1, 1) := by decide +kernel
theorem dX8_readWord_177 : decode cX8_readWord 177 = .ok (.iload_n 3, 1) := by decide +kernel
theorem dX8_readWord_178 : decode cX8_readWord 178 = .ok (.iastore, 1) := by decide +kernel
theorem dX8_readWord_179 : decode cX8_readWord 179 = .ok (.goto 28, 3) := by decide +kernel
theorem dX8_readWord_182 : decode cX8_readWord 182 = .ok (.iload_n 2, 1) := by decide +kernel
theorem dX8_readWord_183 : decode cX8_readWord 183 = .ok (.iconst 1, 1) := by decide +kernel
theorem dX8_readWord_184 : decode cX8_readWord 184 = .ok (.if_icmp .ne 13, 3) := by decide +kernel
theorem dX8_readWord_187 : decode cX8_readWord 187 = .ok (.aload_n 0, 1) := by decide +kernel
theorem dX8_readWord_188 : decode cX8_readWord 188 = .ok (.getfield 40, 3) := by decide +kernel
theorem dX8_readWord_191 : decode cX8_readWord 191 = .ok (.iload_n 1, 1) := by decide +kernel
theorem dX8_readWord_192 : decode cX8_readWord 192 = .ok (.iload_n 3, 1) := by decide +kernel
theorem dX8_readWord_193 : decode cX8_readWord 193 = .ok (.iastore, 1) := by decide +kernel
theorem dX8_readWord_194 : decode cX8_readWord 194 = .ok (.goto 13, 3) := by decide +kernel
theorem dX8_readWord_197 : decode cX8_readWord 197 = .ok (.aload_n 0, 1) := by decide +kernel
theorem dX8_readWord_198 : decode cX8_readWord 198 = .ok (.getfield 47, 3) := by decide +kernel
theorem dX8_readWord_201 : decode cX8_readWord 201 = .ok (.bipush 11, 2) := by decide +kernel
theorem dX8_readWord_203 : decode cX8_readWord 203 = .ok (.iload_n 1, 1) := by decide +kernel
theorem dX8_readWord_204 : decode cX8_readWord 204 = .ok (.iadd, 1) := by decide +kernel
theorem dX8_readWord_205 : decode cX8_readWord 205 = .ok (.iload_n 3, 1) := by decide +kernel
theorem dX8_readWord_206 : decode cX8_readWord 206 = .ok (.iastore, 1) := by decide +kernel
theorem dX8_readWord_207 : decode cX8_readWord 207 = .ok (.aload_n 0, 1) := by decide +kernel
theorem dX8_readWord_208 : decode cX8_readWord 208 = .ok (.dup, 1) := by decide +kernel
theorem dX8_readWord_209 : decode cX8_readWord 209 = .ok (.getfield 110, 3) := by decide +kernel
theorem dX8_readWord_212 : decode cX8_readWord 212 = .ok (.iconst 1, 1) := by decide +kernel
theorem dX8_readWord_213 : decode cX8_readWord 213 = .ok (.iadd, 1) := by decide +kernel
theorem dX8_readWord_214 : decode cX8_readWord 214 = .ok (.putfield 110, 3) := by decide +kernel
theorem dX8_readWord_217 : decode cX8_readWord 217 = .ok (.iinc 2 1, 3) := by decide +kernel
theorem dX8_readWord_220 : decode cX8_readWord 220 = .ok (.goto (-102), 3) := by decide +kernel
theorem dX8_readWord_223 : decode cX8_readWord 223 = .ok (.aload_n 0, 1) := by decide +kernel
theorem dX8_readWord_224 : decode cX8_readWord 224 = .ok (.dup, 1) := by decide +kernel
theorem dX8_readWord_225 : decode cX8_readWord 225 = .ok (.getfield 113, 3) := by decide +kernel
theorem dX8_readWord_228 : decode cX8_readWord 228 = .ok (.iconst 1, 1) := by decide +kernel
theorem dX8_readWord_229 : decode cX8_readWord 229 = .ok (.iadd, 1) := by decide +kernel
theorem dX8_readWord_230 : decode cX8_readWord 230 = .ok (.putfield 113, 3) := by decide +kernel
theorem dX8_readWord_233 : decode cX8_readWord 233 = .ok (.iconst 1, 1) := by decide +kernel
theorem dX8_readWord_234 : decode cX8_readWord 234 = .ok (.ireturn, 1) := by decide +kernel
theorem dX8_toldOf_0 : decode cX8_toldOf 0 = .ok (.aload_n 0, 1) := by decide +kernel
theorem dX8_toldOf_1 : decode cX8_toldOf 1 = .ok (.getfield 43, 3) := by decide +kernel
theorem dX8_toldOf_4 : decode cX8_toldOf 4 = .ok (.iconst 3, 1) := by decide +kernel
theorem dX8_toldOf_5 : decode cX8_toldOf 5 = .ok (.iload_n 1, 1) := by decide +kernel
theorem dX8_toldOf_6 : decode cX8_toldOf 6 = .ok (.imul, 1) := by decide +kernel
theorem dX8_toldOf_7 : decode cX8_toldOf 7 = .ok (.baload, 1) := by decide +kernel
theorem dX8_toldOf_8 : decode cX8_toldOf 8 = .ok (.ifCond .eq 7, 3) := by decide +kernel
theorem dX8_toldOf_11 : decode cX8_toldOf 11 = .ok (.iconst 1, 1) := by decide +kernel
theorem dX8_toldOf_12 : decode cX8_toldOf 12 = .ok (.goto 4, 3) := by decide +kernel
theorem dX8_toldOf_15 : decode cX8_toldOf 15 = .ok (.iconst 0, 1) := by decide +kernel
theorem dX8_toldOf_16 : decode cX8_toldOf 16 = .ok (.aload_n 0, 1) := by decide +kernel
theorem dX8_toldOf_17 : decode cX8_toldOf 17 = .ok (.getfield 43, 3) := by decide +kernel
theorem dX8_toldOf_20 : decode cX8_toldOf 20 = .ok (.iconst 3, 1) := by decide +kernel
theorem dX8_toldOf_21 : decode cX8_toldOf 21 = .ok (.iload_n 1, 1) := by decide +kernel
theorem dX8_toldOf_22 : decode cX8_toldOf 22 = .ok (.imul, 1) := by decide +kernel
theorem dX8_toldOf_23 : decode cX8_toldOf 23 = .ok (.iconst 1, 1) := by decide +kernel
theorem dX8_toldOf_24 : decode cX8_toldOf 24 = .ok (.iadd, 1) := by decide +kernel
theorem dX8_toldOf_25 : decode cX8_toldOf 25 = .ok (.baload, 1) := by decide +kernel
theorem dX8_toldOf_26 : decode cX8_toldOf 26 = .ok (.ifCond .eq 7, 3) := by decide +kernel
theorem dX8_toldOf_29 : decode cX8_toldOf 29 = .ok (.iconst 1, 1) := by decide +kernel
theorem dX8_toldOf_30 : decode cX8_toldOf 30 = .ok (.goto 4, 3) := by decide +kernel
theorem dX8_toldOf_33 : decode cX8_toldOf 33 = .ok (.iconst 0, 1) := by decide +kernel
theorem dX8_toldOf_34 : decode cX8_toldOf 34 = .ok (.iadd, 1) := by decide +kernel
theorem dX8_toldOf_35 : decode cX8_toldOf 35 = .ok (.aload_n 0, 1) := by decide +kernel
theorem dX8_toldOf_36 : decode cX8_toldOf 36 = .ok (.getfield 43, 3) := by decide +kernel
theorem dX8_toldOf_39 : decode cX8_toldOf 39 = .ok (.iconst 3, 1) := by decide +kernel
theorem dX8_toldOf_40 : decode cX8_toldOf 40 = .ok (.iload_n 1, 1) := by decide +kernel
theorem dX8_toldOf_41 : decode cX8_toldOf 41 = .ok (.imul, 1) := by decide +kernel
theorem dX8_toldOf_42 : decode cX8_toldOf 42 = .ok (.iconst 2, 1) := by decide +kernel
theorem dX8_toldOf_43 : decode cX8_toldOf 43 = .ok (.iadd, 1) := by decide +kernel
theorem dX8_toldOf_44 : decode cX8_toldOf 44 = .ok (.baload, 1) := by decide +kernel
theorem dX8_toldOf_45 : decode cX8_toldOf 45 = .ok (.ifCond .eq 7, 3) := by decide +kernel
theorem dX8_toldOf_48 : decode cX8_toldOf 48 = .ok (.iconst 1, 1) := by decide +kernel
theorem dX8_toldOf_49 : decode cX8_toldOf 49 = .ok (.goto 4, 3) := by decide +kernel
theorem dX8_toldOf_52 : decode cX8_toldOf 52 = .ok (.iconst 0, 1) := by decide +kernel
theorem dX8_toldOf_53 : decode cX8_toldOf 53 = .ok (.iadd, 1) := by decide +kernel
theorem dX8_toldOf_54 : decode cX8_toldOf 54 = .ok (.ireturn, 1) := by decide +kernel
theorem dX8_readOneRule_0 : decode cX8_readOneRule 0 = .ok (.aload_n 0, 1) := by decide +kernel
theorem dX8_readOneRule_1 : decode cX8_readOneRule 1 = .ok (.iconst 0, 1) := by decide +kernel
theorem dX8_readOneRule_2 : decode cX8_readOneRule 2 = .ok (.invokevirtual 120, 3) := by decide +kernel
theorem dX8_readOneRule_5 : decode cX8_readOneRule 5 = .ok (.aload_n 0, 1) := by decide +kernel
theorem dX8_readOneRule_6 : decode cX8_readOneRule 6 = .ok (.iconst 1, 1) := by decide +kernel
theorem dX8_readOneRule_7 : decode cX8_readOneRule 7 = .ok (.invokevirtual 120, 3) := by decide +kernel
theorem dX8_readOneRule_10 : decode cX8_readOneRule 10 = .ok (.iadd, 1) := by decide +kernel
theorem dX8_readOneRule_11 : decode cX8_readOneRule 11 = .ok (.aload_n 0, 1) := by decide +kernel
theorem dX8_readOneRule_12 : decode cX8_readOneRule 12 = .ok (.iconst 2, 1) := by decide +kernel
theorem dX8_readOneRule_13 : decode cX8_readOneRule 13 = .ok (.invokevirtual 120, 3) := by decide +kernel
theorem dX8_readOneRule_16 : decode cX8_readOneRule 16 = .ok (.iadd, 1) := by decide +kernel
theorem dX8_readOneRule_17 : decode cX8_readOneRule 17 = .ok (.bipush 9, 2) := by decide +kernel
theorem dX8_readOneRule_19 : decode cX8_readOneRule 19 = .ok (.if_icmp .ne 5, 3) := by decide +kernel
theorem dX8_readOneRule_22 : decode cX8_readOneRule 22 = .ok (.iconst 0, 1) := by decide +kernel
theorem dX8_readOneRule_23 : decode cX8_readOneRule 23 = .ok (.ireturn, 1) := by decide +kernel
theorem dX8_readOneRule_24 : decode cX8_readOneRule 24 = .ok (.aload_n 0, 1) := by decide +kernel
theorem dX8_readOneRule_25 : decode cX8_readOneRule 25 = .ok (.dup, 1) := by decide +kernel
theorem dX8_readOneRule_26 : decode cX8_readOneRule 26 = .ok (.getfield 110, 3) := by decide +kernel
theorem dX8_readOneRule_29 : decode cX8_readOneRule 29 = .ok (.iconst 1, 1) := by decide +kernel
theorem dX8_readOneRule_30 : decode cX8_readOneRule 30 = .ok (.iadd, 1) := by decide +kernel
theorem dX8_readOneRule_31 : decode cX8_readOneRule 31 = .ok (.putfield 110, 3) := by decide +kernel
theorem dX8_readOneRule_34 : decode cX8_readOneRule 34 = .ok (.aload_n 0, 1) := by decide +kernel
theorem dX8_readOneRule_35 : decode cX8_readOneRule 35 = .ok (.bipush 48, 2) := by decide +kernel
theorem dX8_readOneRule_37 : decode cX8_readOneRule 37 = .ok (.iconst 0, 1) := by decide +kernel
theorem dX8_readOneRule_38 : decode cX8_readOneRule 38 = .ok (.iconst 2, 1) := by decide +kernel
theorem dX8_readOneRule_39 : decode cX8_readOneRule 39 = .ok (.invokevirtual 116, 3) := by decide +kernel
theorem dX8_readOneRule_42 : decode cX8_readOneRule 42 = .ok (.ifCond .eq 23, 3) := by decide +kernel
theorem dX8_readOneRule_45 : decode cX8_readOneRule 45 = .ok (.aload_n 0, 1) := by decide +kernel
theorem dX8_readOneRule_46 : decode cX8_readOneRule 46 = .ok (.aload_n 0, 1) := by decide +kernel
theorem dX8_readOneRule_47 : decode cX8_readOneRule 47 = .ok (.getfield 7, 3) := by decide +kernel
theorem dX8_readOneRule_50 : decode cX8_readOneRule 50 = .ok (.aload_n 0, 1) := by decide +kernel
theorem dX8_readOneRule_51 : decode cX8_readOneRule 51 = .ok (.getfield 110, 3) := by decide +kernel
theorem dX8_readOneRule_54 : decode cX8_readOneRule 54 = .ok (.iaload, 1) := by decide +kernel
theorem dX8_readOneRule_55 : decode cX8_readOneRule 55 = .ok (.bipush 48, 2) := by decide +kernel
theorem dX8_readOneRule_57 : decode cX8_readOneRule 57 = .ok (.isub, 1) := by decide +kernel
theorem dX8_readOneRule_58 : decode cX8_readOneRule 58 = .ok (.invokevirtual 120, 3) := by decide +kernel
theorem dX8_readOneRule_61 : decode cX8_readOneRule 61 = .ok (.iconst 3, 1) := by decide +kernel
theorem dX8_readOneRule_62 : decode cX8_readOneRule 62 = .ok (.if_icmp .ne 5, 3) := by decide +kernel
theorem dX8_readOneRule_65 : decode cX8_readOneRule 65 = .ok (.iconst 0, 1) := by decide +kernel
theorem dX8_readOneRule_66 : decode cX8_readOneRule 66 = .ok (.ireturn, 1) := by decide +kernel
theorem dX8_readOneRule_67 : decode cX8_readOneRule 67 = .ok (.aload_n 0, 1) := by decide +kernel
theorem dX8_readOneRule_68 : decode cX8_readOneRule 68 = .ok (.getfield 7, 3) := by decide +kernel
theorem dX8_readOneRule_71 : decode cX8_readOneRule 71 = .ok (.aload_n 0, 1) := by decide +kernel
theorem dX8_readOneRule_72 : decode cX8_readOneRule 72 = .ok (.getfield 110, 3) := by decide +kernel
theorem dX8_readOneRule_75 : decode cX8_readOneRule 75 = .ok (.iaload, 1) := by decide +kernel
theorem dX8_readOneRule_76 : decode cX8_readOneRule 76 = .ok (.bipush 48, 2) := by decide +kernel
theorem dX8_readOneRule_78 : decode cX8_readOneRule 78 = .ok (.isub, 1) := by decide +kernel
theorem dX8_readOneRule_79 : decode cX8_readOneRule 79 = .ok (.istore_n 1, 1) := by decide +kernel
theorem dX8_readOneRule_80 : decode cX8_readOneRule 80 = .ok (.aload_n 0, 1) := by decide +kernel
theorem dX8_readOneRule_81 : decode cX8_readOneRule 81 = .ok (.dup, 1) := by decide +kernel
theorem dX8_readOneRule_82 : decode cX8_readOneRule 82 = .ok (.getfield 110, 3) := by decide +kernel
theorem dX8_readOneRule_85 : decode cX8_readOneRule 85 = .ok (.iconst 1, 1) := by decide +kernel
theorem dX8_readOneRule_86 : decode cX8_readOneRule 86 = .ok (.iadd, 1) := by decide +kernel
theorem dX8_readOneRule_87 : decode cX8_readOneRule 87 = .ok (.putfield 110, 3) := by decide +kernel
theorem dX8_readOneRule_90 : decode cX8_readOneRule 90 = .ok (.aload_n 0, 1) := by decide +kernel
theorem dX8_readOneRule_91 : decode cX8_readOneRule 91 = .ok (.bipush 48, 2) := by decide +kernel
theorem dX8_readOneRule_93 : decode cX8_readOneRule 93 = .ok (.iconst 0, 1) := by decide +kernel
theorem dX8_readOneRule_94 : decode cX8_readOneRule 94 = .ok (.iconst 2, 1) := by decide +kernel
theorem dX8_readOneRule_95 : decode cX8_readOneRule 95 = .ok (.invokevirtual 116, 3) := by decide +kernel
theorem dX8_readOneRule_98 : decode cX8_readOneRule 98 = .ok (.ifCond .eq 27, 3) := by decide +kernel
theorem dX8_readOneRule_101 : decode cX8_readOneRule 101 = .ok (.aload_n 0, 1) := by decide +kernel
theorem dX8_readOneRule_102 : decode cX8_readOneRule 102 = .ok (.getfield 43, 3) := by decide +kernel
theorem dX8_readOneRule_105 : decode cX8_readOneRule 105 = .ok (.iconst 3, 1) := by decide +kernel
theorem dX8_readOneRule_106 : decode cX8_readOneRule 106 = .ok (.iload_n 1, 1) := by decide +kernel
theorem dX8_readOneRule_107 : decode cX8_readOneRule 107 = .ok (.imul, 1) := by decide +kernel
theorem dX8_readOneRule_108 : decode cX8_readOneRule 108 = .ok (.aload_n 0, 1) := by decide +kernel
theorem dX8_readOneRule_109 : decode cX8_readOneRule 109 = .ok (.getfield 7, 3) := by decide +kernel
theorem dX8_readOneRule_112 : decode cX8_readOneRule 112 = .ok (.aload_n 0, 1) := by decide +kernel
theorem dX8_readOneRule_113 : decode cX8_readOneRule 113 = .ok (.getfield 110, 3) := by decide +kernel
theorem dX8_readOneRule_116 : decode cX8_readOneRule 116 = .ok (.iaload, 1) := by decide +kernel
theorem dX8_readOneRule_117 : decode cX8_readOneRule 117 = .ok (.iadd, 1) := by decide +kernel
theorem dX8_readOneRule_118 : decode cX8_readOneRule 118 = .ok (.bipush 48, 2) := by decide +kernel
theorem dX8_readOneRule_120 : decode cX8_readOneRule 120 = .ok (.isub, 1) := by decide +kernel
theorem dX8_readOneRule_121 : decode cX8_readOneRule 121 = .ok (.baload, 1) := by decide +kernel
theorem dX8_readOneRule_122 : decode cX8_readOneRule 122 = .ok (.ifCond .eq 5, 3) := by decide +kernel
theorem dX8_readOneRule_125 : decode cX8_readOneRule 125 = .ok (.iconst 0, 1) := by decide +kernel
theorem dX8_readOneRule_126 : decode cX8_readOneRule 126 = .ok (.ireturn, 1) := by decide +kernel
theorem dX8_readOneRule_127 : decode cX8_readOneRule 127 = .ok (.aload_n 0, 1) := by decide +kernel
theorem dX8_readOneRule_128 : decode cX8_readOneRule 128 = .ok (.getfield 7, 3) := by decide +kernel
theorem dX8_readOneRule_131 : decode cX8_readOneRule 131 = .ok (.aload_n 0, 1) := by decide +kernel
theorem dX8_readOneRule_132 : decode cX8_readOneRule 132 = .ok (.getfield 110, 3) := by decide +kernel
theorem dX8_readOneRule_135 : decode cX8_readOneRule 135 = .ok (.iaload, 1) := by decide +kernel
theorem dX8_readOneRule_136 : decode cX8_readOneRule 136 = .ok (.bipush 48, 2) := by decide +kernel
theorem dX8_readOneRule_138 : decode cX8_readOneRule 138 = .ok (.isub, 1) := by decide +kernel
theorem dX8_readOneRule_139 : decode cX8_readOneRule 139 = .ok (.istore_n 2, 1) := by decide +kernel
theorem dX8_readOneRule_140 : decode cX8_readOneRule 140 = .ok (.aload_n 0, 1) := by decide +kernel
theorem dX8_readOneRule_141 : decode cX8_readOneRule 141 = .ok (.dup, 1) := by decide +kernel
theorem dX8_readOneRule_142 : decode cX8_readOneRule 142 = .ok (.getfield 110, 3) := by decide +kernel
theorem dX8_readOneRule_145 : decode cX8_readOneRule 145 = .ok (.iconst 1, 1) := by decide +kernel
theorem dX8_readOneRule_146 : decode cX8_readOneRule 146 = .ok (.iadd, 1) := by decide +kernel
theorem dX8_readOneRule_147 : decode cX8_readOneRule 147 = .ok (.putfield 110, 3) := by decide +kernel
theorem dX8_readOneRule_150 : decode cX8_readOneRule 150 = .ok (.aload_n 0, 1) := by decide +kernel
theorem dX8_readOneRule_151 : decode cX8_readOneRule 151 = .ok (.bipush 48, 2) := by decide +kernel
theorem dX8_readOneRule_153 : decode cX8_readOneRule 153 = .ok (.iconst 0, 1) := by decide +kernel
theorem dX8_readOneRule_154 : decode cX8_readOneRule 154 = .ok (.iconst 2, 1) := by decide +kernel
theorem dX8_readOneRule_155 : decode cX8_readOneRule 155 = .ok (.invokevirtual 116, 3) := by decide +kernel
theorem dX8_readOneRule_158 : decode cX8_readOneRule 158 = .ok (.ifCond .ne 5, 3) := by decide +kernel
theorem dX8_readOneRule_161 : decode cX8_readOneRule 161 = .ok (.iconst 0, 1) := by decide +kernel
theorem dX8_readOneRule_162 : decode cX8_readOneRule 162 = .ok (.ireturn, 1) := by decide +kernel
theorem dX8_readOneRule_163 : decode cX8_readOneRule 163 = .ok (.aload_n 0, 1) := by decide +kernel
theorem dX8_readOneRule_164 : decode cX8_readOneRule 164 = .ok (.getfield 43, 3) := by decide +kernel
theorem dX8_readOneRule_167 : decode cX8_readOneRule 167 = .ok (.iconst 3, 1) := by decide +kernel
theorem dX8_readOneRule_168 : decode cX8_readOneRule 168 = .ok (.iload_n 1, 1) := by decide +kernel
theorem dX8_readOneRule_169 : decode cX8_readOneRule 169 = .ok (.imul, 1) := by decide +kernel
theorem dX8_readOneRule_170 : decode cX8_readOneRule 170 = .ok (.iload_n 2, 1) := by decide +kernel
theorem dX8_readOneRule_171 : decode cX8_readOneRule 171 = .ok (.iadd, 1) := by decide +kernel
theorem dX8_readOneRule_172 : decode cX8_readOneRule 172 = .ok (.iconst 1, 1) := by decide +kernel
theorem dX8_readOneRule_173 : decode cX8_readOneRule 173 = .ok (.bastore, 1) := by decide +kernel
theorem dX8_readOneRule_174 : decode cX8_readOneRule 174 = .ok (.aload_n 0, 1) := by decide +kernel
theorem dX8_readOneRule_175 : decode cX8_readOneRule 175 = .ok (.getfield 47, 3) := by decide +kernel
theorem dX8_readOneRule_178 : decode cX8_readOneRule 178 = .ok (.iconst 2, 1) := by decide +kernel
theorem dX8_readOneRule_179 : decode cX8_readOneRule 179 = .ok (.iconst 3, 1) := by decide +kernel
theorem dX8_readOneRule_180 : decode cX8_readOneRule 180 = .ok (.iload_n 1, 1) := by decide +kernel
theorem dX8_readOneRule_181 : decode cX8_readOneRule 181 = .ok (.imul, 1) := by decide +kernel
theorem dX8_readOneRule_182 : decode cX8_readOneRule 182 = .ok (.iadd, 1) := by decide +kernel
theorem dX8_readOneRule_183 : decode cX8_readOneRule 183 = .ok (.iload_n 2, 1) := by decide +kernel
theorem dX8_readOneRule_184 : decode cX8_readOneRule 184 = .ok (.iadd, 1) := by decide +kernel
theorem dX8_readOneRule_185 : decode cX8_readOneRule 185 = .ok (.aload_n 0, 1) := by decide +kernel
theorem dX8_readOneRule_186 : decode cX8_readOneRule 186 = .ok (.getfield 7, 3) := by decide +kernel
theorem dX8_readOneRule_189 : decode cX8_readOneRule 189 = .ok (.aload_n 0, 1) := by decide +kernel
theorem dX8_readOneRule_190 : decode cX8_readOneRule 190 = .ok (.getfield 110, 3) := by decide +kernel
theorem dX8_readOneRule_193 : decode cX8_readOneRule 193 = .ok (.iaload, 1) := by decide +kernel
theorem dX8_readOneRule_194 : decode cX8_readOneRule 194 = .ok (.bipush 48, 2) := by decide +kernel
theorem dX8_readOneRule_196 : decode cX8_readOneRule 196 = .ok (.isub, 1) := by decide +kernel
theorem dX8_readOneRule_197 : decode cX8_readOneRule 197 = .ok (.iastore, 1) := by decide +kernel
theorem dX8_readOneRule_198 : decode cX8_readOneRule 198 = .ok (.aload_n 0, 1) := by decide +kernel
theorem dX8_readOneRule_199 : decode cX8_readOneRule 199 = .ok (.dup, 1) := by decide +kernel
theorem dX8_readOneRule_200 : decode cX8_readOneRule 200 = .ok (.getfield 110, 3) := by decide +kernel
theorem dX8_readOneRule_203 : decode cX8_readOneRule 203 = .ok (.iconst 1, 1) := by decide +kernel
theorem dX8_readOneRule_204 : decode cX8_readOneRule 204 = .ok (.iadd, 1) := by decide +kernel
theorem dX8_readOneRule_205 : decode cX8_readOneRule 205 = .ok (.putfield 110, 3) := by decide +kernel
theorem dX8_readOneRule_208 : decode cX8_readOneRule 208 = .ok (.iconst 1, 1) := by decide +kernel
theorem dX8_readOneRule_209 : decode cX8_readOneRule 209 = .ok (.ireturn, 1) := by decide +kernel
theorem dX8_readLine_0 : decode cX8_readLine 0 = .ok (.aload_n 0, 1) := by decide +kernel
theorem dX8_readLine_1 : decode cX8_readLine 1 = .ok (.dup, 1) := by decide +kernel
theorem dX8_readLine_2 : decode cX8_readLine 2 = .ok (.getfield 110, 3) := by decide +kernel
theorem dX8_readLine_5 : decode cX8_readLine 5 = .ok (.iconst 1, 1) := by decide +kernel
theorem dX8_readLine_6 : decode cX8_readLine 6 = .ok (.iadd, 1) := by decide +kernel
theorem dX8_readLine_7 : decode cX8_readLine 7 = .ok (.putfield 110, 3) := by decide +kernel
theorem dX8_readLine_10 : decode cX8_readLine 10 = .ok (.aload_n 0, 1) := by decide +kernel
theorem dX8_readLine_11 : decode cX8_readLine 11 = .ok (.getfield 110, 3) := by decide +kernel
theorem dX8_readLine_14 : decode cX8_readLine 14 = .ok (.aload_n 0, 1) := by decide +kernel
theorem dX8_readLine_15 : decode cX8_readLine 15 = .ok (.getfield 107, 3) := by decide +kernel
theorem dX8_readLine_18 : decode cX8_readLine 18 = .ok (.if_icmp .ge 195, 3) := by decide +kernel
theorem dX8_readLine_21 : decode cX8_readLine 21 = .ok (.aload_n 0, 1) := by decide +kernel
theorem dX8_readLine_22 : decode cX8_readLine 22 = .ok (.getfield 7, 3) := by decide +kernel
theorem dX8_readLine_25 : decode cX8_readLine 25 = .ok (.aload_n 0, 1) := by decide +kernel
theorem dX8_readLine_26 : decode cX8_readLine 26 = .ok (.getfield 110, 3) := by decide +kernel
theorem dX8_readLine_29 : decode cX8_readLine 29 = .ok (.iaload, 1) := by decide +kernel
theorem dX8_readLine_30 : decode cX8_readLine 30 = .ok (.bipush 46, 2) := by decide +kernel
theorem dX8_readLine_32 : decode cX8_readLine 32 = .ok (.if_icmp .ne 8, 3) := by decide +kernel
theorem dX8_readLine_35 : decode cX8_readLine 35 = .ok (.bipush 6, 2) := by decide +kernel
theorem dX8_readLine_37 : decode cX8_readLine 37 = .ok (.goto 48, 3) := by decide +kernel
theorem dX8_readLine_40 : decode cX8_readLine 40 = .ok (.aload_n 0, 1) := by decide +kernel
theorem dX8_readLine_41 : decode cX8_readLine 41 = .ok (.bipush 97, 2) := by decide +kernel
theorem dX8_readLine_43 : decode cX8_readLine 43 = .ok (.iconst 0, 1) := by decide +kernel
theorem dX8_readLine_44 : decode cX8_readLine 44 = .ok (.iconst 5, 1) := by decide +kernel
theorem dX8_readLine_45 : decode cX8_readLine 45 = .ok (.invokevirtual 116, 3) := by decide +kernel
theorem dX8_readLine_48 : decode cX8_readLine 48 = .ok (.ifCond .eq 18, 3) := by decide +kernel
theorem dX8_readLine_51 : decode cX8_readLine 51 = .ok (.aload_n 0, 1) := by decide +kernel
theorem dX8_readLine_52 : decode cX8_readLine 52 = .ok (.getfield 7, 3) := by decide +kernel
theorem dX8_readLine_55 : decode cX8_readLine 55 = .ok (.aload_n 0, 1) := by decide +kernel
theorem dX8_readLine_56 : decode cX8_readLine 56 = .ok (.getfield 110, 3) := by decide +kernel
theorem dX8_readLine_59 : decode cX8_readLine 59 = .ok (.iaload, 1) := by decide +kernel
theorem dX8_readLine_60 : decode cX8_readLine 60 = .ok (.bipush 97, 2) := by decide +kernel
theorem dX8_readLine_62 : decode cX8_readLine 62 = .ok (.isub, 1) := by decide +kernel
theorem dX8_readLine_63 : decode cX8_readLine 63 = .ok (.goto 22, 3) := by decide +kernel
theorem dX8_readLine_66 : decode cX8_readLine 66 = .ok (.aload_n 0, 1) := by decide +kernel
theorem dX8_readLine_67 : decode cX8_readLine 67 = .ok (.bipush 48, 2) := by decide +kernel
theorem dX8_readLine_69 : decode cX8_readLine 69 = .ok (.iconst 1, 1) := by decide +kernel
theorem dX8_readLine_70 : decode cX8_readLine 70 = .ok (.bipush 9, 2) := by decide +kernel
theorem dX8_readLine_72 : decode cX8_readLine 72 = .ok (.invokevirtual 116, 3) := by decide +kernel
theorem dX8_readLine_75 : decode cX8_readLine 75 = .ok (.ifCond .eq 8, 3) := by decide +kernel
theorem dX8_readLine_78 : decode cX8_readLine 78 = .ok (.bipush 7, 2) := by decide +kernel
theorem dX8_readLine_80 : decode cX8_readLine 80 = .ok (.goto 5, 3) := by decide +kernel
theorem dX8_readLine_83 : decode cX8_readLine 83 = .ok (.bipush (-9), 2) := by decide +kernel
theorem dX8_readLine_85 : decode cX8_readLine 85 = .ok (.istore_n 1, 1) := by decide +kernel
theorem dX8_readLine_86 : decode cX8_readLine 86 = .ok (.iload_n 1, 1) := by decide +kernel
theorem dX8_readLine_87 : decode cX8_readLine 87 = .ok (.bipush 7, 2) := by decide +kernel
theorem dX8_readLine_89 : decode cX8_readLine 89 = .ok (.if_icmp .ne 18, 3) := by decide +kernel
theorem dX8_readLine_92 : decode cX8_readLine 92 = .ok (.aload_n 0, 1) := by decide +kernel
theorem dX8_readLine_93 : decode cX8_readLine 93 = .ok (.getfield 7, 3) := by decide +kernel
theorem dX8_readLine_96 : decode cX8_readLine 96 = .ok (.aload_n 0, 1) := by decide +kernel
theorem dX8_readLine_97 : decode cX8_readLine 97 = .ok (.getfield 110, 3) := by decide +kernel
theorem dX8_readLine_100 : decode cX8_readLine 100 = .ok (.iaload, 1) := by decide +kernel
theorem dX8_readLine_101 : decode cX8_readLine 101 = .ok (.bipush 48, 2) := by decide +kernel
theorem dX8_readLine_103 : decode cX8_readLine 103 = .ok (.isub, 1) := by decide +kernel
theorem dX8_readLine_104 : decode cX8_readLine 104 = .ok (.goto 19, 3) := by decide +kernel
theorem dX8_readLine_107 : decode cX8_readLine 107 = .ok (.iload_n 1, 1) := by decide +kernel
theorem dX8_readLine_108 : decode cX8_readLine 108 = .ok (.bipush (-9), 2) := by decide +kernel
theorem dX8_readLine_110 : decode cX8_readLine 110 = .ok (.if_icmp .ne 7, 3) := by decide +kernel
theorem dX8_readLine_113 : decode cX8_readLine 113 = .ok (.iconst 0, 1) := by decide +kernel
theorem dX8_readLine_114 : decode cX8_readLine 114 = .ok (.goto 9, 3) := by decide +kernel
theorem dX8_readLine_117 : decode cX8_readLine 117 = .ok (.aload_n 0, 1) := by decide +kernel
theorem dX8_readLine_118 : decode cX8_readLine 118 = .ok (.getfield 28, 3) := by decide +kernel
theorem dX8_readLine_121 : decode cX8_readLine 121 = .ok (.iload_n 1, 1) := by decide +kernel
theorem dX8_readLine_122 : decode cX8_readLine 122 = .ok (.iaload, 1) := by decide +kernel
theorem dX8_readLine_123 : decode cX8_readLine 123 = .ok (.istore_n 2, 1) := by decide +kernel
theorem dX8_readLine_124 : decode cX8_readLine 124 = .ok (.iload_n 1, 1) := by decide +kernel
theorem dX8_readLine_125 : decode cX8_readLine 125 = .ok (.bipush (-9), 2) := by decide +kernel
theorem dX8_readLine_127 : decode cX8_readLine 127 = .ok (.if_icmp .eq 16, 3) := by decide +kernel
theorem dX8_readLine_130 : decode cX8_readLine 130 = .ok (.aload_n 0, 1) := by decide +kernel
theorem dX8_readLine_131 : decode cX8_readLine 131 = .ok (.getfield 47, 3) := by decide +kernel
theorem dX8_readLine_134 : decode cX8_readLine 134 = .ok (.iconst 0, 1) := by decide +kernel
theorem dX8_readLine_135 : decode cX8_readLine 135 = .ok (.iaload, 1) := by decide +kernel
theorem dX8_readLine_136 : decode cX8_readLine 136 = .ok (.iload_n 2, 1) := by decide +kernel
theorem dX8_readLine_137 : decode cX8_readLine 137 = .ok (.iadd, 1) := by decide +kernel
theorem dX8_readLine_138 : decode cX8_readLine 138 = .ok (.bipush 24, 2) := by decide +kernel
theorem dX8_readLine_140 : decode cX8_readLine 140 = .ok (.if_icmp .le 5, 3) := by decide +kernel
theorem dX8_readLine_143 : decode cX8_readLine 143 = .ok (.iconst 0, 1) := by decide +kernel
theorem dX8_readLine_144 : decode cX8_readLine 144 = .ok (.ireturn, 1) := by decide +kernel
theorem dX8_readLine_145 : decode cX8_readLine 145 = .ok (.iconst 0, 1) := by decide +kernel
theorem dX8_readLine_146 : decode cX8_readLine 146 = .ok (.istore_n 3, 1) := by decide +kernel
theorem dX8_readLine_147 : decode cX8_readLine 147 = .ok (.iload_n 3, 1) := by decide +kernel
theorem dX8_readLine_148 : decode cX8_readLine 148 = .ok (.iload_n 2, 1) := by decide +kernel
theorem dX8_readLine_149 : decode cX8_readLine 149 = .ok (.if_icmp .ge 41, 3) := by decide +kernel
theorem dX8_readLine_152 : decode cX8_readLine 152 = .ok (.aload_n 0, 1) := by decide +kernel
theorem dX8_readLine_153 : decode cX8_readLine 153 = .ok (.getfield 47, 3) := by decide +kernel
theorem dX8_readLine_156 : decode cX8_readLine 156 = .ok (.bipush 19, 2) := by decide +kernel
theorem dX8_readLine_158 : decode cX8_readLine 158 = .ok (.aload_n 0, 1) := by decide +kernel
theorem dX8_readLine_159 : decode cX8_readLine 159 = .ok (.getfield 47, 3) := by decide +kernel
theorem dX8_readLine_162 : decode cX8_readLine 162 = .ok (.iconst 0, 1) := by decide +kernel
theorem dX8_readLine_163 : decode cX8_readLine 163 = .ok (.iaload, 1) := by decide +kernel
theorem dX8_readLine_164 : decode cX8_readLine 164 = .ok (.iadd, 1) := by decide +kernel
theorem dX8_readLine_165 : decode cX8_readLine 165 = .ok (.iload_n 3, 1) := by decide +kernel
theorem dX8_readLine_166 : decode cX8_readLine 166 = .ok (.iadd, 1) := by decide +kernel
theorem dX8_readLine_167 : decode cX8_readLine 167 = .ok (.iload_n 1, 1) := by decide +kernel
theorem dX8_readLine_168 : decode cX8_readLine 168 = .ok (.bipush 7, 2) := by decide +kernel
theorem dX8_readLine_170 : decode cX8_readLine 170 = .ok (.if_icmp .eq 7, 3) := by decide +kernel
theorem dX8_readLine_173 : decode cX8_readLine 173 = .ok (.iload_n 3, 1) := by decide +kernel
theorem dX8_readLine_174 : decode cX8_readLine 174 = .ok (.ifCond .ne 7, 3) := by decide +kernel
theorem dX8_readLine_177 : decode cX8_readLine 177 = .ok (.iload_n 1, 1) := by decide +kernel
theorem dX8_readLine_178 : decode cX8_readLine 178 = .ok (.goto 5, 3) := by decide +kernel
theorem dX8_readLine_181 : decode cX8_readLine 181 = .ok (.bipush 8, 2) := by decide +kernel
theorem dX8_readLine_183 : decode cX8_readLine 183 = .ok (.iastore, 1) := by decide +kernel
theorem dX8_readLine_184 : decode cX8_readLine 184 = .ok (.iinc 3 1, 3) := by decide +kernel
theorem dX8_readLine_187 : decode cX8_readLine 187 = .ok (.goto (-40), 3) := by decide +kernel
theorem dX8_readLine_190 : decode cX8_readLine 190 = .ok (.aload_n 0, 1) := by decide +kernel
theorem dX8_readLine_191 : decode cX8_readLine 191 = .ok (.getfield 47, 3) := by decide +kernel
theorem dX8_readLine_194 : decode cX8_readLine 194 = .ok (.iconst 0, 1) := by decide +kernel
theorem dX8_readLine_195 : decode cX8_readLine 195 = .ok (.dup2, 1) := by decide +kernel
theorem dX8_readLine_196 : decode cX8_readLine 196 = .ok (.iaload, 1) := by decide +kernel
theorem dX8_readLine_197 : decode cX8_readLine 197 = .ok (.iload_n 2, 1) := by decide +kernel
theorem dX8_readLine_198 : decode cX8_readLine 198 = .ok (.iadd, 1) := by decide +kernel
theorem dX8_readLine_199 : decode cX8_readLine 199 = .ok (.iastore, 1) := by decide +kernel
theorem dX8_readLine_200 : decode cX8_readLine 200 = .ok (.aload_n 0, 1) := by decide +kernel
theorem dX8_readLine_201 : decode cX8_readLine 201 = .ok (.dup, 1) := by decide +kernel
theorem dX8_readLine_202 : decode cX8_readLine 202 = .ok (.getfield 110, 3) := by decide +kernel
theorem dX8_readLine_205 : decode cX8_readLine 205 = .ok (.iconst 1, 1) := by decide +kernel
theorem dX8_readLine_206 : decode cX8_readLine 206 = .ok (.iadd, 1) := by decide +kernel
theorem dX8_readLine_207 : decode cX8_readLine 207 = .ok (.putfield 110, 3) := by decide +kernel
theorem dX8_readLine_210 : decode cX8_readLine 210 = .ok (.goto (-200), 3) := by decide +kernel
theorem dX8_readLine_213 : decode cX8_readLine 213 = .ok (.aload_n 0, 1) := by decide +kernel
theorem dX8_readLine_214 : decode cX8_readLine 214 = .ok (.getfield 47, 3) := by decide +kernel
theorem dX8_readLine_217 : decode cX8_readLine 217 = .ok (.iconst 0, 1) := by decide +kernel
theorem dX8_readLine_218 : decode cX8_readLine 218 = .ok (.iaload, 1) := by decide +kernel
theorem dX8_readLine_219 : decode cX8_readLine 219 = .ok (.ifCond .le 7, 3) := by decide +kernel
theorem dX8_readLine_222 : decode cX8_readLine 222 = .ok (.iconst 1, 1) := by decide +kernel
theorem dX8_readLine_223 : decode cX8_readLine 223 = .ok (.goto 4, 3) := by decide +kernel
theorem dX8_readLine_226 : decode cX8_readLine 226 = .ok (.iconst 0, 1) := by decide +kernel
theorem dX8_readLine_227 : decode cX8_readLine 227 = .ok (.ireturn, 1) := by decide +kernel
theorem dX8_readPart_0 : decode cX8_readPart 0 = .ok (.aload_n 0, 1) := by decide +kernel
theorem dX8_readPart_1 : decode cX8_readPart 1 = .ok (.getfield 7, 3) := by decide +kernel
theorem dX8_readPart_4 : decode cX8_readPart 4 = .ok (.aload_n 0, 1) := by decide +kernel
theorem dX8_readPart_5 : decode cX8_readPart 5 = .ok (.getfield 110, 3) := by decide +kernel
theorem dX8_readPart_8 : decode cX8_readPart 8 = .ok (.iaload, 1) := by decide +kernel
theorem dX8_readPart_9 : decode cX8_readPart 9 = .ok (.lookupswitch 50 #[(100, 35), (108, 45), (114, 40)], 35) := by decide +kernel
theorem dX8_readPart_44 : decode cX8_readPart 44 = .ok (.aload_n 0, 1) := by decide +kernel
theorem dX8_readPart_45 : decode cX8_readPart 45 = .ok (.invokevirtual 124, 3) := by decide +kernel
theorem dX8_readPart_48 : decode cX8_readPart 48 = .ok (.ireturn, 1) := by decide +kernel
theorem dX8_readPart_49 : decode cX8_readPart 49 = .ok (.aload_n 0, 1) := by decide +kernel
theorem dX8_readPart_50 : decode cX8_readPart 50 = .ok (.invokevirtual 128, 3) := by decide +kernel
theorem dX8_readPart_53 : decode cX8_readPart 53 = .ok (.ireturn, 1) := by decide +kernel
theorem dX8_readPart_54 : decode cX8_readPart 54 = .ok (.aload_n 0, 1) := by decide +kernel
theorem dX8_readPart_55 : decode cX8_readPart 55 = .ok (.invokevirtual 131, 3) := by decide +kernel
theorem dX8_readPart_58 : decode cX8_readPart 58 = .ok (.ireturn, 1) := by decide +kernel
theorem dX8_readPart_59 : decode cX8_readPart 59 = .ok (.iconst 0, 1) := by decide +kernel
theorem dX8_readPart_60 : decode cX8_readPart 60 = .ok (.ireturn, 1) := by decide +kernel
theorem dX8_readStone_0 : decode cX8_readStone 0 = .ok (.aload_n 0, 1) := by decide +kernel
theorem dX8_readStone_1 : decode cX8_readStone 1 = .ok (.getfield 47, 3) := by decide +kernel
theorem dX8_readStone_4 : decode cX8_readStone 4 = .ok (.invokestatic 90, 3) := by decide +kernel
theorem dX8_readStone_7 : decode cX8_readStone 7 = .ok (.aload_n 0, 1) := by decide +kernel
theorem dX8_readStone_8 : decode cX8_readStone 8 = .ok (.iconst 0, 1) := by decide +kernel
theorem dX8_readStone_9 : decode cX8_readStone 9 = .ok (.putfield 113, 3) := by decide +kernel
theorem dX8_readStone_12 : decode cX8_readStone 12 = .ok (.iconst 0, 1) := by decide +kernel
theorem dX8_readStone_13 : decode cX8_readStone 13 = .ok (.istore_n 1, 1) := by decide +kernel
theorem dX8_readStone_14 : decode cX8_readStone 14 = .ok (.iload_n 1, 1) := by decide +kernel
theorem dX8_readStone_15 : decode cX8_readStone 15 = .ok (.bipush 9, 2) := by decide +kernel
theorem dX8_readStone_17 : decode cX8_readStone 17 = .ok (.if_icmp .ge 16, 3) := by decide +kernel
theorem dX8_readStone_20 : decode cX8_readStone 20 = .ok (.aload_n 0, 1) := by decide +kernel
theorem dX8_readStone_21 : decode cX8_readStone 21 = .ok (.getfield 43, 3) := by decide +kernel
theorem dX8_readStone_24 : decode cX8_readStone 24 = .ok (.iload_n 1, 1) := by decide +kernel
theorem dX8_readStone_25 : decode cX8_readStone 25 = .ok (.iconst 0, 1) := by decide +kernel
theorem dX8_readStone_26 : decode cX8_readStone 26 = .ok (.bastore, 1) := by decide +kernel
theorem dX8_readStone_27 : decode cX8_readStone 27 = .ok (.iinc 1 1, 3) := by decide +kernel
theorem dX8_readStone_30 : decode cX8_readStone 30 = .ok (.goto (-16), 3) := by decide +kernel
theorem dX8_readStone_33 : decode cX8_readStone 33 = .ok (.aload_n 0, 1) := by decide +kernel
theorem dX8_readStone_34 : decode cX8_readStone 34 = .ok (.getfield 107, 3) := by decide +kernel
theorem dX8_readStone_37 : decode cX8_readStone 37 = .ok (.ifCond .eq 14, 3) := by decide +kernel
theorem dX8_readStone_40 : decode cX8_readStone 40 = .ok (.aload_n 0, 1) := by decide +kernel
theorem dX8_readStone_41 : decode cX8_readStone 41 = .ok (.getfield 7, 3) := by decide +kernel
theorem dX8_readStone_44 : decode cX8_readStone 44 = .ok (.iconst 0, 1) := by decide +kernel
theorem dX8_readStone_45 : decode cX8_readStone 45 = .ok (.iaload, 1) := by decide +kernel
theorem dX8_readStone_46 : decode cX8_readStone 46 = .ok (.bipush 83, 2) := by decide +kernel
theorem dX8_readStone_48 : decode cX8_readStone 48 = .ok (.if_icmp .eq 5, 3) := by decide +kernel
theorem dX8_readStone_51 : decode cX8_readStone 51 = .ok (.iconst 0, 1) := by decide +kernel
theorem dX8_readStone_52 : decode cX8_readStone 52 = .ok (.ireturn, 1) := by decide +kernel
theorem dX8_readStone_53 : decode cX8_readStone 53 = .ok (.aload_n 0, 1) := by decide +kernel
theorem dX8_readStone_54 : decode cX8_readStone 54 = .ok (.iconst 1, 1) := by decide +kernel
theorem dX8_readStone_55 : decode cX8_readStone 55 = .ok (.putfield 110, 3) := by decide +kernel
theorem dX8_readStone_58 : decode cX8_readStone 58 = .ok (.iconst 0, 1) := by decide +kernel
theorem dX8_readStone_59 : decode cX8_readStone 59 = .ok (.istore_n 1, 1) := by decide +kernel
theorem dX8_readStone_60 : decode cX8_readStone 60 = .ok (.iload_n 1, 1) := by decide +kernel
theorem dX8_readStone_61 : decode cX8_readStone 61 = .ok (.bipush 6, 2) := by decide +kernel
theorem dX8_readStone_63 : decode cX8_readStone 63 = .ok (.if_icmp .ge 53, 3) := by decide +kernel
theorem dX8_readStone_66 : decode cX8_readStone 66 = .ok (.aload_n 0, 1) := by decide +kernel
theorem dX8_readStone_67 : decode cX8_readStone 67 = .ok (.bipush 48, 2) := by decide +kernel
theorem dX8_readStone_69 : decode cX8_readStone 69 = .ok (.iconst 1, 1) := by decide +kernel
theorem dX8_readStone_70 : decode cX8_readStone 70 = .ok (.iconst 3, 1) := by decide +kernel
theorem dX8_readStone_71 : decode cX8_readStone 71 = .ok (.invokevirtual 116, 3) := by decide +kernel
theorem dX8_readStone_74 : decode cX8_readStone 74 = .ok (.ifCond .ne 8, 3) := by decide +kernel
theorem dX8_readStone_77 : decode cX8_readStone 77 = .ok (.aload_n 0, 1) := by decide +kernel
theorem dX8_readStone_78 : decode cX8_readStone 78 = .ok (.getfield 110, 3) := by decide +kernel
theorem dX8_readStone_81 : decode cX8_readStone 81 = .ok (.ireturn, 1) := by decide +kernel
theorem dX8_readStone_82 : decode cX8_readStone 82 = .ok (.aload_n 0, 1) := by decide +kernel
theorem dX8_readStone_83 : decode cX8_readStone 83 = .ok (.getfield 28, 3) := by decide +kernel
theorem dX8_readStone_86 : decode cX8_readStone 86 = .ok (.iload_n 1, 1) := by decide +kernel
theorem dX8_readStone_87 : decode cX8_readStone 87 = .ok (.aload_n 0, 1) := by decide +kernel
theorem dX8_readStone_88 : decode cX8_readStone 88 = .ok (.getfield 7, 3) := by decide +kernel
theorem dX8_readStone_91 : decode cX8_readStone 91 = .ok (.aload_n 0, 1) := by decide +kernel
theorem dX8_readStone_92 : decode cX8_readStone 92 = .ok (.getfield 110, 3) := by decide +kernel
theorem dX8_readStone_95 : decode cX8_readStone 95 = .ok (.iaload, 1) := by decide +kernel
theorem dX8_readStone_96 : decode cX8_readStone 96 = .ok (.bipush 48, 2) := by decide +kernel
theorem dX8_readStone_98 : decode cX8_readStone 98 = .ok (.isub, 1) := by decide +kernel
theorem dX8_readStone_99 : decode cX8_readStone 99 = .ok (.iastore, 1) := by decide +kernel
theorem dX8_readStone_100 : decode cX8_readStone 100 = .ok (.aload_n 0, 1) := by decide +kernel
theorem dX8_readStone_101 : decode cX8_readStone 101 = .ok (.dup, 1) := by decide +kernel
theorem dX8_readStone_102 : decode cX8_readStone 102 = .ok (.getfield 110, 3) := by decide +kernel
theorem dX8_readStone_105 : decode cX8_readStone 105 = .ok (.iconst 1, 1) := by decide +kernel
theorem dX8_readStone_106 : decode cX8_readStone 106 = .ok (.iadd, 1) := by decide +kernel
theorem dX8_readStone_107 : decode cX8_readStone 107 = .ok (.putfield 110, 3) := by decide +kernel
theorem dX8_readStone_110 : decode cX8_readStone 110 = .ok (.iinc 1 1, 3) := by decide +kernel
theorem dX8_readStone_113 : decode cX8_readStone 113 = .ok (.goto (-53), 3) := by decide +kernel
theorem dX8_readStone_116 : decode cX8_readStone 116 = .ok (.aload_n 0, 1) := by decide +kernel
theorem dX8_readStone_117 : decode cX8_readStone 117 = .ok (.getfield 28, 3) := by decide +kernel
theorem dX8_readStone_120 : decode cX8_readStone 120 = .ok (.bipush 6, 2) := by decide +kernel
theorem dX8_readStone_122 : decode cX8_readStone 122 = .ok (.iconst 1, 1) := by decide +kernel
theorem dX8_readStone_123 : decode cX8_readStone 123 = .ok (.iastore, 1) := by decide +kernel
theorem dX8_readStone_124 : decode cX8_readStone 124 = .ok (.aload_n 0, 1) := by decide +kernel
theorem dX8_readStone_125 : decode cX8_readStone 125 = .ok (.getfield 110, 3) := by decide +kernel
theorem dX8_readStone_128 : decode cX8_readStone 128 = .ok (.aload_n 0, 1) := by decide +kernel
theorem dX8_readStone_129 : decode cX8_readStone 129 = .ok (.getfield 107, 3) := by decide +kernel
theorem dX8_readStone_132 : decode cX8_readStone 132 = .ok (.if_icmp .ge 15, 3) := by decide +kernel
theorem dX8_readStone_135 : decode cX8_readStone 135 = .ok (.aload_n 0, 1) := by decide +kernel
theorem dX8_readStone_136 : decode cX8_readStone 136 = .ok (.invokevirtual 134, 3) := by decide +kernel
theorem dX8_readStone_139 : decode cX8_readStone 139 = .ok (.ifCond .ne (-15), 3) := by decide +kernel
theorem dX8_readStone_142 : decode cX8_readStone 142 = .ok (.aload_n 0, 1) := by decide +kernel
theorem dX8_readStone_143 : decode cX8_readStone 143 = .ok (.getfield 110, 3) := by decide +kernel
theorem dX8_readStone_146 : decode cX8_readStone 146 = .ok (.ireturn, 1) := by decide +kernel
theorem dX8_readStone_147 : decode cX8_readStone 147 = .ok (.bipush (-9), 2) := by decide +kernel
theorem dX8_readStone_149 : decode cX8_readStone 149 = .ok (.ireturn, 1) := by decide +kernel
theorem dX8_fault_0 : decode cX8_fault 0 = .ok (.aload_n 0, 1) := by decide +kernel
theorem dX8_fault_1 : decode cX8_fault 1 = .ok (.iconst 0, 1) := by decide +kernel
theorem dX8_fault_2 : decode cX8_fault 2 = .ok (.putfield 94, 3) := by decide +kernel
theorem dX8_fault_5 : decode cX8_fault 5 = .ok (.aload_n 0, 1) := by decide +kernel
theorem dX8_fault_6 : decode cX8_fault 6 = .ok (.invokevirtual 137, 3) := by decide +kernel
theorem dX8_fault_9 : decode cX8_fault 9 = .ok (.ireturn, 1) := by decide +kernel
theorem dX8_stone_0 : decode cX8_stone 0 = .ok (.aload_n 0, 1) := by decide +kernel
theorem dX8_stone_1 : decode cX8_stone 1 = .ok (.iconst 0, 1) := by decide +kernel
theorem dX8_stone_2 : decode cX8_stone 2 = .ok (.putfield 94, 3) := by decide +kernel
theorem dX8_stone_5 : decode cX8_stone 5 = .ok (.aload_n 0, 1) := by decide +kernel
theorem dX8_stone_6 : decode cX8_stone 6 = .ok (.invokevirtual 137, 3) := by decide +kernel
theorem dX8_stone_9 : decode cX8_stone 9 = .ok (.bipush (-9), 2) := by decide +kernel
theorem dX8_stone_11 : decode cX8_stone 11 = .ok (.if_icmp .eq 6, 3) := by decide +kernel
theorem dX8_stone_14 : decode cX8_stone 14 = .ok (.bipush (-3), 2) := by decide +kernel
theorem dX8_stone_16 : decode cX8_stone 16 = .ok (.ireturn, 1) := by decide +kernel
theorem dX8_stone_17 : decode cX8_stone 17 = .ok (.aload_n 0, 1) := by decide +kernel
theorem dX8_stone_18 : decode cX8_stone 18 = .ok (.getfield 50, 3) := by decide +kernel
theorem dX8_stone_21 : decode cX8_stone 21 = .ok (.aload_n 0, 1) := by decide +kernel
theorem dX8_stone_22 : decode cX8_stone 22 = .ok (.getfield 47, 3) := by decide +kernel
theorem dX8_stone_25 : decode cX8_stone 25 = .ok (.invokestatic 141, 3) := by decide +kernel
theorem dX8_stone_28 : decode cX8_stone 28 = .ok (.aload_n 0, 1) := by decide +kernel
theorem dX8_stone_29 : decode cX8_stone 29 = .ok (.aload_n 0, 1) := by decide +kernel
theorem dX8_stone_30 : decode cX8_stone 30 = .ok (.getfield 113, 3) := by decide +kernel
theorem dX8_stone_33 : decode cX8_stone 33 = .ok (.putfield 98, 3) := by decide +kernel
theorem dX8_stone_36 : decode cX8_stone 36 = .ok (.iconst 0, 1) := by decide +kernel
theorem dX8_stone_37 : decode cX8_stone 37 = .ok (.istore_n 1, 1) := by decide +kernel
theorem dX8_stone_38 : decode cX8_stone 38 = .ok (.iload_n 1, 1) := by decide +kernel
theorem dX8_stone_39 : decode cX8_stone 39 = .ok (.bipush 7, 2) := by decide +kernel
theorem dX8_stone_41 : decode cX8_stone 41 = .ok (.if_icmp .ge 21, 3) := by decide +kernel
theorem dX8_stone_44 : decode cX8_stone 44 = .ok (.aload_n 0, 1) := by decide +kernel
theorem dX8_stone_45 : decode cX8_stone 45 = .ok (.getfield 13, 3) := by decide +kernel
theorem dX8_stone_48 : decode cX8_stone 48 = .ok (.iload_n 1, 1) := by decide +kernel
theorem dX8_stone_49 : decode cX8_stone 49 = .ok (.aload_n 0, 1) := by decide +kernel
theorem dX8_stone_50 : decode cX8_stone 50 = .ok (.getfield 28, 3) := by decide +kernel
theorem dX8_stone_53 : decode cX8_stone 53 = .ok (.iload_n 1, 1) := by decide +kernel
theorem dX8_stone_54 : decode cX8_stone 54 = .ok (.iaload, 1) := by decide +kernel
theorem dX8_stone_55 : decode cX8_stone 55 = .ok (.iastore, 1) := by decide +kernel
theorem dX8_stone_56 : decode cX8_stone 56 = .ok (.iinc 1 1, 3) := by decide +kernel
theorem dX8_stone_59 : decode cX8_stone 59 = .ok (.goto (-21), 3) := by decide +kernel
theorem dX8_stone_62 : decode cX8_stone 62 = .ok (.iconst 0, 1) := by decide +kernel
theorem dX8_stone_63 : decode cX8_stone 63 = .ok (.istore_n 1, 1) := by decide +kernel
theorem dX8_stone_64 : decode cX8_stone 64 = .ok (.iload_n 1, 1) := by decide +kernel
theorem dX8_stone_65 : decode cX8_stone 65 = .ok (.bipush 40, 2) := by decide +kernel
theorem dX8_stone_67 : decode cX8_stone 67 = .ok (.if_icmp .ge 21, 3) := by decide +kernel
theorem dX8_stone_70 : decode cX8_stone 70 = .ok (.aload_n 0, 1) := by decide +kernel
theorem dX8_stone_71 : decode cX8_stone 71 = .ok (.getfield 19, 3) := by decide +kernel
theorem dX8_stone_74 : decode cX8_stone 74 = .ok (.iload_n 1, 1) := by decide +kernel
theorem dX8_stone_75 : decode cX8_stone 75 = .ok (.aload_n 0, 1) := by decide +kernel
theorem dX8_stone_76 : decode cX8_stone 76 = .ok (.getfield 34, 3) := by decide +kernel
theorem dX8_stone_79 : decode cX8_stone 79 = .ok (.iload_n 1, 1) := by decide +kernel
theorem dX8_stone_80 : decode cX8_stone 80 = .ok (.iaload, 1) := by decide +kernel
theorem dX8_stone_81 : decode cX8_stone 81 = .ok (.iastore, 1) := by decide +kernel
theorem dX8_stone_82 : decode cX8_stone 82 = .ok (.iinc 1 1, 3) := by decide +kernel
theorem dX8_stone_85 : decode cX8_stone 85 = .ok (.goto (-21), 3) := by decide +kernel
theorem dX8_stone_88 : decode cX8_stone 88 = .ok (.iconst 0, 1) := by decide +kernel
theorem dX8_stone_89 : decode cX8_stone 89 = .ok (.istore_n 1, 1) := by decide +kernel
theorem dX8_stone_90 : decode cX8_stone 90 = .ok (.iload_n 1, 1) := by decide +kernel
theorem dX8_stone_91 : decode cX8_stone 91 = .ok (.bipush 8, 2) := by decide +kernel
theorem dX8_stone_93 : decode cX8_stone 93 = .ok (.if_icmp .ge 45, 3) := by decide +kernel
theorem dX8_stone_96 : decode cX8_stone 96 = .ok (.aload_n 0, 1) := by decide +kernel
theorem dX8_stone_97 : decode cX8_stone 97 = .ok (.getfield 16, 3) := by decide +kernel
theorem dX8_stone_100 : decode cX8_stone 100 = .ok (.iload_n 1, 1) := by decide +kernel
theorem dX8_stone_101 : decode cX8_stone 101 = .ok (.aload_n 0, 1) := by decide +kernel
theorem dX8_stone_102 : decode cX8_stone 102 = .ok (.getfield 31, 3) := by decide +kernel
theorem dX8_stone_105 : decode cX8_stone 105 = .ok (.iload_n 1, 1) := by decide +kernel
theorem dX8_stone_106 : decode cX8_stone 106 = .ok (.iaload, 1) := by decide +kernel
theorem dX8_stone_107 : decode cX8_stone 107 = .ok (.iastore, 1) := by decide +kernel
theorem dX8_stone_108 : decode cX8_stone 108 = .ok (.aload_n 0, 1) := by decide +kernel
theorem dX8_stone_109 : decode cX8_stone 109 = .ok (.getfield 22, 3) := by decide +kernel
theorem dX8_stone_112 : decode cX8_stone 112 = .ok (.iload_n 1, 1) := by decide +kernel
theorem dX8_stone_113 : decode cX8_stone 113 = .ok (.aload_n 0, 1) := by decide +kernel
theorem dX8_stone_114 : decode cX8_stone 114 = .ok (.getfield 37, 3) := by decide +kernel
theorem dX8_stone_117 : decode cX8_stone 117 = .ok (.iload_n 1, 1) := by decide +kernel
theorem dX8_stone_118 : decode cX8_stone 118 = .ok (.iaload, 1) := by decide +kernel
theorem dX8_stone_119 : decode cX8_stone 119 = .ok (.iastore, 1) := by decide +kernel
theorem dX8_stone_120 : decode cX8_stone 120 = .ok (.aload_n 0, 1) := by decide +kernel
theorem dX8_stone_121 : decode cX8_stone 121 = .ok (.getfield 25, 3) := by decide +kernel
theorem dX8_stone_124 : decode cX8_stone 124 = .ok (.iload_n 1, 1) := by decide +kernel
theorem dX8_stone_125 : decode cX8_stone 125 = .ok (.aload_n 0, 1) := by decide +kernel
theorem dX8_stone_126 : decode cX8_stone 126 = .ok (.getfield 40, 3) := by decide +kernel
theorem dX8_stone_129 : decode cX8_stone 129 = .ok (.iload_n 1, 1) := by decide +kernel
theorem dX8_stone_130 : decode cX8_stone 130 = .ok (.iaload, 1) := by decide +kernel
theorem dX8_stone_131 : decode cX8_stone 131 = .ok (.iastore, 1) := by decide +kernel
theorem dX8_stone_132 : decode cX8_stone 132 = .ok (.iinc 1 1, 3) := by decide +kernel
theorem dX8_stone_135 : decode cX8_stone 135 = .ok (.goto (-45), 3) := by decide +kernel
theorem dX8_stone_138 : decode cX8_stone 138 = .ok (.aload_n 0, 1) := by decide +kernel
theorem dX8_stone_139 : decode cX8_stone 139 = .ok (.iconst 0, 1) := by decide +kernel
theorem dX8_stone_140 : decode cX8_stone 140 = .ok (.putfield 145, 3) := by decide +kernel
theorem dX8_stone_143 : decode cX8_stone 143 = .ok (.aload_n 0, 1) := by decide +kernel
theorem dX8_stone_144 : decode cX8_stone 144 = .ok (.getfield 62, 3) := by decide +kernel
theorem dX8_stone_147 : decode cX8_stone 147 = .ok (.iconst 0, 1) := by decide +kernel
theorem dX8_stone_148 : decode cX8_stone 148 = .ok (.iconst 0, 1) := by decide +kernel
theorem dX8_stone_149 : decode cX8_stone 149 = .ok (.bastore, 1) := by decide +kernel
theorem dX8_stone_150 : decode cX8_stone 150 = .ok (.aload_n 0, 1) := by decide +kernel
theorem dX8_stone_151 : decode cX8_stone 151 = .ok (.getfield 62, 3) := by decide +kernel
theorem dX8_stone_154 : decode cX8_stone 154 = .ok (.iconst 1, 1) := by decide +kernel
theorem dX8_stone_155 : decode cX8_stone 155 = .ok (.iconst 0, 1) := by decide +kernel
theorem dX8_stone_156 : decode cX8_stone 156 = .ok (.bastore, 1) := by decide +kernel
theorem dX8_stone_157 : decode cX8_stone 157 = .ok (.aload_n 0, 1) := by decide +kernel
theorem dX8_stone_158 : decode cX8_stone 158 = .ok (.getfield 50, 3) := by decide +kernel
theorem dX8_stone_161 : decode cX8_stone 161 = .ok (.iconst 0, 1) := by decide +kernel
theorem dX8_stone_162 : decode cX8_stone 162 = .ok (.iaload, 1) := by decide +kernel
theorem dX8_stone_163 : decode cX8_stone 163 = .ok (.ireturn, 1) := by decide +kernel
theorem dX8_unitsOf_0 : decode cX8_unitsOf 0 = .ok (.iconst 0, 1) := by decide +kernel
theorem dX8_unitsOf_1 : decode cX8_unitsOf 1 = .ok (.istore_n 2, 1) := by decide +kernel
theorem dX8_unitsOf_2 : decode cX8_unitsOf 2 = .ok (.iconst 0, 1) := by decide +kernel
theorem dX8_unitsOf_3 : decode cX8_unitsOf 3 = .ok (.istore_n 3, 1) := by decide +kernel
theorem dX8_unitsOf_4 : decode cX8_unitsOf 4 = .ok (.iload_n 3, 1) := by decide +kernel
theorem dX8_unitsOf_5 : decode cX8_unitsOf 5 = .ok (.aload_n 0, 1) := by decide +kernel
theorem dX8_unitsOf_6 : decode cX8_unitsOf 6 = .ok (.getfield 16, 3) := by decide +kernel
theorem dX8_unitsOf_9 : decode cX8_unitsOf 9 = .ok (.iload_n 1, 1) := by decide +kernel
theorem dX8_unitsOf_10 : decode cX8_unitsOf 10 = .ok (.iaload, 1) := by decide +kernel
theorem dX8_unitsOf_11 : decode cX8_unitsOf 11 = .ok (.if_icmp .ge 27, 3) := by decide +kernel
theorem dX8_unitsOf_14 : decode cX8_unitsOf 14 = .ok (.iload_n 2, 1) := by decide +kernel
theorem dX8_unitsOf_15 : decode cX8_unitsOf 15 = .ok (.aload_n 0, 1) := by decide +kernel
theorem dX8_unitsOf_16 : decode cX8_unitsOf 16 = .ok (.getfield 13, 3) := by decide +kernel
theorem dX8_unitsOf_19 : decode cX8_unitsOf 19 = .ok (.aload_n 0, 1) := by decide +kernel
theorem dX8_unitsOf_20 : decode cX8_unitsOf 20 = .ok (.getfield 19, 3) := by decide +kernel
theorem dX8_unitsOf_23 : decode cX8_unitsOf 23 = .ok (.iconst 5, 1) := by decide +kernel
theorem dX8_unitsOf_24 : decode cX8_unitsOf 24 = .ok (.iload_n 1, 1) := by decide +kernel
theorem dX8_unitsOf_25 : decode cX8_unitsOf 25 = .ok (.imul, 1) := by decide +kernel
theorem dX8_unitsOf_26 : decode cX8_unitsOf 26 = .ok (.iload_n 3, 1) := by decide +kernel
theorem dX8_unitsOf_27 : decode cX8_unitsOf 27 = .ok (.iadd, 1) := by decide +kernel
theorem dX8_unitsOf_28 : decode cX8_unitsOf 28 = .ok (.iaload, 1) := by decide +kernel
theorem dX8_unitsOf_29 : decode cX8_unitsOf 29 = .ok (.iaload, 1) := by decide +kernel
theorem dX8_unitsOf_30 : decode cX8_unitsOf 30 = .ok (.iadd, 1) := by decide +kernel
theorem dX8_unitsOf_31 : decode cX8_unitsOf 31 = .ok (.istore_n 2, 1) := by decide +kernel
theorem dX8_unitsOf_32 : decode cX8_unitsOf 32 = .ok (.iinc 3 1, 3) := by decide +kernel
theorem dX8_unitsOf_35 : decode cX8_unitsOf 35 = .ok (.goto (-31), 3) := by decide +kernel
theorem dX8_unitsOf_38 : decode cX8_unitsOf 38 = .ok (.iload_n 2, 1) := by decide +kernel
theorem dX8_unitsOf_39 : decode cX8_unitsOf 39 = .ok (.ireturn, 1) := by decide +kernel
theorem dX8_word_0 : decode cX8_word 0 = .ok (.aload_n 0, 1) := by decide +kernel
theorem dX8_word_1 : decode cX8_word 1 = .ok (.iconst 0, 1) := by decide +kernel
theorem dX8_word_2 : decode cX8_word 2 = .ok (.putfield 94, 3) := by decide +kernel
theorem dX8_word_5 : decode cX8_word 5 = .ok (.aload_n 0, 1) := by decide +kernel
theorem dX8_word_6 : decode cX8_word 6 = .ok (.iload_n 1, 1) := by decide +kernel
theorem dX8_word_7 : decode cX8_word 7 = .ok (.invokevirtual 148, 3) := by decide +kernel
theorem dX8_word_10 : decode cX8_word 10 = .ok (.ifCond .eq 5, 3) := by decide +kernel
theorem dX8_word_13 : decode cX8_word 13 = .ok (.iconst (-1), 1) := by decide +kernel
theorem dX8_word_14 : decode cX8_word 14 = .ok (.ireturn, 1) := by decide +kernel
theorem dX8_word_15 : decode cX8_word 15 = .ok (.iload_n 2, 1) := by decide +kernel
theorem dX8_word_16 : decode cX8_word 16 = .ok (.tableswitch 110 0 6 #[44, 51, 58, 65, 75, 81, 92], 44) := by decide +kernel
theorem dX8_word_60 : decode cX8_word 60 = .ok (.aload_n 0, 1) := by decide +kernel
theorem dX8_word_61 : decode cX8_word 61 = .ok (.getfield 16, 3) := by decide +kernel
theorem dX8_word_64 : decode cX8_word 64 = .ok (.iload_n 1, 1) := by decide +kernel
theorem dX8_word_65 : decode cX8_word 65 = .ok (.iaload, 1) := by decide +kernel
theorem dX8_word_66 : decode cX8_word 66 = .ok (.ireturn, 1) := by decide +kernel
theorem dX8_word_67 : decode cX8_word 67 = .ok (.aload_n 0, 1) := by decide +kernel
theorem dX8_word_68 : decode cX8_word 68 = .ok (.getfield 22, 3) := by decide +kernel
theorem dX8_word_71 : decode cX8_word 71 = .ok (.iload_n 1, 1) := by decide +kernel
theorem dX8_word_72 : decode cX8_word 72 = .ok (.iaload, 1) := by decide +kernel
theorem dX8_word_73 : decode cX8_word 73 = .ok (.ireturn, 1) := by decide +kernel
theorem dX8_word_74 : decode cX8_word 74 = .ok (.aload_n 0, 1) := by decide +kernel
theorem dX8_word_75 : decode cX8_word 75 = .ok (.getfield 25, 3) := by decide +kernel
theorem dX8_word_78 : decode cX8_word 78 = .ok (.iload_n 1, 1) := by decide +kernel
theorem dX8_word_79 : decode cX8_word 79 = .ok (.iaload, 1) := by decide +kernel
theorem dX8_word_80 : decode cX8_word 80 = .ok (.ireturn, 1) := by decide +kernel
theorem dX8_word_81 : decode cX8_word 81 = .ok (.aload_n 0, 1) := by decide +kernel
theorem dX8_word_82 : decode cX8_word 82 = .ok (.getfield 50, 3) := by decide +kernel
theorem dX8_word_85 : decode cX8_word 85 = .ok (.bipush 11, 2) := by decide +kernel
theorem dX8_word_87 : decode cX8_word 87 = .ok (.iload_n 1, 1) := by decide +kernel
theorem dX8_word_88 : decode cX8_word 88 = .ok (.iadd, 1) := by decide +kernel
theorem dX8_word_89 : decode cX8_word 89 = .ok (.iaload, 1) := by decide +kernel
theorem dX8_word_90 : decode cX8_word 90 = .ok (.ireturn, 1) := by decide +kernel
theorem dX8_word_91 : decode cX8_word 91 = .ok (.aload_n 0, 1) := by decide +kernel
theorem dX8_word_92 : decode cX8_word 92 = .ok (.iload_n 1, 1) := by decide +kernel
theorem dX8_word_93 : decode cX8_word 93 = .ok (.invokevirtual 152, 3) := by decide +kernel
theorem dX8_word_96 : decode cX8_word 96 = .ok (.ireturn, 1) := by decide +kernel
theorem dX8_word_97 : decode cX8_word 97 = .ok (.aload_n 0, 1) := by decide +kernel
theorem dX8_word_98 : decode cX8_word 98 = .ok (.getfield 50, 3) := by decide +kernel
theorem dX8_word_101 : decode cX8_word 101 = .ok (.iconst 1, 1) := by decide +kernel
theorem dX8_word_102 : decode cX8_word 102 = .ok (.iaload, 1) := by decide +kernel
theorem dX8_word_103 : decode cX8_word 103 = .ok (.iload_n 1, 1) := by decide +kernel
theorem dX8_word_104 : decode cX8_word 104 = .ok (.ishr, 1) := by decide +kernel
theorem dX8_word_105 : decode cX8_word 105 = .ok (.iconst 1, 1) := by decide +kernel
theorem dX8_word_106 : decode cX8_word 106 = .ok (.iand, 1) := by decide +kernel
theorem dX8_word_107 : decode cX8_word 107 = .ok (.ireturn, 1) := by decide +kernel
theorem dX8_word_108 : decode cX8_word 108 = .ok (.aload_n 0, 1) := by decide +kernel
theorem dX8_word_109 : decode cX8_word 109 = .ok (.getfield 19, 3) := by decide +kernel
theorem dX8_word_112 : decode cX8_word 112 = .ok (.iconst 5, 1) := by decide +kernel
theorem dX8_word_113 : decode cX8_word 113 = .ok (.iload_n 1, 1) := by decide +kernel
theorem dX8_word_114 : decode cX8_word 114 = .ok (.imul, 1) := by decide +kernel
theorem dX8_word_115 : decode cX8_word 115 = .ok (.aload_n 0, 1) := by decide +kernel
theorem dX8_word_116 : decode cX8_word 116 = .ok (.getfield 16, 3) := by decide +kernel
theorem dX8_word_119 : decode cX8_word 119 = .ok (.iload_n 1, 1) := by decide +kernel
theorem dX8_word_120 : decode cX8_word 120 = .ok (.iaload, 1) := by decide +kernel
theorem dX8_word_121 : decode cX8_word 121 = .ok (.iadd, 1) := by decide +kernel
theorem dX8_word_122 : decode cX8_word 122 = .ok (.iconst 1, 1) := by decide +kernel
theorem dX8_word_123 : decode cX8_word 123 = .ok (.isub, 1) := by decide +kernel
theorem dX8_word_124 : decode cX8_word 124 = .ok (.iaload, 1) := by decide +kernel
theorem dX8_word_125 : decode cX8_word 125 = .ok (.ireturn, 1) := by decide +kernel
theorem dX8_word_126 : decode cX8_word 126 = .ok (.bipush (-2), 2) := by decide +kernel
theorem dX8_word_128 : decode cX8_word 128 = .ok (.ireturn, 1) := by decide +kernel
theorem dX8_line_0 : decode cX8_line 0 = .ok (.aload_n 0, 1) := by decide +kernel
theorem dX8_line_1 : decode cX8_line 1 = .ok (.iconst 0, 1) := by decide +kernel
theorem dX8_line_2 : decode cX8_line 2 = .ok (.putfield 94, 3) := by decide +kernel
theorem dX8_line_5 : decode cX8_line 5 = .ok (.aload_n 0, 1) := by decide +kernel
theorem dX8_line_6 : decode cX8_line 6 = .ok (.iload_n 1, 1) := by decide +kernel
theorem dX8_line_7 : decode cX8_line 7 = .ok (.invokevirtual 155, 3) := by decide +kernel
theorem dX8_line_10 : decode cX8_line 10 = .ok (.ifCond .eq 7, 3) := by decide +kernel
theorem dX8_line_13 : decode cX8_line 13 = .ok (.iconst (-1), 1) := by decide +kernel
theorem dX8_line_14 : decode cX8_line 14 = .ok (.goto 12, 3) := by decide +kernel
theorem dX8_line_17 : decode cX8_line 17 = .ok (.aload_n 0, 1) := by decide +kernel
theorem dX8_line_18 : decode cX8_line 18 = .ok (.getfield 50, 3) := by decide +kernel
theorem dX8_line_21 : decode cX8_line 21 = .ok (.bipush 19, 2) := by decide +kernel
theorem dX8_line_23 : decode cX8_line 23 = .ok (.iload_n 1, 1) := by decide +kernel
theorem dX8_line_24 : decode cX8_line 24 = .ok (.iadd, 1) := by decide +kernel
theorem dX8_line_25 : decode cX8_line 25 = .ok (.iaload, 1) := by decide +kernel
theorem dX8_line_26 : decode cX8_line 26 = .ok (.ireturn, 1) := by decide +kernel
theorem dX8_rule_0 : decode cX8_rule 0 = .ok (.aload_n 0, 1) := by decide +kernel
theorem dX8_rule_1 : decode cX8_rule 1 = .ok (.iconst 0, 1) := by decide +kernel
theorem dX8_rule_2 : decode cX8_rule 2 = .ok (.putfield 94, 3) := by decide +kernel
theorem dX8_rule_5 : decode cX8_rule 5 = .ok (.iload_n 1, 1) := by decide +kernel
theorem dX8_rule_6 : decode cX8_rule 6 = .ok (.i2l, 1) := by decide +kernel
theorem dX8_rule_7 : decode cX8_rule 7 = .ok (.lconst 0, 1) := by decide +kernel
theorem dX8_rule_8 : decode cX8_rule 8 = .ok (.ldc2_w 158, 3) := by decide +kernel
theorem dX8_rule_11 : decode cX8_rule 11 = .ok (.invokestatic 101, 3) := by decide +kernel
theorem dX8_rule_14 : decode cX8_rule 14 = .ok (.ifCond .eq 30, 3) := by decide +kernel
theorem dX8_rule_17 : decode cX8_rule 17 = .ok (.iload_n 2, 1) := by decide +kernel
theorem dX8_rule_18 : decode cX8_rule 18 = .ok (.i2l, 1) := by decide +kernel
theorem dX8_rule_19 : decode cX8_rule 19 = .ok (.lconst 0, 1) := by decide +kernel
theorem dX8_rule_20 : decode cX8_rule 20 = .ok (.ldc2_w 158, 3) := by decide +kernel
theorem dX8_rule_23 : decode cX8_rule 23 = .ok (.invokestatic 101, 3) := by decide +kernel
theorem dX8_rule_26 : decode cX8_rule 26 = .ok (.ifCond .eq 18, 3) := by decide +kernel
theorem dX8_rule_29 : decode cX8_rule 29 = .ok (.aload_n 0, 1) := by decide +kernel
theorem dX8_rule_30 : decode cX8_rule 30 = .ok (.getfield 50, 3) := by decide +kernel
theorem dX8_rule_33 : decode cX8_rule 33 = .ok (.iconst 2, 1) := by decide +kernel
theorem dX8_rule_34 : decode cX8_rule 34 = .ok (.iconst 3, 1) := by decide +kernel
theorem dX8_rule_35 : decode cX8_rule 35 = .ok (.iload_n 1, 1) := by decide +kernel
theorem dX8_rule_36 : decode cX8_rule 36 = .ok (.imul, 1) := by decide +kernel
theorem dX8_rule_37 : decode cX8_rule 37 = .ok (.iadd, 1) := by decide +kernel
theorem dX8_rule_38 : decode cX8_rule 38 = .ok (.iload_n 2, 1) := by decide +kernel
theorem dX8_rule_39 : decode cX8_rule 39 = .ok (.iadd, 1) := by decide +kernel
theorem dX8_rule_40 : decode cX8_rule 40 = .ok (.iaload, 1) := by decide +kernel
theorem dX8_rule_41 : decode cX8_rule 41 = .ok (.goto 5, 3) := by decide +kernel
theorem dX8_rule_44 : decode cX8_rule 44 = .ok (.bipush (-2), 2) := by decide +kernel
theorem dX8_rule_46 : decode cX8_rule 46 = .ok (.ireturn, 1) := by decide +kernel
theorem dX8_isInGaps_0 : decode cX8_isInGaps 0 = .ok (.iload_n 2, 1) := by decide +kernel
theorem dX8_isInGaps_1 : decode cX8_isInGaps 1 = .ok (.aload_n 0, 1) := by decide +kernel
theorem dX8_isInGaps_2 : decode cX8_isInGaps 2 = .ok (.getfield 13, 3) := by decide +kernel
theorem dX8_isInGaps_5 : decode cX8_isInGaps 5 = .ok (.iload_n 3, 1) := by decide +kernel
theorem dX8_isInGaps_6 : decode cX8_isInGaps 6 = .ok (.iaload, 1) := by decide +kernel
theorem dX8_isInGaps_7 : decode cX8_isInGaps 7 = .ok (.iadd, 1) := by decide +kernel
theorem dX8_isInGaps_8 : decode cX8_isInGaps 8 = .ok (.aload_n 1, 1) := by decide +kernel
theorem dX8_isInGaps_9 : decode cX8_isInGaps 9 = .ok (.iconst 0, 1) := by decide +kernel
theorem dX8_isInGaps_10 : decode cX8_isInGaps 10 = .ok (.iaload, 1) := by decide +kernel
theorem dX8_isInGaps_11 : decode cX8_isInGaps 11 = .ok (.if_icmp .gt 7, 3) := by decide +kernel
theorem dX8_isInGaps_14 : decode cX8_isInGaps 14 = .ok (.iconst 1, 1) := by decide +kernel
theorem dX8_isInGaps_15 : decode cX8_isInGaps 15 = .ok (.goto 4, 3) := by decide +kernel
theorem dX8_isInGaps_18 : decode cX8_isInGaps 18 = .ok (.iconst 0, 1) := by decide +kernel
theorem dX8_isInGaps_19 : decode cX8_isInGaps 19 = .ok (.istore 4, 2) := by decide +kernel
theorem dX8_isInGaps_21 : decode cX8_isInGaps 21 = .ok (.iconst 0, 1) := by decide +kernel
theorem dX8_isInGaps_22 : decode cX8_isInGaps 22 = .ok (.istore 5, 2) := by decide +kernel
theorem dX8_isInGaps_24 : decode cX8_isInGaps 24 = .ok (.iload 5, 2) := by decide +kernel
theorem dX8_isInGaps_26 : decode cX8_isInGaps 26 = .ok (.aload_n 0, 1) := by decide +kernel
theorem dX8_isInGaps_27 : decode cX8_isInGaps 27 = .ok (.getfield 13, 3) := by decide +kernel
theorem dX8_isInGaps_30 : decode cX8_isInGaps 30 = .ok (.iload_n 3, 1) := by decide +kernel
theorem dX8_isInGaps_31 : decode cX8_isInGaps 31 = .ok (.iaload, 1) := by decide +kernel
theorem dX8_isInGaps_32 : decode cX8_isInGaps 32 = .ok (.if_icmp .ge 35, 3) := by decide +kernel
theorem dX8_isInGaps_35 : decode cX8_isInGaps 35 = .ok (.iload 4, 2) := by decide +kernel
theorem dX8_isInGaps_37 : decode cX8_isInGaps 37 = .ok (.ifCond .eq 30, 3) := by decide +kernel
theorem dX8_isInGaps_40 : decode cX8_isInGaps 40 = .ok (.aload_n 1, 1) := by decide +kernel
theorem dX8_isInGaps_41 : decode cX8_isInGaps 41 = .ok (.bipush 19, 2) := by decide +kernel
theorem dX8_isInGaps_43 : decode cX8_isInGaps 43 = .ok (.iload_n 2, 1) := by decide +kernel
theorem dX8_isInGaps_44 : decode cX8_isInGaps 44 = .ok (.iadd, 1) := by decide +kernel
theorem dX8_isInGaps_45 : decode cX8_isInGaps 45 = .ok (.iload 5, 2) := by decide +kernel
theorem dX8_isInGaps_47 : decode cX8_isInGaps 47 = .ok (.iadd, 1) := by decide +kernel
theorem dX8_isInGaps_48 : decode cX8_isInGaps 48 = .ok (.iaload, 1) := by decide +kernel
theorem dX8_isInGaps_49 : decode cX8_isInGaps 49 = .ok (.bipush 7, 2) := by decide +kernel
theorem dX8_isInGaps_51 : decode cX8_isInGaps 51 = .ok (.if_icmp .ne 7, 3) := by decide +kernel
theorem dX8_isInGaps_54 : decode cX8_isInGaps 54 = .ok (.iconst 1, 1) := by decide +kernel
theorem dX8_isInGaps_55 : decode cX8_isInGaps 55 = .ok (.goto 4, 3) := by decide +kernel
theorem dX8_isInGaps_58 : decode cX8_isInGaps 58 = .ok (.iconst 0, 1) := by decide +kernel
theorem dX8_isInGaps_59 : decode cX8_isInGaps 59 = .ok (.istore 4, 2) := by decide +kernel
theorem dX8_isInGaps_61 : decode cX8_isInGaps 61 = .ok (.iinc 5 1, 3) := by decide +kernel
theorem dX8_isInGaps_64 : decode cX8_isInGaps 64 = .ok (.goto (-40), 3) := by decide +kernel
theorem dX8_isInGaps_67 : decode cX8_isInGaps 67 = .ok (.iload 4, 2) := by decide +kernel
theorem dX8_isInGaps_69 : decode cX8_isInGaps 69 = .ok (.ireturn, 1) := by decide +kernel
theorem dX8_canLie_0 : decode cX8_canLie 0 = .ok (.iload_n 2, 1) := by decide +kernel
theorem dX8_canLie_1 : decode cX8_canLie 1 = .ok (.aload_n 1, 1) := by decide +kernel
theorem dX8_canLie_2 : decode cX8_canLie 2 = .ok (.iconst 0, 1) := by decide +kernel
theorem dX8_canLie_3 : decode cX8_canLie 3 = .ok (.iaload, 1) := by decide +kernel
theorem dX8_canLie_4 : decode cX8_canLie 4 = .ok (.if_icmp .ge 27, 3) := by decide +kernel
theorem dX8_canLie_7 : decode cX8_canLie 7 = .ok (.aload_n 1, 1) := by decide +kernel
theorem dX8_canLie_8 : decode cX8_canLie 8 = .ok (.bipush 19, 2) := by decide +kernel
theorem dX8_canLie_10 : decode cX8_canLie 10 = .ok (.iload_n 2, 1) := by decide +kernel
theorem dX8_canLie_11 : decode cX8_canLie 11 = .ok (.iadd, 1) := by decide +kernel
theorem dX8_canLie_12 : decode cX8_canLie 12 = .ok (.iaload, 1) := by decide +kernel
theorem dX8_canLie_13 : decode cX8_canLie 13 = .ok (.iload_n 3, 1) := by decide +kernel
theorem dX8_canLie_14 : decode cX8_canLie 14 = .ok (.if_icmp .eq 13, 3) := by decide +kernel
theorem dX8_canLie_17 : decode cX8_canLie 17 = .ok (.aload_n 0, 1) := by decide +kernel
theorem dX8_canLie_18 : decode cX8_canLie 18 = .ok (.aload_n 1, 1) := by decide +kernel
theorem dX8_canLie_19 : decode cX8_canLie 19 = .ok (.iload_n 2, 1) := by decide +kernel
theorem dX8_canLie_20 : decode cX8_canLie 20 = .ok (.iload_n 3, 1) := by decide +kernel
theorem dX8_canLie_21 : decode cX8_canLie 21 = .ok (.invokevirtual 160, 3) := by decide +kernel
theorem dX8_canLie_24 : decode cX8_canLie 24 = .ok (.ifCond .eq 7, 3) := by decide +kernel
theorem dX8_canLie_27 : decode cX8_canLie 27 = .ok (.iconst 1, 1) := by decide +kernel
theorem dX8_canLie_28 : decode cX8_canLie 28 = .ok (.goto 4, 3) := by decide +kernel
theorem dX8_canLie_31 : decode cX8_canLie 31 = .ok (.iconst 0, 1) := by decide +kernel
theorem dX8_canLie_32 : decode cX8_canLie 32 = .ok (.ireturn, 1) := by decide +kernel
theorem dX8_wordLies_0 : decode cX8_wordLies 0 = .ok (.iconst 1, 1) := by decide +kernel
theorem dX8_wordLies_1 : decode cX8_wordLies 1 = .ok (.istore 4, 2) := by decide +kernel
theorem dX8_wordLies_3 : decode cX8_wordLies 3 = .ok (.iload_n 3, 1) := by decide +kernel
theorem dX8_wordLies_4 : decode cX8_wordLies 4 = .ok (.istore 5, 2) := by decide +kernel
theorem dX8_wordLies_6 : decode cX8_wordLies 6 = .ok (.iconst 0, 1) := by decide +kernel
theorem dX8_wordLies_7 : decode cX8_wordLies 7 = .ok (.istore 6, 2) := by decide +kernel
theorem dX8_wordLies_9 : decode cX8_wordLies 9 = .ok (.iload 6, 2) := by decide +kernel
theorem dX8_wordLies_11 : decode cX8_wordLies 11 = .ok (.aload_n 0, 1) := by decide +kernel
theorem dX8_wordLies_12 : decode cX8_wordLies 12 = .ok (.getfield 16, 3) := by decide +kernel
theorem dX8_wordLies_15 : decode cX8_wordLies 15 = .ok (.iload_n 2, 1) := by decide +kernel
theorem dX8_wordLies_16 : decode cX8_wordLies 16 = .ok (.iaload, 1) := by decide +kernel
theorem dX8_wordLies_17 : decode cX8_wordLies 17 = .ok (.if_icmp .ge 50, 3) := by decide +kernel
theorem dX8_wordLies_20 : decode cX8_wordLies 20 = .ok (.iload 4, 2) := by decide +kernel
theorem dX8_wordLies_22 : decode cX8_wordLies 22 = .ok (.ifCond .eq 45, 3) := by decide +kernel
theorem dX8_wordLies_25 : decode cX8_wordLies 25 = .ok (.aload_n 0, 1) := by decide +kernel
theorem dX8_wordLies_26 : decode cX8_wordLies 26 = .ok (.getfield 19, 3) := by decide +kernel
theorem dX8_wordLies_29 : decode cX8_wordLies 29 = .ok (.iconst 5, 1) := by decide +kernel
theorem dX8_wordLies_30 : decode cX8_wordLies 30 = .ok (.iload_n 2, 1) := by decide +kernel
theorem dX8_wordLies_31 : decode cX8_wordLies 31 = .ok (.imul, 1) := by decide +kernel
theorem dX8_wordLies_32 : decode cX8_wordLies 32 = .ok (.iload 6, 2) := by decide +kernel
theorem dX8_wordLies_34 : decode cX8_wordLies 34 = .ok (.iadd, 1) := by decide +kernel
theorem dX8_wordLies_35 : decode cX8_wordLies 35 = .ok (.iaload, 1) := by decide +kernel
theorem dX8_wordLies_36 : decode cX8_wordLies 36 = .ok (.istore 7, 2) := by decide +kernel
theorem dX8_wordLies_38 : decode cX8_wordLies 38 = .ok (.aload_n 0, 1) := by decide +kernel
theorem dX8_wordLies_39 : decode cX8_wordLies 39 = .ok (.aload_n 1, 1) := by decide +kernel
theorem dX8_wordLies_40 : decode cX8_wordLies 40 = .ok (.iload 5, 2) := by decide +kernel
theorem dX8_wordLies_42 : decode cX8_wordLies 42 = .ok (.iload 7, 2) := by decide +kernel
theorem dX8_wordLies_44 : decode cX8_wordLies 44 = .ok (.invokevirtual 164, 3) := by decide +kernel
theorem dX8_wordLies_47 : decode cX8_wordLies 47 = .ok (.istore 4, 2) := by decide +kernel
theorem dX8_wordLies_49 : decode cX8_wordLies 49 = .ok (.iload 5, 2) := by decide +kernel
theorem dX8_wordLies_51 : decode cX8_wordLies 51 = .ok (.aload_n 0, 1) := by decide +kernel
theorem dX8_wordLies_52 : decode cX8_wordLies 52 = .ok (.getfield 13, 3) := by decide +kernel
theorem dX8_wordLies_55 : decode cX8_wordLies 55 = .ok (.iload 7, 2) := by decide +kernel
theorem dX8_wordLies_57 : decode cX8_wordLies 57 = .ok (.iaload, 1) := by decide +kernel
theorem dX8_wordLies_58 : decode cX8_wordLies 58 = .ok (.iadd, 1) := by decide +kernel
theorem dX8_wordLies_59 : decode cX8_wordLies 59 = .ok (.istore 5, 2) := by decide +kernel
theorem dX8_wordLies_61 : decode cX8_wordLies 61 = .ok (.iinc 6 1, 3) := by decide +kernel
theorem dX8_wordLies_64 : decode cX8_wordLies 64 = .ok (.goto (-55), 3) := by decide +kernel
theorem dX8_wordLies_67 : decode cX8_wordLies 67 = .ok (.iload 4, 2) := by decide +kernel
theorem dX8_wordLies_69 : decode cX8_wordLies 69 = .ok (.ireturn, 1) := by decide +kernel
theorem dX8_mayFollow_0 : decode cX8_mayFollow 0 = .ok (.iload_n 3, 1) := by decide +kernel
theorem dX8_mayFollow_1 : decode cX8_mayFollow 1 = .ok (.bipush 8, 2) := by decide +kernel
theorem dX8_mayFollow_3 : decode cX8_mayFollow 3 = .ok (.if_icmp .ne 5, 3) := by decide +kernel
theorem dX8_mayFollow_6 : decode cX8_mayFollow 6 = .ok (.iconst 1, 1) := by decide +kernel
theorem dX8_mayFollow_7 : decode cX8_mayFollow 7 = .ok (.ireturn, 1) := by decide +kernel
theorem dX8_mayFollow_8 : decode cX8_mayFollow 8 = .ok (.aload_n 1, 1) := by decide +kernel
theorem dX8_mayFollow_9 : decode cX8_mayFollow 9 = .ok (.iconst 2, 1) := by decide +kernel
theorem dX8_mayFollow_10 : decode cX8_mayFollow 10 = .ok (.iconst 3, 1) := by decide +kernel
theorem dX8_mayFollow_11 : decode cX8_mayFollow 11 = .ok (.aload_n 0, 1) := by decide +kernel
theorem dX8_mayFollow_12 : decode cX8_mayFollow 12 = .ok (.getfield 22, 3) := by decide +kernel
theorem dX8_mayFollow_15 : decode cX8_mayFollow 15 = .ok (.iload_n 3, 1) := by decide +kernel
theorem dX8_mayFollow_16 : decode cX8_mayFollow 16 = .ok (.iaload, 1) := by decide +kernel
theorem dX8_mayFollow_17 : decode cX8_mayFollow 17 = .ok (.imul, 1) := by decide +kernel
theorem dX8_mayFollow_18 : decode cX8_mayFollow 18 = .ok (.iadd, 1) := by decide +kernel
theorem dX8_mayFollow_19 : decode cX8_mayFollow 19 = .ok (.aload_n 0, 1) := by decide +kernel
theorem dX8_mayFollow_20 : decode cX8_mayFollow 20 = .ok (.getfield 22, 3) := by decide +kernel
theorem dX8_mayFollow_23 : decode cX8_mayFollow 23 = .ok (.iload_n 2, 1) := by decide +kernel
theorem dX8_mayFollow_24 : decode cX8_mayFollow 24 = .ok (.iaload, 1) := by decide +kernel
theorem dX8_mayFollow_25 : decode cX8_mayFollow 25 = .ok (.iadd, 1) := by decide +kernel
theorem dX8_mayFollow_26 : decode cX8_mayFollow 26 = .ok (.iaload, 1) := by decide +kernel
theorem dX8_mayFollow_27 : decode cX8_mayFollow 27 = .ok (.istore 4, 2) := by decide +kernel
theorem dX8_mayFollow_29 : decode cX8_mayFollow 29 = .ok (.iload 4, 2) := by decide +kernel
theorem dX8_mayFollow_31 : decode cX8_mayFollow 31 = .ok (.iconst 1, 1) := by decide +kernel
theorem dX8_mayFollow_32 : decode cX8_mayFollow 32 = .ok (.if_icmp .eq 24, 3) := by decide +kernel
theorem dX8_mayFollow_35 : decode cX8_mayFollow 35 = .ok (.iload 4, 2) := by decide +kernel
theorem dX8_mayFollow_37 : decode cX8_mayFollow 37 = .ok (.iconst 2, 1) := by decide +kernel
theorem dX8_mayFollow_38 : decode cX8_mayFollow 38 = .ok (.if_icmp .ne 22, 3) := by decide +kernel
theorem dX8_mayFollow_41 : decode cX8_mayFollow 41 = .ok (.aload_n 0, 1) := by decide +kernel
theorem dX8_mayFollow_42 : decode cX8_mayFollow 42 = .ok (.getfield 25, 3) := by decide +kernel
theorem dX8_mayFollow_45 : decode cX8_mayFollow 45 = .ok (.iload_n 3, 1) := by decide +kernel
theorem dX8_mayFollow_46 : decode cX8_mayFollow 46 = .ok (.iaload, 1) := by decide +kernel
theorem dX8_mayFollow_47 : decode cX8_mayFollow 47 = .ok (.aload_n 0, 1) := by decide +kernel
theorem dX8_mayFollow_48 : decode cX8_mayFollow 48 = .ok (.getfield 25, 3) := by decide +kernel
theorem dX8_mayFollow_51 : decode cX8_mayFollow 51 = .ok (.iload_n 2, 1) := by decide +kernel
theorem dX8_mayFollow_52 : decode cX8_mayFollow 52 = .ok (.iaload, 1) := by decide +kernel
theorem dX8_mayFollow_53 : decode cX8_mayFollow 53 = .ok (.if_icmp .ne 7, 3) := by decide +kernel
theorem dX8_mayFollow_56 : decode cX8_mayFollow 56 = .ok (.iconst 1, 1) := by decide +kernel
theorem dX8_mayFollow_57 : decode cX8_mayFollow 57 = .ok (.goto 4, 3) := by decide +kernel
theorem dX8_mayFollow_60 : decode cX8_mayFollow 60 = .ok (.iconst 0, 1) := by decide +kernel
theorem dX8_mayFollow_61 : decode cX8_mayFollow 61 = .ok (.ireturn, 1) := by decide +kernel
theorem dX8_note_0 : decode cX8_note 0 = .ok (.aload_n 0, 1) := by decide +kernel
theorem dX8_note_1 : decode cX8_note 1 = .ok (.getfield 145, 3) := by decide +kernel
theorem dX8_note_4 : decode cX8_note 4 = .ok (.bipush 14, 2) := by decide +kernel
theorem dX8_note_6 : decode cX8_note 6 = .ok (.if_icmp .ne 43, 3) := by decide +kernel
theorem dX8_note_9 : decode cX8_note 9 = .ok (.iconst 0, 1) := by decide +kernel
theorem dX8_note_10 : decode cX8_note 10 = .ok (.istore_n 1, 1) := by decide +kernel
theorem dX8_note_11 : decode cX8_note 11 = .ok (.iload_n 1, 1) := by decide +kernel
theorem dX8_note_12 : decode cX8_note 12 = .ok (.sipush 559, 3) := by decide +kernel
theorem dX8_note_15 : decode cX8_note 15 = .ok (.if_icmp .ge 24, 3) := by decide +kernel
theorem dX8_note_18 : decode cX8_note 18 = .ok (.aload_n 0, 1) := by decide +kernel
theorem dX8_note_19 : decode cX8_note 19 = .ok (.getfield 56, 3) := by decide +kernel
theorem dX8_note_22 : decode cX8_note 22 = .ok (.iload_n 1, 1) := by decide +kernel
theorem dX8_note_23 : decode cX8_note 23 = .ok (.aload_n 0, 1) := by decide +kernel
theorem dX8_note_24 : decode cX8_note 24 = .ok (.getfield 56, 3) := by decide +kernel
theorem dX8_note_27 : decode cX8_note 27 = .ok (.iload_n 1, 1) := by decide +kernel
theorem dX8_note_28 : decode cX8_note 28 = .ok (.bipush 43, 2) := by decide +kernel
theorem dX8_note_30 : decode cX8_note 30 = .ok (.iadd, 1) := by decide +kernel
theorem dX8_note_31 : decode cX8_note 31 = .ok (.iaload, 1) := by decide +kernel
theorem dX8_note_32 : decode cX8_note 32 = .ok (.iastore, 1) := by decide +kernel
theorem dX8_note_33 : decode cX8_note 33 = .ok (.iinc 1 1, 3) := by decide +kernel
theorem dX8_note_36 : decode cX8_note 36 = .ok (.goto (-25), 3) := by decide +kernel
theorem dX8_note_39 : decode cX8_note 39 = .ok (.aload_n 0, 1) := by decide +kernel
theorem dX8_note_40 : decode cX8_note 40 = .ok (.dup, 1) := by decide +kernel
theorem dX8_note_41 : decode cX8_note 41 = .ok (.getfield 145, 3) := by decide +kernel
theorem dX8_note_44 : decode cX8_note 44 = .ok (.iconst 1, 1) := by decide +kernel
theorem dX8_note_45 : decode cX8_note 45 = .ok (.isub, 1) := by decide +kernel
theorem dX8_note_46 : decode cX8_note 46 = .ok (.putfield 145, 3) := by decide +kernel
theorem dX8_note_49 : decode cX8_note 49 = .ok (.iconst 0, 1) := by decide +kernel
theorem dX8_note_50 : decode cX8_note 50 = .ok (.istore_n 1, 1) := by decide +kernel
theorem dX8_note_51 : decode cX8_note 51 = .ok (.iload_n 1, 1) := by decide +kernel
theorem dX8_note_52 : decode cX8_note 52 = .ok (.bipush 43, 2) := by decide +kernel
theorem dX8_note_54 : decode cX8_note 54 = .ok (.if_icmp .ge 29, 3) := by decide +kernel
theorem dX8_note_57 : decode cX8_note 57 = .ok (.aload_n 0, 1) := by decide +kernel
theorem dX8_note_58 : decode cX8_note 58 = .ok (.getfield 56, 3) := by decide +kernel
theorem dX8_note_61 : decode cX8_note 61 = .ok (.bipush 43, 2) := by decide +kernel
theorem dX8_note_63 : decode cX8_note 63 = .ok (.aload_n 0, 1) := by decide +kernel
theorem dX8_note_64 : decode cX8_note 64 = .ok (.getfield 145, 3) := by decide +kernel
theorem dX8_note_67 : decode cX8_note 67 = .ok (.imul, 1) := by decide +kernel
theorem dX8_note_68 : decode cX8_note 68 = .ok (.iload_n 1, 1) := by decide +kernel
theorem dX8_note_69 : decode cX8_note 69 = .ok (.iadd, 1) := by decide +kernel
theorem dX8_note_70 : decode cX8_note 70 = .ok (.aload_n 0, 1) := by decide +kernel
theorem dX8_note_71 : decode cX8_note 71 = .ok (.getfield 50, 3) := by decide +kernel
theorem dX8_note_74 : decode cX8_note 74 = .ok (.iload_n 1, 1) := by decide +kernel
theorem dX8_note_75 : decode cX8_note 75 = .ok (.iaload, 1) := by decide +kernel
theorem dX8_note_76 : decode cX8_note 76 = .ok (.iastore, 1) := by decide +kernel
theorem dX8_note_77 : decode cX8_note 77 = .ok (.iinc 1 1, 3) := by decide +kernel
theorem dX8_note_80 : decode cX8_note 80 = .ok (.goto (-29), 3) := by decide +kernel
theorem dX8_note_83 : decode cX8_note 83 = .ok (.aload_n 0, 1) := by decide +kernel
theorem dX8_note_84 : decode cX8_note 84 = .ok (.dup, 1) := by decide +kernel
theorem dX8_note_85 : decode cX8_note 85 = .ok (.getfield 145, 3) := by decide +kernel
theorem dX8_note_88 : decode cX8_note 88 = .ok (.iconst 1, 1) := by decide +kernel
theorem dX8_note_89 : decode cX8_note 89 = .ok (.iadd, 1) := by decide +kernel
theorem dX8_note_90 : decode cX8_note 90 = .ok (.putfield 145, 3) := by decide +kernel
theorem dX8_note_93 : decode cX8_note 93 = .ok (.return_, 1) := by decide +kernel
theorem dX8_gaps_0 : decode cX8_gaps 0 = .ok (.iconst 0, 1) := by decide +kernel
theorem dX8_gaps_1 : decode cX8_gaps 1 = .ok (.istore_n 2, 1) := by decide +kernel
theorem dX8_gaps_2 : decode cX8_gaps 2 = .ok (.iconst 0, 1) := by decide +kernel
theorem dX8_gaps_3 : decode cX8_gaps 3 = .ok (.istore_n 3, 1) := by decide +kernel
theorem dX8_gaps_4 : decode cX8_gaps 4 = .ok (.iload_n 3, 1) := by decide +kernel
theorem dX8_gaps_5 : decode cX8_gaps 5 = .ok (.aload_n 1, 1) := by decide +kernel
theorem dX8_gaps_6 : decode cX8_gaps 6 = .ok (.iconst 0, 1) := by decide +kernel
theorem dX8_gaps_7 : decode cX8_gaps 7 = .ok (.iaload, 1) := by decide +kernel
theorem dX8_gaps_8 : decode cX8_gaps 8 = .ok (.if_icmp .ge 28, 3) := by decide +kernel
theorem dX8_gaps_11 : decode cX8_gaps 11 = .ok (.iload_n 2, 1) := by decide +kernel
theorem dX8_gaps_12 : decode cX8_gaps 12 = .ok (.aload_n 1, 1) := by decide +kernel
theorem dX8_gaps_13 : decode cX8_gaps 13 = .ok (.bipush 19, 2) := by decide +kernel
theorem dX8_gaps_15 : decode cX8_gaps 15 = .ok (.iload_n 3, 1) := by decide +kernel
theorem dX8_gaps_16 : decode cX8_gaps 16 = .ok (.iadd, 1) := by decide +kernel
theorem dX8_gaps_17 : decode cX8_gaps 17 = .ok (.iaload, 1) := by decide +kernel
theorem dX8_gaps_18 : decode cX8_gaps 18 = .ok (.bipush 7, 2) := by decide +kernel
theorem dX8_gaps_20 : decode cX8_gaps 20 = .ok (.if_icmp .ne 7, 3) := by decide +kernel
theorem dX8_gaps_23 : decode cX8_gaps 23 = .ok (.iconst 1, 1) := by decide +kernel
theorem dX8_gaps_24 : decode cX8_gaps 24 = .ok (.goto 4, 3) := by decide +kernel
theorem dX8_gaps_27 : decode cX8_gaps 27 = .ok (.iconst 0, 1) := by decide +kernel
theorem dX8_gaps_28 : decode cX8_gaps 28 = .ok (.iadd, 1) := by decide +kernel
theorem dX8_gaps_29 : decode cX8_gaps 29 = .ok (.istore_n 2, 1) := by decide +kernel
theorem dX8_gaps_30 : decode cX8_gaps 30 = .ok (.iinc 3 1, 3) := by decide +kernel
theorem dX8_gaps_33 : decode cX8_gaps 33 = .ok (.goto (-29), 3) := by decide +kernel
theorem dX8_gaps_36 : decode cX8_gaps 36 = .ok (.iload_n 2, 1) := by decide +kernel
theorem dX8_gaps_37 : decode cX8_gaps 37 = .ok (.ireturn, 1) := by decide +kernel
theorem dX8_wearOn_0 : decode cX8_wearOn 0 = .ok (.aload_n 0, 1) := by decide +kernel
theorem dX8_wearOn_1 : decode cX8_wearOn 1 = .ok (.getfield 13, 3) := by decide +kernel
theorem dX8_wearOn_4 : decode cX8_wearOn 4 = .ok (.aload_n 1, 1) := by decide +kernel
theorem dX8_wearOn_5 : decode cX8_wearOn 5 = .ok (.bipush 19, 2) := by decide +kernel
theorem dX8_wearOn_7 : decode cX8_wearOn 7 = .ok (.iload_n 2, 1) := by decide +kernel
theorem dX8_wearOn_8 : decode cX8_wearOn 8 = .ok (.iadd, 1) := by decide +kernel
theorem dX8_wearOn_9 : decode cX8_wearOn 9 = .ok (.iaload, 1) := by decide +kernel
theorem dX8_wearOn_10 : decode cX8_wearOn 10 = .ok (.iaload, 1) := by decide +kernel
theorem dX8_wearOn_11 : decode cX8_wearOn 11 = .ok (.istore_n 3, 1) := by decide +kernel
theorem dX8_wearOn_12 : decode cX8_wearOn 12 = .ok (.iconst 0, 1) := by decide +kernel
theorem dX8_wearOn_13 : decode cX8_wearOn 13 = .ok (.istore 4, 2) := by decide +kernel
theorem dX8_wearOn_15 : decode cX8_wearOn 15 = .ok (.iload 4, 2) := by decide +kernel
theorem dX8_wearOn_17 : decode cX8_wearOn 17 = .ok (.iload_n 3, 1) := by decide +kernel
theorem dX8_wearOn_18 : decode cX8_wearOn 18 = .ok (.if_icmp .ge 20, 3) := by decide +kernel
theorem dX8_wearOn_21 : decode cX8_wearOn 21 = .ok (.aload_n 1, 1) := by decide +kernel
theorem dX8_wearOn_22 : decode cX8_wearOn 22 = .ok (.bipush 19, 2) := by decide +kernel
theorem dX8_wearOn_24 : decode cX8_wearOn 24 = .ok (.iload_n 2, 1) := by decide +kernel
theorem dX8_wearOn_25 : decode cX8_wearOn 25 = .ok (.iadd, 1) := by decide +kernel
theorem dX8_wearOn_26 : decode cX8_wearOn 26 = .ok (.iload 4, 2) := by decide +kernel
theorem dX8_wearOn_28 : decode cX8_wearOn 28 = .ok (.iadd, 1) := by decide +kernel
theorem dX8_wearOn_29 : decode cX8_wearOn 29 = .ok (.bipush 7, 2) := by decide +kernel
theorem dX8_wearOn_31 : decode cX8_wearOn 31 = .ok (.iastore, 1) := by decide +kernel
theorem dX8_wearOn_32 : decode cX8_wearOn 32 = .ok (.iinc 4 1, 3) := by decide +kernel
theorem dX8_wearOn_35 : decode cX8_wearOn 35 = .ok (.goto (-20), 3) := by decide +kernel
theorem dX8_wearOn_38 : decode cX8_wearOn 38 = .ok (.return_, 1) := by decide +kernel
theorem dX8_carveOn_0 : decode cX8_carveOn 0 = .ok (.iconst 0, 1) := by decide +kernel
theorem dX8_carveOn_1 : decode cX8_carveOn 1 = .ok (.istore 4, 2) := by decide +kernel
theorem dX8_carveOn_3 : decode cX8_carveOn 3 = .ok (.iload 4, 2) := by decide +kernel
theorem dX8_carveOn_5 : decode cX8_carveOn 5 = .ok (.aload_n 0, 1) := by decide +kernel
theorem dX8_carveOn_6 : decode cX8_carveOn 6 = .ok (.getfield 13, 3) := by decide +kernel
theorem dX8_carveOn_9 : decode cX8_carveOn 9 = .ok (.iload_n 3, 1) := by decide +kernel
theorem dX8_carveOn_10 : decode cX8_carveOn 10 = .ok (.iaload, 1) := by decide +kernel
theorem dX8_carveOn_11 : decode cX8_carveOn 11 = .ok (.if_icmp .ge 29, 3) := by decide +kernel
theorem dX8_carveOn_14 : decode cX8_carveOn 14 = .ok (.aload_n 1, 1) := by decide +kernel
theorem dX8_carveOn_15 : decode cX8_carveOn 15 = .ok (.bipush 19, 2) := by decide +kernel
theorem dX8_carveOn_17 : decode cX8_carveOn 17 = .ok (.iload_n 2, 1) := by decide +kernel
theorem dX8_carveOn_18 : decode cX8_carveOn 18 = .ok (.iadd, 1) := by decide +kernel
theorem dX8_carveOn_19 : decode cX8_carveOn 19 = .ok (.iload 4, 2) := by decide +kernel
theorem dX8_carveOn_21 : decode cX8_carveOn 21 = .ok (.iadd, 1) := by decide +kernel
theorem dX8_carveOn_22 : decode cX8_carveOn 22 = .ok (.iload 4, 2) := by decide +kernel
theorem dX8_carveOn_24 : decode cX8_carveOn 24 = .ok (.ifCond .ne 7, 3) := by decide +kernel
theorem dX8_carveOn_27 : decode cX8_carveOn 27 = .ok (.iload_n 3, 1) := by decide +kernel
theorem dX8_carveOn_28 : decode cX8_carveOn 28 = .ok (.goto 5, 3) := by decide +kernel
theorem dX8_carveOn_31 : decode cX8_carveOn 31 = .ok (.bipush 8, 2) := by decide +kernel
theorem dX8_carveOn_33 : decode cX8_carveOn 33 = .ok (.iastore, 1) := by decide +kernel
theorem dX8_carveOn_34 : decode cX8_carveOn 34 = .ok (.iinc 4 1, 3) := by decide +kernel
theorem dX8_carveOn_37 : decode cX8_carveOn 37 = .ok (.goto (-34), 3) := by decide +kernel
theorem dX8_carveOn_40 : decode cX8_carveOn 40 = .ok (.return_, 1) := by decide +kernel
theorem dX8_wear_0 : decode cX8_wear 0 = .ok (.aload_n 0, 1) := by decide +kernel
theorem dX8_wear_1 : decode cX8_wear 1 = .ok (.iconst 0, 1) := by decide +kernel
theorem dX8_wear_2 : decode cX8_wear 2 = .ok (.putfield 94, 3) := by decide +kernel
theorem dX8_wear_5 : decode cX8_wear 5 = .ok (.aload_n 0, 1) := by decide +kernel
theorem dX8_wear_6 : decode cX8_wear 6 = .ok (.iload_n 1, 1) := by decide +kernel
theorem dX8_wear_7 : decode cX8_wear 7 = .ok (.invokevirtual 155, 3) := by decide +kernel
theorem dX8_wear_10 : decode cX8_wear 10 = .ok (.ifCond .eq 5, 3) := by decide +kernel
theorem dX8_wear_13 : decode cX8_wear 13 = .ok (.iconst (-1), 1) := by decide +kernel
theorem dX8_wear_14 : decode cX8_wear 14 = .ok (.ireturn, 1) := by decide +kernel
theorem dX8_wear_15 : decode cX8_wear 15 = .ok (.aload_n 0, 1) := by decide +kernel
theorem dX8_wear_16 : decode cX8_wear 16 = .ok (.getfield 50, 3) := by decide +kernel
theorem dX8_wear_19 : decode cX8_wear 19 = .ok (.bipush 19, 2) := by decide +kernel
theorem dX8_wear_21 : decode cX8_wear 21 = .ok (.iload_n 1, 1) := by decide +kernel
theorem dX8_wear_22 : decode cX8_wear 22 = .ok (.iadd, 1) := by decide +kernel
theorem dX8_wear_23 : decode cX8_wear 23 = .ok (.iaload, 1) := by decide +kernel
theorem dX8_wear_24 : decode cX8_wear 24 = .ok (.bipush 6, 2) := by decide +kernel
theorem dX8_wear_26 : decode cX8_wear 26 = .ok (.if_icmp .le 6, 3) := by decide +kernel
theorem dX8_wear_29 : decode cX8_wear 29 = .ok (.bipush (-3), 2) := by decide +kernel
theorem dX8_wear_31 : decode cX8_wear 31 = .ok (.ireturn, 1) := by decide +kernel
theorem dX8_wear_32 : decode cX8_wear 32 = .ok (.aload_n 0, 1) := by decide +kernel
theorem dX8_wear_33 : decode cX8_wear 33 = .ok (.invokevirtual 167, 3) := by decide +kernel
theorem dX8_wear_36 : decode cX8_wear 36 = .ok (.aload_n 0, 1) := by decide +kernel
theorem dX8_wear_37 : decode cX8_wear 37 = .ok (.getfield 50, 3) := by decide +kernel
theorem dX8_wear_40 : decode cX8_wear 40 = .ok (.bipush 19, 2) := by decide +kernel
theorem dX8_wear_42 : decode cX8_wear 42 = .ok (.iload_n 1, 1) := by decide +kernel
theorem dX8_wear_43 : decode cX8_wear 43 = .ok (.iadd, 1) := by decide +kernel
theorem dX8_wear_44 : decode cX8_wear 44 = .ok (.iaload, 1) := by decide +kernel
theorem dX8_wear_45 : decode cX8_wear 45 = .ok (.istore_n 2, 1) := by decide +kernel
theorem dX8_wear_46 : decode cX8_wear 46 = .ok (.aload_n 0, 1) := by decide +kernel
theorem dX8_wear_47 : decode cX8_wear 47 = .ok (.aload_n 0, 1) := by decide +kernel
theorem dX8_wear_48 : decode cX8_wear 48 = .ok (.getfield 50, 3) := by decide +kernel
theorem dX8_wear_51 : decode cX8_wear 51 = .ok (.iload_n 1, 1) := by decide +kernel
theorem dX8_wear_52 : decode cX8_wear 52 = .ok (.invokevirtual 170, 3) := by decide +kernel
theorem dX8_wear_55 : decode cX8_wear 55 = .ok (.iload_n 2, 1) := by decide +kernel
theorem dX8_wear_56 : decode cX8_wear 56 = .ok (.ireturn, 1) := by decide +kernel
theorem dX8_carve_0 : decode cX8_carve 0 = .ok (.aload_n 0, 1) := by decide +kernel
theorem dX8_carve_1 : decode cX8_carve 1 = .ok (.iconst 0, 1) := by decide +kernel
theorem dX8_carve_2 : decode cX8_carve 2 = .ok (.putfield 94, 3) := by decide +kernel
theorem dX8_carve_5 : decode cX8_carve 5 = .ok (.aload_n 0, 1) := by decide +kernel
theorem dX8_carve_6 : decode cX8_carve 6 = .ok (.iload_n 1, 1) := by decide +kernel
theorem dX8_carve_7 : decode cX8_carve 7 = .ok (.invokevirtual 155, 3) := by decide +kernel
theorem dX8_carve_10 : decode cX8_carve 10 = .ok (.ifCond .eq 5, 3) := by decide +kernel
theorem dX8_carve_13 : decode cX8_carve 13 = .ok (.iconst (-1), 1) := by decide +kernel
theorem dX8_carve_14 : decode cX8_carve 14 = .ok (.ireturn, 1) := by decide +kernel
theorem dX8_carve_15 : decode cX8_carve 15 = .ok (.iload_n 2, 1) := by decide +kernel
theorem dX8_carve_16 : decode cX8_carve 16 = .ok (.i2l, 1) := by decide +kernel
theorem dX8_carve_17 : decode cX8_carve 17 = .ok (.lconst 0, 1) := by decide +kernel
theorem dX8_carve_18 : decode cX8_carve 18 = .ok (.ldc2_w 174, 3) := by decide +kernel
theorem dX8_carve_21 : decode cX8_carve 21 = .ok (.invokestatic 101, 3) := by decide +kernel
theorem dX8_carve_24 : decode cX8_carve 24 = .ok (.ifCond .ne 6, 3) := by decide +kernel
theorem dX8_carve_27 : decode cX8_carve 27 = .ok (.bipush (-2), 2) := by decide +kernel
theorem dX8_carve_29 : decode cX8_carve 29 = .ok (.ireturn, 1) := by decide +kernel
theorem dX8_carve_30 : decode cX8_carve 30 = .ok (.aload_n 0, 1) := by decide +kernel
theorem dX8_carve_31 : decode cX8_carve 31 = .ok (.aload_n 0, 1) := by decide +kernel
theorem dX8_carve_32 : decode cX8_carve 32 = .ok (.getfield 50, 3) := by decide +kernel
theorem dX8_carve_35 : decode cX8_carve 35 = .ok (.iload_n 1, 1) := by decide +kernel
theorem dX8_carve_36 : decode cX8_carve 36 = .ok (.iload_n 2, 1) := by decide +kernel
theorem dX8_carve_37 : decode cX8_carve 37 = .ok (.invokevirtual 160, 3) := by decide +kernel
theorem dX8_carve_40 : decode cX8_carve 40 = .ok (.ifCond .ne 6, 3) := by decide +kernel
theorem dX8_carve_43 : decode cX8_carve 43 = .ok (.bipush (-3), 2) := by decide +kernel
theorem dX8_carve_45 : decode cX8_carve 45 = .ok (.ireturn, 1) := by decide +kernel
theorem dX8_carve_46 : decode cX8_carve 46 = .ok (.aload_n 0, 1) := by decide +kernel
theorem dX8_carve_47 : decode cX8_carve 47 = .ok (.invokevirtual 167, 3) := by decide +kernel
theorem dX8_carve_50 : decode cX8_carve 50 = .ok (.aload_n 0, 1) := by decide +kernel
theorem dX8_carve_51 : decode cX8_carve 51 = .ok (.aload_n 0, 1) := by decide +kernel
theorem dX8_carve_52 : decode cX8_carve 52 = .ok (.getfield 50, 3) := by decide +kernel
theorem dX8_carve_55 : decode cX8_carve 55 = .ok (.iload_n 1, 1) := by decide +kernel
theorem dX8_carve_56 : decode cX8_carve 56 = .ok (.iload_n 2, 1) := by decide +kernel
theorem dX8_carve_57 : decode cX8_carve 57 = .ok (.invokevirtual 176, 3) := by decide +kernel
theorem dX8_carve_60 : decode cX8_carve 60 = .ok (.aload_n 0, 1) := by decide +kernel
theorem dX8_carve_61 : decode cX8_carve 61 = .ok (.aload_n 0, 1) := by decide +kernel
theorem dX8_carve_62 : decode cX8_carve 62 = .ok (.getfield 50, 3) := by decide +kernel
theorem dX8_carve_65 : decode cX8_carve 65 = .ok (.invokevirtual 180, 3) := by decide +kernel
theorem dX8_carve_68 : decode cX8_carve 68 = .ok (.ireturn, 1) := by decide +kernel
theorem dX8_bar_0 : decode cX8_bar 0 = .ok (.aload_n 0, 1) := by decide +kernel
theorem dX8_bar_1 : decode cX8_bar 1 = .ok (.iconst 0, 1) := by decide +kernel
theorem dX8_bar_2 : decode cX8_bar 2 = .ok (.putfield 94, 3) := by decide +kernel
theorem dX8_bar_5 : decode cX8_bar 5 = .ok (.aload_n 0, 1) := by decide +kernel
theorem dX8_bar_6 : decode cX8_bar 6 = .ok (.iload_n 1, 1) := by decide +kernel
theorem dX8_bar_7 : decode cX8_bar 7 = .ok (.invokevirtual 148, 3) := by decide +kernel
theorem dX8_bar_10 : decode cX8_bar 10 = .ok (.ifCond .eq 5, 3) := by decide +kernel
theorem dX8_bar_13 : decode cX8_bar 13 = .ok (.iconst (-1), 1) := by decide +kernel
theorem dX8_bar_14 : decode cX8_bar 14 = .ok (.ireturn, 1) := by decide +kernel
theorem dX8_bar_15 : decode cX8_bar 15 = .ok (.aload_n 0, 1) := by decide +kernel
theorem dX8_bar_16 : decode cX8_bar 16 = .ok (.invokevirtual 167, 3) := by decide +kernel
theorem dX8_bar_19 : decode cX8_bar 19 = .ok (.aload_n 0, 1) := by decide +kernel
theorem dX8_bar_20 : decode cX8_bar 20 = .ok (.getfield 50, 3) := by decide +kernel
theorem dX8_bar_23 : decode cX8_bar 23 = .ok (.iconst 1, 1) := by decide +kernel
theorem dX8_bar_24 : decode cX8_bar 24 = .ok (.dup2, 1) := by decide +kernel
theorem dX8_bar_25 : decode cX8_bar 25 = .ok (.iaload, 1) := by decide +kernel
theorem dX8_bar_26 : decode cX8_bar 26 = .ok (.iconst 1, 1) := by decide +kernel
theorem dX8_bar_27 : decode cX8_bar 27 = .ok (.iload_n 1, 1) := by decide +kernel
theorem dX8_bar_28 : decode cX8_bar 28 = .ok (.ishl, 1) := by decide +kernel
theorem dX8_bar_29 : decode cX8_bar 29 = .ok (.ixor, 1) := by decide +kernel
theorem dX8_bar_30 : decode cX8_bar 30 = .ok (.iastore, 1) := by decide +kernel
theorem dX8_bar_31 : decode cX8_bar 31 = .ok (.aload_n 0, 1) := by decide +kernel
theorem dX8_bar_32 : decode cX8_bar 32 = .ok (.getfield 50, 3) := by decide +kernel
theorem dX8_bar_35 : decode cX8_bar 35 = .ok (.iconst 1, 1) := by decide +kernel
theorem dX8_bar_36 : decode cX8_bar 36 = .ok (.iaload, 1) := by decide +kernel
theorem dX8_bar_37 : decode cX8_bar 37 = .ok (.iload_n 1, 1) := by decide +kernel
theorem dX8_bar_38 : decode cX8_bar 38 = .ok (.ishr, 1) := by decide +kernel
theorem dX8_bar_39 : decode cX8_bar 39 = .ok (.iconst 1, 1) := by decide +kernel
theorem dX8_bar_40 : decode cX8_bar 40 = .ok (.iand, 1) := by decide +kernel
theorem dX8_bar_41 : decode cX8_bar 41 = .ok (.ireturn, 1) := by decide +kernel
theorem dX8_setRule_0 : decode cX8_setRule 0 = .ok (.aload_n 0, 1) := by decide +kernel
theorem dX8_setRule_1 : decode cX8_setRule 1 = .ok (.iconst 0, 1) := by decide +kernel
theorem dX8_setRule_2 : decode cX8_setRule 2 = .ok (.putfield 94, 3) := by decide +kernel
theorem dX8_setRule_5 : decode cX8_setRule 5 = .ok (.iload_n 1, 1) := by decide +kernel
theorem dX8_setRule_6 : decode cX8_setRule 6 = .ok (.i2l, 1) := by decide +kernel
theorem dX8_setRule_7 : decode cX8_setRule 7 = .ok (.lconst 0, 1) := by decide +kernel
theorem dX8_setRule_8 : decode cX8_setRule 8 = .ok (.ldc2_w 158, 3) := by decide +kernel
theorem dX8_setRule_11 : decode cX8_setRule 11 = .ok (.invokestatic 101, 3) := by decide +kernel
theorem dX8_setRule_14 : decode cX8_setRule 14 = .ok (.ifCond .eq 27, 3) := by decide +kernel
theorem dX8_setRule_17 : decode cX8_setRule 17 = .ok (.iload_n 2, 1) := by decide +kernel
theorem dX8_setRule_18 : decode cX8_setRule 18 = .ok (.i2l, 1) := by decide +kernel
theorem dX8_setRule_19 : decode cX8_setRule 19 = .ok (.lconst 0, 1) := by decide +kernel
theorem dX8_setRule_20 : decode cX8_setRule 20 = .ok (.ldc2_w 158, 3) := by decide +kernel
theorem dX8_setRule_23 : decode cX8_setRule 23 = .ok (.invokestatic 101, 3) := by decide +kernel
theorem dX8_setRule_26 : decode cX8_setRule 26 = .ok (.ifCond .eq 15, 3) := by decide +kernel
theorem dX8_setRule_29 : decode cX8_setRule 29 = .ok (.iload_n 3, 1) := by decide +kernel
theorem dX8_setRule_30 : decode cX8_setRule 30 = .ok (.i2l, 1) := by decide +kernel
theorem dX8_setRule_31 : decode cX8_setRule 31 = .ok (.lconst 0, 1) := by decide +kernel
theorem dX8_setRule_32 : decode cX8_setRule 32 = .ok (.ldc2_w 158, 3) := by decide +kernel
theorem dX8_setRule_35 : decode cX8_setRule 35 = .ok (.invokestatic 101, 3) := by decide +kernel
theorem dX8_setRule_38 : decode cX8_setRule 38 = .ok (.ifCond .ne 6, 3) := by decide +kernel
theorem dX8_setRule_41 : decode cX8_setRule 41 = .ok (.bipush (-2), 2) := by decide +kernel
theorem dX8_setRule_43 : decode cX8_setRule 43 = .ok (.ireturn, 1) := by decide +kernel
theorem dX8_setRule_44 : decode cX8_setRule 44 = .ok (.aload_n 0, 1) := by decide +kernel
theorem dX8_setRule_45 : decode cX8_setRule 45 = .ok (.invokevirtual 167, 3) := by decide +kernel
theorem dX8_setRule_48 : decode cX8_setRule 48 = .ok (.aload_n 0, 1) := by decide +kernel
theorem dX8_setRule_49 : decode cX8_setRule 49 = .ok (.getfield 50, 3) := by decide +kernel
theorem dX8_setRule_52 : decode cX8_setRule 52 = .ok (.iconst 2, 1) := by decide +kernel
theorem dX8_setRule_53 : decode cX8_setRule 53 = .ok (.iconst 3, 1) := by decide +kernel
theorem dX8_setRule_54 : decode cX8_setRule 54 = .ok (.iload_n 1, 1) := by decide +kernel
theorem dX8_setRule_55 : decode cX8_setRule 55 = .ok (.imul, 1) := by decide +kernel
theorem dX8_setRule_56 : decode cX8_setRule 56 = .ok (.iadd, 1) := by decide +kernel
theorem dX8_setRule_57 : decode cX8_setRule 57 = .ok (.iload_n 2, 1) := by decide +kernel
theorem dX8_setRule_58 : decode cX8_setRule 58 = .ok (.iadd, 1) := by decide +kernel
theorem dX8_setRule_59 : decode cX8_setRule 59 = .ok (.iaload, 1) := by decide +kernel
theorem dX8_setRule_60 : decode cX8_setRule 60 = .ok (.istore 4, 2) := by decide +kernel
theorem dX8_setRule_62 : decode cX8_setRule 62 = .ok (.aload_n 0, 1) := by decide +kernel
theorem dX8_setRule_63 : decode cX8_setRule 63 = .ok (.getfield 50, 3) := by decide +kernel
theorem dX8_setRule_66 : decode cX8_setRule 66 = .ok (.iconst 2, 1) := by decide +kernel
theorem dX8_setRule_67 : decode cX8_setRule 67 = .ok (.iconst 3, 1) := by decide +kernel
theorem dX8_setRule_68 : decode cX8_setRule 68 = .ok (.iload_n 1, 1) := by decide +kernel
theorem dX8_setRule_69 : decode cX8_setRule 69 = .ok (.imul, 1) := by decide +kernel
theorem dX8_setRule_70 : decode cX8_setRule 70 = .ok (.iadd, 1) := by decide +kernel
theorem dX8_setRule_71 : decode cX8_setRule 71 = .ok (.iload_n 2, 1) := by decide +kernel
theorem dX8_setRule_72 : decode cX8_setRule 72 = .ok (.iadd, 1) := by decide +kernel
theorem dX8_setRule_73 : decode cX8_setRule 73 = .ok (.iload_n 3, 1) := by decide +kernel
theorem dX8_setRule_74 : decode cX8_setRule 74 = .ok (.iastore, 1) := by decide +kernel
theorem dX8_setRule_75 : decode cX8_setRule 75 = .ok (.iload 4, 2) := by decide +kernel
theorem dX8_setRule_77 : decode cX8_setRule 77 = .ok (.ireturn, 1) := by decide +kernel
theorem dX8_weigh_0 : decode cX8_weigh 0 = .ok (.aload_n 0, 1) := by decide +kernel
theorem dX8_weigh_1 : decode cX8_weigh 1 = .ok (.iconst 0, 1) := by decide +kernel
theorem dX8_weigh_2 : decode cX8_weigh 2 = .ok (.putfield 94, 3) := by decide +kernel
theorem dX8_weigh_5 : decode cX8_weigh 5 = .ok (.aload_n 0, 1) := by decide +kernel
theorem dX8_weigh_6 : decode cX8_weigh 6 = .ok (.iload_n 1, 1) := by decide +kernel
theorem dX8_weigh_7 : decode cX8_weigh 7 = .ok (.invokevirtual 148, 3) := by decide +kernel
theorem dX8_weigh_10 : decode cX8_weigh 10 = .ok (.ifCond .eq 5, 3) := by decide +kernel
theorem dX8_weigh_13 : decode cX8_weigh 13 = .ok (.iconst (-1), 1) := by decide +kernel
theorem dX8_weigh_14 : decode cX8_weigh 14 = .ok (.ireturn, 1) := by decide +kernel
theorem dX8_weigh_15 : decode cX8_weigh 15 = .ok (.iload_n 2, 1) := by decide +kernel
theorem dX8_weigh_16 : decode cX8_weigh 16 = .ok (.i2l, 1) := by decide +kernel
theorem dX8_weigh_17 : decode cX8_weigh 17 = .ok (.lconst 1, 1) := by decide +kernel
theorem dX8_weigh_18 : decode cX8_weigh 18 = .ok (.ldc2_w 184, 3) := by decide +kernel
theorem dX8_weigh_21 : decode cX8_weigh 21 = .ok (.invokestatic 101, 3) := by decide +kernel
theorem dX8_weigh_24 : decode cX8_weigh 24 = .ok (.ifCond .ne 6, 3) := by decide +kernel
theorem dX8_weigh_27 : decode cX8_weigh 27 = .ok (.bipush (-2), 2) := by decide +kernel
theorem dX8_weigh_29 : decode cX8_weigh 29 = .ok (.ireturn, 1) := by decide +kernel
theorem dX8_weigh_30 : decode cX8_weigh 30 = .ok (.aload_n 0, 1) := by decide +kernel
theorem dX8_weigh_31 : decode cX8_weigh 31 = .ok (.invokevirtual 167, 3) := by decide +kernel
theorem dX8_weigh_34 : decode cX8_weigh 34 = .ok (.aload_n 0, 1) := by decide +kernel
theorem dX8_weigh_35 : decode cX8_weigh 35 = .ok (.getfield 50, 3) := by decide +kernel
theorem dX8_weigh_38 : decode cX8_weigh 38 = .ok (.bipush 11, 2) := by decide +kernel
theorem dX8_weigh_40 : decode cX8_weigh 40 = .ok (.iload_n 1, 1) := by decide +kernel
theorem dX8_weigh_41 : decode cX8_weigh 41 = .ok (.iadd, 1) := by decide +kernel
theorem dX8_weigh_42 : decode cX8_weigh 42 = .ok (.iaload, 1) := by decide +kernel
theorem dX8_weigh_43 : decode cX8_weigh 43 = .ok (.istore_n 3, 1) := by decide +kernel
theorem dX8_weigh_44 : decode cX8_weigh 44 = .ok (.aload_n 0, 1) := by decide +kernel
theorem dX8_weigh_45 : decode cX8_weigh 45 = .ok (.getfield 50, 3) := by decide +kernel
theorem dX8_weigh_48 : decode cX8_weigh 48 = .ok (.bipush 11, 2) := by decide +kernel
theorem dX8_weigh_50 : decode cX8_weigh 50 = .ok (.iload_n 1, 1) := by decide +kernel
theorem dX8_weigh_51 : decode cX8_weigh 51 = .ok (.iadd, 1) := by decide +kernel
theorem dX8_weigh_52 : decode cX8_weigh 52 = .ok (.iload_n 2, 1) := by decide +kernel
theorem dX8_weigh_53 : decode cX8_weigh 53 = .ok (.iastore, 1) := by decide +kernel
theorem dX8_weigh_54 : decode cX8_weigh 54 = .ok (.iload_n 3, 1) := by decide +kernel
theorem dX8_weigh_55 : decode cX8_weigh 55 = .ok (.ireturn, 1) := by decide +kernel
theorem dX8_undo_0 : decode cX8_undo 0 = .ok (.aload_n 0, 1) := by decide +kernel
theorem dX8_undo_1 : decode cX8_undo 1 = .ok (.iconst 0, 1) := by decide +kernel
theorem dX8_undo_2 : decode cX8_undo 2 = .ok (.putfield 94, 3) := by decide +kernel
theorem dX8_undo_5 : decode cX8_undo 5 = .ok (.aload_n 0, 1) := by decide +kernel
theorem dX8_undo_6 : decode cX8_undo 6 = .ok (.getfield 145, 3) := by decide +kernel
theorem dX8_undo_9 : decode cX8_undo 9 = .ok (.ifCond .ne 6, 3) := by decide +kernel
theorem dX8_undo_12 : decode cX8_undo 12 = .ok (.bipush (-3), 2) := by decide +kernel
theorem dX8_undo_14 : decode cX8_undo 14 = .ok (.ireturn, 1) := by decide +kernel
theorem dX8_undo_15 : decode cX8_undo 15 = .ok (.aload_n 0, 1) := by decide +kernel
theorem dX8_undo_16 : decode cX8_undo 16 = .ok (.dup, 1) := by decide +kernel
theorem dX8_undo_17 : decode cX8_undo 17 = .ok (.getfield 145, 3) := by decide +kernel
theorem dX8_undo_20 : decode cX8_undo 20 = .ok (.iconst 1, 1) := by decide +kernel
theorem dX8_undo_21 : decode cX8_undo 21 = .ok (.isub, 1) := by decide +kernel
theorem dX8_undo_22 : decode cX8_undo 22 = .ok (.putfield 145, 3) := by decide +kernel
theorem dX8_undo_25 : decode cX8_undo 25 = .ok (.iconst 0, 1) := by decide +kernel
theorem dX8_undo_26 : decode cX8_undo 26 = .ok (.istore_n 1, 1) := by decide +kernel
theorem dX8_undo_27 : decode cX8_undo 27 = .ok (.iload_n 1, 1) := by decide +kernel
theorem dX8_undo_28 : decode cX8_undo 28 = .ok (.bipush 43, 2) := by decide +kernel
theorem dX8_undo_30 : decode cX8_undo 30 = .ok (.if_icmp .ge 29, 3) := by decide +kernel
theorem dX8_undo_33 : decode cX8_undo 33 = .ok (.aload_n 0, 1) := by decide +kernel
theorem dX8_undo_34 : decode cX8_undo 34 = .ok (.getfield 50, 3) := by decide +kernel
theorem dX8_undo_37 : decode cX8_undo 37 = .ok (.iload_n 1, 1) := by decide +kernel
theorem dX8_undo_38 : decode cX8_undo 38 = .ok (.aload_n 0, 1) := by decide +kernel
theorem dX8_undo_39 : decode cX8_undo 39 = .ok (.getfield 56, 3) := by decide +kernel
theorem dX8_undo_42 : decode cX8_undo 42 = .ok (.bipush 43, 2) := by decide +kernel
theorem dX8_undo_44 : decode cX8_undo 44 = .ok (.aload_n 0, 1) := by decide +kernel
theorem dX8_undo_45 : decode cX8_undo 45 = .ok (.getfield 145, 3) := by decide +kernel
theorem dX8_undo_48 : decode cX8_undo 48 = .ok (.imul, 1) := by decide +kernel
theorem dX8_undo_49 : decode cX8_undo 49 = .ok (.iload_n 1, 1) := by decide +kernel
theorem dX8_undo_50 : decode cX8_undo 50 = .ok (.iadd, 1) := by decide +kernel
theorem dX8_undo_51 : decode cX8_undo 51 = .ok (.iaload, 1) := by decide +kernel
theorem dX8_undo_52 : decode cX8_undo 52 = .ok (.iastore, 1) := by decide +kernel
theorem dX8_undo_53 : decode cX8_undo 53 = .ok (.iinc 1 1, 3) := by decide +kernel
theorem dX8_undo_56 : decode cX8_undo 56 = .ok (.goto (-29), 3) := by decide +kernel
theorem dX8_undo_59 : decode cX8_undo 59 = .ok (.aload_n 0, 1) := by decide +kernel
theorem dX8_undo_60 : decode cX8_undo 60 = .ok (.getfield 145, 3) := by decide +kernel
theorem dX8_undo_63 : decode cX8_undo 63 = .ok (.ireturn, 1) := by decide +kernel
theorem dX8_fits_0 : decode cX8_fits 0 = .ok (.aload_n 1, 1) := by decide +kernel
theorem dX8_fits_1 : decode cX8_fits 1 = .ok (.iconst 1, 1) := by decide +kernel
theorem dX8_fits_2 : decode cX8_fits 2 = .ok (.iaload, 1) := by decide +kernel
theorem dX8_fits_3 : decode cX8_fits 3 = .ok (.iload_n 2, 1) := by decide +kernel
theorem dX8_fits_4 : decode cX8_fits 4 = .ok (.invokestatic 186, 3) := by decide +kernel
theorem dX8_fits_7 : decode cX8_fits 7 = .ok (.ifCond .ne 24, 3) := by decide +kernel
theorem dX8_fits_10 : decode cX8_fits 10 = .ok (.aload_n 0, 1) := by decide +kernel
theorem dX8_fits_11 : decode cX8_fits 11 = .ok (.aload_n 1, 1) := by decide +kernel
theorem dX8_fits_12 : decode cX8_fits 12 = .ok (.iload_n 2, 1) := by decide +kernel
theorem dX8_fits_13 : decode cX8_fits 13 = .ok (.iload 4, 2) := by decide +kernel
theorem dX8_fits_15 : decode cX8_fits 15 = .ok (.invokevirtual 190, 3) := by decide +kernel
theorem dX8_fits_18 : decode cX8_fits 18 = .ok (.ifCond .eq 13, 3) := by decide +kernel
theorem dX8_fits_21 : decode cX8_fits 21 = .ok (.aload_n 0, 1) := by decide +kernel
theorem dX8_fits_22 : decode cX8_fits 22 = .ok (.aload_n 1, 1) := by decide +kernel
theorem dX8_fits_23 : decode cX8_fits 23 = .ok (.iload_n 2, 1) := by decide +kernel
theorem dX8_fits_24 : decode cX8_fits 24 = .ok (.iload_n 3, 1) := by decide +kernel
theorem dX8_fits_25 : decode cX8_fits 25 = .ok (.invokevirtual 193, 3) := by decide +kernel
theorem dX8_fits_28 : decode cX8_fits 28 = .ok (.ifCond .ne 5, 3) := by decide +kernel
theorem dX8_fits_31 : decode cX8_fits 31 = .ok (.iconst 0, 1) := by decide +kernel
theorem dX8_fits_32 : decode cX8_fits 32 = .ok (.ireturn, 1) := by decide +kernel
theorem dX8_fits_33 : decode cX8_fits 33 = .ok (.iload_n 3, 1) := by decide +kernel
theorem dX8_fits_34 : decode cX8_fits 34 = .ok (.aload_n 0, 1) := by decide +kernel
theorem dX8_fits_35 : decode cX8_fits 35 = .ok (.iload_n 2, 1) := by decide +kernel
theorem dX8_fits_36 : decode cX8_fits 36 = .ok (.invokevirtual 152, 3) := by decide +kernel
theorem dX8_fits_39 : decode cX8_fits 39 = .ok (.iadd, 1) := by decide +kernel
theorem dX8_fits_40 : decode cX8_fits 40 = .ok (.istore 5, 2) := by decide +kernel
theorem dX8_fits_42 : decode cX8_fits 42 = .ok (.iload 5, 2) := by decide +kernel
theorem dX8_fits_44 : decode cX8_fits 44 = .ok (.aload_n 1, 1) := by decide +kernel
theorem dX8_fits_45 : decode cX8_fits 45 = .ok (.iconst 0, 1) := by decide +kernel
theorem dX8_fits_46 : decode cX8_fits 46 = .ok (.iaload, 1) := by decide +kernel
theorem dX8_fits_47 : decode cX8_fits 47 = .ok (.if_icmp .eq 15, 3) := by decide +kernel
theorem dX8_fits_50 : decode cX8_fits 50 = .ok (.aload_n 0, 1) := by decide +kernel
theorem dX8_fits_51 : decode cX8_fits 51 = .ok (.aload_n 1, 1) := by decide +kernel
theorem dX8_fits_52 : decode cX8_fits 52 = .ok (.iload 5, 2) := by decide +kernel
theorem dX8_fits_54 : decode cX8_fits 54 = .ok (.bipush 6, 2) := by decide +kernel
theorem dX8_fits_56 : decode cX8_fits 56 = .ok (.invokevirtual 164, 3) := by decide +kernel
theorem dX8_fits_59 : decode cX8_fits 59 = .ok (.ifCond .eq 7, 3) := by decide +kernel
theorem dX8_fits_62 : decode cX8_fits 62 = .ok (.iconst 1, 1) := by decide +kernel
theorem dX8_fits_63 : decode cX8_fits 63 = .ok (.goto 4, 3) := by decide +kernel
theorem dX8_fits_66 : decode cX8_fits 66 = .ok (.iconst 0, 1) := by decide +kernel
theorem dX8_fits_67 : decode cX8_fits 67 = .ok (.ireturn, 1) := by decide +kernel
theorem dX8_agrees_0 : decode cX8_agrees 0 = .ok (.iload_n 3, 1) := by decide +kernel
theorem dX8_agrees_1 : decode cX8_agrees 1 = .ok (.aload_n 0, 1) := by decide +kernel
theorem dX8_agrees_2 : decode cX8_agrees 2 = .ok (.iload_n 2, 1) := by decide +kernel
theorem dX8_agrees_3 : decode cX8_agrees 3 = .ok (.invokevirtual 152, 3) := by decide +kernel
theorem dX8_agrees_6 : decode cX8_agrees 6 = .ok (.iadd, 1) := by decide +kernel
theorem dX8_agrees_7 : decode cX8_agrees 7 = .ok (.istore 4, 2) := by decide +kernel
theorem dX8_agrees_9 : decode cX8_agrees 9 = .ok (.iconst 1, 1) := by decide +kernel
theorem dX8_agrees_10 : decode cX8_agrees 10 = .ok (.istore 5, 2) := by decide +kernel
theorem dX8_agrees_12 : decode cX8_agrees 12 = .ok (.iconst 0, 1) := by decide +kernel
theorem dX8_agrees_13 : decode cX8_agrees 13 = .ok (.istore 6, 2) := by decide +kernel
theorem dX8_agrees_15 : decode cX8_agrees 15 = .ok (.iload 6, 2) := by decide +kernel
theorem dX8_agrees_17 : decode cX8_agrees 17 = .ok (.aload_n 0, 1) := by decide +kernel
theorem dX8_agrees_18 : decode cX8_agrees 18 = .ok (.getfield 196, 3) := by decide +kernel
theorem dX8_agrees_21 : decode cX8_agrees 21 = .ok (.if_icmp .ge 117, 3) := by decide +kernel
theorem dX8_agrees_24 : decode cX8_agrees 24 = .ok (.aload_n 0, 1) := by decide +kernel
theorem dX8_agrees_25 : decode cX8_agrees 25 = .ok (.getfield 65, 3) := by decide +kernel
theorem dX8_agrees_28 : decode cX8_agrees 28 = .ok (.iload 6, 2) := by decide +kernel
theorem dX8_agrees_30 : decode cX8_agrees 30 = .ok (.iaload, 1) := by decide +kernel
theorem dX8_agrees_31 : decode cX8_agrees 31 = .ok (.iload_n 2, 1) := by decide +kernel
theorem dX8_agrees_32 : decode cX8_agrees 32 = .ok (.if_icmp .ne 18, 3) := by decide +kernel
theorem dX8_agrees_35 : decode cX8_agrees 35 = .ok (.aload_n 0, 1) := by decide +kernel
theorem dX8_agrees_36 : decode cX8_agrees 36 = .ok (.getfield 68, 3) := by decide +kernel
theorem dX8_agrees_39 : decode cX8_agrees 39 = .ok (.iload 6, 2) := by decide +kernel
theorem dX8_agrees_41 : decode cX8_agrees 41 = .ok (.iaload, 1) := by decide +kernel
theorem dX8_agrees_42 : decode cX8_agrees 42 = .ok (.iload_n 3, 1) := by decide +kernel
theorem dX8_agrees_43 : decode cX8_agrees 43 = .ok (.if_icmp .ne 7, 3) := by decide +kernel
theorem dX8_agrees_46 : decode cX8_agrees 46 = .ok (.iconst 1, 1) := by decide +kernel
theorem dX8_agrees_47 : decode cX8_agrees 47 = .ok (.goto 4, 3) := by decide +kernel
theorem dX8_agrees_50 : decode cX8_agrees 50 = .ok (.iconst 0, 1) := by decide +kernel
theorem dX8_agrees_51 : decode cX8_agrees 51 = .ok (.istore 7, 2) := by decide +kernel
theorem dX8_agrees_53 : decode cX8_agrees 53 = .ok (.aload_n 0, 1) := by decide +kernel
theorem dX8_agrees_54 : decode cX8_agrees 54 = .ok (.getfield 68, 3) := by decide +kernel
theorem dX8_agrees_57 : decode cX8_agrees 57 = .ok (.iload 6, 2) := by decide +kernel
theorem dX8_agrees_59 : decode cX8_agrees 59 = .ok (.iaload, 1) := by decide +kernel
theorem dX8_agrees_60 : decode cX8_agrees 60 = .ok (.iload_n 3, 1) := by decide +kernel
theorem dX8_agrees_61 : decode cX8_agrees 61 = .ok (.if_icmp .lt 32, 3) := by decide +kernel
theorem dX8_agrees_64 : decode cX8_agrees 64 = .ok (.aload_n 0, 1) := by decide +kernel
theorem dX8_agrees_65 : decode cX8_agrees 65 = .ok (.getfield 68, 3) := by decide +kernel
theorem dX8_agrees_68 : decode cX8_agrees 68 = .ok (.iload 6, 2) := by decide +kernel
theorem dX8_agrees_70 : decode cX8_agrees 70 = .ok (.iaload, 1) := by decide +kernel
theorem dX8_agrees_71 : decode cX8_agrees 71 = .ok (.iload 4, 2) := by decide +kernel
theorem dX8_agrees_73 : decode cX8_agrees 73 = .ok (.if_icmp .le 11, 3) := by decide +kernel
theorem dX8_agrees_76 : decode cX8_agrees 76 = .ok (.iload 4, 2) := by decide +kernel
theorem dX8_agrees_78 : decode cX8_agrees 78 = .ok (.aload_n 1, 1) := by decide +kernel
theorem dX8_agrees_79 : decode cX8_agrees 79 = .ok (.iconst 0, 1) := by decide +kernel
theorem dX8_agrees_80 : decode cX8_agrees 80 = .ok (.iaload, 1) := by decide +kernel
theorem dX8_agrees_81 : decode cX8_agrees 81 = .ok (.if_icmp .ne 12, 3) := by decide +kernel
theorem dX8_agrees_84 : decode cX8_agrees 84 = .ok (.iload 7, 2) := by decide +kernel
theorem dX8_agrees_86 : decode cX8_agrees 86 = .ok (.ifCond .ne 7, 3) := by decide +kernel
theorem dX8_agrees_89 : decode cX8_agrees 89 = .ok (.iconst 1, 1) := by decide +kernel
theorem dX8_agrees_90 : decode cX8_agrees 90 = .ok (.goto 4, 3) := by decide +kernel
theorem dX8_agrees_93 : decode cX8_agrees 93 = .ok (.iconst 0, 1) := by decide +kernel
theorem dX8_agrees_94 : decode cX8_agrees 94 = .ok (.istore 8, 2) := by decide +kernel
theorem dX8_agrees_96 : decode cX8_agrees 96 = .ok (.iload 5, 2) := by decide +kernel
theorem dX8_agrees_98 : decode cX8_agrees 98 = .ok (.ifCond .eq 31, 3) := by decide +kernel
theorem dX8_agrees_101 : decode cX8_agrees 101 = .ok (.aload_n 0, 1) := by decide +kernel
theorem dX8_agrees_102 : decode cX8_agrees 102 = .ok (.getfield 71, 3) := by decide +kernel
theorem dX8_agrees_105 : decode cX8_agrees 105 = .ok (.iload 6, 2) := by decide +kernel
theorem dX8_agrees_107 : decode cX8_agrees 107 = .ok (.iaload, 1) := by decide +kernel
theorem dX8_agrees_108 : decode cX8_agrees 108 = .ok (.iconst 1, 1) := by decide +kernel
theorem dX8_agrees_109 : decode cX8_agrees 109 = .ok (.if_icmp .ne 11, 3) := by decide +kernel
theorem dX8_agrees_112 : decode cX8_agrees 112 = .ok (.iload 8, 2) := by decide +kernel
theorem dX8_agrees_114 : decode cX8_agrees 114 = .ok (.ifCond .ne 15, 3) := by decide +kernel
theorem dX8_agrees_117 : decode cX8_agrees 117 = .ok (.goto 8, 3) := by decide +kernel
theorem dX8_agrees_120 : decode cX8_agrees 120 = .ok (.iload 7, 2) := by decide +kernel
theorem dX8_agrees_122 : decode cX8_agrees 122 = .ok (.ifCond .ne 7, 3) := by decide +kernel
theorem dX8_agrees_125 : decode cX8_agrees 125 = .ok (.iconst 1, 1) := by decide +kernel
theorem dX8_agrees_126 : decode cX8_agrees 126 = .ok (.goto 4, 3) := by decide +kernel
theorem dX8_agrees_129 : decode cX8_agrees 129 = .ok (.iconst 0, 1) := by decide +kernel
theorem dX8_agrees_130 : decode cX8_agrees 130 = .ok (.istore 5, 2) := by decide +kernel
theorem dX8_agrees_132 : decode cX8_agrees 132 = .ok (.iinc 6 1, 3) := by decide +kernel
theorem dX8_agrees_135 : decode cX8_agrees 135 = .ok (.goto (-120), 3) := by decide +kernel
theorem dX8_agrees_138 : decode cX8_agrees 138 = .ok (.iload 5, 2) := by decide +kernel
theorem dX8_agrees_140 : decode cX8_agrees 140 = .ok (.ireturn, 1) := by decide +kernel
theorem dX8_layFrom_0 : decode cX8_layFrom 0 = .ok (.aload_n 1, 1) := by decide +kernel
theorem dX8_layFrom_1 : decode cX8_layFrom 1 = .ok (.iconst 0, 1) := by decide +kernel
theorem dX8_layFrom_2 : decode cX8_layFrom 2 = .ok (.iaload, 1) := by decide +kernel
theorem dX8_layFrom_3 : decode cX8_layFrom 3 = .ok (.istore_n 2, 1) := by decide +kernel
theorem dX8_layFrom_4 : decode cX8_layFrom 4 = .ok (.iload_n 2, 1) := by decide +kernel
theorem dX8_layFrom_5 : decode cX8_layFrom 5 = .ok (.ifCond .lt 118, 3) := by decide +kernel
theorem dX8_layFrom_8 : decode cX8_layFrom 8 = .ok (.iconst 0, 1) := by decide +kernel
theorem dX8_layFrom_9 : decode cX8_layFrom 9 = .ok (.istore_n 3, 1) := by decide +kernel
theorem dX8_layFrom_10 : decode cX8_layFrom 10 = .ok (.iload_n 3, 1) := by decide +kernel
theorem dX8_layFrom_11 : decode cX8_layFrom 11 = .ok (.bipush 8, 2) := by decide +kernel
theorem dX8_layFrom_13 : decode cX8_layFrom 13 = .ok (.if_icmp .gt 104, 3) := by decide +kernel
theorem dX8_layFrom_16 : decode cX8_layFrom 16 = .ok (.lconst 0, 1) := by decide +kernel
theorem dX8_layFrom_17 : decode cX8_layFrom 17 = .ok (.lstore 4, 2) := by decide +kernel
theorem dX8_layFrom_19 : decode cX8_layFrom 19 = .ok (.iconst 0, 1) := by decide +kernel
theorem dX8_layFrom_20 : decode cX8_layFrom 20 = .ok (.istore 6, 2) := by decide +kernel
theorem dX8_layFrom_22 : decode cX8_layFrom 22 = .ok (.iload 6, 2) := by decide +kernel
theorem dX8_layFrom_24 : decode cX8_layFrom 24 = .ok (.aload_n 0, 1) := by decide +kernel
theorem dX8_layFrom_25 : decode cX8_layFrom 25 = .ok (.getfield 98, 3) := by decide +kernel
theorem dX8_layFrom_28 : decode cX8_layFrom 28 = .ok (.if_icmp .ge 70, 3) := by decide +kernel
theorem dX8_layFrom_31 : decode cX8_layFrom 31 = .ok (.iload_n 2, 1) := by decide +kernel
theorem dX8_layFrom_32 : decode cX8_layFrom 32 = .ok (.aload_n 1, 1) := by decide +kernel
theorem dX8_layFrom_33 : decode cX8_layFrom 33 = .ok (.iconst 0, 1) := by decide +kernel
theorem dX8_layFrom_34 : decode cX8_layFrom 34 = .ok (.iaload, 1) := by decide +kernel
theorem dX8_layFrom_35 : decode cX8_layFrom 35 = .ok (.if_icmp .ge 63, 3) := by decide +kernel
theorem dX8_layFrom_38 : decode cX8_layFrom 38 = .ok (.aload_n 0, 1) := by decide +kernel
theorem dX8_layFrom_39 : decode cX8_layFrom 39 = .ok (.aload_n 1, 1) := by decide +kernel
theorem dX8_layFrom_40 : decode cX8_layFrom 40 = .ok (.iload 6, 2) := by decide +kernel
theorem dX8_layFrom_42 : decode cX8_layFrom 42 = .ok (.iload_n 2, 1) := by decide +kernel
theorem dX8_layFrom_43 : decode cX8_layFrom 43 = .ok (.iload_n 3, 1) := by decide +kernel
theorem dX8_layFrom_44 : decode cX8_layFrom 44 = .ok (.invokevirtual 199, 3) := by decide +kernel
theorem dX8_layFrom_47 : decode cX8_layFrom 47 = .ok (.ifCond .eq 45, 3) := by decide +kernel
theorem dX8_layFrom_50 : decode cX8_layFrom 50 = .ok (.iload_n 2, 1) := by decide +kernel
theorem dX8_layFrom_51 : decode cX8_layFrom 51 = .ok (.aload_n 0, 1) := by decide +kernel
theorem dX8_layFrom_52 : decode cX8_layFrom 52 = .ok (.iload 6, 2) := by decide +kernel
theorem dX8_layFrom_54 : decode cX8_layFrom 54 = .ok (.invokevirtual 152, 3) := by decide +kernel
theorem dX8_layFrom_57 : decode cX8_layFrom 57 = .ok (.iadd, 1) := by decide +kernel
theorem dX8_layFrom_58 : decode cX8_layFrom 58 = .ok (.istore 7, 2) := by decide +kernel
theorem dX8_layFrom_60 : decode cX8_layFrom 60 = .ok (.lload 4, 2) := by decide +kernel
theorem dX8_layFrom_62 : decode cX8_layFrom 62 = .ok (.iload 7, 2) := by decide +kernel
theorem dX8_layFrom_64 : decode cX8_layFrom 64 = .ok (.aload_n 1, 1) := by decide +kernel
theorem dX8_layFrom_65 : decode cX8_layFrom 65 = .ok (.iconst 0, 1) := by decide +kernel
theorem dX8_layFrom_66 : decode cX8_layFrom 66 = .ok (.iaload, 1) := by decide +kernel
theorem dX8_layFrom_67 : decode cX8_layFrom 67 = .ok (.if_icmp .ne 7, 3) := by decide +kernel
theorem dX8_layFrom_70 : decode cX8_layFrom 70 = .ok (.lconst 1, 1) := by decide +kernel
theorem dX8_layFrom_71 : decode cX8_layFrom 71 = .ok (.goto 18, 3) := by decide +kernel
theorem dX8_layFrom_74 : decode cX8_layFrom 74 = .ok (.aload_n 0, 1) := by decide +kernel
theorem dX8_layFrom_75 : decode cX8_layFrom 75 = .ok (.getfield 78, 3) := by decide +kernel
theorem dX8_layFrom_78 : decode cX8_layFrom 78 = .ok (.bipush 9, 2) := by decide +kernel
theorem dX8_layFrom_80 : decode cX8_layFrom 80 = .ok (.iload 7, 2) := by decide +kernel
theorem dX8_layFrom_82 : decode cX8_layFrom 82 = .ok (.iconst 1, 1) := by decide +kernel
theorem dX8_layFrom_83 : decode cX8_layFrom 83 = .ok (.iadd, 1) := by decide +kernel
theorem dX8_layFrom_84 : decode cX8_layFrom 84 = .ok (.imul, 1) := by decide +kernel
theorem dX8_layFrom_85 : decode cX8_layFrom 85 = .ok (.iload 6, 2) := by decide +kernel
theorem dX8_layFrom_87 : decode cX8_layFrom 87 = .ok (.iadd, 1) := by decide +kernel
theorem dX8_layFrom_88 : decode cX8_layFrom 88 = .ok (.laload, 1) := by decide +kernel
theorem dX8_layFrom_89 : decode cX8_layFrom 89 = .ok (.ladd, 1) := by decide +kernel
theorem dX8_layFrom_90 : decode cX8_layFrom 90 = .ok (.lstore 4, 2) := by decide +kernel
theorem dX8_layFrom_92 : decode cX8_layFrom 92 = .ok (.iinc 6 1, 3) := by decide +kernel
theorem dX8_layFrom_95 : decode cX8_layFrom 95 = .ok (.goto (-73), 3) := by decide +kernel
theorem dX8_layFrom_98 : decode cX8_layFrom 98 = .ok (.aload_n 0, 1) := by decide +kernel
theorem dX8_layFrom_99 : decode cX8_layFrom 99 = .ok (.getfield 78, 3) := by decide +kernel
theorem dX8_layFrom_102 : decode cX8_layFrom 102 = .ok (.bipush 9, 2) := by decide +kernel
theorem dX8_layFrom_104 : decode cX8_layFrom 104 = .ok (.iload_n 2, 1) := by decide +kernel
theorem dX8_layFrom_105 : decode cX8_layFrom 105 = .ok (.imul, 1) := by decide +kernel
theorem dX8_layFrom_106 : decode cX8_layFrom 106 = .ok (.iload_n 3, 1) := by decide +kernel
theorem dX8_layFrom_107 : decode cX8_layFrom 107 = .ok (.iadd, 1) := by decide +kernel
theorem dX8_layFrom_108 : decode cX8_layFrom 108 = .ok (.lload 4, 2) := by decide +kernel
theorem dX8_layFrom_110 : decode cX8_layFrom 110 = .ok (.lastore, 1) := by decide +kernel
theorem dX8_layFrom_111 : decode cX8_layFrom 111 = .ok (.iinc 3 1, 3) := by decide +kernel
theorem dX8_layFrom_114 : decode cX8_layFrom 114 = .ok (.goto (-104), 3) := by decide +kernel
theorem dX8_layFrom_117 : decode cX8_layFrom 117 = .ok (.iinc 2 (-1), 3) := by decide +kernel
theorem dX8_layFrom_120 : decode cX8_layFrom 120 = .ok (.goto (-116), 3) := by decide +kernel
theorem dX8_layFrom_123 : decode cX8_layFrom 123 = .ok (.return_, 1) := by decide +kernel
theorem dX8_behind_0 : decode cX8_behind 0 = .ok (.iload_n 3, 1) := by decide +kernel
theorem dX8_behind_1 : decode cX8_behind 1 = .ok (.aload_n 0, 1) := by decide +kernel
theorem dX8_behind_2 : decode cX8_behind 2 = .ok (.iload_n 2, 1) := by decide +kernel
theorem dX8_behind_3 : decode cX8_behind 3 = .ok (.invokevirtual 152, 3) := by decide +kernel
theorem dX8_behind_6 : decode cX8_behind 6 = .ok (.iadd, 1) := by decide +kernel
theorem dX8_behind_7 : decode cX8_behind 7 = .ok (.istore 4, 2) := by decide +kernel
theorem dX8_behind_9 : decode cX8_behind 9 = .ok (.iload 4, 2) := by decide +kernel
theorem dX8_behind_11 : decode cX8_behind 11 = .ok (.aload_n 1, 1) := by decide +kernel
theorem dX8_behind_12 : decode cX8_behind 12 = .ok (.iconst 0, 1) := by decide +kernel
theorem dX8_behind_13 : decode cX8_behind 13 = .ok (.iaload, 1) := by decide +kernel
theorem dX8_behind_14 : decode cX8_behind 14 = .ok (.if_icmp .ne 7, 3) := by decide +kernel
theorem dX8_behind_17 : decode cX8_behind 17 = .ok (.lconst 1, 1) := by decide +kernel
theorem dX8_behind_18 : decode cX8_behind 18 = .ok (.goto 17, 3) := by decide +kernel
theorem dX8_behind_21 : decode cX8_behind 21 = .ok (.aload_n 0, 1) := by decide +kernel
theorem dX8_behind_22 : decode cX8_behind 22 = .ok (.getfield 78, 3) := by decide +kernel
theorem dX8_behind_25 : decode cX8_behind 25 = .ok (.bipush 9, 2) := by decide +kernel
theorem dX8_behind_27 : decode cX8_behind 27 = .ok (.iload 4, 2) := by decide +kernel
theorem dX8_behind_29 : decode cX8_behind 29 = .ok (.iconst 1, 1) := by decide +kernel
theorem dX8_behind_30 : decode cX8_behind 30 = .ok (.iadd, 1) := by decide +kernel
theorem dX8_behind_31 : decode cX8_behind 31 = .ok (.imul, 1) := by decide +kernel
theorem dX8_behind_32 : decode cX8_behind 32 = .ok (.iload_n 2, 1) := by decide +kernel
theorem dX8_behind_33 : decode cX8_behind 33 = .ok (.iadd, 1) := by decide +kernel
theorem dX8_behind_34 : decode cX8_behind 34 = .ok (.laload, 1) := by decide +kernel
theorem dX8_behind_35 : decode cX8_behind 35 = .ok (.lreturn, 1) := by decide +kernel
theorem dX8_layTo_0 : decode cX8_layTo 0 = .ok (.iconst 0, 1) := by decide +kernel
theorem dX8_layTo_1 : decode cX8_layTo 1 = .ok (.istore_n 2, 1) := by decide +kernel
theorem dX8_layTo_2 : decode cX8_layTo 2 = .ok (.iload_n 2, 1) := by decide +kernel
theorem dX8_layTo_3 : decode cX8_layTo 3 = .ok (.sipush 225, 3) := by decide +kernel
theorem dX8_layTo_6 : decode cX8_layTo 6 = .ok (.if_icmp .ge 16, 3) := by decide +kernel
theorem dX8_layTo_9 : decode cX8_layTo 9 = .ok (.aload_n 0, 1) := by decide +kernel
theorem dX8_layTo_10 : decode cX8_layTo 10 = .ok (.getfield 81, 3) := by decide +kernel
theorem dX8_layTo_13 : decode cX8_layTo 13 = .ok (.iload_n 2, 1) := by decide +kernel
theorem dX8_layTo_14 : decode cX8_layTo 14 = .ok (.lconst 0, 1) := by decide +kernel
theorem dX8_layTo_15 : decode cX8_layTo 15 = .ok (.lastore, 1) := by decide +kernel
theorem dX8_layTo_16 : decode cX8_layTo 16 = .ok (.iinc 2 1, 3) := by decide +kernel
theorem dX8_layTo_19 : decode cX8_layTo 19 = .ok (.goto (-17), 3) := by decide +kernel
theorem dX8_layTo_22 : decode cX8_layTo 22 = .ok (.aload_n 0, 1) := by decide +kernel
theorem dX8_layTo_23 : decode cX8_layTo 23 = .ok (.getfield 81, 3) := by decide +kernel
theorem dX8_layTo_26 : decode cX8_layTo 26 = .ok (.bipush 8, 2) := by decide +kernel
theorem dX8_layTo_28 : decode cX8_layTo 28 = .ok (.lconst 1, 1) := by decide +kernel
theorem dX8_layTo_29 : decode cX8_layTo 29 = .ok (.lastore, 1) := by decide +kernel
theorem dX8_layTo_30 : decode cX8_layTo 30 = .ok (.iconst 0, 1) := by decide +kernel
theorem dX8_layTo_31 : decode cX8_layTo 31 = .ok (.istore_n 2, 1) := by decide +kernel
theorem dX8_layTo_32 : decode cX8_layTo 32 = .ok (.iload_n 2, 1) := by decide +kernel
theorem dX8_layTo_33 : decode cX8_layTo 33 = .ok (.aload_n 1, 1) := by decide +kernel
theorem dX8_layTo_34 : decode cX8_layTo 34 = .ok (.iconst 0, 1) := by decide +kernel
theorem dX8_layTo_35 : decode cX8_layTo 35 = .ok (.iaload, 1) := by decide +kernel
theorem dX8_layTo_36 : decode cX8_layTo 36 = .ok (.if_icmp .ge 122, 3) := by decide +kernel
theorem dX8_layTo_39 : decode cX8_layTo 39 = .ok (.iconst 0, 1) := by decide +kernel
theorem dX8_layTo_40 : decode cX8_layTo 40 = .ok (.istore_n 3, 1) := by decide +kernel
theorem dX8_layTo_41 : decode cX8_layTo 41 = .ok (.iload_n 3, 1) := by decide +kernel
theorem dX8_layTo_42 : decode cX8_layTo 42 = .ok (.bipush 9, 2) := by decide +kernel
theorem dX8_layTo_44 : decode cX8_layTo 44 = .ok (.aload_n 0, 1) := by decide +kernel
theorem dX8_layTo_45 : decode cX8_layTo 45 = .ok (.getfield 98, 3) := by decide +kernel
theorem dX8_layTo_48 : decode cX8_layTo 48 = .ok (.imul, 1) := by decide +kernel
theorem dX8_layTo_49 : decode cX8_layTo 49 = .ok (.if_icmp .ge 103, 3) := by decide +kernel
theorem dX8_layTo_52 : decode cX8_layTo 52 = .ok (.iload_n 3, 1) := by decide +kernel
theorem dX8_layTo_53 : decode cX8_layTo 53 = .ok (.aload_n 0, 1) := by decide +kernel
theorem dX8_layTo_54 : decode cX8_layTo 54 = .ok (.getfield 98, 3) := by decide +kernel
theorem dX8_layTo_57 : decode cX8_layTo 57 = .ok (.idiv, 1) := by decide +kernel
theorem dX8_layTo_58 : decode cX8_layTo 58 = .ok (.istore 4, 2) := by decide +kernel
theorem dX8_layTo_60 : decode cX8_layTo 60 = .ok (.iload_n 3, 1) := by decide +kernel
theorem dX8_layTo_61 : decode cX8_layTo 61 = .ok (.aload_n 0, 1) := by decide +kernel
theorem dX8_layTo_62 : decode cX8_layTo 62 = .ok (.getfield 98, 3) := by decide +kernel
theorem dX8_layTo_65 : decode cX8_layTo 65 = .ok (.irem, 1) := by decide +kernel
theorem dX8_layTo_66 : decode cX8_layTo 66 = .ok (.istore 5, 2) := by decide +kernel
theorem dX8_layTo_68 : decode cX8_layTo 68 = .ok (.iload_n 2, 1) := by decide +kernel
theorem dX8_layTo_69 : decode cX8_layTo 69 = .ok (.aload_n 0, 1) := by decide +kernel
theorem dX8_layTo_70 : decode cX8_layTo 70 = .ok (.iload 5, 2) := by decide +kernel
theorem dX8_layTo_72 : decode cX8_layTo 72 = .ok (.invokevirtual 152, 3) := by decide +kernel
theorem dX8_layTo_75 : decode cX8_layTo 75 = .ok (.iadd, 1) := by decide +kernel
theorem dX8_layTo_76 : decode cX8_layTo 76 = .ok (.istore 6, 2) := by decide +kernel
theorem dX8_layTo_78 : decode cX8_layTo 78 = .ok (.aload_n 0, 1) := by decide +kernel
theorem dX8_layTo_79 : decode cX8_layTo 79 = .ok (.getfield 81, 3) := by decide +kernel
theorem dX8_layTo_82 : decode cX8_layTo 82 = .ok (.bipush 9, 2) := by decide +kernel
theorem dX8_layTo_84 : decode cX8_layTo 84 = .ok (.iload_n 2, 1) := by decide +kernel
theorem dX8_layTo_85 : decode cX8_layTo 85 = .ok (.imul, 1) := by decide +kernel
theorem dX8_layTo_86 : decode cX8_layTo 86 = .ok (.iload 4, 2) := by decide +kernel
theorem dX8_layTo_88 : decode cX8_layTo 88 = .ok (.iadd, 1) := by decide +kernel
theorem dX8_layTo_89 : decode cX8_layTo 89 = .ok (.laload, 1) := by decide +kernel
theorem dX8_layTo_90 : decode cX8_layTo 90 = .ok (.lconst 0, 1) := by decide +kernel
theorem dX8_layTo_91 : decode cX8_layTo 91 = .ok (.lcmp, 1) := by decide +kernel
theorem dX8_layTo_92 : decode cX8_layTo 92 = .ok (.ifCond .le 54, 3) := by decide +kernel
theorem dX8_layTo_95 : decode cX8_layTo 95 = .ok (.iload 6, 2) := by decide +kernel
theorem dX8_layTo_97 : decode cX8_layTo 97 = .ok (.aload_n 1, 1) := by decide +kernel
theorem dX8_layTo_98 : decode cX8_layTo 98 = .ok (.iconst 0, 1) := by decide +kernel
theorem dX8_layTo_99 : decode cX8_layTo 99 = .ok (.iaload, 1) := by decide +kernel
theorem dX8_layTo_100 : decode cX8_layTo 100 = .ok (.if_icmp .ge 46, 3) := by decide +kernel
theorem dX8_layTo_103 : decode cX8_layTo 103 = .ok (.aload_n 0, 1) := by decide +kernel
theorem dX8_layTo_104 : decode cX8_layTo 104 = .ok (.aload_n 1, 1) := by decide +kernel
theorem dX8_layTo_105 : decode cX8_layTo 105 = .ok (.iload 5, 2) := by decide +kernel
theorem dX8_layTo_107 : decode cX8_layTo 107 = .ok (.iload_n 2, 1) := by decide +kernel
theorem dX8_layTo_108 : decode cX8_layTo 108 = .ok (.iload 4, 2) := by decide +kernel
theorem dX8_layTo_110 : decode cX8_layTo 110 = .ok (.invokevirtual 199, 3) := by decide +kernel
theorem dX8_layTo_113 : decode cX8_layTo 113 = .ok (.ifCond .eq 33, 3) := by decide +kernel
theorem dX8_layTo_116 : decode cX8_layTo 116 = .ok (.aload_n 0, 1) := by decide +kernel
theorem dX8_layTo_117 : decode cX8_layTo 117 = .ok (.getfield 81, 3) := by decide +kernel
theorem dX8_layTo_120 : decode cX8_layTo 120 = .ok (.bipush 9, 2) := by decide +kernel
theorem dX8_layTo_122 : decode cX8_layTo 122 = .ok (.iload 6, 2) := by decide +kernel
theorem dX8_layTo_124 : decode cX8_layTo 124 = .ok (.iconst 1, 1) := by decide +kernel
theorem dX8_layTo_125 : decode cX8_layTo 125 = .ok (.iadd, 1) := by decide +kernel
theorem dX8_layTo_126 : decode cX8_layTo 126 = .ok (.imul, 1) := by decide +kernel
theorem dX8_layTo_127 : decode cX8_layTo 127 = .ok (.iload 5, 2) := by decide +kernel
theorem dX8_layTo_129 : decode cX8_layTo 129 = .ok (.iadd, 1) := by decide +kernel
theorem dX8_layTo_130 : decode cX8_layTo 130 = .ok (.dup2, 1) := by decide +kernel
theorem dX8_layTo_131 : decode cX8_layTo 131 = .ok (.laload, 1) := by decide +kernel
theorem dX8_layTo_132 : decode cX8_layTo 132 = .ok (.aload_n 0, 1) := by decide +kernel
theorem dX8_layTo_133 : decode cX8_layTo 133 = .ok (.getfield 81, 3) := by decide +kernel
theorem dX8_layTo_136 : decode cX8_layTo 136 = .ok (.bipush 9, 2) := by decide +kernel
theorem dX8_layTo_138 : decode cX8_layTo 138 = .ok (.iload_n 2, 1) := by decide +kernel
theorem dX8_layTo_139 : decode cX8_layTo 139 = .ok (.imul, 1) := by decide +kernel
theorem dX8_layTo_140 : decode cX8_layTo 140 = .ok (.iload 4, 2) := by decide +kernel
theorem dX8_layTo_142 : decode cX8_layTo 142 = .ok (.iadd, 1) := by decide +kernel
theorem dX8_layTo_143 : decode cX8_layTo 143 = .ok (.laload, 1) := by decide +kernel
theorem dX8_layTo_144 : decode cX8_layTo 144 = .ok (.ladd, 1) := by decide +kernel
theorem dX8_layTo_145 : decode cX8_layTo 145 = .ok (.lastore, 1) := by decide +kernel
theorem dX8_layTo_146 : decode cX8_layTo 146 = .ok (.iinc 3 1, 3) := by decide +kernel
theorem dX8_layTo_149 : decode cX8_layTo 149 = .ok (.goto (-108), 3) := by decide +kernel
theorem dX8_layTo_152 : decode cX8_layTo 152 = .ok (.iinc 2 1, 3) := by decide +kernel
theorem dX8_layTo_155 : decode cX8_layTo 155 = .ok (.goto (-123), 3) := by decide +kernel
theorem dX8_layTo_158 : decode cX8_layTo 158 = .ok (.return_, 1) := by decide +kernel
theorem dX8_all_0 : decode cX8_all 0 = .ok (.aload_n 0, 1) := by decide +kernel
theorem dX8_all_1 : decode cX8_all 1 = .ok (.aload_n 1, 1) := by decide +kernel
theorem dX8_all_2 : decode cX8_all 2 = .ok (.invokevirtual 203, 3) := by decide +kernel
theorem dX8_all_5 : decode cX8_all 5 = .ok (.aload_n 0, 1) := by decide +kernel
theorem dX8_all_6 : decode cX8_all 6 = .ok (.getfield 78, 3) := by decide +kernel
theorem dX8_all_9 : decode cX8_all 9 = .ok (.bipush 8, 2) := by decide +kernel
theorem dX8_all_11 : decode cX8_all 11 = .ok (.laload, 1) := by decide +kernel
theorem dX8_all_12 : decode cX8_all 12 = .ok (.lreturn, 1) := by decide +kernel
theorem dX8_layHeavy_0 : decode cX8_layHeavy 0 = .ok (.aload_n 1, 1) := by decide +kernel
theorem dX8_layHeavy_1 : decode cX8_layHeavy 1 = .ok (.iconst 0, 1) := by decide +kernel
theorem dX8_layHeavy_2 : decode cX8_layHeavy 2 = .ok (.iaload, 1) := by decide +kernel
theorem dX8_layHeavy_3 : decode cX8_layHeavy 3 = .ok (.istore_n 3, 1) := by decide +kernel
theorem dX8_layHeavy_4 : decode cX8_layHeavy 4 = .ok (.iload_n 3, 1) := by decide +kernel
theorem dX8_layHeavy_5 : decode cX8_layHeavy 5 = .ok (.ifCond .lt 128, 3) := by decide +kernel
theorem dX8_layHeavy_8 : decode cX8_layHeavy 8 = .ok (.iconst 0, 1) := by decide +kernel
theorem dX8_layHeavy_9 : decode cX8_layHeavy 9 = .ok (.istore 4, 2) := by decide +kernel
theorem dX8_layHeavy_11 : decode cX8_layHeavy 11 = .ok (.iload 4, 2) := by decide +kernel
theorem dX8_layHeavy_13 : decode cX8_layHeavy 13 = .ok (.bipush 8, 2) := by decide +kernel
theorem dX8_layHeavy_15 : decode cX8_layHeavy 15 = .ok (.if_icmp .gt 112, 3) := by decide +kernel
theorem dX8_layHeavy_18 : decode cX8_layHeavy 18 = .ok (.sipush 657, 3) := by decide +kernel
theorem dX8_layHeavy_21 : decode cX8_layHeavy 21 = .ok (.iload_n 3, 1) := by decide +kernel
theorem dX8_layHeavy_22 : decode cX8_layHeavy 22 = .ok (.imul, 1) := by decide +kernel
theorem dX8_layHeavy_23 : decode cX8_layHeavy 23 = .ok (.bipush 73, 2) := by decide +kernel
theorem dX8_layHeavy_25 : decode cX8_layHeavy 25 = .ok (.iload 4, 2) := by decide +kernel
theorem dX8_layHeavy_27 : decode cX8_layHeavy 27 = .ok (.imul, 1) := by decide +kernel
theorem dX8_layHeavy_28 : decode cX8_layHeavy 28 = .ok (.iadd, 1) := by decide +kernel
theorem dX8_layHeavy_29 : decode cX8_layHeavy 29 = .ok (.istore 5, 2) := by decide +kernel
theorem dX8_layHeavy_31 : decode cX8_layHeavy 31 = .ok (.iconst 0, 1) := by decide +kernel
theorem dX8_layHeavy_32 : decode cX8_layHeavy 32 = .ok (.istore 6, 2) := by decide +kernel
theorem dX8_layHeavy_34 : decode cX8_layHeavy 34 = .ok (.iload 6, 2) := by decide +kernel
theorem dX8_layHeavy_36 : decode cX8_layHeavy 36 = .ok (.bipush 73, 2) := by decide +kernel
theorem dX8_layHeavy_38 : decode cX8_layHeavy 38 = .ok (.if_icmp .ge 20, 3) := by decide +kernel
theorem dX8_layHeavy_41 : decode cX8_layHeavy 41 = .ok (.aload_n 0, 1) := by decide +kernel
theorem dX8_layHeavy_42 : decode cX8_layHeavy 42 = .ok (.getfield 74, 3) := by decide +kernel
theorem dX8_layHeavy_45 : decode cX8_layHeavy 45 = .ok (.iload 5, 2) := by decide +kernel
theorem dX8_layHeavy_47 : decode cX8_layHeavy 47 = .ok (.iload 6, 2) := by decide +kernel
theorem dX8_layHeavy_49 : decode cX8_layHeavy 49 = .ok (.iadd, 1) := by decide +kernel
theorem dX8_layHeavy_50 : decode cX8_layHeavy 50 = .ok (.lconst 0, 1) := by decide +kernel
theorem dX8_layHeavy_51 : decode cX8_layHeavy 51 = .ok (.lastore, 1) := by decide +kernel
theorem dX8_layHeavy_52 : decode cX8_layHeavy 52 = .ok (.iinc 6 1, 3) := by decide +kernel
theorem dX8_layHeavy_55 : decode cX8_layHeavy 55 = .ok (.goto (-21), 3) := by decide +kernel
theorem dX8_layHeavy_58 : decode cX8_layHeavy 58 = .ok (.iconst 0, 1) := by decide +kernel
theorem dX8_layHeavy_59 : decode cX8_layHeavy 59 = .ok (.istore 6, 2) := by decide +kernel
theorem dX8_layHeavy_61 : decode cX8_layHeavy 61 = .ok (.iload 6, 2) := by decide +kernel
theorem dX8_layHeavy_63 : decode cX8_layHeavy 63 = .ok (.aload_n 0, 1) := by decide +kernel
theorem dX8_layHeavy_64 : decode cX8_layHeavy 64 = .ok (.getfield 98, 3) := by decide +kernel
theorem dX8_layHeavy_67 : decode cX8_layHeavy 67 = .ok (.if_icmp .ge 54, 3) := by decide +kernel
theorem dX8_layHeavy_70 : decode cX8_layHeavy 70 = .ok (.iload_n 3, 1) := by decide +kernel
theorem dX8_layHeavy_71 : decode cX8_layHeavy 71 = .ok (.aload_n 1, 1) := by decide +kernel
theorem dX8_layHeavy_72 : decode cX8_layHeavy 72 = .ok (.iconst 0, 1) := by decide +kernel
theorem dX8_layHeavy_73 : decode cX8_layHeavy 73 = .ok (.iaload, 1) := by decide +kernel
theorem dX8_layHeavy_74 : decode cX8_layHeavy 74 = .ok (.if_icmp .ge 47, 3) := by decide +kernel
theorem dX8_layHeavy_77 : decode cX8_layHeavy 77 = .ok (.aload_n 0, 1) := by decide +kernel
theorem dX8_layHeavy_78 : decode cX8_layHeavy 78 = .ok (.aload_n 1, 1) := by decide +kernel
theorem dX8_layHeavy_79 : decode cX8_layHeavy 79 = .ok (.iload 6, 2) := by decide +kernel
theorem dX8_layHeavy_81 : decode cX8_layHeavy 81 = .ok (.iload_n 3, 1) := by decide +kernel
theorem dX8_layHeavy_82 : decode cX8_layHeavy 82 = .ok (.iload 4, 2) := by decide +kernel
theorem dX8_layHeavy_84 : decode cX8_layHeavy 84 = .ok (.invokevirtual 199, 3) := by decide +kernel
theorem dX8_layHeavy_87 : decode cX8_layHeavy 87 = .ok (.ifCond .eq 28, 3) := by decide +kernel
theorem dX8_layHeavy_90 : decode cX8_layHeavy 90 = .ok (.iload_n 2, 1) := by decide +kernel
theorem dX8_layHeavy_91 : decode cX8_layHeavy 91 = .ok (.ifCond .eq 14, 3) := by decide +kernel
theorem dX8_layHeavy_94 : decode cX8_layHeavy 94 = .ok (.aload_n 0, 1) := by decide +kernel
theorem dX8_layHeavy_95 : decode cX8_layHeavy 95 = .ok (.aload_n 1, 1) := by decide +kernel
theorem dX8_layHeavy_96 : decode cX8_layHeavy 96 = .ok (.iload 6, 2) := by decide +kernel
theorem dX8_layHeavy_98 : decode cX8_layHeavy 98 = .ok (.iload_n 3, 1) := by decide +kernel
theorem dX8_layHeavy_99 : decode cX8_layHeavy 99 = .ok (.invokevirtual 206, 3) := by decide +kernel
theorem dX8_layHeavy_102 : decode cX8_layHeavy 102 = .ok (.ifCond .eq 13, 3) := by decide +kernel
theorem dX8_layHeavy_105 : decode cX8_layHeavy 105 = .ok (.aload_n 0, 1) := by decide +kernel
theorem dX8_layHeavy_106 : decode cX8_layHeavy 106 = .ok (.aload_n 1, 1) := by decide +kernel
theorem dX8_layHeavy_107 : decode cX8_layHeavy 107 = .ok (.iload 5, 2) := by decide +kernel
theorem dX8_layHeavy_109 : decode cX8_layHeavy 109 = .ok (.iload 6, 2) := by decide +kernel
theorem dX8_layHeavy_111 : decode cX8_layHeavy 111 = .ok (.iload_n 3, 1) := by decide +kernel
theorem dX8_layHeavy_112 : decode cX8_layHeavy 112 = .ok (.invokevirtual 209, 3) := by decide +kernel
theorem dX8_layHeavy_115 : decode cX8_layHeavy 115 = .ok (.iinc 6 1, 3) := by decide +kernel
theorem dX8_layHeavy_118 : decode cX8_layHeavy 118 = .ok (.goto (-57), 3) := by decide +kernel
theorem dX8_layHeavy_121 : decode cX8_layHeavy 121 = .ok (.iinc 4 1, 3) := by decide +kernel
theorem dX8_layHeavy_124 : decode cX8_layHeavy 124 = .ok (.goto (-113), 3) := by decide +kernel
theorem dX8_layHeavy_127 : decode cX8_layHeavy 127 = .ok (.iinc 3 (-1), 3) := by decide +kernel
theorem dX8_layHeavy_130 : decode cX8_layHeavy 130 = .ok (.goto (-126), 3) := by decide +kernel
theorem dX8_layHeavy_133 : decode cX8_layHeavy 133 = .ok (.return_, 1) := by decide +kernel
theorem dX8_addHeavy_0 : decode cX8_addHeavy 0 = .ok (.iload 4, 2) := by decide +kernel
theorem dX8_addHeavy_2 : decode cX8_addHeavy 2 = .ok (.aload_n 0, 1) := by decide +kernel
theorem dX8_addHeavy_3 : decode cX8_addHeavy 3 = .ok (.iload_n 3, 1) := by decide +kernel
theorem dX8_addHeavy_4 : decode cX8_addHeavy 4 = .ok (.invokevirtual 152, 3) := by decide +kernel
theorem dX8_addHeavy_7 : decode cX8_addHeavy 7 = .ok (.iadd, 1) := by decide +kernel
theorem dX8_addHeavy_8 : decode cX8_addHeavy 8 = .ok (.istore 5, 2) := by decide +kernel
theorem dX8_addHeavy_10 : decode cX8_addHeavy 10 = .ok (.aload_n 1, 1) := by decide +kernel
theorem dX8_addHeavy_11 : decode cX8_addHeavy 11 = .ok (.bipush 11, 2) := by decide +kernel
theorem dX8_addHeavy_13 : decode cX8_addHeavy 13 = .ok (.iload_n 3, 1) := by decide +kernel
theorem dX8_addHeavy_14 : decode cX8_addHeavy 14 = .ok (.iadd, 1) := by decide +kernel
theorem dX8_addHeavy_15 : decode cX8_addHeavy 15 = .ok (.iaload, 1) := by decide +kernel
theorem dX8_addHeavy_16 : decode cX8_addHeavy 16 = .ok (.istore 6, 2) := by decide +kernel
theorem dX8_addHeavy_18 : decode cX8_addHeavy 18 = .ok (.iload 5, 2) := by decide +kernel
theorem dX8_addHeavy_20 : decode cX8_addHeavy 20 = .ok (.aload_n 1, 1) := by decide +kernel
theorem dX8_addHeavy_21 : decode cX8_addHeavy 21 = .ok (.iconst 0, 1) := by decide +kernel
theorem dX8_addHeavy_22 : decode cX8_addHeavy 22 = .ok (.iaload, 1) := by decide +kernel
theorem dX8_addHeavy_23 : decode cX8_addHeavy 23 = .ok (.if_icmp .ne 17, 3) := by decide +kernel
theorem dX8_addHeavy_26 : decode cX8_addHeavy 26 = .ok (.aload_n 0, 1) := by decide +kernel
theorem dX8_addHeavy_27 : decode cX8_addHeavy 27 = .ok (.getfield 74, 3) := by decide +kernel
theorem dX8_addHeavy_30 : decode cX8_addHeavy 30 = .ok (.iload_n 2, 1) := by decide +kernel
theorem dX8_addHeavy_31 : decode cX8_addHeavy 31 = .ok (.iload 6, 2) := by decide +kernel
theorem dX8_addHeavy_33 : decode cX8_addHeavy 33 = .ok (.iadd, 1) := by decide +kernel
theorem dX8_addHeavy_34 : decode cX8_addHeavy 34 = .ok (.dup2, 1) := by decide +kernel
theorem dX8_addHeavy_35 : decode cX8_addHeavy 35 = .ok (.laload, 1) := by decide +kernel
theorem dX8_addHeavy_36 : decode cX8_addHeavy 36 = .ok (.lconst 1, 1) := by decide +kernel
theorem dX8_addHeavy_37 : decode cX8_addHeavy 37 = .ok (.ladd, 1) := by decide +kernel
theorem dX8_addHeavy_38 : decode cX8_addHeavy 38 = .ok (.lastore, 1) := by decide +kernel
theorem dX8_addHeavy_39 : decode cX8_addHeavy 39 = .ok (.return_, 1) := by decide +kernel
theorem dX8_addHeavy_40 : decode cX8_addHeavy 40 = .ok (.iconst 0, 1) := by decide +kernel
theorem dX8_addHeavy_41 : decode cX8_addHeavy 41 = .ok (.istore 7, 2) := by decide +kernel
theorem dX8_addHeavy_43 : decode cX8_addHeavy 43 = .ok (.iload 7, 2) := by decide +kernel
theorem dX8_addHeavy_45 : decode cX8_addHeavy 45 = .ok (.iload 6, 2) := by decide +kernel
theorem dX8_addHeavy_47 : decode cX8_addHeavy 47 = .ok (.iadd, 1) := by decide +kernel
theorem dX8_addHeavy_48 : decode cX8_addHeavy 48 = .ok (.bipush 73, 2) := by decide +kernel
theorem dX8_addHeavy_50 : decode cX8_addHeavy 50 = .ok (.if_icmp .ge 45, 3) := by decide +kernel
theorem dX8_addHeavy_53 : decode cX8_addHeavy 53 = .ok (.aload_n 0, 1) := by decide +kernel
theorem dX8_addHeavy_54 : decode cX8_addHeavy 54 = .ok (.getfield 74, 3) := by decide +kernel
theorem dX8_addHeavy_57 : decode cX8_addHeavy 57 = .ok (.iload_n 2, 1) := by decide +kernel
theorem dX8_addHeavy_58 : decode cX8_addHeavy 58 = .ok (.iload 6, 2) := by decide +kernel
theorem dX8_addHeavy_60 : decode cX8_addHeavy 60 = .ok (.iadd, 1) := by decide +kernel
theorem dX8_addHeavy_61 : decode cX8_addHeavy 61 = .ok (.iload 7, 2) := by decide +kernel
theorem dX8_addHeavy_63 : decode cX8_addHeavy 63 = .ok (.iadd, 1) := by decide +kernel
theorem dX8_addHeavy_64 : decode cX8_addHeavy 64 = .ok (.dup2, 1) := by decide +kernel
theorem dX8_addHeavy_65 : decode cX8_addHeavy 65 = .ok (.laload, 1) := by decide +kernel
theorem dX8_addHeavy_66 : decode cX8_addHeavy 66 = .ok (.aload_n 0, 1) := by decide +kernel
theorem dX8_addHeavy_67 : decode cX8_addHeavy 67 = .ok (.getfield 74, 3) := by decide +kernel
theorem dX8_addHeavy_70 : decode cX8_addHeavy 70 = .ok (.sipush 657, 3) := by decide +kernel
theorem dX8_addHeavy_73 : decode cX8_addHeavy 73 = .ok (.iload 5, 2) := by decide +kernel
theorem dX8_addHeavy_75 : decode cX8_addHeavy 75 = .ok (.iconst 1, 1) := by decide +kernel
theorem dX8_addHeavy_76 : decode cX8_addHeavy 76 = .ok (.iadd, 1) := by decide +kernel
theorem dX8_addHeavy_77 : decode cX8_addHeavy 77 = .ok (.imul, 1) := by decide +kernel
theorem dX8_addHeavy_78 : decode cX8_addHeavy 78 = .ok (.bipush 73, 2) := by decide +kernel
theorem dX8_addHeavy_80 : decode cX8_addHeavy 80 = .ok (.iload_n 3, 1) := by decide +kernel
theorem dX8_addHeavy_81 : decode cX8_addHeavy 81 = .ok (.imul, 1) := by decide +kernel
theorem dX8_addHeavy_82 : decode cX8_addHeavy 82 = .ok (.iadd, 1) := by decide +kernel
theorem dX8_addHeavy_83 : decode cX8_addHeavy 83 = .ok (.iload 7, 2) := by decide +kernel
theorem dX8_addHeavy_85 : decode cX8_addHeavy 85 = .ok (.iadd, 1) := by decide +kernel
theorem dX8_addHeavy_86 : decode cX8_addHeavy 86 = .ok (.laload, 1) := by decide +kernel
theorem dX8_addHeavy_87 : decode cX8_addHeavy 87 = .ok (.ladd, 1) := by decide +kernel
theorem dX8_addHeavy_88 : decode cX8_addHeavy 88 = .ok (.lastore, 1) := by decide +kernel
theorem dX8_addHeavy_89 : decode cX8_addHeavy 89 = .ok (.iinc 7 1, 3) := by decide +kernel
theorem dX8_addHeavy_92 : decode cX8_addHeavy 92 = .ok (.goto (-49), 3) := by decide +kernel
theorem dX8_addHeavy_95 : decode cX8_addHeavy 95 = .ok (.return_, 1) := by decide +kernel
theorem dX8_heavyBehind_0 : decode cX8_heavyBehind 0 = .ok (.iload_n 3, 1) := by decide +kernel
theorem dX8_heavyBehind_1 : decode cX8_heavyBehind 1 = .ok (.aload_n 0, 1) := by decide +kernel
theorem dX8_heavyBehind_2 : decode cX8_heavyBehind 2 = .ok (.iload_n 2, 1) := by decide +kernel
theorem dX8_heavyBehind_3 : decode cX8_heavyBehind 3 = .ok (.invokevirtual 152, 3) := by decide +kernel
theorem dX8_heavyBehind_6 : decode cX8_heavyBehind 6 = .ok (.iadd, 1) := by decide +kernel
theorem dX8_heavyBehind_7 : decode cX8_heavyBehind 7 = .ok (.istore 5, 2) := by decide +kernel
theorem dX8_heavyBehind_9 : decode cX8_heavyBehind 9 = .ok (.iload 4, 2) := by decide +kernel
theorem dX8_heavyBehind_11 : decode cX8_heavyBehind 11 = .ok (.aload_n 1, 1) := by decide +kernel
theorem dX8_heavyBehind_12 : decode cX8_heavyBehind 12 = .ok (.bipush 11, 2) := by decide +kernel
theorem dX8_heavyBehind_14 : decode cX8_heavyBehind 14 = .ok (.iload_n 2, 1) := by decide +kernel
theorem dX8_heavyBehind_15 : decode cX8_heavyBehind 15 = .ok (.iadd, 1) := by decide +kernel
theorem dX8_heavyBehind_16 : decode cX8_heavyBehind 16 = .ok (.iaload, 1) := by decide +kernel
theorem dX8_heavyBehind_17 : decode cX8_heavyBehind 17 = .ok (.isub, 1) := by decide +kernel
theorem dX8_heavyBehind_18 : decode cX8_heavyBehind 18 = .ok (.istore 6, 2) := by decide +kernel
theorem dX8_heavyBehind_20 : decode cX8_heavyBehind 20 = .ok (.iload 6, 2) := by decide +kernel
theorem dX8_heavyBehind_22 : decode cX8_heavyBehind 22 = .ok (.ifCond .ge 5, 3) := by decide +kernel
theorem dX8_heavyBehind_25 : decode cX8_heavyBehind 25 = .ok (.lconst 0, 1) := by decide +kernel
theorem dX8_heavyBehind_26 : decode cX8_heavyBehind 26 = .ok (.lreturn, 1) := by decide +kernel
theorem dX8_heavyBehind_27 : decode cX8_heavyBehind 27 = .ok (.iload 5, 2) := by decide +kernel
theorem dX8_heavyBehind_29 : decode cX8_heavyBehind 29 = .ok (.aload_n 1, 1) := by decide +kernel
theorem dX8_heavyBehind_30 : decode cX8_heavyBehind 30 = .ok (.iconst 0, 1) := by decide +kernel
theorem dX8_heavyBehind_31 : decode cX8_heavyBehind 31 = .ok (.iaload, 1) := by decide +kernel
theorem dX8_heavyBehind_32 : decode cX8_heavyBehind 32 = .ok (.if_icmp .ne 16, 3) := by decide +kernel
theorem dX8_heavyBehind_35 : decode cX8_heavyBehind 35 = .ok (.iload 6, 2) := by decide +kernel
theorem dX8_heavyBehind_37 : decode cX8_heavyBehind 37 = .ok (.ifCond .ne 7, 3) := by decide +kernel
theorem dX8_heavyBehind_40 : decode cX8_heavyBehind 40 = .ok (.lconst 1, 1) := by decide +kernel
theorem dX8_heavyBehind_41 : decode cX8_heavyBehind 41 = .ok (.goto 28, 3) := by decide +kernel
theorem dX8_heavyBehind_44 : decode cX8_heavyBehind 44 = .ok (.lconst 0, 1) := by decide +kernel
theorem dX8_heavyBehind_45 : decode cX8_heavyBehind 45 = .ok (.goto 24, 3) := by decide +kernel
theorem dX8_heavyBehind_48 : decode cX8_heavyBehind 48 = .ok (.aload_n 0, 1) := by decide +kernel
theorem dX8_heavyBehind_49 : decode cX8_heavyBehind 49 = .ok (.getfield 74, 3) := by decide +kernel
theorem dX8_heavyBehind_52 : decode cX8_heavyBehind 52 = .ok (.sipush 657, 3) := by decide +kernel
theorem dX8_heavyBehind_55 : decode cX8_heavyBehind 55 = .ok (.iload 5, 2) := by decide +kernel
theorem dX8_heavyBehind_57 : decode cX8_heavyBehind 57 = .ok (.iconst 1, 1) := by decide +kernel
theorem dX8_heavyBehind_58 : decode cX8_heavyBehind 58 = .ok (.iadd, 1) := by decide +kernel
theorem dX8_heavyBehind_59 : decode cX8_heavyBehind 59 = .ok (.imul, 1) := by decide +kernel
theorem dX8_heavyBehind_60 : decode cX8_heavyBehind 60 = .ok (.bipush 73, 2) := by decide +kernel
theorem dX8_heavyBehind_62 : decode cX8_heavyBehind 62 = .ok (.iload_n 2, 1) := by decide +kernel
theorem dX8_heavyBehind_63 : decode cX8_heavyBehind 63 = .ok (.imul, 1) := by decide +kernel
theorem dX8_heavyBehind_64 : decode cX8_heavyBehind 64 = .ok (.iadd, 1) := by decide +kernel
theorem dX8_heavyBehind_65 : decode cX8_heavyBehind 65 = .ok (.iload 6, 2) := by decide +kernel
theorem dX8_heavyBehind_67 : decode cX8_heavyBehind 67 = .ok (.iadd, 1) := by decide +kernel
theorem dX8_heavyBehind_68 : decode cX8_heavyBehind 68 = .ok (.laload, 1) := by decide +kernel
theorem dX8_heavyBehind_69 : decode cX8_heavyBehind 69 = .ok (.lreturn, 1) := by decide +kernel
theorem dX8_find_0 : decode cX8_find 0 = .ok (.aload_n 0, 1) := by decide +kernel
theorem dX8_find_1 : decode cX8_find 1 = .ok (.iconst 0, 1) := by decide +kernel
theorem dX8_find_2 : decode cX8_find 2 = .ok (.putfield 213, 3) := by decide +kernel
theorem dX8_find_5 : decode cX8_find 5 = .ok (.aload_n 0, 1) := by decide +kernel
theorem dX8_find_6 : decode cX8_find 6 = .ok (.iload_n 2, 1) := by decide +kernel
theorem dX8_find_7 : decode cX8_find 7 = .ok (.putfield 216, 3) := by decide +kernel
theorem dX8_find_10 : decode cX8_find 10 = .ok (.iload_n 2, 1) := by decide +kernel
theorem dX8_find_11 : decode cX8_find 11 = .ok (.istore 6, 2) := by decide +kernel
theorem dX8_find_13 : decode cX8_find 13 = .ok (.lload_n 3, 1) := by decide +kernel
theorem dX8_find_14 : decode cX8_find 14 = .ok (.lstore 7, 2) := by decide +kernel
theorem dX8_find_16 : decode cX8_find 16 = .ok (.iconst 0, 1) := by decide +kernel
theorem dX8_find_17 : decode cX8_find 17 = .ok (.istore 9, 2) := by decide +kernel
theorem dX8_find_19 : decode cX8_find 19 = .ok (.bipush 8, 2) := by decide +kernel
theorem dX8_find_21 : decode cX8_find 21 = .ok (.istore 10, 2) := by decide +kernel
theorem dX8_find_23 : decode cX8_find 23 = .ok (.iload 9, 2) := by decide +kernel
theorem dX8_find_25 : decode cX8_find 25 = .ok (.aload_n 1, 1) := by decide +kernel
theorem dX8_find_26 : decode cX8_find 26 = .ok (.iconst 0, 1) := by decide +kernel
theorem dX8_find_27 : decode cX8_find 27 = .ok (.iaload, 1) := by decide +kernel
theorem dX8_find_28 : decode cX8_find 28 = .ok (.if_icmp .ge 131, 3) := by decide +kernel
theorem dX8_find_31 : decode cX8_find 31 = .ok (.iconst (-1), 1) := by decide +kernel
theorem dX8_find_32 : decode cX8_find 32 = .ok (.istore 11, 2) := by decide +kernel
theorem dX8_find_34 : decode cX8_find 34 = .ok (.lconst 0, 1) := by decide +kernel
theorem dX8_find_35 : decode cX8_find 35 = .ok (.lstore 12, 2) := by decide +kernel
theorem dX8_find_37 : decode cX8_find 37 = .ok (.lload 12, 2) := by decide +kernel
theorem dX8_find_39 : decode cX8_find 39 = .ok (.lload 7, 2) := by decide +kernel
theorem dX8_find_41 : decode cX8_find 41 = .ok (.lcmp, 1) := by decide +kernel
theorem dX8_find_42 : decode cX8_find 42 = .ok (.ifCond .gt 64, 3) := by decide +kernel
theorem dX8_find_45 : decode cX8_find 45 = .ok (.lload 7, 2) := by decide +kernel
theorem dX8_find_47 : decode cX8_find 47 = .ok (.lload 12, 2) := by decide +kernel
theorem dX8_find_49 : decode cX8_find 49 = .ok (.lsub, 1) := by decide +kernel
theorem dX8_find_50 : decode cX8_find 50 = .ok (.lstore 7, 2) := by decide +kernel
theorem dX8_find_52 : decode cX8_find 52 = .ok (.iinc 11 1, 3) := by decide +kernel
theorem dX8_find_55 : decode cX8_find 55 = .ok (.aload_n 0, 1) := by decide +kernel
theorem dX8_find_56 : decode cX8_find 56 = .ok (.aload_n 1, 1) := by decide +kernel
theorem dX8_find_57 : decode cX8_find 57 = .ok (.iload 11, 2) := by decide +kernel
theorem dX8_find_59 : decode cX8_find 59 = .ok (.iload 9, 2) := by decide +kernel
theorem dX8_find_61 : decode cX8_find 61 = .ok (.iload 10, 2) := by decide +kernel
theorem dX8_find_63 : decode cX8_find 63 = .ok (.invokevirtual 199, 3) := by decide +kernel
theorem dX8_find_66 : decode cX8_find 66 = .ok (.ifCond .eq 34, 3) := by decide +kernel
theorem dX8_find_69 : decode cX8_find 69 = .ok (.iload 5, 2) := by decide +kernel
theorem dX8_find_71 : decode cX8_find 71 = .ok (.ifCond .eq 15, 3) := by decide +kernel
theorem dX8_find_74 : decode cX8_find 74 = .ok (.aload_n 0, 1) := by decide +kernel
theorem dX8_find_75 : decode cX8_find 75 = .ok (.aload_n 1, 1) := by decide +kernel
theorem dX8_find_76 : decode cX8_find 76 = .ok (.iload 11, 2) := by decide +kernel
theorem dX8_find_78 : decode cX8_find 78 = .ok (.iload 9, 2) := by decide +kernel
theorem dX8_find_80 : decode cX8_find 80 = .ok (.invokevirtual 206, 3) := by decide +kernel
theorem dX8_find_83 : decode cX8_find 83 = .ok (.ifCond .eq 17, 3) := by decide +kernel
theorem dX8_find_86 : decode cX8_find 86 = .ok (.aload_n 0, 1) := by decide +kernel
theorem dX8_find_87 : decode cX8_find 87 = .ok (.aload_n 1, 1) := by decide +kernel
theorem dX8_find_88 : decode cX8_find 88 = .ok (.iload 11, 2) := by decide +kernel
theorem dX8_find_90 : decode cX8_find 90 = .ok (.iload 9, 2) := by decide +kernel
theorem dX8_find_92 : decode cX8_find 92 = .ok (.iload 6, 2) := by decide +kernel
theorem dX8_find_94 : decode cX8_find 94 = .ok (.invokevirtual 219, 3) := by decide +kernel
theorem dX8_find_97 : decode cX8_find 97 = .ok (.goto 4, 3) := by decide +kernel
theorem dX8_find_100 : decode cX8_find 100 = .ok (.lconst 0, 1) := by decide +kernel
theorem dX8_find_101 : decode cX8_find 101 = .ok (.lstore 12, 2) := by decide +kernel
theorem dX8_find_103 : decode cX8_find 103 = .ok (.goto (-66), 3) := by decide +kernel
theorem dX8_find_106 : decode cX8_find 106 = .ok (.aload_n 0, 1) := by decide +kernel
theorem dX8_find_107 : decode cX8_find 107 = .ok (.getfield 84, 3) := by decide +kernel
theorem dX8_find_110 : decode cX8_find 110 = .ok (.aload_n 0, 1) := by decide +kernel
theorem dX8_find_111 : decode cX8_find 111 = .ok (.getfield 213, 3) := by decide +kernel
theorem dX8_find_114 : decode cX8_find 114 = .ok (.iload 11, 2) := by decide +kernel
theorem dX8_find_116 : decode cX8_find 116 = .ok (.iastore, 1) := by decide +kernel
theorem dX8_find_117 : decode cX8_find 117 = .ok (.aload_n 0, 1) := by decide +kernel
theorem dX8_find_118 : decode cX8_find 118 = .ok (.dup, 1) := by decide +kernel
theorem dX8_find_119 : decode cX8_find 119 = .ok (.getfield 213, 3) := by decide +kernel
theorem dX8_find_122 : decode cX8_find 122 = .ok (.iconst 1, 1) := by decide +kernel
theorem dX8_find_123 : decode cX8_find 123 = .ok (.iadd, 1) := by decide +kernel
theorem dX8_find_124 : decode cX8_find 124 = .ok (.putfield 213, 3) := by decide +kernel
theorem dX8_find_127 : decode cX8_find 127 = .ok (.iload 6, 2) := by decide +kernel
theorem dX8_find_129 : decode cX8_find 129 = .ok (.aload_n 1, 1) := by decide +kernel
theorem dX8_find_130 : decode cX8_find 130 = .ok (.bipush 11, 2) := by decide +kernel
theorem dX8_find_132 : decode cX8_find 132 = .ok (.iload 11, 2) := by decide +kernel
theorem dX8_find_134 : decode cX8_find 134 = .ok (.iadd, 1) := by decide +kernel
theorem dX8_find_135 : decode cX8_find 135 = .ok (.iaload, 1) := by decide +kernel
theorem dX8_find_136 : decode cX8_find 136 = .ok (.isub, 1) := by decide +kernel
theorem dX8_find_137 : decode cX8_find 137 = .ok (.istore 6, 2) := by decide +kernel
theorem dX8_find_139 : decode cX8_find 139 = .ok (.iload 9, 2) := by decide +kernel
theorem dX8_find_141 : decode cX8_find 141 = .ok (.aload_n 0, 1) := by decide +kernel
theorem dX8_find_142 : decode cX8_find 142 = .ok (.iload 11, 2) := by decide +kernel
theorem dX8_find_144 : decode cX8_find 144 = .ok (.invokevirtual 152, 3) := by decide +kernel
theorem dX8_find_147 : decode cX8_find 147 = .ok (.iconst 1, 1) := by decide +kernel
theorem dX8_find_148 : decode cX8_find 148 = .ok (.iadd, 1) := by decide +kernel
theorem dX8_find_149 : decode cX8_find 149 = .ok (.iadd, 1) := by decide +kernel
theorem dX8_find_150 : decode cX8_find 150 = .ok (.istore 9, 2) := by decide +kernel
theorem dX8_find_152 : decode cX8_find 152 = .ok (.iload 11, 2) := by decide +kernel
theorem dX8_find_154 : decode cX8_find 154 = .ok (.istore 10, 2) := by decide +kernel
theorem dX8_find_156 : decode cX8_find 156 = .ok (.goto (-133), 3) := by decide +kernel
theorem dX8_find_159 : decode cX8_find 159 = .ok (.return_, 1) := by decide +kernel
theorem dX8_findRank_0 : decode cX8_findRank 0 = .ok (.aload_n 0, 1) := by decide +kernel
theorem dX8_findRank_1 : decode cX8_findRank 1 = .ok (.aload_n 1, 1) := by decide +kernel
theorem dX8_findRank_2 : decode cX8_findRank 2 = .ok (.iconst 0, 1) := by decide +kernel
theorem dX8_findRank_3 : decode cX8_findRank 3 = .ok (.invokevirtual 223, 3) := by decide +kernel
theorem dX8_findRank_6 : decode cX8_findRank 6 = .ok (.lload_n 2, 1) := by decide +kernel
theorem dX8_findRank_7 : decode cX8_findRank 7 = .ok (.lstore 4, 2) := by decide +kernel
theorem dX8_findRank_9 : decode cX8_findRank 9 = .ok (.bipush 72, 2) := by decide +kernel
theorem dX8_findRank_11 : decode cX8_findRank 11 = .ok (.istore 6, 2) := by decide +kernel
theorem dX8_findRank_13 : decode cX8_findRank 13 = .ok (.iload 6, 2) := by decide +kernel
theorem dX8_findRank_15 : decode cX8_findRank 15 = .ok (.ifCond .lt 55, 3) := by decide +kernel
theorem dX8_findRank_18 : decode cX8_findRank 18 = .ok (.aload_n 0, 1) := by decide +kernel
theorem dX8_findRank_19 : decode cX8_findRank 19 = .ok (.getfield 74, 3) := by decide +kernel
theorem dX8_findRank_22 : decode cX8_findRank 22 = .ok (.sipush 584, 3) := by decide +kernel
theorem dX8_findRank_25 : decode cX8_findRank 25 = .ok (.iload 6, 2) := by decide +kernel
theorem dX8_findRank_27 : decode cX8_findRank 27 = .ok (.iadd, 1) := by decide +kernel
theorem dX8_findRank_28 : decode cX8_findRank 28 = .ok (.laload, 1) := by decide +kernel
theorem dX8_findRank_29 : decode cX8_findRank 29 = .ok (.lstore 7, 2) := by decide +kernel
theorem dX8_findRank_31 : decode cX8_findRank 31 = .ok (.lload 4, 2) := by decide +kernel
theorem dX8_findRank_33 : decode cX8_findRank 33 = .ok (.lload 7, 2) := by decide +kernel
theorem dX8_findRank_35 : decode cX8_findRank 35 = .ok (.lcmp, 1) := by decide +kernel
theorem dX8_findRank_36 : decode cX8_findRank 36 = .ok (.ifCond .ge 21, 3) := by decide +kernel
theorem dX8_findRank_39 : decode cX8_findRank 39 = .ok (.aload_n 1, 1) := by decide +kernel
theorem dX8_findRank_40 : decode cX8_findRank 40 = .ok (.iconst 0, 1) := by decide +kernel
theorem dX8_findRank_41 : decode cX8_findRank 41 = .ok (.iaload, 1) := by decide +kernel
theorem dX8_findRank_42 : decode cX8_findRank 42 = .ok (.ifCond .le 15, 3) := by decide +kernel
theorem dX8_findRank_45 : decode cX8_findRank 45 = .ok (.aload_n 0, 1) := by decide +kernel
theorem dX8_findRank_46 : decode cX8_findRank 46 = .ok (.aload_n 1, 1) := by decide +kernel
theorem dX8_findRank_47 : decode cX8_findRank 47 = .ok (.iload 6, 2) := by decide +kernel
theorem dX8_findRank_49 : decode cX8_findRank 49 = .ok (.lload 4, 2) := by decide +kernel
theorem dX8_findRank_51 : decode cX8_findRank 51 = .ok (.iconst 0, 1) := by decide +kernel
theorem dX8_findRank_52 : decode cX8_findRank 52 = .ok (.invokevirtual 227, 3) := by decide +kernel
theorem dX8_findRank_55 : decode cX8_findRank 55 = .ok (.iconst 1, 1) := by decide +kernel
theorem dX8_findRank_56 : decode cX8_findRank 56 = .ok (.ireturn, 1) := by decide +kernel
theorem dX8_findRank_57 : decode cX8_findRank 57 = .ok (.lload 4, 2) := by decide +kernel
theorem dX8_findRank_59 : decode cX8_findRank 59 = .ok (.lload 7, 2) := by decide +kernel
theorem dX8_findRank_61 : decode cX8_findRank 61 = .ok (.lsub, 1) := by decide +kernel
theorem dX8_findRank_62 : decode cX8_findRank 62 = .ok (.lstore 4, 2) := by decide +kernel
theorem dX8_findRank_64 : decode cX8_findRank 64 = .ok (.iinc 6 (-1), 3) := by decide +kernel
theorem dX8_findRank_67 : decode cX8_findRank 67 = .ok (.goto (-54), 3) := by decide +kernel
theorem dX8_findRank_70 : decode cX8_findRank 70 = .ok (.iconst 0, 1) := by decide +kernel
theorem dX8_findRank_71 : decode cX8_findRank 71 = .ok (.ireturn, 1) := by decide +kernel
theorem dX8_lies_0 : decode cX8_lies 0 = .ok (.aload_n 0, 1) := by decide +kernel
theorem dX8_lies_1 : decode cX8_lies 1 = .ok (.iconst 0, 1) := by decide +kernel
theorem dX8_lies_2 : decode cX8_lies 2 = .ok (.putfield 94, 3) := by decide +kernel
theorem dX8_lies_5 : decode cX8_lies 5 = .ok (.aload_n 0, 1) := by decide +kernel
theorem dX8_lies_6 : decode cX8_lies 6 = .ok (.iload_n 1, 1) := by decide +kernel
theorem dX8_lies_7 : decode cX8_lies 7 = .ok (.invokevirtual 148, 3) := by decide +kernel
theorem dX8_lies_10 : decode cX8_lies 10 = .ok (.ifCond .ne 11, 3) := by decide +kernel
theorem dX8_lies_13 : decode cX8_lies 13 = .ok (.aload_n 0, 1) := by decide +kernel
theorem dX8_lies_14 : decode cX8_lies 14 = .ok (.iload_n 2, 1) := by decide +kernel
theorem dX8_lies_15 : decode cX8_lies 15 = .ok (.invokevirtual 155, 3) := by decide +kernel
theorem dX8_lies_18 : decode cX8_lies 18 = .ok (.ifCond .eq 5, 3) := by decide +kernel
theorem dX8_lies_21 : decode cX8_lies 21 = .ok (.iconst (-1), 1) := by decide +kernel
theorem dX8_lies_22 : decode cX8_lies 22 = .ok (.ireturn, 1) := by decide +kernel
theorem dX8_lies_23 : decode cX8_lies 23 = .ok (.aload_n 0, 1) := by decide +kernel
theorem dX8_lies_24 : decode cX8_lies 24 = .ok (.aload_n 0, 1) := by decide +kernel
theorem dX8_lies_25 : decode cX8_lies 25 = .ok (.getfield 50, 3) := by decide +kernel
theorem dX8_lies_28 : decode cX8_lies 28 = .ok (.iload_n 1, 1) := by decide +kernel
theorem dX8_lies_29 : decode cX8_lies 29 = .ok (.iload_n 2, 1) := by decide +kernel
theorem dX8_lies_30 : decode cX8_lies 30 = .ok (.invokevirtual 193, 3) := by decide +kernel
theorem dX8_lies_33 : decode cX8_lies 33 = .ok (.ifCond .eq 7, 3) := by decide +kernel
theorem dX8_lies_36 : decode cX8_lies 36 = .ok (.iconst 1, 1) := by decide +kernel
theorem dX8_lies_37 : decode cX8_lies 37 = .ok (.goto 4, 3) := by decide +kernel
theorem dX8_lies_40 : decode cX8_lies 40 = .ok (.iconst 0, 1) := by decide +kernel
theorem dX8_lies_41 : decode cX8_lies 41 = .ok (.ireturn, 1) := by decide +kernel
theorem dX8_readings_0 : decode cX8_readings 0 = .ok (.aload_n 0, 1) := by decide +kernel
theorem dX8_readings_1 : decode cX8_readings 1 = .ok (.iconst 0, 1) := by decide +kernel
theorem dX8_readings_2 : decode cX8_readings 2 = .ok (.putfield 94, 3) := by decide +kernel
theorem dX8_readings_5 : decode cX8_readings 5 = .ok (.aload_n 0, 1) := by decide +kernel
theorem dX8_readings_6 : decode cX8_readings 6 = .ok (.aload_n 0, 1) := by decide +kernel
theorem dX8_readings_7 : decode cX8_readings 7 = .ok (.getfield 50, 3) := by decide +kernel
theorem dX8_readings_10 : decode cX8_readings 10 = .ok (.invokevirtual 231, 3) := by decide +kernel
theorem dX8_readings_13 : decode cX8_readings 13 = .ok (.lreturn, 1) := by decide +kernel
theorem dX8_rank_0 : decode cX8_rank 0 = .ok (.aload_n 0, 1) := by decide +kernel
theorem dX8_rank_1 : decode cX8_rank 1 = .ok (.iconst 0, 1) := by decide +kernel
theorem dX8_rank_2 : decode cX8_rank 2 = .ok (.putfield 94, 3) := by decide +kernel
theorem dX8_rank_5 : decode cX8_rank 5 = .ok (.iload_n 3, 1) := by decide +kernel
theorem dX8_rank_6 : decode cX8_rank 6 = .ok (.bipush (-2), 2) := by decide +kernel
theorem dX8_rank_8 : decode cX8_rank 8 = .ok (.if_icmp .ge 6, 3) := by decide +kernel
theorem dX8_rank_11 : decode cX8_rank 11 = .ok (.bipush (-2), 2) := by decide +kernel
theorem dX8_rank_13 : decode cX8_rank 13 = .ok (.ireturn, 1) := by decide +kernel
theorem dX8_rank_14 : decode cX8_rank 14 = .ok (.lload_n 1, 1) := by decide +kernel
theorem dX8_rank_15 : decode cX8_rank 15 = .ok (.lconst 0, 1) := by decide +kernel
theorem dX8_rank_16 : decode cX8_rank 16 = .ok (.lcmp, 1) := by decide +kernel
theorem dX8_rank_17 : decode cX8_rank 17 = .ok (.ifCond .lt 15, 3) := by decide +kernel
theorem dX8_rank_20 : decode cX8_rank 20 = .ok (.aload_n 0, 1) := by decide +kernel
theorem dX8_rank_21 : decode cX8_rank 21 = .ok (.aload_n 0, 1) := by decide +kernel
theorem dX8_rank_22 : decode cX8_rank 22 = .ok (.getfield 50, 3) := by decide +kernel
theorem dX8_rank_25 : decode cX8_rank 25 = .ok (.lload_n 1, 1) := by decide +kernel
theorem dX8_rank_26 : decode cX8_rank 26 = .ok (.invokevirtual 235, 3) := by decide +kernel
theorem dX8_rank_29 : decode cX8_rank 29 = .ok (.ifCond .ne 6, 3) := by decide +kernel
theorem dX8_rank_32 : decode cX8_rank 32 = .ok (.bipush (-9), 2) := by decide +kernel
theorem dX8_rank_34 : decode cX8_rank 34 = .ok (.ireturn, 1) := by decide +kernel
theorem dX8_rank_35 : decode cX8_rank 35 = .ok (.iload_n 3, 1) := by decide +kernel
theorem dX8_rank_36 : decode cX8_rank 36 = .ok (.iconst (-1), 1) := by decide +kernel
theorem dX8_rank_37 : decode cX8_rank 37 = .ok (.if_icmp .ne 10, 3) := by decide +kernel
theorem dX8_rank_40 : decode cX8_rank 40 = .ok (.aload_n 0, 1) := by decide +kernel
theorem dX8_rank_41 : decode cX8_rank 41 = .ok (.getfield 216, 3) := by decide +kernel
theorem dX8_rank_44 : decode cX8_rank 44 = .ok (.goto 35, 3) := by decide +kernel
theorem dX8_rank_47 : decode cX8_rank 47 = .ok (.iload_n 3, 1) := by decide +kernel
