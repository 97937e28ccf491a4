theorem dX12_isAhead_135 : decode cX12_isAhead 135 = .ok (.getfield 102, 3) := by decide +kernel
theorem dX12_isAhead_138 : decode cX12_isAhead 138 = .ok (.iconst 3, 1) := by decide +kernel
theorem dX12_isAhead_139 : decode cX12_isAhead 139 = .ok (.iaload, 1) := by decide +kernel
theorem dX12_isAhead_140 : decode cX12_isAhead 140 = .ok (.if_icmp .ge 7, 3) := by decide +kernel
theorem dX12_isAhead_143 : decode cX12_isAhead 143 = .ok (.iconst 1, 1) := by decide +kernel
theorem dX12_isAhead_144 : decode cX12_isAhead 144 = .ok (.goto 4, 3) := by decide +kernel
theorem dX12_isAhead_147 : decode cX12_isAhead 147 = .ok (.iconst 0, 1) := by decide +kernel
theorem dX12_isAhead_148 : decode cX12_isAhead 148 = .ok (.ireturn, 1) := by decide +kernel
theorem dX12_check_0 : decode cX12_check 0 = .ok (.aload_n 0, 1) := by decide +kernel
theorem dX12_check_1 : decode cX12_check 1 = .ok (.getfield 121, 3) := by decide +kernel
theorem dX12_check_4 : decode cX12_check 4 = .ok (.ifCond .ne 10, 3) := by decide +kernel
theorem dX12_check_7 : decode cX12_check 7 = .ok (.aload_n 0, 1) := by decide +kernel
theorem dX12_check_8 : decode cX12_check 8 = .ok (.bipush (-2), 2) := by decide +kernel
theorem dX12_check_10 : decode cX12_check 10 = .ok (.invokevirtual 124, 3) := by decide +kernel
theorem dX12_check_13 : decode cX12_check 13 = .ok (.ireturn, 1) := by decide +kernel
theorem dX12_check_14 : decode cX12_check 14 = .ok (.aload_n 0, 1) := by decide +kernel
theorem dX12_check_15 : decode cX12_check 15 = .ok (.invokevirtual 111, 3) := by decide +kernel
theorem dX12_check_18 : decode cX12_check 18 = .ok (.aload_n 0, 1) := by decide +kernel
theorem dX12_check_19 : decode cX12_check 19 = .ok (.invokevirtual 177, 3) := by decide +kernel
theorem dX12_check_22 : decode cX12_check 22 = .ok (.iconst 0, 1) := by decide +kernel
theorem dX12_check_23 : decode cX12_check 23 = .ok (.istore_n 1, 1) := by decide +kernel
theorem dX12_check_24 : decode cX12_check 24 = .ok (.iload_n 1, 1) := by decide +kernel
theorem dX12_check_25 : decode cX12_check 25 = .ok (.aload_n 0, 1) := by decide +kernel
theorem dX12_check_26 : decode cX12_check 26 = .ok (.getfield 180, 3) := by decide +kernel
theorem dX12_check_29 : decode cX12_check 29 = .ok (.if_icmp .ge 122, 3) := by decide +kernel
theorem dX12_check_32 : decode cX12_check 32 = .ok (.aload_n 0, 1) := by decide +kernel
theorem dX12_check_33 : decode cX12_check 33 = .ok (.getfield 90, 3) := by decide +kernel
theorem dX12_check_36 : decode cX12_check 36 = .ok (.aload_n 0, 1) := by decide +kernel
theorem dX12_check_37 : decode cX12_check 37 = .ok (.getfield 56, 3) := by decide +kernel
theorem dX12_check_40 : decode cX12_check 40 = .ok (.iload_n 1, 1) := by decide +kernel
theorem dX12_check_41 : decode cX12_check 41 = .ok (.iaload, 1) := by decide +kernel
theorem dX12_check_42 : decode cX12_check 42 = .ok (.iaload, 1) := by decide +kernel
theorem dX12_check_43 : decode cX12_check 43 = .ok (.aload_n 0, 1) := by decide +kernel
theorem dX12_check_44 : decode cX12_check 44 = .ok (.getfield 121, 3) := by decide +kernel
theorem dX12_check_47 : decode cX12_check 47 = .ok (.aload_n 0, 1) := by decide +kernel
theorem dX12_check_48 : decode cX12_check 48 = .ok (.getfield 62, 3) := by decide +kernel
theorem dX12_check_51 : decode cX12_check 51 = .ok (.iload_n 1, 1) := by decide +kernel
theorem dX12_check_52 : decode cX12_check 52 = .ok (.iaload, 1) := by decide +kernel
theorem dX12_check_53 : decode cX12_check 53 = .ok (.imul, 1) := by decide +kernel
theorem dX12_check_54 : decode cX12_check 54 = .ok (.iadd, 1) := by decide +kernel
theorem dX12_check_55 : decode cX12_check 55 = .ok (.aload_n 0, 1) := by decide +kernel
theorem dX12_check_56 : decode cX12_check 56 = .ok (.getfield 90, 3) := by decide +kernel
theorem dX12_check_59 : decode cX12_check 59 = .ok (.aload_n 0, 1) := by decide +kernel
theorem dX12_check_60 : decode cX12_check 60 = .ok (.getfield 53, 3) := by decide +kernel
theorem dX12_check_63 : decode cX12_check 63 = .ok (.iload_n 1, 1) := by decide +kernel
theorem dX12_check_64 : decode cX12_check 64 = .ok (.iaload, 1) := by decide +kernel
theorem dX12_check_65 : decode cX12_check 65 = .ok (.iaload, 1) := by decide +kernel
theorem dX12_check_66 : decode cX12_check 66 = .ok (.aload_n 0, 1) := by decide +kernel
theorem dX12_check_67 : decode cX12_check 67 = .ok (.getfield 59, 3) := by decide +kernel
theorem dX12_check_70 : decode cX12_check 70 = .ok (.iload_n 1, 1) := by decide +kernel
theorem dX12_check_71 : decode cX12_check 71 = .ok (.iaload, 1) := by decide +kernel
theorem dX12_check_72 : decode cX12_check 72 = .ok (.iadd, 1) := by decide +kernel
theorem dX12_check_73 : decode cX12_check 73 = .ok (.if_icmp .lt 7, 3) := by decide +kernel
theorem dX12_check_76 : decode cX12_check 76 = .ok (.iconst 1, 1) := by decide +kernel
theorem dX12_check_77 : decode cX12_check 77 = .ok (.goto 4, 3) := by decide +kernel
theorem dX12_check_80 : decode cX12_check 80 = .ok (.iconst 0, 1) := by decide +kernel
theorem dX12_check_81 : decode cX12_check 81 = .ok (.istore_n 2, 1) := by decide +kernel
theorem dX12_check_82 : decode cX12_check 82 = .ok (.iload_n 2, 1) := by decide +kernel
theorem dX12_check_83 : decode cX12_check 83 = .ok (.ifCond .ne 62, 3) := by decide +kernel
theorem dX12_check_86 : decode cX12_check 86 = .ok (.aload_n 0, 1) := by decide +kernel
theorem dX12_check_87 : decode cX12_check 87 = .ok (.iload_n 1, 1) := by decide +kernel
theorem dX12_check_88 : decode cX12_check 88 = .ok (.invokevirtual 243, 3) := by decide +kernel
theorem dX12_check_91 : decode cX12_check 91 = .ok (.ifCond .ne 6, 3) := by decide +kernel
theorem dX12_check_94 : decode cX12_check 94 = .ok (.goto 51, 3) := by decide +kernel
theorem dX12_check_97 : decode cX12_check 97 = .ok (.aload_n 0, 1) := by decide +kernel
theorem dX12_check_98 : decode cX12_check 98 = .ok (.getfield 102, 3) := by decide +kernel
theorem dX12_check_101 : decode cX12_check 101 = .ok (.iconst 0, 1) := by decide +kernel
theorem dX12_check_102 : decode cX12_check 102 = .ok (.aload_n 0, 1) := by decide +kernel
theorem dX12_check_103 : decode cX12_check 103 = .ok (.getfield 53, 3) := by decide +kernel
theorem dX12_check_106 : decode cX12_check 106 = .ok (.iload_n 1, 1) := by decide +kernel
theorem dX12_check_107 : decode cX12_check 107 = .ok (.iaload, 1) := by decide +kernel
theorem dX12_check_108 : decode cX12_check 108 = .ok (.iastore, 1) := by decide +kernel
theorem dX12_check_109 : decode cX12_check 109 = .ok (.aload_n 0, 1) := by decide +kernel
theorem dX12_check_110 : decode cX12_check 110 = .ok (.getfield 102, 3) := by decide +kernel
theorem dX12_check_113 : decode cX12_check 113 = .ok (.iconst 1, 1) := by decide +kernel
theorem dX12_check_114 : decode cX12_check 114 = .ok (.aload_n 0, 1) := by decide +kernel
theorem dX12_check_115 : decode cX12_check 115 = .ok (.getfield 56, 3) := by decide +kernel
theorem dX12_check_118 : decode cX12_check 118 = .ok (.iload_n 1, 1) := by decide +kernel
theorem dX12_check_119 : decode cX12_check 119 = .ok (.iaload, 1) := by decide +kernel
theorem dX12_check_120 : decode cX12_check 120 = .ok (.iastore, 1) := by decide +kernel
theorem dX12_check_121 : decode cX12_check 121 = .ok (.aload_n 0, 1) := by decide +kernel
theorem dX12_check_122 : decode cX12_check 122 = .ok (.getfield 102, 3) := by decide +kernel
theorem dX12_check_125 : decode cX12_check 125 = .ok (.iconst 2, 1) := by decide +kernel
theorem dX12_check_126 : decode cX12_check 126 = .ok (.aload_n 0, 1) := by decide +kernel
theorem dX12_check_127 : decode cX12_check 127 = .ok (.getfield 59, 3) := by decide +kernel
theorem dX12_check_130 : decode cX12_check 130 = .ok (.iload_n 1, 1) := by decide +kernel
theorem dX12_check_131 : decode cX12_check 131 = .ok (.iaload, 1) := by decide +kernel
theorem dX12_check_132 : decode cX12_check 132 = .ok (.iastore, 1) := by decide +kernel
theorem dX12_check_133 : decode cX12_check 133 = .ok (.aload_n 0, 1) := by decide +kernel
theorem dX12_check_134 : decode cX12_check 134 = .ok (.getfield 102, 3) := by decide +kernel
theorem dX12_check_137 : decode cX12_check 137 = .ok (.iconst 3, 1) := by decide +kernel
theorem dX12_check_138 : decode cX12_check 138 = .ok (.aload_n 0, 1) := by decide +kernel
theorem dX12_check_139 : decode cX12_check 139 = .ok (.getfield 62, 3) := by decide +kernel
theorem dX12_check_142 : decode cX12_check 142 = .ok (.iload_n 1, 1) := by decide +kernel
theorem dX12_check_143 : decode cX12_check 143 = .ok (.iaload, 1) := by decide +kernel
theorem dX12_check_144 : decode cX12_check 144 = .ok (.iastore, 1) := by decide +kernel
theorem dX12_check_145 : decode cX12_check 145 = .ok (.iinc 1 1, 3) := by decide +kernel
theorem dX12_check_148 : decode cX12_check 148 = .ok (.goto (-124), 3) := by decide +kernel
theorem dX12_check_151 : decode cX12_check 151 = .ok (.aload_n 0, 1) := by decide +kernel
theorem dX12_check_152 : decode cX12_check 152 = .ok (.getfield 102, 3) := by decide +kernel
theorem dX12_check_155 : decode cX12_check 155 = .ok (.iconst 1, 1) := by decide +kernel
theorem dX12_check_156 : decode cX12_check 156 = .ok (.iaload, 1) := by decide +kernel
theorem dX12_check_157 : decode cX12_check 157 = .ok (.ifCond .lt 5, 3) := by decide +kernel
theorem dX12_check_160 : decode cX12_check 160 = .ok (.iconst 1, 1) := by decide +kernel
theorem dX12_check_161 : decode cX12_check 161 = .ok (.ireturn, 1) := by decide +kernel
theorem dX12_check_162 : decode cX12_check 162 = .ok (.iconst 0, 1) := by decide +kernel
theorem dX12_check_163 : decode cX12_check 163 = .ok (.istore_n 1, 1) := by decide +kernel
theorem dX12_check_164 : decode cX12_check 164 = .ok (.iload_n 1, 1) := by decide +kernel
theorem dX12_check_165 : decode cX12_check 165 = .ok (.bipush 6, 2) := by decide +kernel
theorem dX12_check_167 : decode cX12_check 167 = .ok (.if_icmp .ge 59, 3) := by decide +kernel
theorem dX12_check_170 : decode cX12_check 170 = .ok (.iconst 0, 1) := by decide +kernel
theorem dX12_check_171 : decode cX12_check 171 = .ok (.istore_n 2, 1) := by decide +kernel
theorem dX12_check_172 : decode cX12_check 172 = .ok (.iload_n 2, 1) := by decide +kernel
theorem dX12_check_173 : decode cX12_check 173 = .ok (.aload_n 0, 1) := by decide +kernel
theorem dX12_check_174 : decode cX12_check 174 = .ok (.getfield 121, 3) := by decide +kernel
theorem dX12_check_177 : decode cX12_check 177 = .ok (.if_icmp .ge 43, 3) := by decide +kernel
theorem dX12_check_180 : decode cX12_check 180 = .ok (.aload_n 0, 1) := by decide +kernel
theorem dX12_check_181 : decode cX12_check 181 = .ok (.iload_n 1, 1) := by decide +kernel
theorem dX12_check_182 : decode cX12_check 182 = .ok (.iload_n 2, 1) := by decide +kernel
theorem dX12_check_183 : decode cX12_check 183 = .ok (.invokevirtual 246, 3) := by decide +kernel
theorem dX12_check_186 : decode cX12_check 186 = .ok (.aload_n 0, 1) := by decide +kernel
theorem dX12_check_187 : decode cX12_check 187 = .ok (.getfield 38, 3) := by decide +kernel
theorem dX12_check_190 : decode cX12_check 190 = .ok (.iload_n 1, 1) := by decide +kernel
theorem dX12_check_191 : decode cX12_check 191 = .ok (.iaload, 1) := by decide +kernel
theorem dX12_check_192 : decode cX12_check 192 = .ok (.if_icmp .gt 6, 3) := by decide +kernel
theorem dX12_check_195 : decode cX12_check 195 = .ok (.goto 19, 3) := by decide +kernel
theorem dX12_check_198 : decode cX12_check 198 = .ok (.aload_n 0, 1) := by decide +kernel
theorem dX12_check_199 : decode cX12_check 199 = .ok (.getfield 102, 3) := by decide +kernel
theorem dX12_check_202 : decode cX12_check 202 = .ok (.iconst 4, 1) := by decide +kernel
theorem dX12_check_203 : decode cX12_check 203 = .ok (.iload_n 1, 1) := by decide +kernel
theorem dX12_check_204 : decode cX12_check 204 = .ok (.iastore, 1) := by decide +kernel
theorem dX12_check_205 : decode cX12_check 205 = .ok (.aload_n 0, 1) := by decide +kernel
theorem dX12_check_206 : decode cX12_check 206 = .ok (.getfield 102, 3) := by decide +kernel
theorem dX12_check_209 : decode cX12_check 209 = .ok (.iconst 5, 1) := by decide +kernel
theorem dX12_check_210 : decode cX12_check 210 = .ok (.iload_n 2, 1) := by decide +kernel
theorem dX12_check_211 : decode cX12_check 211 = .ok (.iastore, 1) := by decide +kernel
theorem dX12_check_212 : decode cX12_check 212 = .ok (.iconst 2, 1) := by decide +kernel
theorem dX12_check_213 : decode cX12_check 213 = .ok (.ireturn, 1) := by decide +kernel
theorem dX12_check_214 : decode cX12_check 214 = .ok (.iinc 2 1, 3) := by decide +kernel
theorem dX12_check_217 : decode cX12_check 217 = .ok (.goto (-45), 3) := by decide +kernel
theorem dX12_check_220 : decode cX12_check 220 = .ok (.iinc 1 1, 3) := by decide +kernel
theorem dX12_check_223 : decode cX12_check 223 = .ok (.goto (-59), 3) := by decide +kernel
theorem dX12_check_226 : decode cX12_check 226 = .ok (.iconst 0, 1) := by decide +kernel
theorem dX12_check_227 : decode cX12_check 227 = .ok (.ireturn, 1) := by decide +kernel
theorem dX12_filledAs_0 : decode cX12_filledAs 0 = .ok (.iconst 0, 1) := by decide +kernel
theorem dX12_filledAs_1 : decode cX12_filledAs 1 = .ok (.istore_n 3, 1) := by decide +kernel
theorem dX12_filledAs_2 : decode cX12_filledAs 2 = .ok (.iconst 0, 1) := by decide +kernel
theorem dX12_filledAs_3 : decode cX12_filledAs 3 = .ok (.istore 4, 2) := by decide +kernel
theorem dX12_filledAs_5 : decode cX12_filledAs 5 = .ok (.iload 4, 2) := by decide +kernel
theorem dX12_filledAs_7 : decode cX12_filledAs 7 = .ok (.aload_n 0, 1) := by decide +kernel
theorem dX12_filledAs_8 : decode cX12_filledAs 8 = .ok (.getfield 118, 3) := by decide +kernel
theorem dX12_filledAs_11 : decode cX12_filledAs 11 = .ok (.if_icmp .ge 74, 3) := by decide +kernel
theorem dX12_filledAs_14 : decode cX12_filledAs 14 = .ok (.iconst 0, 1) := by decide +kernel
theorem dX12_filledAs_15 : decode cX12_filledAs 15 = .ok (.istore 5, 2) := by decide +kernel
theorem dX12_filledAs_17 : decode cX12_filledAs 17 = .ok (.iload 5, 2) := by decide +kernel
theorem dX12_filledAs_19 : decode cX12_filledAs 19 = .ok (.bipush 8, 2) := by decide +kernel
theorem dX12_filledAs_21 : decode cX12_filledAs 21 = .ok (.if_icmp .ge 58, 3) := by decide +kernel
theorem dX12_filledAs_24 : decode cX12_filledAs 24 = .ok (.aload_n 0, 1) := by decide +kernel
theorem dX12_filledAs_25 : decode cX12_filledAs 25 = .ok (.getfield 16, 3) := by decide +kernel
theorem dX12_filledAs_28 : decode cX12_filledAs 28 = .ok (.iload 4, 2) := by decide +kernel
theorem dX12_filledAs_30 : decode cX12_filledAs 30 = .ok (.iaload, 1) := by decide +kernel
theorem dX12_filledAs_31 : decode cX12_filledAs 31 = .ok (.iload_n 1, 1) := by decide +kernel
theorem dX12_filledAs_32 : decode cX12_filledAs 32 = .ok (.if_icmp .ne 47, 3) := by decide +kernel
theorem dX12_filledAs_35 : decode cX12_filledAs 35 = .ok (.iload_n 3, 1) := by decide +kernel
theorem dX12_filledAs_36 : decode cX12_filledAs 36 = .ok (.aload_n 0, 1) := by decide +kernel
theorem dX12_filledAs_37 : decode cX12_filledAs 37 = .ok (.getfield 90, 3) := by decide +kernel
theorem dX12_filledAs_40 : decode cX12_filledAs 40 = .ok (.iload 4, 2) := by decide +kernel
theorem dX12_filledAs_42 : decode cX12_filledAs 42 = .ok (.iaload, 1) := by decide +kernel
theorem dX12_filledAs_43 : decode cX12_filledAs 43 = .ok (.iload 5, 2) := by decide +kernel
theorem dX12_filledAs_45 : decode cX12_filledAs 45 = .ok (.iadd, 1) := by decide +kernel
theorem dX12_filledAs_46 : decode cX12_filledAs 46 = .ok (.aload_n 0, 1) := by decide +kernel
theorem dX12_filledAs_47 : decode cX12_filledAs 47 = .ok (.getfield 121, 3) := by decide +kernel
theorem dX12_filledAs_50 : decode cX12_filledAs 50 = .ok (.irem, 1) := by decide +kernel
theorem dX12_filledAs_51 : decode cX12_filledAs 51 = .ok (.iload_n 2, 1) := by decide +kernel
theorem dX12_filledAs_52 : decode cX12_filledAs 52 = .ok (.if_icmp .ne 18, 3) := by decide +kernel
theorem dX12_filledAs_55 : decode cX12_filledAs 55 = .ok (.aload_n 0, 1) := by decide +kernel
theorem dX12_filledAs_56 : decode cX12_filledAs 56 = .ok (.getfield 19, 3) := by decide +kernel
theorem dX12_filledAs_59 : decode cX12_filledAs 59 = .ok (.iload 4, 2) := by decide +kernel
theorem dX12_filledAs_61 : decode cX12_filledAs 61 = .ok (.iaload, 1) := by decide +kernel
theorem dX12_filledAs_62 : decode cX12_filledAs 62 = .ok (.iload 5, 2) := by decide +kernel
theorem dX12_filledAs_64 : decode cX12_filledAs 64 = .ok (.ishr, 1) := by decide +kernel
theorem dX12_filledAs_65 : decode cX12_filledAs 65 = .ok (.iconst 1, 1) := by decide +kernel
theorem dX12_filledAs_66 : decode cX12_filledAs 66 = .ok (.iand, 1) := by decide +kernel
theorem dX12_filledAs_67 : decode cX12_filledAs 67 = .ok (.goto 4, 3) := by decide +kernel
theorem dX12_filledAs_70 : decode cX12_filledAs 70 = .ok (.iconst 0, 1) := by decide +kernel
theorem dX12_filledAs_71 : decode cX12_filledAs 71 = .ok (.iadd, 1) := by decide +kernel
theorem dX12_filledAs_72 : decode cX12_filledAs 72 = .ok (.istore_n 3, 1) := by decide +kernel
theorem dX12_filledAs_73 : decode cX12_filledAs 73 = .ok (.iinc 5 1, 3) := by decide +kernel
theorem dX12_filledAs_76 : decode cX12_filledAs 76 = .ok (.goto (-59), 3) := by decide +kernel
theorem dX12_filledAs_79 : decode cX12_filledAs 79 = .ok (.iinc 4 1, 3) := by decide +kernel
theorem dX12_filledAs_82 : decode cX12_filledAs 82 = .ok (.goto (-77), 3) := by decide +kernel
theorem dX12_filledAs_85 : decode cX12_filledAs 85 = .ok (.iload_n 3, 1) := by decide +kernel
theorem dX12_filledAs_86 : decode cX12_filledAs 86 = .ok (.ireturn, 1) := by decide +kernel
theorem dX12_wrong_0 : decode cX12_wrong 0 = .ok (.iload_n 1, 1) := by decide +kernel
theorem dX12_wrong_1 : decode cX12_wrong 1 = .ok (.i2l, 1) := by decide +kernel
theorem dX12_wrong_2 : decode cX12_wrong 2 = .ok (.lconst 0, 1) := by decide +kernel
theorem dX12_wrong_3 : decode cX12_wrong 3 = .ok (.ldc2_w 162, 3) := by decide +kernel
theorem dX12_wrong_6 : decode cX12_wrong 6 = .ok (.invokestatic 137, 3) := by decide +kernel
theorem dX12_wrong_9 : decode cX12_wrong 9 = .ok (.ifCond .eq 12, 3) := by decide +kernel
theorem dX12_wrong_12 : decode cX12_wrong 12 = .ok (.aload_n 0, 1) := by decide +kernel
theorem dX12_wrong_13 : decode cX12_wrong 13 = .ok (.getfield 102, 3) := by decide +kernel
theorem dX12_wrong_16 : decode cX12_wrong 16 = .ok (.iload_n 1, 1) := by decide +kernel
theorem dX12_wrong_17 : decode cX12_wrong 17 = .ok (.iaload, 1) := by decide +kernel
theorem dX12_wrong_18 : decode cX12_wrong 18 = .ok (.goto 9, 3) := by decide +kernel
theorem dX12_wrong_21 : decode cX12_wrong 21 = .ok (.aload_n 0, 1) := by decide +kernel
theorem dX12_wrong_22 : decode cX12_wrong 22 = .ok (.bipush (-9), 2) := by decide +kernel
theorem dX12_wrong_24 : decode cX12_wrong 24 = .ok (.invokevirtual 124, 3) := by decide +kernel
theorem dX12_wrong_27 : decode cX12_wrong 27 = .ok (.ireturn, 1) := by decide +kernel
theorem dX12_isSlot_0 : decode cX12_isSlot 0 = .ok (.iload_n 0, 1) := by decide +kernel
theorem dX12_isSlot_1 : decode cX12_isSlot 1 = .ok (.ifCond .lt 13, 3) := by decide +kernel
theorem dX12_isSlot_4 : decode cX12_isSlot 4 = .ok (.iload_n 0, 1) := by decide +kernel
theorem dX12_isSlot_5 : decode cX12_isSlot 5 = .ok (.bipush 8, 2) := by decide +kernel
theorem dX12_isSlot_7 : decode cX12_isSlot 7 = .ok (.if_icmp .ge 7, 3) := by decide +kernel
theorem dX12_isSlot_10 : decode cX12_isSlot 10 = .ok (.iconst 1, 1) := by decide +kernel
theorem dX12_isSlot_11 : decode cX12_isSlot 11 = .ok (.goto 4, 3) := by decide +kernel
theorem dX12_isSlot_14 : decode cX12_isSlot 14 = .ok (.iconst 0, 1) := by decide +kernel
theorem dX12_isSlot_15 : decode cX12_isSlot 15 = .ok (.ireturn, 1) := by decide +kernel
theorem dX12_row_0 : decode cX12_row 0 = .ok (.iload_n 1, 1) := by decide +kernel
theorem dX12_row_1 : decode cX12_row 1 = .ok (.invokestatic 249, 3) := by decide +kernel
theorem dX12_row_4 : decode cX12_row 4 = .ok (.ifCond .ne 10, 3) := by decide +kernel
theorem dX12_row_7 : decode cX12_row 7 = .ok (.aload_n 0, 1) := by decide +kernel
theorem dX12_row_8 : decode cX12_row 8 = .ok (.bipush (-3), 2) := by decide +kernel
theorem dX12_row_10 : decode cX12_row 10 = .ok (.invokevirtual 124, 3) := by decide +kernel
theorem dX12_row_13 : decode cX12_row 13 = .ok (.ireturn, 1) := by decide +kernel
theorem dX12_row_14 : decode cX12_row 14 = .ok (.iload_n 2, 1) := by decide +kernel
theorem dX12_row_15 : decode cX12_row 15 = .ok (.ifCond .ge 10, 3) := by decide +kernel
theorem dX12_row_18 : decode cX12_row 18 = .ok (.aload_n 0, 1) := by decide +kernel
theorem dX12_row_19 : decode cX12_row 19 = .ok (.bipush (-4), 2) := by decide +kernel
theorem dX12_row_21 : decode cX12_row 21 = .ok (.invokevirtual 124, 3) := by decide +kernel
theorem dX12_row_24 : decode cX12_row 24 = .ok (.ireturn, 1) := by decide +kernel
theorem dX12_row_25 : decode cX12_row 25 = .ok (.iload_n 2, 1) := by decide +kernel
theorem dX12_row_26 : decode cX12_row 26 = .ok (.i2l, 1) := by decide +kernel
theorem dX12_row_27 : decode cX12_row 27 = .ok (.lconst 1, 1) := by decide +kernel
theorem dX12_row_28 : decode cX12_row 28 = .ok (.ldc2_w 252, 3) := by decide +kernel
theorem dX12_row_31 : decode cX12_row 31 = .ok (.invokestatic 137, 3) := by decide +kernel
theorem dX12_row_34 : decode cX12_row 34 = .ok (.ifCond .ne 10, 3) := by decide +kernel
theorem dX12_row_37 : decode cX12_row 37 = .ok (.aload_n 0, 1) := by decide +kernel
theorem dX12_row_38 : decode cX12_row 38 = .ok (.bipush (-9), 2) := by decide +kernel
theorem dX12_row_40 : decode cX12_row 40 = .ok (.invokevirtual 124, 3) := by decide +kernel
theorem dX12_row_43 : decode cX12_row 43 = .ok (.ireturn, 1) := by decide +kernel
theorem dX12_row_44 : decode cX12_row 44 = .ok (.aload_n 0, 1) := by decide +kernel
theorem dX12_row_45 : decode cX12_row 45 = .ok (.getfield 71, 3) := by decide +kernel
theorem dX12_row_48 : decode cX12_row 48 = .ok (.iload_n 1, 1) := by decide +kernel
theorem dX12_row_49 : decode cX12_row 49 = .ok (.iload_n 2, 1) := by decide +kernel
theorem dX12_row_50 : decode cX12_row 50 = .ok (.iastore, 1) := by decide +kernel
theorem dX12_row_51 : decode cX12_row 51 = .ok (.aload_n 0, 1) := by decide +kernel
theorem dX12_row_52 : decode cX12_row 52 = .ok (.getfield 74, 3) := by decide +kernel
theorem dX12_row_55 : decode cX12_row 55 = .ok (.iload_n 1, 1) := by decide +kernel
theorem dX12_row_56 : decode cX12_row 56 = .ok (.iload_n 3, 1) := by decide +kernel
theorem dX12_row_57 : decode cX12_row 57 = .ok (.bastore, 1) := by decide +kernel
theorem dX12_row_58 : decode cX12_row 58 = .ok (.iconst 0, 1) := by decide +kernel
theorem dX12_row_59 : decode cX12_row 59 = .ok (.istore 4, 2) := by decide +kernel
theorem dX12_row_61 : decode cX12_row 61 = .ok (.iload 4, 2) := by decide +kernel
theorem dX12_row_63 : decode cX12_row 63 = .ok (.iload_n 2, 1) := by decide +kernel
theorem dX12_row_64 : decode cX12_row 64 = .ok (.if_icmp .ge 22, 3) := by decide +kernel
theorem dX12_row_67 : decode cX12_row 67 = .ok (.aload_n 0, 1) := by decide +kernel
theorem dX12_row_68 : decode cX12_row 68 = .ok (.getfield 65, 3) := by decide +kernel
theorem dX12_row_71 : decode cX12_row 71 = .ok (.bipush 40, 2) := by decide +kernel
theorem dX12_row_73 : decode cX12_row 73 = .ok (.iload_n 1, 1) := by decide +kernel
theorem dX12_row_74 : decode cX12_row 74 = .ok (.imul, 1) := by decide +kernel
theorem dX12_row_75 : decode cX12_row 75 = .ok (.iload 4, 2) := by decide +kernel
theorem dX12_row_77 : decode cX12_row 77 = .ok (.iadd, 1) := by decide +kernel
theorem dX12_row_78 : decode cX12_row 78 = .ok (.lconst 0, 1) := by decide +kernel
theorem dX12_row_79 : decode cX12_row 79 = .ok (.lastore, 1) := by decide +kernel
theorem dX12_row_80 : decode cX12_row 80 = .ok (.iinc 4 1, 3) := by decide +kernel
theorem dX12_row_83 : decode cX12_row 83 = .ok (.goto (-22), 3) := by decide +kernel
theorem dX12_row_86 : decode cX12_row 86 = .ok (.iconst 1, 1) := by decide +kernel
theorem dX12_row_87 : decode cX12_row 87 = .ok (.ireturn, 1) := by decide +kernel
theorem dX12_empty_0 : decode cX12_empty 0 = .ok (.iload_n 1, 1) := by decide +kernel
theorem dX12_empty_1 : decode cX12_empty 1 = .ok (.invokestatic 249, 3) := by decide +kernel
theorem dX12_empty_4 : decode cX12_empty 4 = .ok (.ifCond .ne 10, 3) := by decide +kernel
theorem dX12_empty_7 : decode cX12_empty 7 = .ok (.aload_n 0, 1) := by decide +kernel
theorem dX12_empty_8 : decode cX12_empty 8 = .ok (.bipush (-3), 2) := by decide +kernel
theorem dX12_empty_10 : decode cX12_empty 10 = .ok (.invokevirtual 124, 3) := by decide +kernel
theorem dX12_empty_13 : decode cX12_empty 13 = .ok (.ireturn, 1) := by decide +kernel
theorem dX12_empty_14 : decode cX12_empty 14 = .ok (.aload_n 0, 1) := by decide +kernel
theorem dX12_empty_15 : decode cX12_empty 15 = .ok (.getfield 71, 3) := by decide +kernel
theorem dX12_empty_18 : decode cX12_empty 18 = .ok (.iload_n 1, 1) := by decide +kernel
theorem dX12_empty_19 : decode cX12_empty 19 = .ok (.iaload, 1) := by decide +kernel
theorem dX12_empty_20 : decode cX12_empty 20 = .ok (.ifCond .le 7, 3) := by decide +kernel
theorem dX12_empty_23 : decode cX12_empty 23 = .ok (.iconst 1, 1) := by decide +kernel
theorem dX12_empty_24 : decode cX12_empty 24 = .ok (.goto 4, 3) := by decide +kernel
theorem dX12_empty_27 : decode cX12_empty 27 = .ok (.iconst 0, 1) := by decide +kernel
theorem dX12_empty_28 : decode cX12_empty 28 = .ok (.istore_n 2, 1) := by decide +kernel
theorem dX12_empty_29 : decode cX12_empty 29 = .ok (.aload_n 0, 1) := by decide +kernel
theorem dX12_empty_30 : decode cX12_empty 30 = .ok (.getfield 71, 3) := by decide +kernel
theorem dX12_empty_33 : decode cX12_empty 33 = .ok (.iload_n 1, 1) := by decide +kernel
theorem dX12_empty_34 : decode cX12_empty 34 = .ok (.iconst 0, 1) := by decide +kernel
theorem dX12_empty_35 : decode cX12_empty 35 = .ok (.iastore, 1) := by decide +kernel
theorem dX12_empty_36 : decode cX12_empty 36 = .ok (.iload_n 2, 1) := by decide +kernel
theorem dX12_empty_37 : decode cX12_empty 37 = .ok (.ireturn, 1) := by decide +kernel
theorem dX12_why_0 : decode cX12_why 0 = .ok (.aload_n 0, 1) := by decide +kernel
theorem dX12_why_1 : decode cX12_why 1 = .ok (.getfield 71, 3) := by decide +kernel
theorem dX12_why_4 : decode cX12_why 4 = .ok (.iload_n 1, 1) := by decide +kernel
theorem dX12_why_5 : decode cX12_why 5 = .ok (.iaload, 1) := by decide +kernel
theorem dX12_why_6 : decode cX12_why 6 = .ok (.ifCond .ne 6, 3) := by decide +kernel
theorem dX12_why_9 : decode cX12_why 9 = .ok (.bipush (-2), 2) := by decide +kernel
theorem dX12_why_11 : decode cX12_why 11 = .ok (.ireturn, 1) := by decide +kernel
theorem dX12_why_12 : decode cX12_why 12 = .ok (.aload_n 0, 1) := by decide +kernel
theorem dX12_why_13 : decode cX12_why 13 = .ok (.getfield 74, 3) := by decide +kernel
theorem dX12_why_16 : decode cX12_why 16 = .ok (.iload_n 1, 1) := by decide +kernel
theorem dX12_why_17 : decode cX12_why 17 = .ok (.baload, 1) := by decide +kernel
theorem dX12_why_18 : decode cX12_why 18 = .ok (.ifCond .ne 6, 3) := by decide +kernel
theorem dX12_why_21 : decode cX12_why 21 = .ok (.bipush (-5), 2) := by decide +kernel
theorem dX12_why_23 : decode cX12_why 23 = .ok (.ireturn, 1) := by decide +kernel
theorem dX12_why_24 : decode cX12_why 24 = .ok (.lload_n 2, 1) := by decide +kernel
theorem dX12_why_25 : decode cX12_why 25 = .ok (.lconst 0, 1) := by decide +kernel
theorem dX12_why_26 : decode cX12_why 26 = .ok (.aload_n 0, 1) := by decide +kernel
theorem dX12_why_27 : decode cX12_why 27 = .ok (.getfield 71, 3) := by decide +kernel
theorem dX12_why_30 : decode cX12_why 30 = .ok (.iload_n 1, 1) := by decide +kernel
theorem dX12_why_31 : decode cX12_why 31 = .ok (.iaload, 1) := by decide +kernel
theorem dX12_why_32 : decode cX12_why 32 = .ok (.iconst 1, 1) := by decide +kernel
theorem dX12_why_33 : decode cX12_why 33 = .ok (.isub, 1) := by decide +kernel
theorem dX12_why_34 : decode cX12_why 34 = .ok (.i2l, 1) := by decide +kernel
theorem dX12_why_35 : decode cX12_why 35 = .ok (.invokestatic 137, 3) := by decide +kernel
theorem dX12_why_38 : decode cX12_why 38 = .ok (.ifCond .eq 7, 3) := by decide +kernel
theorem dX12_why_41 : decode cX12_why 41 = .ok (.iconst 0, 1) := by decide +kernel
theorem dX12_why_42 : decode cX12_why 42 = .ok (.goto 5, 3) := by decide +kernel
theorem dX12_why_45 : decode cX12_why 45 = .ok (.bipush (-3), 2) := by decide +kernel
theorem dX12_why_47 : decode cX12_why 47 = .ok (.ireturn, 1) := by decide +kernel
theorem dX12_set_0 : decode cX12_set 0 = .ok (.iload_n 1, 1) := by decide +kernel
theorem dX12_set_1 : decode cX12_set 1 = .ok (.invokestatic 249, 3) := by decide +kernel
theorem dX12_set_4 : decode cX12_set 4 = .ok (.ifCond .eq 13, 3) := by decide +kernel
theorem dX12_set_7 : decode cX12_set 7 = .ok (.aload_n 0, 1) := by decide +kernel
theorem dX12_set_8 : decode cX12_set 8 = .ok (.iload_n 1, 1) := by decide +kernel
theorem dX12_set_9 : decode cX12_set 9 = .ok (.iload_n 2, 1) := by decide +kernel
theorem dX12_set_10 : decode cX12_set 10 = .ok (.i2l, 1) := by decide +kernel
theorem dX12_set_11 : decode cX12_set 11 = .ok (.invokevirtual 254, 3) := by decide +kernel
theorem dX12_set_14 : decode cX12_set 14 = .ok (.goto 5, 3) := by decide +kernel
theorem dX12_set_17 : decode cX12_set 17 = .ok (.bipush (-3), 2) := by decide +kernel
theorem dX12_set_19 : decode cX12_set 19 = .ok (.istore 5, 2) := by decide +kernel
theorem dX12_set_21 : decode cX12_set 21 = .ok (.iload 5, 2) := by decide +kernel
theorem dX12_set_23 : decode cX12_set 23 = .ok (.ifCond .eq 10, 3) := by decide +kernel
theorem dX12_set_26 : decode cX12_set 26 = .ok (.aload_n 0, 1) := by decide +kernel
theorem dX12_set_27 : decode cX12_set 27 = .ok (.iload 5, 2) := by decide +kernel
theorem dX12_set_29 : decode cX12_set 29 = .ok (.invokevirtual 124, 3) := by decide +kernel
theorem dX12_set_32 : decode cX12_set 32 = .ok (.ireturn, 1) := by decide +kernel
theorem dX12_set_33 : decode cX12_set 33 = .ok (.aload_n 0, 1) := by decide +kernel
theorem dX12_set_34 : decode cX12_set 34 = .ok (.getfield 65, 3) := by decide +kernel
theorem dX12_set_37 : decode cX12_set 37 = .ok (.bipush 40, 2) := by decide +kernel
theorem dX12_set_39 : decode cX12_set 39 = .ok (.iload_n 1, 1) := by decide +kernel
theorem dX12_set_40 : decode cX12_set 40 = .ok (.imul, 1) := by decide +kernel
theorem dX12_set_41 : decode cX12_set 41 = .ok (.iload_n 2, 1) := by decide +kernel
theorem dX12_set_42 : decode cX12_set 42 = .ok (.iadd, 1) := by decide +kernel
theorem dX12_set_43 : decode cX12_set 43 = .ok (.lload_n 3, 1) := by decide +kernel
theorem dX12_set_44 : decode cX12_set 44 = .ok (.lastore, 1) := by decide +kernel
theorem dX12_set_45 : decode cX12_set 45 = .ok (.iconst 1, 1) := by decide +kernel
theorem dX12_set_46 : decode cX12_set 46 = .ok (.ireturn, 1) := by decide +kernel
theorem dX12_get_0 : decode cX12_get 0 = .ok (.iload_n 1, 1) := by decide +kernel
theorem dX12_get_1 : decode cX12_get 1 = .ok (.invokestatic 249, 3) := by decide +kernel
theorem dX12_get_4 : decode cX12_get 4 = .ok (.ifCond .eq 13, 3) := by decide +kernel
theorem dX12_get_7 : decode cX12_get 7 = .ok (.aload_n 0, 1) := by decide +kernel
theorem dX12_get_8 : decode cX12_get 8 = .ok (.iload_n 1, 1) := by decide +kernel
theorem dX12_get_9 : decode cX12_get 9 = .ok (.iload_n 2, 1) := by decide +kernel
theorem dX12_get_10 : decode cX12_get 10 = .ok (.i2l, 1) := by decide +kernel
theorem dX12_get_11 : decode cX12_get 11 = .ok (.invokevirtual 254, 3) := by decide +kernel
theorem dX12_get_14 : decode cX12_get 14 = .ok (.goto 5, 3) := by decide +kernel
theorem dX12_get_17 : decode cX12_get 17 = .ok (.bipush (-3), 2) := by decide +kernel
theorem dX12_get_19 : decode cX12_get 19 = .ok (.istore_n 3, 1) := by decide +kernel
theorem dX12_get_20 : decode cX12_get 20 = .ok (.iload_n 3, 1) := by decide +kernel
theorem dX12_get_21 : decode cX12_get 21 = .ok (.ifCond .ne 15, 3) := by decide +kernel
theorem dX12_get_24 : decode cX12_get 24 = .ok (.aload_n 0, 1) := by decide +kernel
theorem dX12_get_25 : decode cX12_get 25 = .ok (.getfield 65, 3) := by decide +kernel
theorem dX12_get_28 : decode cX12_get 28 = .ok (.bipush 40, 2) := by decide +kernel
theorem dX12_get_30 : decode cX12_get 30 = .ok (.iload_n 1, 1) := by decide +kernel
theorem dX12_get_31 : decode cX12_get 31 = .ok (.imul, 1) := by decide +kernel
theorem dX12_get_32 : decode cX12_get 32 = .ok (.iload_n 2, 1) := by decide +kernel
theorem dX12_get_33 : decode cX12_get 33 = .ok (.iadd, 1) := by decide +kernel
theorem dX12_get_34 : decode cX12_get 34 = .ok (.laload, 1) := by decide +kernel
theorem dX12_get_35 : decode cX12_get 35 = .ok (.lreturn, 1) := by decide +kernel
theorem dX12_get_36 : decode cX12_get 36 = .ok (.aload_n 0, 1) := by decide +kernel
theorem dX12_get_37 : decode cX12_get 37 = .ok (.iload_n 3, 1) := by decide +kernel
theorem dX12_get_38 : decode cX12_get 38 = .ok (.invokevirtual 124, 3) := by decide +kernel
theorem dX12_get_41 : decode cX12_get 41 = .ok (.istore 4, 2) := by decide +kernel
theorem dX12_get_43 : decode cX12_get 43 = .ok (.lconst 0, 1) := by decide +kernel
theorem dX12_get_44 : decode cX12_get 44 = .ok (.lreturn, 1) := by decide +kernel
theorem dX12_copy_0 : decode cX12_copy 0 = .ok (.iload_n 1, 1) := by decide +kernel
theorem dX12_copy_1 : decode cX12_copy 1 = .ok (.invokestatic 249, 3) := by decide +kernel
theorem dX12_copy_4 : decode cX12_copy 4 = .ok (.ifCond .eq 10, 3) := by decide +kernel
theorem dX12_copy_7 : decode cX12_copy 7 = .ok (.iload_n 3, 1) := by decide +kernel
theorem dX12_copy_8 : decode cX12_copy 8 = .ok (.invokestatic 249, 3) := by decide +kernel
theorem dX12_copy_11 : decode cX12_copy 11 = .ok (.ifCond .ne 10, 3) := by decide +kernel
theorem dX12_copy_14 : decode cX12_copy 14 = .ok (.aload_n 0, 1) := by decide +kernel
theorem dX12_copy_15 : decode cX12_copy 15 = .ok (.bipush (-3), 2) := by decide +kernel
theorem dX12_copy_17 : decode cX12_copy 17 = .ok (.invokevirtual 124, 3) := by decide +kernel
theorem dX12_copy_20 : decode cX12_copy 20 = .ok (.ireturn, 1) := by decide +kernel
theorem dX12_copy_21 : decode cX12_copy 21 = .ok (.aload_n 0, 1) := by decide +kernel
theorem dX12_copy_22 : decode cX12_copy 22 = .ok (.getfield 71, 3) := by decide +kernel
theorem dX12_copy_25 : decode cX12_copy 25 = .ok (.iload_n 1, 1) := by decide +kernel
theorem dX12_copy_26 : decode cX12_copy 26 = .ok (.iaload, 1) := by decide +kernel
theorem dX12_copy_27 : decode cX12_copy 27 = .ok (.ifCond .eq 12, 3) := by decide +kernel
theorem dX12_copy_30 : decode cX12_copy 30 = .ok (.aload_n 0, 1) := by decide +kernel
theorem dX12_copy_31 : decode cX12_copy 31 = .ok (.getfield 71, 3) := by decide +kernel
theorem dX12_copy_34 : decode cX12_copy 34 = .ok (.iload_n 3, 1) := by decide +kernel
theorem dX12_copy_35 : decode cX12_copy 35 = .ok (.iaload, 1) := by decide +kernel
theorem dX12_copy_36 : decode cX12_copy 36 = .ok (.ifCond .ne 10, 3) := by decide +kernel
theorem dX12_copy_39 : decode cX12_copy 39 = .ok (.aload_n 0, 1) := by decide +kernel
theorem dX12_copy_40 : decode cX12_copy 40 = .ok (.bipush (-2), 2) := by decide +kernel
theorem dX12_copy_42 : decode cX12_copy 42 = .ok (.invokevirtual 124, 3) := by decide +kernel
theorem dX12_copy_45 : decode cX12_copy 45 = .ok (.ireturn, 1) := by decide +kernel
theorem dX12_copy_46 : decode cX12_copy 46 = .ok (.aload_n 0, 1) := by decide +kernel
theorem dX12_copy_47 : decode cX12_copy 47 = .ok (.getfield 74, 3) := by decide +kernel
theorem dX12_copy_50 : decode cX12_copy 50 = .ok (.iload_n 1, 1) := by decide +kernel
theorem dX12_copy_51 : decode cX12_copy 51 = .ok (.baload, 1) := by decide +kernel
theorem dX12_copy_52 : decode cX12_copy 52 = .ok (.ifCond .eq 12, 3) := by decide +kernel
theorem dX12_copy_55 : decode cX12_copy 55 = .ok (.aload_n 0, 1) := by decide +kernel
theorem dX12_copy_56 : decode cX12_copy 56 = .ok (.getfield 74, 3) := by decide +kernel
theorem dX12_copy_59 : decode cX12_copy 59 = .ok (.iload_n 3, 1) := by decide +kernel
theorem dX12_copy_60 : decode cX12_copy 60 = .ok (.baload, 1) := by decide +kernel
theorem dX12_copy_61 : decode cX12_copy 61 = .ok (.ifCond .ne 10, 3) := by decide +kernel
theorem dX12_copy_64 : decode cX12_copy 64 = .ok (.aload_n 0, 1) := by decide +kernel
theorem dX12_copy_65 : decode cX12_copy 65 = .ok (.bipush (-5), 2) := by decide +kernel
theorem dX12_copy_67 : decode cX12_copy 67 = .ok (.invokevirtual 124, 3) := by decide +kernel
theorem dX12_copy_70 : decode cX12_copy 70 = .ok (.ireturn, 1) := by decide +kernel
theorem dX12_copy_71 : decode cX12_copy 71 = .ok (.iload 5, 2) := by decide +kernel
theorem dX12_copy_73 : decode cX12_copy 73 = .ok (.ifCond .ge 10, 3) := by decide +kernel
theorem dX12_copy_76 : decode cX12_copy 76 = .ok (.aload_n 0, 1) := by decide +kernel
theorem dX12_copy_77 : decode cX12_copy 77 = .ok (.bipush (-4), 2) := by decide +kernel
theorem dX12_copy_79 : decode cX12_copy 79 = .ok (.invokevirtual 124, 3) := by decide +kernel
theorem dX12_copy_82 : decode cX12_copy 82 = .ok (.ireturn, 1) := by decide +kernel
theorem dX12_copy_83 : decode cX12_copy 83 = .ok (.iload_n 2, 1) := by decide +kernel
theorem dX12_copy_84 : decode cX12_copy 84 = .ok (.ifCond .lt 43, 3) := by decide +kernel
theorem dX12_copy_87 : decode cX12_copy 87 = .ok (.iload 4, 2) := by decide +kernel
theorem dX12_copy_89 : decode cX12_copy 89 = .ok (.ifCond .lt 38, 3) := by decide +kernel
theorem dX12_copy_92 : decode cX12_copy 92 = .ok (.iload_n 2, 1) := by decide +kernel
theorem dX12_copy_93 : decode cX12_copy 93 = .ok (.i2l, 1) := by decide +kernel
theorem dX12_copy_94 : decode cX12_copy 94 = .ok (.iload 5, 2) := by decide +kernel
theorem dX12_copy_96 : decode cX12_copy 96 = .ok (.i2l, 1) := by decide +kernel
theorem dX12_copy_97 : decode cX12_copy 97 = .ok (.ladd, 1) := by decide +kernel
theorem dX12_copy_98 : decode cX12_copy 98 = .ok (.aload_n 0, 1) := by decide +kernel
theorem dX12_copy_99 : decode cX12_copy 99 = .ok (.getfield 71, 3) := by decide +kernel
theorem dX12_copy_102 : decode cX12_copy 102 = .ok (.iload_n 1, 1) := by decide +kernel
theorem dX12_copy_103 : decode cX12_copy 103 = .ok (.iaload, 1) := by decide +kernel
theorem dX12_copy_104 : decode cX12_copy 104 = .ok (.i2l, 1) := by decide +kernel
theorem dX12_copy_105 : decode cX12_copy 105 = .ok (.lcmp, 1) := by decide +kernel
theorem dX12_copy_106 : decode cX12_copy 106 = .ok (.ifCond .gt 21, 3) := by decide +kernel
theorem dX12_copy_109 : decode cX12_copy 109 = .ok (.iload 4, 2) := by decide +kernel
theorem dX12_copy_111 : decode cX12_copy 111 = .ok (.i2l, 1) := by decide +kernel
theorem dX12_copy_112 : decode cX12_copy 112 = .ok (.iload 5, 2) := by decide +kernel
theorem dX12_copy_114 : decode cX12_copy 114 = .ok (.i2l, 1) := by decide +kernel
theorem dX12_copy_115 : decode cX12_copy 115 = .ok (.ladd, 1) := by decide +kernel
theorem dX12_copy_116 : decode cX12_copy 116 = .ok (.aload_n 0, 1) := by decide +kernel
theorem dX12_copy_117 : decode cX12_copy 117 = .ok (.getfield 71, 3) := by decide +kernel
theorem dX12_copy_120 : decode cX12_copy 120 = .ok (.iload_n 3, 1) := by decide +kernel
theorem dX12_copy_121 : decode cX12_copy 121 = .ok (.iaload, 1) := by decide +kernel
theorem dX12_copy_122 : decode cX12_copy 122 = .ok (.i2l, 1) := by decide +kernel
theorem dX12_copy_123 : decode cX12_copy 123 = .ok (.lcmp, 1) := by decide +kernel
theorem dX12_copy_124 : decode cX12_copy 124 = .ok (.ifCond .le 10, 3) := by decide +kernel
theorem dX12_copy_127 : decode cX12_copy 127 = .ok (.aload_n 0, 1) := by decide +kernel
theorem dX12_copy_128 : decode cX12_copy 128 = .ok (.bipush (-6), 2) := by decide +kernel
theorem dX12_copy_130 : decode cX12_copy 130 = .ok (.invokevirtual 124, 3) := by decide +kernel
theorem dX12_copy_133 : decode cX12_copy 133 = .ok (.ireturn, 1) := by decide +kernel
theorem dX12_copy_134 : decode cX12_copy 134 = .ok (.iconst 0, 1) := by decide +kernel
theorem dX12_copy_135 : decode cX12_copy 135 = .ok (.istore 6, 2) := by decide +kernel
theorem dX12_copy_137 : decode cX12_copy 137 = .ok (.iload 6, 2) := by decide +kernel
theorem dX12_copy_139 : decode cX12_copy 139 = .ok (.sipush 320, 3) := by decide +kernel
theorem dX12_copy_142 : decode cX12_copy 142 = .ok (.if_icmp .ge 23, 3) := by decide +kernel
theorem dX12_copy_145 : decode cX12_copy 145 = .ok (.aload_n 0, 1) := by decide +kernel
theorem dX12_copy_146 : decode cX12_copy 146 = .ok (.getfield 68, 3) := by decide +kernel
theorem dX12_copy_149 : decode cX12_copy 149 = .ok (.iload 6, 2) := by decide +kernel
theorem dX12_copy_151 : decode cX12_copy 151 = .ok (.aload_n 0, 1) := by decide +kernel
theorem dX12_copy_152 : decode cX12_copy 152 = .ok (.getfield 65, 3) := by decide +kernel
theorem dX12_copy_155 : decode cX12_copy 155 = .ok (.iload 6, 2) := by decide +kernel
theorem dX12_copy_157 : decode cX12_copy 157 = .ok (.laload, 1) := by decide +kernel
theorem dX12_copy_158 : decode cX12_copy 158 = .ok (.lastore, 1) := by decide +kernel
theorem dX12_copy_159 : decode cX12_copy 159 = .ok (.iinc 6 1, 3) := by decide +kernel
theorem dX12_copy_162 : decode cX12_copy 162 = .ok (.goto (-25), 3) := by decide +kernel
theorem dX12_copy_165 : decode cX12_copy 165 = .ok (.iconst 0, 1) := by decide +kernel
theorem dX12_copy_166 : decode cX12_copy 166 = .ok (.istore 6, 2) := by decide +kernel
theorem dX12_copy_168 : decode cX12_copy 168 = .ok (.iload 6, 2) := by decide +kernel
theorem dX12_copy_170 : decode cX12_copy 170 = .ok (.iload 5, 2) := by decide +kernel
theorem dX12_copy_172 : decode cX12_copy 172 = .ok (.if_icmp .ge 38, 3) := by decide +kernel
theorem dX12_copy_175 : decode cX12_copy 175 = .ok (.aload_n 0, 1) := by decide +kernel
theorem dX12_copy_176 : decode cX12_copy 176 = .ok (.getfield 65, 3) := by decide +kernel
theorem dX12_copy_179 : decode cX12_copy 179 = .ok (.bipush 40, 2) := by decide +kernel
theorem dX12_copy_181 : decode cX12_copy 181 = .ok (.iload_n 3, 1) := by decide +kernel
theorem dX12_copy_182 : decode cX12_copy 182 = .ok (.imul, 1) := by decide +kernel
theorem dX12_copy_183 : decode cX12_copy 183 = .ok (.iload 4, 2) := by decide +kernel
theorem dX12_copy_185 : decode cX12_copy 185 = .ok (.iadd, 1) := by decide +kernel
theorem dX12_copy_186 : decode cX12_copy 186 = .ok (.iload 6, 2) := by decide +kernel
theorem dX12_copy_188 : decode cX12_copy 188 = .ok (.iadd, 1) := by decide +kernel
theorem dX12_copy_189 : decode cX12_copy 189 = .ok (.aload_n 0, 1) := by decide +kernel
theorem dX12_copy_190 : decode cX12_copy 190 = .ok (.getfield 68, 3) := by decide +kernel
theorem dX12_copy_193 : decode cX12_copy 193 = .ok (.bipush 40, 2) := by decide +kernel
theorem dX12_copy_195 : decode cX12_copy 195 = .ok (.iload_n 1, 1) := by decide +kernel
theorem dX12_copy_196 : decode cX12_copy 196 = .ok (.imul, 1) := by decide +kernel
theorem dX12_copy_197 : decode cX12_copy 197 = .ok (.iload_n 2, 1) := by decide +kernel
theorem dX12_copy_198 : decode cX12_copy 198 = .ok (.iadd, 1) := by decide +kernel
theorem dX12_copy_199 : decode cX12_copy 199 = .ok (.iload 6, 2) := by decide +kernel
theorem dX12_copy_201 : decode cX12_copy 201 = .ok (.iadd, 1) := by decide +kernel
theorem dX12_copy_202 : decode cX12_copy 202 = .ok (.laload, 1) := by decide +kernel
theorem dX12_copy_203 : decode cX12_copy 203 = .ok (.lastore, 1) := by decide +kernel
theorem dX12_copy_204 : decode cX12_copy 204 = .ok (.iinc 6 1, 3) := by decide +kernel
theorem dX12_copy_207 : decode cX12_copy 207 = .ok (.goto (-39), 3) := by decide +kernel
theorem dX12_copy_210 : decode cX12_copy 210 = .ok (.iload 5, 2) := by decide +kernel
theorem dX12_copy_212 : decode cX12_copy 212 = .ok (.ireturn, 1) := by decide +kernel
theorem dX12_forget_0 : decode cX12_forget 0 = .ok (.aload_n 0, 1) := by decide +kernel
theorem dX12_forget_1 : decode cX12_forget 1 = .ok (.iconst 0, 1) := by decide +kernel
theorem dX12_forget_2 : decode cX12_forget 2 = .ok (.putfield 258, 3) := by decide +kernel
theorem dX12_forget_5 : decode cX12_forget 5 = .ok (.aload_n 0, 1) := by decide +kernel
theorem dX12_forget_6 : decode cX12_forget 6 = .ok (.iconst (-1), 1) := by decide +kernel
theorem dX12_forget_7 : decode cX12_forget 7 = .ok (.putfield 261, 3) := by decide +kernel
theorem dX12_forget_10 : decode cX12_forget 10 = .ok (.aload_n 0, 1) := by decide +kernel
theorem dX12_forget_11 : decode cX12_forget 11 = .ok (.iconst (-1), 1) := by decide +kernel
theorem dX12_forget_12 : decode cX12_forget 12 = .ok (.putfield 264, 3) := by decide +kernel
theorem dX12_forget_15 : decode cX12_forget 15 = .ok (.aload_n 0, 1) := by decide +kernel
theorem dX12_forget_16 : decode cX12_forget 16 = .ok (.iconst 0, 1) := by decide +kernel
theorem dX12_forget_17 : decode cX12_forget 17 = .ok (.putfield 267, 3) := by decide +kernel
theorem dX12_forget_20 : decode cX12_forget 20 = .ok (.aload_n 0, 1) := by decide +kernel
theorem dX12_forget_21 : decode cX12_forget 21 = .ok (.iconst 0, 1) := by decide +kernel
theorem dX12_forget_22 : decode cX12_forget 22 = .ok (.putfield 270, 3) := by decide +kernel
theorem dX12_forget_25 : decode cX12_forget 25 = .ok (.aload_n 0, 1) := by decide +kernel
theorem dX12_forget_26 : decode cX12_forget 26 = .ok (.iconst 0, 1) := by decide +kernel
theorem dX12_forget_27 : decode cX12_forget 27 = .ok (.putfield 273, 3) := by decide +kernel
theorem dX12_forget_30 : decode cX12_forget 30 = .ok (.aload_n 0, 1) := by decide +kernel
theorem dX12_forget_31 : decode cX12_forget 31 = .ok (.iconst 0, 1) := by decide +kernel
theorem dX12_forget_32 : decode cX12_forget 32 = .ok (.putfield 276, 3) := by decide +kernel
theorem dX12_forget_35 : decode cX12_forget 35 = .ok (.return_, 1) := by decide +kernel
theorem dX12_value_0 : decode cX12_value 0 = .ok (.aload_n 0, 1) := by decide +kernel
theorem dX12_value_1 : decode cX12_value 1 = .ok (.getfield 25, 3) := by decide +kernel
theorem dX12_value_4 : decode cX12_value 4 = .ok (.iconst 3, 1) := by decide +kernel
theorem dX12_value_5 : decode cX12_value 5 = .ok (.iload_n 1, 1) := by decide +kernel
theorem dX12_value_6 : decode cX12_value 6 = .ok (.imul, 1) := by decide +kernel
theorem dX12_value_7 : decode cX12_value 7 = .ok (.iload_n 2, 1) := by decide +kernel
theorem dX12_value_8 : decode cX12_value 8 = .ok (.iadd, 1) := by decide +kernel
theorem dX12_value_9 : decode cX12_value 9 = .ok (.iaload, 1) := by decide +kernel
theorem dX12_value_10 : decode cX12_value 10 = .ok (.istore 4, 2) := by decide +kernel
theorem dX12_value_12 : decode cX12_value 12 = .ok (.iload_n 3, 1) := by decide +kernel
theorem dX12_value_13 : decode cX12_value 13 = .ok (.aload_n 0, 1) := by decide +kernel
theorem dX12_value_14 : decode cX12_value 14 = .ok (.getfield 28, 3) := by decide +kernel
theorem dX12_value_17 : decode cX12_value 17 = .ok (.iconst 3, 1) := by decide +kernel
theorem dX12_value_18 : decode cX12_value 18 = .ok (.iload_n 1, 1) := by decide +kernel
theorem dX12_value_19 : decode cX12_value 19 = .ok (.imul, 1) := by decide +kernel
theorem dX12_value_20 : decode cX12_value 20 = .ok (.iload_n 2, 1) := by decide +kernel
theorem dX12_value_21 : decode cX12_value 21 = .ok (.iadd, 1) := by decide +kernel
theorem dX12_value_22 : decode cX12_value 22 = .ok (.iaload, 1) := by decide +kernel
theorem dX12_value_23 : decode cX12_value 23 = .ok (.isub, 1) := by decide +kernel
theorem dX12_value_24 : decode cX12_value 24 = .ok (.istore 5, 2) := by decide +kernel
theorem dX12_value_26 : decode cX12_value 26 = .ok (.iload 5, 2) := by decide +kernel
theorem dX12_value_28 : decode cX12_value 28 = .ok (.ifCond .ge 13, 3) := by decide +kernel
theorem dX12_value_31 : decode cX12_value 31 = .ok (.aload_n 0, 1) := by decide +kernel
theorem dX12_value_32 : decode cX12_value 32 = .ok (.getfield 31, 3) := by decide +kernel
theorem dX12_value_35 : decode cX12_value 35 = .ok (.iload 4, 2) := by decide +kernel
theorem dX12_value_37 : decode cX12_value 37 = .ok (.laload, 1) := by decide +kernel
theorem dX12_value_38 : decode cX12_value 38 = .ok (.goto 16, 3) := by decide +kernel
theorem dX12_value_41 : decode cX12_value 41 = .ok (.aload_n 0, 1) := by decide +kernel
theorem dX12_value_42 : decode cX12_value 42 = .ok (.getfield 105, 3) := by decide +kernel
theorem dX12_value_45 : decode cX12_value 45 = .ok (.bipush 16, 2) := by decide +kernel
theorem dX12_value_47 : decode cX12_value 47 = .ok (.iload 5, 2) := by decide +kernel
theorem dX12_value_49 : decode cX12_value 49 = .ok (.imul, 1) := by decide +kernel
theorem dX12_value_50 : decode cX12_value 50 = .ok (.iload 4, 2) := by decide +kernel
theorem dX12_value_52 : decode cX12_value 52 = .ok (.iadd, 1) := by decide +kernel
theorem dX12_value_53 : decode cX12_value 53 = .ok (.laload, 1) := by decide +kernel
theorem dX12_value_54 : decode cX12_value 54 = .ok (.lreturn, 1) := by decide +kernel
theorem dX12_does_0 : decode cX12_does 0 = .ok (.aload_n 0, 1) := by decide +kernel
theorem dX12_does_1 : decode cX12_does 1 = .ok (.getfield 7, 3) := by decide +kernel
theorem dX12_does_4 : decode cX12_does 4 = .ok (.iload_n 1, 1) := by decide +kernel
theorem dX12_does_5 : decode cX12_does 5 = .ok (.iaload, 1) := by decide +kernel
theorem dX12_does_6 : decode cX12_does 6 = .ok (.ifCond .ne 12, 3) := by decide +kernel
theorem dX12_does_9 : decode cX12_does 9 = .ok (.aload_n 0, 1) := by decide +kernel
theorem dX12_does_10 : decode cX12_does 10 = .ok (.getfield 35, 3) := by decide +kernel
theorem dX12_does_13 : decode cX12_does 13 = .ok (.iload_n 1, 1) := by decide +kernel
theorem dX12_does_14 : decode cX12_does 14 = .ok (.laload, 1) := by decide +kernel
theorem dX12_does_15 : decode cX12_does 15 = .ok (.goto 10, 3) := by decide +kernel
theorem dX12_does_18 : decode cX12_does 18 = .ok (.aload_n 0, 1) := by decide +kernel
theorem dX12_does_19 : decode cX12_does 19 = .ok (.iload_n 1, 1) := by decide +kernel
theorem dX12_does_20 : decode cX12_does 20 = .ok (.iconst 0, 1) := by decide +kernel
theorem dX12_does_21 : decode cX12_does 21 = .ok (.iload_n 2, 1) := by decide +kernel
theorem dX12_does_22 : decode cX12_does 22 = .ok (.invokevirtual 279, 3) := by decide +kernel
theorem dX12_does_25 : decode cX12_does 25 = .ok (.lstore_n 3, 1) := by decide +kernel
theorem dX12_does_26 : decode cX12_does 26 = .ok (.aload_n 0, 1) := by decide +kernel
theorem dX12_does_27 : decode cX12_does 27 = .ok (.getfield 25, 3) := by decide +kernel
theorem dX12_does_30 : decode cX12_does 30 = .ok (.iconst 3, 1) := by decide +kernel
theorem dX12_does_31 : decode cX12_does 31 = .ok (.iload_n 1, 1) := by decide +kernel
theorem dX12_does_32 : decode cX12_does 32 = .ok (.imul, 1) := by decide +kernel
theorem dX12_does_33 : decode cX12_does 33 = .ok (.iconst 1, 1) := by decide +kernel
theorem dX12_does_34 : decode cX12_does 34 = .ok (.iadd, 1) := by decide +kernel
theorem dX12_does_35 : decode cX12_does 35 = .ok (.iaload, 1) := by decide +kernel
theorem dX12_does_36 : decode cX12_does 36 = .ok (.ifCond .ge 7, 3) := by decide +kernel
theorem dX12_does_39 : decode cX12_does 39 = .ok (.lconst 0, 1) := by decide +kernel
theorem dX12_does_40 : decode cX12_does 40 = .ok (.goto 10, 3) := by decide +kernel
theorem dX12_does_43 : decode cX12_does 43 = .ok (.aload_n 0, 1) := by decide +kernel
theorem dX12_does_44 : decode cX12_does 44 = .ok (.iload_n 1, 1) := by decide +kernel
theorem dX12_does_45 : decode cX12_does 45 = .ok (.iconst 1, 1) := by decide +kernel
theorem dX12_does_46 : decode cX12_does 46 = .ok (.iload_n 2, 1) := by decide +kernel
theorem dX12_does_47 : decode cX12_does 47 = .ok (.invokevirtual 279, 3) := by decide +kernel
theorem dX12_does_50 : decode cX12_does 50 = .ok (.lstore 5, 2) := by decide +kernel
theorem dX12_does_52 : decode cX12_does 52 = .ok (.lload_n 3, 1) := by decide +kernel
theorem dX12_does_53 : decode cX12_does 53 = .ok (.lstore 7, 2) := by decide +kernel
theorem dX12_does_55 : decode cX12_does 55 = .ok (.iconst 0, 1) := by decide +kernel
theorem dX12_does_56 : decode cX12_does 56 = .ok (.istore 9, 2) := by decide +kernel
theorem dX12_does_58 : decode cX12_does 58 = .ok (.aload_n 0, 1) := by decide +kernel
theorem dX12_does_59 : decode cX12_does 59 = .ok (.getfield 7, 3) := by decide +kernel
theorem dX12_does_62 : decode cX12_does 62 = .ok (.iload_n 1, 1) := by decide +kernel
theorem dX12_does_63 : decode cX12_does 63 = .ok (.iaload, 1) := by decide +kernel
theorem dX12_does_64 : decode cX12_does 64 = .ok (.iconst 1, 1) := by decide +kernel
theorem dX12_does_65 : decode cX12_does 65 = .ok (.if_icmp .ne 9, 3) := by decide +kernel
theorem dX12_does_68 : decode cX12_does 68 = .ok (.lload_n 3, 1) := by decide +kernel
theorem dX12_does_69 : decode cX12_does 69 = .ok (.lload 5, 2) := by decide +kernel
theorem dX12_does_71 : decode cX12_does 71 = .ok (.ladd, 1) := by decide +kernel
theorem dX12_does_72 : decode cX12_does 72 = .ok (.lstore 7, 2) := by decide +kernel
theorem dX12_does_74 : decode cX12_does 74 = .ok (.aload_n 0, 1) := by decide +kernel
theorem dX12_does_75 : decode cX12_does 75 = .ok (.getfield 7, 3) := by decide +kernel
theorem dX12_does_78 : decode cX12_does 78 = .ok (.iload_n 1, 1) := by decide +kernel
theorem dX12_does_79 : decode cX12_does 79 = .ok (.iaload, 1) := by decide +kernel
theorem dX12_does_80 : decode cX12_does 80 = .ok (.iconst 2, 1) := by decide +kernel
theorem dX12_does_81 : decode cX12_does 81 = .ok (.if_icmp .ne 9, 3) := by decide +kernel
theorem dX12_does_84 : decode cX12_does 84 = .ok (.lload_n 3, 1) := by decide +kernel
theorem dX12_does_85 : decode cX12_does 85 = .ok (.lload 5, 2) := by decide +kernel
theorem dX12_does_87 : decode cX12_does 87 = .ok (.lmul, 1) := by decide +kernel
theorem dX12_does_88 : decode cX12_does 88 = .ok (.lstore 7, 2) := by decide +kernel
theorem dX12_does_90 : decode cX12_does 90 = .ok (.aload_n 0, 1) := by decide +kernel
theorem dX12_does_91 : decode cX12_does 91 = .ok (.getfield 7, 3) := by decide +kernel
theorem dX12_does_94 : decode cX12_does 94 = .ok (.iload_n 1, 1) := by decide +kernel
theorem dX12_does_95 : decode cX12_does 95 = .ok (.iaload, 1) := by decide +kernel
theorem dX12_does_96 : decode cX12_does 96 = .ok (.bipush 6, 2) := by decide +kernel
theorem dX12_does_98 : decode cX12_does 98 = .ok (.if_icmp .ne 23, 3) := by decide +kernel
theorem dX12_does_101 : decode cX12_does 101 = .ok (.lload_n 3, 1) := by decide +kernel
theorem dX12_does_102 : decode cX12_does 102 = .ok (.lconst 0, 1) := by decide +kernel
theorem dX12_does_103 : decode cX12_does 103 = .ok (.lcmp, 1) := by decide +kernel
theorem dX12_does_104 : decode cX12_does 104 = .ok (.ifCond .eq 8, 3) := by decide +kernel
theorem dX12_does_107 : decode cX12_does 107 = .ok (.lload 5, 2) := by decide +kernel
theorem dX12_does_109 : decode cX12_does 109 = .ok (.goto 10, 3) := by decide +kernel
theorem dX12_does_112 : decode cX12_does 112 = .ok (.aload_n 0, 1) := by decide +kernel
theorem dX12_does_113 : decode cX12_does 113 = .ok (.iload_n 1, 1) := by decide +kernel
theorem dX12_does_114 : decode cX12_does 114 = .ok (.iconst 2, 1) := by decide +kernel
theorem dX12_does_115 : decode cX12_does 115 = .ok (.iload_n 2, 1) := by decide +kernel
theorem dX12_does_116 : decode cX12_does 116 = .ok (.invokevirtual 279, 3) := by decide +kernel
theorem dX12_does_119 : decode cX12_does 119 = .ok (.lstore 7, 2) := by decide +kernel
theorem dX12_does_121 : decode cX12_does 121 = .ok (.aload_n 0, 1) := by decide +kernel
theorem dX12_does_122 : decode cX12_does 122 = .ok (.getfield 7, 3) := by decide +kernel
theorem dX12_does_125 : decode cX12_does 125 = .ok (.iload_n 1, 1) := by decide +kernel
theorem dX12_does_126 : decode cX12_does 126 = .ok (.iaload, 1) := by decide +kernel
theorem dX12_does_127 : decode cX12_does 127 = .ok (.iconst 3, 1) := by decide +kernel
theorem dX12_does_128 : decode cX12_does 128 = .ok (.if_icmp .ne 13, 3) := by decide +kernel
theorem dX12_does_131 : decode cX12_does 131 = .ok (.lload 5, 2) := by decide +kernel
theorem dX12_does_133 : decode cX12_does 133 = .ok (.lconst 0, 1) := by decide +kernel
theorem dX12_does_134 : decode cX12_does 134 = .ok (.lcmp, 1) := by decide +kernel
theorem dX12_does_135 : decode cX12_does 135 = .ok (.ifCond .ne 6, 3) := by decide +kernel
theorem dX12_does_138 : decode cX12_does 138 = .ok (.bipush (-8), 2) := by decide +kernel
theorem dX12_does_140 : decode cX12_does 140 = .ok (.ireturn, 1) := by decide +kernel
theorem dX12_does_141 : decode cX12_does 141 = .ok (.aload_n 0, 1) := by decide +kernel
theorem dX12_does_142 : decode cX12_does 142 = .ok (.getfield 7, 3) := by decide +kernel
theorem dX12_does_145 : decode cX12_does 145 = .ok (.iload_n 1, 1) := by decide +kernel
theorem dX12_does_146 : decode cX12_does 146 = .ok (.iaload, 1) := by decide +kernel
theorem dX12_does_147 : decode cX12_does 147 = .ok (.iconst 3, 1) := by decide +kernel
theorem dX12_does_148 : decode cX12_does 148 = .ok (.if_icmp .ne 9, 3) := by decide +kernel
theorem dX12_does_151 : decode cX12_does 151 = .ok (.lload_n 3, 1) := by decide +kernel
theorem dX12_does_152 : decode cX12_does 152 = .ok (.lload 5, 2) := by decide +kernel
theorem dX12_does_154 : decode cX12_does 154 = .ok (.ldiv, 1) := by decide +kernel
theorem dX12_does_155 : decode cX12_does 155 = .ok (.lstore 7, 2) := by decide +kernel
theorem dX12_does_157 : decode cX12_does 157 = .ok (.aload_n 0, 1) := by decide +kernel
theorem dX12_does_158 : decode cX12_does 158 = .ok (.iload_n 1, 1) := by decide +kernel
theorem dX12_does_159 : decode cX12_does 159 = .ok (.invokevirtual 190, 3) := by decide +kernel
theorem dX12_does_162 : decode cX12_does 162 = .ok (.ifCond .eq 66, 3) := by decide +kernel
theorem dX12_does_165 : decode cX12_does 165 = .ok (.aload_n 0, 1) := by decide +kernel
theorem dX12_does_166 : decode cX12_does 166 = .ok (.aload_n 0, 1) := by decide +kernel
theorem dX12_does_167 : decode cX12_does 167 = .ok (.getfield 22, 3) := by decide +kernel
theorem dX12_does_170 : decode cX12_does 170 = .ok (.iload_n 1, 1) := by decide +kernel
theorem dX12_does_171 : decode cX12_does 171 = .ok (.iaload, 1) := by decide +kernel
theorem dX12_does_172 : decode cX12_does 172 = .ok (.lload_n 3, 1) := by decide +kernel
theorem dX12_does_173 : decode cX12_does 173 = .ok (.invokevirtual 254, 3) := by decide +kernel
theorem dX12_does_176 : decode cX12_does 176 = .ok (.istore 9, 2) := by decide +kernel
theorem dX12_does_178 : decode cX12_does 178 = .ok (.iload 9, 2) := by decide +kernel
theorem dX12_does_180 : decode cX12_does 180 = .ok (.ifCond .eq 6, 3) := by decide +kernel
theorem dX12_does_183 : decode cX12_does 183 = .ok (.iload 9, 2) := by decide +kernel
theorem dX12_does_185 : decode cX12_does 185 = .ok (.ireturn, 1) := by decide +kernel
theorem dX12_does_186 : decode cX12_does 186 = .ok (.bipush 40, 2) := by decide +kernel
theorem dX12_does_188 : decode cX12_does 188 = .ok (.aload_n 0, 1) := by decide +kernel
theorem dX12_does_189 : decode cX12_does 189 = .ok (.getfield 22, 3) := by decide +kernel
theorem dX12_does_192 : decode cX12_does 192 = .ok (.iload_n 1, 1) := by decide +kernel
theorem dX12_does_193 : decode cX12_does 193 = .ok (.iaload, 1) := by decide +kernel
theorem dX12_does_194 : decode cX12_does 194 = .ok (.imul, 1) := by decide +kernel
theorem dX12_does_195 : decode cX12_does 195 = .ok (.lload_n 3, 1) := by decide +kernel
theorem dX12_does_196 : decode cX12_does 196 = .ok (.l2i, 1) := by decide +kernel
theorem dX12_does_197 : decode cX12_does 197 = .ok (.iadd, 1) := by decide +kernel
theorem dX12_does_198 : decode cX12_does 198 = .ok (.istore 10, 2) := by decide +kernel
theorem dX12_does_200 : decode cX12_does 200 = .ok (.aload_n 0, 1) := by decide +kernel
theorem dX12_does_201 : decode cX12_does 201 = .ok (.getfield 65, 3) := by decide +kernel
theorem dX12_does_204 : decode cX12_does 204 = .ok (.iload 10, 2) := by decide +kernel
theorem dX12_does_206 : decode cX12_does 206 = .ok (.laload, 1) := by decide +kernel
theorem dX12_does_207 : decode cX12_does 207 = .ok (.lstore 7, 2) := by decide +kernel
theorem dX12_does_209 : decode cX12_does 209 = .ok (.aload_n 0, 1) := by decide +kernel
theorem dX12_does_210 : decode cX12_does 210 = .ok (.getfield 7, 3) := by decide +kernel
theorem dX12_does_213 : decode cX12_does 213 = .ok (.iload_n 1, 1) := by decide +kernel
theorem dX12_does_214 : decode cX12_does 214 = .ok (.iaload, 1) := by decide +kernel
theorem dX12_does_215 : decode cX12_does 215 = .ok (.iconst 5, 1) := by decide +kernel
theorem dX12_does_216 : decode cX12_does 216 = .ok (.if_icmp .ne 12, 3) := by decide +kernel
theorem dX12_does_219 : decode cX12_does 219 = .ok (.aload_n 0, 1) := by decide +kernel
theorem dX12_does_220 : decode cX12_does 220 = .ok (.getfield 65, 3) := by decide +kernel
theorem dX12_does_223 : decode cX12_does 223 = .ok (.iload 10, 2) := by decide +kernel
theorem dX12_does_225 : decode cX12_does 225 = .ok (.lload 5, 2) := by decide +kernel
theorem dX12_does_227 : decode cX12_does 227 = .ok (.lastore, 1) := by decide +kernel
theorem dX12_does_228 : decode cX12_does 228 = .ok (.aload_n 0, 1) := by decide +kernel
theorem dX12_does_229 : decode cX12_does 229 = .ok (.getfield 105, 3) := by decide +kernel
theorem dX12_does_232 : decode cX12_does 232 = .ok (.bipush 16, 2) := by decide +kernel
theorem dX12_does_234 : decode cX12_does 234 = .ok (.iload_n 2, 1) := by decide +kernel
theorem dX12_does_235 : decode cX12_does 235 = .ok (.imul, 1) := by decide +kernel
theorem dX12_does_236 : decode cX12_does 236 = .ok (.iload_n 1, 1) := by decide +kernel
theorem dX12_does_237 : decode cX12_does 237 = .ok (.iadd, 1) := by decide +kernel
theorem dX12_does_238 : decode cX12_does 238 = .ok (.lload 7, 2) := by decide +kernel
theorem dX12_does_240 : decode cX12_does 240 = .ok (.lastore, 1) := by decide +kernel
theorem dX12_does_241 : decode cX12_does 241 = .ok (.iconst 0, 1) := by decide +kernel
theorem dX12_does_242 : decode cX12_does 242 = .ok (.ireturn, 1) := by decide +kernel
theorem dX12_plain_0 : decode cX12_plain 0 = .ok (.iconst 0, 1) := by decide +kernel
theorem dX12_plain_1 : decode cX12_plain 1 = .ok (.istore_n 2, 1) := by decide +kernel
theorem dX12_plain_2 : decode cX12_plain 2 = .ok (.iload_n 2, 1) := by decide +kernel
theorem dX12_plain_3 : decode cX12_plain 3 = .ok (.iload_n 1, 1) := by decide +kernel
theorem dX12_plain_4 : decode cX12_plain 4 = .ok (.if_icmp .ge 88, 3) := by decide +kernel
theorem dX12_plain_7 : decode cX12_plain 7 = .ok (.iconst 0, 1) := by decide +kernel
theorem dX12_plain_8 : decode cX12_plain 8 = .ok (.istore_n 3, 1) := by decide +kernel
theorem dX12_plain_9 : decode cX12_plain 9 = .ok (.iload_n 3, 1) := by decide +kernel
theorem dX12_plain_10 : decode cX12_plain 10 = .ok (.aload_n 0, 1) := by decide +kernel
theorem dX12_plain_11 : decode cX12_plain 11 = .ok (.getfield 118, 3) := by decide +kernel
theorem dX12_plain_14 : decode cX12_plain 14 = .ok (.if_icmp .ge 65, 3) := by decide +kernel
theorem dX12_plain_17 : decode cX12_plain 17 = .ok (.aload_n 0, 1) := by decide +kernel
theorem dX12_plain_18 : decode cX12_plain 18 = .ok (.dup, 1) := by decide +kernel
theorem dX12_plain_19 : decode cX12_plain 19 = .ok (.getfield 267, 3) := by decide +kernel
theorem dX12_plain_22 : decode cX12_plain 22 = .ok (.iconst 1, 1) := by decide +kernel
theorem dX12_plain_23 : decode cX12_plain 23 = .ok (.iadd, 1) := by decide +kernel
theorem dX12_plain_24 : decode cX12_plain 24 = .ok (.putfield 267, 3) := by decide +kernel
theorem dX12_plain_27 : decode cX12_plain 27 = .ok (.aload_n 0, 1) := by decide +kernel
theorem dX12_plain_28 : decode cX12_plain 28 = .ok (.dup, 1) := by decide +kernel
theorem dX12_plain_29 : decode cX12_plain 29 = .ok (.getfield 270, 3) := by decide +kernel
theorem dX12_plain_32 : decode cX12_plain 32 = .ok (.aload_n 0, 1) := by decide +kernel
theorem dX12_plain_33 : decode cX12_plain 33 = .ok (.getfield 13, 3) := by decide +kernel
theorem dX12_plain_36 : decode cX12_plain 36 = .ok (.iload_n 3, 1) := by decide +kernel
theorem dX12_plain_37 : decode cX12_plain 37 = .ok (.iaload, 1) := by decide +kernel
theorem dX12_plain_38 : decode cX12_plain 38 = .ok (.iadd, 1) := by decide +kernel
theorem dX12_plain_39 : decode cX12_plain 39 = .ok (.putfield 270, 3) := by decide +kernel
theorem dX12_plain_42 : decode cX12_plain 42 = .ok (.aload_n 0, 1) := by decide +kernel
theorem dX12_plain_43 : decode cX12_plain 43 = .ok (.aload_n 0, 1) := by decide +kernel
theorem dX12_plain_44 : decode cX12_plain 44 = .ok (.iload_n 3, 1) := by decide +kernel
theorem dX12_plain_45 : decode cX12_plain 45 = .ok (.iload_n 2, 1) := by decide +kernel
theorem dX12_plain_46 : decode cX12_plain 46 = .ok (.invokevirtual 283, 3) := by decide +kernel
theorem dX12_plain_49 : decode cX12_plain 49 = .ok (.putfield 258, 3) := by decide +kernel
theorem dX12_plain_52 : decode cX12_plain 52 = .ok (.aload_n 0, 1) := by decide +kernel
theorem dX12_plain_53 : decode cX12_plain 53 = .ok (.getfield 258, 3) := by decide +kernel
theorem dX12_plain_56 : decode cX12_plain 56 = .ok (.ifCond .ne 6, 3) := by decide +kernel
theorem dX12_plain_59 : decode cX12_plain 59 = .ok (.goto 14, 3) := by decide +kernel
theorem dX12_plain_62 : decode cX12_plain 62 = .ok (.aload_n 0, 1) := by decide +kernel
theorem dX12_plain_63 : decode cX12_plain 63 = .ok (.iload_n 3, 1) := by decide +kernel
theorem dX12_plain_64 : decode cX12_plain 64 = .ok (.putfield 261, 3) := by decide +kernel
theorem dX12_plain_67 : decode cX12_plain 67 = .ok (.aload_n 0, 1) := by decide +kernel
theorem dX12_plain_68 : decode cX12_plain 68 = .ok (.iload_n 2, 1) := by decide +kernel
theorem dX12_plain_69 : decode cX12_plain 69 = .ok (.putfield 264, 3) := by decide +kernel
theorem dX12_plain_72 : decode cX12_plain 72 = .ok (.return_, 1) := by decide +kernel
theorem dX12_plain_73 : decode cX12_plain 73 = .ok (.iinc 3 1, 3) := by decide +kernel
theorem dX12_plain_76 : decode cX12_plain 76 = .ok (.goto (-67), 3) := by decide +kernel
theorem dX12_plain_79 : decode cX12_plain 79 = .ok (.aload_n 0, 1) := by decide +kernel
theorem dX12_plain_80 : decode cX12_plain 80 = .ok (.iload_n 2, 1) := by decide +kernel
theorem dX12_plain_81 : decode cX12_plain 81 = .ok (.iconst 1, 1) := by decide +kernel
theorem dX12_plain_82 : decode cX12_plain 82 = .ok (.iadd, 1) := by decide +kernel
theorem dX12_plain_83 : decode cX12_plain 83 = .ok (.putfield 276, 3) := by decide +kernel
theorem dX12_plain_86 : decode cX12_plain 86 = .ok (.iinc 2 1, 3) := by decide +kernel
theorem dX12_plain_89 : decode cX12_plain 89 = .ok (.goto (-87), 3) := by decide +kernel
theorem dX12_plain_92 : decode cX12_plain 92 = .ok (.return_, 1) := by decide +kernel
theorem dX12_laid_0 : decode cX12_laid 0 = .ok (.bipush 16, 2) := by decide +kernel
theorem dX12_laid_2 : decode cX12_laid 2 = .ok (.iload_n 1, 1) := by decide +kernel
theorem dX12_laid_3 : decode cX12_laid 3 = .ok (.imul, 1) := by decide +kernel
theorem dX12_laid_4 : decode cX12_laid 4 = .ok (.istore_n 2, 1) := by decide +kernel
theorem dX12_laid_5 : decode cX12_laid 5 = .ok (.iconst 0, 1) := by decide +kernel
theorem dX12_laid_6 : decode cX12_laid 6 = .ok (.istore_n 3, 1) := by decide +kernel
theorem dX12_laid_7 : decode cX12_laid 7 = .ok (.iconst 0, 1) := by decide +kernel
theorem dX12_laid_8 : decode cX12_laid 8 = .ok (.istore 4, 2) := by decide +kernel
theorem dX12_laid_10 : decode cX12_laid 10 = .ok (.iload 4, 2) := by decide +kernel
theorem dX12_laid_12 : decode cX12_laid 12 = .ok (.aload_n 0, 1) := by decide +kernel
theorem dX12_laid_13 : decode cX12_laid 13 = .ok (.getfield 118, 3) := by decide +kernel
theorem dX12_laid_16 : decode cX12_laid 16 = .ok (.if_icmp .ge 32, 3) := by decide +kernel
theorem dX12_laid_19 : decode cX12_laid 19 = .ok (.aload_n 0, 1) := by decide +kernel
theorem dX12_laid_20 : decode cX12_laid 20 = .ok (.getfield 87, 3) := by decide +kernel
theorem dX12_laid_23 : decode cX12_laid 23 = .ok (.iload 4, 2) := by decide +kernel
theorem dX12_laid_25 : decode cX12_laid 25 = .ok (.iaload, 1) := by decide +kernel
theorem dX12_laid_26 : decode cX12_laid 26 = .ok (.iload_n 3, 1) := by decide +kernel
theorem dX12_laid_27 : decode cX12_laid 27 = .ok (.if_icmp .le 13, 3) := by decide +kernel
theorem dX12_laid_30 : decode cX12_laid 30 = .ok (.aload_n 0, 1) := by decide +kernel
theorem dX12_laid_31 : decode cX12_laid 31 = .ok (.getfield 87, 3) := by decide +kernel
theorem dX12_laid_34 : decode cX12_laid 34 = .ok (.iload 4, 2) := by decide +kernel
theorem dX12_laid_36 : decode cX12_laid 36 = .ok (.iaload, 1) := by decide +kernel
theorem dX12_laid_37 : decode cX12_laid 37 = .ok (.goto 4, 3) := by decide +kernel
theorem dX12_laid_40 : decode cX12_laid 40 = .ok (.iload_n 3, 1) := by decide +kernel
theorem dX12_laid_41 : decode cX12_laid 41 = .ok (.istore_n 3, 1) := by decide +kernel
theorem dX12_laid_42 : decode cX12_laid 42 = .ok (.iinc 4 1, 3) := by decide +kernel
theorem dX12_laid_45 : decode cX12_laid 45 = .ok (.goto (-35), 3) := by decide +kernel
theorem dX12_laid_48 : decode cX12_laid 48 = .ok (.iconst 0, 1) := by decide +kernel
theorem dX12_laid_49 : decode cX12_laid 49 = .ok (.istore 4, 2) := by decide +kernel
theorem dX12_laid_51 : decode cX12_laid 51 = .ok (.iload 4, 2) := by decide +kernel
theorem dX12_laid_53 : decode cX12_laid 53 = .ok (.iload_n 3, 1) := by decide +kernel
theorem dX12_laid_54 : decode cX12_laid 54 = .ok (.aload_n 0, 1) := by decide +kernel
theorem dX12_laid_55 : decode cX12_laid 55 = .ok (.getfield 121, 3) := by decide +kernel
theorem dX12_laid_58 : decode cX12_laid 58 = .ok (.iload_n 1, 1) := by decide +kernel
theorem dX12_laid_59 : decode cX12_laid 59 = .ok (.iconst 1, 1) := by decide +kernel
theorem dX12_laid_60 : decode cX12_laid 60 = .ok (.isub, 1) := by decide +kernel
theorem dX12_laid_61 : decode cX12_laid 61 = .ok (.imul, 1) := by decide +kernel
theorem dX12_laid_62 : decode cX12_laid 62 = .ok (.iadd, 1) := by decide +kernel
theorem dX12_laid_63 : decode cX12_laid 63 = .ok (.if_icmp .gt 152, 3) := by decide +kernel
theorem dX12_laid_66 : decode cX12_laid 66 = .ok (.iconst 0, 1) := by decide +kernel
theorem dX12_laid_67 : decode cX12_laid 67 = .ok (.istore 5, 2) := by decide +kernel
theorem dX12_laid_69 : decode cX12_laid 69 = .ok (.iload 5, 2) := by decide +kernel
theorem dX12_laid_71 : decode cX12_laid 71 = .ok (.aload_n 0, 1) := by decide +kernel
theorem dX12_laid_72 : decode cX12_laid 72 = .ok (.getfield 118, 3) := by decide +kernel
theorem dX12_laid_75 : decode cX12_laid 75 = .ok (.if_icmp .ge 134, 3) := by decide +kernel
theorem dX12_laid_78 : decode cX12_laid 78 = .ok (.iload 4, 2) := by decide +kernel
theorem dX12_laid_80 : decode cX12_laid 80 = .ok (.aload_n 0, 1) := by decide +kernel
theorem dX12_laid_81 : decode cX12_laid 81 = .ok (.getfield 87, 3) := by decide +kernel
theorem dX12_laid_84 : decode cX12_laid 84 = .ok (.iload 5, 2) := by decide +kernel
theorem dX12_laid_86 : decode cX12_laid 86 = .ok (.iaload, 1) := by decide +kernel
theorem dX12_laid_87 : decode cX12_laid 87 = .ok (.isub, 1) := by decide +kernel
theorem dX12_laid_88 : decode cX12_laid 88 = .ok (.istore 6, 2) := by decide +kernel
theorem dX12_laid_90 : decode cX12_laid 90 = .ok (.iload 6, 2) := by decide +kernel
theorem dX12_laid_92 : decode cX12_laid 92 = .ok (.ifCond .lt 111, 3) := by decide +kernel
theorem dX12_laid_95 : decode cX12_laid 95 = .ok (.iload 6, 2) := by decide +kernel
theorem dX12_laid_97 : decode cX12_laid 97 = .ok (.aload_n 0, 1) := by decide +kernel
theorem dX12_laid_98 : decode cX12_laid 98 = .ok (.getfield 121, 3) := by decide +kernel
theorem dX12_laid_101 : decode cX12_laid 101 = .ok (.irem, 1) := by decide +kernel
theorem dX12_laid_102 : decode cX12_laid 102 = .ok (.ifCond .ne 101, 3) := by decide +kernel
theorem dX12_laid_105 : decode cX12_laid 105 = .ok (.bipush 16, 2) := by decide +kernel
theorem dX12_laid_107 : decode cX12_laid 107 = .ok (.iload 6, 2) := by decide +kernel
theorem dX12_laid_109 : decode cX12_laid 109 = .ok (.aload_n 0, 1) := by decide +kernel
theorem dX12_laid_110 : decode cX12_laid 110 = .ok (.getfield 121, 3) := by decide +kernel
theorem dX12_laid_113 : decode cX12_laid 113 = .ok (.idiv, 1) := by decide +kernel
theorem dX12_laid_114 : decode cX12_laid 114 = .ok (.imul, 1) := by decide +kernel
theorem dX12_laid_115 : decode cX12_laid 115 = .ok (.iload 5, 2) := by decide +kernel
theorem dX12_laid_117 : decode cX12_laid 117 = .ok (.iadd, 1) := by decide +kernel
theorem dX12_laid_118 : decode cX12_laid 118 = .ok (.iload_n 2, 1) := by decide +kernel
theorem dX12_laid_119 : decode cX12_laid 119 = .ok (.if_icmp .lt 6, 3) := by decide +kernel
theorem dX12_laid_122 : decode cX12_laid 122 = .ok (.goto 81, 3) := by decide +kernel
theorem dX12_laid_125 : decode cX12_laid 125 = .ok (.aload_n 0, 1) := by decide +kernel
theorem dX12_laid_126 : decode cX12_laid 126 = .ok (.dup, 1) := by decide +kernel
theorem dX12_laid_127 : decode cX12_laid 127 = .ok (.getfield 267, 3) := by decide +kernel
theorem dX12_laid_130 : decode cX12_laid 130 = .ok (.iconst 1, 1) := by decide +kernel
theorem dX12_laid_131 : decode cX12_laid 131 = .ok (.iadd, 1) := by decide +kernel
theorem dX12_laid_132 : decode cX12_laid 132 = .ok (.putfield 267, 3) := by decide +kernel
theorem dX12_laid_135 : decode cX12_laid 135 = .ok (.aload_n 0, 1) := by decide +kernel
theorem dX12_laid_136 : decode cX12_laid 136 = .ok (.iload 4, 2) := by decide +kernel
theorem dX12_laid_138 : decode cX12_laid 138 = .ok (.iconst 1, 1) := by decide +kernel
theorem dX12_laid_139 : decode cX12_laid 139 = .ok (.iadd, 1) := by decide +kernel
theorem dX12_laid_140 : decode cX12_laid 140 = .ok (.putfield 270, 3) := by decide +kernel
theorem dX12_laid_143 : decode cX12_laid 143 = .ok (.aload_n 0, 1) := by decide +kernel
theorem dX12_laid_144 : decode cX12_laid 144 = .ok (.iload 5, 2) := by decide +kernel
theorem dX12_laid_146 : decode cX12_laid 146 = .ok (.iload 6, 2) := by decide +kernel
theorem dX12_laid_148 : decode cX12_laid 148 = .ok (.aload_n 0, 1) := by decide +kernel
theorem dX12_laid_149 : decode cX12_laid 149 = .ok (.getfield 121, 3) := by decide +kernel
theorem dX12_laid_152 : decode cX12_laid 152 = .ok (.idiv, 1) := by decide +kernel
theorem dX12_laid_153 : decode cX12_laid 153 = .ok (.invokevirtual 283, 3) := by decide +kernel
theorem dX12_laid_156 : decode cX12_laid 156 = .ok (.istore 7, 2) := by decide +kernel
theorem dX12_laid_158 : decode cX12_laid 158 = .ok (.iload 7, 2) := by decide +kernel
theorem dX12_laid_160 : decode cX12_laid 160 = .ok (.ifCond .ne 6, 3) := by decide +kernel
theorem dX12_laid_163 : decode cX12_laid 163 = .ok (.goto 40, 3) := by decide +kernel
theorem dX12_laid_166 : decode cX12_laid 166 = .ok (.bipush 16, 2) := by decide +kernel
theorem dX12_laid_168 : decode cX12_laid 168 = .ok (.iload 6, 2) := by decide +kernel
theorem dX12_laid_170 : decode cX12_laid 170 = .ok (.aload_n 0, 1) := by decide +kernel
theorem dX12_laid_171 : decode cX12_laid 171 = .ok (.getfield 121, 3) := by decide +kernel
theorem dX12_laid_174 : decode cX12_laid 174 = .ok (.idiv, 1) := by decide +kernel
theorem dX12_laid_175 : decode cX12_laid 175 = .ok (.imul, 1) := by decide +kernel
theorem dX12_laid_176 : decode cX12_laid 176 = .ok (.iload 5, 2) := by decide +kernel
theorem dX12_laid_178 : decode cX12_laid 178 = .ok (.iadd, 1) := by decide +kernel
theorem dX12_laid_179 : decode cX12_laid 179 = .ok (.istore_n 2, 1) := by decide +kernel
theorem dX12_laid_180 : decode cX12_laid 180 = .ok (.aload_n 0, 1) := by decide +kernel
theorem dX12_laid_181 : decode cX12_laid 181 = .ok (.iload 7, 2) := by decide +kernel
theorem dX12_laid_183 : decode cX12_laid 183 = .ok (.putfield 258, 3) := by decide +kernel
theorem dX12_laid_186 : decode cX12_laid 186 = .ok (.aload_n 0, 1) := by decide +kernel
theorem dX12_laid_187 : decode cX12_laid 187 = .ok (.iload 5, 2) := by decide +kernel
theorem dX12_laid_189 : decode cX12_laid 189 = .ok (.putfield 261, 3) := by decide +kernel
theorem dX12_laid_192 : decode cX12_laid 192 = .ok (.aload_n 0, 1) := by decide +kernel
theorem dX12_laid_193 : decode cX12_laid 193 = .ok (.iload 6, 2) := by decide +kernel
theorem dX12_laid_195 : decode cX12_laid 195 = .ok (.aload_n 0, 1) := by decide +kernel
theorem dX12_laid_196 : decode cX12_laid 196 = .ok (.getfield 121, 3) := by decide +kernel
theorem dX12_laid_199 : decode cX12_laid 199 = .ok (.idiv, 1) := by decide +kernel
theorem dX12_laid_200 : decode cX12_laid 200 = .ok (.putfield 264, 3) := by decide +kernel
theorem dX12_laid_203 : decode cX12_laid 203 = .ok (.iinc 5 1, 3) := by decide +kernel
theorem dX12_laid_206 : decode cX12_laid 206 = .ok (.goto (-137), 3) := by decide +kernel
theorem dX12_laid_209 : decode cX12_laid 209 = .ok (.iinc 4 1, 3) := by decide +kernel
theorem dX12_laid_212 : decode cX12_laid 212 = .ok (.goto (-161), 3) := by decide +kernel
theorem dX12_laid_215 : decode cX12_laid 215 = .ok (.aload_n 0, 1) := by decide +kernel
theorem dX12_laid_216 : decode cX12_laid 216 = .ok (.aload_n 0, 1) := by decide +kernel
theorem dX12_laid_217 : decode cX12_laid 217 = .ok (.getfield 258, 3) := by decide +kernel
theorem dX12_laid_220 : decode cX12_laid 220 = .ok (.ifCond .ne 7, 3) := by decide +kernel
theorem dX12_laid_223 : decode cX12_laid 223 = .ok (.iload_n 1, 1) := by decide +kernel
theorem dX12_laid_224 : decode cX12_laid 224 = .ok (.goto 7, 3) := by decide +kernel
theorem dX12_laid_227 : decode cX12_laid 227 = .ok (.aload_n 0, 1) := by decide +kernel
theorem dX12_laid_228 : decode cX12_laid 228 = .ok (.getfield 264, 3) := by decide +kernel
theorem dX12_laid_231 : decode cX12_laid 231 = .ok (.putfield 276, 3) := by decide +kernel
theorem dX12_laid_234 : decode cX12_laid 234 = .ok (.return_, 1) := by decide +kernel
theorem dX12_whyNoRun_0 : decode cX12_whyNoRun 0 = .ok (.aload_n 0, 1) := by decide +kernel
theorem dX12_whyNoRun_1 : decode cX12_whyNoRun 1 = .ok (.invokevirtual 210, 3) := by decide +kernel
theorem dX12_whyNoRun_4 : decode cX12_whyNoRun 4 = .ok (.ifCond .eq 14, 3) := by decide +kernel
theorem dX12_whyNoRun_7 : decode cX12_whyNoRun 7 = .ok (.iload_n 2, 1) := by decide +kernel
theorem dX12_whyNoRun_8 : decode cX12_whyNoRun 8 = .ok (.ifCond .eq 13, 3) := by decide +kernel
theorem dX12_whyNoRun_11 : decode cX12_whyNoRun 11 = .ok (.aload_n 0, 1) := by decide +kernel
theorem dX12_whyNoRun_12 : decode cX12_whyNoRun 12 = .ok (.getfield 121, 3) := by decide +kernel
theorem dX12_whyNoRun_15 : decode cX12_whyNoRun 15 = .ok (.ifCond .ne 6, 3) := by decide +kernel
theorem dX12_whyNoRun_18 : decode cX12_whyNoRun 18 = .ok (.bipush (-2), 2) := by decide +kernel
theorem dX12_whyNoRun_20 : decode cX12_whyNoRun 20 = .ok (.ireturn, 1) := by decide +kernel
theorem dX12_whyNoRun_21 : decode cX12_whyNoRun 21 = .ok (.iload_n 1, 1) := by decide +kernel
theorem dX12_whyNoRun_22 : decode cX12_whyNoRun 22 = .ok (.ifCond .ge 6, 3) := by decide +kernel
theorem dX12_whyNoRun_25 : decode cX12_whyNoRun 25 = .ok (.bipush (-4), 2) := by decide +kernel
theorem dX12_whyNoRun_27 : decode cX12_whyNoRun 27 = .ok (.ireturn, 1) := by decide +kernel
theorem dX12_whyNoRun_28 : decode cX12_whyNoRun 28 = .ok (.iload_n 1, 1) := by decide +kernel
theorem dX12_whyNoRun_29 : decode cX12_whyNoRun 29 = .ok (.sipush 200, 3) := by decide +kernel
theorem dX12_whyNoRun_32 : decode cX12_whyNoRun 32 = .ok (.if_icmp .le 8, 3) := by decide +kernel
theorem dX12_whyNoRun_35 : decode cX12_whyNoRun 35 = .ok (.bipush (-9), 2) := by decide +kernel
theorem dX12_whyNoRun_37 : decode cX12_whyNoRun 37 = .ok (.goto 4, 3) := by decide +kernel
theorem dX12_whyNoRun_40 : decode cX12_whyNoRun 40 = .ok (.iconst 0, 1) := by decide +kernel
theorem dX12_whyNoRun_41 : decode cX12_whyNoRun 41 = .ok (.ireturn, 1) := by decide +kernel
theorem dX12_run_0 : decode cX12_run 0 = .ok (.aload_n 0, 1) := by decide +kernel
theorem dX12_run_1 : decode cX12_run 1 = .ok (.iload_n 1, 1) := by decide +kernel
theorem dX12_run_2 : decode cX12_run 2 = .ok (.iload_n 2, 1) := by decide +kernel
theorem dX12_run_3 : decode cX12_run 3 = .ok (.invokevirtual 286, 3) := by decide +kernel
theorem dX12_run_6 : decode cX12_run 6 = .ok (.istore_n 3, 1) := by decide +kernel
theorem dX12_run_7 : decode cX12_run 7 = .ok (.iload_n 3, 1) := by decide +kernel
theorem dX12_run_8 : decode cX12_run 8 = .ok (.ifCond .eq 9, 3) := by decide +kernel
theorem dX12_run_11 : decode cX12_run 11 = .ok (.aload_n 0, 1) := by decide +kernel
theorem dX12_run_12 : decode cX12_run 12 = .ok (.iload_n 3, 1) := by decide +kernel
theorem dX12_run_13 : decode cX12_run 13 = .ok (.invokevirtual 124, 3) := by decide +kernel
theorem dX12_run_16 : decode cX12_run 16 = .ok (.ireturn, 1) := by decide +kernel
theorem dX12_run_17 : decode cX12_run 17 = .ok (.aload_n 0, 1) := by decide +kernel
theorem dX12_run_18 : decode cX12_run 18 = .ok (.invokevirtual 108, 3) := by decide +kernel
theorem dX12_run_21 : decode cX12_run 21 = .ok (.iload_n 2, 1) := by decide +kernel
theorem dX12_run_22 : decode cX12_run 22 = .ok (.ifCond .eq 16, 3) := by decide +kernel
theorem dX12_run_25 : decode cX12_run 25 = .ok (.iload_n 1, 1) := by decide +kernel
theorem dX12_run_26 : decode cX12_run 26 = .ok (.aload_n 0, 1) := by decide +kernel
theorem dX12_run_27 : decode cX12_run 27 = .ok (.iconst 1, 1) := by decide +kernel
theorem dX12_run_28 : decode cX12_run 28 = .ok (.invokevirtual 290, 3) := by decide +kernel
theorem dX12_run_31 : decode cX12_run 31 = .ok (.if_icmp .lt 7, 3) := by decide +kernel
theorem dX12_run_34 : decode cX12_run 34 = .ok (.iconst 1, 1) := by decide +kernel
theorem dX12_run_35 : decode cX12_run 35 = .ok (.goto 4, 3) := by decide +kernel
theorem dX12_run_38 : decode cX12_run 38 = .ok (.iconst 0, 1) := by decide +kernel
theorem dX12_run_39 : decode cX12_run 39 = .ok (.istore 4, 2) := by decide +kernel
theorem dX12_run_41 : decode cX12_run 41 = .ok (.iload 4, 2) := by decide +kernel
theorem dX12_run_43 : decode cX12_run 43 = .ok (.ifCond .eq 11, 3) := by decide +kernel
theorem dX12_run_46 : decode cX12_run 46 = .ok (.aload_n 0, 1) := by decide +kernel
theorem dX12_run_47 : decode cX12_run 47 = .ok (.iload_n 1, 1) := by decide +kernel
theorem dX12_run_48 : decode cX12_run 48 = .ok (.invokevirtual 293, 3) := by decide +kernel
theorem dX12_run_51 : decode cX12_run 51 = .ok (.goto 8, 3) := by decide +kernel
theorem dX12_run_54 : decode cX12_run 54 = .ok (.aload_n 0, 1) := by decide +kernel
theorem dX12_run_55 : decode cX12_run 55 = .ok (.iload_n 1, 1) := by decide +kernel
theorem dX12_run_56 : decode cX12_run 56 = .ok (.invokevirtual 297, 3) := by decide +kernel
theorem dX12_run_59 : decode cX12_run 59 = .ok (.aload_n 0, 1) := by decide +kernel
theorem dX12_run_60 : decode cX12_run 60 = .ok (.iload 4, 2) := by decide +kernel
theorem dX12_run_62 : decode cX12_run 62 = .ok (.ifCond .eq 7, 3) := by decide +kernel
theorem dX12_run_65 : decode cX12_run 65 = .ok (.iconst 1, 1) := by decide +kernel
theorem dX12_run_66 : decode cX12_run 66 = .ok (.goto 4, 3) := by decide +kernel
theorem dX12_run_69 : decode cX12_run 69 = .ok (.iconst 0, 1) := by decide +kernel
theorem dX12_run_70 : decode cX12_run 70 = .ok (.putfield 273, 3) := by decide +kernel
theorem dX12_run_73 : decode cX12_run 73 = .ok (.aload_n 0, 1) := by decide +kernel
theorem dX12_run_74 : decode cX12_run 74 = .ok (.getfield 276, 3) := by decide +kernel
theorem dX12_run_77 : decode cX12_run 77 = .ok (.ireturn, 1) := by decide +kernel
theorem dX12_compare_0 : decode cX12_compare 0 = .ok (.aload_n 0, 1) := by decide +kernel
theorem dX12_compare_1 : decode cX12_compare 1 = .ok (.iload_n 1, 1) := by decide +kernel
theorem dX12_compare_2 : decode cX12_compare 2 = .ok (.iconst 1, 1) := by decide +kernel
theorem dX12_compare_3 : decode cX12_compare 3 = .ok (.invokevirtual 286, 3) := by decide +kernel
theorem dX12_compare_6 : decode cX12_compare 6 = .ok (.istore_n 2, 1) := by decide +kernel
theorem dX12_compare_7 : decode cX12_compare 7 = .ok (.iload_n 2, 1) := by decide +kernel
theorem dX12_compare_8 : decode cX12_compare 8 = .ok (.ifCond .eq 11, 3) := by decide +kernel
theorem dX12_compare_11 : decode cX12_compare 11 = .ok (.aload_n 0, 1) := by decide +kernel
theorem dX12_compare_12 : decode cX12_compare 12 = .ok (.iload_n 2, 1) := by decide +kernel
theorem dX12_compare_13 : decode cX12_compare 13 = .ok (.invokevirtual 124, 3) := by decide +kernel
theorem dX12_compare_16 : decode cX12_compare 16 = .ok (.goto 4, 3) := by decide +kernel
theorem dX12_compare_19 : decode cX12_compare 19 = .ok (.iconst 1, 1) := by decide +kernel
theorem dX12_compare_20 : decode cX12_compare 20 = .ok (.ireturn, 1) := by decide +kernel
theorem dX12_told_0 : decode cX12_told 0 = .ok (.iload_n 1, 1) := by decide +kernel
theorem dX12_told_1 : decode cX12_told 1 = .ok (.tableswitch 69 0 5 #[39, 44, 49, 54, 59, 64], 39) := by decide +kernel
theorem dX12_told_40 : decode cX12_told 40 = .ok (.aload_n 0, 1) := by decide +kernel
theorem dX12_told_41 : decode cX12_told 41 = .ok (.getfield 258, 3) := by decide +kernel
theorem dX12_told_44 : decode cX12_told 44 = .ok (.ireturn, 1) := by decide +kernel
theorem dX12_told_45 : decode cX12_told 45 = .ok (.aload_n 0, 1) := by decide +kernel
theorem dX12_told_46 : decode cX12_told 46 = .ok (.getfield 261, 3) := by decide +kernel
theorem dX12_told_49 : decode cX12_told 49 = .ok (.ireturn, 1) := by decide +kernel
theorem dX12_told_50 : decode cX12_told 50 = .ok (.aload_n 0, 1) := by decide +kernel
theorem dX12_told_51 : decode cX12_told 51 = .ok (.getfield 264, 3) := by decide +kernel
theorem dX12_told_54 : decode cX12_told 54 = .ok (.ireturn, 1) := by decide +kernel
theorem dX12_told_55 : decode cX12_told 55 = .ok (.aload_n 0, 1) := by decide +kernel
theorem dX12_told_56 : decode cX12_told 56 = .ok (.getfield 267, 3) := by decide +kernel
theorem dX12_told_59 : decode cX12_told 59 = .ok (.ireturn, 1) := by decide +kernel
theorem dX12_told_60 : decode cX12_told 60 = .ok (.aload_n 0, 1) := by decide +kernel
theorem dX12_told_61 : decode cX12_told 61 = .ok (.getfield 270, 3) := by decide +kernel
theorem dX12_told_64 : decode cX12_told 64 = .ok (.ireturn, 1) := by decide +kernel
theorem dX12_told_65 : decode cX12_told 65 = .ok (.aload_n 0, 1) := by decide +kernel
theorem dX12_told_66 : decode cX12_told 66 = .ok (.getfield 273, 3) := by decide +kernel
theorem dX12_told_69 : decode cX12_told 69 = .ok (.ireturn, 1) := by decide +kernel
theorem dX12_told_70 : decode cX12_told 70 = .ok (.aload_n 0, 1) := by decide +kernel
theorem dX12_told_71 : decode cX12_told 71 = .ok (.bipush (-9), 2) := by decide +kernel
theorem dX12_told_73 : decode cX12_told 73 = .ok (.invokevirtual 124, 3) := by decide +kernel
theorem dX12_told_76 : decode cX12_told 76 = .ok (.ireturn, 1) := by decide +kernel
theorem dX12_end_0 : decode cX12_end 0 = .ok (.aload_n 0, 1) := by decide +kernel
theorem dX12_end_1 : decode cX12_end 1 = .ok (.iload_n 1, 1) := by decide +kernel
theorem dX12_end_2 : decode cX12_end 2 = .ok (.invokevirtual 159, 3) := by decide +kernel
theorem dX12_end_5 : decode cX12_end 5 = .ok (.ifCond .eq 36, 3) := by decide +kernel
theorem dX12_end_8 : decode cX12_end 8 = .ok (.aload_n 0, 1) := by decide +kernel
theorem dX12_end_9 : decode cX12_end 9 = .ok (.getfield 276, 3) := by decide +kernel
theorem dX12_end_12 : decode cX12_end 12 = .ok (.ifCond .ne 12, 3) := by decide +kernel
theorem dX12_end_15 : decode cX12_end 15 = .ok (.aload_n 0, 1) := by decide +kernel
theorem dX12_end_16 : decode cX12_end 16 = .ok (.getfield 31, 3) := by decide +kernel
theorem dX12_end_19 : decode cX12_end 19 = .ok (.iload_n 1, 1) := by decide +kernel
theorem dX12_end_20 : decode cX12_end 20 = .ok (.laload, 1) := by decide +kernel
theorem dX12_end_21 : decode cX12_end 21 = .ok (.goto 19, 3) := by decide +kernel
theorem dX12_end_24 : decode cX12_end 24 = .ok (.aload_n 0, 1) := by decide +kernel
theorem dX12_end_25 : decode cX12_end 25 = .ok (.getfield 105, 3) := by decide +kernel
theorem dX12_end_28 : decode cX12_end 28 = .ok (.bipush 16, 2) := by decide +kernel
theorem dX12_end_30 : decode cX12_end 30 = .ok (.aload_n 0, 1) := by decide +kernel
theorem dX12_end_31 : decode cX12_end 31 = .ok (.getfield 276, 3) := by decide +kernel
theorem dX12_end_34 : decode cX12_end 34 = .ok (.iconst 1, 1) := by decide +kernel
theorem dX12_end_35 : decode cX12_end 35 = .ok (.isub, 1) := by decide +kernel
theorem dX12_end_36 : decode cX12_end 36 = .ok (.imul, 1) := by decide +kernel
theorem dX12_end_37 : decode cX12_end 37 = .ok (.iload_n 1, 1) := by decide +kernel
theorem dX12_end_38 : decode cX12_end 38 = .ok (.iadd, 1) := by decide +kernel
theorem dX12_end_39 : decode cX12_end 39 = .ok (.laload, 1) := by decide +kernel
theorem dX12_end_40 : decode cX12_end 40 = .ok (.lreturn, 1) := by decide +kernel
theorem dX12_end_41 : decode cX12_end 41 = .ok (.aload_n 0, 1) := by decide +kernel
theorem dX12_end_42 : decode cX12_end 42 = .ok (.bipush (-3), 2) := by decide +kernel
theorem dX12_end_44 : decode cX12_end 44 = .ok (.invokevirtual 124, 3) := by decide +kernel
theorem dX12_end_47 : decode cX12_end 47 = .ok (.istore_n 2, 1) := by decide +kernel
theorem dX12_end_48 : decode cX12_end 48 = .ok (.lconst 0, 1) := by decide +kernel
theorem dX12_end_49 : decode cX12_end 49 = .ok (.lreturn, 1) := by decide +kernel
theorem dX12_again_0 : decode cX12_again 0 = .ok (.aload_n 0, 1) := by decide +kernel
theorem dX12_again_1 : decode cX12_again 1 = .ok (.getfield 114, 3) := by decide +kernel
theorem dX12_again_4 : decode cX12_again 4 = .ok (.ifCond .ne 6, 3) := by decide +kernel
theorem dX12_again_7 : decode cX12_again 7 = .ok (.bipush (-7), 2) := by decide +kernel
theorem dX12_again_9 : decode cX12_again 9 = .ok (.ireturn, 1) := by decide +kernel
theorem dX12_again_10 : decode cX12_again 10 = .ok (.aload_n 0, 1) := by decide +kernel
theorem dX12_again_11 : decode cX12_again 11 = .ok (.getfield 114, 3) := by decide +kernel
theorem dX12_again_14 : decode cX12_again 14 = .ok (.istore_n 1, 1) := by decide +kernel
theorem dX12_again_15 : decode cX12_again 15 = .ok (.aload_n 0, 1) := by decide +kernel
theorem dX12_again_16 : decode cX12_again 16 = .ok (.iconst 0, 1) := by decide +kernel
theorem dX12_again_17 : decode cX12_again 17 = .ok (.putfield 114, 3) := by decide +kernel
theorem dX12_again_20 : decode cX12_again 20 = .ok (.iload_n 1, 1) := by decide +kernel
theorem dX12_again_21 : decode cX12_again 21 = .ok (.ireturn, 1) := by decide +kernel
theorem dX12_status_0 : decode cX12_status 0 = .ok (.iload_n 1, 1) := by decide +kernel
theorem dX12_status_1 : decode cX12_status 1 = .ok (.i2l, 1) := by decide +kernel
theorem dX12_status_2 : decode cX12_status 2 = .ok (.ldc2_w 300, 3) := by decide +kernel
theorem dX12_status_5 : decode cX12_status 5 = .ok (.ldc2_w 302, 3) := by decide +kernel
theorem dX12_status_8 : decode cX12_status 8 = .ok (.invokestatic 137, 3) := by decide +kernel
theorem dX12_status_11 : decode cX12_status 11 = .ok (.ifCond .eq 13, 3) := by decide +kernel
theorem dX12_status_14 : decode cX12_status 14 = .ok (.aload_n 0, 1) := by decide +kernel
theorem dX12_status_15 : decode cX12_status 15 = .ok (.getfield 78, 3) := by decide +kernel
theorem dX12_status_18 : decode cX12_status 18 = .ok (.iload_n 1, 1) := by decide +kernel
theorem dX12_status_19 : decode cX12_status 19 = .ok (.ineg, 1) := by decide +kernel
theorem dX12_status_20 : decode cX12_status 20 = .ok (.iaload, 1) := by decide +kernel
theorem dX12_status_21 : decode cX12_status 21 = .ok (.goto 9, 3) := by decide +kernel
theorem dX12_status_24 : decode cX12_status 24 = .ok (.aload_n 0, 1) := by decide +kernel
theorem dX12_status_25 : decode cX12_status 25 = .ok (.bipush (-9), 2) := by decide +kernel
theorem dX12_status_27 : decode cX12_status 27 = .ok (.invokevirtual 124, 3) := by decide +kernel
theorem dX12_status_30 : decode cX12_status 30 = .ok (.ireturn, 1) := by decide +kernel
theorem dJ6_bitCount_0f7a4_0 : decode cJ6_bitCount_0f7a4 0 = .ok (.iload_n 0, 1) := by decide +kernel
theorem dJ6_bitCount_0f7a4_1 : decode cJ6_bitCount_0f7a4 1 = .ok (.iload_n 0, 1) := by decide +kernel
theorem dJ6_bitCount_0f7a4_2 : decode cJ6_bitCount_0f7a4 2 = .ok (.iconst 1, 1) := by decide +kernel
theorem dJ6_bitCount_0f7a4_3 : decode cJ6_bitCount_0f7a4 3 = .ok (.iushr, 1) := by decide +kernel
theorem dJ6_bitCount_0f7a4_4 : decode cJ6_bitCount_0f7a4 4 = .ok (.ldc_w 265, 3) := by decide +kernel
theorem dJ6_bitCount_0f7a4_7 : decode cJ6_bitCount_0f7a4 7 = .ok (.iand, 1) := by decide +kernel
theorem dJ6_bitCount_0f7a4_8 : decode cJ6_bitCount_0f7a4 8 = .ok (.isub, 1) := by decide +kernel
theorem dJ6_bitCount_0f7a4_9 : decode cJ6_bitCount_0f7a4 9 = .ok (.istore_n 0, 1) := by decide +kernel
theorem dJ6_bitCount_0f7a4_10 : decode cJ6_bitCount_0f7a4 10 = .ok (.iload_n 0, 1) := by decide +kernel
theorem dJ6_bitCount_0f7a4_11 : decode cJ6_bitCount_0f7a4 11 = .ok (.ldc_w 266, 3) := by decide +kernel
theorem dJ6_bitCount_0f7a4_14 : decode cJ6_bitCount_0f7a4 14 = .ok (.iand, 1) := by decide +kernel
theorem dJ6_bitCount_0f7a4_15 : decode cJ6_bitCount_0f7a4 15 = .ok (.iload_n 0, 1) := by decide +kernel
theorem dJ6_bitCount_0f7a4_16 : decode cJ6_bitCount_0f7a4 16 = .ok (.iconst 2, 1) := by decide +kernel
theorem dJ6_bitCount_0f7a4_17 : decode cJ6_bitCount_0f7a4 17 = .ok (.iushr, 1) := by decide +kernel
theorem dJ6_bitCount_0f7a4_18 : decode cJ6_bitCount_0f7a4 18 = .ok (.ldc_w 266, 3) := by decide +kernel
theorem dJ6_bitCount_0f7a4_21 : decode cJ6_bitCount_0f7a4 21 = .ok (.iand, 1) := by decide +kernel
theorem dJ6_bitCount_0f7a4_22 : decode cJ6_bitCount_0f7a4 22 = .ok (.iadd, 1) := by decide +kernel
theorem dJ6_bitCount_0f7a4_23 : decode cJ6_bitCount_0f7a4 23 = .ok (.istore_n 0, 1) := by decide +kernel
theorem dJ6_bitCount_0f7a4_24 : decode cJ6_bitCount_0f7a4 24 = .ok (.iload_n 0, 1) := by decide +kernel
theorem dJ6_bitCount_0f7a4_25 : decode cJ6_bitCount_0f7a4 25 = .ok (.iload_n 0, 1) := by decide +kernel
theorem dJ6_bitCount_0f7a4_26 : decode cJ6_bitCount_0f7a4 26 = .ok (.iconst 4, 1) := by decide +kernel
theorem dJ6_bitCount_0f7a4_27 : decode cJ6_bitCount_0f7a4 27 = .ok (.iushr, 1) := by decide +kernel
theorem dJ6_bitCount_0f7a4_28 : decode cJ6_bitCount_0f7a4 28 = .ok (.iadd, 1) := by decide +kernel
theorem dJ6_bitCount_0f7a4_29 : decode cJ6_bitCount_0f7a4 29 = .ok (.ldc_w 267, 3) := by decide +kernel
theorem dJ6_bitCount_0f7a4_32 : decode cJ6_bitCount_0f7a4 32 = .ok (.iand, 1) := by decide +kernel
theorem dJ6_bitCount_0f7a4_33 : decode cJ6_bitCount_0f7a4 33 = .ok (.istore_n 0, 1) := by decide +kernel
theorem dJ6_bitCount_0f7a4_34 : decode cJ6_bitCount_0f7a4 34 = .ok (.iload_n 0, 1) := by decide +kernel
theorem dJ6_bitCount_0f7a4_35 : decode cJ6_bitCount_0f7a4 35 = .ok (.iload_n 0, 1) := by decide +kernel
theorem dJ6_bitCount_0f7a4_36 : decode cJ6_bitCount_0f7a4 36 = .ok (.bipush 8, 2) := by decide +kernel
theorem dJ6_bitCount_0f7a4_38 : decode cJ6_bitCount_0f7a4 38 = .ok (.iushr, 1) := by decide +kernel
theorem dJ6_bitCount_0f7a4_39 : decode cJ6_bitCount_0f7a4 39 = .ok (.iadd, 1) := by decide +kernel
theorem dJ6_bitCount_0f7a4_40 : decode cJ6_bitCount_0f7a4 40 = .ok (.istore_n 0, 1) := by decide +kernel
theorem dJ6_bitCount_0f7a4_41 : decode cJ6_bitCount_0f7a4 41 = .ok (.iload_n 0, 1) := by decide +kernel
theorem dJ6_bitCount_0f7a4_42 : decode cJ6_bitCount_0f7a4 42 = .ok (.iload_n 0, 1) := by decide +kernel
theorem dJ6_bitCount_0f7a4_43 : decode cJ6_bitCount_0f7a4 43 = .ok (.bipush 16, 2) := by decide +kernel
theorem dJ6_bitCount_0f7a4_45 : decode cJ6_bitCount_0f7a4 45 = .ok (.iushr, 1) := by decide +kernel
theorem dJ6_bitCount_0f7a4_46 : decode cJ6_bitCount_0f7a4 46 = .ok (.iadd, 1) := by decide +kernel
theorem dJ6_bitCount_0f7a4_47 : decode cJ6_bitCount_0f7a4 47 = .ok (.istore_n 0, 1) := by decide +kernel
theorem dJ6_bitCount_0f7a4_48 : decode cJ6_bitCount_0f7a4 48 = .ok (.iload_n 0, 1) := by decide +kernel
theorem dJ6_bitCount_0f7a4_49 : decode cJ6_bitCount_0f7a4 49 = .ok (.bipush 63, 2) := by decide +kernel
theorem dJ6_bitCount_0f7a4_51 : decode cJ6_bitCount_0f7a4 51 = .ok (.iand, 1) := by decide +kernel
theorem dJ6_bitCount_0f7a4_52 : decode cJ6_bitCount_0f7a4 52 = .ok (.ireturn, 1) := by decide +kernel
theorem dJ9_floorDiv_7cf53_0 : decode cJ9_floorDiv_7cf53 0 = .ok (.iload_n 0, 1) := by decide +kernel
theorem dJ9_floorDiv_7cf53_1 : decode cJ9_floorDiv_7cf53 1 = .ok (.iload_n 1, 1) := by decide +kernel
theorem dJ9_floorDiv_7cf53_2 : decode cJ9_floorDiv_7cf53 2 = .ok (.idiv, 1) := by decide +kernel
theorem dJ9_floorDiv_7cf53_3 : decode cJ9_floorDiv_7cf53 3 = .ok (.istore_n 2, 1) := by decide +kernel
theorem dJ9_floorDiv_7cf53_4 : decode cJ9_floorDiv_7cf53 4 = .ok (.iload_n 0, 1) := by decide +kernel
theorem dJ9_floorDiv_7cf53_5 : decode cJ9_floorDiv_7cf53 5 = .ok (.iload_n 1, 1) := by decide +kernel
theorem dJ9_floorDiv_7cf53_6 : decode cJ9_floorDiv_7cf53 6 = .ok (.ixor, 1) := by decide +kernel
theorem dJ9_floorDiv_7cf53_7 : decode cJ9_floorDiv_7cf53 7 = .ok (.ifCond .ge 14, 3) := by decide +kernel
theorem dJ9_floorDiv_7cf53_10 : decode cJ9_floorDiv_7cf53 10 = .ok (.iload_n 2, 1) := by decide +kernel
theorem dJ9_floorDiv_7cf53_11 : decode cJ9_floorDiv_7cf53 11 = .ok (.iload_n 1, 1) := by decide +kernel
theorem dJ9_floorDiv_7cf53_12 : decode cJ9_floorDiv_7cf53 12 = .ok (.imul, 1) := by decide +kernel
theorem dJ9_floorDiv_7cf53_13 : decode cJ9_floorDiv_7cf53 13 = .ok (.iload_n 0, 1) := by decide +kernel
theorem dJ9_floorDiv_7cf53_14 : decode cJ9_floorDiv_7cf53 14 = .ok (.if_icmp .eq 7, 3) := by decide +kernel
theorem dJ9_floorDiv_7cf53_17 : decode cJ9_floorDiv_7cf53 17 = .ok (.iload_n 2, 1) := by decide +kernel
theorem dJ9_floorDiv_7cf53_18 : decode cJ9_floorDiv_7cf53 18 = .ok (.iconst 1, 1) := by decide +kernel
theorem dJ9_floorDiv_7cf53_19 : decode cJ9_floorDiv_7cf53 19 = .ok (.isub, 1) := by decide +kernel
theorem dJ9_floorDiv_7cf53_20 : decode cJ9_floorDiv_7cf53 20 = .ok (.ireturn, 1) := by decide +kernel
theorem dJ9_floorDiv_7cf53_21 : decode cJ9_floorDiv_7cf53 21 = .ok (.iload_n 2, 1) := by decide +kernel
theorem dJ9_floorDiv_7cf53_22 : decode cJ9_floorDiv_7cf53 22 = .ok (.ireturn, 1) := by decide +kernel
theorem dJ9_max_7cf53_0 : decode cJ9_max_7cf53 0 = .ok (.iload_n 0, 1) := by decide +kernel
theorem dJ9_max_7cf53_1 : decode cJ9_max_7cf53 1 = .ok (.iload_n 1, 1) := by decide +kernel
theorem dJ9_max_7cf53_2 : decode cJ9_max_7cf53 2 = .ok (.if_icmp .lt 7, 3) := by decide +kernel
theorem dJ9_max_7cf53_5 : decode cJ9_max_7cf53 5 = .ok (.iload_n 0, 1) := by decide +kernel
theorem dJ9_max_7cf53_6 : decode cJ9_max_7cf53 6 = .ok (.goto 4, 3) := by decide +kernel
theorem dJ9_max_7cf53_9 : decode cJ9_max_7cf53 9 = .ok (.iload_n 1, 1) := by decide +kernel
theorem dJ9_max_7cf53_10 : decode cJ9_max_7cf53 10 = .ok (.ireturn, 1) := by decide +kernel
theorem dJ7_fill_53178_0 : decode cJ7_fill_53178 0 = .ok (.iconst 0, 1) := by decide +kernel
theorem dJ7_fill_53178_1 : decode cJ7_fill_53178 1 = .ok (.istore_n 2, 1) := by decide +kernel
theorem dJ7_fill_53178_2 : decode cJ7_fill_53178 2 = .ok (.aload_n 0, 1) := by decide +kernel
theorem dJ7_fill_53178_3 : decode cJ7_fill_53178 3 = .ok (.arraylength, 1) := by decide +kernel
theorem dJ7_fill_53178_4 : decode cJ7_fill_53178 4 = .ok (.istore_n 3, 1) := by decide +kernel
theorem dJ7_fill_53178_5 : decode cJ7_fill_53178 5 = .ok (.iload_n 2, 1) := by decide +kernel
theorem dJ7_fill_53178_6 : decode cJ7_fill_53178 6 = .ok (.iload_n 3, 1) := by decide +kernel
theorem dJ7_fill_53178_7 : decode cJ7_fill_53178 7 = .ok (.if_icmp .ge 13, 3) := by decide +kernel
theorem dJ7_fill_53178_10 : decode cJ7_fill_53178 10 = .ok (.aload_n 0, 1) := by decide +kernel
theorem dJ7_fill_53178_11 : decode cJ7_fill_53178 11 = .ok (.iload_n 2, 1) := by decide +kernel
theorem dJ7_fill_53178_12 : decode cJ7_fill_53178 12 = .ok (.iload_n 1, 1) := by decide +kernel
theorem dJ7_fill_53178_13 : decode cJ7_fill_53178 13 = .ok (.iastore, 1) := by decide +kernel
theorem dJ7_fill_53178_14 : decode cJ7_fill_53178 14 = .ok (.iinc 2 1, 3) := by decide +kernel
theorem dJ7_fill_53178_17 : decode cJ7_fill_53178 17 = .ok (.goto (-12), 3) := by decide +kernel
theorem dJ7_fill_53178_20 : decode cJ7_fill_53178 20 = .ok (.return_, 1) := by decide +kernel
theorem dL_law_0 : decode cL_law 0 = .ok (.new 7, 3) := by decide +kernel
theorem dL_law_3 : decode cL_law 3 = .ok (.dup, 1) := by decide +kernel
theorem dL_law_4 : decode cL_law 4 = .ok (.invokespecial 9, 3) := by decide +kernel
theorem dL_law_7 : decode cL_law 7 = .ok (.astore_n 1, 1) := by decide +kernel
theorem dL_law_8 : decode cL_law 8 = .ok (.new 10, 3) := by decide +kernel
theorem dL_law_11 : decode cL_law 11 = .ok (.dup, 1) := by decide +kernel
theorem dL_law_12 : decode cL_law 12 = .ok (.invokespecial 12, 3) := by decide +kernel
theorem dL_law_15 : decode cL_law 15 = .ok (.astore_n 2, 1) := by decide +kernel
theorem dL_law_16 : decode cL_law 16 = .ok (.iconst 0, 1) := by decide +kernel
theorem dL_law_17 : decode cL_law 17 = .ok (.istore_n 3, 1) := by decide +kernel
theorem dL_law_18 : decode cL_law 18 = .ok (.iload_n 3, 1) := by decide +kernel
theorem dL_law_19 : decode cL_law 19 = .ok (.aload_n 0, 1) := by decide +kernel
theorem dL_law_20 : decode cL_law 20 = .ok (.arraylength, 1) := by decide +kernel
theorem dL_law_21 : decode cL_law 21 = .ok (.bipush 6, 2) := by decide +kernel
theorem dL_law_23 : decode cL_law 23 = .ok (.isub, 1) := by decide +kernel
theorem dL_law_24 : decode cL_law 24 = .ok (.if_icmp .gt 1434, 3) := by decide +kernel
theorem dL_law_27 : decode cL_law 27 = .ok (.aload_n 0, 1) := by decide +kernel
theorem dL_law_28 : decode cL_law 28 = .ok (.iload_n 3, 1) := by decide +kernel
theorem dL_law_29 : decode cL_law 29 = .ok (.iaload, 1) := by decide +kernel
theorem dL_law_30 : decode cL_law 30 = .ok (.bipush 63, 2) := by decide +kernel
theorem dL_law_32 : decode cL_law 32 = .ok (.iand, 1) := by decide +kernel
theorem dL_law_33 : decode cL_law 33 = .ok (.tableswitch 1419 0 36 #[163, 216, 279, 322, 385, 438, 491, 554, 587, 640, 653, 686, 710, 733, 746, 805, 828, 901, 935, 998, 1011, 1024, 1047, 1060, 1083, 1116, 1149, 1172, 1195, 1228, 1241, 1264, 1313, 1336, 1359, 1383, 1396], 163) := by decide +kernel
theorem dL_law_196 : decode cL_law 196 = .ok (.aload_n 1, 1) := by decide +kernel
theorem dL_law_197 : decode cL_law 197 = .ok (.aload_n 0, 1) := by decide +kernel
theorem dL_law_198 : decode cL_law 198 = .ok (.iload_n 3, 1) := by decide +kernel
theorem dL_law_199 : decode cL_law 199 = .ok (.iconst 1, 1) := by decide +kernel
theorem dL_law_200 : decode cL_law 200 = .ok (.iadd, 1) := by decide +kernel
theorem dL_law_201 : decode cL_law 201 = .ok (.iaload, 1) := by decide +kernel
theorem dL_law_202 : decode cL_law 202 = .ok (.i2l, 1) := by decide +kernel
theorem dL_law_203 : decode cL_law 203 = .ok (.bipush 32, 2) := by decide +kernel
theorem dL_law_205 : decode cL_law 205 = .ok (.lshl, 1) := by decide +kernel
theorem dL_law_206 : decode cL_law 206 = .ok (.aload_n 0, 1) := by decide +kernel
theorem dL_law_207 : decode cL_law 207 = .ok (.iload_n 3, 1) := by decide +kernel
theorem dL_law_208 : decode cL_law 208 = .ok (.iconst 2, 1) := by decide +kernel
theorem dL_law_209 : decode cL_law 209 = .ok (.iadd, 1) := by decide +kernel
theorem dL_law_210 : decode cL_law 210 = .ok (.iaload, 1) := by decide +kernel
theorem dL_law_211 : decode cL_law 211 = .ok (.i2l, 1) := by decide +kernel
theorem dL_law_212 : decode cL_law 212 = .ok (.ldc2_w 13, 3) := by decide +kernel
theorem dL_law_215 : decode cL_law 215 = .ok (.land, 1) := by decide +kernel
theorem dL_law_216 : decode cL_law 216 = .ok (.lor, 1) := by decide +kernel
theorem dL_law_217 : decode cL_law 217 = .ok (.invokevirtual 15, 3) := by decide +kernel
theorem dL_law_220 : decode cL_law 220 = .ok (.aload_n 2, 1) := by decide +kernel
theorem dL_law_221 : decode cL_law 221 = .ok (.aload_n 0, 1) := by decide +kernel
theorem dL_law_222 : decode cL_law 222 = .ok (.iload_n 3, 1) := by decide +kernel
theorem dL_law_223 : decode cL_law 223 = .ok (.iconst 1, 1) := by decide +kernel
theorem dL_law_224 : decode cL_law 224 = .ok (.iadd, 1) := by decide +kernel
theorem dL_law_225 : decode cL_law 225 = .ok (.iaload, 1) := by decide +kernel
theorem dL_law_226 : decode cL_law 226 = .ok (.i2l, 1) := by decide +kernel
theorem dL_law_227 : decode cL_law 227 = .ok (.bipush 32, 2) := by decide +kernel
theorem dL_law_229 : decode cL_law 229 = .ok (.lshl, 1) := by decide +kernel
theorem dL_law_230 : decode cL_law 230 = .ok (.aload_n 0, 1) := by decide +kernel
theorem dL_law_231 : decode cL_law 231 = .ok (.iload_n 3, 1) := by decide +kernel
theorem dL_law_232 : decode cL_law 232 = .ok (.iconst 2, 1) := by decide +kernel
theorem dL_law_233 : decode cL_law 233 = .ok (.iadd, 1) := by decide +kernel
theorem dL_law_234 : decode cL_law 234 = .ok (.iaload, 1) := by decide +kernel
theorem dL_law_235 : decode cL_law 235 = .ok (.i2l, 1) := by decide +kernel
theorem dL_law_236 : decode cL_law 236 = .ok (.ldc2_w 13, 3) := by decide +kernel
theorem dL_law_239 : decode cL_law 239 = .ok (.land, 1) := by decide +kernel
theorem dL_law_240 : decode cL_law 240 = .ok (.lor, 1) := by decide +kernel
theorem dL_law_241 : decode cL_law 241 = .ok (.invokevirtual 19, 3) := by decide +kernel
theorem dL_law_244 : decode cL_law 244 = .ok (.if_icmp .eq 1208, 3) := by decide +kernel
theorem dL_law_247 : decode cL_law 247 = .ok (.iconst 0, 1) := by decide +kernel
theorem dL_law_248 : decode cL_law 248 = .ok (.ireturn, 1) := by decide +kernel
theorem dL_law_249 : decode cL_law 249 = .ok (.aload_n 1, 1) := by decide +kernel
theorem dL_law_250 : decode cL_law 250 = .ok (.aload_n 0, 1) := by decide +kernel
theorem dL_law_251 : decode cL_law 251 = .ok (.iload_n 3, 1) := by decide +kernel
theorem dL_law_252 : decode cL_law 252 = .ok (.iconst 1, 1) := by decide +kernel
theorem dL_law_253 : decode cL_law 253 = .ok (.iadd, 1) := by decide +kernel
theorem dL_law_254 : decode cL_law 254 = .ok (.iaload, 1) := by decide +kernel
theorem dL_law_255 : decode cL_law 255 = .ok (.aload_n 0, 1) := by decide +kernel
theorem dL_law_256 : decode cL_law 256 = .ok (.iload_n 3, 1) := by decide +kernel
theorem dL_law_257 : decode cL_law 257 = .ok (.iconst 2, 1) := by decide +kernel
theorem dL_law_258 : decode cL_law 258 = .ok (.iadd, 1) := by decide +kernel
theorem dL_law_259 : decode cL_law 259 = .ok (.iaload, 1) := by decide +kernel
theorem dL_law_260 : decode cL_law 260 = .ok (.aload_n 0, 1) := by decide +kernel
theorem dL_law_261 : decode cL_law 261 = .ok (.iload_n 3, 1) := by decide +kernel
theorem dL_law_262 : decode cL_law 262 = .ok (.iconst 3, 1) := by decide +kernel
theorem dL_law_263 : decode cL_law 263 = .ok (.iadd, 1) := by decide +kernel
theorem dL_law_264 : decode cL_law 264 = .ok (.iaload, 1) := by decide +kernel
theorem dL_law_265 : decode cL_law 265 = .ok (.aload_n 0, 1) := by decide +kernel
theorem dL_law_266 : decode cL_law 266 = .ok (.iload_n 3, 1) := by decide +kernel
theorem dL_law_267 : decode cL_law 267 = .ok (.iconst 4, 1) := by decide +kernel
theorem dL_law_268 : decode cL_law 268 = .ok (.iadd, 1) := by decide +kernel
theorem dL_law_269 : decode cL_law 269 = .ok (.iaload, 1) := by decide +kernel
theorem dL_law_270 : decode cL_law 270 = .ok (.aload_n 0, 1) := by decide +kernel
theorem dL_law_271 : decode cL_law 271 = .ok (.iload_n 3, 1) := by decide +kernel
theorem dL_law_272 : decode cL_law 272 = .ok (.iconst 5, 1) := by decide +kernel
theorem dL_law_273 : decode cL_law 273 = .ok (.iadd, 1) := by decide +kernel
theorem dL_law_274 : decode cL_law 274 = .ok (.iaload, 1) := by decide +kernel
theorem dL_law_275 : decode cL_law 275 = .ok (.invokevirtual 20, 3) := by decide +kernel
theorem dL_law_278 : decode cL_law 278 = .ok (.aload_n 2, 1) := by decide +kernel
theorem dL_law_279 : decode cL_law 279 = .ok (.aload_n 0, 1) := by decide +kernel
theorem dL_law_280 : decode cL_law 280 = .ok (.iload_n 3, 1) := by decide +kernel
theorem dL_law_281 : decode cL_law 281 = .ok (.iconst 1, 1) := by decide +kernel
theorem dL_law_282 : decode cL_law 282 = .ok (.iadd, 1) := by decide +kernel
theorem dL_law_283 : decode cL_law 283 = .ok (.iaload, 1) := by decide +kernel
theorem dL_law_284 : decode cL_law 284 = .ok (.aload_n 0, 1) := by decide +kernel
theorem dL_law_285 : decode cL_law 285 = .ok (.iload_n 3, 1) := by decide +kernel
theorem dL_law_286 : decode cL_law 286 = .ok (.iconst 2, 1) := by decide +kernel
theorem dL_law_287 : decode cL_law 287 = .ok (.iadd, 1) := by decide +kernel
theorem dL_law_288 : decode cL_law 288 = .ok (.iaload, 1) := by decide +kernel
theorem dL_law_289 : decode cL_law 289 = .ok (.aload_n 0, 1) := by decide +kernel
theorem dL_law_290 : decode cL_law 290 = .ok (.iload_n 3, 1) := by decide +kernel
theorem dL_law_291 : decode cL_law 291 = .ok (.iconst 3, 1) := by decide +kernel
theorem dL_law_292 : decode cL_law 292 = .ok (.iadd, 1) := by decide +kernel
theorem dL_law_293 : decode cL_law 293 = .ok (.iaload, 1) := by decide +kernel
theorem dL_law_294 : decode cL_law 294 = .ok (.aload_n 0, 1) := by decide +kernel
theorem dL_law_295 : decode cL_law 295 = .ok (.iload_n 3, 1) := by decide +kernel
theorem dL_law_296 : decode cL_law 296 = .ok (.iconst 4, 1) := by decide +kernel
theorem dL_law_297 : decode cL_law 297 = .ok (.iadd, 1) := by decide +kernel
theorem dL_law_298 : decode cL_law 298 = .ok (.iaload, 1) := by decide +kernel
theorem dL_law_299 : decode cL_law 299 = .ok (.aload_n 0, 1) := by decide +kernel
theorem dL_law_300 : decode cL_law 300 = .ok (.iload_n 3, 1) := by decide +kernel
theorem dL_law_301 : decode cL_law 301 = .ok (.iconst 5, 1) := by decide +kernel
theorem dL_law_302 : decode cL_law 302 = .ok (.iadd, 1) := by decide +kernel
theorem dL_law_303 : decode cL_law 303 = .ok (.iaload, 1) := by decide +kernel
theorem dL_law_304 : decode cL_law 304 = .ok (.invokevirtual 24, 3) := by decide +kernel
theorem dL_law_307 : decode cL_law 307 = .ok (.if_icmp .eq 1145, 3) := by decide +kernel
theorem dL_law_310 : decode cL_law 310 = .ok (.iconst 0, 1) := by decide +kernel
theorem dL_law_311 : decode cL_law 311 = .ok (.ireturn, 1) := by decide +kernel
theorem dL_law_312 : decode cL_law 312 = .ok (.aload_n 1, 1) := by decide +kernel
theorem dL_law_313 : decode cL_law 313 = .ok (.aload_n 0, 1) := by decide +kernel
theorem dL_law_314 : decode cL_law 314 = .ok (.iload_n 3, 1) := by decide +kernel
theorem dL_law_315 : decode cL_law 315 = .ok (.iconst 1, 1) := by decide +kernel
theorem dL_law_316 : decode cL_law 316 = .ok (.iadd, 1) := by decide +kernel
theorem dL_law_317 : decode cL_law 317 = .ok (.iaload, 1) := by decide +kernel
theorem dL_law_318 : decode cL_law 318 = .ok (.aload_n 0, 1) := by decide +kernel
theorem dL_law_319 : decode cL_law 319 = .ok (.iload_n 3, 1) := by decide +kernel
theorem dL_law_320 : decode cL_law 320 = .ok (.iconst 2, 1) := by decide +kernel
theorem dL_law_321 : decode cL_law 321 = .ok (.iadd, 1) := by decide +kernel
theorem dL_law_322 : decode cL_law 322 = .ok (.iaload, 1) := by decide +kernel
theorem dL_law_323 : decode cL_law 323 = .ok (.aload_n 0, 1) := by decide +kernel
theorem dL_law_324 : decode cL_law 324 = .ok (.iload_n 3, 1) := by decide +kernel
theorem dL_law_325 : decode cL_law 325 = .ok (.iconst 3, 1) := by decide +kernel
theorem dL_law_326 : decode cL_law 326 = .ok (.iadd, 1) := by decide +kernel
theorem dL_law_327 : decode cL_law 327 = .ok (.iaload, 1) := by decide +kernel
theorem dL_law_328 : decode cL_law 328 = .ok (.invokevirtual 25, 3) := by decide +kernel
theorem dL_law_331 : decode cL_law 331 = .ok (.aload_n 2, 1) := by decide +kernel
theorem dL_law_332 : decode cL_law 332 = .ok (.aload_n 0, 1) := by decide +kernel
theorem dL_law_333 : decode cL_law 333 = .ok (.iload_n 3, 1) := by decide +kernel
theorem dL_law_334 : decode cL_law 334 = .ok (.iconst 1, 1) := by decide +kernel
theorem dL_law_335 : decode cL_law 335 = .ok (.iadd, 1) := by decide +kernel
theorem dL_law_336 : decode cL_law 336 = .ok (.iaload, 1) := by decide +kernel
theorem dL_law_337 : decode cL_law 337 = .ok (.aload_n 0, 1) := by decide +kernel
theorem dL_law_338 : decode cL_law 338 = .ok (.iload_n 3, 1) := by decide +kernel
theorem dL_law_339 : decode cL_law 339 = .ok (.iconst 2, 1) := by decide +kernel
theorem dL_law_340 : decode cL_law 340 = .ok (.iadd, 1) := by decide +kernel
theorem dL_law_341 : decode cL_law 341 = .ok (.iaload, 1) := by decide +kernel
theorem dL_law_342 : decode cL_law 342 = .ok (.aload_n 0, 1) := by decide +kernel
theorem dL_law_343 : decode cL_law 343 = .ok (.iload_n 3, 1) := by decide +kernel
theorem dL_law_344 : decode cL_law 344 = .ok (.iconst 3, 1) := by decide +kernel
theorem dL_law_345 : decode cL_law 345 = .ok (.iadd, 1) := by decide +kernel
theorem dL_law_346 : decode cL_law 346 = .ok (.iaload, 1) := by decide +kernel
theorem dL_law_347 : decode cL_law 347 = .ok (.invokevirtual 29, 3) := by decide +kernel
theorem dL_law_350 : decode cL_law 350 = .ok (.if_icmp .eq 1102, 3) := by decide +kernel
theorem dL_law_353 : decode cL_law 353 = .ok (.iconst 0, 1) := by decide +kernel
theorem dL_law_354 : decode cL_law 354 = .ok (.ireturn, 1) := by decide +kernel
theorem dL_law_355 : decode cL_law 355 = .ok (.aload_n 1, 1) := by decide +kernel
theorem dL_law_356 : decode cL_law 356 = .ok (.aload_n 0, 1) := by decide +kernel
theorem dL_law_357 : decode cL_law 357 = .ok (.iload_n 3, 1) := by decide +kernel
theorem dL_law_358 : decode cL_law 358 = .ok (.iconst 1, 1) := by decide +kernel
theorem dL_law_359 : decode cL_law 359 = .ok (.iadd, 1) := by decide +kernel
theorem dL_law_360 : decode cL_law 360 = .ok (.iaload, 1) := by decide +kernel
theorem dL_law_361 : decode cL_law 361 = .ok (.aload_n 0, 1) := by decide +kernel
theorem dL_law_362 : decode cL_law 362 = .ok (.iload_n 3, 1) := by decide +kernel
theorem dL_law_363 : decode cL_law 363 = .ok (.iconst 2, 1) := by decide +kernel
theorem dL_law_364 : decode cL_law 364 = .ok (.iadd, 1) := by decide +kernel
theorem dL_law_365 : decode cL_law 365 = .ok (.iaload, 1) := by decide +kernel
theorem dL_law_366 : decode cL_law 366 = .ok (.aload_n 0, 1) := by decide +kernel
theorem dL_law_367 : decode cL_law 367 = .ok (.iload_n 3, 1) := by decide +kernel
theorem dL_law_368 : decode cL_law 368 = .ok (.iconst 3, 1) := by decide +kernel
theorem dL_law_369 : decode cL_law 369 = .ok (.iadd, 1) := by decide +kernel
theorem dL_law_370 : decode cL_law 370 = .ok (.iaload, 1) := by decide +kernel
theorem dL_law_371 : decode cL_law 371 = .ok (.aload_n 0, 1) := by decide +kernel
theorem dL_law_372 : decode cL_law 372 = .ok (.iload_n 3, 1) := by decide +kernel
theorem dL_law_373 : decode cL_law 373 = .ok (.iconst 4, 1) := by decide +kernel
theorem dL_law_374 : decode cL_law 374 = .ok (.iadd, 1) := by decide +kernel
theorem dL_law_375 : decode cL_law 375 = .ok (.iaload, 1) := by decide +kernel
theorem dL_law_376 : decode cL_law 376 = .ok (.aload_n 0, 1) := by decide +kernel
theorem dL_law_377 : decode cL_law 377 = .ok (.iload_n 3, 1) := by decide +kernel
theorem dL_law_378 : decode cL_law 378 = .ok (.iconst 5, 1) := by decide +kernel
theorem dL_law_379 : decode cL_law 379 = .ok (.iadd, 1) := by decide +kernel
theorem dL_law_380 : decode cL_law 380 = .ok (.iaload, 1) := by decide +kernel
theorem dL_law_381 : decode cL_law 381 = .ok (.invokevirtual 30, 3) := by decide +kernel
theorem dL_law_384 : decode cL_law 384 = .ok (.aload_n 2, 1) := by decide +kernel
theorem dL_law_385 : decode cL_law 385 = .ok (.aload_n 0, 1) := by decide +kernel
theorem dL_law_386 : decode cL_law 386 = .ok (.iload_n 3, 1) := by decide +kernel
theorem dL_law_387 : decode cL_law 387 = .ok (.iconst 1, 1) := by decide +kernel
theorem dL_law_388 : decode cL_law 388 = .ok (.iadd, 1) := by decide +kernel
theorem dL_law_389 : decode cL_law 389 = .ok (.iaload, 1) := by decide +kernel
theorem dL_law_390 : decode cL_law 390 = .ok (.aload_n 0, 1) := by decide +kernel
theorem dL_law_391 : decode cL_law 391 = .ok (.iload_n 3, 1) := by decide +kernel
theorem dL_law_392 : decode cL_law 392 = .ok (.iconst 2, 1) := by decide +kernel
theorem dL_law_393 : decode cL_law 393 = .ok (.iadd, 1) := by decide +kernel
theorem dL_law_394 : decode cL_law 394 = .ok (.iaload, 1) := by decide +kernel
theorem dL_law_395 : decode cL_law 395 = .ok (.aload_n 0, 1) := by decide +kernel
theorem dL_law_396 : decode cL_law 396 = .ok (.iload_n 3, 1) := by decide +kernel
theorem dL_law_397 : decode cL_law 397 = .ok (.iconst 3, 1) := by decide +kernel
theorem dL_law_398 : decode cL_law 398 = .ok (.iadd, 1) := by decide +kernel
theorem dL_law_399 : decode cL_law 399 = .ok (.iaload, 1) := by decide +kernel
theorem dL_law_400 : decode cL_law 400 = .ok (.aload_n 0, 1) := by decide +kernel
theorem dL_law_401 : decode cL_law 401 = .ok (.iload_n 3, 1) := by decide +kernel
theorem dL_law_402 : decode cL_law 402 = .ok (.iconst 4, 1) := by decide +kernel
theorem dL_law_403 : decode cL_law 403 = .ok (.iadd, 1) := by decide +kernel
theorem dL_law_404 : decode cL_law 404 = .ok (.iaload, 1) := by decide +kernel
theorem dL_law_405 : decode cL_law 405 = .ok (.aload_n 0, 1) := by decide +kernel
theorem dL_law_406 : decode cL_law 406 = .ok (.iload_n 3, 1) := by decide +kernel
theorem dL_law_407 : decode cL_law 407 = .ok (.iconst 5, 1) := by decide +kernel
theorem dL_law_408 : decode cL_law 408 = .ok (.iadd, 1) := by decide +kernel
theorem dL_law_409 : decode cL_law 409 = .ok (.iaload, 1) := by decide +kernel
theorem dL_law_410 : decode cL_law 410 = .ok (.invokevirtual 33, 3) := by decide +kernel
theorem dL_law_413 : decode cL_law 413 = .ok (.if_icmp .eq 1039, 3) := by decide +kernel
theorem dL_law_416 : decode cL_law 416 = .ok (.iconst 0, 1) := by decide +kernel
theorem dL_law_417 : decode cL_law 417 = .ok (.ireturn, 1) := by decide +kernel
theorem dL_law_418 : decode cL_law 418 = .ok (.aload_n 1, 1) := by decide +kernel
theorem dL_law_419 : decode cL_law 419 = .ok (.aload_n 0, 1) := by decide +kernel
theorem dL_law_420 : decode cL_law 420 = .ok (.iload_n 3, 1) := by decide +kernel
theorem dL_law_421 : decode cL_law 421 = .ok (.iconst 1, 1) := by decide +kernel
theorem dL_law_422 : decode cL_law 422 = .ok (.iadd, 1) := by decide +kernel
theorem dL_law_423 : decode cL_law 423 = .ok (.iaload, 1) := by decide +kernel
theorem dL_law_424 : decode cL_law 424 = .ok (.aload_n 0, 1) := by decide +kernel
theorem dL_law_425 : decode cL_law 425 = .ok (.iload_n 3, 1) := by decide +kernel
theorem dL_law_426 : decode cL_law 426 = .ok (.iconst 2, 1) := by decide +kernel
theorem dL_law_427 : decode cL_law 427 = .ok (.iadd, 1) := by decide +kernel
theorem dL_law_428 : decode cL_law 428 = .ok (.iaload, 1) := by decide +kernel
theorem dL_law_429 : decode cL_law 429 = .ok (.aload_n 0, 1) := by decide +kernel
theorem dL_law_430 : decode cL_law 430 = .ok (.iload_n 3, 1) := by decide +kernel
theorem dL_law_431 : decode cL_law 431 = .ok (.iconst 3, 1) := by decide +kernel
theorem dL_law_432 : decode cL_law 432 = .ok (.iadd, 1) := by decide +kernel
theorem dL_law_433 : decode cL_law 433 = .ok (.iaload, 1) := by decide +kernel
theorem dL_law_434 : decode cL_law 434 = .ok (.aload_n 0, 1) := by decide +kernel
theorem dL_law_435 : decode cL_law 435 = .ok (.iload_n 3, 1) := by decide +kernel
theorem dL_law_436 : decode cL_law 436 = .ok (.iconst 4, 1) := by decide +kernel
theorem dL_law_437 : decode cL_law 437 = .ok (.iadd, 1) := by decide +kernel
theorem dL_law_438 : decode cL_law 438 = .ok (.iaload, 1) := by decide +kernel
theorem dL_law_439 : decode cL_law 439 = .ok (.invokevirtual 34, 3) := by decide +kernel
theorem dL_law_442 : decode cL_law 442 = .ok (.aload_n 2, 1) := by decide +kernel
theorem dL_law_443 : decode cL_law 443 = .ok (.aload_n 0, 1) := by decide +kernel
theorem dL_law_444 : decode cL_law 444 = .ok (.iload_n 3, 1) := by decide +kernel
theorem dL_law_445 : decode cL_law 445 = .ok (.iconst 1, 1) := by decide +kernel
theorem dL_law_446 : decode cL_law 446 = .ok (.iadd, 1) := by decide +kernel
theorem dL_law_447 : decode cL_law 447 = .ok (.iaload, 1) := by decide +kernel
theorem dL_law_448 : decode cL_law 448 = .ok (.aload_n 0, 1) := by decide +kernel
theorem dL_law_449 : decode cL_law 449 = .ok (.iload_n 3, 1) := by decide +kernel
theorem dL_law_450 : decode cL_law 450 = .ok (.iconst 2, 1) := by decide +kernel
theorem dL_law_451 : decode cL_law 451 = .ok (.iadd, 1) := by decide +kernel
theorem dL_law_452 : decode cL_law 452 = .ok (.iaload, 1) := by decide +kernel
theorem dL_law_453 : decode cL_law 453 = .ok (.aload_n 0, 1) := by decide +kernel
theorem dL_law_454 : decode cL_law 454 = .ok (.iload_n 3, 1) := by decide +kernel
theorem dL_law_455 : decode cL_law 455 = .ok (.iconst 3, 1) := by decide +kernel
theorem dL_law_456 : decode cL_law 456 = .ok (.iadd, 1) := by decide +kernel
theorem dL_law_457 : decode cL_law 457 = .ok (.iaload, 1) := by decide +kernel
theorem dL_law_458 : decode cL_law 458 = .ok (.aload_n 0, 1) := by decide +kernel
theorem dL_law_459 : decode cL_law 459 = .ok (.iload_n 3, 1) := by decide +kernel
theorem dL_law_460 : decode cL_law 460 = .ok (.iconst 4, 1) := by decide +kernel
theorem dL_law_461 : decode cL_law 461 = .ok (.iadd, 1) := by decide +kernel
theorem dL_law_462 : decode cL_law 462 = .ok (.iaload, 1) := by decide +kernel
theorem dL_law_463 : decode cL_law 463 = .ok (.invokevirtual 38, 3) := by decide +kernel
theorem dL_law_466 : decode cL_law 466 = .ok (.if_icmp .eq 986, 3) := by decide +kernel
theorem dL_law_469 : decode cL_law 469 = .ok (.iconst 0, 1) := by decide +kernel
theorem dL_law_470 : decode cL_law 470 = .ok (.ireturn, 1) := by decide +kernel
theorem dL_law_471 : decode cL_law 471 = .ok (.aload_n 1, 1) := by decide +kernel
theorem dL_law_472 : decode cL_law 472 = .ok (.aload_n 0, 1) := by decide +kernel
theorem dL_law_473 : decode cL_law 473 = .ok (.iload_n 3, 1) := by decide +kernel
theorem dL_law_474 : decode cL_law 474 = .ok (.iconst 1, 1) := by decide +kernel
theorem dL_law_475 : decode cL_law 475 = .ok (.iadd, 1) := by decide +kernel
theorem dL_law_476 : decode cL_law 476 = .ok (.iaload, 1) := by decide +kernel
theorem dL_law_477 : decode cL_law 477 = .ok (.aload_n 0, 1) := by decide +kernel
theorem dL_law_478 : decode cL_law 478 = .ok (.iload_n 3, 1) := by decide +kernel
theorem dL_law_479 : decode cL_law 479 = .ok (.iconst 2, 1) := by decide +kernel
theorem dL_law_480 : decode cL_law 480 = .ok (.iadd, 1) := by decide +kernel
theorem dL_law_481 : decode cL_law 481 = .ok (.iaload, 1) := by decide +kernel
theorem dL_law_482 : decode cL_law 482 = .ok (.aload_n 0, 1) := by decide +kernel
theorem dL_law_483 : decode cL_law 483 = .ok (.iload_n 3, 1) := by decide +kernel
theorem dL_law_484 : decode cL_law 484 = .ok (.iconst 3, 1) := by decide +kernel
theorem dL_law_485 : decode cL_law 485 = .ok (.iadd, 1) := by decide +kernel
theorem dL_law_486 : decode cL_law 486 = .ok (.iaload, 1) := by decide +kernel
theorem dL_law_487 : decode cL_law 487 = .ok (.aload_n 0, 1) := by decide +kernel
theorem dL_law_488 : decode cL_law 488 = .ok (.iload_n 3, 1) := by decide +kernel
theorem dL_law_489 : decode cL_law 489 = .ok (.iconst 4, 1) := by decide +kernel
theorem dL_law_490 : decode cL_law 490 = .ok (.iadd, 1) := by decide +kernel
theorem dL_law_491 : decode cL_law 491 = .ok (.iaload, 1) := by decide +kernel
theorem dL_law_492 : decode cL_law 492 = .ok (.invokevirtual 39, 3) := by decide +kernel
theorem dL_law_495 : decode cL_law 495 = .ok (.aload_n 2, 1) := by decide +kernel
theorem dL_law_496 : decode cL_law 496 = .ok (.aload_n 0, 1) := by decide +kernel
theorem dL_law_497 : decode cL_law 497 = .ok (.iload_n 3, 1) := by decide +kernel
theorem dL_law_498 : decode cL_law 498 = .ok (.iconst 1, 1) := by decide +kernel
theorem dL_law_499 : decode cL_law 499 = .ok (.iadd, 1) := by decide +kernel
theorem dL_law_500 : decode cL_law 500 = .ok (.iaload, 1) := by decide +kernel
theorem dL_law_501 : decode cL_law 501 = .ok (.aload_n 0, 1) := by decide +kernel
theorem dL_law_502 : decode cL_law 502 = .ok (.iload_n 3, 1) := by decide +kernel
theorem dL_law_503 : decode cL_law 503 = .ok (.iconst 2, 1) := by decide +kernel
theorem dL_law_504 : decode cL_law 504 = .ok (.iadd, 1) := by decide +kernel
theorem dL_law_505 : decode cL_law 505 = .ok (.iaload, 1) := by decide +kernel
theorem dL_law_506 : decode cL_law 506 = .ok (.aload_n 0, 1) := by decide +kernel
theorem dL_law_507 : decode cL_law 507 = .ok (.iload_n 3, 1) := by decide +kernel
theorem dL_law_508 : decode cL_law 508 = .ok (.iconst 3, 1) := by decide +kernel
theorem dL_law_509 : decode cL_law 509 = .ok (.iadd, 1) := by decide +kernel
theorem dL_law_510 : decode cL_law 510 = .ok (.iaload, 1) := by decide +kernel
theorem dL_law_511 : decode cL_law 511 = .ok (.aload_n 0, 1) := by decide +kernel
theorem dL_law_512 : decode cL_law 512 = .ok (.iload_n 3, 1) := by decide +kernel
theorem dL_law_513 : decode cL_law 513 = .ok (.iconst 4, 1) := by decide +kernel
theorem dL_law_514 : decode cL_law 514 = .ok (.iadd, 1) := by decide +kernel
theorem dL_law_515 : decode cL_law 515 = .ok (.iaload, 1) := by decide +kernel
theorem dL_law_516 : decode cL_law 516 = .ok (.invokevirtual 42, 3) := by decide +kernel
theorem dL_law_519 : decode cL_law 519 = .ok (.if_icmp .eq 933, 3) := by decide +kernel
theorem dL_law_522 : decode cL_law 522 = .ok (.iconst 0, 1) := by decide +kernel
theorem dL_law_523 : decode cL_law 523 = .ok (.ireturn, 1) := by decide +kernel
theorem dL_law_524 : decode cL_law 524 = .ok (.aload_n 1, 1) := by decide +kernel
theorem dL_law_525 : decode cL_law 525 = .ok (.aload_n 0, 1) := by decide +kernel
theorem dL_law_526 : decode cL_law 526 = .ok (.iload_n 3, 1) := by decide +kernel
theorem dL_law_527 : decode cL_law 527 = .ok (.iconst 1, 1) := by decide +kernel
theorem dL_law_528 : decode cL_law 528 = .ok (.iadd, 1) := by decide +kernel
theorem dL_law_529 : decode cL_law 529 = .ok (.iaload, 1) := by decide +kernel
theorem dL_law_530 : decode cL_law 530 = .ok (.aload_n 0, 1) := by decide +kernel
theorem dL_law_531 : decode cL_law 531 = .ok (.iload_n 3, 1) := by decide +kernel
theorem dL_law_532 : decode cL_law 532 = .ok (.iconst 2, 1) := by decide +kernel
theorem dL_law_533 : decode cL_law 533 = .ok (.iadd, 1) := by decide +kernel
theorem dL_law_534 : decode cL_law 534 = .ok (.iaload, 1) := by decide +kernel
theorem dL_law_535 : decode cL_law 535 = .ok (.i2l, 1) := by decide +kernel
theorem dL_law_536 : decode cL_law 536 = .ok (.bipush 32, 2) := by decide +kernel
theorem dL_law_538 : decode cL_law 538 = .ok (.lshl, 1) := by decide +kernel
theorem dL_law_539 : decode cL_law 539 = .ok (.aload_n 0, 1) := by decide +kernel
theorem dL_law_540 : decode cL_law 540 = .ok (.iload_n 3, 1) := by decide +kernel
theorem dL_law_541 : decode cL_law 541 = .ok (.iconst 3, 1) := by decide +kernel
theorem dL_law_542 : decode cL_law 542 = .ok (.iadd, 1) := by decide +kernel
theorem dL_law_543 : decode cL_law 543 = .ok (.iaload, 1) := by decide +kernel
theorem dL_law_544 : decode cL_law 544 = .ok (.i2l, 1) := by decide +kernel
theorem dL_law_545 : decode cL_law 545 = .ok (.ldc2_w 13, 3) := by decide +kernel
theorem dL_law_548 : decode cL_law 548 = .ok (.land, 1) := by decide +kernel
theorem dL_law_549 : decode cL_law 549 = .ok (.lor, 1) := by decide +kernel
theorem dL_law_550 : decode cL_law 550 = .ok (.invokevirtual 43, 3) := by decide +kernel
theorem dL_law_553 : decode cL_law 553 = .ok (.aload_n 2, 1) := by decide +kernel
theorem dL_law_554 : decode cL_law 554 = .ok (.aload_n 0, 1) := by decide +kernel
theorem dL_law_555 : decode cL_law 555 = .ok (.iload_n 3, 1) := by decide +kernel
theorem dL_law_556 : decode cL_law 556 = .ok (.iconst 1, 1) := by decide +kernel
theorem dL_law_557 : decode cL_law 557 = .ok (.iadd, 1) := by decide +kernel
theorem dL_law_558 : decode cL_law 558 = .ok (.iaload, 1) := by decide +kernel
theorem dL_law_559 : decode cL_law 559 = .ok (.aload_n 0, 1) := by decide +kernel
theorem dL_law_560 : decode cL_law 560 = .ok (.iload_n 3, 1) := by decide +kernel
theorem dL_law_561 : decode cL_law 561 = .ok (.iconst 2, 1) := by decide +kernel
theorem dL_law_562 : decode cL_law 562 = .ok (.iadd, 1) := by decide +kernel
theorem dL_law_563 : decode cL_law 563 = .ok (.iaload, 1) := by decide +kernel
theorem dL_law_564 : decode cL_law 564 = .ok (.i2l, 1) := by decide +kernel
theorem dL_law_565 : decode cL_law 565 = .ok (.bipush 32, 2) := by decide +kernel
theorem dL_law_567 : decode cL_law 567 = .ok (.lshl, 1) := by decide +kernel
theorem dL_law_568 : decode cL_law 568 = .ok (.aload_n 0, 1) := by decide +kernel
theorem dL_law_569 : decode cL_law 569 = .ok (.iload_n 3, 1) := by decide +kernel
theorem dL_law_570 : decode cL_law 570 = .ok (.iconst 3, 1) := by decide +kernel
theorem dL_law_571 : decode cL_law 571 = .ok (.iadd, 1) := by decide +kernel
theorem dL_law_572 : decode cL_law 572 = .ok (.iaload, 1) := by decide +kernel
theorem dL_law_573 : decode cL_law 573 = .ok (.i2l, 1) := by decide +kernel
theorem dL_law_574 : decode cL_law 574 = .ok (.ldc2_w 13, 3) := by decide +kernel
theorem dL_law_577 : decode cL_law 577 = .ok (.land, 1) := by decide +kernel
theorem dL_law_578 : decode cL_law 578 = .ok (.lor, 1) := by decide +kernel
theorem dL_law_579 : decode cL_law 579 = .ok (.invokevirtual 47, 3) := by decide +kernel
theorem dL_law_582 : decode cL_law 582 = .ok (.if_icmp .eq 870, 3) := by decide +kernel
theorem dL_law_585 : decode cL_law 585 = .ok (.iconst 0, 1) := by decide +kernel
theorem dL_law_586 : decode cL_law 586 = .ok (.ireturn, 1) := by decide +kernel
theorem dL_law_587 : decode cL_law 587 = .ok (.aload_n 1, 1) := by decide +kernel
theorem dL_law_588 : decode cL_law 588 = .ok (.aload_n 0, 1) := by decide +kernel
theorem dL_law_589 : decode cL_law 589 = .ok (.iload_n 3, 1) := by decide +kernel
theorem dL_law_590 : decode cL_law 590 = .ok (.iconst 1, 1) := by decide +kernel
theorem dL_law_591 : decode cL_law 591 = .ok (.iadd, 1) := by decide +kernel
theorem dL_law_592 : decode cL_law 592 = .ok (.iaload, 1) := by decide +kernel
theorem dL_law_593 : decode cL_law 593 = .ok (.aload_n 0, 1) := by decide +kernel
theorem dL_law_594 : decode cL_law 594 = .ok (.iload_n 3, 1) := by decide +kernel
theorem dL_law_595 : decode cL_law 595 = .ok (.iconst 2, 1) := by decide +kernel
theorem dL_law_596 : decode cL_law 596 = .ok (.iadd, 1) := by decide +kernel
theorem dL_law_597 : decode cL_law 597 = .ok (.iaload, 1) := by decide +kernel
theorem dL_law_598 : decode cL_law 598 = .ok (.invokevirtual 48, 3) := by decide +kernel
theorem dL_law_601 : decode cL_law 601 = .ok (.aload_n 2, 1) := by decide +kernel
theorem dL_law_602 : decode cL_law 602 = .ok (.aload_n 0, 1) := by decide +kernel
theorem dL_law_603 : decode cL_law 603 = .ok (.iload_n 3, 1) := by decide +kernel
theorem dL_law_604 : decode cL_law 604 = .ok (.iconst 1, 1) := by decide +kernel
theorem dL_law_605 : decode cL_law 605 = .ok (.iadd, 1) := by decide +kernel
theorem dL_law_606 : decode cL_law 606 = .ok (.iaload, 1) := by decide +kernel
theorem dL_law_607 : decode cL_law 607 = .ok (.aload_n 0, 1) := by decide +kernel
theorem dL_law_608 : decode cL_law 608 = .ok (.iload_n 3, 1) := by decide +kernel
theorem dL_law_609 : decode cL_law 609 = .ok (.iconst 2, 1) := by decide +kernel
theorem dL_law_610 : decode cL_law 610 = .ok (.iadd, 1) := by decide +kernel
theorem dL_law_611 : decode cL_law 611 = .ok (.iaload, 1) := by decide +kernel
theorem dL_law_612 : decode cL_law 612 = .ok (.invokevirtual 52, 3) := by decide +kernel
theorem dL_law_615 : decode cL_law 615 = .ok (.if_icmp .eq 837, 3) := by decide +kernel
theorem dL_law_618 : decode cL_law 618 = .ok (.iconst 0, 1) := by decide +kernel
theorem dL_law_619 : decode cL_law 619 = .ok (.ireturn, 1) := by decide +kernel
theorem dL_law_620 : decode cL_law 620 = .ok (.aload_n 1, 1) := by decide +kernel
theorem dL_law_621 : decode cL_law 621 = .ok (.aload_n 0, 1) := by decide +kernel
theorem dL_law_622 : decode cL_law 622 = .ok (.iload_n 3, 1) := by decide +kernel
theorem dL_law_623 : decode cL_law 623 = .ok (.iconst 1, 1) := by decide +kernel
theorem dL_law_624 : decode cL_law 624 = .ok (.iadd, 1) := by decide +kernel
theorem dL_law_625 : decode cL_law 625 = .ok (.iaload, 1) := by decide +kernel
theorem dL_law_626 : decode cL_law 626 = .ok (.aload_n 0, 1) := by decide +kernel
theorem dL_law_627 : decode cL_law 627 = .ok (.iload_n 3, 1) := by decide +kernel
theorem dL_law_628 : decode cL_law 628 = .ok (.iconst 2, 1) := by decide +kernel
theorem dL_law_629 : decode cL_law 629 = .ok (.iadd, 1) := by decide +kernel
theorem dL_law_630 : decode cL_law 630 = .ok (.iaload, 1) := by decide +kernel
theorem dL_law_631 : decode cL_law 631 = .ok (.aload_n 0, 1) := by decide +kernel
theorem dL_law_632 : decode cL_law 632 = .ok (.iload_n 3, 1) := by decide +kernel
theorem dL_law_633 : decode cL_law 633 = .ok (.iconst 3, 1) := by decide +kernel
theorem dL_law_634 : decode cL_law 634 = .ok (.iadd, 1) := by decide +kernel
theorem dL_law_635 : decode cL_law 635 = .ok (.iaload, 1) := by decide +kernel
theorem dL_law_636 : decode cL_law 636 = .ok (.aload_n 0, 1) := by decide +kernel
theorem dL_law_637 : decode cL_law 637 = .ok (.iload_n 3, 1) := by decide +kernel
theorem dL_law_638 : decode cL_law 638 = .ok (.iconst 4, 1) := by decide +kernel
theorem dL_law_639 : decode cL_law 639 = .ok (.iadd, 1) := by decide +kernel
theorem dL_law_640 : decode cL_law 640 = .ok (.iaload, 1) := by decide +kernel
theorem dL_law_641 : decode cL_law 641 = .ok (.invokevirtual 53, 3) := by decide +kernel
theorem dL_law_644 : decode cL_law 644 = .ok (.aload_n 2, 1) := by decide +kernel
theorem dL_law_645 : decode cL_law 645 = .ok (.aload_n 0, 1) := by decide +kernel
theorem dL_law_646 : decode cL_law 646 = .ok (.iload_n 3, 1) := by decide +kernel
theorem dL_law_647 : decode cL_law 647 = .ok (.iconst 1, 1) := by decide +kernel
theorem dL_law_648 : decode cL_law 648 = .ok (.iadd, 1) := by decide +kernel
theorem dL_law_649 : decode cL_law 649 = .ok (.iaload, 1) := by decide +kernel
theorem dL_law_650 : decode cL_law 650 = .ok (.aload_n 0, 1) := by decide +kernel
theorem dL_law_651 : decode cL_law 651 = .ok (.iload_n 3, 1) := by decide +kernel
theorem dL_law_652 : decode cL_law 652 = .ok (.iconst 2, 1) := by decide +kernel
theorem dL_law_653 : decode cL_law 653 = .ok (.iadd, 1) := by decide +kernel
theorem dL_law_654 : decode cL_law 654 = .ok (.iaload, 1) := by decide +kernel
theorem dL_law_655 : decode cL_law 655 = .ok (.aload_n 0, 1) := by decide +kernel
theorem dL_law_656 : decode cL_law 656 = .ok (.iload_n 3, 1) := by decide +kernel
theorem dL_law_657 : decode cL_law 657 = .ok (.iconst 3, 1) := by decide +kernel
theorem dL_law_658 : decode cL_law 658 = .ok (.iadd, 1) := by decide +kernel
theorem dL_law_659 : decode cL_law 659 = .ok (.iaload, 1) := by decide +kernel
theorem dL_law_660 : decode cL_law 660 = .ok (.aload_n 0, 1) := by decide +kernel
theorem dL_law_661 : decode cL_law 661 = .ok (.iload_n 3, 1) := by decide +kernel
theorem dL_law_662 : decode cL_law 662 = .ok (.iconst 4, 1) := by decide +kernel
theorem dL_law_663 : decode cL_law 663 = .ok (.iadd, 1) := by decide +kernel
theorem dL_law_664 : decode cL_law 664 = .ok (.iaload, 1) := by decide +kernel
theorem dL_law_665 : decode cL_law 665 = .ok (.invokevirtual 56, 3) := by decide +kernel
theorem dL_law_668 : decode cL_law 668 = .ok (.if_icmp .eq 784, 3) := by decide +kernel
theorem dL_law_671 : decode cL_law 671 = .ok (.iconst 0, 1) := by decide +kernel
theorem dL_law_672 : decode cL_law 672 = .ok (.ireturn, 1) := by decide +kernel
theorem dL_law_673 : decode cL_law 673 = .ok (.aload_n 1, 1) := by decide +kernel
theorem dL_law_674 : decode cL_law 674 = .ok (.invokevirtual 57, 3) := by decide +kernel
theorem dL_law_677 : decode cL_law 677 = .ok (.aload_n 2, 1) := by decide +kernel
theorem dL_law_678 : decode cL_law 678 = .ok (.invokevirtual 61, 3) := by decide +kernel
theorem dL_law_681 : decode cL_law 681 = .ok (.if_icmp .eq 771, 3) := by decide +kernel
theorem dL_law_684 : decode cL_law 684 = .ok (.iconst 0, 1) := by decide +kernel
theorem dL_law_685 : decode cL_law 685 = .ok (.ireturn, 1) := by decide +kernel
theorem dL_law_686 : decode cL_law 686 = .ok (.aload_n 1, 1) := by decide +kernel
theorem dL_law_687 : decode cL_law 687 = .ok (.aload_n 0, 1) := by decide +kernel
theorem dL_law_688 : decode cL_law 688 = .ok (.iload_n 3, 1) := by decide +kernel
theorem dL_law_689 : decode cL_law 689 = .ok (.iconst 1, 1) := by decide +kernel
theorem dL_law_690 : decode cL_law 690 = .ok (.iadd, 1) := by decide +kernel
theorem dL_law_691 : decode cL_law 691 = .ok (.iaload, 1) := by decide +kernel
theorem dL_law_692 : decode cL_law 692 = .ok (.aload_n 0, 1) := by decide +kernel
theorem dL_law_693 : decode cL_law 693 = .ok (.iload_n 3, 1) := by decide +kernel
theorem dL_law_694 : decode cL_law 694 = .ok (.iconst 2, 1) := by decide +kernel
theorem dL_law_695 : decode cL_law 695 = .ok (.iadd, 1) := by decide +kernel
theorem dL_law_696 : decode cL_law 696 = .ok (.iaload, 1) := by decide +kernel
theorem dL_law_697 : decode cL_law 697 = .ok (.invokevirtual 62, 3) := by decide +kernel
theorem dL_law_700 : decode cL_law 700 = .ok (.aload_n 2, 1) := by decide +kernel
theorem dL_law_701 : decode cL_law 701 = .ok (.aload_n 0, 1) := by decide +kernel
theorem dL_law_702 : decode cL_law 702 = .ok (.iload_n 3, 1) := by decide +kernel
theorem dL_law_703 : decode cL_law 703 = .ok (.iconst 1, 1) := by decide +kernel
theorem dL_law_704 : decode cL_law 704 = .ok (.iadd, 1) := by decide +kernel
theorem dL_law_705 : decode cL_law 705 = .ok (.iaload, 1) := by decide +kernel
theorem dL_law_706 : decode cL_law 706 = .ok (.aload_n 0, 1) := by decide +kernel
theorem dL_law_707 : decode cL_law 707 = .ok (.iload_n 3, 1) := by decide +kernel
theorem dL_law_708 : decode cL_law 708 = .ok (.iconst 2, 1) := by decide +kernel
theorem dL_law_709 : decode cL_law 709 = .ok (.iadd, 1) := by decide +kernel
theorem dL_law_710 : decode cL_law 710 = .ok (.iaload, 1) := by decide +kernel
theorem dL_law_711 : decode cL_law 711 = .ok (.invokevirtual 65, 3) := by decide +kernel
theorem dL_law_714 : decode cL_law 714 = .ok (.if_icmp .eq 738, 3) := by decide +kernel
theorem dL_law_717 : decode cL_law 717 = .ok (.iconst 0, 1) := by decide +kernel
theorem dL_law_718 : decode cL_law 718 = .ok (.ireturn, 1) := by decide +kernel
theorem dL_law_719 : decode cL_law 719 = .ok (.aload_n 1, 1) := by decide +kernel
theorem dL_law_720 : decode cL_law 720 = .ok (.aload_n 0, 1) := by decide +kernel
theorem dL_law_721 : decode cL_law 721 = .ok (.iload_n 3, 1) := by decide +kernel
theorem dL_law_722 : decode cL_law 722 = .ok (.iconst 1, 1) := by decide +kernel
theorem dL_law_723 : decode cL_law 723 = .ok (.iadd, 1) := by decide +kernel
theorem dL_law_724 : decode cL_law 724 = .ok (.iaload, 1) := by decide +kernel
theorem dL_law_725 : decode cL_law 725 = .ok (.invokevirtual 66, 3) := by decide +kernel
theorem dL_law_728 : decode cL_law 728 = .ok (.aload_n 2, 1) := by decide +kernel
theorem dL_law_729 : decode cL_law 729 = .ok (.aload_n 0, 1) := by decide +kernel
theorem dL_law_730 : decode cL_law 730 = .ok (.iload_n 3, 1) := by decide +kernel
theorem dL_law_731 : decode cL_law 731 = .ok (.iconst 1, 1) := by decide +kernel
theorem dL_law_732 : decode cL_law 732 = .ok (.iadd, 1) := by decide +kernel
theorem dL_law_733 : decode cL_law 733 = .ok (.iaload, 1) := by decide +kernel
theorem dL_law_734 : decode cL_law 734 = .ok (.invokevirtual 70, 3) := by decide +kernel
theorem dL_law_737 : decode cL_law 737 = .ok (.lcmp, 1) := by decide +kernel
theorem dL_law_738 : decode cL_law 738 = .ok (.ifCond .eq 714, 3) := by decide +kernel
theorem dL_law_741 : decode cL_law 741 = .ok (.iconst 0, 1) := by decide +kernel
theorem dL_law_742 : decode cL_law 742 = .ok (.ireturn, 1) := by decide +kernel
theorem dL_law_743 : decode cL_law 743 = .ok (.aload_n 1, 1) := by decide +kernel
theorem dL_law_744 : decode cL_law 744 = .ok (.aload_n 0, 1) := by decide +kernel
theorem dL_law_745 : decode cL_law 745 = .ok (.iload_n 3, 1) := by decide +kernel
theorem dL_law_746 : decode cL_law 746 = .ok (.iconst 1, 1) := by decide +kernel
theorem dL_law_747 : decode cL_law 747 = .ok (.iadd, 1) := by decide +kernel
theorem dL_law_748 : decode cL_law 748 = .ok (.iaload, 1) := by decide +kernel
theorem dL_law_749 : decode cL_law 749 = .ok (.invokevirtual 71, 3) := by decide +kernel
theorem dL_law_752 : decode cL_law 752 = .ok (.aload_n 2, 1) := by decide +kernel
theorem dL_law_753 : decode cL_law 753 = .ok (.aload_n 0, 1) := by decide +kernel
theorem dL_law_754 : decode cL_law 754 = .ok (.iload_n 3, 1) := by decide +kernel
theorem dL_law_755 : decode cL_law 755 = .ok (.iconst 1, 1) := by decide +kernel
theorem dL_law_756 : decode cL_law 756 = .ok (.iadd, 1) := by decide +kernel
theorem dL_law_757 : decode cL_law 757 = .ok (.iaload, 1) := by decide +kernel
theorem dL_law_758 : decode cL_law 758 = .ok (.invokevirtual 75, 3) := by decide +kernel
theorem dL_law_761 : decode cL_law 761 = .ok (.if_icmp .eq 691, 3) := by decide +kernel
theorem dL_law_764 : decode cL_law 764 = .ok (.iconst 0, 1) := by decide +kernel
theorem dL_law_765 : decode cL_law 765 = .ok (.ireturn, 1) := by decide +kernel
theorem dL_law_766 : decode cL_law 766 = .ok (.aload_n 1, 1) := by decide +kernel
theorem dL_law_767 : decode cL_law 767 = .ok (.invokevirtual 76, 3) := by decide +kernel
theorem dL_law_770 : decode cL_law 770 = .ok (.aload_n 2, 1) := by decide +kernel
theorem dL_law_771 : decode cL_law 771 = .ok (.invokevirtual 79, 3) := by decide +kernel
theorem dL_law_774 : decode cL_law 774 = .ok (.if_icmp .eq 678, 3) := by decide +kernel
theorem dL_law_777 : decode cL_law 777 = .ok (.iconst 0, 1) := by decide +kernel
theorem dL_law_778 : decode cL_law 778 = .ok (.ireturn, 1) := by decide +kernel
theorem dL_law_779 : decode cL_law 779 = .ok (.aload_n 1, 1) := by decide +kernel
theorem dL_law_780 : decode cL_law 780 = .ok (.aload_n 0, 1) := by decide +kernel
theorem dL_law_781 : decode cL_law 781 = .ok (.iload_n 3, 1) := by decide +kernel
theorem dL_law_782 : decode cL_law 782 = .ok (.iconst 1, 1) := by decide +kernel
theorem dL_law_783 : decode cL_law 783 = .ok (.iadd, 1) := by decide +kernel
theorem dL_law_784 : decode cL_law 784 = .ok (.iaload, 1) := by decide +kernel
theorem dL_law_785 : decode cL_law 785 = .ok (.aload_n 0, 1) := by decide +kernel
theorem dL_law_786 : decode cL_law 786 = .ok (.iload_n 3, 1) := by decide +kernel
theorem dL_law_787 : decode cL_law 787 = .ok (.iconst 2, 1) := by decide +kernel
theorem dL_law_788 : decode cL_law 788 = .ok (.iadd, 1) := by decide +kernel
theorem dL_law_789 : decode cL_law 789 = .ok (.iaload, 1) := by decide +kernel
theorem dL_law_790 : decode cL_law 790 = .ok (.aload_n 0, 1) := by decide +kernel
theorem dL_law_791 : decode cL_law 791 = .ok (.iload_n 3, 1) := by decide +kernel
theorem dL_law_792 : decode cL_law 792 = .ok (.iconst 3, 1) := by decide +kernel
theorem dL_law_793 : decode cL_law 793 = .ok (.iadd, 1) := by decide +kernel
theorem dL_law_794 : decode cL_law 794 = .ok (.iaload, 1) := by decide +kernel
theorem dL_law_795 : decode cL_law 795 = .ok (.ifCond .eq 7, 3) := by decide +kernel
theorem dL_law_798 : decode cL_law 798 = .ok (.iconst 1, 1) := by decide +kernel
theorem dL_law_799 : decode cL_law 799 = .ok (.goto 4, 3) := by decide +kernel
theorem dL_law_802 : decode cL_law 802 = .ok (.iconst 0, 1) := by decide +kernel
theorem dL_law_803 : decode cL_law 803 = .ok (.invokevirtual 80, 3) := by decide +kernel
theorem dL_law_806 : decode cL_law 806 = .ok (.aload_n 2, 1) := by decide +kernel
theorem dL_law_807 : decode cL_law 807 = .ok (.aload_n 0, 1) := by decide +kernel
theorem dL_law_808 : decode cL_law 808 = .ok (.iload_n 3, 1) := by decide +kernel
theorem dL_law_809 : decode cL_law 809 = .ok (.iconst 1, 1) := by decide +kernel
theorem dL_law_810 : decode cL_law 810 = .ok (.iadd, 1) := by decide +kernel
theorem dL_law_811 : decode cL_law 811 = .ok (.iaload, 1) := by decide +kernel
theorem dL_law_812 : decode cL_law 812 = .ok (.aload_n 0, 1) := by decide +kernel
theorem dL_law_813 : decode cL_law 813 = .ok (.iload_n 3, 1) := by decide +kernel
theorem dL_law_814 : decode cL_law 814 = .ok (.iconst 2, 1) := by decide +kernel
theorem dL_law_815 : decode cL_law 815 = .ok (.iadd, 1) := by decide +kernel
theorem dL_law_816 : decode cL_law 816 = .ok (.iaload, 1) := by decide +kernel
theorem dL_law_817 : decode cL_law 817 = .ok (.aload_n 0, 1) := by decide +kernel
theorem dL_law_818 : decode cL_law 818 = .ok (.iload_n 3, 1) := by decide +kernel
theorem dL_law_819 : decode cL_law 819 = .ok (.iconst 3, 1) := by decide +kernel
theorem dL_law_820 : decode cL_law 820 = .ok (.iadd, 1) := by decide +kernel
theorem dL_law_821 : decode cL_law 821 = .ok (.iaload, 1) := by decide +kernel
theorem dL_law_822 : decode cL_law 822 = .ok (.ifCond .eq 7, 3) := by decide +kernel
theorem dL_law_825 : decode cL_law 825 = .ok (.iconst 1, 1) := by decide +kernel
theorem dL_law_826 : decode cL_law 826 = .ok (.goto 4, 3) := by decide +kernel
theorem dL_law_829 : decode cL_law 829 = .ok (.iconst 0, 1) := by decide +kernel
theorem dL_law_830 : decode cL_law 830 = .ok (.invokevirtual 84, 3) := by decide +kernel
theorem dL_law_833 : decode cL_law 833 = .ok (.if_icmp .eq 619, 3) := by decide +kernel
theorem dL_law_836 : decode cL_law 836 = .ok (.iconst 0, 1) := by decide +kernel
theorem dL_law_837 : decode cL_law 837 = .ok (.ireturn, 1) := by decide +kernel
theorem dL_law_838 : decode cL_law 838 = .ok (.aload_n 1, 1) := by decide +kernel
theorem dL_law_839 : decode cL_law 839 = .ok (.aload_n 0, 1) := by decide +kernel
theorem dL_law_840 : decode cL_law 840 = .ok (.iload_n 3, 1) := by decide +kernel
theorem dL_law_841 : decode cL_law 841 = .ok (.iconst 1, 1) := by decide +kernel
theorem dL_law_842 : decode cL_law 842 = .ok (.iadd, 1) := by decide +kernel
theorem dL_law_843 : decode cL_law 843 = .ok (.iaload, 1) := by decide +kernel
theorem dL_law_844 : decode cL_law 844 = .ok (.invokevirtual 85, 3) := by decide +kernel
theorem dL_law_847 : decode cL_law 847 = .ok (.aload_n 2, 1) := by decide +kernel
theorem dL_law_848 : decode cL_law 848 = .ok (.aload_n 0, 1) := by decide +kernel
theorem dL_law_849 : decode cL_law 849 = .ok (.iload_n 3, 1) := by decide +kernel
theorem dL_law_850 : decode cL_law 850 = .ok (.iconst 1, 1) := by decide +kernel
theorem dL_law_851 : decode cL_law 851 = .ok (.iadd, 1) := by decide +kernel
theorem dL_law_852 : decode cL_law 852 = .ok (.iaload, 1) := by decide +kernel
theorem dL_law_853 : decode cL_law 853 = .ok (.invokevirtual 88, 3) := by decide +kernel
theorem dL_law_856 : decode cL_law 856 = .ok (.if_icmp .eq 596, 3) := by decide +kernel
theorem dL_law_859 : decode cL_law 859 = .ok (.iconst 0, 1) := by decide +kernel
theorem dL_law_860 : decode cL_law 860 = .ok (.ireturn, 1) := by decide +kernel
theorem dL_law_861 : decode cL_law 861 = .ok (.aload_n 1, 1) := by decide +kernel
theorem dL_law_862 : decode cL_law 862 = .ok (.aload_n 0, 1) := by decide +kernel
theorem dL_law_863 : decode cL_law 863 = .ok (.iload_n 3, 1) := by decide +kernel
theorem dL_law_864 : decode cL_law 864 = .ok (.iconst 1, 1) := by decide +kernel
theorem dL_law_865 : decode cL_law 865 = .ok (.iadd, 1) := by decide +kernel
theorem dL_law_866 : decode cL_law 866 = .ok (.iaload, 1) := by decide +kernel
theorem dL_law_867 : decode cL_law 867 = .ok (.aload_n 0, 1) := by decide +kernel
theorem dL_law_868 : decode cL_law 868 = .ok (.iload_n 3, 1) := by decide +kernel
theorem dL_law_869 : decode cL_law 869 = .ok (.iconst 2, 1) := by decide +kernel
theorem dL_law_870 : decode cL_law 870 = .ok (.iadd, 1) := by decide +kernel
theorem dL_law_871 : decode cL_law 871 = .ok (.iaload, 1) := by decide +kernel
theorem dL_law_872 : decode cL_law 872 = .ok (.aload_n 0, 1) := by decide +kernel
theorem dL_law_873 : decode cL_law 873 = .ok (.iload_n 3, 1) := by decide +kernel
theorem dL_law_874 : decode cL_law 874 = .ok (.iconst 3, 1) := by decide +kernel
theorem dL_law_875 : decode cL_law 875 = .ok (.iadd, 1) := by decide +kernel
theorem dL_law_876 : decode cL_law 876 = .ok (.iaload, 1) := by decide +kernel
theorem dL_law_877 : decode cL_law 877 = .ok (.i2l, 1) := by decide +kernel
theorem dL_law_878 : decode cL_law 878 = .ok (.bipush 32, 2) := by decide +kernel
theorem dL_law_880 : decode cL_law 880 = .ok (.lshl, 1) := by decide +kernel
theorem dL_law_881 : decode cL_law 881 = .ok (.aload_n 0, 1) := by decide +kernel
theorem dL_law_882 : decode cL_law 882 = .ok (.iload_n 3, 1) := by decide +kernel
theorem dL_law_883 : decode cL_law 883 = .ok (.iconst 4, 1) := by decide +kernel
theorem dL_law_884 : decode cL_law 884 = .ok (.iadd, 1) := by decide +kernel
theorem dL_law_885 : decode cL_law 885 = .ok (.iaload, 1) := by decide +kernel
theorem dL_law_886 : decode cL_law 886 = .ok (.i2l, 1) := by decide +kernel
theorem dL_law_887 : decode cL_law 887 = .ok (.ldc2_w 13, 3) := by decide +kernel
theorem dL_law_890 : decode cL_law 890 = .ok (.land, 1) := by decide +kernel
theorem dL_law_891 : decode cL_law 891 = .ok (.lor, 1) := by decide +kernel
theorem dL_law_892 : decode cL_law 892 = .ok (.invokevirtual 89, 3) := by decide +kernel
theorem dL_law_895 : decode cL_law 895 = .ok (.aload_n 2, 1) := by decide +kernel
theorem dL_law_896 : decode cL_law 896 = .ok (.aload_n 0, 1) := by decide +kernel
theorem dL_law_897 : decode cL_law 897 = .ok (.iload_n 3, 1) := by decide +kernel
theorem dL_law_898 : decode cL_law 898 = .ok (.iconst 1, 1) := by decide +kernel
theorem dL_law_899 : decode cL_law 899 = .ok (.iadd, 1) := by decide +kernel
theorem dL_law_900 : decode cL_law 900 = .ok (.iaload, 1) := by decide +kernel
theorem dL_law_901 : decode cL_law 901 = .ok (.aload_n 0, 1) := by decide +kernel
theorem dL_law_902 : decode cL_law 902 = .ok (.iload_n 3, 1) := by decide +kernel
theorem dL_law_903 : decode cL_law 903 = .ok (.iconst 2, 1) := by decide +kernel
theorem dL_law_904 : decode cL_law 904 = .ok (.iadd, 1) := by decide +kernel
theorem dL_law_905 : decode cL_law 905 = .ok (.iaload, 1) := by decide +kernel
theorem dL_law_906 : decode cL_law 906 = .ok (.aload_n 0, 1) := by decide +kernel
theorem dL_law_907 : decode cL_law 907 = .ok (.iload_n 3, 1) := by decide +kernel
theorem dL_law_908 : decode cL_law 908 = .ok (.iconst 3, 1) := by decide +kernel
theorem dL_law_909 : decode cL_law 909 = .ok (.iadd, 1) := by decide +kernel
theorem dL_law_910 : decode cL_law 910 = .ok (.iaload, 1) := by decide +kernel
theorem dL_law_911 : decode cL_law 911 = .ok (.i2l, 1) := by decide +kernel
theorem dL_law_912 : decode cL_law 912 = .ok (.bipush 32, 2) := by decide +kernel
theorem dL_law_914 : decode cL_law 914 = .ok (.lshl, 1) := by decide +kernel
theorem dL_law_915 : decode cL_law 915 = .ok (.aload_n 0, 1) := by decide +kernel
theorem dL_law_916 : decode cL_law 916 = .ok (.iload_n 3, 1) := by decide +kernel
theorem dL_law_917 : decode cL_law 917 = .ok (.iconst 4, 1) := by decide +kernel
theorem dL_law_918 : decode cL_law 918 = .ok (.iadd, 1) := by decide +kernel
theorem dL_law_919 : decode cL_law 919 = .ok (.iaload, 1) := by decide +kernel
theorem dL_law_920 : decode cL_law 920 = .ok (.i2l, 1) := by decide +kernel
theorem dL_law_921 : decode cL_law 921 = .ok (.ldc2_w 13, 3) := by decide +kernel
theorem dL_law_924 : decode cL_law 924 = .ok (.land, 1) := by decide +kernel
theorem dL_law_925 : decode cL_law 925 = .ok (.lor, 1) := by decide +kernel
theorem dL_law_926 : decode cL_law 926 = .ok (.invokevirtual 93, 3) := by decide +kernel
theorem dL_law_929 : decode cL_law 929 = .ok (.if_icmp .eq 523, 3) := by decide +kernel
theorem dL_law_932 : decode cL_law 932 = .ok (.iconst 0, 1) := by decide +kernel
theorem dL_law_933 : decode cL_law 933 = .ok (.ireturn, 1) := by decide +kernel
theorem dL_law_934 : decode cL_law 934 = .ok (.aload_n 1, 1) := by decide +kernel
theorem dL_law_935 : decode cL_law 935 = .ok (.aload_n 0, 1) := by decide +kernel
theorem dL_law_936 : decode cL_law 936 = .ok (.iload_n 3, 1) := by decide +kernel
theorem dL_law_937 : decode cL_law 937 = .ok (.iconst 1, 1) := by decide +kernel
theorem dL_law_938 : decode cL_law 938 = .ok (.iadd, 1) := by decide +kernel
theorem dL_law_939 : decode cL_law 939 = .ok (.iaload, 1) := by decide +kernel
theorem dL_law_940 : decode cL_law 940 = .ok (.aload_n 0, 1) := by decide +kernel
theorem dL_law_941 : decode cL_law 941 = .ok (.iload_n 3, 1) := by decide +kernel
theorem dL_law_942 : decode cL_law 942 = .ok (.iconst 2, 1) := by decide +kernel
theorem dL_law_943 : decode cL_law 943 = .ok (.iadd, 1) := by decide +kernel
theorem dL_law_944 : decode cL_law 944 = .ok (.iaload, 1) := by decide +kernel
theorem dL_law_945 : decode cL_law 945 = .ok (.invokevirtual 94, 3) := by decide +kernel
theorem dL_law_948 : decode cL_law 948 = .ok (.aload_n 2, 1) := by decide +kernel
theorem dL_law_949 : decode cL_law 949 = .ok (.aload_n 0, 1) := by decide +kernel
theorem dL_law_950 : decode cL_law 950 = .ok (.iload_n 3, 1) := by decide +kernel
theorem dL_law_951 : decode cL_law 951 = .ok (.iconst 1, 1) := by decide +kernel
theorem dL_law_952 : decode cL_law 952 = .ok (.iadd, 1) := by decide +kernel
theorem dL_law_953 : decode cL_law 953 = .ok (.iaload, 1) := by decide +kernel
theorem dL_law_954 : decode cL_law 954 = .ok (.aload_n 0, 1) := by decide +kernel
theorem dL_law_955 : decode cL_law 955 = .ok (.iload_n 3, 1) := by decide +kernel
theorem dL_law_956 : decode cL_law 956 = .ok (.iconst 2, 1) := by decide +kernel
theorem dL_law_957 : decode cL_law 957 = .ok (.iadd, 1) := by decide +kernel
theorem dL_law_958 : decode cL_law 958 = .ok (.iaload, 1) := by decide +kernel
theorem dL_law_959 : decode cL_law 959 = .ok (.invokevirtual 98, 3) := by decide +kernel
theorem dL_law_962 : decode cL_law 962 = .ok (.lcmp, 1) := by decide +kernel
theorem dL_law_963 : decode cL_law 963 = .ok (.ifCond .eq 489, 3) := by decide +kernel
theorem dL_law_966 : decode cL_law 966 = .ok (.iconst 0, 1) := by decide +kernel
theorem dL_law_967 : decode cL_law 967 = .ok (.ireturn, 1) := by decide +kernel
theorem dL_law_968 : decode cL_law 968 = .ok (.aload_n 1, 1) := by decide +kernel
theorem dL_law_969 : decode cL_law 969 = .ok (.aload_n 0, 1) := by decide +kernel
theorem dL_law_970 : decode cL_law 970 = .ok (.iload_n 3, 1) := by decide +kernel
theorem dL_law_971 : decode cL_law 971 = .ok (.iconst 1, 1) := by decide +kernel
theorem dL_law_972 : decode cL_law 972 = .ok (.iadd, 1) := by decide +kernel
theorem dL_law_973 : decode cL_law 973 = .ok (.iaload, 1) := by decide +kernel
theorem dL_law_974 : decode cL_law 974 = .ok (.aload_n 0, 1) := by decide +kernel
theorem dL_law_975 : decode cL_law 975 = .ok (.iload_n 3, 1) := by decide +kernel
theorem dL_law_976 : decode cL_law 976 = .ok (.iconst 2, 1) := by decide +kernel
theorem dL_law_977 : decode cL_law 977 = .ok (.iadd, 1) := by decide +kernel
theorem dL_law_978 : decode cL_law 978 = .ok (.iaload, 1) := by decide +kernel
theorem dL_law_979 : decode cL_law 979 = .ok (.aload_n 0, 1) := by decide +kernel
theorem dL_law_980 : decode cL_law 980 = .ok (.iload_n 3, 1) := by decide +kernel
theorem dL_law_981 : decode cL_law 981 = .ok (.iconst 3, 1) := by decide +kernel
theorem dL_law_982 : decode cL_law 982 = .ok (.iadd, 1) := by decide +kernel
theorem dL_law_983 : decode cL_law 983 = .ok (.iaload, 1) := by decide +kernel
theorem dL_law_984 : decode cL_law 984 = .ok (.aload_n 0, 1) := by decide +kernel
theorem dL_law_985 : decode cL_law 985 = .ok (.iload_n 3, 1) := by decide +kernel
theorem dL_law_986 : decode cL_law 986 = .ok (.iconst 4, 1) := by decide +kernel
theorem dL_law_987 : decode cL_law 987 = .ok (.iadd, 1) := by decide +kernel
theorem dL_law_988 : decode cL_law 988 = .ok (.iaload, 1) := by decide +kernel
theorem dL_law_989 : decode cL_law 989 = .ok (.aload_n 0, 1) := by decide +kernel
theorem dL_law_990 : decode cL_law 990 = .ok (.iload_n 3, 1) := by decide +kernel
theorem dL_law_991 : decode cL_law 991 = .ok (.iconst 5, 1) := by decide +kernel
theorem dL_law_992 : decode cL_law 992 = .ok (.iadd, 1) := by decide +kernel
theorem dL_law_993 : decode cL_law 993 = .ok (.iaload, 1) := by decide +kernel
theorem dL_law_994 : decode cL_law 994 = .ok (.invokevirtual 99, 3) := by decide +kernel
theorem dL_law_997 : decode cL_law 997 = .ok (.aload_n 2, 1) := by decide +kernel
theorem dL_law_998 : decode cL_law 998 = .ok (.aload_n 0, 1) := by decide +kernel
theorem dL_law_999 : decode cL_law 999 = .ok (.iload_n 3, 1) := by decide +kernel
theorem dL_law_1000 : decode cL_law 1000 = .ok (.iconst 1, 1) := by decide +kernel
theorem dL_law_1001 : decode cL_law 1001 = .ok (.iadd, 1) := by decide +kernel
theorem dL_law_1002 : decode cL_law 1002 = .ok (.iaload, 1) := by decide +kernel
theorem dL_law_1003 : decode cL_law 1003 = .ok (.aload_n 0, 1) := by decide +kernel
theorem dL_law_1004 : decode cL_law 1004 = .ok (.iload_n 3, 1) := by decide +kernel
theorem dL_law_1005 : decode cL_law 1005 = .ok (.iconst 2, 1) := by decide +kernel
theorem dL_law_1006 : decode cL_law 1006 = .ok (.iadd, 1) := by decide +kernel
theorem dL_law_1007 : decode cL_law 1007 = .ok (.iaload, 1) := by decide +kernel
theorem dL_law_1008 : decode cL_law 1008 = .ok (.aload_n 0, 1) := by decide +kernel
theorem dL_law_1009 : decode cL_law 1009 = .ok (.iload_n 3, 1) := by decide +kernel
theorem dL_law_1010 : decode cL_law 1010 = .ok (.iconst 3, 1) := by decide +kernel
theorem dL_law_1011 : decode cL_law 1011 = .ok (.iadd, 1) := by decide +kernel
theorem dL_law_1012 : decode cL_law 1012 = .ok (.iaload, 1) := by decide +kernel
theorem dL_law_1013 : decode cL_law 1013 = .ok (.aload_n 0, 1) := by decide +kernel
theorem dL_law_1014 : decode cL_law 1014 = .ok (.iload_n 3, 1) := by decide +kernel
theorem dL_law_1015 : decode cL_law 1015 = .ok (.iconst 4, 1) := by decide +kernel
theorem dL_law_1016 : decode cL_law 1016 = .ok (.iadd, 1) := by decide +kernel
theorem dL_law_1017 : decode cL_law 1017 = .ok (.iaload, 1) := by decide +kernel
theorem dL_law_1018 : decode cL_law 1018 = .ok (.aload_n 0, 1) := by decide +kernel
theorem dL_law_1019 : decode cL_law 1019 = .ok (.iload_n 3, 1) := by decide +kernel
theorem dL_law_1020 : decode cL_law 1020 = .ok (.iconst 5, 1) := by decide +kernel
theorem dL_law_1021 : decode cL_law 1021 = .ok (.iadd, 1) := by decide +kernel
theorem dL_law_1022 : decode cL_law 1022 = .ok (.iaload, 1) := by decide +kernel
theorem dL_law_1023 : decode cL_law 1023 = .ok (.invokevirtual 102, 3) := by decide +kernel
theorem dL_law_1026 : decode cL_law 1026 = .ok (.if_icmp .eq 426, 3) := by decide +kernel
theorem dL_law_1029 : decode cL_law 1029 = .ok (.iconst 0, 1) := by decide +kernel
theorem dL_law_1030 : decode cL_law 1030 = .ok (.ireturn, 1) := by decide +kernel
theorem dL_law_1031 : decode cL_law 1031 = .ok (.aload_n 1, 1) := by decide +kernel
theorem dL_law_1032 : decode cL_law 1032 = .ok (.invokevirtual 103, 3) := by decide +kernel
theorem dL_law_1035 : decode cL_law 1035 = .ok (.aload_n 2, 1) := by decide +kernel
theorem dL_law_1036 : decode cL_law 1036 = .ok (.invokevirtual 106, 3) := by decide +kernel
theorem dL_law_1039 : decode cL_law 1039 = .ok (.if_icmp .eq 413, 3) := by decide +kernel
theorem dL_law_1042 : decode cL_law 1042 = .ok (.iconst 0, 1) := by decide +kernel
theorem dL_law_1043 : decode cL_law 1043 = .ok (.ireturn, 1) := by decide +kernel
theorem dL_law_1044 : decode cL_law 1044 = .ok (.aload_n 1, 1) := by decide +kernel
theorem dL_law_1045 : decode cL_law 1045 = .ok (.invokevirtual 107, 3) := by decide +kernel
theorem dL_law_1048 : decode cL_law 1048 = .ok (.aload_n 2, 1) := by decide +kernel
theorem dL_law_1049 : decode cL_law 1049 = .ok (.invokevirtual 110, 3) := by decide +kernel
theorem dL_law_1052 : decode cL_law 1052 = .ok (.if_icmp .eq 400, 3) := by decide +kernel
theorem dL_law_1055 : decode cL_law 1055 = .ok (.iconst 0, 1) := by decide +kernel
theorem dL_law_1056 : decode cL_law 1056 = .ok (.ireturn, 1) := by decide +kernel
theorem dL_law_1057 : decode cL_law 1057 = .ok (.aload_n 1, 1) := by decide +kernel
theorem dL_law_1058 : decode cL_law 1058 = .ok (.aload_n 0, 1) := by decide +kernel
theorem dL_law_1059 : decode cL_law 1059 = .ok (.iload_n 3, 1) := by decide +kernel
theorem dL_law_1060 : decode cL_law 1060 = .ok (.iconst 1, 1) := by decide +kernel
theorem dL_law_1061 : decode cL_law 1061 = .ok (.iadd, 1) := by decide +kernel
theorem dL_law_1062 : decode cL_law 1062 = .ok (.iaload, 1) := by decide +kernel
theorem dL_law_1063 : decode cL_law 1063 = .ok (.invokevirtual 111, 3) := by decide +kernel
theorem dL_law_1066 : decode cL_law 1066 = .ok (.aload_n 2, 1) := by decide +kernel
theorem dL_law_1067 : decode cL_law 1067 = .ok (.aload_n 0, 1) := by decide +kernel
theorem dL_law_1068 : decode cL_law 1068 = .ok (.iload_n 3, 1) := by decide +kernel
theorem dL_law_1069 : decode cL_law 1069 = .ok (.iconst 1, 1) := by decide +kernel
theorem dL_law_1070 : decode cL_law 1070 = .ok (.iadd, 1) := by decide +kernel
theorem dL_law_1071 : decode cL_law 1071 = .ok (.iaload, 1) := by decide +kernel
theorem dL_law_1072 : decode cL_law 1072 = .ok (.invokevirtual 114, 3) := by decide +kernel
theorem dL_law_1075 : decode cL_law 1075 = .ok (.if_icmp .eq 377, 3) := by decide +kernel
theorem dL_law_1078 : decode cL_law 1078 = .ok (.iconst 0, 1) := by decide +kernel
theorem dL_law_1079 : decode cL_law 1079 = .ok (.ireturn, 1) := by decide +kernel
theorem dL_law_1080 : decode cL_law 1080 = .ok (.aload_n 1, 1) := by decide +kernel
theorem dL_law_1081 : decode cL_law 1081 = .ok (.invokevirtual 115, 3) := by decide +kernel
theorem dL_law_1084 : decode cL_law 1084 = .ok (.aload_n 2, 1) := by decide +kernel
theorem dL_law_1085 : decode cL_law 1085 = .ok (.invokevirtual 118, 3) := by decide +kernel
theorem dL_law_1088 : decode cL_law 1088 = .ok (.if_icmp .eq 364, 3) := by decide +kernel
theorem dL_law_1091 : decode cL_law 1091 = .ok (.iconst 0, 1) := by decide +kernel
theorem dL_law_1092 : decode cL_law 1092 = .ok (.ireturn, 1) := by decide +kernel
theorem dL_law_1093 : decode cL_law 1093 = .ok (.aload_n 1, 1) := by decide +kernel
theorem dL_law_1094 : decode cL_law 1094 = .ok (.aload_n 0, 1) := by decide +kernel
theorem dL_law_1095 : decode cL_law 1095 = .ok (.iload_n 3, 1) := by decide +kernel
theorem dL_law_1096 : decode cL_law 1096 = .ok (.iconst 1, 1) := by decide +kernel
theorem dL_law_1097 : decode cL_law 1097 = .ok (.iadd, 1) := by decide +kernel
theorem dL_law_1098 : decode cL_law 1098 = .ok (.iaload, 1) := by decide +kernel
theorem dL_law_1099 : decode cL_law 1099 = .ok (.invokevirtual 119, 3) := by decide +kernel
theorem dL_law_1102 : decode cL_law 1102 = .ok (.aload_n 2, 1) := by decide +kernel
theorem dL_law_1103 : decode cL_law 1103 = .ok (.aload_n 0, 1) := by decide +kernel
theorem dL_law_1104 : decode cL_law 1104 = .ok (.iload_n 3, 1) := by decide +kernel
theorem dL_law_1105 : decode cL_law 1105 = .ok (.iconst 1, 1) := by decide +kernel
theorem dL_law_1106 : decode cL_law 1106 = .ok (.iadd, 1) := by decide +kernel
theorem dL_law_1107 : decode cL_law 1107 = .ok (.iaload, 1) := by decide +kernel
theorem dL_law_1108 : decode cL_law 1108 = .ok (.invokevirtual 122, 3) := by decide +kernel
theorem dL_law_1111 : decode cL_law 1111 = .ok (.if_icmp .eq 341, 3) := by decide +kernel
theorem dL_law_1114 : decode cL_law 1114 = .ok (.iconst 0, 1) := by decide +kernel
theorem dL_law_1115 : decode cL_law 1115 = .ok (.ireturn, 1) := by decide +kernel
theorem dL_law_1116 : decode cL_law 1116 = .ok (.aload_n 1, 1) := by decide +kernel
theorem dL_law_1117 : decode cL_law 1117 = .ok (.aload_n 0, 1) := by decide +kernel
theorem dL_law_1118 : decode cL_law 1118 = .ok (.iload_n 3, 1) := by decide +kernel
theorem dL_law_1119 : decode cL_law 1119 = .ok (.iconst 1, 1) := by decide +kernel
theorem dL_law_1120 : decode cL_law 1120 = .ok (.iadd, 1) := by decide +kernel
theorem dL_law_1121 : decode cL_law 1121 = .ok (.iaload, 1) := by decide +kernel
theorem dL_law_1122 : decode cL_law 1122 = .ok (.aload_n 0, 1) := by decide +kernel
theorem dL_law_1123 : decode cL_law 1123 = .ok (.iload_n 3, 1) := by decide +kernel
theorem dL_law_1124 : decode cL_law 1124 = .ok (.iconst 2, 1) := by decide +kernel
theorem dL_law_1125 : decode cL_law 1125 = .ok (.iadd, 1) := by decide +kernel
theorem dL_law_1126 : decode cL_law 1126 = .ok (.iaload, 1) := by decide +kernel
theorem dL_law_1127 : decode cL_law 1127 = .ok (.invokevirtual 123, 3) := by decide +kernel
theorem dL_law_1130 : decode cL_law 1130 = .ok (.aload_n 2, 1) := by decide +kernel
theorem dL_law_1131 : decode cL_law 1131 = .ok (.aload_n 0, 1) := by decide +kernel
theorem dL_law_1132 : decode cL_law 1132 = .ok (.iload_n 3, 1) := by decide +kernel
theorem dL_law_1133 : decode cL_law 1133 = .ok (.iconst 1, 1) := by decide +kernel
theorem dL_law_1134 : decode cL_law 1134 = .ok (.iadd, 1) := by decide +kernel
theorem dL_law_1135 : decode cL_law 1135 = .ok (.iaload, 1) := by decide +kernel
theorem dL_law_1136 : decode cL_law 1136 = .ok (.aload_n 0, 1) := by decide +kernel
theorem dL_law_1137 : decode cL_law 1137 = .ok (.iload_n 3, 1) := by decide +kernel
theorem dL_law_1138 : decode cL_law 1138 = .ok (.iconst 2, 1) := by decide +kernel
theorem dL_law_1139 : decode cL_law 1139 = .ok (.iadd, 1) := by decide +kernel
theorem dL_law_1140 : decode cL_law 1140 = .ok (.iaload, 1) := by decide +kernel
theorem dL_law_1141 : decode cL_law 1141 = .ok (.invokevirtual 126, 3) := by decide +kernel
theorem dL_law_1144 : decode cL_law 1144 = .ok (.if_icmp .eq 308, 3) := by decide +kernel
theorem dL_law_1147 : decode cL_law 1147 = .ok (.iconst 0, 1) := by decide +kernel
theorem dL_law_1148 : decode cL_law 1148 = .ok (.ireturn, 1) := by decide +kernel
theorem dL_law_1149 : decode cL_law 1149 = .ok (.aload_n 1, 1) := by decide +kernel
theorem dL_law_1150 : decode cL_law 1150 = .ok (.aload_n 0, 1) := by decide +kernel
theorem dL_law_1151 : decode cL_law 1151 = .ok (.iload_n 3, 1) := by decide +kernel
theorem dL_law_1152 : decode cL_law 1152 = .ok (.iconst 1, 1) := by decide +kernel
theorem dL_law_1153 : decode cL_law 1153 = .ok (.iadd, 1) := by decide +kernel
theorem dL_law_1154 : decode cL_law 1154 = .ok (.iaload, 1) := by decide +kernel
theorem dL_law_1155 : decode cL_law 1155 = .ok (.aload_n 0, 1) := by decide +kernel
theorem dL_law_1156 : decode cL_law 1156 = .ok (.iload_n 3, 1) := by decide +kernel
theorem dL_law_1157 : decode cL_law 1157 = .ok (.iconst 2, 1) := by decide +kernel
theorem dL_law_1158 : decode cL_law 1158 = .ok (.iadd, 1) := by decide +kernel
theorem dL_law_1159 : decode cL_law 1159 = .ok (.iaload, 1) := by decide +kernel
theorem dL_law_1160 : decode cL_law 1160 = .ok (.invokevirtual 127, 3) := by decide +kernel
theorem dL_law_1163 : decode cL_law 1163 = .ok (.aload_n 2, 1) := by decide +kernel
theorem dL_law_1164 : decode cL_law 1164 = .ok (.aload_n 0, 1) := by decide +kernel
theorem dL_law_1165 : decode cL_law 1165 = .ok (.iload_n 3, 1) := by decide +kernel
theorem dL_law_1166 : decode cL_law 1166 = .ok (.iconst 1, 1) := by decide +kernel
theorem dL_law_1167 : decode cL_law 1167 = .ok (.iadd, 1) := by decide +kernel
theorem dL_law_1168 : decode cL_law 1168 = .ok (.iaload, 1) := by decide +kernel
theorem dL_law_1169 : decode cL_law 1169 = .ok (.aload_n 0, 1) := by decide +kernel
theorem dL_law_1170 : decode cL_law 1170 = .ok (.iload_n 3, 1) := by decide +kernel
theorem dL_law_1171 : decode cL_law 1171 = .ok (.iconst 2, 1) := by decide +kernel
theorem dL_law_1172 : decode cL_law 1172 = .ok (.iadd, 1) := by decide +kernel
theorem dL_law_1173 : decode cL_law 1173 = .ok (.iaload, 1) := by decide +kernel
theorem dL_law_1174 : decode cL_law 1174 = .ok (.invokevirtual 130, 3) := by decide +kernel
theorem dL_law_1177 : decode cL_law 1177 = .ok (.if_icmp .eq 275, 3) := by decide +kernel
theorem dL_law_1180 : decode cL_law 1180 = .ok (.iconst 0, 1) := by decide +kernel
theorem dL_law_1181 : decode cL_law 1181 = .ok (.ireturn, 1) := by decide +kernel
theorem dL_law_1182 : decode cL_law 1182 = .ok (.aload_n 1, 1) := by decide +kernel
theorem dL_law_1183 : decode cL_law 1183 = .ok (.aload_n 0, 1) := by decide +kernel
theorem dL_law_1184 : decode cL_law 1184 = .ok (.iload_n 3, 1) := by decide +kernel
theorem dL_law_1185 : decode cL_law 1185 = .ok (.iconst 1, 1) := by decide +kernel
theorem dL_law_1186 : decode cL_law 1186 = .ok (.iadd, 1) := by decide +kernel
theorem dL_law_1187 : decode cL_law 1187 = .ok (.iaload, 1) := by decide +kernel
theorem dL_law_1188 : decode cL_law 1188 = .ok (.invokevirtual 131, 3) := by decide +kernel
theorem dL_law_1191 : decode cL_law 1191 = .ok (.aload_n 2, 1) := by decide +kernel
theorem dL_law_1192 : decode cL_law 1192 = .ok (.aload_n 0, 1) := by decide +kernel
theorem dL_law_1193 : decode cL_law 1193 = .ok (.iload_n 3, 1) := by decide +kernel
theorem dL_law_1194 : decode cL_law 1194 = .ok (.iconst 1, 1) := by decide +kernel
theorem dL_law_1195 : decode cL_law 1195 = .ok (.iadd, 1) := by decide +kernel
theorem dL_law_1196 : decode cL_law 1196 = .ok (.iaload, 1) := by decide +kernel
theorem dL_law_1197 : decode cL_law 1197 = .ok (.invokevirtual 134, 3) := by decide +kernel
theorem dL_law_1200 : decode cL_law 1200 = .ok (.if_icmp .eq 252, 3) := by decide +kernel
theorem dL_law_1203 : decode cL_law 1203 = .ok (.iconst 0, 1) := by decide +kernel
theorem dL_law_1204 : decode cL_law 1204 = .ok (.ireturn, 1) := by decide +kernel
theorem dL_law_1205 : decode cL_law 1205 = .ok (.aload_n 1, 1) := by decide +kernel
theorem dL_law_1206 : decode cL_law 1206 = .ok (.aload_n 0, 1) := by decide +kernel
theorem dL_law_1207 : decode cL_law 1207 = .ok (.iload_n 3, 1) := by decide +kernel
theorem dL_law_1208 : decode cL_law 1208 = .ok (.iconst 1, 1) := by decide +kernel
theorem dL_law_1209 : decode cL_law 1209 = .ok (.iadd, 1) := by decide +kernel
theorem dL_law_1210 : decode cL_law 1210 = .ok (.iaload, 1) := by decide +kernel
theorem dL_law_1211 : decode cL_law 1211 = .ok (.invokevirtual 135, 3) := by decide +kernel
theorem dL_law_1214 : decode cL_law 1214 = .ok (.aload_n 2, 1) := by decide +kernel
theorem dL_law_1215 : decode cL_law 1215 = .ok (.aload_n 0, 1) := by decide +kernel
theorem dL_law_1216 : decode cL_law 1216 = .ok (.iload_n 3, 1) := by decide +kernel
theorem dL_law_1217 : decode cL_law 1217 = .ok (.iconst 1, 1) := by decide +kernel
theorem dL_law_1218 : decode cL_law 1218 = .ok (.iadd, 1) := by decide +kernel
theorem dL_law_1219 : decode cL_law 1219 = .ok (.iaload, 1) := by decide +kernel
theorem dL_law_1220 : decode cL_law 1220 = .ok (.invokevirtual 138, 3) := by decide +kernel
theorem dL_law_1223 : decode cL_law 1223 = .ok (.if_icmp .eq 229, 3) := by decide +kernel
theorem dL_law_1226 : decode cL_law 1226 = .ok (.iconst 0, 1) := by decide +kernel
theorem dL_law_1227 : decode cL_law 1227 = .ok (.ireturn, 1) := by decide +kernel
theorem dL_law_1228 : decode cL_law 1228 = .ok (.aload_n 1, 1) := by decide +kernel
theorem dL_law_1229 : decode cL_law 1229 = .ok (.aload_n 0, 1) := by decide +kernel
theorem dL_law_1230 : decode cL_law 1230 = .ok (.iload_n 3, 1) := by decide +kernel
theorem dL_law_1231 : decode cL_law 1231 = .ok (.iconst 1, 1) := by decide +kernel
theorem dL_law_1232 : decode cL_law 1232 = .ok (.iadd, 1) := by decide +kernel
theorem dL_law_1233 : decode cL_law 1233 = .ok (.iaload, 1) := by decide +kernel
theorem dL_law_1234 : decode cL_law 1234 = .ok (.aload_n 0, 1) := by decide +kernel
theorem dL_law_1235 : decode cL_law 1235 = .ok (.iload_n 3, 1) := by decide +kernel
theorem dL_law_1236 : decode cL_law 1236 = .ok (.iconst 2, 1) := by decide +kernel
theorem dL_law_1237 : decode cL_law 1237 = .ok (.iadd, 1) := by decide +kernel
theorem dL_law_1238 : decode cL_law 1238 = .ok (.iaload, 1) := by decide +kernel
theorem dL_law_1239 : decode cL_law 1239 = .ok (.invokevirtual 139, 3) := by decide +kernel
theorem dL_law_1242 : decode cL_law 1242 = .ok (.aload_n 2, 1) := by decide +kernel
theorem dL_law_1243 : decode cL_law 1243 = .ok (.aload_n 0, 1) := by decide +kernel
theorem dL_law_1244 : decode cL_law 1244 = .ok (.iload_n 3, 1) := by decide +kernel
theorem dL_law_1245 : decode cL_law 1245 = .ok (.iconst 1, 1) := by decide +kernel
theorem dL_law_1246 : decode cL_law 1246 = .ok (.iadd, 1) := by decide +kernel
theorem dL_law_1247 : decode cL_law 1247 = .ok (.iaload, 1) := by decide +kernel
theorem dL_law_1248 : decode cL_law 1248 = .ok (.aload_n 0, 1) := by decide +kernel
theorem dL_law_1249 : decode cL_law 1249 = .ok (.iload_n 3, 1) := by decide +kernel
theorem dL_law_1250 : decode cL_law 1250 = .ok (.iconst 2, 1) := by decide +kernel
theorem dL_law_1251 : decode cL_law 1251 = .ok (.iadd, 1) := by decide +kernel
theorem dL_law_1252 : decode cL_law 1252 = .ok (.iaload, 1) := by decide +kernel
theorem dL_law_1253 : decode cL_law 1253 = .ok (.invokevirtual 142, 3) := by decide +kernel
theorem dL_law_1256 : decode cL_law 1256 = .ok (.if_icmp .eq 196, 3) := by decide +kernel
theorem dL_law_1259 : decode cL_law 1259 = .ok (.iconst 0, 1) := by decide +kernel
theorem dL_law_1260 : decode cL_law 1260 = .ok (.ireturn, 1) := by decide +kernel
theorem dL_law_1261 : decode cL_law 1261 = .ok (.aload_n 1, 1) := by decide +kernel
theorem dL_law_1262 : decode cL_law 1262 = .ok (.invokevirtual 143, 3) := by decide +kernel
theorem dL_law_1265 : decode cL_law 1265 = .ok (.aload_n 2, 1) := by decide +kernel
theorem dL_law_1266 : decode cL_law 1266 = .ok (.invokevirtual 146, 3) := by decide +kernel
theorem dL_law_1269 : decode cL_law 1269 = .ok (.if_icmp .eq 183, 3) := by decide +kernel
theorem dL_law_1272 : decode cL_law 1272 = .ok (.iconst 0, 1) := by decide +kernel
theorem dL_law_1273 : decode cL_law 1273 = .ok (.ireturn, 1) := by decide +kernel
theorem dL_law_1274 : decode cL_law 1274 = .ok (.aload_n 1, 1) := by decide +kernel
theorem dL_law_1275 : decode cL_law 1275 = .ok (.aload_n 0, 1) := by decide +kernel
theorem dL_law_1276 : decode cL_law 1276 = .ok (.iload_n 3, 1) := by decide +kernel
theorem dL_law_1277 : decode cL_law 1277 = .ok (.iconst 1, 1) := by decide +kernel
theorem dL_law_1278 : decode cL_law 1278 = .ok (.iadd, 1) := by decide +kernel
theorem dL_law_1279 : decode cL_law 1279 = .ok (.iaload, 1) := by decide +kernel
theorem dL_law_1280 : decode cL_law 1280 = .ok (.invokevirtual 147, 3) := by decide +kernel
theorem dL_law_1283 : decode cL_law 1283 = .ok (.aload_n 2, 1) := by decide +kernel
theorem dL_law_1284 : decode cL_law 1284 = .ok (.aload_n 0, 1) := by decide +kernel
theorem dL_law_1285 : decode cL_law 1285 = .ok (.iload_n 3, 1) := by decide +kernel
theorem dL_law_1286 : decode cL_law 1286 = .ok (.iconst 1, 1) := by decide +kernel
theorem dL_law_1287 : decode cL_law 1287 = .ok (.iadd, 1) := by decide +kernel
theorem dL_law_1288 : decode cL_law 1288 = .ok (.iaload, 1) := by decide +kernel
theorem dL_law_1289 : decode cL_law 1289 = .ok (.invokevirtual 150, 3) := by decide +kernel
theorem dL_law_1292 : decode cL_law 1292 = .ok (.if_icmp .eq 160, 3) := by decide +kernel
theorem dL_law_1295 : decode cL_law 1295 = .ok (.iconst 0, 1) := by decide +kernel
theorem dL_law_1296 : decode cL_law 1296 = .ok (.ireturn, 1) := by decide +kernel
theorem dL_law_1297 : decode cL_law 1297 = .ok (.aload_n 1, 1) := by decide +kernel
theorem dL_law_1298 : decode cL_law 1298 = .ok (.aload_n 0, 1) := by decide +kernel
theorem dL_law_1299 : decode cL_law 1299 = .ok (.iload_n 3, 1) := by decide +kernel
theorem dL_law_1300 : decode cL_law 1300 = .ok (.iconst 1, 1) := by decide +kernel
theorem dL_law_1301 : decode cL_law 1301 = .ok (.iadd, 1) := by decide +kernel
theorem dL_law_1302 : decode cL_law 1302 = .ok (.iaload, 1) := by decide +kernel
theorem dL_law_1303 : decode cL_law 1303 = .ok (.aload_n 0, 1) := by decide +kernel
theorem dL_law_1304 : decode cL_law 1304 = .ok (.iload_n 3, 1) := by decide +kernel
theorem dL_law_1305 : decode cL_law 1305 = .ok (.iconst 2, 1) := by decide +kernel
theorem dL_law_1306 : decode cL_law 1306 = .ok (.iadd, 1) := by decide +kernel
theorem dL_law_1307 : decode cL_law 1307 = .ok (.iaload, 1) := by decide +kernel
theorem dL_law_1308 : decode cL_law 1308 = .ok (.ifCond .eq 7, 3) := by decide +kernel
theorem dL_law_1311 : decode cL_law 1311 = .ok (.iconst 1, 1) := by decide +kernel
theorem dL_law_1312 : decode cL_law 1312 = .ok (.goto 4, 3) := by decide +kernel
theorem dL_law_1315 : decode cL_law 1315 = .ok (.iconst 0, 1) := by decide +kernel
theorem dL_law_1316 : decode cL_law 1316 = .ok (.invokevirtual 151, 3) := by decide +kernel
theorem dL_law_1319 : decode cL_law 1319 = .ok (.aload_n 2, 1) := by decide +kernel
theorem dL_law_1320 : decode cL_law 1320 = .ok (.aload_n 0, 1) := by decide +kernel
theorem dL_law_1321 : decode cL_law 1321 = .ok (.iload_n 3, 1) := by decide +kernel
theorem dL_law_1322 : decode cL_law 1322 = .ok (.iconst 1, 1) := by decide +kernel
theorem dL_law_1323 : decode cL_law 1323 = .ok (.iadd, 1) := by decide +kernel
theorem dL_law_1324 : decode cL_law 1324 = .ok (.iaload, 1) := by decide +kernel
theorem dL_law_1325 : decode cL_law 1325 = .ok (.aload_n 0, 1) := by decide +kernel
theorem dL_law_1326 : decode cL_law 1326 = .ok (.iload_n 3, 1) := by decide +kernel
theorem dL_law_1327 : decode cL_law 1327 = .ok (.iconst 2, 1) := by decide +kernel
theorem dL_law_1328 : decode cL_law 1328 = .ok (.iadd, 1) := by decide +kernel
theorem dL_law_1329 : decode cL_law 1329 = .ok (.iaload, 1) := by decide +kernel
theorem dL_law_1330 : decode cL_law 1330 = .ok (.ifCond .eq 7, 3) := by decide +kernel
theorem dL_law_1333 : decode cL_law 1333 = .ok (.iconst 1, 1) := by decide +kernel
theorem dL_law_1334 : decode cL_law 1334 = .ok (.goto 4, 3) := by decide +kernel
theorem dL_law_1337 : decode cL_law 1337 = .ok (.iconst 0, 1) := by decide +kernel
theorem dL_law_1338 : decode cL_law 1338 = .ok (.invokevirtual 155, 3) := by decide +kernel
theorem dL_law_1341 : decode cL_law 1341 = .ok (.if_icmp .eq 111, 3) := by decide +kernel
theorem dL_law_1344 : decode cL_law 1344 = .ok (.iconst 0, 1) := by decide +kernel
theorem dL_law_1345 : decode cL_law 1345 = .ok (.ireturn, 1) := by decide +kernel
theorem dL_law_1346 : decode cL_law 1346 = .ok (.aload_n 1, 1) := by decide +kernel
theorem dL_law_1347 : decode cL_law 1347 = .ok (.aload_n 0, 1) := by decide +kernel
theorem dL_law_1348 : decode cL_law 1348 = .ok (.iload_n 3, 1) := by decide +kernel
theorem dL_law_1349 : decode cL_law 1349 = .ok (.iconst 1, 1) := by decide +kernel
theorem dL_law_1350 : decode cL_law 1350 = .ok (.iadd, 1) := by decide +kernel
theorem dL_law_1351 : decode cL_law 1351 = .ok (.iaload, 1) := by decide +kernel
theorem dL_law_1352 : decode cL_law 1352 = .ok (.invokevirtual 156, 3) := by decide +kernel
theorem dL_law_1355 : decode cL_law 1355 = .ok (.aload_n 2, 1) := by decide +kernel
theorem dL_law_1356 : decode cL_law 1356 = .ok (.aload_n 0, 1) := by decide +kernel
theorem dL_law_1357 : decode cL_law 1357 = .ok (.iload_n 3, 1) := by decide +kernel
theorem dL_law_1358 : decode cL_law 1358 = .ok (.iconst 1, 1) := by decide +kernel
theorem dL_law_1359 : decode cL_law 1359 = .ok (.iadd, 1) := by decide +kernel
theorem dL_law_1360 : decode cL_law 1360 = .ok (.iaload, 1) := by decide +kernel
theorem dL_law_1361 : decode cL_law 1361 = .ok (.invokevirtual 159, 3) := by decide +kernel
theorem dL_law_1364 : decode cL_law 1364 = .ok (.if_icmp .eq 88, 3) := by decide +kernel
theorem dL_law_1367 : decode cL_law 1367 = .ok (.iconst 0, 1) := by decide +kernel
theorem dL_law_1368 : decode cL_law 1368 = .ok (.ireturn, 1) := by decide +kernel
theorem dL_law_1369 : decode cL_law 1369 = .ok (.aload_n 1, 1) := by decide +kernel
theorem dL_law_1370 : decode cL_law 1370 = .ok (.aload_n 0, 1) := by decide +kernel
theorem dL_law_1371 : decode cL_law 1371 = .ok (.iload_n 3, 1) := by decide +kernel
theorem dL_law_1372 : decode cL_law 1372 = .ok (.iconst 1, 1) := by decide +kernel
theorem dL_law_1373 : decode cL_law 1373 = .ok (.iadd, 1) := by decide +kernel
theorem dL_law_1374 : decode cL_law 1374 = .ok (.iaload, 1) := by decide +kernel
theorem dL_law_1375 : decode cL_law 1375 = .ok (.invokevirtual 160, 3) := by decide +kernel
theorem dL_law_1378 : decode cL_law 1378 = .ok (.aload_n 2, 1) := by decide +kernel
theorem dL_law_1379 : decode cL_law 1379 = .ok (.aload_n 0, 1) := by decide +kernel
theorem dL_law_1380 : decode cL_law 1380 = .ok (.iload_n 3, 1) := by decide +kernel
theorem dL_law_1381 : decode cL_law 1381 = .ok (.iconst 1, 1) := by decide +kernel
theorem dL_law_1382 : decode cL_law 1382 = .ok (.iadd, 1) := by decide +kernel
theorem dL_law_1383 : decode cL_law 1383 = .ok (.iaload, 1) := by decide +kernel
theorem dL_law_1384 : decode cL_law 1384 = .ok (.invokevirtual 163, 3) := by decide +kernel
theorem dL_law_1387 : decode cL_law 1387 = .ok (.if_icmp .eq 65, 3) := by decide +kernel
theorem dL_law_1390 : decode cL_law 1390 = .ok (.iconst 0, 1) := by decide +kernel
theorem dL_law_1391 : decode cL_law 1391 = .ok (.ireturn, 1) := by decide +kernel
theorem dL_law_1392 : decode cL_law 1392 = .ok (.aload_n 1, 1) := by decide +kernel
theorem dL_law_1393 : decode cL_law 1393 = .ok (.aload_n 0, 1) := by decide +kernel
theorem dL_law_1394 : decode cL_law 1394 = .ok (.iload_n 3, 1) := by decide +kernel
theorem dL_law_1395 : decode cL_law 1395 = .ok (.iconst 1, 1) := by decide +kernel
theorem dL_law_1396 : decode cL_law 1396 = .ok (.iadd, 1) := by decide +kernel
theorem dL_law_1397 : decode cL_law 1397 = .ok (.iaload, 1) := by decide +kernel
theorem dL_law_1398 : decode cL_law 1398 = .ok (.invokevirtual 164, 3) := by decide +kernel
theorem dL_law_1401 : decode cL_law 1401 = .ok (.aload_n 2, 1) := by decide +kernel
theorem dL_law_1402 : decode cL_law 1402 = .ok (.aload_n 0, 1) := by decide +kernel
theorem dL_law_1403 : decode cL_law 1403 = .ok (.iload_n 3, 1) := by decide +kernel
theorem dL_law_1404 : decode cL_law 1404 = .ok (.iconst 1, 1) := by decide +kernel
theorem dL_law_1405 : decode cL_law 1405 = .ok (.iadd, 1) := by decide +kernel
theorem dL_law_1406 : decode cL_law 1406 = .ok (.iaload, 1) := by decide +kernel
theorem dL_law_1407 : decode cL_law 1407 = .ok (.invokevirtual 167, 3) := by decide +kernel
theorem dL_law_1410 : decode cL_law 1410 = .ok (.lcmp, 1) := by decide +kernel
theorem dL_law_1411 : decode cL_law 1411 = .ok (.ifCond .eq 41, 3) := by decide +kernel
theorem dL_law_1414 : decode cL_law 1414 = .ok (.iconst 0, 1) := by decide +kernel
theorem dL_law_1415 : decode cL_law 1415 = .ok (.ireturn, 1) := by decide +kernel
theorem dL_law_1416 : decode cL_law 1416 = .ok (.aload_n 1, 1) := by decide +kernel
theorem dL_law_1417 : decode cL_law 1417 = .ok (.invokevirtual 168, 3) := by decide +kernel
theorem dL_law_1420 : decode cL_law 1420 = .ok (.aload_n 2, 1) := by decide +kernel
theorem dL_law_1421 : decode cL_law 1421 = .ok (.invokevirtual 171, 3) := by decide +kernel
theorem dL_law_1424 : decode cL_law 1424 = .ok (.if_icmp .eq 28, 3) := by decide +kernel
theorem dL_law_1427 : decode cL_law 1427 = .ok (.iconst 0, 1) := by decide +kernel
theorem dL_law_1428 : decode cL_law 1428 = .ok (.ireturn, 1) := by decide +kernel
theorem dL_law_1429 : decode cL_law 1429 = .ok (.aload_n 1, 1) := by decide +kernel
theorem dL_law_1430 : decode cL_law 1430 = .ok (.aload_n 0, 1) := by decide +kernel
theorem dL_law_1431 : decode cL_law 1431 = .ok (.iload_n 3, 1) := by decide +kernel
theorem dL_law_1432 : decode cL_law 1432 = .ok (.iconst 1, 1) := by decide +kernel
theorem dL_law_1433 : decode cL_law 1433 = .ok (.iadd, 1) := by decide +kernel
theorem dL_law_1434 : decode cL_law 1434 = .ok (.iaload, 1) := by decide +kernel
theorem dL_law_1435 : decode cL_law 1435 = .ok (.invokevirtual 172, 3) := by decide +kernel
theorem dL_law_1438 : decode cL_law 1438 = .ok (.aload_n 2, 1) := by decide +kernel
theorem dL_law_1439 : decode cL_law 1439 = .ok (.aload_n 0, 1) := by decide +kernel
theorem dL_law_1440 : decode cL_law 1440 = .ok (.iload_n 3, 1) := by decide +kernel
theorem dL_law_1441 : decode cL_law 1441 = .ok (.iconst 1, 1) := by decide +kernel
theorem dL_law_1442 : decode cL_law 1442 = .ok (.iadd, 1) := by decide +kernel
theorem dL_law_1443 : decode cL_law 1443 = .ok (.iaload, 1) := by decide +kernel
theorem dL_law_1444 : decode cL_law 1444 = .ok (.invokevirtual 175, 3) := by decide +kernel
theorem dL_law_1447 : decode cL_law 1447 = .ok (.if_icmp .eq 5, 3) := by decide +kernel
theorem dL_law_1450 : decode cL_law 1450 = .ok (.iconst 0, 1) := by decide +kernel
theorem dL_law_1451 : decode cL_law 1451 = .ok (.ireturn, 1) := by decide +kernel
theorem dL_law_1452 : decode cL_law 1452 = .ok (.iinc 3 6, 3) := by decide +kernel
theorem dL_law_1455 : decode cL_law 1455 = .ok (.goto (-1437), 3) := by decide +kernel
theorem dL_law_1458 : decode cL_law 1458 = .ok (.iconst 1, 1) := by decide +kernel
theorem dL_law_1459 : decode cL_law 1459 = .ok (.ireturn, 1) := by decide +kernel
