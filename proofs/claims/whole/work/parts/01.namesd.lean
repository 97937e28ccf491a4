theorem dX12_init_237 : decode cX12_init 237 = .ok (.newarray .int, 2) := by decide +kernel
theorem dX12_init_239 : decode cX12_init 239 = .ok (.putfield 96, 3) := by decide +kernel
theorem dX12_init_242 : decode cX12_init 242 = .ok (.aload_n 0, 1) := by decide +kernel
theorem dX12_init_243 : decode cX12_init 243 = .ok (.bipush 60, 2) := by decide +kernel
theorem dX12_init_245 : decode cX12_init 245 = .ok (.newarray .int, 2) := by decide +kernel
theorem dX12_init_247 : decode cX12_init 247 = .ok (.putfield 99, 3) := by decide +kernel
theorem dX12_init_250 : decode cX12_init 250 = .ok (.aload_n 0, 1) := by decide +kernel
theorem dX12_init_251 : decode cX12_init 251 = .ok (.bipush 6, 2) := by decide +kernel
theorem dX12_init_253 : decode cX12_init 253 = .ok (.newarray .int, 2) := by decide +kernel
theorem dX12_init_255 : decode cX12_init 255 = .ok (.putfield 102, 3) := by decide +kernel
theorem dX12_init_258 : decode cX12_init 258 = .ok (.aload_n 0, 1) := by decide +kernel
theorem dX12_init_259 : decode cX12_init 259 = .ok (.sipush 3216, 3) := by decide +kernel
theorem dX12_init_262 : decode cX12_init 262 = .ok (.newarray .long, 2) := by decide +kernel
theorem dX12_init_264 : decode cX12_init 264 = .ok (.putfield 105, 3) := by decide +kernel
theorem dX12_init_267 : decode cX12_init 267 = .ok (.iconst 0, 1) := by decide +kernel
theorem dX12_init_268 : decode cX12_init 268 = .ok (.istore_n 1, 1) := by decide +kernel
theorem dX12_init_269 : decode cX12_init 269 = .ok (.iload_n 1, 1) := by decide +kernel
theorem dX12_init_270 : decode cX12_init 270 = .ok (.bipush 6, 2) := by decide +kernel
theorem dX12_init_272 : decode cX12_init 272 = .ok (.if_icmp .ge 16, 3) := by decide +kernel
theorem dX12_init_275 : decode cX12_init 275 = .ok (.aload_n 0, 1) := by decide +kernel
theorem dX12_init_276 : decode cX12_init 276 = .ok (.getfield 38, 3) := by decide +kernel
theorem dX12_init_279 : decode cX12_init 279 = .ok (.iload_n 1, 1) := by decide +kernel
theorem dX12_init_280 : decode cX12_init 280 = .ok (.iconst 1, 1) := by decide +kernel
theorem dX12_init_281 : decode cX12_init 281 = .ok (.iastore, 1) := by decide +kernel
theorem dX12_init_282 : decode cX12_init 282 = .ok (.iinc 1 1, 3) := by decide +kernel
theorem dX12_init_285 : decode cX12_init 285 = .ok (.goto (-16), 3) := by decide +kernel
theorem dX12_init_288 : decode cX12_init 288 = .ok (.aload_n 0, 1) := by decide +kernel
theorem dX12_init_289 : decode cX12_init 289 = .ok (.invokevirtual 108, 3) := by decide +kernel
theorem dX12_init_292 : decode cX12_init 292 = .ok (.aload_n 0, 1) := by decide +kernel
theorem dX12_init_293 : decode cX12_init 293 = .ok (.invokevirtual 111, 3) := by decide +kernel
theorem dX12_init_296 : decode cX12_init 296 = .ok (.return_, 1) := by decide +kernel
theorem dX12_isIn_0 : decode cX12_isIn 0 = .ok (.lload_n 0, 1) := by decide +kernel
theorem dX12_isIn_1 : decode cX12_isIn 1 = .ok (.lload_n 2, 1) := by decide +kernel
theorem dX12_isIn_2 : decode cX12_isIn 2 = .ok (.lcmp, 1) := by decide +kernel
theorem dX12_isIn_3 : decode cX12_isIn 3 = .ok (.ifCond .lt 14, 3) := by decide +kernel
theorem dX12_isIn_6 : decode cX12_isIn 6 = .ok (.lload_n 0, 1) := by decide +kernel
theorem dX12_isIn_7 : decode cX12_isIn 7 = .ok (.lload 4, 2) := by decide +kernel
theorem dX12_isIn_9 : decode cX12_isIn 9 = .ok (.lcmp, 1) := by decide +kernel
theorem dX12_isIn_10 : decode cX12_isIn 10 = .ok (.ifCond .gt 7, 3) := by decide +kernel
theorem dX12_isIn_13 : decode cX12_isIn 13 = .ok (.iconst 1, 1) := by decide +kernel
theorem dX12_isIn_14 : decode cX12_isIn 14 = .ok (.goto 4, 3) := by decide +kernel
theorem dX12_isIn_17 : decode cX12_isIn 17 = .ok (.iconst 0, 1) := by decide +kernel
theorem dX12_isIn_18 : decode cX12_isIn 18 = .ok (.ireturn, 1) := by decide +kernel
theorem dX12_no_0 : decode cX12_no 0 = .ok (.aload_n 0, 1) := by decide +kernel
theorem dX12_no_1 : decode cX12_no 1 = .ok (.getfield 78, 3) := by decide +kernel
theorem dX12_no_4 : decode cX12_no 4 = .ok (.iload_n 1, 1) := by decide +kernel
theorem dX12_no_5 : decode cX12_no 5 = .ok (.ineg, 1) := by decide +kernel
theorem dX12_no_6 : decode cX12_no 6 = .ok (.dup2, 1) := by decide +kernel
theorem dX12_no_7 : decode cX12_no 7 = .ok (.iaload, 1) := by decide +kernel
theorem dX12_no_8 : decode cX12_no 8 = .ok (.iconst 1, 1) := by decide +kernel
theorem dX12_no_9 : decode cX12_no 9 = .ok (.iadd, 1) := by decide +kernel
theorem dX12_no_10 : decode cX12_no 10 = .ok (.iastore, 1) := by decide +kernel
theorem dX12_no_11 : decode cX12_no 11 = .ok (.aload_n 0, 1) := by decide +kernel
theorem dX12_no_12 : decode cX12_no 12 = .ok (.iload_n 1, 1) := by decide +kernel
theorem dX12_no_13 : decode cX12_no 13 = .ok (.putfield 114, 3) := by decide +kernel
theorem dX12_no_16 : decode cX12_no 16 = .ok (.iload_n 1, 1) := by decide +kernel
theorem dX12_no_17 : decode cX12_no 17 = .ok (.ireturn, 1) := by decide +kernel
theorem dX12_isAct_0 : decode cX12_isAct 0 = .ok (.iload_n 1, 1) := by decide +kernel
theorem dX12_isAct_1 : decode cX12_isAct 1 = .ok (.ifCond .lt 15, 3) := by decide +kernel
theorem dX12_isAct_4 : decode cX12_isAct 4 = .ok (.iload_n 1, 1) := by decide +kernel
theorem dX12_isAct_5 : decode cX12_isAct 5 = .ok (.aload_n 0, 1) := by decide +kernel
theorem dX12_isAct_6 : decode cX12_isAct 6 = .ok (.getfield 118, 3) := by decide +kernel
theorem dX12_isAct_9 : decode cX12_isAct 9 = .ok (.if_icmp .ge 7, 3) := by decide +kernel
theorem dX12_isAct_12 : decode cX12_isAct 12 = .ok (.iconst 1, 1) := by decide +kernel
theorem dX12_isAct_13 : decode cX12_isAct 13 = .ok (.goto 4, 3) := by decide +kernel
theorem dX12_isAct_16 : decode cX12_isAct 16 = .ok (.iconst 0, 1) := by decide +kernel
theorem dX12_isAct_17 : decode cX12_isAct 17 = .ok (.ireturn, 1) := by decide +kernel
theorem dX12_changes_0 : decode cX12_changes 0 = .ok (.aload_n 0, 1) := by decide +kernel
theorem dX12_changes_1 : decode cX12_changes 1 = .ok (.iconst 0, 1) := by decide +kernel
theorem dX12_changes_2 : decode cX12_changes 2 = .ok (.putfield 121, 3) := by decide +kernel
theorem dX12_changes_5 : decode cX12_changes 5 = .ok (.aload_n 0, 1) := by decide +kernel
theorem dX12_changes_6 : decode cX12_changes 6 = .ok (.invokevirtual 108, 3) := by decide +kernel
theorem dX12_changes_9 : decode cX12_changes 9 = .ok (.return_, 1) := by decide +kernel
theorem dX12_adds_0 : decode cX12_adds 0 = .ok (.aload_n 0, 1) := by decide +kernel
theorem dX12_adds_1 : decode cX12_adds 1 = .ok (.getfield 118, 3) := by decide +kernel
theorem dX12_adds_4 : decode cX12_adds 4 = .ok (.bipush 16, 2) := by decide +kernel
theorem dX12_adds_6 : decode cX12_adds 6 = .ok (.if_icmp .ne 10, 3) := by decide +kernel
theorem dX12_adds_9 : decode cX12_adds 9 = .ok (.aload_n 0, 1) := by decide +kernel
theorem dX12_adds_10 : decode cX12_adds 10 = .ok (.bipush (-10), 2) := by decide +kernel
theorem dX12_adds_12 : decode cX12_adds 12 = .ok (.invokevirtual 124, 3) := by decide +kernel
theorem dX12_adds_15 : decode cX12_adds 15 = .ok (.ireturn, 1) := by decide +kernel
theorem dX12_adds_16 : decode cX12_adds 16 = .ok (.aload_n 0, 1) := by decide +kernel
theorem dX12_adds_17 : decode cX12_adds 17 = .ok (.getfield 118, 3) := by decide +kernel
theorem dX12_adds_20 : decode cX12_adds 20 = .ok (.istore 7, 2) := by decide +kernel
theorem dX12_adds_22 : decode cX12_adds 22 = .ok (.aload_n 0, 1) := by decide +kernel
theorem dX12_adds_23 : decode cX12_adds 23 = .ok (.dup, 1) := by decide +kernel
theorem dX12_adds_24 : decode cX12_adds 24 = .ok (.getfield 118, 3) := by decide +kernel
theorem dX12_adds_27 : decode cX12_adds 27 = .ok (.iconst 1, 1) := by decide +kernel
theorem dX12_adds_28 : decode cX12_adds 28 = .ok (.iadd, 1) := by decide +kernel
theorem dX12_adds_29 : decode cX12_adds 29 = .ok (.putfield 118, 3) := by decide +kernel
theorem dX12_adds_32 : decode cX12_adds 32 = .ok (.aload_n 0, 1) := by decide +kernel
theorem dX12_adds_33 : decode cX12_adds 33 = .ok (.getfield 7, 3) := by decide +kernel
theorem dX12_adds_36 : decode cX12_adds 36 = .ok (.iload 7, 2) := by decide +kernel
theorem dX12_adds_38 : decode cX12_adds 38 = .ok (.iload_n 1, 1) := by decide +kernel
theorem dX12_adds_39 : decode cX12_adds 39 = .ok (.iastore, 1) := by decide +kernel
theorem dX12_adds_40 : decode cX12_adds 40 = .ok (.aload_n 0, 1) := by decide +kernel
theorem dX12_adds_41 : decode cX12_adds 41 = .ok (.getfield 13, 3) := by decide +kernel
theorem dX12_adds_44 : decode cX12_adds 44 = .ok (.iload 7, 2) := by decide +kernel
theorem dX12_adds_46 : decode cX12_adds 46 = .ok (.iconst 1, 1) := by decide +kernel
theorem dX12_adds_47 : decode cX12_adds 47 = .ok (.iastore, 1) := by decide +kernel
theorem dX12_adds_48 : decode cX12_adds 48 = .ok (.aload_n 0, 1) := by decide +kernel
theorem dX12_adds_49 : decode cX12_adds 49 = .ok (.getfield 16, 3) := by decide +kernel
theorem dX12_adds_52 : decode cX12_adds 52 = .ok (.iload 7, 2) := by decide +kernel
theorem dX12_adds_54 : decode cX12_adds 54 = .ok (.iconst 0, 1) := by decide +kernel
theorem dX12_adds_55 : decode cX12_adds 55 = .ok (.iastore, 1) := by decide +kernel
theorem dX12_adds_56 : decode cX12_adds 56 = .ok (.aload_n 0, 1) := by decide +kernel
theorem dX12_adds_57 : decode cX12_adds 57 = .ok (.getfield 19, 3) := by decide +kernel
theorem dX12_adds_60 : decode cX12_adds 60 = .ok (.iload 7, 2) := by decide +kernel
theorem dX12_adds_62 : decode cX12_adds 62 = .ok (.iconst 1, 1) := by decide +kernel
theorem dX12_adds_63 : decode cX12_adds 63 = .ok (.iastore, 1) := by decide +kernel
theorem dX12_adds_64 : decode cX12_adds 64 = .ok (.aload_n 0, 1) := by decide +kernel
theorem dX12_adds_65 : decode cX12_adds 65 = .ok (.getfield 22, 3) := by decide +kernel
theorem dX12_adds_68 : decode cX12_adds 68 = .ok (.iload 7, 2) := by decide +kernel
theorem dX12_adds_70 : decode cX12_adds 70 = .ok (.iload_n 2, 1) := by decide +kernel
theorem dX12_adds_71 : decode cX12_adds 71 = .ok (.iastore, 1) := by decide +kernel
theorem dX12_adds_72 : decode cX12_adds 72 = .ok (.aload_n 0, 1) := by decide +kernel
theorem dX12_adds_73 : decode cX12_adds 73 = .ok (.getfield 31, 3) := by decide +kernel
theorem dX12_adds_76 : decode cX12_adds 76 = .ok (.iload 7, 2) := by decide +kernel
theorem dX12_adds_78 : decode cX12_adds 78 = .ok (.lconst 0, 1) := by decide +kernel
theorem dX12_adds_79 : decode cX12_adds 79 = .ok (.lastore, 1) := by decide +kernel
theorem dX12_adds_80 : decode cX12_adds 80 = .ok (.aload_n 0, 1) := by decide +kernel
theorem dX12_adds_81 : decode cX12_adds 81 = .ok (.getfield 35, 3) := by decide +kernel
theorem dX12_adds_84 : decode cX12_adds 84 = .ok (.iload 7, 2) := by decide +kernel
theorem dX12_adds_86 : decode cX12_adds 86 = .ok (.lconst 0, 1) := by decide +kernel
theorem dX12_adds_87 : decode cX12_adds 87 = .ok (.lastore, 1) := by decide +kernel
theorem dX12_adds_88 : decode cX12_adds 88 = .ok (.aload_n 0, 1) := by decide +kernel
theorem dX12_adds_89 : decode cX12_adds 89 = .ok (.iload 7, 2) := by decide +kernel
theorem dX12_adds_91 : decode cX12_adds 91 = .ok (.iconst 0, 1) := by decide +kernel
theorem dX12_adds_92 : decode cX12_adds 92 = .ok (.iload_n 3, 1) := by decide +kernel
theorem dX12_adds_93 : decode cX12_adds 93 = .ok (.iload 4, 2) := by decide +kernel
theorem dX12_adds_95 : decode cX12_adds 95 = .ok (.invokevirtual 128, 3) := by decide +kernel
theorem dX12_adds_98 : decode cX12_adds 98 = .ok (.aload_n 0, 1) := by decide +kernel
theorem dX12_adds_99 : decode cX12_adds 99 = .ok (.iload 7, 2) := by decide +kernel
theorem dX12_adds_101 : decode cX12_adds 101 = .ok (.iconst 1, 1) := by decide +kernel
theorem dX12_adds_102 : decode cX12_adds 102 = .ok (.iload 5, 2) := by decide +kernel
theorem dX12_adds_104 : decode cX12_adds 104 = .ok (.iload 6, 2) := by decide +kernel
theorem dX12_adds_106 : decode cX12_adds 106 = .ok (.invokevirtual 128, 3) := by decide +kernel
theorem dX12_adds_109 : decode cX12_adds 109 = .ok (.aload_n 0, 1) := by decide +kernel
theorem dX12_adds_110 : decode cX12_adds 110 = .ok (.iload 7, 2) := by decide +kernel
theorem dX12_adds_112 : decode cX12_adds 112 = .ok (.iconst 2, 1) := by decide +kernel
theorem dX12_adds_113 : decode cX12_adds 113 = .ok (.iconst (-1), 1) := by decide +kernel
theorem dX12_adds_114 : decode cX12_adds 114 = .ok (.iconst (-1), 1) := by decide +kernel
theorem dX12_adds_115 : decode cX12_adds 115 = .ok (.invokevirtual 128, 3) := by decide +kernel
theorem dX12_adds_118 : decode cX12_adds 118 = .ok (.aload_n 0, 1) := by decide +kernel
theorem dX12_adds_119 : decode cX12_adds 119 = .ok (.invokevirtual 132, 3) := by decide +kernel
theorem dX12_adds_122 : decode cX12_adds 122 = .ok (.iload 7, 2) := by decide +kernel
theorem dX12_adds_124 : decode cX12_adds 124 = .ok (.ireturn, 1) := by decide +kernel
theorem dX12_operand_0 : decode cX12_operand 0 = .ok (.aload_n 0, 1) := by decide +kernel
theorem dX12_operand_1 : decode cX12_operand 1 = .ok (.getfield 25, 3) := by decide +kernel
theorem dX12_operand_4 : decode cX12_operand 4 = .ok (.iconst 3, 1) := by decide +kernel
theorem dX12_operand_5 : decode cX12_operand 5 = .ok (.iload_n 1, 1) := by decide +kernel
theorem dX12_operand_6 : decode cX12_operand 6 = .ok (.imul, 1) := by decide +kernel
theorem dX12_operand_7 : decode cX12_operand 7 = .ok (.iload_n 2, 1) := by decide +kernel
theorem dX12_operand_8 : decode cX12_operand 8 = .ok (.iadd, 1) := by decide +kernel
theorem dX12_operand_9 : decode cX12_operand 9 = .ok (.iload_n 3, 1) := by decide +kernel
theorem dX12_operand_10 : decode cX12_operand 10 = .ok (.iastore, 1) := by decide +kernel
theorem dX12_operand_11 : decode cX12_operand 11 = .ok (.aload_n 0, 1) := by decide +kernel
theorem dX12_operand_12 : decode cX12_operand 12 = .ok (.getfield 28, 3) := by decide +kernel
theorem dX12_operand_15 : decode cX12_operand 15 = .ok (.iconst 3, 1) := by decide +kernel
theorem dX12_operand_16 : decode cX12_operand 16 = .ok (.iload_n 1, 1) := by decide +kernel
theorem dX12_operand_17 : decode cX12_operand 17 = .ok (.imul, 1) := by decide +kernel
theorem dX12_operand_18 : decode cX12_operand 18 = .ok (.iload_n 2, 1) := by decide +kernel
theorem dX12_operand_19 : decode cX12_operand 19 = .ok (.iadd, 1) := by decide +kernel
theorem dX12_operand_20 : decode cX12_operand 20 = .ok (.iload 4, 2) := by decide +kernel
theorem dX12_operand_22 : decode cX12_operand 22 = .ok (.iastore, 1) := by decide +kernel
theorem dX12_operand_23 : decode cX12_operand 23 = .ok (.return_, 1) := by decide +kernel
theorem dX12_areTurns_0 : decode cX12_areTurns 0 = .ok (.iload_n 0, 1) := by decide +kernel
theorem dX12_areTurns_1 : decode cX12_areTurns 1 = .ok (.i2l, 1) := by decide +kernel
theorem dX12_areTurns_2 : decode cX12_areTurns 2 = .ok (.lconst 0, 1) := by decide +kernel
theorem dX12_areTurns_3 : decode cX12_areTurns 3 = .ok (.ldc2_w 135, 3) := by decide +kernel
theorem dX12_areTurns_6 : decode cX12_areTurns 6 = .ok (.invokestatic 137, 3) := by decide +kernel
theorem dX12_areTurns_9 : decode cX12_areTurns 9 = .ok (.ireturn, 1) := by decide +kernel
theorem dX12_isBeyond_0 : decode cX12_isBeyond 0 = .ok (.iload_n 1, 1) := by decide +kernel
theorem dX12_isBeyond_1 : decode cX12_isBeyond 1 = .ok (.i2l, 1) := by decide +kernel
theorem dX12_isBeyond_2 : decode cX12_isBeyond 2 = .ok (.lconst 0, 1) := by decide +kernel
theorem dX12_isBeyond_3 : decode cX12_isBeyond 3 = .ok (.ldc2_w 141, 3) := by decide +kernel
theorem dX12_isBeyond_6 : decode cX12_isBeyond 6 = .ok (.invokestatic 137, 3) := by decide +kernel
theorem dX12_isBeyond_9 : decode cX12_isBeyond 9 = .ok (.ifCond .eq 15, 3) := by decide +kernel
theorem dX12_isBeyond_12 : decode cX12_isBeyond 12 = .ok (.iload_n 2, 1) := by decide +kernel
theorem dX12_isBeyond_13 : decode cX12_isBeyond 13 = .ok (.ifCond .ne 15, 3) := by decide +kernel
theorem dX12_isBeyond_16 : decode cX12_isBeyond 16 = .ok (.iload_n 1, 1) := by decide +kernel
theorem dX12_isBeyond_17 : decode cX12_isBeyond 17 = .ok (.aload_n 0, 1) := by decide +kernel
theorem dX12_isBeyond_18 : decode cX12_isBeyond 18 = .ok (.getfield 118, 3) := by decide +kernel
theorem dX12_isBeyond_21 : decode cX12_isBeyond 21 = .ok (.if_icmp .lt 7, 3) := by decide +kernel
theorem dX12_isBeyond_24 : decode cX12_isBeyond 24 = .ok (.iconst 1, 1) := by decide +kernel
theorem dX12_isBeyond_25 : decode cX12_isBeyond 25 = .ok (.goto 4, 3) := by decide +kernel
theorem dX12_isBeyond_28 : decode cX12_isBeyond 28 = .ok (.iconst 0, 1) := by decide +kernel
theorem dX12_isBeyond_29 : decode cX12_isBeyond 29 = .ok (.ireturn, 1) := by decide +kernel
theorem dX12_put_0 : decode cX12_put 0 = .ok (.aload_n 0, 1) := by decide +kernel
theorem dX12_put_1 : decode cX12_put 1 = .ok (.iconst 0, 1) := by decide +kernel
theorem dX12_put_2 : decode cX12_put 2 = .ok (.iconst (-1), 1) := by decide +kernel
theorem dX12_put_3 : decode cX12_put 3 = .ok (.iconst (-1), 1) := by decide +kernel
theorem dX12_put_4 : decode cX12_put 4 = .ok (.iconst (-1), 1) := by decide +kernel
theorem dX12_put_5 : decode cX12_put 5 = .ok (.iconst (-1), 1) := by decide +kernel
theorem dX12_put_6 : decode cX12_put 6 = .ok (.iconst (-1), 1) := by decide +kernel
theorem dX12_put_7 : decode cX12_put 7 = .ok (.invokevirtual 143, 3) := by decide +kernel
theorem dX12_put_10 : decode cX12_put 10 = .ok (.istore_n 3, 1) := by decide +kernel
theorem dX12_put_11 : decode cX12_put 11 = .ok (.iload_n 3, 1) := by decide +kernel
theorem dX12_put_12 : decode cX12_put 12 = .ok (.ifCond .lt 10, 3) := by decide +kernel
theorem dX12_put_15 : decode cX12_put 15 = .ok (.aload_n 0, 1) := by decide +kernel
theorem dX12_put_16 : decode cX12_put 16 = .ok (.getfield 35, 3) := by decide +kernel
theorem dX12_put_19 : decode cX12_put 19 = .ok (.iload_n 3, 1) := by decide +kernel
theorem dX12_put_20 : decode cX12_put 20 = .ok (.lload_n 1, 1) := by decide +kernel
theorem dX12_put_21 : decode cX12_put 21 = .ok (.lastore, 1) := by decide +kernel
theorem dX12_put_22 : decode cX12_put 22 = .ok (.iload_n 3, 1) := by decide +kernel
theorem dX12_put_23 : decode cX12_put 23 = .ok (.ireturn, 1) := by decide +kernel
theorem dX12_reckon_0 : decode cX12_reckon 0 = .ok (.iload_n 1, 1) := by decide +kernel
theorem dX12_reckon_1 : decode cX12_reckon 1 = .ok (.i2l, 1) := by decide +kernel
theorem dX12_reckon_2 : decode cX12_reckon 2 = .ok (.lconst 1, 1) := by decide +kernel
theorem dX12_reckon_3 : decode cX12_reckon 3 = .ok (.ldc2_w 147, 3) := by decide +kernel
theorem dX12_reckon_6 : decode cX12_reckon 6 = .ok (.invokestatic 137, 3) := by decide +kernel
theorem dX12_reckon_9 : decode cX12_reckon 9 = .ok (.ifCond .eq 18, 3) := by decide +kernel
theorem dX12_reckon_12 : decode cX12_reckon 12 = .ok (.iload_n 3, 1) := by decide +kernel
theorem dX12_reckon_13 : decode cX12_reckon 13 = .ok (.invokestatic 149, 3) := by decide +kernel
theorem dX12_reckon_16 : decode cX12_reckon 16 = .ok (.ifCond .eq 11, 3) := by decide +kernel
theorem dX12_reckon_19 : decode cX12_reckon 19 = .ok (.iload 5, 2) := by decide +kernel
theorem dX12_reckon_21 : decode cX12_reckon 21 = .ok (.invokestatic 149, 3) := by decide +kernel
theorem dX12_reckon_24 : decode cX12_reckon 24 = .ok (.ifCond .ne 10, 3) := by decide +kernel
theorem dX12_reckon_27 : decode cX12_reckon 27 = .ok (.aload_n 0, 1) := by decide +kernel
theorem dX12_reckon_28 : decode cX12_reckon 28 = .ok (.bipush (-9), 2) := by decide +kernel
theorem dX12_reckon_30 : decode cX12_reckon 30 = .ok (.invokevirtual 124, 3) := by decide +kernel
theorem dX12_reckon_33 : decode cX12_reckon 33 = .ok (.ireturn, 1) := by decide +kernel
theorem dX12_reckon_34 : decode cX12_reckon 34 = .ok (.aload_n 0, 1) := by decide +kernel
theorem dX12_reckon_35 : decode cX12_reckon 35 = .ok (.iload_n 2, 1) := by decide +kernel
theorem dX12_reckon_36 : decode cX12_reckon 36 = .ok (.iload_n 3, 1) := by decide +kernel
theorem dX12_reckon_37 : decode cX12_reckon 37 = .ok (.invokevirtual 153, 3) := by decide +kernel
theorem dX12_reckon_40 : decode cX12_reckon 40 = .ok (.ifCond .ne 14, 3) := by decide +kernel
theorem dX12_reckon_43 : decode cX12_reckon 43 = .ok (.aload_n 0, 1) := by decide +kernel
theorem dX12_reckon_44 : decode cX12_reckon 44 = .ok (.iload 4, 2) := by decide +kernel
theorem dX12_reckon_46 : decode cX12_reckon 46 = .ok (.iload 5, 2) := by decide +kernel
theorem dX12_reckon_48 : decode cX12_reckon 48 = .ok (.invokevirtual 153, 3) := by decide +kernel
theorem dX12_reckon_51 : decode cX12_reckon 51 = .ok (.ifCond .eq 10, 3) := by decide +kernel
theorem dX12_reckon_54 : decode cX12_reckon 54 = .ok (.aload_n 0, 1) := by decide +kernel
theorem dX12_reckon_55 : decode cX12_reckon 55 = .ok (.bipush (-3), 2) := by decide +kernel
theorem dX12_reckon_57 : decode cX12_reckon 57 = .ok (.invokevirtual 124, 3) := by decide +kernel
theorem dX12_reckon_60 : decode cX12_reckon 60 = .ok (.ireturn, 1) := by decide +kernel
theorem dX12_reckon_61 : decode cX12_reckon 61 = .ok (.aload_n 0, 1) := by decide +kernel
theorem dX12_reckon_62 : decode cX12_reckon 62 = .ok (.iload_n 1, 1) := by decide +kernel
theorem dX12_reckon_63 : decode cX12_reckon 63 = .ok (.iconst (-1), 1) := by decide +kernel
theorem dX12_reckon_64 : decode cX12_reckon 64 = .ok (.iload_n 2, 1) := by decide +kernel
theorem dX12_reckon_65 : decode cX12_reckon 65 = .ok (.iload_n 3, 1) := by decide +kernel
theorem dX12_reckon_66 : decode cX12_reckon 66 = .ok (.iload 4, 2) := by decide +kernel
theorem dX12_reckon_68 : decode cX12_reckon 68 = .ok (.iload 5, 2) := by decide +kernel
theorem dX12_reckon_70 : decode cX12_reckon 70 = .ok (.invokevirtual 143, 3) := by decide +kernel
theorem dX12_reckon_73 : decode cX12_reckon 73 = .ok (.ireturn, 1) := by decide +kernel
theorem dX12_fetch_0 : decode cX12_fetch 0 = .ok (.iload_n 3, 1) := by decide +kernel
theorem dX12_fetch_1 : decode cX12_fetch 1 = .ok (.invokestatic 149, 3) := by decide +kernel
theorem dX12_fetch_4 : decode cX12_fetch 4 = .ok (.ifCond .ne 10, 3) := by decide +kernel
theorem dX12_fetch_7 : decode cX12_fetch 7 = .ok (.aload_n 0, 1) := by decide +kernel
theorem dX12_fetch_8 : decode cX12_fetch 8 = .ok (.bipush (-9), 2) := by decide +kernel
theorem dX12_fetch_10 : decode cX12_fetch 10 = .ok (.invokevirtual 124, 3) := by decide +kernel
theorem dX12_fetch_13 : decode cX12_fetch 13 = .ok (.ireturn, 1) := by decide +kernel
theorem dX12_fetch_14 : decode cX12_fetch 14 = .ok (.iload_n 1, 1) := by decide +kernel
theorem dX12_fetch_15 : decode cX12_fetch 15 = .ok (.i2l, 1) := by decide +kernel
theorem dX12_fetch_16 : decode cX12_fetch 16 = .ok (.lconst 0, 1) := by decide +kernel
theorem dX12_fetch_17 : decode cX12_fetch 17 = .ok (.ldc2_w 157, 3) := by decide +kernel
theorem dX12_fetch_20 : decode cX12_fetch 20 = .ok (.invokestatic 137, 3) := by decide +kernel
theorem dX12_fetch_23 : decode cX12_fetch 23 = .ok (.ifCond .eq 12, 3) := by decide +kernel
theorem dX12_fetch_26 : decode cX12_fetch 26 = .ok (.aload_n 0, 1) := by decide +kernel
theorem dX12_fetch_27 : decode cX12_fetch 27 = .ok (.iload_n 2, 1) := by decide +kernel
theorem dX12_fetch_28 : decode cX12_fetch 28 = .ok (.iload_n 3, 1) := by decide +kernel
theorem dX12_fetch_29 : decode cX12_fetch 29 = .ok (.invokevirtual 153, 3) := by decide +kernel
theorem dX12_fetch_32 : decode cX12_fetch 32 = .ok (.ifCond .eq 10, 3) := by decide +kernel
theorem dX12_fetch_35 : decode cX12_fetch 35 = .ok (.aload_n 0, 1) := by decide +kernel
theorem dX12_fetch_36 : decode cX12_fetch 36 = .ok (.bipush (-3), 2) := by decide +kernel
theorem dX12_fetch_38 : decode cX12_fetch 38 = .ok (.invokevirtual 124, 3) := by decide +kernel
theorem dX12_fetch_41 : decode cX12_fetch 41 = .ok (.ireturn, 1) := by decide +kernel
theorem dX12_fetch_42 : decode cX12_fetch 42 = .ok (.aload_n 0, 1) := by decide +kernel
theorem dX12_fetch_43 : decode cX12_fetch 43 = .ok (.iconst 4, 1) := by decide +kernel
theorem dX12_fetch_44 : decode cX12_fetch 44 = .ok (.iload_n 1, 1) := by decide +kernel
theorem dX12_fetch_45 : decode cX12_fetch 45 = .ok (.iload_n 2, 1) := by decide +kernel
theorem dX12_fetch_46 : decode cX12_fetch 46 = .ok (.iload_n 3, 1) := by decide +kernel
theorem dX12_fetch_47 : decode cX12_fetch 47 = .ok (.iconst (-1), 1) := by decide +kernel
theorem dX12_fetch_48 : decode cX12_fetch 48 = .ok (.iconst (-1), 1) := by decide +kernel
theorem dX12_fetch_49 : decode cX12_fetch 49 = .ok (.invokevirtual 143, 3) := by decide +kernel
theorem dX12_fetch_52 : decode cX12_fetch 52 = .ok (.ireturn, 1) := by decide +kernel
theorem dX12_store_0 : decode cX12_store 0 = .ok (.iload_n 3, 1) := by decide +kernel
theorem dX12_store_1 : decode cX12_store 1 = .ok (.invokestatic 149, 3) := by decide +kernel
theorem dX12_store_4 : decode cX12_store 4 = .ok (.ifCond .eq 11, 3) := by decide +kernel
theorem dX12_store_7 : decode cX12_store 7 = .ok (.iload 5, 2) := by decide +kernel
theorem dX12_store_9 : decode cX12_store 9 = .ok (.invokestatic 149, 3) := by decide +kernel
theorem dX12_store_12 : decode cX12_store 12 = .ok (.ifCond .ne 10, 3) := by decide +kernel
theorem dX12_store_15 : decode cX12_store 15 = .ok (.aload_n 0, 1) := by decide +kernel
theorem dX12_store_16 : decode cX12_store 16 = .ok (.bipush (-9), 2) := by decide +kernel
theorem dX12_store_18 : decode cX12_store 18 = .ok (.invokevirtual 124, 3) := by decide +kernel
theorem dX12_store_21 : decode cX12_store 21 = .ok (.ireturn, 1) := by decide +kernel
theorem dX12_store_22 : decode cX12_store 22 = .ok (.iload_n 1, 1) := by decide +kernel
theorem dX12_store_23 : decode cX12_store 23 = .ok (.i2l, 1) := by decide +kernel
theorem dX12_store_24 : decode cX12_store 24 = .ok (.lconst 0, 1) := by decide +kernel
theorem dX12_store_25 : decode cX12_store 25 = .ok (.ldc2_w 157, 3) := by decide +kernel
theorem dX12_store_28 : decode cX12_store 28 = .ok (.invokestatic 137, 3) := by decide +kernel
theorem dX12_store_31 : decode cX12_store 31 = .ok (.ifCond .eq 23, 3) := by decide +kernel
theorem dX12_store_34 : decode cX12_store 34 = .ok (.aload_n 0, 1) := by decide +kernel
theorem dX12_store_35 : decode cX12_store 35 = .ok (.iload_n 2, 1) := by decide +kernel
theorem dX12_store_36 : decode cX12_store 36 = .ok (.iload_n 3, 1) := by decide +kernel
theorem dX12_store_37 : decode cX12_store 37 = .ok (.invokevirtual 153, 3) := by decide +kernel
theorem dX12_store_40 : decode cX12_store 40 = .ok (.ifCond .ne 14, 3) := by decide +kernel
theorem dX12_store_43 : decode cX12_store 43 = .ok (.aload_n 0, 1) := by decide +kernel
theorem dX12_store_44 : decode cX12_store 44 = .ok (.iload 4, 2) := by decide +kernel
theorem dX12_store_46 : decode cX12_store 46 = .ok (.iload 5, 2) := by decide +kernel
theorem dX12_store_48 : decode cX12_store 48 = .ok (.invokevirtual 153, 3) := by decide +kernel
theorem dX12_store_51 : decode cX12_store 51 = .ok (.ifCond .eq 10, 3) := by decide +kernel
theorem dX12_store_54 : decode cX12_store 54 = .ok (.aload_n 0, 1) := by decide +kernel
theorem dX12_store_55 : decode cX12_store 55 = .ok (.bipush (-3), 2) := by decide +kernel
theorem dX12_store_57 : decode cX12_store 57 = .ok (.invokevirtual 124, 3) := by decide +kernel
theorem dX12_store_60 : decode cX12_store 60 = .ok (.ireturn, 1) := by decide +kernel
theorem dX12_store_61 : decode cX12_store 61 = .ok (.aload_n 0, 1) := by decide +kernel
theorem dX12_store_62 : decode cX12_store 62 = .ok (.iconst 5, 1) := by decide +kernel
theorem dX12_store_63 : decode cX12_store 63 = .ok (.iload_n 1, 1) := by decide +kernel
theorem dX12_store_64 : decode cX12_store 64 = .ok (.iload_n 2, 1) := by decide +kernel
theorem dX12_store_65 : decode cX12_store 65 = .ok (.iload_n 3, 1) := by decide +kernel
theorem dX12_store_66 : decode cX12_store 66 = .ok (.iload 4, 2) := by decide +kernel
theorem dX12_store_68 : decode cX12_store 68 = .ok (.iload 5, 2) := by decide +kernel
theorem dX12_store_70 : decode cX12_store 70 = .ok (.invokevirtual 143, 3) := by decide +kernel
theorem dX12_store_73 : decode cX12_store 73 = .ok (.ireturn, 1) := by decide +kernel
theorem dX12_pick_0 : decode cX12_pick 0 = .ok (.iload 4, 2) := by decide +kernel
theorem dX12_pick_2 : decode cX12_pick 2 = .ok (.invokestatic 149, 3) := by decide +kernel
theorem dX12_pick_5 : decode cX12_pick 5 = .ok (.ifCond .ne 10, 3) := by decide +kernel
theorem dX12_pick_8 : decode cX12_pick 8 = .ok (.aload_n 0, 1) := by decide +kernel
theorem dX12_pick_9 : decode cX12_pick 9 = .ok (.bipush (-9), 2) := by decide +kernel
theorem dX12_pick_11 : decode cX12_pick 11 = .ok (.invokevirtual 124, 3) := by decide +kernel
theorem dX12_pick_14 : decode cX12_pick 14 = .ok (.ireturn, 1) := by decide +kernel
theorem dX12_pick_15 : decode cX12_pick 15 = .ok (.aload_n 0, 1) := by decide +kernel
theorem dX12_pick_16 : decode cX12_pick 16 = .ok (.iload_n 1, 1) := by decide +kernel
theorem dX12_pick_17 : decode cX12_pick 17 = .ok (.iconst 0, 1) := by decide +kernel
theorem dX12_pick_18 : decode cX12_pick 18 = .ok (.invokevirtual 153, 3) := by decide +kernel
theorem dX12_pick_21 : decode cX12_pick 21 = .ok (.ifCond .ne 22, 3) := by decide +kernel
theorem dX12_pick_24 : decode cX12_pick 24 = .ok (.aload_n 0, 1) := by decide +kernel
theorem dX12_pick_25 : decode cX12_pick 25 = .ok (.iload_n 2, 1) := by decide +kernel
theorem dX12_pick_26 : decode cX12_pick 26 = .ok (.iconst 0, 1) := by decide +kernel
theorem dX12_pick_27 : decode cX12_pick 27 = .ok (.invokevirtual 153, 3) := by decide +kernel
theorem dX12_pick_30 : decode cX12_pick 30 = .ok (.ifCond .ne 13, 3) := by decide +kernel
theorem dX12_pick_33 : decode cX12_pick 33 = .ok (.aload_n 0, 1) := by decide +kernel
theorem dX12_pick_34 : decode cX12_pick 34 = .ok (.iload_n 3, 1) := by decide +kernel
theorem dX12_pick_35 : decode cX12_pick 35 = .ok (.iload 4, 2) := by decide +kernel
theorem dX12_pick_37 : decode cX12_pick 37 = .ok (.invokevirtual 153, 3) := by decide +kernel
theorem dX12_pick_40 : decode cX12_pick 40 = .ok (.ifCond .eq 10, 3) := by decide +kernel
theorem dX12_pick_43 : decode cX12_pick 43 = .ok (.aload_n 0, 1) := by decide +kernel
theorem dX12_pick_44 : decode cX12_pick 44 = .ok (.bipush (-3), 2) := by decide +kernel
theorem dX12_pick_46 : decode cX12_pick 46 = .ok (.invokevirtual 124, 3) := by decide +kernel
theorem dX12_pick_49 : decode cX12_pick 49 = .ok (.ireturn, 1) := by decide +kernel
theorem dX12_pick_50 : decode cX12_pick 50 = .ok (.aload_n 0, 1) := by decide +kernel
theorem dX12_pick_51 : decode cX12_pick 51 = .ok (.bipush 6, 2) := by decide +kernel
theorem dX12_pick_53 : decode cX12_pick 53 = .ok (.iconst (-1), 1) := by decide +kernel
theorem dX12_pick_54 : decode cX12_pick 54 = .ok (.iload_n 1, 1) := by decide +kernel
theorem dX12_pick_55 : decode cX12_pick 55 = .ok (.iconst 0, 1) := by decide +kernel
theorem dX12_pick_56 : decode cX12_pick 56 = .ok (.iload_n 2, 1) := by decide +kernel
theorem dX12_pick_57 : decode cX12_pick 57 = .ok (.iconst 0, 1) := by decide +kernel
theorem dX12_pick_58 : decode cX12_pick 58 = .ok (.invokevirtual 143, 3) := by decide +kernel
theorem dX12_pick_61 : decode cX12_pick 61 = .ok (.istore 5, 2) := by decide +kernel
theorem dX12_pick_63 : decode cX12_pick 63 = .ok (.iload 5, 2) := by decide +kernel
theorem dX12_pick_65 : decode cX12_pick 65 = .ok (.ifCond .lt 13, 3) := by decide +kernel
theorem dX12_pick_68 : decode cX12_pick 68 = .ok (.aload_n 0, 1) := by decide +kernel
theorem dX12_pick_69 : decode cX12_pick 69 = .ok (.iload 5, 2) := by decide +kernel
theorem dX12_pick_71 : decode cX12_pick 71 = .ok (.iconst 2, 1) := by decide +kernel
theorem dX12_pick_72 : decode cX12_pick 72 = .ok (.iload_n 3, 1) := by decide +kernel
theorem dX12_pick_73 : decode cX12_pick 73 = .ok (.iload 4, 2) := by decide +kernel
theorem dX12_pick_75 : decode cX12_pick 75 = .ok (.invokevirtual 128, 3) := by decide +kernel
theorem dX12_pick_78 : decode cX12_pick 78 = .ok (.iload 5, 2) := by decide +kernel
theorem dX12_pick_80 : decode cX12_pick 80 = .ok (.ireturn, 1) := by decide +kernel
theorem dX12_works_0 : decode cX12_works 0 = .ok (.aload_n 0, 1) := by decide +kernel
theorem dX12_works_1 : decode cX12_works 1 = .ok (.iload_n 1, 1) := by decide +kernel
theorem dX12_works_2 : decode cX12_works 2 = .ok (.invokevirtual 159, 3) := by decide +kernel
theorem dX12_works_5 : decode cX12_works 5 = .ok (.ifCond .eq 15, 3) := by decide +kernel
theorem dX12_works_8 : decode cX12_works 8 = .ok (.iload_n 3, 1) := by decide +kernel
theorem dX12_works_9 : decode cX12_works 9 = .ok (.i2l, 1) := by decide +kernel
theorem dX12_works_10 : decode cX12_works 10 = .ok (.lconst 0, 1) := by decide +kernel
theorem dX12_works_11 : decode cX12_works 11 = .ok (.ldc2_w 162, 3) := by decide +kernel
theorem dX12_works_14 : decode cX12_works 14 = .ok (.invokestatic 137, 3) := by decide +kernel
theorem dX12_works_17 : decode cX12_works 17 = .ok (.ifCond .ne 10, 3) := by decide +kernel
theorem dX12_works_20 : decode cX12_works 20 = .ok (.aload_n 0, 1) := by decide +kernel
theorem dX12_works_21 : decode cX12_works 21 = .ok (.bipush (-3), 2) := by decide +kernel
theorem dX12_works_23 : decode cX12_works 23 = .ok (.invokevirtual 124, 3) := by decide +kernel
theorem dX12_works_26 : decode cX12_works 26 = .ok (.ireturn, 1) := by decide +kernel
theorem dX12_works_27 : decode cX12_works 27 = .ok (.iload_n 2, 1) := by decide +kernel
theorem dX12_works_28 : decode cX12_works 28 = .ok (.i2l, 1) := by decide +kernel
theorem dX12_works_29 : decode cX12_works 29 = .ok (.lconst 1, 1) := by decide +kernel
theorem dX12_works_30 : decode cX12_works 30 = .ok (.ldc2_w 164, 3) := by decide +kernel
theorem dX12_works_33 : decode cX12_works 33 = .ok (.invokestatic 137, 3) := by decide +kernel
theorem dX12_works_36 : decode cX12_works 36 = .ok (.ifCond .eq 16, 3) := by decide +kernel
theorem dX12_works_39 : decode cX12_works 39 = .ok (.iload 4, 2) := by decide +kernel
theorem dX12_works_41 : decode cX12_works 41 = .ok (.i2l, 1) := by decide +kernel
theorem dX12_works_42 : decode cX12_works 42 = .ok (.lconst 1, 1) := by decide +kernel
theorem dX12_works_43 : decode cX12_works 43 = .ok (.ldc2_w 166, 3) := by decide +kernel
theorem dX12_works_46 : decode cX12_works 46 = .ok (.invokestatic 137, 3) := by decide +kernel
theorem dX12_works_49 : decode cX12_works 49 = .ok (.ifCond .ne 10, 3) := by decide +kernel
theorem dX12_works_52 : decode cX12_works 52 = .ok (.aload_n 0, 1) := by decide +kernel
theorem dX12_works_53 : decode cX12_works 53 = .ok (.bipush (-9), 2) := by decide +kernel
theorem dX12_works_55 : decode cX12_works 55 = .ok (.invokevirtual 124, 3) := by decide +kernel
theorem dX12_works_58 : decode cX12_works 58 = .ok (.ireturn, 1) := by decide +kernel
theorem dX12_works_59 : decode cX12_works 59 = .ok (.aload_n 0, 1) := by decide +kernel
theorem dX12_works_60 : decode cX12_works 60 = .ok (.getfield 13, 3) := by decide +kernel
theorem dX12_works_63 : decode cX12_works 63 = .ok (.iload_n 1, 1) := by decide +kernel
theorem dX12_works_64 : decode cX12_works 64 = .ok (.iload_n 2, 1) := by decide +kernel
theorem dX12_works_65 : decode cX12_works 65 = .ok (.iastore, 1) := by decide +kernel
theorem dX12_works_66 : decode cX12_works 66 = .ok (.aload_n 0, 1) := by decide +kernel
theorem dX12_works_67 : decode cX12_works 67 = .ok (.getfield 16, 3) := by decide +kernel
theorem dX12_works_70 : decode cX12_works 70 = .ok (.iload_n 1, 1) := by decide +kernel
theorem dX12_works_71 : decode cX12_works 71 = .ok (.iload_n 3, 1) := by decide +kernel
theorem dX12_works_72 : decode cX12_works 72 = .ok (.iastore, 1) := by decide +kernel
theorem dX12_works_73 : decode cX12_works 73 = .ok (.aload_n 0, 1) := by decide +kernel
theorem dX12_works_74 : decode cX12_works 74 = .ok (.getfield 19, 3) := by decide +kernel
theorem dX12_works_77 : decode cX12_works 77 = .ok (.iload_n 1, 1) := by decide +kernel
theorem dX12_works_78 : decode cX12_works 78 = .ok (.iload 4, 2) := by decide +kernel
theorem dX12_works_80 : decode cX12_works 80 = .ok (.iastore, 1) := by decide +kernel
theorem dX12_works_81 : decode cX12_works 81 = .ok (.aload_n 0, 1) := by decide +kernel
theorem dX12_works_82 : decode cX12_works 82 = .ok (.invokevirtual 132, 3) := by decide +kernel
theorem dX12_works_85 : decode cX12_works 85 = .ok (.iconst 1, 1) := by decide +kernel
theorem dX12_works_86 : decode cX12_works 86 = .ok (.ireturn, 1) := by decide +kernel
theorem dX12_first_0 : decode cX12_first 0 = .ok (.aload_n 0, 1) := by decide +kernel
theorem dX12_first_1 : decode cX12_first 1 = .ok (.iload_n 1, 1) := by decide +kernel
theorem dX12_first_2 : decode cX12_first 2 = .ok (.invokevirtual 159, 3) := by decide +kernel
theorem dX12_first_5 : decode cX12_first 5 = .ok (.ifCond .ne 10, 3) := by decide +kernel
theorem dX12_first_8 : decode cX12_first 8 = .ok (.aload_n 0, 1) := by decide +kernel
theorem dX12_first_9 : decode cX12_first 9 = .ok (.bipush (-3), 2) := by decide +kernel
theorem dX12_first_11 : decode cX12_first 11 = .ok (.invokevirtual 124, 3) := by decide +kernel
theorem dX12_first_14 : decode cX12_first 14 = .ok (.ireturn, 1) := by decide +kernel
theorem dX12_first_15 : decode cX12_first 15 = .ok (.aload_n 0, 1) := by decide +kernel
theorem dX12_first_16 : decode cX12_first 16 = .ok (.getfield 31, 3) := by decide +kernel
theorem dX12_first_19 : decode cX12_first 19 = .ok (.iload_n 1, 1) := by decide +kernel
theorem dX12_first_20 : decode cX12_first 20 = .ok (.lload_n 2, 1) := by decide +kernel
theorem dX12_first_21 : decode cX12_first 21 = .ok (.lastore, 1) := by decide +kernel
theorem dX12_first_22 : decode cX12_first 22 = .ok (.iconst 1, 1) := by decide +kernel
theorem dX12_first_23 : decode cX12_first 23 = .ok (.ireturn, 1) := by decide +kernel
theorem dX12_unit_0 : decode cX12_unit 0 = .ok (.iload_n 1, 1) := by decide +kernel
theorem dX12_unit_1 : decode cX12_unit 1 = .ok (.i2l, 1) := by decide +kernel
theorem dX12_unit_2 : decode cX12_unit 2 = .ok (.lconst 0, 1) := by decide +kernel
theorem dX12_unit_3 : decode cX12_unit 3 = .ok (.ldc2_w 162, 3) := by decide +kernel
theorem dX12_unit_6 : decode cX12_unit 6 = .ok (.invokestatic 137, 3) := by decide +kernel
theorem dX12_unit_9 : decode cX12_unit 9 = .ok (.ifCond .ne 10, 3) := by decide +kernel
theorem dX12_unit_12 : decode cX12_unit 12 = .ok (.aload_n 0, 1) := by decide +kernel
theorem dX12_unit_13 : decode cX12_unit 13 = .ok (.bipush (-3), 2) := by decide +kernel
theorem dX12_unit_15 : decode cX12_unit 15 = .ok (.invokevirtual 124, 3) := by decide +kernel
theorem dX12_unit_18 : decode cX12_unit 18 = .ok (.ireturn, 1) := by decide +kernel
theorem dX12_unit_19 : decode cX12_unit 19 = .ok (.iload_n 2, 1) := by decide +kernel
theorem dX12_unit_20 : decode cX12_unit 20 = .ok (.ifCond .ge 10, 3) := by decide +kernel
theorem dX12_unit_23 : decode cX12_unit 23 = .ok (.aload_n 0, 1) := by decide +kernel
theorem dX12_unit_24 : decode cX12_unit 24 = .ok (.bipush (-4), 2) := by decide +kernel
theorem dX12_unit_26 : decode cX12_unit 26 = .ok (.invokevirtual 124, 3) := by decide +kernel
theorem dX12_unit_29 : decode cX12_unit 29 = .ok (.ireturn, 1) := by decide +kernel
theorem dX12_unit_30 : decode cX12_unit 30 = .ok (.iload_n 2, 1) := by decide +kernel
theorem dX12_unit_31 : decode cX12_unit 31 = .ok (.iconst 4, 1) := by decide +kernel
theorem dX12_unit_32 : decode cX12_unit 32 = .ok (.if_icmp .le 10, 3) := by decide +kernel
theorem dX12_unit_35 : decode cX12_unit 35 = .ok (.aload_n 0, 1) := by decide +kernel
theorem dX12_unit_36 : decode cX12_unit 36 = .ok (.bipush (-9), 2) := by decide +kernel
theorem dX12_unit_38 : decode cX12_unit 38 = .ok (.invokevirtual 124, 3) := by decide +kernel
theorem dX12_unit_41 : decode cX12_unit 41 = .ok (.ireturn, 1) := by decide +kernel
theorem dX12_unit_42 : decode cX12_unit 42 = .ok (.aload_n 0, 1) := by decide +kernel
theorem dX12_unit_43 : decode cX12_unit 43 = .ok (.getfield 38, 3) := by decide +kernel
theorem dX12_unit_46 : decode cX12_unit 46 = .ok (.iload_n 1, 1) := by decide +kernel
theorem dX12_unit_47 : decode cX12_unit 47 = .ok (.iaload, 1) := by decide +kernel
theorem dX12_unit_48 : decode cX12_unit 48 = .ok (.istore_n 3, 1) := by decide +kernel
theorem dX12_unit_49 : decode cX12_unit 49 = .ok (.aload_n 0, 1) := by decide +kernel
theorem dX12_unit_50 : decode cX12_unit 50 = .ok (.getfield 38, 3) := by decide +kernel
theorem dX12_unit_53 : decode cX12_unit 53 = .ok (.iload_n 1, 1) := by decide +kernel
theorem dX12_unit_54 : decode cX12_unit 54 = .ok (.iload_n 2, 1) := by decide +kernel
theorem dX12_unit_55 : decode cX12_unit 55 = .ok (.iastore, 1) := by decide +kernel
theorem dX12_unit_56 : decode cX12_unit 56 = .ok (.aload_n 0, 1) := by decide +kernel
theorem dX12_unit_57 : decode cX12_unit 57 = .ok (.invokevirtual 132, 3) := by decide +kernel
theorem dX12_unit_60 : decode cX12_unit 60 = .ok (.iload_n 3, 1) := by decide +kernel
theorem dX12_unit_61 : decode cX12_unit 61 = .ok (.ireturn, 1) := by decide +kernel
theorem dX12_edge_0 : decode cX12_edge 0 = .ok (.aload_n 0, 1) := by decide +kernel
theorem dX12_edge_1 : decode cX12_edge 1 = .ok (.iload_n 1, 1) := by decide +kernel
theorem dX12_edge_2 : decode cX12_edge 2 = .ok (.invokevirtual 159, 3) := by decide +kernel
theorem dX12_edge_5 : decode cX12_edge 5 = .ok (.ifCond .eq 11, 3) := by decide +kernel
theorem dX12_edge_8 : decode cX12_edge 8 = .ok (.aload_n 0, 1) := by decide +kernel
theorem dX12_edge_9 : decode cX12_edge 9 = .ok (.iload_n 2, 1) := by decide +kernel
theorem dX12_edge_10 : decode cX12_edge 10 = .ok (.invokevirtual 159, 3) := by decide +kernel
theorem dX12_edge_13 : decode cX12_edge 13 = .ok (.ifCond .ne 10, 3) := by decide +kernel
theorem dX12_edge_16 : decode cX12_edge 16 = .ok (.aload_n 0, 1) := by decide +kernel
theorem dX12_edge_17 : decode cX12_edge 17 = .ok (.bipush (-3), 2) := by decide +kernel
theorem dX12_edge_19 : decode cX12_edge 19 = .ok (.invokevirtual 124, 3) := by decide +kernel
theorem dX12_edge_22 : decode cX12_edge 22 = .ok (.ireturn, 1) := by decide +kernel
theorem dX12_edge_23 : decode cX12_edge 23 = .ok (.iload_n 3, 1) := by decide +kernel
theorem dX12_edge_24 : decode cX12_edge 24 = .ok (.i2l, 1) := by decide +kernel
theorem dX12_edge_25 : decode cX12_edge 25 = .ok (.ldc2_w 168, 3) := by decide +kernel
theorem dX12_edge_28 : decode cX12_edge 28 = .ok (.ldc2_w 170, 3) := by decide +kernel
theorem dX12_edge_31 : decode cX12_edge 31 = .ok (.invokestatic 137, 3) := by decide +kernel
theorem dX12_edge_34 : decode cX12_edge 34 = .ok (.ifCond .eq 11, 3) := by decide +kernel
theorem dX12_edge_37 : decode cX12_edge 37 = .ok (.iload 4, 2) := by decide +kernel
theorem dX12_edge_39 : decode cX12_edge 39 = .ok (.invokestatic 149, 3) := by decide +kernel
theorem dX12_edge_42 : decode cX12_edge 42 = .ok (.ifCond .ne 10, 3) := by decide +kernel
theorem dX12_edge_45 : decode cX12_edge 45 = .ok (.aload_n 0, 1) := by decide +kernel
theorem dX12_edge_46 : decode cX12_edge 46 = .ok (.bipush (-9), 2) := by decide +kernel
theorem dX12_edge_48 : decode cX12_edge 48 = .ok (.invokevirtual 124, 3) := by decide +kernel
theorem dX12_edge_51 : decode cX12_edge 51 = .ok (.ireturn, 1) := by decide +kernel
theorem dX12_edge_52 : decode cX12_edge 52 = .ok (.aload_n 0, 1) := by decide +kernel
theorem dX12_edge_53 : decode cX12_edge 53 = .ok (.getfield 172, 3) := by decide +kernel
theorem dX12_edge_56 : decode cX12_edge 56 = .ok (.bipush 40, 2) := by decide +kernel
theorem dX12_edge_58 : decode cX12_edge 58 = .ok (.if_icmp .ne 10, 3) := by decide +kernel
theorem dX12_edge_61 : decode cX12_edge 61 = .ok (.aload_n 0, 1) := by decide +kernel
theorem dX12_edge_62 : decode cX12_edge 62 = .ok (.bipush (-10), 2) := by decide +kernel
theorem dX12_edge_64 : decode cX12_edge 64 = .ok (.invokevirtual 124, 3) := by decide +kernel
theorem dX12_edge_67 : decode cX12_edge 67 = .ok (.ireturn, 1) := by decide +kernel
theorem dX12_edge_68 : decode cX12_edge 68 = .ok (.aload_n 0, 1) := by decide +kernel
theorem dX12_edge_69 : decode cX12_edge 69 = .ok (.getfield 41, 3) := by decide +kernel
theorem dX12_edge_72 : decode cX12_edge 72 = .ok (.aload_n 0, 1) := by decide +kernel
theorem dX12_edge_73 : decode cX12_edge 73 = .ok (.getfield 172, 3) := by decide +kernel
theorem dX12_edge_76 : decode cX12_edge 76 = .ok (.iload_n 1, 1) := by decide +kernel
theorem dX12_edge_77 : decode cX12_edge 77 = .ok (.iastore, 1) := by decide +kernel
theorem dX12_edge_78 : decode cX12_edge 78 = .ok (.aload_n 0, 1) := by decide +kernel
theorem dX12_edge_79 : decode cX12_edge 79 = .ok (.getfield 44, 3) := by decide +kernel
theorem dX12_edge_82 : decode cX12_edge 82 = .ok (.aload_n 0, 1) := by decide +kernel
theorem dX12_edge_83 : decode cX12_edge 83 = .ok (.getfield 172, 3) := by decide +kernel
theorem dX12_edge_86 : decode cX12_edge 86 = .ok (.iload_n 2, 1) := by decide +kernel
theorem dX12_edge_87 : decode cX12_edge 87 = .ok (.iastore, 1) := by decide +kernel
theorem dX12_edge_88 : decode cX12_edge 88 = .ok (.aload_n 0, 1) := by decide +kernel
theorem dX12_edge_89 : decode cX12_edge 89 = .ok (.getfield 47, 3) := by decide +kernel
theorem dX12_edge_92 : decode cX12_edge 92 = .ok (.aload_n 0, 1) := by decide +kernel
theorem dX12_edge_93 : decode cX12_edge 93 = .ok (.getfield 172, 3) := by decide +kernel
theorem dX12_edge_96 : decode cX12_edge 96 = .ok (.iload_n 3, 1) := by decide +kernel
theorem dX12_edge_97 : decode cX12_edge 97 = .ok (.iastore, 1) := by decide +kernel
theorem dX12_edge_98 : decode cX12_edge 98 = .ok (.aload_n 0, 1) := by decide +kernel
theorem dX12_edge_99 : decode cX12_edge 99 = .ok (.getfield 50, 3) := by decide +kernel
theorem dX12_edge_102 : decode cX12_edge 102 = .ok (.aload_n 0, 1) := by decide +kernel
theorem dX12_edge_103 : decode cX12_edge 103 = .ok (.getfield 172, 3) := by decide +kernel
theorem dX12_edge_106 : decode cX12_edge 106 = .ok (.iload 4, 2) := by decide +kernel
theorem dX12_edge_108 : decode cX12_edge 108 = .ok (.iastore, 1) := by decide +kernel
theorem dX12_edge_109 : decode cX12_edge 109 = .ok (.aload_n 0, 1) := by decide +kernel
theorem dX12_edge_110 : decode cX12_edge 110 = .ok (.dup, 1) := by decide +kernel
theorem dX12_edge_111 : decode cX12_edge 111 = .ok (.getfield 172, 3) := by decide +kernel
theorem dX12_edge_114 : decode cX12_edge 114 = .ok (.iconst 1, 1) := by decide +kernel
theorem dX12_edge_115 : decode cX12_edge 115 = .ok (.iadd, 1) := by decide +kernel
theorem dX12_edge_116 : decode cX12_edge 116 = .ok (.putfield 172, 3) := by decide +kernel
theorem dX12_edge_119 : decode cX12_edge 119 = .ok (.aload_n 0, 1) := by decide +kernel
theorem dX12_edge_120 : decode cX12_edge 120 = .ok (.invokevirtual 132, 3) := by decide +kernel
theorem dX12_edge_123 : decode cX12_edge 123 = .ok (.aload_n 0, 1) := by decide +kernel
theorem dX12_edge_124 : decode cX12_edge 124 = .ok (.getfield 172, 3) := by decide +kernel
theorem dX12_edge_127 : decode cX12_edge 127 = .ok (.ireturn, 1) := by decide +kernel
theorem dX12_undo_0 : decode cX12_undo 0 = .ok (.aload_n 0, 1) := by decide +kernel
theorem dX12_undo_1 : decode cX12_undo 1 = .ok (.getfield 118, 3) := by decide +kernel
theorem dX12_undo_4 : decode cX12_undo 4 = .ok (.ifCond .ne 10, 3) := by decide +kernel
theorem dX12_undo_7 : decode cX12_undo 7 = .ok (.aload_n 0, 1) := by decide +kernel
theorem dX12_undo_8 : decode cX12_undo 8 = .ok (.bipush (-2), 2) := by decide +kernel
theorem dX12_undo_10 : decode cX12_undo 10 = .ok (.invokevirtual 124, 3) := by decide +kernel
theorem dX12_undo_13 : decode cX12_undo 13 = .ok (.ireturn, 1) := by decide +kernel
theorem dX12_undo_14 : decode cX12_undo 14 = .ok (.aload_n 0, 1) := by decide +kernel
theorem dX12_undo_15 : decode cX12_undo 15 = .ok (.getfield 118, 3) := by decide +kernel
theorem dX12_undo_18 : decode cX12_undo 18 = .ok (.iconst 1, 1) := by decide +kernel
theorem dX12_undo_19 : decode cX12_undo 19 = .ok (.isub, 1) := by decide +kernel
theorem dX12_undo_20 : decode cX12_undo 20 = .ok (.istore_n 1, 1) := by decide +kernel
theorem dX12_undo_21 : decode cX12_undo 21 = .ok (.iconst 0, 1) := by decide +kernel
theorem dX12_undo_22 : decode cX12_undo 22 = .ok (.istore_n 2, 1) := by decide +kernel
theorem dX12_undo_23 : decode cX12_undo 23 = .ok (.iload_n 2, 1) := by decide +kernel
theorem dX12_undo_24 : decode cX12_undo 24 = .ok (.iconst 3, 1) := by decide +kernel
theorem dX12_undo_25 : decode cX12_undo 25 = .ok (.iload_n 1, 1) := by decide +kernel
theorem dX12_undo_26 : decode cX12_undo 26 = .ok (.imul, 1) := by decide +kernel
theorem dX12_undo_27 : decode cX12_undo 27 = .ok (.if_icmp .ge 26, 3) := by decide +kernel
theorem dX12_undo_30 : decode cX12_undo 30 = .ok (.aload_n 0, 1) := by decide +kernel
theorem dX12_undo_31 : decode cX12_undo 31 = .ok (.getfield 25, 3) := by decide +kernel
theorem dX12_undo_34 : decode cX12_undo 34 = .ok (.iload_n 2, 1) := by decide +kernel
theorem dX12_undo_35 : decode cX12_undo 35 = .ok (.iaload, 1) := by decide +kernel
theorem dX12_undo_36 : decode cX12_undo 36 = .ok (.iload_n 1, 1) := by decide +kernel
theorem dX12_undo_37 : decode cX12_undo 37 = .ok (.if_icmp .ne 10, 3) := by decide +kernel
theorem dX12_undo_40 : decode cX12_undo 40 = .ok (.aload_n 0, 1) := by decide +kernel
theorem dX12_undo_41 : decode cX12_undo 41 = .ok (.bipush (-9), 2) := by decide +kernel
theorem dX12_undo_43 : decode cX12_undo 43 = .ok (.invokevirtual 124, 3) := by decide +kernel
theorem dX12_undo_46 : decode cX12_undo 46 = .ok (.ireturn, 1) := by decide +kernel
theorem dX12_undo_47 : decode cX12_undo 47 = .ok (.iinc 2 1, 3) := by decide +kernel
theorem dX12_undo_50 : decode cX12_undo 50 = .ok (.goto (-27), 3) := by decide +kernel
theorem dX12_undo_53 : decode cX12_undo 53 = .ok (.aload_n 0, 1) := by decide +kernel
theorem dX12_undo_54 : decode cX12_undo 54 = .ok (.dup, 1) := by decide +kernel
theorem dX12_undo_55 : decode cX12_undo 55 = .ok (.getfield 118, 3) := by decide +kernel
theorem dX12_undo_58 : decode cX12_undo 58 = .ok (.iconst 1, 1) := by decide +kernel
theorem dX12_undo_59 : decode cX12_undo 59 = .ok (.isub, 1) := by decide +kernel
theorem dX12_undo_60 : decode cX12_undo 60 = .ok (.putfield 118, 3) := by decide +kernel
theorem dX12_undo_63 : decode cX12_undo 63 = .ok (.iconst 0, 1) := by decide +kernel
theorem dX12_undo_64 : decode cX12_undo 64 = .ok (.istore_n 2, 1) := by decide +kernel
theorem dX12_undo_65 : decode cX12_undo 65 = .ok (.iconst 0, 1) := by decide +kernel
theorem dX12_undo_66 : decode cX12_undo 66 = .ok (.istore_n 3, 1) := by decide +kernel
theorem dX12_undo_67 : decode cX12_undo 67 = .ok (.iload_n 3, 1) := by decide +kernel
theorem dX12_undo_68 : decode cX12_undo 68 = .ok (.aload_n 0, 1) := by decide +kernel
theorem dX12_undo_69 : decode cX12_undo 69 = .ok (.getfield 172, 3) := by decide +kernel
theorem dX12_undo_72 : decode cX12_undo 72 = .ok (.if_icmp .ge 83, 3) := by decide +kernel
theorem dX12_undo_75 : decode cX12_undo 75 = .ok (.aload_n 0, 1) := by decide +kernel
theorem dX12_undo_76 : decode cX12_undo 76 = .ok (.getfield 41, 3) := by decide +kernel
theorem dX12_undo_79 : decode cX12_undo 79 = .ok (.iload_n 3, 1) := by decide +kernel
theorem dX12_undo_80 : decode cX12_undo 80 = .ok (.iaload, 1) := by decide +kernel
theorem dX12_undo_81 : decode cX12_undo 81 = .ok (.iload_n 1, 1) := by decide +kernel
theorem dX12_undo_82 : decode cX12_undo 82 = .ok (.if_icmp .eq 67, 3) := by decide +kernel
theorem dX12_undo_85 : decode cX12_undo 85 = .ok (.aload_n 0, 1) := by decide +kernel
theorem dX12_undo_86 : decode cX12_undo 86 = .ok (.getfield 44, 3) := by decide +kernel
theorem dX12_undo_89 : decode cX12_undo 89 = .ok (.iload_n 3, 1) := by decide +kernel
theorem dX12_undo_90 : decode cX12_undo 90 = .ok (.iaload, 1) := by decide +kernel
theorem dX12_undo_91 : decode cX12_undo 91 = .ok (.iload_n 1, 1) := by decide +kernel
theorem dX12_undo_92 : decode cX12_undo 92 = .ok (.if_icmp .ne 6, 3) := by decide +kernel
theorem dX12_undo_95 : decode cX12_undo 95 = .ok (.goto 54, 3) := by decide +kernel
theorem dX12_undo_98 : decode cX12_undo 98 = .ok (.aload_n 0, 1) := by decide +kernel
theorem dX12_undo_99 : decode cX12_undo 99 = .ok (.getfield 41, 3) := by decide +kernel
theorem dX12_undo_102 : decode cX12_undo 102 = .ok (.iload_n 2, 1) := by decide +kernel
theorem dX12_undo_103 : decode cX12_undo 103 = .ok (.aload_n 0, 1) := by decide +kernel
theorem dX12_undo_104 : decode cX12_undo 104 = .ok (.getfield 41, 3) := by decide +kernel
theorem dX12_undo_107 : decode cX12_undo 107 = .ok (.iload_n 3, 1) := by decide +kernel
theorem dX12_undo_108 : decode cX12_undo 108 = .ok (.iaload, 1) := by decide +kernel
theorem dX12_undo_109 : decode cX12_undo 109 = .ok (.iastore, 1) := by decide +kernel
theorem dX12_undo_110 : decode cX12_undo 110 = .ok (.aload_n 0, 1) := by decide +kernel
theorem dX12_undo_111 : decode cX12_undo 111 = .ok (.getfield 44, 3) := by decide +kernel
theorem dX12_undo_114 : decode cX12_undo 114 = .ok (.iload_n 2, 1) := by decide +kernel
theorem dX12_undo_115 : decode cX12_undo 115 = .ok (.aload_n 0, 1) := by decide +kernel
theorem dX12_undo_116 : decode cX12_undo 116 = .ok (.getfield 44, 3) := by decide +kernel
theorem dX12_undo_119 : decode cX12_undo 119 = .ok (.iload_n 3, 1) := by decide +kernel
theorem dX12_undo_120 : decode cX12_undo 120 = .ok (.iaload, 1) := by decide +kernel
theorem dX12_undo_121 : decode cX12_undo 121 = .ok (.iastore, 1) := by decide +kernel
theorem dX12_undo_122 : decode cX12_undo 122 = .ok (.aload_n 0, 1) := by decide +kernel
theorem dX12_undo_123 : decode cX12_undo 123 = .ok (.getfield 47, 3) := by decide +kernel
theorem dX12_undo_126 : decode cX12_undo 126 = .ok (.iload_n 2, 1) := by decide +kernel
theorem dX12_undo_127 : decode cX12_undo 127 = .ok (.aload_n 0, 1) := by decide +kernel
theorem dX12_undo_128 : decode cX12_undo 128 = .ok (.getfield 47, 3) := by decide +kernel
theorem dX12_undo_131 : decode cX12_undo 131 = .ok (.iload_n 3, 1) := by decide +kernel
theorem dX12_undo_132 : decode cX12_undo 132 = .ok (.iaload, 1) := by decide +kernel
theorem dX12_undo_133 : decode cX12_undo 133 = .ok (.iastore, 1) := by decide +kernel
theorem dX12_undo_134 : decode cX12_undo 134 = .ok (.aload_n 0, 1) := by decide +kernel
theorem dX12_undo_135 : decode cX12_undo 135 = .ok (.getfield 50, 3) := by decide +kernel
theorem dX12_undo_138 : decode cX12_undo 138 = .ok (.iload_n 2, 1) := by decide +kernel
theorem dX12_undo_139 : decode cX12_undo 139 = .ok (.aload_n 0, 1) := by decide +kernel
theorem dX12_undo_140 : decode cX12_undo 140 = .ok (.getfield 50, 3) := by decide +kernel
theorem dX12_undo_143 : decode cX12_undo 143 = .ok (.iload_n 3, 1) := by decide +kernel
theorem dX12_undo_144 : decode cX12_undo 144 = .ok (.iaload, 1) := by decide +kernel
theorem dX12_undo_145 : decode cX12_undo 145 = .ok (.iastore, 1) := by decide +kernel
theorem dX12_undo_146 : decode cX12_undo 146 = .ok (.iinc 2 1, 3) := by decide +kernel
theorem dX12_undo_149 : decode cX12_undo 149 = .ok (.iinc 3 1, 3) := by decide +kernel
theorem dX12_undo_152 : decode cX12_undo 152 = .ok (.goto (-85), 3) := by decide +kernel
theorem dX12_undo_155 : decode cX12_undo 155 = .ok (.aload_n 0, 1) := by decide +kernel
theorem dX12_undo_156 : decode cX12_undo 156 = .ok (.iload_n 2, 1) := by decide +kernel
theorem dX12_undo_157 : decode cX12_undo 157 = .ok (.putfield 172, 3) := by decide +kernel
theorem dX12_undo_160 : decode cX12_undo 160 = .ok (.aload_n 0, 1) := by decide +kernel
theorem dX12_undo_161 : decode cX12_undo 161 = .ok (.invokevirtual 132, 3) := by decide +kernel
theorem dX12_undo_164 : decode cX12_undo 164 = .ok (.aload_n 0, 1) := by decide +kernel
theorem dX12_undo_165 : decode cX12_undo 165 = .ok (.getfield 118, 3) := by decide +kernel
theorem dX12_undo_168 : decode cX12_undo 168 = .ok (.ireturn, 1) := by decide +kernel
theorem dX12_act_0 : decode cX12_act 0 = .ok (.aload_n 0, 1) := by decide +kernel
theorem dX12_act_1 : decode cX12_act 1 = .ok (.iload_n 1, 1) := by decide +kernel
theorem dX12_act_2 : decode cX12_act 2 = .ok (.invokevirtual 159, 3) := by decide +kernel
theorem dX12_act_5 : decode cX12_act 5 = .ok (.ifCond .ne 10, 3) := by decide +kernel
theorem dX12_act_8 : decode cX12_act 8 = .ok (.aload_n 0, 1) := by decide +kernel
theorem dX12_act_9 : decode cX12_act 9 = .ok (.bipush (-3), 2) := by decide +kernel
theorem dX12_act_11 : decode cX12_act 11 = .ok (.invokevirtual 124, 3) := by decide +kernel
theorem dX12_act_14 : decode cX12_act 14 = .ok (.ireturn, 1) := by decide +kernel
theorem dX12_act_15 : decode cX12_act 15 = .ok (.iload_n 2, 1) := by decide +kernel
theorem dX12_act_16 : decode cX12_act 16 = .ok (.i2l, 1) := by decide +kernel
theorem dX12_act_17 : decode cX12_act 17 = .ok (.lconst 0, 1) := by decide +kernel
theorem dX12_act_18 : decode cX12_act 18 = .ok (.ldc2_w 175, 3) := by decide +kernel
theorem dX12_act_21 : decode cX12_act 21 = .ok (.invokestatic 137, 3) := by decide +kernel
theorem dX12_act_24 : decode cX12_act 24 = .ok (.ifCond .ne 10, 3) := by decide +kernel
theorem dX12_act_27 : decode cX12_act 27 = .ok (.aload_n 0, 1) := by decide +kernel
theorem dX12_act_28 : decode cX12_act 28 = .ok (.bipush (-9), 2) := by decide +kernel
theorem dX12_act_30 : decode cX12_act 30 = .ok (.invokevirtual 124, 3) := by decide +kernel
theorem dX12_act_33 : decode cX12_act 33 = .ok (.ireturn, 1) := by decide +kernel
theorem dX12_act_34 : decode cX12_act 34 = .ok (.iload_n 2, 1) := by decide +kernel
theorem dX12_act_35 : decode cX12_act 35 = .ok (.tableswitch 68 0 4 #[33, 40, 47, 54, 61], 33) := by decide +kernel
theorem dX12_act_68 : decode cX12_act 68 = .ok (.aload_n 0, 1) := by decide +kernel
theorem dX12_act_69 : decode cX12_act 69 = .ok (.getfield 7, 3) := by decide +kernel
theorem dX12_act_72 : decode cX12_act 72 = .ok (.iload_n 1, 1) := by decide +kernel
theorem dX12_act_73 : decode cX12_act 73 = .ok (.iaload, 1) := by decide +kernel
theorem dX12_act_74 : decode cX12_act 74 = .ok (.ireturn, 1) := by decide +kernel
theorem dX12_act_75 : decode cX12_act 75 = .ok (.aload_n 0, 1) := by decide +kernel
theorem dX12_act_76 : decode cX12_act 76 = .ok (.getfield 13, 3) := by decide +kernel
theorem dX12_act_79 : decode cX12_act 79 = .ok (.iload_n 1, 1) := by decide +kernel
theorem dX12_act_80 : decode cX12_act 80 = .ok (.iaload, 1) := by decide +kernel
theorem dX12_act_81 : decode cX12_act 81 = .ok (.ireturn, 1) := by decide +kernel
theorem dX12_act_82 : decode cX12_act 82 = .ok (.aload_n 0, 1) := by decide +kernel
theorem dX12_act_83 : decode cX12_act 83 = .ok (.getfield 16, 3) := by decide +kernel
theorem dX12_act_86 : decode cX12_act 86 = .ok (.iload_n 1, 1) := by decide +kernel
theorem dX12_act_87 : decode cX12_act 87 = .ok (.iaload, 1) := by decide +kernel
theorem dX12_act_88 : decode cX12_act 88 = .ok (.ireturn, 1) := by decide +kernel
theorem dX12_act_89 : decode cX12_act 89 = .ok (.aload_n 0, 1) := by decide +kernel
theorem dX12_act_90 : decode cX12_act 90 = .ok (.getfield 19, 3) := by decide +kernel
theorem dX12_act_93 : decode cX12_act 93 = .ok (.iload_n 1, 1) := by decide +kernel
theorem dX12_act_94 : decode cX12_act 94 = .ok (.iaload, 1) := by decide +kernel
theorem dX12_act_95 : decode cX12_act 95 = .ok (.ireturn, 1) := by decide +kernel
theorem dX12_act_96 : decode cX12_act 96 = .ok (.aload_n 0, 1) := by decide +kernel
theorem dX12_act_97 : decode cX12_act 97 = .ok (.getfield 22, 3) := by decide +kernel
theorem dX12_act_100 : decode cX12_act 100 = .ok (.iload_n 1, 1) := by decide +kernel
theorem dX12_act_101 : decode cX12_act 101 = .ok (.iaload, 1) := by decide +kernel
theorem dX12_act_102 : decode cX12_act 102 = .ok (.ireturn, 1) := by decide +kernel
theorem dX12_act_103 : decode cX12_act 103 = .ok (.iconst 3, 1) := by decide +kernel
theorem dX12_act_104 : decode cX12_act 104 = .ok (.iload_n 1, 1) := by decide +kernel
theorem dX12_act_105 : decode cX12_act 105 = .ok (.imul, 1) := by decide +kernel
theorem dX12_act_106 : decode cX12_act 106 = .ok (.iload_n 2, 1) := by decide +kernel
theorem dX12_act_107 : decode cX12_act 107 = .ok (.iconst 5, 1) := by decide +kernel
theorem dX12_act_108 : decode cX12_act 108 = .ok (.isub, 1) := by decide +kernel
theorem dX12_act_109 : decode cX12_act 109 = .ok (.iconst 2, 1) := by decide +kernel
theorem dX12_act_110 : decode cX12_act 110 = .ok (.idiv, 1) := by decide +kernel
theorem dX12_act_111 : decode cX12_act 111 = .ok (.iadd, 1) := by decide +kernel
theorem dX12_act_112 : decode cX12_act 112 = .ok (.istore_n 3, 1) := by decide +kernel
theorem dX12_act_113 : decode cX12_act 113 = .ok (.iload_n 2, 1) := by decide +kernel
theorem dX12_act_114 : decode cX12_act 114 = .ok (.iconst 2, 1) := by decide +kernel
theorem dX12_act_115 : decode cX12_act 115 = .ok (.irem, 1) := by decide +kernel
theorem dX12_act_116 : decode cX12_act 116 = .ok (.iconst 1, 1) := by decide +kernel
theorem dX12_act_117 : decode cX12_act 117 = .ok (.if_icmp .ne 12, 3) := by decide +kernel
theorem dX12_act_120 : decode cX12_act 120 = .ok (.aload_n 0, 1) := by decide +kernel
theorem dX12_act_121 : decode cX12_act 121 = .ok (.getfield 25, 3) := by decide +kernel
theorem dX12_act_124 : decode cX12_act 124 = .ok (.iload_n 3, 1) := by decide +kernel
theorem dX12_act_125 : decode cX12_act 125 = .ok (.iaload, 1) := by decide +kernel
theorem dX12_act_126 : decode cX12_act 126 = .ok (.goto 9, 3) := by decide +kernel
theorem dX12_act_129 : decode cX12_act 129 = .ok (.aload_n 0, 1) := by decide +kernel
theorem dX12_act_130 : decode cX12_act 130 = .ok (.getfield 28, 3) := by decide +kernel
theorem dX12_act_133 : decode cX12_act 133 = .ok (.iload_n 3, 1) := by decide +kernel
theorem dX12_act_134 : decode cX12_act 134 = .ok (.iaload, 1) := by decide +kernel
theorem dX12_act_135 : decode cX12_act 135 = .ok (.ireturn, 1) := by decide +kernel
theorem dX12_number_0 : decode cX12_number 0 = .ok (.aload_n 0, 1) := by decide +kernel
theorem dX12_number_1 : decode cX12_number 1 = .ok (.iload_n 1, 1) := by decide +kernel
theorem dX12_number_2 : decode cX12_number 2 = .ok (.invokevirtual 159, 3) := by decide +kernel
theorem dX12_number_5 : decode cX12_number 5 = .ok (.ifCond .ne 8, 3) := by decide +kernel
theorem dX12_number_8 : decode cX12_number 8 = .ok (.bipush (-3), 2) := by decide +kernel
theorem dX12_number_10 : decode cX12_number 10 = .ok (.goto 18, 3) := by decide +kernel
theorem dX12_number_13 : decode cX12_number 13 = .ok (.aload_n 0, 1) := by decide +kernel
theorem dX12_number_14 : decode cX12_number 14 = .ok (.getfield 7, 3) := by decide +kernel
theorem dX12_number_17 : decode cX12_number 17 = .ok (.iload_n 1, 1) := by decide +kernel
theorem dX12_number_18 : decode cX12_number 18 = .ok (.iaload, 1) := by decide +kernel
theorem dX12_number_19 : decode cX12_number 19 = .ok (.ifCond .eq 8, 3) := by decide +kernel
theorem dX12_number_22 : decode cX12_number 22 = .ok (.bipush (-5), 2) := by decide +kernel
theorem dX12_number_24 : decode cX12_number 24 = .ok (.goto 4, 3) := by decide +kernel
theorem dX12_number_27 : decode cX12_number 27 = .ok (.iconst 0, 1) := by decide +kernel
theorem dX12_number_28 : decode cX12_number 28 = .ok (.istore_n 2, 1) := by decide +kernel
theorem dX12_number_29 : decode cX12_number 29 = .ok (.iload_n 2, 1) := by decide +kernel
theorem dX12_number_30 : decode cX12_number 30 = .ok (.ifCond .ne 10, 3) := by decide +kernel
theorem dX12_number_33 : decode cX12_number 33 = .ok (.aload_n 0, 1) := by decide +kernel
theorem dX12_number_34 : decode cX12_number 34 = .ok (.getfield 35, 3) := by decide +kernel
theorem dX12_number_37 : decode cX12_number 37 = .ok (.iload_n 1, 1) := by decide +kernel
theorem dX12_number_38 : decode cX12_number 38 = .ok (.laload, 1) := by decide +kernel
theorem dX12_number_39 : decode cX12_number 39 = .ok (.lreturn, 1) := by decide +kernel
theorem dX12_number_40 : decode cX12_number 40 = .ok (.aload_n 0, 1) := by decide +kernel
theorem dX12_number_41 : decode cX12_number 41 = .ok (.iload_n 2, 1) := by decide +kernel
theorem dX12_number_42 : decode cX12_number 42 = .ok (.invokevirtual 124, 3) := by decide +kernel
theorem dX12_number_45 : decode cX12_number 45 = .ok (.istore_n 3, 1) := by decide +kernel
theorem dX12_number_46 : decode cX12_number 46 = .ok (.lconst 0, 1) := by decide +kernel
theorem dX12_number_47 : decode cX12_number 47 = .ok (.lreturn, 1) := by decide +kernel
theorem dX12_whole_0 : decode cX12_whole 0 = .ok (.iconst 0, 1) := by decide +kernel
theorem dX12_whole_1 : decode cX12_whole 1 = .ok (.istore_n 1, 1) := by decide +kernel
theorem dX12_whole_2 : decode cX12_whole 2 = .ok (.iload_n 1, 1) := by decide +kernel
theorem dX12_whole_3 : decode cX12_whole 3 = .ok (.iconst 3, 1) := by decide +kernel
theorem dX12_whole_4 : decode cX12_whole 4 = .ok (.aload_n 0, 1) := by decide +kernel
theorem dX12_whole_5 : decode cX12_whole 5 = .ok (.getfield 118, 3) := by decide +kernel
theorem dX12_whole_8 : decode cX12_whole 8 = .ok (.imul, 1) := by decide +kernel
theorem dX12_whole_9 : decode cX12_whole 9 = .ok (.if_icmp .ge 24, 3) := by decide +kernel
theorem dX12_whole_12 : decode cX12_whole 12 = .ok (.aload_n 0, 1) := by decide +kernel
theorem dX12_whole_13 : decode cX12_whole 13 = .ok (.getfield 25, 3) := by decide +kernel
theorem dX12_whole_16 : decode cX12_whole 16 = .ok (.iload_n 1, 1) := by decide +kernel
theorem dX12_whole_17 : decode cX12_whole 17 = .ok (.iaload, 1) := by decide +kernel
theorem dX12_whole_18 : decode cX12_whole 18 = .ok (.aload_n 0, 1) := by decide +kernel
theorem dX12_whole_19 : decode cX12_whole 19 = .ok (.getfield 118, 3) := by decide +kernel
theorem dX12_whole_22 : decode cX12_whole 22 = .ok (.if_icmp .lt 5, 3) := by decide +kernel
theorem dX12_whole_25 : decode cX12_whole 25 = .ok (.iconst 0, 1) := by decide +kernel
theorem dX12_whole_26 : decode cX12_whole 26 = .ok (.ireturn, 1) := by decide +kernel
theorem dX12_whole_27 : decode cX12_whole 27 = .ok (.iinc 1 1, 3) := by decide +kernel
theorem dX12_whole_30 : decode cX12_whole 30 = .ok (.goto (-28), 3) := by decide +kernel
theorem dX12_whole_33 : decode cX12_whole 33 = .ok (.iconst 1, 1) := by decide +kernel
theorem dX12_whole_34 : decode cX12_whole 34 = .ok (.ireturn, 1) := by decide +kernel
theorem dX12_count_0 : decode cX12_count 0 = .ok (.iload_n 1, 1) := by decide +kernel
theorem dX12_count_1 : decode cX12_count 1 = .ok (.i2l, 1) := by decide +kernel
theorem dX12_count_2 : decode cX12_count 2 = .ok (.lconst 0, 1) := by decide +kernel
theorem dX12_count_3 : decode cX12_count 3 = .ok (.ldc2_w 135, 3) := by decide +kernel
theorem dX12_count_6 : decode cX12_count 6 = .ok (.invokestatic 137, 3) := by decide +kernel
theorem dX12_count_9 : decode cX12_count 9 = .ok (.ifCond .ne 10, 3) := by decide +kernel
theorem dX12_count_12 : decode cX12_count 12 = .ok (.aload_n 0, 1) := by decide +kernel
theorem dX12_count_13 : decode cX12_count 13 = .ok (.bipush (-9), 2) := by decide +kernel
theorem dX12_count_15 : decode cX12_count 15 = .ok (.invokevirtual 124, 3) := by decide +kernel
theorem dX12_count_18 : decode cX12_count 18 = .ok (.ireturn, 1) := by decide +kernel
theorem dX12_count_19 : decode cX12_count 19 = .ok (.iload_n 1, 1) := by decide +kernel
theorem dX12_count_20 : decode cX12_count 20 = .ok (.ifCond .ne 8, 3) := by decide +kernel
theorem dX12_count_23 : decode cX12_count 23 = .ok (.aload_n 0, 1) := by decide +kernel
theorem dX12_count_24 : decode cX12_count 24 = .ok (.getfield 118, 3) := by decide +kernel
theorem dX12_count_27 : decode cX12_count 27 = .ok (.ireturn, 1) := by decide +kernel
theorem dX12_count_28 : decode cX12_count 28 = .ok (.iload_n 1, 1) := by decide +kernel
theorem dX12_count_29 : decode cX12_count 29 = .ok (.iconst 1, 1) := by decide +kernel
theorem dX12_count_30 : decode cX12_count 30 = .ok (.if_icmp .ne 8, 3) := by decide +kernel
theorem dX12_count_33 : decode cX12_count 33 = .ok (.aload_n 0, 1) := by decide +kernel
theorem dX12_count_34 : decode cX12_count 34 = .ok (.getfield 172, 3) := by decide +kernel
theorem dX12_count_37 : decode cX12_count 37 = .ok (.ireturn, 1) := by decide +kernel
theorem dX12_count_38 : decode cX12_count 38 = .ok (.aload_n 0, 1) := by decide +kernel
theorem dX12_count_39 : decode cX12_count 39 = .ok (.invokevirtual 177, 3) := by decide +kernel
theorem dX12_count_42 : decode cX12_count 42 = .ok (.iload_n 1, 1) := by decide +kernel
theorem dX12_count_43 : decode cX12_count 43 = .ok (.iconst 2, 1) := by decide +kernel
theorem dX12_count_44 : decode cX12_count 44 = .ok (.if_icmp .ne 13, 3) := by decide +kernel
theorem dX12_count_47 : decode cX12_count 47 = .ok (.aload_n 0, 1) := by decide +kernel
theorem dX12_count_48 : decode cX12_count 48 = .ok (.getfield 180, 3) := by decide +kernel
theorem dX12_count_51 : decode cX12_count 51 = .ok (.aload_n 0, 1) := by decide +kernel
theorem dX12_count_52 : decode cX12_count 52 = .ok (.getfield 172, 3) := by decide +kernel
theorem dX12_count_55 : decode cX12_count 55 = .ok (.isub, 1) := by decide +kernel
theorem dX12_count_56 : decode cX12_count 56 = .ok (.ireturn, 1) := by decide +kernel
theorem dX12_count_57 : decode cX12_count 57 = .ok (.iconst 0, 1) := by decide +kernel
theorem dX12_count_58 : decode cX12_count 58 = .ok (.istore_n 2, 1) := by decide +kernel
theorem dX12_count_59 : decode cX12_count 59 = .ok (.iconst 0, 1) := by decide +kernel
theorem dX12_count_60 : decode cX12_count 60 = .ok (.istore_n 3, 1) := by decide +kernel
theorem dX12_count_61 : decode cX12_count 61 = .ok (.iload_n 3, 1) := by decide +kernel
theorem dX12_count_62 : decode cX12_count 62 = .ok (.aload_n 0, 1) := by decide +kernel
theorem dX12_count_63 : decode cX12_count 63 = .ok (.getfield 118, 3) := by decide +kernel
theorem dX12_count_66 : decode cX12_count 66 = .ok (.if_icmp .ge 27, 3) := by decide +kernel
theorem dX12_count_69 : decode cX12_count 69 = .ok (.iload_n 2, 1) := by decide +kernel
theorem dX12_count_70 : decode cX12_count 70 = .ok (.aload_n 0, 1) := by decide +kernel
theorem dX12_count_71 : decode cX12_count 71 = .ok (.getfield 7, 3) := by decide +kernel
theorem dX12_count_74 : decode cX12_count 74 = .ok (.iload_n 3, 1) := by decide +kernel
theorem dX12_count_75 : decode cX12_count 75 = .ok (.iaload, 1) := by decide +kernel
theorem dX12_count_76 : decode cX12_count 76 = .ok (.iconst 5, 1) := by decide +kernel
theorem dX12_count_77 : decode cX12_count 77 = .ok (.if_icmp .ne 7, 3) := by decide +kernel
theorem dX12_count_80 : decode cX12_count 80 = .ok (.iconst 1, 1) := by decide +kernel
theorem dX12_count_81 : decode cX12_count 81 = .ok (.goto 4, 3) := by decide +kernel
theorem dX12_count_84 : decode cX12_count 84 = .ok (.iconst 0, 1) := by decide +kernel
theorem dX12_count_85 : decode cX12_count 85 = .ok (.iadd, 1) := by decide +kernel
theorem dX12_count_86 : decode cX12_count 86 = .ok (.istore_n 2, 1) := by decide +kernel
theorem dX12_count_87 : decode cX12_count 87 = .ok (.iinc 3 1, 3) := by decide +kernel
theorem dX12_count_90 : decode cX12_count 90 = .ok (.goto (-29), 3) := by decide +kernel
theorem dX12_count_93 : decode cX12_count 93 = .ok (.iload_n 1, 1) := by decide +kernel
theorem dX12_count_94 : decode cX12_count 94 = .ok (.iconst 3, 1) := by decide +kernel
theorem dX12_count_95 : decode cX12_count 95 = .ok (.if_icmp .ne 7, 3) := by decide +kernel
theorem dX12_count_98 : decode cX12_count 98 = .ok (.iload_n 2, 1) := by decide +kernel
theorem dX12_count_99 : decode cX12_count 99 = .ok (.goto 44, 3) := by decide +kernel
theorem dX12_count_102 : decode cX12_count 102 = .ok (.aload_n 0, 1) := by decide +kernel
theorem dX12_count_103 : decode cX12_count 103 = .ok (.getfield 38, 3) := by decide +kernel
theorem dX12_count_106 : decode cX12_count 106 = .ok (.iconst 0, 1) := by decide +kernel
theorem dX12_count_107 : decode cX12_count 107 = .ok (.iaload, 1) := by decide +kernel
theorem dX12_count_108 : decode cX12_count 108 = .ok (.aload_n 0, 1) := by decide +kernel
theorem dX12_count_109 : decode cX12_count 109 = .ok (.getfield 38, 3) := by decide +kernel
theorem dX12_count_112 : decode cX12_count 112 = .ok (.iconst 1, 1) := by decide +kernel
theorem dX12_count_113 : decode cX12_count 113 = .ok (.iaload, 1) := by decide +kernel
theorem dX12_count_114 : decode cX12_count 114 = .ok (.iadd, 1) := by decide +kernel
theorem dX12_count_115 : decode cX12_count 115 = .ok (.aload_n 0, 1) := by decide +kernel
theorem dX12_count_116 : decode cX12_count 116 = .ok (.getfield 38, 3) := by decide +kernel
theorem dX12_count_119 : decode cX12_count 119 = .ok (.iconst 2, 1) := by decide +kernel
theorem dX12_count_120 : decode cX12_count 120 = .ok (.iaload, 1) := by decide +kernel
theorem dX12_count_121 : decode cX12_count 121 = .ok (.iadd, 1) := by decide +kernel
theorem dX12_count_122 : decode cX12_count 122 = .ok (.aload_n 0, 1) := by decide +kernel
theorem dX12_count_123 : decode cX12_count 123 = .ok (.getfield 38, 3) := by decide +kernel
theorem dX12_count_126 : decode cX12_count 126 = .ok (.iconst 3, 1) := by decide +kernel
theorem dX12_count_127 : decode cX12_count 127 = .ok (.iaload, 1) := by decide +kernel
theorem dX12_count_128 : decode cX12_count 128 = .ok (.iadd, 1) := by decide +kernel
theorem dX12_count_129 : decode cX12_count 129 = .ok (.aload_n 0, 1) := by decide +kernel
theorem dX12_count_130 : decode cX12_count 130 = .ok (.getfield 38, 3) := by decide +kernel
theorem dX12_count_133 : decode cX12_count 133 = .ok (.iconst 4, 1) := by decide +kernel
theorem dX12_count_134 : decode cX12_count 134 = .ok (.iaload, 1) := by decide +kernel
theorem dX12_count_135 : decode cX12_count 135 = .ok (.iadd, 1) := by decide +kernel
theorem dX12_count_136 : decode cX12_count 136 = .ok (.aload_n 0, 1) := by decide +kernel
theorem dX12_count_137 : decode cX12_count 137 = .ok (.getfield 38, 3) := by decide +kernel
theorem dX12_count_140 : decode cX12_count 140 = .ok (.iconst 5, 1) := by decide +kernel
theorem dX12_count_141 : decode cX12_count 141 = .ok (.iaload, 1) := by decide +kernel
theorem dX12_count_142 : decode cX12_count 142 = .ok (.iadd, 1) := by decide +kernel
theorem dX12_count_143 : decode cX12_count 143 = .ok (.ireturn, 1) := by decide +kernel
theorem dX12_enter_0 : decode cX12_enter 0 = .ok (.aload_n 0, 1) := by decide +kernel
theorem dX12_enter_1 : decode cX12_enter 1 = .ok (.getfield 53, 3) := by decide +kernel
theorem dX12_enter_4 : decode cX12_enter 4 = .ok (.aload_n 0, 1) := by decide +kernel
theorem dX12_enter_5 : decode cX12_enter 5 = .ok (.getfield 180, 3) := by decide +kernel
theorem dX12_enter_8 : decode cX12_enter 8 = .ok (.iload_n 1, 1) := by decide +kernel
theorem dX12_enter_9 : decode cX12_enter 9 = .ok (.iastore, 1) := by decide +kernel
theorem dX12_enter_10 : decode cX12_enter 10 = .ok (.aload_n 0, 1) := by decide +kernel
theorem dX12_enter_11 : decode cX12_enter 11 = .ok (.getfield 56, 3) := by decide +kernel
theorem dX12_enter_14 : decode cX12_enter 14 = .ok (.aload_n 0, 1) := by decide +kernel
theorem dX12_enter_15 : decode cX12_enter 15 = .ok (.getfield 180, 3) := by decide +kernel
theorem dX12_enter_18 : decode cX12_enter 18 = .ok (.iload_n 2, 1) := by decide +kernel
theorem dX12_enter_19 : decode cX12_enter 19 = .ok (.iastore, 1) := by decide +kernel
theorem dX12_enter_20 : decode cX12_enter 20 = .ok (.aload_n 0, 1) := by decide +kernel
theorem dX12_enter_21 : decode cX12_enter 21 = .ok (.getfield 59, 3) := by decide +kernel
theorem dX12_enter_24 : decode cX12_enter 24 = .ok (.aload_n 0, 1) := by decide +kernel
theorem dX12_enter_25 : decode cX12_enter 25 = .ok (.getfield 180, 3) := by decide +kernel
theorem dX12_enter_28 : decode cX12_enter 28 = .ok (.iload_n 3, 1) := by decide +kernel
theorem dX12_enter_29 : decode cX12_enter 29 = .ok (.iastore, 1) := by decide +kernel
theorem dX12_enter_30 : decode cX12_enter 30 = .ok (.aload_n 0, 1) := by decide +kernel
theorem dX12_enter_31 : decode cX12_enter 31 = .ok (.getfield 62, 3) := by decide +kernel
theorem dX12_enter_34 : decode cX12_enter 34 = .ok (.aload_n 0, 1) := by decide +kernel
theorem dX12_enter_35 : decode cX12_enter 35 = .ok (.getfield 180, 3) := by decide +kernel
theorem dX12_enter_38 : decode cX12_enter 38 = .ok (.iload 4, 2) := by decide +kernel
theorem dX12_enter_40 : decode cX12_enter 40 = .ok (.iastore, 1) := by decide +kernel
theorem dX12_enter_41 : decode cX12_enter 41 = .ok (.aload_n 0, 1) := by decide +kernel
theorem dX12_enter_42 : decode cX12_enter 42 = .ok (.dup, 1) := by decide +kernel
theorem dX12_enter_43 : decode cX12_enter 43 = .ok (.getfield 180, 3) := by decide +kernel
theorem dX12_enter_46 : decode cX12_enter 46 = .ok (.iconst 1, 1) := by decide +kernel
theorem dX12_enter_47 : decode cX12_enter 47 = .ok (.iadd, 1) := by decide +kernel
theorem dX12_enter_48 : decode cX12_enter 48 = .ok (.putfield 180, 3) := by decide +kernel
theorem dX12_enter_51 : decode cX12_enter 51 = .ok (.return_, 1) := by decide +kernel
theorem dX12_isOfRow_0 : decode cX12_isOfRow 0 = .ok (.aload_n 0, 1) := by decide +kernel
theorem dX12_isOfRow_1 : decode cX12_isOfRow 1 = .ok (.getfield 7, 3) := by decide +kernel
theorem dX12_isOfRow_4 : decode cX12_isOfRow 4 = .ok (.iload_n 1, 1) := by decide +kernel
theorem dX12_isOfRow_5 : decode cX12_isOfRow 5 = .ok (.iaload, 1) := by decide +kernel
theorem dX12_isOfRow_6 : decode cX12_isOfRow 6 = .ok (.iconst 4, 1) := by decide +kernel
theorem dX12_isOfRow_7 : decode cX12_isOfRow 7 = .ok (.if_icmp .eq 13, 3) := by decide +kernel
theorem dX12_isOfRow_10 : decode cX12_isOfRow 10 = .ok (.aload_n 0, 1) := by decide +kernel
theorem dX12_isOfRow_11 : decode cX12_isOfRow 11 = .ok (.getfield 7, 3) := by decide +kernel
theorem dX12_isOfRow_14 : decode cX12_isOfRow 14 = .ok (.iload_n 1, 1) := by decide +kernel
theorem dX12_isOfRow_15 : decode cX12_isOfRow 15 = .ok (.iaload, 1) := by decide +kernel
theorem dX12_isOfRow_16 : decode cX12_isOfRow 16 = .ok (.iconst 5, 1) := by decide +kernel
theorem dX12_isOfRow_17 : decode cX12_isOfRow 17 = .ok (.if_icmp .ne 7, 3) := by decide +kernel
theorem dX12_isOfRow_20 : decode cX12_isOfRow 20 = .ok (.iconst 1, 1) := by decide +kernel
theorem dX12_isOfRow_21 : decode cX12_isOfRow 21 = .ok (.goto 4, 3) := by decide +kernel
theorem dX12_isOfRow_24 : decode cX12_isOfRow 24 = .ok (.iconst 0, 1) := by decide +kernel
theorem dX12_isOfRow_25 : decode cX12_isOfRow 25 = .ok (.ireturn, 1) := by decide +kernel
theorem dX12_gather_0 : decode cX12_gather 0 = .ok (.aload_n 0, 1) := by decide +kernel
theorem dX12_gather_1 : decode cX12_gather 1 = .ok (.iconst 0, 1) := by decide +kernel
theorem dX12_gather_2 : decode cX12_gather 2 = .ok (.putfield 180, 3) := by decide +kernel
theorem dX12_gather_5 : decode cX12_gather 5 = .ok (.iconst 0, 1) := by decide +kernel
theorem dX12_gather_6 : decode cX12_gather 6 = .ok (.istore_n 1, 1) := by decide +kernel
theorem dX12_gather_7 : decode cX12_gather 7 = .ok (.iload_n 1, 1) := by decide +kernel
theorem dX12_gather_8 : decode cX12_gather 8 = .ok (.aload_n 0, 1) := by decide +kernel
theorem dX12_gather_9 : decode cX12_gather 9 = .ok (.getfield 118, 3) := by decide +kernel
theorem dX12_gather_12 : decode cX12_gather 12 = .ok (.if_icmp .ge 118, 3) := by decide +kernel
theorem dX12_gather_15 : decode cX12_gather 15 = .ok (.iconst 3, 1) := by decide +kernel
theorem dX12_gather_16 : decode cX12_gather 16 = .ok (.iload_n 1, 1) := by decide +kernel
theorem dX12_gather_17 : decode cX12_gather 17 = .ok (.imul, 1) := by decide +kernel
theorem dX12_gather_18 : decode cX12_gather 18 = .ok (.istore_n 2, 1) := by decide +kernel
theorem dX12_gather_19 : decode cX12_gather 19 = .ok (.iload_n 2, 1) := by decide +kernel
theorem dX12_gather_20 : decode cX12_gather 20 = .ok (.iconst 3, 1) := by decide +kernel
theorem dX12_gather_21 : decode cX12_gather 21 = .ok (.iload_n 1, 1) := by decide +kernel
theorem dX12_gather_22 : decode cX12_gather 22 = .ok (.imul, 1) := by decide +kernel
theorem dX12_gather_23 : decode cX12_gather 23 = .ok (.iconst 3, 1) := by decide +kernel
theorem dX12_gather_24 : decode cX12_gather 24 = .ok (.iadd, 1) := by decide +kernel
theorem dX12_gather_25 : decode cX12_gather 25 = .ok (.if_icmp .ge 59, 3) := by decide +kernel
theorem dX12_gather_28 : decode cX12_gather 28 = .ok (.aload_n 0, 1) := by decide +kernel
theorem dX12_gather_29 : decode cX12_gather 29 = .ok (.getfield 25, 3) := by decide +kernel
theorem dX12_gather_32 : decode cX12_gather 32 = .ok (.iload_n 2, 1) := by decide +kernel
theorem dX12_gather_33 : decode cX12_gather 33 = .ok (.iaload, 1) := by decide +kernel
theorem dX12_gather_34 : decode cX12_gather 34 = .ok (.ifCond .lt 44, 3) := by decide +kernel
theorem dX12_gather_37 : decode cX12_gather 37 = .ok (.aload_n 0, 1) := by decide +kernel
theorem dX12_gather_38 : decode cX12_gather 38 = .ok (.getfield 25, 3) := by decide +kernel
theorem dX12_gather_41 : decode cX12_gather 41 = .ok (.iload_n 2, 1) := by decide +kernel
theorem dX12_gather_42 : decode cX12_gather 42 = .ok (.iaload, 1) := by decide +kernel
theorem dX12_gather_43 : decode cX12_gather 43 = .ok (.aload_n 0, 1) := by decide +kernel
theorem dX12_gather_44 : decode cX12_gather 44 = .ok (.getfield 118, 3) := by decide +kernel
theorem dX12_gather_47 : decode cX12_gather 47 = .ok (.if_icmp .ge 31, 3) := by decide +kernel
theorem dX12_gather_50 : decode cX12_gather 50 = .ok (.aload_n 0, 1) := by decide +kernel
theorem dX12_gather_51 : decode cX12_gather 51 = .ok (.aload_n 0, 1) := by decide +kernel
theorem dX12_gather_52 : decode cX12_gather 52 = .ok (.getfield 25, 3) := by decide +kernel
theorem dX12_gather_55 : decode cX12_gather 55 = .ok (.iload_n 2, 1) := by decide +kernel
theorem dX12_gather_56 : decode cX12_gather 56 = .ok (.iaload, 1) := by decide +kernel
theorem dX12_gather_57 : decode cX12_gather 57 = .ok (.iload_n 1, 1) := by decide +kernel
theorem dX12_gather_58 : decode cX12_gather 58 = .ok (.aload_n 0, 1) := by decide +kernel
theorem dX12_gather_59 : decode cX12_gather 59 = .ok (.getfield 13, 3) := by decide +kernel
theorem dX12_gather_62 : decode cX12_gather 62 = .ok (.aload_n 0, 1) := by decide +kernel
theorem dX12_gather_63 : decode cX12_gather 63 = .ok (.getfield 25, 3) := by decide +kernel
theorem dX12_gather_66 : decode cX12_gather 66 = .ok (.iload_n 2, 1) := by decide +kernel
theorem dX12_gather_67 : decode cX12_gather 67 = .ok (.iaload, 1) := by decide +kernel
theorem dX12_gather_68 : decode cX12_gather 68 = .ok (.iaload, 1) := by decide +kernel
theorem dX12_gather_69 : decode cX12_gather 69 = .ok (.aload_n 0, 1) := by decide +kernel
theorem dX12_gather_70 : decode cX12_gather 70 = .ok (.getfield 28, 3) := by decide +kernel
theorem dX12_gather_73 : decode cX12_gather 73 = .ok (.iload_n 2, 1) := by decide +kernel
theorem dX12_gather_74 : decode cX12_gather 74 = .ok (.iaload, 1) := by decide +kernel
theorem dX12_gather_75 : decode cX12_gather 75 = .ok (.invokevirtual 183, 3) := by decide +kernel
theorem dX12_gather_78 : decode cX12_gather 78 = .ok (.iinc 2 1, 3) := by decide +kernel
theorem dX12_gather_81 : decode cX12_gather 81 = .ok (.goto (-62), 3) := by decide +kernel
theorem dX12_gather_84 : decode cX12_gather 84 = .ok (.aload_n 0, 1) := by decide +kernel
theorem dX12_gather_85 : decode cX12_gather 85 = .ok (.getfield 7, 3) := by decide +kernel
theorem dX12_gather_88 : decode cX12_gather 88 = .ok (.iload_n 1, 1) := by decide +kernel
theorem dX12_gather_89 : decode cX12_gather 89 = .ok (.iaload, 1) := by decide +kernel
theorem dX12_gather_90 : decode cX12_gather 90 = .ok (.iconst 5, 1) := by decide +kernel
theorem dX12_gather_91 : decode cX12_gather 91 = .ok (.if_icmp .ne 11, 3) := by decide +kernel
theorem dX12_gather_94 : decode cX12_gather 94 = .ok (.aload_n 0, 1) := by decide +kernel
theorem dX12_gather_95 : decode cX12_gather 95 = .ok (.iload_n 1, 1) := by decide +kernel
theorem dX12_gather_96 : decode cX12_gather 96 = .ok (.iload_n 1, 1) := by decide +kernel
theorem dX12_gather_97 : decode cX12_gather 97 = .ok (.iconst 1, 1) := by decide +kernel
theorem dX12_gather_98 : decode cX12_gather 98 = .ok (.iconst 1, 1) := by decide +kernel
theorem dX12_gather_99 : decode cX12_gather 99 = .ok (.invokevirtual 183, 3) := by decide +kernel
theorem dX12_gather_102 : decode cX12_gather 102 = .ok (.iconst 0, 1) := by decide +kernel
theorem dX12_gather_103 : decode cX12_gather 103 = .ok (.istore_n 2, 1) := by decide +kernel
theorem dX12_gather_104 : decode cX12_gather 104 = .ok (.iload_n 2, 1) := by decide +kernel
theorem dX12_gather_105 : decode cX12_gather 105 = .ok (.aload_n 0, 1) := by decide +kernel
theorem dX12_gather_106 : decode cX12_gather 106 = .ok (.getfield 118, 3) := by decide +kernel
theorem dX12_gather_109 : decode cX12_gather 109 = .ok (.if_icmp .ge 15, 3) := by decide +kernel
theorem dX12_gather_112 : decode cX12_gather 112 = .ok (.aload_n 0, 1) := by decide +kernel
theorem dX12_gather_113 : decode cX12_gather 113 = .ok (.iload_n 2, 1) := by decide +kernel
theorem dX12_gather_114 : decode cX12_gather 114 = .ok (.iload_n 1, 1) := by decide +kernel
theorem dX12_gather_115 : decode cX12_gather 115 = .ok (.invokevirtual 186, 3) := by decide +kernel
theorem dX12_gather_118 : decode cX12_gather 118 = .ok (.iinc 2 1, 3) := by decide +kernel
theorem dX12_gather_121 : decode cX12_gather 121 = .ok (.goto (-17), 3) := by decide +kernel
theorem dX12_gather_124 : decode cX12_gather 124 = .ok (.iinc 1 1, 3) := by decide +kernel
theorem dX12_gather_127 : decode cX12_gather 127 = .ok (.goto (-120), 3) := by decide +kernel
theorem dX12_gather_130 : decode cX12_gather 130 = .ok (.iconst 0, 1) := by decide +kernel
theorem dX12_gather_131 : decode cX12_gather 131 = .ok (.istore_n 1, 1) := by decide +kernel
theorem dX12_gather_132 : decode cX12_gather 132 = .ok (.iload_n 1, 1) := by decide +kernel
theorem dX12_gather_133 : decode cX12_gather 133 = .ok (.aload_n 0, 1) := by decide +kernel
theorem dX12_gather_134 : decode cX12_gather 134 = .ok (.getfield 172, 3) := by decide +kernel
theorem dX12_gather_137 : decode cX12_gather 137 = .ok (.if_icmp .ge 37, 3) := by decide +kernel
theorem dX12_gather_140 : decode cX12_gather 140 = .ok (.aload_n 0, 1) := by decide +kernel
theorem dX12_gather_141 : decode cX12_gather 141 = .ok (.aload_n 0, 1) := by decide +kernel
theorem dX12_gather_142 : decode cX12_gather 142 = .ok (.getfield 41, 3) := by decide +kernel
theorem dX12_gather_145 : decode cX12_gather 145 = .ok (.iload_n 1, 1) := by decide +kernel
theorem dX12_gather_146 : decode cX12_gather 146 = .ok (.iaload, 1) := by decide +kernel
theorem dX12_gather_147 : decode cX12_gather 147 = .ok (.aload_n 0, 1) := by decide +kernel
theorem dX12_gather_148 : decode cX12_gather 148 = .ok (.getfield 44, 3) := by decide +kernel
theorem dX12_gather_151 : decode cX12_gather 151 = .ok (.iload_n 1, 1) := by decide +kernel
theorem dX12_gather_152 : decode cX12_gather 152 = .ok (.iaload, 1) := by decide +kernel
theorem dX12_gather_153 : decode cX12_gather 153 = .ok (.aload_n 0, 1) := by decide +kernel
theorem dX12_gather_154 : decode cX12_gather 154 = .ok (.getfield 47, 3) := by decide +kernel
theorem dX12_gather_157 : decode cX12_gather 157 = .ok (.iload_n 1, 1) := by decide +kernel
theorem dX12_gather_158 : decode cX12_gather 158 = .ok (.iaload, 1) := by decide +kernel
theorem dX12_gather_159 : decode cX12_gather 159 = .ok (.aload_n 0, 1) := by decide +kernel
theorem dX12_gather_160 : decode cX12_gather 160 = .ok (.getfield 50, 3) := by decide +kernel
theorem dX12_gather_163 : decode cX12_gather 163 = .ok (.iload_n 1, 1) := by decide +kernel
theorem dX12_gather_164 : decode cX12_gather 164 = .ok (.iaload, 1) := by decide +kernel
theorem dX12_gather_165 : decode cX12_gather 165 = .ok (.invokevirtual 183, 3) := by decide +kernel
theorem dX12_gather_168 : decode cX12_gather 168 = .ok (.iinc 1 1, 3) := by decide +kernel
theorem dX12_gather_171 : decode cX12_gather 171 = .ok (.goto (-39), 3) := by decide +kernel
theorem dX12_gather_174 : decode cX12_gather 174 = .ok (.return_, 1) := by decide +kernel
theorem dX12_gatherTwo_0 : decode cX12_gatherTwo 0 = .ok (.iload_n 1, 1) := by decide +kernel
theorem dX12_gatherTwo_1 : decode cX12_gatherTwo 1 = .ok (.iload_n 2, 1) := by decide +kernel
theorem dX12_gatherTwo_2 : decode cX12_gatherTwo 2 = .ok (.if_icmp .ge 58, 3) := by decide +kernel
theorem dX12_gatherTwo_5 : decode cX12_gatherTwo 5 = .ok (.aload_n 0, 1) := by decide +kernel
theorem dX12_gatherTwo_6 : decode cX12_gatherTwo 6 = .ok (.iload_n 1, 1) := by decide +kernel
theorem dX12_gatherTwo_7 : decode cX12_gatherTwo 7 = .ok (.invokevirtual 190, 3) := by decide +kernel
theorem dX12_gatherTwo_10 : decode cX12_gatherTwo 10 = .ok (.ifCond .eq 50, 3) := by decide +kernel
theorem dX12_gatherTwo_13 : decode cX12_gatherTwo 13 = .ok (.aload_n 0, 1) := by decide +kernel
theorem dX12_gatherTwo_14 : decode cX12_gatherTwo 14 = .ok (.iload_n 2, 1) := by decide +kernel
theorem dX12_gatherTwo_15 : decode cX12_gatherTwo 15 = .ok (.invokevirtual 190, 3) := by decide +kernel
theorem dX12_gatherTwo_18 : decode cX12_gatherTwo 18 = .ok (.ifCond .eq 42, 3) := by decide +kernel
theorem dX12_gatherTwo_21 : decode cX12_gatherTwo 21 = .ok (.aload_n 0, 1) := by decide +kernel
theorem dX12_gatherTwo_22 : decode cX12_gatherTwo 22 = .ok (.getfield 22, 3) := by decide +kernel
theorem dX12_gatherTwo_25 : decode cX12_gatherTwo 25 = .ok (.iload_n 1, 1) := by decide +kernel
theorem dX12_gatherTwo_26 : decode cX12_gatherTwo 26 = .ok (.iaload, 1) := by decide +kernel
theorem dX12_gatherTwo_27 : decode cX12_gatherTwo 27 = .ok (.aload_n 0, 1) := by decide +kernel
theorem dX12_gatherTwo_28 : decode cX12_gatherTwo 28 = .ok (.getfield 22, 3) := by decide +kernel
theorem dX12_gatherTwo_31 : decode cX12_gatherTwo 31 = .ok (.iload_n 2, 1) := by decide +kernel
theorem dX12_gatherTwo_32 : decode cX12_gatherTwo 32 = .ok (.iaload, 1) := by decide +kernel
theorem dX12_gatherTwo_33 : decode cX12_gatherTwo 33 = .ok (.if_icmp .ne 27, 3) := by decide +kernel
theorem dX12_gatherTwo_36 : decode cX12_gatherTwo 36 = .ok (.aload_n 0, 1) := by decide +kernel
theorem dX12_gatherTwo_37 : decode cX12_gatherTwo 37 = .ok (.getfield 7, 3) := by decide +kernel
theorem dX12_gatherTwo_40 : decode cX12_gatherTwo 40 = .ok (.iload_n 1, 1) := by decide +kernel
theorem dX12_gatherTwo_41 : decode cX12_gatherTwo 41 = .ok (.iaload, 1) := by decide +kernel
theorem dX12_gatherTwo_42 : decode cX12_gatherTwo 42 = .ok (.iconst 5, 1) := by decide +kernel
theorem dX12_gatherTwo_43 : decode cX12_gatherTwo 43 = .ok (.if_icmp .eq 13, 3) := by decide +kernel
theorem dX12_gatherTwo_46 : decode cX12_gatherTwo 46 = .ok (.aload_n 0, 1) := by decide +kernel
theorem dX12_gatherTwo_47 : decode cX12_gatherTwo 47 = .ok (.getfield 7, 3) := by decide +kernel
theorem dX12_gatherTwo_50 : decode cX12_gatherTwo 50 = .ok (.iload_n 2, 1) := by decide +kernel
theorem dX12_gatherTwo_51 : decode cX12_gatherTwo 51 = .ok (.iaload, 1) := by decide +kernel
theorem dX12_gatherTwo_52 : decode cX12_gatherTwo 52 = .ok (.iconst 5, 1) := by decide +kernel
theorem dX12_gatherTwo_53 : decode cX12_gatherTwo 53 = .ok (.if_icmp .ne 7, 3) := by decide +kernel
theorem dX12_gatherTwo_56 : decode cX12_gatherTwo 56 = .ok (.iconst 1, 1) := by decide +kernel
theorem dX12_gatherTwo_57 : decode cX12_gatherTwo 57 = .ok (.goto 4, 3) := by decide +kernel
theorem dX12_gatherTwo_60 : decode cX12_gatherTwo 60 = .ok (.iconst 0, 1) := by decide +kernel
theorem dX12_gatherTwo_61 : decode cX12_gatherTwo 61 = .ok (.istore_n 3, 1) := by decide +kernel
theorem dX12_gatherTwo_62 : decode cX12_gatherTwo 62 = .ok (.iload_n 3, 1) := by decide +kernel
theorem dX12_gatherTwo_63 : decode cX12_gatherTwo 63 = .ok (.ifCond .eq 11, 3) := by decide +kernel
theorem dX12_gatherTwo_66 : decode cX12_gatherTwo 66 = .ok (.aload_n 0, 1) := by decide +kernel
theorem dX12_gatherTwo_67 : decode cX12_gatherTwo 67 = .ok (.iload_n 1, 1) := by decide +kernel
theorem dX12_gatherTwo_68 : decode cX12_gatherTwo 68 = .ok (.iload_n 2, 1) := by decide +kernel
theorem dX12_gatherTwo_69 : decode cX12_gatherTwo 69 = .ok (.iconst 1, 1) := by decide +kernel
theorem dX12_gatherTwo_70 : decode cX12_gatherTwo 70 = .ok (.iconst 0, 1) := by decide +kernel
theorem dX12_gatherTwo_71 : decode cX12_gatherTwo 71 = .ok (.invokevirtual 183, 3) := by decide +kernel
theorem dX12_gatherTwo_74 : decode cX12_gatherTwo 74 = .ok (.iload_n 3, 1) := by decide +kernel
theorem dX12_gatherTwo_75 : decode cX12_gatherTwo 75 = .ok (.ifCond .eq 11, 3) := by decide +kernel
theorem dX12_gatherTwo_78 : decode cX12_gatherTwo 78 = .ok (.aload_n 0, 1) := by decide +kernel
theorem dX12_gatherTwo_79 : decode cX12_gatherTwo 79 = .ok (.iload_n 2, 1) := by decide +kernel
theorem dX12_gatherTwo_80 : decode cX12_gatherTwo 80 = .ok (.iload_n 1, 1) := by decide +kernel
theorem dX12_gatherTwo_81 : decode cX12_gatherTwo 81 = .ok (.iconst 1, 1) := by decide +kernel
theorem dX12_gatherTwo_82 : decode cX12_gatherTwo 82 = .ok (.iconst 1, 1) := by decide +kernel
theorem dX12_gatherTwo_83 : decode cX12_gatherTwo 83 = .ok (.invokevirtual 183, 3) := by decide +kernel
theorem dX12_gatherTwo_86 : decode cX12_gatherTwo 86 = .ok (.aload_n 0, 1) := by decide +kernel
theorem dX12_gatherTwo_87 : decode cX12_gatherTwo 87 = .ok (.getfield 7, 3) := by decide +kernel
theorem dX12_gatherTwo_90 : decode cX12_gatherTwo 90 = .ok (.iload_n 2, 1) := by decide +kernel
theorem dX12_gatherTwo_91 : decode cX12_gatherTwo 91 = .ok (.iaload, 1) := by decide +kernel
theorem dX12_gatherTwo_92 : decode cX12_gatherTwo 92 = .ok (.iconst 5, 1) := by decide +kernel
theorem dX12_gatherTwo_93 : decode cX12_gatherTwo 93 = .ok (.if_icmp .ne 32, 3) := by decide +kernel
theorem dX12_gatherTwo_96 : decode cX12_gatherTwo 96 = .ok (.iload_n 1, 1) := by decide +kernel
theorem dX12_gatherTwo_97 : decode cX12_gatherTwo 97 = .ok (.iload_n 2, 1) := by decide +kernel
theorem dX12_gatherTwo_98 : decode cX12_gatherTwo 98 = .ok (.if_icmp .eq 27, 3) := by decide +kernel
theorem dX12_gatherTwo_101 : decode cX12_gatherTwo 101 = .ok (.aload_n 0, 1) := by decide +kernel
theorem dX12_gatherTwo_102 : decode cX12_gatherTwo 102 = .ok (.getfield 7, 3) := by decide +kernel
theorem dX12_gatherTwo_105 : decode cX12_gatherTwo 105 = .ok (.iload_n 1, 1) := by decide +kernel
theorem dX12_gatherTwo_106 : decode cX12_gatherTwo 106 = .ok (.iaload, 1) := by decide +kernel
theorem dX12_gatherTwo_107 : decode cX12_gatherTwo 107 = .ok (.iconst 3, 1) := by decide +kernel
theorem dX12_gatherTwo_108 : decode cX12_gatherTwo 108 = .ok (.if_icmp .lt 17, 3) := by decide +kernel
theorem dX12_gatherTwo_111 : decode cX12_gatherTwo 111 = .ok (.aload_n 0, 1) := by decide +kernel
theorem dX12_gatherTwo_112 : decode cX12_gatherTwo 112 = .ok (.getfield 7, 3) := by decide +kernel
theorem dX12_gatherTwo_115 : decode cX12_gatherTwo 115 = .ok (.iload_n 1, 1) := by decide +kernel
theorem dX12_gatherTwo_116 : decode cX12_gatherTwo 116 = .ok (.iaload, 1) := by decide +kernel
theorem dX12_gatherTwo_117 : decode cX12_gatherTwo 117 = .ok (.iconst 5, 1) := by decide +kernel
theorem dX12_gatherTwo_118 : decode cX12_gatherTwo 118 = .ok (.if_icmp .gt 7, 3) := by decide +kernel
theorem dX12_gatherTwo_121 : decode cX12_gatherTwo 121 = .ok (.iconst 1, 1) := by decide +kernel
theorem dX12_gatherTwo_122 : decode cX12_gatherTwo 122 = .ok (.goto 4, 3) := by decide +kernel
theorem dX12_gatherTwo_125 : decode cX12_gatherTwo 125 = .ok (.iconst 0, 1) := by decide +kernel
theorem dX12_gatherTwo_126 : decode cX12_gatherTwo 126 = .ok (.istore 4, 2) := by decide +kernel
theorem dX12_gatherTwo_128 : decode cX12_gatherTwo 128 = .ok (.iload 4, 2) := by decide +kernel
theorem dX12_gatherTwo_130 : decode cX12_gatherTwo 130 = .ok (.ifCond .eq 16, 3) := by decide +kernel
theorem dX12_gatherTwo_133 : decode cX12_gatherTwo 133 = .ok (.iload_n 1, 1) := by decide +kernel
theorem dX12_gatherTwo_134 : decode cX12_gatherTwo 134 = .ok (.iload_n 2, 1) := by decide +kernel
theorem dX12_gatherTwo_135 : decode cX12_gatherTwo 135 = .ok (.if_icmp .ge 11, 3) := by decide +kernel
theorem dX12_gatherTwo_138 : decode cX12_gatherTwo 138 = .ok (.aload_n 0, 1) := by decide +kernel
theorem dX12_gatherTwo_139 : decode cX12_gatherTwo 139 = .ok (.iload_n 1, 1) := by decide +kernel
theorem dX12_gatherTwo_140 : decode cX12_gatherTwo 140 = .ok (.iload_n 2, 1) := by decide +kernel
theorem dX12_gatherTwo_141 : decode cX12_gatherTwo 141 = .ok (.iconst 1, 1) := by decide +kernel
theorem dX12_gatherTwo_142 : decode cX12_gatherTwo 142 = .ok (.iconst 0, 1) := by decide +kernel
theorem dX12_gatherTwo_143 : decode cX12_gatherTwo 143 = .ok (.invokevirtual 183, 3) := by decide +kernel
theorem dX12_gatherTwo_146 : decode cX12_gatherTwo 146 = .ok (.iload 4, 2) := by decide +kernel
theorem dX12_gatherTwo_148 : decode cX12_gatherTwo 148 = .ok (.ifCond .eq 11, 3) := by decide +kernel
theorem dX12_gatherTwo_151 : decode cX12_gatherTwo 151 = .ok (.aload_n 0, 1) := by decide +kernel
theorem dX12_gatherTwo_152 : decode cX12_gatherTwo 152 = .ok (.iload_n 1, 1) := by decide +kernel
theorem dX12_gatherTwo_153 : decode cX12_gatherTwo 153 = .ok (.iload_n 2, 1) := by decide +kernel
theorem dX12_gatherTwo_154 : decode cX12_gatherTwo 154 = .ok (.iconst 1, 1) := by decide +kernel
theorem dX12_gatherTwo_155 : decode cX12_gatherTwo 155 = .ok (.iconst 1, 1) := by decide +kernel
theorem dX12_gatherTwo_156 : decode cX12_gatherTwo 156 = .ok (.invokevirtual 183, 3) := by decide +kernel
theorem dX12_gatherTwo_159 : decode cX12_gatherTwo 159 = .ok (.return_, 1) := by decide +kernel
theorem dX12_bits_0 : decode cX12_bits 0 = .ok (.iconst 0, 1) := by decide +kernel
theorem dX12_bits_1 : decode cX12_bits 1 = .ok (.istore_n 1, 1) := by decide +kernel
theorem dX12_bits_2 : decode cX12_bits 2 = .ok (.iconst 0, 1) := by decide +kernel
theorem dX12_bits_3 : decode cX12_bits 3 = .ok (.istore_n 2, 1) := by decide +kernel
theorem dX12_bits_4 : decode cX12_bits 4 = .ok (.iload_n 2, 1) := by decide +kernel
theorem dX12_bits_5 : decode cX12_bits 5 = .ok (.bipush 8, 2) := by decide +kernel
theorem dX12_bits_7 : decode cX12_bits 7 = .ok (.if_icmp .ge 17, 3) := by decide +kernel
theorem dX12_bits_10 : decode cX12_bits 10 = .ok (.iload_n 1, 1) := by decide +kernel
theorem dX12_bits_11 : decode cX12_bits 11 = .ok (.iload_n 0, 1) := by decide +kernel
theorem dX12_bits_12 : decode cX12_bits 12 = .ok (.iload_n 2, 1) := by decide +kernel
theorem dX12_bits_13 : decode cX12_bits 13 = .ok (.ishr, 1) := by decide +kernel
theorem dX12_bits_14 : decode cX12_bits 14 = .ok (.iconst 1, 1) := by decide +kernel
theorem dX12_bits_15 : decode cX12_bits 15 = .ok (.iand, 1) := by decide +kernel
theorem dX12_bits_16 : decode cX12_bits 16 = .ok (.iadd, 1) := by decide +kernel
theorem dX12_bits_17 : decode cX12_bits 17 = .ok (.istore_n 1, 1) := by decide +kernel
theorem dX12_bits_18 : decode cX12_bits 18 = .ok (.iinc 2 1, 3) := by decide +kernel
theorem dX12_bits_21 : decode cX12_bits 21 = .ok (.goto (-17), 3) := by decide +kernel
theorem dX12_bits_24 : decode cX12_bits 24 = .ok (.iload_n 1, 1) := by decide +kernel
theorem dX12_bits_25 : decode cX12_bits 25 = .ok (.ireturn, 1) := by decide +kernel
theorem dX12_byUnits_0 : decode cX12_byUnits 0 = .ok (.iconst 1, 1) := by decide +kernel
theorem dX12_byUnits_1 : decode cX12_byUnits 1 = .ok (.istore_n 1, 1) := by decide +kernel
theorem dX12_byUnits_2 : decode cX12_byUnits 2 = .ok (.iconst 0, 1) := by decide +kernel
theorem dX12_byUnits_3 : decode cX12_byUnits 3 = .ok (.istore_n 2, 1) := by decide +kernel
theorem dX12_byUnits_4 : decode cX12_byUnits 4 = .ok (.iload_n 2, 1) := by decide +kernel
theorem dX12_byUnits_5 : decode cX12_byUnits 5 = .ok (.bipush 6, 2) := by decide +kernel
theorem dX12_byUnits_7 : decode cX12_byUnits 7 = .ok (.if_icmp .ge 107, 3) := by decide +kernel
theorem dX12_byUnits_10 : decode cX12_byUnits 10 = .ok (.iconst 0, 1) := by decide +kernel
theorem dX12_byUnits_11 : decode cX12_byUnits 11 = .ok (.istore_n 3, 1) := by decide +kernel
theorem dX12_byUnits_12 : decode cX12_byUnits 12 = .ok (.iconst 0, 1) := by decide +kernel
theorem dX12_byUnits_13 : decode cX12_byUnits 13 = .ok (.istore 4, 2) := by decide +kernel
theorem dX12_byUnits_15 : decode cX12_byUnits 15 = .ok (.iload 4, 2) := by decide +kernel
theorem dX12_byUnits_17 : decode cX12_byUnits 17 = .ok (.aload_n 0, 1) := by decide +kernel
theorem dX12_byUnits_18 : decode cX12_byUnits 18 = .ok (.getfield 118, 3) := by decide +kernel
theorem dX12_byUnits_21 : decode cX12_byUnits 21 = .ok (.if_icmp .ge 37, 3) := by decide +kernel
theorem dX12_byUnits_24 : decode cX12_byUnits 24 = .ok (.iload_n 3, 1) := by decide +kernel
theorem dX12_byUnits_25 : decode cX12_byUnits 25 = .ok (.aload_n 0, 1) := by decide +kernel
theorem dX12_byUnits_26 : decode cX12_byUnits 26 = .ok (.getfield 16, 3) := by decide +kernel
theorem dX12_byUnits_29 : decode cX12_byUnits 29 = .ok (.iload 4, 2) := by decide +kernel
theorem dX12_byUnits_31 : decode cX12_byUnits 31 = .ok (.iaload, 1) := by decide +kernel
theorem dX12_byUnits_32 : decode cX12_byUnits 32 = .ok (.iload_n 2, 1) := by decide +kernel
theorem dX12_byUnits_33 : decode cX12_byUnits 33 = .ok (.if_icmp .ne 16, 3) := by decide +kernel
theorem dX12_byUnits_36 : decode cX12_byUnits 36 = .ok (.aload_n 0, 1) := by decide +kernel
theorem dX12_byUnits_37 : decode cX12_byUnits 37 = .ok (.getfield 19, 3) := by decide +kernel
theorem dX12_byUnits_40 : decode cX12_byUnits 40 = .ok (.iload 4, 2) := by decide +kernel
theorem dX12_byUnits_42 : decode cX12_byUnits 42 = .ok (.iaload, 1) := by decide +kernel
theorem dX12_byUnits_43 : decode cX12_byUnits 43 = .ok (.invokestatic 193, 3) := by decide +kernel
theorem dX12_byUnits_46 : decode cX12_byUnits 46 = .ok (.goto 4, 3) := by decide +kernel
theorem dX12_byUnits_49 : decode cX12_byUnits 49 = .ok (.iconst 0, 1) := by decide +kernel
theorem dX12_byUnits_50 : decode cX12_byUnits 50 = .ok (.iadd, 1) := by decide +kernel
theorem dX12_byUnits_51 : decode cX12_byUnits 51 = .ok (.istore_n 3, 1) := by decide +kernel
theorem dX12_byUnits_52 : decode cX12_byUnits 52 = .ok (.iinc 4 1, 3) := by decide +kernel
theorem dX12_byUnits_55 : decode cX12_byUnits 55 = .ok (.goto (-40), 3) := by decide +kernel
theorem dX12_byUnits_58 : decode cX12_byUnits 58 = .ok (.iload_n 3, 1) := by decide +kernel
theorem dX12_byUnits_59 : decode cX12_byUnits 59 = .ok (.ifCond .ne 7, 3) := by decide +kernel
theorem dX12_byUnits_62 : decode cX12_byUnits 62 = .ok (.iconst 1, 1) := by decide +kernel
theorem dX12_byUnits_63 : decode cX12_byUnits 63 = .ok (.goto 34, 3) := by decide +kernel
theorem dX12_byUnits_66 : decode cX12_byUnits 66 = .ok (.aload_n 0, 1) := by decide +kernel
theorem dX12_byUnits_67 : decode cX12_byUnits 67 = .ok (.getfield 38, 3) := by decide +kernel
theorem dX12_byUnits_70 : decode cX12_byUnits 70 = .ok (.iload_n 2, 1) := by decide +kernel
theorem dX12_byUnits_71 : decode cX12_byUnits 71 = .ok (.iaload, 1) := by decide +kernel
theorem dX12_byUnits_72 : decode cX12_byUnits 72 = .ok (.ifCond .ne 8, 3) := by decide +kernel
theorem dX12_byUnits_75 : decode cX12_byUnits 75 = .ok (.ldc 196, 2) := by decide +kernel
theorem dX12_byUnits_77 : decode cX12_byUnits 77 = .ok (.goto 20, 3) := by decide +kernel
theorem dX12_byUnits_80 : decode cX12_byUnits 80 = .ok (.iload_n 3, 1) := by decide +kernel
theorem dX12_byUnits_81 : decode cX12_byUnits 81 = .ok (.aload_n 0, 1) := by decide +kernel
theorem dX12_byUnits_82 : decode cX12_byUnits 82 = .ok (.getfield 38, 3) := by decide +kernel
theorem dX12_byUnits_85 : decode cX12_byUnits 85 = .ok (.iload_n 2, 1) := by decide +kernel
theorem dX12_byUnits_86 : decode cX12_byUnits 86 = .ok (.iaload, 1) := by decide +kernel
theorem dX12_byUnits_87 : decode cX12_byUnits 87 = .ok (.iadd, 1) := by decide +kernel
theorem dX12_byUnits_88 : decode cX12_byUnits 88 = .ok (.iconst 1, 1) := by decide +kernel
theorem dX12_byUnits_89 : decode cX12_byUnits 89 = .ok (.isub, 1) := by decide +kernel
theorem dX12_byUnits_90 : decode cX12_byUnits 90 = .ok (.aload_n 0, 1) := by decide +kernel
theorem dX12_byUnits_91 : decode cX12_byUnits 91 = .ok (.getfield 38, 3) := by decide +kernel
theorem dX12_byUnits_94 : decode cX12_byUnits 94 = .ok (.iload_n 2, 1) := by decide +kernel
theorem dX12_byUnits_95 : decode cX12_byUnits 95 = .ok (.iaload, 1) := by decide +kernel
theorem dX12_byUnits_96 : decode cX12_byUnits 96 = .ok (.idiv, 1) := by decide +kernel
theorem dX12_byUnits_97 : decode cX12_byUnits 97 = .ok (.istore 4, 2) := by decide +kernel
theorem dX12_byUnits_99 : decode cX12_byUnits 99 = .ok (.iload 4, 2) := by decide +kernel
theorem dX12_byUnits_101 : decode cX12_byUnits 101 = .ok (.iload_n 1, 1) := by decide +kernel
theorem dX12_byUnits_102 : decode cX12_byUnits 102 = .ok (.if_icmp .le 6, 3) := by decide +kernel
theorem dX12_byUnits_105 : decode cX12_byUnits 105 = .ok (.iload 4, 2) := by decide +kernel
theorem dX12_byUnits_107 : decode cX12_byUnits 107 = .ok (.istore_n 1, 1) := by decide +kernel
theorem dX12_byUnits_108 : decode cX12_byUnits 108 = .ok (.iinc 2 1, 3) := by decide +kernel
theorem dX12_byUnits_111 : decode cX12_byUnits 111 = .ok (.goto (-107), 3) := by decide +kernel
theorem dX12_byUnits_114 : decode cX12_byUnits 114 = .ok (.iload_n 1, 1) := by decide +kernel
theorem dX12_byUnits_115 : decode cX12_byUnits 115 = .ok (.ireturn, 1) := by decide +kernel
theorem dX12_rests_0 : decode cX12_rests 0 = .ok (.iconst 0, 1) := by decide +kernel
theorem dX12_rests_1 : decode cX12_rests 1 = .ok (.istore_n 2, 1) := by decide +kernel
theorem dX12_rests_2 : decode cX12_rests 2 = .ok (.iload_n 2, 1) := by decide +kernel
theorem dX12_rests_3 : decode cX12_rests 3 = .ok (.aload_n 0, 1) := by decide +kernel
theorem dX12_rests_4 : decode cX12_rests 4 = .ok (.getfield 118, 3) := by decide +kernel
theorem dX12_rests_7 : decode cX12_rests 7 = .ok (.if_icmp .ge 16, 3) := by decide +kernel
theorem dX12_rests_10 : decode cX12_rests 10 = .ok (.aload_n 0, 1) := by decide +kernel
theorem dX12_rests_11 : decode cX12_rests 11 = .ok (.getfield 93, 3) := by decide +kernel
theorem dX12_rests_14 : decode cX12_rests 14 = .ok (.iload_n 2, 1) := by decide +kernel
theorem dX12_rests_15 : decode cX12_rests 15 = .ok (.iconst 0, 1) := by decide +kernel
theorem dX12_rests_16 : decode cX12_rests 16 = .ok (.iastore, 1) := by decide +kernel
theorem dX12_rests_17 : decode cX12_rests 17 = .ok (.iinc 2 1, 3) := by decide +kernel
theorem dX12_rests_20 : decode cX12_rests 20 = .ok (.goto (-18), 3) := by decide +kernel
theorem dX12_rests_23 : decode cX12_rests 23 = .ok (.iconst 0, 1) := by decide +kernel
theorem dX12_rests_24 : decode cX12_rests 24 = .ok (.istore_n 2, 1) := by decide +kernel
theorem dX12_rests_25 : decode cX12_rests 25 = .ok (.iload_n 2, 1) := by decide +kernel
theorem dX12_rests_26 : decode cX12_rests 26 = .ok (.aload_n 0, 1) := by decide +kernel
theorem dX12_rests_27 : decode cX12_rests 27 = .ok (.getfield 118, 3) := by decide +kernel
theorem dX12_rests_30 : decode cX12_rests 30 = .ok (.if_icmp .gt 103, 3) := by decide +kernel
theorem dX12_rests_33 : decode cX12_rests 33 = .ok (.iconst 0, 1) := by decide +kernel
theorem dX12_rests_34 : decode cX12_rests 34 = .ok (.istore_n 3, 1) := by decide +kernel
theorem dX12_rests_35 : decode cX12_rests 35 = .ok (.iconst 0, 1) := by decide +kernel
theorem dX12_rests_36 : decode cX12_rests 36 = .ok (.istore 4, 2) := by decide +kernel
theorem dX12_rests_38 : decode cX12_rests 38 = .ok (.iload 4, 2) := by decide +kernel
theorem dX12_rests_40 : decode cX12_rests 40 = .ok (.aload_n 0, 1) := by decide +kernel
theorem dX12_rests_41 : decode cX12_rests 41 = .ok (.getfield 180, 3) := by decide +kernel
theorem dX12_rests_44 : decode cX12_rests 44 = .ok (.if_icmp .ge 77, 3) := by decide +kernel
theorem dX12_rests_47 : decode cX12_rests 47 = .ok (.aload_n 0, 1) := by decide +kernel
theorem dX12_rests_48 : decode cX12_rests 48 = .ok (.getfield 93, 3) := by decide +kernel
theorem dX12_rests_51 : decode cX12_rests 51 = .ok (.aload_n 0, 1) := by decide +kernel
theorem dX12_rests_52 : decode cX12_rests 52 = .ok (.getfield 53, 3) := by decide +kernel
theorem dX12_rests_55 : decode cX12_rests 55 = .ok (.iload 4, 2) := by decide +kernel
theorem dX12_rests_57 : decode cX12_rests 57 = .ok (.iaload, 1) := by decide +kernel
theorem dX12_rests_58 : decode cX12_rests 58 = .ok (.iaload, 1) := by decide +kernel
theorem dX12_rests_59 : decode cX12_rests 59 = .ok (.aload_n 0, 1) := by decide +kernel
theorem dX12_rests_60 : decode cX12_rests 60 = .ok (.getfield 59, 3) := by decide +kernel
theorem dX12_rests_63 : decode cX12_rests 63 = .ok (.iload 4, 2) := by decide +kernel
theorem dX12_rests_65 : decode cX12_rests 65 = .ok (.iaload, 1) := by decide +kernel
theorem dX12_rests_66 : decode cX12_rests 66 = .ok (.iadd, 1) := by decide +kernel
theorem dX12_rests_67 : decode cX12_rests 67 = .ok (.iload_n 1, 1) := by decide +kernel
theorem dX12_rests_68 : decode cX12_rests 68 = .ok (.aload_n 0, 1) := by decide +kernel
theorem dX12_rests_69 : decode cX12_rests 69 = .ok (.getfield 62, 3) := by decide +kernel
theorem dX12_rests_72 : decode cX12_rests 72 = .ok (.iload 4, 2) := by decide +kernel
theorem dX12_rests_74 : decode cX12_rests 74 = .ok (.iaload, 1) := by decide +kernel
theorem dX12_rests_75 : decode cX12_rests 75 = .ok (.imul, 1) := by decide +kernel
theorem dX12_rests_76 : decode cX12_rests 76 = .ok (.isub, 1) := by decide +kernel
theorem dX12_rests_77 : decode cX12_rests 77 = .ok (.istore 5, 2) := by decide +kernel
theorem dX12_rests_79 : decode cX12_rests 79 = .ok (.aload_n 0, 1) := by decide +kernel
theorem dX12_rests_80 : decode cX12_rests 80 = .ok (.getfield 93, 3) := by decide +kernel
theorem dX12_rests_83 : decode cX12_rests 83 = .ok (.aload_n 0, 1) := by decide +kernel
theorem dX12_rests_84 : decode cX12_rests 84 = .ok (.getfield 56, 3) := by decide +kernel
theorem dX12_rests_87 : decode cX12_rests 87 = .ok (.iload 4, 2) := by decide +kernel
theorem dX12_rests_89 : decode cX12_rests 89 = .ok (.iaload, 1) := by decide +kernel
theorem dX12_rests_90 : decode cX12_rests 90 = .ok (.iaload, 1) := by decide +kernel
theorem dX12_rests_91 : decode cX12_rests 91 = .ok (.iload 5, 2) := by decide +kernel
theorem dX12_rests_93 : decode cX12_rests 93 = .ok (.if_icmp .lt 6, 3) := by decide +kernel
theorem dX12_rests_96 : decode cX12_rests 96 = .ok (.goto 19, 3) := by decide +kernel
theorem dX12_rests_99 : decode cX12_rests 99 = .ok (.aload_n 0, 1) := by decide +kernel
theorem dX12_rests_100 : decode cX12_rests 100 = .ok (.getfield 93, 3) := by decide +kernel
theorem dX12_rests_103 : decode cX12_rests 103 = .ok (.aload_n 0, 1) := by decide +kernel
theorem dX12_rests_104 : decode cX12_rests 104 = .ok (.getfield 56, 3) := by decide +kernel
theorem dX12_rests_107 : decode cX12_rests 107 = .ok (.iload 4, 2) := by decide +kernel
theorem dX12_rests_109 : decode cX12_rests 109 = .ok (.iaload, 1) := by decide +kernel
theorem dX12_rests_110 : decode cX12_rests 110 = .ok (.iload 5, 2) := by decide +kernel
theorem dX12_rests_112 : decode cX12_rests 112 = .ok (.iastore, 1) := by decide +kernel
theorem dX12_rests_113 : decode cX12_rests 113 = .ok (.iconst 1, 1) := by decide +kernel
theorem dX12_rests_114 : decode cX12_rests 114 = .ok (.istore_n 3, 1) := by decide +kernel
theorem dX12_rests_115 : decode cX12_rests 115 = .ok (.iinc 4 1, 3) := by decide +kernel
theorem dX12_rests_118 : decode cX12_rests 118 = .ok (.goto (-80), 3) := by decide +kernel
theorem dX12_rests_121 : decode cX12_rests 121 = .ok (.iload_n 3, 1) := by decide +kernel
theorem dX12_rests_122 : decode cX12_rests 122 = .ok (.ifCond .ne 5, 3) := by decide +kernel
theorem dX12_rests_125 : decode cX12_rests 125 = .ok (.iconst 1, 1) := by decide +kernel
theorem dX12_rests_126 : decode cX12_rests 126 = .ok (.ireturn, 1) := by decide +kernel
theorem dX12_rests_127 : decode cX12_rests 127 = .ok (.iinc 2 1, 3) := by decide +kernel
theorem dX12_rests_130 : decode cX12_rests 130 = .ok (.goto (-105), 3) := by decide +kernel
theorem dX12_rests_133 : decode cX12_rests 133 = .ok (.iconst 0, 1) := by decide +kernel
theorem dX12_rests_134 : decode cX12_rests 134 = .ok (.ireturn, 1) := by decide +kernel
theorem dX12_byRings_0 : decode cX12_byRings 0 = .ok (.iconst 1, 1) := by decide +kernel
theorem dX12_byRings_1 : decode cX12_byRings 1 = .ok (.istore_n 1, 1) := by decide +kernel
theorem dX12_byRings_2 : decode cX12_byRings 2 = .ok (.iload_n 1, 1) := by decide +kernel
theorem dX12_byRings_3 : decode cX12_byRings 3 = .ok (.bipush 60, 2) := by decide +kernel
theorem dX12_byRings_5 : decode cX12_byRings 5 = .ok (.if_icmp .gt 19, 3) := by decide +kernel
theorem dX12_byRings_8 : decode cX12_byRings 8 = .ok (.aload_n 0, 1) := by decide +kernel
theorem dX12_byRings_9 : decode cX12_byRings 9 = .ok (.iload_n 1, 1) := by decide +kernel
theorem dX12_byRings_10 : decode cX12_byRings 10 = .ok (.invokevirtual 197, 3) := by decide +kernel
theorem dX12_byRings_13 : decode cX12_byRings 13 = .ok (.ifCond .eq 5, 3) := by decide +kernel
theorem dX12_byRings_16 : decode cX12_byRings 16 = .ok (.iload_n 1, 1) := by decide +kernel
theorem dX12_byRings_17 : decode cX12_byRings 17 = .ok (.ireturn, 1) := by decide +kernel
theorem dX12_byRings_18 : decode cX12_byRings 18 = .ok (.iinc 1 1, 3) := by decide +kernel
theorem dX12_byRings_21 : decode cX12_byRings 21 = .ok (.goto (-19), 3) := by decide +kernel
theorem dX12_byRings_24 : decode cX12_byRings 24 = .ok (.ldc 196, 2) := by decide +kernel
theorem dX12_byRings_26 : decode cX12_byRings 26 = .ok (.ireturn, 1) := by decide +kernel
theorem dX12_isReady_0 : decode cX12_isReady 0 = .ok (.aload_n 0, 1) := by decide +kernel
theorem dX12_isReady_1 : decode cX12_isReady 1 = .ok (.getfield 118, 3) := by decide +kernel
theorem dX12_isReady_4 : decode cX12_isReady 4 = .ok (.ifCond .le 15, 3) := by decide +kernel
theorem dX12_isReady_7 : decode cX12_isReady 7 = .ok (.aload_n 0, 1) := by decide +kernel
theorem dX12_isReady_8 : decode cX12_isReady 8 = .ok (.invokevirtual 200, 3) := by decide +kernel
theorem dX12_isReady_11 : decode cX12_isReady 11 = .ok (.iconst 1, 1) := by decide +kernel
theorem dX12_isReady_12 : decode cX12_isReady 12 = .ok (.if_icmp .ne 7, 3) := by decide +kernel
theorem dX12_isReady_15 : decode cX12_isReady 15 = .ok (.iconst 1, 1) := by decide +kernel
theorem dX12_isReady_16 : decode cX12_isReady 16 = .ok (.goto 4, 3) := by decide +kernel
theorem dX12_isReady_19 : decode cX12_isReady 19 = .ok (.iconst 0, 1) := by decide +kernel
theorem dX12_isReady_20 : decode cX12_isReady 20 = .ok (.ireturn, 1) := by decide +kernel
theorem dX12_lowestBeat_0 : decode cX12_lowestBeat 0 = .ok (.aload_n 0, 1) := by decide +kernel
theorem dX12_lowestBeat_1 : decode cX12_lowestBeat 1 = .ok (.invokevirtual 177, 3) := by decide +kernel
theorem dX12_lowestBeat_4 : decode cX12_lowestBeat 4 = .ok (.aload_n 0, 1) := by decide +kernel
theorem dX12_lowestBeat_5 : decode cX12_lowestBeat 5 = .ok (.invokevirtual 204, 3) := by decide +kernel
theorem dX12_lowestBeat_8 : decode cX12_lowestBeat 8 = .ok (.istore_n 1, 1) := by decide +kernel
theorem dX12_lowestBeat_9 : decode cX12_lowestBeat 9 = .ok (.aload_n 0, 1) := by decide +kernel
theorem dX12_lowestBeat_10 : decode cX12_lowestBeat 10 = .ok (.invokevirtual 207, 3) := by decide +kernel
theorem dX12_lowestBeat_13 : decode cX12_lowestBeat 13 = .ok (.istore_n 2, 1) := by decide +kernel
theorem dX12_lowestBeat_14 : decode cX12_lowestBeat 14 = .ok (.iload_n 1, 1) := by decide +kernel
theorem dX12_lowestBeat_15 : decode cX12_lowestBeat 15 = .ok (.iload_n 2, 1) := by decide +kernel
theorem dX12_lowestBeat_16 : decode cX12_lowestBeat 16 = .ok (.if_icmp .le 7, 3) := by decide +kernel
theorem dX12_lowestBeat_19 : decode cX12_lowestBeat 19 = .ok (.iload_n 1, 1) := by decide +kernel
theorem dX12_lowestBeat_20 : decode cX12_lowestBeat 20 = .ok (.goto 4, 3) := by decide +kernel
theorem dX12_lowestBeat_23 : decode cX12_lowestBeat 23 = .ok (.iload_n 2, 1) := by decide +kernel
theorem dX12_lowestBeat_24 : decode cX12_lowestBeat 24 = .ok (.ireturn, 1) := by decide +kernel
theorem dX12_lowest_0 : decode cX12_lowest 0 = .ok (.aload_n 0, 1) := by decide +kernel
theorem dX12_lowest_1 : decode cX12_lowest 1 = .ok (.invokevirtual 210, 3) := by decide +kernel
theorem dX12_lowest_4 : decode cX12_lowest 4 = .ok (.ifCond .ne 10, 3) := by decide +kernel
theorem dX12_lowest_7 : decode cX12_lowest 7 = .ok (.aload_n 0, 1) := by decide +kernel
theorem dX12_lowest_8 : decode cX12_lowest 8 = .ok (.bipush (-2), 2) := by decide +kernel
theorem dX12_lowest_10 : decode cX12_lowest 10 = .ok (.invokevirtual 124, 3) := by decide +kernel
theorem dX12_lowest_13 : decode cX12_lowest 13 = .ok (.ireturn, 1) := by decide +kernel
theorem dX12_lowest_14 : decode cX12_lowest 14 = .ok (.aload_n 0, 1) := by decide +kernel
theorem dX12_lowest_15 : decode cX12_lowest 15 = .ok (.invokevirtual 214, 3) := by decide +kernel
theorem dX12_lowest_18 : decode cX12_lowest 18 = .ok (.istore_n 1, 1) := by decide +kernel
theorem dX12_lowest_19 : decode cX12_lowest 19 = .ok (.iload_n 1, 1) := by decide +kernel
theorem dX12_lowest_20 : decode cX12_lowest 20 = .ok (.bipush 60, 2) := by decide +kernel
theorem dX12_lowest_22 : decode cX12_lowest 22 = .ok (.if_icmp .le 12, 3) := by decide +kernel
theorem dX12_lowest_25 : decode cX12_lowest 25 = .ok (.aload_n 0, 1) := by decide +kernel
theorem dX12_lowest_26 : decode cX12_lowest 26 = .ok (.bipush (-9), 2) := by decide +kernel
theorem dX12_lowest_28 : decode cX12_lowest 28 = .ok (.invokevirtual 124, 3) := by decide +kernel
theorem dX12_lowest_31 : decode cX12_lowest 31 = .ok (.goto 4, 3) := by decide +kernel
theorem dX12_lowest_34 : decode cX12_lowest 34 = .ok (.iload_n 1, 1) := by decide +kernel
theorem dX12_lowest_35 : decode cX12_lowest 35 = .ok (.ireturn, 1) := by decide +kernel
theorem dX12_fits_0 : decode cX12_fits 0 = .ok (.iconst 0, 1) := by decide +kernel
theorem dX12_fits_1 : decode cX12_fits 1 = .ok (.istore_n 3, 1) := by decide +kernel
theorem dX12_fits_2 : decode cX12_fits 2 = .ok (.iload_n 3, 1) := by decide +kernel
theorem dX12_fits_3 : decode cX12_fits 3 = .ok (.bipush 6, 2) := by decide +kernel
theorem dX12_fits_5 : decode cX12_fits 5 = .ok (.if_icmp .ge 139, 3) := by decide +kernel
theorem dX12_fits_8 : decode cX12_fits 8 = .ok (.iconst 0, 1) := by decide +kernel
theorem dX12_fits_9 : decode cX12_fits 9 = .ok (.istore 4, 2) := by decide +kernel
theorem dX12_fits_11 : decode cX12_fits 11 = .ok (.iload 4, 2) := by decide +kernel
theorem dX12_fits_13 : decode cX12_fits 13 = .ok (.iload_n 2, 1) := by decide +kernel
theorem dX12_fits_14 : decode cX12_fits 14 = .ok (.if_icmp .ge 17, 3) := by decide +kernel
theorem dX12_fits_17 : decode cX12_fits 17 = .ok (.aload_n 0, 1) := by decide +kernel
theorem dX12_fits_18 : decode cX12_fits 18 = .ok (.getfield 99, 3) := by decide +kernel
theorem dX12_fits_21 : decode cX12_fits 21 = .ok (.iload 4, 2) := by decide +kernel
theorem dX12_fits_23 : decode cX12_fits 23 = .ok (.iconst 0, 1) := by decide +kernel
theorem dX12_fits_24 : decode cX12_fits 24 = .ok (.iastore, 1) := by decide +kernel
theorem dX12_fits_25 : decode cX12_fits 25 = .ok (.iinc 4 1, 3) := by decide +kernel
theorem dX12_fits_28 : decode cX12_fits 28 = .ok (.goto (-17), 3) := by decide +kernel
theorem dX12_fits_31 : decode cX12_fits 31 = .ok (.iconst 0, 1) := by decide +kernel
theorem dX12_fits_32 : decode cX12_fits 32 = .ok (.istore 4, 2) := by decide +kernel
theorem dX12_fits_34 : decode cX12_fits 34 = .ok (.iload 4, 2) := by decide +kernel
theorem dX12_fits_36 : decode cX12_fits 36 = .ok (.iload_n 1, 1) := by decide +kernel
theorem dX12_fits_37 : decode cX12_fits 37 = .ok (.if_icmp .ge 68, 3) := by decide +kernel
theorem dX12_fits_40 : decode cX12_fits 40 = .ok (.iconst 0, 1) := by decide +kernel
theorem dX12_fits_41 : decode cX12_fits 41 = .ok (.istore 5, 2) := by decide +kernel
theorem dX12_fits_43 : decode cX12_fits 43 = .ok (.iload 5, 2) := by decide +kernel
theorem dX12_fits_45 : decode cX12_fits 45 = .ok (.bipush 8, 2) := by decide +kernel
theorem dX12_fits_47 : decode cX12_fits 47 = .ok (.if_icmp .ge 52, 3) := by decide +kernel
theorem dX12_fits_50 : decode cX12_fits 50 = .ok (.aload_n 0, 1) := by decide +kernel
theorem dX12_fits_51 : decode cX12_fits 51 = .ok (.getfield 16, 3) := by decide +kernel
theorem dX12_fits_54 : decode cX12_fits 54 = .ok (.iload 4, 2) := by decide +kernel
theorem dX12_fits_56 : decode cX12_fits 56 = .ok (.iaload, 1) := by decide +kernel
theorem dX12_fits_57 : decode cX12_fits 57 = .ok (.iload_n 3, 1) := by decide +kernel
theorem dX12_fits_58 : decode cX12_fits 58 = .ok (.if_icmp .ne 41, 3) := by decide +kernel
theorem dX12_fits_61 : decode cX12_fits 61 = .ok (.aload_n 0, 1) := by decide +kernel
theorem dX12_fits_62 : decode cX12_fits 62 = .ok (.getfield 99, 3) := by decide +kernel
theorem dX12_fits_65 : decode cX12_fits 65 = .ok (.aload_n 0, 1) := by decide +kernel
theorem dX12_fits_66 : decode cX12_fits 66 = .ok (.getfield 96, 3) := by decide +kernel
theorem dX12_fits_69 : decode cX12_fits 69 = .ok (.iload 4, 2) := by decide +kernel
theorem dX12_fits_71 : decode cX12_fits 71 = .ok (.iaload, 1) := by decide +kernel
theorem dX12_fits_72 : decode cX12_fits 72 = .ok (.iload 5, 2) := by decide +kernel
theorem dX12_fits_74 : decode cX12_fits 74 = .ok (.iadd, 1) := by decide +kernel
theorem dX12_fits_75 : decode cX12_fits 75 = .ok (.iload_n 2, 1) := by decide +kernel
theorem dX12_fits_76 : decode cX12_fits 76 = .ok (.irem, 1) := by decide +kernel
theorem dX12_fits_77 : decode cX12_fits 77 = .ok (.dup2, 1) := by decide +kernel
theorem dX12_fits_78 : decode cX12_fits 78 = .ok (.iaload, 1) := by decide +kernel
theorem dX12_fits_79 : decode cX12_fits 79 = .ok (.aload_n 0, 1) := by decide +kernel
theorem dX12_fits_80 : decode cX12_fits 80 = .ok (.getfield 19, 3) := by decide +kernel
theorem dX12_fits_83 : decode cX12_fits 83 = .ok (.iload 4, 2) := by decide +kernel
theorem dX12_fits_85 : decode cX12_fits 85 = .ok (.iaload, 1) := by decide +kernel
theorem dX12_fits_86 : decode cX12_fits 86 = .ok (.iload 5, 2) := by decide +kernel
theorem dX12_fits_88 : decode cX12_fits 88 = .ok (.ishr, 1) := by decide +kernel
theorem dX12_fits_89 : decode cX12_fits 89 = .ok (.iconst 1, 1) := by decide +kernel
theorem dX12_fits_90 : decode cX12_fits 90 = .ok (.iand, 1) := by decide +kernel
theorem dX12_fits_91 : decode cX12_fits 91 = .ok (.iadd, 1) := by decide +kernel
theorem dX12_fits_92 : decode cX12_fits 92 = .ok (.iastore, 1) := by decide +kernel
theorem dX12_fits_93 : decode cX12_fits 93 = .ok (.iinc 5 1, 3) := by decide +kernel
theorem dX12_fits_96 : decode cX12_fits 96 = .ok (.goto (-53), 3) := by decide +kernel
theorem dX12_fits_99 : decode cX12_fits 99 = .ok (.iinc 4 1, 3) := by decide +kernel
theorem dX12_fits_102 : decode cX12_fits 102 = .ok (.goto (-68), 3) := by decide +kernel
theorem dX12_fits_105 : decode cX12_fits 105 = .ok (.iconst 0, 1) := by decide +kernel
theorem dX12_fits_106 : decode cX12_fits 106 = .ok (.istore 4, 2) := by decide +kernel
theorem dX12_fits_108 : decode cX12_fits 108 = .ok (.iload 4, 2) := by decide +kernel
theorem dX12_fits_110 : decode cX12_fits 110 = .ok (.iload_n 2, 1) := by decide +kernel
theorem dX12_fits_111 : decode cX12_fits 111 = .ok (.if_icmp .ge 27, 3) := by decide +kernel
theorem dX12_fits_114 : decode cX12_fits 114 = .ok (.aload_n 0, 1) := by decide +kernel
theorem dX12_fits_115 : decode cX12_fits 115 = .ok (.getfield 99, 3) := by decide +kernel
theorem dX12_fits_118 : decode cX12_fits 118 = .ok (.iload 4, 2) := by decide +kernel
theorem dX12_fits_120 : decode cX12_fits 120 = .ok (.iaload, 1) := by decide +kernel
theorem dX12_fits_121 : decode cX12_fits 121 = .ok (.aload_n 0, 1) := by decide +kernel
theorem dX12_fits_122 : decode cX12_fits 122 = .ok (.getfield 38, 3) := by decide +kernel
theorem dX12_fits_125 : decode cX12_fits 125 = .ok (.iload_n 3, 1) := by decide +kernel
theorem dX12_fits_126 : decode cX12_fits 126 = .ok (.iaload, 1) := by decide +kernel
theorem dX12_fits_127 : decode cX12_fits 127 = .ok (.if_icmp .le 5, 3) := by decide +kernel
theorem dX12_fits_130 : decode cX12_fits 130 = .ok (.iconst 0, 1) := by decide +kernel
theorem dX12_fits_131 : decode cX12_fits 131 = .ok (.ireturn, 1) := by decide +kernel
theorem dX12_fits_132 : decode cX12_fits 132 = .ok (.iinc 4 1, 3) := by decide +kernel
theorem dX12_fits_135 : decode cX12_fits 135 = .ok (.goto (-27), 3) := by decide +kernel
theorem dX12_fits_138 : decode cX12_fits 138 = .ok (.iinc 3 1, 3) := by decide +kernel
theorem dX12_fits_141 : decode cX12_fits 141 = .ok (.goto (-139), 3) := by decide +kernel
theorem dX12_fits_144 : decode cX12_fits 144 = .ok (.iconst 1, 1) := by decide +kernel
theorem dX12_fits_145 : decode cX12_fits 145 = .ok (.ireturn, 1) := by decide +kernel
theorem dX12_cut_0 : decode cX12_cut 0 = .ok (.iload_n 0, 1) := by decide +kernel
theorem dX12_cut_1 : decode cX12_cut 1 = .ok (.ifCond .lt 9, 3) := by decide +kernel
theorem dX12_cut_4 : decode cX12_cut 4 = .ok (.iload_n 0, 1) := by decide +kernel
theorem dX12_cut_5 : decode cX12_cut 5 = .ok (.iload_n 1, 1) := by decide +kernel
theorem dX12_cut_6 : decode cX12_cut 6 = .ok (.idiv, 1) := by decide +kernel
theorem dX12_cut_7 : decode cX12_cut 7 = .ok (.goto 11, 3) := by decide +kernel
theorem dX12_cut_10 : decode cX12_cut 10 = .ok (.iload_n 1, 1) := by decide +kernel
theorem dX12_cut_11 : decode cX12_cut 11 = .ok (.iconst 1, 1) := by decide +kernel
theorem dX12_cut_12 : decode cX12_cut 12 = .ok (.isub, 1) := by decide +kernel
theorem dX12_cut_13 : decode cX12_cut 13 = .ok (.iload_n 0, 1) := by decide +kernel
theorem dX12_cut_14 : decode cX12_cut 14 = .ok (.isub, 1) := by decide +kernel
theorem dX12_cut_15 : decode cX12_cut 15 = .ok (.iload_n 1, 1) := by decide +kernel
theorem dX12_cut_16 : decode cX12_cut 16 = .ok (.idiv, 1) := by decide +kernel
theorem dX12_cut_17 : decode cX12_cut 17 = .ok (.ineg, 1) := by decide +kernel
theorem dX12_cut_18 : decode cX12_cut 18 = .ok (.ireturn, 1) := by decide +kernel
theorem dX12_holds_0 : decode cX12_holds 0 = .ok (.iconst 0, 1) := by decide +kernel
theorem dX12_holds_1 : decode cX12_holds 1 = .ok (.istore_n 3, 1) := by decide +kernel
theorem dX12_holds_2 : decode cX12_holds 2 = .ok (.iload_n 3, 1) := by decide +kernel
theorem dX12_holds_3 : decode cX12_holds 3 = .ok (.iload_n 1, 1) := by decide +kernel
theorem dX12_holds_4 : decode cX12_holds 4 = .ok (.if_icmp .ge 16, 3) := by decide +kernel
theorem dX12_holds_7 : decode cX12_holds 7 = .ok (.aload_n 0, 1) := by decide +kernel
theorem dX12_holds_8 : decode cX12_holds 8 = .ok (.getfield 93, 3) := by decide +kernel
theorem dX12_holds_11 : decode cX12_holds 11 = .ok (.iload_n 3, 1) := by decide +kernel
theorem dX12_holds_12 : decode cX12_holds 12 = .ok (.iconst 0, 1) := by decide +kernel
theorem dX12_holds_13 : decode cX12_holds 13 = .ok (.iastore, 1) := by decide +kernel
theorem dX12_holds_14 : decode cX12_holds 14 = .ok (.iinc 3 1, 3) := by decide +kernel
theorem dX12_holds_17 : decode cX12_holds 17 = .ok (.goto (-15), 3) := by decide +kernel
theorem dX12_holds_20 : decode cX12_holds 20 = .ok (.iconst 0, 1) := by decide +kernel
theorem dX12_holds_21 : decode cX12_holds 21 = .ok (.istore_n 3, 1) := by decide +kernel
theorem dX12_holds_22 : decode cX12_holds 22 = .ok (.iload_n 3, 1) := by decide +kernel
theorem dX12_holds_23 : decode cX12_holds 23 = .ok (.iload_n 1, 1) := by decide +kernel
theorem dX12_holds_24 : decode cX12_holds 24 = .ok (.if_icmp .gt 142, 3) := by decide +kernel
theorem dX12_holds_27 : decode cX12_holds 27 = .ok (.iconst 0, 1) := by decide +kernel
theorem dX12_holds_28 : decode cX12_holds 28 = .ok (.istore 4, 2) := by decide +kernel
theorem dX12_holds_30 : decode cX12_holds 30 = .ok (.iconst 0, 1) := by decide +kernel
theorem dX12_holds_31 : decode cX12_holds 31 = .ok (.istore 5, 2) := by decide +kernel
theorem dX12_holds_33 : decode cX12_holds 33 = .ok (.iload 5, 2) := by decide +kernel
theorem dX12_holds_35 : decode cX12_holds 35 = .ok (.aload_n 0, 1) := by decide +kernel
theorem dX12_holds_36 : decode cX12_holds 36 = .ok (.getfield 180, 3) := by decide +kernel
theorem dX12_holds_39 : decode cX12_holds 39 = .ok (.if_icmp .ge 114, 3) := by decide +kernel
theorem dX12_holds_42 : decode cX12_holds 42 = .ok (.aload_n 0, 1) := by decide +kernel
theorem dX12_holds_43 : decode cX12_holds 43 = .ok (.getfield 53, 3) := by decide +kernel
theorem dX12_holds_46 : decode cX12_holds 46 = .ok (.iload 5, 2) := by decide +kernel
theorem dX12_holds_48 : decode cX12_holds 48 = .ok (.iaload, 1) := by decide +kernel
theorem dX12_holds_49 : decode cX12_holds 49 = .ok (.istore 6, 2) := by decide +kernel
theorem dX12_holds_51 : decode cX12_holds 51 = .ok (.aload_n 0, 1) := by decide +kernel
theorem dX12_holds_52 : decode cX12_holds 52 = .ok (.getfield 56, 3) := by decide +kernel
theorem dX12_holds_55 : decode cX12_holds 55 = .ok (.iload 5, 2) := by decide +kernel
theorem dX12_holds_57 : decode cX12_holds 57 = .ok (.iaload, 1) := by decide +kernel
theorem dX12_holds_58 : decode cX12_holds 58 = .ok (.istore 7, 2) := by decide +kernel
theorem dX12_holds_60 : decode cX12_holds 60 = .ok (.iload 6, 2) := by decide +kernel
theorem dX12_holds_62 : decode cX12_holds 62 = .ok (.iload_n 1, 1) := by decide +kernel
theorem dX12_holds_63 : decode cX12_holds 63 = .ok (.if_icmp .ge 84, 3) := by decide +kernel
theorem dX12_holds_66 : decode cX12_holds 66 = .ok (.iload 7, 2) := by decide +kernel
theorem dX12_holds_68 : decode cX12_holds 68 = .ok (.iload_n 1, 1) := by decide +kernel
theorem dX12_holds_69 : decode cX12_holds 69 = .ok (.if_icmp .lt 6, 3) := by decide +kernel
theorem dX12_holds_72 : decode cX12_holds 72 = .ok (.goto 75, 3) := by decide +kernel
theorem dX12_holds_75 : decode cX12_holds 75 = .ok (.aload_n 0, 1) := by decide +kernel
theorem dX12_holds_76 : decode cX12_holds 76 = .ok (.getfield 93, 3) := by decide +kernel
theorem dX12_holds_79 : decode cX12_holds 79 = .ok (.iload 6, 2) := by decide +kernel
theorem dX12_holds_81 : decode cX12_holds 81 = .ok (.iaload, 1) := by decide +kernel
theorem dX12_holds_82 : decode cX12_holds 82 = .ok (.aload_n 0, 1) := by decide +kernel
theorem dX12_holds_83 : decode cX12_holds 83 = .ok (.getfield 62, 3) := by decide +kernel
theorem dX12_holds_86 : decode cX12_holds 86 = .ok (.iload 5, 2) := by decide +kernel
theorem dX12_holds_88 : decode cX12_holds 88 = .ok (.iaload, 1) := by decide +kernel
theorem dX12_holds_89 : decode cX12_holds 89 = .ok (.isub, 1) := by decide +kernel
theorem dX12_holds_90 : decode cX12_holds 90 = .ok (.aload_n 0, 1) := by decide +kernel
theorem dX12_holds_91 : decode cX12_holds 91 = .ok (.getfield 96, 3) := by decide +kernel
theorem dX12_holds_94 : decode cX12_holds 94 = .ok (.iload 7, 2) := by decide +kernel
theorem dX12_holds_96 : decode cX12_holds 96 = .ok (.iaload, 1) := by decide +kernel
theorem dX12_holds_97 : decode cX12_holds 97 = .ok (.aload_n 0, 1) := by decide +kernel
theorem dX12_holds_98 : decode cX12_holds 98 = .ok (.getfield 96, 3) := by decide +kernel
theorem dX12_holds_101 : decode cX12_holds 101 = .ok (.iload 6, 2) := by decide +kernel
theorem dX12_holds_103 : decode cX12_holds 103 = .ok (.iaload, 1) := by decide +kernel
theorem dX12_holds_104 : decode cX12_holds 104 = .ok (.isub, 1) := by decide +kernel
theorem dX12_holds_105 : decode cX12_holds 105 = .ok (.aload_n 0, 1) := by decide +kernel
theorem dX12_holds_106 : decode cX12_holds 106 = .ok (.getfield 59, 3) := by decide +kernel
theorem dX12_holds_109 : decode cX12_holds 109 = .ok (.iload 5, 2) := by decide +kernel
theorem dX12_holds_111 : decode cX12_holds 111 = .ok (.iaload, 1) := by decide +kernel
theorem dX12_holds_112 : decode cX12_holds 112 = .ok (.isub, 1) := by decide +kernel
theorem dX12_holds_113 : decode cX12_holds 113 = .ok (.iload_n 2, 1) := by decide +kernel
theorem dX12_holds_114 : decode cX12_holds 114 = .ok (.invokestatic 217, 3) := by decide +kernel
theorem dX12_holds_117 : decode cX12_holds 117 = .ok (.isub, 1) := by decide +kernel
theorem dX12_holds_118 : decode cX12_holds 118 = .ok (.istore 8, 2) := by decide +kernel
theorem dX12_holds_120 : decode cX12_holds 120 = .ok (.aload_n 0, 1) := by decide +kernel
theorem dX12_holds_121 : decode cX12_holds 121 = .ok (.getfield 93, 3) := by decide +kernel
theorem dX12_holds_124 : decode cX12_holds 124 = .ok (.iload 7, 2) := by decide +kernel
theorem dX12_holds_126 : decode cX12_holds 126 = .ok (.iaload, 1) := by decide +kernel
theorem dX12_holds_127 : decode cX12_holds 127 = .ok (.iload 8, 2) := by decide +kernel
theorem dX12_holds_129 : decode cX12_holds 129 = .ok (.if_icmp .lt 6, 3) := by decide +kernel
theorem dX12_holds_132 : decode cX12_holds 132 = .ok (.goto 15, 3) := by decide +kernel
theorem dX12_holds_135 : decode cX12_holds 135 = .ok (.aload_n 0, 1) := by decide +kernel
theorem dX12_holds_136 : decode cX12_holds 136 = .ok (.getfield 93, 3) := by decide +kernel
theorem dX12_holds_139 : decode cX12_holds 139 = .ok (.iload 7, 2) := by decide +kernel
theorem dX12_holds_141 : decode cX12_holds 141 = .ok (.iload 8, 2) := by decide +kernel
theorem dX12_holds_143 : decode cX12_holds 143 = .ok (.iastore, 1) := by decide +kernel
theorem dX12_holds_144 : decode cX12_holds 144 = .ok (.iconst 1, 1) := by decide +kernel
theorem dX12_holds_145 : decode cX12_holds 145 = .ok (.istore 4, 2) := by decide +kernel
theorem dX12_holds_147 : decode cX12_holds 147 = .ok (.iinc 5 1, 3) := by decide +kernel
theorem dX12_holds_150 : decode cX12_holds 150 = .ok (.goto (-117), 3) := by decide +kernel
theorem dX12_holds_153 : decode cX12_holds 153 = .ok (.iload 4, 2) := by decide +kernel
theorem dX12_holds_155 : decode cX12_holds 155 = .ok (.ifCond .ne 5, 3) := by decide +kernel
theorem dX12_holds_158 : decode cX12_holds 158 = .ok (.iconst 1, 1) := by decide +kernel
theorem dX12_holds_159 : decode cX12_holds 159 = .ok (.ireturn, 1) := by decide +kernel
theorem dX12_holds_160 : decode cX12_holds 160 = .ok (.iinc 3 1, 3) := by decide +kernel
theorem dX12_holds_163 : decode cX12_holds 163 = .ok (.goto (-141), 3) := by decide +kernel
theorem dX12_holds_166 : decode cX12_holds 166 = .ok (.iconst 0, 1) := by decide +kernel
theorem dX12_holds_167 : decode cX12_holds 167 = .ok (.ireturn, 1) := by decide +kernel
theorem dX12_tries_0 : decode cX12_tries 0 = .ok (.iconst 0, 1) := by decide +kernel
theorem dX12_tries_1 : decode cX12_tries 1 = .ok (.istore_n 2, 1) := by decide +kernel
theorem dX12_tries_2 : decode cX12_tries 2 = .ok (.aload_n 0, 1) := by decide +kernel
theorem dX12_tries_3 : decode cX12_tries 3 = .ok (.getfield 96, 3) := by decide +kernel
theorem dX12_tries_6 : decode cX12_tries 6 = .ok (.iconst 0, 1) := by decide +kernel
theorem dX12_tries_7 : decode cX12_tries 7 = .ok (.iconst 0, 1) := by decide +kernel
theorem dX12_tries_8 : decode cX12_tries 8 = .ok (.iastore, 1) := by decide +kernel
theorem dX12_tries_9 : decode cX12_tries 9 = .ok (.iload_n 2, 1) := by decide +kernel
theorem dX12_tries_10 : decode cX12_tries 10 = .ok (.ifCond .lt 121, 3) := by decide +kernel
theorem dX12_tries_13 : decode cX12_tries 13 = .ok (.aload_n 0, 1) := by decide +kernel
theorem dX12_tries_14 : decode cX12_tries 14 = .ok (.getfield 96, 3) := by decide +kernel
theorem dX12_tries_17 : decode cX12_tries 17 = .ok (.iload_n 2, 1) := by decide +kernel
theorem dX12_tries_18 : decode cX12_tries 18 = .ok (.iaload, 1) := by decide +kernel
theorem dX12_tries_19 : decode cX12_tries 19 = .ok (.iload_n 2, 1) := by decide +kernel
theorem dX12_tries_20 : decode cX12_tries 20 = .ok (.ifCond .ne 7, 3) := by decide +kernel
theorem dX12_tries_23 : decode cX12_tries 23 = .ok (.iconst 1, 1) := by decide +kernel
theorem dX12_tries_24 : decode cX12_tries 24 = .ok (.goto 4, 3) := by decide +kernel
theorem dX12_tries_27 : decode cX12_tries 27 = .ok (.iload_n 1, 1) := by decide +kernel
theorem dX12_tries_28 : decode cX12_tries 28 = .ok (.if_icmp .ne 23, 3) := by decide +kernel
theorem dX12_tries_31 : decode cX12_tries 31 = .ok (.iinc 2 (-1), 3) := by decide +kernel
theorem dX12_tries_34 : decode cX12_tries 34 = .ok (.iload_n 2, 1) := by decide +kernel
theorem dX12_tries_35 : decode cX12_tries 35 = .ok (.ifCond .lt (-26), 3) := by decide +kernel
theorem dX12_tries_38 : decode cX12_tries 38 = .ok (.aload_n 0, 1) := by decide +kernel
theorem dX12_tries_39 : decode cX12_tries 39 = .ok (.getfield 96, 3) := by decide +kernel
theorem dX12_tries_42 : decode cX12_tries 42 = .ok (.iload_n 2, 1) := by decide +kernel
theorem dX12_tries_43 : decode cX12_tries 43 = .ok (.dup2, 1) := by decide +kernel
theorem dX12_tries_44 : decode cX12_tries 44 = .ok (.iaload, 1) := by decide +kernel
theorem dX12_tries_45 : decode cX12_tries 45 = .ok (.iconst 1, 1) := by decide +kernel
theorem dX12_tries_46 : decode cX12_tries 46 = .ok (.iadd, 1) := by decide +kernel
theorem dX12_tries_47 : decode cX12_tries 47 = .ok (.iastore, 1) := by decide +kernel
theorem dX12_tries_48 : decode cX12_tries 48 = .ok (.goto (-39), 3) := by decide +kernel
theorem dX12_tries_51 : decode cX12_tries 51 = .ok (.aload_n 0, 1) := by decide +kernel
theorem dX12_tries_52 : decode cX12_tries 52 = .ok (.getfield 221, 3) := by decide +kernel
theorem dX12_tries_55 : decode cX12_tries 55 = .ok (.sipush 3000, 3) := by decide +kernel
theorem dX12_tries_58 : decode cX12_tries 58 = .ok (.if_icmp .ne 5, 3) := by decide +kernel
theorem dX12_tries_61 : decode cX12_tries 61 = .ok (.iconst 4, 1) := by decide +kernel
theorem dX12_tries_62 : decode cX12_tries 62 = .ok (.ireturn, 1) := by decide +kernel
theorem dX12_tries_63 : decode cX12_tries 63 = .ok (.aload_n 0, 1) := by decide +kernel
theorem dX12_tries_64 : decode cX12_tries 64 = .ok (.dup, 1) := by decide +kernel
theorem dX12_tries_65 : decode cX12_tries 65 = .ok (.getfield 221, 3) := by decide +kernel
theorem dX12_tries_68 : decode cX12_tries 68 = .ok (.iconst 1, 1) := by decide +kernel
theorem dX12_tries_69 : decode cX12_tries 69 = .ok (.iadd, 1) := by decide +kernel
theorem dX12_tries_70 : decode cX12_tries 70 = .ok (.putfield 221, 3) := by decide +kernel
theorem dX12_tries_73 : decode cX12_tries 73 = .ok (.aload_n 0, 1) := by decide +kernel
theorem dX12_tries_74 : decode cX12_tries 74 = .ok (.iload_n 2, 1) := by decide +kernel
theorem dX12_tries_75 : decode cX12_tries 75 = .ok (.iconst 1, 1) := by decide +kernel
theorem dX12_tries_76 : decode cX12_tries 76 = .ok (.iadd, 1) := by decide +kernel
theorem dX12_tries_77 : decode cX12_tries 77 = .ok (.iload_n 1, 1) := by decide +kernel
theorem dX12_tries_78 : decode cX12_tries 78 = .ok (.invokevirtual 224, 3) := by decide +kernel
theorem dX12_tries_81 : decode cX12_tries 81 = .ok (.ifCond .eq 14, 3) := by decide +kernel
theorem dX12_tries_84 : decode cX12_tries 84 = .ok (.aload_n 0, 1) := by decide +kernel
theorem dX12_tries_85 : decode cX12_tries 85 = .ok (.iload_n 2, 1) := by decide +kernel
theorem dX12_tries_86 : decode cX12_tries 86 = .ok (.iconst 1, 1) := by decide +kernel
theorem dX12_tries_87 : decode cX12_tries 87 = .ok (.iadd, 1) := by decide +kernel
theorem dX12_tries_88 : decode cX12_tries 88 = .ok (.iload_n 1, 1) := by decide +kernel
theorem dX12_tries_89 : decode cX12_tries 89 = .ok (.invokevirtual 227, 3) := by decide +kernel
theorem dX12_tries_92 : decode cX12_tries 92 = .ok (.ifCond .ne 16, 3) := by decide +kernel
theorem dX12_tries_95 : decode cX12_tries 95 = .ok (.aload_n 0, 1) := by decide +kernel
theorem dX12_tries_96 : decode cX12_tries 96 = .ok (.getfield 96, 3) := by decide +kernel
theorem dX12_tries_99 : decode cX12_tries 99 = .ok (.iload_n 2, 1) := by decide +kernel
theorem dX12_tries_100 : decode cX12_tries 100 = .ok (.dup2, 1) := by decide +kernel
theorem dX12_tries_101 : decode cX12_tries 101 = .ok (.iaload, 1) := by decide +kernel
theorem dX12_tries_102 : decode cX12_tries 102 = .ok (.iconst 1, 1) := by decide +kernel
theorem dX12_tries_103 : decode cX12_tries 103 = .ok (.iadd, 1) := by decide +kernel
theorem dX12_tries_104 : decode cX12_tries 104 = .ok (.iastore, 1) := by decide +kernel
theorem dX12_tries_105 : decode cX12_tries 105 = .ok (.goto (-96), 3) := by decide +kernel
theorem dX12_tries_108 : decode cX12_tries 108 = .ok (.iinc 2 1, 3) := by decide +kernel
theorem dX12_tries_111 : decode cX12_tries 111 = .ok (.iload_n 2, 1) := by decide +kernel
theorem dX12_tries_112 : decode cX12_tries 112 = .ok (.aload_n 0, 1) := by decide +kernel
theorem dX12_tries_113 : decode cX12_tries 113 = .ok (.getfield 118, 3) := by decide +kernel
theorem dX12_tries_116 : decode cX12_tries 116 = .ok (.if_icmp .ne 5, 3) := by decide +kernel
theorem dX12_tries_119 : decode cX12_tries 119 = .ok (.iconst 0, 1) := by decide +kernel
theorem dX12_tries_120 : decode cX12_tries 120 = .ok (.ireturn, 1) := by decide +kernel
theorem dX12_tries_121 : decode cX12_tries 121 = .ok (.aload_n 0, 1) := by decide +kernel
theorem dX12_tries_122 : decode cX12_tries 122 = .ok (.getfield 96, 3) := by decide +kernel
theorem dX12_tries_125 : decode cX12_tries 125 = .ok (.iload_n 2, 1) := by decide +kernel
theorem dX12_tries_126 : decode cX12_tries 126 = .ok (.iconst 0, 1) := by decide +kernel
theorem dX12_tries_127 : decode cX12_tries 127 = .ok (.iastore, 1) := by decide +kernel
theorem dX12_tries_128 : decode cX12_tries 128 = .ok (.goto (-119), 3) := by decide +kernel
theorem dX12_tries_131 : decode cX12_tries 131 = .ok (.iconst 3, 1) := by decide +kernel
theorem dX12_tries_132 : decode cX12_tries 132 = .ok (.ireturn, 1) := by decide +kernel
theorem dX12_lay_0 : decode cX12_lay 0 = .ok (.aload_n 0, 1) := by decide +kernel
theorem dX12_lay_1 : decode cX12_lay 1 = .ok (.iconst 0, 1) := by decide +kernel
theorem dX12_lay_2 : decode cX12_lay 2 = .ok (.putfield 221, 3) := by decide +kernel
theorem dX12_lay_5 : decode cX12_lay 5 = .ok (.aload_n 0, 1) := by decide +kernel
theorem dX12_lay_6 : decode cX12_lay 6 = .ok (.invokevirtual 210, 3) := by decide +kernel
theorem dX12_lay_9 : decode cX12_lay 9 = .ok (.ifCond .ne 10, 3) := by decide +kernel
theorem dX12_lay_12 : decode cX12_lay 12 = .ok (.aload_n 0, 1) := by decide +kernel
theorem dX12_lay_13 : decode cX12_lay 13 = .ok (.bipush (-2), 2) := by decide +kernel
theorem dX12_lay_15 : decode cX12_lay 15 = .ok (.invokevirtual 124, 3) := by decide +kernel
theorem dX12_lay_18 : decode cX12_lay 18 = .ok (.ireturn, 1) := by decide +kernel
theorem dX12_lay_19 : decode cX12_lay 19 = .ok (.iconst 3, 1) := by decide +kernel
theorem dX12_lay_20 : decode cX12_lay 20 = .ok (.istore_n 1, 1) := by decide +kernel
theorem dX12_lay_21 : decode cX12_lay 21 = .ok (.aload_n 0, 1) := by decide +kernel
theorem dX12_lay_22 : decode cX12_lay 22 = .ok (.invokevirtual 214, 3) := by decide +kernel
theorem dX12_lay_25 : decode cX12_lay 25 = .ok (.istore_n 2, 1) := by decide +kernel
theorem dX12_lay_26 : decode cX12_lay 26 = .ok (.iload_n 2, 1) := by decide +kernel
theorem dX12_lay_27 : decode cX12_lay 27 = .ok (.bipush 60, 2) := by decide +kernel
theorem dX12_lay_29 : decode cX12_lay 29 = .ok (.if_icmp .gt 25, 3) := by decide +kernel
theorem dX12_lay_32 : decode cX12_lay 32 = .ok (.iload_n 1, 1) := by decide +kernel
theorem dX12_lay_33 : decode cX12_lay 33 = .ok (.iconst 3, 1) := by decide +kernel
theorem dX12_lay_34 : decode cX12_lay 34 = .ok (.if_icmp .ne 20, 3) := by decide +kernel
theorem dX12_lay_37 : decode cX12_lay 37 = .ok (.aload_n 0, 1) := by decide +kernel
theorem dX12_lay_38 : decode cX12_lay 38 = .ok (.iload_n 2, 1) := by decide +kernel
theorem dX12_lay_39 : decode cX12_lay 39 = .ok (.invokevirtual 230, 3) := by decide +kernel
theorem dX12_lay_42 : decode cX12_lay 42 = .ok (.istore_n 1, 1) := by decide +kernel
theorem dX12_lay_43 : decode cX12_lay 43 = .ok (.iload_n 1, 1) := by decide +kernel
theorem dX12_lay_44 : decode cX12_lay 44 = .ok (.iconst 3, 1) := by decide +kernel
theorem dX12_lay_45 : decode cX12_lay 45 = .ok (.if_icmp .ne (-19), 3) := by decide +kernel
theorem dX12_lay_48 : decode cX12_lay 48 = .ok (.iinc 2 1, 3) := by decide +kernel
theorem dX12_lay_51 : decode cX12_lay 51 = .ok (.goto (-25), 3) := by decide +kernel
theorem dX12_lay_54 : decode cX12_lay 54 = .ok (.iload_n 1, 1) := by decide +kernel
theorem dX12_lay_55 : decode cX12_lay 55 = .ok (.ifCond .eq 20, 3) := by decide +kernel
theorem dX12_lay_58 : decode cX12_lay 58 = .ok (.aload_n 0, 1) := by decide +kernel
theorem dX12_lay_59 : decode cX12_lay 59 = .ok (.iload_n 1, 1) := by decide +kernel
theorem dX12_lay_60 : decode cX12_lay 60 = .ok (.iconst 4, 1) := by decide +kernel
theorem dX12_lay_61 : decode cX12_lay 61 = .ok (.if_icmp .ne 8, 3) := by decide +kernel
theorem dX12_lay_64 : decode cX12_lay 64 = .ok (.bipush (-11), 2) := by decide +kernel
theorem dX12_lay_66 : decode cX12_lay 66 = .ok (.goto 5, 3) := by decide +kernel
theorem dX12_lay_69 : decode cX12_lay 69 = .ok (.bipush (-9), 2) := by decide +kernel
theorem dX12_lay_71 : decode cX12_lay 71 = .ok (.invokevirtual 124, 3) := by decide +kernel
theorem dX12_lay_74 : decode cX12_lay 74 = .ok (.ireturn, 1) := by decide +kernel
theorem dX12_lay_75 : decode cX12_lay 75 = .ok (.aload_n 0, 1) := by decide +kernel
theorem dX12_lay_76 : decode cX12_lay 76 = .ok (.iload_n 2, 1) := by decide +kernel
theorem dX12_lay_77 : decode cX12_lay 77 = .ok (.putfield 121, 3) := by decide +kernel
theorem dX12_lay_80 : decode cX12_lay 80 = .ok (.iconst 0, 1) := by decide +kernel
theorem dX12_lay_81 : decode cX12_lay 81 = .ok (.istore_n 3, 1) := by decide +kernel
theorem dX12_lay_82 : decode cX12_lay 82 = .ok (.iload_n 3, 1) := by decide +kernel
theorem dX12_lay_83 : decode cX12_lay 83 = .ok (.aload_n 0, 1) := by decide +kernel
theorem dX12_lay_84 : decode cX12_lay 84 = .ok (.getfield 118, 3) := by decide +kernel
theorem dX12_lay_87 : decode cX12_lay 87 = .ok (.if_icmp .ge 66, 3) := by decide +kernel
theorem dX12_lay_90 : decode cX12_lay 90 = .ok (.aload_n 0, 1) := by decide +kernel
theorem dX12_lay_91 : decode cX12_lay 91 = .ok (.getfield 81, 3) := by decide +kernel
theorem dX12_lay_94 : decode cX12_lay 94 = .ok (.iload_n 3, 1) := by decide +kernel
theorem dX12_lay_95 : decode cX12_lay 95 = .ok (.aload_n 0, 1) := by decide +kernel
theorem dX12_lay_96 : decode cX12_lay 96 = .ok (.getfield 96, 3) := by decide +kernel
theorem dX12_lay_99 : decode cX12_lay 99 = .ok (.iload_n 3, 1) := by decide +kernel
theorem dX12_lay_100 : decode cX12_lay 100 = .ok (.iaload, 1) := by decide +kernel
theorem dX12_lay_101 : decode cX12_lay 101 = .ok (.iastore, 1) := by decide +kernel
theorem dX12_lay_102 : decode cX12_lay 102 = .ok (.aload_n 0, 1) := by decide +kernel
theorem dX12_lay_103 : decode cX12_lay 103 = .ok (.getfield 84, 3) := by decide +kernel
theorem dX12_lay_106 : decode cX12_lay 106 = .ok (.iload_n 3, 1) := by decide +kernel
theorem dX12_lay_107 : decode cX12_lay 107 = .ok (.aload_n 0, 1) := by decide +kernel
theorem dX12_lay_108 : decode cX12_lay 108 = .ok (.getfield 93, 3) := by decide +kernel
theorem dX12_lay_111 : decode cX12_lay 111 = .ok (.iload_n 3, 1) := by decide +kernel
theorem dX12_lay_112 : decode cX12_lay 112 = .ok (.iaload, 1) := by decide +kernel
theorem dX12_lay_113 : decode cX12_lay 113 = .ok (.iastore, 1) := by decide +kernel
theorem dX12_lay_114 : decode cX12_lay 114 = .ok (.aload_n 0, 1) := by decide +kernel
theorem dX12_lay_115 : decode cX12_lay 115 = .ok (.getfield 87, 3) := by decide +kernel
theorem dX12_lay_118 : decode cX12_lay 118 = .ok (.iload_n 3, 1) := by decide +kernel
theorem dX12_lay_119 : decode cX12_lay 119 = .ok (.iload_n 2, 1) := by decide +kernel
theorem dX12_lay_120 : decode cX12_lay 120 = .ok (.aload_n 0, 1) := by decide +kernel
theorem dX12_lay_121 : decode cX12_lay 121 = .ok (.getfield 93, 3) := by decide +kernel
theorem dX12_lay_124 : decode cX12_lay 124 = .ok (.iload_n 3, 1) := by decide +kernel
theorem dX12_lay_125 : decode cX12_lay 125 = .ok (.iaload, 1) := by decide +kernel
theorem dX12_lay_126 : decode cX12_lay 126 = .ok (.imul, 1) := by decide +kernel
theorem dX12_lay_127 : decode cX12_lay 127 = .ok (.aload_n 0, 1) := by decide +kernel
theorem dX12_lay_128 : decode cX12_lay 128 = .ok (.getfield 96, 3) := by decide +kernel
theorem dX12_lay_131 : decode cX12_lay 131 = .ok (.iload_n 3, 1) := by decide +kernel
theorem dX12_lay_132 : decode cX12_lay 132 = .ok (.iaload, 1) := by decide +kernel
theorem dX12_lay_133 : decode cX12_lay 133 = .ok (.iadd, 1) := by decide +kernel
theorem dX12_lay_134 : decode cX12_lay 134 = .ok (.iastore, 1) := by decide +kernel
theorem dX12_lay_135 : decode cX12_lay 135 = .ok (.aload_n 0, 1) := by decide +kernel
theorem dX12_lay_136 : decode cX12_lay 136 = .ok (.getfield 90, 3) := by decide +kernel
theorem dX12_lay_139 : decode cX12_lay 139 = .ok (.iload_n 3, 1) := by decide +kernel
theorem dX12_lay_140 : decode cX12_lay 140 = .ok (.aload_n 0, 1) := by decide +kernel
theorem dX12_lay_141 : decode cX12_lay 141 = .ok (.getfield 87, 3) := by decide +kernel
theorem dX12_lay_144 : decode cX12_lay 144 = .ok (.iload_n 3, 1) := by decide +kernel
theorem dX12_lay_145 : decode cX12_lay 145 = .ok (.iaload, 1) := by decide +kernel
theorem dX12_lay_146 : decode cX12_lay 146 = .ok (.iastore, 1) := by decide +kernel
theorem dX12_lay_147 : decode cX12_lay 147 = .ok (.iinc 3 1, 3) := by decide +kernel
theorem dX12_lay_150 : decode cX12_lay 150 = .ok (.goto (-68), 3) := by decide +kernel
theorem dX12_lay_153 : decode cX12_lay 153 = .ok (.iload_n 2, 1) := by decide +kernel
theorem dX12_lay_154 : decode cX12_lay 154 = .ok (.ireturn, 1) := by decide +kernel
theorem dX12_prove_0 : decode cX12_prove 0 = .ok (.aload_n 0, 1) := by decide +kernel
theorem dX12_prove_1 : decode cX12_prove 1 = .ok (.iconst 0, 1) := by decide +kernel
theorem dX12_prove_2 : decode cX12_prove 2 = .ok (.putfield 221, 3) := by decide +kernel
theorem dX12_prove_5 : decode cX12_prove 5 = .ok (.aload_n 0, 1) := by decide +kernel
theorem dX12_prove_6 : decode cX12_prove 6 = .ok (.invokevirtual 210, 3) := by decide +kernel
theorem dX12_prove_9 : decode cX12_prove 9 = .ok (.ifCond .ne 10, 3) := by decide +kernel
theorem dX12_prove_12 : decode cX12_prove 12 = .ok (.aload_n 0, 1) := by decide +kernel
theorem dX12_prove_13 : decode cX12_prove 13 = .ok (.bipush (-2), 2) := by decide +kernel
theorem dX12_prove_15 : decode cX12_prove 15 = .ok (.invokevirtual 124, 3) := by decide +kernel
theorem dX12_prove_18 : decode cX12_prove 18 = .ok (.ireturn, 1) := by decide +kernel
theorem dX12_prove_19 : decode cX12_prove 19 = .ok (.iload_n 1, 1) := by decide +kernel
theorem dX12_prove_20 : decode cX12_prove 20 = .ok (.ifCond .ge 10, 3) := by decide +kernel
theorem dX12_prove_23 : decode cX12_prove 23 = .ok (.aload_n 0, 1) := by decide +kernel
theorem dX12_prove_24 : decode cX12_prove 24 = .ok (.bipush (-4), 2) := by decide +kernel
theorem dX12_prove_26 : decode cX12_prove 26 = .ok (.invokevirtual 124, 3) := by decide +kernel
theorem dX12_prove_29 : decode cX12_prove 29 = .ok (.ireturn, 1) := by decide +kernel
theorem dX12_prove_30 : decode cX12_prove 30 = .ok (.iload_n 1, 1) := by decide +kernel
theorem dX12_prove_31 : decode cX12_prove 31 = .ok (.i2l, 1) := by decide +kernel
theorem dX12_prove_32 : decode cX12_prove 32 = .ok (.lconst 1, 1) := by decide +kernel
theorem dX12_prove_33 : decode cX12_prove 33 = .ok (.ldc2_w 233, 3) := by decide +kernel
theorem dX12_prove_36 : decode cX12_prove 36 = .ok (.invokestatic 137, 3) := by decide +kernel
theorem dX12_prove_39 : decode cX12_prove 39 = .ok (.ifCond .ne 10, 3) := by decide +kernel
theorem dX12_prove_42 : decode cX12_prove 42 = .ok (.aload_n 0, 1) := by decide +kernel
theorem dX12_prove_43 : decode cX12_prove 43 = .ok (.bipush (-9), 2) := by decide +kernel
theorem dX12_prove_45 : decode cX12_prove 45 = .ok (.invokevirtual 124, 3) := by decide +kernel
theorem dX12_prove_48 : decode cX12_prove 48 = .ok (.ireturn, 1) := by decide +kernel
theorem dX12_prove_49 : decode cX12_prove 49 = .ok (.aload_n 0, 1) := by decide +kernel
theorem dX12_prove_50 : decode cX12_prove 50 = .ok (.invokevirtual 177, 3) := by decide +kernel
theorem dX12_prove_53 : decode cX12_prove 53 = .ok (.aload_n 0, 1) := by decide +kernel
theorem dX12_prove_54 : decode cX12_prove 54 = .ok (.invokevirtual 204, 3) := by decide +kernel
theorem dX12_prove_57 : decode cX12_prove 57 = .ok (.iload_n 1, 1) := by decide +kernel
theorem dX12_prove_58 : decode cX12_prove 58 = .ok (.if_icmp .le 5, 3) := by decide +kernel
theorem dX12_prove_61 : decode cX12_prove 61 = .ok (.iconst 1, 1) := by decide +kernel
theorem dX12_prove_62 : decode cX12_prove 62 = .ok (.ireturn, 1) := by decide +kernel
theorem dX12_prove_63 : decode cX12_prove 63 = .ok (.aload_n 0, 1) := by decide +kernel
theorem dX12_prove_64 : decode cX12_prove 64 = .ok (.iload_n 1, 1) := by decide +kernel
theorem dX12_prove_65 : decode cX12_prove 65 = .ok (.invokevirtual 197, 3) := by decide +kernel
theorem dX12_prove_68 : decode cX12_prove 68 = .ok (.ifCond .eq 11, 3) := by decide +kernel
theorem dX12_prove_71 : decode cX12_prove 71 = .ok (.aload_n 0, 1) := by decide +kernel
theorem dX12_prove_72 : decode cX12_prove 72 = .ok (.iload_n 1, 1) := by decide +kernel
theorem dX12_prove_73 : decode cX12_prove 73 = .ok (.invokevirtual 230, 3) := by decide +kernel
theorem dX12_prove_76 : decode cX12_prove 76 = .ok (.goto 4, 3) := by decide +kernel
theorem dX12_prove_79 : decode cX12_prove 79 = .ok (.iconst 2, 1) := by decide +kernel
theorem dX12_prove_80 : decode cX12_prove 80 = .ok (.ireturn, 1) := by decide +kernel
theorem dX12_trials_0 : decode cX12_trials 0 = .ok (.aload_n 0, 1) := by decide +kernel
theorem dX12_trials_1 : decode cX12_trials 1 = .ok (.getfield 221, 3) := by decide +kernel
theorem dX12_trials_4 : decode cX12_trials 4 = .ok (.ireturn, 1) := by decide +kernel
theorem dX12_laying_0 : decode cX12_laying 0 = .ok (.aload_n 0, 1) := by decide +kernel
theorem dX12_laying_1 : decode cX12_laying 1 = .ok (.getfield 121, 3) := by decide +kernel
theorem dX12_laying_4 : decode cX12_laying 4 = .ok (.ifCond .ne 10, 3) := by decide +kernel
theorem dX12_laying_7 : decode cX12_laying 7 = .ok (.aload_n 0, 1) := by decide +kernel
theorem dX12_laying_8 : decode cX12_laying 8 = .ok (.bipush (-2), 2) := by decide +kernel
theorem dX12_laying_10 : decode cX12_laying 10 = .ok (.invokevirtual 124, 3) := by decide +kernel
theorem dX12_laying_13 : decode cX12_laying 13 = .ok (.ireturn, 1) := by decide +kernel
theorem dX12_laying_14 : decode cX12_laying 14 = .ok (.iload_n 1, 1) := by decide +kernel
theorem dX12_laying_15 : decode cX12_laying 15 = .ok (.i2l, 1) := by decide +kernel
theorem dX12_laying_16 : decode cX12_laying 16 = .ok (.lconst 0, 1) := by decide +kernel
theorem dX12_laying_17 : decode cX12_laying 17 = .ok (.ldc2_w 235, 3) := by decide +kernel
theorem dX12_laying_20 : decode cX12_laying 20 = .ok (.invokestatic 137, 3) := by decide +kernel
theorem dX12_laying_23 : decode cX12_laying 23 = .ok (.ifCond .ne 10, 3) := by decide +kernel
theorem dX12_laying_26 : decode cX12_laying 26 = .ok (.aload_n 0, 1) := by decide +kernel
theorem dX12_laying_27 : decode cX12_laying 27 = .ok (.bipush (-9), 2) := by decide +kernel
theorem dX12_laying_29 : decode cX12_laying 29 = .ok (.invokevirtual 124, 3) := by decide +kernel
theorem dX12_laying_32 : decode cX12_laying 32 = .ok (.ireturn, 1) := by decide +kernel
theorem dX12_laying_33 : decode cX12_laying 33 = .ok (.iconst 0, 1) := by decide +kernel
theorem dX12_laying_34 : decode cX12_laying 34 = .ok (.istore_n 2, 1) := by decide +kernel
theorem dX12_laying_35 : decode cX12_laying 35 = .ok (.iconst 0, 1) := by decide +kernel
theorem dX12_laying_36 : decode cX12_laying 36 = .ok (.istore_n 3, 1) := by decide +kernel
theorem dX12_laying_37 : decode cX12_laying 37 = .ok (.iconst 0, 1) := by decide +kernel
theorem dX12_laying_38 : decode cX12_laying 38 = .ok (.istore 4, 2) := by decide +kernel
theorem dX12_laying_40 : decode cX12_laying 40 = .ok (.iload 4, 2) := by decide +kernel
theorem dX12_laying_42 : decode cX12_laying 42 = .ok (.aload_n 0, 1) := by decide +kernel
theorem dX12_laying_43 : decode cX12_laying 43 = .ok (.getfield 118, 3) := by decide +kernel
theorem dX12_laying_46 : decode cX12_laying 46 = .ok (.if_icmp .ge 63, 3) := by decide +kernel
theorem dX12_laying_49 : decode cX12_laying 49 = .ok (.aload_n 0, 1) := by decide +kernel
theorem dX12_laying_50 : decode cX12_laying 50 = .ok (.getfield 84, 3) := by decide +kernel
theorem dX12_laying_53 : decode cX12_laying 53 = .ok (.iload 4, 2) := by decide +kernel
theorem dX12_laying_55 : decode cX12_laying 55 = .ok (.iaload, 1) := by decide +kernel
theorem dX12_laying_56 : decode cX12_laying 56 = .ok (.iload_n 2, 1) := by decide +kernel
theorem dX12_laying_57 : decode cX12_laying 57 = .ok (.if_icmp .le 11, 3) := by decide +kernel
theorem dX12_laying_60 : decode cX12_laying 60 = .ok (.aload_n 0, 1) := by decide +kernel
theorem dX12_laying_61 : decode cX12_laying 61 = .ok (.getfield 84, 3) := by decide +kernel
theorem dX12_laying_64 : decode cX12_laying 64 = .ok (.iload 4, 2) := by decide +kernel
theorem dX12_laying_66 : decode cX12_laying 66 = .ok (.iaload, 1) := by decide +kernel
theorem dX12_laying_67 : decode cX12_laying 67 = .ok (.istore_n 2, 1) := by decide +kernel
theorem dX12_laying_68 : decode cX12_laying 68 = .ok (.aload_n 0, 1) := by decide +kernel
theorem dX12_laying_69 : decode cX12_laying 69 = .ok (.getfield 87, 3) := by decide +kernel
theorem dX12_laying_72 : decode cX12_laying 72 = .ok (.iload 4, 2) := by decide +kernel
theorem dX12_laying_74 : decode cX12_laying 74 = .ok (.iaload, 1) := by decide +kernel
theorem dX12_laying_75 : decode cX12_laying 75 = .ok (.aload_n 0, 1) := by decide +kernel
theorem dX12_laying_76 : decode cX12_laying 76 = .ok (.getfield 13, 3) := by decide +kernel
theorem dX12_laying_79 : decode cX12_laying 79 = .ok (.iload 4, 2) := by decide +kernel
theorem dX12_laying_81 : decode cX12_laying 81 = .ok (.iaload, 1) := by decide +kernel
theorem dX12_laying_82 : decode cX12_laying 82 = .ok (.iadd, 1) := by decide +kernel
theorem dX12_laying_83 : decode cX12_laying 83 = .ok (.iload_n 3, 1) := by decide +kernel
theorem dX12_laying_84 : decode cX12_laying 84 = .ok (.if_icmp .le 19, 3) := by decide +kernel
theorem dX12_laying_87 : decode cX12_laying 87 = .ok (.aload_n 0, 1) := by decide +kernel
theorem dX12_laying_88 : decode cX12_laying 88 = .ok (.getfield 87, 3) := by decide +kernel
theorem dX12_laying_91 : decode cX12_laying 91 = .ok (.iload 4, 2) := by decide +kernel
theorem dX12_laying_93 : decode cX12_laying 93 = .ok (.iaload, 1) := by decide +kernel
theorem dX12_laying_94 : decode cX12_laying 94 = .ok (.aload_n 0, 1) := by decide +kernel
theorem dX12_laying_95 : decode cX12_laying 95 = .ok (.getfield 13, 3) := by decide +kernel
theorem dX12_laying_98 : decode cX12_laying 98 = .ok (.iload 4, 2) := by decide +kernel
theorem dX12_laying_100 : decode cX12_laying 100 = .ok (.iaload, 1) := by decide +kernel
theorem dX12_laying_101 : decode cX12_laying 101 = .ok (.iadd, 1) := by decide +kernel
theorem dX12_laying_102 : decode cX12_laying 102 = .ok (.istore_n 3, 1) := by decide +kernel
theorem dX12_laying_103 : decode cX12_laying 103 = .ok (.iinc 4 1, 3) := by decide +kernel
theorem dX12_laying_106 : decode cX12_laying 106 = .ok (.goto (-66), 3) := by decide +kernel
theorem dX12_laying_109 : decode cX12_laying 109 = .ok (.iload_n 1, 1) := by decide +kernel
theorem dX12_laying_110 : decode cX12_laying 110 = .ok (.ifCond .ne 10, 3) := by decide +kernel
theorem dX12_laying_113 : decode cX12_laying 113 = .ok (.aload_n 0, 1) := by decide +kernel
theorem dX12_laying_114 : decode cX12_laying 114 = .ok (.getfield 121, 3) := by decide +kernel
theorem dX12_laying_117 : decode cX12_laying 117 = .ok (.goto 15, 3) := by decide +kernel
theorem dX12_laying_120 : decode cX12_laying 120 = .ok (.iload_n 1, 1) := by decide +kernel
theorem dX12_laying_121 : decode cX12_laying 121 = .ok (.iconst 1, 1) := by decide +kernel
theorem dX12_laying_122 : decode cX12_laying 122 = .ok (.if_icmp .ne 9, 3) := by decide +kernel
theorem dX12_laying_125 : decode cX12_laying 125 = .ok (.iload_n 2, 1) := by decide +kernel
theorem dX12_laying_126 : decode cX12_laying 126 = .ok (.iconst 1, 1) := by decide +kernel
theorem dX12_laying_127 : decode cX12_laying 127 = .ok (.iadd, 1) := by decide +kernel
theorem dX12_laying_128 : decode cX12_laying 128 = .ok (.goto 4, 3) := by decide +kernel
theorem dX12_laying_131 : decode cX12_laying 131 = .ok (.iload_n 3, 1) := by decide +kernel
theorem dX12_laying_132 : decode cX12_laying 132 = .ok (.ireturn, 1) := by decide +kernel
theorem dX12_latestBegin_0 : decode cX12_latestBegin 0 = .ok (.aload_n 0, 1) := by decide +kernel
theorem dX12_latestBegin_1 : decode cX12_latestBegin 1 = .ok (.invokevirtual 177, 3) := by decide +kernel
theorem dX12_latestBegin_4 : decode cX12_latestBegin 4 = .ok (.aload_n 0, 1) := by decide +kernel
theorem dX12_latestBegin_5 : decode cX12_latestBegin 5 = .ok (.aload_n 0, 1) := by decide +kernel
theorem dX12_latestBegin_6 : decode cX12_latestBegin 6 = .ok (.getfield 121, 3) := by decide +kernel
theorem dX12_latestBegin_9 : decode cX12_latestBegin 9 = .ok (.invokevirtual 197, 3) := by decide +kernel
theorem dX12_latestBegin_12 : decode cX12_latestBegin 12 = .ok (.istore_n 2, 1) := by decide +kernel
theorem dX12_latestBegin_13 : decode cX12_latestBegin 13 = .ok (.iconst 0, 1) := by decide +kernel
theorem dX12_latestBegin_14 : decode cX12_latestBegin 14 = .ok (.istore_n 3, 1) := by decide +kernel
theorem dX12_latestBegin_15 : decode cX12_latestBegin 15 = .ok (.iconst 0, 1) := by decide +kernel
theorem dX12_latestBegin_16 : decode cX12_latestBegin 16 = .ok (.istore 4, 2) := by decide +kernel
theorem dX12_latestBegin_18 : decode cX12_latestBegin 18 = .ok (.iload 4, 2) := by decide +kernel
theorem dX12_latestBegin_20 : decode cX12_latestBegin 20 = .ok (.aload_n 0, 1) := by decide +kernel
theorem dX12_latestBegin_21 : decode cX12_latestBegin 21 = .ok (.getfield 118, 3) := by decide +kernel
theorem dX12_latestBegin_24 : decode cX12_latestBegin 24 = .ok (.if_icmp .ge 32, 3) := by decide +kernel
theorem dX12_latestBegin_27 : decode cX12_latestBegin 27 = .ok (.aload_n 0, 1) := by decide +kernel
theorem dX12_latestBegin_28 : decode cX12_latestBegin 28 = .ok (.getfield 93, 3) := by decide +kernel
theorem dX12_latestBegin_31 : decode cX12_latestBegin 31 = .ok (.iload 4, 2) := by decide +kernel
theorem dX12_latestBegin_33 : decode cX12_latestBegin 33 = .ok (.iaload, 1) := by decide +kernel
theorem dX12_latestBegin_34 : decode cX12_latestBegin 34 = .ok (.iload_n 3, 1) := by decide +kernel
theorem dX12_latestBegin_35 : decode cX12_latestBegin 35 = .ok (.if_icmp .le 13, 3) := by decide +kernel
theorem dX12_latestBegin_38 : decode cX12_latestBegin 38 = .ok (.aload_n 0, 1) := by decide +kernel
theorem dX12_latestBegin_39 : decode cX12_latestBegin 39 = .ok (.getfield 93, 3) := by decide +kernel
theorem dX12_latestBegin_42 : decode cX12_latestBegin 42 = .ok (.iload 4, 2) := by decide +kernel
theorem dX12_latestBegin_44 : decode cX12_latestBegin 44 = .ok (.iaload, 1) := by decide +kernel
theorem dX12_latestBegin_45 : decode cX12_latestBegin 45 = .ok (.goto 4, 3) := by decide +kernel
theorem dX12_latestBegin_48 : decode cX12_latestBegin 48 = .ok (.iload_n 3, 1) := by decide +kernel
theorem dX12_latestBegin_49 : decode cX12_latestBegin 49 = .ok (.istore_n 3, 1) := by decide +kernel
theorem dX12_latestBegin_50 : decode cX12_latestBegin 50 = .ok (.iinc 4 1, 3) := by decide +kernel
theorem dX12_latestBegin_53 : decode cX12_latestBegin 53 = .ok (.goto (-35), 3) := by decide +kernel
theorem dX12_latestBegin_56 : decode cX12_latestBegin 56 = .ok (.iconst 0, 1) := by decide +kernel
theorem dX12_latestBegin_57 : decode cX12_latestBegin 57 = .ok (.istore 4, 2) := by decide +kernel
theorem dX12_latestBegin_59 : decode cX12_latestBegin 59 = .ok (.iload 4, 2) := by decide +kernel
theorem dX12_latestBegin_61 : decode cX12_latestBegin 61 = .ok (.aload_n 0, 1) := by decide +kernel
theorem dX12_latestBegin_62 : decode cX12_latestBegin 62 = .ok (.getfield 118, 3) := by decide +kernel
theorem dX12_latestBegin_65 : decode cX12_latestBegin 65 = .ok (.if_icmp .ge 17, 3) := by decide +kernel
theorem dX12_latestBegin_68 : decode cX12_latestBegin 68 = .ok (.aload_n 0, 1) := by decide +kernel
theorem dX12_latestBegin_69 : decode cX12_latestBegin 69 = .ok (.getfield 93, 3) := by decide +kernel
theorem dX12_latestBegin_72 : decode cX12_latestBegin 72 = .ok (.iload 4, 2) := by decide +kernel
theorem dX12_latestBegin_74 : decode cX12_latestBegin 74 = .ok (.iload_n 3, 1) := by decide +kernel
theorem dX12_latestBegin_75 : decode cX12_latestBegin 75 = .ok (.iastore, 1) := by decide +kernel
theorem dX12_latestBegin_76 : decode cX12_latestBegin 76 = .ok (.iinc 4 1, 3) := by decide +kernel
theorem dX12_latestBegin_79 : decode cX12_latestBegin 79 = .ok (.goto (-20), 3) := by decide +kernel
theorem dX12_latestBegin_82 : decode cX12_latestBegin 82 = .ok (.iconst 1, 1) := by decide +kernel
theorem dX12_latestBegin_83 : decode cX12_latestBegin 83 = .ok (.istore 4, 2) := by decide +kernel
theorem dX12_latestBegin_85 : decode cX12_latestBegin 85 = .ok (.iconst 0, 1) := by decide +kernel
theorem dX12_latestBegin_86 : decode cX12_latestBegin 86 = .ok (.istore 5, 2) := by decide +kernel
theorem dX12_latestBegin_88 : decode cX12_latestBegin 88 = .ok (.iload 4, 2) := by decide +kernel
theorem dX12_latestBegin_90 : decode cX12_latestBegin 90 = .ok (.ifCond .eq 111, 3) := by decide +kernel
theorem dX12_latestBegin_93 : decode cX12_latestBegin 93 = .ok (.iload 5, 2) := by decide +kernel
theorem dX12_latestBegin_95 : decode cX12_latestBegin 95 = .ok (.aload_n 0, 1) := by decide +kernel
theorem dX12_latestBegin_96 : decode cX12_latestBegin 96 = .ok (.getfield 118, 3) := by decide +kernel
theorem dX12_latestBegin_99 : decode cX12_latestBegin 99 = .ok (.if_icmp .gt 102, 3) := by decide +kernel
theorem dX12_latestBegin_102 : decode cX12_latestBegin 102 = .ok (.iconst 0, 1) := by decide +kernel
theorem dX12_latestBegin_103 : decode cX12_latestBegin 103 = .ok (.istore 4, 2) := by decide +kernel
theorem dX12_latestBegin_105 : decode cX12_latestBegin 105 = .ok (.iconst 0, 1) := by decide +kernel
theorem dX12_latestBegin_106 : decode cX12_latestBegin 106 = .ok (.istore 6, 2) := by decide +kernel
theorem dX12_latestBegin_108 : decode cX12_latestBegin 108 = .ok (.iload 6, 2) := by decide +kernel
theorem dX12_latestBegin_110 : decode cX12_latestBegin 110 = .ok (.aload_n 0, 1) := by decide +kernel
theorem dX12_latestBegin_111 : decode cX12_latestBegin 111 = .ok (.getfield 180, 3) := by decide +kernel
theorem dX12_latestBegin_114 : decode cX12_latestBegin 114 = .ok (.if_icmp .ge 81, 3) := by decide +kernel
theorem dX12_latestBegin_117 : decode cX12_latestBegin 117 = .ok (.aload_n 0, 1) := by decide +kernel
theorem dX12_latestBegin_118 : decode cX12_latestBegin 118 = .ok (.getfield 93, 3) := by decide +kernel
theorem dX12_latestBegin_121 : decode cX12_latestBegin 121 = .ok (.aload_n 0, 1) := by decide +kernel
theorem dX12_latestBegin_122 : decode cX12_latestBegin 122 = .ok (.getfield 56, 3) := by decide +kernel
theorem dX12_latestBegin_125 : decode cX12_latestBegin 125 = .ok (.iload 6, 2) := by decide +kernel
theorem dX12_latestBegin_127 : decode cX12_latestBegin 127 = .ok (.iaload, 1) := by decide +kernel
theorem dX12_latestBegin_128 : decode cX12_latestBegin 128 = .ok (.iaload, 1) := by decide +kernel
theorem dX12_latestBegin_129 : decode cX12_latestBegin 129 = .ok (.aload_n 0, 1) := by decide +kernel
theorem dX12_latestBegin_130 : decode cX12_latestBegin 130 = .ok (.getfield 59, 3) := by decide +kernel
theorem dX12_latestBegin_133 : decode cX12_latestBegin 133 = .ok (.iload 6, 2) := by decide +kernel
theorem dX12_latestBegin_135 : decode cX12_latestBegin 135 = .ok (.iaload, 1) := by decide +kernel
theorem dX12_latestBegin_136 : decode cX12_latestBegin 136 = .ok (.isub, 1) := by decide +kernel
theorem dX12_latestBegin_137 : decode cX12_latestBegin 137 = .ok (.aload_n 0, 1) := by decide +kernel
theorem dX12_latestBegin_138 : decode cX12_latestBegin 138 = .ok (.getfield 121, 3) := by decide +kernel
theorem dX12_latestBegin_141 : decode cX12_latestBegin 141 = .ok (.aload_n 0, 1) := by decide +kernel
theorem dX12_latestBegin_142 : decode cX12_latestBegin 142 = .ok (.getfield 62, 3) := by decide +kernel
theorem dX12_latestBegin_145 : decode cX12_latestBegin 145 = .ok (.iload 6, 2) := by decide +kernel
theorem dX12_latestBegin_147 : decode cX12_latestBegin 147 = .ok (.iaload, 1) := by decide +kernel
theorem dX12_latestBegin_148 : decode cX12_latestBegin 148 = .ok (.imul, 1) := by decide +kernel
theorem dX12_latestBegin_149 : decode cX12_latestBegin 149 = .ok (.iadd, 1) := by decide +kernel
theorem dX12_latestBegin_150 : decode cX12_latestBegin 150 = .ok (.istore 7, 2) := by decide +kernel
theorem dX12_latestBegin_152 : decode cX12_latestBegin 152 = .ok (.aload_n 0, 1) := by decide +kernel
theorem dX12_latestBegin_153 : decode cX12_latestBegin 153 = .ok (.getfield 93, 3) := by decide +kernel
theorem dX12_latestBegin_156 : decode cX12_latestBegin 156 = .ok (.aload_n 0, 1) := by decide +kernel
theorem dX12_latestBegin_157 : decode cX12_latestBegin 157 = .ok (.getfield 53, 3) := by decide +kernel
theorem dX12_latestBegin_160 : decode cX12_latestBegin 160 = .ok (.iload 6, 2) := by decide +kernel
theorem dX12_latestBegin_162 : decode cX12_latestBegin 162 = .ok (.iaload, 1) := by decide +kernel
theorem dX12_latestBegin_163 : decode cX12_latestBegin 163 = .ok (.iaload, 1) := by decide +kernel
theorem dX12_latestBegin_164 : decode cX12_latestBegin 164 = .ok (.iload 7, 2) := by decide +kernel
theorem dX12_latestBegin_166 : decode cX12_latestBegin 166 = .ok (.if_icmp .gt 6, 3) := by decide +kernel
theorem dX12_latestBegin_169 : decode cX12_latestBegin 169 = .ok (.goto 20, 3) := by decide +kernel
theorem dX12_latestBegin_172 : decode cX12_latestBegin 172 = .ok (.aload_n 0, 1) := by decide +kernel
theorem dX12_latestBegin_173 : decode cX12_latestBegin 173 = .ok (.getfield 93, 3) := by decide +kernel
theorem dX12_latestBegin_176 : decode cX12_latestBegin 176 = .ok (.aload_n 0, 1) := by decide +kernel
theorem dX12_latestBegin_177 : decode cX12_latestBegin 177 = .ok (.getfield 53, 3) := by decide +kernel
theorem dX12_latestBegin_180 : decode cX12_latestBegin 180 = .ok (.iload 6, 2) := by decide +kernel
theorem dX12_latestBegin_182 : decode cX12_latestBegin 182 = .ok (.iaload, 1) := by decide +kernel
theorem dX12_latestBegin_183 : decode cX12_latestBegin 183 = .ok (.iload 7, 2) := by decide +kernel
theorem dX12_latestBegin_185 : decode cX12_latestBegin 185 = .ok (.iastore, 1) := by decide +kernel
theorem dX12_latestBegin_186 : decode cX12_latestBegin 186 = .ok (.iconst 1, 1) := by decide +kernel
theorem dX12_latestBegin_187 : decode cX12_latestBegin 187 = .ok (.istore 4, 2) := by decide +kernel
theorem dX12_latestBegin_189 : decode cX12_latestBegin 189 = .ok (.iinc 6 1, 3) := by decide +kernel
theorem dX12_latestBegin_192 : decode cX12_latestBegin 192 = .ok (.goto (-84), 3) := by decide +kernel
theorem dX12_latestBegin_195 : decode cX12_latestBegin 195 = .ok (.iinc 5 1, 3) := by decide +kernel
theorem dX12_latestBegin_198 : decode cX12_latestBegin 198 = .ok (.goto (-110), 3) := by decide +kernel
theorem dX12_latestBegin_201 : decode cX12_latestBegin 201 = .ok (.aload_n 0, 1) := by decide +kernel
theorem dX12_latestBegin_202 : decode cX12_latestBegin 202 = .ok (.getfield 93, 3) := by decide +kernel
theorem dX12_latestBegin_205 : decode cX12_latestBegin 205 = .ok (.iload_n 1, 1) := by decide +kernel
theorem dX12_latestBegin_206 : decode cX12_latestBegin 206 = .ok (.iaload, 1) := by decide +kernel
theorem dX12_latestBegin_207 : decode cX12_latestBegin 207 = .ok (.ireturn, 1) := by decide +kernel
theorem dX12_tick_0 : decode cX12_tick 0 = .ok (.aload_n 0, 1) := by decide +kernel
theorem dX12_tick_1 : decode cX12_tick 1 = .ok (.getfield 121, 3) := by decide +kernel
theorem dX12_tick_4 : decode cX12_tick 4 = .ok (.ifCond .ne 10, 3) := by decide +kernel
theorem dX12_tick_7 : decode cX12_tick 7 = .ok (.aload_n 0, 1) := by decide +kernel
theorem dX12_tick_8 : decode cX12_tick 8 = .ok (.bipush (-2), 2) := by decide +kernel
theorem dX12_tick_10 : decode cX12_tick 10 = .ok (.invokevirtual 124, 3) := by decide +kernel
theorem dX12_tick_13 : decode cX12_tick 13 = .ok (.ireturn, 1) := by decide +kernel
theorem dX12_tick_14 : decode cX12_tick 14 = .ok (.aload_n 0, 1) := by decide +kernel
theorem dX12_tick_15 : decode cX12_tick 15 = .ok (.iload_n 1, 1) := by decide +kernel
theorem dX12_tick_16 : decode cX12_tick 16 = .ok (.invokevirtual 159, 3) := by decide +kernel
theorem dX12_tick_19 : decode cX12_tick 19 = .ok (.ifCond .ne 10, 3) := by decide +kernel
theorem dX12_tick_22 : decode cX12_tick 22 = .ok (.aload_n 0, 1) := by decide +kernel
theorem dX12_tick_23 : decode cX12_tick 23 = .ok (.bipush (-3), 2) := by decide +kernel
theorem dX12_tick_25 : decode cX12_tick 25 = .ok (.invokevirtual 124, 3) := by decide +kernel
theorem dX12_tick_28 : decode cX12_tick 28 = .ok (.ireturn, 1) := by decide +kernel
theorem dX12_tick_29 : decode cX12_tick 29 = .ok (.iload_n 2, 1) := by decide +kernel
theorem dX12_tick_30 : decode cX12_tick 30 = .ok (.i2l, 1) := by decide +kernel
theorem dX12_tick_31 : decode cX12_tick 31 = .ok (.lconst 0, 1) := by decide +kernel
theorem dX12_tick_32 : decode cX12_tick 32 = .ok (.ldc2_w 135, 3) := by decide +kernel
theorem dX12_tick_35 : decode cX12_tick 35 = .ok (.invokestatic 137, 3) := by decide +kernel
theorem dX12_tick_38 : decode cX12_tick 38 = .ok (.ifCond .ne 10, 3) := by decide +kernel
theorem dX12_tick_41 : decode cX12_tick 41 = .ok (.aload_n 0, 1) := by decide +kernel
theorem dX12_tick_42 : decode cX12_tick 42 = .ok (.bipush (-9), 2) := by decide +kernel
theorem dX12_tick_44 : decode cX12_tick 44 = .ok (.invokevirtual 124, 3) := by decide +kernel
theorem dX12_tick_47 : decode cX12_tick 47 = .ok (.ireturn, 1) := by decide +kernel
theorem dX12_tick_48 : decode cX12_tick 48 = .ok (.iload_n 2, 1) := by decide +kernel
theorem dX12_tick_49 : decode cX12_tick 49 = .ok (.iconst 4, 1) := by decide +kernel
theorem dX12_tick_50 : decode cX12_tick 50 = .ok (.if_icmp .ne 9, 3) := by decide +kernel
theorem dX12_tick_53 : decode cX12_tick 53 = .ok (.aload_n 0, 1) := by decide +kernel
theorem dX12_tick_54 : decode cX12_tick 54 = .ok (.iload_n 1, 1) := by decide +kernel
theorem dX12_tick_55 : decode cX12_tick 55 = .ok (.invokevirtual 237, 3) := by decide +kernel
theorem dX12_tick_58 : decode cX12_tick 58 = .ok (.ireturn, 1) := by decide +kernel
theorem dX12_tick_59 : decode cX12_tick 59 = .ok (.iload_n 2, 1) := by decide +kernel
theorem dX12_tick_60 : decode cX12_tick 60 = .ok (.iconst 3, 1) := by decide +kernel
theorem dX12_tick_61 : decode cX12_tick 61 = .ok (.if_icmp .ne 23, 3) := by decide +kernel
theorem dX12_tick_64 : decode cX12_tick 64 = .ok (.aload_n 0, 1) := by decide +kernel
theorem dX12_tick_65 : decode cX12_tick 65 = .ok (.invokevirtual 177, 3) := by decide +kernel
theorem dX12_tick_68 : decode cX12_tick 68 = .ok (.aload_n 0, 1) := by decide +kernel
theorem dX12_tick_69 : decode cX12_tick 69 = .ok (.aload_n 0, 1) := by decide +kernel
theorem dX12_tick_70 : decode cX12_tick 70 = .ok (.getfield 121, 3) := by decide +kernel
theorem dX12_tick_73 : decode cX12_tick 73 = .ok (.invokevirtual 197, 3) := by decide +kernel
theorem dX12_tick_76 : decode cX12_tick 76 = .ok (.istore_n 3, 1) := by decide +kernel
theorem dX12_tick_77 : decode cX12_tick 77 = .ok (.aload_n 0, 1) := by decide +kernel
theorem dX12_tick_78 : decode cX12_tick 78 = .ok (.getfield 93, 3) := by decide +kernel
theorem dX12_tick_81 : decode cX12_tick 81 = .ok (.iload_n 1, 1) := by decide +kernel
theorem dX12_tick_82 : decode cX12_tick 82 = .ok (.iaload, 1) := by decide +kernel
theorem dX12_tick_83 : decode cX12_tick 83 = .ok (.ireturn, 1) := by decide +kernel
theorem dX12_tick_84 : decode cX12_tick 84 = .ok (.iload_n 2, 1) := by decide +kernel
theorem dX12_tick_85 : decode cX12_tick 85 = .ok (.ifCond .ne 12, 3) := by decide +kernel
theorem dX12_tick_88 : decode cX12_tick 88 = .ok (.aload_n 0, 1) := by decide +kernel
theorem dX12_tick_89 : decode cX12_tick 89 = .ok (.getfield 81, 3) := by decide +kernel
theorem dX12_tick_92 : decode cX12_tick 92 = .ok (.iload_n 1, 1) := by decide +kernel
theorem dX12_tick_93 : decode cX12_tick 93 = .ok (.iaload, 1) := by decide +kernel
theorem dX12_tick_94 : decode cX12_tick 94 = .ok (.goto 23, 3) := by decide +kernel
theorem dX12_tick_97 : decode cX12_tick 97 = .ok (.iload_n 2, 1) := by decide +kernel
theorem dX12_tick_98 : decode cX12_tick 98 = .ok (.iconst 1, 1) := by decide +kernel
theorem dX12_tick_99 : decode cX12_tick 99 = .ok (.if_icmp .ne 12, 3) := by decide +kernel
theorem dX12_tick_102 : decode cX12_tick 102 = .ok (.aload_n 0, 1) := by decide +kernel
theorem dX12_tick_103 : decode cX12_tick 103 = .ok (.getfield 84, 3) := by decide +kernel
theorem dX12_tick_106 : decode cX12_tick 106 = .ok (.iload_n 1, 1) := by decide +kernel
theorem dX12_tick_107 : decode cX12_tick 107 = .ok (.iaload, 1) := by decide +kernel
theorem dX12_tick_108 : decode cX12_tick 108 = .ok (.goto 9, 3) := by decide +kernel
theorem dX12_tick_111 : decode cX12_tick 111 = .ok (.aload_n 0, 1) := by decide +kernel
theorem dX12_tick_112 : decode cX12_tick 112 = .ok (.getfield 87, 3) := by decide +kernel
theorem dX12_tick_115 : decode cX12_tick 115 = .ok (.iload_n 1, 1) := by decide +kernel
theorem dX12_tick_116 : decode cX12_tick 116 = .ok (.iaload, 1) := by decide +kernel
theorem dX12_tick_117 : decode cX12_tick 117 = .ok (.ireturn, 1) := by decide +kernel
theorem dX12_filled_0 : decode cX12_filled 0 = .ok (.aload_n 0, 1) := by decide +kernel
theorem dX12_filled_1 : decode cX12_filled 1 = .ok (.getfield 121, 3) := by decide +kernel
theorem dX12_filled_4 : decode cX12_filled 4 = .ok (.ifCond .ne 10, 3) := by decide +kernel
theorem dX12_filled_7 : decode cX12_filled 7 = .ok (.aload_n 0, 1) := by decide +kernel
theorem dX12_filled_8 : decode cX12_filled 8 = .ok (.bipush (-2), 2) := by decide +kernel
theorem dX12_filled_10 : decode cX12_filled 10 = .ok (.invokevirtual 124, 3) := by decide +kernel
theorem dX12_filled_13 : decode cX12_filled 13 = .ok (.ireturn, 1) := by decide +kernel
theorem dX12_filled_14 : decode cX12_filled 14 = .ok (.iload_n 1, 1) := by decide +kernel
theorem dX12_filled_15 : decode cX12_filled 15 = .ok (.i2l, 1) := by decide +kernel
theorem dX12_filled_16 : decode cX12_filled 16 = .ok (.lconst 0, 1) := by decide +kernel
theorem dX12_filled_17 : decode cX12_filled 17 = .ok (.ldc2_w 162, 3) := by decide +kernel
theorem dX12_filled_20 : decode cX12_filled 20 = .ok (.invokestatic 137, 3) := by decide +kernel
theorem dX12_filled_23 : decode cX12_filled 23 = .ok (.ifCond .eq 15, 3) := by decide +kernel
theorem dX12_filled_26 : decode cX12_filled 26 = .ok (.iload_n 2, 1) := by decide +kernel
theorem dX12_filled_27 : decode cX12_filled 27 = .ok (.ifCond .lt 11, 3) := by decide +kernel
theorem dX12_filled_30 : decode cX12_filled 30 = .ok (.iload_n 2, 1) := by decide +kernel
theorem dX12_filled_31 : decode cX12_filled 31 = .ok (.aload_n 0, 1) := by decide +kernel
theorem dX12_filled_32 : decode cX12_filled 32 = .ok (.getfield 121, 3) := by decide +kernel
theorem dX12_filled_35 : decode cX12_filled 35 = .ok (.if_icmp .lt 10, 3) := by decide +kernel
theorem dX12_filled_38 : decode cX12_filled 38 = .ok (.aload_n 0, 1) := by decide +kernel
theorem dX12_filled_39 : decode cX12_filled 39 = .ok (.bipush (-3), 2) := by decide +kernel
theorem dX12_filled_41 : decode cX12_filled 41 = .ok (.invokevirtual 124, 3) := by decide +kernel
theorem dX12_filled_44 : decode cX12_filled 44 = .ok (.ireturn, 1) := by decide +kernel
theorem dX12_filled_45 : decode cX12_filled 45 = .ok (.iconst 0, 1) := by decide +kernel
theorem dX12_filled_46 : decode cX12_filled 46 = .ok (.istore_n 3, 1) := by decide +kernel
theorem dX12_filled_47 : decode cX12_filled 47 = .ok (.iconst 0, 1) := by decide +kernel
theorem dX12_filled_48 : decode cX12_filled 48 = .ok (.istore 4, 2) := by decide +kernel
theorem dX12_filled_50 : decode cX12_filled 50 = .ok (.iload 4, 2) := by decide +kernel
theorem dX12_filled_52 : decode cX12_filled 52 = .ok (.aload_n 0, 1) := by decide +kernel
theorem dX12_filled_53 : decode cX12_filled 53 = .ok (.getfield 118, 3) := by decide +kernel
theorem dX12_filled_56 : decode cX12_filled 56 = .ok (.if_icmp .ge 74, 3) := by decide +kernel
theorem dX12_filled_59 : decode cX12_filled 59 = .ok (.iconst 0, 1) := by decide +kernel
theorem dX12_filled_60 : decode cX12_filled 60 = .ok (.istore 5, 2) := by decide +kernel
theorem dX12_filled_62 : decode cX12_filled 62 = .ok (.iload 5, 2) := by decide +kernel
theorem dX12_filled_64 : decode cX12_filled 64 = .ok (.bipush 8, 2) := by decide +kernel
theorem dX12_filled_66 : decode cX12_filled 66 = .ok (.if_icmp .ge 58, 3) := by decide +kernel
theorem dX12_filled_69 : decode cX12_filled 69 = .ok (.aload_n 0, 1) := by decide +kernel
theorem dX12_filled_70 : decode cX12_filled 70 = .ok (.getfield 16, 3) := by decide +kernel
theorem dX12_filled_73 : decode cX12_filled 73 = .ok (.iload 4, 2) := by decide +kernel
theorem dX12_filled_75 : decode cX12_filled 75 = .ok (.iaload, 1) := by decide +kernel
theorem dX12_filled_76 : decode cX12_filled 76 = .ok (.iload_n 1, 1) := by decide +kernel
theorem dX12_filled_77 : decode cX12_filled 77 = .ok (.if_icmp .ne 47, 3) := by decide +kernel
theorem dX12_filled_80 : decode cX12_filled 80 = .ok (.iload_n 3, 1) := by decide +kernel
theorem dX12_filled_81 : decode cX12_filled 81 = .ok (.aload_n 0, 1) := by decide +kernel
theorem dX12_filled_82 : decode cX12_filled 82 = .ok (.getfield 81, 3) := by decide +kernel
theorem dX12_filled_85 : decode cX12_filled 85 = .ok (.iload 4, 2) := by decide +kernel
theorem dX12_filled_87 : decode cX12_filled 87 = .ok (.iaload, 1) := by decide +kernel
theorem dX12_filled_88 : decode cX12_filled 88 = .ok (.iload 5, 2) := by decide +kernel
theorem dX12_filled_90 : decode cX12_filled 90 = .ok (.iadd, 1) := by decide +kernel
theorem dX12_filled_91 : decode cX12_filled 91 = .ok (.aload_n 0, 1) := by decide +kernel
theorem dX12_filled_92 : decode cX12_filled 92 = .ok (.getfield 121, 3) := by decide +kernel
theorem dX12_filled_95 : decode cX12_filled 95 = .ok (.irem, 1) := by decide +kernel
theorem dX12_filled_96 : decode cX12_filled 96 = .ok (.iload_n 2, 1) := by decide +kernel
theorem dX12_filled_97 : decode cX12_filled 97 = .ok (.if_icmp .ne 18, 3) := by decide +kernel
theorem dX12_filled_100 : decode cX12_filled 100 = .ok (.aload_n 0, 1) := by decide +kernel
theorem dX12_filled_101 : decode cX12_filled 101 = .ok (.getfield 19, 3) := by decide +kernel
theorem dX12_filled_104 : decode cX12_filled 104 = .ok (.iload 4, 2) := by decide +kernel
theorem dX12_filled_106 : decode cX12_filled 106 = .ok (.iaload, 1) := by decide +kernel
theorem dX12_filled_107 : decode cX12_filled 107 = .ok (.iload 5, 2) := by decide +kernel
theorem dX12_filled_109 : decode cX12_filled 109 = .ok (.ishr, 1) := by decide +kernel
theorem dX12_filled_110 : decode cX12_filled 110 = .ok (.iconst 1, 1) := by decide +kernel
theorem dX12_filled_111 : decode cX12_filled 111 = .ok (.iand, 1) := by decide +kernel
theorem dX12_filled_112 : decode cX12_filled 112 = .ok (.goto 4, 3) := by decide +kernel
theorem dX12_filled_115 : decode cX12_filled 115 = .ok (.iconst 0, 1) := by decide +kernel
theorem dX12_filled_116 : decode cX12_filled 116 = .ok (.iadd, 1) := by decide +kernel
theorem dX12_filled_117 : decode cX12_filled 117 = .ok (.istore_n 3, 1) := by decide +kernel
theorem dX12_filled_118 : decode cX12_filled 118 = .ok (.iinc 5 1, 3) := by decide +kernel
theorem dX12_filled_121 : decode cX12_filled 121 = .ok (.goto (-59), 3) := by decide +kernel
theorem dX12_filled_124 : decode cX12_filled 124 = .ok (.iinc 4 1, 3) := by decide +kernel
theorem dX12_filled_127 : decode cX12_filled 127 = .ok (.goto (-77), 3) := by decide +kernel
theorem dX12_filled_130 : decode cX12_filled 130 = .ok (.iload_n 3, 1) := by decide +kernel
theorem dX12_filled_131 : decode cX12_filled 131 = .ok (.ireturn, 1) := by decide +kernel
theorem dX12_placesOf_0 : decode cX12_placesOf 0 = .ok (.iconst 0, 1) := by decide +kernel
theorem dX12_placesOf_1 : decode cX12_placesOf 1 = .ok (.istore_n 2, 1) := by decide +kernel
theorem dX12_placesOf_2 : decode cX12_placesOf 2 = .ok (.iconst 0, 1) := by decide +kernel
theorem dX12_placesOf_3 : decode cX12_placesOf 3 = .ok (.istore_n 3, 1) := by decide +kernel
theorem dX12_placesOf_4 : decode cX12_placesOf 4 = .ok (.iload_n 3, 1) := by decide +kernel
theorem dX12_placesOf_5 : decode cX12_placesOf 5 = .ok (.iconst 3, 1) := by decide +kernel
theorem dX12_placesOf_6 : decode cX12_placesOf 6 = .ok (.aload_n 0, 1) := by decide +kernel
theorem dX12_placesOf_7 : decode cX12_placesOf 7 = .ok (.getfield 118, 3) := by decide +kernel
theorem dX12_placesOf_10 : decode cX12_placesOf 10 = .ok (.imul, 1) := by decide +kernel
theorem dX12_placesOf_11 : decode cX12_placesOf 11 = .ok (.if_icmp .ge 60, 3) := by decide +kernel
theorem dX12_placesOf_14 : decode cX12_placesOf 14 = .ok (.aload_n 0, 1) := by decide +kernel
theorem dX12_placesOf_15 : decode cX12_placesOf 15 = .ok (.getfield 25, 3) := by decide +kernel
theorem dX12_placesOf_18 : decode cX12_placesOf 18 = .ok (.iload_n 3, 1) := by decide +kernel
theorem dX12_placesOf_19 : decode cX12_placesOf 19 = .ok (.iaload, 1) := by decide +kernel
theorem dX12_placesOf_20 : decode cX12_placesOf 20 = .ok (.iload_n 1, 1) := by decide +kernel
theorem dX12_placesOf_21 : decode cX12_placesOf 21 = .ok (.if_icmp .eq 6, 3) := by decide +kernel
theorem dX12_placesOf_24 : decode cX12_placesOf 24 = .ok (.goto 41, 3) := by decide +kernel
theorem dX12_placesOf_27 : decode cX12_placesOf 27 = .ok (.aload_n 0, 1) := by decide +kernel
theorem dX12_placesOf_28 : decode cX12_placesOf 28 = .ok (.getfield 87, 3) := by decide +kernel
theorem dX12_placesOf_31 : decode cX12_placesOf 31 = .ok (.iload_n 3, 1) := by decide +kernel
theorem dX12_placesOf_32 : decode cX12_placesOf 32 = .ok (.iconst 3, 1) := by decide +kernel
theorem dX12_placesOf_33 : decode cX12_placesOf 33 = .ok (.idiv, 1) := by decide +kernel
theorem dX12_placesOf_34 : decode cX12_placesOf 34 = .ok (.iaload, 1) := by decide +kernel
theorem dX12_placesOf_35 : decode cX12_placesOf 35 = .ok (.aload_n 0, 1) := by decide +kernel
theorem dX12_placesOf_36 : decode cX12_placesOf 36 = .ok (.getfield 121, 3) := by decide +kernel
theorem dX12_placesOf_39 : decode cX12_placesOf 39 = .ok (.aload_n 0, 1) := by decide +kernel
theorem dX12_placesOf_40 : decode cX12_placesOf 40 = .ok (.getfield 28, 3) := by decide +kernel
theorem dX12_placesOf_43 : decode cX12_placesOf 43 = .ok (.iload_n 3, 1) := by decide +kernel
theorem dX12_placesOf_44 : decode cX12_placesOf 44 = .ok (.iaload, 1) := by decide +kernel
theorem dX12_placesOf_45 : decode cX12_placesOf 45 = .ok (.imul, 1) := by decide +kernel
theorem dX12_placesOf_46 : decode cX12_placesOf 46 = .ok (.iadd, 1) := by decide +kernel
theorem dX12_placesOf_47 : decode cX12_placesOf 47 = .ok (.aload_n 0, 1) := by decide +kernel
theorem dX12_placesOf_48 : decode cX12_placesOf 48 = .ok (.getfield 87, 3) := by decide +kernel
theorem dX12_placesOf_51 : decode cX12_placesOf 51 = .ok (.iload_n 1, 1) := by decide +kernel
theorem dX12_placesOf_52 : decode cX12_placesOf 52 = .ok (.iaload, 1) := by decide +kernel
theorem dX12_placesOf_53 : decode cX12_placesOf 53 = .ok (.isub, 1) := by decide +kernel
theorem dX12_placesOf_54 : decode cX12_placesOf 54 = .ok (.istore 4, 2) := by decide +kernel
theorem dX12_placesOf_56 : decode cX12_placesOf 56 = .ok (.iload 4, 2) := by decide +kernel
theorem dX12_placesOf_58 : decode cX12_placesOf 58 = .ok (.iload_n 2, 1) := by decide +kernel
theorem dX12_placesOf_59 : decode cX12_placesOf 59 = .ok (.if_icmp .le 6, 3) := by decide +kernel
theorem dX12_placesOf_62 : decode cX12_placesOf 62 = .ok (.iload 4, 2) := by decide +kernel
theorem dX12_placesOf_64 : decode cX12_placesOf 64 = .ok (.istore_n 2, 1) := by decide +kernel
theorem dX12_placesOf_65 : decode cX12_placesOf 65 = .ok (.iinc 3 1, 3) := by decide +kernel
theorem dX12_placesOf_68 : decode cX12_placesOf 68 = .ok (.goto (-64), 3) := by decide +kernel
theorem dX12_placesOf_71 : decode cX12_placesOf 71 = .ok (.iload_n 2, 1) := by decide +kernel
theorem dX12_placesOf_72 : decode cX12_placesOf 72 = .ok (.aload_n 0, 1) := by decide +kernel
theorem dX12_placesOf_73 : decode cX12_placesOf 73 = .ok (.getfield 121, 3) := by decide +kernel
theorem dX12_placesOf_76 : decode cX12_placesOf 76 = .ok (.idiv, 1) := by decide +kernel
theorem dX12_placesOf_77 : decode cX12_placesOf 77 = .ok (.iconst 1, 1) := by decide +kernel
theorem dX12_placesOf_78 : decode cX12_placesOf 78 = .ok (.iadd, 1) := by decide +kernel
theorem dX12_placesOf_79 : decode cX12_placesOf 79 = .ok (.ireturn, 1) := by decide +kernel
theorem dX12_names_0 : decode cX12_names 0 = .ok (.aload_n 0, 1) := by decide +kernel
theorem dX12_names_1 : decode cX12_names 1 = .ok (.getfield 121, 3) := by decide +kernel
theorem dX12_names_4 : decode cX12_names 4 = .ok (.ifCond .ne 10, 3) := by decide +kernel
theorem dX12_names_7 : decode cX12_names 7 = .ok (.aload_n 0, 1) := by decide +kernel
theorem dX12_names_8 : decode cX12_names 8 = .ok (.bipush (-2), 2) := by decide +kernel
theorem dX12_names_10 : decode cX12_names 10 = .ok (.invokevirtual 124, 3) := by decide +kernel
theorem dX12_names_13 : decode cX12_names 13 = .ok (.ireturn, 1) := by decide +kernel
theorem dX12_names_14 : decode cX12_names 14 = .ok (.aload_n 0, 1) := by decide +kernel
theorem dX12_names_15 : decode cX12_names 15 = .ok (.iload_n 1, 1) := by decide +kernel
theorem dX12_names_16 : decode cX12_names 16 = .ok (.invokevirtual 159, 3) := by decide +kernel
theorem dX12_names_19 : decode cX12_names 19 = .ok (.ifCond .eq 11, 3) := by decide +kernel
theorem dX12_names_22 : decode cX12_names 22 = .ok (.aload_n 0, 1) := by decide +kernel
theorem dX12_names_23 : decode cX12_names 23 = .ok (.iload_n 1, 1) := by decide +kernel
theorem dX12_names_24 : decode cX12_names 24 = .ok (.invokevirtual 240, 3) := by decide +kernel
theorem dX12_names_27 : decode cX12_names 27 = .ok (.goto 9, 3) := by decide +kernel
theorem dX12_names_30 : decode cX12_names 30 = .ok (.aload_n 0, 1) := by decide +kernel
theorem dX12_names_31 : decode cX12_names 31 = .ok (.bipush (-3), 2) := by decide +kernel
theorem dX12_names_33 : decode cX12_names 33 = .ok (.invokevirtual 124, 3) := by decide +kernel
theorem dX12_names_36 : decode cX12_names 36 = .ok (.ireturn, 1) := by decide +kernel
theorem dX12_fewest_0 : decode cX12_fewest 0 = .ok (.aload_n 0, 1) := by decide +kernel
theorem dX12_fewest_1 : decode cX12_fewest 1 = .ok (.getfield 121, 3) := by decide +kernel
theorem dX12_fewest_4 : decode cX12_fewest 4 = .ok (.ifCond .ne 10, 3) := by decide +kernel
theorem dX12_fewest_7 : decode cX12_fewest 7 = .ok (.aload_n 0, 1) := by decide +kernel
theorem dX12_fewest_8 : decode cX12_fewest 8 = .ok (.bipush (-2), 2) := by decide +kernel
theorem dX12_fewest_10 : decode cX12_fewest 10 = .ok (.invokevirtual 124, 3) := by decide +kernel
theorem dX12_fewest_13 : decode cX12_fewest 13 = .ok (.ireturn, 1) := by decide +kernel
theorem dX12_fewest_14 : decode cX12_fewest 14 = .ok (.iload_n 1, 1) := by decide +kernel
theorem dX12_fewest_15 : decode cX12_fewest 15 = .ok (.i2l, 1) := by decide +kernel
theorem dX12_fewest_16 : decode cX12_fewest 16 = .ok (.lconst 0, 1) := by decide +kernel
theorem dX12_fewest_17 : decode cX12_fewest 17 = .ok (.lconst 1, 1) := by decide +kernel
theorem dX12_fewest_18 : decode cX12_fewest 18 = .ok (.invokestatic 137, 3) := by decide +kernel
theorem dX12_fewest_21 : decode cX12_fewest 21 = .ok (.ifCond .ne 10, 3) := by decide +kernel
theorem dX12_fewest_24 : decode cX12_fewest 24 = .ok (.aload_n 0, 1) := by decide +kernel
theorem dX12_fewest_25 : decode cX12_fewest 25 = .ok (.bipush (-9), 2) := by decide +kernel
theorem dX12_fewest_27 : decode cX12_fewest 27 = .ok (.invokevirtual 124, 3) := by decide +kernel
theorem dX12_fewest_30 : decode cX12_fewest 30 = .ok (.ireturn, 1) := by decide +kernel
theorem dX12_fewest_31 : decode cX12_fewest 31 = .ok (.iconst 0, 1) := by decide +kernel
theorem dX12_fewest_32 : decode cX12_fewest 32 = .ok (.istore_n 2, 1) := by decide +kernel
theorem dX12_fewest_33 : decode cX12_fewest 33 = .ok (.iconst 0, 1) := by decide +kernel
theorem dX12_fewest_34 : decode cX12_fewest 34 = .ok (.istore_n 3, 1) := by decide +kernel
theorem dX12_fewest_35 : decode cX12_fewest 35 = .ok (.iconst 0, 1) := by decide +kernel
theorem dX12_fewest_36 : decode cX12_fewest 36 = .ok (.istore 4, 2) := by decide +kernel
theorem dX12_fewest_38 : decode cX12_fewest 38 = .ok (.iload 4, 2) := by decide +kernel
theorem dX12_fewest_40 : decode cX12_fewest 40 = .ok (.aload_n 0, 1) := by decide +kernel
theorem dX12_fewest_41 : decode cX12_fewest 41 = .ok (.getfield 118, 3) := by decide +kernel
theorem dX12_fewest_44 : decode cX12_fewest 44 = .ok (.if_icmp .ge 31, 3) := by decide +kernel
theorem dX12_fewest_47 : decode cX12_fewest 47 = .ok (.aload_n 0, 1) := by decide +kernel
theorem dX12_fewest_48 : decode cX12_fewest 48 = .ok (.iload 4, 2) := by decide +kernel
theorem dX12_fewest_50 : decode cX12_fewest 50 = .ok (.invokevirtual 240, 3) := by decide +kernel
theorem dX12_fewest_53 : decode cX12_fewest 53 = .ok (.istore 5, 2) := by decide +kernel
theorem dX12_fewest_55 : decode cX12_fewest 55 = .ok (.iload_n 2, 1) := by decide +kernel
theorem dX12_fewest_56 : decode cX12_fewest 56 = .ok (.iload 5, 2) := by decide +kernel
theorem dX12_fewest_58 : decode cX12_fewest 58 = .ok (.iadd, 1) := by decide +kernel
theorem dX12_fewest_59 : decode cX12_fewest 59 = .ok (.istore_n 2, 1) := by decide +kernel
theorem dX12_fewest_60 : decode cX12_fewest 60 = .ok (.iload 5, 2) := by decide +kernel
theorem dX12_fewest_62 : decode cX12_fewest 62 = .ok (.iload_n 3, 1) := by decide +kernel
theorem dX12_fewest_63 : decode cX12_fewest 63 = .ok (.if_icmp .le 6, 3) := by decide +kernel
theorem dX12_fewest_66 : decode cX12_fewest 66 = .ok (.iload 5, 2) := by decide +kernel
theorem dX12_fewest_68 : decode cX12_fewest 68 = .ok (.istore_n 3, 1) := by decide +kernel
theorem dX12_fewest_69 : decode cX12_fewest 69 = .ok (.iinc 4 1, 3) := by decide +kernel
theorem dX12_fewest_72 : decode cX12_fewest 72 = .ok (.goto (-34), 3) := by decide +kernel
theorem dX12_fewest_75 : decode cX12_fewest 75 = .ok (.iload_n 1, 1) := by decide +kernel
theorem dX12_fewest_76 : decode cX12_fewest 76 = .ok (.ifCond .ne 7, 3) := by decide +kernel
theorem dX12_fewest_79 : decode cX12_fewest 79 = .ok (.iload_n 2, 1) := by decide +kernel
theorem dX12_fewest_80 : decode cX12_fewest 80 = .ok (.goto 9, 3) := by decide +kernel
theorem dX12_fewest_83 : decode cX12_fewest 83 = .ok (.aload_n 0, 1) := by decide +kernel
theorem dX12_fewest_84 : decode cX12_fewest 84 = .ok (.getfield 118, 3) := by decide +kernel
theorem dX12_fewest_87 : decode cX12_fewest 87 = .ok (.iload_n 3, 1) := by decide +kernel
theorem dX12_fewest_88 : decode cX12_fewest 88 = .ok (.imul, 1) := by decide +kernel
theorem dX12_fewest_89 : decode cX12_fewest 89 = .ok (.ireturn, 1) := by decide +kernel
theorem dX12_forge_0 : decode cX12_forge 0 = .ok (.aload_n 0, 1) := by decide +kernel
theorem dX12_forge_1 : decode cX12_forge 1 = .ok (.getfield 121, 3) := by decide +kernel
theorem dX12_forge_4 : decode cX12_forge 4 = .ok (.ifCond .ne 10, 3) := by decide +kernel
theorem dX12_forge_7 : decode cX12_forge 7 = .ok (.aload_n 0, 1) := by decide +kernel
theorem dX12_forge_8 : decode cX12_forge 8 = .ok (.bipush (-2), 2) := by decide +kernel
theorem dX12_forge_10 : decode cX12_forge 10 = .ok (.invokevirtual 124, 3) := by decide +kernel
theorem dX12_forge_13 : decode cX12_forge 13 = .ok (.ireturn, 1) := by decide +kernel
theorem dX12_forge_14 : decode cX12_forge 14 = .ok (.aload_n 0, 1) := by decide +kernel
theorem dX12_forge_15 : decode cX12_forge 15 = .ok (.iload_n 1, 1) := by decide +kernel
theorem dX12_forge_16 : decode cX12_forge 16 = .ok (.invokevirtual 159, 3) := by decide +kernel
theorem dX12_forge_19 : decode cX12_forge 19 = .ok (.ifCond .ne 10, 3) := by decide +kernel
theorem dX12_forge_22 : decode cX12_forge 22 = .ok (.aload_n 0, 1) := by decide +kernel
theorem dX12_forge_23 : decode cX12_forge 23 = .ok (.bipush (-3), 2) := by decide +kernel
theorem dX12_forge_25 : decode cX12_forge 25 = .ok (.invokevirtual 124, 3) := by decide +kernel
theorem dX12_forge_28 : decode cX12_forge 28 = .ok (.ireturn, 1) := by decide +kernel
theorem dX12_forge_29 : decode cX12_forge 29 = .ok (.iload_n 2, 1) := by decide +kernel
theorem dX12_forge_30 : decode cX12_forge 30 = .ok (.ifCond .ge 10, 3) := by decide +kernel
theorem dX12_forge_33 : decode cX12_forge 33 = .ok (.aload_n 0, 1) := by decide +kernel
theorem dX12_forge_34 : decode cX12_forge 34 = .ok (.bipush (-4), 2) := by decide +kernel
theorem dX12_forge_36 : decode cX12_forge 36 = .ok (.invokevirtual 124, 3) := by decide +kernel
theorem dX12_forge_39 : decode cX12_forge 39 = .ok (.ireturn, 1) := by decide +kernel
theorem dX12_forge_40 : decode cX12_forge 40 = .ok (.iload_n 2, 1) := by decide +kernel
theorem dX12_forge_41 : decode cX12_forge 41 = .ok (.sipush 3000, 3) := by decide +kernel
theorem dX12_forge_44 : decode cX12_forge 44 = .ok (.if_icmp .le 10, 3) := by decide +kernel
theorem dX12_forge_47 : decode cX12_forge 47 = .ok (.aload_n 0, 1) := by decide +kernel
theorem dX12_forge_48 : decode cX12_forge 48 = .ok (.bipush (-9), 2) := by decide +kernel
theorem dX12_forge_50 : decode cX12_forge 50 = .ok (.invokevirtual 124, 3) := by decide +kernel
theorem dX12_forge_53 : decode cX12_forge 53 = .ok (.ireturn, 1) := by decide +kernel
theorem dX12_forge_54 : decode cX12_forge 54 = .ok (.aload_n 0, 1) := by decide +kernel
theorem dX12_forge_55 : decode cX12_forge 55 = .ok (.getfield 90, 3) := by decide +kernel
theorem dX12_forge_58 : decode cX12_forge 58 = .ok (.iload_n 1, 1) := by decide +kernel
theorem dX12_forge_59 : decode cX12_forge 59 = .ok (.iaload, 1) := by decide +kernel
theorem dX12_forge_60 : decode cX12_forge 60 = .ok (.istore_n 3, 1) := by decide +kernel
theorem dX12_forge_61 : decode cX12_forge 61 = .ok (.aload_n 0, 1) := by decide +kernel
theorem dX12_forge_62 : decode cX12_forge 62 = .ok (.getfield 90, 3) := by decide +kernel
theorem dX12_forge_65 : decode cX12_forge 65 = .ok (.iload_n 1, 1) := by decide +kernel
theorem dX12_forge_66 : decode cX12_forge 66 = .ok (.iload_n 2, 1) := by decide +kernel
theorem dX12_forge_67 : decode cX12_forge 67 = .ok (.iastore, 1) := by decide +kernel
theorem dX12_forge_68 : decode cX12_forge 68 = .ok (.iload_n 3, 1) := by decide +kernel
theorem dX12_forge_69 : decode cX12_forge 69 = .ok (.ireturn, 1) := by decide +kernel
theorem dX12_unwrong_0 : decode cX12_unwrong 0 = .ok (.iconst 0, 1) := by decide +kernel
theorem dX12_unwrong_1 : decode cX12_unwrong 1 = .ok (.istore_n 1, 1) := by decide +kernel
theorem dX12_unwrong_2 : decode cX12_unwrong 2 = .ok (.iload_n 1, 1) := by decide +kernel
theorem dX12_unwrong_3 : decode cX12_unwrong 3 = .ok (.bipush 6, 2) := by decide +kernel
theorem dX12_unwrong_5 : decode cX12_unwrong 5 = .ok (.if_icmp .ge 16, 3) := by decide +kernel
theorem dX12_unwrong_8 : decode cX12_unwrong 8 = .ok (.aload_n 0, 1) := by decide +kernel
theorem dX12_unwrong_9 : decode cX12_unwrong 9 = .ok (.getfield 102, 3) := by decide +kernel
theorem dX12_unwrong_12 : decode cX12_unwrong 12 = .ok (.iload_n 1, 1) := by decide +kernel
theorem dX12_unwrong_13 : decode cX12_unwrong 13 = .ok (.iconst (-1), 1) := by decide +kernel
theorem dX12_unwrong_14 : decode cX12_unwrong 14 = .ok (.iastore, 1) := by decide +kernel
theorem dX12_unwrong_15 : decode cX12_unwrong 15 = .ok (.iinc 1 1, 3) := by decide +kernel
theorem dX12_unwrong_18 : decode cX12_unwrong 18 = .ok (.goto (-16), 3) := by decide +kernel
theorem dX12_unwrong_21 : decode cX12_unwrong 21 = .ok (.return_, 1) := by decide +kernel
theorem dX12_isAhead_0 : decode cX12_isAhead 0 = .ok (.aload_n 0, 1) := by decide +kernel
theorem dX12_isAhead_1 : decode cX12_isAhead 1 = .ok (.getfield 102, 3) := by decide +kernel
theorem dX12_isAhead_4 : decode cX12_isAhead 4 = .ok (.iconst 1, 1) := by decide +kernel
theorem dX12_isAhead_5 : decode cX12_isAhead 5 = .ok (.iaload, 1) := by decide +kernel
theorem dX12_isAhead_6 : decode cX12_isAhead 6 = .ok (.ifCond .lt 18, 3) := by decide +kernel
theorem dX12_isAhead_9 : decode cX12_isAhead 9 = .ok (.aload_n 0, 1) := by decide +kernel
theorem dX12_isAhead_10 : decode cX12_isAhead 10 = .ok (.getfield 56, 3) := by decide +kernel
theorem dX12_isAhead_13 : decode cX12_isAhead 13 = .ok (.iload_n 1, 1) := by decide +kernel
theorem dX12_isAhead_14 : decode cX12_isAhead 14 = .ok (.iaload, 1) := by decide +kernel
theorem dX12_isAhead_15 : decode cX12_isAhead 15 = .ok (.aload_n 0, 1) := by decide +kernel
theorem dX12_isAhead_16 : decode cX12_isAhead 16 = .ok (.getfield 102, 3) := by decide +kernel
theorem dX12_isAhead_19 : decode cX12_isAhead 19 = .ok (.iconst 1, 1) := by decide +kernel
theorem dX12_isAhead_20 : decode cX12_isAhead 20 = .ok (.iaload, 1) := by decide +kernel
theorem dX12_isAhead_21 : decode cX12_isAhead 21 = .ok (.if_icmp .eq 33, 3) := by decide +kernel
theorem dX12_isAhead_24 : decode cX12_isAhead 24 = .ok (.aload_n 0, 1) := by decide +kernel
theorem dX12_isAhead_25 : decode cX12_isAhead 25 = .ok (.getfield 102, 3) := by decide +kernel
theorem dX12_isAhead_28 : decode cX12_isAhead 28 = .ok (.iconst 1, 1) := by decide +kernel
theorem dX12_isAhead_29 : decode cX12_isAhead 29 = .ok (.iaload, 1) := by decide +kernel
theorem dX12_isAhead_30 : decode cX12_isAhead 30 = .ok (.ifCond .lt 18, 3) := by decide +kernel
theorem dX12_isAhead_33 : decode cX12_isAhead 33 = .ok (.aload_n 0, 1) := by decide +kernel
theorem dX12_isAhead_34 : decode cX12_isAhead 34 = .ok (.getfield 56, 3) := by decide +kernel
theorem dX12_isAhead_37 : decode cX12_isAhead 37 = .ok (.iload_n 1, 1) := by decide +kernel
theorem dX12_isAhead_38 : decode cX12_isAhead 38 = .ok (.iaload, 1) := by decide +kernel
theorem dX12_isAhead_39 : decode cX12_isAhead 39 = .ok (.aload_n 0, 1) := by decide +kernel
theorem dX12_isAhead_40 : decode cX12_isAhead 40 = .ok (.getfield 102, 3) := by decide +kernel
theorem dX12_isAhead_43 : decode cX12_isAhead 43 = .ok (.iconst 1, 1) := by decide +kernel
theorem dX12_isAhead_44 : decode cX12_isAhead 44 = .ok (.iaload, 1) := by decide +kernel
theorem dX12_isAhead_45 : decode cX12_isAhead 45 = .ok (.if_icmp .ge 7, 3) := by decide +kernel
theorem dX12_isAhead_48 : decode cX12_isAhead 48 = .ok (.iconst 1, 1) := by decide +kernel
theorem dX12_isAhead_49 : decode cX12_isAhead 49 = .ok (.goto 4, 3) := by decide +kernel
theorem dX12_isAhead_52 : decode cX12_isAhead 52 = .ok (.iconst 0, 1) := by decide +kernel
theorem dX12_isAhead_53 : decode cX12_isAhead 53 = .ok (.ireturn, 1) := by decide +kernel
theorem dX12_isAhead_54 : decode cX12_isAhead 54 = .ok (.aload_n 0, 1) := by decide +kernel
theorem dX12_isAhead_55 : decode cX12_isAhead 55 = .ok (.getfield 53, 3) := by decide +kernel
theorem dX12_isAhead_58 : decode cX12_isAhead 58 = .ok (.iload_n 1, 1) := by decide +kernel
theorem dX12_isAhead_59 : decode cX12_isAhead 59 = .ok (.iaload, 1) := by decide +kernel
theorem dX12_isAhead_60 : decode cX12_isAhead 60 = .ok (.aload_n 0, 1) := by decide +kernel
theorem dX12_isAhead_61 : decode cX12_isAhead 61 = .ok (.getfield 102, 3) := by decide +kernel
theorem dX12_isAhead_64 : decode cX12_isAhead 64 = .ok (.iconst 0, 1) := by decide +kernel
theorem dX12_isAhead_65 : decode cX12_isAhead 65 = .ok (.iaload, 1) := by decide +kernel
theorem dX12_isAhead_66 : decode cX12_isAhead 66 = .ok (.if_icmp .eq 24, 3) := by decide +kernel
theorem dX12_isAhead_69 : decode cX12_isAhead 69 = .ok (.aload_n 0, 1) := by decide +kernel
theorem dX12_isAhead_70 : decode cX12_isAhead 70 = .ok (.getfield 53, 3) := by decide +kernel
theorem dX12_isAhead_73 : decode cX12_isAhead 73 = .ok (.iload_n 1, 1) := by decide +kernel
theorem dX12_isAhead_74 : decode cX12_isAhead 74 = .ok (.iaload, 1) := by decide +kernel
theorem dX12_isAhead_75 : decode cX12_isAhead 75 = .ok (.aload_n 0, 1) := by decide +kernel
theorem dX12_isAhead_76 : decode cX12_isAhead 76 = .ok (.getfield 102, 3) := by decide +kernel
theorem dX12_isAhead_79 : decode cX12_isAhead 79 = .ok (.iconst 0, 1) := by decide +kernel
theorem dX12_isAhead_80 : decode cX12_isAhead 80 = .ok (.iaload, 1) := by decide +kernel
theorem dX12_isAhead_81 : decode cX12_isAhead 81 = .ok (.if_icmp .ge 7, 3) := by decide +kernel
theorem dX12_isAhead_84 : decode cX12_isAhead 84 = .ok (.iconst 1, 1) := by decide +kernel
theorem dX12_isAhead_85 : decode cX12_isAhead 85 = .ok (.goto 4, 3) := by decide +kernel
theorem dX12_isAhead_88 : decode cX12_isAhead 88 = .ok (.iconst 0, 1) := by decide +kernel
theorem dX12_isAhead_89 : decode cX12_isAhead 89 = .ok (.ireturn, 1) := by decide +kernel
theorem dX12_isAhead_90 : decode cX12_isAhead 90 = .ok (.aload_n 0, 1) := by decide +kernel
theorem dX12_isAhead_91 : decode cX12_isAhead 91 = .ok (.getfield 59, 3) := by decide +kernel
theorem dX12_isAhead_94 : decode cX12_isAhead 94 = .ok (.iload_n 1, 1) := by decide +kernel
theorem dX12_isAhead_95 : decode cX12_isAhead 95 = .ok (.iaload, 1) := by decide +kernel
theorem dX12_isAhead_96 : decode cX12_isAhead 96 = .ok (.aload_n 0, 1) := by decide +kernel
theorem dX12_isAhead_97 : decode cX12_isAhead 97 = .ok (.getfield 102, 3) := by decide +kernel
theorem dX12_isAhead_100 : decode cX12_isAhead 100 = .ok (.iconst 2, 1) := by decide +kernel
theorem dX12_isAhead_101 : decode cX12_isAhead 101 = .ok (.iaload, 1) := by decide +kernel
theorem dX12_isAhead_102 : decode cX12_isAhead 102 = .ok (.if_icmp .eq 26, 3) := by decide +kernel
theorem dX12_isAhead_105 : decode cX12_isAhead 105 = .ok (.aload_n 0, 1) := by decide +kernel
theorem dX12_isAhead_106 : decode cX12_isAhead 106 = .ok (.getfield 59, 3) := by decide +kernel
theorem dX12_isAhead_109 : decode cX12_isAhead 109 = .ok (.iload_n 1, 1) := by decide +kernel
theorem dX12_isAhead_110 : decode cX12_isAhead 110 = .ok (.iaload, 1) := by decide +kernel
theorem dX12_isAhead_111 : decode cX12_isAhead 111 = .ok (.aload_n 0, 1) := by decide +kernel
theorem dX12_isAhead_112 : decode cX12_isAhead 112 = .ok (.getfield 102, 3) := by decide +kernel
theorem dX12_isAhead_115 : decode cX12_isAhead 115 = .ok (.iconst 2, 1) := by decide +kernel
theorem dX12_isAhead_116 : decode cX12_isAhead 116 = .ok (.iaload, 1) := by decide +kernel
theorem dX12_isAhead_117 : decode cX12_isAhead 117 = .ok (.if_icmp .ge 7, 3) := by decide +kernel
theorem dX12_isAhead_120 : decode cX12_isAhead 120 = .ok (.iconst 1, 1) := by decide +kernel
theorem dX12_isAhead_121 : decode cX12_isAhead 121 = .ok (.goto 27, 3) := by decide +kernel
theorem dX12_isAhead_124 : decode cX12_isAhead 124 = .ok (.iconst 0, 1) := by decide +kernel
theorem dX12_isAhead_125 : decode cX12_isAhead 125 = .ok (.goto 23, 3) := by decide +kernel
theorem dX12_isAhead_128 : decode cX12_isAhead 128 = .ok (.aload_n 0, 1) := by decide +kernel
theorem dX12_isAhead_129 : decode cX12_isAhead 129 = .ok (.getfield 62, 3) := by decide +kernel
theorem dX12_isAhead_132 : decode cX12_isAhead 132 = .ok (.iload_n 1, 1) := by decide +kernel
theorem dX12_isAhead_133 : decode cX12_isAhead 133 = .ok (.iaload, 1) := by decide +kernel
theorem dX12_isAhead_134 : decode cX12_isAhead 134 = .ok (.aload_n 0, 1) := by decide +kernel
