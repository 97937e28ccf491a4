theorem dX0_init_0 : decode cX0_init 0 = .ok (.aload_n 0, 1) := by decide +kernel
theorem dX0_init_1 : decode cX0_init 1 = .ok (.invokespecial 3, 3) := by decide +kernel
theorem dX0_init_4 : decode cX0_init 4 = .ok (.aload_n 0, 1) := by decide +kernel
theorem dX0_init_5 : decode cX0_init 5 = .ok (.iconst 0, 1) := by decide +kernel
theorem dX0_init_6 : decode cX0_init 6 = .ok (.putfield 9, 3) := by decide +kernel
theorem dX0_init_9 : decode cX0_init 9 = .ok (.aload_n 0, 1) := by decide +kernel
theorem dX0_init_10 : decode cX0_init 10 = .ok (.bipush 16, 2) := by decide +kernel
theorem dX0_init_12 : decode cX0_init 12 = .ok (.newarray .int, 2) := by decide +kernel
theorem dX0_init_14 : decode cX0_init 14 = .ok (.putfield 15, 3) := by decide +kernel
theorem dX0_init_17 : decode cX0_init 17 = .ok (.aload_n 0, 1) := by decide +kernel
theorem dX0_init_18 : decode cX0_init 18 = .ok (.bipush 16, 2) := by decide +kernel
theorem dX0_init_20 : decode cX0_init 20 = .ok (.newarray .int, 2) := by decide +kernel
theorem dX0_init_22 : decode cX0_init 22 = .ok (.putfield 19, 3) := by decide +kernel
theorem dX0_init_25 : decode cX0_init 25 = .ok (.aload_n 0, 1) := by decide +kernel
theorem dX0_init_26 : decode cX0_init 26 = .ok (.bipush 16, 2) := by decide +kernel
theorem dX0_init_28 : decode cX0_init 28 = .ok (.newarray .int, 2) := by decide +kernel
theorem dX0_init_30 : decode cX0_init 30 = .ok (.putfield 22, 3) := by decide +kernel
theorem dX0_init_33 : decode cX0_init 33 = .ok (.aload_n 0, 1) := by decide +kernel
theorem dX0_init_34 : decode cX0_init 34 = .ok (.bipush 16, 2) := by decide +kernel
theorem dX0_init_36 : decode cX0_init 36 = .ok (.newarray .int, 2) := by decide +kernel
theorem dX0_init_38 : decode cX0_init 38 = .ok (.putfield 25, 3) := by decide +kernel
theorem dX0_init_41 : decode cX0_init 41 = .ok (.aload_n 0, 1) := by decide +kernel
theorem dX0_init_42 : decode cX0_init 42 = .ok (.bipush 16, 2) := by decide +kernel
theorem dX0_init_44 : decode cX0_init 44 = .ok (.newarray .int, 2) := by decide +kernel
theorem dX0_init_46 : decode cX0_init 46 = .ok (.putfield 28, 3) := by decide +kernel
theorem dX0_init_49 : decode cX0_init 49 = .ok (.aload_n 0, 1) := by decide +kernel
theorem dX0_init_50 : decode cX0_init 50 = .ok (.bipush 48, 2) := by decide +kernel
theorem dX0_init_52 : decode cX0_init 52 = .ok (.newarray .int, 2) := by decide +kernel
theorem dX0_init_54 : decode cX0_init 54 = .ok (.putfield 31, 3) := by decide +kernel
theorem dX0_init_57 : decode cX0_init 57 = .ok (.aload_n 0, 1) := by decide +kernel
theorem dX0_init_58 : decode cX0_init 58 = .ok (.bipush 48, 2) := by decide +kernel
theorem dX0_init_60 : decode cX0_init 60 = .ok (.newarray .int, 2) := by decide +kernel
theorem dX0_init_62 : decode cX0_init 62 = .ok (.putfield 34, 3) := by decide +kernel
theorem dX0_init_65 : decode cX0_init 65 = .ok (.aload_n 0, 1) := by decide +kernel
theorem dX0_init_66 : decode cX0_init 66 = .ok (.bipush 16, 2) := by decide +kernel
theorem dX0_init_68 : decode cX0_init 68 = .ok (.newarray .long, 2) := by decide +kernel
theorem dX0_init_70 : decode cX0_init 70 = .ok (.putfield 37, 3) := by decide +kernel
theorem dX0_init_73 : decode cX0_init 73 = .ok (.aload_n 0, 1) := by decide +kernel
theorem dX0_init_74 : decode cX0_init 74 = .ok (.bipush 16, 2) := by decide +kernel
theorem dX0_init_76 : decode cX0_init 76 = .ok (.newarray .long, 2) := by decide +kernel
theorem dX0_init_78 : decode cX0_init 78 = .ok (.putfield 41, 3) := by decide +kernel
theorem dX0_init_81 : decode cX0_init 81 = .ok (.aload_n 0, 1) := by decide +kernel
theorem dX0_init_82 : decode cX0_init 82 = .ok (.bipush 6, 2) := by decide +kernel
theorem dX0_init_84 : decode cX0_init 84 = .ok (.newarray .int, 2) := by decide +kernel
theorem dX0_init_86 : decode cX0_init 86 = .ok (.putfield 44, 3) := by decide +kernel
theorem dX0_init_89 : decode cX0_init 89 = .ok (.aload_n 0, 1) := by decide +kernel
theorem dX0_init_90 : decode cX0_init 90 = .ok (.new 47, 3) := by decide +kernel
theorem dX0_init_93 : decode cX0_init 93 = .ok (.dup, 1) := by decide +kernel
theorem dX0_init_94 : decode cX0_init 94 = .ok (.bipush 40, 2) := by decide +kernel
theorem dX0_init_96 : decode cX0_init 96 = .ok (.invokespecial 49, 3) := by decide +kernel
theorem dX0_init_99 : decode cX0_init 99 = .ok (.putfield 52, 3) := by decide +kernel
theorem dX0_init_102 : decode cX0_init 102 = .ok (.aload_n 0, 1) := by decide +kernel
theorem dX0_init_103 : decode cX0_init 103 = .ok (.getfield 44, 3) := by decide +kernel
theorem dX0_init_106 : decode cX0_init 106 = .ok (.iconst 1, 1) := by decide +kernel
theorem dX0_init_107 : decode cX0_init 107 = .ok (.invokestatic 56, 3) := by decide +kernel
theorem dX0_init_110 : decode cX0_init 110 = .ok (.return_, 1) := by decide +kernel
theorem dX0_has_0 : decode cX0_has 0 = .ok (.iload_n 1, 1) := by decide +kernel
theorem dX0_has_1 : decode cX0_has 1 = .ok (.ifCond .lt 15, 3) := by decide +kernel
theorem dX0_has_4 : decode cX0_has 4 = .ok (.iload_n 1, 1) := by decide +kernel
theorem dX0_has_5 : decode cX0_has 5 = .ok (.aload_n 0, 1) := by decide +kernel
theorem dX0_has_6 : decode cX0_has 6 = .ok (.getfield 9, 3) := by decide +kernel
theorem dX0_has_9 : decode cX0_has 9 = .ok (.if_icmp .ge 7, 3) := by decide +kernel
theorem dX0_has_12 : decode cX0_has 12 = .ok (.iconst 1, 1) := by decide +kernel
theorem dX0_has_13 : decode cX0_has 13 = .ok (.goto 4, 3) := by decide +kernel
theorem dX0_has_16 : decode cX0_has 16 = .ok (.iconst 0, 1) := by decide +kernel
theorem dX0_has_17 : decode cX0_has 17 = .ok (.ireturn, 1) := by decide +kernel
theorem dX0_mayTake_0 : decode cX0_mayTake 0 = .ok (.iload_n 1, 1) := by decide +kernel
theorem dX0_mayTake_1 : decode cX0_mayTake 1 = .ok (.ifCond .lt 25, 3) := by decide +kernel
theorem dX0_mayTake_4 : decode cX0_mayTake 4 = .ok (.iload_n 1, 1) := by decide +kernel
theorem dX0_mayTake_5 : decode cX0_mayTake 5 = .ok (.bipush 16, 2) := by decide +kernel
theorem dX0_mayTake_7 : decode cX0_mayTake 7 = .ok (.if_icmp .ge 19, 3) := by decide +kernel
theorem dX0_mayTake_10 : decode cX0_mayTake 10 = .ok (.iload_n 2, 1) := by decide +kernel
theorem dX0_mayTake_11 : decode cX0_mayTake 11 = .ok (.ifCond .gt 11, 3) := by decide +kernel
theorem dX0_mayTake_14 : decode cX0_mayTake 14 = .ok (.iload_n 1, 1) := by decide +kernel
theorem dX0_mayTake_15 : decode cX0_mayTake 15 = .ok (.aload_n 0, 1) := by decide +kernel
theorem dX0_mayTake_16 : decode cX0_mayTake 16 = .ok (.getfield 9, 3) := by decide +kernel
theorem dX0_mayTake_19 : decode cX0_mayTake 19 = .ok (.if_icmp .ge 7, 3) := by decide +kernel
theorem dX0_mayTake_22 : decode cX0_mayTake 22 = .ok (.iconst 1, 1) := by decide +kernel
theorem dX0_mayTake_23 : decode cX0_mayTake 23 = .ok (.goto 4, 3) := by decide +kernel
theorem dX0_mayTake_26 : decode cX0_mayTake 26 = .ok (.iconst 0, 1) := by decide +kernel
theorem dX0_mayTake_27 : decode cX0_mayTake 27 = .ok (.ireturn, 1) := by decide +kernel
theorem dX0_open_0 : decode cX0_open 0 = .ok (.aload_n 0, 1) := by decide +kernel
theorem dX0_open_1 : decode cX0_open 1 = .ok (.getfield 9, 3) := by decide +kernel
theorem dX0_open_4 : decode cX0_open 4 = .ok (.istore_n 2, 1) := by decide +kernel
theorem dX0_open_5 : decode cX0_open 5 = .ok (.iload_n 2, 1) := by decide +kernel
theorem dX0_open_6 : decode cX0_open 6 = .ok (.bipush 16, 2) := by decide +kernel
theorem dX0_open_8 : decode cX0_open 8 = .ok (.if_icmp .lt 5, 3) := by decide +kernel
theorem dX0_open_11 : decode cX0_open 11 = .ok (.iconst (-1), 1) := by decide +kernel
theorem dX0_open_12 : decode cX0_open 12 = .ok (.ireturn, 1) := by decide +kernel
theorem dX0_open_13 : decode cX0_open 13 = .ok (.aload_n 0, 1) := by decide +kernel
theorem dX0_open_14 : decode cX0_open 14 = .ok (.iload_n 2, 1) := by decide +kernel
theorem dX0_open_15 : decode cX0_open 15 = .ok (.iconst 1, 1) := by decide +kernel
theorem dX0_open_16 : decode cX0_open 16 = .ok (.iadd, 1) := by decide +kernel
theorem dX0_open_17 : decode cX0_open 17 = .ok (.putfield 9, 3) := by decide +kernel
theorem dX0_open_20 : decode cX0_open 20 = .ok (.aload_n 0, 1) := by decide +kernel
theorem dX0_open_21 : decode cX0_open 21 = .ok (.getfield 15, 3) := by decide +kernel
theorem dX0_open_24 : decode cX0_open 24 = .ok (.iload_n 2, 1) := by decide +kernel
theorem dX0_open_25 : decode cX0_open 25 = .ok (.iload_n 1, 1) := by decide +kernel
theorem dX0_open_26 : decode cX0_open 26 = .ok (.iastore, 1) := by decide +kernel
theorem dX0_open_27 : decode cX0_open 27 = .ok (.aload_n 0, 1) := by decide +kernel
theorem dX0_open_28 : decode cX0_open 28 = .ok (.getfield 19, 3) := by decide +kernel
theorem dX0_open_31 : decode cX0_open 31 = .ok (.iload_n 2, 1) := by decide +kernel
theorem dX0_open_32 : decode cX0_open 32 = .ok (.iconst 1, 1) := by decide +kernel
theorem dX0_open_33 : decode cX0_open 33 = .ok (.iastore, 1) := by decide +kernel
theorem dX0_open_34 : decode cX0_open 34 = .ok (.aload_n 0, 1) := by decide +kernel
theorem dX0_open_35 : decode cX0_open 35 = .ok (.getfield 22, 3) := by decide +kernel
theorem dX0_open_38 : decode cX0_open 38 = .ok (.iload_n 2, 1) := by decide +kernel
theorem dX0_open_39 : decode cX0_open 39 = .ok (.iconst 0, 1) := by decide +kernel
theorem dX0_open_40 : decode cX0_open 40 = .ok (.iastore, 1) := by decide +kernel
theorem dX0_open_41 : decode cX0_open 41 = .ok (.aload_n 0, 1) := by decide +kernel
theorem dX0_open_42 : decode cX0_open 42 = .ok (.getfield 25, 3) := by decide +kernel
theorem dX0_open_45 : decode cX0_open 45 = .ok (.iload_n 2, 1) := by decide +kernel
theorem dX0_open_46 : decode cX0_open 46 = .ok (.iconst 1, 1) := by decide +kernel
theorem dX0_open_47 : decode cX0_open 47 = .ok (.iastore, 1) := by decide +kernel
theorem dX0_open_48 : decode cX0_open 48 = .ok (.aload_n 0, 1) := by decide +kernel
theorem dX0_open_49 : decode cX0_open 49 = .ok (.getfield 28, 3) := by decide +kernel
theorem dX0_open_52 : decode cX0_open 52 = .ok (.iload_n 2, 1) := by decide +kernel
theorem dX0_open_53 : decode cX0_open 53 = .ok (.iconst (-1), 1) := by decide +kernel
theorem dX0_open_54 : decode cX0_open 54 = .ok (.iastore, 1) := by decide +kernel
theorem dX0_open_55 : decode cX0_open 55 = .ok (.aload_n 0, 1) := by decide +kernel
theorem dX0_open_56 : decode cX0_open 56 = .ok (.getfield 37, 3) := by decide +kernel
theorem dX0_open_59 : decode cX0_open 59 = .ok (.iload_n 2, 1) := by decide +kernel
theorem dX0_open_60 : decode cX0_open 60 = .ok (.lconst 0, 1) := by decide +kernel
theorem dX0_open_61 : decode cX0_open 61 = .ok (.lastore, 1) := by decide +kernel
theorem dX0_open_62 : decode cX0_open 62 = .ok (.aload_n 0, 1) := by decide +kernel
theorem dX0_open_63 : decode cX0_open 63 = .ok (.getfield 41, 3) := by decide +kernel
theorem dX0_open_66 : decode cX0_open 66 = .ok (.iload_n 2, 1) := by decide +kernel
theorem dX0_open_67 : decode cX0_open 67 = .ok (.lconst 0, 1) := by decide +kernel
theorem dX0_open_68 : decode cX0_open 68 = .ok (.lastore, 1) := by decide +kernel
theorem dX0_open_69 : decode cX0_open 69 = .ok (.iconst 0, 1) := by decide +kernel
theorem dX0_open_70 : decode cX0_open 70 = .ok (.istore_n 3, 1) := by decide +kernel
theorem dX0_open_71 : decode cX0_open 71 = .ok (.iload_n 3, 1) := by decide +kernel
theorem dX0_open_72 : decode cX0_open 72 = .ok (.iconst 3, 1) := by decide +kernel
theorem dX0_open_73 : decode cX0_open 73 = .ok (.if_icmp .ge 17, 3) := by decide +kernel
theorem dX0_open_76 : decode cX0_open 76 = .ok (.aload_n 0, 1) := by decide +kernel
theorem dX0_open_77 : decode cX0_open 77 = .ok (.iload_n 2, 1) := by decide +kernel
theorem dX0_open_78 : decode cX0_open 78 = .ok (.iload_n 3, 1) := by decide +kernel
theorem dX0_open_79 : decode cX0_open 79 = .ok (.iconst (-1), 1) := by decide +kernel
theorem dX0_open_80 : decode cX0_open 80 = .ok (.iconst (-1), 1) := by decide +kernel
theorem dX0_open_81 : decode cX0_open 81 = .ok (.invokevirtual 62, 3) := by decide +kernel
theorem dX0_open_84 : decode cX0_open 84 = .ok (.iinc 3 1, 3) := by decide +kernel
theorem dX0_open_87 : decode cX0_open 87 = .ok (.goto (-16), 3) := by decide +kernel
theorem dX0_open_90 : decode cX0_open 90 = .ok (.iload_n 2, 1) := by decide +kernel
theorem dX0_open_91 : decode cX0_open 91 = .ok (.ireturn, 1) := by decide +kernel
theorem dX0_take_0 : decode cX0_take 0 = .ok (.aload_n 0, 1) := by decide +kernel
theorem dX0_take_1 : decode cX0_take 1 = .ok (.getfield 31, 3) := by decide +kernel
theorem dX0_take_4 : decode cX0_take 4 = .ok (.iload_n 1, 1) := by decide +kernel
theorem dX0_take_5 : decode cX0_take 5 = .ok (.iconst 3, 1) := by decide +kernel
theorem dX0_take_6 : decode cX0_take 6 = .ok (.imul, 1) := by decide +kernel
theorem dX0_take_7 : decode cX0_take 7 = .ok (.iload_n 2, 1) := by decide +kernel
theorem dX0_take_8 : decode cX0_take 8 = .ok (.iadd, 1) := by decide +kernel
theorem dX0_take_9 : decode cX0_take 9 = .ok (.iload_n 3, 1) := by decide +kernel
theorem dX0_take_10 : decode cX0_take 10 = .ok (.iastore, 1) := by decide +kernel
theorem dX0_take_11 : decode cX0_take 11 = .ok (.aload_n 0, 1) := by decide +kernel
theorem dX0_take_12 : decode cX0_take 12 = .ok (.getfield 34, 3) := by decide +kernel
theorem dX0_take_15 : decode cX0_take 15 = .ok (.iload_n 1, 1) := by decide +kernel
theorem dX0_take_16 : decode cX0_take 16 = .ok (.iconst 3, 1) := by decide +kernel
theorem dX0_take_17 : decode cX0_take 17 = .ok (.imul, 1) := by decide +kernel
theorem dX0_take_18 : decode cX0_take 18 = .ok (.iload_n 2, 1) := by decide +kernel
theorem dX0_take_19 : decode cX0_take 19 = .ok (.iadd, 1) := by decide +kernel
theorem dX0_take_20 : decode cX0_take 20 = .ok (.iload 4, 2) := by decide +kernel
theorem dX0_take_22 : decode cX0_take 22 = .ok (.iastore, 1) := by decide +kernel
theorem dX0_take_23 : decode cX0_take 23 = .ok (.return_, 1) := by decide +kernel
theorem dX0_isTakenByAnother_0 : decode cX0_isTakenByAnother 0 = .ok (.iload_n 1, 1) := by decide +kernel
theorem dX0_isTakenByAnother_1 : decode cX0_isTakenByAnother 1 = .ok (.iconst 3, 1) := by decide +kernel
theorem dX0_isTakenByAnother_2 : decode cX0_isTakenByAnother 2 = .ok (.imul, 1) := by decide +kernel
theorem dX0_isTakenByAnother_3 : decode cX0_isTakenByAnother 3 = .ok (.istore_n 2, 1) := by decide +kernel
theorem dX0_isTakenByAnother_4 : decode cX0_isTakenByAnother 4 = .ok (.iconst 0, 1) := by decide +kernel
theorem dX0_isTakenByAnother_5 : decode cX0_isTakenByAnother 5 = .ok (.istore_n 3, 1) := by decide +kernel
theorem dX0_isTakenByAnother_6 : decode cX0_isTakenByAnother 6 = .ok (.iload_n 3, 1) := by decide +kernel
theorem dX0_isTakenByAnother_7 : decode cX0_isTakenByAnother 7 = .ok (.aload_n 0, 1) := by decide +kernel
theorem dX0_isTakenByAnother_8 : decode cX0_isTakenByAnother 8 = .ok (.getfield 9, 3) := by decide +kernel
theorem dX0_isTakenByAnother_11 : decode cX0_isTakenByAnother 11 = .ok (.iconst 3, 1) := by decide +kernel
theorem dX0_isTakenByAnother_12 : decode cX0_isTakenByAnother 12 = .ok (.imul, 1) := by decide +kernel
theorem dX0_isTakenByAnother_13 : decode cX0_isTakenByAnother 13 = .ok (.if_icmp .ge 33, 3) := by decide +kernel
theorem dX0_isTakenByAnother_16 : decode cX0_isTakenByAnother 16 = .ok (.aload_n 0, 1) := by decide +kernel
theorem dX0_isTakenByAnother_17 : decode cX0_isTakenByAnother 17 = .ok (.getfield 31, 3) := by decide +kernel
theorem dX0_isTakenByAnother_20 : decode cX0_isTakenByAnother 20 = .ok (.iload_n 3, 1) := by decide +kernel
theorem dX0_isTakenByAnother_21 : decode cX0_isTakenByAnother 21 = .ok (.iaload, 1) := by decide +kernel
theorem dX0_isTakenByAnother_22 : decode cX0_isTakenByAnother 22 = .ok (.iload_n 1, 1) := by decide +kernel
theorem dX0_isTakenByAnother_23 : decode cX0_isTakenByAnother 23 = .ok (.if_icmp .ne 17, 3) := by decide +kernel
theorem dX0_isTakenByAnother_26 : decode cX0_isTakenByAnother 26 = .ok (.iload_n 3, 1) := by decide +kernel
theorem dX0_isTakenByAnother_27 : decode cX0_isTakenByAnother 27 = .ok (.iload_n 2, 1) := by decide +kernel
theorem dX0_isTakenByAnother_28 : decode cX0_isTakenByAnother 28 = .ok (.if_icmp .lt 10, 3) := by decide +kernel
theorem dX0_isTakenByAnother_31 : decode cX0_isTakenByAnother 31 = .ok (.iload_n 3, 1) := by decide +kernel
theorem dX0_isTakenByAnother_32 : decode cX0_isTakenByAnother 32 = .ok (.iload_n 2, 1) := by decide +kernel
theorem dX0_isTakenByAnother_33 : decode cX0_isTakenByAnother 33 = .ok (.iconst 3, 1) := by decide +kernel
theorem dX0_isTakenByAnother_34 : decode cX0_isTakenByAnother 34 = .ok (.iadd, 1) := by decide +kernel
theorem dX0_isTakenByAnother_35 : decode cX0_isTakenByAnother 35 = .ok (.if_icmp .lt 5, 3) := by decide +kernel
theorem dX0_isTakenByAnother_38 : decode cX0_isTakenByAnother 38 = .ok (.iconst 1, 1) := by decide +kernel
theorem dX0_isTakenByAnother_39 : decode cX0_isTakenByAnother 39 = .ok (.ireturn, 1) := by decide +kernel
theorem dX0_isTakenByAnother_40 : decode cX0_isTakenByAnother 40 = .ok (.iinc 3 1, 3) := by decide +kernel
theorem dX0_isTakenByAnother_43 : decode cX0_isTakenByAnother 43 = .ok (.goto (-37), 3) := by decide +kernel
theorem dX0_isTakenByAnother_46 : decode cX0_isTakenByAnother 46 = .ok (.iconst 0, 1) := by decide +kernel
theorem dX0_isTakenByAnother_47 : decode cX0_isTakenByAnother 47 = .ok (.ireturn, 1) := by decide +kernel
theorem dX0_isWhole_0 : decode cX0_isWhole 0 = .ok (.iconst 0, 1) := by decide +kernel
theorem dX0_isWhole_1 : decode cX0_isWhole 1 = .ok (.istore_n 1, 1) := by decide +kernel
theorem dX0_isWhole_2 : decode cX0_isWhole 2 = .ok (.iload_n 1, 1) := by decide +kernel
theorem dX0_isWhole_3 : decode cX0_isWhole 3 = .ok (.aload_n 0, 1) := by decide +kernel
theorem dX0_isWhole_4 : decode cX0_isWhole 4 = .ok (.getfield 9, 3) := by decide +kernel
theorem dX0_isWhole_7 : decode cX0_isWhole 7 = .ok (.iconst 3, 1) := by decide +kernel
theorem dX0_isWhole_8 : decode cX0_isWhole 8 = .ok (.imul, 1) := by decide +kernel
theorem dX0_isWhole_9 : decode cX0_isWhole 9 = .ok (.if_icmp .ge 24, 3) := by decide +kernel
theorem dX0_isWhole_12 : decode cX0_isWhole 12 = .ok (.aload_n 0, 1) := by decide +kernel
theorem dX0_isWhole_13 : decode cX0_isWhole 13 = .ok (.getfield 31, 3) := by decide +kernel
theorem dX0_isWhole_16 : decode cX0_isWhole 16 = .ok (.iload_n 1, 1) := by decide +kernel
theorem dX0_isWhole_17 : decode cX0_isWhole 17 = .ok (.iaload, 1) := by decide +kernel
theorem dX0_isWhole_18 : decode cX0_isWhole 18 = .ok (.aload_n 0, 1) := by decide +kernel
theorem dX0_isWhole_19 : decode cX0_isWhole 19 = .ok (.getfield 9, 3) := by decide +kernel
theorem dX0_isWhole_22 : decode cX0_isWhole 22 = .ok (.if_icmp .lt 5, 3) := by decide +kernel
theorem dX0_isWhole_25 : decode cX0_isWhole 25 = .ok (.iconst 0, 1) := by decide +kernel
theorem dX0_isWhole_26 : decode cX0_isWhole 26 = .ok (.ireturn, 1) := by decide +kernel
theorem dX0_isWhole_27 : decode cX0_isWhole 27 = .ok (.iinc 1 1, 3) := by decide +kernel
theorem dX0_isWhole_30 : decode cX0_isWhole 30 = .ok (.goto (-28), 3) := by decide +kernel
theorem dX0_isWhole_33 : decode cX0_isWhole 33 = .ok (.iconst 1, 1) := by decide +kernel
theorem dX0_isWhole_34 : decode cX0_isWhole 34 = .ok (.ireturn, 1) := by decide +kernel
theorem dX0_isReady_0 : decode cX0_isReady 0 = .ok (.aload_n 0, 1) := by decide +kernel
theorem dX0_isReady_1 : decode cX0_isReady 1 = .ok (.getfield 9, 3) := by decide +kernel
theorem dX0_isReady_4 : decode cX0_isReady 4 = .ok (.ifCond .le 14, 3) := by decide +kernel
theorem dX0_isReady_7 : decode cX0_isReady 7 = .ok (.aload_n 0, 1) := by decide +kernel
theorem dX0_isReady_8 : decode cX0_isReady 8 = .ok (.invokevirtual 66, 3) := by decide +kernel
theorem dX0_isReady_11 : decode cX0_isReady 11 = .ok (.ifCond .eq 7, 3) := by decide +kernel
theorem dX0_isReady_14 : decode cX0_isReady 14 = .ok (.iconst 1, 1) := by decide +kernel
theorem dX0_isReady_15 : decode cX0_isReady 15 = .ok (.goto 4, 3) := by decide +kernel
theorem dX0_isReady_18 : decode cX0_isReady 18 = .ok (.iconst 0, 1) := by decide +kernel
theorem dX0_isReady_19 : decode cX0_isReady 19 = .ok (.ireturn, 1) := by decide +kernel
theorem dX0_stores_0 : decode cX0_stores 0 = .ok (.iconst 0, 1) := by decide +kernel
theorem dX0_stores_1 : decode cX0_stores 1 = .ok (.istore_n 1, 1) := by decide +kernel
theorem dX0_stores_2 : decode cX0_stores 2 = .ok (.iconst 0, 1) := by decide +kernel
theorem dX0_stores_3 : decode cX0_stores 3 = .ok (.istore_n 2, 1) := by decide +kernel
theorem dX0_stores_4 : decode cX0_stores 4 = .ok (.iload_n 2, 1) := by decide +kernel
theorem dX0_stores_5 : decode cX0_stores 5 = .ok (.aload_n 0, 1) := by decide +kernel
theorem dX0_stores_6 : decode cX0_stores 6 = .ok (.getfield 9, 3) := by decide +kernel
theorem dX0_stores_9 : decode cX0_stores 9 = .ok (.if_icmp .ge 22, 3) := by decide +kernel
theorem dX0_stores_12 : decode cX0_stores 12 = .ok (.aload_n 0, 1) := by decide +kernel
theorem dX0_stores_13 : decode cX0_stores 13 = .ok (.getfield 15, 3) := by decide +kernel
theorem dX0_stores_16 : decode cX0_stores 16 = .ok (.iload_n 2, 1) := by decide +kernel
theorem dX0_stores_17 : decode cX0_stores 17 = .ok (.iaload, 1) := by decide +kernel
theorem dX0_stores_18 : decode cX0_stores 18 = .ok (.iconst 5, 1) := by decide +kernel
theorem dX0_stores_19 : decode cX0_stores 19 = .ok (.if_icmp .ne 6, 3) := by decide +kernel
theorem dX0_stores_22 : decode cX0_stores 22 = .ok (.iinc 1 1, 3) := by decide +kernel
theorem dX0_stores_25 : decode cX0_stores 25 = .ok (.iinc 2 1, 3) := by decide +kernel
theorem dX0_stores_28 : decode cX0_stores 28 = .ok (.goto (-24), 3) := by decide +kernel
theorem dX0_stores_31 : decode cX0_stores 31 = .ok (.iload_n 1, 1) := by decide +kernel
theorem dX0_stores_32 : decode cX0_stores 32 = .ok (.ireturn, 1) := by decide +kernel
theorem dX0_unitsInAll_0 : decode cX0_unitsInAll 0 = .ok (.iconst 0, 1) := by decide +kernel
theorem dX0_unitsInAll_1 : decode cX0_unitsInAll 1 = .ok (.istore_n 1, 1) := by decide +kernel
theorem dX0_unitsInAll_2 : decode cX0_unitsInAll 2 = .ok (.iconst 0, 1) := by decide +kernel
theorem dX0_unitsInAll_3 : decode cX0_unitsInAll 3 = .ok (.istore_n 2, 1) := by decide +kernel
theorem dX0_unitsInAll_4 : decode cX0_unitsInAll 4 = .ok (.iload_n 2, 1) := by decide +kernel
theorem dX0_unitsInAll_5 : decode cX0_unitsInAll 5 = .ok (.bipush 6, 2) := by decide +kernel
theorem dX0_unitsInAll_7 : decode cX0_unitsInAll 7 = .ok (.if_icmp .ge 18, 3) := by decide +kernel
theorem dX0_unitsInAll_10 : decode cX0_unitsInAll 10 = .ok (.iload_n 1, 1) := by decide +kernel
theorem dX0_unitsInAll_11 : decode cX0_unitsInAll 11 = .ok (.aload_n 0, 1) := by decide +kernel
theorem dX0_unitsInAll_12 : decode cX0_unitsInAll 12 = .ok (.getfield 44, 3) := by decide +kernel
theorem dX0_unitsInAll_15 : decode cX0_unitsInAll 15 = .ok (.iload_n 2, 1) := by decide +kernel
theorem dX0_unitsInAll_16 : decode cX0_unitsInAll 16 = .ok (.iaload, 1) := by decide +kernel
theorem dX0_unitsInAll_17 : decode cX0_unitsInAll 17 = .ok (.iadd, 1) := by decide +kernel
theorem dX0_unitsInAll_18 : decode cX0_unitsInAll 18 = .ok (.istore_n 1, 1) := by decide +kernel
theorem dX0_unitsInAll_19 : decode cX0_unitsInAll 19 = .ok (.iinc 2 1, 3) := by decide +kernel
theorem dX0_unitsInAll_22 : decode cX0_unitsInAll 22 = .ok (.goto (-18), 3) := by decide +kernel
theorem dX0_unitsInAll_25 : decode cX0_unitsInAll 25 = .ok (.iload_n 1, 1) := by decide +kernel
theorem dX0_unitsInAll_26 : decode cX0_unitsInAll 26 = .ok (.ireturn, 1) := by decide +kernel
theorem dX0_beatByUnits_0 : decode cX0_beatByUnits 0 = .ok (.iconst 1, 1) := by decide +kernel
theorem dX0_beatByUnits_1 : decode cX0_beatByUnits 1 = .ok (.istore_n 1, 1) := by decide +kernel
theorem dX0_beatByUnits_2 : decode cX0_beatByUnits 2 = .ok (.iconst 0, 1) := by decide +kernel
theorem dX0_beatByUnits_3 : decode cX0_beatByUnits 3 = .ok (.istore_n 2, 1) := by decide +kernel
theorem dX0_beatByUnits_4 : decode cX0_beatByUnits 4 = .ok (.iload_n 2, 1) := by decide +kernel
theorem dX0_beatByUnits_5 : decode cX0_beatByUnits 5 = .ok (.bipush 6, 2) := by decide +kernel
theorem dX0_beatByUnits_7 : decode cX0_beatByUnits 7 = .ok (.if_icmp .ge 52, 3) := by decide +kernel
theorem dX0_beatByUnits_10 : decode cX0_beatByUnits 10 = .ok (.aload_n 0, 1) := by decide +kernel
theorem dX0_beatByUnits_11 : decode cX0_beatByUnits 11 = .ok (.iload_n 2, 1) := by decide +kernel
theorem dX0_beatByUnits_12 : decode cX0_beatByUnits 12 = .ok (.invokevirtual 70, 3) := by decide +kernel
theorem dX0_beatByUnits_15 : decode cX0_beatByUnits 15 = .ok (.istore_n 3, 1) := by decide +kernel
theorem dX0_beatByUnits_16 : decode cX0_beatByUnits 16 = .ok (.iload_n 3, 1) := by decide +kernel
theorem dX0_beatByUnits_17 : decode cX0_beatByUnits 17 = .ok (.ifCond .le 36, 3) := by decide +kernel
theorem dX0_beatByUnits_20 : decode cX0_beatByUnits 20 = .ok (.aload_n 0, 1) := by decide +kernel
theorem dX0_beatByUnits_21 : decode cX0_beatByUnits 21 = .ok (.getfield 44, 3) := by decide +kernel
theorem dX0_beatByUnits_24 : decode cX0_beatByUnits 24 = .ok (.iload_n 2, 1) := by decide +kernel
theorem dX0_beatByUnits_25 : decode cX0_beatByUnits 25 = .ok (.iaload, 1) := by decide +kernel
theorem dX0_beatByUnits_26 : decode cX0_beatByUnits 26 = .ok (.istore 4, 2) := by decide +kernel
theorem dX0_beatByUnits_28 : decode cX0_beatByUnits 28 = .ok (.iload_n 1, 1) := by decide +kernel
theorem dX0_beatByUnits_29 : decode cX0_beatByUnits 29 = .ok (.iload 4, 2) := by decide +kernel
theorem dX0_beatByUnits_31 : decode cX0_beatByUnits 31 = .ok (.iconst 1, 1) := by decide +kernel
theorem dX0_beatByUnits_32 : decode cX0_beatByUnits 32 = .ok (.if_icmp .ge 8, 3) := by decide +kernel
theorem dX0_beatByUnits_35 : decode cX0_beatByUnits 35 = .ok (.bipush 61, 2) := by decide +kernel
theorem dX0_beatByUnits_37 : decode cX0_beatByUnits 37 = .ok (.goto 12, 3) := by decide +kernel
theorem dX0_beatByUnits_40 : decode cX0_beatByUnits 40 = .ok (.iload_n 3, 1) := by decide +kernel
theorem dX0_beatByUnits_41 : decode cX0_beatByUnits 41 = .ok (.iload 4, 2) := by decide +kernel
theorem dX0_beatByUnits_43 : decode cX0_beatByUnits 43 = .ok (.iadd, 1) := by decide +kernel
theorem dX0_beatByUnits_44 : decode cX0_beatByUnits 44 = .ok (.iconst 1, 1) := by decide +kernel
theorem dX0_beatByUnits_45 : decode cX0_beatByUnits 45 = .ok (.isub, 1) := by decide +kernel
theorem dX0_beatByUnits_46 : decode cX0_beatByUnits 46 = .ok (.iload 4, 2) := by decide +kernel
theorem dX0_beatByUnits_48 : decode cX0_beatByUnits 48 = .ok (.idiv, 1) := by decide +kernel
theorem dX0_beatByUnits_49 : decode cX0_beatByUnits 49 = .ok (.invokestatic 74, 3) := by decide +kernel
theorem dX0_beatByUnits_52 : decode cX0_beatByUnits 52 = .ok (.istore_n 1, 1) := by decide +kernel
theorem dX0_beatByUnits_53 : decode cX0_beatByUnits 53 = .ok (.iinc 2 1, 3) := by decide +kernel
theorem dX0_beatByUnits_56 : decode cX0_beatByUnits 56 = .ok (.goto (-52), 3) := by decide +kernel
theorem dX0_beatByUnits_59 : decode cX0_beatByUnits 59 = .ok (.iload_n 1, 1) := by decide +kernel
theorem dX0_beatByUnits_60 : decode cX0_beatByUnits 60 = .ok (.ireturn, 1) := by decide +kernel
theorem dX0_bitsOf_0 : decode cX0_bitsOf 0 = .ok (.iconst 0, 1) := by decide +kernel
theorem dX0_bitsOf_1 : decode cX0_bitsOf 1 = .ok (.istore_n 2, 1) := by decide +kernel
theorem dX0_bitsOf_2 : decode cX0_bitsOf 2 = .ok (.iconst 0, 1) := by decide +kernel
theorem dX0_bitsOf_3 : decode cX0_bitsOf 3 = .ok (.istore_n 3, 1) := by decide +kernel
theorem dX0_bitsOf_4 : decode cX0_bitsOf 4 = .ok (.iload_n 3, 1) := by decide +kernel
theorem dX0_bitsOf_5 : decode cX0_bitsOf 5 = .ok (.aload_n 0, 1) := by decide +kernel
theorem dX0_bitsOf_6 : decode cX0_bitsOf 6 = .ok (.getfield 9, 3) := by decide +kernel
theorem dX0_bitsOf_9 : decode cX0_bitsOf 9 = .ok (.if_icmp .ge 31, 3) := by decide +kernel
theorem dX0_bitsOf_12 : decode cX0_bitsOf 12 = .ok (.aload_n 0, 1) := by decide +kernel
theorem dX0_bitsOf_13 : decode cX0_bitsOf 13 = .ok (.getfield 22, 3) := by decide +kernel
theorem dX0_bitsOf_16 : decode cX0_bitsOf 16 = .ok (.iload_n 3, 1) := by decide +kernel
theorem dX0_bitsOf_17 : decode cX0_bitsOf 17 = .ok (.iaload, 1) := by decide +kernel
theorem dX0_bitsOf_18 : decode cX0_bitsOf 18 = .ok (.iload_n 1, 1) := by decide +kernel
theorem dX0_bitsOf_19 : decode cX0_bitsOf 19 = .ok (.if_icmp .ne 15, 3) := by decide +kernel
theorem dX0_bitsOf_22 : decode cX0_bitsOf 22 = .ok (.iload_n 2, 1) := by decide +kernel
theorem dX0_bitsOf_23 : decode cX0_bitsOf 23 = .ok (.aload_n 0, 1) := by decide +kernel
theorem dX0_bitsOf_24 : decode cX0_bitsOf 24 = .ok (.getfield 25, 3) := by decide +kernel
theorem dX0_bitsOf_27 : decode cX0_bitsOf 27 = .ok (.iload_n 3, 1) := by decide +kernel
theorem dX0_bitsOf_28 : decode cX0_bitsOf 28 = .ok (.iaload, 1) := by decide +kernel
theorem dX0_bitsOf_29 : decode cX0_bitsOf 29 = .ok (.invokestatic 80, 3) := by decide +kernel
theorem dX0_bitsOf_32 : decode cX0_bitsOf 32 = .ok (.iadd, 1) := by decide +kernel
theorem dX0_bitsOf_33 : decode cX0_bitsOf 33 = .ok (.istore_n 2, 1) := by decide +kernel
theorem dX0_bitsOf_34 : decode cX0_bitsOf 34 = .ok (.iinc 3 1, 3) := by decide +kernel
theorem dX0_bitsOf_37 : decode cX0_bitsOf 37 = .ok (.goto (-33), 3) := by decide +kernel
theorem dX0_bitsOf_40 : decode cX0_bitsOf 40 = .ok (.iload_n 2, 1) := by decide +kernel
theorem dX0_bitsOf_41 : decode cX0_bitsOf 41 = .ok (.ireturn, 1) := by decide +kernel
theorem dX0_touchesRows_0 : decode cX0_touchesRows 0 = .ok (.aload_n 0, 1) := by decide +kernel
theorem dX0_touchesRows_1 : decode cX0_touchesRows 1 = .ok (.getfield 15, 3) := by decide +kernel
theorem dX0_touchesRows_4 : decode cX0_touchesRows 4 = .ok (.iload_n 1, 1) := by decide +kernel
theorem dX0_touchesRows_5 : decode cX0_touchesRows 5 = .ok (.iaload, 1) := by decide +kernel
theorem dX0_touchesRows_6 : decode cX0_touchesRows 6 = .ok (.iconst 4, 1) := by decide +kernel
theorem dX0_touchesRows_7 : decode cX0_touchesRows 7 = .ok (.if_icmp .eq 13, 3) := by decide +kernel
theorem dX0_touchesRows_10 : decode cX0_touchesRows 10 = .ok (.aload_n 0, 1) := by decide +kernel
theorem dX0_touchesRows_11 : decode cX0_touchesRows 11 = .ok (.getfield 15, 3) := by decide +kernel
theorem dX0_touchesRows_14 : decode cX0_touchesRows 14 = .ok (.iload_n 1, 1) := by decide +kernel
theorem dX0_touchesRows_15 : decode cX0_touchesRows 15 = .ok (.iaload, 1) := by decide +kernel
theorem dX0_touchesRows_16 : decode cX0_touchesRows 16 = .ok (.iconst 5, 1) := by decide +kernel
theorem dX0_touchesRows_17 : decode cX0_touchesRows 17 = .ok (.if_icmp .ne 7, 3) := by decide +kernel
theorem dX0_touchesRows_20 : decode cX0_touchesRows 20 = .ok (.iconst 1, 1) := by decide +kernel
theorem dX0_touchesRows_21 : decode cX0_touchesRows 21 = .ok (.goto 4, 3) := by decide +kernel
theorem dX0_touchesRows_24 : decode cX0_touchesRows 24 = .ok (.iconst 0, 1) := by decide +kernel
theorem dX0_touchesRows_25 : decode cX0_touchesRows 25 = .ok (.ireturn, 1) := by decide +kernel
theorem dX0_mayBeRefused_0 : decode cX0_mayBeRefused 0 = .ok (.aload_n 0, 1) := by decide +kernel
theorem dX0_mayBeRefused_1 : decode cX0_mayBeRefused 1 = .ok (.getfield 15, 3) := by decide +kernel
theorem dX0_mayBeRefused_4 : decode cX0_mayBeRefused 4 = .ok (.iload_n 1, 1) := by decide +kernel
theorem dX0_mayBeRefused_5 : decode cX0_mayBeRefused 5 = .ok (.iaload, 1) := by decide +kernel
theorem dX0_mayBeRefused_6 : decode cX0_mayBeRefused 6 = .ok (.iconst 3, 1) := by decide +kernel
theorem dX0_mayBeRefused_7 : decode cX0_mayBeRefused 7 = .ok (.if_icmp .eq 11, 3) := by decide +kernel
theorem dX0_mayBeRefused_10 : decode cX0_mayBeRefused 10 = .ok (.aload_n 0, 1) := by decide +kernel
theorem dX0_mayBeRefused_11 : decode cX0_mayBeRefused 11 = .ok (.iload_n 1, 1) := by decide +kernel
theorem dX0_mayBeRefused_12 : decode cX0_mayBeRefused 12 = .ok (.invokevirtual 85, 3) := by decide +kernel
theorem dX0_mayBeRefused_15 : decode cX0_mayBeRefused 15 = .ok (.ifCond .eq 7, 3) := by decide +kernel
theorem dX0_mayBeRefused_18 : decode cX0_mayBeRefused 18 = .ok (.iconst 1, 1) := by decide +kernel
theorem dX0_mayBeRefused_19 : decode cX0_mayBeRefused 19 = .ok (.goto 4, 3) := by decide +kernel
theorem dX0_mayBeRefused_22 : decode cX0_mayBeRefused 22 = .ok (.iconst 0, 1) := by decide +kernel
theorem dX0_mayBeRefused_23 : decode cX0_mayBeRefused 23 = .ok (.ireturn, 1) := by decide +kernel
theorem dX0_clash_0 : decode cX0_clash 0 = .ok (.aload_n 0, 1) := by decide +kernel
theorem dX0_clash_1 : decode cX0_clash 1 = .ok (.iload_n 1, 1) := by decide +kernel
theorem dX0_clash_2 : decode cX0_clash 2 = .ok (.invokevirtual 85, 3) := by decide +kernel
theorem dX0_clash_5 : decode cX0_clash 5 = .ok (.ifCond .eq 50, 3) := by decide +kernel
theorem dX0_clash_8 : decode cX0_clash 8 = .ok (.aload_n 0, 1) := by decide +kernel
theorem dX0_clash_9 : decode cX0_clash 9 = .ok (.iload_n 2, 1) := by decide +kernel
theorem dX0_clash_10 : decode cX0_clash 10 = .ok (.invokevirtual 85, 3) := by decide +kernel
theorem dX0_clash_13 : decode cX0_clash 13 = .ok (.ifCond .eq 42, 3) := by decide +kernel
theorem dX0_clash_16 : decode cX0_clash 16 = .ok (.aload_n 0, 1) := by decide +kernel
theorem dX0_clash_17 : decode cX0_clash 17 = .ok (.getfield 28, 3) := by decide +kernel
theorem dX0_clash_20 : decode cX0_clash 20 = .ok (.iload_n 1, 1) := by decide +kernel
theorem dX0_clash_21 : decode cX0_clash 21 = .ok (.iaload, 1) := by decide +kernel
theorem dX0_clash_22 : decode cX0_clash 22 = .ok (.aload_n 0, 1) := by decide +kernel
theorem dX0_clash_23 : decode cX0_clash 23 = .ok (.getfield 28, 3) := by decide +kernel
theorem dX0_clash_26 : decode cX0_clash 26 = .ok (.iload_n 2, 1) := by decide +kernel
theorem dX0_clash_27 : decode cX0_clash 27 = .ok (.iaload, 1) := by decide +kernel
theorem dX0_clash_28 : decode cX0_clash 28 = .ok (.if_icmp .ne 27, 3) := by decide +kernel
theorem dX0_clash_31 : decode cX0_clash 31 = .ok (.aload_n 0, 1) := by decide +kernel
theorem dX0_clash_32 : decode cX0_clash 32 = .ok (.getfield 15, 3) := by decide +kernel
theorem dX0_clash_35 : decode cX0_clash 35 = .ok (.iload_n 1, 1) := by decide +kernel
theorem dX0_clash_36 : decode cX0_clash 36 = .ok (.iaload, 1) := by decide +kernel
theorem dX0_clash_37 : decode cX0_clash 37 = .ok (.iconst 5, 1) := by decide +kernel
theorem dX0_clash_38 : decode cX0_clash 38 = .ok (.if_icmp .eq 13, 3) := by decide +kernel
theorem dX0_clash_41 : decode cX0_clash 41 = .ok (.aload_n 0, 1) := by decide +kernel
theorem dX0_clash_42 : decode cX0_clash 42 = .ok (.getfield 15, 3) := by decide +kernel
theorem dX0_clash_45 : decode cX0_clash 45 = .ok (.iload_n 2, 1) := by decide +kernel
theorem dX0_clash_46 : decode cX0_clash 46 = .ok (.iaload, 1) := by decide +kernel
theorem dX0_clash_47 : decode cX0_clash 47 = .ok (.iconst 5, 1) := by decide +kernel
theorem dX0_clash_48 : decode cX0_clash 48 = .ok (.if_icmp .ne 7, 3) := by decide +kernel
theorem dX0_clash_51 : decode cX0_clash 51 = .ok (.iconst 1, 1) := by decide +kernel
theorem dX0_clash_52 : decode cX0_clash 52 = .ok (.goto 4, 3) := by decide +kernel
theorem dX0_clash_55 : decode cX0_clash 55 = .ok (.iconst 0, 1) := by decide +kernel
theorem dX0_clash_56 : decode cX0_clash 56 = .ok (.ireturn, 1) := by decide +kernel
theorem dX1_init_0 : decode cX1_init 0 = .ok (.aload_n 0, 1) := by decide +kernel
theorem dX1_init_1 : decode cX1_init 1 = .ok (.invokespecial 1, 3) := by decide +kernel
theorem dX1_init_4 : decode cX1_init 4 = .ok (.aload_n 0, 1) := by decide +kernel
theorem dX1_init_5 : decode cX1_init 5 = .ok (.iconst 0, 1) := by decide +kernel
theorem dX1_init_6 : decode cX1_init 6 = .ok (.putfield 7, 3) := by decide +kernel
theorem dX1_init_9 : decode cX1_init 9 = .ok (.iconst 0, 1) := by decide +kernel
theorem dX1_init_10 : decode cX1_init 10 = .ok (.iload_n 1, 1) := by decide +kernel
theorem dX1_init_11 : decode cX1_init 11 = .ok (.invokestatic 13, 3) := by decide +kernel
theorem dX1_init_14 : decode cX1_init 14 = .ok (.istore_n 2, 1) := by decide +kernel
theorem dX1_init_15 : decode cX1_init 15 = .ok (.aload_n 0, 1) := by decide +kernel
theorem dX1_init_16 : decode cX1_init 16 = .ok (.iload_n 2, 1) := by decide +kernel
theorem dX1_init_17 : decode cX1_init 17 = .ok (.newarray .int, 2) := by decide +kernel
theorem dX1_init_19 : decode cX1_init 19 = .ok (.putfield 19, 3) := by decide +kernel
theorem dX1_init_22 : decode cX1_init 22 = .ok (.aload_n 0, 1) := by decide +kernel
theorem dX1_init_23 : decode cX1_init 23 = .ok (.iload_n 2, 1) := by decide +kernel
theorem dX1_init_24 : decode cX1_init 24 = .ok (.newarray .int, 2) := by decide +kernel
theorem dX1_init_26 : decode cX1_init 26 = .ok (.putfield 23, 3) := by decide +kernel
theorem dX1_init_29 : decode cX1_init 29 = .ok (.aload_n 0, 1) := by decide +kernel
theorem dX1_init_30 : decode cX1_init 30 = .ok (.iload_n 2, 1) := by decide +kernel
theorem dX1_init_31 : decode cX1_init 31 = .ok (.newarray .int, 2) := by decide +kernel
theorem dX1_init_33 : decode cX1_init 33 = .ok (.putfield 26, 3) := by decide +kernel
theorem dX1_init_36 : decode cX1_init 36 = .ok (.aload_n 0, 1) := by decide +kernel
theorem dX1_init_37 : decode cX1_init 37 = .ok (.iload_n 2, 1) := by decide +kernel
theorem dX1_init_38 : decode cX1_init 38 = .ok (.newarray .int, 2) := by decide +kernel
theorem dX1_init_40 : decode cX1_init 40 = .ok (.putfield 29, 3) := by decide +kernel
theorem dX1_init_43 : decode cX1_init 43 = .ok (.return_, 1) := by decide +kernel
theorem dX1_join_0 : decode cX1_join 0 = .ok (.aload_n 0, 1) := by decide +kernel
theorem dX1_join_1 : decode cX1_join 1 = .ok (.getfield 7, 3) := by decide +kernel
theorem dX1_join_4 : decode cX1_join 4 = .ok (.aload_n 0, 1) := by decide +kernel
theorem dX1_join_5 : decode cX1_join 5 = .ok (.getfield 19, 3) := by decide +kernel
theorem dX1_join_8 : decode cX1_join 8 = .ok (.arraylength, 1) := by decide +kernel
theorem dX1_join_9 : decode cX1_join 9 = .ok (.if_icmp .lt 5, 3) := by decide +kernel
theorem dX1_join_12 : decode cX1_join 12 = .ok (.iconst 0, 1) := by decide +kernel
theorem dX1_join_13 : decode cX1_join 13 = .ok (.ireturn, 1) := by decide +kernel
theorem dX1_join_14 : decode cX1_join 14 = .ok (.aload_n 0, 1) := by decide +kernel
theorem dX1_join_15 : decode cX1_join 15 = .ok (.aload_n 0, 1) := by decide +kernel
theorem dX1_join_16 : decode cX1_join 16 = .ok (.getfield 7, 3) := by decide +kernel
theorem dX1_join_19 : decode cX1_join 19 = .ok (.iload_n 1, 1) := by decide +kernel
theorem dX1_join_20 : decode cX1_join 20 = .ok (.iload_n 2, 1) := by decide +kernel
theorem dX1_join_21 : decode cX1_join 21 = .ok (.iload_n 3, 1) := by decide +kernel
theorem dX1_join_22 : decode cX1_join 22 = .ok (.iload 4, 2) := by decide +kernel
theorem dX1_join_24 : decode cX1_join 24 = .ok (.invokevirtual 32, 3) := by decide +kernel
theorem dX1_join_27 : decode cX1_join 27 = .ok (.aload_n 0, 1) := by decide +kernel
theorem dX1_join_28 : decode cX1_join 28 = .ok (.dup, 1) := by decide +kernel
theorem dX1_join_29 : decode cX1_join 29 = .ok (.getfield 7, 3) := by decide +kernel
theorem dX1_join_32 : decode cX1_join 32 = .ok (.iconst 1, 1) := by decide +kernel
theorem dX1_join_33 : decode cX1_join 33 = .ok (.iadd, 1) := by decide +kernel
theorem dX1_join_34 : decode cX1_join 34 = .ok (.putfield 7, 3) := by decide +kernel
theorem dX1_join_37 : decode cX1_join 37 = .ok (.iconst 1, 1) := by decide +kernel
theorem dX1_join_38 : decode cX1_join 38 = .ok (.ireturn, 1) := by decide +kernel
theorem dX1_write_0 : decode cX1_write 0 = .ok (.aload_n 0, 1) := by decide +kernel
theorem dX1_write_1 : decode cX1_write 1 = .ok (.getfield 19, 3) := by decide +kernel
theorem dX1_write_4 : decode cX1_write 4 = .ok (.iload_n 1, 1) := by decide +kernel
theorem dX1_write_5 : decode cX1_write 5 = .ok (.iload_n 2, 1) := by decide +kernel
theorem dX1_write_6 : decode cX1_write 6 = .ok (.iastore, 1) := by decide +kernel
theorem dX1_write_7 : decode cX1_write 7 = .ok (.aload_n 0, 1) := by decide +kernel
theorem dX1_write_8 : decode cX1_write 8 = .ok (.getfield 23, 3) := by decide +kernel
theorem dX1_write_11 : decode cX1_write 11 = .ok (.iload_n 1, 1) := by decide +kernel
theorem dX1_write_12 : decode cX1_write 12 = .ok (.iload_n 3, 1) := by decide +kernel
theorem dX1_write_13 : decode cX1_write 13 = .ok (.iastore, 1) := by decide +kernel
theorem dX1_write_14 : decode cX1_write 14 = .ok (.aload_n 0, 1) := by decide +kernel
theorem dX1_write_15 : decode cX1_write 15 = .ok (.getfield 26, 3) := by decide +kernel
theorem dX1_write_18 : decode cX1_write 18 = .ok (.iload_n 1, 1) := by decide +kernel
theorem dX1_write_19 : decode cX1_write 19 = .ok (.iload 4, 2) := by decide +kernel
theorem dX1_write_21 : decode cX1_write 21 = .ok (.iastore, 1) := by decide +kernel
theorem dX1_write_22 : decode cX1_write 22 = .ok (.aload_n 0, 1) := by decide +kernel
theorem dX1_write_23 : decode cX1_write 23 = .ok (.getfield 29, 3) := by decide +kernel
theorem dX1_write_26 : decode cX1_write 26 = .ok (.iload_n 1, 1) := by decide +kernel
theorem dX1_write_27 : decode cX1_write 27 = .ok (.iload 5, 2) := by decide +kernel
theorem dX1_write_29 : decode cX1_write 29 = .ok (.iastore, 1) := by decide +kernel
theorem dX1_write_30 : decode cX1_write 30 = .ok (.return_, 1) := by decide +kernel
theorem dX1_joinAll_0 : decode cX1_joinAll 0 = .ok (.iconst 0, 1) := by decide +kernel
theorem dX1_joinAll_1 : decode cX1_joinAll 1 = .ok (.istore_n 2, 1) := by decide +kernel
theorem dX1_joinAll_2 : decode cX1_joinAll 2 = .ok (.iload_n 2, 1) := by decide +kernel
theorem dX1_joinAll_3 : decode cX1_joinAll 3 = .ok (.aload_n 1, 1) := by decide +kernel
theorem dX1_joinAll_4 : decode cX1_joinAll 4 = .ok (.getfield 7, 3) := by decide +kernel
theorem dX1_joinAll_7 : decode cX1_joinAll 7 = .ok (.if_icmp .ge 38, 3) := by decide +kernel
theorem dX1_joinAll_10 : decode cX1_joinAll 10 = .ok (.aload_n 0, 1) := by decide +kernel
theorem dX1_joinAll_11 : decode cX1_joinAll 11 = .ok (.aload_n 1, 1) := by decide +kernel
theorem dX1_joinAll_12 : decode cX1_joinAll 12 = .ok (.getfield 19, 3) := by decide +kernel
theorem dX1_joinAll_15 : decode cX1_joinAll 15 = .ok (.iload_n 2, 1) := by decide +kernel
theorem dX1_joinAll_16 : decode cX1_joinAll 16 = .ok (.iaload, 1) := by decide +kernel
theorem dX1_joinAll_17 : decode cX1_joinAll 17 = .ok (.aload_n 1, 1) := by decide +kernel
theorem dX1_joinAll_18 : decode cX1_joinAll 18 = .ok (.getfield 23, 3) := by decide +kernel
theorem dX1_joinAll_21 : decode cX1_joinAll 21 = .ok (.iload_n 2, 1) := by decide +kernel
theorem dX1_joinAll_22 : decode cX1_joinAll 22 = .ok (.iaload, 1) := by decide +kernel
theorem dX1_joinAll_23 : decode cX1_joinAll 23 = .ok (.aload_n 1, 1) := by decide +kernel
theorem dX1_joinAll_24 : decode cX1_joinAll 24 = .ok (.getfield 26, 3) := by decide +kernel
theorem dX1_joinAll_27 : decode cX1_joinAll 27 = .ok (.iload_n 2, 1) := by decide +kernel
theorem dX1_joinAll_28 : decode cX1_joinAll 28 = .ok (.iaload, 1) := by decide +kernel
theorem dX1_joinAll_29 : decode cX1_joinAll 29 = .ok (.aload_n 1, 1) := by decide +kernel
theorem dX1_joinAll_30 : decode cX1_joinAll 30 = .ok (.getfield 29, 3) := by decide +kernel
theorem dX1_joinAll_33 : decode cX1_joinAll 33 = .ok (.iload_n 2, 1) := by decide +kernel
theorem dX1_joinAll_34 : decode cX1_joinAll 34 = .ok (.iaload, 1) := by decide +kernel
theorem dX1_joinAll_35 : decode cX1_joinAll 35 = .ok (.invokevirtual 36, 3) := by decide +kernel
theorem dX1_joinAll_38 : decode cX1_joinAll 38 = .ok (.pop, 1) := by decide +kernel
theorem dX1_joinAll_39 : decode cX1_joinAll 39 = .ok (.iinc 2 1, 3) := by decide +kernel
theorem dX1_joinAll_42 : decode cX1_joinAll 42 = .ok (.goto (-40), 3) := by decide +kernel
theorem dX1_joinAll_45 : decode cX1_joinAll 45 = .ok (.return_, 1) := by decide +kernel
theorem dX1_dropAct_0 : decode cX1_dropAct 0 = .ok (.iconst 0, 1) := by decide +kernel
theorem dX1_dropAct_1 : decode cX1_dropAct 1 = .ok (.istore_n 2, 1) := by decide +kernel
theorem dX1_dropAct_2 : decode cX1_dropAct 2 = .ok (.iconst 0, 1) := by decide +kernel
theorem dX1_dropAct_3 : decode cX1_dropAct 3 = .ok (.istore_n 3, 1) := by decide +kernel
theorem dX1_dropAct_4 : decode cX1_dropAct 4 = .ok (.iload_n 3, 1) := by decide +kernel
theorem dX1_dropAct_5 : decode cX1_dropAct 5 = .ok (.aload_n 0, 1) := by decide +kernel
theorem dX1_dropAct_6 : decode cX1_dropAct 6 = .ok (.getfield 7, 3) := by decide +kernel
theorem dX1_dropAct_9 : decode cX1_dropAct 9 = .ok (.if_icmp .ge 61, 3) := by decide +kernel
theorem dX1_dropAct_12 : decode cX1_dropAct 12 = .ok (.aload_n 0, 1) := by decide +kernel
theorem dX1_dropAct_13 : decode cX1_dropAct 13 = .ok (.getfield 19, 3) := by decide +kernel
theorem dX1_dropAct_16 : decode cX1_dropAct 16 = .ok (.iload_n 3, 1) := by decide +kernel
theorem dX1_dropAct_17 : decode cX1_dropAct 17 = .ok (.iaload, 1) := by decide +kernel
theorem dX1_dropAct_18 : decode cX1_dropAct 18 = .ok (.iload_n 1, 1) := by decide +kernel
theorem dX1_dropAct_19 : decode cX1_dropAct 19 = .ok (.if_icmp .eq 45, 3) := by decide +kernel
theorem dX1_dropAct_22 : decode cX1_dropAct 22 = .ok (.aload_n 0, 1) := by decide +kernel
theorem dX1_dropAct_23 : decode cX1_dropAct 23 = .ok (.getfield 23, 3) := by decide +kernel
theorem dX1_dropAct_26 : decode cX1_dropAct 26 = .ok (.iload_n 3, 1) := by decide +kernel
theorem dX1_dropAct_27 : decode cX1_dropAct 27 = .ok (.iaload, 1) := by decide +kernel
theorem dX1_dropAct_28 : decode cX1_dropAct 28 = .ok (.iload_n 1, 1) := by decide +kernel
theorem dX1_dropAct_29 : decode cX1_dropAct 29 = .ok (.if_icmp .eq 35, 3) := by decide +kernel
theorem dX1_dropAct_32 : decode cX1_dropAct 32 = .ok (.aload_n 0, 1) := by decide +kernel
theorem dX1_dropAct_33 : decode cX1_dropAct 33 = .ok (.iload_n 2, 1) := by decide +kernel
theorem dX1_dropAct_34 : decode cX1_dropAct 34 = .ok (.aload_n 0, 1) := by decide +kernel
theorem dX1_dropAct_35 : decode cX1_dropAct 35 = .ok (.getfield 19, 3) := by decide +kernel
theorem dX1_dropAct_38 : decode cX1_dropAct 38 = .ok (.iload_n 3, 1) := by decide +kernel
theorem dX1_dropAct_39 : decode cX1_dropAct 39 = .ok (.iaload, 1) := by decide +kernel
theorem dX1_dropAct_40 : decode cX1_dropAct 40 = .ok (.aload_n 0, 1) := by decide +kernel
theorem dX1_dropAct_41 : decode cX1_dropAct 41 = .ok (.getfield 23, 3) := by decide +kernel
theorem dX1_dropAct_44 : decode cX1_dropAct 44 = .ok (.iload_n 3, 1) := by decide +kernel
theorem dX1_dropAct_45 : decode cX1_dropAct 45 = .ok (.iaload, 1) := by decide +kernel
theorem dX1_dropAct_46 : decode cX1_dropAct 46 = .ok (.aload_n 0, 1) := by decide +kernel
theorem dX1_dropAct_47 : decode cX1_dropAct 47 = .ok (.getfield 26, 3) := by decide +kernel
theorem dX1_dropAct_50 : decode cX1_dropAct 50 = .ok (.iload_n 3, 1) := by decide +kernel
theorem dX1_dropAct_51 : decode cX1_dropAct 51 = .ok (.iaload, 1) := by decide +kernel
theorem dX1_dropAct_52 : decode cX1_dropAct 52 = .ok (.aload_n 0, 1) := by decide +kernel
theorem dX1_dropAct_53 : decode cX1_dropAct 53 = .ok (.getfield 29, 3) := by decide +kernel
theorem dX1_dropAct_56 : decode cX1_dropAct 56 = .ok (.iload_n 3, 1) := by decide +kernel
theorem dX1_dropAct_57 : decode cX1_dropAct 57 = .ok (.iaload, 1) := by decide +kernel
theorem dX1_dropAct_58 : decode cX1_dropAct 58 = .ok (.invokevirtual 32, 3) := by decide +kernel
theorem dX1_dropAct_61 : decode cX1_dropAct 61 = .ok (.iinc 2 1, 3) := by decide +kernel
theorem dX1_dropAct_64 : decode cX1_dropAct 64 = .ok (.iinc 3 1, 3) := by decide +kernel
theorem dX1_dropAct_67 : decode cX1_dropAct 67 = .ok (.goto (-63), 3) := by decide +kernel
theorem dX1_dropAct_70 : decode cX1_dropAct 70 = .ok (.aload_n 0, 1) := by decide +kernel
theorem dX1_dropAct_71 : decode cX1_dropAct 71 = .ok (.iload_n 2, 1) := by decide +kernel
theorem dX1_dropAct_72 : decode cX1_dropAct 72 = .ok (.putfield 7, 3) := by decide +kernel
theorem dX1_dropAct_75 : decode cX1_dropAct 75 = .ok (.return_, 1) := by decide +kernel
theorem dX1_isAhead_0 : decode cX1_isAhead 0 = .ok (.aload_n 0, 1) := by decide +kernel
theorem dX1_isAhead_1 : decode cX1_isAhead 1 = .ok (.getfield 23, 3) := by decide +kernel
theorem dX1_isAhead_4 : decode cX1_isAhead 4 = .ok (.iload_n 1, 1) := by decide +kernel
theorem dX1_isAhead_5 : decode cX1_isAhead 5 = .ok (.iaload, 1) := by decide +kernel
theorem dX1_isAhead_6 : decode cX1_isAhead 6 = .ok (.aload_n 0, 1) := by decide +kernel
theorem dX1_isAhead_7 : decode cX1_isAhead 7 = .ok (.getfield 23, 3) := by decide +kernel
theorem dX1_isAhead_10 : decode cX1_isAhead 10 = .ok (.iload_n 2, 1) := by decide +kernel
theorem dX1_isAhead_11 : decode cX1_isAhead 11 = .ok (.iaload, 1) := by decide +kernel
theorem dX1_isAhead_12 : decode cX1_isAhead 12 = .ok (.if_icmp .eq 24, 3) := by decide +kernel
theorem dX1_isAhead_15 : decode cX1_isAhead 15 = .ok (.aload_n 0, 1) := by decide +kernel
theorem dX1_isAhead_16 : decode cX1_isAhead 16 = .ok (.getfield 23, 3) := by decide +kernel
theorem dX1_isAhead_19 : decode cX1_isAhead 19 = .ok (.iload_n 1, 1) := by decide +kernel
theorem dX1_isAhead_20 : decode cX1_isAhead 20 = .ok (.iaload, 1) := by decide +kernel
theorem dX1_isAhead_21 : decode cX1_isAhead 21 = .ok (.aload_n 0, 1) := by decide +kernel
theorem dX1_isAhead_22 : decode cX1_isAhead 22 = .ok (.getfield 23, 3) := by decide +kernel
theorem dX1_isAhead_25 : decode cX1_isAhead 25 = .ok (.iload_n 2, 1) := by decide +kernel
theorem dX1_isAhead_26 : decode cX1_isAhead 26 = .ok (.iaload, 1) := by decide +kernel
theorem dX1_isAhead_27 : decode cX1_isAhead 27 = .ok (.if_icmp .ge 7, 3) := by decide +kernel
theorem dX1_isAhead_30 : decode cX1_isAhead 30 = .ok (.iconst 1, 1) := by decide +kernel
theorem dX1_isAhead_31 : decode cX1_isAhead 31 = .ok (.goto 4, 3) := by decide +kernel
theorem dX1_isAhead_34 : decode cX1_isAhead 34 = .ok (.iconst 0, 1) := by decide +kernel
theorem dX1_isAhead_35 : decode cX1_isAhead 35 = .ok (.ireturn, 1) := by decide +kernel
theorem dX1_isAhead_36 : decode cX1_isAhead 36 = .ok (.aload_n 0, 1) := by decide +kernel
theorem dX1_isAhead_37 : decode cX1_isAhead 37 = .ok (.getfield 19, 3) := by decide +kernel
theorem dX1_isAhead_40 : decode cX1_isAhead 40 = .ok (.iload_n 1, 1) := by decide +kernel
theorem dX1_isAhead_41 : decode cX1_isAhead 41 = .ok (.iaload, 1) := by decide +kernel
theorem dX1_isAhead_42 : decode cX1_isAhead 42 = .ok (.aload_n 0, 1) := by decide +kernel
theorem dX1_isAhead_43 : decode cX1_isAhead 43 = .ok (.getfield 19, 3) := by decide +kernel
theorem dX1_isAhead_46 : decode cX1_isAhead 46 = .ok (.iload_n 2, 1) := by decide +kernel
theorem dX1_isAhead_47 : decode cX1_isAhead 47 = .ok (.iaload, 1) := by decide +kernel
theorem dX1_isAhead_48 : decode cX1_isAhead 48 = .ok (.if_icmp .eq 24, 3) := by decide +kernel
theorem dX1_isAhead_51 : decode cX1_isAhead 51 = .ok (.aload_n 0, 1) := by decide +kernel
theorem dX1_isAhead_52 : decode cX1_isAhead 52 = .ok (.getfield 19, 3) := by decide +kernel
theorem dX1_isAhead_55 : decode cX1_isAhead 55 = .ok (.iload_n 1, 1) := by decide +kernel
theorem dX1_isAhead_56 : decode cX1_isAhead 56 = .ok (.iaload, 1) := by decide +kernel
theorem dX1_isAhead_57 : decode cX1_isAhead 57 = .ok (.aload_n 0, 1) := by decide +kernel
theorem dX1_isAhead_58 : decode cX1_isAhead 58 = .ok (.getfield 19, 3) := by decide +kernel
theorem dX1_isAhead_61 : decode cX1_isAhead 61 = .ok (.iload_n 2, 1) := by decide +kernel
theorem dX1_isAhead_62 : decode cX1_isAhead 62 = .ok (.iaload, 1) := by decide +kernel
theorem dX1_isAhead_63 : decode cX1_isAhead 63 = .ok (.if_icmp .ge 7, 3) := by decide +kernel
theorem dX1_isAhead_66 : decode cX1_isAhead 66 = .ok (.iconst 1, 1) := by decide +kernel
theorem dX1_isAhead_67 : decode cX1_isAhead 67 = .ok (.goto 4, 3) := by decide +kernel
theorem dX1_isAhead_70 : decode cX1_isAhead 70 = .ok (.iconst 0, 1) := by decide +kernel
theorem dX1_isAhead_71 : decode cX1_isAhead 71 = .ok (.ireturn, 1) := by decide +kernel
theorem dX1_isAhead_72 : decode cX1_isAhead 72 = .ok (.aload_n 0, 1) := by decide +kernel
theorem dX1_isAhead_73 : decode cX1_isAhead 73 = .ok (.getfield 26, 3) := by decide +kernel
theorem dX1_isAhead_76 : decode cX1_isAhead 76 = .ok (.iload_n 1, 1) := by decide +kernel
theorem dX1_isAhead_77 : decode cX1_isAhead 77 = .ok (.iaload, 1) := by decide +kernel
theorem dX1_isAhead_78 : decode cX1_isAhead 78 = .ok (.aload_n 0, 1) := by decide +kernel
theorem dX1_isAhead_79 : decode cX1_isAhead 79 = .ok (.getfield 26, 3) := by decide +kernel
theorem dX1_isAhead_82 : decode cX1_isAhead 82 = .ok (.iload_n 2, 1) := by decide +kernel
theorem dX1_isAhead_83 : decode cX1_isAhead 83 = .ok (.iaload, 1) := by decide +kernel
theorem dX1_isAhead_84 : decode cX1_isAhead 84 = .ok (.if_icmp .eq 24, 3) := by decide +kernel
theorem dX1_isAhead_87 : decode cX1_isAhead 87 = .ok (.aload_n 0, 1) := by decide +kernel
theorem dX1_isAhead_88 : decode cX1_isAhead 88 = .ok (.getfield 26, 3) := by decide +kernel
theorem dX1_isAhead_91 : decode cX1_isAhead 91 = .ok (.iload_n 1, 1) := by decide +kernel
theorem dX1_isAhead_92 : decode cX1_isAhead 92 = .ok (.iaload, 1) := by decide +kernel
theorem dX1_isAhead_93 : decode cX1_isAhead 93 = .ok (.aload_n 0, 1) := by decide +kernel
theorem dX1_isAhead_94 : decode cX1_isAhead 94 = .ok (.getfield 26, 3) := by decide +kernel
theorem dX1_isAhead_97 : decode cX1_isAhead 97 = .ok (.iload_n 2, 1) := by decide +kernel
theorem dX1_isAhead_98 : decode cX1_isAhead 98 = .ok (.iaload, 1) := by decide +kernel
theorem dX1_isAhead_99 : decode cX1_isAhead 99 = .ok (.if_icmp .ge 7, 3) := by decide +kernel
theorem dX1_isAhead_102 : decode cX1_isAhead 102 = .ok (.iconst 1, 1) := by decide +kernel
theorem dX1_isAhead_103 : decode cX1_isAhead 103 = .ok (.goto 4, 3) := by decide +kernel
theorem dX1_isAhead_106 : decode cX1_isAhead 106 = .ok (.iconst 0, 1) := by decide +kernel
theorem dX1_isAhead_107 : decode cX1_isAhead 107 = .ok (.ireturn, 1) := by decide +kernel
theorem dX1_isAhead_108 : decode cX1_isAhead 108 = .ok (.aload_n 0, 1) := by decide +kernel
theorem dX1_isAhead_109 : decode cX1_isAhead 109 = .ok (.getfield 29, 3) := by decide +kernel
theorem dX1_isAhead_112 : decode cX1_isAhead 112 = .ok (.iload_n 1, 1) := by decide +kernel
theorem dX1_isAhead_113 : decode cX1_isAhead 113 = .ok (.iaload, 1) := by decide +kernel
theorem dX1_isAhead_114 : decode cX1_isAhead 114 = .ok (.aload_n 0, 1) := by decide +kernel
theorem dX1_isAhead_115 : decode cX1_isAhead 115 = .ok (.getfield 29, 3) := by decide +kernel
theorem dX1_isAhead_118 : decode cX1_isAhead 118 = .ok (.iload_n 2, 1) := by decide +kernel
theorem dX1_isAhead_119 : decode cX1_isAhead 119 = .ok (.iaload, 1) := by decide +kernel
theorem dX1_isAhead_120 : decode cX1_isAhead 120 = .ok (.if_icmp .ge 7, 3) := by decide +kernel
theorem dX1_isAhead_123 : decode cX1_isAhead 123 = .ok (.iconst 1, 1) := by decide +kernel
theorem dX1_isAhead_124 : decode cX1_isAhead 124 = .ok (.goto 4, 3) := by decide +kernel
theorem dX1_isAhead_127 : decode cX1_isAhead 127 = .ok (.iconst 0, 1) := by decide +kernel
theorem dX1_isAhead_128 : decode cX1_isAhead 128 = .ok (.ireturn, 1) := by decide +kernel
theorem dX2_init_0 : decode cX2_init 0 = .ok (.aload_n 0, 1) := by decide +kernel
theorem dX2_init_1 : decode cX2_init 1 = .ok (.invokespecial 3, 3) := by decide +kernel
theorem dX2_init_4 : decode cX2_init 4 = .ok (.aload_n 0, 1) := by decide +kernel
theorem dX2_init_5 : decode cX2_init 5 = .ok (.sipush 360, 3) := by decide +kernel
theorem dX2_init_8 : decode cX2_init 8 = .ok (.newarray .int, 2) := by decide +kernel
theorem dX2_init_10 : decode cX2_init 10 = .ok (.putfield 9, 3) := by decide +kernel
theorem dX2_init_13 : decode cX2_init 13 = .ok (.return_, 1) := by decide +kernel
theorem dX2_clear_0 : decode cX2_clear 0 = .ok (.aload_n 0, 1) := by decide +kernel
theorem dX2_clear_1 : decode cX2_clear 1 = .ok (.getfield 9, 3) := by decide +kernel
theorem dX2_clear_4 : decode cX2_clear 4 = .ok (.iconst 0, 1) := by decide +kernel
theorem dX2_clear_5 : decode cX2_clear 5 = .ok (.invokestatic 15, 3) := by decide +kernel
theorem dX2_clear_8 : decode cX2_clear 8 = .ok (.return_, 1) := by decide +kernel
theorem dX2_at_0 : decode cX2_at 0 = .ok (.aload_n 0, 1) := by decide +kernel
theorem dX2_at_1 : decode cX2_at 1 = .ok (.getfield 9, 3) := by decide +kernel
theorem dX2_at_4 : decode cX2_at 4 = .ok (.iload_n 1, 1) := by decide +kernel
theorem dX2_at_5 : decode cX2_at 5 = .ok (.bipush 60, 2) := by decide +kernel
theorem dX2_at_7 : decode cX2_at 7 = .ok (.imul, 1) := by decide +kernel
theorem dX2_at_8 : decode cX2_at 8 = .ok (.iload_n 2, 1) := by decide +kernel
theorem dX2_at_9 : decode cX2_at 9 = .ok (.iadd, 1) := by decide +kernel
theorem dX2_at_10 : decode cX2_at 10 = .ok (.iaload, 1) := by decide +kernel
theorem dX2_at_11 : decode cX2_at 11 = .ok (.ireturn, 1) := by decide +kernel
theorem dX2_change_0 : decode cX2_change 0 = .ok (.iconst 0, 1) := by decide +kernel
theorem dX2_change_1 : decode cX2_change 1 = .ok (.istore 6, 2) := by decide +kernel
theorem dX2_change_3 : decode cX2_change 3 = .ok (.iload 4, 2) := by decide +kernel
theorem dX2_change_5 : decode cX2_change 5 = .ok (.iconst 1, 1) := by decide +kernel
theorem dX2_change_6 : decode cX2_change 6 = .ok (.if_icmp .ge 6, 3) := by decide +kernel
theorem dX2_change_9 : decode cX2_change 9 = .ok (.iload 6, 2) := by decide +kernel
theorem dX2_change_11 : decode cX2_change 11 = .ok (.ireturn, 1) := by decide +kernel
theorem dX2_change_12 : decode cX2_change 12 = .ok (.aload_n 1, 1) := by decide +kernel
theorem dX2_change_13 : decode cX2_change 13 = .ok (.getfield 21, 3) := by decide +kernel
theorem dX2_change_16 : decode cX2_change 16 = .ok (.iload_n 2, 1) := by decide +kernel
theorem dX2_change_17 : decode cX2_change 17 = .ok (.iaload, 1) := by decide +kernel
theorem dX2_change_18 : decode cX2_change 18 = .ok (.istore 7, 2) := by decide +kernel
theorem dX2_change_20 : decode cX2_change 20 = .ok (.aload_n 1, 1) := by decide +kernel
theorem dX2_change_21 : decode cX2_change 21 = .ok (.getfield 26, 3) := by decide +kernel
theorem dX2_change_24 : decode cX2_change 24 = .ok (.iload_n 2, 1) := by decide +kernel
theorem dX2_change_25 : decode cX2_change 25 = .ok (.iaload, 1) := by decide +kernel
theorem dX2_change_26 : decode cX2_change 26 = .ok (.bipush 60, 2) := by decide +kernel
theorem dX2_change_28 : decode cX2_change 28 = .ok (.imul, 1) := by decide +kernel
theorem dX2_change_29 : decode cX2_change 29 = .ok (.istore 8, 2) := by decide +kernel
theorem dX2_change_31 : decode cX2_change 31 = .ok (.iconst 0, 1) := by decide +kernel
theorem dX2_change_32 : decode cX2_change 32 = .ok (.istore 9, 2) := by decide +kernel
theorem dX2_change_34 : decode cX2_change 34 = .ok (.iload 9, 2) := by decide +kernel
theorem dX2_change_36 : decode cX2_change 36 = .ok (.bipush 8, 2) := by decide +kernel
theorem dX2_change_38 : decode cX2_change 38 = .ok (.if_icmp .ge 57, 3) := by decide +kernel
theorem dX2_change_41 : decode cX2_change 41 = .ok (.iload 7, 2) := by decide +kernel
theorem dX2_change_43 : decode cX2_change 43 = .ok (.iload 9, 2) := by decide +kernel
theorem dX2_change_45 : decode cX2_change 45 = .ok (.ishr, 1) := by decide +kernel
theorem dX2_change_46 : decode cX2_change 46 = .ok (.iconst 1, 1) := by decide +kernel
theorem dX2_change_47 : decode cX2_change 47 = .ok (.iand, 1) := by decide +kernel
theorem dX2_change_48 : decode cX2_change 48 = .ok (.ifCond .eq 41, 3) := by decide +kernel
theorem dX2_change_51 : decode cX2_change 51 = .ok (.iload 8, 2) := by decide +kernel
theorem dX2_change_53 : decode cX2_change 53 = .ok (.iload_n 3, 1) := by decide +kernel
theorem dX2_change_54 : decode cX2_change 54 = .ok (.iload 9, 2) := by decide +kernel
theorem dX2_change_56 : decode cX2_change 56 = .ok (.iadd, 1) := by decide +kernel
theorem dX2_change_57 : decode cX2_change 57 = .ok (.iload 4, 2) := by decide +kernel
theorem dX2_change_59 : decode cX2_change 59 = .ok (.irem, 1) := by decide +kernel
theorem dX2_change_60 : decode cX2_change 60 = .ok (.iadd, 1) := by decide +kernel
theorem dX2_change_61 : decode cX2_change 61 = .ok (.istore 10, 2) := by decide +kernel
theorem dX2_change_63 : decode cX2_change 63 = .ok (.aload_n 0, 1) := by decide +kernel
theorem dX2_change_64 : decode cX2_change 64 = .ok (.getfield 9, 3) := by decide +kernel
theorem dX2_change_67 : decode cX2_change 67 = .ok (.iload 10, 2) := by decide +kernel
theorem dX2_change_69 : decode cX2_change 69 = .ok (.dup2, 1) := by decide +kernel
theorem dX2_change_70 : decode cX2_change 70 = .ok (.iaload, 1) := by decide +kernel
theorem dX2_change_71 : decode cX2_change 71 = .ok (.iload 5, 2) := by decide +kernel
theorem dX2_change_73 : decode cX2_change 73 = .ok (.iadd, 1) := by decide +kernel
theorem dX2_change_74 : decode cX2_change 74 = .ok (.iastore, 1) := by decide +kernel
theorem dX2_change_75 : decode cX2_change 75 = .ok (.iload 6, 2) := by decide +kernel
theorem dX2_change_77 : decode cX2_change 77 = .ok (.aload_n 0, 1) := by decide +kernel
theorem dX2_change_78 : decode cX2_change 78 = .ok (.getfield 9, 3) := by decide +kernel
theorem dX2_change_81 : decode cX2_change 81 = .ok (.iload 10, 2) := by decide +kernel
theorem dX2_change_83 : decode cX2_change 83 = .ok (.iaload, 1) := by decide +kernel
theorem dX2_change_84 : decode cX2_change 84 = .ok (.invokestatic 29, 3) := by decide +kernel
theorem dX2_change_87 : decode cX2_change 87 = .ok (.istore 6, 2) := by decide +kernel
theorem dX2_change_89 : decode cX2_change 89 = .ok (.iinc 9 1, 3) := by decide +kernel
theorem dX2_change_92 : decode cX2_change 92 = .ok (.goto (-58), 3) := by decide +kernel
theorem dX2_change_95 : decode cX2_change 95 = .ok (.iload 6, 2) := by decide +kernel
theorem dX2_change_97 : decode cX2_change 97 = .ok (.ireturn, 1) := by decide +kernel
theorem dX2_firstCrowded_0 : decode cX2_firstCrowded 0 = .ok (.iconst 0, 1) := by decide +kernel
theorem dX2_firstCrowded_1 : decode cX2_firstCrowded 1 = .ok (.istore 4, 2) := by decide +kernel
theorem dX2_firstCrowded_3 : decode cX2_firstCrowded 3 = .ok (.iload 4, 2) := by decide +kernel
theorem dX2_firstCrowded_5 : decode cX2_firstCrowded 5 = .ok (.iload_n 3, 1) := by decide +kernel
theorem dX2_firstCrowded_6 : decode cX2_firstCrowded 6 = .ok (.if_icmp .ge 28, 3) := by decide +kernel
theorem dX2_firstCrowded_9 : decode cX2_firstCrowded 9 = .ok (.aload_n 0, 1) := by decide +kernel
theorem dX2_firstCrowded_10 : decode cX2_firstCrowded 10 = .ok (.getfield 9, 3) := by decide +kernel
theorem dX2_firstCrowded_13 : decode cX2_firstCrowded 13 = .ok (.iload_n 1, 1) := by decide +kernel
theorem dX2_firstCrowded_14 : decode cX2_firstCrowded 14 = .ok (.bipush 60, 2) := by decide +kernel
theorem dX2_firstCrowded_16 : decode cX2_firstCrowded 16 = .ok (.imul, 1) := by decide +kernel
theorem dX2_firstCrowded_17 : decode cX2_firstCrowded 17 = .ok (.iload 4, 2) := by decide +kernel
theorem dX2_firstCrowded_19 : decode cX2_firstCrowded 19 = .ok (.iadd, 1) := by decide +kernel
theorem dX2_firstCrowded_20 : decode cX2_firstCrowded 20 = .ok (.iaload, 1) := by decide +kernel
theorem dX2_firstCrowded_21 : decode cX2_firstCrowded 21 = .ok (.iload_n 2, 1) := by decide +kernel
theorem dX2_firstCrowded_22 : decode cX2_firstCrowded 22 = .ok (.if_icmp .le 6, 3) := by decide +kernel
theorem dX2_firstCrowded_25 : decode cX2_firstCrowded 25 = .ok (.iload 4, 2) := by decide +kernel
theorem dX2_firstCrowded_27 : decode cX2_firstCrowded 27 = .ok (.ireturn, 1) := by decide +kernel
theorem dX2_firstCrowded_28 : decode cX2_firstCrowded 28 = .ok (.iinc 4 1, 3) := by decide +kernel
theorem dX2_firstCrowded_31 : decode cX2_firstCrowded 31 = .ok (.goto (-28), 3) := by decide +kernel
theorem dX2_firstCrowded_34 : decode cX2_firstCrowded 34 = .ok (.iconst (-1), 1) := by decide +kernel
theorem dX2_firstCrowded_35 : decode cX2_firstCrowded 35 = .ok (.ireturn, 1) := by decide +kernel
theorem dX3_init_0 : decode cX3_init 0 = .ok (.aload_n 0, 1) := by decide +kernel
theorem dX3_init_1 : decode cX3_init 1 = .ok (.invokespecial 3, 3) := by decide +kernel
theorem dX3_init_4 : decode cX3_init 4 = .ok (.aload_n 0, 1) := by decide +kernel
theorem dX3_init_5 : decode cX3_init 5 = .ok (.bipush 6, 2) := by decide +kernel
theorem dX3_init_7 : decode cX3_init 7 = .ok (.newarray .int, 2) := by decide +kernel
theorem dX3_init_9 : decode cX3_init 9 = .ok (.putfield 11, 3) := by decide +kernel
theorem dX3_init_12 : decode cX3_init 12 = .ok (.aload_n 0, 1) := by decide +kernel
theorem dX3_init_13 : decode cX3_init 13 = .ok (.new 15, 3) := by decide +kernel
theorem dX3_init_16 : decode cX3_init 16 = .ok (.dup, 1) := by decide +kernel
theorem dX3_init_17 : decode cX3_init 17 = .ok (.invokespecial 17, 3) := by decide +kernel
theorem dX3_init_20 : decode cX3_init 20 = .ok (.putfield 18, 3) := by decide +kernel
theorem dX3_init_23 : decode cX3_init 23 = .ok (.aload_n 0, 1) := by decide +kernel
theorem dX3_init_24 : decode cX3_init 24 = .ok (.getfield 11, 3) := by decide +kernel
theorem dX3_init_27 : decode cX3_init 27 = .ok (.iconst (-1), 1) := by decide +kernel
theorem dX3_init_28 : decode cX3_init 28 = .ok (.invokestatic 22, 3) := by decide +kernel
theorem dX3_init_31 : decode cX3_init 31 = .ok (.return_, 1) := by decide +kernel
theorem dX3_look_0 : decode cX3_look 0 = .ok (.aload_n 0, 1) := by decide +kernel
theorem dX3_look_1 : decode cX3_look 1 = .ok (.getfield 11, 3) := by decide +kernel
theorem dX3_look_4 : decode cX3_look 4 = .ok (.iconst (-1), 1) := by decide +kernel
theorem dX3_look_5 : decode cX3_look 5 = .ok (.invokestatic 22, 3) := by decide +kernel
theorem dX3_look_8 : decode cX3_look 8 = .ok (.aload_n 0, 1) := by decide +kernel
theorem dX3_look_9 : decode cX3_look 9 = .ok (.aload_n 2, 1) := by decide +kernel
theorem dX3_look_10 : decode cX3_look 10 = .ok (.aload_n 3, 1) := by decide +kernel
theorem dX3_look_11 : decode cX3_look 11 = .ok (.invokevirtual 28, 3) := by decide +kernel
theorem dX3_look_14 : decode cX3_look 14 = .ok (.istore 4, 2) := by decide +kernel
theorem dX3_look_16 : decode cX3_look 16 = .ok (.iload 4, 2) := by decide +kernel
theorem dX3_look_18 : decode cX3_look 18 = .ok (.iconst (-1), 1) := by decide +kernel
theorem dX3_look_19 : decode cX3_look 19 = .ok (.if_icmp .eq 57, 3) := by decide +kernel
theorem dX3_look_22 : decode cX3_look 22 = .ok (.aload_n 0, 1) := by decide +kernel
theorem dX3_look_23 : decode cX3_look 23 = .ok (.getfield 11, 3) := by decide +kernel
theorem dX3_look_26 : decode cX3_look 26 = .ok (.iconst 0, 1) := by decide +kernel
theorem dX3_look_27 : decode cX3_look 27 = .ok (.aload_n 2, 1) := by decide +kernel
theorem dX3_look_28 : decode cX3_look 28 = .ok (.getfield 32, 3) := by decide +kernel
theorem dX3_look_31 : decode cX3_look 31 = .ok (.iload 4, 2) := by decide +kernel
theorem dX3_look_33 : decode cX3_look 33 = .ok (.iaload, 1) := by decide +kernel
theorem dX3_look_34 : decode cX3_look 34 = .ok (.iastore, 1) := by decide +kernel
theorem dX3_look_35 : decode cX3_look 35 = .ok (.aload_n 0, 1) := by decide +kernel
theorem dX3_look_36 : decode cX3_look 36 = .ok (.getfield 11, 3) := by decide +kernel
theorem dX3_look_39 : decode cX3_look 39 = .ok (.iconst 1, 1) := by decide +kernel
theorem dX3_look_40 : decode cX3_look 40 = .ok (.aload_n 2, 1) := by decide +kernel
theorem dX3_look_41 : decode cX3_look 41 = .ok (.getfield 37, 3) := by decide +kernel
theorem dX3_look_44 : decode cX3_look 44 = .ok (.iload 4, 2) := by decide +kernel
theorem dX3_look_46 : decode cX3_look 46 = .ok (.iaload, 1) := by decide +kernel
theorem dX3_look_47 : decode cX3_look 47 = .ok (.iastore, 1) := by decide +kernel
theorem dX3_look_48 : decode cX3_look 48 = .ok (.aload_n 0, 1) := by decide +kernel
theorem dX3_look_49 : decode cX3_look 49 = .ok (.getfield 11, 3) := by decide +kernel
theorem dX3_look_52 : decode cX3_look 52 = .ok (.iconst 2, 1) := by decide +kernel
theorem dX3_look_53 : decode cX3_look 53 = .ok (.aload_n 2, 1) := by decide +kernel
theorem dX3_look_54 : decode cX3_look 54 = .ok (.getfield 40, 3) := by decide +kernel
theorem dX3_look_57 : decode cX3_look 57 = .ok (.iload 4, 2) := by decide +kernel
theorem dX3_look_59 : decode cX3_look 59 = .ok (.iaload, 1) := by decide +kernel
theorem dX3_look_60 : decode cX3_look 60 = .ok (.iastore, 1) := by decide +kernel
theorem dX3_look_61 : decode cX3_look 61 = .ok (.aload_n 0, 1) := by decide +kernel
theorem dX3_look_62 : decode cX3_look 62 = .ok (.getfield 11, 3) := by decide +kernel
theorem dX3_look_65 : decode cX3_look 65 = .ok (.iconst 3, 1) := by decide +kernel
theorem dX3_look_66 : decode cX3_look 66 = .ok (.aload_n 2, 1) := by decide +kernel
theorem dX3_look_67 : decode cX3_look 67 = .ok (.getfield 43, 3) := by decide +kernel
theorem dX3_look_70 : decode cX3_look 70 = .ok (.iload 4, 2) := by decide +kernel
theorem dX3_look_72 : decode cX3_look 72 = .ok (.iaload, 1) := by decide +kernel
theorem dX3_look_73 : decode cX3_look 73 = .ok (.iastore, 1) := by decide +kernel
theorem dX3_look_74 : decode cX3_look 74 = .ok (.iconst 1, 1) := by decide +kernel
theorem dX3_look_75 : decode cX3_look 75 = .ok (.ireturn, 1) := by decide +kernel
theorem dX3_look_76 : decode cX3_look 76 = .ok (.aload_n 0, 1) := by decide +kernel
theorem dX3_look_77 : decode cX3_look 77 = .ok (.aload_n 1, 1) := by decide +kernel
theorem dX3_look_78 : decode cX3_look 78 = .ok (.aload_n 3, 1) := by decide +kernel
theorem dX3_look_79 : decode cX3_look 79 = .ok (.invokevirtual 46, 3) := by decide +kernel
theorem dX3_look_82 : decode cX3_look 82 = .ok (.ifCond .eq 7, 3) := by decide +kernel
theorem dX3_look_85 : decode cX3_look 85 = .ok (.iconst 2, 1) := by decide +kernel
theorem dX3_look_86 : decode cX3_look 86 = .ok (.goto 4, 3) := by decide +kernel
theorem dX3_look_89 : decode cX3_look 89 = .ok (.iconst 0, 1) := by decide +kernel
theorem dX3_look_90 : decode cX3_look 90 = .ok (.ireturn, 1) := by decide +kernel
theorem dX3_firstBroken_0 : decode cX3_firstBroken 0 = .ok (.iconst (-1), 1) := by decide +kernel
theorem dX3_firstBroken_1 : decode cX3_firstBroken 1 = .ok (.istore_n 3, 1) := by decide +kernel
theorem dX3_firstBroken_2 : decode cX3_firstBroken 2 = .ok (.iconst 0, 1) := by decide +kernel
theorem dX3_firstBroken_3 : decode cX3_firstBroken 3 = .ok (.istore 4, 2) := by decide +kernel
theorem dX3_firstBroken_5 : decode cX3_firstBroken 5 = .ok (.iload 4, 2) := by decide +kernel
theorem dX3_firstBroken_7 : decode cX3_firstBroken 7 = .ok (.aload_n 1, 1) := by decide +kernel
theorem dX3_firstBroken_8 : decode cX3_firstBroken 8 = .ok (.getfield 50, 3) := by decide +kernel
theorem dX3_firstBroken_11 : decode cX3_firstBroken 11 = .ok (.if_icmp .ge 91, 3) := by decide +kernel
theorem dX3_firstBroken_14 : decode cX3_firstBroken 14 = .ok (.aload_n 2, 1) := by decide +kernel
theorem dX3_firstBroken_15 : decode cX3_firstBroken 15 = .ok (.getfield 54, 3) := by decide +kernel
theorem dX3_firstBroken_18 : decode cX3_firstBroken 18 = .ok (.aload_n 1, 1) := by decide +kernel
theorem dX3_firstBroken_19 : decode cX3_firstBroken 19 = .ok (.getfield 37, 3) := by decide +kernel
theorem dX3_firstBroken_22 : decode cX3_firstBroken 22 = .ok (.iload 4, 2) := by decide +kernel
theorem dX3_firstBroken_24 : decode cX3_firstBroken 24 = .ok (.iaload, 1) := by decide +kernel
theorem dX3_firstBroken_25 : decode cX3_firstBroken 25 = .ok (.iaload, 1) := by decide +kernel
theorem dX3_firstBroken_26 : decode cX3_firstBroken 26 = .ok (.aload_n 2, 1) := by decide +kernel
theorem dX3_firstBroken_27 : decode cX3_firstBroken 27 = .ok (.getfield 54, 3) := by decide +kernel
theorem dX3_firstBroken_30 : decode cX3_firstBroken 30 = .ok (.aload_n 1, 1) := by decide +kernel
theorem dX3_firstBroken_31 : decode cX3_firstBroken 31 = .ok (.getfield 32, 3) := by decide +kernel
theorem dX3_firstBroken_34 : decode cX3_firstBroken 34 = .ok (.iload 4, 2) := by decide +kernel
theorem dX3_firstBroken_36 : decode cX3_firstBroken 36 = .ok (.iaload, 1) := by decide +kernel
theorem dX3_firstBroken_37 : decode cX3_firstBroken 37 = .ok (.iaload, 1) := by decide +kernel
theorem dX3_firstBroken_38 : decode cX3_firstBroken 38 = .ok (.isub, 1) := by decide +kernel
theorem dX3_firstBroken_39 : decode cX3_firstBroken 39 = .ok (.istore 5, 2) := by decide +kernel
theorem dX3_firstBroken_41 : decode cX3_firstBroken 41 = .ok (.iload 5, 2) := by decide +kernel
theorem dX3_firstBroken_43 : decode cX3_firstBroken 43 = .ok (.aload_n 2, 1) := by decide +kernel
theorem dX3_firstBroken_44 : decode cX3_firstBroken 44 = .ok (.getfield 59, 3) := by decide +kernel
theorem dX3_firstBroken_47 : decode cX3_firstBroken 47 = .ok (.aload_n 1, 1) := by decide +kernel
theorem dX3_firstBroken_48 : decode cX3_firstBroken 48 = .ok (.getfield 43, 3) := by decide +kernel
theorem dX3_firstBroken_51 : decode cX3_firstBroken 51 = .ok (.iload 4, 2) := by decide +kernel
theorem dX3_firstBroken_53 : decode cX3_firstBroken 53 = .ok (.iaload, 1) := by decide +kernel
theorem dX3_firstBroken_54 : decode cX3_firstBroken 54 = .ok (.imul, 1) := by decide +kernel
theorem dX3_firstBroken_55 : decode cX3_firstBroken 55 = .ok (.iadd, 1) := by decide +kernel
theorem dX3_firstBroken_56 : decode cX3_firstBroken 56 = .ok (.aload_n 1, 1) := by decide +kernel
theorem dX3_firstBroken_57 : decode cX3_firstBroken 57 = .ok (.getfield 40, 3) := by decide +kernel
theorem dX3_firstBroken_60 : decode cX3_firstBroken 60 = .ok (.iload 4, 2) := by decide +kernel
theorem dX3_firstBroken_62 : decode cX3_firstBroken 62 = .ok (.iaload, 1) := by decide +kernel
theorem dX3_firstBroken_63 : decode cX3_firstBroken 63 = .ok (.if_icmp .lt 7, 3) := by decide +kernel
theorem dX3_firstBroken_66 : decode cX3_firstBroken 66 = .ok (.iconst 1, 1) := by decide +kernel
theorem dX3_firstBroken_67 : decode cX3_firstBroken 67 = .ok (.goto 4, 3) := by decide +kernel
theorem dX3_firstBroken_70 : decode cX3_firstBroken 70 = .ok (.iconst 0, 1) := by decide +kernel
theorem dX3_firstBroken_71 : decode cX3_firstBroken 71 = .ok (.istore 6, 2) := by decide +kernel
theorem dX3_firstBroken_73 : decode cX3_firstBroken 73 = .ok (.iload 6, 2) := by decide +kernel
theorem dX3_firstBroken_75 : decode cX3_firstBroken 75 = .ok (.ifCond .ne 21, 3) := by decide +kernel
theorem dX3_firstBroken_78 : decode cX3_firstBroken 78 = .ok (.iload_n 3, 1) := by decide +kernel
theorem dX3_firstBroken_79 : decode cX3_firstBroken 79 = .ok (.iconst (-1), 1) := by decide +kernel
theorem dX3_firstBroken_80 : decode cX3_firstBroken 80 = .ok (.if_icmp .eq 13, 3) := by decide +kernel
theorem dX3_firstBroken_83 : decode cX3_firstBroken 83 = .ok (.aload_n 1, 1) := by decide +kernel
theorem dX3_firstBroken_84 : decode cX3_firstBroken 84 = .ok (.iload 4, 2) := by decide +kernel
theorem dX3_firstBroken_86 : decode cX3_firstBroken 86 = .ok (.iload_n 3, 1) := by decide +kernel
theorem dX3_firstBroken_87 : decode cX3_firstBroken 87 = .ok (.invokevirtual 62, 3) := by decide +kernel
theorem dX3_firstBroken_90 : decode cX3_firstBroken 90 = .ok (.ifCond .eq 6, 3) := by decide +kernel
theorem dX3_firstBroken_93 : decode cX3_firstBroken 93 = .ok (.iload 4, 2) := by decide +kernel
theorem dX3_firstBroken_95 : decode cX3_firstBroken 95 = .ok (.istore_n 3, 1) := by decide +kernel
theorem dX3_firstBroken_96 : decode cX3_firstBroken 96 = .ok (.iinc 4 1, 3) := by decide +kernel
theorem dX3_firstBroken_99 : decode cX3_firstBroken 99 = .ok (.goto (-94), 3) := by decide +kernel
theorem dX3_firstBroken_102 : decode cX3_firstBroken 102 = .ok (.iload_n 3, 1) := by decide +kernel
theorem dX3_firstBroken_103 : decode cX3_firstBroken 103 = .ok (.ireturn, 1) := by decide +kernel
theorem dX3_findCrowd_0 : decode cX3_findCrowd 0 = .ok (.aload_n 0, 1) := by decide +kernel
theorem dX3_findCrowd_1 : decode cX3_findCrowd 1 = .ok (.getfield 18, 3) := by decide +kernel
theorem dX3_findCrowd_4 : decode cX3_findCrowd 4 = .ok (.invokevirtual 66, 3) := by decide +kernel
theorem dX3_findCrowd_7 : decode cX3_findCrowd 7 = .ok (.iconst 0, 1) := by decide +kernel
theorem dX3_findCrowd_8 : decode cX3_findCrowd 8 = .ok (.istore_n 3, 1) := by decide +kernel
theorem dX3_findCrowd_9 : decode cX3_findCrowd 9 = .ok (.iload_n 3, 1) := by decide +kernel
theorem dX3_findCrowd_10 : decode cX3_findCrowd 10 = .ok (.aload_n 1, 1) := by decide +kernel
theorem dX3_findCrowd_11 : decode cX3_findCrowd 11 = .ok (.getfield 69, 3) := by decide +kernel
theorem dX3_findCrowd_14 : decode cX3_findCrowd 14 = .ok (.if_icmp .ge 30, 3) := by decide +kernel
theorem dX3_findCrowd_17 : decode cX3_findCrowd 17 = .ok (.aload_n 0, 1) := by decide +kernel
theorem dX3_findCrowd_18 : decode cX3_findCrowd 18 = .ok (.getfield 18, 3) := by decide +kernel
theorem dX3_findCrowd_21 : decode cX3_findCrowd 21 = .ok (.aload_n 1, 1) := by decide +kernel
theorem dX3_findCrowd_22 : decode cX3_findCrowd 22 = .ok (.iload_n 3, 1) := by decide +kernel
theorem dX3_findCrowd_23 : decode cX3_findCrowd 23 = .ok (.aload_n 2, 1) := by decide +kernel
theorem dX3_findCrowd_24 : decode cX3_findCrowd 24 = .ok (.getfield 54, 3) := by decide +kernel
theorem dX3_findCrowd_27 : decode cX3_findCrowd 27 = .ok (.iload_n 3, 1) := by decide +kernel
theorem dX3_findCrowd_28 : decode cX3_findCrowd 28 = .ok (.iaload, 1) := by decide +kernel
theorem dX3_findCrowd_29 : decode cX3_findCrowd 29 = .ok (.aload_n 2, 1) := by decide +kernel
theorem dX3_findCrowd_30 : decode cX3_findCrowd 30 = .ok (.getfield 59, 3) := by decide +kernel
theorem dX3_findCrowd_33 : decode cX3_findCrowd 33 = .ok (.iconst 1, 1) := by decide +kernel
theorem dX3_findCrowd_34 : decode cX3_findCrowd 34 = .ok (.invokevirtual 74, 3) := by decide +kernel
theorem dX3_findCrowd_37 : decode cX3_findCrowd 37 = .ok (.pop, 1) := by decide +kernel
theorem dX3_findCrowd_38 : decode cX3_findCrowd 38 = .ok (.iinc 3 1, 3) := by decide +kernel
theorem dX3_findCrowd_41 : decode cX3_findCrowd 41 = .ok (.goto (-32), 3) := by decide +kernel
theorem dX3_findCrowd_44 : decode cX3_findCrowd 44 = .ok (.iconst 0, 1) := by decide +kernel
theorem dX3_findCrowd_45 : decode cX3_findCrowd 45 = .ok (.istore_n 3, 1) := by decide +kernel
theorem dX3_findCrowd_46 : decode cX3_findCrowd 46 = .ok (.iload_n 3, 1) := by decide +kernel
theorem dX3_findCrowd_47 : decode cX3_findCrowd 47 = .ok (.bipush 6, 2) := by decide +kernel
theorem dX3_findCrowd_49 : decode cX3_findCrowd 49 = .ok (.if_icmp .ge 52, 3) := by decide +kernel
theorem dX3_findCrowd_52 : decode cX3_findCrowd 52 = .ok (.aload_n 0, 1) := by decide +kernel
theorem dX3_findCrowd_53 : decode cX3_findCrowd 53 = .ok (.getfield 18, 3) := by decide +kernel
theorem dX3_findCrowd_56 : decode cX3_findCrowd 56 = .ok (.iload_n 3, 1) := by decide +kernel
theorem dX3_findCrowd_57 : decode cX3_findCrowd 57 = .ok (.aload_n 1, 1) := by decide +kernel
theorem dX3_findCrowd_58 : decode cX3_findCrowd 58 = .ok (.getfield 78, 3) := by decide +kernel
theorem dX3_findCrowd_61 : decode cX3_findCrowd 61 = .ok (.iload_n 3, 1) := by decide +kernel
theorem dX3_findCrowd_62 : decode cX3_findCrowd 62 = .ok (.iaload, 1) := by decide +kernel
theorem dX3_findCrowd_63 : decode cX3_findCrowd 63 = .ok (.aload_n 2, 1) := by decide +kernel
theorem dX3_findCrowd_64 : decode cX3_findCrowd 64 = .ok (.getfield 59, 3) := by decide +kernel
theorem dX3_findCrowd_67 : decode cX3_findCrowd 67 = .ok (.invokevirtual 81, 3) := by decide +kernel
theorem dX3_findCrowd_70 : decode cX3_findCrowd 70 = .ok (.istore 4, 2) := by decide +kernel
theorem dX3_findCrowd_72 : decode cX3_findCrowd 72 = .ok (.iload 4, 2) := by decide +kernel
theorem dX3_findCrowd_74 : decode cX3_findCrowd 74 = .ok (.iconst (-1), 1) := by decide +kernel
theorem dX3_findCrowd_75 : decode cX3_findCrowd 75 = .ok (.if_icmp .eq 20, 3) := by decide +kernel
theorem dX3_findCrowd_78 : decode cX3_findCrowd 78 = .ok (.aload_n 0, 1) := by decide +kernel
theorem dX3_findCrowd_79 : decode cX3_findCrowd 79 = .ok (.getfield 11, 3) := by decide +kernel
theorem dX3_findCrowd_82 : decode cX3_findCrowd 82 = .ok (.iconst 4, 1) := by decide +kernel
theorem dX3_findCrowd_83 : decode cX3_findCrowd 83 = .ok (.iload_n 3, 1) := by decide +kernel
theorem dX3_findCrowd_84 : decode cX3_findCrowd 84 = .ok (.iastore, 1) := by decide +kernel
theorem dX3_findCrowd_85 : decode cX3_findCrowd 85 = .ok (.aload_n 0, 1) := by decide +kernel
theorem dX3_findCrowd_86 : decode cX3_findCrowd 86 = .ok (.getfield 11, 3) := by decide +kernel
theorem dX3_findCrowd_89 : decode cX3_findCrowd 89 = .ok (.iconst 5, 1) := by decide +kernel
theorem dX3_findCrowd_90 : decode cX3_findCrowd 90 = .ok (.iload 4, 2) := by decide +kernel
theorem dX3_findCrowd_92 : decode cX3_findCrowd 92 = .ok (.iastore, 1) := by decide +kernel
theorem dX3_findCrowd_93 : decode cX3_findCrowd 93 = .ok (.iconst 1, 1) := by decide +kernel
theorem dX3_findCrowd_94 : decode cX3_findCrowd 94 = .ok (.ireturn, 1) := by decide +kernel
theorem dX3_findCrowd_95 : decode cX3_findCrowd 95 = .ok (.iinc 3 1, 3) := by decide +kernel
theorem dX3_findCrowd_98 : decode cX3_findCrowd 98 = .ok (.goto (-52), 3) := by decide +kernel
theorem dX3_findCrowd_101 : decode cX3_findCrowd 101 = .ok (.iconst 0, 1) := by decide +kernel
theorem dX3_findCrowd_102 : decode cX3_findCrowd 102 = .ok (.ireturn, 1) := by decide +kernel
theorem dX4_init_0 : decode cX4_init 0 = .ok (.aload_n 0, 1) := by decide +kernel
theorem dX4_init_1 : decode cX4_init 1 = .ok (.invokespecial 3, 3) := by decide +kernel
theorem dX4_init_4 : decode cX4_init 4 = .ok (.aload_n 0, 1) := by decide +kernel
theorem dX4_init_5 : decode cX4_init 5 = .ok (.iconst 0, 1) := by decide +kernel
theorem dX4_init_6 : decode cX4_init 6 = .ok (.putfield 9, 3) := by decide +kernel
theorem dX4_init_9 : decode cX4_init 9 = .ok (.aload_n 0, 1) := by decide +kernel
theorem dX4_init_10 : decode cX4_init 10 = .ok (.iconst 1, 1) := by decide +kernel
theorem dX4_init_11 : decode cX4_init 11 = .ok (.putfield 15, 3) := by decide +kernel
theorem dX4_init_14 : decode cX4_init 14 = .ok (.aload_n 0, 1) := by decide +kernel
theorem dX4_init_15 : decode cX4_init 15 = .ok (.iconst 1, 1) := by decide +kernel
theorem dX4_init_16 : decode cX4_init 16 = .ok (.putfield 19, 3) := by decide +kernel
theorem dX4_init_19 : decode cX4_init 19 = .ok (.aload_n 0, 1) := by decide +kernel
theorem dX4_init_20 : decode cX4_init 20 = .ok (.bipush 16, 2) := by decide +kernel
theorem dX4_init_22 : decode cX4_init 22 = .ok (.newarray .int, 2) := by decide +kernel
theorem dX4_init_24 : decode cX4_init 24 = .ok (.putfield 22, 3) := by decide +kernel
theorem dX4_init_27 : decode cX4_init 27 = .ok (.aload_n 0, 1) := by decide +kernel
theorem dX4_init_28 : decode cX4_init 28 = .ok (.bipush 16, 2) := by decide +kernel
theorem dX4_init_30 : decode cX4_init 30 = .ok (.newarray .int, 2) := by decide +kernel
theorem dX4_init_32 : decode cX4_init 32 = .ok (.putfield 26, 3) := by decide +kernel
theorem dX4_init_35 : decode cX4_init 35 = .ok (.aload_n 0, 1) := by decide +kernel
theorem dX4_init_36 : decode cX4_init 36 = .ok (.bipush 16, 2) := by decide +kernel
theorem dX4_init_38 : decode cX4_init 38 = .ok (.newarray .int, 2) := by decide +kernel
theorem dX4_init_40 : decode cX4_init 40 = .ok (.putfield 29, 3) := by decide +kernel
theorem dX4_init_43 : decode cX4_init 43 = .ok (.aload_n 0, 1) := by decide +kernel
theorem dX4_init_44 : decode cX4_init 44 = .ok (.bipush 16, 2) := by decide +kernel
theorem dX4_init_46 : decode cX4_init 46 = .ok (.newarray .int, 2) := by decide +kernel
theorem dX4_init_48 : decode cX4_init 48 = .ok (.putfield 32, 3) := by decide +kernel
theorem dX4_init_51 : decode cX4_init 51 = .ok (.aload_n 0, 1) := by decide +kernel
theorem dX4_init_52 : decode cX4_init 52 = .ok (.bipush 16, 2) := by decide +kernel
theorem dX4_init_54 : decode cX4_init 54 = .ok (.newarray .int, 2) := by decide +kernel
theorem dX4_init_56 : decode cX4_init 56 = .ok (.putfield 35, 3) := by decide +kernel
theorem dX4_init_59 : decode cX4_init 59 = .ok (.aload_n 0, 1) := by decide +kernel
theorem dX4_init_60 : decode cX4_init 60 = .ok (.bipush 16, 2) := by decide +kernel
theorem dX4_init_62 : decode cX4_init 62 = .ok (.newarray .int, 2) := by decide +kernel
theorem dX4_init_64 : decode cX4_init 64 = .ok (.putfield 38, 3) := by decide +kernel
theorem dX4_init_67 : decode cX4_init 67 = .ok (.aload_n 0, 1) := by decide +kernel
theorem dX4_init_68 : decode cX4_init 68 = .ok (.bipush 16, 2) := by decide +kernel
theorem dX4_init_70 : decode cX4_init 70 = .ok (.newarray .int, 2) := by decide +kernel
theorem dX4_init_72 : decode cX4_init 72 = .ok (.putfield 41, 3) := by decide +kernel
theorem dX4_init_75 : decode cX4_init 75 = .ok (.aload_n 0, 1) := by decide +kernel
theorem dX4_init_76 : decode cX4_init 76 = .ok (.bipush 16, 2) := by decide +kernel
theorem dX4_init_78 : decode cX4_init 78 = .ok (.newarray .int, 2) := by decide +kernel
theorem dX4_init_80 : decode cX4_init 80 = .ok (.putfield 44, 3) := by decide +kernel
theorem dX4_init_83 : decode cX4_init 83 = .ok (.aload_n 0, 1) := by decide +kernel
theorem dX4_init_84 : decode cX4_init 84 = .ok (.new 47, 3) := by decide +kernel
theorem dX4_init_87 : decode cX4_init 87 = .ok (.dup, 1) := by decide +kernel
theorem dX4_init_88 : decode cX4_init 88 = .ok (.invokespecial 49, 3) := by decide +kernel
theorem dX4_init_91 : decode cX4_init 91 = .ok (.putfield 50, 3) := by decide +kernel
theorem dX4_init_94 : decode cX4_init 94 = .ok (.return_, 1) := by decide +kernel
theorem dX4_settle_0 : decode cX4_settle 0 = .ok (.aload_n 0, 1) := by decide +kernel
theorem dX4_settle_1 : decode cX4_settle 1 = .ok (.iconst 1, 1) := by decide +kernel
theorem dX4_settle_2 : decode cX4_settle 2 = .ok (.putfield 9, 3) := by decide +kernel
theorem dX4_settle_5 : decode cX4_settle 5 = .ok (.aload_n 0, 1) := by decide +kernel
theorem dX4_settle_6 : decode cX4_settle 6 = .ok (.iconst 1, 1) := by decide +kernel
theorem dX4_settle_7 : decode cX4_settle 7 = .ok (.aload_n 2, 1) := by decide +kernel
theorem dX4_settle_8 : decode cX4_settle 8 = .ok (.invokevirtual 54, 3) := by decide +kernel
theorem dX4_settle_11 : decode cX4_settle 11 = .ok (.invokestatic 59, 3) := by decide +kernel
theorem dX4_settle_14 : decode cX4_settle 14 = .ok (.putfield 15, 3) := by decide +kernel
theorem dX4_settle_17 : decode cX4_settle 17 = .ok (.aload_n 0, 1) := by decide +kernel
theorem dX4_settle_18 : decode cX4_settle 18 = .ok (.iconst 1, 1) := by decide +kernel
theorem dX4_settle_19 : decode cX4_settle 19 = .ok (.putfield 19, 3) := by decide +kernel
theorem dX4_settle_22 : decode cX4_settle 22 = .ok (.aload_n 0, 1) := by decide +kernel
theorem dX4_settle_23 : decode cX4_settle 23 = .ok (.getfield 50, 3) := by decide +kernel
theorem dX4_settle_26 : decode cX4_settle 26 = .ok (.invokevirtual 65, 3) := by decide +kernel
theorem dX4_settle_29 : decode cX4_settle 29 = .ok (.iconst 0, 1) := by decide +kernel
theorem dX4_settle_30 : decode cX4_settle 30 = .ok (.istore 4, 2) := by decide +kernel
theorem dX4_settle_32 : decode cX4_settle 32 = .ok (.iload 4, 2) := by decide +kernel
theorem dX4_settle_34 : decode cX4_settle 34 = .ok (.aload_n 1, 1) := by decide +kernel
theorem dX4_settle_35 : decode cX4_settle 35 = .ok (.getfield 68, 3) := by decide +kernel
theorem dX4_settle_38 : decode cX4_settle 38 = .ok (.if_icmp .ge 120, 3) := by decide +kernel
theorem dX4_settle_41 : decode cX4_settle 41 = .ok (.aload_n 0, 1) := by decide +kernel
theorem dX4_settle_42 : decode cX4_settle 42 = .ok (.getfield 22, 3) := by decide +kernel
theorem dX4_settle_45 : decode cX4_settle 45 = .ok (.iload 4, 2) := by decide +kernel
theorem dX4_settle_47 : decode cX4_settle 47 = .ok (.aload_n 2, 1) := by decide +kernel
theorem dX4_settle_48 : decode cX4_settle 48 = .ok (.getfield 73, 3) := by decide +kernel
theorem dX4_settle_51 : decode cX4_settle 51 = .ok (.iload 4, 2) := by decide +kernel
theorem dX4_settle_53 : decode cX4_settle 53 = .ok (.iaload, 1) := by decide +kernel
theorem dX4_settle_54 : decode cX4_settle 54 = .ok (.iastore, 1) := by decide +kernel
theorem dX4_settle_55 : decode cX4_settle 55 = .ok (.aload_n 0, 1) := by decide +kernel
theorem dX4_settle_56 : decode cX4_settle 56 = .ok (.getfield 26, 3) := by decide +kernel
theorem dX4_settle_59 : decode cX4_settle 59 = .ok (.iload 4, 2) := by decide +kernel
theorem dX4_settle_61 : decode cX4_settle 61 = .ok (.aload_n 2, 1) := by decide +kernel
theorem dX4_settle_62 : decode cX4_settle 62 = .ok (.iload 4, 2) := by decide +kernel
theorem dX4_settle_64 : decode cX4_settle 64 = .ok (.invokevirtual 74, 3) := by decide +kernel
theorem dX4_settle_67 : decode cX4_settle 67 = .ok (.iastore, 1) := by decide +kernel
theorem dX4_settle_68 : decode cX4_settle 68 = .ok (.aload_n 0, 1) := by decide +kernel
theorem dX4_settle_69 : decode cX4_settle 69 = .ok (.getfield 29, 3) := by decide +kernel
theorem dX4_settle_72 : decode cX4_settle 72 = .ok (.iload 4, 2) := by decide +kernel
theorem dX4_settle_74 : decode cX4_settle 74 = .ok (.aload_n 0, 1) := by decide +kernel
theorem dX4_settle_75 : decode cX4_settle 75 = .ok (.getfield 26, 3) := by decide +kernel
theorem dX4_settle_78 : decode cX4_settle 78 = .ok (.iload 4, 2) := by decide +kernel
theorem dX4_settle_80 : decode cX4_settle 80 = .ok (.iaload, 1) := by decide +kernel
theorem dX4_settle_81 : decode cX4_settle 81 = .ok (.aload_n 0, 1) := by decide +kernel
theorem dX4_settle_82 : decode cX4_settle 82 = .ok (.getfield 15, 3) := by decide +kernel
theorem dX4_settle_85 : decode cX4_settle 85 = .ok (.imul, 1) := by decide +kernel
theorem dX4_settle_86 : decode cX4_settle 86 = .ok (.aload_n 0, 1) := by decide +kernel
theorem dX4_settle_87 : decode cX4_settle 87 = .ok (.getfield 22, 3) := by decide +kernel
theorem dX4_settle_90 : decode cX4_settle 90 = .ok (.iload 4, 2) := by decide +kernel
theorem dX4_settle_92 : decode cX4_settle 92 = .ok (.iaload, 1) := by decide +kernel
theorem dX4_settle_93 : decode cX4_settle 93 = .ok (.iadd, 1) := by decide +kernel
theorem dX4_settle_94 : decode cX4_settle 94 = .ok (.iastore, 1) := by decide +kernel
theorem dX4_settle_95 : decode cX4_settle 95 = .ok (.aload_n 0, 1) := by decide +kernel
theorem dX4_settle_96 : decode cX4_settle 96 = .ok (.getfield 32, 3) := by decide +kernel
theorem dX4_settle_99 : decode cX4_settle 99 = .ok (.iload 4, 2) := by decide +kernel
theorem dX4_settle_101 : decode cX4_settle 101 = .ok (.aload_n 0, 1) := by decide +kernel
theorem dX4_settle_102 : decode cX4_settle 102 = .ok (.getfield 29, 3) := by decide +kernel
theorem dX4_settle_105 : decode cX4_settle 105 = .ok (.iload 4, 2) := by decide +kernel
theorem dX4_settle_107 : decode cX4_settle 107 = .ok (.iaload, 1) := by decide +kernel
theorem dX4_settle_108 : decode cX4_settle 108 = .ok (.iastore, 1) := by decide +kernel
theorem dX4_settle_109 : decode cX4_settle 109 = .ok (.aload_n 0, 1) := by decide +kernel
theorem dX4_settle_110 : decode cX4_settle 110 = .ok (.aload_n 0, 1) := by decide +kernel
theorem dX4_settle_111 : decode cX4_settle 111 = .ok (.getfield 19, 3) := by decide +kernel
theorem dX4_settle_114 : decode cX4_settle 114 = .ok (.iconst 1, 1) := by decide +kernel
theorem dX4_settle_115 : decode cX4_settle 115 = .ok (.aload_n 0, 1) := by decide +kernel
theorem dX4_settle_116 : decode cX4_settle 116 = .ok (.getfield 26, 3) := by decide +kernel
theorem dX4_settle_119 : decode cX4_settle 119 = .ok (.iload 4, 2) := by decide +kernel
theorem dX4_settle_121 : decode cX4_settle 121 = .ok (.iaload, 1) := by decide +kernel
theorem dX4_settle_122 : decode cX4_settle 122 = .ok (.iadd, 1) := by decide +kernel
theorem dX4_settle_123 : decode cX4_settle 123 = .ok (.invokestatic 59, 3) := by decide +kernel
theorem dX4_settle_126 : decode cX4_settle 126 = .ok (.putfield 19, 3) := by decide +kernel
theorem dX4_settle_129 : decode cX4_settle 129 = .ok (.aload_n 0, 1) := by decide +kernel
theorem dX4_settle_130 : decode cX4_settle 130 = .ok (.getfield 50, 3) := by decide +kernel
theorem dX4_settle_133 : decode cX4_settle 133 = .ok (.aload_n 1, 1) := by decide +kernel
theorem dX4_settle_134 : decode cX4_settle 134 = .ok (.iload 4, 2) := by decide +kernel
theorem dX4_settle_136 : decode cX4_settle 136 = .ok (.aload_n 0, 1) := by decide +kernel
theorem dX4_settle_137 : decode cX4_settle 137 = .ok (.getfield 22, 3) := by decide +kernel
theorem dX4_settle_140 : decode cX4_settle 140 = .ok (.iload 4, 2) := by decide +kernel
theorem dX4_settle_142 : decode cX4_settle 142 = .ok (.iaload, 1) := by decide +kernel
theorem dX4_settle_143 : decode cX4_settle 143 = .ok (.aload_n 0, 1) := by decide +kernel
theorem dX4_settle_144 : decode cX4_settle 144 = .ok (.getfield 15, 3) := by decide +kernel
theorem dX4_settle_147 : decode cX4_settle 147 = .ok (.iconst 1, 1) := by decide +kernel
theorem dX4_settle_148 : decode cX4_settle 148 = .ok (.invokevirtual 78, 3) := by decide +kernel
theorem dX4_settle_151 : decode cX4_settle 151 = .ok (.pop, 1) := by decide +kernel
theorem dX4_settle_152 : decode cX4_settle 152 = .ok (.iinc 4 1, 3) := by decide +kernel
theorem dX4_settle_155 : decode cX4_settle 155 = .ok (.goto (-123), 3) := by decide +kernel
theorem dX4_settle_158 : decode cX4_settle 158 = .ok (.aload_n 0, 1) := by decide +kernel
theorem dX4_settle_159 : decode cX4_settle 159 = .ok (.aload_n 1, 1) := by decide +kernel
theorem dX4_settle_160 : decode cX4_settle 160 = .ok (.getfield 68, 3) := by decide +kernel
theorem dX4_settle_163 : decode cX4_settle 163 = .ok (.aload_n 3, 1) := by decide +kernel
theorem dX4_settle_164 : decode cX4_settle 164 = .ok (.invokevirtual 82, 3) := by decide +kernel
theorem dX4_settle_167 : decode cX4_settle 167 = .ok (.aload_n 0, 1) := by decide +kernel
theorem dX4_settle_168 : decode cX4_settle 168 = .ok (.aload_n 1, 1) := by decide +kernel
theorem dX4_settle_169 : decode cX4_settle 169 = .ok (.invokevirtual 86, 3) := by decide +kernel
theorem dX4_settle_172 : decode cX4_settle 172 = .ok (.aload_n 0, 1) := by decide +kernel
theorem dX4_settle_173 : decode cX4_settle 173 = .ok (.aload_n 1, 1) := by decide +kernel
theorem dX4_settle_174 : decode cX4_settle 174 = .ok (.getfield 68, 3) := by decide +kernel
theorem dX4_settle_177 : decode cX4_settle 177 = .ok (.invokevirtual 90, 3) := by decide +kernel
theorem dX4_settle_180 : decode cX4_settle 180 = .ok (.return_, 1) := by decide +kernel
theorem dX4_settleBounds_0 : decode cX4_settleBounds 0 = .ok (.iconst 0, 1) := by decide +kernel
theorem dX4_settleBounds_1 : decode cX4_settleBounds 1 = .ok (.istore_n 3, 1) := by decide +kernel
theorem dX4_settleBounds_2 : decode cX4_settleBounds 2 = .ok (.iconst 0, 1) := by decide +kernel
theorem dX4_settleBounds_3 : decode cX4_settleBounds 3 = .ok (.istore 4, 2) := by decide +kernel
theorem dX4_settleBounds_5 : decode cX4_settleBounds 5 = .ok (.iload 4, 2) := by decide +kernel
theorem dX4_settleBounds_7 : decode cX4_settleBounds 7 = .ok (.iload_n 1, 1) := by decide +kernel
theorem dX4_settleBounds_8 : decode cX4_settleBounds 8 = .ok (.if_icmp .ge 35, 3) := by decide +kernel
theorem dX4_settleBounds_11 : decode cX4_settleBounds 11 = .ok (.aload_n 0, 1) := by decide +kernel
theorem dX4_settleBounds_12 : decode cX4_settleBounds 12 = .ok (.getfield 35, 3) := by decide +kernel
theorem dX4_settleBounds_15 : decode cX4_settleBounds 15 = .ok (.iload 4, 2) := by decide +kernel
theorem dX4_settleBounds_17 : decode cX4_settleBounds 17 = .ok (.aload_n 2, 1) := by decide +kernel
theorem dX4_settleBounds_18 : decode cX4_settleBounds 18 = .ok (.iload 4, 2) := by decide +kernel
theorem dX4_settleBounds_20 : decode cX4_settleBounds 20 = .ok (.iload_n 1, 1) := by decide +kernel
theorem dX4_settleBounds_21 : decode cX4_settleBounds 21 = .ok (.invokevirtual 94, 3) := by decide +kernel
theorem dX4_settleBounds_24 : decode cX4_settleBounds 24 = .ok (.iastore, 1) := by decide +kernel
theorem dX4_settleBounds_25 : decode cX4_settleBounds 25 = .ok (.iload_n 3, 1) := by decide +kernel
theorem dX4_settleBounds_26 : decode cX4_settleBounds 26 = .ok (.aload_n 0, 1) := by decide +kernel
theorem dX4_settleBounds_27 : decode cX4_settleBounds 27 = .ok (.getfield 35, 3) := by decide +kernel
theorem dX4_settleBounds_30 : decode cX4_settleBounds 30 = .ok (.iload 4, 2) := by decide +kernel
theorem dX4_settleBounds_32 : decode cX4_settleBounds 32 = .ok (.iaload, 1) := by decide +kernel
theorem dX4_settleBounds_33 : decode cX4_settleBounds 33 = .ok (.invokestatic 59, 3) := by decide +kernel
theorem dX4_settleBounds_36 : decode cX4_settleBounds 36 = .ok (.istore_n 3, 1) := by decide +kernel
theorem dX4_settleBounds_37 : decode cX4_settleBounds 37 = .ok (.iinc 4 1, 3) := by decide +kernel
theorem dX4_settleBounds_40 : decode cX4_settleBounds 40 = .ok (.goto (-35), 3) := by decide +kernel
theorem dX4_settleBounds_43 : decode cX4_settleBounds 43 = .ok (.iconst 0, 1) := by decide +kernel
theorem dX4_settleBounds_44 : decode cX4_settleBounds 44 = .ok (.istore 4, 2) := by decide +kernel
theorem dX4_settleBounds_46 : decode cX4_settleBounds 46 = .ok (.iload 4, 2) := by decide +kernel
theorem dX4_settleBounds_48 : decode cX4_settleBounds 48 = .ok (.iload_n 1, 1) := by decide +kernel
theorem dX4_settleBounds_49 : decode cX4_settleBounds 49 = .ok (.if_icmp .ge 25, 3) := by decide +kernel
theorem dX4_settleBounds_52 : decode cX4_settleBounds 52 = .ok (.aload_n 0, 1) := by decide +kernel
theorem dX4_settleBounds_53 : decode cX4_settleBounds 53 = .ok (.getfield 38, 3) := by decide +kernel
theorem dX4_settleBounds_56 : decode cX4_settleBounds 56 = .ok (.iload 4, 2) := by decide +kernel
theorem dX4_settleBounds_58 : decode cX4_settleBounds 58 = .ok (.iload_n 3, 1) := by decide +kernel
theorem dX4_settleBounds_59 : decode cX4_settleBounds 59 = .ok (.aload_n 2, 1) := by decide +kernel
theorem dX4_settleBounds_60 : decode cX4_settleBounds 60 = .ok (.iload 4, 2) := by decide +kernel
theorem dX4_settleBounds_62 : decode cX4_settleBounds 62 = .ok (.iload_n 1, 1) := by decide +kernel
theorem dX4_settleBounds_63 : decode cX4_settleBounds 63 = .ok (.invokevirtual 99, 3) := by decide +kernel
theorem dX4_settleBounds_66 : decode cX4_settleBounds 66 = .ok (.isub, 1) := by decide +kernel
theorem dX4_settleBounds_67 : decode cX4_settleBounds 67 = .ok (.iastore, 1) := by decide +kernel
theorem dX4_settleBounds_68 : decode cX4_settleBounds 68 = .ok (.iinc 4 1, 3) := by decide +kernel
theorem dX4_settleBounds_71 : decode cX4_settleBounds 71 = .ok (.goto (-25), 3) := by decide +kernel
theorem dX4_settleBounds_74 : decode cX4_settleBounds 74 = .ok (.return_, 1) := by decide +kernel
theorem dX4_settlePlaces_0 : decode cX4_settlePlaces 0 = .ok (.aload_n 0, 1) := by decide +kernel
theorem dX4_settlePlaces_1 : decode cX4_settlePlaces 1 = .ok (.getfield 41, 3) := by decide +kernel
theorem dX4_settlePlaces_4 : decode cX4_settlePlaces 4 = .ok (.iconst 1, 1) := by decide +kernel
theorem dX4_settlePlaces_5 : decode cX4_settlePlaces 5 = .ok (.invokestatic 102, 3) := by decide +kernel
theorem dX4_settlePlaces_8 : decode cX4_settlePlaces 8 = .ok (.iconst 0, 1) := by decide +kernel
theorem dX4_settlePlaces_9 : decode cX4_settlePlaces 9 = .ok (.istore_n 2, 1) := by decide +kernel
theorem dX4_settlePlaces_10 : decode cX4_settlePlaces 10 = .ok (.iload_n 2, 1) := by decide +kernel
theorem dX4_settlePlaces_11 : decode cX4_settlePlaces 11 = .ok (.aload_n 1, 1) := by decide +kernel
theorem dX4_settlePlaces_12 : decode cX4_settlePlaces 12 = .ok (.getfield 68, 3) := by decide +kernel
theorem dX4_settlePlaces_15 : decode cX4_settlePlaces 15 = .ok (.iconst 3, 1) := by decide +kernel
theorem dX4_settlePlaces_16 : decode cX4_settlePlaces 16 = .ok (.imul, 1) := by decide +kernel
theorem dX4_settlePlaces_17 : decode cX4_settlePlaces 17 = .ok (.if_icmp .ge 89, 3) := by decide +kernel
theorem dX4_settlePlaces_20 : decode cX4_settlePlaces 20 = .ok (.aload_n 1, 1) := by decide +kernel
theorem dX4_settlePlaces_21 : decode cX4_settlePlaces 21 = .ok (.getfield 108, 3) := by decide +kernel
theorem dX4_settlePlaces_24 : decode cX4_settlePlaces 24 = .ok (.iload_n 2, 1) := by decide +kernel
theorem dX4_settlePlaces_25 : decode cX4_settlePlaces 25 = .ok (.iaload, 1) := by decide +kernel
theorem dX4_settlePlaces_26 : decode cX4_settlePlaces 26 = .ok (.istore_n 3, 1) := by decide +kernel
theorem dX4_settlePlaces_27 : decode cX4_settlePlaces 27 = .ok (.aload_n 1, 1) := by decide +kernel
theorem dX4_settlePlaces_28 : decode cX4_settlePlaces 28 = .ok (.iload_n 3, 1) := by decide +kernel
theorem dX4_settlePlaces_29 : decode cX4_settlePlaces 29 = .ok (.invokevirtual 111, 3) := by decide +kernel
theorem dX4_settlePlaces_32 : decode cX4_settlePlaces 32 = .ok (.ifCond .eq 68, 3) := by decide +kernel
theorem dX4_settlePlaces_35 : decode cX4_settlePlaces 35 = .ok (.aload_n 0, 1) := by decide +kernel
theorem dX4_settlePlaces_36 : decode cX4_settlePlaces 36 = .ok (.getfield 29, 3) := by decide +kernel
theorem dX4_settlePlaces_39 : decode cX4_settlePlaces 39 = .ok (.iload_n 2, 1) := by decide +kernel
theorem dX4_settlePlaces_40 : decode cX4_settlePlaces 40 = .ok (.iconst 3, 1) := by decide +kernel
theorem dX4_settlePlaces_41 : decode cX4_settlePlaces 41 = .ok (.idiv, 1) := by decide +kernel
theorem dX4_settlePlaces_42 : decode cX4_settlePlaces 42 = .ok (.iaload, 1) := by decide +kernel
theorem dX4_settlePlaces_43 : decode cX4_settlePlaces 43 = .ok (.aload_n 0, 1) := by decide +kernel
theorem dX4_settlePlaces_44 : decode cX4_settlePlaces 44 = .ok (.getfield 15, 3) := by decide +kernel
theorem dX4_settlePlaces_47 : decode cX4_settlePlaces 47 = .ok (.aload_n 1, 1) := by decide +kernel
theorem dX4_settlePlaces_48 : decode cX4_settlePlaces 48 = .ok (.getfield 115, 3) := by decide +kernel
theorem dX4_settlePlaces_51 : decode cX4_settlePlaces 51 = .ok (.iload_n 2, 1) := by decide +kernel
theorem dX4_settlePlaces_52 : decode cX4_settlePlaces 52 = .ok (.iaload, 1) := by decide +kernel
theorem dX4_settlePlaces_53 : decode cX4_settlePlaces 53 = .ok (.imul, 1) := by decide +kernel
theorem dX4_settlePlaces_54 : decode cX4_settlePlaces 54 = .ok (.iadd, 1) := by decide +kernel
theorem dX4_settlePlaces_55 : decode cX4_settlePlaces 55 = .ok (.aload_n 0, 1) := by decide +kernel
theorem dX4_settlePlaces_56 : decode cX4_settlePlaces 56 = .ok (.getfield 29, 3) := by decide +kernel
theorem dX4_settlePlaces_59 : decode cX4_settlePlaces 59 = .ok (.iload_n 3, 1) := by decide +kernel
theorem dX4_settlePlaces_60 : decode cX4_settlePlaces 60 = .ok (.iaload, 1) := by decide +kernel
theorem dX4_settlePlaces_61 : decode cX4_settlePlaces 61 = .ok (.isub, 1) := by decide +kernel
theorem dX4_settlePlaces_62 : decode cX4_settlePlaces 62 = .ok (.istore 4, 2) := by decide +kernel
theorem dX4_settlePlaces_64 : decode cX4_settlePlaces 64 = .ok (.aload_n 0, 1) := by decide +kernel
theorem dX4_settlePlaces_65 : decode cX4_settlePlaces 65 = .ok (.getfield 41, 3) := by decide +kernel
theorem dX4_settlePlaces_68 : decode cX4_settlePlaces 68 = .ok (.iload_n 3, 1) := by decide +kernel
theorem dX4_settlePlaces_69 : decode cX4_settlePlaces 69 = .ok (.aload_n 0, 1) := by decide +kernel
theorem dX4_settlePlaces_70 : decode cX4_settlePlaces 70 = .ok (.getfield 41, 3) := by decide +kernel
theorem dX4_settlePlaces_73 : decode cX4_settlePlaces 73 = .ok (.iload_n 3, 1) := by decide +kernel
theorem dX4_settlePlaces_74 : decode cX4_settlePlaces 74 = .ok (.iaload, 1) := by decide +kernel
theorem dX4_settlePlaces_75 : decode cX4_settlePlaces 75 = .ok (.aload_n 0, 1) := by decide +kernel
theorem dX4_settlePlaces_76 : decode cX4_settlePlaces 76 = .ok (.getfield 15, 3) := by decide +kernel
theorem dX4_settlePlaces_79 : decode cX4_settlePlaces 79 = .ok (.iconst 1, 1) := by decide +kernel
theorem dX4_settlePlaces_80 : decode cX4_settlePlaces 80 = .ok (.if_icmp .ge 7, 3) := by decide +kernel
theorem dX4_settlePlaces_83 : decode cX4_settlePlaces 83 = .ok (.iconst 1, 1) := by decide +kernel
theorem dX4_settlePlaces_84 : decode cX4_settlePlaces 84 = .ok (.goto 12, 3) := by decide +kernel
theorem dX4_settlePlaces_87 : decode cX4_settlePlaces 87 = .ok (.iload 4, 2) := by decide +kernel
theorem dX4_settlePlaces_89 : decode cX4_settlePlaces 89 = .ok (.aload_n 0, 1) := by decide +kernel
theorem dX4_settlePlaces_90 : decode cX4_settlePlaces 90 = .ok (.getfield 15, 3) := by decide +kernel
theorem dX4_settlePlaces_93 : decode cX4_settlePlaces 93 = .ok (.idiv, 1) := by decide +kernel
theorem dX4_settlePlaces_94 : decode cX4_settlePlaces 94 = .ok (.iconst 1, 1) := by decide +kernel
theorem dX4_settlePlaces_95 : decode cX4_settlePlaces 95 = .ok (.iadd, 1) := by decide +kernel
theorem dX4_settlePlaces_96 : decode cX4_settlePlaces 96 = .ok (.invokestatic 59, 3) := by decide +kernel
theorem dX4_settlePlaces_99 : decode cX4_settlePlaces 99 = .ok (.iastore, 1) := by decide +kernel
theorem dX4_settlePlaces_100 : decode cX4_settlePlaces 100 = .ok (.iinc 2 1, 3) := by decide +kernel
theorem dX4_settlePlaces_103 : decode cX4_settlePlaces 103 = .ok (.goto (-93), 3) := by decide +kernel
theorem dX4_settlePlaces_106 : decode cX4_settlePlaces 106 = .ok (.return_, 1) := by decide +kernel
theorem dX4_settleOrder_0 : decode cX4_settleOrder 0 = .ok (.iconst 0, 1) := by decide +kernel
theorem dX4_settleOrder_1 : decode cX4_settleOrder 1 = .ok (.istore_n 2, 1) := by decide +kernel
theorem dX4_settleOrder_2 : decode cX4_settleOrder 2 = .ok (.iconst 0, 1) := by decide +kernel
theorem dX4_settleOrder_3 : decode cX4_settleOrder 3 = .ok (.istore_n 3, 1) := by decide +kernel
theorem dX4_settleOrder_4 : decode cX4_settleOrder 4 = .ok (.iload_n 3, 1) := by decide +kernel
theorem dX4_settleOrder_5 : decode cX4_settleOrder 5 = .ok (.aload_n 0, 1) := by decide +kernel
theorem dX4_settleOrder_6 : decode cX4_settleOrder 6 = .ok (.getfield 15, 3) := by decide +kernel
theorem dX4_settleOrder_9 : decode cX4_settleOrder 9 = .ok (.if_icmp .ge 52, 3) := by decide +kernel
theorem dX4_settleOrder_12 : decode cX4_settleOrder 12 = .ok (.iconst 0, 1) := by decide +kernel
theorem dX4_settleOrder_13 : decode cX4_settleOrder 13 = .ok (.istore 4, 2) := by decide +kernel
theorem dX4_settleOrder_15 : decode cX4_settleOrder 15 = .ok (.iload 4, 2) := by decide +kernel
theorem dX4_settleOrder_17 : decode cX4_settleOrder 17 = .ok (.iload_n 1, 1) := by decide +kernel
theorem dX4_settleOrder_18 : decode cX4_settleOrder 18 = .ok (.if_icmp .ge 37, 3) := by decide +kernel
theorem dX4_settleOrder_21 : decode cX4_settleOrder 21 = .ok (.aload_n 0, 1) := by decide +kernel
theorem dX4_settleOrder_22 : decode cX4_settleOrder 22 = .ok (.getfield 22, 3) := by decide +kernel
theorem dX4_settleOrder_25 : decode cX4_settleOrder 25 = .ok (.iload 4, 2) := by decide +kernel
theorem dX4_settleOrder_27 : decode cX4_settleOrder 27 = .ok (.iaload, 1) := by decide +kernel
theorem dX4_settleOrder_28 : decode cX4_settleOrder 28 = .ok (.iload_n 3, 1) := by decide +kernel
theorem dX4_settleOrder_29 : decode cX4_settleOrder 29 = .ok (.if_icmp .ne 20, 3) := by decide +kernel
theorem dX4_settleOrder_32 : decode cX4_settleOrder 32 = .ok (.iload_n 2, 1) := by decide +kernel
theorem dX4_settleOrder_33 : decode cX4_settleOrder 33 = .ok (.bipush 16, 2) := by decide +kernel
theorem dX4_settleOrder_35 : decode cX4_settleOrder 35 = .ok (.if_icmp .ge 14, 3) := by decide +kernel
theorem dX4_settleOrder_38 : decode cX4_settleOrder 38 = .ok (.aload_n 0, 1) := by decide +kernel
theorem dX4_settleOrder_39 : decode cX4_settleOrder 39 = .ok (.getfield 44, 3) := by decide +kernel
theorem dX4_settleOrder_42 : decode cX4_settleOrder 42 = .ok (.iload_n 2, 1) := by decide +kernel
theorem dX4_settleOrder_43 : decode cX4_settleOrder 43 = .ok (.iload 4, 2) := by decide +kernel
theorem dX4_settleOrder_45 : decode cX4_settleOrder 45 = .ok (.iastore, 1) := by decide +kernel
theorem dX4_settleOrder_46 : decode cX4_settleOrder 46 = .ok (.iinc 2 1, 3) := by decide +kernel
theorem dX4_settleOrder_49 : decode cX4_settleOrder 49 = .ok (.iinc 4 1, 3) := by decide +kernel
theorem dX4_settleOrder_52 : decode cX4_settleOrder 52 = .ok (.goto (-37), 3) := by decide +kernel
theorem dX4_settleOrder_55 : decode cX4_settleOrder 55 = .ok (.iinc 3 1, 3) := by decide +kernel
theorem dX4_settleOrder_58 : decode cX4_settleOrder 58 = .ok (.goto (-54), 3) := by decide +kernel
theorem dX4_settleOrder_61 : decode cX4_settleOrder 61 = .ok (.return_, 1) := by decide +kernel
theorem dX4_lastEnd_0 : decode cX4_lastEnd 0 = .ok (.iconst 0, 1) := by decide +kernel
theorem dX4_lastEnd_1 : decode cX4_lastEnd 1 = .ok (.istore_n 2, 1) := by decide +kernel
theorem dX4_lastEnd_2 : decode cX4_lastEnd 2 = .ok (.iconst 0, 1) := by decide +kernel
theorem dX4_lastEnd_3 : decode cX4_lastEnd 3 = .ok (.istore_n 3, 1) := by decide +kernel
theorem dX4_lastEnd_4 : decode cX4_lastEnd 4 = .ok (.iload_n 3, 1) := by decide +kernel
theorem dX4_lastEnd_5 : decode cX4_lastEnd 5 = .ok (.aload_n 1, 1) := by decide +kernel
theorem dX4_lastEnd_6 : decode cX4_lastEnd 6 = .ok (.getfield 68, 3) := by decide +kernel
theorem dX4_lastEnd_9 : decode cX4_lastEnd 9 = .ok (.if_icmp .ge 27, 3) := by decide +kernel
theorem dX4_lastEnd_12 : decode cX4_lastEnd 12 = .ok (.iload_n 2, 1) := by decide +kernel
theorem dX4_lastEnd_13 : decode cX4_lastEnd 13 = .ok (.aload_n 0, 1) := by decide +kernel
theorem dX4_lastEnd_14 : decode cX4_lastEnd 14 = .ok (.getfield 29, 3) := by decide +kernel
theorem dX4_lastEnd_17 : decode cX4_lastEnd 17 = .ok (.iload_n 3, 1) := by decide +kernel
theorem dX4_lastEnd_18 : decode cX4_lastEnd 18 = .ok (.iaload, 1) := by decide +kernel
theorem dX4_lastEnd_19 : decode cX4_lastEnd 19 = .ok (.aload_n 1, 1) := by decide +kernel
theorem dX4_lastEnd_20 : decode cX4_lastEnd 20 = .ok (.getfield 118, 3) := by decide +kernel
theorem dX4_lastEnd_23 : decode cX4_lastEnd 23 = .ok (.iload_n 3, 1) := by decide +kernel
theorem dX4_lastEnd_24 : decode cX4_lastEnd 24 = .ok (.iaload, 1) := by decide +kernel
theorem dX4_lastEnd_25 : decode cX4_lastEnd 25 = .ok (.iadd, 1) := by decide +kernel
theorem dX4_lastEnd_26 : decode cX4_lastEnd 26 = .ok (.invokestatic 59, 3) := by decide +kernel
theorem dX4_lastEnd_29 : decode cX4_lastEnd 29 = .ok (.istore_n 2, 1) := by decide +kernel
theorem dX4_lastEnd_30 : decode cX4_lastEnd 30 = .ok (.iinc 3 1, 3) := by decide +kernel
theorem dX4_lastEnd_33 : decode cX4_lastEnd 33 = .ok (.goto (-29), 3) := by decide +kernel
theorem dX4_lastEnd_36 : decode cX4_lastEnd 36 = .ok (.iload_n 2, 1) := by decide +kernel
theorem dX4_lastEnd_37 : decode cX4_lastEnd 37 = .ok (.ireturn, 1) := by decide +kernel
theorem dX4_placesInAll_0 : decode cX4_placesInAll 0 = .ok (.iconst 0, 1) := by decide +kernel
theorem dX4_placesInAll_1 : decode cX4_placesInAll 1 = .ok (.istore_n 2, 1) := by decide +kernel
theorem dX4_placesInAll_2 : decode cX4_placesInAll 2 = .ok (.iconst 0, 1) := by decide +kernel
theorem dX4_placesInAll_3 : decode cX4_placesInAll 3 = .ok (.istore_n 3, 1) := by decide +kernel
theorem dX4_placesInAll_4 : decode cX4_placesInAll 4 = .ok (.iload_n 3, 1) := by decide +kernel
theorem dX4_placesInAll_5 : decode cX4_placesInAll 5 = .ok (.iload_n 1, 1) := by decide +kernel
theorem dX4_placesInAll_6 : decode cX4_placesInAll 6 = .ok (.if_icmp .ge 18, 3) := by decide +kernel
theorem dX4_placesInAll_9 : decode cX4_placesInAll 9 = .ok (.iload_n 2, 1) := by decide +kernel
theorem dX4_placesInAll_10 : decode cX4_placesInAll 10 = .ok (.aload_n 0, 1) := by decide +kernel
theorem dX4_placesInAll_11 : decode cX4_placesInAll 11 = .ok (.getfield 41, 3) := by decide +kernel
theorem dX4_placesInAll_14 : decode cX4_placesInAll 14 = .ok (.iload_n 3, 1) := by decide +kernel
theorem dX4_placesInAll_15 : decode cX4_placesInAll 15 = .ok (.iaload, 1) := by decide +kernel
theorem dX4_placesInAll_16 : decode cX4_placesInAll 16 = .ok (.iadd, 1) := by decide +kernel
theorem dX4_placesInAll_17 : decode cX4_placesInAll 17 = .ok (.istore_n 2, 1) := by decide +kernel
theorem dX4_placesInAll_18 : decode cX4_placesInAll 18 = .ok (.iinc 3 1, 3) := by decide +kernel
theorem dX4_placesInAll_21 : decode cX4_placesInAll 21 = .ok (.goto (-17), 3) := by decide +kernel
theorem dX4_placesInAll_24 : decode cX4_placesInAll 24 = .ok (.iload_n 2, 1) := by decide +kernel
theorem dX4_placesInAll_25 : decode cX4_placesInAll 25 = .ok (.ireturn, 1) := by decide +kernel
theorem dX4_mostPlaces_0 : decode cX4_mostPlaces 0 = .ok (.iconst 0, 1) := by decide +kernel
theorem dX4_mostPlaces_1 : decode cX4_mostPlaces 1 = .ok (.istore_n 2, 1) := by decide +kernel
theorem dX4_mostPlaces_2 : decode cX4_mostPlaces 2 = .ok (.iconst 0, 1) := by decide +kernel
theorem dX4_mostPlaces_3 : decode cX4_mostPlaces 3 = .ok (.istore_n 3, 1) := by decide +kernel
theorem dX4_mostPlaces_4 : decode cX4_mostPlaces 4 = .ok (.iload_n 3, 1) := by decide +kernel
theorem dX4_mostPlaces_5 : decode cX4_mostPlaces 5 = .ok (.iload_n 1, 1) := by decide +kernel
theorem dX4_mostPlaces_6 : decode cX4_mostPlaces 6 = .ok (.if_icmp .ge 20, 3) := by decide +kernel
theorem dX4_mostPlaces_9 : decode cX4_mostPlaces 9 = .ok (.iload_n 2, 1) := by decide +kernel
theorem dX4_mostPlaces_10 : decode cX4_mostPlaces 10 = .ok (.aload_n 0, 1) := by decide +kernel
theorem dX4_mostPlaces_11 : decode cX4_mostPlaces 11 = .ok (.getfield 41, 3) := by decide +kernel
theorem dX4_mostPlaces_14 : decode cX4_mostPlaces 14 = .ok (.iload_n 3, 1) := by decide +kernel
theorem dX4_mostPlaces_15 : decode cX4_mostPlaces 15 = .ok (.iaload, 1) := by decide +kernel
theorem dX4_mostPlaces_16 : decode cX4_mostPlaces 16 = .ok (.invokestatic 59, 3) := by decide +kernel
theorem dX4_mostPlaces_19 : decode cX4_mostPlaces 19 = .ok (.istore_n 2, 1) := by decide +kernel
theorem dX4_mostPlaces_20 : decode cX4_mostPlaces 20 = .ok (.iinc 3 1, 3) := by decide +kernel
theorem dX4_mostPlaces_23 : decode cX4_mostPlaces 23 = .ok (.goto (-19), 3) := by decide +kernel
theorem dX4_mostPlaces_26 : decode cX4_mostPlaces 26 = .ok (.iload_n 2, 1) := by decide +kernel
theorem dX4_mostPlaces_27 : decode cX4_mostPlaces 27 = .ok (.ireturn, 1) := by decide +kernel
theorem dX5_init_0 : decode cX5_init 0 = .ok (.aload_n 0, 1) := by decide +kernel
theorem dX5_init_1 : decode cX5_init 1 = .ok (.invokespecial 3, 3) := by decide +kernel
theorem dX5_init_4 : decode cX5_init 4 = .ok (.aload_n 0, 1) := by decide +kernel
theorem dX5_init_5 : decode cX5_init 5 = .ok (.iconst 0, 1) := by decide +kernel
theorem dX5_init_6 : decode cX5_init 6 = .ok (.putfield 9, 3) := by decide +kernel
theorem dX5_init_9 : decode cX5_init 9 = .ok (.aload_n 0, 1) := by decide +kernel
theorem dX5_init_10 : decode cX5_init 10 = .ok (.iconst (-1), 1) := by decide +kernel
theorem dX5_init_11 : decode cX5_init 11 = .ok (.putfield 15, 3) := by decide +kernel
theorem dX5_init_14 : decode cX5_init 14 = .ok (.aload_n 0, 1) := by decide +kernel
theorem dX5_init_15 : decode cX5_init 15 = .ok (.iconst (-1), 1) := by decide +kernel
theorem dX5_init_16 : decode cX5_init 16 = .ok (.putfield 18, 3) := by decide +kernel
theorem dX5_init_19 : decode cX5_init 19 = .ok (.aload_n 0, 1) := by decide +kernel
theorem dX5_init_20 : decode cX5_init 20 = .ok (.iconst 0, 1) := by decide +kernel
theorem dX5_init_21 : decode cX5_init 21 = .ok (.putfield 21, 3) := by decide +kernel
theorem dX5_init_24 : decode cX5_init 24 = .ok (.aload_n 0, 1) := by decide +kernel
theorem dX5_init_25 : decode cX5_init 25 = .ok (.iconst 0, 1) := by decide +kernel
theorem dX5_init_26 : decode cX5_init 26 = .ok (.putfield 24, 3) := by decide +kernel
theorem dX5_init_29 : decode cX5_init 29 = .ok (.aload_n 0, 1) := by decide +kernel
theorem dX5_init_30 : decode cX5_init 30 = .ok (.iconst 0, 1) := by decide +kernel
theorem dX5_init_31 : decode cX5_init 31 = .ok (.putfield 27, 3) := by decide +kernel
theorem dX5_init_34 : decode cX5_init 34 = .ok (.aload_n 0, 1) := by decide +kernel
theorem dX5_init_35 : decode cX5_init 35 = .ok (.iconst 0, 1) := by decide +kernel
theorem dX5_init_36 : decode cX5_init 36 = .ok (.putfield 31, 3) := by decide +kernel
theorem dX5_init_39 : decode cX5_init 39 = .ok (.aload_n 0, 1) := by decide +kernel
theorem dX5_init_40 : decode cX5_init 40 = .ok (.bipush 16, 2) := by decide +kernel
theorem dX5_init_42 : decode cX5_init 42 = .ok (.newarray .long, 2) := by decide +kernel
theorem dX5_init_44 : decode cX5_init 44 = .ok (.putfield 34, 3) := by decide +kernel
theorem dX5_init_47 : decode cX5_init 47 = .ok (.return_, 1) := by decide +kernel
theorem dX5_clear_0 : decode cX5_clear 0 = .ok (.aload_n 0, 1) := by decide +kernel
theorem dX5_clear_1 : decode cX5_clear 1 = .ok (.iconst 0, 1) := by decide +kernel
theorem dX5_clear_2 : decode cX5_clear 2 = .ok (.putfield 9, 3) := by decide +kernel
theorem dX5_clear_5 : decode cX5_clear 5 = .ok (.aload_n 0, 1) := by decide +kernel
theorem dX5_clear_6 : decode cX5_clear 6 = .ok (.iconst (-1), 1) := by decide +kernel
theorem dX5_clear_7 : decode cX5_clear 7 = .ok (.putfield 15, 3) := by decide +kernel
theorem dX5_clear_10 : decode cX5_clear 10 = .ok (.aload_n 0, 1) := by decide +kernel
theorem dX5_clear_11 : decode cX5_clear 11 = .ok (.iconst (-1), 1) := by decide +kernel
theorem dX5_clear_12 : decode cX5_clear 12 = .ok (.putfield 18, 3) := by decide +kernel
theorem dX5_clear_15 : decode cX5_clear 15 = .ok (.aload_n 0, 1) := by decide +kernel
theorem dX5_clear_16 : decode cX5_clear 16 = .ok (.iconst 0, 1) := by decide +kernel
theorem dX5_clear_17 : decode cX5_clear 17 = .ok (.putfield 21, 3) := by decide +kernel
theorem dX5_clear_20 : decode cX5_clear 20 = .ok (.aload_n 0, 1) := by decide +kernel
theorem dX5_clear_21 : decode cX5_clear 21 = .ok (.iconst 0, 1) := by decide +kernel
theorem dX5_clear_22 : decode cX5_clear 22 = .ok (.putfield 24, 3) := by decide +kernel
theorem dX5_clear_25 : decode cX5_clear 25 = .ok (.aload_n 0, 1) := by decide +kernel
theorem dX5_clear_26 : decode cX5_clear 26 = .ok (.iconst 0, 1) := by decide +kernel
theorem dX5_clear_27 : decode cX5_clear 27 = .ok (.putfield 27, 3) := by decide +kernel
theorem dX5_clear_30 : decode cX5_clear 30 = .ok (.aload_n 0, 1) := by decide +kernel
theorem dX5_clear_31 : decode cX5_clear 31 = .ok (.iconst 0, 1) := by decide +kernel
theorem dX5_clear_32 : decode cX5_clear 32 = .ok (.putfield 31, 3) := by decide +kernel
theorem dX5_clear_35 : decode cX5_clear 35 = .ok (.return_, 1) := by decide +kernel
theorem dX5_refused_0 : decode cX5_refused 0 = .ok (.aload_n 0, 1) := by decide +kernel
theorem dX5_refused_1 : decode cX5_refused 1 = .ok (.iload_n 1, 1) := by decide +kernel
theorem dX5_refused_2 : decode cX5_refused 2 = .ok (.putfield 9, 3) := by decide +kernel
theorem dX5_refused_5 : decode cX5_refused 5 = .ok (.aload_n 0, 1) := by decide +kernel
theorem dX5_refused_6 : decode cX5_refused 6 = .ok (.iload_n 2, 1) := by decide +kernel
theorem dX5_refused_7 : decode cX5_refused 7 = .ok (.putfield 15, 3) := by decide +kernel
theorem dX5_refused_10 : decode cX5_refused 10 = .ok (.aload_n 0, 1) := by decide +kernel
theorem dX5_refused_11 : decode cX5_refused 11 = .ok (.iload_n 3, 1) := by decide +kernel
theorem dX5_refused_12 : decode cX5_refused 12 = .ok (.putfield 18, 3) := by decide +kernel
theorem dX5_refused_15 : decode cX5_refused 15 = .ok (.return_, 1) := by decide +kernel
theorem dX5_endsAheadOf_0 : decode cX5_endsAheadOf 0 = .ok (.aload_n 0, 1) := by decide +kernel
theorem dX5_endsAheadOf_1 : decode cX5_endsAheadOf 1 = .ok (.getfield 9, 3) := by decide +kernel
theorem dX5_endsAheadOf_4 : decode cX5_endsAheadOf 4 = .ok (.ifCond .eq 31, 3) := by decide +kernel
theorem dX5_endsAheadOf_7 : decode cX5_endsAheadOf 7 = .ok (.iload_n 2, 1) := by decide +kernel
theorem dX5_endsAheadOf_8 : decode cX5_endsAheadOf 8 = .ok (.aload_n 0, 1) := by decide +kernel
theorem dX5_endsAheadOf_9 : decode cX5_endsAheadOf 9 = .ok (.getfield 18, 3) := by decide +kernel
theorem dX5_endsAheadOf_12 : decode cX5_endsAheadOf 12 = .ok (.if_icmp .gt 19, 3) := by decide +kernel
theorem dX5_endsAheadOf_15 : decode cX5_endsAheadOf 15 = .ok (.iload_n 2, 1) := by decide +kernel
theorem dX5_endsAheadOf_16 : decode cX5_endsAheadOf 16 = .ok (.aload_n 0, 1) := by decide +kernel
theorem dX5_endsAheadOf_17 : decode cX5_endsAheadOf 17 = .ok (.getfield 18, 3) := by decide +kernel
theorem dX5_endsAheadOf_20 : decode cX5_endsAheadOf 20 = .ok (.if_icmp .ne 15, 3) := by decide +kernel
theorem dX5_endsAheadOf_23 : decode cX5_endsAheadOf 23 = .ok (.iload_n 1, 1) := by decide +kernel
theorem dX5_endsAheadOf_24 : decode cX5_endsAheadOf 24 = .ok (.aload_n 0, 1) := by decide +kernel
theorem dX5_endsAheadOf_25 : decode cX5_endsAheadOf 25 = .ok (.getfield 15, 3) := by decide +kernel
theorem dX5_endsAheadOf_28 : decode cX5_endsAheadOf 28 = .ok (.if_icmp .le 7, 3) := by decide +kernel
theorem dX5_endsAheadOf_31 : decode cX5_endsAheadOf 31 = .ok (.iconst 1, 1) := by decide +kernel
theorem dX5_endsAheadOf_32 : decode cX5_endsAheadOf 32 = .ok (.goto 4, 3) := by decide +kernel
theorem dX5_endsAheadOf_35 : decode cX5_endsAheadOf 35 = .ok (.iconst 0, 1) := by decide +kernel
theorem dX5_endsAheadOf_36 : decode cX5_endsAheadOf 36 = .ok (.ireturn, 1) := by decide +kernel
theorem dX5_isLike_0 : decode cX5_isLike 0 = .ok (.aload_n 0, 1) := by decide +kernel
theorem dX5_isLike_1 : decode cX5_isLike 1 = .ok (.getfield 9, 3) := by decide +kernel
theorem dX5_isLike_4 : decode cX5_isLike 4 = .ok (.aload_n 1, 1) := by decide +kernel
theorem dX5_isLike_5 : decode cX5_isLike 5 = .ok (.getfield 9, 3) := by decide +kernel
theorem dX5_isLike_8 : decode cX5_isLike 8 = .ok (.if_icmp .ne 36, 3) := by decide +kernel
theorem dX5_isLike_11 : decode cX5_isLike 11 = .ok (.aload_n 0, 1) := by decide +kernel
theorem dX5_isLike_12 : decode cX5_isLike 12 = .ok (.getfield 15, 3) := by decide +kernel
theorem dX5_isLike_15 : decode cX5_isLike 15 = .ok (.aload_n 1, 1) := by decide +kernel
theorem dX5_isLike_16 : decode cX5_isLike 16 = .ok (.getfield 15, 3) := by decide +kernel
theorem dX5_isLike_19 : decode cX5_isLike 19 = .ok (.if_icmp .ne 25, 3) := by decide +kernel
theorem dX5_isLike_22 : decode cX5_isLike 22 = .ok (.aload_n 0, 1) := by decide +kernel
theorem dX5_isLike_23 : decode cX5_isLike 23 = .ok (.getfield 18, 3) := by decide +kernel
theorem dX5_isLike_26 : decode cX5_isLike 26 = .ok (.aload_n 1, 1) := by decide +kernel
theorem dX5_isLike_27 : decode cX5_isLike 27 = .ok (.getfield 18, 3) := by decide +kernel
theorem dX5_isLike_30 : decode cX5_isLike 30 = .ok (.if_icmp .ne 14, 3) := by decide +kernel
theorem dX5_isLike_33 : decode cX5_isLike 33 = .ok (.aload_n 0, 1) := by decide +kernel
theorem dX5_isLike_34 : decode cX5_isLike 34 = .ok (.getfield 31, 3) := by decide +kernel
theorem dX5_isLike_37 : decode cX5_isLike 37 = .ok (.aload_n 1, 1) := by decide +kernel
theorem dX5_isLike_38 : decode cX5_isLike 38 = .ok (.getfield 31, 3) := by decide +kernel
theorem dX5_isLike_41 : decode cX5_isLike 41 = .ok (.if_icmp .eq 5, 3) := by decide +kernel
theorem dX5_isLike_44 : decode cX5_isLike 44 = .ok (.iconst 0, 1) := by decide +kernel
theorem dX5_isLike_45 : decode cX5_isLike 45 = .ok (.ireturn, 1) := by decide +kernel
theorem dX5_isLike_46 : decode cX5_isLike 46 = .ok (.iconst 0, 1) := by decide +kernel
theorem dX5_isLike_47 : decode cX5_isLike 47 = .ok (.istore_n 3, 1) := by decide +kernel
theorem dX5_isLike_48 : decode cX5_isLike 48 = .ok (.iload_n 3, 1) := by decide +kernel
theorem dX5_isLike_49 : decode cX5_isLike 49 = .ok (.iload_n 2, 1) := by decide +kernel
theorem dX5_isLike_50 : decode cX5_isLike 50 = .ok (.if_icmp .ge 34, 3) := by decide +kernel
theorem dX5_isLike_53 : decode cX5_isLike 53 = .ok (.aload_n 0, 1) := by decide +kernel
theorem dX5_isLike_54 : decode cX5_isLike 54 = .ok (.getfield 31, 3) := by decide +kernel
theorem dX5_isLike_57 : decode cX5_isLike 57 = .ok (.ifCond .le 27, 3) := by decide +kernel
theorem dX5_isLike_60 : decode cX5_isLike 60 = .ok (.aload_n 0, 1) := by decide +kernel
theorem dX5_isLike_61 : decode cX5_isLike 61 = .ok (.getfield 34, 3) := by decide +kernel
theorem dX5_isLike_64 : decode cX5_isLike 64 = .ok (.iload_n 3, 1) := by decide +kernel
theorem dX5_isLike_65 : decode cX5_isLike 65 = .ok (.laload, 1) := by decide +kernel
theorem dX5_isLike_66 : decode cX5_isLike 66 = .ok (.aload_n 1, 1) := by decide +kernel
theorem dX5_isLike_67 : decode cX5_isLike 67 = .ok (.getfield 34, 3) := by decide +kernel
theorem dX5_isLike_70 : decode cX5_isLike 70 = .ok (.iload_n 3, 1) := by decide +kernel
theorem dX5_isLike_71 : decode cX5_isLike 71 = .ok (.laload, 1) := by decide +kernel
theorem dX5_isLike_72 : decode cX5_isLike 72 = .ok (.lcmp, 1) := by decide +kernel
theorem dX5_isLike_73 : decode cX5_isLike 73 = .ok (.ifCond .eq 5, 3) := by decide +kernel
theorem dX5_isLike_76 : decode cX5_isLike 76 = .ok (.iconst 0, 1) := by decide +kernel
theorem dX5_isLike_77 : decode cX5_isLike 77 = .ok (.ireturn, 1) := by decide +kernel
theorem dX5_isLike_78 : decode cX5_isLike 78 = .ok (.iinc 3 1, 3) := by decide +kernel
theorem dX5_isLike_81 : decode cX5_isLike 81 = .ok (.goto (-33), 3) := by decide +kernel
theorem dX5_isLike_84 : decode cX5_isLike 84 = .ok (.iconst 1, 1) := by decide +kernel
theorem dX5_isLike_85 : decode cX5_isLike 85 = .ok (.ireturn, 1) := by decide +kernel
theorem dX6_init_0 : decode cX6_init 0 = .ok (.aload_n 0, 1) := by decide +kernel
theorem dX6_init_1 : decode cX6_init 1 = .ok (.invokespecial 3, 3) := by decide +kernel
theorem dX6_init_4 : decode cX6_init 4 = .ok (.aload_n 0, 1) := by decide +kernel
theorem dX6_init_5 : decode cX6_init 5 = .ok (.bipush 8, 2) := by decide +kernel
theorem dX6_init_7 : decode cX6_init 7 = .ok (.newarray .int, 2) := by decide +kernel
theorem dX6_init_9 : decode cX6_init 9 = .ok (.putfield 9, 3) := by decide +kernel
theorem dX6_init_12 : decode cX6_init 12 = .ok (.aload_n 0, 1) := by decide +kernel
theorem dX6_init_13 : decode cX6_init 13 = .ok (.bipush 8, 2) := by decide +kernel
theorem dX6_init_15 : decode cX6_init 15 = .ok (.newarray .boolean, 2) := by decide +kernel
theorem dX6_init_17 : decode cX6_init 17 = .ok (.putfield 15, 3) := by decide +kernel
theorem dX6_init_20 : decode cX6_init 20 = .ok (.aload_n 0, 1) := by decide +kernel
theorem dX6_init_21 : decode cX6_init 21 = .ok (.sipush 320, 3) := by decide +kernel
theorem dX6_init_24 : decode cX6_init 24 = .ok (.newarray .long, 2) := by decide +kernel
theorem dX6_init_26 : decode cX6_init 26 = .ok (.putfield 19, 3) := by decide +kernel
theorem dX6_init_29 : decode cX6_init 29 = .ok (.return_, 1) := by decide +kernel
theorem dX6_make_0 : decode cX6_make 0 = .ok (.aload_n 0, 1) := by decide +kernel
theorem dX6_make_1 : decode cX6_make 1 = .ok (.getfield 9, 3) := by decide +kernel
theorem dX6_make_4 : decode cX6_make 4 = .ok (.iload_n 1, 1) := by decide +kernel
theorem dX6_make_5 : decode cX6_make 5 = .ok (.iload_n 2, 1) := by decide +kernel
theorem dX6_make_6 : decode cX6_make 6 = .ok (.iastore, 1) := by decide +kernel
theorem dX6_make_7 : decode cX6_make 7 = .ok (.aload_n 0, 1) := by decide +kernel
theorem dX6_make_8 : decode cX6_make 8 = .ok (.getfield 15, 3) := by decide +kernel
theorem dX6_make_11 : decode cX6_make 11 = .ok (.iload_n 1, 1) := by decide +kernel
theorem dX6_make_12 : decode cX6_make 12 = .ok (.iload_n 3, 1) := by decide +kernel
theorem dX6_make_13 : decode cX6_make 13 = .ok (.bastore, 1) := by decide +kernel
theorem dX6_make_14 : decode cX6_make 14 = .ok (.iconst 0, 1) := by decide +kernel
theorem dX6_make_15 : decode cX6_make 15 = .ok (.istore 4, 2) := by decide +kernel
theorem dX6_make_17 : decode cX6_make 17 = .ok (.iload 4, 2) := by decide +kernel
theorem dX6_make_19 : decode cX6_make 19 = .ok (.bipush 40, 2) := by decide +kernel
theorem dX6_make_21 : decode cX6_make 21 = .ok (.if_icmp .ge 21, 3) := by decide +kernel
theorem dX6_make_24 : decode cX6_make 24 = .ok (.aload_n 0, 1) := by decide +kernel
theorem dX6_make_25 : decode cX6_make 25 = .ok (.getfield 19, 3) := by decide +kernel
theorem dX6_make_28 : decode cX6_make 28 = .ok (.iload_n 1, 1) := by decide +kernel
theorem dX6_make_29 : decode cX6_make 29 = .ok (.iload 4, 2) := by decide +kernel
theorem dX6_make_31 : decode cX6_make 31 = .ok (.invokestatic 23, 3) := by decide +kernel
theorem dX6_make_34 : decode cX6_make 34 = .ok (.lconst 0, 1) := by decide +kernel
theorem dX6_make_35 : decode cX6_make 35 = .ok (.lastore, 1) := by decide +kernel
theorem dX6_make_36 : decode cX6_make 36 = .ok (.iinc 4 1, 3) := by decide +kernel
theorem dX6_make_39 : decode cX6_make 39 = .ok (.goto (-22), 3) := by decide +kernel
theorem dX6_make_42 : decode cX6_make 42 = .ok (.return_, 1) := by decide +kernel
theorem dX6_drop_0 : decode cX6_drop 0 = .ok (.aload_n 0, 1) := by decide +kernel
theorem dX6_drop_1 : decode cX6_drop 1 = .ok (.getfield 9, 3) := by decide +kernel
theorem dX6_drop_4 : decode cX6_drop 4 = .ok (.iload_n 1, 1) := by decide +kernel
theorem dX6_drop_5 : decode cX6_drop 5 = .ok (.iaload, 1) := by decide +kernel
theorem dX6_drop_6 : decode cX6_drop 6 = .ok (.ifCond .le 7, 3) := by decide +kernel
theorem dX6_drop_9 : decode cX6_drop 9 = .ok (.iconst 1, 1) := by decide +kernel
theorem dX6_drop_10 : decode cX6_drop 10 = .ok (.goto 4, 3) := by decide +kernel
theorem dX6_drop_13 : decode cX6_drop 13 = .ok (.iconst 0, 1) := by decide +kernel
theorem dX6_drop_14 : decode cX6_drop 14 = .ok (.istore_n 2, 1) := by decide +kernel
theorem dX6_drop_15 : decode cX6_drop 15 = .ok (.aload_n 0, 1) := by decide +kernel
theorem dX6_drop_16 : decode cX6_drop 16 = .ok (.getfield 9, 3) := by decide +kernel
theorem dX6_drop_19 : decode cX6_drop 19 = .ok (.iload_n 1, 1) := by decide +kernel
theorem dX6_drop_20 : decode cX6_drop 20 = .ok (.iconst 0, 1) := by decide +kernel
theorem dX6_drop_21 : decode cX6_drop 21 = .ok (.iastore, 1) := by decide +kernel
theorem dX6_drop_22 : decode cX6_drop 22 = .ok (.iload_n 2, 1) := by decide +kernel
theorem dX6_drop_23 : decode cX6_drop 23 = .ok (.ireturn, 1) := by decide +kernel
theorem dX6_placeOf_0 : decode cX6_placeOf 0 = .ok (.iload_n 0, 1) := by decide +kernel
theorem dX6_placeOf_1 : decode cX6_placeOf 1 = .ok (.bipush 40, 2) := by decide +kernel
theorem dX6_placeOf_3 : decode cX6_placeOf 3 = .ok (.imul, 1) := by decide +kernel
theorem dX6_placeOf_4 : decode cX6_placeOf 4 = .ok (.iload_n 1, 1) := by decide +kernel
theorem dX6_placeOf_5 : decode cX6_placeOf 5 = .ok (.iadd, 1) := by decide +kernel
theorem dX6_placeOf_6 : decode cX6_placeOf 6 = .ok (.ireturn, 1) := by decide +kernel
theorem dX6_refusalAt_0 : decode cX6_refusalAt 0 = .ok (.iload_n 1, 1) := by decide +kernel
theorem dX6_refusalAt_1 : decode cX6_refusalAt 1 = .ok (.ifCond .lt 9, 3) := by decide +kernel
theorem dX6_refusalAt_4 : decode cX6_refusalAt 4 = .ok (.iload_n 1, 1) := by decide +kernel
theorem dX6_refusalAt_5 : decode cX6_refusalAt 5 = .ok (.bipush 8, 2) := by decide +kernel
theorem dX6_refusalAt_7 : decode cX6_refusalAt 7 = .ok (.if_icmp .lt 6, 3) := by decide +kernel
theorem dX6_refusalAt_10 : decode cX6_refusalAt 10 = .ok (.bipush (-3), 2) := by decide +kernel
theorem dX6_refusalAt_12 : decode cX6_refusalAt 12 = .ok (.ireturn, 1) := by decide +kernel
theorem dX6_refusalAt_13 : decode cX6_refusalAt 13 = .ok (.aload_n 0, 1) := by decide +kernel
theorem dX6_refusalAt_14 : decode cX6_refusalAt 14 = .ok (.getfield 9, 3) := by decide +kernel
theorem dX6_refusalAt_17 : decode cX6_refusalAt 17 = .ok (.iload_n 1, 1) := by decide +kernel
theorem dX6_refusalAt_18 : decode cX6_refusalAt 18 = .ok (.iaload, 1) := by decide +kernel
theorem dX6_refusalAt_19 : decode cX6_refusalAt 19 = .ok (.ifCond .ne 6, 3) := by decide +kernel
theorem dX6_refusalAt_22 : decode cX6_refusalAt 22 = .ok (.bipush (-2), 2) := by decide +kernel
theorem dX6_refusalAt_24 : decode cX6_refusalAt 24 = .ok (.ireturn, 1) := by decide +kernel
theorem dX6_refusalAt_25 : decode cX6_refusalAt 25 = .ok (.aload_n 0, 1) := by decide +kernel
theorem dX6_refusalAt_26 : decode cX6_refusalAt 26 = .ok (.getfield 15, 3) := by decide +kernel
theorem dX6_refusalAt_29 : decode cX6_refusalAt 29 = .ok (.iload_n 1, 1) := by decide +kernel
theorem dX6_refusalAt_30 : decode cX6_refusalAt 30 = .ok (.baload, 1) := by decide +kernel
theorem dX6_refusalAt_31 : decode cX6_refusalAt 31 = .ok (.ifCond .ne 6, 3) := by decide +kernel
theorem dX6_refusalAt_34 : decode cX6_refusalAt 34 = .ok (.bipush (-5), 2) := by decide +kernel
theorem dX6_refusalAt_36 : decode cX6_refusalAt 36 = .ok (.ireturn, 1) := by decide +kernel
theorem dX6_refusalAt_37 : decode cX6_refusalAt 37 = .ok (.lload_n 2, 1) := by decide +kernel
theorem dX6_refusalAt_38 : decode cX6_refusalAt 38 = .ok (.lconst 0, 1) := by decide +kernel
theorem dX6_refusalAt_39 : decode cX6_refusalAt 39 = .ok (.lcmp, 1) := by decide +kernel
theorem dX6_refusalAt_40 : decode cX6_refusalAt 40 = .ok (.ifCond .lt 15, 3) := by decide +kernel
theorem dX6_refusalAt_43 : decode cX6_refusalAt 43 = .ok (.lload_n 2, 1) := by decide +kernel
theorem dX6_refusalAt_44 : decode cX6_refusalAt 44 = .ok (.aload_n 0, 1) := by decide +kernel
theorem dX6_refusalAt_45 : decode cX6_refusalAt 45 = .ok (.getfield 9, 3) := by decide +kernel
theorem dX6_refusalAt_48 : decode cX6_refusalAt 48 = .ok (.iload_n 1, 1) := by decide +kernel
theorem dX6_refusalAt_49 : decode cX6_refusalAt 49 = .ok (.iaload, 1) := by decide +kernel
theorem dX6_refusalAt_50 : decode cX6_refusalAt 50 = .ok (.i2l, 1) := by decide +kernel
theorem dX6_refusalAt_51 : decode cX6_refusalAt 51 = .ok (.lcmp, 1) := by decide +kernel
theorem dX6_refusalAt_52 : decode cX6_refusalAt 52 = .ok (.ifCond .lt 8, 3) := by decide +kernel
theorem dX6_refusalAt_55 : decode cX6_refusalAt 55 = .ok (.bipush (-3), 2) := by decide +kernel
theorem dX6_refusalAt_57 : decode cX6_refusalAt 57 = .ok (.goto 4, 3) := by decide +kernel
theorem dX6_refusalAt_60 : decode cX6_refusalAt 60 = .ok (.iconst 0, 1) := by decide +kernel
theorem dX6_refusalAt_61 : decode cX6_refusalAt 61 = .ok (.ireturn, 1) := by decide +kernel
theorem dX6_hasRun_0 : decode cX6_hasRun 0 = .ok (.iload_n 2, 1) := by decide +kernel
theorem dX6_hasRun_1 : decode cX6_hasRun 1 = .ok (.ifCond .lt 23, 3) := by decide +kernel
theorem dX6_hasRun_4 : decode cX6_hasRun 4 = .ok (.iload_n 2, 1) := by decide +kernel
theorem dX6_hasRun_5 : decode cX6_hasRun 5 = .ok (.i2l, 1) := by decide +kernel
theorem dX6_hasRun_6 : decode cX6_hasRun 6 = .ok (.iload_n 3, 1) := by decide +kernel
theorem dX6_hasRun_7 : decode cX6_hasRun 7 = .ok (.i2l, 1) := by decide +kernel
theorem dX6_hasRun_8 : decode cX6_hasRun 8 = .ok (.ladd, 1) := by decide +kernel
theorem dX6_hasRun_9 : decode cX6_hasRun 9 = .ok (.aload_n 0, 1) := by decide +kernel
theorem dX6_hasRun_10 : decode cX6_hasRun 10 = .ok (.getfield 9, 3) := by decide +kernel
theorem dX6_hasRun_13 : decode cX6_hasRun 13 = .ok (.iload_n 1, 1) := by decide +kernel
theorem dX6_hasRun_14 : decode cX6_hasRun 14 = .ok (.iaload, 1) := by decide +kernel
theorem dX6_hasRun_15 : decode cX6_hasRun 15 = .ok (.i2l, 1) := by decide +kernel
theorem dX6_hasRun_16 : decode cX6_hasRun 16 = .ok (.lcmp, 1) := by decide +kernel
theorem dX6_hasRun_17 : decode cX6_hasRun 17 = .ok (.ifCond .gt 7, 3) := by decide +kernel
theorem dX6_hasRun_20 : decode cX6_hasRun 20 = .ok (.iconst 1, 1) := by decide +kernel
theorem dX6_hasRun_21 : decode cX6_hasRun 21 = .ok (.goto 4, 3) := by decide +kernel
theorem dX6_hasRun_24 : decode cX6_hasRun 24 = .ok (.iconst 0, 1) := by decide +kernel
theorem dX6_hasRun_25 : decode cX6_hasRun 25 = .ok (.ireturn, 1) := by decide +kernel
theorem dX7_init_0 : decode cX7_init 0 = .ok (.aload_n 0, 1) := by decide +kernel
theorem dX7_init_1 : decode cX7_init 1 = .ok (.invokespecial 3, 3) := by decide +kernel
theorem dX7_init_4 : decode cX7_init 4 = .ok (.aload_n 0, 1) := by decide +kernel
theorem dX7_init_5 : decode cX7_init 5 = .ok (.sipush 3264, 3) := by decide +kernel
theorem dX7_init_8 : decode cX7_init 8 = .ok (.newarray .long, 2) := by decide +kernel
theorem dX7_init_10 : decode cX7_init 10 = .ok (.putfield 9, 3) := by decide +kernel
theorem dX7_init_13 : decode cX7_init 13 = .ok (.aload_n 0, 1) := by decide +kernel
theorem dX7_init_14 : decode cX7_init 14 = .ok (.new 15, 3) := by decide +kernel
theorem dX7_init_17 : decode cX7_init 17 = .ok (.dup, 1) := by decide +kernel
theorem dX7_init_18 : decode cX7_init 18 = .ok (.invokespecial 17, 3) := by decide +kernel
theorem dX7_init_21 : decode cX7_init 21 = .ok (.putfield 18, 3) := by decide +kernel
theorem dX7_init_24 : decode cX7_init 24 = .ok (.aload_n 0, 1) := by decide +kernel
theorem dX7_init_25 : decode cX7_init 25 = .ok (.new 15, 3) := by decide +kernel
theorem dX7_init_28 : decode cX7_init 28 = .ok (.dup, 1) := by decide +kernel
theorem dX7_init_29 : decode cX7_init 29 = .ok (.invokespecial 17, 3) := by decide +kernel
theorem dX7_init_32 : decode cX7_init 32 = .ok (.putfield 22, 3) := by decide +kernel
theorem dX7_init_35 : decode cX7_init 35 = .ok (.aload_n 0, 1) := by decide +kernel
theorem dX7_init_36 : decode cX7_init 36 = .ok (.sipush 320, 3) := by decide +kernel
theorem dX7_init_39 : decode cX7_init 39 = .ok (.newarray .long, 2) := by decide +kernel
theorem dX7_init_41 : decode cX7_init 41 = .ok (.putfield 25, 3) := by decide +kernel
theorem dX7_init_44 : decode cX7_init 44 = .ok (.aload_n 0, 1) := by decide +kernel
theorem dX7_init_45 : decode cX7_init 45 = .ok (.sipush 320, 3) := by decide +kernel
theorem dX7_init_48 : decode cX7_init 48 = .ok (.newarray .long, 2) := by decide +kernel
theorem dX7_init_50 : decode cX7_init 50 = .ok (.putfield 28, 3) := by decide +kernel
theorem dX7_init_53 : decode cX7_init 53 = .ok (.aload_n 0, 1) := by decide +kernel
theorem dX7_init_54 : decode cX7_init 54 = .ok (.aload_n 1, 1) := by decide +kernel
theorem dX7_init_55 : decode cX7_init 55 = .ok (.putfield 31, 3) := by decide +kernel
theorem dX7_init_58 : decode cX7_init 58 = .ok (.aload_n 0, 1) := by decide +kernel
theorem dX7_init_59 : decode cX7_init 59 = .ok (.aload_n 2, 1) := by decide +kernel
theorem dX7_init_60 : decode cX7_init 60 = .ok (.putfield 35, 3) := by decide +kernel
theorem dX7_init_63 : decode cX7_init 63 = .ok (.aload_n 0, 1) := by decide +kernel
theorem dX7_init_64 : decode cX7_init 64 = .ok (.aload_n 3, 1) := by decide +kernel
theorem dX7_init_65 : decode cX7_init 65 = .ok (.putfield 39, 3) := by decide +kernel
theorem dX7_init_68 : decode cX7_init 68 = .ok (.return_, 1) := by decide +kernel
theorem dX7_go_0 : decode cX7_go 0 = .ok (.aload_n 3, 1) := by decide +kernel
theorem dX7_go_1 : decode cX7_go 1 = .ok (.invokevirtual 43, 3) := by decide +kernel
theorem dX7_go_4 : decode cX7_go 4 = .ok (.bipush (-4), 2) := by decide +kernel
theorem dX7_go_6 : decode cX7_go 6 = .ok (.istore 4, 2) := by decide +kernel
theorem dX7_go_8 : decode cX7_go 8 = .ok (.iload 4, 2) := by decide +kernel
theorem dX7_go_10 : decode cX7_go 10 = .ok (.ifCond .ge 32, 3) := by decide +kernel
theorem dX7_go_13 : decode cX7_go 13 = .ok (.aload_n 0, 1) := by decide +kernel
theorem dX7_go_14 : decode cX7_go 14 = .ok (.getfield 31, 3) := by decide +kernel
theorem dX7_go_17 : decode cX7_go 17 = .ok (.getfield 46, 3) := by decide +kernel
theorem dX7_go_20 : decode cX7_go 20 = .ok (.iconst 0, 1) := by decide +kernel
theorem dX7_go_21 : decode cX7_go 21 = .ok (.aload_n 0, 1) := by decide +kernel
theorem dX7_go_22 : decode cX7_go 22 = .ok (.getfield 9, 3) := by decide +kernel
theorem dX7_go_25 : decode cX7_go 25 = .ok (.iconst 0, 1) := by decide +kernel
theorem dX7_go_26 : decode cX7_go 26 = .ok (.iload 4, 2) := by decide +kernel
theorem dX7_go_28 : decode cX7_go 28 = .ok (.invokestatic 51, 3) := by decide +kernel
theorem dX7_go_31 : decode cX7_go 31 = .ok (.bipush 16, 2) := by decide +kernel
theorem dX7_go_33 : decode cX7_go 33 = .ok (.invokestatic 55, 3) := by decide +kernel
theorem dX7_go_36 : decode cX7_go 36 = .ok (.iinc 4 1, 3) := by decide +kernel
theorem dX7_go_39 : decode cX7_go 39 = .ok (.goto (-31), 3) := by decide +kernel
theorem dX7_go_42 : decode cX7_go 42 = .ok (.iload_n 2, 1) := by decide +kernel
theorem dX7_go_43 : decode cX7_go 43 = .ok (.ifCond .eq 23, 3) := by decide +kernel
theorem dX7_go_46 : decode cX7_go 46 = .ok (.iload_n 1, 1) := by decide +kernel
theorem dX7_go_47 : decode cX7_go 47 = .ok (.aload_n 0, 1) := by decide +kernel
theorem dX7_go_48 : decode cX7_go 48 = .ok (.getfield 39, 3) := by decide +kernel
theorem dX7_go_51 : decode cX7_go 51 = .ok (.getfield 61, 3) := by decide +kernel
theorem dX7_go_54 : decode cX7_go 54 = .ok (.if_icmp .lt 12, 3) := by decide +kernel
theorem dX7_go_57 : decode cX7_go 57 = .ok (.aload_n 0, 1) := by decide +kernel
theorem dX7_go_58 : decode cX7_go 58 = .ok (.iload_n 1, 1) := by decide +kernel
theorem dX7_go_59 : decode cX7_go 59 = .ok (.aload_n 3, 1) := by decide +kernel
theorem dX7_go_60 : decode cX7_go 60 = .ok (.invokevirtual 67, 3) := by decide +kernel
theorem dX7_go_63 : decode cX7_go 63 = .ok (.goto 9, 3) := by decide +kernel
theorem dX7_go_66 : decode cX7_go 66 = .ok (.aload_n 0, 1) := by decide +kernel
theorem dX7_go_67 : decode cX7_go 67 = .ok (.iload_n 1, 1) := by decide +kernel
theorem dX7_go_68 : decode cX7_go 68 = .ok (.aload_n 3, 1) := by decide +kernel
theorem dX7_go_69 : decode cX7_go 69 = .ok (.invokevirtual 71, 3) := by decide +kernel
theorem dX7_go_72 : decode cX7_go 72 = .ok (.aload_n 3, 1) := by decide +kernel
theorem dX7_go_73 : decode cX7_go 73 = .ok (.aload_n 3, 1) := by decide +kernel
theorem dX7_go_74 : decode cX7_go 74 = .ok (.getfield 74, 3) := by decide +kernel
theorem dX7_go_77 : decode cX7_go 77 = .ok (.ifCond .ne 7, 3) := by decide +kernel
theorem dX7_go_80 : decode cX7_go 80 = .ok (.iload_n 1, 1) := by decide +kernel
theorem dX7_go_81 : decode cX7_go 81 = .ok (.goto 7, 3) := by decide +kernel
theorem dX7_go_84 : decode cX7_go 84 = .ok (.aload_n 3, 1) := by decide +kernel
theorem dX7_go_85 : decode cX7_go 85 = .ok (.getfield 77, 3) := by decide +kernel
theorem dX7_go_88 : decode cX7_go 88 = .ok (.putfield 80, 3) := by decide +kernel
theorem dX7_go_91 : decode cX7_go 91 = .ok (.aload_n 3, 1) := by decide +kernel
theorem dX7_go_92 : decode cX7_go 92 = .ok (.getfield 80, 3) := by decide +kernel
theorem dX7_go_95 : decode cX7_go 95 = .ok (.ifCond .le 27, 3) := by decide +kernel
theorem dX7_go_98 : decode cX7_go 98 = .ok (.aload_n 0, 1) := by decide +kernel
theorem dX7_go_99 : decode cX7_go 99 = .ok (.getfield 9, 3) := by decide +kernel
theorem dX7_go_102 : decode cX7_go 102 = .ok (.iconst 0, 1) := by decide +kernel
theorem dX7_go_103 : decode cX7_go 103 = .ok (.aload_n 3, 1) := by decide +kernel
theorem dX7_go_104 : decode cX7_go 104 = .ok (.getfield 80, 3) := by decide +kernel
theorem dX7_go_107 : decode cX7_go 107 = .ok (.iconst 1, 1) := by decide +kernel
theorem dX7_go_108 : decode cX7_go 108 = .ok (.isub, 1) := by decide +kernel
theorem dX7_go_109 : decode cX7_go 109 = .ok (.invokestatic 51, 3) := by decide +kernel
theorem dX7_go_112 : decode cX7_go 112 = .ok (.aload_n 3, 1) := by decide +kernel
theorem dX7_go_113 : decode cX7_go 113 = .ok (.getfield 83, 3) := by decide +kernel
theorem dX7_go_116 : decode cX7_go 116 = .ok (.iconst 0, 1) := by decide +kernel
theorem dX7_go_117 : decode cX7_go 117 = .ok (.bipush 16, 2) := by decide +kernel
theorem dX7_go_119 : decode cX7_go 119 = .ok (.invokestatic 55, 3) := by decide +kernel
theorem dX7_go_122 : decode cX7_go 122 = .ok (.return_, 1) := by decide +kernel
theorem dX7_bothAgree_0 : decode cX7_bothAgree 0 = .ok (.aload_n 0, 1) := by decide +kernel
theorem dX7_bothAgree_1 : decode cX7_bothAgree 1 = .ok (.getfield 35, 3) := by decide +kernel
theorem dX7_bothAgree_4 : decode cX7_bothAgree 4 = .ok (.getfield 84, 3) := by decide +kernel
theorem dX7_bothAgree_7 : decode cX7_bothAgree 7 = .ok (.iconst 0, 1) := by decide +kernel
theorem dX7_bothAgree_8 : decode cX7_bothAgree 8 = .ok (.aload_n 0, 1) := by decide +kernel
theorem dX7_bothAgree_9 : decode cX7_bothAgree 9 = .ok (.getfield 25, 3) := by decide +kernel
theorem dX7_bothAgree_12 : decode cX7_bothAgree 12 = .ok (.iconst 0, 1) := by decide +kernel
theorem dX7_bothAgree_13 : decode cX7_bothAgree 13 = .ok (.aload_n 0, 1) := by decide +kernel
theorem dX7_bothAgree_14 : decode cX7_bothAgree 14 = .ok (.getfield 25, 3) := by decide +kernel
theorem dX7_bothAgree_17 : decode cX7_bothAgree 17 = .ok (.arraylength, 1) := by decide +kernel
theorem dX7_bothAgree_18 : decode cX7_bothAgree 18 = .ok (.invokestatic 55, 3) := by decide +kernel
theorem dX7_bothAgree_21 : decode cX7_bothAgree 21 = .ok (.aload_n 0, 1) := by decide +kernel
theorem dX7_bothAgree_22 : decode cX7_bothAgree 22 = .ok (.iload_n 1, 1) := by decide +kernel
theorem dX7_bothAgree_23 : decode cX7_bothAgree 23 = .ok (.iconst 0, 1) := by decide +kernel
theorem dX7_bothAgree_24 : decode cX7_bothAgree 24 = .ok (.aload_n 0, 1) := by decide +kernel
theorem dX7_bothAgree_25 : decode cX7_bothAgree 25 = .ok (.getfield 18, 3) := by decide +kernel
theorem dX7_bothAgree_28 : decode cX7_bothAgree 28 = .ok (.invokevirtual 89, 3) := by decide +kernel
theorem dX7_bothAgree_31 : decode cX7_bothAgree 31 = .ok (.aload_n 0, 1) := by decide +kernel
theorem dX7_bothAgree_32 : decode cX7_bothAgree 32 = .ok (.getfield 35, 3) := by decide +kernel
theorem dX7_bothAgree_35 : decode cX7_bothAgree 35 = .ok (.getfield 84, 3) := by decide +kernel
theorem dX7_bothAgree_38 : decode cX7_bothAgree 38 = .ok (.iconst 0, 1) := by decide +kernel
theorem dX7_bothAgree_39 : decode cX7_bothAgree 39 = .ok (.aload_n 0, 1) := by decide +kernel
theorem dX7_bothAgree_40 : decode cX7_bothAgree 40 = .ok (.getfield 28, 3) := by decide +kernel
theorem dX7_bothAgree_43 : decode cX7_bothAgree 43 = .ok (.iconst 0, 1) := by decide +kernel
theorem dX7_bothAgree_44 : decode cX7_bothAgree 44 = .ok (.aload_n 0, 1) := by decide +kernel
theorem dX7_bothAgree_45 : decode cX7_bothAgree 45 = .ok (.getfield 28, 3) := by decide +kernel
theorem dX7_bothAgree_48 : decode cX7_bothAgree 48 = .ok (.arraylength, 1) := by decide +kernel
theorem dX7_bothAgree_49 : decode cX7_bothAgree 49 = .ok (.invokestatic 55, 3) := by decide +kernel
theorem dX7_bothAgree_52 : decode cX7_bothAgree 52 = .ok (.aload_n 0, 1) := by decide +kernel
theorem dX7_bothAgree_53 : decode cX7_bothAgree 53 = .ok (.getfield 25, 3) := by decide +kernel
theorem dX7_bothAgree_56 : decode cX7_bothAgree 56 = .ok (.iconst 0, 1) := by decide +kernel
theorem dX7_bothAgree_57 : decode cX7_bothAgree 57 = .ok (.aload_n 0, 1) := by decide +kernel
theorem dX7_bothAgree_58 : decode cX7_bothAgree 58 = .ok (.getfield 35, 3) := by decide +kernel
theorem dX7_bothAgree_61 : decode cX7_bothAgree 61 = .ok (.getfield 84, 3) := by decide +kernel
theorem dX7_bothAgree_64 : decode cX7_bothAgree 64 = .ok (.iconst 0, 1) := by decide +kernel
theorem dX7_bothAgree_65 : decode cX7_bothAgree 65 = .ok (.aload_n 0, 1) := by decide +kernel
theorem dX7_bothAgree_66 : decode cX7_bothAgree 66 = .ok (.getfield 25, 3) := by decide +kernel
theorem dX7_bothAgree_69 : decode cX7_bothAgree 69 = .ok (.arraylength, 1) := by decide +kernel
theorem dX7_bothAgree_70 : decode cX7_bothAgree 70 = .ok (.invokestatic 55, 3) := by decide +kernel
theorem dX7_bothAgree_73 : decode cX7_bothAgree 73 = .ok (.aload_n 0, 1) := by decide +kernel
theorem dX7_bothAgree_74 : decode cX7_bothAgree 74 = .ok (.iload_n 1, 1) := by decide +kernel
theorem dX7_bothAgree_75 : decode cX7_bothAgree 75 = .ok (.iconst 1, 1) := by decide +kernel
theorem dX7_bothAgree_76 : decode cX7_bothAgree 76 = .ok (.aload_n 0, 1) := by decide +kernel
theorem dX7_bothAgree_77 : decode cX7_bothAgree 77 = .ok (.getfield 22, 3) := by decide +kernel
theorem dX7_bothAgree_80 : decode cX7_bothAgree 80 = .ok (.invokevirtual 89, 3) := by decide +kernel
theorem dX7_bothAgree_83 : decode cX7_bothAgree 83 = .ok (.aload_n 0, 1) := by decide +kernel
theorem dX7_bothAgree_84 : decode cX7_bothAgree 84 = .ok (.getfield 18, 3) := by decide +kernel
theorem dX7_bothAgree_87 : decode cX7_bothAgree 87 = .ok (.aload_n 0, 1) := by decide +kernel
theorem dX7_bothAgree_88 : decode cX7_bothAgree 88 = .ok (.getfield 22, 3) := by decide +kernel
theorem dX7_bothAgree_91 : decode cX7_bothAgree 91 = .ok (.aload_n 0, 1) := by decide +kernel
theorem dX7_bothAgree_92 : decode cX7_bothAgree 92 = .ok (.getfield 31, 3) := by decide +kernel
theorem dX7_bothAgree_95 : decode cX7_bothAgree 95 = .ok (.getfield 93, 3) := by decide +kernel
theorem dX7_bothAgree_98 : decode cX7_bothAgree 98 = .ok (.invokevirtual 96, 3) := by decide +kernel
theorem dX7_bothAgree_101 : decode cX7_bothAgree 101 = .ok (.ifCond .eq 14, 3) := by decide +kernel
theorem dX7_bothAgree_104 : decode cX7_bothAgree 104 = .ok (.aload_n 0, 1) := by decide +kernel
theorem dX7_bothAgree_105 : decode cX7_bothAgree 105 = .ok (.invokevirtual 100, 3) := by decide +kernel
theorem dX7_bothAgree_108 : decode cX7_bothAgree 108 = .ok (.ifCond .eq 7, 3) := by decide +kernel
theorem dX7_bothAgree_111 : decode cX7_bothAgree 111 = .ok (.iconst 1, 1) := by decide +kernel
theorem dX7_bothAgree_112 : decode cX7_bothAgree 112 = .ok (.goto 4, 3) := by decide +kernel
theorem dX7_bothAgree_115 : decode cX7_bothAgree 115 = .ok (.iconst 0, 1) := by decide +kernel
theorem dX7_bothAgree_116 : decode cX7_bothAgree 116 = .ok (.istore_n 2, 1) := by decide +kernel
theorem dX7_bothAgree_117 : decode cX7_bothAgree 117 = .ok (.aload_n 0, 1) := by decide +kernel
theorem dX7_bothAgree_118 : decode cX7_bothAgree 118 = .ok (.getfield 25, 3) := by decide +kernel
theorem dX7_bothAgree_121 : decode cX7_bothAgree 121 = .ok (.iconst 0, 1) := by decide +kernel
theorem dX7_bothAgree_122 : decode cX7_bothAgree 122 = .ok (.aload_n 0, 1) := by decide +kernel
theorem dX7_bothAgree_123 : decode cX7_bothAgree 123 = .ok (.getfield 35, 3) := by decide +kernel
theorem dX7_bothAgree_126 : decode cX7_bothAgree 126 = .ok (.getfield 84, 3) := by decide +kernel
theorem dX7_bothAgree_129 : decode cX7_bothAgree 129 = .ok (.iconst 0, 1) := by decide +kernel
theorem dX7_bothAgree_130 : decode cX7_bothAgree 130 = .ok (.aload_n 0, 1) := by decide +kernel
theorem dX7_bothAgree_131 : decode cX7_bothAgree 131 = .ok (.getfield 25, 3) := by decide +kernel
theorem dX7_bothAgree_134 : decode cX7_bothAgree 134 = .ok (.arraylength, 1) := by decide +kernel
theorem dX7_bothAgree_135 : decode cX7_bothAgree 135 = .ok (.invokestatic 55, 3) := by decide +kernel
theorem dX7_bothAgree_138 : decode cX7_bothAgree 138 = .ok (.iload_n 2, 1) := by decide +kernel
theorem dX7_bothAgree_139 : decode cX7_bothAgree 139 = .ok (.ireturn, 1) := by decide +kernel
theorem dX7_rowsAreAsOfPlain_0 : decode cX7_rowsAreAsOfPlain 0 = .ok (.iconst 0, 1) := by decide +kernel
theorem dX7_rowsAreAsOfPlain_1 : decode cX7_rowsAreAsOfPlain 1 = .ok (.istore_n 1, 1) := by decide +kernel
theorem dX7_rowsAreAsOfPlain_2 : decode cX7_rowsAreAsOfPlain 2 = .ok (.iload_n 1, 1) := by decide +kernel
theorem dX7_rowsAreAsOfPlain_3 : decode cX7_rowsAreAsOfPlain 3 = .ok (.aload_n 0, 1) := by decide +kernel
theorem dX7_rowsAreAsOfPlain_4 : decode cX7_rowsAreAsOfPlain 4 = .ok (.getfield 28, 3) := by decide +kernel
theorem dX7_rowsAreAsOfPlain_7 : decode cX7_rowsAreAsOfPlain 7 = .ok (.arraylength, 1) := by decide +kernel
theorem dX7_rowsAreAsOfPlain_8 : decode cX7_rowsAreAsOfPlain 8 = .ok (.if_icmp .ge 30, 3) := by decide +kernel
theorem dX7_rowsAreAsOfPlain_11 : decode cX7_rowsAreAsOfPlain 11 = .ok (.aload_n 0, 1) := by decide +kernel
theorem dX7_rowsAreAsOfPlain_12 : decode cX7_rowsAreAsOfPlain 12 = .ok (.getfield 35, 3) := by decide +kernel
theorem dX7_rowsAreAsOfPlain_15 : decode cX7_rowsAreAsOfPlain 15 = .ok (.getfield 84, 3) := by decide +kernel
theorem dX7_rowsAreAsOfPlain_18 : decode cX7_rowsAreAsOfPlain 18 = .ok (.iload_n 1, 1) := by decide +kernel
theorem dX7_rowsAreAsOfPlain_19 : decode cX7_rowsAreAsOfPlain 19 = .ok (.laload, 1) := by decide +kernel
theorem dX7_rowsAreAsOfPlain_20 : decode cX7_rowsAreAsOfPlain 20 = .ok (.aload_n 0, 1) := by decide +kernel
theorem dX7_rowsAreAsOfPlain_21 : decode cX7_rowsAreAsOfPlain 21 = .ok (.getfield 28, 3) := by decide +kernel
theorem dX7_rowsAreAsOfPlain_24 : decode cX7_rowsAreAsOfPlain 24 = .ok (.iload_n 1, 1) := by decide +kernel
theorem dX7_rowsAreAsOfPlain_25 : decode cX7_rowsAreAsOfPlain 25 = .ok (.laload, 1) := by decide +kernel
theorem dX7_rowsAreAsOfPlain_26 : decode cX7_rowsAreAsOfPlain 26 = .ok (.lcmp, 1) := by decide +kernel
theorem dX7_rowsAreAsOfPlain_27 : decode cX7_rowsAreAsOfPlain 27 = .ok (.ifCond .eq 5, 3) := by decide +kernel
theorem dX7_rowsAreAsOfPlain_30 : decode cX7_rowsAreAsOfPlain 30 = .ok (.iconst 0, 1) := by decide +kernel
theorem dX7_rowsAreAsOfPlain_31 : decode cX7_rowsAreAsOfPlain 31 = .ok (.ireturn, 1) := by decide +kernel
theorem dX7_rowsAreAsOfPlain_32 : decode cX7_rowsAreAsOfPlain 32 = .ok (.iinc 1 1, 3) := by decide +kernel
theorem dX7_rowsAreAsOfPlain_35 : decode cX7_rowsAreAsOfPlain 35 = .ok (.goto (-33), 3) := by decide +kernel
theorem dX7_rowsAreAsOfPlain_38 : decode cX7_rowsAreAsOfPlain 38 = .ok (.iconst 1, 1) := by decide +kernel
theorem dX7_rowsAreAsOfPlain_39 : decode cX7_rowsAreAsOfPlain 39 = .ok (.ireturn, 1) := by decide +kernel
theorem dX7_goPlain_0 : decode cX7_goPlain 0 = .ok (.iconst 0, 1) := by decide +kernel
theorem dX7_goPlain_1 : decode cX7_goPlain 1 = .ok (.istore_n 3, 1) := by decide +kernel
theorem dX7_goPlain_2 : decode cX7_goPlain 2 = .ok (.iload_n 3, 1) := by decide +kernel
theorem dX7_goPlain_3 : decode cX7_goPlain 3 = .ok (.iload_n 1, 1) := by decide +kernel
theorem dX7_goPlain_4 : decode cX7_goPlain 4 = .ok (.if_icmp .ge 71, 3) := by decide +kernel
theorem dX7_goPlain_7 : decode cX7_goPlain 7 = .ok (.aload_n 2, 1) := by decide +kernel
theorem dX7_goPlain_8 : decode cX7_goPlain 8 = .ok (.getfield 74, 3) := by decide +kernel
theorem dX7_goPlain_11 : decode cX7_goPlain 11 = .ok (.ifCond .ne 64, 3) := by decide +kernel
theorem dX7_goPlain_14 : decode cX7_goPlain 14 = .ok (.iconst 0, 1) := by decide +kernel
theorem dX7_goPlain_15 : decode cX7_goPlain 15 = .ok (.istore 4, 2) := by decide +kernel
theorem dX7_goPlain_17 : decode cX7_goPlain 17 = .ok (.iload 4, 2) := by decide +kernel
theorem dX7_goPlain_19 : decode cX7_goPlain 19 = .ok (.aload_n 0, 1) := by decide +kernel
theorem dX7_goPlain_20 : decode cX7_goPlain 20 = .ok (.getfield 31, 3) := by decide +kernel
theorem dX7_goPlain_23 : decode cX7_goPlain 23 = .ok (.getfield 93, 3) := by decide +kernel
theorem dX7_goPlain_26 : decode cX7_goPlain 26 = .ok (.if_icmp .ge 43, 3) := by decide +kernel
theorem dX7_goPlain_29 : decode cX7_goPlain 29 = .ok (.aload_n 2, 1) := by decide +kernel
theorem dX7_goPlain_30 : decode cX7_goPlain 30 = .ok (.getfield 74, 3) := by decide +kernel
theorem dX7_goPlain_33 : decode cX7_goPlain 33 = .ok (.ifCond .ne 36, 3) := by decide +kernel
theorem dX7_goPlain_36 : decode cX7_goPlain 36 = .ok (.aload_n 0, 1) := by decide +kernel
theorem dX7_goPlain_37 : decode cX7_goPlain 37 = .ok (.iload 4, 2) := by decide +kernel
theorem dX7_goPlain_39 : decode cX7_goPlain 39 = .ok (.iload_n 3, 1) := by decide +kernel
theorem dX7_goPlain_40 : decode cX7_goPlain 40 = .ok (.aload_n 2, 1) := by decide +kernel
theorem dX7_goPlain_41 : decode cX7_goPlain 41 = .ok (.invokevirtual 104, 3) := by decide +kernel
theorem dX7_goPlain_44 : decode cX7_goPlain 44 = .ok (.aload_n 2, 1) := by decide +kernel
theorem dX7_goPlain_45 : decode cX7_goPlain 45 = .ok (.dup, 1) := by decide +kernel
theorem dX7_goPlain_46 : decode cX7_goPlain 46 = .ok (.getfield 108, 3) := by decide +kernel
theorem dX7_goPlain_49 : decode cX7_goPlain 49 = .ok (.aload_n 0, 1) := by decide +kernel
theorem dX7_goPlain_50 : decode cX7_goPlain 50 = .ok (.getfield 31, 3) := by decide +kernel
theorem dX7_goPlain_53 : decode cX7_goPlain 53 = .ok (.getfield 111, 3) := by decide +kernel
theorem dX7_goPlain_56 : decode cX7_goPlain 56 = .ok (.iload 4, 2) := by decide +kernel
theorem dX7_goPlain_58 : decode cX7_goPlain 58 = .ok (.iaload, 1) := by decide +kernel
theorem dX7_goPlain_59 : decode cX7_goPlain 59 = .ok (.iadd, 1) := by decide +kernel
theorem dX7_goPlain_60 : decode cX7_goPlain 60 = .ok (.putfield 108, 3) := by decide +kernel
theorem dX7_goPlain_63 : decode cX7_goPlain 63 = .ok (.iinc 4 1, 3) := by decide +kernel
theorem dX7_goPlain_66 : decode cX7_goPlain 66 = .ok (.goto (-49), 3) := by decide +kernel
theorem dX7_goPlain_69 : decode cX7_goPlain 69 = .ok (.iinc 3 1, 3) := by decide +kernel
theorem dX7_goPlain_72 : decode cX7_goPlain 72 = .ok (.goto (-70), 3) := by decide +kernel
theorem dX7_goPlain_75 : decode cX7_goPlain 75 = .ok (.return_, 1) := by decide +kernel
theorem dX7_goByTicks_0 : decode cX7_goByTicks 0 = .ok (.aload_n 2, 1) := by decide +kernel
theorem dX7_goByTicks_1 : decode cX7_goByTicks 1 = .ok (.iconst 1, 1) := by decide +kernel
theorem dX7_goByTicks_2 : decode cX7_goByTicks 2 = .ok (.putfield 115, 3) := by decide +kernel
theorem dX7_goByTicks_5 : decode cX7_goByTicks 5 = .ok (.iconst 0, 1) := by decide +kernel
theorem dX7_goByTicks_6 : decode cX7_goByTicks 6 = .ok (.istore_n 3, 1) := by decide +kernel
theorem dX7_goByTicks_7 : decode cX7_goByTicks 7 = .ok (.iload_n 3, 1) := by decide +kernel
theorem dX7_goByTicks_8 : decode cX7_goByTicks 8 = .ok (.iload_n 1, 1) := by decide +kernel
theorem dX7_goByTicks_9 : decode cX7_goByTicks 9 = .ok (.aload_n 0, 1) := by decide +kernel
theorem dX7_goByTicks_10 : decode cX7_goByTicks 10 = .ok (.getfield 39, 3) := by decide +kernel
theorem dX7_goByTicks_13 : decode cX7_goByTicks 13 = .ok (.getfield 61, 3) := by decide +kernel
theorem dX7_goByTicks_16 : decode cX7_goByTicks 16 = .ok (.iadd, 1) := by decide +kernel
theorem dX7_goByTicks_17 : decode cX7_goByTicks 17 = .ok (.iconst 1, 1) := by decide +kernel
theorem dX7_goByTicks_18 : decode cX7_goByTicks 18 = .ok (.isub, 1) := by decide +kernel
theorem dX7_goByTicks_19 : decode cX7_goByTicks 19 = .ok (.if_icmp .ge 113, 3) := by decide +kernel
theorem dX7_goByTicks_22 : decode cX7_goByTicks 22 = .ok (.iconst 0, 1) := by decide +kernel
theorem dX7_goByTicks_23 : decode cX7_goByTicks 23 = .ok (.istore 4, 2) := by decide +kernel
theorem dX7_goByTicks_25 : decode cX7_goByTicks 25 = .ok (.iload 4, 2) := by decide +kernel
theorem dX7_goByTicks_27 : decode cX7_goByTicks 27 = .ok (.aload_n 0, 1) := by decide +kernel
theorem dX7_goByTicks_28 : decode cX7_goByTicks 28 = .ok (.getfield 31, 3) := by decide +kernel
theorem dX7_goByTicks_31 : decode cX7_goByTicks 31 = .ok (.getfield 93, 3) := by decide +kernel
theorem dX7_goByTicks_34 : decode cX7_goByTicks 34 = .ok (.if_icmp .ge 92, 3) := by decide +kernel
theorem dX7_goByTicks_37 : decode cX7_goByTicks 37 = .ok (.aload_n 0, 1) := by decide +kernel
theorem dX7_goByTicks_38 : decode cX7_goByTicks 38 = .ok (.getfield 39, 3) := by decide +kernel
theorem dX7_goByTicks_41 : decode cX7_goByTicks 41 = .ok (.getfield 119, 3) := by decide +kernel
theorem dX7_goByTicks_44 : decode cX7_goByTicks 44 = .ok (.iload 4, 2) := by decide +kernel
theorem dX7_goByTicks_46 : decode cX7_goByTicks 46 = .ok (.iaload, 1) := by decide +kernel
theorem dX7_goByTicks_47 : decode cX7_goByTicks 47 = .ok (.istore 5, 2) := by decide +kernel
theorem dX7_goByTicks_49 : decode cX7_goByTicks 49 = .ok (.iload_n 3, 1) := by decide +kernel
theorem dX7_goByTicks_50 : decode cX7_goByTicks 50 = .ok (.aload_n 0, 1) := by decide +kernel
theorem dX7_goByTicks_51 : decode cX7_goByTicks 51 = .ok (.getfield 39, 3) := by decide +kernel
theorem dX7_goByTicks_54 : decode cX7_goByTicks 54 = .ok (.getfield 122, 3) := by decide +kernel
theorem dX7_goByTicks_57 : decode cX7_goByTicks 57 = .ok (.iload 5, 2) := by decide +kernel
theorem dX7_goByTicks_59 : decode cX7_goByTicks 59 = .ok (.iaload, 1) := by decide +kernel
theorem dX7_goByTicks_60 : decode cX7_goByTicks 60 = .ok (.isub, 1) := by decide +kernel
theorem dX7_goByTicks_61 : decode cX7_goByTicks 61 = .ok (.istore 6, 2) := by decide +kernel
theorem dX7_goByTicks_63 : decode cX7_goByTicks 63 = .ok (.iload 6, 2) := by decide +kernel
theorem dX7_goByTicks_65 : decode cX7_goByTicks 65 = .ok (.ifCond .lt 55, 3) := by decide +kernel
theorem dX7_goByTicks_68 : decode cX7_goByTicks 68 = .ok (.iload 6, 2) := by decide +kernel
theorem dX7_goByTicks_70 : decode cX7_goByTicks 70 = .ok (.iload_n 1, 1) := by decide +kernel
theorem dX7_goByTicks_71 : decode cX7_goByTicks 71 = .ok (.if_icmp .ge 49, 3) := by decide +kernel
theorem dX7_goByTicks_74 : decode cX7_goByTicks 74 = .ok (.aload_n 2, 1) := by decide +kernel
theorem dX7_goByTicks_75 : decode cX7_goByTicks 75 = .ok (.iload 5, 2) := by decide +kernel
theorem dX7_goByTicks_77 : decode cX7_goByTicks 77 = .ok (.iload 6, 2) := by decide +kernel
theorem dX7_goByTicks_79 : decode cX7_goByTicks 79 = .ok (.invokevirtual 125, 3) := by decide +kernel
theorem dX7_goByTicks_82 : decode cX7_goByTicks 82 = .ok (.ifCond .ne 38, 3) := by decide +kernel
theorem dX7_goByTicks_85 : decode cX7_goByTicks 85 = .ok (.aload_n 0, 1) := by decide +kernel
theorem dX7_goByTicks_86 : decode cX7_goByTicks 86 = .ok (.iload 5, 2) := by decide +kernel
theorem dX7_goByTicks_88 : decode cX7_goByTicks 88 = .ok (.iload 6, 2) := by decide +kernel
theorem dX7_goByTicks_90 : decode cX7_goByTicks 90 = .ok (.aload_n 2, 1) := by decide +kernel
theorem dX7_goByTicks_91 : decode cX7_goByTicks 91 = .ok (.invokevirtual 104, 3) := by decide +kernel
theorem dX7_goByTicks_94 : decode cX7_goByTicks 94 = .ok (.aload_n 2, 1) := by decide +kernel
theorem dX7_goByTicks_95 : decode cX7_goByTicks 95 = .ok (.iload_n 3, 1) := by decide +kernel
theorem dX7_goByTicks_96 : decode cX7_goByTicks 96 = .ok (.aload_n 0, 1) := by decide +kernel
theorem dX7_goByTicks_97 : decode cX7_goByTicks 97 = .ok (.getfield 39, 3) := by decide +kernel
theorem dX7_goByTicks_100 : decode cX7_goByTicks 100 = .ok (.getfield 129, 3) := by decide +kernel
theorem dX7_goByTicks_103 : decode cX7_goByTicks 103 = .ok (.imul, 1) := by decide +kernel
theorem dX7_goByTicks_104 : decode cX7_goByTicks 104 = .ok (.aload_n 0, 1) := by decide +kernel
theorem dX7_goByTicks_105 : decode cX7_goByTicks 105 = .ok (.getfield 39, 3) := by decide +kernel
theorem dX7_goByTicks_108 : decode cX7_goByTicks 108 = .ok (.getfield 132, 3) := by decide +kernel
theorem dX7_goByTicks_111 : decode cX7_goByTicks 111 = .ok (.iload 5, 2) := by decide +kernel
theorem dX7_goByTicks_113 : decode cX7_goByTicks 113 = .ok (.iaload, 1) := by decide +kernel
theorem dX7_goByTicks_114 : decode cX7_goByTicks 114 = .ok (.iadd, 1) := by decide +kernel
theorem dX7_goByTicks_115 : decode cX7_goByTicks 115 = .ok (.iconst 1, 1) := by decide +kernel
theorem dX7_goByTicks_116 : decode cX7_goByTicks 116 = .ok (.iadd, 1) := by decide +kernel
theorem dX7_goByTicks_117 : decode cX7_goByTicks 117 = .ok (.putfield 108, 3) := by decide +kernel
theorem dX7_goByTicks_120 : decode cX7_goByTicks 120 = .ok (.iinc 4 1, 3) := by decide +kernel
theorem dX7_goByTicks_123 : decode cX7_goByTicks 123 = .ok (.goto (-98), 3) := by decide +kernel
theorem dX7_goByTicks_126 : decode cX7_goByTicks 126 = .ok (.iinc 3 1, 3) := by decide +kernel
theorem dX7_goByTicks_129 : decode cX7_goByTicks 129 = .ok (.goto (-122), 3) := by decide +kernel
theorem dX7_goByTicks_132 : decode cX7_goByTicks 132 = .ok (.return_, 1) := by decide +kernel
theorem dX7_begin_0 : decode cX7_begin 0 = .ok (.aload_n 3, 1) := by decide +kernel
theorem dX7_begin_1 : decode cX7_begin 1 = .ok (.dup, 1) := by decide +kernel
theorem dX7_begin_2 : decode cX7_begin 2 = .ok (.getfield 135, 3) := by decide +kernel
theorem dX7_begin_5 : decode cX7_begin 5 = .ok (.iconst 1, 1) := by decide +kernel
theorem dX7_begin_6 : decode cX7_begin 6 = .ok (.iadd, 1) := by decide +kernel
theorem dX7_begin_7 : decode cX7_begin 7 = .ok (.putfield 135, 3) := by decide +kernel
theorem dX7_begin_10 : decode cX7_begin 10 = .ok (.aload_n 0, 1) := by decide +kernel
theorem dX7_begin_11 : decode cX7_begin 11 = .ok (.iload_n 1, 1) := by decide +kernel
theorem dX7_begin_12 : decode cX7_begin 12 = .ok (.iload_n 2, 1) := by decide +kernel
theorem dX7_begin_13 : decode cX7_begin 13 = .ok (.invokevirtual 138, 3) := by decide +kernel
theorem dX7_begin_16 : decode cX7_begin 16 = .ok (.istore 4, 2) := by decide +kernel
theorem dX7_begin_18 : decode cX7_begin 18 = .ok (.iload 4, 2) := by decide +kernel
theorem dX7_begin_20 : decode cX7_begin 20 = .ok (.ifCond .eq 14, 3) := by decide +kernel
theorem dX7_begin_23 : decode cX7_begin 23 = .ok (.aload_n 3, 1) := by decide +kernel
theorem dX7_begin_24 : decode cX7_begin 24 = .ok (.iload 4, 2) := by decide +kernel
theorem dX7_begin_26 : decode cX7_begin 26 = .ok (.iload_n 1, 1) := by decide +kernel
theorem dX7_begin_27 : decode cX7_begin 27 = .ok (.iload_n 2, 1) := by decide +kernel
theorem dX7_begin_28 : decode cX7_begin 28 = .ok (.invokevirtual 141, 3) := by decide +kernel
theorem dX7_begin_31 : decode cX7_begin 31 = .ok (.goto 19, 3) := by decide +kernel
theorem dX7_begin_34 : decode cX7_begin 34 = .ok (.aload_n 0, 1) := by decide +kernel
theorem dX7_begin_35 : decode cX7_begin 35 = .ok (.getfield 9, 3) := by decide +kernel
theorem dX7_begin_38 : decode cX7_begin 38 = .ok (.iload_n 1, 1) := by decide +kernel
theorem dX7_begin_39 : decode cX7_begin 39 = .ok (.iload_n 2, 1) := by decide +kernel
theorem dX7_begin_40 : decode cX7_begin 40 = .ok (.invokestatic 51, 3) := by decide +kernel
theorem dX7_begin_43 : decode cX7_begin 43 = .ok (.aload_n 0, 1) := by decide +kernel
theorem dX7_begin_44 : decode cX7_begin 44 = .ok (.iload_n 1, 1) := by decide +kernel
theorem dX7_begin_45 : decode cX7_begin 45 = .ok (.iload_n 2, 1) := by decide +kernel
theorem dX7_begin_46 : decode cX7_begin 46 = .ok (.invokevirtual 145, 3) := by decide +kernel
theorem dX7_begin_49 : decode cX7_begin 49 = .ok (.lastore, 1) := by decide +kernel
theorem dX7_begin_50 : decode cX7_begin 50 = .ok (.return_, 1) := by decide +kernel
theorem dX7_refusalOf_0 : decode cX7_refusalOf 0 = .ok (.aload_n 0, 1) := by decide +kernel
theorem dX7_refusalOf_1 : decode cX7_refusalOf 1 = .ok (.getfield 31, 3) := by decide +kernel
theorem dX7_refusalOf_4 : decode cX7_refusalOf 4 = .ok (.iload_n 1, 1) := by decide +kernel
theorem dX7_refusalOf_5 : decode cX7_refusalOf 5 = .ok (.invokevirtual 149, 3) := by decide +kernel
theorem dX7_refusalOf_8 : decode cX7_refusalOf 8 = .ok (.ifCond .eq 27, 3) := by decide +kernel
theorem dX7_refusalOf_11 : decode cX7_refusalOf 11 = .ok (.aload_n 0, 1) := by decide +kernel
theorem dX7_refusalOf_12 : decode cX7_refusalOf 12 = .ok (.getfield 35, 3) := by decide +kernel
theorem dX7_refusalOf_15 : decode cX7_refusalOf 15 = .ok (.aload_n 0, 1) := by decide +kernel
theorem dX7_refusalOf_16 : decode cX7_refusalOf 16 = .ok (.getfield 31, 3) := by decide +kernel
theorem dX7_refusalOf_19 : decode cX7_refusalOf 19 = .ok (.getfield 153, 3) := by decide +kernel
theorem dX7_refusalOf_22 : decode cX7_refusalOf 22 = .ok (.iload_n 1, 1) := by decide +kernel
theorem dX7_refusalOf_23 : decode cX7_refusalOf 23 = .ok (.iaload, 1) := by decide +kernel
theorem dX7_refusalOf_24 : decode cX7_refusalOf 24 = .ok (.aload_n 0, 1) := by decide +kernel
theorem dX7_refusalOf_25 : decode cX7_refusalOf 25 = .ok (.iload_n 1, 1) := by decide +kernel
theorem dX7_refusalOf_26 : decode cX7_refusalOf 26 = .ok (.iconst 0, 1) := by decide +kernel
theorem dX7_refusalOf_27 : decode cX7_refusalOf 27 = .ok (.iload_n 2, 1) := by decide +kernel
theorem dX7_refusalOf_28 : decode cX7_refusalOf 28 = .ok (.invokevirtual 156, 3) := by decide +kernel
theorem dX7_refusalOf_31 : decode cX7_refusalOf 31 = .ok (.invokevirtual 160, 3) := by decide +kernel
theorem dX7_refusalOf_34 : decode cX7_refusalOf 34 = .ok (.ireturn, 1) := by decide +kernel
theorem dX7_refusalOf_35 : decode cX7_refusalOf 35 = .ok (.aload_n 0, 1) := by decide +kernel
theorem dX7_refusalOf_36 : decode cX7_refusalOf 36 = .ok (.getfield 31, 3) := by decide +kernel
theorem dX7_refusalOf_39 : decode cX7_refusalOf 39 = .ok (.getfield 164, 3) := by decide +kernel
theorem dX7_refusalOf_42 : decode cX7_refusalOf 42 = .ok (.iload_n 1, 1) := by decide +kernel
theorem dX7_refusalOf_43 : decode cX7_refusalOf 43 = .ok (.iaload, 1) := by decide +kernel
theorem dX7_refusalOf_44 : decode cX7_refusalOf 44 = .ok (.iconst 3, 1) := by decide +kernel
theorem dX7_refusalOf_45 : decode cX7_refusalOf 45 = .ok (.if_icmp .ne 20, 3) := by decide +kernel
theorem dX7_refusalOf_48 : decode cX7_refusalOf 48 = .ok (.aload_n 0, 1) := by decide +kernel
theorem dX7_refusalOf_49 : decode cX7_refusalOf 49 = .ok (.iload_n 1, 1) := by decide +kernel
theorem dX7_refusalOf_50 : decode cX7_refusalOf 50 = .ok (.iconst 1, 1) := by decide +kernel
theorem dX7_refusalOf_51 : decode cX7_refusalOf 51 = .ok (.iload_n 2, 1) := by decide +kernel
theorem dX7_refusalOf_52 : decode cX7_refusalOf 52 = .ok (.invokevirtual 156, 3) := by decide +kernel
theorem dX7_refusalOf_55 : decode cX7_refusalOf 55 = .ok (.lconst 0, 1) := by decide +kernel
theorem dX7_refusalOf_56 : decode cX7_refusalOf 56 = .ok (.lcmp, 1) := by decide +kernel
theorem dX7_refusalOf_57 : decode cX7_refusalOf 57 = .ok (.ifCond .ne 8, 3) := by decide +kernel
theorem dX7_refusalOf_60 : decode cX7_refusalOf 60 = .ok (.bipush (-8), 2) := by decide +kernel
theorem dX7_refusalOf_62 : decode cX7_refusalOf 62 = .ok (.goto 4, 3) := by decide +kernel
theorem dX7_refusalOf_65 : decode cX7_refusalOf 65 = .ok (.iconst 0, 1) := by decide +kernel
theorem dX7_refusalOf_66 : decode cX7_refusalOf 66 = .ok (.ireturn, 1) := by decide +kernel
theorem dX7_endOf_0 : decode cX7_endOf 0 = .ok (.aload_n 0, 1) := by decide +kernel
theorem dX7_endOf_1 : decode cX7_endOf 1 = .ok (.getfield 31, 3) := by decide +kernel
theorem dX7_endOf_4 : decode cX7_endOf 4 = .ok (.getfield 164, 3) := by decide +kernel
theorem dX7_endOf_7 : decode cX7_endOf 7 = .ok (.iload_n 1, 1) := by decide +kernel
theorem dX7_endOf_8 : decode cX7_endOf 8 = .ok (.iaload, 1) := by decide +kernel
theorem dX7_endOf_9 : decode cX7_endOf 9 = .ok (.tableswitch 160 0 5 #[39, 49, 65, 81, 99, 128], 39) := by decide +kernel
theorem dX7_endOf_48 : decode cX7_endOf 48 = .ok (.aload_n 0, 1) := by decide +kernel
theorem dX7_endOf_49 : decode cX7_endOf 49 = .ok (.getfield 31, 3) := by decide +kernel
theorem dX7_endOf_52 : decode cX7_endOf 52 = .ok (.getfield 167, 3) := by decide +kernel
theorem dX7_endOf_55 : decode cX7_endOf 55 = .ok (.iload_n 1, 1) := by decide +kernel
theorem dX7_endOf_56 : decode cX7_endOf 56 = .ok (.laload, 1) := by decide +kernel
theorem dX7_endOf_57 : decode cX7_endOf 57 = .ok (.lreturn, 1) := by decide +kernel
theorem dX7_endOf_58 : decode cX7_endOf 58 = .ok (.aload_n 0, 1) := by decide +kernel
theorem dX7_endOf_59 : decode cX7_endOf 59 = .ok (.iload_n 1, 1) := by decide +kernel
theorem dX7_endOf_60 : decode cX7_endOf 60 = .ok (.iconst 0, 1) := by decide +kernel
theorem dX7_endOf_61 : decode cX7_endOf 61 = .ok (.iload_n 2, 1) := by decide +kernel
theorem dX7_endOf_62 : decode cX7_endOf 62 = .ok (.invokevirtual 156, 3) := by decide +kernel
theorem dX7_endOf_65 : decode cX7_endOf 65 = .ok (.aload_n 0, 1) := by decide +kernel
theorem dX7_endOf_66 : decode cX7_endOf 66 = .ok (.iload_n 1, 1) := by decide +kernel
theorem dX7_endOf_67 : decode cX7_endOf 67 = .ok (.iconst 1, 1) := by decide +kernel
theorem dX7_endOf_68 : decode cX7_endOf 68 = .ok (.iload_n 2, 1) := by decide +kernel
theorem dX7_endOf_69 : decode cX7_endOf 69 = .ok (.invokevirtual 156, 3) := by decide +kernel
theorem dX7_endOf_72 : decode cX7_endOf 72 = .ok (.ladd, 1) := by decide +kernel
theorem dX7_endOf_73 : decode cX7_endOf 73 = .ok (.lreturn, 1) := by decide +kernel
theorem dX7_endOf_74 : decode cX7_endOf 74 = .ok (.aload_n 0, 1) := by decide +kernel
theorem dX7_endOf_75 : decode cX7_endOf 75 = .ok (.iload_n 1, 1) := by decide +kernel
theorem dX7_endOf_76 : decode cX7_endOf 76 = .ok (.iconst 0, 1) := by decide +kernel
theorem dX7_endOf_77 : decode cX7_endOf 77 = .ok (.iload_n 2, 1) := by decide +kernel
theorem dX7_endOf_78 : decode cX7_endOf 78 = .ok (.invokevirtual 156, 3) := by decide +kernel
theorem dX7_endOf_81 : decode cX7_endOf 81 = .ok (.aload_n 0, 1) := by decide +kernel
theorem dX7_endOf_82 : decode cX7_endOf 82 = .ok (.iload_n 1, 1) := by decide +kernel
theorem dX7_endOf_83 : decode cX7_endOf 83 = .ok (.iconst 1, 1) := by decide +kernel
theorem dX7_endOf_84 : decode cX7_endOf 84 = .ok (.iload_n 2, 1) := by decide +kernel
theorem dX7_endOf_85 : decode cX7_endOf 85 = .ok (.invokevirtual 156, 3) := by decide +kernel
theorem dX7_endOf_88 : decode cX7_endOf 88 = .ok (.lmul, 1) := by decide +kernel
theorem dX7_endOf_89 : decode cX7_endOf 89 = .ok (.lreturn, 1) := by decide +kernel
theorem dX7_endOf_90 : decode cX7_endOf 90 = .ok (.aload_n 0, 1) := by decide +kernel
theorem dX7_endOf_91 : decode cX7_endOf 91 = .ok (.iload_n 1, 1) := by decide +kernel
theorem dX7_endOf_92 : decode cX7_endOf 92 = .ok (.iconst 0, 1) := by decide +kernel
theorem dX7_endOf_93 : decode cX7_endOf 93 = .ok (.iload_n 2, 1) := by decide +kernel
theorem dX7_endOf_94 : decode cX7_endOf 94 = .ok (.invokevirtual 156, 3) := by decide +kernel
theorem dX7_endOf_97 : decode cX7_endOf 97 = .ok (.aload_n 0, 1) := by decide +kernel
theorem dX7_endOf_98 : decode cX7_endOf 98 = .ok (.iload_n 1, 1) := by decide +kernel
theorem dX7_endOf_99 : decode cX7_endOf 99 = .ok (.iconst 1, 1) := by decide +kernel
theorem dX7_endOf_100 : decode cX7_endOf 100 = .ok (.iload_n 2, 1) := by decide +kernel
theorem dX7_endOf_101 : decode cX7_endOf 101 = .ok (.invokevirtual 156, 3) := by decide +kernel
theorem dX7_endOf_104 : decode cX7_endOf 104 = .ok (.invokestatic 170, 3) := by decide +kernel
theorem dX7_endOf_107 : decode cX7_endOf 107 = .ok (.lreturn, 1) := by decide +kernel
theorem dX7_endOf_108 : decode cX7_endOf 108 = .ok (.aload_n 0, 1) := by decide +kernel
theorem dX7_endOf_109 : decode cX7_endOf 109 = .ok (.getfield 35, 3) := by decide +kernel
theorem dX7_endOf_112 : decode cX7_endOf 112 = .ok (.getfield 84, 3) := by decide +kernel
theorem dX7_endOf_115 : decode cX7_endOf 115 = .ok (.aload_n 0, 1) := by decide +kernel
theorem dX7_endOf_116 : decode cX7_endOf 116 = .ok (.getfield 31, 3) := by decide +kernel
theorem dX7_endOf_119 : decode cX7_endOf 119 = .ok (.getfield 153, 3) := by decide +kernel
theorem dX7_endOf_122 : decode cX7_endOf 122 = .ok (.iload_n 1, 1) := by decide +kernel
theorem dX7_endOf_123 : decode cX7_endOf 123 = .ok (.iaload, 1) := by decide +kernel
theorem dX7_endOf_124 : decode cX7_endOf 124 = .ok (.aload_n 0, 1) := by decide +kernel
theorem dX7_endOf_125 : decode cX7_endOf 125 = .ok (.iload_n 1, 1) := by decide +kernel
theorem dX7_endOf_126 : decode cX7_endOf 126 = .ok (.iconst 0, 1) := by decide +kernel
theorem dX7_endOf_127 : decode cX7_endOf 127 = .ok (.iload_n 2, 1) := by decide +kernel
theorem dX7_endOf_128 : decode cX7_endOf 128 = .ok (.invokevirtual 156, 3) := by decide +kernel
theorem dX7_endOf_131 : decode cX7_endOf 131 = .ok (.l2i, 1) := by decide +kernel
theorem dX7_endOf_132 : decode cX7_endOf 132 = .ok (.invokestatic 174, 3) := by decide +kernel
theorem dX7_endOf_135 : decode cX7_endOf 135 = .ok (.laload, 1) := by decide +kernel
theorem dX7_endOf_136 : decode cX7_endOf 136 = .ok (.lreturn, 1) := by decide +kernel
theorem dX7_endOf_137 : decode cX7_endOf 137 = .ok (.aload_n 0, 1) := by decide +kernel
theorem dX7_endOf_138 : decode cX7_endOf 138 = .ok (.aload_n 0, 1) := by decide +kernel
theorem dX7_endOf_139 : decode cX7_endOf 139 = .ok (.getfield 31, 3) := by decide +kernel
theorem dX7_endOf_142 : decode cX7_endOf 142 = .ok (.getfield 153, 3) := by decide +kernel
theorem dX7_endOf_145 : decode cX7_endOf 145 = .ok (.iload_n 1, 1) := by decide +kernel
theorem dX7_endOf_146 : decode cX7_endOf 146 = .ok (.iaload, 1) := by decide +kernel
theorem dX7_endOf_147 : decode cX7_endOf 147 = .ok (.aload_n 0, 1) := by decide +kernel
theorem dX7_endOf_148 : decode cX7_endOf 148 = .ok (.iload_n 1, 1) := by decide +kernel
theorem dX7_endOf_149 : decode cX7_endOf 149 = .ok (.iconst 0, 1) := by decide +kernel
theorem dX7_endOf_150 : decode cX7_endOf 150 = .ok (.iload_n 2, 1) := by decide +kernel
theorem dX7_endOf_151 : decode cX7_endOf 151 = .ok (.invokevirtual 156, 3) := by decide +kernel
theorem dX7_endOf_154 : decode cX7_endOf 154 = .ok (.l2i, 1) := by decide +kernel
theorem dX7_endOf_155 : decode cX7_endOf 155 = .ok (.invokestatic 174, 3) := by decide +kernel
theorem dX7_endOf_158 : decode cX7_endOf 158 = .ok (.aload_n 0, 1) := by decide +kernel
theorem dX7_endOf_159 : decode cX7_endOf 159 = .ok (.iload_n 1, 1) := by decide +kernel
theorem dX7_endOf_160 : decode cX7_endOf 160 = .ok (.iconst 1, 1) := by decide +kernel
theorem dX7_endOf_161 : decode cX7_endOf 161 = .ok (.iload_n 2, 1) := by decide +kernel
theorem dX7_endOf_162 : decode cX7_endOf 162 = .ok (.invokevirtual 156, 3) := by decide +kernel
theorem dX7_endOf_165 : decode cX7_endOf 165 = .ok (.invokevirtual 175, 3) := by decide +kernel
theorem dX7_endOf_168 : decode cX7_endOf 168 = .ok (.lreturn, 1) := by decide +kernel
theorem dX7_endOf_169 : decode cX7_endOf 169 = .ok (.aload_n 0, 1) := by decide +kernel
theorem dX7_endOf_170 : decode cX7_endOf 170 = .ok (.iload_n 1, 1) := by decide +kernel
theorem dX7_endOf_171 : decode cX7_endOf 171 = .ok (.iconst 0, 1) := by decide +kernel
theorem dX7_endOf_172 : decode cX7_endOf 172 = .ok (.iload_n 2, 1) := by decide +kernel
theorem dX7_endOf_173 : decode cX7_endOf 173 = .ok (.invokevirtual 156, 3) := by decide +kernel
theorem dX7_endOf_176 : decode cX7_endOf 176 = .ok (.lconst 0, 1) := by decide +kernel
theorem dX7_endOf_177 : decode cX7_endOf 177 = .ok (.lcmp, 1) := by decide +kernel
theorem dX7_endOf_178 : decode cX7_endOf 178 = .ok (.ifCond .eq 13, 3) := by decide +kernel
theorem dX7_endOf_181 : decode cX7_endOf 181 = .ok (.aload_n 0, 1) := by decide +kernel
theorem dX7_endOf_182 : decode cX7_endOf 182 = .ok (.iload_n 1, 1) := by decide +kernel
theorem dX7_endOf_183 : decode cX7_endOf 183 = .ok (.iconst 1, 1) := by decide +kernel
theorem dX7_endOf_184 : decode cX7_endOf 184 = .ok (.iload_n 2, 1) := by decide +kernel
theorem dX7_endOf_185 : decode cX7_endOf 185 = .ok (.invokevirtual 156, 3) := by decide +kernel
theorem dX7_endOf_188 : decode cX7_endOf 188 = .ok (.goto 10, 3) := by decide +kernel
theorem dX7_endOf_191 : decode cX7_endOf 191 = .ok (.aload_n 0, 1) := by decide +kernel
theorem dX7_endOf_192 : decode cX7_endOf 192 = .ok (.iload_n 1, 1) := by decide +kernel
theorem dX7_endOf_193 : decode cX7_endOf 193 = .ok (.iconst 2, 1) := by decide +kernel
theorem dX7_endOf_194 : decode cX7_endOf 194 = .ok (.iload_n 2, 1) := by decide +kernel
theorem dX7_endOf_195 : decode cX7_endOf 195 = .ok (.invokevirtual 156, 3) := by decide +kernel
theorem dX7_endOf_198 : decode cX7_endOf 198 = .ok (.lreturn, 1) := by decide +kernel
theorem dX7_quotient_0 : decode cX7_quotient 0 = .ok (.lload_n 2, 1) := by decide +kernel
theorem dX7_quotient_1 : decode cX7_quotient 1 = .ok (.lconst 0, 1) := by decide +kernel
theorem dX7_quotient_2 : decode cX7_quotient 2 = .ok (.lcmp, 1) := by decide +kernel
theorem dX7_quotient_3 : decode cX7_quotient 3 = .ok (.ifCond .ne 7, 3) := by decide +kernel
theorem dX7_quotient_6 : decode cX7_quotient 6 = .ok (.lconst 0, 1) := by decide +kernel
theorem dX7_quotient_7 : decode cX7_quotient 7 = .ok (.goto 6, 3) := by decide +kernel
theorem dX7_quotient_10 : decode cX7_quotient 10 = .ok (.lload_n 0, 1) := by decide +kernel
theorem dX7_quotient_11 : decode cX7_quotient 11 = .ok (.lload_n 2, 1) := by decide +kernel
theorem dX7_quotient_12 : decode cX7_quotient 12 = .ok (.ldiv, 1) := by decide +kernel
theorem dX7_quotient_13 : decode cX7_quotient 13 = .ok (.lreturn, 1) := by decide +kernel
theorem dX7_exchange_0 : decode cX7_exchange 0 = .ok (.aload_n 0, 1) := by decide +kernel
theorem dX7_exchange_1 : decode cX7_exchange 1 = .ok (.getfield 35, 3) := by decide +kernel
theorem dX7_exchange_4 : decode cX7_exchange 4 = .ok (.getfield 84, 3) := by decide +kernel
theorem dX7_exchange_7 : decode cX7_exchange 7 = .ok (.iload_n 1, 1) := by decide +kernel
theorem dX7_exchange_8 : decode cX7_exchange 8 = .ok (.laload, 1) := by decide +kernel
theorem dX7_exchange_9 : decode cX7_exchange 9 = .ok (.lstore 4, 2) := by decide +kernel
theorem dX7_exchange_11 : decode cX7_exchange 11 = .ok (.aload_n 0, 1) := by decide +kernel
theorem dX7_exchange_12 : decode cX7_exchange 12 = .ok (.getfield 35, 3) := by decide +kernel
theorem dX7_exchange_15 : decode cX7_exchange 15 = .ok (.getfield 84, 3) := by decide +kernel
theorem dX7_exchange_18 : decode cX7_exchange 18 = .ok (.iload_n 1, 1) := by decide +kernel
theorem dX7_exchange_19 : decode cX7_exchange 19 = .ok (.lload_n 2, 1) := by decide +kernel
theorem dX7_exchange_20 : decode cX7_exchange 20 = .ok (.lastore, 1) := by decide +kernel
theorem dX7_exchange_21 : decode cX7_exchange 21 = .ok (.lload 4, 2) := by decide +kernel
theorem dX7_exchange_23 : decode cX7_exchange 23 = .ok (.lreturn, 1) := by decide +kernel
theorem dX7_taken_0 : decode cX7_taken 0 = .ok (.iload_n 1, 1) := by decide +kernel
theorem dX7_taken_1 : decode cX7_taken 1 = .ok (.iconst 3, 1) := by decide +kernel
theorem dX7_taken_2 : decode cX7_taken 2 = .ok (.imul, 1) := by decide +kernel
theorem dX7_taken_3 : decode cX7_taken 3 = .ok (.iload_n 2, 1) := by decide +kernel
theorem dX7_taken_4 : decode cX7_taken 4 = .ok (.iadd, 1) := by decide +kernel
theorem dX7_taken_5 : decode cX7_taken 5 = .ok (.istore 4, 2) := by decide +kernel
theorem dX7_taken_7 : decode cX7_taken 7 = .ok (.aload_n 0, 1) := by decide +kernel
theorem dX7_taken_8 : decode cX7_taken 8 = .ok (.getfield 9, 3) := by decide +kernel
theorem dX7_taken_11 : decode cX7_taken 11 = .ok (.iconst 4, 1) := by decide +kernel
theorem dX7_taken_12 : decode cX7_taken 12 = .ok (.iload_n 3, 1) := by decide +kernel
theorem dX7_taken_13 : decode cX7_taken 13 = .ok (.iadd, 1) := by decide +kernel
theorem dX7_taken_14 : decode cX7_taken 14 = .ok (.aload_n 0, 1) := by decide +kernel
theorem dX7_taken_15 : decode cX7_taken 15 = .ok (.getfield 31, 3) := by decide +kernel
theorem dX7_taken_18 : decode cX7_taken 18 = .ok (.getfield 179, 3) := by decide +kernel
theorem dX7_taken_21 : decode cX7_taken 21 = .ok (.iload 4, 2) := by decide +kernel
theorem dX7_taken_23 : decode cX7_taken 23 = .ok (.iaload, 1) := by decide +kernel
theorem dX7_taken_24 : decode cX7_taken 24 = .ok (.isub, 1) := by decide +kernel
theorem dX7_taken_25 : decode cX7_taken 25 = .ok (.bipush 16, 2) := by decide +kernel
theorem dX7_taken_27 : decode cX7_taken 27 = .ok (.imul, 1) := by decide +kernel
theorem dX7_taken_28 : decode cX7_taken 28 = .ok (.aload_n 0, 1) := by decide +kernel
theorem dX7_taken_29 : decode cX7_taken 29 = .ok (.getfield 31, 3) := by decide +kernel
theorem dX7_taken_32 : decode cX7_taken 32 = .ok (.getfield 182, 3) := by decide +kernel
theorem dX7_taken_35 : decode cX7_taken 35 = .ok (.iload 4, 2) := by decide +kernel
theorem dX7_taken_37 : decode cX7_taken 37 = .ok (.iaload, 1) := by decide +kernel
theorem dX7_taken_38 : decode cX7_taken 38 = .ok (.iadd, 1) := by decide +kernel
theorem dX7_taken_39 : decode cX7_taken 39 = .ok (.laload, 1) := by decide +kernel
theorem dX7_taken_40 : decode cX7_taken 40 = .ok (.lreturn, 1) := by decide +kernel
theorem dX7_placeOf_0 : decode cX7_placeOf 0 = .ok (.iconst 4, 1) := by decide +kernel
theorem dX7_placeOf_1 : decode cX7_placeOf 1 = .ok (.iload_n 1, 1) := by decide +kernel
theorem dX7_placeOf_2 : decode cX7_placeOf 2 = .ok (.iadd, 1) := by decide +kernel
theorem dX7_placeOf_3 : decode cX7_placeOf 3 = .ok (.bipush 16, 2) := by decide +kernel
theorem dX7_placeOf_5 : decode cX7_placeOf 5 = .ok (.imul, 1) := by decide +kernel
theorem dX7_placeOf_6 : decode cX7_placeOf 6 = .ok (.iload_n 0, 1) := by decide +kernel
theorem dX7_placeOf_7 : decode cX7_placeOf 7 = .ok (.iadd, 1) := by decide +kernel
theorem dX7_placeOf_8 : decode cX7_placeOf 8 = .ok (.ireturn, 1) := by decide +kernel
theorem dX8_init_0 : decode cX8_init 0 = .ok (.aload_n 0, 1) := by decide +kernel
theorem dX8_init_1 : decode cX8_init 1 = .ok (.invokespecial 3, 3) := by decide +kernel
theorem dX8_init_4 : decode cX8_init 4 = .ok (.aload_n 0, 1) := by decide +kernel
theorem dX8_init_5 : decode cX8_init 5 = .ok (.new 9, 3) := by decide +kernel
theorem dX8_init_8 : decode cX8_init 8 = .ok (.dup, 1) := by decide +kernel
theorem dX8_init_9 : decode cX8_init 9 = .ok (.invokespecial 11, 3) := by decide +kernel
theorem dX8_init_12 : decode cX8_init 12 = .ok (.putfield 12, 3) := by decide +kernel
theorem dX8_init_15 : decode cX8_init 15 = .ok (.aload_n 0, 1) := by decide +kernel
theorem dX8_init_16 : decode cX8_init 16 = .ok (.sipush 4096, 3) := by decide +kernel
theorem dX8_init_19 : decode cX8_init 19 = .ok (.newarray .int, 2) := by decide +kernel
theorem dX8_init_21 : decode cX8_init 21 = .ok (.putfield 18, 3) := by decide +kernel
theorem dX8_init_24 : decode cX8_init 24 = .ok (.aload_n 0, 1) := by decide +kernel
theorem dX8_init_25 : decode cX8_init 25 = .ok (.bipush 16, 2) := by decide +kernel
theorem dX8_init_27 : decode cX8_init 27 = .ok (.newarray .int, 2) := by decide +kernel
theorem dX8_init_29 : decode cX8_init 29 = .ok (.putfield 22, 3) := by decide +kernel
theorem dX8_init_32 : decode cX8_init 32 = .ok (.aload_n 0, 1) := by decide +kernel
theorem dX8_init_33 : decode cX8_init 33 = .ok (.bipush 16, 2) := by decide +kernel
theorem dX8_init_35 : decode cX8_init 35 = .ok (.newarray .int, 2) := by decide +kernel
theorem dX8_init_37 : decode cX8_init 37 = .ok (.putfield 25, 3) := by decide +kernel
theorem dX8_init_40 : decode cX8_init 40 = .ok (.aload_n 0, 1) := by decide +kernel
theorem dX8_init_41 : decode cX8_init 41 = .ok (.bipush 16, 2) := by decide +kernel
theorem dX8_init_43 : decode cX8_init 43 = .ok (.newarray .int, 2) := by decide +kernel
theorem dX8_init_45 : decode cX8_init 45 = .ok (.putfield 28, 3) := by decide +kernel
theorem dX8_init_48 : decode cX8_init 48 = .ok (.aload_n 0, 1) := by decide +kernel
theorem dX8_init_49 : decode cX8_init 49 = .ok (.bipush 16, 2) := by decide +kernel
theorem dX8_init_51 : decode cX8_init 51 = .ok (.newarray .int, 2) := by decide +kernel
theorem dX8_init_53 : decode cX8_init 53 = .ok (.putfield 31, 3) := by decide +kernel
theorem dX8_init_56 : decode cX8_init 56 = .ok (.aload_n 0, 1) := by decide +kernel
theorem dX8_init_57 : decode cX8_init 57 = .ok (.iconst 1, 1) := by decide +kernel
theorem dX8_init_58 : decode cX8_init 58 = .ok (.putfield 34, 3) := by decide +kernel
theorem dX8_init_61 : decode cX8_init 61 = .ok (.aload_n 0, 1) := by decide +kernel
theorem dX8_init_62 : decode cX8_init 62 = .ok (.bipush 16, 2) := by decide +kernel
theorem dX8_init_64 : decode cX8_init 64 = .ok (.newarray .int, 2) := by decide +kernel
theorem dX8_init_66 : decode cX8_init 66 = .ok (.putfield 38, 3) := by decide +kernel
theorem dX8_init_69 : decode cX8_init 69 = .ok (.aload_n 0, 1) := by decide +kernel
theorem dX8_init_70 : decode cX8_init 70 = .ok (.iconst 0, 1) := by decide +kernel
theorem dX8_init_71 : decode cX8_init 71 = .ok (.putfield 41, 3) := by decide +kernel
theorem dX8_init_74 : decode cX8_init 74 = .ok (.aload_n 0, 1) := by decide +kernel
theorem dX8_init_75 : decode cX8_init 75 = .ok (.aload_n 1, 1) := by decide +kernel
theorem dX8_init_76 : decode cX8_init 76 = .ok (.putfield 44, 3) := by decide +kernel
theorem dX8_init_79 : decode cX8_init 79 = .ok (.aload_n 0, 1) := by decide +kernel
theorem dX8_init_80 : decode cX8_init 80 = .ok (.aload_n 2, 1) := by decide +kernel
theorem dX8_init_81 : decode cX8_init 81 = .ok (.putfield 48, 3) := by decide +kernel
theorem dX8_init_84 : decode cX8_init 84 = .ok (.return_, 1) := by decide +kernel
theorem dX8_beat_0 : decode cX8_beat 0 = .ok (.aload_n 0, 1) := by decide +kernel
theorem dX8_beat_1 : decode cX8_beat 1 = .ok (.getfield 34, 3) := by decide +kernel
theorem dX8_beat_4 : decode cX8_beat 4 = .ok (.ireturn, 1) := by decide +kernel
theorem dX8_seek_0 : decode cX8_seek 0 = .ok (.aload_n 0, 1) := by decide +kernel
theorem dX8_seek_1 : decode cX8_seek 1 = .ok (.iconst 1, 1) := by decide +kernel
theorem dX8_seek_2 : decode cX8_seek 2 = .ok (.iload_n 1, 1) := by decide +kernel
theorem dX8_seek_3 : decode cX8_seek 3 = .ok (.invokestatic 52, 3) := by decide +kernel
theorem dX8_seek_6 : decode cX8_seek 6 = .ok (.putfield 34, 3) := by decide +kernel
theorem dX8_seek_9 : decode cX8_seek 9 = .ok (.aload_n 0, 1) := by decide +kernel
theorem dX8_seek_10 : decode cX8_seek 10 = .ok (.getfield 12, 3) := by decide +kernel
theorem dX8_seek_13 : decode cX8_seek 13 = .ok (.invokevirtual 58, 3) := by decide +kernel
theorem dX8_seek_16 : decode cX8_seek 16 = .ok (.aload_n 0, 1) := by decide +kernel
theorem dX8_seek_17 : decode cX8_seek 17 = .ok (.getfield 38, 3) := by decide +kernel
theorem dX8_seek_20 : decode cX8_seek 20 = .ok (.iconst 0, 1) := by decide +kernel
theorem dX8_seek_21 : decode cX8_seek 21 = .ok (.iconst 0, 1) := by decide +kernel
theorem dX8_seek_22 : decode cX8_seek 22 = .ok (.iastore, 1) := by decide +kernel
theorem dX8_seek_23 : decode cX8_seek 23 = .ok (.iconst 0, 1) := by decide +kernel
theorem dX8_seek_24 : decode cX8_seek 24 = .ok (.istore_n 2, 1) := by decide +kernel
theorem dX8_seek_25 : decode cX8_seek 25 = .ok (.iconst 0, 1) := by decide +kernel
theorem dX8_seek_26 : decode cX8_seek 26 = .ok (.istore_n 3, 1) := by decide +kernel
theorem dX8_seek_27 : decode cX8_seek 27 = .ok (.iload_n 3, 1) := by decide +kernel
theorem dX8_seek_28 : decode cX8_seek 28 = .ok (.sipush 10000, 3) := by decide +kernel
theorem dX8_seek_31 : decode cX8_seek 31 = .ok (.if_icmp .ge 92, 3) := by decide +kernel
theorem dX8_seek_34 : decode cX8_seek 34 = .ok (.iload_n 2, 1) := by decide +kernel
theorem dX8_seek_35 : decode cX8_seek 35 = .ok (.aload_n 0, 1) := by decide +kernel
theorem dX8_seek_36 : decode cX8_seek 36 = .ok (.getfield 44, 3) := by decide +kernel
theorem dX8_seek_39 : decode cX8_seek 39 = .ok (.getfield 61, 3) := by decide +kernel
theorem dX8_seek_42 : decode cX8_seek 42 = .ok (.if_icmp .lt 5, 3) := by decide +kernel
theorem dX8_seek_45 : decode cX8_seek 45 = .ok (.iconst 0, 1) := by decide +kernel
theorem dX8_seek_46 : decode cX8_seek 46 = .ok (.ireturn, 1) := by decide +kernel
theorem dX8_seek_47 : decode cX8_seek 47 = .ok (.iload_n 2, 1) := by decide +kernel
theorem dX8_seek_48 : decode cX8_seek 48 = .ok (.ifCond .ge 5, 3) := by decide +kernel
theorem dX8_seek_51 : decode cX8_seek 51 = .ok (.iconst 3, 1) := by decide +kernel
theorem dX8_seek_52 : decode cX8_seek 52 = .ok (.ireturn, 1) := by decide +kernel
theorem dX8_seek_53 : decode cX8_seek 53 = .ok (.aload_n 0, 1) := by decide +kernel
theorem dX8_seek_54 : decode cX8_seek 54 = .ok (.getfield 38, 3) := by decide +kernel
theorem dX8_seek_57 : decode cX8_seek 57 = .ok (.iload_n 2, 1) := by decide +kernel
theorem dX8_seek_58 : decode cX8_seek 58 = .ok (.iaload, 1) := by decide +kernel
theorem dX8_seek_59 : decode cX8_seek 59 = .ok (.iload_n 2, 1) := by decide +kernel
theorem dX8_seek_60 : decode cX8_seek 60 = .ok (.ifCond .ne 7, 3) := by decide +kernel
theorem dX8_seek_63 : decode cX8_seek 63 = .ok (.iconst 1, 1) := by decide +kernel
theorem dX8_seek_64 : decode cX8_seek 64 = .ok (.goto 7, 3) := by decide +kernel
theorem dX8_seek_67 : decode cX8_seek 67 = .ok (.aload_n 0, 1) := by decide +kernel
theorem dX8_seek_68 : decode cX8_seek 68 = .ok (.getfield 34, 3) := by decide +kernel
theorem dX8_seek_71 : decode cX8_seek 71 = .ok (.if_icmp .lt 14, 3) := by decide +kernel
theorem dX8_seek_74 : decode cX8_seek 74 = .ok (.iinc 2 (-1), 3) := by decide +kernel
theorem dX8_seek_77 : decode cX8_seek 77 = .ok (.aload_n 0, 1) := by decide +kernel
theorem dX8_seek_78 : decode cX8_seek 78 = .ok (.iload_n 2, 1) := by decide +kernel
theorem dX8_seek_79 : decode cX8_seek 79 = .ok (.invokevirtual 66, 3) := by decide +kernel
theorem dX8_seek_82 : decode cX8_seek 82 = .ok (.goto 35, 3) := by decide +kernel
theorem dX8_seek_85 : decode cX8_seek 85 = .ok (.aload_n 0, 1) := by decide +kernel
theorem dX8_seek_86 : decode cX8_seek 86 = .ok (.getfield 41, 3) := by decide +kernel
theorem dX8_seek_89 : decode cX8_seek 89 = .ok (.sipush 3000, 3) := by decide +kernel
theorem dX8_seek_92 : decode cX8_seek 92 = .ok (.if_icmp .lt 5, 3) := by decide +kernel
theorem dX8_seek_95 : decode cX8_seek 95 = .ok (.iconst 4, 1) := by decide +kernel
theorem dX8_seek_96 : decode cX8_seek 96 = .ok (.ireturn, 1) := by decide +kernel
theorem dX8_seek_97 : decode cX8_seek 97 = .ok (.aload_n 0, 1) := by decide +kernel
theorem dX8_seek_98 : decode cX8_seek 98 = .ok (.iload_n 2, 1) := by decide +kernel
theorem dX8_seek_99 : decode cX8_seek 99 = .ok (.invokevirtual 70, 3) := by decide +kernel
theorem dX8_seek_102 : decode cX8_seek 102 = .ok (.ifCond .eq 13, 3) := by decide +kernel
theorem dX8_seek_105 : decode cX8_seek 105 = .ok (.aload_n 0, 1) := by decide +kernel
theorem dX8_seek_106 : decode cX8_seek 106 = .ok (.iload_n 2, 1) := by decide +kernel
theorem dX8_seek_107 : decode cX8_seek 107 = .ok (.iconst 1, 1) := by decide +kernel
theorem dX8_seek_108 : decode cX8_seek 108 = .ok (.iadd, 1) := by decide +kernel
theorem dX8_seek_109 : decode cX8_seek 109 = .ok (.invokevirtual 74, 3) := by decide +kernel
theorem dX8_seek_112 : decode cX8_seek 112 = .ok (.goto 4, 3) := by decide +kernel
theorem dX8_seek_115 : decode cX8_seek 115 = .ok (.iload_n 2, 1) := by decide +kernel
theorem dX8_seek_116 : decode cX8_seek 116 = .ok (.istore_n 2, 1) := by decide +kernel
theorem dX8_seek_117 : decode cX8_seek 117 = .ok (.iinc 3 1, 3) := by decide +kernel
theorem dX8_seek_120 : decode cX8_seek 120 = .ok (.goto (-93), 3) := by decide +kernel
theorem dX8_seek_123 : decode cX8_seek 123 = .ok (.iconst 4, 1) := by decide +kernel
theorem dX8_seek_124 : decode cX8_seek 124 = .ok (.ireturn, 1) := by decide +kernel
theorem dX8_enter_0 : decode cX8_enter 0 = .ok (.iload_n 1, 1) := by decide +kernel
theorem dX8_enter_1 : decode cX8_enter 1 = .ok (.bipush 16, 2) := by decide +kernel
theorem dX8_enter_3 : decode cX8_enter 3 = .ok (.if_icmp .ge 10, 3) := by decide +kernel
theorem dX8_enter_6 : decode cX8_enter 6 = .ok (.aload_n 0, 1) := by decide +kernel
theorem dX8_enter_7 : decode cX8_enter 7 = .ok (.getfield 38, 3) := by decide +kernel
theorem dX8_enter_10 : decode cX8_enter 10 = .ok (.iload_n 1, 1) := by decide +kernel
theorem dX8_enter_11 : decode cX8_enter 11 = .ok (.iconst 0, 1) := by decide +kernel
theorem dX8_enter_12 : decode cX8_enter 12 = .ok (.iastore, 1) := by decide +kernel
theorem dX8_enter_13 : decode cX8_enter 13 = .ok (.iload_n 1, 1) := by decide +kernel
theorem dX8_enter_14 : decode cX8_enter 14 = .ok (.ireturn, 1) := by decide +kernel
theorem dX8_leave_0 : decode cX8_leave 0 = .ok (.iload_n 1, 1) := by decide +kernel
theorem dX8_leave_1 : decode cX8_leave 1 = .ok (.ifCond .lt 37, 3) := by decide +kernel
theorem dX8_leave_4 : decode cX8_leave 4 = .ok (.aload_n 0, 1) := by decide +kernel
theorem dX8_leave_5 : decode cX8_leave 5 = .ok (.getfield 12, 3) := by decide +kernel
theorem dX8_leave_8 : decode cX8_leave 8 = .ok (.aload_n 0, 1) := by decide +kernel
theorem dX8_leave_9 : decode cX8_leave 9 = .ok (.getfield 44, 3) := by decide +kernel
theorem dX8_leave_12 : decode cX8_leave 12 = .ok (.iload_n 1, 1) := by decide +kernel
theorem dX8_leave_13 : decode cX8_leave 13 = .ok (.aload_n 0, 1) := by decide +kernel
theorem dX8_leave_14 : decode cX8_leave 14 = .ok (.getfield 38, 3) := by decide +kernel
theorem dX8_leave_17 : decode cX8_leave 17 = .ok (.iload_n 1, 1) := by decide +kernel
theorem dX8_leave_18 : decode cX8_leave 18 = .ok (.iaload, 1) := by decide +kernel
theorem dX8_leave_19 : decode cX8_leave 19 = .ok (.aload_n 0, 1) := by decide +kernel
theorem dX8_leave_20 : decode cX8_leave 20 = .ok (.getfield 34, 3) := by decide +kernel
theorem dX8_leave_23 : decode cX8_leave 23 = .ok (.iconst (-1), 1) := by decide +kernel
theorem dX8_leave_24 : decode cX8_leave 24 = .ok (.invokevirtual 78, 3) := by decide +kernel
theorem dX8_leave_27 : decode cX8_leave 27 = .ok (.pop, 1) := by decide +kernel
theorem dX8_leave_28 : decode cX8_leave 28 = .ok (.aload_n 0, 1) := by decide +kernel
theorem dX8_leave_29 : decode cX8_leave 29 = .ok (.getfield 38, 3) := by decide +kernel
theorem dX8_leave_32 : decode cX8_leave 32 = .ok (.iload_n 1, 1) := by decide +kernel
theorem dX8_leave_33 : decode cX8_leave 33 = .ok (.dup2, 1) := by decide +kernel
theorem dX8_leave_34 : decode cX8_leave 34 = .ok (.iaload, 1) := by decide +kernel
theorem dX8_leave_35 : decode cX8_leave 35 = .ok (.iconst 1, 1) := by decide +kernel
theorem dX8_leave_36 : decode cX8_leave 36 = .ok (.iadd, 1) := by decide +kernel
theorem dX8_leave_37 : decode cX8_leave 37 = .ok (.iastore, 1) := by decide +kernel
theorem dX8_leave_38 : decode cX8_leave 38 = .ok (.return_, 1) := by decide +kernel
theorem dX8_attempt_0 : decode cX8_attempt 0 = .ok (.aload_n 0, 1) := by decide +kernel
theorem dX8_attempt_1 : decode cX8_attempt 1 = .ok (.dup, 1) := by decide +kernel
theorem dX8_attempt_2 : decode cX8_attempt 2 = .ok (.getfield 41, 3) := by decide +kernel
theorem dX8_attempt_5 : decode cX8_attempt 5 = .ok (.iconst 1, 1) := by decide +kernel
theorem dX8_attempt_6 : decode cX8_attempt 6 = .ok (.iadd, 1) := by decide +kernel
theorem dX8_attempt_7 : decode cX8_attempt 7 = .ok (.putfield 41, 3) := by decide +kernel
theorem dX8_attempt_10 : decode cX8_attempt 10 = .ok (.aload_n 0, 1) := by decide +kernel
theorem dX8_attempt_11 : decode cX8_attempt 11 = .ok (.getfield 12, 3) := by decide +kernel
theorem dX8_attempt_14 : decode cX8_attempt 14 = .ok (.aload_n 0, 1) := by decide +kernel
theorem dX8_attempt_15 : decode cX8_attempt 15 = .ok (.getfield 44, 3) := by decide +kernel
theorem dX8_attempt_18 : decode cX8_attempt 18 = .ok (.iload_n 1, 1) := by decide +kernel
theorem dX8_attempt_19 : decode cX8_attempt 19 = .ok (.aload_n 0, 1) := by decide +kernel
theorem dX8_attempt_20 : decode cX8_attempt 20 = .ok (.getfield 38, 3) := by decide +kernel
theorem dX8_attempt_23 : decode cX8_attempt 23 = .ok (.iload_n 1, 1) := by decide +kernel
theorem dX8_attempt_24 : decode cX8_attempt 24 = .ok (.iaload, 1) := by decide +kernel
theorem dX8_attempt_25 : decode cX8_attempt 25 = .ok (.aload_n 0, 1) := by decide +kernel
theorem dX8_attempt_26 : decode cX8_attempt 26 = .ok (.getfield 34, 3) := by decide +kernel
theorem dX8_attempt_29 : decode cX8_attempt 29 = .ok (.iconst 1, 1) := by decide +kernel
theorem dX8_attempt_30 : decode cX8_attempt 30 = .ok (.invokevirtual 78, 3) := by decide +kernel
theorem dX8_attempt_33 : decode cX8_attempt 33 = .ok (.istore_n 2, 1) := by decide +kernel
theorem dX8_attempt_34 : decode cX8_attempt 34 = .ok (.iload_n 2, 1) := by decide +kernel
theorem dX8_attempt_35 : decode cX8_attempt 35 = .ok (.aload_n 0, 1) := by decide +kernel
theorem dX8_attempt_36 : decode cX8_attempt 36 = .ok (.getfield 44, 3) := by decide +kernel
theorem dX8_attempt_39 : decode cX8_attempt 39 = .ok (.getfield 82, 3) := by decide +kernel
theorem dX8_attempt_42 : decode cX8_attempt 42 = .ok (.aload_n 0, 1) := by decide +kernel
theorem dX8_attempt_43 : decode cX8_attempt 43 = .ok (.getfield 44, 3) := by decide +kernel
theorem dX8_attempt_46 : decode cX8_attempt 46 = .ok (.getfield 85, 3) := by decide +kernel
theorem dX8_attempt_49 : decode cX8_attempt 49 = .ok (.iload_n 1, 1) := by decide +kernel
theorem dX8_attempt_50 : decode cX8_attempt 50 = .ok (.iaload, 1) := by decide +kernel
theorem dX8_attempt_51 : decode cX8_attempt 51 = .ok (.iaload, 1) := by decide +kernel
theorem dX8_attempt_52 : decode cX8_attempt 52 = .ok (.if_icmp .gt 18, 3) := by decide +kernel
theorem dX8_attempt_55 : decode cX8_attempt 55 = .ok (.aload_n 0, 1) := by decide +kernel
theorem dX8_attempt_56 : decode cX8_attempt 56 = .ok (.iload_n 1, 1) := by decide +kernel
theorem dX8_attempt_57 : decode cX8_attempt 57 = .ok (.invokevirtual 88, 3) := by decide +kernel
theorem dX8_attempt_60 : decode cX8_attempt 60 = .ok (.ifCond .eq 10, 3) := by decide +kernel
theorem dX8_attempt_63 : decode cX8_attempt 63 = .ok (.aload_n 0, 1) := by decide +kernel
theorem dX8_attempt_64 : decode cX8_attempt 64 = .ok (.iload_n 1, 1) := by decide +kernel
theorem dX8_attempt_65 : decode cX8_attempt 65 = .ok (.invokevirtual 91, 3) := by decide +kernel
theorem dX8_attempt_68 : decode cX8_attempt 68 = .ok (.iconst 1, 1) := by decide +kernel
theorem dX8_attempt_69 : decode cX8_attempt 69 = .ok (.ireturn, 1) := by decide +kernel
theorem dX8_attempt_70 : decode cX8_attempt 70 = .ok (.aload_n 0, 1) := by decide +kernel
theorem dX8_attempt_71 : decode cX8_attempt 71 = .ok (.iload_n 1, 1) := by decide +kernel
theorem dX8_attempt_72 : decode cX8_attempt 72 = .ok (.invokevirtual 66, 3) := by decide +kernel
theorem dX8_attempt_75 : decode cX8_attempt 75 = .ok (.iconst 0, 1) := by decide +kernel
theorem dX8_attempt_76 : decode cX8_attempt 76 = .ok (.ireturn, 1) := by decide +kernel
theorem dX8_edgesCanHold_0 : decode cX8_edgesCanHold 0 = .ok (.aload_n 0, 1) := by decide +kernel
theorem dX8_edgesCanHold_1 : decode cX8_edgesCanHold 1 = .ok (.getfield 48, 3) := by decide +kernel
theorem dX8_edgesCanHold_4 : decode cX8_edgesCanHold 4 = .ok (.getfield 94, 3) := by decide +kernel
theorem dX8_edgesCanHold_7 : decode cX8_edgesCanHold 7 = .ok (.iload_n 1, 1) := by decide +kernel
theorem dX8_edgesCanHold_8 : decode cX8_edgesCanHold 8 = .ok (.bipush 16, 2) := by decide +kernel
theorem dX8_edgesCanHold_10 : decode cX8_edgesCanHold 10 = .ok (.imul, 1) := by decide +kernel
theorem dX8_edgesCanHold_11 : decode cX8_edgesCanHold 11 = .ok (.iload_n 1, 1) := by decide +kernel
theorem dX8_edgesCanHold_12 : decode cX8_edgesCanHold 12 = .ok (.iadd, 1) := by decide +kernel
theorem dX8_edgesCanHold_13 : decode cX8_edgesCanHold 13 = .ok (.iaload, 1) := by decide +kernel
theorem dX8_edgesCanHold_14 : decode cX8_edgesCanHold 14 = .ok (.ifCond .le 5, 3) := by decide +kernel
theorem dX8_edgesCanHold_17 : decode cX8_edgesCanHold 17 = .ok (.iconst 0, 1) := by decide +kernel
theorem dX8_edgesCanHold_18 : decode cX8_edgesCanHold 18 = .ok (.ireturn, 1) := by decide +kernel
theorem dX8_edgesCanHold_19 : decode cX8_edgesCanHold 19 = .ok (.iconst 0, 1) := by decide +kernel
theorem dX8_edgesCanHold_20 : decode cX8_edgesCanHold 20 = .ok (.istore_n 2, 1) := by decide +kernel
theorem dX8_edgesCanHold_21 : decode cX8_edgesCanHold 21 = .ok (.iload_n 2, 1) := by decide +kernel
theorem dX8_edgesCanHold_22 : decode cX8_edgesCanHold 22 = .ok (.iload_n 1, 1) := by decide +kernel
theorem dX8_edgesCanHold_23 : decode cX8_edgesCanHold 23 = .ok (.if_icmp .ge 33, 3) := by decide +kernel
theorem dX8_edgesCanHold_26 : decode cX8_edgesCanHold 26 = .ok (.aload_n 0, 1) := by decide +kernel
theorem dX8_edgesCanHold_27 : decode cX8_edgesCanHold 27 = .ok (.getfield 22, 3) := by decide +kernel
theorem dX8_edgesCanHold_30 : decode cX8_edgesCanHold 30 = .ok (.iload_n 2, 1) := by decide +kernel
theorem dX8_edgesCanHold_31 : decode cX8_edgesCanHold 31 = .ok (.aload_n 0, 1) := by decide +kernel
theorem dX8_edgesCanHold_32 : decode cX8_edgesCanHold 32 = .ok (.iload_n 2, 1) := by decide +kernel
theorem dX8_edgesCanHold_33 : decode cX8_edgesCanHold 33 = .ok (.iload_n 1, 1) := by decide +kernel
theorem dX8_edgesCanHold_34 : decode cX8_edgesCanHold 34 = .ok (.invokevirtual 99, 3) := by decide +kernel
theorem dX8_edgesCanHold_37 : decode cX8_edgesCanHold 37 = .ok (.iastore, 1) := by decide +kernel
theorem dX8_edgesCanHold_38 : decode cX8_edgesCanHold 38 = .ok (.aload_n 0, 1) := by decide +kernel
theorem dX8_edgesCanHold_39 : decode cX8_edgesCanHold 39 = .ok (.getfield 25, 3) := by decide +kernel
theorem dX8_edgesCanHold_42 : decode cX8_edgesCanHold 42 = .ok (.iload_n 2, 1) := by decide +kernel
theorem dX8_edgesCanHold_43 : decode cX8_edgesCanHold 43 = .ok (.aload_n 0, 1) := by decide +kernel
theorem dX8_edgesCanHold_44 : decode cX8_edgesCanHold 44 = .ok (.iload_n 1, 1) := by decide +kernel
theorem dX8_edgesCanHold_45 : decode cX8_edgesCanHold 45 = .ok (.iload_n 2, 1) := by decide +kernel
theorem dX8_edgesCanHold_46 : decode cX8_edgesCanHold 46 = .ok (.invokevirtual 99, 3) := by decide +kernel
theorem dX8_edgesCanHold_49 : decode cX8_edgesCanHold 49 = .ok (.iastore, 1) := by decide +kernel
theorem dX8_edgesCanHold_50 : decode cX8_edgesCanHold 50 = .ok (.iinc 2 1, 3) := by decide +kernel
theorem dX8_edgesCanHold_53 : decode cX8_edgesCanHold 53 = .ok (.goto (-32), 3) := by decide +kernel
theorem dX8_edgesCanHold_56 : decode cX8_edgesCanHold 56 = .ok (.iconst 0, 1) := by decide +kernel
theorem dX8_edgesCanHold_57 : decode cX8_edgesCanHold 57 = .ok (.istore_n 2, 1) := by decide +kernel
theorem dX8_edgesCanHold_58 : decode cX8_edgesCanHold 58 = .ok (.iload_n 2, 1) := by decide +kernel
theorem dX8_edgesCanHold_59 : decode cX8_edgesCanHold 59 = .ok (.iload_n 1, 1) := by decide +kernel
theorem dX8_edgesCanHold_60 : decode cX8_edgesCanHold 60 = .ok (.if_icmp .ge 31, 3) := by decide +kernel
theorem dX8_edgesCanHold_63 : decode cX8_edgesCanHold 63 = .ok (.aload_n 0, 1) := by decide +kernel
theorem dX8_edgesCanHold_64 : decode cX8_edgesCanHold 64 = .ok (.getfield 25, 3) := by decide +kernel
theorem dX8_edgesCanHold_67 : decode cX8_edgesCanHold 67 = .ok (.iload_n 2, 1) := by decide +kernel
theorem dX8_edgesCanHold_68 : decode cX8_edgesCanHold 68 = .ok (.iaload, 1) := by decide +kernel
theorem dX8_edgesCanHold_69 : decode cX8_edgesCanHold 69 = .ok (.ldc 102, 2) := by decide +kernel
theorem dX8_edgesCanHold_71 : decode cX8_edgesCanHold 71 = .ok (.if_icmp .eq 14, 3) := by decide +kernel
theorem dX8_edgesCanHold_74 : decode cX8_edgesCanHold 74 = .ok (.aload_n 0, 1) := by decide +kernel
theorem dX8_edgesCanHold_75 : decode cX8_edgesCanHold 75 = .ok (.iload_n 1, 1) := by decide +kernel
theorem dX8_edgesCanHold_76 : decode cX8_edgesCanHold 76 = .ok (.iload_n 2, 1) := by decide +kernel
theorem dX8_edgesCanHold_77 : decode cX8_edgesCanHold 77 = .ok (.invokevirtual 103, 3) := by decide +kernel
theorem dX8_edgesCanHold_80 : decode cX8_edgesCanHold 80 = .ok (.ifCond .eq 5, 3) := by decide +kernel
theorem dX8_edgesCanHold_83 : decode cX8_edgesCanHold 83 = .ok (.iconst 0, 1) := by decide +kernel
theorem dX8_edgesCanHold_84 : decode cX8_edgesCanHold 84 = .ok (.ireturn, 1) := by decide +kernel
theorem dX8_edgesCanHold_85 : decode cX8_edgesCanHold 85 = .ok (.iinc 2 1, 3) := by decide +kernel
theorem dX8_edgesCanHold_88 : decode cX8_edgesCanHold 88 = .ok (.goto (-30), 3) := by decide +kernel
theorem dX8_edgesCanHold_91 : decode cX8_edgesCanHold 91 = .ok (.iconst 1, 1) := by decide +kernel
theorem dX8_edgesCanHold_92 : decode cX8_edgesCanHold 92 = .ok (.ireturn, 1) := by decide +kernel
theorem dX8_closesRing_0 : decode cX8_closesRing 0 = .ok (.iconst 0, 1) := by decide +kernel
theorem dX8_closesRing_1 : decode cX8_closesRing 1 = .ok (.istore_n 3, 1) := by decide +kernel
theorem dX8_closesRing_2 : decode cX8_closesRing 2 = .ok (.iload_n 3, 1) := by decide +kernel
theorem dX8_closesRing_3 : decode cX8_closesRing 3 = .ok (.iload_n 1, 1) := by decide +kernel
theorem dX8_closesRing_4 : decode cX8_closesRing 4 = .ok (.if_icmp .ge 63, 3) := by decide +kernel
theorem dX8_closesRing_7 : decode cX8_closesRing 7 = .ok (.aload_n 0, 1) := by decide +kernel
theorem dX8_closesRing_8 : decode cX8_closesRing 8 = .ok (.getfield 18, 3) := by decide +kernel
theorem dX8_closesRing_11 : decode cX8_closesRing 11 = .ok (.iload_n 1, 1) := by decide +kernel
theorem dX8_closesRing_12 : decode cX8_closesRing 12 = .ok (.iconst 1, 1) := by decide +kernel
theorem dX8_closesRing_13 : decode cX8_closesRing 13 = .ok (.isub, 1) := by decide +kernel
theorem dX8_closesRing_14 : decode cX8_closesRing 14 = .ok (.iload_n 2, 1) := by decide +kernel
theorem dX8_closesRing_15 : decode cX8_closesRing 15 = .ok (.iload_n 3, 1) := by decide +kernel
theorem dX8_closesRing_16 : decode cX8_closesRing 16 = .ok (.invokestatic 107, 3) := by decide +kernel
theorem dX8_closesRing_19 : decode cX8_closesRing 19 = .ok (.iaload, 1) := by decide +kernel
theorem dX8_closesRing_20 : decode cX8_closesRing 20 = .ok (.istore 4, 2) := by decide +kernel
theorem dX8_closesRing_22 : decode cX8_closesRing 22 = .ok (.aload_n 0, 1) := by decide +kernel
theorem dX8_closesRing_23 : decode cX8_closesRing 23 = .ok (.getfield 22, 3) := by decide +kernel
theorem dX8_closesRing_26 : decode cX8_closesRing 26 = .ok (.iload_n 3, 1) := by decide +kernel
theorem dX8_closesRing_27 : decode cX8_closesRing 27 = .ok (.iaload, 1) := by decide +kernel
theorem dX8_closesRing_28 : decode cX8_closesRing 28 = .ok (.ldc 102, 2) := by decide +kernel
theorem dX8_closesRing_30 : decode cX8_closesRing 30 = .ok (.if_icmp .eq 31, 3) := by decide +kernel
theorem dX8_closesRing_33 : decode cX8_closesRing 33 = .ok (.iload 4, 2) := by decide +kernel
theorem dX8_closesRing_35 : decode cX8_closesRing 35 = .ok (.ldc 102, 2) := by decide +kernel
theorem dX8_closesRing_37 : decode cX8_closesRing 37 = .ok (.if_icmp .eq 24, 3) := by decide +kernel
