theorem dX8_closesRing_40 : decode cX8_closesRing 40 = .ok (.aload_n 0, 1) := by decide +kernel
theorem dX8_closesRing_41 : decode cX8_closesRing 41 = .ok (.getfield 25, 3) := by decide +kernel
theorem dX8_closesRing_44 : decode cX8_closesRing 44 = .ok (.iload_n 2, 1) := by decide +kernel
theorem dX8_closesRing_45 : decode cX8_closesRing 45 = .ok (.iaload, 1) := by decide +kernel
theorem dX8_closesRing_46 : decode cX8_closesRing 46 = .ok (.iload 4, 2) := by decide +kernel
theorem dX8_closesRing_48 : decode cX8_closesRing 48 = .ok (.iadd, 1) := by decide +kernel
theorem dX8_closesRing_49 : decode cX8_closesRing 49 = .ok (.aload_n 0, 1) := by decide +kernel
theorem dX8_closesRing_50 : decode cX8_closesRing 50 = .ok (.getfield 22, 3) := by decide +kernel
theorem dX8_closesRing_53 : decode cX8_closesRing 53 = .ok (.iload_n 3, 1) := by decide +kernel
theorem dX8_closesRing_54 : decode cX8_closesRing 54 = .ok (.iaload, 1) := by decide +kernel
theorem dX8_closesRing_55 : decode cX8_closesRing 55 = .ok (.iadd, 1) := by decide +kernel
theorem dX8_closesRing_56 : decode cX8_closesRing 56 = .ok (.ifCond .le 5, 3) := by decide +kernel
theorem dX8_closesRing_59 : decode cX8_closesRing 59 = .ok (.iconst 1, 1) := by decide +kernel
theorem dX8_closesRing_60 : decode cX8_closesRing 60 = .ok (.ireturn, 1) := by decide +kernel
theorem dX8_closesRing_61 : decode cX8_closesRing 61 = .ok (.iinc 3 1, 3) := by decide +kernel
theorem dX8_closesRing_64 : decode cX8_closesRing 64 = .ok (.goto (-62), 3) := by decide +kernel
theorem dX8_closesRing_67 : decode cX8_closesRing 67 = .ok (.iconst 0, 1) := by decide +kernel
theorem dX8_closesRing_68 : decode cX8_closesRing 68 = .ok (.ireturn, 1) := by decide +kernel
theorem dX8_stagesBetween_0 : decode cX8_stagesBetween 0 = .ok (.aload_n 0, 1) := by decide +kernel
theorem dX8_stagesBetween_1 : decode cX8_stagesBetween 1 = .ok (.getfield 48, 3) := by decide +kernel
theorem dX8_stagesBetween_4 : decode cX8_stagesBetween 4 = .ok (.getfield 94, 3) := by decide +kernel
theorem dX8_stagesBetween_7 : decode cX8_stagesBetween 7 = .ok (.iload_n 1, 1) := by decide +kernel
theorem dX8_stagesBetween_8 : decode cX8_stagesBetween 8 = .ok (.bipush 16, 2) := by decide +kernel
theorem dX8_stagesBetween_10 : decode cX8_stagesBetween 10 = .ok (.imul, 1) := by decide +kernel
theorem dX8_stagesBetween_11 : decode cX8_stagesBetween 11 = .ok (.iload_n 2, 1) := by decide +kernel
theorem dX8_stagesBetween_12 : decode cX8_stagesBetween 12 = .ok (.iadd, 1) := by decide +kernel
theorem dX8_stagesBetween_13 : decode cX8_stagesBetween 13 = .ok (.iaload, 1) := by decide +kernel
theorem dX8_stagesBetween_14 : decode cX8_stagesBetween 14 = .ok (.istore_n 3, 1) := by decide +kernel
theorem dX8_stagesBetween_15 : decode cX8_stagesBetween 15 = .ok (.iload_n 3, 1) := by decide +kernel
theorem dX8_stagesBetween_16 : decode cX8_stagesBetween 16 = .ok (.ldc 102, 2) := by decide +kernel
theorem dX8_stagesBetween_18 : decode cX8_stagesBetween 18 = .ok (.if_icmp .eq 11, 3) := by decide +kernel
theorem dX8_stagesBetween_21 : decode cX8_stagesBetween 21 = .ok (.aload_n 0, 1) := by decide +kernel
theorem dX8_stagesBetween_22 : decode cX8_stagesBetween 22 = .ok (.getfield 34, 3) := by decide +kernel
theorem dX8_stagesBetween_25 : decode cX8_stagesBetween 25 = .ok (.iconst 1, 1) := by decide +kernel
theorem dX8_stagesBetween_26 : decode cX8_stagesBetween 26 = .ok (.if_icmp .ge 6, 3) := by decide +kernel
theorem dX8_stagesBetween_29 : decode cX8_stagesBetween 29 = .ok (.ldc 102, 2) := by decide +kernel
theorem dX8_stagesBetween_31 : decode cX8_stagesBetween 31 = .ok (.ireturn, 1) := by decide +kernel
theorem dX8_stagesBetween_32 : decode cX8_stagesBetween 32 = .ok (.iload_n 3, 1) := by decide +kernel
theorem dX8_stagesBetween_33 : decode cX8_stagesBetween 33 = .ok (.aload_n 0, 1) := by decide +kernel
theorem dX8_stagesBetween_34 : decode cX8_stagesBetween 34 = .ok (.getfield 38, 3) := by decide +kernel
theorem dX8_stagesBetween_37 : decode cX8_stagesBetween 37 = .ok (.iload_n 1, 1) := by decide +kernel
theorem dX8_stagesBetween_38 : decode cX8_stagesBetween 38 = .ok (.iaload, 1) := by decide +kernel
theorem dX8_stagesBetween_39 : decode cX8_stagesBetween 39 = .ok (.iadd, 1) := by decide +kernel
theorem dX8_stagesBetween_40 : decode cX8_stagesBetween 40 = .ok (.aload_n 0, 1) := by decide +kernel
theorem dX8_stagesBetween_41 : decode cX8_stagesBetween 41 = .ok (.getfield 38, 3) := by decide +kernel
theorem dX8_stagesBetween_44 : decode cX8_stagesBetween 44 = .ok (.iload_n 2, 1) := by decide +kernel
theorem dX8_stagesBetween_45 : decode cX8_stagesBetween 45 = .ok (.iaload, 1) := by decide +kernel
theorem dX8_stagesBetween_46 : decode cX8_stagesBetween 46 = .ok (.isub, 1) := by decide +kernel
theorem dX8_stagesBetween_47 : decode cX8_stagesBetween 47 = .ok (.aload_n 0, 1) := by decide +kernel
theorem dX8_stagesBetween_48 : decode cX8_stagesBetween 48 = .ok (.getfield 34, 3) := by decide +kernel
theorem dX8_stagesBetween_51 : decode cX8_stagesBetween 51 = .ok (.iadd, 1) := by decide +kernel
theorem dX8_stagesBetween_52 : decode cX8_stagesBetween 52 = .ok (.iconst 1, 1) := by decide +kernel
theorem dX8_stagesBetween_53 : decode cX8_stagesBetween 53 = .ok (.isub, 1) := by decide +kernel
theorem dX8_stagesBetween_54 : decode cX8_stagesBetween 54 = .ok (.aload_n 0, 1) := by decide +kernel
theorem dX8_stagesBetween_55 : decode cX8_stagesBetween 55 = .ok (.getfield 34, 3) := by decide +kernel
theorem dX8_stagesBetween_58 : decode cX8_stagesBetween 58 = .ok (.invokestatic 111, 3) := by decide +kernel
theorem dX8_stagesBetween_61 : decode cX8_stagesBetween 61 = .ok (.ireturn, 1) := by decide +kernel
theorem dX8_chain_0 : decode cX8_chain 0 = .ok (.iconst 0, 1) := by decide +kernel
theorem dX8_chain_1 : decode cX8_chain 1 = .ok (.istore_n 2, 1) := by decide +kernel
theorem dX8_chain_2 : decode cX8_chain 2 = .ok (.iload_n 2, 1) := by decide +kernel
theorem dX8_chain_3 : decode cX8_chain 3 = .ok (.iload_n 1, 1) := by decide +kernel
theorem dX8_chain_4 : decode cX8_chain 4 = .ok (.if_icmp .ge 33, 3) := by decide +kernel
theorem dX8_chain_7 : decode cX8_chain 7 = .ok (.aload_n 0, 1) := by decide +kernel
theorem dX8_chain_8 : decode cX8_chain 8 = .ok (.getfield 28, 3) := by decide +kernel
theorem dX8_chain_11 : decode cX8_chain 11 = .ok (.iload_n 2, 1) := by decide +kernel
theorem dX8_chain_12 : decode cX8_chain 12 = .ok (.aload_n 0, 1) := by decide +kernel
theorem dX8_chain_13 : decode cX8_chain 13 = .ok (.iload_n 1, 1) := by decide +kernel
theorem dX8_chain_14 : decode cX8_chain 14 = .ok (.iload_n 2, 1) := by decide +kernel
theorem dX8_chain_15 : decode cX8_chain 15 = .ok (.invokevirtual 114, 3) := by decide +kernel
theorem dX8_chain_18 : decode cX8_chain 18 = .ok (.iastore, 1) := by decide +kernel
theorem dX8_chain_19 : decode cX8_chain 19 = .ok (.aload_n 0, 1) := by decide +kernel
theorem dX8_chain_20 : decode cX8_chain 20 = .ok (.getfield 31, 3) := by decide +kernel
theorem dX8_chain_23 : decode cX8_chain 23 = .ok (.iload_n 2, 1) := by decide +kernel
theorem dX8_chain_24 : decode cX8_chain 24 = .ok (.aload_n 0, 1) := by decide +kernel
theorem dX8_chain_25 : decode cX8_chain 25 = .ok (.iload_n 1, 1) := by decide +kernel
theorem dX8_chain_26 : decode cX8_chain 26 = .ok (.iload_n 2, 1) := by decide +kernel
theorem dX8_chain_27 : decode cX8_chain 27 = .ok (.invokevirtual 117, 3) := by decide +kernel
theorem dX8_chain_30 : decode cX8_chain 30 = .ok (.iastore, 1) := by decide +kernel
theorem dX8_chain_31 : decode cX8_chain 31 = .ok (.iinc 2 1, 3) := by decide +kernel
theorem dX8_chain_34 : decode cX8_chain 34 = .ok (.goto (-32), 3) := by decide +kernel
theorem dX8_chain_37 : decode cX8_chain 37 = .ok (.iconst 0, 1) := by decide +kernel
theorem dX8_chain_38 : decode cX8_chain 38 = .ok (.istore_n 2, 1) := by decide +kernel
theorem dX8_chain_39 : decode cX8_chain 39 = .ok (.iload_n 2, 1) := by decide +kernel
theorem dX8_chain_40 : decode cX8_chain 40 = .ok (.iload_n 1, 1) := by decide +kernel
theorem dX8_chain_41 : decode cX8_chain 41 = .ok (.if_icmp .ge 86, 3) := by decide +kernel
theorem dX8_chain_44 : decode cX8_chain 44 = .ok (.aload_n 0, 1) := by decide +kernel
theorem dX8_chain_45 : decode cX8_chain 45 = .ok (.getfield 18, 3) := by decide +kernel
theorem dX8_chain_48 : decode cX8_chain 48 = .ok (.iload_n 1, 1) := by decide +kernel
theorem dX8_chain_49 : decode cX8_chain 49 = .ok (.iconst 1, 1) := by decide +kernel
theorem dX8_chain_50 : decode cX8_chain 50 = .ok (.isub, 1) := by decide +kernel
theorem dX8_chain_51 : decode cX8_chain 51 = .ok (.iload_n 2, 1) := by decide +kernel
theorem dX8_chain_52 : decode cX8_chain 52 = .ok (.iconst 0, 1) := by decide +kernel
theorem dX8_chain_53 : decode cX8_chain 53 = .ok (.invokestatic 107, 3) := by decide +kernel
theorem dX8_chain_56 : decode cX8_chain 56 = .ok (.aload_n 0, 1) := by decide +kernel
theorem dX8_chain_57 : decode cX8_chain 57 = .ok (.getfield 18, 3) := by decide +kernel
theorem dX8_chain_60 : decode cX8_chain 60 = .ok (.iload_n 1, 1) := by decide +kernel
theorem dX8_chain_61 : decode cX8_chain 61 = .ok (.iload_n 2, 1) := by decide +kernel
theorem dX8_chain_62 : decode cX8_chain 62 = .ok (.iconst 0, 1) := by decide +kernel
theorem dX8_chain_63 : decode cX8_chain 63 = .ok (.invokestatic 107, 3) := by decide +kernel
theorem dX8_chain_66 : decode cX8_chain 66 = .ok (.iload_n 1, 1) := by decide +kernel
theorem dX8_chain_67 : decode cX8_chain 67 = .ok (.invokestatic 120, 3) := by decide +kernel
theorem dX8_chain_70 : decode cX8_chain 70 = .ok (.aload_n 0, 1) := by decide +kernel
theorem dX8_chain_71 : decode cX8_chain 71 = .ok (.getfield 28, 3) := by decide +kernel
theorem dX8_chain_74 : decode cX8_chain 74 = .ok (.iload_n 2, 1) := by decide +kernel
theorem dX8_chain_75 : decode cX8_chain 75 = .ok (.iaload, 1) := by decide +kernel
theorem dX8_chain_76 : decode cX8_chain 76 = .ok (.ldc 102, 2) := by decide +kernel
theorem dX8_chain_78 : decode cX8_chain 78 = .ok (.if_icmp .eq 9, 3) := by decide +kernel
theorem dX8_chain_81 : decode cX8_chain 81 = .ok (.aload_n 0, 1) := by decide +kernel
theorem dX8_chain_82 : decode cX8_chain 82 = .ok (.iload_n 1, 1) := by decide +kernel
theorem dX8_chain_83 : decode cX8_chain 83 = .ok (.iload_n 2, 1) := by decide +kernel
theorem dX8_chain_84 : decode cX8_chain 84 = .ok (.invokevirtual 126, 3) := by decide +kernel
theorem dX8_chain_87 : decode cX8_chain 87 = .ok (.aload_n 0, 1) := by decide +kernel
theorem dX8_chain_88 : decode cX8_chain 88 = .ok (.getfield 18, 3) := by decide +kernel
theorem dX8_chain_91 : decode cX8_chain 91 = .ok (.iload_n 1, 1) := by decide +kernel
theorem dX8_chain_92 : decode cX8_chain 92 = .ok (.iload_n 2, 1) := by decide +kernel
theorem dX8_chain_93 : decode cX8_chain 93 = .ok (.iload_n 1, 1) := by decide +kernel
theorem dX8_chain_94 : decode cX8_chain 94 = .ok (.invokestatic 107, 3) := by decide +kernel
theorem dX8_chain_97 : decode cX8_chain 97 = .ok (.aload_n 0, 1) := by decide +kernel
theorem dX8_chain_98 : decode cX8_chain 98 = .ok (.getfield 28, 3) := by decide +kernel
theorem dX8_chain_101 : decode cX8_chain 101 = .ok (.iload_n 2, 1) := by decide +kernel
theorem dX8_chain_102 : decode cX8_chain 102 = .ok (.iaload, 1) := by decide +kernel
theorem dX8_chain_103 : decode cX8_chain 103 = .ok (.iastore, 1) := by decide +kernel
theorem dX8_chain_104 : decode cX8_chain 104 = .ok (.aload_n 0, 1) := by decide +kernel
theorem dX8_chain_105 : decode cX8_chain 105 = .ok (.getfield 18, 3) := by decide +kernel
theorem dX8_chain_108 : decode cX8_chain 108 = .ok (.iload_n 1, 1) := by decide +kernel
theorem dX8_chain_109 : decode cX8_chain 109 = .ok (.iload_n 1, 1) := by decide +kernel
theorem dX8_chain_110 : decode cX8_chain 110 = .ok (.iload_n 2, 1) := by decide +kernel
theorem dX8_chain_111 : decode cX8_chain 111 = .ok (.invokestatic 107, 3) := by decide +kernel
theorem dX8_chain_114 : decode cX8_chain 114 = .ok (.aload_n 0, 1) := by decide +kernel
theorem dX8_chain_115 : decode cX8_chain 115 = .ok (.getfield 31, 3) := by decide +kernel
theorem dX8_chain_118 : decode cX8_chain 118 = .ok (.iload_n 2, 1) := by decide +kernel
theorem dX8_chain_119 : decode cX8_chain 119 = .ok (.iaload, 1) := by decide +kernel
theorem dX8_chain_120 : decode cX8_chain 120 = .ok (.iastore, 1) := by decide +kernel
theorem dX8_chain_121 : decode cX8_chain 121 = .ok (.iinc 2 1, 3) := by decide +kernel
theorem dX8_chain_124 : decode cX8_chain 124 = .ok (.goto (-85), 3) := by decide +kernel
theorem dX8_chain_127 : decode cX8_chain 127 = .ok (.aload_n 0, 1) := by decide +kernel
theorem dX8_chain_128 : decode cX8_chain 128 = .ok (.getfield 18, 3) := by decide +kernel
theorem dX8_chain_131 : decode cX8_chain 131 = .ok (.iload_n 1, 1) := by decide +kernel
theorem dX8_chain_132 : decode cX8_chain 132 = .ok (.iload_n 1, 1) := by decide +kernel
theorem dX8_chain_133 : decode cX8_chain 133 = .ok (.iload_n 1, 1) := by decide +kernel
theorem dX8_chain_134 : decode cX8_chain 134 = .ok (.invokestatic 107, 3) := by decide +kernel
theorem dX8_chain_137 : decode cX8_chain 137 = .ok (.iconst 0, 1) := by decide +kernel
theorem dX8_chain_138 : decode cX8_chain 138 = .ok (.iastore, 1) := by decide +kernel
theorem dX8_chain_139 : decode cX8_chain 139 = .ok (.return_, 1) := by decide +kernel
theorem dX8_lengthen_0 : decode cX8_lengthen 0 = .ok (.iload_n 1, 1) := by decide +kernel
theorem dX8_lengthen_1 : decode cX8_lengthen 1 = .ok (.iload_n 2, 1) := by decide +kernel
theorem dX8_lengthen_2 : decode cX8_lengthen 2 = .ok (.iconst 0, 1) := by decide +kernel
theorem dX8_lengthen_3 : decode cX8_lengthen 3 = .ok (.invokestatic 107, 3) := by decide +kernel
theorem dX8_lengthen_6 : decode cX8_lengthen 6 = .ok (.istore_n 3, 1) := by decide +kernel
theorem dX8_lengthen_7 : decode cX8_lengthen 7 = .ok (.iconst 0, 1) := by decide +kernel
theorem dX8_lengthen_8 : decode cX8_lengthen 8 = .ok (.istore 4, 2) := by decide +kernel
theorem dX8_lengthen_10 : decode cX8_lengthen 10 = .ok (.iload 4, 2) := by decide +kernel
theorem dX8_lengthen_12 : decode cX8_lengthen 12 = .ok (.iload_n 1, 1) := by decide +kernel
theorem dX8_lengthen_13 : decode cX8_lengthen 13 = .ok (.if_icmp .ge 56, 3) := by decide +kernel
theorem dX8_lengthen_16 : decode cX8_lengthen 16 = .ok (.aload_n 0, 1) := by decide +kernel
theorem dX8_lengthen_17 : decode cX8_lengthen 17 = .ok (.getfield 31, 3) := by decide +kernel
theorem dX8_lengthen_20 : decode cX8_lengthen 20 = .ok (.iload 4, 2) := by decide +kernel
theorem dX8_lengthen_22 : decode cX8_lengthen 22 = .ok (.iaload, 1) := by decide +kernel
theorem dX8_lengthen_23 : decode cX8_lengthen 23 = .ok (.ldc 102, 2) := by decide +kernel
theorem dX8_lengthen_25 : decode cX8_lengthen 25 = .ok (.if_icmp .eq 38, 3) := by decide +kernel
theorem dX8_lengthen_28 : decode cX8_lengthen 28 = .ok (.aload_n 0, 1) := by decide +kernel
theorem dX8_lengthen_29 : decode cX8_lengthen 29 = .ok (.getfield 18, 3) := by decide +kernel
theorem dX8_lengthen_32 : decode cX8_lengthen 32 = .ok (.iload_n 3, 1) := by decide +kernel
theorem dX8_lengthen_33 : decode cX8_lengthen 33 = .ok (.iload 4, 2) := by decide +kernel
theorem dX8_lengthen_35 : decode cX8_lengthen 35 = .ok (.iadd, 1) := by decide +kernel
theorem dX8_lengthen_36 : decode cX8_lengthen 36 = .ok (.aload_n 0, 1) := by decide +kernel
theorem dX8_lengthen_37 : decode cX8_lengthen 37 = .ok (.getfield 18, 3) := by decide +kernel
theorem dX8_lengthen_40 : decode cX8_lengthen 40 = .ok (.iload_n 3, 1) := by decide +kernel
theorem dX8_lengthen_41 : decode cX8_lengthen 41 = .ok (.iload 4, 2) := by decide +kernel
theorem dX8_lengthen_43 : decode cX8_lengthen 43 = .ok (.iadd, 1) := by decide +kernel
theorem dX8_lengthen_44 : decode cX8_lengthen 44 = .ok (.iaload, 1) := by decide +kernel
theorem dX8_lengthen_45 : decode cX8_lengthen 45 = .ok (.aload_n 0, 1) := by decide +kernel
theorem dX8_lengthen_46 : decode cX8_lengthen 46 = .ok (.getfield 28, 3) := by decide +kernel
theorem dX8_lengthen_49 : decode cX8_lengthen 49 = .ok (.iload_n 2, 1) := by decide +kernel
theorem dX8_lengthen_50 : decode cX8_lengthen 50 = .ok (.iaload, 1) := by decide +kernel
theorem dX8_lengthen_51 : decode cX8_lengthen 51 = .ok (.aload_n 0, 1) := by decide +kernel
theorem dX8_lengthen_52 : decode cX8_lengthen 52 = .ok (.getfield 31, 3) := by decide +kernel
theorem dX8_lengthen_55 : decode cX8_lengthen 55 = .ok (.iload 4, 2) := by decide +kernel
theorem dX8_lengthen_57 : decode cX8_lengthen 57 = .ok (.iaload, 1) := by decide +kernel
theorem dX8_lengthen_58 : decode cX8_lengthen 58 = .ok (.iadd, 1) := by decide +kernel
theorem dX8_lengthen_59 : decode cX8_lengthen 59 = .ok (.invokestatic 52, 3) := by decide +kernel
theorem dX8_lengthen_62 : decode cX8_lengthen 62 = .ok (.iastore, 1) := by decide +kernel
theorem dX8_lengthen_63 : decode cX8_lengthen 63 = .ok (.iinc 4 1, 3) := by decide +kernel
theorem dX8_lengthen_66 : decode cX8_lengthen 66 = .ok (.goto (-56), 3) := by decide +kernel
theorem dX8_lengthen_69 : decode cX8_lengthen 69 = .ok (.return_, 1) := by decide +kernel
theorem dX8_longestInto_0 : decode cX8_longestInto 0 = .ok (.ldc 102, 2) := by decide +kernel
theorem dX8_longestInto_2 : decode cX8_longestInto 2 = .ok (.istore_n 3, 1) := by decide +kernel
theorem dX8_longestInto_3 : decode cX8_longestInto 3 = .ok (.iconst 0, 1) := by decide +kernel
theorem dX8_longestInto_4 : decode cX8_longestInto 4 = .ok (.istore 4, 2) := by decide +kernel
theorem dX8_longestInto_6 : decode cX8_longestInto 6 = .ok (.iload 4, 2) := by decide +kernel
theorem dX8_longestInto_8 : decode cX8_longestInto 8 = .ok (.iload_n 1, 1) := by decide +kernel
theorem dX8_longestInto_9 : decode cX8_longestInto 9 = .ok (.if_icmp .ge 50, 3) := by decide +kernel
theorem dX8_longestInto_12 : decode cX8_longestInto 12 = .ok (.aload_n 0, 1) := by decide +kernel
theorem dX8_longestInto_13 : decode cX8_longestInto 13 = .ok (.getfield 22, 3) := by decide +kernel
theorem dX8_longestInto_16 : decode cX8_longestInto 16 = .ok (.iload 4, 2) := by decide +kernel
theorem dX8_longestInto_18 : decode cX8_longestInto 18 = .ok (.iaload, 1) := by decide +kernel
theorem dX8_longestInto_19 : decode cX8_longestInto 19 = .ok (.ldc 102, 2) := by decide +kernel
theorem dX8_longestInto_21 : decode cX8_longestInto 21 = .ok (.if_icmp .eq 32, 3) := by decide +kernel
theorem dX8_longestInto_24 : decode cX8_longestInto 24 = .ok (.iload_n 3, 1) := by decide +kernel
theorem dX8_longestInto_25 : decode cX8_longestInto 25 = .ok (.aload_n 0, 1) := by decide +kernel
theorem dX8_longestInto_26 : decode cX8_longestInto 26 = .ok (.getfield 18, 3) := by decide +kernel
theorem dX8_longestInto_29 : decode cX8_longestInto 29 = .ok (.iload_n 1, 1) := by decide +kernel
theorem dX8_longestInto_30 : decode cX8_longestInto 30 = .ok (.iconst 1, 1) := by decide +kernel
theorem dX8_longestInto_31 : decode cX8_longestInto 31 = .ok (.isub, 1) := by decide +kernel
theorem dX8_longestInto_32 : decode cX8_longestInto 32 = .ok (.iload_n 2, 1) := by decide +kernel
theorem dX8_longestInto_33 : decode cX8_longestInto 33 = .ok (.iload 4, 2) := by decide +kernel
theorem dX8_longestInto_35 : decode cX8_longestInto 35 = .ok (.invokestatic 107, 3) := by decide +kernel
theorem dX8_longestInto_38 : decode cX8_longestInto 38 = .ok (.iaload, 1) := by decide +kernel
theorem dX8_longestInto_39 : decode cX8_longestInto 39 = .ok (.aload_n 0, 1) := by decide +kernel
theorem dX8_longestInto_40 : decode cX8_longestInto 40 = .ok (.getfield 22, 3) := by decide +kernel
theorem dX8_longestInto_43 : decode cX8_longestInto 43 = .ok (.iload 4, 2) := by decide +kernel
theorem dX8_longestInto_45 : decode cX8_longestInto 45 = .ok (.iaload, 1) := by decide +kernel
theorem dX8_longestInto_46 : decode cX8_longestInto 46 = .ok (.invokestatic 130, 3) := by decide +kernel
theorem dX8_longestInto_49 : decode cX8_longestInto 49 = .ok (.invokestatic 52, 3) := by decide +kernel
theorem dX8_longestInto_52 : decode cX8_longestInto 52 = .ok (.istore_n 3, 1) := by decide +kernel
theorem dX8_longestInto_53 : decode cX8_longestInto 53 = .ok (.iinc 4 1, 3) := by decide +kernel
theorem dX8_longestInto_56 : decode cX8_longestInto 56 = .ok (.goto (-50), 3) := by decide +kernel
theorem dX8_longestInto_59 : decode cX8_longestInto 59 = .ok (.iload_n 3, 1) := by decide +kernel
theorem dX8_longestInto_60 : decode cX8_longestInto 60 = .ok (.ireturn, 1) := by decide +kernel
theorem dX8_longestOutOf_0 : decode cX8_longestOutOf 0 = .ok (.ldc 102, 2) := by decide +kernel
theorem dX8_longestOutOf_2 : decode cX8_longestOutOf 2 = .ok (.istore_n 3, 1) := by decide +kernel
theorem dX8_longestOutOf_3 : decode cX8_longestOutOf 3 = .ok (.iconst 0, 1) := by decide +kernel
theorem dX8_longestOutOf_4 : decode cX8_longestOutOf 4 = .ok (.istore 4, 2) := by decide +kernel
theorem dX8_longestOutOf_6 : decode cX8_longestOutOf 6 = .ok (.iload 4, 2) := by decide +kernel
theorem dX8_longestOutOf_8 : decode cX8_longestOutOf 8 = .ok (.iload_n 1, 1) := by decide +kernel
theorem dX8_longestOutOf_9 : decode cX8_longestOutOf 9 = .ok (.if_icmp .ge 50, 3) := by decide +kernel
theorem dX8_longestOutOf_12 : decode cX8_longestOutOf 12 = .ok (.aload_n 0, 1) := by decide +kernel
theorem dX8_longestOutOf_13 : decode cX8_longestOutOf 13 = .ok (.getfield 25, 3) := by decide +kernel
theorem dX8_longestOutOf_16 : decode cX8_longestOutOf 16 = .ok (.iload 4, 2) := by decide +kernel
theorem dX8_longestOutOf_18 : decode cX8_longestOutOf 18 = .ok (.iaload, 1) := by decide +kernel
theorem dX8_longestOutOf_19 : decode cX8_longestOutOf 19 = .ok (.ldc 102, 2) := by decide +kernel
theorem dX8_longestOutOf_21 : decode cX8_longestOutOf 21 = .ok (.if_icmp .eq 32, 3) := by decide +kernel
theorem dX8_longestOutOf_24 : decode cX8_longestOutOf 24 = .ok (.iload_n 3, 1) := by decide +kernel
theorem dX8_longestOutOf_25 : decode cX8_longestOutOf 25 = .ok (.aload_n 0, 1) := by decide +kernel
theorem dX8_longestOutOf_26 : decode cX8_longestOutOf 26 = .ok (.getfield 25, 3) := by decide +kernel
theorem dX8_longestOutOf_29 : decode cX8_longestOutOf 29 = .ok (.iload 4, 2) := by decide +kernel
theorem dX8_longestOutOf_31 : decode cX8_longestOutOf 31 = .ok (.iaload, 1) := by decide +kernel
theorem dX8_longestOutOf_32 : decode cX8_longestOutOf 32 = .ok (.aload_n 0, 1) := by decide +kernel
theorem dX8_longestOutOf_33 : decode cX8_longestOutOf 33 = .ok (.getfield 18, 3) := by decide +kernel
theorem dX8_longestOutOf_36 : decode cX8_longestOutOf 36 = .ok (.iload_n 1, 1) := by decide +kernel
theorem dX8_longestOutOf_37 : decode cX8_longestOutOf 37 = .ok (.iconst 1, 1) := by decide +kernel
theorem dX8_longestOutOf_38 : decode cX8_longestOutOf 38 = .ok (.isub, 1) := by decide +kernel
theorem dX8_longestOutOf_39 : decode cX8_longestOutOf 39 = .ok (.iload 4, 2) := by decide +kernel
theorem dX8_longestOutOf_41 : decode cX8_longestOutOf 41 = .ok (.iload_n 2, 1) := by decide +kernel
theorem dX8_longestOutOf_42 : decode cX8_longestOutOf 42 = .ok (.invokestatic 107, 3) := by decide +kernel
theorem dX8_longestOutOf_45 : decode cX8_longestOutOf 45 = .ok (.iaload, 1) := by decide +kernel
theorem dX8_longestOutOf_46 : decode cX8_longestOutOf 46 = .ok (.invokestatic 130, 3) := by decide +kernel
theorem dX8_longestOutOf_49 : decode cX8_longestOutOf 49 = .ok (.invokestatic 52, 3) := by decide +kernel
theorem dX8_longestOutOf_52 : decode cX8_longestOutOf 52 = .ok (.istore_n 3, 1) := by decide +kernel
theorem dX8_longestOutOf_53 : decode cX8_longestOutOf 53 = .ok (.iinc 4 1, 3) := by decide +kernel
theorem dX8_longestOutOf_56 : decode cX8_longestOutOf 56 = .ok (.goto (-50), 3) := by decide +kernel
theorem dX8_longestOutOf_59 : decode cX8_longestOutOf 59 = .ok (.iload_n 3, 1) := by decide +kernel
theorem dX8_longestOutOf_60 : decode cX8_longestOutOf 60 = .ok (.ireturn, 1) := by decide +kernel
theorem dX8_plus_0 : decode cX8_plus 0 = .ok (.iload_n 0, 1) := by decide +kernel
theorem dX8_plus_1 : decode cX8_plus 1 = .ok (.ldc 102, 2) := by decide +kernel
theorem dX8_plus_3 : decode cX8_plus 3 = .ok (.if_icmp .eq 9, 3) := by decide +kernel
theorem dX8_plus_6 : decode cX8_plus 6 = .ok (.iload_n 1, 1) := by decide +kernel
theorem dX8_plus_7 : decode cX8_plus 7 = .ok (.ldc 102, 2) := by decide +kernel
theorem dX8_plus_9 : decode cX8_plus 9 = .ok (.if_icmp .ne 8, 3) := by decide +kernel
theorem dX8_plus_12 : decode cX8_plus 12 = .ok (.ldc 102, 2) := by decide +kernel
theorem dX8_plus_14 : decode cX8_plus 14 = .ok (.goto 6, 3) := by decide +kernel
theorem dX8_plus_17 : decode cX8_plus 17 = .ok (.iload_n 0, 1) := by decide +kernel
theorem dX8_plus_18 : decode cX8_plus 18 = .ok (.iload_n 1, 1) := by decide +kernel
theorem dX8_plus_19 : decode cX8_plus 19 = .ok (.iadd, 1) := by decide +kernel
theorem dX8_plus_20 : decode cX8_plus 20 = .ok (.ireturn, 1) := by decide +kernel
theorem dX8_place_0 : decode cX8_place 0 = .ok (.iload_n 0, 1) := by decide +kernel
theorem dX8_place_1 : decode cX8_place 1 = .ok (.bipush 16, 2) := by decide +kernel
theorem dX8_place_3 : decode cX8_place 3 = .ok (.imul, 1) := by decide +kernel
theorem dX8_place_4 : decode cX8_place 4 = .ok (.iload_n 1, 1) := by decide +kernel
theorem dX8_place_5 : decode cX8_place 5 = .ok (.iadd, 1) := by decide +kernel
theorem dX8_place_6 : decode cX8_place 6 = .ok (.bipush 16, 2) := by decide +kernel
theorem dX8_place_8 : decode cX8_place 8 = .ok (.imul, 1) := by decide +kernel
theorem dX8_place_9 : decode cX8_place 9 = .ok (.iload_n 2, 1) := by decide +kernel
theorem dX8_place_10 : decode cX8_place 10 = .ok (.iadd, 1) := by decide +kernel
theorem dX8_place_11 : decode cX8_place 11 = .ok (.ireturn, 1) := by decide +kernel
theorem dX8_stageOf_0 : decode cX8_stageOf 0 = .ok (.iconst 0, 1) := by decide +kernel
theorem dX8_stageOf_1 : decode cX8_stageOf 1 = .ok (.istore_n 2, 1) := by decide +kernel
theorem dX8_stageOf_2 : decode cX8_stageOf 2 = .ok (.iconst 0, 1) := by decide +kernel
theorem dX8_stageOf_3 : decode cX8_stageOf 3 = .ok (.istore_n 3, 1) := by decide +kernel
theorem dX8_stageOf_4 : decode cX8_stageOf 4 = .ok (.iload_n 3, 1) := by decide +kernel
theorem dX8_stageOf_5 : decode cX8_stageOf 5 = .ok (.aload_n 0, 1) := by decide +kernel
theorem dX8_stageOf_6 : decode cX8_stageOf 6 = .ok (.getfield 44, 3) := by decide +kernel
theorem dX8_stageOf_9 : decode cX8_stageOf 9 = .ok (.getfield 61, 3) := by decide +kernel
theorem dX8_stageOf_12 : decode cX8_stageOf 12 = .ok (.if_icmp .ge 33, 3) := by decide +kernel
theorem dX8_stageOf_15 : decode cX8_stageOf 15 = .ok (.iload_n 2, 1) := by decide +kernel
theorem dX8_stageOf_16 : decode cX8_stageOf 16 = .ok (.aload_n 0, 1) := by decide +kernel
theorem dX8_stageOf_17 : decode cX8_stageOf 17 = .ok (.getfield 18, 3) := by decide +kernel
theorem dX8_stageOf_20 : decode cX8_stageOf 20 = .ok (.aload_n 0, 1) := by decide +kernel
theorem dX8_stageOf_21 : decode cX8_stageOf 21 = .ok (.getfield 44, 3) := by decide +kernel
theorem dX8_stageOf_24 : decode cX8_stageOf 24 = .ok (.getfield 61, 3) := by decide +kernel
theorem dX8_stageOf_27 : decode cX8_stageOf 27 = .ok (.iconst 1, 1) := by decide +kernel
theorem dX8_stageOf_28 : decode cX8_stageOf 28 = .ok (.isub, 1) := by decide +kernel
theorem dX8_stageOf_29 : decode cX8_stageOf 29 = .ok (.iload_n 3, 1) := by decide +kernel
theorem dX8_stageOf_30 : decode cX8_stageOf 30 = .ok (.iload_n 1, 1) := by decide +kernel
theorem dX8_stageOf_31 : decode cX8_stageOf 31 = .ok (.invokestatic 107, 3) := by decide +kernel
theorem dX8_stageOf_34 : decode cX8_stageOf 34 = .ok (.iaload, 1) := by decide +kernel
theorem dX8_stageOf_35 : decode cX8_stageOf 35 = .ok (.invokestatic 52, 3) := by decide +kernel
theorem dX8_stageOf_38 : decode cX8_stageOf 38 = .ok (.istore_n 2, 1) := by decide +kernel
theorem dX8_stageOf_39 : decode cX8_stageOf 39 = .ok (.iinc 3 1, 3) := by decide +kernel
theorem dX8_stageOf_42 : decode cX8_stageOf 42 = .ok (.goto (-38), 3) := by decide +kernel
theorem dX8_stageOf_45 : decode cX8_stageOf 45 = .ok (.iload_n 2, 1) := by decide +kernel
theorem dX8_stageOf_46 : decode cX8_stageOf 46 = .ok (.ireturn, 1) := by decide +kernel
theorem dX9_init_0 : decode cX9_init 0 = .ok (.aload_n 0, 1) := by decide +kernel
theorem dX9_init_1 : decode cX9_init 1 = .ok (.invokespecial 3, 3) := by decide +kernel
theorem dX9_init_4 : decode cX9_init 4 = .ok (.aload_n 0, 1) := by decide +kernel
theorem dX9_init_5 : decode cX9_init 5 = .ok (.sipush 256, 3) := by decide +kernel
theorem dX9_init_8 : decode cX9_init 8 = .ok (.newarray .int, 2) := by decide +kernel
theorem dX9_init_10 : decode cX9_init 10 = .ok (.putfield 9, 3) := by decide +kernel
theorem dX9_init_13 : decode cX9_init 13 = .ok (.aload_n 0, 1) := by decide +kernel
theorem dX9_init_14 : decode cX9_init 14 = .ok (.sipush 256, 3) := by decide +kernel
theorem dX9_init_17 : decode cX9_init 17 = .ok (.newarray .int, 2) := by decide +kernel
theorem dX9_init_19 : decode cX9_init 19 = .ok (.putfield 15, 3) := by decide +kernel
theorem dX9_init_22 : decode cX9_init 22 = .ok (.return_, 1) := by decide +kernel
theorem dX9_load_0 : decode cX9_load 0 = .ok (.aload_n 0, 1) := by decide +kernel
theorem dX9_load_1 : decode cX9_load 1 = .ok (.getfield 9, 3) := by decide +kernel
theorem dX9_load_4 : decode cX9_load 4 = .ok (.ldc 18, 2) := by decide +kernel
theorem dX9_load_6 : decode cX9_load 6 = .ok (.invokestatic 19, 3) := by decide +kernel
theorem dX9_load_9 : decode cX9_load 9 = .ok (.iconst 0, 1) := by decide +kernel
theorem dX9_load_10 : decode cX9_load 10 = .ok (.istore_n 3, 1) := by decide +kernel
theorem dX9_load_11 : decode cX9_load 11 = .ok (.iload_n 3, 1) := by decide +kernel
theorem dX9_load_12 : decode cX9_load 12 = .ok (.aload_n 1, 1) := by decide +kernel
theorem dX9_load_13 : decode cX9_load 13 = .ok (.getfield 25, 3) := by decide +kernel
theorem dX9_load_16 : decode cX9_load 16 = .ok (.if_icmp .ge 59, 3) := by decide +kernel
theorem dX9_load_19 : decode cX9_load 19 = .ok (.aload_n 1, 1) := by decide +kernel
theorem dX9_load_20 : decode cX9_load 20 = .ok (.getfield 31, 3) := by decide +kernel
theorem dX9_load_23 : decode cX9_load 23 = .ok (.iload_n 3, 1) := by decide +kernel
theorem dX9_load_24 : decode cX9_load 24 = .ok (.iaload, 1) := by decide +kernel
theorem dX9_load_25 : decode cX9_load 25 = .ok (.bipush 16, 2) := by decide +kernel
theorem dX9_load_27 : decode cX9_load 27 = .ok (.imul, 1) := by decide +kernel
theorem dX9_load_28 : decode cX9_load 28 = .ok (.aload_n 1, 1) := by decide +kernel
theorem dX9_load_29 : decode cX9_load 29 = .ok (.getfield 34, 3) := by decide +kernel
theorem dX9_load_32 : decode cX9_load 32 = .ok (.iload_n 3, 1) := by decide +kernel
theorem dX9_load_33 : decode cX9_load 33 = .ok (.iaload, 1) := by decide +kernel
theorem dX9_load_34 : decode cX9_load 34 = .ok (.iadd, 1) := by decide +kernel
theorem dX9_load_35 : decode cX9_load 35 = .ok (.istore 4, 2) := by decide +kernel
theorem dX9_load_37 : decode cX9_load 37 = .ok (.aload_n 0, 1) := by decide +kernel
theorem dX9_load_38 : decode cX9_load 38 = .ok (.getfield 9, 3) := by decide +kernel
theorem dX9_load_41 : decode cX9_load 41 = .ok (.iload 4, 2) := by decide +kernel
theorem dX9_load_43 : decode cX9_load 43 = .ok (.aload_n 0, 1) := by decide +kernel
theorem dX9_load_44 : decode cX9_load 44 = .ok (.getfield 9, 3) := by decide +kernel
theorem dX9_load_47 : decode cX9_load 47 = .ok (.iload 4, 2) := by decide +kernel
theorem dX9_load_49 : decode cX9_load 49 = .ok (.iaload, 1) := by decide +kernel
theorem dX9_load_50 : decode cX9_load 50 = .ok (.aload_n 1, 1) := by decide +kernel
theorem dX9_load_51 : decode cX9_load 51 = .ok (.getfield 37, 3) := by decide +kernel
theorem dX9_load_54 : decode cX9_load 54 = .ok (.iload_n 3, 1) := by decide +kernel
theorem dX9_load_55 : decode cX9_load 55 = .ok (.iaload, 1) := by decide +kernel
theorem dX9_load_56 : decode cX9_load 56 = .ok (.iload_n 2, 1) := by decide +kernel
theorem dX9_load_57 : decode cX9_load 57 = .ok (.aload_n 1, 1) := by decide +kernel
theorem dX9_load_58 : decode cX9_load 58 = .ok (.getfield 40, 3) := by decide +kernel
theorem dX9_load_61 : decode cX9_load 61 = .ok (.iload_n 3, 1) := by decide +kernel
theorem dX9_load_62 : decode cX9_load 62 = .ok (.iaload, 1) := by decide +kernel
theorem dX9_load_63 : decode cX9_load 63 = .ok (.imul, 1) := by decide +kernel
theorem dX9_load_64 : decode cX9_load 64 = .ok (.isub, 1) := by decide +kernel
theorem dX9_load_65 : decode cX9_load 65 = .ok (.invokestatic 43, 3) := by decide +kernel
theorem dX9_load_68 : decode cX9_load 68 = .ok (.iastore, 1) := by decide +kernel
theorem dX9_load_69 : decode cX9_load 69 = .ok (.iinc 3 1, 3) := by decide +kernel
theorem dX9_load_72 : decode cX9_load 72 = .ok (.goto (-61), 3) := by decide +kernel
theorem dX9_load_75 : decode cX9_load 75 = .ok (.return_, 1) := by decide +kernel
theorem dX9_join_0 : decode cX9_join 0 = .ok (.aload_n 0, 1) := by decide +kernel
theorem dX9_join_1 : decode cX9_join 1 = .ok (.getfield 9, 3) := by decide +kernel
theorem dX9_join_4 : decode cX9_join 4 = .ok (.iconst 0, 1) := by decide +kernel
theorem dX9_join_5 : decode cX9_join 5 = .ok (.aload_n 0, 1) := by decide +kernel
theorem dX9_join_6 : decode cX9_join 6 = .ok (.getfield 15, 3) := by decide +kernel
theorem dX9_join_9 : decode cX9_join 9 = .ok (.iconst 0, 1) := by decide +kernel
theorem dX9_join_10 : decode cX9_join 10 = .ok (.aload_n 0, 1) := by decide +kernel
theorem dX9_join_11 : decode cX9_join 11 = .ok (.getfield 15, 3) := by decide +kernel
theorem dX9_join_14 : decode cX9_join 14 = .ok (.arraylength, 1) := by decide +kernel
theorem dX9_join_15 : decode cX9_join 15 = .ok (.invokestatic 49, 3) := by decide +kernel
theorem dX9_join_18 : decode cX9_join 18 = .ok (.iconst 0, 1) := by decide +kernel
theorem dX9_join_19 : decode cX9_join 19 = .ok (.istore_n 2, 1) := by decide +kernel
theorem dX9_join_20 : decode cX9_join 20 = .ok (.iload_n 2, 1) := by decide +kernel
theorem dX9_join_21 : decode cX9_join 21 = .ok (.iload_n 1, 1) := by decide +kernel
theorem dX9_join_22 : decode cX9_join 22 = .ok (.if_icmp .ge 20, 3) := by decide +kernel
theorem dX9_join_25 : decode cX9_join 25 = .ok (.aload_n 0, 1) := by decide +kernel
theorem dX9_join_26 : decode cX9_join 26 = .ok (.iload_n 2, 1) := by decide +kernel
theorem dX9_join_27 : decode cX9_join 27 = .ok (.iload_n 1, 1) := by decide +kernel
theorem dX9_join_28 : decode cX9_join 28 = .ok (.invokevirtual 55, 3) := by decide +kernel
theorem dX9_join_31 : decode cX9_join 31 = .ok (.ifCond .ne 5, 3) := by decide +kernel
theorem dX9_join_34 : decode cX9_join 34 = .ok (.iconst 0, 1) := by decide +kernel
theorem dX9_join_35 : decode cX9_join 35 = .ok (.ireturn, 1) := by decide +kernel
theorem dX9_join_36 : decode cX9_join 36 = .ok (.iinc 2 1, 3) := by decide +kernel
theorem dX9_join_39 : decode cX9_join 39 = .ok (.goto (-19), 3) := by decide +kernel
theorem dX9_join_42 : decode cX9_join 42 = .ok (.iconst 1, 1) := by decide +kernel
theorem dX9_join_43 : decode cX9_join 43 = .ok (.ireturn, 1) := by decide +kernel
theorem dX9_joinBy_0 : decode cX9_joinBy 0 = .ok (.iconst 0, 1) := by decide +kernel
theorem dX9_joinBy_1 : decode cX9_joinBy 1 = .ok (.istore_n 3, 1) := by decide +kernel
theorem dX9_joinBy_2 : decode cX9_joinBy 2 = .ok (.iload_n 3, 1) := by decide +kernel
theorem dX9_joinBy_3 : decode cX9_joinBy 3 = .ok (.iload_n 2, 1) := by decide +kernel
theorem dX9_joinBy_4 : decode cX9_joinBy 4 = .ok (.if_icmp .ge 54, 3) := by decide +kernel
theorem dX9_joinBy_7 : decode cX9_joinBy 7 = .ok (.aload_n 0, 1) := by decide +kernel
theorem dX9_joinBy_8 : decode cX9_joinBy 8 = .ok (.getfield 15, 3) := by decide +kernel
theorem dX9_joinBy_11 : decode cX9_joinBy 11 = .ok (.iload_n 3, 1) := by decide +kernel
theorem dX9_joinBy_12 : decode cX9_joinBy 12 = .ok (.bipush 16, 2) := by decide +kernel
theorem dX9_joinBy_14 : decode cX9_joinBy 14 = .ok (.imul, 1) := by decide +kernel
theorem dX9_joinBy_15 : decode cX9_joinBy 15 = .ok (.iload_n 1, 1) := by decide +kernel
theorem dX9_joinBy_16 : decode cX9_joinBy 16 = .ok (.iadd, 1) := by decide +kernel
theorem dX9_joinBy_17 : decode cX9_joinBy 17 = .ok (.iaload, 1) := by decide +kernel
theorem dX9_joinBy_18 : decode cX9_joinBy 18 = .ok (.istore 4, 2) := by decide +kernel
theorem dX9_joinBy_20 : decode cX9_joinBy 20 = .ok (.iload 4, 2) := by decide +kernel
theorem dX9_joinBy_22 : decode cX9_joinBy 22 = .ok (.ldc 18, 2) := by decide +kernel
theorem dX9_joinBy_24 : decode cX9_joinBy 24 = .ok (.if_icmp .eq 12, 3) := by decide +kernel
theorem dX9_joinBy_27 : decode cX9_joinBy 27 = .ok (.aload_n 0, 1) := by decide +kernel
theorem dX9_joinBy_28 : decode cX9_joinBy 28 = .ok (.iload_n 3, 1) := by decide +kernel
theorem dX9_joinBy_29 : decode cX9_joinBy 29 = .ok (.iload 4, 2) := by decide +kernel
theorem dX9_joinBy_31 : decode cX9_joinBy 31 = .ok (.iload_n 1, 1) := by decide +kernel
theorem dX9_joinBy_32 : decode cX9_joinBy 32 = .ok (.iload_n 2, 1) := by decide +kernel
theorem dX9_joinBy_33 : decode cX9_joinBy 33 = .ok (.invokevirtual 59, 3) := by decide +kernel
theorem dX9_joinBy_36 : decode cX9_joinBy 36 = .ok (.aload_n 0, 1) := by decide +kernel
theorem dX9_joinBy_37 : decode cX9_joinBy 37 = .ok (.getfield 15, 3) := by decide +kernel
theorem dX9_joinBy_40 : decode cX9_joinBy 40 = .ok (.iload_n 3, 1) := by decide +kernel
theorem dX9_joinBy_41 : decode cX9_joinBy 41 = .ok (.bipush 16, 2) := by decide +kernel
theorem dX9_joinBy_43 : decode cX9_joinBy 43 = .ok (.imul, 1) := by decide +kernel
theorem dX9_joinBy_44 : decode cX9_joinBy 44 = .ok (.iload_n 3, 1) := by decide +kernel
theorem dX9_joinBy_45 : decode cX9_joinBy 45 = .ok (.iadd, 1) := by decide +kernel
theorem dX9_joinBy_46 : decode cX9_joinBy 46 = .ok (.iaload, 1) := by decide +kernel
theorem dX9_joinBy_47 : decode cX9_joinBy 47 = .ok (.ifCond .le 5, 3) := by decide +kernel
theorem dX9_joinBy_50 : decode cX9_joinBy 50 = .ok (.iconst 0, 1) := by decide +kernel
theorem dX9_joinBy_51 : decode cX9_joinBy 51 = .ok (.ireturn, 1) := by decide +kernel
theorem dX9_joinBy_52 : decode cX9_joinBy 52 = .ok (.iinc 3 1, 3) := by decide +kernel
theorem dX9_joinBy_55 : decode cX9_joinBy 55 = .ok (.goto (-53), 3) := by decide +kernel
theorem dX9_joinBy_58 : decode cX9_joinBy 58 = .ok (.iconst 1, 1) := by decide +kernel
theorem dX9_joinBy_59 : decode cX9_joinBy 59 = .ok (.ireturn, 1) := by decide +kernel
theorem dX9_joinRow_0 : decode cX9_joinRow 0 = .ok (.iconst 0, 1) := by decide +kernel
theorem dX9_joinRow_1 : decode cX9_joinRow 1 = .ok (.istore 5, 2) := by decide +kernel
theorem dX9_joinRow_3 : decode cX9_joinRow 3 = .ok (.iload 5, 2) := by decide +kernel
theorem dX9_joinRow_5 : decode cX9_joinRow 5 = .ok (.iload 4, 2) := by decide +kernel
theorem dX9_joinRow_7 : decode cX9_joinRow 7 = .ok (.if_icmp .ge 60, 3) := by decide +kernel
theorem dX9_joinRow_10 : decode cX9_joinRow 10 = .ok (.aload_n 0, 1) := by decide +kernel
theorem dX9_joinRow_11 : decode cX9_joinRow 11 = .ok (.getfield 15, 3) := by decide +kernel
theorem dX9_joinRow_14 : decode cX9_joinRow 14 = .ok (.iload_n 3, 1) := by decide +kernel
theorem dX9_joinRow_15 : decode cX9_joinRow 15 = .ok (.bipush 16, 2) := by decide +kernel
theorem dX9_joinRow_17 : decode cX9_joinRow 17 = .ok (.imul, 1) := by decide +kernel
theorem dX9_joinRow_18 : decode cX9_joinRow 18 = .ok (.iload 5, 2) := by decide +kernel
theorem dX9_joinRow_20 : decode cX9_joinRow 20 = .ok (.iadd, 1) := by decide +kernel
theorem dX9_joinRow_21 : decode cX9_joinRow 21 = .ok (.iaload, 1) := by decide +kernel
theorem dX9_joinRow_22 : decode cX9_joinRow 22 = .ok (.istore 6, 2) := by decide +kernel
theorem dX9_joinRow_24 : decode cX9_joinRow 24 = .ok (.iload 6, 2) := by decide +kernel
theorem dX9_joinRow_26 : decode cX9_joinRow 26 = .ok (.ldc 18, 2) := by decide +kernel
theorem dX9_joinRow_28 : decode cX9_joinRow 28 = .ok (.if_icmp .eq 33, 3) := by decide +kernel
theorem dX9_joinRow_31 : decode cX9_joinRow 31 = .ok (.iload_n 1, 1) := by decide +kernel
theorem dX9_joinRow_32 : decode cX9_joinRow 32 = .ok (.bipush 16, 2) := by decide +kernel
theorem dX9_joinRow_34 : decode cX9_joinRow 34 = .ok (.imul, 1) := by decide +kernel
theorem dX9_joinRow_35 : decode cX9_joinRow 35 = .ok (.iload 5, 2) := by decide +kernel
theorem dX9_joinRow_37 : decode cX9_joinRow 37 = .ok (.iadd, 1) := by decide +kernel
theorem dX9_joinRow_38 : decode cX9_joinRow 38 = .ok (.istore 7, 2) := by decide +kernel
theorem dX9_joinRow_40 : decode cX9_joinRow 40 = .ok (.aload_n 0, 1) := by decide +kernel
theorem dX9_joinRow_41 : decode cX9_joinRow 41 = .ok (.getfield 15, 3) := by decide +kernel
theorem dX9_joinRow_44 : decode cX9_joinRow 44 = .ok (.iload 7, 2) := by decide +kernel
theorem dX9_joinRow_46 : decode cX9_joinRow 46 = .ok (.aload_n 0, 1) := by decide +kernel
theorem dX9_joinRow_47 : decode cX9_joinRow 47 = .ok (.getfield 15, 3) := by decide +kernel
theorem dX9_joinRow_50 : decode cX9_joinRow 50 = .ok (.iload 7, 2) := by decide +kernel
theorem dX9_joinRow_52 : decode cX9_joinRow 52 = .ok (.iaload, 1) := by decide +kernel
theorem dX9_joinRow_53 : decode cX9_joinRow 53 = .ok (.iload_n 2, 1) := by decide +kernel
theorem dX9_joinRow_54 : decode cX9_joinRow 54 = .ok (.iload 6, 2) := by decide +kernel
theorem dX9_joinRow_56 : decode cX9_joinRow 56 = .ok (.iadd, 1) := by decide +kernel
theorem dX9_joinRow_57 : decode cX9_joinRow 57 = .ok (.invokestatic 43, 3) := by decide +kernel
theorem dX9_joinRow_60 : decode cX9_joinRow 60 = .ok (.iastore, 1) := by decide +kernel
theorem dX9_joinRow_61 : decode cX9_joinRow 61 = .ok (.iinc 5 1, 3) := by decide +kernel
theorem dX9_joinRow_64 : decode cX9_joinRow 64 = .ok (.goto (-61), 3) := by decide +kernel
theorem dX9_joinRow_67 : decode cX9_joinRow 67 = .ok (.return_, 1) := by decide +kernel
theorem dX9_earliest_0 : decode cX9_earliest 0 = .ok (.iconst 0, 1) := by decide +kernel
theorem dX9_earliest_1 : decode cX9_earliest 1 = .ok (.istore_n 3, 1) := by decide +kernel
theorem dX9_earliest_2 : decode cX9_earliest 2 = .ok (.iconst 0, 1) := by decide +kernel
theorem dX9_earliest_3 : decode cX9_earliest 3 = .ok (.istore 4, 2) := by decide +kernel
theorem dX9_earliest_5 : decode cX9_earliest 5 = .ok (.iload 4, 2) := by decide +kernel
theorem dX9_earliest_7 : decode cX9_earliest 7 = .ok (.iload_n 2, 1) := by decide +kernel
theorem dX9_earliest_8 : decode cX9_earliest 8 = .ok (.if_icmp .ge 26, 3) := by decide +kernel
theorem dX9_earliest_11 : decode cX9_earliest 11 = .ok (.iload_n 3, 1) := by decide +kernel
theorem dX9_earliest_12 : decode cX9_earliest 12 = .ok (.aload_n 0, 1) := by decide +kernel
theorem dX9_earliest_13 : decode cX9_earliest 13 = .ok (.getfield 15, 3) := by decide +kernel
theorem dX9_earliest_16 : decode cX9_earliest 16 = .ok (.iload 4, 2) := by decide +kernel
theorem dX9_earliest_18 : decode cX9_earliest 18 = .ok (.bipush 16, 2) := by decide +kernel
theorem dX9_earliest_20 : decode cX9_earliest 20 = .ok (.imul, 1) := by decide +kernel
theorem dX9_earliest_21 : decode cX9_earliest 21 = .ok (.iload_n 1, 1) := by decide +kernel
theorem dX9_earliest_22 : decode cX9_earliest 22 = .ok (.iadd, 1) := by decide +kernel
theorem dX9_earliest_23 : decode cX9_earliest 23 = .ok (.iaload, 1) := by decide +kernel
theorem dX9_earliest_24 : decode cX9_earliest 24 = .ok (.invokestatic 43, 3) := by decide +kernel
theorem dX9_earliest_27 : decode cX9_earliest 27 = .ok (.istore_n 3, 1) := by decide +kernel
theorem dX9_earliest_28 : decode cX9_earliest 28 = .ok (.iinc 4 1, 3) := by decide +kernel
theorem dX9_earliest_31 : decode cX9_earliest 31 = .ok (.goto (-26), 3) := by decide +kernel
theorem dX9_earliest_34 : decode cX9_earliest 34 = .ok (.iload_n 3, 1) := by decide +kernel
theorem dX9_earliest_35 : decode cX9_earliest 35 = .ok (.ireturn, 1) := by decide +kernel
theorem dX9_farthest_0 : decode cX9_farthest 0 = .ok (.iconst 0, 1) := by decide +kernel
theorem dX9_farthest_1 : decode cX9_farthest 1 = .ok (.istore_n 3, 1) := by decide +kernel
theorem dX9_farthest_2 : decode cX9_farthest 2 = .ok (.iconst 0, 1) := by decide +kernel
theorem dX9_farthest_3 : decode cX9_farthest 3 = .ok (.istore 4, 2) := by decide +kernel
theorem dX9_farthest_5 : decode cX9_farthest 5 = .ok (.iload 4, 2) := by decide +kernel
theorem dX9_farthest_7 : decode cX9_farthest 7 = .ok (.iload_n 2, 1) := by decide +kernel
theorem dX9_farthest_8 : decode cX9_farthest 8 = .ok (.if_icmp .ge 26, 3) := by decide +kernel
theorem dX9_farthest_11 : decode cX9_farthest 11 = .ok (.iload_n 3, 1) := by decide +kernel
theorem dX9_farthest_12 : decode cX9_farthest 12 = .ok (.aload_n 0, 1) := by decide +kernel
theorem dX9_farthest_13 : decode cX9_farthest 13 = .ok (.getfield 15, 3) := by decide +kernel
theorem dX9_farthest_16 : decode cX9_farthest 16 = .ok (.iload_n 1, 1) := by decide +kernel
theorem dX9_farthest_17 : decode cX9_farthest 17 = .ok (.bipush 16, 2) := by decide +kernel
theorem dX9_farthest_19 : decode cX9_farthest 19 = .ok (.imul, 1) := by decide +kernel
theorem dX9_farthest_20 : decode cX9_farthest 20 = .ok (.iload 4, 2) := by decide +kernel
theorem dX9_farthest_22 : decode cX9_farthest 22 = .ok (.iadd, 1) := by decide +kernel
theorem dX9_farthest_23 : decode cX9_farthest 23 = .ok (.iaload, 1) := by decide +kernel
theorem dX9_farthest_24 : decode cX9_farthest 24 = .ok (.invokestatic 43, 3) := by decide +kernel
theorem dX9_farthest_27 : decode cX9_farthest 27 = .ok (.istore_n 3, 1) := by decide +kernel
theorem dX9_farthest_28 : decode cX9_farthest 28 = .ok (.iinc 4 1, 3) := by decide +kernel
theorem dX9_farthest_31 : decode cX9_farthest 31 = .ok (.goto (-26), 3) := by decide +kernel
theorem dX9_farthest_34 : decode cX9_farthest 34 = .ok (.iload_n 3, 1) := by decide +kernel
theorem dX9_farthest_35 : decode cX9_farthest 35 = .ok (.ireturn, 1) := by decide +kernel
theorem dX10_init_0 : decode cX10_init 0 = .ok (.aload_n 0, 1) := by decide +kernel
theorem dX10_init_1 : decode cX10_init 1 = .ok (.invokespecial 3, 3) := by decide +kernel
theorem dX10_init_4 : decode cX10_init 4 = .ok (.aload_n 0, 1) := by decide +kernel
theorem dX10_init_5 : decode cX10_init 5 = .ok (.new 9, 3) := by decide +kernel
theorem dX10_init_8 : decode cX10_init 8 = .ok (.dup, 1) := by decide +kernel
theorem dX10_init_9 : decode cX10_init 9 = .ok (.sipush 720, 3) := by decide +kernel
theorem dX10_init_12 : decode cX10_init 12 = .ok (.invokespecial 11, 3) := by decide +kernel
theorem dX10_init_15 : decode cX10_init 15 = .ok (.putfield 14, 3) := by decide +kernel
theorem dX10_init_18 : decode cX10_init 18 = .ok (.aload_n 0, 1) := by decide +kernel
theorem dX10_init_19 : decode cX10_init 19 = .ok (.iconst 0, 1) := by decide +kernel
theorem dX10_init_20 : decode cX10_init 20 = .ok (.putfield 20, 3) := by decide +kernel
theorem dX10_init_23 : decode cX10_init 23 = .ok (.aload_n 0, 1) := by decide +kernel
theorem dX10_init_24 : decode cX10_init 24 = .ok (.iconst 1, 1) := by decide +kernel
theorem dX10_init_25 : decode cX10_init 25 = .ok (.putfield 24, 3) := by decide +kernel
theorem dX10_init_28 : decode cX10_init 28 = .ok (.return_, 1) := by decide +kernel
theorem dX10_renew_0 : decode cX10_renew 0 = .ok (.aload_n 0, 1) := by decide +kernel
theorem dX10_renew_1 : decode cX10_renew 1 = .ok (.getfield 24, 3) := by decide +kernel
theorem dX10_renew_4 : decode cX10_renew 4 = .ok (.ifCond .ne 4, 3) := by decide +kernel
theorem dX10_renew_7 : decode cX10_renew 7 = .ok (.return_, 1) := by decide +kernel
theorem dX10_renew_8 : decode cX10_renew 8 = .ok (.aload_n 0, 1) := by decide +kernel
theorem dX10_renew_9 : decode cX10_renew 9 = .ok (.getfield 14, 3) := by decide +kernel
theorem dX10_renew_12 : decode cX10_renew 12 = .ok (.iconst 0, 1) := by decide +kernel
theorem dX10_renew_13 : decode cX10_renew 13 = .ok (.putfield 28, 3) := by decide +kernel
theorem dX10_renew_16 : decode cX10_renew 16 = .ok (.iconst 0, 1) := by decide +kernel
theorem dX10_renew_17 : decode cX10_renew 17 = .ok (.istore_n 2, 1) := by decide +kernel
theorem dX10_renew_18 : decode cX10_renew 18 = .ok (.iload_n 2, 1) := by decide +kernel
theorem dX10_renew_19 : decode cX10_renew 19 = .ok (.aload_n 1, 1) := by decide +kernel
theorem dX10_renew_20 : decode cX10_renew 20 = .ok (.getfield 31, 3) := by decide +kernel
theorem dX10_renew_23 : decode cX10_renew 23 = .ok (.if_icmp .ge 37, 3) := by decide +kernel
theorem dX10_renew_26 : decode cX10_renew 26 = .ok (.aload_n 0, 1) := by decide +kernel
theorem dX10_renew_27 : decode cX10_renew 27 = .ok (.aload_n 1, 1) := by decide +kernel
theorem dX10_renew_28 : decode cX10_renew 28 = .ok (.iload_n 2, 1) := by decide +kernel
theorem dX10_renew_29 : decode cX10_renew 29 = .ok (.invokevirtual 36, 3) := by decide +kernel
theorem dX10_renew_32 : decode cX10_renew 32 = .ok (.aload_n 0, 1) := by decide +kernel
theorem dX10_renew_33 : decode cX10_renew 33 = .ok (.aload_n 1, 1) := by decide +kernel
theorem dX10_renew_34 : decode cX10_renew 34 = .ok (.iload_n 2, 1) := by decide +kernel
theorem dX10_renew_35 : decode cX10_renew 35 = .ok (.invokevirtual 40, 3) := by decide +kernel
theorem dX10_renew_38 : decode cX10_renew 38 = .ok (.aload_n 1, 1) := by decide +kernel
theorem dX10_renew_39 : decode cX10_renew 39 = .ok (.getfield 43, 3) := by decide +kernel
theorem dX10_renew_42 : decode cX10_renew 42 = .ok (.iload_n 2, 1) := by decide +kernel
theorem dX10_renew_43 : decode cX10_renew 43 = .ok (.iaload, 1) := by decide +kernel
theorem dX10_renew_44 : decode cX10_renew 44 = .ok (.iconst 5, 1) := by decide +kernel
theorem dX10_renew_45 : decode cX10_renew 45 = .ok (.if_icmp .ne 9, 3) := by decide +kernel
theorem dX10_renew_48 : decode cX10_renew 48 = .ok (.aload_n 0, 1) := by decide +kernel
theorem dX10_renew_49 : decode cX10_renew 49 = .ok (.aload_n 1, 1) := by decide +kernel
theorem dX10_renew_50 : decode cX10_renew 50 = .ok (.iload_n 2, 1) := by decide +kernel
theorem dX10_renew_51 : decode cX10_renew 51 = .ok (.invokevirtual 47, 3) := by decide +kernel
theorem dX10_renew_54 : decode cX10_renew 54 = .ok (.iinc 2 1, 3) := by decide +kernel
theorem dX10_renew_57 : decode cX10_renew 57 = .ok (.goto (-39), 3) := by decide +kernel
theorem dX10_renew_60 : decode cX10_renew 60 = .ok (.aload_n 0, 1) := by decide +kernel
theorem dX10_renew_61 : decode cX10_renew 61 = .ok (.aload_n 0, 1) := by decide +kernel
theorem dX10_renew_62 : decode cX10_renew 62 = .ok (.getfield 14, 3) := by decide +kernel
theorem dX10_renew_65 : decode cX10_renew 65 = .ok (.getfield 28, 3) := by decide +kernel
theorem dX10_renew_68 : decode cX10_renew 68 = .ok (.putfield 20, 3) := by decide +kernel
theorem dX10_renew_71 : decode cX10_renew 71 = .ok (.aload_n 0, 1) := by decide +kernel
theorem dX10_renew_72 : decode cX10_renew 72 = .ok (.getfield 14, 3) := by decide +kernel
theorem dX10_renew_75 : decode cX10_renew 75 = .ok (.aload_n 1, 1) := by decide +kernel
theorem dX10_renew_76 : decode cX10_renew 76 = .ok (.getfield 50, 3) := by decide +kernel
theorem dX10_renew_79 : decode cX10_renew 79 = .ok (.invokevirtual 53, 3) := by decide +kernel
theorem dX10_renew_82 : decode cX10_renew 82 = .ok (.aload_n 0, 1) := by decide +kernel
theorem dX10_renew_83 : decode cX10_renew 83 = .ok (.iconst 0, 1) := by decide +kernel
theorem dX10_renew_84 : decode cX10_renew 84 = .ok (.putfield 24, 3) := by decide +kernel
theorem dX10_renew_87 : decode cX10_renew 87 = .ok (.return_, 1) := by decide +kernel
theorem dX10_joinOperands_0 : decode cX10_joinOperands 0 = .ok (.iconst 0, 1) := by decide +kernel
theorem dX10_joinOperands_1 : decode cX10_joinOperands 1 = .ok (.istore_n 3, 1) := by decide +kernel
theorem dX10_joinOperands_2 : decode cX10_joinOperands 2 = .ok (.iload_n 3, 1) := by decide +kernel
theorem dX10_joinOperands_3 : decode cX10_joinOperands 3 = .ok (.iconst 3, 1) := by decide +kernel
theorem dX10_joinOperands_4 : decode cX10_joinOperands 4 = .ok (.if_icmp .ge 58, 3) := by decide +kernel
theorem dX10_joinOperands_7 : decode cX10_joinOperands 7 = .ok (.aload_n 1, 1) := by decide +kernel
theorem dX10_joinOperands_8 : decode cX10_joinOperands 8 = .ok (.getfield 57, 3) := by decide +kernel
theorem dX10_joinOperands_11 : decode cX10_joinOperands 11 = .ok (.iload_n 2, 1) := by decide +kernel
theorem dX10_joinOperands_12 : decode cX10_joinOperands 12 = .ok (.iconst 3, 1) := by decide +kernel
theorem dX10_joinOperands_13 : decode cX10_joinOperands 13 = .ok (.imul, 1) := by decide +kernel
theorem dX10_joinOperands_14 : decode cX10_joinOperands 14 = .ok (.iload_n 3, 1) := by decide +kernel
theorem dX10_joinOperands_15 : decode cX10_joinOperands 15 = .ok (.iadd, 1) := by decide +kernel
theorem dX10_joinOperands_16 : decode cX10_joinOperands 16 = .ok (.iaload, 1) := by decide +kernel
theorem dX10_joinOperands_17 : decode cX10_joinOperands 17 = .ok (.istore 4, 2) := by decide +kernel
theorem dX10_joinOperands_19 : decode cX10_joinOperands 19 = .ok (.aload_n 1, 1) := by decide +kernel
theorem dX10_joinOperands_20 : decode cX10_joinOperands 20 = .ok (.iload 4, 2) := by decide +kernel
theorem dX10_joinOperands_22 : decode cX10_joinOperands 22 = .ok (.invokevirtual 60, 3) := by decide +kernel
theorem dX10_joinOperands_25 : decode cX10_joinOperands 25 = .ok (.ifCond .eq 31, 3) := by decide +kernel
theorem dX10_joinOperands_28 : decode cX10_joinOperands 28 = .ok (.aload_n 0, 1) := by decide +kernel
theorem dX10_joinOperands_29 : decode cX10_joinOperands 29 = .ok (.getfield 14, 3) := by decide +kernel
theorem dX10_joinOperands_32 : decode cX10_joinOperands 32 = .ok (.iload 4, 2) := by decide +kernel
theorem dX10_joinOperands_34 : decode cX10_joinOperands 34 = .ok (.iload_n 2, 1) := by decide +kernel
theorem dX10_joinOperands_35 : decode cX10_joinOperands 35 = .ok (.aload_n 1, 1) := by decide +kernel
theorem dX10_joinOperands_36 : decode cX10_joinOperands 36 = .ok (.getfield 64, 3) := by decide +kernel
theorem dX10_joinOperands_39 : decode cX10_joinOperands 39 = .ok (.iload 4, 2) := by decide +kernel
theorem dX10_joinOperands_41 : decode cX10_joinOperands 41 = .ok (.iaload, 1) := by decide +kernel
theorem dX10_joinOperands_42 : decode cX10_joinOperands 42 = .ok (.aload_n 1, 1) := by decide +kernel
theorem dX10_joinOperands_43 : decode cX10_joinOperands 43 = .ok (.getfield 67, 3) := by decide +kernel
theorem dX10_joinOperands_46 : decode cX10_joinOperands 46 = .ok (.iload_n 2, 1) := by decide +kernel
theorem dX10_joinOperands_47 : decode cX10_joinOperands 47 = .ok (.iconst 3, 1) := by decide +kernel
theorem dX10_joinOperands_48 : decode cX10_joinOperands 48 = .ok (.imul, 1) := by decide +kernel
theorem dX10_joinOperands_49 : decode cX10_joinOperands 49 = .ok (.iload_n 3, 1) := by decide +kernel
theorem dX10_joinOperands_50 : decode cX10_joinOperands 50 = .ok (.iadd, 1) := by decide +kernel
theorem dX10_joinOperands_51 : decode cX10_joinOperands 51 = .ok (.iaload, 1) := by decide +kernel
theorem dX10_joinOperands_52 : decode cX10_joinOperands 52 = .ok (.invokevirtual 70, 3) := by decide +kernel
theorem dX10_joinOperands_55 : decode cX10_joinOperands 55 = .ok (.pop, 1) := by decide +kernel
theorem dX10_joinOperands_56 : decode cX10_joinOperands 56 = .ok (.iinc 3 1, 3) := by decide +kernel
theorem dX10_joinOperands_59 : decode cX10_joinOperands 59 = .ok (.goto (-57), 3) := by decide +kernel
theorem dX10_joinOperands_62 : decode cX10_joinOperands 62 = .ok (.return_, 1) := by decide +kernel
theorem dX10_joinClashes_0 : decode cX10_joinClashes 0 = .ok (.iconst 0, 1) := by decide +kernel
theorem dX10_joinClashes_1 : decode cX10_joinClashes 1 = .ok (.istore_n 3, 1) := by decide +kernel
theorem dX10_joinClashes_2 : decode cX10_joinClashes 2 = .ok (.iload_n 3, 1) := by decide +kernel
theorem dX10_joinClashes_3 : decode cX10_joinClashes 3 = .ok (.iload_n 2, 1) := by decide +kernel
theorem dX10_joinClashes_4 : decode cX10_joinClashes 4 = .ok (.if_icmp .ge 42, 3) := by decide +kernel
theorem dX10_joinClashes_7 : decode cX10_joinClashes 7 = .ok (.aload_n 1, 1) := by decide +kernel
theorem dX10_joinClashes_8 : decode cX10_joinClashes 8 = .ok (.iload_n 3, 1) := by decide +kernel
theorem dX10_joinClashes_9 : decode cX10_joinClashes 9 = .ok (.iload_n 2, 1) := by decide +kernel
theorem dX10_joinClashes_10 : decode cX10_joinClashes 10 = .ok (.invokevirtual 74, 3) := by decide +kernel
theorem dX10_joinClashes_13 : decode cX10_joinClashes 13 = .ok (.ifCond .eq 27, 3) := by decide +kernel
theorem dX10_joinClashes_16 : decode cX10_joinClashes 16 = .ok (.aload_n 0, 1) := by decide +kernel
theorem dX10_joinClashes_17 : decode cX10_joinClashes 17 = .ok (.getfield 14, 3) := by decide +kernel
theorem dX10_joinClashes_20 : decode cX10_joinClashes 20 = .ok (.iload_n 3, 1) := by decide +kernel
theorem dX10_joinClashes_21 : decode cX10_joinClashes 21 = .ok (.iload_n 2, 1) := by decide +kernel
theorem dX10_joinClashes_22 : decode cX10_joinClashes 22 = .ok (.iconst 1, 1) := by decide +kernel
theorem dX10_joinClashes_23 : decode cX10_joinClashes 23 = .ok (.iconst 0, 1) := by decide +kernel
theorem dX10_joinClashes_24 : decode cX10_joinClashes 24 = .ok (.invokevirtual 70, 3) := by decide +kernel
theorem dX10_joinClashes_27 : decode cX10_joinClashes 27 = .ok (.pop, 1) := by decide +kernel
theorem dX10_joinClashes_28 : decode cX10_joinClashes 28 = .ok (.aload_n 0, 1) := by decide +kernel
theorem dX10_joinClashes_29 : decode cX10_joinClashes 29 = .ok (.getfield 14, 3) := by decide +kernel
theorem dX10_joinClashes_32 : decode cX10_joinClashes 32 = .ok (.iload_n 2, 1) := by decide +kernel
theorem dX10_joinClashes_33 : decode cX10_joinClashes 33 = .ok (.iload_n 3, 1) := by decide +kernel
theorem dX10_joinClashes_34 : decode cX10_joinClashes 34 = .ok (.iconst 1, 1) := by decide +kernel
theorem dX10_joinClashes_35 : decode cX10_joinClashes 35 = .ok (.iconst 1, 1) := by decide +kernel
theorem dX10_joinClashes_36 : decode cX10_joinClashes 36 = .ok (.invokevirtual 70, 3) := by decide +kernel
theorem dX10_joinClashes_39 : decode cX10_joinClashes 39 = .ok (.pop, 1) := by decide +kernel
theorem dX10_joinClashes_40 : decode cX10_joinClashes 40 = .ok (.iinc 3 1, 3) := by decide +kernel
theorem dX10_joinClashes_43 : decode cX10_joinClashes 43 = .ok (.goto (-41), 3) := by decide +kernel
theorem dX10_joinClashes_46 : decode cX10_joinClashes 46 = .ok (.return_, 1) := by decide +kernel
theorem dX10_joinStore_0 : decode cX10_joinStore 0 = .ok (.aload_n 0, 1) := by decide +kernel
theorem dX10_joinStore_1 : decode cX10_joinStore 1 = .ok (.getfield 14, 3) := by decide +kernel
theorem dX10_joinStore_4 : decode cX10_joinStore 4 = .ok (.iload_n 2, 1) := by decide +kernel
theorem dX10_joinStore_5 : decode cX10_joinStore 5 = .ok (.iload_n 2, 1) := by decide +kernel
theorem dX10_joinStore_6 : decode cX10_joinStore 6 = .ok (.iconst 1, 1) := by decide +kernel
theorem dX10_joinStore_7 : decode cX10_joinStore 7 = .ok (.iconst 1, 1) := by decide +kernel
theorem dX10_joinStore_8 : decode cX10_joinStore 8 = .ok (.invokevirtual 70, 3) := by decide +kernel
theorem dX10_joinStore_11 : decode cX10_joinStore 11 = .ok (.pop, 1) := by decide +kernel
theorem dX10_joinStore_12 : decode cX10_joinStore 12 = .ok (.iconst 0, 1) := by decide +kernel
theorem dX10_joinStore_13 : decode cX10_joinStore 13 = .ok (.istore_n 3, 1) := by decide +kernel
theorem dX10_joinStore_14 : decode cX10_joinStore 14 = .ok (.iload_n 3, 1) := by decide +kernel
theorem dX10_joinStore_15 : decode cX10_joinStore 15 = .ok (.aload_n 1, 1) := by decide +kernel
theorem dX10_joinStore_16 : decode cX10_joinStore 16 = .ok (.getfield 31, 3) := by decide +kernel
theorem dX10_joinStore_19 : decode cX10_joinStore 19 = .ok (.if_icmp .ge 51, 3) := by decide +kernel
theorem dX10_joinStore_22 : decode cX10_joinStore 22 = .ok (.iload_n 3, 1) := by decide +kernel
theorem dX10_joinStore_23 : decode cX10_joinStore 23 = .ok (.iload_n 2, 1) := by decide +kernel
theorem dX10_joinStore_24 : decode cX10_joinStore 24 = .ok (.if_icmp .eq 40, 3) := by decide +kernel
theorem dX10_joinStore_27 : decode cX10_joinStore 27 = .ok (.aload_n 1, 1) := by decide +kernel
theorem dX10_joinStore_28 : decode cX10_joinStore 28 = .ok (.iload_n 3, 1) := by decide +kernel
theorem dX10_joinStore_29 : decode cX10_joinStore 29 = .ok (.invokevirtual 78, 3) := by decide +kernel
theorem dX10_joinStore_32 : decode cX10_joinStore 32 = .ok (.ifCond .eq 32, 3) := by decide +kernel
theorem dX10_joinStore_35 : decode cX10_joinStore 35 = .ok (.iload_n 3, 1) := by decide +kernel
theorem dX10_joinStore_36 : decode cX10_joinStore 36 = .ok (.iload_n 2, 1) := by decide +kernel
theorem dX10_joinStore_37 : decode cX10_joinStore 37 = .ok (.if_icmp .ge 15, 3) := by decide +kernel
theorem dX10_joinStore_40 : decode cX10_joinStore 40 = .ok (.aload_n 0, 1) := by decide +kernel
theorem dX10_joinStore_41 : decode cX10_joinStore 41 = .ok (.getfield 14, 3) := by decide +kernel
theorem dX10_joinStore_44 : decode cX10_joinStore 44 = .ok (.iload_n 3, 1) := by decide +kernel
theorem dX10_joinStore_45 : decode cX10_joinStore 45 = .ok (.iload_n 2, 1) := by decide +kernel
theorem dX10_joinStore_46 : decode cX10_joinStore 46 = .ok (.iconst 1, 1) := by decide +kernel
theorem dX10_joinStore_47 : decode cX10_joinStore 47 = .ok (.iconst 0, 1) := by decide +kernel
theorem dX10_joinStore_48 : decode cX10_joinStore 48 = .ok (.invokevirtual 70, 3) := by decide +kernel
theorem dX10_joinStore_51 : decode cX10_joinStore 51 = .ok (.pop, 1) := by decide +kernel
theorem dX10_joinStore_52 : decode cX10_joinStore 52 = .ok (.aload_n 0, 1) := by decide +kernel
theorem dX10_joinStore_53 : decode cX10_joinStore 53 = .ok (.getfield 14, 3) := by decide +kernel
theorem dX10_joinStore_56 : decode cX10_joinStore 56 = .ok (.iload_n 3, 1) := by decide +kernel
theorem dX10_joinStore_57 : decode cX10_joinStore 57 = .ok (.iload_n 2, 1) := by decide +kernel
theorem dX10_joinStore_58 : decode cX10_joinStore 58 = .ok (.iconst 1, 1) := by decide +kernel
theorem dX10_joinStore_59 : decode cX10_joinStore 59 = .ok (.iconst 1, 1) := by decide +kernel
theorem dX10_joinStore_60 : decode cX10_joinStore 60 = .ok (.invokevirtual 70, 3) := by decide +kernel
theorem dX10_joinStore_63 : decode cX10_joinStore 63 = .ok (.pop, 1) := by decide +kernel
theorem dX10_joinStore_64 : decode cX10_joinStore 64 = .ok (.iinc 3 1, 3) := by decide +kernel
theorem dX10_joinStore_67 : decode cX10_joinStore 67 = .ok (.goto (-53), 3) := by decide +kernel
theorem dX10_joinStore_70 : decode cX10_joinStore 70 = .ok (.return_, 1) := by decide +kernel
theorem dX11_init_0 : decode cX11_init 0 = .ok (.aload_n 0, 1) := by decide +kernel
theorem dX11_init_1 : decode cX11_init 1 = .ok (.invokespecial 1, 3) := by decide +kernel
theorem dX11_init_4 : decode cX11_init 4 = .ok (.aload_n 0, 1) := by decide +kernel
theorem dX11_init_5 : decode cX11_init 5 = .ok (.new 7, 3) := by decide +kernel
theorem dX11_init_8 : decode cX11_init 8 = .ok (.dup, 1) := by decide +kernel
theorem dX11_init_9 : decode cX11_init 9 = .ok (.invokespecial 9, 3) := by decide +kernel
theorem dX11_init_12 : decode cX11_init 12 = .ok (.putfield 10, 3) := by decide +kernel
theorem dX11_init_15 : decode cX11_init 15 = .ok (.aload_n 0, 1) := by decide +kernel
theorem dX11_init_16 : decode cX11_init 16 = .ok (.new 16, 3) := by decide +kernel
theorem dX11_init_19 : decode cX11_init 19 = .ok (.dup, 1) := by decide +kernel
theorem dX11_init_20 : decode cX11_init 20 = .ok (.invokespecial 18, 3) := by decide +kernel
theorem dX11_init_23 : decode cX11_init 23 = .ok (.putfield 19, 3) := by decide +kernel
theorem dX11_init_26 : decode cX11_init 26 = .ok (.aload_n 0, 1) := by decide +kernel
theorem dX11_init_27 : decode cX11_init 27 = .ok (.new 23, 3) := by decide +kernel
theorem dX11_init_30 : decode cX11_init 30 = .ok (.dup, 1) := by decide +kernel
theorem dX11_init_31 : decode cX11_init 31 = .ok (.invokespecial 25, 3) := by decide +kernel
theorem dX11_init_34 : decode cX11_init 34 = .ok (.putfield 26, 3) := by decide +kernel
theorem dX11_init_37 : decode cX11_init 37 = .ok (.aload_n 0, 1) := by decide +kernel
theorem dX11_init_38 : decode cX11_init 38 = .ok (.new 30, 3) := by decide +kernel
theorem dX11_init_41 : decode cX11_init 41 = .ok (.dup, 1) := by decide +kernel
theorem dX11_init_42 : decode cX11_init 42 = .ok (.invokespecial 32, 3) := by decide +kernel
theorem dX11_init_45 : decode cX11_init 45 = .ok (.putfield 33, 3) := by decide +kernel
theorem dX11_init_48 : decode cX11_init 48 = .ok (.aload_n 0, 1) := by decide +kernel
theorem dX11_init_49 : decode cX11_init 49 = .ok (.new 37, 3) := by decide +kernel
theorem dX11_init_52 : decode cX11_init 52 = .ok (.dup, 1) := by decide +kernel
theorem dX11_init_53 : decode cX11_init 53 = .ok (.aload_n 0, 1) := by decide +kernel
theorem dX11_init_54 : decode cX11_init 54 = .ok (.getfield 10, 3) := by decide +kernel
theorem dX11_init_57 : decode cX11_init 57 = .ok (.aload_n 0, 1) := by decide +kernel
theorem dX11_init_58 : decode cX11_init 58 = .ok (.getfield 33, 3) := by decide +kernel
theorem dX11_init_61 : decode cX11_init 61 = .ok (.invokespecial 39, 3) := by decide +kernel
theorem dX11_init_64 : decode cX11_init 64 = .ok (.putfield 42, 3) := by decide +kernel
theorem dX11_init_67 : decode cX11_init 67 = .ok (.aload_n 0, 1) := by decide +kernel
theorem dX11_init_68 : decode cX11_init 68 = .ok (.new 46, 3) := by decide +kernel
theorem dX11_init_71 : decode cX11_init 71 = .ok (.dup, 1) := by decide +kernel
theorem dX11_init_72 : decode cX11_init 72 = .ok (.invokespecial 48, 3) := by decide +kernel
theorem dX11_init_75 : decode cX11_init 75 = .ok (.putfield 49, 3) := by decide +kernel
theorem dX11_init_78 : decode cX11_init 78 = .ok (.aload_n 0, 1) := by decide +kernel
theorem dX11_init_79 : decode cX11_init 79 = .ok (.new 53, 3) := by decide +kernel
theorem dX11_init_82 : decode cX11_init 82 = .ok (.dup, 1) := by decide +kernel
theorem dX11_init_83 : decode cX11_init 83 = .ok (.invokespecial 55, 3) := by decide +kernel
theorem dX11_init_86 : decode cX11_init 86 = .ok (.putfield 56, 3) := by decide +kernel
theorem dX11_init_89 : decode cX11_init 89 = .ok (.aload_n 0, 1) := by decide +kernel
theorem dX11_init_90 : decode cX11_init 90 = .ok (.new 60, 3) := by decide +kernel
theorem dX11_init_93 : decode cX11_init 93 = .ok (.dup, 1) := by decide +kernel
theorem dX11_init_94 : decode cX11_init 94 = .ok (.aload_n 0, 1) := by decide +kernel
theorem dX11_init_95 : decode cX11_init 95 = .ok (.getfield 10, 3) := by decide +kernel
theorem dX11_init_98 : decode cX11_init 98 = .ok (.aload_n 0, 1) := by decide +kernel
theorem dX11_init_99 : decode cX11_init 99 = .ok (.getfield 26, 3) := by decide +kernel
theorem dX11_init_102 : decode cX11_init 102 = .ok (.aload_n 0, 1) := by decide +kernel
theorem dX11_init_103 : decode cX11_init 103 = .ok (.getfield 49, 3) := by decide +kernel
theorem dX11_init_106 : decode cX11_init 106 = .ok (.invokespecial 62, 3) := by decide +kernel
theorem dX11_init_109 : decode cX11_init 109 = .ok (.putfield 65, 3) := by decide +kernel
theorem dX11_init_112 : decode cX11_init 112 = .ok (.aload_n 0, 1) := by decide +kernel
theorem dX11_init_113 : decode cX11_init 113 = .ok (.new 69, 3) := by decide +kernel
theorem dX11_init_116 : decode cX11_init 116 = .ok (.dup, 1) := by decide +kernel
theorem dX11_init_117 : decode cX11_init 117 = .ok (.invokespecial 71, 3) := by decide +kernel
theorem dX11_init_120 : decode cX11_init 120 = .ok (.putfield 72, 3) := by decide +kernel
theorem dX11_init_123 : decode cX11_init 123 = .ok (.aload_n 0, 1) := by decide +kernel
theorem dX11_init_124 : decode cX11_init 124 = .ok (.iconst 0, 1) := by decide +kernel
theorem dX11_init_125 : decode cX11_init 125 = .ok (.putfield 76, 3) := by decide +kernel
theorem dX11_init_128 : decode cX11_init 128 = .ok (.aload_n 0, 1) := by decide +kernel
theorem dX11_init_129 : decode cX11_init 129 = .ok (.bipush 12, 2) := by decide +kernel
theorem dX11_init_131 : decode cX11_init 131 = .ok (.newarray .int, 2) := by decide +kernel
theorem dX11_init_133 : decode cX11_init 133 = .ok (.putfield 80, 3) := by decide +kernel
theorem dX11_init_136 : decode cX11_init 136 = .ok (.return_, 1) := by decide +kernel
theorem dX11_put_0 : decode cX11_put 0 = .ok (.aload_n 0, 1) := by decide +kernel
theorem dX11_put_1 : decode cX11_put 1 = .ok (.getfield 10, 3) := by decide +kernel
theorem dX11_put_4 : decode cX11_put 4 = .ok (.iconst 0, 1) := by decide +kernel
theorem dX11_put_5 : decode cX11_put 5 = .ok (.invokevirtual 84, 3) := by decide +kernel
theorem dX11_put_8 : decode cX11_put 8 = .ok (.istore_n 3, 1) := by decide +kernel
theorem dX11_put_9 : decode cX11_put 9 = .ok (.iload_n 3, 1) := by decide +kernel
theorem dX11_put_10 : decode cX11_put 10 = .ok (.iconst (-1), 1) := by decide +kernel
theorem dX11_put_11 : decode cX11_put 11 = .ok (.if_icmp .ne 10, 3) := by decide +kernel
theorem dX11_put_14 : decode cX11_put 14 = .ok (.aload_n 0, 1) := by decide +kernel
theorem dX11_put_15 : decode cX11_put 15 = .ok (.bipush (-10), 2) := by decide +kernel
theorem dX11_put_17 : decode cX11_put 17 = .ok (.invokevirtual 88, 3) := by decide +kernel
theorem dX11_put_20 : decode cX11_put 20 = .ok (.ireturn, 1) := by decide +kernel
theorem dX11_put_21 : decode cX11_put 21 = .ok (.aload_n 0, 1) := by decide +kernel
theorem dX11_put_22 : decode cX11_put 22 = .ok (.getfield 10, 3) := by decide +kernel
theorem dX11_put_25 : decode cX11_put 25 = .ok (.getfield 91, 3) := by decide +kernel
theorem dX11_put_28 : decode cX11_put 28 = .ok (.iload_n 3, 1) := by decide +kernel
theorem dX11_put_29 : decode cX11_put 29 = .ok (.lload_n 1, 1) := by decide +kernel
theorem dX11_put_30 : decode cX11_put 30 = .ok (.lastore, 1) := by decide +kernel
theorem dX11_put_31 : decode cX11_put 31 = .ok (.aload_n 0, 1) := by decide +kernel
theorem dX11_put_32 : decode cX11_put 32 = .ok (.invokevirtual 95, 3) := by decide +kernel
theorem dX11_put_35 : decode cX11_put 35 = .ok (.iload_n 3, 1) := by decide +kernel
theorem dX11_put_36 : decode cX11_put 36 = .ok (.ireturn, 1) := by decide +kernel
theorem dX11_reckon_0 : decode cX11_reckon 0 = .ok (.iload_n 1, 1) := by decide +kernel
theorem dX11_reckon_1 : decode cX11_reckon 1 = .ok (.iconst 1, 1) := by decide +kernel
theorem dX11_reckon_2 : decode cX11_reckon 2 = .ok (.if_icmp .lt 23, 3) := by decide +kernel
theorem dX11_reckon_5 : decode cX11_reckon 5 = .ok (.iload_n 1, 1) := by decide +kernel
theorem dX11_reckon_6 : decode cX11_reckon 6 = .ok (.iconst 3, 1) := by decide +kernel
theorem dX11_reckon_7 : decode cX11_reckon 7 = .ok (.if_icmp .gt 18, 3) := by decide +kernel
theorem dX11_reckon_10 : decode cX11_reckon 10 = .ok (.iload_n 3, 1) := by decide +kernel
theorem dX11_reckon_11 : decode cX11_reckon 11 = .ok (.invokestatic 98, 3) := by decide +kernel
theorem dX11_reckon_14 : decode cX11_reckon 14 = .ok (.ifCond .eq 11, 3) := by decide +kernel
theorem dX11_reckon_17 : decode cX11_reckon 17 = .ok (.iload 5, 2) := by decide +kernel
theorem dX11_reckon_19 : decode cX11_reckon 19 = .ok (.invokestatic 98, 3) := by decide +kernel
theorem dX11_reckon_22 : decode cX11_reckon 22 = .ok (.ifCond .ne 10, 3) := by decide +kernel
theorem dX11_reckon_25 : decode cX11_reckon 25 = .ok (.aload_n 0, 1) := by decide +kernel
theorem dX11_reckon_26 : decode cX11_reckon 26 = .ok (.bipush (-9), 2) := by decide +kernel
theorem dX11_reckon_28 : decode cX11_reckon 28 = .ok (.invokevirtual 88, 3) := by decide +kernel
theorem dX11_reckon_31 : decode cX11_reckon 31 = .ok (.ireturn, 1) := by decide +kernel
theorem dX11_reckon_32 : decode cX11_reckon 32 = .ok (.aload_n 0, 1) := by decide +kernel
theorem dX11_reckon_33 : decode cX11_reckon 33 = .ok (.getfield 10, 3) := by decide +kernel
theorem dX11_reckon_36 : decode cX11_reckon 36 = .ok (.iload_n 2, 1) := by decide +kernel
theorem dX11_reckon_37 : decode cX11_reckon 37 = .ok (.iload_n 3, 1) := by decide +kernel
theorem dX11_reckon_38 : decode cX11_reckon 38 = .ok (.invokevirtual 102, 3) := by decide +kernel
theorem dX11_reckon_41 : decode cX11_reckon 41 = .ok (.ifCond .eq 17, 3) := by decide +kernel
theorem dX11_reckon_44 : decode cX11_reckon 44 = .ok (.aload_n 0, 1) := by decide +kernel
theorem dX11_reckon_45 : decode cX11_reckon 45 = .ok (.getfield 10, 3) := by decide +kernel
theorem dX11_reckon_48 : decode cX11_reckon 48 = .ok (.iload 4, 2) := by decide +kernel
theorem dX11_reckon_50 : decode cX11_reckon 50 = .ok (.iload 5, 2) := by decide +kernel
theorem dX11_reckon_52 : decode cX11_reckon 52 = .ok (.invokevirtual 102, 3) := by decide +kernel
theorem dX11_reckon_55 : decode cX11_reckon 55 = .ok (.ifCond .ne 10, 3) := by decide +kernel
theorem dX11_reckon_58 : decode cX11_reckon 58 = .ok (.aload_n 0, 1) := by decide +kernel
theorem dX11_reckon_59 : decode cX11_reckon 59 = .ok (.bipush (-3), 2) := by decide +kernel
theorem dX11_reckon_61 : decode cX11_reckon 61 = .ok (.invokevirtual 88, 3) := by decide +kernel
theorem dX11_reckon_64 : decode cX11_reckon 64 = .ok (.ireturn, 1) := by decide +kernel
theorem dX11_reckon_65 : decode cX11_reckon 65 = .ok (.aload_n 0, 1) := by decide +kernel
theorem dX11_reckon_66 : decode cX11_reckon 66 = .ok (.getfield 10, 3) := by decide +kernel
theorem dX11_reckon_69 : decode cX11_reckon 69 = .ok (.iload_n 1, 1) := by decide +kernel
theorem dX11_reckon_70 : decode cX11_reckon 70 = .ok (.invokevirtual 84, 3) := by decide +kernel
theorem dX11_reckon_73 : decode cX11_reckon 73 = .ok (.istore 6, 2) := by decide +kernel
theorem dX11_reckon_75 : decode cX11_reckon 75 = .ok (.iload 6, 2) := by decide +kernel
theorem dX11_reckon_77 : decode cX11_reckon 77 = .ok (.iconst (-1), 1) := by decide +kernel
theorem dX11_reckon_78 : decode cX11_reckon 78 = .ok (.if_icmp .ne 10, 3) := by decide +kernel
theorem dX11_reckon_81 : decode cX11_reckon 81 = .ok (.aload_n 0, 1) := by decide +kernel
theorem dX11_reckon_82 : decode cX11_reckon 82 = .ok (.bipush (-10), 2) := by decide +kernel
theorem dX11_reckon_84 : decode cX11_reckon 84 = .ok (.invokevirtual 88, 3) := by decide +kernel
theorem dX11_reckon_87 : decode cX11_reckon 87 = .ok (.ireturn, 1) := by decide +kernel
theorem dX11_reckon_88 : decode cX11_reckon 88 = .ok (.aload_n 0, 1) := by decide +kernel
theorem dX11_reckon_89 : decode cX11_reckon 89 = .ok (.getfield 10, 3) := by decide +kernel
theorem dX11_reckon_92 : decode cX11_reckon 92 = .ok (.iload 6, 2) := by decide +kernel
theorem dX11_reckon_94 : decode cX11_reckon 94 = .ok (.iconst 0, 1) := by decide +kernel
theorem dX11_reckon_95 : decode cX11_reckon 95 = .ok (.iload_n 2, 1) := by decide +kernel
theorem dX11_reckon_96 : decode cX11_reckon 96 = .ok (.iload_n 3, 1) := by decide +kernel
theorem dX11_reckon_97 : decode cX11_reckon 97 = .ok (.invokevirtual 106, 3) := by decide +kernel
theorem dX11_reckon_100 : decode cX11_reckon 100 = .ok (.aload_n 0, 1) := by decide +kernel
theorem dX11_reckon_101 : decode cX11_reckon 101 = .ok (.getfield 10, 3) := by decide +kernel
theorem dX11_reckon_104 : decode cX11_reckon 104 = .ok (.iload 6, 2) := by decide +kernel
theorem dX11_reckon_106 : decode cX11_reckon 106 = .ok (.iconst 1, 1) := by decide +kernel
theorem dX11_reckon_107 : decode cX11_reckon 107 = .ok (.iload 4, 2) := by decide +kernel
theorem dX11_reckon_109 : decode cX11_reckon 109 = .ok (.iload 5, 2) := by decide +kernel
theorem dX11_reckon_111 : decode cX11_reckon 111 = .ok (.invokevirtual 106, 3) := by decide +kernel
theorem dX11_reckon_114 : decode cX11_reckon 114 = .ok (.aload_n 0, 1) := by decide +kernel
theorem dX11_reckon_115 : decode cX11_reckon 115 = .ok (.invokevirtual 95, 3) := by decide +kernel
theorem dX11_reckon_118 : decode cX11_reckon 118 = .ok (.iload 6, 2) := by decide +kernel
theorem dX11_reckon_120 : decode cX11_reckon 120 = .ok (.ireturn, 1) := by decide +kernel
theorem dX11_fetch_0 : decode cX11_fetch 0 = .ok (.iload_n 3, 1) := by decide +kernel
theorem dX11_fetch_1 : decode cX11_fetch 1 = .ok (.invokestatic 98, 3) := by decide +kernel
theorem dX11_fetch_4 : decode cX11_fetch 4 = .ok (.ifCond .ne 10, 3) := by decide +kernel
theorem dX11_fetch_7 : decode cX11_fetch 7 = .ok (.aload_n 0, 1) := by decide +kernel
theorem dX11_fetch_8 : decode cX11_fetch 8 = .ok (.bipush (-9), 2) := by decide +kernel
theorem dX11_fetch_10 : decode cX11_fetch 10 = .ok (.invokevirtual 88, 3) := by decide +kernel
theorem dX11_fetch_13 : decode cX11_fetch 13 = .ok (.ireturn, 1) := by decide +kernel
theorem dX11_fetch_14 : decode cX11_fetch 14 = .ok (.iload_n 1, 1) := by decide +kernel
theorem dX11_fetch_15 : decode cX11_fetch 15 = .ok (.invokestatic 110, 3) := by decide +kernel
theorem dX11_fetch_18 : decode cX11_fetch 18 = .ok (.ifCond .eq 15, 3) := by decide +kernel
theorem dX11_fetch_21 : decode cX11_fetch 21 = .ok (.aload_n 0, 1) := by decide +kernel
theorem dX11_fetch_22 : decode cX11_fetch 22 = .ok (.getfield 10, 3) := by decide +kernel
theorem dX11_fetch_25 : decode cX11_fetch 25 = .ok (.iload_n 2, 1) := by decide +kernel
theorem dX11_fetch_26 : decode cX11_fetch 26 = .ok (.iload_n 3, 1) := by decide +kernel
theorem dX11_fetch_27 : decode cX11_fetch 27 = .ok (.invokevirtual 102, 3) := by decide +kernel
theorem dX11_fetch_30 : decode cX11_fetch 30 = .ok (.ifCond .ne 10, 3) := by decide +kernel
theorem dX11_fetch_33 : decode cX11_fetch 33 = .ok (.aload_n 0, 1) := by decide +kernel
theorem dX11_fetch_34 : decode cX11_fetch 34 = .ok (.bipush (-3), 2) := by decide +kernel
theorem dX11_fetch_36 : decode cX11_fetch 36 = .ok (.invokevirtual 88, 3) := by decide +kernel
theorem dX11_fetch_39 : decode cX11_fetch 39 = .ok (.ireturn, 1) := by decide +kernel
theorem dX11_fetch_40 : decode cX11_fetch 40 = .ok (.aload_n 0, 1) := by decide +kernel
theorem dX11_fetch_41 : decode cX11_fetch 41 = .ok (.getfield 10, 3) := by decide +kernel
theorem dX11_fetch_44 : decode cX11_fetch 44 = .ok (.iconst 4, 1) := by decide +kernel
theorem dX11_fetch_45 : decode cX11_fetch 45 = .ok (.invokevirtual 84, 3) := by decide +kernel
theorem dX11_fetch_48 : decode cX11_fetch 48 = .ok (.istore 4, 2) := by decide +kernel
theorem dX11_fetch_50 : decode cX11_fetch 50 = .ok (.iload 4, 2) := by decide +kernel
theorem dX11_fetch_52 : decode cX11_fetch 52 = .ok (.iconst (-1), 1) := by decide +kernel
theorem dX11_fetch_53 : decode cX11_fetch 53 = .ok (.if_icmp .ne 10, 3) := by decide +kernel
theorem dX11_fetch_56 : decode cX11_fetch 56 = .ok (.aload_n 0, 1) := by decide +kernel
theorem dX11_fetch_57 : decode cX11_fetch 57 = .ok (.bipush (-10), 2) := by decide +kernel
theorem dX11_fetch_59 : decode cX11_fetch 59 = .ok (.invokevirtual 88, 3) := by decide +kernel
theorem dX11_fetch_62 : decode cX11_fetch 62 = .ok (.ireturn, 1) := by decide +kernel
theorem dX11_fetch_63 : decode cX11_fetch 63 = .ok (.aload_n 0, 1) := by decide +kernel
theorem dX11_fetch_64 : decode cX11_fetch 64 = .ok (.getfield 10, 3) := by decide +kernel
theorem dX11_fetch_67 : decode cX11_fetch 67 = .ok (.getfield 113, 3) := by decide +kernel
theorem dX11_fetch_70 : decode cX11_fetch 70 = .ok (.iload 4, 2) := by decide +kernel
theorem dX11_fetch_72 : decode cX11_fetch 72 = .ok (.iload_n 1, 1) := by decide +kernel
theorem dX11_fetch_73 : decode cX11_fetch 73 = .ok (.iastore, 1) := by decide +kernel
theorem dX11_fetch_74 : decode cX11_fetch 74 = .ok (.aload_n 0, 1) := by decide +kernel
theorem dX11_fetch_75 : decode cX11_fetch 75 = .ok (.getfield 10, 3) := by decide +kernel
theorem dX11_fetch_78 : decode cX11_fetch 78 = .ok (.iload 4, 2) := by decide +kernel
theorem dX11_fetch_80 : decode cX11_fetch 80 = .ok (.iconst 0, 1) := by decide +kernel
theorem dX11_fetch_81 : decode cX11_fetch 81 = .ok (.iload_n 2, 1) := by decide +kernel
theorem dX11_fetch_82 : decode cX11_fetch 82 = .ok (.iload_n 3, 1) := by decide +kernel
theorem dX11_fetch_83 : decode cX11_fetch 83 = .ok (.invokevirtual 106, 3) := by decide +kernel
theorem dX11_fetch_86 : decode cX11_fetch 86 = .ok (.aload_n 0, 1) := by decide +kernel
theorem dX11_fetch_87 : decode cX11_fetch 87 = .ok (.invokevirtual 95, 3) := by decide +kernel
theorem dX11_fetch_90 : decode cX11_fetch 90 = .ok (.iload 4, 2) := by decide +kernel
theorem dX11_fetch_92 : decode cX11_fetch 92 = .ok (.ireturn, 1) := by decide +kernel
theorem dX11_store_0 : decode cX11_store 0 = .ok (.iload_n 3, 1) := by decide +kernel
theorem dX11_store_1 : decode cX11_store 1 = .ok (.invokestatic 98, 3) := by decide +kernel
theorem dX11_store_4 : decode cX11_store 4 = .ok (.ifCond .eq 11, 3) := by decide +kernel
theorem dX11_store_7 : decode cX11_store 7 = .ok (.iload 5, 2) := by decide +kernel
theorem dX11_store_9 : decode cX11_store 9 = .ok (.invokestatic 98, 3) := by decide +kernel
theorem dX11_store_12 : decode cX11_store 12 = .ok (.ifCond .ne 10, 3) := by decide +kernel
theorem dX11_store_15 : decode cX11_store 15 = .ok (.aload_n 0, 1) := by decide +kernel
theorem dX11_store_16 : decode cX11_store 16 = .ok (.bipush (-9), 2) := by decide +kernel
theorem dX11_store_18 : decode cX11_store 18 = .ok (.invokevirtual 88, 3) := by decide +kernel
theorem dX11_store_21 : decode cX11_store 21 = .ok (.ireturn, 1) := by decide +kernel
theorem dX11_store_22 : decode cX11_store 22 = .ok (.iload_n 1, 1) := by decide +kernel
theorem dX11_store_23 : decode cX11_store 23 = .ok (.invokestatic 110, 3) := by decide +kernel
theorem dX11_store_26 : decode cX11_store 26 = .ok (.ifCond .eq 29, 3) := by decide +kernel
theorem dX11_store_29 : decode cX11_store 29 = .ok (.aload_n 0, 1) := by decide +kernel
theorem dX11_store_30 : decode cX11_store 30 = .ok (.getfield 10, 3) := by decide +kernel
theorem dX11_store_33 : decode cX11_store 33 = .ok (.iload_n 2, 1) := by decide +kernel
theorem dX11_store_34 : decode cX11_store 34 = .ok (.iload_n 3, 1) := by decide +kernel
theorem dX11_store_35 : decode cX11_store 35 = .ok (.invokevirtual 102, 3) := by decide +kernel
theorem dX11_store_38 : decode cX11_store 38 = .ok (.ifCond .eq 17, 3) := by decide +kernel
theorem dX11_store_41 : decode cX11_store 41 = .ok (.aload_n 0, 1) := by decide +kernel
theorem dX11_store_42 : decode cX11_store 42 = .ok (.getfield 10, 3) := by decide +kernel
theorem dX11_store_45 : decode cX11_store 45 = .ok (.iload 4, 2) := by decide +kernel
theorem dX11_store_47 : decode cX11_store 47 = .ok (.iload 5, 2) := by decide +kernel
theorem dX11_store_49 : decode cX11_store 49 = .ok (.invokevirtual 102, 3) := by decide +kernel
theorem dX11_store_52 : decode cX11_store 52 = .ok (.ifCond .ne 10, 3) := by decide +kernel
theorem dX11_store_55 : decode cX11_store 55 = .ok (.aload_n 0, 1) := by decide +kernel
theorem dX11_store_56 : decode cX11_store 56 = .ok (.bipush (-3), 2) := by decide +kernel
theorem dX11_store_58 : decode cX11_store 58 = .ok (.invokevirtual 88, 3) := by decide +kernel
theorem dX11_store_61 : decode cX11_store 61 = .ok (.ireturn, 1) := by decide +kernel
theorem dX11_store_62 : decode cX11_store 62 = .ok (.aload_n 0, 1) := by decide +kernel
theorem dX11_store_63 : decode cX11_store 63 = .ok (.getfield 10, 3) := by decide +kernel
theorem dX11_store_66 : decode cX11_store 66 = .ok (.iconst 5, 1) := by decide +kernel
theorem dX11_store_67 : decode cX11_store 67 = .ok (.invokevirtual 84, 3) := by decide +kernel
theorem dX11_store_70 : decode cX11_store 70 = .ok (.istore 6, 2) := by decide +kernel
theorem dX11_store_72 : decode cX11_store 72 = .ok (.iload 6, 2) := by decide +kernel
theorem dX11_store_74 : decode cX11_store 74 = .ok (.iconst (-1), 1) := by decide +kernel
theorem dX11_store_75 : decode cX11_store 75 = .ok (.if_icmp .ne 10, 3) := by decide +kernel
theorem dX11_store_78 : decode cX11_store 78 = .ok (.aload_n 0, 1) := by decide +kernel
theorem dX11_store_79 : decode cX11_store 79 = .ok (.bipush (-10), 2) := by decide +kernel
theorem dX11_store_81 : decode cX11_store 81 = .ok (.invokevirtual 88, 3) := by decide +kernel
theorem dX11_store_84 : decode cX11_store 84 = .ok (.ireturn, 1) := by decide +kernel
theorem dX11_store_85 : decode cX11_store 85 = .ok (.aload_n 0, 1) := by decide +kernel
theorem dX11_store_86 : decode cX11_store 86 = .ok (.getfield 10, 3) := by decide +kernel
theorem dX11_store_89 : decode cX11_store 89 = .ok (.getfield 113, 3) := by decide +kernel
theorem dX11_store_92 : decode cX11_store 92 = .ok (.iload 6, 2) := by decide +kernel
theorem dX11_store_94 : decode cX11_store 94 = .ok (.iload_n 1, 1) := by decide +kernel
theorem dX11_store_95 : decode cX11_store 95 = .ok (.iastore, 1) := by decide +kernel
theorem dX11_store_96 : decode cX11_store 96 = .ok (.aload_n 0, 1) := by decide +kernel
theorem dX11_store_97 : decode cX11_store 97 = .ok (.getfield 10, 3) := by decide +kernel
theorem dX11_store_100 : decode cX11_store 100 = .ok (.iload 6, 2) := by decide +kernel
theorem dX11_store_102 : decode cX11_store 102 = .ok (.iconst 0, 1) := by decide +kernel
theorem dX11_store_103 : decode cX11_store 103 = .ok (.iload_n 2, 1) := by decide +kernel
theorem dX11_store_104 : decode cX11_store 104 = .ok (.iload_n 3, 1) := by decide +kernel
theorem dX11_store_105 : decode cX11_store 105 = .ok (.invokevirtual 106, 3) := by decide +kernel
theorem dX11_store_108 : decode cX11_store 108 = .ok (.aload_n 0, 1) := by decide +kernel
theorem dX11_store_109 : decode cX11_store 109 = .ok (.getfield 10, 3) := by decide +kernel
theorem dX11_store_112 : decode cX11_store 112 = .ok (.iload 6, 2) := by decide +kernel
theorem dX11_store_114 : decode cX11_store 114 = .ok (.iconst 1, 1) := by decide +kernel
theorem dX11_store_115 : decode cX11_store 115 = .ok (.iload 4, 2) := by decide +kernel
theorem dX11_store_117 : decode cX11_store 117 = .ok (.iload 5, 2) := by decide +kernel
theorem dX11_store_119 : decode cX11_store 119 = .ok (.invokevirtual 106, 3) := by decide +kernel
theorem dX11_store_122 : decode cX11_store 122 = .ok (.aload_n 0, 1) := by decide +kernel
theorem dX11_store_123 : decode cX11_store 123 = .ok (.invokevirtual 95, 3) := by decide +kernel
theorem dX11_store_126 : decode cX11_store 126 = .ok (.iload 6, 2) := by decide +kernel
theorem dX11_store_128 : decode cX11_store 128 = .ok (.ireturn, 1) := by decide +kernel
theorem dX11_pick_0 : decode cX11_pick 0 = .ok (.iload 4, 2) := by decide +kernel
theorem dX11_pick_2 : decode cX11_pick 2 = .ok (.invokestatic 98, 3) := by decide +kernel
theorem dX11_pick_5 : decode cX11_pick 5 = .ok (.ifCond .ne 10, 3) := by decide +kernel
theorem dX11_pick_8 : decode cX11_pick 8 = .ok (.aload_n 0, 1) := by decide +kernel
theorem dX11_pick_9 : decode cX11_pick 9 = .ok (.bipush (-9), 2) := by decide +kernel
theorem dX11_pick_11 : decode cX11_pick 11 = .ok (.invokevirtual 88, 3) := by decide +kernel
theorem dX11_pick_14 : decode cX11_pick 14 = .ok (.ireturn, 1) := by decide +kernel
theorem dX11_pick_15 : decode cX11_pick 15 = .ok (.aload_n 0, 1) := by decide +kernel
theorem dX11_pick_16 : decode cX11_pick 16 = .ok (.getfield 10, 3) := by decide +kernel
theorem dX11_pick_19 : decode cX11_pick 19 = .ok (.iload_n 1, 1) := by decide +kernel
theorem dX11_pick_20 : decode cX11_pick 20 = .ok (.iconst 0, 1) := by decide +kernel
theorem dX11_pick_21 : decode cX11_pick 21 = .ok (.invokevirtual 102, 3) := by decide +kernel
theorem dX11_pick_24 : decode cX11_pick 24 = .ok (.ifCond .eq 28, 3) := by decide +kernel
theorem dX11_pick_27 : decode cX11_pick 27 = .ok (.aload_n 0, 1) := by decide +kernel
theorem dX11_pick_28 : decode cX11_pick 28 = .ok (.getfield 10, 3) := by decide +kernel
theorem dX11_pick_31 : decode cX11_pick 31 = .ok (.iload_n 2, 1) := by decide +kernel
theorem dX11_pick_32 : decode cX11_pick 32 = .ok (.iconst 0, 1) := by decide +kernel
theorem dX11_pick_33 : decode cX11_pick 33 = .ok (.invokevirtual 102, 3) := by decide +kernel
theorem dX11_pick_36 : decode cX11_pick 36 = .ok (.ifCond .eq 16, 3) := by decide +kernel
theorem dX11_pick_39 : decode cX11_pick 39 = .ok (.aload_n 0, 1) := by decide +kernel
theorem dX11_pick_40 : decode cX11_pick 40 = .ok (.getfield 10, 3) := by decide +kernel
theorem dX11_pick_43 : decode cX11_pick 43 = .ok (.iload_n 3, 1) := by decide +kernel
theorem dX11_pick_44 : decode cX11_pick 44 = .ok (.iload 4, 2) := by decide +kernel
theorem dX11_pick_46 : decode cX11_pick 46 = .ok (.invokevirtual 102, 3) := by decide +kernel
theorem dX11_pick_49 : decode cX11_pick 49 = .ok (.ifCond .ne 10, 3) := by decide +kernel
theorem dX11_pick_52 : decode cX11_pick 52 = .ok (.aload_n 0, 1) := by decide +kernel
theorem dX11_pick_53 : decode cX11_pick 53 = .ok (.bipush (-3), 2) := by decide +kernel
theorem dX11_pick_55 : decode cX11_pick 55 = .ok (.invokevirtual 88, 3) := by decide +kernel
theorem dX11_pick_58 : decode cX11_pick 58 = .ok (.ireturn, 1) := by decide +kernel
theorem dX11_pick_59 : decode cX11_pick 59 = .ok (.aload_n 0, 1) := by decide +kernel
theorem dX11_pick_60 : decode cX11_pick 60 = .ok (.getfield 10, 3) := by decide +kernel
theorem dX11_pick_63 : decode cX11_pick 63 = .ok (.bipush 6, 2) := by decide +kernel
theorem dX11_pick_65 : decode cX11_pick 65 = .ok (.invokevirtual 84, 3) := by decide +kernel
theorem dX11_pick_68 : decode cX11_pick 68 = .ok (.istore 5, 2) := by decide +kernel
theorem dX11_pick_70 : decode cX11_pick 70 = .ok (.iload 5, 2) := by decide +kernel
theorem dX11_pick_72 : decode cX11_pick 72 = .ok (.iconst (-1), 1) := by decide +kernel
theorem dX11_pick_73 : decode cX11_pick 73 = .ok (.if_icmp .ne 10, 3) := by decide +kernel
theorem dX11_pick_76 : decode cX11_pick 76 = .ok (.aload_n 0, 1) := by decide +kernel
theorem dX11_pick_77 : decode cX11_pick 77 = .ok (.bipush (-10), 2) := by decide +kernel
theorem dX11_pick_79 : decode cX11_pick 79 = .ok (.invokevirtual 88, 3) := by decide +kernel
theorem dX11_pick_82 : decode cX11_pick 82 = .ok (.ireturn, 1) := by decide +kernel
theorem dX11_pick_83 : decode cX11_pick 83 = .ok (.aload_n 0, 1) := by decide +kernel
theorem dX11_pick_84 : decode cX11_pick 84 = .ok (.getfield 10, 3) := by decide +kernel
theorem dX11_pick_87 : decode cX11_pick 87 = .ok (.iload 5, 2) := by decide +kernel
theorem dX11_pick_89 : decode cX11_pick 89 = .ok (.iconst 0, 1) := by decide +kernel
theorem dX11_pick_90 : decode cX11_pick 90 = .ok (.iload_n 1, 1) := by decide +kernel
theorem dX11_pick_91 : decode cX11_pick 91 = .ok (.iconst 0, 1) := by decide +kernel
theorem dX11_pick_92 : decode cX11_pick 92 = .ok (.invokevirtual 106, 3) := by decide +kernel
theorem dX11_pick_95 : decode cX11_pick 95 = .ok (.aload_n 0, 1) := by decide +kernel
theorem dX11_pick_96 : decode cX11_pick 96 = .ok (.getfield 10, 3) := by decide +kernel
theorem dX11_pick_99 : decode cX11_pick 99 = .ok (.iload 5, 2) := by decide +kernel
theorem dX11_pick_101 : decode cX11_pick 101 = .ok (.iconst 1, 1) := by decide +kernel
theorem dX11_pick_102 : decode cX11_pick 102 = .ok (.iload_n 2, 1) := by decide +kernel
theorem dX11_pick_103 : decode cX11_pick 103 = .ok (.iconst 0, 1) := by decide +kernel
theorem dX11_pick_104 : decode cX11_pick 104 = .ok (.invokevirtual 106, 3) := by decide +kernel
theorem dX11_pick_107 : decode cX11_pick 107 = .ok (.aload_n 0, 1) := by decide +kernel
theorem dX11_pick_108 : decode cX11_pick 108 = .ok (.getfield 10, 3) := by decide +kernel
theorem dX11_pick_111 : decode cX11_pick 111 = .ok (.iload 5, 2) := by decide +kernel
theorem dX11_pick_113 : decode cX11_pick 113 = .ok (.iconst 2, 1) := by decide +kernel
theorem dX11_pick_114 : decode cX11_pick 114 = .ok (.iload_n 3, 1) := by decide +kernel
theorem dX11_pick_115 : decode cX11_pick 115 = .ok (.iload 4, 2) := by decide +kernel
theorem dX11_pick_117 : decode cX11_pick 117 = .ok (.invokevirtual 106, 3) := by decide +kernel
theorem dX11_pick_120 : decode cX11_pick 120 = .ok (.aload_n 0, 1) := by decide +kernel
theorem dX11_pick_121 : decode cX11_pick 121 = .ok (.invokevirtual 95, 3) := by decide +kernel
theorem dX11_pick_124 : decode cX11_pick 124 = .ok (.iload 5, 2) := by decide +kernel
theorem dX11_pick_126 : decode cX11_pick 126 = .ok (.ireturn, 1) := by decide +kernel
theorem dX11_works_0 : decode cX11_works 0 = .ok (.aload_n 0, 1) := by decide +kernel
theorem dX11_works_1 : decode cX11_works 1 = .ok (.getfield 10, 3) := by decide +kernel
theorem dX11_works_4 : decode cX11_works 4 = .ok (.iload_n 1, 1) := by decide +kernel
theorem dX11_works_5 : decode cX11_works 5 = .ok (.invokevirtual 116, 3) := by decide +kernel
theorem dX11_works_8 : decode cX11_works 8 = .ok (.ifCond .eq 10, 3) := by decide +kernel
theorem dX11_works_11 : decode cX11_works 11 = .ok (.iload_n 3, 1) := by decide +kernel
theorem dX11_works_12 : decode cX11_works 12 = .ok (.invokestatic 119, 3) := by decide +kernel
theorem dX11_works_15 : decode cX11_works 15 = .ok (.ifCond .ne 10, 3) := by decide +kernel
theorem dX11_works_18 : decode cX11_works 18 = .ok (.aload_n 0, 1) := by decide +kernel
theorem dX11_works_19 : decode cX11_works 19 = .ok (.bipush (-3), 2) := by decide +kernel
theorem dX11_works_21 : decode cX11_works 21 = .ok (.invokevirtual 88, 3) := by decide +kernel
theorem dX11_works_24 : decode cX11_works 24 = .ok (.ireturn, 1) := by decide +kernel
theorem dX11_works_25 : decode cX11_works 25 = .ok (.iload_n 2, 1) := by decide +kernel
theorem dX11_works_26 : decode cX11_works 26 = .ok (.iconst 1, 1) := by decide +kernel
theorem dX11_works_27 : decode cX11_works 27 = .ok (.if_icmp .lt 23, 3) := by decide +kernel
theorem dX11_works_30 : decode cX11_works 30 = .ok (.iload_n 2, 1) := by decide +kernel
theorem dX11_works_31 : decode cX11_works 31 = .ok (.bipush 12, 2) := by decide +kernel
theorem dX11_works_33 : decode cX11_works 33 = .ok (.if_icmp .gt 17, 3) := by decide +kernel
theorem dX11_works_36 : decode cX11_works 36 = .ok (.iload 4, 2) := by decide +kernel
theorem dX11_works_38 : decode cX11_works 38 = .ok (.iconst 1, 1) := by decide +kernel
theorem dX11_works_39 : decode cX11_works 39 = .ok (.if_icmp .lt 11, 3) := by decide +kernel
theorem dX11_works_42 : decode cX11_works 42 = .ok (.iload 4, 2) := by decide +kernel
theorem dX11_works_44 : decode cX11_works 44 = .ok (.sipush 255, 3) := by decide +kernel
theorem dX11_works_47 : decode cX11_works 47 = .ok (.if_icmp .le 10, 3) := by decide +kernel
theorem dX11_works_50 : decode cX11_works 50 = .ok (.aload_n 0, 1) := by decide +kernel
theorem dX11_works_51 : decode cX11_works 51 = .ok (.bipush (-9), 2) := by decide +kernel
theorem dX11_works_53 : decode cX11_works 53 = .ok (.invokevirtual 88, 3) := by decide +kernel
theorem dX11_works_56 : decode cX11_works 56 = .ok (.ireturn, 1) := by decide +kernel
theorem dX11_works_57 : decode cX11_works 57 = .ok (.aload_n 0, 1) := by decide +kernel
theorem dX11_works_58 : decode cX11_works 58 = .ok (.getfield 10, 3) := by decide +kernel
theorem dX11_works_61 : decode cX11_works 61 = .ok (.getfield 122, 3) := by decide +kernel
theorem dX11_works_64 : decode cX11_works 64 = .ok (.iload_n 1, 1) := by decide +kernel
theorem dX11_works_65 : decode cX11_works 65 = .ok (.iload_n 2, 1) := by decide +kernel
theorem dX11_works_66 : decode cX11_works 66 = .ok (.iastore, 1) := by decide +kernel
theorem dX11_works_67 : decode cX11_works 67 = .ok (.aload_n 0, 1) := by decide +kernel
theorem dX11_works_68 : decode cX11_works 68 = .ok (.getfield 10, 3) := by decide +kernel
theorem dX11_works_71 : decode cX11_works 71 = .ok (.getfield 125, 3) := by decide +kernel
theorem dX11_works_74 : decode cX11_works 74 = .ok (.iload_n 1, 1) := by decide +kernel
theorem dX11_works_75 : decode cX11_works 75 = .ok (.iload_n 3, 1) := by decide +kernel
theorem dX11_works_76 : decode cX11_works 76 = .ok (.iastore, 1) := by decide +kernel
theorem dX11_works_77 : decode cX11_works 77 = .ok (.aload_n 0, 1) := by decide +kernel
theorem dX11_works_78 : decode cX11_works 78 = .ok (.getfield 10, 3) := by decide +kernel
theorem dX11_works_81 : decode cX11_works 81 = .ok (.getfield 128, 3) := by decide +kernel
theorem dX11_works_84 : decode cX11_works 84 = .ok (.iload_n 1, 1) := by decide +kernel
theorem dX11_works_85 : decode cX11_works 85 = .ok (.iload 4, 2) := by decide +kernel
theorem dX11_works_87 : decode cX11_works 87 = .ok (.iastore, 1) := by decide +kernel
theorem dX11_works_88 : decode cX11_works 88 = .ok (.aload_n 0, 1) := by decide +kernel
theorem dX11_works_89 : decode cX11_works 89 = .ok (.invokevirtual 95, 3) := by decide +kernel
theorem dX11_works_92 : decode cX11_works 92 = .ok (.iconst 1, 1) := by decide +kernel
theorem dX11_works_93 : decode cX11_works 93 = .ok (.ireturn, 1) := by decide +kernel
theorem dX11_first_0 : decode cX11_first 0 = .ok (.aload_n 0, 1) := by decide +kernel
theorem dX11_first_1 : decode cX11_first 1 = .ok (.getfield 10, 3) := by decide +kernel
theorem dX11_first_4 : decode cX11_first 4 = .ok (.iload_n 1, 1) := by decide +kernel
theorem dX11_first_5 : decode cX11_first 5 = .ok (.invokevirtual 116, 3) := by decide +kernel
theorem dX11_first_8 : decode cX11_first 8 = .ok (.ifCond .ne 10, 3) := by decide +kernel
theorem dX11_first_11 : decode cX11_first 11 = .ok (.aload_n 0, 1) := by decide +kernel
theorem dX11_first_12 : decode cX11_first 12 = .ok (.bipush (-3), 2) := by decide +kernel
theorem dX11_first_14 : decode cX11_first 14 = .ok (.invokevirtual 88, 3) := by decide +kernel
theorem dX11_first_17 : decode cX11_first 17 = .ok (.ireturn, 1) := by decide +kernel
theorem dX11_first_18 : decode cX11_first 18 = .ok (.aload_n 0, 1) := by decide +kernel
theorem dX11_first_19 : decode cX11_first 19 = .ok (.getfield 10, 3) := by decide +kernel
theorem dX11_first_22 : decode cX11_first 22 = .ok (.getfield 131, 3) := by decide +kernel
theorem dX11_first_25 : decode cX11_first 25 = .ok (.iload_n 1, 1) := by decide +kernel
theorem dX11_first_26 : decode cX11_first 26 = .ok (.lload_n 2, 1) := by decide +kernel
theorem dX11_first_27 : decode cX11_first 27 = .ok (.lastore, 1) := by decide +kernel
theorem dX11_first_28 : decode cX11_first 28 = .ok (.iconst 1, 1) := by decide +kernel
theorem dX11_first_29 : decode cX11_first 29 = .ok (.ireturn, 1) := by decide +kernel
theorem dX11_unit_0 : decode cX11_unit 0 = .ok (.iload_n 1, 1) := by decide +kernel
theorem dX11_unit_1 : decode cX11_unit 1 = .ok (.invokestatic 119, 3) := by decide +kernel
theorem dX11_unit_4 : decode cX11_unit 4 = .ok (.ifCond .ne 10, 3) := by decide +kernel
theorem dX11_unit_7 : decode cX11_unit 7 = .ok (.aload_n 0, 1) := by decide +kernel
theorem dX11_unit_8 : decode cX11_unit 8 = .ok (.bipush (-3), 2) := by decide +kernel
theorem dX11_unit_10 : decode cX11_unit 10 = .ok (.invokevirtual 88, 3) := by decide +kernel
theorem dX11_unit_13 : decode cX11_unit 13 = .ok (.ireturn, 1) := by decide +kernel
theorem dX11_unit_14 : decode cX11_unit 14 = .ok (.iload_n 2, 1) := by decide +kernel
theorem dX11_unit_15 : decode cX11_unit 15 = .ok (.ifCond .ge 10, 3) := by decide +kernel
theorem dX11_unit_18 : decode cX11_unit 18 = .ok (.aload_n 0, 1) := by decide +kernel
theorem dX11_unit_19 : decode cX11_unit 19 = .ok (.bipush (-4), 2) := by decide +kernel
theorem dX11_unit_21 : decode cX11_unit 21 = .ok (.invokevirtual 88, 3) := by decide +kernel
theorem dX11_unit_24 : decode cX11_unit 24 = .ok (.ireturn, 1) := by decide +kernel
theorem dX11_unit_25 : decode cX11_unit 25 = .ok (.iload_n 2, 1) := by decide +kernel
theorem dX11_unit_26 : decode cX11_unit 26 = .ok (.iconst 4, 1) := by decide +kernel
theorem dX11_unit_27 : decode cX11_unit 27 = .ok (.if_icmp .le 10, 3) := by decide +kernel
theorem dX11_unit_30 : decode cX11_unit 30 = .ok (.aload_n 0, 1) := by decide +kernel
theorem dX11_unit_31 : decode cX11_unit 31 = .ok (.bipush (-9), 2) := by decide +kernel
theorem dX11_unit_33 : decode cX11_unit 33 = .ok (.invokevirtual 88, 3) := by decide +kernel
theorem dX11_unit_36 : decode cX11_unit 36 = .ok (.ireturn, 1) := by decide +kernel
theorem dX11_unit_37 : decode cX11_unit 37 = .ok (.aload_n 0, 1) := by decide +kernel
theorem dX11_unit_38 : decode cX11_unit 38 = .ok (.getfield 10, 3) := by decide +kernel
theorem dX11_unit_41 : decode cX11_unit 41 = .ok (.getfield 134, 3) := by decide +kernel
theorem dX11_unit_44 : decode cX11_unit 44 = .ok (.iload_n 1, 1) := by decide +kernel
theorem dX11_unit_45 : decode cX11_unit 45 = .ok (.iaload, 1) := by decide +kernel
theorem dX11_unit_46 : decode cX11_unit 46 = .ok (.istore_n 3, 1) := by decide +kernel
theorem dX11_unit_47 : decode cX11_unit 47 = .ok (.aload_n 0, 1) := by decide +kernel
theorem dX11_unit_48 : decode cX11_unit 48 = .ok (.getfield 10, 3) := by decide +kernel
theorem dX11_unit_51 : decode cX11_unit 51 = .ok (.getfield 134, 3) := by decide +kernel
theorem dX11_unit_54 : decode cX11_unit 54 = .ok (.iload_n 1, 1) := by decide +kernel
theorem dX11_unit_55 : decode cX11_unit 55 = .ok (.iload_n 2, 1) := by decide +kernel
theorem dX11_unit_56 : decode cX11_unit 56 = .ok (.iastore, 1) := by decide +kernel
theorem dX11_unit_57 : decode cX11_unit 57 = .ok (.aload_n 0, 1) := by decide +kernel
theorem dX11_unit_58 : decode cX11_unit 58 = .ok (.invokevirtual 95, 3) := by decide +kernel
theorem dX11_unit_61 : decode cX11_unit 61 = .ok (.iload_n 3, 1) := by decide +kernel
theorem dX11_unit_62 : decode cX11_unit 62 = .ok (.ireturn, 1) := by decide +kernel
theorem dX11_edge_0 : decode cX11_edge 0 = .ok (.aload_n 0, 1) := by decide +kernel
theorem dX11_edge_1 : decode cX11_edge 1 = .ok (.getfield 10, 3) := by decide +kernel
theorem dX11_edge_4 : decode cX11_edge 4 = .ok (.iload_n 1, 1) := by decide +kernel
theorem dX11_edge_5 : decode cX11_edge 5 = .ok (.invokevirtual 116, 3) := by decide +kernel
theorem dX11_edge_8 : decode cX11_edge 8 = .ok (.ifCond .eq 14, 3) := by decide +kernel
theorem dX11_edge_11 : decode cX11_edge 11 = .ok (.aload_n 0, 1) := by decide +kernel
theorem dX11_edge_12 : decode cX11_edge 12 = .ok (.getfield 10, 3) := by decide +kernel
theorem dX11_edge_15 : decode cX11_edge 15 = .ok (.iload_n 2, 1) := by decide +kernel
theorem dX11_edge_16 : decode cX11_edge 16 = .ok (.invokevirtual 116, 3) := by decide +kernel
theorem dX11_edge_19 : decode cX11_edge 19 = .ok (.ifCond .ne 10, 3) := by decide +kernel
theorem dX11_edge_22 : decode cX11_edge 22 = .ok (.aload_n 0, 1) := by decide +kernel
theorem dX11_edge_23 : decode cX11_edge 23 = .ok (.bipush (-3), 2) := by decide +kernel
theorem dX11_edge_25 : decode cX11_edge 25 = .ok (.invokevirtual 88, 3) := by decide +kernel
theorem dX11_edge_28 : decode cX11_edge 28 = .ok (.ireturn, 1) := by decide +kernel
theorem dX11_edge_29 : decode cX11_edge 29 = .ok (.iload_n 3, 1) := by decide +kernel
theorem dX11_edge_30 : decode cX11_edge 30 = .ok (.bipush (-50), 2) := by decide +kernel
theorem dX11_edge_32 : decode cX11_edge 32 = .ok (.if_icmp .lt 17, 3) := by decide +kernel
theorem dX11_edge_35 : decode cX11_edge 35 = .ok (.iload_n 3, 1) := by decide +kernel
theorem dX11_edge_36 : decode cX11_edge 36 = .ok (.bipush 50, 2) := by decide +kernel
theorem dX11_edge_38 : decode cX11_edge 38 = .ok (.if_icmp .gt 11, 3) := by decide +kernel
theorem dX11_edge_41 : decode cX11_edge 41 = .ok (.iload 4, 2) := by decide +kernel
theorem dX11_edge_43 : decode cX11_edge 43 = .ok (.invokestatic 98, 3) := by decide +kernel
theorem dX11_edge_46 : decode cX11_edge 46 = .ok (.ifCond .ne 10, 3) := by decide +kernel
theorem dX11_edge_49 : decode cX11_edge 49 = .ok (.aload_n 0, 1) := by decide +kernel
theorem dX11_edge_50 : decode cX11_edge 50 = .ok (.bipush (-9), 2) := by decide +kernel
theorem dX11_edge_52 : decode cX11_edge 52 = .ok (.invokevirtual 88, 3) := by decide +kernel
theorem dX11_edge_55 : decode cX11_edge 55 = .ok (.ireturn, 1) := by decide +kernel
theorem dX11_edge_56 : decode cX11_edge 56 = .ok (.aload_n 0, 1) := by decide +kernel
theorem dX11_edge_57 : decode cX11_edge 57 = .ok (.getfield 10, 3) := by decide +kernel
theorem dX11_edge_60 : decode cX11_edge 60 = .ok (.getfield 137, 3) := by decide +kernel
theorem dX11_edge_63 : decode cX11_edge 63 = .ok (.iload_n 1, 1) := by decide +kernel
theorem dX11_edge_64 : decode cX11_edge 64 = .ok (.iload_n 2, 1) := by decide +kernel
theorem dX11_edge_65 : decode cX11_edge 65 = .ok (.iload_n 3, 1) := by decide +kernel
theorem dX11_edge_66 : decode cX11_edge 66 = .ok (.iload 4, 2) := by decide +kernel
theorem dX11_edge_68 : decode cX11_edge 68 = .ok (.invokevirtual 140, 3) := by decide +kernel
theorem dX11_edge_71 : decode cX11_edge 71 = .ok (.ifCond .ne 10, 3) := by decide +kernel
theorem dX11_edge_74 : decode cX11_edge 74 = .ok (.aload_n 0, 1) := by decide +kernel
theorem dX11_edge_75 : decode cX11_edge 75 = .ok (.bipush (-10), 2) := by decide +kernel
theorem dX11_edge_77 : decode cX11_edge 77 = .ok (.invokevirtual 88, 3) := by decide +kernel
theorem dX11_edge_80 : decode cX11_edge 80 = .ok (.ireturn, 1) := by decide +kernel
theorem dX11_edge_81 : decode cX11_edge 81 = .ok (.aload_n 0, 1) := by decide +kernel
theorem dX11_edge_82 : decode cX11_edge 82 = .ok (.invokevirtual 95, 3) := by decide +kernel
theorem dX11_edge_85 : decode cX11_edge 85 = .ok (.aload_n 0, 1) := by decide +kernel
theorem dX11_edge_86 : decode cX11_edge 86 = .ok (.getfield 10, 3) := by decide +kernel
theorem dX11_edge_89 : decode cX11_edge 89 = .ok (.getfield 137, 3) := by decide +kernel
theorem dX11_edge_92 : decode cX11_edge 92 = .ok (.getfield 146, 3) := by decide +kernel
theorem dX11_edge_95 : decode cX11_edge 95 = .ok (.ireturn, 1) := by decide +kernel
theorem dX11_undo_0 : decode cX11_undo 0 = .ok (.aload_n 0, 1) := by decide +kernel
theorem dX11_undo_1 : decode cX11_undo 1 = .ok (.getfield 10, 3) := by decide +kernel
theorem dX11_undo_4 : decode cX11_undo 4 = .ok (.getfield 149, 3) := by decide +kernel
theorem dX11_undo_7 : decode cX11_undo 7 = .ok (.iconst 1, 1) := by decide +kernel
theorem dX11_undo_8 : decode cX11_undo 8 = .ok (.isub, 1) := by decide +kernel
theorem dX11_undo_9 : decode cX11_undo 9 = .ok (.istore_n 1, 1) := by decide +kernel
theorem dX11_undo_10 : decode cX11_undo 10 = .ok (.iload_n 1, 1) := by decide +kernel
theorem dX11_undo_11 : decode cX11_undo 11 = .ok (.ifCond .ge 10, 3) := by decide +kernel
theorem dX11_undo_14 : decode cX11_undo 14 = .ok (.aload_n 0, 1) := by decide +kernel
theorem dX11_undo_15 : decode cX11_undo 15 = .ok (.bipush (-2), 2) := by decide +kernel
theorem dX11_undo_17 : decode cX11_undo 17 = .ok (.invokevirtual 88, 3) := by decide +kernel
theorem dX11_undo_20 : decode cX11_undo 20 = .ok (.ireturn, 1) := by decide +kernel
theorem dX11_undo_21 : decode cX11_undo 21 = .ok (.aload_n 0, 1) := by decide +kernel
theorem dX11_undo_22 : decode cX11_undo 22 = .ok (.getfield 10, 3) := by decide +kernel
theorem dX11_undo_25 : decode cX11_undo 25 = .ok (.iload_n 1, 1) := by decide +kernel
theorem dX11_undo_26 : decode cX11_undo 26 = .ok (.invokevirtual 152, 3) := by decide +kernel
theorem dX11_undo_29 : decode cX11_undo 29 = .ok (.ifCond .eq 10, 3) := by decide +kernel
theorem dX11_undo_32 : decode cX11_undo 32 = .ok (.aload_n 0, 1) := by decide +kernel
theorem dX11_undo_33 : decode cX11_undo 33 = .ok (.bipush (-9), 2) := by decide +kernel
theorem dX11_undo_35 : decode cX11_undo 35 = .ok (.invokevirtual 88, 3) := by decide +kernel
theorem dX11_undo_38 : decode cX11_undo 38 = .ok (.ireturn, 1) := by decide +kernel
theorem dX11_undo_39 : decode cX11_undo 39 = .ok (.aload_n 0, 1) := by decide +kernel
theorem dX11_undo_40 : decode cX11_undo 40 = .ok (.getfield 10, 3) := by decide +kernel
theorem dX11_undo_43 : decode cX11_undo 43 = .ok (.iload_n 1, 1) := by decide +kernel
theorem dX11_undo_44 : decode cX11_undo 44 = .ok (.putfield 149, 3) := by decide +kernel
theorem dX11_undo_47 : decode cX11_undo 47 = .ok (.aload_n 0, 1) := by decide +kernel
theorem dX11_undo_48 : decode cX11_undo 48 = .ok (.getfield 10, 3) := by decide +kernel
theorem dX11_undo_51 : decode cX11_undo 51 = .ok (.getfield 137, 3) := by decide +kernel
theorem dX11_undo_54 : decode cX11_undo 54 = .ok (.iload_n 1, 1) := by decide +kernel
theorem dX11_undo_55 : decode cX11_undo 55 = .ok (.invokevirtual 155, 3) := by decide +kernel
theorem dX11_undo_58 : decode cX11_undo 58 = .ok (.aload_n 0, 1) := by decide +kernel
theorem dX11_undo_59 : decode cX11_undo 59 = .ok (.invokevirtual 95, 3) := by decide +kernel
theorem dX11_undo_62 : decode cX11_undo 62 = .ok (.iload_n 1, 1) := by decide +kernel
theorem dX11_undo_63 : decode cX11_undo 63 = .ok (.ireturn, 1) := by decide +kernel
theorem dX11_act_0 : decode cX11_act 0 = .ok (.aload_n 0, 1) := by decide +kernel
theorem dX11_act_1 : decode cX11_act 1 = .ok (.getfield 10, 3) := by decide +kernel
theorem dX11_act_4 : decode cX11_act 4 = .ok (.iload_n 1, 1) := by decide +kernel
theorem dX11_act_5 : decode cX11_act 5 = .ok (.invokevirtual 116, 3) := by decide +kernel
theorem dX11_act_8 : decode cX11_act 8 = .ok (.ifCond .ne 10, 3) := by decide +kernel
theorem dX11_act_11 : decode cX11_act 11 = .ok (.aload_n 0, 1) := by decide +kernel
theorem dX11_act_12 : decode cX11_act 12 = .ok (.bipush (-3), 2) := by decide +kernel
theorem dX11_act_14 : decode cX11_act 14 = .ok (.invokevirtual 88, 3) := by decide +kernel
theorem dX11_act_17 : decode cX11_act 17 = .ok (.ireturn, 1) := by decide +kernel
theorem dX11_act_18 : decode cX11_act 18 = .ok (.iload_n 2, 1) := by decide +kernel
theorem dX11_act_19 : decode cX11_act 19 = .ok (.tableswitch 83 0 4 #[33, 43, 53, 63, 73], 33) := by decide +kernel
theorem dX11_act_52 : decode cX11_act 52 = .ok (.aload_n 0, 1) := by decide +kernel
theorem dX11_act_53 : decode cX11_act 53 = .ok (.getfield 10, 3) := by decide +kernel
theorem dX11_act_56 : decode cX11_act 56 = .ok (.getfield 159, 3) := by decide +kernel
theorem dX11_act_59 : decode cX11_act 59 = .ok (.iload_n 1, 1) := by decide +kernel
theorem dX11_act_60 : decode cX11_act 60 = .ok (.iaload, 1) := by decide +kernel
theorem dX11_act_61 : decode cX11_act 61 = .ok (.ireturn, 1) := by decide +kernel
theorem dX11_act_62 : decode cX11_act 62 = .ok (.aload_n 0, 1) := by decide +kernel
theorem dX11_act_63 : decode cX11_act 63 = .ok (.getfield 10, 3) := by decide +kernel
theorem dX11_act_66 : decode cX11_act 66 = .ok (.getfield 122, 3) := by decide +kernel
theorem dX11_act_69 : decode cX11_act 69 = .ok (.iload_n 1, 1) := by decide +kernel
theorem dX11_act_70 : decode cX11_act 70 = .ok (.iaload, 1) := by decide +kernel
theorem dX11_act_71 : decode cX11_act 71 = .ok (.ireturn, 1) := by decide +kernel
theorem dX11_act_72 : decode cX11_act 72 = .ok (.aload_n 0, 1) := by decide +kernel
theorem dX11_act_73 : decode cX11_act 73 = .ok (.getfield 10, 3) := by decide +kernel
theorem dX11_act_76 : decode cX11_act 76 = .ok (.getfield 125, 3) := by decide +kernel
theorem dX11_act_79 : decode cX11_act 79 = .ok (.iload_n 1, 1) := by decide +kernel
theorem dX11_act_80 : decode cX11_act 80 = .ok (.iaload, 1) := by decide +kernel
theorem dX11_act_81 : decode cX11_act 81 = .ok (.ireturn, 1) := by decide +kernel
theorem dX11_act_82 : decode cX11_act 82 = .ok (.aload_n 0, 1) := by decide +kernel
theorem dX11_act_83 : decode cX11_act 83 = .ok (.getfield 10, 3) := by decide +kernel
theorem dX11_act_86 : decode cX11_act 86 = .ok (.getfield 128, 3) := by decide +kernel
theorem dX11_act_89 : decode cX11_act 89 = .ok (.iload_n 1, 1) := by decide +kernel
theorem dX11_act_90 : decode cX11_act 90 = .ok (.iaload, 1) := by decide +kernel
theorem dX11_act_91 : decode cX11_act 91 = .ok (.ireturn, 1) := by decide +kernel
theorem dX11_act_92 : decode cX11_act 92 = .ok (.aload_n 0, 1) := by decide +kernel
theorem dX11_act_93 : decode cX11_act 93 = .ok (.getfield 10, 3) := by decide +kernel
theorem dX11_act_96 : decode cX11_act 96 = .ok (.getfield 113, 3) := by decide +kernel
theorem dX11_act_99 : decode cX11_act 99 = .ok (.iload_n 1, 1) := by decide +kernel
theorem dX11_act_100 : decode cX11_act 100 = .ok (.iaload, 1) := by decide +kernel
theorem dX11_act_101 : decode cX11_act 101 = .ok (.ireturn, 1) := by decide +kernel
theorem dX11_act_102 : decode cX11_act 102 = .ok (.iload_n 2, 1) := by decide +kernel
theorem dX11_act_103 : decode cX11_act 103 = .ok (.iconst 5, 1) := by decide +kernel
theorem dX11_act_104 : decode cX11_act 104 = .ok (.if_icmp .lt 9, 3) := by decide +kernel
theorem dX11_act_107 : decode cX11_act 107 = .ok (.iload_n 2, 1) := by decide +kernel
theorem dX11_act_108 : decode cX11_act 108 = .ok (.bipush 10, 2) := by decide +kernel
theorem dX11_act_110 : decode cX11_act 110 = .ok (.if_icmp .le 12, 3) := by decide +kernel
theorem dX11_act_113 : decode cX11_act 113 = .ok (.aload_n 0, 1) := by decide +kernel
theorem dX11_act_114 : decode cX11_act 114 = .ok (.bipush (-9), 2) := by decide +kernel
theorem dX11_act_116 : decode cX11_act 116 = .ok (.invokevirtual 88, 3) := by decide +kernel
theorem dX11_act_119 : decode cX11_act 119 = .ok (.goto 11, 3) := by decide +kernel
theorem dX11_act_122 : decode cX11_act 122 = .ok (.aload_n 0, 1) := by decide +kernel
theorem dX11_act_123 : decode cX11_act 123 = .ok (.iload_n 1, 1) := by decide +kernel
theorem dX11_act_124 : decode cX11_act 124 = .ok (.iload_n 2, 1) := by decide +kernel
theorem dX11_act_125 : decode cX11_act 125 = .ok (.iconst 5, 1) := by decide +kernel
theorem dX11_act_126 : decode cX11_act 126 = .ok (.isub, 1) := by decide +kernel
theorem dX11_act_127 : decode cX11_act 127 = .ok (.invokevirtual 162, 3) := by decide +kernel
theorem dX11_act_130 : decode cX11_act 130 = .ok (.ireturn, 1) := by decide +kernel
theorem dX11_number_0 : decode cX11_number 0 = .ok (.aload_n 0, 1) := by decide +kernel
theorem dX11_number_1 : decode cX11_number 1 = .ok (.getfield 10, 3) := by decide +kernel
theorem dX11_number_4 : decode cX11_number 4 = .ok (.iload_n 1, 1) := by decide +kernel
theorem dX11_number_5 : decode cX11_number 5 = .ok (.invokevirtual 116, 3) := by decide +kernel
theorem dX11_number_8 : decode cX11_number 8 = .ok (.ifCond .ne 12, 3) := by decide +kernel
theorem dX11_number_11 : decode cX11_number 11 = .ok (.aload_n 0, 1) := by decide +kernel
theorem dX11_number_12 : decode cX11_number 12 = .ok (.bipush (-3), 2) := by decide +kernel
theorem dX11_number_14 : decode cX11_number 14 = .ok (.invokevirtual 88, 3) := by decide +kernel
theorem dX11_number_17 : decode cX11_number 17 = .ok (.pop, 1) := by decide +kernel
theorem dX11_number_18 : decode cX11_number 18 = .ok (.lconst 0, 1) := by decide +kernel
theorem dX11_number_19 : decode cX11_number 19 = .ok (.lreturn, 1) := by decide +kernel
theorem dX11_number_20 : decode cX11_number 20 = .ok (.aload_n 0, 1) := by decide +kernel
theorem dX11_number_21 : decode cX11_number 21 = .ok (.getfield 10, 3) := by decide +kernel
theorem dX11_number_24 : decode cX11_number 24 = .ok (.getfield 159, 3) := by decide +kernel
theorem dX11_number_27 : decode cX11_number 27 = .ok (.iload_n 1, 1) := by decide +kernel
theorem dX11_number_28 : decode cX11_number 28 = .ok (.iaload, 1) := by decide +kernel
theorem dX11_number_29 : decode cX11_number 29 = .ok (.ifCond .eq 12, 3) := by decide +kernel
theorem dX11_number_32 : decode cX11_number 32 = .ok (.aload_n 0, 1) := by decide +kernel
theorem dX11_number_33 : decode cX11_number 33 = .ok (.bipush (-5), 2) := by decide +kernel
theorem dX11_number_35 : decode cX11_number 35 = .ok (.invokevirtual 88, 3) := by decide +kernel
theorem dX11_number_38 : decode cX11_number 38 = .ok (.pop, 1) := by decide +kernel
theorem dX11_number_39 : decode cX11_number 39 = .ok (.lconst 0, 1) := by decide +kernel
theorem dX11_number_40 : decode cX11_number 40 = .ok (.lreturn, 1) := by decide +kernel
theorem dX11_number_41 : decode cX11_number 41 = .ok (.aload_n 0, 1) := by decide +kernel
theorem dX11_number_42 : decode cX11_number 42 = .ok (.getfield 10, 3) := by decide +kernel
theorem dX11_number_45 : decode cX11_number 45 = .ok (.getfield 91, 3) := by decide +kernel
theorem dX11_number_48 : decode cX11_number 48 = .ok (.iload_n 1, 1) := by decide +kernel
theorem dX11_number_49 : decode cX11_number 49 = .ok (.laload, 1) := by decide +kernel
theorem dX11_number_50 : decode cX11_number 50 = .ok (.lreturn, 1) := by decide +kernel
theorem dX11_count_0 : decode cX11_count 0 = .ok (.iload_n 1, 1) := by decide +kernel
theorem dX11_count_1 : decode cX11_count 1 = .ok (.tableswitch 89 0 4 #[35, 43, 54, 73, 81], 35) := by decide +kernel
theorem dX11_count_36 : decode cX11_count 36 = .ok (.aload_n 0, 1) := by decide +kernel
theorem dX11_count_37 : decode cX11_count 37 = .ok (.getfield 10, 3) := by decide +kernel
theorem dX11_count_40 : decode cX11_count 40 = .ok (.getfield 149, 3) := by decide +kernel
theorem dX11_count_43 : decode cX11_count 43 = .ok (.ireturn, 1) := by decide +kernel
theorem dX11_count_44 : decode cX11_count 44 = .ok (.aload_n 0, 1) := by decide +kernel
theorem dX11_count_45 : decode cX11_count 45 = .ok (.getfield 10, 3) := by decide +kernel
theorem dX11_count_48 : decode cX11_count 48 = .ok (.getfield 137, 3) := by decide +kernel
theorem dX11_count_51 : decode cX11_count 51 = .ok (.getfield 146, 3) := by decide +kernel
theorem dX11_count_54 : decode cX11_count 54 = .ok (.ireturn, 1) := by decide +kernel
theorem dX11_count_55 : decode cX11_count 55 = .ok (.aload_n 0, 1) := by decide +kernel
theorem dX11_count_56 : decode cX11_count 56 = .ok (.getfield 19, 3) := by decide +kernel
theorem dX11_count_59 : decode cX11_count 59 = .ok (.aload_n 0, 1) := by decide +kernel
theorem dX11_count_60 : decode cX11_count 60 = .ok (.getfield 10, 3) := by decide +kernel
theorem dX11_count_63 : decode cX11_count 63 = .ok (.invokevirtual 166, 3) := by decide +kernel
theorem dX11_count_66 : decode cX11_count 66 = .ok (.aload_n 0, 1) := by decide +kernel
theorem dX11_count_67 : decode cX11_count 67 = .ok (.getfield 19, 3) := by decide +kernel
theorem dX11_count_70 : decode cX11_count 70 = .ok (.getfield 170, 3) := by decide +kernel
theorem dX11_count_73 : decode cX11_count 73 = .ok (.ireturn, 1) := by decide +kernel
theorem dX11_count_74 : decode cX11_count 74 = .ok (.aload_n 0, 1) := by decide +kernel
theorem dX11_count_75 : decode cX11_count 75 = .ok (.getfield 10, 3) := by decide +kernel
theorem dX11_count_78 : decode cX11_count 78 = .ok (.invokevirtual 173, 3) := by decide +kernel
theorem dX11_count_81 : decode cX11_count 81 = .ok (.ireturn, 1) := by decide +kernel
theorem dX11_count_82 : decode cX11_count 82 = .ok (.aload_n 0, 1) := by decide +kernel
theorem dX11_count_83 : decode cX11_count 83 = .ok (.getfield 10, 3) := by decide +kernel
theorem dX11_count_86 : decode cX11_count 86 = .ok (.invokevirtual 177, 3) := by decide +kernel
theorem dX11_count_89 : decode cX11_count 89 = .ok (.ireturn, 1) := by decide +kernel
theorem dX11_count_90 : decode cX11_count 90 = .ok (.aload_n 0, 1) := by decide +kernel
theorem dX11_count_91 : decode cX11_count 91 = .ok (.bipush (-9), 2) := by decide +kernel
theorem dX11_count_93 : decode cX11_count 93 = .ok (.invokevirtual 88, 3) := by decide +kernel
theorem dX11_count_96 : decode cX11_count 96 = .ok (.ireturn, 1) := by decide +kernel
theorem dX11_whole_0 : decode cX11_whole 0 = .ok (.aload_n 0, 1) := by decide +kernel
theorem dX11_whole_1 : decode cX11_whole 1 = .ok (.getfield 10, 3) := by decide +kernel
theorem dX11_whole_4 : decode cX11_whole 4 = .ok (.invokevirtual 180, 3) := by decide +kernel
theorem dX11_whole_7 : decode cX11_whole 7 = .ok (.ifCond .eq 7, 3) := by decide +kernel
theorem dX11_whole_10 : decode cX11_whole 10 = .ok (.iconst 1, 1) := by decide +kernel
theorem dX11_whole_11 : decode cX11_whole 11 = .ok (.goto 4, 3) := by decide +kernel
theorem dX11_whole_14 : decode cX11_whole 14 = .ok (.iconst 0, 1) := by decide +kernel
theorem dX11_whole_15 : decode cX11_whole 15 = .ok (.ireturn, 1) := by decide +kernel
theorem dX11_row_0 : decode cX11_row 0 = .ok (.iload_n 1, 1) := by decide +kernel
theorem dX11_row_1 : decode cX11_row 1 = .ok (.invokestatic 110, 3) := by decide +kernel
theorem dX11_row_4 : decode cX11_row 4 = .ok (.ifCond .ne 10, 3) := by decide +kernel
theorem dX11_row_7 : decode cX11_row 7 = .ok (.aload_n 0, 1) := by decide +kernel
theorem dX11_row_8 : decode cX11_row 8 = .ok (.bipush (-3), 2) := by decide +kernel
theorem dX11_row_10 : decode cX11_row 10 = .ok (.invokevirtual 88, 3) := by decide +kernel
theorem dX11_row_13 : decode cX11_row 13 = .ok (.ireturn, 1) := by decide +kernel
theorem dX11_row_14 : decode cX11_row 14 = .ok (.iload_n 2, 1) := by decide +kernel
theorem dX11_row_15 : decode cX11_row 15 = .ok (.ifCond .ge 10, 3) := by decide +kernel
theorem dX11_row_18 : decode cX11_row 18 = .ok (.aload_n 0, 1) := by decide +kernel
theorem dX11_row_19 : decode cX11_row 19 = .ok (.bipush (-4), 2) := by decide +kernel
theorem dX11_row_21 : decode cX11_row 21 = .ok (.invokevirtual 88, 3) := by decide +kernel
theorem dX11_row_24 : decode cX11_row 24 = .ok (.ireturn, 1) := by decide +kernel
theorem dX11_row_25 : decode cX11_row 25 = .ok (.iload_n 2, 1) := by decide +kernel
theorem dX11_row_26 : decode cX11_row 26 = .ok (.ifCond .eq 9, 3) := by decide +kernel
theorem dX11_row_29 : decode cX11_row 29 = .ok (.iload_n 2, 1) := by decide +kernel
theorem dX11_row_30 : decode cX11_row 30 = .ok (.bipush 40, 2) := by decide +kernel
theorem dX11_row_32 : decode cX11_row 32 = .ok (.if_icmp .le 10, 3) := by decide +kernel
theorem dX11_row_35 : decode cX11_row 35 = .ok (.aload_n 0, 1) := by decide +kernel
theorem dX11_row_36 : decode cX11_row 36 = .ok (.bipush (-9), 2) := by decide +kernel
theorem dX11_row_38 : decode cX11_row 38 = .ok (.invokevirtual 88, 3) := by decide +kernel
theorem dX11_row_41 : decode cX11_row 41 = .ok (.ireturn, 1) := by decide +kernel
theorem dX11_row_42 : decode cX11_row 42 = .ok (.aload_n 0, 1) := by decide +kernel
theorem dX11_row_43 : decode cX11_row 43 = .ok (.getfield 26, 3) := by decide +kernel
theorem dX11_row_46 : decode cX11_row 46 = .ok (.iload_n 1, 1) := by decide +kernel
theorem dX11_row_47 : decode cX11_row 47 = .ok (.iload_n 2, 1) := by decide +kernel
theorem dX11_row_48 : decode cX11_row 48 = .ok (.iload_n 3, 1) := by decide +kernel
theorem dX11_row_49 : decode cX11_row 49 = .ok (.invokevirtual 184, 3) := by decide +kernel
theorem dX11_row_52 : decode cX11_row 52 = .ok (.iconst 1, 1) := by decide +kernel
theorem dX11_row_53 : decode cX11_row 53 = .ok (.ireturn, 1) := by decide +kernel
theorem dX11_empty_0 : decode cX11_empty 0 = .ok (.iload_n 1, 1) := by decide +kernel
theorem dX11_empty_1 : decode cX11_empty 1 = .ok (.invokestatic 110, 3) := by decide +kernel
theorem dX11_empty_4 : decode cX11_empty 4 = .ok (.ifCond .ne 10, 3) := by decide +kernel
theorem dX11_empty_7 : decode cX11_empty 7 = .ok (.aload_n 0, 1) := by decide +kernel
theorem dX11_empty_8 : decode cX11_empty 8 = .ok (.bipush (-3), 2) := by decide +kernel
theorem dX11_empty_10 : decode cX11_empty 10 = .ok (.invokevirtual 88, 3) := by decide +kernel
theorem dX11_empty_13 : decode cX11_empty 13 = .ok (.ireturn, 1) := by decide +kernel
theorem dX11_empty_14 : decode cX11_empty 14 = .ok (.aload_n 0, 1) := by decide +kernel
theorem dX11_empty_15 : decode cX11_empty 15 = .ok (.getfield 26, 3) := by decide +kernel
theorem dX11_empty_18 : decode cX11_empty 18 = .ok (.iload_n 1, 1) := by decide +kernel
theorem dX11_empty_19 : decode cX11_empty 19 = .ok (.invokevirtual 188, 3) := by decide +kernel
theorem dX11_empty_22 : decode cX11_empty 22 = .ok (.ifCond .eq 7, 3) := by decide +kernel
theorem dX11_empty_25 : decode cX11_empty 25 = .ok (.iconst 1, 1) := by decide +kernel
theorem dX11_empty_26 : decode cX11_empty 26 = .ok (.goto 4, 3) := by decide +kernel
theorem dX11_empty_29 : decode cX11_empty 29 = .ok (.iconst 0, 1) := by decide +kernel
theorem dX11_empty_30 : decode cX11_empty 30 = .ok (.ireturn, 1) := by decide +kernel
theorem dX11_set_0 : decode cX11_set 0 = .ok (.aload_n 0, 1) := by decide +kernel
theorem dX11_set_1 : decode cX11_set 1 = .ok (.getfield 26, 3) := by decide +kernel
theorem dX11_set_4 : decode cX11_set 4 = .ok (.iload_n 1, 1) := by decide +kernel
theorem dX11_set_5 : decode cX11_set 5 = .ok (.iload_n 2, 1) := by decide +kernel
theorem dX11_set_6 : decode cX11_set 6 = .ok (.i2l, 1) := by decide +kernel
theorem dX11_set_7 : decode cX11_set 7 = .ok (.invokevirtual 191, 3) := by decide +kernel
theorem dX11_set_10 : decode cX11_set 10 = .ok (.istore 5, 2) := by decide +kernel
theorem dX11_set_12 : decode cX11_set 12 = .ok (.iload 5, 2) := by decide +kernel
theorem dX11_set_14 : decode cX11_set 14 = .ok (.ifCond .eq 10, 3) := by decide +kernel
theorem dX11_set_17 : decode cX11_set 17 = .ok (.aload_n 0, 1) := by decide +kernel
theorem dX11_set_18 : decode cX11_set 18 = .ok (.iload 5, 2) := by decide +kernel
theorem dX11_set_20 : decode cX11_set 20 = .ok (.invokevirtual 88, 3) := by decide +kernel
theorem dX11_set_23 : decode cX11_set 23 = .ok (.ireturn, 1) := by decide +kernel
theorem dX11_set_24 : decode cX11_set 24 = .ok (.aload_n 0, 1) := by decide +kernel
theorem dX11_set_25 : decode cX11_set 25 = .ok (.getfield 26, 3) := by decide +kernel
theorem dX11_set_28 : decode cX11_set 28 = .ok (.getfield 195, 3) := by decide +kernel
theorem dX11_set_31 : decode cX11_set 31 = .ok (.iload_n 1, 1) := by decide +kernel
theorem dX11_set_32 : decode cX11_set 32 = .ok (.iload_n 2, 1) := by decide +kernel
theorem dX11_set_33 : decode cX11_set 33 = .ok (.invokestatic 198, 3) := by decide +kernel
theorem dX11_set_36 : decode cX11_set 36 = .ok (.lload_n 3, 1) := by decide +kernel
theorem dX11_set_37 : decode cX11_set 37 = .ok (.lastore, 1) := by decide +kernel
theorem dX11_set_38 : decode cX11_set 38 = .ok (.iconst 1, 1) := by decide +kernel
theorem dX11_set_39 : decode cX11_set 39 = .ok (.ireturn, 1) := by decide +kernel
theorem dX11_get_0 : decode cX11_get 0 = .ok (.aload_n 0, 1) := by decide +kernel
theorem dX11_get_1 : decode cX11_get 1 = .ok (.getfield 26, 3) := by decide +kernel
theorem dX11_get_4 : decode cX11_get 4 = .ok (.iload_n 1, 1) := by decide +kernel
theorem dX11_get_5 : decode cX11_get 5 = .ok (.iload_n 2, 1) := by decide +kernel
theorem dX11_get_6 : decode cX11_get 6 = .ok (.i2l, 1) := by decide +kernel
theorem dX11_get_7 : decode cX11_get 7 = .ok (.invokevirtual 191, 3) := by decide +kernel
theorem dX11_get_10 : decode cX11_get 10 = .ok (.istore_n 3, 1) := by decide +kernel
theorem dX11_get_11 : decode cX11_get 11 = .ok (.iload_n 3, 1) := by decide +kernel
theorem dX11_get_12 : decode cX11_get 12 = .ok (.ifCond .eq 11, 3) := by decide +kernel
theorem dX11_get_15 : decode cX11_get 15 = .ok (.aload_n 0, 1) := by decide +kernel
theorem dX11_get_16 : decode cX11_get 16 = .ok (.iload_n 3, 1) := by decide +kernel
theorem dX11_get_17 : decode cX11_get 17 = .ok (.invokevirtual 88, 3) := by decide +kernel
theorem dX11_get_20 : decode cX11_get 20 = .ok (.pop, 1) := by decide +kernel
theorem dX11_get_21 : decode cX11_get 21 = .ok (.lconst 0, 1) := by decide +kernel
theorem dX11_get_22 : decode cX11_get 22 = .ok (.lreturn, 1) := by decide +kernel
theorem dX11_get_23 : decode cX11_get 23 = .ok (.aload_n 0, 1) := by decide +kernel
theorem dX11_get_24 : decode cX11_get 24 = .ok (.getfield 26, 3) := by decide +kernel
theorem dX11_get_27 : decode cX11_get 27 = .ok (.getfield 195, 3) := by decide +kernel
theorem dX11_get_30 : decode cX11_get 30 = .ok (.iload_n 1, 1) := by decide +kernel
theorem dX11_get_31 : decode cX11_get 31 = .ok (.iload_n 2, 1) := by decide +kernel
theorem dX11_get_32 : decode cX11_get 32 = .ok (.invokestatic 198, 3) := by decide +kernel
theorem dX11_get_35 : decode cX11_get 35 = .ok (.laload, 1) := by decide +kernel
theorem dX11_get_36 : decode cX11_get 36 = .ok (.lreturn, 1) := by decide +kernel
theorem dX11_copy_0 : decode cX11_copy 0 = .ok (.iload_n 1, 1) := by decide +kernel
theorem dX11_copy_1 : decode cX11_copy 1 = .ok (.invokestatic 110, 3) := by decide +kernel
theorem dX11_copy_4 : decode cX11_copy 4 = .ok (.ifCond .eq 10, 3) := by decide +kernel
theorem dX11_copy_7 : decode cX11_copy 7 = .ok (.iload_n 3, 1) := by decide +kernel
theorem dX11_copy_8 : decode cX11_copy 8 = .ok (.invokestatic 110, 3) := by decide +kernel
theorem dX11_copy_11 : decode cX11_copy 11 = .ok (.ifCond .ne 10, 3) := by decide +kernel
theorem dX11_copy_14 : decode cX11_copy 14 = .ok (.aload_n 0, 1) := by decide +kernel
theorem dX11_copy_15 : decode cX11_copy 15 = .ok (.bipush (-3), 2) := by decide +kernel
theorem dX11_copy_17 : decode cX11_copy 17 = .ok (.invokevirtual 88, 3) := by decide +kernel
theorem dX11_copy_20 : decode cX11_copy 20 = .ok (.ireturn, 1) := by decide +kernel
theorem dX11_copy_21 : decode cX11_copy 21 = .ok (.aload_n 0, 1) := by decide +kernel
theorem dX11_copy_22 : decode cX11_copy 22 = .ok (.getfield 26, 3) := by decide +kernel
theorem dX11_copy_25 : decode cX11_copy 25 = .ok (.getfield 201, 3) := by decide +kernel
theorem dX11_copy_28 : decode cX11_copy 28 = .ok (.iload_n 1, 1) := by decide +kernel
theorem dX11_copy_29 : decode cX11_copy 29 = .ok (.iaload, 1) := by decide +kernel
theorem dX11_copy_30 : decode cX11_copy 30 = .ok (.ifCond .eq 15, 3) := by decide +kernel
theorem dX11_copy_33 : decode cX11_copy 33 = .ok (.aload_n 0, 1) := by decide +kernel
theorem dX11_copy_34 : decode cX11_copy 34 = .ok (.getfield 26, 3) := by decide +kernel
theorem dX11_copy_37 : decode cX11_copy 37 = .ok (.getfield 201, 3) := by decide +kernel
theorem dX11_copy_40 : decode cX11_copy 40 = .ok (.iload_n 3, 1) := by decide +kernel
theorem dX11_copy_41 : decode cX11_copy 41 = .ok (.iaload, 1) := by decide +kernel
theorem dX11_copy_42 : decode cX11_copy 42 = .ok (.ifCond .ne 10, 3) := by decide +kernel
theorem dX11_copy_45 : decode cX11_copy 45 = .ok (.aload_n 0, 1) := by decide +kernel
theorem dX11_copy_46 : decode cX11_copy 46 = .ok (.bipush (-2), 2) := by decide +kernel
theorem dX11_copy_48 : decode cX11_copy 48 = .ok (.invokevirtual 88, 3) := by decide +kernel
theorem dX11_copy_51 : decode cX11_copy 51 = .ok (.ireturn, 1) := by decide +kernel
theorem dX11_copy_52 : decode cX11_copy 52 = .ok (.aload_n 0, 1) := by decide +kernel
theorem dX11_copy_53 : decode cX11_copy 53 = .ok (.getfield 26, 3) := by decide +kernel
theorem dX11_copy_56 : decode cX11_copy 56 = .ok (.getfield 203, 3) := by decide +kernel
theorem dX11_copy_59 : decode cX11_copy 59 = .ok (.iload_n 1, 1) := by decide +kernel
theorem dX11_copy_60 : decode cX11_copy 60 = .ok (.baload, 1) := by decide +kernel
theorem dX11_copy_61 : decode cX11_copy 61 = .ok (.ifCond .eq 15, 3) := by decide +kernel
theorem dX11_copy_64 : decode cX11_copy 64 = .ok (.aload_n 0, 1) := by decide +kernel
theorem dX11_copy_65 : decode cX11_copy 65 = .ok (.getfield 26, 3) := by decide +kernel
theorem dX11_copy_68 : decode cX11_copy 68 = .ok (.getfield 203, 3) := by decide +kernel
theorem dX11_copy_71 : decode cX11_copy 71 = .ok (.iload_n 3, 1) := by decide +kernel
theorem dX11_copy_72 : decode cX11_copy 72 = .ok (.baload, 1) := by decide +kernel
theorem dX11_copy_73 : decode cX11_copy 73 = .ok (.ifCond .ne 10, 3) := by decide +kernel
theorem dX11_copy_76 : decode cX11_copy 76 = .ok (.aload_n 0, 1) := by decide +kernel
theorem dX11_copy_77 : decode cX11_copy 77 = .ok (.bipush (-5), 2) := by decide +kernel
theorem dX11_copy_79 : decode cX11_copy 79 = .ok (.invokevirtual 88, 3) := by decide +kernel
theorem dX11_copy_82 : decode cX11_copy 82 = .ok (.ireturn, 1) := by decide +kernel
theorem dX11_copy_83 : decode cX11_copy 83 = .ok (.iload 5, 2) := by decide +kernel
theorem dX11_copy_85 : decode cX11_copy 85 = .ok (.ifCond .ge 10, 3) := by decide +kernel
theorem dX11_copy_88 : decode cX11_copy 88 = .ok (.aload_n 0, 1) := by decide +kernel
theorem dX11_copy_89 : decode cX11_copy 89 = .ok (.bipush (-4), 2) := by decide +kernel
theorem dX11_copy_91 : decode cX11_copy 91 = .ok (.invokevirtual 88, 3) := by decide +kernel
theorem dX11_copy_94 : decode cX11_copy 94 = .ok (.ireturn, 1) := by decide +kernel
theorem dX11_copy_95 : decode cX11_copy 95 = .ok (.aload_n 0, 1) := by decide +kernel
theorem dX11_copy_96 : decode cX11_copy 96 = .ok (.getfield 26, 3) := by decide +kernel
theorem dX11_copy_99 : decode cX11_copy 99 = .ok (.iload_n 1, 1) := by decide +kernel
theorem dX11_copy_100 : decode cX11_copy 100 = .ok (.iload_n 2, 1) := by decide +kernel
theorem dX11_copy_101 : decode cX11_copy 101 = .ok (.iload 5, 2) := by decide +kernel
theorem dX11_copy_103 : decode cX11_copy 103 = .ok (.invokevirtual 207, 3) := by decide +kernel
theorem dX11_copy_106 : decode cX11_copy 106 = .ok (.ifCond .eq 18, 3) := by decide +kernel
theorem dX11_copy_109 : decode cX11_copy 109 = .ok (.aload_n 0, 1) := by decide +kernel
theorem dX11_copy_110 : decode cX11_copy 110 = .ok (.getfield 26, 3) := by decide +kernel
theorem dX11_copy_113 : decode cX11_copy 113 = .ok (.iload_n 3, 1) := by decide +kernel
theorem dX11_copy_114 : decode cX11_copy 114 = .ok (.iload 4, 2) := by decide +kernel
theorem dX11_copy_116 : decode cX11_copy 116 = .ok (.iload 5, 2) := by decide +kernel
theorem dX11_copy_118 : decode cX11_copy 118 = .ok (.invokevirtual 207, 3) := by decide +kernel
theorem dX11_copy_121 : decode cX11_copy 121 = .ok (.ifCond .ne 10, 3) := by decide +kernel
theorem dX11_copy_124 : decode cX11_copy 124 = .ok (.aload_n 0, 1) := by decide +kernel
theorem dX11_copy_125 : decode cX11_copy 125 = .ok (.bipush (-6), 2) := by decide +kernel
theorem dX11_copy_127 : decode cX11_copy 127 = .ok (.invokevirtual 88, 3) := by decide +kernel
theorem dX11_copy_130 : decode cX11_copy 130 = .ok (.ireturn, 1) := by decide +kernel
theorem dX11_copy_131 : decode cX11_copy 131 = .ok (.aload_n 0, 1) := by decide +kernel
theorem dX11_copy_132 : decode cX11_copy 132 = .ok (.getfield 26, 3) := by decide +kernel
theorem dX11_copy_135 : decode cX11_copy 135 = .ok (.getfield 195, 3) := by decide +kernel
theorem dX11_copy_138 : decode cX11_copy 138 = .ok (.iload_n 1, 1) := by decide +kernel
theorem dX11_copy_139 : decode cX11_copy 139 = .ok (.iload_n 2, 1) := by decide +kernel
theorem dX11_copy_140 : decode cX11_copy 140 = .ok (.invokestatic 198, 3) := by decide +kernel
theorem dX11_copy_143 : decode cX11_copy 143 = .ok (.aload_n 0, 1) := by decide +kernel
theorem dX11_copy_144 : decode cX11_copy 144 = .ok (.getfield 26, 3) := by decide +kernel
theorem dX11_copy_147 : decode cX11_copy 147 = .ok (.getfield 195, 3) := by decide +kernel
theorem dX11_copy_150 : decode cX11_copy 150 = .ok (.iload_n 3, 1) := by decide +kernel
theorem dX11_copy_151 : decode cX11_copy 151 = .ok (.iload 4, 2) := by decide +kernel
theorem dX11_copy_153 : decode cX11_copy 153 = .ok (.invokestatic 198, 3) := by decide +kernel
theorem dX11_copy_156 : decode cX11_copy 156 = .ok (.iload 5, 2) := by decide +kernel
theorem dX11_copy_158 : decode cX11_copy 158 = .ok (.invokestatic 211, 3) := by decide +kernel
theorem dX11_copy_161 : decode cX11_copy 161 = .ok (.iload 5, 2) := by decide +kernel
theorem dX11_copy_163 : decode cX11_copy 163 = .ok (.ireturn, 1) := by decide +kernel
theorem dX11_lowest_0 : decode cX11_lowest 0 = .ok (.aload_n 0, 1) := by decide +kernel
theorem dX11_lowest_1 : decode cX11_lowest 1 = .ok (.invokevirtual 217, 3) := by decide +kernel
theorem dX11_lowest_4 : decode cX11_lowest 4 = .ok (.istore_n 1, 1) := by decide +kernel
theorem dX11_lowest_5 : decode cX11_lowest 5 = .ok (.iload_n 1, 1) := by decide +kernel
theorem dX11_lowest_6 : decode cX11_lowest 6 = .ok (.ifCond .ge 11, 3) := by decide +kernel
theorem dX11_lowest_9 : decode cX11_lowest 9 = .ok (.aload_n 0, 1) := by decide +kernel
theorem dX11_lowest_10 : decode cX11_lowest 10 = .ok (.iload_n 1, 1) := by decide +kernel
theorem dX11_lowest_11 : decode cX11_lowest 11 = .ok (.invokevirtual 88, 3) := by decide +kernel
theorem dX11_lowest_14 : decode cX11_lowest 14 = .ok (.goto 4, 3) := by decide +kernel
theorem dX11_lowest_17 : decode cX11_lowest 17 = .ok (.iload_n 1, 1) := by decide +kernel
theorem dX11_lowest_18 : decode cX11_lowest 18 = .ok (.ireturn, 1) := by decide +kernel
theorem dX11_lay_0 : decode cX11_lay 0 = .ok (.aload_n 0, 1) := by decide +kernel
theorem dX11_lay_1 : decode cX11_lay 1 = .ok (.getfield 42, 3) := by decide +kernel
theorem dX11_lay_4 : decode cX11_lay 4 = .ok (.iconst 0, 1) := by decide +kernel
theorem dX11_lay_5 : decode cX11_lay 5 = .ok (.putfield 220, 3) := by decide +kernel
theorem dX11_lay_8 : decode cX11_lay 8 = .ok (.aload_n 0, 1) := by decide +kernel
theorem dX11_lay_9 : decode cX11_lay 9 = .ok (.invokevirtual 217, 3) := by decide +kernel
theorem dX11_lay_12 : decode cX11_lay 12 = .ok (.istore_n 1, 1) := by decide +kernel
theorem dX11_lay_13 : decode cX11_lay 13 = .ok (.iload_n 1, 1) := by decide +kernel
theorem dX11_lay_14 : decode cX11_lay 14 = .ok (.ifCond .ge 9, 3) := by decide +kernel
theorem dX11_lay_17 : decode cX11_lay 17 = .ok (.aload_n 0, 1) := by decide +kernel
theorem dX11_lay_18 : decode cX11_lay 18 = .ok (.iload_n 1, 1) := by decide +kernel
theorem dX11_lay_19 : decode cX11_lay 19 = .ok (.invokevirtual 88, 3) := by decide +kernel
theorem dX11_lay_22 : decode cX11_lay 22 = .ok (.ireturn, 1) := by decide +kernel
theorem dX11_lay_23 : decode cX11_lay 23 = .ok (.iload_n 1, 1) := by decide +kernel
theorem dX11_lay_24 : decode cX11_lay 24 = .ok (.istore_n 2, 1) := by decide +kernel
theorem dX11_lay_25 : decode cX11_lay 25 = .ok (.iload_n 2, 1) := by decide +kernel
theorem dX11_lay_26 : decode cX11_lay 26 = .ok (.bipush 60, 2) := by decide +kernel
theorem dX11_lay_28 : decode cX11_lay 28 = .ok (.if_icmp .gt 67, 3) := by decide +kernel
theorem dX11_lay_31 : decode cX11_lay 31 = .ok (.aload_n 0, 1) := by decide +kernel
theorem dX11_lay_32 : decode cX11_lay 32 = .ok (.iload_n 2, 1) := by decide +kernel
theorem dX11_lay_33 : decode cX11_lay 33 = .ok (.invokevirtual 223, 3) := by decide +kernel
theorem dX11_lay_36 : decode cX11_lay 36 = .ok (.istore_n 3, 1) := by decide +kernel
theorem dX11_lay_37 : decode cX11_lay 37 = .ok (.iload_n 3, 1) := by decide +kernel
theorem dX11_lay_38 : decode cX11_lay 38 = .ok (.iconst 4, 1) := by decide +kernel
theorem dX11_lay_39 : decode cX11_lay 39 = .ok (.if_icmp .ne 10, 3) := by decide +kernel
theorem dX11_lay_42 : decode cX11_lay 42 = .ok (.aload_n 0, 1) := by decide +kernel
theorem dX11_lay_43 : decode cX11_lay 43 = .ok (.bipush (-11), 2) := by decide +kernel
theorem dX11_lay_45 : decode cX11_lay 45 = .ok (.invokevirtual 88, 3) := by decide +kernel
theorem dX11_lay_48 : decode cX11_lay 48 = .ok (.ireturn, 1) := by decide +kernel
theorem dX11_lay_49 : decode cX11_lay 49 = .ok (.iload_n 3, 1) := by decide +kernel
theorem dX11_lay_50 : decode cX11_lay 50 = .ok (.ifCond .ne 39, 3) := by decide +kernel
theorem dX11_lay_53 : decode cX11_lay 53 = .ok (.aload_n 0, 1) := by decide +kernel
theorem dX11_lay_54 : decode cX11_lay 54 = .ok (.getfield 33, 3) := by decide +kernel
theorem dX11_lay_57 : decode cX11_lay 57 = .ok (.aload_n 0, 1) := by decide +kernel
theorem dX11_lay_58 : decode cX11_lay 58 = .ok (.getfield 10, 3) := by decide +kernel
theorem dX11_lay_61 : decode cX11_lay 61 = .ok (.getfield 149, 3) := by decide +kernel
theorem dX11_lay_64 : decode cX11_lay 64 = .ok (.invokevirtual 226, 3) := by decide +kernel
theorem dX11_lay_67 : decode cX11_lay 67 = .ok (.pop, 1) := by decide +kernel
theorem dX11_lay_68 : decode cX11_lay 68 = .ok (.aload_n 0, 1) := by decide +kernel
theorem dX11_lay_69 : decode cX11_lay 69 = .ok (.getfield 49, 3) := by decide +kernel
theorem dX11_lay_72 : decode cX11_lay 72 = .ok (.aload_n 0, 1) := by decide +kernel
theorem dX11_lay_73 : decode cX11_lay 73 = .ok (.getfield 10, 3) := by decide +kernel
theorem dX11_lay_76 : decode cX11_lay 76 = .ok (.aload_n 0, 1) := by decide +kernel
theorem dX11_lay_77 : decode cX11_lay 77 = .ok (.getfield 42, 3) := by decide +kernel
theorem dX11_lay_80 : decode cX11_lay 80 = .ok (.aload_n 0, 1) := by decide +kernel
theorem dX11_lay_81 : decode cX11_lay 81 = .ok (.getfield 33, 3) := by decide +kernel
theorem dX11_lay_84 : decode cX11_lay 84 = .ok (.invokevirtual 228, 3) := by decide +kernel
theorem dX11_lay_87 : decode cX11_lay 87 = .ok (.iload_n 2, 1) := by decide +kernel
theorem dX11_lay_88 : decode cX11_lay 88 = .ok (.ireturn, 1) := by decide +kernel
theorem dX11_lay_89 : decode cX11_lay 89 = .ok (.iinc 2 1, 3) := by decide +kernel
theorem dX11_lay_92 : decode cX11_lay 92 = .ok (.goto (-67), 3) := by decide +kernel
theorem dX11_lay_95 : decode cX11_lay 95 = .ok (.aload_n 0, 1) := by decide +kernel
theorem dX11_lay_96 : decode cX11_lay 96 = .ok (.bipush (-9), 2) := by decide +kernel
theorem dX11_lay_98 : decode cX11_lay 98 = .ok (.invokevirtual 88, 3) := by decide +kernel
theorem dX11_lay_101 : decode cX11_lay 101 = .ok (.ireturn, 1) := by decide +kernel
theorem dX11_prove_0 : decode cX11_prove 0 = .ok (.aload_n 0, 1) := by decide +kernel
theorem dX11_prove_1 : decode cX11_prove 1 = .ok (.getfield 42, 3) := by decide +kernel
theorem dX11_prove_4 : decode cX11_prove 4 = .ok (.iconst 0, 1) := by decide +kernel
theorem dX11_prove_5 : decode cX11_prove 5 = .ok (.putfield 220, 3) := by decide +kernel
theorem dX11_prove_8 : decode cX11_prove 8 = .ok (.aload_n 0, 1) := by decide +kernel
theorem dX11_prove_9 : decode cX11_prove 9 = .ok (.getfield 10, 3) := by decide +kernel
theorem dX11_prove_12 : decode cX11_prove 12 = .ok (.invokevirtual 232, 3) := by decide +kernel
theorem dX11_prove_15 : decode cX11_prove 15 = .ok (.ifCond .ne 10, 3) := by decide +kernel
theorem dX11_prove_18 : decode cX11_prove 18 = .ok (.aload_n 0, 1) := by decide +kernel
theorem dX11_prove_19 : decode cX11_prove 19 = .ok (.bipush (-2), 2) := by decide +kernel
theorem dX11_prove_21 : decode cX11_prove 21 = .ok (.invokevirtual 88, 3) := by decide +kernel
theorem dX11_prove_24 : decode cX11_prove 24 = .ok (.ireturn, 1) := by decide +kernel
theorem dX11_prove_25 : decode cX11_prove 25 = .ok (.iload_n 1, 1) := by decide +kernel
theorem dX11_prove_26 : decode cX11_prove 26 = .ok (.ifCond .ge 10, 3) := by decide +kernel
theorem dX11_prove_29 : decode cX11_prove 29 = .ok (.aload_n 0, 1) := by decide +kernel
theorem dX11_prove_30 : decode cX11_prove 30 = .ok (.bipush (-4), 2) := by decide +kernel
theorem dX11_prove_32 : decode cX11_prove 32 = .ok (.invokevirtual 88, 3) := by decide +kernel
theorem dX11_prove_35 : decode cX11_prove 35 = .ok (.ireturn, 1) := by decide +kernel
theorem dX11_prove_36 : decode cX11_prove 36 = .ok (.iload_n 1, 1) := by decide +kernel
theorem dX11_prove_37 : decode cX11_prove 37 = .ok (.ifCond .eq 9, 3) := by decide +kernel
theorem dX11_prove_40 : decode cX11_prove 40 = .ok (.iload_n 1, 1) := by decide +kernel
theorem dX11_prove_41 : decode cX11_prove 41 = .ok (.bipush 60, 2) := by decide +kernel
theorem dX11_prove_43 : decode cX11_prove 43 = .ok (.if_icmp .le 10, 3) := by decide +kernel
theorem dX11_prove_46 : decode cX11_prove 46 = .ok (.aload_n 0, 1) := by decide +kernel
theorem dX11_prove_47 : decode cX11_prove 47 = .ok (.bipush (-9), 2) := by decide +kernel
theorem dX11_prove_49 : decode cX11_prove 49 = .ok (.invokevirtual 88, 3) := by decide +kernel
theorem dX11_prove_52 : decode cX11_prove 52 = .ok (.ireturn, 1) := by decide +kernel
theorem dX11_prove_53 : decode cX11_prove 53 = .ok (.aload_n 0, 1) := by decide +kernel
theorem dX11_prove_54 : decode cX11_prove 54 = .ok (.getfield 10, 3) := by decide +kernel
theorem dX11_prove_57 : decode cX11_prove 57 = .ok (.invokevirtual 235, 3) := by decide +kernel
theorem dX11_prove_60 : decode cX11_prove 60 = .ok (.iload_n 1, 1) := by decide +kernel
theorem dX11_prove_61 : decode cX11_prove 61 = .ok (.if_icmp .le 5, 3) := by decide +kernel
theorem dX11_prove_64 : decode cX11_prove 64 = .ok (.iconst 1, 1) := by decide +kernel
theorem dX11_prove_65 : decode cX11_prove 65 = .ok (.ireturn, 1) := by decide +kernel
theorem dX11_prove_66 : decode cX11_prove 66 = .ok (.aload_n 0, 1) := by decide +kernel
theorem dX11_prove_67 : decode cX11_prove 67 = .ok (.getfield 19, 3) := by decide +kernel
theorem dX11_prove_70 : decode cX11_prove 70 = .ok (.aload_n 0, 1) := by decide +kernel
theorem dX11_prove_71 : decode cX11_prove 71 = .ok (.getfield 10, 3) := by decide +kernel
theorem dX11_prove_74 : decode cX11_prove 74 = .ok (.invokevirtual 166, 3) := by decide +kernel
theorem dX11_prove_77 : decode cX11_prove 77 = .ok (.aload_n 0, 1) := by decide +kernel
theorem dX11_prove_78 : decode cX11_prove 78 = .ok (.iload_n 1, 1) := by decide +kernel
theorem dX11_prove_79 : decode cX11_prove 79 = .ok (.invokevirtual 238, 3) := by decide +kernel
theorem dX11_prove_82 : decode cX11_prove 82 = .ok (.ifCond .eq 5, 3) := by decide +kernel
theorem dX11_prove_85 : decode cX11_prove 85 = .ok (.iconst 2, 1) := by decide +kernel
theorem dX11_prove_86 : decode cX11_prove 86 = .ok (.ireturn, 1) := by decide +kernel
theorem dX11_prove_87 : decode cX11_prove 87 = .ok (.aload_n 0, 1) := by decide +kernel
theorem dX11_prove_88 : decode cX11_prove 88 = .ok (.iload_n 1, 1) := by decide +kernel
theorem dX11_prove_89 : decode cX11_prove 89 = .ok (.invokevirtual 223, 3) := by decide +kernel
theorem dX11_prove_92 : decode cX11_prove 92 = .ok (.ireturn, 1) := by decide +kernel
theorem dX11_trials_0 : decode cX11_trials 0 = .ok (.aload_n 0, 1) := by decide +kernel
theorem dX11_trials_1 : decode cX11_trials 1 = .ok (.getfield 42, 3) := by decide +kernel
theorem dX11_trials_4 : decode cX11_trials 4 = .ok (.getfield 220, 3) := by decide +kernel
theorem dX11_trials_7 : decode cX11_trials 7 = .ok (.ireturn, 1) := by decide +kernel
theorem dX11_laying_0 : decode cX11_laying 0 = .ok (.aload_n 0, 1) := by decide +kernel
theorem dX11_laying_1 : decode cX11_laying 1 = .ok (.getfield 49, 3) := by decide +kernel
theorem dX11_laying_4 : decode cX11_laying 4 = .ok (.getfield 241, 3) := by decide +kernel
theorem dX11_laying_7 : decode cX11_laying 7 = .ok (.ifCond .ne 10, 3) := by decide +kernel
theorem dX11_laying_10 : decode cX11_laying 10 = .ok (.aload_n 0, 1) := by decide +kernel
theorem dX11_laying_11 : decode cX11_laying 11 = .ok (.bipush (-2), 2) := by decide +kernel
theorem dX11_laying_13 : decode cX11_laying 13 = .ok (.invokevirtual 88, 3) := by decide +kernel
theorem dX11_laying_16 : decode cX11_laying 16 = .ok (.ireturn, 1) := by decide +kernel
theorem dX11_laying_17 : decode cX11_laying 17 = .ok (.iload_n 1, 1) := by decide +kernel
theorem dX11_laying_18 : decode cX11_laying 18 = .ok (.tableswitch 54 0 2 #[26, 34, 42], 26) := by decide +kernel
theorem dX11_laying_44 : decode cX11_laying 44 = .ok (.aload_n 0, 1) := by decide +kernel
theorem dX11_laying_45 : decode cX11_laying 45 = .ok (.getfield 49, 3) := by decide +kernel
theorem dX11_laying_48 : decode cX11_laying 48 = .ok (.getfield 245, 3) := by decide +kernel
theorem dX11_laying_51 : decode cX11_laying 51 = .ok (.ireturn, 1) := by decide +kernel
theorem dX11_laying_52 : decode cX11_laying 52 = .ok (.aload_n 0, 1) := by decide +kernel
theorem dX11_laying_53 : decode cX11_laying 53 = .ok (.getfield 49, 3) := by decide +kernel
theorem dX11_laying_56 : decode cX11_laying 56 = .ok (.getfield 248, 3) := by decide +kernel
theorem dX11_laying_59 : decode cX11_laying 59 = .ok (.ireturn, 1) := by decide +kernel
theorem dX11_laying_60 : decode cX11_laying 60 = .ok (.aload_n 0, 1) := by decide +kernel
theorem dX11_laying_61 : decode cX11_laying 61 = .ok (.getfield 49, 3) := by decide +kernel
theorem dX11_laying_64 : decode cX11_laying 64 = .ok (.aload_n 0, 1) := by decide +kernel
theorem dX11_laying_65 : decode cX11_laying 65 = .ok (.getfield 10, 3) := by decide +kernel
theorem dX11_laying_68 : decode cX11_laying 68 = .ok (.invokevirtual 251, 3) := by decide +kernel
theorem dX11_laying_71 : decode cX11_laying 71 = .ok (.ireturn, 1) := by decide +kernel
theorem dX11_laying_72 : decode cX11_laying 72 = .ok (.aload_n 0, 1) := by decide +kernel
theorem dX11_laying_73 : decode cX11_laying 73 = .ok (.bipush (-9), 2) := by decide +kernel
theorem dX11_laying_75 : decode cX11_laying 75 = .ok (.invokevirtual 88, 3) := by decide +kernel
theorem dX11_laying_78 : decode cX11_laying 78 = .ok (.ireturn, 1) := by decide +kernel
theorem dX11_tick_0 : decode cX11_tick 0 = .ok (.aload_n 0, 1) := by decide +kernel
theorem dX11_tick_1 : decode cX11_tick 1 = .ok (.getfield 49, 3) := by decide +kernel
theorem dX11_tick_4 : decode cX11_tick 4 = .ok (.getfield 241, 3) := by decide +kernel
theorem dX11_tick_7 : decode cX11_tick 7 = .ok (.ifCond .ne 10, 3) := by decide +kernel
theorem dX11_tick_10 : decode cX11_tick 10 = .ok (.aload_n 0, 1) := by decide +kernel
theorem dX11_tick_11 : decode cX11_tick 11 = .ok (.bipush (-2), 2) := by decide +kernel
theorem dX11_tick_13 : decode cX11_tick 13 = .ok (.invokevirtual 88, 3) := by decide +kernel
theorem dX11_tick_16 : decode cX11_tick 16 = .ok (.ireturn, 1) := by decide +kernel
theorem dX11_tick_17 : decode cX11_tick 17 = .ok (.aload_n 0, 1) := by decide +kernel
theorem dX11_tick_18 : decode cX11_tick 18 = .ok (.getfield 10, 3) := by decide +kernel
theorem dX11_tick_21 : decode cX11_tick 21 = .ok (.iload_n 1, 1) := by decide +kernel
theorem dX11_tick_22 : decode cX11_tick 22 = .ok (.invokevirtual 116, 3) := by decide +kernel
theorem dX11_tick_25 : decode cX11_tick 25 = .ok (.ifCond .ne 10, 3) := by decide +kernel
theorem dX11_tick_28 : decode cX11_tick 28 = .ok (.aload_n 0, 1) := by decide +kernel
theorem dX11_tick_29 : decode cX11_tick 29 = .ok (.bipush (-3), 2) := by decide +kernel
theorem dX11_tick_31 : decode cX11_tick 31 = .ok (.invokevirtual 88, 3) := by decide +kernel
theorem dX11_tick_34 : decode cX11_tick 34 = .ok (.ireturn, 1) := by decide +kernel
theorem dX11_tick_35 : decode cX11_tick 35 = .ok (.iload_n 2, 1) := by decide +kernel
theorem dX11_tick_36 : decode cX11_tick 36 = .ok (.tableswitch 86 0 4 #[36, 46, 56, 66, 76], 36) := by decide +kernel
theorem dX11_tick_72 : decode cX11_tick 72 = .ok (.aload_n 0, 1) := by decide +kernel
theorem dX11_tick_73 : decode cX11_tick 73 = .ok (.getfield 49, 3) := by decide +kernel
theorem dX11_tick_76 : decode cX11_tick 76 = .ok (.getfield 255, 3) := by decide +kernel
theorem dX11_tick_79 : decode cX11_tick 79 = .ok (.iload_n 1, 1) := by decide +kernel
theorem dX11_tick_80 : decode cX11_tick 80 = .ok (.iaload, 1) := by decide +kernel
theorem dX11_tick_81 : decode cX11_tick 81 = .ok (.ireturn, 1) := by decide +kernel
theorem dX11_tick_82 : decode cX11_tick 82 = .ok (.aload_n 0, 1) := by decide +kernel
theorem dX11_tick_83 : decode cX11_tick 83 = .ok (.getfield 49, 3) := by decide +kernel
theorem dX11_tick_86 : decode cX11_tick 86 = .ok (.getfield 258, 3) := by decide +kernel
theorem dX11_tick_89 : decode cX11_tick 89 = .ok (.iload_n 1, 1) := by decide +kernel
theorem dX11_tick_90 : decode cX11_tick 90 = .ok (.iaload, 1) := by decide +kernel
theorem dX11_tick_91 : decode cX11_tick 91 = .ok (.ireturn, 1) := by decide +kernel
theorem dX11_tick_92 : decode cX11_tick 92 = .ok (.aload_n 0, 1) := by decide +kernel
theorem dX11_tick_93 : decode cX11_tick 93 = .ok (.getfield 49, 3) := by decide +kernel
theorem dX11_tick_96 : decode cX11_tick 96 = .ok (.getfield 261, 3) := by decide +kernel
theorem dX11_tick_99 : decode cX11_tick 99 = .ok (.iload_n 1, 1) := by decide +kernel
theorem dX11_tick_100 : decode cX11_tick 100 = .ok (.iaload, 1) := by decide +kernel
theorem dX11_tick_101 : decode cX11_tick 101 = .ok (.ireturn, 1) := by decide +kernel
theorem dX11_tick_102 : decode cX11_tick 102 = .ok (.aload_n 0, 1) := by decide +kernel
theorem dX11_tick_103 : decode cX11_tick 103 = .ok (.getfield 49, 3) := by decide +kernel
theorem dX11_tick_106 : decode cX11_tick 106 = .ok (.getfield 264, 3) := by decide +kernel
theorem dX11_tick_109 : decode cX11_tick 109 = .ok (.iload_n 1, 1) := by decide +kernel
theorem dX11_tick_110 : decode cX11_tick 110 = .ok (.iaload, 1) := by decide +kernel
theorem dX11_tick_111 : decode cX11_tick 111 = .ok (.ireturn, 1) := by decide +kernel
theorem dX11_tick_112 : decode cX11_tick 112 = .ok (.aload_n 0, 1) := by decide +kernel
theorem dX11_tick_113 : decode cX11_tick 113 = .ok (.getfield 49, 3) := by decide +kernel
theorem dX11_tick_116 : decode cX11_tick 116 = .ok (.getfield 267, 3) := by decide +kernel
theorem dX11_tick_119 : decode cX11_tick 119 = .ok (.iload_n 1, 1) := by decide +kernel
theorem dX11_tick_120 : decode cX11_tick 120 = .ok (.iaload, 1) := by decide +kernel
theorem dX11_tick_121 : decode cX11_tick 121 = .ok (.ireturn, 1) := by decide +kernel
theorem dX11_tick_122 : decode cX11_tick 122 = .ok (.aload_n 0, 1) := by decide +kernel
theorem dX11_tick_123 : decode cX11_tick 123 = .ok (.bipush (-9), 2) := by decide +kernel
theorem dX11_tick_125 : decode cX11_tick 125 = .ok (.invokevirtual 88, 3) := by decide +kernel
theorem dX11_tick_128 : decode cX11_tick 128 = .ok (.ireturn, 1) := by decide +kernel
theorem dX11_filled_0 : decode cX11_filled 0 = .ok (.aload_n 0, 1) := by decide +kernel
theorem dX11_filled_1 : decode cX11_filled 1 = .ok (.getfield 49, 3) := by decide +kernel
theorem dX11_filled_4 : decode cX11_filled 4 = .ok (.getfield 241, 3) := by decide +kernel
theorem dX11_filled_7 : decode cX11_filled 7 = .ok (.ifCond .ne 10, 3) := by decide +kernel
theorem dX11_filled_10 : decode cX11_filled 10 = .ok (.aload_n 0, 1) := by decide +kernel
theorem dX11_filled_11 : decode cX11_filled 11 = .ok (.bipush (-2), 2) := by decide +kernel
theorem dX11_filled_13 : decode cX11_filled 13 = .ok (.invokevirtual 88, 3) := by decide +kernel
theorem dX11_filled_16 : decode cX11_filled 16 = .ok (.ireturn, 1) := by decide +kernel
theorem dX11_filled_17 : decode cX11_filled 17 = .ok (.iload_n 1, 1) := by decide +kernel
theorem dX11_filled_18 : decode cX11_filled 18 = .ok (.invokestatic 119, 3) := by decide +kernel
theorem dX11_filled_21 : decode cX11_filled 21 = .ok (.ifCond .eq 18, 3) := by decide +kernel
theorem dX11_filled_24 : decode cX11_filled 24 = .ok (.iload_n 2, 1) := by decide +kernel
theorem dX11_filled_25 : decode cX11_filled 25 = .ok (.ifCond .lt 14, 3) := by decide +kernel
theorem dX11_filled_28 : decode cX11_filled 28 = .ok (.iload_n 2, 1) := by decide +kernel
theorem dX11_filled_29 : decode cX11_filled 29 = .ok (.aload_n 0, 1) := by decide +kernel
theorem dX11_filled_30 : decode cX11_filled 30 = .ok (.getfield 49, 3) := by decide +kernel
theorem dX11_filled_33 : decode cX11_filled 33 = .ok (.getfield 245, 3) := by decide +kernel
theorem dX11_filled_36 : decode cX11_filled 36 = .ok (.if_icmp .lt 10, 3) := by decide +kernel
theorem dX11_filled_39 : decode cX11_filled 39 = .ok (.aload_n 0, 1) := by decide +kernel
theorem dX11_filled_40 : decode cX11_filled 40 = .ok (.bipush (-3), 2) := by decide +kernel
theorem dX11_filled_42 : decode cX11_filled 42 = .ok (.invokevirtual 88, 3) := by decide +kernel
theorem dX11_filled_45 : decode cX11_filled 45 = .ok (.ireturn, 1) := by decide +kernel
theorem dX11_filled_46 : decode cX11_filled 46 = .ok (.aload_n 0, 1) := by decide +kernel
theorem dX11_filled_47 : decode cX11_filled 47 = .ok (.getfield 49, 3) := by decide +kernel
theorem dX11_filled_50 : decode cX11_filled 50 = .ok (.getfield 270, 3) := by decide +kernel
theorem dX11_filled_53 : decode cX11_filled 53 = .ok (.iload_n 1, 1) := by decide +kernel
theorem dX11_filled_54 : decode cX11_filled 54 = .ok (.iload_n 2, 1) := by decide +kernel
theorem dX11_filled_55 : decode cX11_filled 55 = .ok (.invokevirtual 274, 3) := by decide +kernel
theorem dX11_filled_58 : decode cX11_filled 58 = .ok (.ireturn, 1) := by decide +kernel
theorem dX11_names_0 : decode cX11_names 0 = .ok (.aload_n 0, 1) := by decide +kernel
theorem dX11_names_1 : decode cX11_names 1 = .ok (.getfield 49, 3) := by decide +kernel
theorem dX11_names_4 : decode cX11_names 4 = .ok (.getfield 241, 3) := by decide +kernel
theorem dX11_names_7 : decode cX11_names 7 = .ok (.ifCond .ne 10, 3) := by decide +kernel
theorem dX11_names_10 : decode cX11_names 10 = .ok (.aload_n 0, 1) := by decide +kernel
theorem dX11_names_11 : decode cX11_names 11 = .ok (.bipush (-2), 2) := by decide +kernel
theorem dX11_names_13 : decode cX11_names 13 = .ok (.invokevirtual 88, 3) := by decide +kernel
theorem dX11_names_16 : decode cX11_names 16 = .ok (.ireturn, 1) := by decide +kernel
theorem dX11_names_17 : decode cX11_names 17 = .ok (.aload_n 0, 1) := by decide +kernel
theorem dX11_names_18 : decode cX11_names 18 = .ok (.getfield 10, 3) := by decide +kernel
theorem dX11_names_21 : decode cX11_names 21 = .ok (.iload_n 1, 1) := by decide +kernel
theorem dX11_names_22 : decode cX11_names 22 = .ok (.invokevirtual 116, 3) := by decide +kernel
theorem dX11_names_25 : decode cX11_names 25 = .ok (.ifCond .ne 10, 3) := by decide +kernel
theorem dX11_names_28 : decode cX11_names 28 = .ok (.aload_n 0, 1) := by decide +kernel
theorem dX11_names_29 : decode cX11_names 29 = .ok (.bipush (-3), 2) := by decide +kernel
theorem dX11_names_31 : decode cX11_names 31 = .ok (.invokevirtual 88, 3) := by decide +kernel
theorem dX11_names_34 : decode cX11_names 34 = .ok (.ireturn, 1) := by decide +kernel
theorem dX11_names_35 : decode cX11_names 35 = .ok (.aload_n 0, 1) := by decide +kernel
theorem dX11_names_36 : decode cX11_names 36 = .ok (.getfield 49, 3) := by decide +kernel
theorem dX11_names_39 : decode cX11_names 39 = .ok (.getfield 279, 3) := by decide +kernel
theorem dX11_names_42 : decode cX11_names 42 = .ok (.iload_n 1, 1) := by decide +kernel
theorem dX11_names_43 : decode cX11_names 43 = .ok (.iaload, 1) := by decide +kernel
theorem dX11_names_44 : decode cX11_names 44 = .ok (.ireturn, 1) := by decide +kernel
theorem dX11_fewest_0 : decode cX11_fewest 0 = .ok (.aload_n 0, 1) := by decide +kernel
theorem dX11_fewest_1 : decode cX11_fewest 1 = .ok (.getfield 49, 3) := by decide +kernel
theorem dX11_fewest_4 : decode cX11_fewest 4 = .ok (.getfield 241, 3) := by decide +kernel
theorem dX11_fewest_7 : decode cX11_fewest 7 = .ok (.ifCond .ne 10, 3) := by decide +kernel
theorem dX11_fewest_10 : decode cX11_fewest 10 = .ok (.aload_n 0, 1) := by decide +kernel
theorem dX11_fewest_11 : decode cX11_fewest 11 = .ok (.bipush (-2), 2) := by decide +kernel
theorem dX11_fewest_13 : decode cX11_fewest 13 = .ok (.invokevirtual 88, 3) := by decide +kernel
theorem dX11_fewest_16 : decode cX11_fewest 16 = .ok (.ireturn, 1) := by decide +kernel
theorem dX11_fewest_17 : decode cX11_fewest 17 = .ok (.iload_n 1, 1) := by decide +kernel
theorem dX11_fewest_18 : decode cX11_fewest 18 = .ok (.lookupswitch 64 #[(0, 26), (1, 41)], 26) := by decide +kernel
theorem dX11_fewest_44 : decode cX11_fewest 44 = .ok (.aload_n 0, 1) := by decide +kernel
theorem dX11_fewest_45 : decode cX11_fewest 45 = .ok (.getfield 49, 3) := by decide +kernel
theorem dX11_fewest_48 : decode cX11_fewest 48 = .ok (.aload_n 0, 1) := by decide +kernel
theorem dX11_fewest_49 : decode cX11_fewest 49 = .ok (.getfield 10, 3) := by decide +kernel
theorem dX11_fewest_52 : decode cX11_fewest 52 = .ok (.getfield 149, 3) := by decide +kernel
theorem dX11_fewest_55 : decode cX11_fewest 55 = .ok (.invokevirtual 282, 3) := by decide +kernel
theorem dX11_fewest_58 : decode cX11_fewest 58 = .ok (.ireturn, 1) := by decide +kernel
theorem dX11_fewest_59 : decode cX11_fewest 59 = .ok (.aload_n 0, 1) := by decide +kernel
theorem dX11_fewest_60 : decode cX11_fewest 60 = .ok (.getfield 49, 3) := by decide +kernel
theorem dX11_fewest_63 : decode cX11_fewest 63 = .ok (.aload_n 0, 1) := by decide +kernel
theorem dX11_fewest_64 : decode cX11_fewest 64 = .ok (.getfield 10, 3) := by decide +kernel
theorem dX11_fewest_67 : decode cX11_fewest 67 = .ok (.getfield 149, 3) := by decide +kernel
theorem dX11_fewest_70 : decode cX11_fewest 70 = .ok (.invokevirtual 285, 3) := by decide +kernel
theorem dX11_fewest_73 : decode cX11_fewest 73 = .ok (.aload_n 0, 1) := by decide +kernel
theorem dX11_fewest_74 : decode cX11_fewest 74 = .ok (.getfield 10, 3) := by decide +kernel
theorem dX11_fewest_77 : decode cX11_fewest 77 = .ok (.getfield 149, 3) := by decide +kernel
theorem dX11_fewest_80 : decode cX11_fewest 80 = .ok (.imul, 1) := by decide +kernel
theorem dX11_fewest_81 : decode cX11_fewest 81 = .ok (.ireturn, 1) := by decide +kernel
theorem dX11_fewest_82 : decode cX11_fewest 82 = .ok (.aload_n 0, 1) := by decide +kernel
theorem dX11_fewest_83 : decode cX11_fewest 83 = .ok (.bipush (-9), 2) := by decide +kernel
theorem dX11_fewest_85 : decode cX11_fewest 85 = .ok (.invokevirtual 88, 3) := by decide +kernel
theorem dX11_fewest_88 : decode cX11_fewest 88 = .ok (.ireturn, 1) := by decide +kernel
theorem dX11_forge_0 : decode cX11_forge 0 = .ok (.aload_n 0, 1) := by decide +kernel
theorem dX11_forge_1 : decode cX11_forge 1 = .ok (.getfield 49, 3) := by decide +kernel
theorem dX11_forge_4 : decode cX11_forge 4 = .ok (.getfield 241, 3) := by decide +kernel
theorem dX11_forge_7 : decode cX11_forge 7 = .ok (.ifCond .ne 10, 3) := by decide +kernel
theorem dX11_forge_10 : decode cX11_forge 10 = .ok (.aload_n 0, 1) := by decide +kernel
theorem dX11_forge_11 : decode cX11_forge 11 = .ok (.bipush (-2), 2) := by decide +kernel
theorem dX11_forge_13 : decode cX11_forge 13 = .ok (.invokevirtual 88, 3) := by decide +kernel
theorem dX11_forge_16 : decode cX11_forge 16 = .ok (.ireturn, 1) := by decide +kernel
theorem dX11_forge_17 : decode cX11_forge 17 = .ok (.aload_n 0, 1) := by decide +kernel
theorem dX11_forge_18 : decode cX11_forge 18 = .ok (.getfield 10, 3) := by decide +kernel
theorem dX11_forge_21 : decode cX11_forge 21 = .ok (.iload_n 1, 1) := by decide +kernel
theorem dX11_forge_22 : decode cX11_forge 22 = .ok (.invokevirtual 116, 3) := by decide +kernel
theorem dX11_forge_25 : decode cX11_forge 25 = .ok (.ifCond .ne 10, 3) := by decide +kernel
theorem dX11_forge_28 : decode cX11_forge 28 = .ok (.aload_n 0, 1) := by decide +kernel
theorem dX11_forge_29 : decode cX11_forge 29 = .ok (.bipush (-3), 2) := by decide +kernel
theorem dX11_forge_31 : decode cX11_forge 31 = .ok (.invokevirtual 88, 3) := by decide +kernel
theorem dX11_forge_34 : decode cX11_forge 34 = .ok (.ireturn, 1) := by decide +kernel
theorem dX11_forge_35 : decode cX11_forge 35 = .ok (.iload_n 2, 1) := by decide +kernel
theorem dX11_forge_36 : decode cX11_forge 36 = .ok (.ifCond .ge 10, 3) := by decide +kernel
theorem dX11_forge_39 : decode cX11_forge 39 = .ok (.aload_n 0, 1) := by decide +kernel
theorem dX11_forge_40 : decode cX11_forge 40 = .ok (.bipush (-4), 2) := by decide +kernel
theorem dX11_forge_42 : decode cX11_forge 42 = .ok (.invokevirtual 88, 3) := by decide +kernel
theorem dX11_forge_45 : decode cX11_forge 45 = .ok (.ireturn, 1) := by decide +kernel
theorem dX11_forge_46 : decode cX11_forge 46 = .ok (.iload_n 2, 1) := by decide +kernel
theorem dX11_forge_47 : decode cX11_forge 47 = .ok (.sipush 3000, 3) := by decide +kernel
theorem dX11_forge_50 : decode cX11_forge 50 = .ok (.if_icmp .le 10, 3) := by decide +kernel
theorem dX11_forge_53 : decode cX11_forge 53 = .ok (.aload_n 0, 1) := by decide +kernel
theorem dX11_forge_54 : decode cX11_forge 54 = .ok (.bipush (-9), 2) := by decide +kernel
theorem dX11_forge_56 : decode cX11_forge 56 = .ok (.invokevirtual 88, 3) := by decide +kernel
theorem dX11_forge_59 : decode cX11_forge 59 = .ok (.ireturn, 1) := by decide +kernel
theorem dX11_forge_60 : decode cX11_forge 60 = .ok (.aload_n 0, 1) := by decide +kernel
theorem dX11_forge_61 : decode cX11_forge 61 = .ok (.getfield 49, 3) := by decide +kernel
theorem dX11_forge_64 : decode cX11_forge 64 = .ok (.getfield 288, 3) := by decide +kernel
theorem dX11_forge_67 : decode cX11_forge 67 = .ok (.iload_n 1, 1) := by decide +kernel
theorem dX11_forge_68 : decode cX11_forge 68 = .ok (.iaload, 1) := by decide +kernel
theorem dX11_forge_69 : decode cX11_forge 69 = .ok (.istore_n 3, 1) := by decide +kernel
theorem dX11_forge_70 : decode cX11_forge 70 = .ok (.aload_n 0, 1) := by decide +kernel
theorem dX11_forge_71 : decode cX11_forge 71 = .ok (.getfield 49, 3) := by decide +kernel
theorem dX11_forge_74 : decode cX11_forge 74 = .ok (.getfield 288, 3) := by decide +kernel
theorem dX11_forge_77 : decode cX11_forge 77 = .ok (.iload_n 1, 1) := by decide +kernel
theorem dX11_forge_78 : decode cX11_forge 78 = .ok (.iload_n 2, 1) := by decide +kernel
theorem dX11_forge_79 : decode cX11_forge 79 = .ok (.iastore, 1) := by decide +kernel
theorem dX11_forge_80 : decode cX11_forge 80 = .ok (.iload_n 3, 1) := by decide +kernel
theorem dX11_forge_81 : decode cX11_forge 81 = .ok (.ireturn, 1) := by decide +kernel
theorem dX11_check_0 : decode cX11_check 0 = .ok (.aload_n 0, 1) := by decide +kernel
theorem dX11_check_1 : decode cX11_check 1 = .ok (.getfield 49, 3) := by decide +kernel
theorem dX11_check_4 : decode cX11_check 4 = .ok (.getfield 241, 3) := by decide +kernel
theorem dX11_check_7 : decode cX11_check 7 = .ok (.ifCond .ne 10, 3) := by decide +kernel
theorem dX11_check_10 : decode cX11_check 10 = .ok (.aload_n 0, 1) := by decide +kernel
theorem dX11_check_11 : decode cX11_check 11 = .ok (.bipush (-2), 2) := by decide +kernel
theorem dX11_check_13 : decode cX11_check 13 = .ok (.invokevirtual 88, 3) := by decide +kernel
theorem dX11_check_16 : decode cX11_check 16 = .ok (.ireturn, 1) := by decide +kernel
theorem dX11_check_17 : decode cX11_check 17 = .ok (.aload_n 0, 1) := by decide +kernel
theorem dX11_check_18 : decode cX11_check 18 = .ok (.getfield 19, 3) := by decide +kernel
theorem dX11_check_21 : decode cX11_check 21 = .ok (.aload_n 0, 1) := by decide +kernel
theorem dX11_check_22 : decode cX11_check 22 = .ok (.getfield 10, 3) := by decide +kernel
theorem dX11_check_25 : decode cX11_check 25 = .ok (.invokevirtual 166, 3) := by decide +kernel
theorem dX11_check_28 : decode cX11_check 28 = .ok (.aload_n 0, 1) := by decide +kernel
theorem dX11_check_29 : decode cX11_check 29 = .ok (.getfield 56, 3) := by decide +kernel
theorem dX11_check_32 : decode cX11_check 32 = .ok (.aload_n 0, 1) := by decide +kernel
theorem dX11_check_33 : decode cX11_check 33 = .ok (.getfield 10, 3) := by decide +kernel
theorem dX11_check_36 : decode cX11_check 36 = .ok (.aload_n 0, 1) := by decide +kernel
theorem dX11_check_37 : decode cX11_check 37 = .ok (.getfield 19, 3) := by decide +kernel
theorem dX11_check_40 : decode cX11_check 40 = .ok (.getfield 291, 3) := by decide +kernel
theorem dX11_check_43 : decode cX11_check 43 = .ok (.aload_n 0, 1) := by decide +kernel
theorem dX11_check_44 : decode cX11_check 44 = .ok (.getfield 49, 3) := by decide +kernel
theorem dX11_check_47 : decode cX11_check 47 = .ok (.invokevirtual 294, 3) := by decide +kernel
theorem dX11_check_50 : decode cX11_check 50 = .ok (.ireturn, 1) := by decide +kernel
theorem dX11_wrong_0 : decode cX11_wrong 0 = .ok (.iload_n 1, 1) := by decide +kernel
theorem dX11_wrong_1 : decode cX11_wrong 1 = .ok (.ifCond .lt 9, 3) := by decide +kernel
theorem dX11_wrong_4 : decode cX11_wrong 4 = .ok (.iload_n 1, 1) := by decide +kernel
theorem dX11_wrong_5 : decode cX11_wrong 5 = .ok (.bipush 6, 2) := by decide +kernel
theorem dX11_wrong_7 : decode cX11_wrong 7 = .ok (.if_icmp .lt 10, 3) := by decide +kernel
theorem dX11_wrong_10 : decode cX11_wrong 10 = .ok (.aload_n 0, 1) := by decide +kernel
theorem dX11_wrong_11 : decode cX11_wrong 11 = .ok (.bipush (-9), 2) := by decide +kernel
theorem dX11_wrong_13 : decode cX11_wrong 13 = .ok (.invokevirtual 88, 3) := by decide +kernel
theorem dX11_wrong_16 : decode cX11_wrong 16 = .ok (.ireturn, 1) := by decide +kernel
theorem dX11_wrong_17 : decode cX11_wrong 17 = .ok (.aload_n 0, 1) := by decide +kernel
theorem dX11_wrong_18 : decode cX11_wrong 18 = .ok (.getfield 56, 3) := by decide +kernel
theorem dX11_wrong_21 : decode cX11_wrong 21 = .ok (.getfield 298, 3) := by decide +kernel
theorem dX11_wrong_24 : decode cX11_wrong 24 = .ok (.iload_n 1, 1) := by decide +kernel
theorem dX11_wrong_25 : decode cX11_wrong 25 = .ok (.iaload, 1) := by decide +kernel
theorem dX11_wrong_26 : decode cX11_wrong 26 = .ok (.ireturn, 1) := by decide +kernel
theorem dX11_run_0 : decode cX11_run 0 = .ok (.aload_n 0, 1) := by decide +kernel
theorem dX11_run_1 : decode cX11_run 1 = .ok (.iload_n 1, 1) := by decide +kernel
theorem dX11_run_2 : decode cX11_run 2 = .ok (.iload_n 2, 1) := by decide +kernel
theorem dX11_run_3 : decode cX11_run 3 = .ok (.invokevirtual 301, 3) := by decide +kernel
theorem dX11_run_6 : decode cX11_run 6 = .ok (.istore_n 3, 1) := by decide +kernel
theorem dX11_run_7 : decode cX11_run 7 = .ok (.iload_n 3, 1) := by decide +kernel
theorem dX11_run_8 : decode cX11_run 8 = .ok (.ifCond .eq 9, 3) := by decide +kernel
theorem dX11_run_11 : decode cX11_run 11 = .ok (.aload_n 0, 1) := by decide +kernel
theorem dX11_run_12 : decode cX11_run 12 = .ok (.iload_n 3, 1) := by decide +kernel
theorem dX11_run_13 : decode cX11_run 13 = .ok (.invokevirtual 88, 3) := by decide +kernel
theorem dX11_run_16 : decode cX11_run 16 = .ok (.ireturn, 1) := by decide +kernel
theorem dX11_run_17 : decode cX11_run 17 = .ok (.aload_n 0, 1) := by decide +kernel
theorem dX11_run_18 : decode cX11_run 18 = .ok (.getfield 65, 3) := by decide +kernel
theorem dX11_run_21 : decode cX11_run 21 = .ok (.iload_n 1, 1) := by decide +kernel
theorem dX11_run_22 : decode cX11_run 22 = .ok (.iload_n 2, 1) := by decide +kernel
theorem dX11_run_23 : decode cX11_run 23 = .ok (.aload_n 0, 1) := by decide +kernel
theorem dX11_run_24 : decode cX11_run 24 = .ok (.getfield 72, 3) := by decide +kernel
theorem dX11_run_27 : decode cX11_run 27 = .ok (.invokevirtual 305, 3) := by decide +kernel
theorem dX11_run_30 : decode cX11_run 30 = .ok (.aload_n 0, 1) := by decide +kernel
theorem dX11_run_31 : decode cX11_run 31 = .ok (.getfield 72, 3) := by decide +kernel
theorem dX11_run_34 : decode cX11_run 34 = .ok (.getfield 309, 3) := by decide +kernel
theorem dX11_run_37 : decode cX11_run 37 = .ok (.ireturn, 1) := by decide +kernel
theorem dX11_compare_0 : decode cX11_compare 0 = .ok (.aload_n 0, 1) := by decide +kernel
theorem dX11_compare_1 : decode cX11_compare 1 = .ok (.iload_n 1, 1) := by decide +kernel
theorem dX11_compare_2 : decode cX11_compare 2 = .ok (.iconst 1, 1) := by decide +kernel
theorem dX11_compare_3 : decode cX11_compare 3 = .ok (.invokevirtual 301, 3) := by decide +kernel
theorem dX11_compare_6 : decode cX11_compare 6 = .ok (.istore_n 2, 1) := by decide +kernel
theorem dX11_compare_7 : decode cX11_compare 7 = .ok (.iload_n 2, 1) := by decide +kernel
theorem dX11_compare_8 : decode cX11_compare 8 = .ok (.ifCond .eq 9, 3) := by decide +kernel
theorem dX11_compare_11 : decode cX11_compare 11 = .ok (.aload_n 0, 1) := by decide +kernel
theorem dX11_compare_12 : decode cX11_compare 12 = .ok (.iload_n 2, 1) := by decide +kernel
theorem dX11_compare_13 : decode cX11_compare 13 = .ok (.invokevirtual 88, 3) := by decide +kernel
theorem dX11_compare_16 : decode cX11_compare 16 = .ok (.ireturn, 1) := by decide +kernel
theorem dX11_compare_17 : decode cX11_compare 17 = .ok (.aload_n 0, 1) := by decide +kernel
theorem dX11_compare_18 : decode cX11_compare 18 = .ok (.getfield 65, 3) := by decide +kernel
theorem dX11_compare_21 : decode cX11_compare 21 = .ok (.iload_n 1, 1) := by decide +kernel
theorem dX11_compare_22 : decode cX11_compare 22 = .ok (.invokevirtual 312, 3) := by decide +kernel
theorem dX11_compare_25 : decode cX11_compare 25 = .ok (.ifCond .eq 7, 3) := by decide +kernel
theorem dX11_compare_28 : decode cX11_compare 28 = .ok (.iconst 1, 1) := by decide +kernel
theorem dX11_compare_29 : decode cX11_compare 29 = .ok (.goto 4, 3) := by decide +kernel
theorem dX11_compare_32 : decode cX11_compare 32 = .ok (.iconst 0, 1) := by decide +kernel
theorem dX11_compare_33 : decode cX11_compare 33 = .ok (.ireturn, 1) := by decide +kernel
theorem dX11_told_0 : decode cX11_told 0 = .ok (.iload_n 1, 1) := by decide +kernel
theorem dX11_told_1 : decode cX11_told 1 = .ok (.tableswitch 95 0 5 #[39, 47, 55, 63, 71, 79], 39) := by decide +kernel
theorem dX11_told_40 : decode cX11_told 40 = .ok (.aload_n 0, 1) := by decide +kernel
theorem dX11_told_41 : decode cX11_told 41 = .ok (.getfield 72, 3) := by decide +kernel
theorem dX11_told_44 : decode cX11_told 44 = .ok (.getfield 315, 3) := by decide +kernel
theorem dX11_told_47 : decode cX11_told 47 = .ok (.ireturn, 1) := by decide +kernel
theorem dX11_told_48 : decode cX11_told 48 = .ok (.aload_n 0, 1) := by decide +kernel
theorem dX11_told_49 : decode cX11_told 49 = .ok (.getfield 72, 3) := by decide +kernel
theorem dX11_told_52 : decode cX11_told 52 = .ok (.getfield 318, 3) := by decide +kernel
theorem dX11_told_55 : decode cX11_told 55 = .ok (.ireturn, 1) := by decide +kernel
theorem dX11_told_56 : decode cX11_told 56 = .ok (.aload_n 0, 1) := by decide +kernel
theorem dX11_told_57 : decode cX11_told 57 = .ok (.getfield 72, 3) := by decide +kernel
theorem dX11_told_60 : decode cX11_told 60 = .ok (.getfield 321, 3) := by decide +kernel
theorem dX11_told_63 : decode cX11_told 63 = .ok (.ireturn, 1) := by decide +kernel
theorem dX11_told_64 : decode cX11_told 64 = .ok (.aload_n 0, 1) := by decide +kernel
theorem dX11_told_65 : decode cX11_told 65 = .ok (.getfield 72, 3) := by decide +kernel
theorem dX11_told_68 : decode cX11_told 68 = .ok (.getfield 324, 3) := by decide +kernel
theorem dX11_told_71 : decode cX11_told 71 = .ok (.ireturn, 1) := by decide +kernel
theorem dX11_told_72 : decode cX11_told 72 = .ok (.aload_n 0, 1) := by decide +kernel
theorem dX11_told_73 : decode cX11_told 73 = .ok (.getfield 72, 3) := by decide +kernel
theorem dX11_told_76 : decode cX11_told 76 = .ok (.getfield 327, 3) := by decide +kernel
theorem dX11_told_79 : decode cX11_told 79 = .ok (.ireturn, 1) := by decide +kernel
theorem dX11_told_80 : decode cX11_told 80 = .ok (.aload_n 0, 1) := by decide +kernel
theorem dX11_told_81 : decode cX11_told 81 = .ok (.getfield 72, 3) := by decide +kernel
theorem dX11_told_84 : decode cX11_told 84 = .ok (.getfield 330, 3) := by decide +kernel
theorem dX11_told_87 : decode cX11_told 87 = .ok (.ifCond .eq 7, 3) := by decide +kernel
theorem dX11_told_90 : decode cX11_told 90 = .ok (.iconst 1, 1) := by decide +kernel
theorem dX11_told_91 : decode cX11_told 91 = .ok (.goto 4, 3) := by decide +kernel
theorem dX11_told_94 : decode cX11_told 94 = .ok (.iconst 0, 1) := by decide +kernel
theorem dX11_told_95 : decode cX11_told 95 = .ok (.ireturn, 1) := by decide +kernel
theorem dX11_told_96 : decode cX11_told 96 = .ok (.aload_n 0, 1) := by decide +kernel
theorem dX11_told_97 : decode cX11_told 97 = .ok (.bipush (-9), 2) := by decide +kernel
theorem dX11_told_99 : decode cX11_told 99 = .ok (.invokevirtual 88, 3) := by decide +kernel
theorem dX11_told_102 : decode cX11_told 102 = .ok (.ireturn, 1) := by decide +kernel
theorem dX11_end_0 : decode cX11_end 0 = .ok (.aload_n 0, 1) := by decide +kernel
theorem dX11_end_1 : decode cX11_end 1 = .ok (.getfield 10, 3) := by decide +kernel
theorem dX11_end_4 : decode cX11_end 4 = .ok (.iload_n 1, 1) := by decide +kernel
theorem dX11_end_5 : decode cX11_end 5 = .ok (.invokevirtual 116, 3) := by decide +kernel
theorem dX11_end_8 : decode cX11_end 8 = .ok (.ifCond .ne 12, 3) := by decide +kernel
theorem dX11_end_11 : decode cX11_end 11 = .ok (.aload_n 0, 1) := by decide +kernel
theorem dX11_end_12 : decode cX11_end 12 = .ok (.bipush (-3), 2) := by decide +kernel
theorem dX11_end_14 : decode cX11_end 14 = .ok (.invokevirtual 88, 3) := by decide +kernel
theorem dX11_end_17 : decode cX11_end 17 = .ok (.pop, 1) := by decide +kernel
theorem dX11_end_18 : decode cX11_end 18 = .ok (.lconst 0, 1) := by decide +kernel
theorem dX11_end_19 : decode cX11_end 19 = .ok (.lreturn, 1) := by decide +kernel
theorem dX11_end_20 : decode cX11_end 20 = .ok (.aload_n 0, 1) := by decide +kernel
theorem dX11_end_21 : decode cX11_end 21 = .ok (.getfield 72, 3) := by decide +kernel
theorem dX11_end_24 : decode cX11_end 24 = .ok (.getfield 309, 3) := by decide +kernel
theorem dX11_end_27 : decode cX11_end 27 = .ok (.ifCond .le 15, 3) := by decide +kernel
theorem dX11_end_30 : decode cX11_end 30 = .ok (.aload_n 0, 1) := by decide +kernel
theorem dX11_end_31 : decode cX11_end 31 = .ok (.getfield 72, 3) := by decide +kernel
theorem dX11_end_34 : decode cX11_end 34 = .ok (.getfield 333, 3) := by decide +kernel
theorem dX11_end_37 : decode cX11_end 37 = .ok (.iload_n 1, 1) := by decide +kernel
theorem dX11_end_38 : decode cX11_end 38 = .ok (.laload, 1) := by decide +kernel
theorem dX11_end_39 : decode cX11_end 39 = .ok (.goto 12, 3) := by decide +kernel
theorem dX11_end_42 : decode cX11_end 42 = .ok (.aload_n 0, 1) := by decide +kernel
theorem dX11_end_43 : decode cX11_end 43 = .ok (.getfield 10, 3) := by decide +kernel
theorem dX11_end_46 : decode cX11_end 46 = .ok (.getfield 131, 3) := by decide +kernel
theorem dX11_end_49 : decode cX11_end 49 = .ok (.iload_n 1, 1) := by decide +kernel
theorem dX11_end_50 : decode cX11_end 50 = .ok (.laload, 1) := by decide +kernel
theorem dX11_end_51 : decode cX11_end 51 = .ok (.lreturn, 1) := by decide +kernel
theorem dX11_again_0 : decode cX11_again 0 = .ok (.aload_n 0, 1) := by decide +kernel
theorem dX11_again_1 : decode cX11_again 1 = .ok (.getfield 76, 3) := by decide +kernel
theorem dX11_again_4 : decode cX11_again 4 = .ok (.ifCond .ne 6, 3) := by decide +kernel
theorem dX11_again_7 : decode cX11_again 7 = .ok (.bipush (-7), 2) := by decide +kernel
theorem dX11_again_9 : decode cX11_again 9 = .ok (.ireturn, 1) := by decide +kernel
theorem dX11_again_10 : decode cX11_again 10 = .ok (.aload_n 0, 1) := by decide +kernel
theorem dX11_again_11 : decode cX11_again 11 = .ok (.getfield 76, 3) := by decide +kernel
theorem dX11_again_14 : decode cX11_again 14 = .ok (.istore_n 1, 1) := by decide +kernel
theorem dX11_again_15 : decode cX11_again 15 = .ok (.aload_n 0, 1) := by decide +kernel
theorem dX11_again_16 : decode cX11_again 16 = .ok (.iconst 0, 1) := by decide +kernel
theorem dX11_again_17 : decode cX11_again 17 = .ok (.putfield 76, 3) := by decide +kernel
theorem dX11_again_20 : decode cX11_again 20 = .ok (.iload_n 1, 1) := by decide +kernel
theorem dX11_again_21 : decode cX11_again 21 = .ok (.ireturn, 1) := by decide +kernel
theorem dX11_status_0 : decode cX11_status 0 = .ok (.iload_n 1, 1) := by decide +kernel
theorem dX11_status_1 : decode cX11_status 1 = .ok (.bipush (-11), 2) := by decide +kernel
theorem dX11_status_3 : decode cX11_status 3 = .ok (.if_icmp .lt 9, 3) := by decide +kernel
theorem dX11_status_6 : decode cX11_status 6 = .ok (.iload_n 1, 1) := by decide +kernel
theorem dX11_status_7 : decode cX11_status 7 = .ok (.bipush (-2), 2) := by decide +kernel
theorem dX11_status_9 : decode cX11_status 9 = .ok (.if_icmp .le 10, 3) := by decide +kernel
theorem dX11_status_12 : decode cX11_status 12 = .ok (.aload_n 0, 1) := by decide +kernel
theorem dX11_status_13 : decode cX11_status 13 = .ok (.bipush (-9), 2) := by decide +kernel
theorem dX11_status_15 : decode cX11_status 15 = .ok (.invokevirtual 88, 3) := by decide +kernel
theorem dX11_status_18 : decode cX11_status 18 = .ok (.ireturn, 1) := by decide +kernel
theorem dX11_status_19 : decode cX11_status 19 = .ok (.aload_n 0, 1) := by decide +kernel
theorem dX11_status_20 : decode cX11_status 20 = .ok (.getfield 80, 3) := by decide +kernel
theorem dX11_status_23 : decode cX11_status 23 = .ok (.iload_n 1, 1) := by decide +kernel
theorem dX11_status_24 : decode cX11_status 24 = .ok (.ineg, 1) := by decide +kernel
theorem dX11_status_25 : decode cX11_status 25 = .ok (.iaload, 1) := by decide +kernel
theorem dX11_status_26 : decode cX11_status 26 = .ok (.ireturn, 1) := by decide +kernel
theorem dX11_refuse_0 : decode cX11_refuse 0 = .ok (.iload_n 1, 1) := by decide +kernel
theorem dX11_refuse_1 : decode cX11_refuse 1 = .ok (.bipush (-11), 2) := by decide +kernel
theorem dX11_refuse_3 : decode cX11_refuse 3 = .ok (.if_icmp .lt 25, 3) := by decide +kernel
theorem dX11_refuse_6 : decode cX11_refuse 6 = .ok (.iload_n 1, 1) := by decide +kernel
theorem dX11_refuse_7 : decode cX11_refuse 7 = .ok (.bipush (-2), 2) := by decide +kernel
theorem dX11_refuse_9 : decode cX11_refuse 9 = .ok (.if_icmp .gt 19, 3) := by decide +kernel
theorem dX11_refuse_12 : decode cX11_refuse 12 = .ok (.aload_n 0, 1) := by decide +kernel
theorem dX11_refuse_13 : decode cX11_refuse 13 = .ok (.iload_n 1, 1) := by decide +kernel
theorem dX11_refuse_14 : decode cX11_refuse 14 = .ok (.putfield 76, 3) := by decide +kernel
theorem dX11_refuse_17 : decode cX11_refuse 17 = .ok (.aload_n 0, 1) := by decide +kernel
theorem dX11_refuse_18 : decode cX11_refuse 18 = .ok (.getfield 80, 3) := by decide +kernel
theorem dX11_refuse_21 : decode cX11_refuse 21 = .ok (.iload_n 1, 1) := by decide +kernel
theorem dX11_refuse_22 : decode cX11_refuse 22 = .ok (.ineg, 1) := by decide +kernel
theorem dX11_refuse_23 : decode cX11_refuse 23 = .ok (.dup2, 1) := by decide +kernel
theorem dX11_refuse_24 : decode cX11_refuse 24 = .ok (.iaload, 1) := by decide +kernel
theorem dX11_refuse_25 : decode cX11_refuse 25 = .ok (.iconst 1, 1) := by decide +kernel
theorem dX11_refuse_26 : decode cX11_refuse 26 = .ok (.iadd, 1) := by decide +kernel
theorem dX11_refuse_27 : decode cX11_refuse 27 = .ok (.iastore, 1) := by decide +kernel
theorem dX11_refuse_28 : decode cX11_refuse 28 = .ok (.iload_n 1, 1) := by decide +kernel
theorem dX11_refuse_29 : decode cX11_refuse 29 = .ok (.ireturn, 1) := by decide +kernel
theorem dX11_bodyChanged_0 : decode cX11_bodyChanged 0 = .ok (.aload_n 0, 1) := by decide +kernel
theorem dX11_bodyChanged_1 : decode cX11_bodyChanged 1 = .ok (.getfield 19, 3) := by decide +kernel
theorem dX11_bodyChanged_4 : decode cX11_bodyChanged 4 = .ok (.iconst 1, 1) := by decide +kernel
theorem dX11_bodyChanged_5 : decode cX11_bodyChanged 5 = .ok (.putfield 336, 3) := by decide +kernel
theorem dX11_bodyChanged_8 : decode cX11_bodyChanged 8 = .ok (.aload_n 0, 1) := by decide +kernel
theorem dX11_bodyChanged_9 : decode cX11_bodyChanged 9 = .ok (.getfield 49, 3) := by decide +kernel
theorem dX11_bodyChanged_12 : decode cX11_bodyChanged 12 = .ok (.iconst 0, 1) := by decide +kernel
theorem dX11_bodyChanged_13 : decode cX11_bodyChanged 13 = .ok (.putfield 241, 3) := by decide +kernel
theorem dX11_bodyChanged_16 : decode cX11_bodyChanged 16 = .ok (.aload_n 0, 1) := by decide +kernel
theorem dX11_bodyChanged_17 : decode cX11_bodyChanged 17 = .ok (.getfield 72, 3) := by decide +kernel
theorem dX11_bodyChanged_20 : decode cX11_bodyChanged 20 = .ok (.invokevirtual 339, 3) := by decide +kernel
theorem dX11_bodyChanged_23 : decode cX11_bodyChanged 23 = .ok (.return_, 1) := by decide +kernel
theorem dX11_isBack_0 : decode cX11_isBack 0 = .ok (.iload_n 0, 1) := by decide +kernel
theorem dX11_isBack_1 : decode cX11_isBack 1 = .ok (.ifCond .lt 12, 3) := by decide +kernel
theorem dX11_isBack_4 : decode cX11_isBack 4 = .ok (.iload_n 0, 1) := by decide +kernel
theorem dX11_isBack_5 : decode cX11_isBack 5 = .ok (.iconst 4, 1) := by decide +kernel
theorem dX11_isBack_6 : decode cX11_isBack 6 = .ok (.if_icmp .gt 7, 3) := by decide +kernel
theorem dX11_isBack_9 : decode cX11_isBack 9 = .ok (.iconst 1, 1) := by decide +kernel
theorem dX11_isBack_10 : decode cX11_isBack 10 = .ok (.goto 4, 3) := by decide +kernel
theorem dX11_isBack_13 : decode cX11_isBack 13 = .ok (.iconst 0, 1) := by decide +kernel
theorem dX11_isBack_14 : decode cX11_isBack 14 = .ok (.ireturn, 1) := by decide +kernel
theorem dX11_isSlot_0 : decode cX11_isSlot 0 = .ok (.iload_n 0, 1) := by decide +kernel
theorem dX11_isSlot_1 : decode cX11_isSlot 1 = .ok (.ifCond .lt 13, 3) := by decide +kernel
theorem dX11_isSlot_4 : decode cX11_isSlot 4 = .ok (.iload_n 0, 1) := by decide +kernel
theorem dX11_isSlot_5 : decode cX11_isSlot 5 = .ok (.bipush 8, 2) := by decide +kernel
theorem dX11_isSlot_7 : decode cX11_isSlot 7 = .ok (.if_icmp .ge 7, 3) := by decide +kernel
theorem dX11_isSlot_10 : decode cX11_isSlot 10 = .ok (.iconst 1, 1) := by decide +kernel
theorem dX11_isSlot_11 : decode cX11_isSlot 11 = .ok (.goto 4, 3) := by decide +kernel
theorem dX11_isSlot_14 : decode cX11_isSlot 14 = .ok (.iconst 0, 1) := by decide +kernel
theorem dX11_isSlot_15 : decode cX11_isSlot 15 = .ok (.ireturn, 1) := by decide +kernel
theorem dX11_isKind_0 : decode cX11_isKind 0 = .ok (.iload_n 0, 1) := by decide +kernel
theorem dX11_isKind_1 : decode cX11_isKind 1 = .ok (.ifCond .lt 13, 3) := by decide +kernel
theorem dX11_isKind_4 : decode cX11_isKind 4 = .ok (.iload_n 0, 1) := by decide +kernel
theorem dX11_isKind_5 : decode cX11_isKind 5 = .ok (.bipush 6, 2) := by decide +kernel
theorem dX11_isKind_7 : decode cX11_isKind 7 = .ok (.if_icmp .ge 7, 3) := by decide +kernel
theorem dX11_isKind_10 : decode cX11_isKind 10 = .ok (.iconst 1, 1) := by decide +kernel
theorem dX11_isKind_11 : decode cX11_isKind 11 = .ok (.goto 4, 3) := by decide +kernel
theorem dX11_isKind_14 : decode cX11_isKind 14 = .ok (.iconst 0, 1) := by decide +kernel
theorem dX11_isKind_15 : decode cX11_isKind 15 = .ok (.ireturn, 1) := by decide +kernel
theorem dX11_operandPart_0 : decode cX11_operandPart 0 = .ok (.iload_n 1, 1) := by decide +kernel
theorem dX11_operandPart_1 : decode cX11_operandPart 1 = .ok (.iconst 3, 1) := by decide +kernel
theorem dX11_operandPart_2 : decode cX11_operandPart 2 = .ok (.imul, 1) := by decide +kernel
theorem dX11_operandPart_3 : decode cX11_operandPart 3 = .ok (.iload_n 2, 1) := by decide +kernel
theorem dX11_operandPart_4 : decode cX11_operandPart 4 = .ok (.iconst 2, 1) := by decide +kernel
theorem dX11_operandPart_5 : decode cX11_operandPart 5 = .ok (.idiv, 1) := by decide +kernel
theorem dX11_operandPart_6 : decode cX11_operandPart 6 = .ok (.iadd, 1) := by decide +kernel
theorem dX11_operandPart_7 : decode cX11_operandPart 7 = .ok (.istore_n 3, 1) := by decide +kernel
theorem dX11_operandPart_8 : decode cX11_operandPart 8 = .ok (.iload_n 2, 1) := by decide +kernel
theorem dX11_operandPart_9 : decode cX11_operandPart 9 = .ok (.iconst 2, 1) := by decide +kernel
theorem dX11_operandPart_10 : decode cX11_operandPart 10 = .ok (.irem, 1) := by decide +kernel
theorem dX11_operandPart_11 : decode cX11_operandPart 11 = .ok (.ifCond .ne 15, 3) := by decide +kernel
theorem dX11_operandPart_14 : decode cX11_operandPart 14 = .ok (.aload_n 0, 1) := by decide +kernel
theorem dX11_operandPart_15 : decode cX11_operandPart 15 = .ok (.getfield 10, 3) := by decide +kernel
theorem dX11_operandPart_18 : decode cX11_operandPart 18 = .ok (.getfield 342, 3) := by decide +kernel
theorem dX11_operandPart_21 : decode cX11_operandPart 21 = .ok (.iload_n 3, 1) := by decide +kernel
theorem dX11_operandPart_22 : decode cX11_operandPart 22 = .ok (.iaload, 1) := by decide +kernel
theorem dX11_operandPart_23 : decode cX11_operandPart 23 = .ok (.goto 12, 3) := by decide +kernel
theorem dX11_operandPart_26 : decode cX11_operandPart 26 = .ok (.aload_n 0, 1) := by decide +kernel
theorem dX11_operandPart_27 : decode cX11_operandPart 27 = .ok (.getfield 10, 3) := by decide +kernel
theorem dX11_operandPart_30 : decode cX11_operandPart 30 = .ok (.getfield 345, 3) := by decide +kernel
theorem dX11_operandPart_33 : decode cX11_operandPart 33 = .ok (.iload_n 3, 1) := by decide +kernel
theorem dX11_operandPart_34 : decode cX11_operandPart 34 = .ok (.iaload, 1) := by decide +kernel
theorem dX11_operandPart_35 : decode cX11_operandPart 35 = .ok (.ireturn, 1) := by decide +kernel
theorem dX11_lowestBeat_0 : decode cX11_lowestBeat 0 = .ok (.aload_n 0, 1) := by decide +kernel
theorem dX11_lowestBeat_1 : decode cX11_lowestBeat 1 = .ok (.getfield 10, 3) := by decide +kernel
theorem dX11_lowestBeat_4 : decode cX11_lowestBeat 4 = .ok (.invokevirtual 232, 3) := by decide +kernel
theorem dX11_lowestBeat_7 : decode cX11_lowestBeat 7 = .ok (.ifCond .ne 6, 3) := by decide +kernel
theorem dX11_lowestBeat_10 : decode cX11_lowestBeat 10 = .ok (.bipush (-2), 2) := by decide +kernel
theorem dX11_lowestBeat_12 : decode cX11_lowestBeat 12 = .ok (.ireturn, 1) := by decide +kernel
theorem dX11_lowestBeat_13 : decode cX11_lowestBeat 13 = .ok (.aload_n 0, 1) := by decide +kernel
theorem dX11_lowestBeat_14 : decode cX11_lowestBeat 14 = .ok (.getfield 10, 3) := by decide +kernel
theorem dX11_lowestBeat_17 : decode cX11_lowestBeat 17 = .ok (.invokevirtual 235, 3) := by decide +kernel
theorem dX11_lowestBeat_20 : decode cX11_lowestBeat 20 = .ok (.istore_n 1, 1) := by decide +kernel
theorem dX11_lowestBeat_21 : decode cX11_lowestBeat 21 = .ok (.iload_n 1, 1) := by decide +kernel
theorem dX11_lowestBeat_22 : decode cX11_lowestBeat 22 = .ok (.bipush 60, 2) := by decide +kernel
theorem dX11_lowestBeat_24 : decode cX11_lowestBeat 24 = .ok (.if_icmp .le 6, 3) := by decide +kernel
theorem dX11_lowestBeat_27 : decode cX11_lowestBeat 27 = .ok (.bipush (-9), 2) := by decide +kernel
theorem dX11_lowestBeat_29 : decode cX11_lowestBeat 29 = .ok (.ireturn, 1) := by decide +kernel
theorem dX11_lowestBeat_30 : decode cX11_lowestBeat 30 = .ok (.aload_n 0, 1) := by decide +kernel
theorem dX11_lowestBeat_31 : decode cX11_lowestBeat 31 = .ok (.getfield 19, 3) := by decide +kernel
theorem dX11_lowestBeat_34 : decode cX11_lowestBeat 34 = .ok (.aload_n 0, 1) := by decide +kernel
theorem dX11_lowestBeat_35 : decode cX11_lowestBeat 35 = .ok (.getfield 10, 3) := by decide +kernel
theorem dX11_lowestBeat_38 : decode cX11_lowestBeat 38 = .ok (.invokevirtual 166, 3) := by decide +kernel
theorem dX11_lowestBeat_41 : decode cX11_lowestBeat 41 = .ok (.aload_n 0, 1) := by decide +kernel
theorem dX11_lowestBeat_42 : decode cX11_lowestBeat 42 = .ok (.bipush 60, 2) := by decide +kernel
theorem dX11_lowestBeat_44 : decode cX11_lowestBeat 44 = .ok (.invokevirtual 238, 3) := by decide +kernel
theorem dX11_lowestBeat_47 : decode cX11_lowestBeat 47 = .ok (.ifCond .eq 6, 3) := by decide +kernel
theorem dX11_lowestBeat_50 : decode cX11_lowestBeat 50 = .ok (.bipush (-9), 2) := by decide +kernel
theorem dX11_lowestBeat_52 : decode cX11_lowestBeat 52 = .ok (.ireturn, 1) := by decide +kernel
theorem dX11_lowestBeat_53 : decode cX11_lowestBeat 53 = .ok (.bipush 60, 2) := by decide +kernel
theorem dX11_lowestBeat_55 : decode cX11_lowestBeat 55 = .ok (.istore_n 2, 1) := by decide +kernel
theorem dX11_lowestBeat_56 : decode cX11_lowestBeat 56 = .ok (.iconst 0, 1) := by decide +kernel
theorem dX11_lowestBeat_57 : decode cX11_lowestBeat 57 = .ok (.istore_n 3, 1) := by decide +kernel
theorem dX11_lowestBeat_58 : decode cX11_lowestBeat 58 = .ok (.iload_n 3, 1) := by decide +kernel
theorem dX11_lowestBeat_59 : decode cX11_lowestBeat 59 = .ok (.bipush 60, 2) := by decide +kernel
theorem dX11_lowestBeat_61 : decode cX11_lowestBeat 61 = .ok (.if_icmp .ge 41, 3) := by decide +kernel
theorem dX11_lowestBeat_64 : decode cX11_lowestBeat 64 = .ok (.iload_n 1, 1) := by decide +kernel
theorem dX11_lowestBeat_65 : decode cX11_lowestBeat 65 = .ok (.iload_n 2, 1) := by decide +kernel
theorem dX11_lowestBeat_66 : decode cX11_lowestBeat 66 = .ok (.if_icmp .ge 36, 3) := by decide +kernel
theorem dX11_lowestBeat_69 : decode cX11_lowestBeat 69 = .ok (.iload_n 1, 1) := by decide +kernel
theorem dX11_lowestBeat_70 : decode cX11_lowestBeat 70 = .ok (.iload_n 2, 1) := by decide +kernel
theorem dX11_lowestBeat_71 : decode cX11_lowestBeat 71 = .ok (.iadd, 1) := by decide +kernel
theorem dX11_lowestBeat_72 : decode cX11_lowestBeat 72 = .ok (.iconst 2, 1) := by decide +kernel
theorem dX11_lowestBeat_73 : decode cX11_lowestBeat 73 = .ok (.idiv, 1) := by decide +kernel
theorem dX11_lowestBeat_74 : decode cX11_lowestBeat 74 = .ok (.istore 4, 2) := by decide +kernel
theorem dX11_lowestBeat_76 : decode cX11_lowestBeat 76 = .ok (.aload_n 0, 1) := by decide +kernel
theorem dX11_lowestBeat_77 : decode cX11_lowestBeat 77 = .ok (.iload 4, 2) := by decide +kernel
theorem dX11_lowestBeat_79 : decode cX11_lowestBeat 79 = .ok (.invokevirtual 238, 3) := by decide +kernel
theorem dX11_lowestBeat_82 : decode cX11_lowestBeat 82 = .ok (.ifCond .eq 11, 3) := by decide +kernel
theorem dX11_lowestBeat_85 : decode cX11_lowestBeat 85 = .ok (.iload 4, 2) := by decide +kernel
theorem dX11_lowestBeat_87 : decode cX11_lowestBeat 87 = .ok (.iconst 1, 1) := by decide +kernel
theorem dX11_lowestBeat_88 : decode cX11_lowestBeat 88 = .ok (.iadd, 1) := by decide +kernel
theorem dX11_lowestBeat_89 : decode cX11_lowestBeat 89 = .ok (.istore_n 1, 1) := by decide +kernel
theorem dX11_lowestBeat_90 : decode cX11_lowestBeat 90 = .ok (.goto 6, 3) := by decide +kernel
theorem dX11_lowestBeat_93 : decode cX11_lowestBeat 93 = .ok (.iload 4, 2) := by decide +kernel
theorem dX11_lowestBeat_95 : decode cX11_lowestBeat 95 = .ok (.istore_n 2, 1) := by decide +kernel
theorem dX11_lowestBeat_96 : decode cX11_lowestBeat 96 = .ok (.iinc 3 1, 3) := by decide +kernel
theorem dX11_lowestBeat_99 : decode cX11_lowestBeat 99 = .ok (.goto (-41), 3) := by decide +kernel
theorem dX11_lowestBeat_102 : decode cX11_lowestBeat 102 = .ok (.iload_n 1, 1) := by decide +kernel
theorem dX11_lowestBeat_103 : decode cX11_lowestBeat 103 = .ok (.ireturn, 1) := by decide +kernel
theorem dX11_hasRingAt_0 : decode cX11_hasRingAt 0 = .ok (.aload_n 0, 1) := by decide +kernel
theorem dX11_hasRingAt_1 : decode cX11_hasRingAt 1 = .ok (.getfield 33, 3) := by decide +kernel
theorem dX11_hasRingAt_4 : decode cX11_hasRingAt 4 = .ok (.aload_n 0, 1) := by decide +kernel
theorem dX11_hasRingAt_5 : decode cX11_hasRingAt 5 = .ok (.getfield 19, 3) := by decide +kernel
theorem dX11_hasRingAt_8 : decode cX11_hasRingAt 8 = .ok (.getfield 291, 3) := by decide +kernel
theorem dX11_hasRingAt_11 : decode cX11_hasRingAt 11 = .ok (.iload_n 1, 1) := by decide +kernel
theorem dX11_hasRingAt_12 : decode cX11_hasRingAt 12 = .ok (.invokevirtual 348, 3) := by decide +kernel
theorem dX11_hasRingAt_15 : decode cX11_hasRingAt 15 = .ok (.aload_n 0, 1) := by decide +kernel
theorem dX11_hasRingAt_16 : decode cX11_hasRingAt 16 = .ok (.getfield 33, 3) := by decide +kernel
theorem dX11_hasRingAt_19 : decode cX11_hasRingAt 19 = .ok (.aload_n 0, 1) := by decide +kernel
theorem dX11_hasRingAt_20 : decode cX11_hasRingAt 20 = .ok (.getfield 10, 3) := by decide +kernel
theorem dX11_hasRingAt_23 : decode cX11_hasRingAt 23 = .ok (.getfield 149, 3) := by decide +kernel
theorem dX11_hasRingAt_26 : decode cX11_hasRingAt 26 = .ok (.invokevirtual 226, 3) := by decide +kernel
theorem dX11_hasRingAt_29 : decode cX11_hasRingAt 29 = .ok (.ifCond .ne 7, 3) := by decide +kernel
theorem dX11_hasRingAt_32 : decode cX11_hasRingAt 32 = .ok (.iconst 1, 1) := by decide +kernel
theorem dX11_hasRingAt_33 : decode cX11_hasRingAt 33 = .ok (.goto 4, 3) := by decide +kernel
theorem dX11_hasRingAt_36 : decode cX11_hasRingAt 36 = .ok (.iconst 0, 1) := by decide +kernel
theorem dX11_hasRingAt_37 : decode cX11_hasRingAt 37 = .ok (.ireturn, 1) := by decide +kernel
theorem dX11_seekAt_0 : decode cX11_seekAt 0 = .ok (.aload_n 0, 1) := by decide +kernel
theorem dX11_seekAt_1 : decode cX11_seekAt 1 = .ok (.getfield 33, 3) := by decide +kernel
theorem dX11_seekAt_4 : decode cX11_seekAt 4 = .ok (.aload_n 0, 1) := by decide +kernel
theorem dX11_seekAt_5 : decode cX11_seekAt 5 = .ok (.getfield 19, 3) := by decide +kernel
theorem dX11_seekAt_8 : decode cX11_seekAt 8 = .ok (.getfield 291, 3) := by decide +kernel
theorem dX11_seekAt_11 : decode cX11_seekAt 11 = .ok (.iload_n 1, 1) := by decide +kernel
theorem dX11_seekAt_12 : decode cX11_seekAt 12 = .ok (.invokevirtual 348, 3) := by decide +kernel
theorem dX11_seekAt_15 : decode cX11_seekAt 15 = .ok (.aload_n 0, 1) := by decide +kernel
theorem dX11_seekAt_16 : decode cX11_seekAt 16 = .ok (.getfield 42, 3) := by decide +kernel
theorem dX11_seekAt_19 : decode cX11_seekAt 19 = .ok (.iload_n 1, 1) := by decide +kernel
theorem dX11_seekAt_20 : decode cX11_seekAt 20 = .ok (.invokevirtual 352, 3) := by decide +kernel
theorem dX11_seekAt_23 : decode cX11_seekAt 23 = .ok (.ireturn, 1) := by decide +kernel
theorem dX11_refusalOfRun_0 : decode cX11_refusalOfRun 0 = .ok (.aload_n 0, 1) := by decide +kernel
theorem dX11_refusalOfRun_1 : decode cX11_refusalOfRun 1 = .ok (.getfield 10, 3) := by decide +kernel
theorem dX11_refusalOfRun_4 : decode cX11_refusalOfRun 4 = .ok (.invokevirtual 232, 3) := by decide +kernel
theorem dX11_refusalOfRun_7 : decode cX11_refusalOfRun 7 = .ok (.ifCond .eq 17, 3) := by decide +kernel
theorem dX11_refusalOfRun_10 : decode cX11_refusalOfRun 10 = .ok (.iload_n 2, 1) := by decide +kernel
theorem dX11_refusalOfRun_11 : decode cX11_refusalOfRun 11 = .ok (.ifCond .eq 16, 3) := by decide +kernel
theorem dX11_refusalOfRun_14 : decode cX11_refusalOfRun 14 = .ok (.aload_n 0, 1) := by decide +kernel
theorem dX11_refusalOfRun_15 : decode cX11_refusalOfRun 15 = .ok (.getfield 49, 3) := by decide +kernel
theorem dX11_refusalOfRun_18 : decode cX11_refusalOfRun 18 = .ok (.getfield 241, 3) := by decide +kernel
theorem dX11_refusalOfRun_21 : decode cX11_refusalOfRun 21 = .ok (.ifCond .ne 6, 3) := by decide +kernel
theorem dX11_refusalOfRun_24 : decode cX11_refusalOfRun 24 = .ok (.bipush (-2), 2) := by decide +kernel
theorem dX11_refusalOfRun_26 : decode cX11_refusalOfRun 26 = .ok (.ireturn, 1) := by decide +kernel
theorem dX11_refusalOfRun_27 : decode cX11_refusalOfRun 27 = .ok (.iload_n 1, 1) := by decide +kernel
theorem dX11_refusalOfRun_28 : decode cX11_refusalOfRun 28 = .ok (.ifCond .ge 6, 3) := by decide +kernel
theorem dX11_refusalOfRun_31 : decode cX11_refusalOfRun 31 = .ok (.bipush (-4), 2) := by decide +kernel
theorem dX11_refusalOfRun_33 : decode cX11_refusalOfRun 33 = .ok (.ireturn, 1) := by decide +kernel
theorem dX11_refusalOfRun_34 : decode cX11_refusalOfRun 34 = .ok (.iload_n 1, 1) := by decide +kernel
theorem dX11_refusalOfRun_35 : decode cX11_refusalOfRun 35 = .ok (.sipush 200, 3) := by decide +kernel
theorem dX11_refusalOfRun_38 : decode cX11_refusalOfRun 38 = .ok (.if_icmp .le 8, 3) := by decide +kernel
theorem dX11_refusalOfRun_41 : decode cX11_refusalOfRun 41 = .ok (.bipush (-9), 2) := by decide +kernel
theorem dX11_refusalOfRun_43 : decode cX11_refusalOfRun 43 = .ok (.goto 4, 3) := by decide +kernel
theorem dX11_refusalOfRun_46 : decode cX11_refusalOfRun 46 = .ok (.iconst 0, 1) := by decide +kernel
theorem dX11_refusalOfRun_47 : decode cX11_refusalOfRun 47 = .ok (.ireturn, 1) := by decide +kernel
theorem dX12_init_0 : decode cX12_init 0 = .ok (.aload_n 0, 1) := by decide +kernel
theorem dX12_init_1 : decode cX12_init 1 = .ok (.invokespecial 1, 3) := by decide +kernel
theorem dX12_init_4 : decode cX12_init 4 = .ok (.aload_n 0, 1) := by decide +kernel
theorem dX12_init_5 : decode cX12_init 5 = .ok (.bipush 16, 2) := by decide +kernel
theorem dX12_init_7 : decode cX12_init 7 = .ok (.newarray .int, 2) := by decide +kernel
theorem dX12_init_9 : decode cX12_init 9 = .ok (.putfield 7, 3) := by decide +kernel
theorem dX12_init_12 : decode cX12_init 12 = .ok (.aload_n 0, 1) := by decide +kernel
theorem dX12_init_13 : decode cX12_init 13 = .ok (.bipush 16, 2) := by decide +kernel
theorem dX12_init_15 : decode cX12_init 15 = .ok (.newarray .int, 2) := by decide +kernel
theorem dX12_init_17 : decode cX12_init 17 = .ok (.putfield 13, 3) := by decide +kernel
theorem dX12_init_20 : decode cX12_init 20 = .ok (.aload_n 0, 1) := by decide +kernel
theorem dX12_init_21 : decode cX12_init 21 = .ok (.bipush 16, 2) := by decide +kernel
theorem dX12_init_23 : decode cX12_init 23 = .ok (.newarray .int, 2) := by decide +kernel
theorem dX12_init_25 : decode cX12_init 25 = .ok (.putfield 16, 3) := by decide +kernel
theorem dX12_init_28 : decode cX12_init 28 = .ok (.aload_n 0, 1) := by decide +kernel
theorem dX12_init_29 : decode cX12_init 29 = .ok (.bipush 16, 2) := by decide +kernel
theorem dX12_init_31 : decode cX12_init 31 = .ok (.newarray .int, 2) := by decide +kernel
theorem dX12_init_33 : decode cX12_init 33 = .ok (.putfield 19, 3) := by decide +kernel
theorem dX12_init_36 : decode cX12_init 36 = .ok (.aload_n 0, 1) := by decide +kernel
theorem dX12_init_37 : decode cX12_init 37 = .ok (.bipush 16, 2) := by decide +kernel
theorem dX12_init_39 : decode cX12_init 39 = .ok (.newarray .int, 2) := by decide +kernel
theorem dX12_init_41 : decode cX12_init 41 = .ok (.putfield 22, 3) := by decide +kernel
theorem dX12_init_44 : decode cX12_init 44 = .ok (.aload_n 0, 1) := by decide +kernel
theorem dX12_init_45 : decode cX12_init 45 = .ok (.bipush 48, 2) := by decide +kernel
theorem dX12_init_47 : decode cX12_init 47 = .ok (.newarray .int, 2) := by decide +kernel
theorem dX12_init_49 : decode cX12_init 49 = .ok (.putfield 25, 3) := by decide +kernel
theorem dX12_init_52 : decode cX12_init 52 = .ok (.aload_n 0, 1) := by decide +kernel
theorem dX12_init_53 : decode cX12_init 53 = .ok (.bipush 48, 2) := by decide +kernel
theorem dX12_init_55 : decode cX12_init 55 = .ok (.newarray .int, 2) := by decide +kernel
theorem dX12_init_57 : decode cX12_init 57 = .ok (.putfield 28, 3) := by decide +kernel
theorem dX12_init_60 : decode cX12_init 60 = .ok (.aload_n 0, 1) := by decide +kernel
theorem dX12_init_61 : decode cX12_init 61 = .ok (.bipush 16, 2) := by decide +kernel
theorem dX12_init_63 : decode cX12_init 63 = .ok (.newarray .long, 2) := by decide +kernel
theorem dX12_init_65 : decode cX12_init 65 = .ok (.putfield 31, 3) := by decide +kernel
theorem dX12_init_68 : decode cX12_init 68 = .ok (.aload_n 0, 1) := by decide +kernel
theorem dX12_init_69 : decode cX12_init 69 = .ok (.bipush 16, 2) := by decide +kernel
theorem dX12_init_71 : decode cX12_init 71 = .ok (.newarray .long, 2) := by decide +kernel
theorem dX12_init_73 : decode cX12_init 73 = .ok (.putfield 35, 3) := by decide +kernel
theorem dX12_init_76 : decode cX12_init 76 = .ok (.aload_n 0, 1) := by decide +kernel
theorem dX12_init_77 : decode cX12_init 77 = .ok (.bipush 6, 2) := by decide +kernel
theorem dX12_init_79 : decode cX12_init 79 = .ok (.newarray .int, 2) := by decide +kernel
theorem dX12_init_81 : decode cX12_init 81 = .ok (.putfield 38, 3) := by decide +kernel
theorem dX12_init_84 : decode cX12_init 84 = .ok (.aload_n 0, 1) := by decide +kernel
theorem dX12_init_85 : decode cX12_init 85 = .ok (.bipush 40, 2) := by decide +kernel
theorem dX12_init_87 : decode cX12_init 87 = .ok (.newarray .int, 2) := by decide +kernel
theorem dX12_init_89 : decode cX12_init 89 = .ok (.putfield 41, 3) := by decide +kernel
theorem dX12_init_92 : decode cX12_init 92 = .ok (.aload_n 0, 1) := by decide +kernel
theorem dX12_init_93 : decode cX12_init 93 = .ok (.bipush 40, 2) := by decide +kernel
theorem dX12_init_95 : decode cX12_init 95 = .ok (.newarray .int, 2) := by decide +kernel
theorem dX12_init_97 : decode cX12_init 97 = .ok (.putfield 44, 3) := by decide +kernel
theorem dX12_init_100 : decode cX12_init 100 = .ok (.aload_n 0, 1) := by decide +kernel
theorem dX12_init_101 : decode cX12_init 101 = .ok (.bipush 40, 2) := by decide +kernel
theorem dX12_init_103 : decode cX12_init 103 = .ok (.newarray .int, 2) := by decide +kernel
theorem dX12_init_105 : decode cX12_init 105 = .ok (.putfield 47, 3) := by decide +kernel
theorem dX12_init_108 : decode cX12_init 108 = .ok (.aload_n 0, 1) := by decide +kernel
theorem dX12_init_109 : decode cX12_init 109 = .ok (.bipush 40, 2) := by decide +kernel
theorem dX12_init_111 : decode cX12_init 111 = .ok (.newarray .int, 2) := by decide +kernel
theorem dX12_init_113 : decode cX12_init 113 = .ok (.putfield 50, 3) := by decide +kernel
theorem dX12_init_116 : decode cX12_init 116 = .ok (.aload_n 0, 1) := by decide +kernel
theorem dX12_init_117 : decode cX12_init 117 = .ok (.sipush 704, 3) := by decide +kernel
theorem dX12_init_120 : decode cX12_init 120 = .ok (.newarray .int, 2) := by decide +kernel
theorem dX12_init_122 : decode cX12_init 122 = .ok (.putfield 53, 3) := by decide +kernel
theorem dX12_init_125 : decode cX12_init 125 = .ok (.aload_n 0, 1) := by decide +kernel
theorem dX12_init_126 : decode cX12_init 126 = .ok (.sipush 704, 3) := by decide +kernel
theorem dX12_init_129 : decode cX12_init 129 = .ok (.newarray .int, 2) := by decide +kernel
theorem dX12_init_131 : decode cX12_init 131 = .ok (.putfield 56, 3) := by decide +kernel
theorem dX12_init_134 : decode cX12_init 134 = .ok (.aload_n 0, 1) := by decide +kernel
theorem dX12_init_135 : decode cX12_init 135 = .ok (.sipush 704, 3) := by decide +kernel
theorem dX12_init_138 : decode cX12_init 138 = .ok (.newarray .int, 2) := by decide +kernel
theorem dX12_init_140 : decode cX12_init 140 = .ok (.putfield 59, 3) := by decide +kernel
theorem dX12_init_143 : decode cX12_init 143 = .ok (.aload_n 0, 1) := by decide +kernel
theorem dX12_init_144 : decode cX12_init 144 = .ok (.sipush 704, 3) := by decide +kernel
theorem dX12_init_147 : decode cX12_init 147 = .ok (.newarray .int, 2) := by decide +kernel
theorem dX12_init_149 : decode cX12_init 149 = .ok (.putfield 62, 3) := by decide +kernel
theorem dX12_init_152 : decode cX12_init 152 = .ok (.aload_n 0, 1) := by decide +kernel
theorem dX12_init_153 : decode cX12_init 153 = .ok (.sipush 320, 3) := by decide +kernel
theorem dX12_init_156 : decode cX12_init 156 = .ok (.newarray .long, 2) := by decide +kernel
theorem dX12_init_158 : decode cX12_init 158 = .ok (.putfield 65, 3) := by decide +kernel
theorem dX12_init_161 : decode cX12_init 161 = .ok (.aload_n 0, 1) := by decide +kernel
theorem dX12_init_162 : decode cX12_init 162 = .ok (.sipush 320, 3) := by decide +kernel
theorem dX12_init_165 : decode cX12_init 165 = .ok (.newarray .long, 2) := by decide +kernel
theorem dX12_init_167 : decode cX12_init 167 = .ok (.putfield 68, 3) := by decide +kernel
theorem dX12_init_170 : decode cX12_init 170 = .ok (.aload_n 0, 1) := by decide +kernel
theorem dX12_init_171 : decode cX12_init 171 = .ok (.bipush 8, 2) := by decide +kernel
theorem dX12_init_173 : decode cX12_init 173 = .ok (.newarray .int, 2) := by decide +kernel
theorem dX12_init_175 : decode cX12_init 175 = .ok (.putfield 71, 3) := by decide +kernel
theorem dX12_init_178 : decode cX12_init 178 = .ok (.aload_n 0, 1) := by decide +kernel
theorem dX12_init_179 : decode cX12_init 179 = .ok (.bipush 8, 2) := by decide +kernel
theorem dX12_init_181 : decode cX12_init 181 = .ok (.newarray .boolean, 2) := by decide +kernel
theorem dX12_init_183 : decode cX12_init 183 = .ok (.putfield 74, 3) := by decide +kernel
theorem dX12_init_186 : decode cX12_init 186 = .ok (.aload_n 0, 1) := by decide +kernel
theorem dX12_init_187 : decode cX12_init 187 = .ok (.bipush 12, 2) := by decide +kernel
theorem dX12_init_189 : decode cX12_init 189 = .ok (.newarray .int, 2) := by decide +kernel
theorem dX12_init_191 : decode cX12_init 191 = .ok (.putfield 78, 3) := by decide +kernel
theorem dX12_init_194 : decode cX12_init 194 = .ok (.aload_n 0, 1) := by decide +kernel
theorem dX12_init_195 : decode cX12_init 195 = .ok (.bipush 16, 2) := by decide +kernel
theorem dX12_init_197 : decode cX12_init 197 = .ok (.newarray .int, 2) := by decide +kernel
theorem dX12_init_199 : decode cX12_init 199 = .ok (.putfield 81, 3) := by decide +kernel
theorem dX12_init_202 : decode cX12_init 202 = .ok (.aload_n 0, 1) := by decide +kernel
theorem dX12_init_203 : decode cX12_init 203 = .ok (.bipush 16, 2) := by decide +kernel
theorem dX12_init_205 : decode cX12_init 205 = .ok (.newarray .int, 2) := by decide +kernel
theorem dX12_init_207 : decode cX12_init 207 = .ok (.putfield 84, 3) := by decide +kernel
theorem dX12_init_210 : decode cX12_init 210 = .ok (.aload_n 0, 1) := by decide +kernel
theorem dX12_init_211 : decode cX12_init 211 = .ok (.bipush 16, 2) := by decide +kernel
theorem dX12_init_213 : decode cX12_init 213 = .ok (.newarray .int, 2) := by decide +kernel
theorem dX12_init_215 : decode cX12_init 215 = .ok (.putfield 87, 3) := by decide +kernel
theorem dX12_init_218 : decode cX12_init 218 = .ok (.aload_n 0, 1) := by decide +kernel
theorem dX12_init_219 : decode cX12_init 219 = .ok (.bipush 16, 2) := by decide +kernel
theorem dX12_init_221 : decode cX12_init 221 = .ok (.newarray .int, 2) := by decide +kernel
theorem dX12_init_223 : decode cX12_init 223 = .ok (.putfield 90, 3) := by decide +kernel
theorem dX12_init_226 : decode cX12_init 226 = .ok (.aload_n 0, 1) := by decide +kernel
theorem dX12_init_227 : decode cX12_init 227 = .ok (.bipush 16, 2) := by decide +kernel
theorem dX12_init_229 : decode cX12_init 229 = .ok (.newarray .int, 2) := by decide +kernel
theorem dX12_init_231 : decode cX12_init 231 = .ok (.putfield 93, 3) := by decide +kernel
theorem dX12_init_234 : decode cX12_init 234 = .ok (.aload_n 0, 1) := by decide +kernel
theorem dX12_init_235 : decode cX12_init 235 = .ok (.bipush 16, 2) := by decide +kernel
