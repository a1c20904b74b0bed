theorem dD_keepUnknown_19 : decode cD_keepUnknown 19 = .ok (.iload_n 1, 1) := by decide +kernel
theorem dD_keepUnknown_20 : decode cD_keepUnknown 20 = .ok (.isub, 1) := by decide +kernel
theorem dD_keepUnknown_21 : decode cD_keepUnknown 21 = .ok (.bipush 8, 2) := by decide +kernel
theorem dD_keepUnknown_23 : decode cD_keepUnknown 23 = .ok (.isub, 1) := by decide +kernel
theorem dD_keepUnknown_24 : decode cD_keepUnknown 24 = .ok (.iastore, 1) := by decide +kernel
theorem dD_keepUnknown_25 : decode cD_keepUnknown 25 = .ok (.aload_n 0, 1) := by decide +kernel
theorem dD_keepUnknown_26 : decode cD_keepUnknown 26 = .ok (.dup, 1) := by decide +kernel
theorem dD_keepUnknown_27 : decode cD_keepUnknown 27 = .ok (.getfield 269, 3) := by decide +kernel
theorem dD_keepUnknown_30 : decode cD_keepUnknown 30 = .ok (.iconst 1, 1) := by decide +kernel
theorem dD_keepUnknown_31 : decode cD_keepUnknown 31 = .ok (.iadd, 1) := by decide +kernel
theorem dD_keepUnknown_32 : decode cD_keepUnknown 32 = .ok (.putfield 269, 3) := by decide +kernel
theorem dD_keepUnknown_35 : decode cD_keepUnknown 35 = .ok (.return_, 1) := by decide +kernel
theorem dD_readInside_0 : decode cD_readInside 0 = .ok (.iload_n 1, 1) := by decide +kernel
theorem dD_readInside_1 : decode cD_readInside 1 = .ok (.istore_n 3, 1) := by decide +kernel
theorem dD_readInside_2 : decode cD_readInside 2 = .ok (.iconst 1, 1) := by decide +kernel
theorem dD_readInside_3 : decode cD_readInside 3 = .ok (.istore 4, 2) := by decide +kernel
theorem dD_readInside_5 : decode cD_readInside 5 = .ok (.iload 4, 2) := by decide +kernel
theorem dD_readInside_7 : decode cD_readInside 7 = .ok (.ifCond .ne 8, 3) := by decide +kernel
theorem dD_readInside_10 : decode cD_readInside 10 = .ok (.iload_n 3, 1) := by decide +kernel
theorem dD_readInside_11 : decode cD_readInside 11 = .ok (.iload_n 2, 1) := by decide +kernel
theorem dD_readInside_12 : decode cD_readInside 12 = .ok (.if_icmp .ge 137, 3) := by decide +kernel
theorem dD_readInside_15 : decode cD_readInside 15 = .ok (.aload_n 0, 1) := by decide +kernel
theorem dD_readInside_16 : decode cD_readInside 16 = .ok (.iload_n 3, 1) := by decide +kernel
theorem dD_readInside_17 : decode cD_readInside 17 = .ok (.iload_n 2, 1) := by decide +kernel
theorem dD_readInside_18 : decode cD_readInside 18 = .ok (.iconst 1, 1) := by decide +kernel
theorem dD_readInside_19 : decode cD_readInside 19 = .ok (.invokevirtual 272, 3) := by decide +kernel
theorem dD_readInside_22 : decode cD_readInside 22 = .ok (.istore 5, 2) := by decide +kernel
theorem dD_readInside_24 : decode cD_readInside 24 = .ok (.iload 5, 2) := by decide +kernel
theorem dD_readInside_26 : decode cD_readInside 26 = .ok (.iconst (-1), 1) := by decide +kernel
theorem dD_readInside_27 : decode cD_readInside 27 = .ok (.if_icmp .eq 31, 3) := by decide +kernel
theorem dD_readInside_30 : decode cD_readInside 30 = .ok (.iload 4, 2) := by decide +kernel
theorem dD_readInside_32 : decode cD_readInside 32 = .ok (.ifCond .eq 32, 3) := by decide +kernel
theorem dD_readInside_35 : decode cD_readInside 35 = .ok (.aload_n 0, 1) := by decide +kernel
theorem dD_readInside_36 : decode cD_readInside 36 = .ok (.iload_n 3, 1) := by decide +kernel
theorem dD_readInside_37 : decode cD_readInside 37 = .ok (.iconst 4, 1) := by decide +kernel
theorem dD_readInside_38 : decode cD_readInside 38 = .ok (.iadd, 1) := by decide +kernel
theorem dD_readInside_39 : decode cD_readInside 39 = .ok (.invokevirtual 261, 3) := by decide +kernel
theorem dD_readInside_42 : decode cD_readInside 42 = .ok (.ldc2_w 276, 3) := by decide +kernel
theorem dD_readInside_45 : decode cD_readInside 45 = .ok (.lcmp, 1) := by decide +kernel
theorem dD_readInside_46 : decode cD_readInside 46 = .ok (.ifCond .ne 12, 3) := by decide +kernel
theorem dD_readInside_49 : decode cD_readInside 49 = .ok (.iload 5, 2) := by decide +kernel
theorem dD_readInside_51 : decode cD_readInside 51 = .ok (.iload_n 3, 1) := by decide +kernel
theorem dD_readInside_52 : decode cD_readInside 52 = .ok (.isub, 1) := by decide +kernel
theorem dD_readInside_53 : decode cD_readInside 53 = .ok (.bipush 22, 2) := by decide +kernel
theorem dD_readInside_55 : decode cD_readInside 55 = .ok (.if_icmp .eq 9, 3) := by decide +kernel
theorem dD_readInside_58 : decode cD_readInside 58 = .ok (.aload_n 0, 1) := by decide +kernel
theorem dD_readInside_59 : decode cD_readInside 59 = .ok (.iload_n 3, 1) := by decide +kernel
theorem dD_readInside_60 : decode cD_readInside 60 = .ok (.invokevirtual 278, 3) := by decide +kernel
theorem dD_readInside_63 : decode cD_readInside 63 = .ok (.ireturn, 1) := by decide +kernel
theorem dD_readInside_64 : decode cD_readInside 64 = .ok (.aload_n 0, 1) := by decide +kernel
theorem dD_readInside_65 : decode cD_readInside 65 = .ok (.iload_n 3, 1) := by decide +kernel
theorem dD_readInside_66 : decode cD_readInside 66 = .ok (.iconst 4, 1) := by decide +kernel
theorem dD_readInside_67 : decode cD_readInside 67 = .ok (.iadd, 1) := by decide +kernel
theorem dD_readInside_68 : decode cD_readInside 68 = .ok (.invokevirtual 261, 3) := by decide +kernel
theorem dD_readInside_71 : decode cD_readInside 71 = .ok (.ldc2_w 281, 3) := by decide +kernel
theorem dD_readInside_74 : decode cD_readInside 74 = .ok (.lcmp, 1) := by decide +kernel
theorem dD_readInside_75 : decode cD_readInside 75 = .ok (.ifCond .ne 29, 3) := by decide +kernel
theorem dD_readInside_78 : decode cD_readInside 78 = .ok (.iload 5, 2) := by decide +kernel
theorem dD_readInside_80 : decode cD_readInside 80 = .ok (.iload_n 3, 1) := by decide +kernel
theorem dD_readInside_81 : decode cD_readInside 81 = .ok (.isub, 1) := by decide +kernel
theorem dD_readInside_82 : decode cD_readInside 82 = .ok (.bipush 15, 2) := by decide +kernel
theorem dD_readInside_84 : decode cD_readInside 84 = .ok (.if_icmp .lt 20, 3) := by decide +kernel
theorem dD_readInside_87 : decode cD_readInside 87 = .ok (.aload_n 0, 1) := by decide +kernel
theorem dD_readInside_88 : decode cD_readInside 88 = .ok (.getfield 60, 3) := by decide +kernel
theorem dD_readInside_91 : decode cD_readInside 91 = .ok (.iload_n 3, 1) := by decide +kernel
theorem dD_readInside_92 : decode cD_readInside 92 = .ok (.bipush 8, 2) := by decide +kernel
theorem dD_readInside_94 : decode cD_readInside 94 = .ok (.iadd, 1) := by decide +kernel
theorem dD_readInside_95 : decode cD_readInside 95 = .ok (.iaload, 1) := by decide +kernel
theorem dD_readInside_96 : decode cD_readInside 96 = .ok (.iconst 1, 1) := by decide +kernel
theorem dD_readInside_97 : decode cD_readInside 97 = .ok (.if_icmp .ne 7, 3) := by decide +kernel
theorem dD_readInside_100 : decode cD_readInside 100 = .ok (.iconst 1, 1) := by decide +kernel
theorem dD_readInside_101 : decode cD_readInside 101 = .ok (.goto 4, 3) := by decide +kernel
theorem dD_readInside_104 : decode cD_readInside 104 = .ok (.iconst 0, 1) := by decide +kernel
theorem dD_readInside_105 : decode cD_readInside 105 = .ok (.istore 6, 2) := by decide +kernel
theorem dD_readInside_107 : decode cD_readInside 107 = .ok (.iload 6, 2) := by decide +kernel
theorem dD_readInside_109 : decode cD_readInside 109 = .ok (.ifCond .eq 19, 3) := by decide +kernel
theorem dD_readInside_112 : decode cD_readInside 112 = .ok (.aload_n 0, 1) := by decide +kernel
theorem dD_readInside_113 : decode cD_readInside 113 = .ok (.aload_n 0, 1) := by decide +kernel
theorem dD_readInside_114 : decode cD_readInside 114 = .ok (.iload_n 3, 1) := by decide +kernel
theorem dD_readInside_115 : decode cD_readInside 115 = .ok (.bipush 11, 2) := by decide +kernel
theorem dD_readInside_117 : decode cD_readInside 117 = .ok (.iadd, 1) := by decide +kernel
theorem dD_readInside_118 : decode cD_readInside 118 = .ok (.invokevirtual 261, 3) := by decide +kernel
theorem dD_readInside_121 : decode cD_readInside 121 = .ok (.l2i, 1) := by decide +kernel
theorem dD_readInside_122 : decode cD_readInside 122 = .ok (.putfield 283, 3) := by decide +kernel
theorem dD_readInside_125 : decode cD_readInside 125 = .ok (.goto 15, 3) := by decide +kernel
theorem dD_readInside_128 : decode cD_readInside 128 = .ok (.iload 4, 2) := by decide +kernel
theorem dD_readInside_130 : decode cD_readInside 130 = .ok (.ifCond .ne 10, 3) := by decide +kernel
theorem dD_readInside_133 : decode cD_readInside 133 = .ok (.aload_n 0, 1) := by decide +kernel
theorem dD_readInside_134 : decode cD_readInside 134 = .ok (.iload_n 3, 1) := by decide +kernel
theorem dD_readInside_135 : decode cD_readInside 135 = .ok (.iload 5, 2) := by decide +kernel
theorem dD_readInside_137 : decode cD_readInside 137 = .ok (.invokevirtual 286, 3) := by decide +kernel
theorem dD_readInside_140 : decode cD_readInside 140 = .ok (.iconst 0, 1) := by decide +kernel
theorem dD_readInside_141 : decode cD_readInside 141 = .ok (.istore 4, 2) := by decide +kernel
theorem dD_readInside_143 : decode cD_readInside 143 = .ok (.iload 5, 2) := by decide +kernel
theorem dD_readInside_145 : decode cD_readInside 145 = .ok (.istore_n 3, 1) := by decide +kernel
theorem dD_readInside_146 : decode cD_readInside 146 = .ok (.goto (-141), 3) := by decide +kernel
theorem dD_readInside_149 : decode cD_readInside 149 = .ok (.iconst 1, 1) := by decide +kernel
theorem dD_readInside_150 : decode cD_readInside 150 = .ok (.ireturn, 1) := by decide +kernel
theorem dD_isFirstRight_0 : decode cD_isFirstRight 0 = .ok (.aload_n 0, 1) := by decide +kernel
theorem dD_isFirstRight_1 : decode cD_isFirstRight 1 = .ok (.getfield 289, 3) := by decide +kernel
theorem dD_isFirstRight_4 : decode cD_isFirstRight 4 = .ok (.bipush 12, 2) := by decide +kernel
theorem dD_isFirstRight_6 : decode cD_isFirstRight 6 = .ok (.if_icmp .lt 44, 3) := by decide +kernel
theorem dD_isFirstRight_9 : decode cD_isFirstRight 9 = .ok (.aload_n 0, 1) := by decide +kernel
theorem dD_isFirstRight_10 : decode cD_isFirstRight 10 = .ok (.iconst 0, 1) := by decide +kernel
theorem dD_isFirstRight_11 : decode cD_isFirstRight 11 = .ok (.invokevirtual 261, 3) := by decide +kernel
theorem dD_isFirstRight_14 : decode cD_isFirstRight 14 = .ok (.ldc2_w 292, 3) := by decide +kernel
theorem dD_isFirstRight_17 : decode cD_isFirstRight 17 = .ok (.lcmp, 1) := by decide +kernel
theorem dD_isFirstRight_18 : decode cD_isFirstRight 18 = .ok (.ifCond .ne 32, 3) := by decide +kernel
theorem dD_isFirstRight_21 : decode cD_isFirstRight 21 = .ok (.aload_n 0, 1) := by decide +kernel
theorem dD_isFirstRight_22 : decode cD_isFirstRight 22 = .ok (.iconst 4, 1) := by decide +kernel
theorem dD_isFirstRight_23 : decode cD_isFirstRight 23 = .ok (.invokevirtual 261, 3) := by decide +kernel
theorem dD_isFirstRight_26 : decode cD_isFirstRight 26 = .ok (.ldc2_w 294, 3) := by decide +kernel
theorem dD_isFirstRight_29 : decode cD_isFirstRight 29 = .ok (.lcmp, 1) := by decide +kernel
theorem dD_isFirstRight_30 : decode cD_isFirstRight 30 = .ok (.ifCond .ne 20, 3) := by decide +kernel
theorem dD_isFirstRight_33 : decode cD_isFirstRight 33 = .ok (.aload_n 0, 1) := by decide +kernel
theorem dD_isFirstRight_34 : decode cD_isFirstRight 34 = .ok (.bipush 8, 2) := by decide +kernel
theorem dD_isFirstRight_36 : decode cD_isFirstRight 36 = .ok (.invokevirtual 261, 3) := by decide +kernel
theorem dD_isFirstRight_39 : decode cD_isFirstRight 39 = .ok (.ldc2_w 296, 3) := by decide +kernel
theorem dD_isFirstRight_42 : decode cD_isFirstRight 42 = .ok (.lcmp, 1) := by decide +kernel
theorem dD_isFirstRight_43 : decode cD_isFirstRight 43 = .ok (.ifCond .ne 7, 3) := by decide +kernel
theorem dD_isFirstRight_46 : decode cD_isFirstRight 46 = .ok (.iconst 1, 1) := by decide +kernel
theorem dD_isFirstRight_47 : decode cD_isFirstRight 47 = .ok (.goto 4, 3) := by decide +kernel
theorem dD_isFirstRight_50 : decode cD_isFirstRight 50 = .ok (.iconst 0, 1) := by decide +kernel
theorem dD_isFirstRight_51 : decode cD_isFirstRight 51 = .ok (.ireturn, 1) := by decide +kernel
theorem dD_readBoxes_0 : decode cD_readBoxes 0 = .ok (.aload_n 0, 1) := by decide +kernel
theorem dD_readBoxes_1 : decode cD_readBoxes 1 = .ok (.invokevirtual 298, 3) := by decide +kernel
theorem dD_readBoxes_4 : decode cD_readBoxes 4 = .ok (.ifCond .ne 9, 3) := by decide +kernel
theorem dD_readBoxes_7 : decode cD_readBoxes 7 = .ok (.aload_n 0, 1) := by decide +kernel
theorem dD_readBoxes_8 : decode cD_readBoxes 8 = .ok (.iconst 0, 1) := by decide +kernel
theorem dD_readBoxes_9 : decode cD_readBoxes 9 = .ok (.invokevirtual 278, 3) := by decide +kernel
theorem dD_readBoxes_12 : decode cD_readBoxes 12 = .ok (.ireturn, 1) := by decide +kernel
theorem dD_readBoxes_13 : decode cD_readBoxes 13 = .ok (.bipush 12, 2) := by decide +kernel
theorem dD_readBoxes_15 : decode cD_readBoxes 15 = .ok (.istore_n 1, 1) := by decide +kernel
theorem dD_readBoxes_16 : decode cD_readBoxes 16 = .ok (.iload_n 1, 1) := by decide +kernel
theorem dD_readBoxes_17 : decode cD_readBoxes 17 = .ok (.aload_n 0, 1) := by decide +kernel
theorem dD_readBoxes_18 : decode cD_readBoxes 18 = .ok (.getfield 289, 3) := by decide +kernel
theorem dD_readBoxes_21 : decode cD_readBoxes 21 = .ok (.if_icmp .ge 97, 3) := by decide +kernel
theorem dD_readBoxes_24 : decode cD_readBoxes 24 = .ok (.aload_n 0, 1) := by decide +kernel
theorem dD_readBoxes_25 : decode cD_readBoxes 25 = .ok (.iload_n 1, 1) := by decide +kernel
theorem dD_readBoxes_26 : decode cD_readBoxes 26 = .ok (.aload_n 0, 1) := by decide +kernel
theorem dD_readBoxes_27 : decode cD_readBoxes 27 = .ok (.getfield 289, 3) := by decide +kernel
theorem dD_readBoxes_30 : decode cD_readBoxes 30 = .ok (.iconst 0, 1) := by decide +kernel
theorem dD_readBoxes_31 : decode cD_readBoxes 31 = .ok (.invokevirtual 272, 3) := by decide +kernel
theorem dD_readBoxes_34 : decode cD_readBoxes 34 = .ok (.istore_n 2, 1) := by decide +kernel
theorem dD_readBoxes_35 : decode cD_readBoxes 35 = .ok (.iload_n 2, 1) := by decide +kernel
theorem dD_readBoxes_36 : decode cD_readBoxes 36 = .ok (.iconst (-1), 1) := by decide +kernel
theorem dD_readBoxes_37 : decode cD_readBoxes 37 = .ok (.if_icmp .ne 9, 3) := by decide +kernel
theorem dD_readBoxes_40 : decode cD_readBoxes 40 = .ok (.aload_n 0, 1) := by decide +kernel
theorem dD_readBoxes_41 : decode cD_readBoxes 41 = .ok (.iload_n 1, 1) := by decide +kernel
theorem dD_readBoxes_42 : decode cD_readBoxes 42 = .ok (.invokevirtual 278, 3) := by decide +kernel
theorem dD_readBoxes_45 : decode cD_readBoxes 45 = .ok (.ireturn, 1) := by decide +kernel
theorem dD_readBoxes_46 : decode cD_readBoxes 46 = .ok (.aload_n 0, 1) := by decide +kernel
theorem dD_readBoxes_47 : decode cD_readBoxes 47 = .ok (.iload_n 1, 1) := by decide +kernel
theorem dD_readBoxes_48 : decode cD_readBoxes 48 = .ok (.iconst 4, 1) := by decide +kernel
theorem dD_readBoxes_49 : decode cD_readBoxes 49 = .ok (.iadd, 1) := by decide +kernel
theorem dD_readBoxes_50 : decode cD_readBoxes 50 = .ok (.invokevirtual 261, 3) := by decide +kernel
theorem dD_readBoxes_53 : decode cD_readBoxes 53 = .ok (.lstore_n 3, 1) := by decide +kernel
theorem dD_readBoxes_54 : decode cD_readBoxes 54 = .ok (.lload_n 3, 1) := by decide +kernel
theorem dD_readBoxes_55 : decode cD_readBoxes 55 = .ok (.ldc2_w 265, 3) := by decide +kernel
theorem dD_readBoxes_58 : decode cD_readBoxes 58 = .ok (.lcmp, 1) := by decide +kernel
theorem dD_readBoxes_59 : decode cD_readBoxes 59 = .ok (.ifCond .ne 18, 3) := by decide +kernel
theorem dD_readBoxes_62 : decode cD_readBoxes 62 = .ok (.aload_n 0, 1) := by decide +kernel
theorem dD_readBoxes_63 : decode cD_readBoxes 63 = .ok (.iload_n 1, 1) := by decide +kernel
theorem dD_readBoxes_64 : decode cD_readBoxes 64 = .ok (.bipush 8, 2) := by decide +kernel
theorem dD_readBoxes_66 : decode cD_readBoxes 66 = .ok (.iadd, 1) := by decide +kernel
theorem dD_readBoxes_67 : decode cD_readBoxes 67 = .ok (.putfield 301, 3) := by decide +kernel
theorem dD_readBoxes_70 : decode cD_readBoxes 70 = .ok (.aload_n 0, 1) := by decide +kernel
theorem dD_readBoxes_71 : decode cD_readBoxes 71 = .ok (.iload_n 2, 1) := by decide +kernel
theorem dD_readBoxes_72 : decode cD_readBoxes 72 = .ok (.putfield 304, 3) := by decide +kernel
theorem dD_readBoxes_75 : decode cD_readBoxes 75 = .ok (.iconst 1, 1) := by decide +kernel
theorem dD_readBoxes_76 : decode cD_readBoxes 76 = .ok (.ireturn, 1) := by decide +kernel
theorem dD_readBoxes_77 : decode cD_readBoxes 77 = .ok (.lload_n 3, 1) := by decide +kernel
theorem dD_readBoxes_78 : decode cD_readBoxes 78 = .ok (.ldc2_w 307, 3) := by decide +kernel
theorem dD_readBoxes_81 : decode cD_readBoxes 81 = .ok (.lcmp, 1) := by decide +kernel
theorem dD_readBoxes_82 : decode cD_readBoxes 82 = .ok (.ifCond .ne 17, 3) := by decide +kernel
theorem dD_readBoxes_85 : decode cD_readBoxes 85 = .ok (.aload_n 0, 1) := by decide +kernel
theorem dD_readBoxes_86 : decode cD_readBoxes 86 = .ok (.iload_n 1, 1) := by decide +kernel
theorem dD_readBoxes_87 : decode cD_readBoxes 87 = .ok (.bipush 8, 2) := by decide +kernel
theorem dD_readBoxes_89 : decode cD_readBoxes 89 = .ok (.iadd, 1) := by decide +kernel
theorem dD_readBoxes_90 : decode cD_readBoxes 90 = .ok (.iload_n 2, 1) := by decide +kernel
theorem dD_readBoxes_91 : decode cD_readBoxes 91 = .ok (.invokevirtual 309, 3) := by decide +kernel
theorem dD_readBoxes_94 : decode cD_readBoxes 94 = .ok (.ifCond .ne 19, 3) := by decide +kernel
theorem dD_readBoxes_97 : decode cD_readBoxes 97 = .ok (.iconst 0, 1) := by decide +kernel
theorem dD_readBoxes_98 : decode cD_readBoxes 98 = .ok (.ireturn, 1) := by decide +kernel
theorem dD_readBoxes_99 : decode cD_readBoxes 99 = .ok (.lload_n 3, 1) := by decide +kernel
theorem dD_readBoxes_100 : decode cD_readBoxes 100 = .ok (.ldc2_w 312, 3) := by decide +kernel
theorem dD_readBoxes_103 : decode cD_readBoxes 103 = .ok (.lcmp, 1) := by decide +kernel
theorem dD_readBoxes_104 : decode cD_readBoxes 104 = .ok (.ifCond .eq 9, 3) := by decide +kernel
theorem dD_readBoxes_107 : decode cD_readBoxes 107 = .ok (.aload_n 0, 1) := by decide +kernel
theorem dD_readBoxes_108 : decode cD_readBoxes 108 = .ok (.iload_n 1, 1) := by decide +kernel
theorem dD_readBoxes_109 : decode cD_readBoxes 109 = .ok (.iload_n 2, 1) := by decide +kernel
theorem dD_readBoxes_110 : decode cD_readBoxes 110 = .ok (.invokevirtual 286, 3) := by decide +kernel
theorem dD_readBoxes_113 : decode cD_readBoxes 113 = .ok (.iload_n 2, 1) := by decide +kernel
theorem dD_readBoxes_114 : decode cD_readBoxes 114 = .ok (.istore_n 1, 1) := by decide +kernel
theorem dD_readBoxes_115 : decode cD_readBoxes 115 = .ok (.goto (-99), 3) := by decide +kernel
theorem dD_readBoxes_118 : decode cD_readBoxes 118 = .ok (.aload_n 0, 1) := by decide +kernel
theorem dD_readBoxes_119 : decode cD_readBoxes 119 = .ok (.aload_n 0, 1) := by decide +kernel
theorem dD_readBoxes_120 : decode cD_readBoxes 120 = .ok (.getfield 289, 3) := by decide +kernel
theorem dD_readBoxes_123 : decode cD_readBoxes 123 = .ok (.invokevirtual 278, 3) := by decide +kernel
theorem dD_readBoxes_126 : decode cD_readBoxes 126 = .ok (.ireturn, 1) := by decide +kernel
theorem dD_readSizes_0 : decode cD_readSizes 0 = .ok (.aload_n 0, 1) := by decide +kernel
theorem dD_readSizes_1 : decode cD_readSizes 1 = .ok (.getfield 304, 3) := by decide +kernel
theorem dD_readSizes_4 : decode cD_readSizes 4 = .ok (.aload_n 0, 1) := by decide +kernel
theorem dD_readSizes_5 : decode cD_readSizes 5 = .ok (.getfield 301, 3) := by decide +kernel
theorem dD_readSizes_8 : decode cD_readSizes 8 = .ok (.isub, 1) := by decide +kernel
theorem dD_readSizes_9 : decode cD_readSizes 9 = .ok (.iconst 4, 1) := by decide +kernel
theorem dD_readSizes_10 : decode cD_readSizes 10 = .ok (.if_icmp .lt 34, 3) := by decide +kernel
theorem dD_readSizes_13 : decode cD_readSizes 13 = .ok (.aload_n 0, 1) := by decide +kernel
theorem dD_readSizes_14 : decode cD_readSizes 14 = .ok (.getfield 60, 3) := by decide +kernel
theorem dD_readSizes_17 : decode cD_readSizes 17 = .ok (.aload_n 0, 1) := by decide +kernel
theorem dD_readSizes_18 : decode cD_readSizes 18 = .ok (.getfield 301, 3) := by decide +kernel
theorem dD_readSizes_21 : decode cD_readSizes 21 = .ok (.iaload, 1) := by decide +kernel
theorem dD_readSizes_22 : decode cD_readSizes 22 = .ok (.sipush 255, 3) := by decide +kernel
theorem dD_readSizes_25 : decode cD_readSizes 25 = .ok (.if_icmp .ne 19, 3) := by decide +kernel
theorem dD_readSizes_28 : decode cD_readSizes 28 = .ok (.aload_n 0, 1) := by decide +kernel
theorem dD_readSizes_29 : decode cD_readSizes 29 = .ok (.getfield 60, 3) := by decide +kernel
theorem dD_readSizes_32 : decode cD_readSizes 32 = .ok (.aload_n 0, 1) := by decide +kernel
theorem dD_readSizes_33 : decode cD_readSizes 33 = .ok (.getfield 301, 3) := by decide +kernel
theorem dD_readSizes_36 : decode cD_readSizes 36 = .ok (.iconst 1, 1) := by decide +kernel
theorem dD_readSizes_37 : decode cD_readSizes 37 = .ok (.iadd, 1) := by decide +kernel
theorem dD_readSizes_38 : decode cD_readSizes 38 = .ok (.iaload, 1) := by decide +kernel
theorem dD_readSizes_39 : decode cD_readSizes 39 = .ok (.bipush 81, 2) := by decide +kernel
theorem dD_readSizes_41 : decode cD_readSizes 41 = .ok (.if_icmp .eq 12, 3) := by decide +kernel
theorem dD_readSizes_44 : decode cD_readSizes 44 = .ok (.aload_n 0, 1) := by decide +kernel
theorem dD_readSizes_45 : decode cD_readSizes 45 = .ok (.aload_n 0, 1) := by decide +kernel
theorem dD_readSizes_46 : decode cD_readSizes 46 = .ok (.getfield 301, 3) := by decide +kernel
theorem dD_readSizes_49 : decode cD_readSizes 49 = .ok (.invokevirtual 278, 3) := by decide +kernel
theorem dD_readSizes_52 : decode cD_readSizes 52 = .ok (.ireturn, 1) := by decide +kernel
theorem dD_readSizes_53 : decode cD_readSizes 53 = .ok (.aload_n 0, 1) := by decide +kernel
theorem dD_readSizes_54 : decode cD_readSizes 54 = .ok (.aload_n 0, 1) := by decide +kernel
theorem dD_readSizes_55 : decode cD_readSizes 55 = .ok (.getfield 301, 3) := by decide +kernel
theorem dD_readSizes_58 : decode cD_readSizes 58 = .ok (.iconst 2, 1) := by decide +kernel
theorem dD_readSizes_59 : decode cD_readSizes 59 = .ok (.iadd, 1) := by decide +kernel
theorem dD_readSizes_60 : decode cD_readSizes 60 = .ok (.invokevirtual 314, 3) := by decide +kernel
theorem dD_readSizes_63 : decode cD_readSizes 63 = .ok (.istore_n 1, 1) := by decide +kernel
theorem dD_readSizes_64 : decode cD_readSizes 64 = .ok (.iload_n 1, 1) := by decide +kernel
theorem dD_readSizes_65 : decode cD_readSizes 65 = .ok (.bipush 41, 2) := by decide +kernel
theorem dD_readSizes_67 : decode cD_readSizes 67 = .ok (.if_icmp .lt 18, 3) := by decide +kernel
theorem dD_readSizes_70 : decode cD_readSizes 70 = .ok (.aload_n 0, 1) := by decide +kernel
theorem dD_readSizes_71 : decode cD_readSizes 71 = .ok (.getfield 301, 3) := by decide +kernel
theorem dD_readSizes_74 : decode cD_readSizes 74 = .ok (.iconst 2, 1) := by decide +kernel
theorem dD_readSizes_75 : decode cD_readSizes 75 = .ok (.iadd, 1) := by decide +kernel
theorem dD_readSizes_76 : decode cD_readSizes 76 = .ok (.iload_n 1, 1) := by decide +kernel
theorem dD_readSizes_77 : decode cD_readSizes 77 = .ok (.iadd, 1) := by decide +kernel
theorem dD_readSizes_78 : decode cD_readSizes 78 = .ok (.aload_n 0, 1) := by decide +kernel
theorem dD_readSizes_79 : decode cD_readSizes 79 = .ok (.getfield 304, 3) := by decide +kernel
theorem dD_readSizes_82 : decode cD_readSizes 82 = .ok (.if_icmp .le 12, 3) := by decide +kernel
theorem dD_readSizes_85 : decode cD_readSizes 85 = .ok (.aload_n 0, 1) := by decide +kernel
theorem dD_readSizes_86 : decode cD_readSizes 86 = .ok (.aload_n 0, 1) := by decide +kernel
theorem dD_readSizes_87 : decode cD_readSizes 87 = .ok (.getfield 301, 3) := by decide +kernel
theorem dD_readSizes_90 : decode cD_readSizes 90 = .ok (.invokevirtual 278, 3) := by decide +kernel
theorem dD_readSizes_93 : decode cD_readSizes 93 = .ok (.ireturn, 1) := by decide +kernel
theorem dD_readSizes_94 : decode cD_readSizes 94 = .ok (.aload_n 0, 1) := by decide +kernel
theorem dD_readSizes_95 : decode cD_readSizes 95 = .ok (.getfield 301, 3) := by decide +kernel
theorem dD_readSizes_98 : decode cD_readSizes 98 = .ok (.iconst 4, 1) := by decide +kernel
theorem dD_readSizes_99 : decode cD_readSizes 99 = .ok (.iadd, 1) := by decide +kernel
theorem dD_readSizes_100 : decode cD_readSizes 100 = .ok (.istore_n 2, 1) := by decide +kernel
theorem dD_readSizes_101 : decode cD_readSizes 101 = .ok (.aload_n 0, 1) := by decide +kernel
theorem dD_readSizes_102 : decode cD_readSizes 102 = .ok (.iload_n 2, 1) := by decide +kernel
theorem dD_readSizes_103 : decode cD_readSizes 103 = .ok (.bipush 34, 2) := by decide +kernel
theorem dD_readSizes_105 : decode cD_readSizes 105 = .ok (.iadd, 1) := by decide +kernel
theorem dD_readSizes_106 : decode cD_readSizes 106 = .ok (.invokevirtual 314, 3) := by decide +kernel
theorem dD_readSizes_109 : decode cD_readSizes 109 = .ok (.istore_n 3, 1) := by decide +kernel
theorem dD_readSizes_110 : decode cD_readSizes 110 = .ok (.iload_n 1, 1) := by decide +kernel
theorem dD_readSizes_111 : decode cD_readSizes 111 = .ok (.bipush 38, 2) := by decide +kernel
theorem dD_readSizes_113 : decode cD_readSizes 113 = .ok (.iconst 3, 1) := by decide +kernel
theorem dD_readSizes_114 : decode cD_readSizes 114 = .ok (.iload_n 3, 1) := by decide +kernel
theorem dD_readSizes_115 : decode cD_readSizes 115 = .ok (.imul, 1) := by decide +kernel
theorem dD_readSizes_116 : decode cD_readSizes 116 = .ok (.iadd, 1) := by decide +kernel
theorem dD_readSizes_117 : decode cD_readSizes 117 = .ok (.if_icmp .ne 27, 3) := by decide +kernel
theorem dD_readSizes_120 : decode cD_readSizes 120 = .ok (.iload_n 3, 1) := by decide +kernel
theorem dD_readSizes_121 : decode cD_readSizes 121 = .ok (.i2l, 1) := by decide +kernel
theorem dD_readSizes_122 : decode cD_readSizes 122 = .ok (.lconst 1, 1) := by decide +kernel
theorem dD_readSizes_123 : decode cD_readSizes 123 = .ok (.ldc2_w 150, 3) := by decide +kernel
theorem dD_readSizes_126 : decode cD_readSizes 126 = .ok (.invokestatic 135, 3) := by decide +kernel
theorem dD_readSizes_129 : decode cD_readSizes 129 = .ok (.ifCond .eq 15, 3) := by decide +kernel
theorem dD_readSizes_132 : decode cD_readSizes 132 = .ok (.aload_n 0, 1) := by decide +kernel
theorem dD_readSizes_133 : decode cD_readSizes 133 = .ok (.iload_n 2, 1) := by decide +kernel
theorem dD_readSizes_134 : decode cD_readSizes 134 = .ok (.invokevirtual 314, 3) := by decide +kernel
theorem dD_readSizes_137 : decode cD_readSizes 137 = .ok (.ifCond .ne 7, 3) := by decide +kernel
theorem dD_readSizes_140 : decode cD_readSizes 140 = .ok (.iconst 1, 1) := by decide +kernel
theorem dD_readSizes_141 : decode cD_readSizes 141 = .ok (.goto 4, 3) := by decide +kernel
theorem dD_readSizes_144 : decode cD_readSizes 144 = .ok (.iconst 0, 1) := by decide +kernel
theorem dD_readSizes_145 : decode cD_readSizes 145 = .ok (.istore 4, 2) := by decide +kernel
theorem dD_readSizes_147 : decode cD_readSizes 147 = .ok (.iload 4, 2) := by decide +kernel
theorem dD_readSizes_149 : decode cD_readSizes 149 = .ok (.ifCond .eq 68, 3) := by decide +kernel
theorem dD_readSizes_152 : decode cD_readSizes 152 = .ok (.aload_n 0, 1) := by decide +kernel
theorem dD_readSizes_153 : decode cD_readSizes 153 = .ok (.iload_n 2, 1) := by decide +kernel
theorem dD_readSizes_154 : decode cD_readSizes 154 = .ok (.iconst 2, 1) := by decide +kernel
theorem dD_readSizes_155 : decode cD_readSizes 155 = .ok (.iadd, 1) := by decide +kernel
theorem dD_readSizes_156 : decode cD_readSizes 156 = .ok (.invokevirtual 261, 3) := by decide +kernel
theorem dD_readSizes_159 : decode cD_readSizes 159 = .ok (.lconst 1, 1) := by decide +kernel
theorem dD_readSizes_160 : decode cD_readSizes 160 = .ok (.ldc2_w 148, 3) := by decide +kernel
theorem dD_readSizes_163 : decode cD_readSizes 163 = .ok (.invokestatic 135, 3) := by decide +kernel
theorem dD_readSizes_166 : decode cD_readSizes 166 = .ok (.ifCond .eq 51, 3) := by decide +kernel
theorem dD_readSizes_169 : decode cD_readSizes 169 = .ok (.aload_n 0, 1) := by decide +kernel
theorem dD_readSizes_170 : decode cD_readSizes 170 = .ok (.iload_n 2, 1) := by decide +kernel
theorem dD_readSizes_171 : decode cD_readSizes 171 = .ok (.bipush 6, 2) := by decide +kernel
theorem dD_readSizes_173 : decode cD_readSizes 173 = .ok (.iadd, 1) := by decide +kernel
theorem dD_readSizes_174 : decode cD_readSizes 174 = .ok (.invokevirtual 261, 3) := by decide +kernel
theorem dD_readSizes_177 : decode cD_readSizes 177 = .ok (.lconst 1, 1) := by decide +kernel
theorem dD_readSizes_178 : decode cD_readSizes 178 = .ok (.ldc2_w 148, 3) := by decide +kernel
theorem dD_readSizes_181 : decode cD_readSizes 181 = .ok (.invokestatic 135, 3) := by decide +kernel
theorem dD_readSizes_184 : decode cD_readSizes 184 = .ok (.ifCond .eq 33, 3) := by decide +kernel
theorem dD_readSizes_187 : decode cD_readSizes 187 = .ok (.aload_n 0, 1) := by decide +kernel
theorem dD_readSizes_188 : decode cD_readSizes 188 = .ok (.iload_n 2, 1) := by decide +kernel
theorem dD_readSizes_189 : decode cD_readSizes 189 = .ok (.bipush 10, 2) := by decide +kernel
theorem dD_readSizes_191 : decode cD_readSizes 191 = .ok (.iadd, 1) := by decide +kernel
theorem dD_readSizes_192 : decode cD_readSizes 192 = .ok (.invokevirtual 261, 3) := by decide +kernel
theorem dD_readSizes_195 : decode cD_readSizes 195 = .ok (.lconst 0, 1) := by decide +kernel
theorem dD_readSizes_196 : decode cD_readSizes 196 = .ok (.lcmp, 1) := by decide +kernel
theorem dD_readSizes_197 : decode cD_readSizes 197 = .ok (.ifCond .ne 20, 3) := by decide +kernel
theorem dD_readSizes_200 : decode cD_readSizes 200 = .ok (.aload_n 0, 1) := by decide +kernel
theorem dD_readSizes_201 : decode cD_readSizes 201 = .ok (.iload_n 2, 1) := by decide +kernel
theorem dD_readSizes_202 : decode cD_readSizes 202 = .ok (.bipush 14, 2) := by decide +kernel
theorem dD_readSizes_204 : decode cD_readSizes 204 = .ok (.iadd, 1) := by decide +kernel
theorem dD_readSizes_205 : decode cD_readSizes 205 = .ok (.invokevirtual 261, 3) := by decide +kernel
theorem dD_readSizes_208 : decode cD_readSizes 208 = .ok (.lconst 0, 1) := by decide +kernel
theorem dD_readSizes_209 : decode cD_readSizes 209 = .ok (.lcmp, 1) := by decide +kernel
theorem dD_readSizes_210 : decode cD_readSizes 210 = .ok (.ifCond .ne 7, 3) := by decide +kernel
theorem dD_readSizes_213 : decode cD_readSizes 213 = .ok (.iconst 1, 1) := by decide +kernel
theorem dD_readSizes_214 : decode cD_readSizes 214 = .ok (.goto 4, 3) := by decide +kernel
theorem dD_readSizes_217 : decode cD_readSizes 217 = .ok (.iconst 0, 1) := by decide +kernel
theorem dD_readSizes_218 : decode cD_readSizes 218 = .ok (.istore 4, 2) := by decide +kernel
theorem dD_readSizes_220 : decode cD_readSizes 220 = .ok (.iload 4, 2) := by decide +kernel
theorem dD_readSizes_222 : decode cD_readSizes 222 = .ok (.ifCond .eq 69, 3) := by decide +kernel
theorem dD_readSizes_225 : decode cD_readSizes 225 = .ok (.aload_n 0, 1) := by decide +kernel
theorem dD_readSizes_226 : decode cD_readSizes 226 = .ok (.iload_n 2, 1) := by decide +kernel
theorem dD_readSizes_227 : decode cD_readSizes 227 = .ok (.bipush 18, 2) := by decide +kernel
theorem dD_readSizes_229 : decode cD_readSizes 229 = .ok (.iadd, 1) := by decide +kernel
theorem dD_readSizes_230 : decode cD_readSizes 230 = .ok (.invokevirtual 261, 3) := by decide +kernel
theorem dD_readSizes_233 : decode cD_readSizes 233 = .ok (.lconst 1, 1) := by decide +kernel
theorem dD_readSizes_234 : decode cD_readSizes 234 = .ok (.ldc2_w 317, 3) := by decide +kernel
theorem dD_readSizes_237 : decode cD_readSizes 237 = .ok (.invokestatic 135, 3) := by decide +kernel
theorem dD_readSizes_240 : decode cD_readSizes 240 = .ok (.ifCond .eq 51, 3) := by decide +kernel
theorem dD_readSizes_243 : decode cD_readSizes 243 = .ok (.aload_n 0, 1) := by decide +kernel
theorem dD_readSizes_244 : decode cD_readSizes 244 = .ok (.iload_n 2, 1) := by decide +kernel
theorem dD_readSizes_245 : decode cD_readSizes 245 = .ok (.bipush 22, 2) := by decide +kernel
theorem dD_readSizes_247 : decode cD_readSizes 247 = .ok (.iadd, 1) := by decide +kernel
theorem dD_readSizes_248 : decode cD_readSizes 248 = .ok (.invokevirtual 261, 3) := by decide +kernel
theorem dD_readSizes_251 : decode cD_readSizes 251 = .ok (.lconst 1, 1) := by decide +kernel
theorem dD_readSizes_252 : decode cD_readSizes 252 = .ok (.ldc2_w 317, 3) := by decide +kernel
theorem dD_readSizes_255 : decode cD_readSizes 255 = .ok (.invokestatic 135, 3) := by decide +kernel
theorem dD_readSizes_258 : decode cD_readSizes 258 = .ok (.ifCond .eq 33, 3) := by decide +kernel
theorem dD_readSizes_261 : decode cD_readSizes 261 = .ok (.aload_n 0, 1) := by decide +kernel
theorem dD_readSizes_262 : decode cD_readSizes 262 = .ok (.iload_n 2, 1) := by decide +kernel
theorem dD_readSizes_263 : decode cD_readSizes 263 = .ok (.bipush 26, 2) := by decide +kernel
theorem dD_readSizes_265 : decode cD_readSizes 265 = .ok (.iadd, 1) := by decide +kernel
theorem dD_readSizes_266 : decode cD_readSizes 266 = .ok (.invokevirtual 261, 3) := by decide +kernel
theorem dD_readSizes_269 : decode cD_readSizes 269 = .ok (.lconst 0, 1) := by decide +kernel
theorem dD_readSizes_270 : decode cD_readSizes 270 = .ok (.lcmp, 1) := by decide +kernel
theorem dD_readSizes_271 : decode cD_readSizes 271 = .ok (.ifCond .ne 20, 3) := by decide +kernel
theorem dD_readSizes_274 : decode cD_readSizes 274 = .ok (.aload_n 0, 1) := by decide +kernel
theorem dD_readSizes_275 : decode cD_readSizes 275 = .ok (.iload_n 2, 1) := by decide +kernel
theorem dD_readSizes_276 : decode cD_readSizes 276 = .ok (.bipush 30, 2) := by decide +kernel
theorem dD_readSizes_278 : decode cD_readSizes 278 = .ok (.iadd, 1) := by decide +kernel
theorem dD_readSizes_279 : decode cD_readSizes 279 = .ok (.invokevirtual 261, 3) := by decide +kernel
theorem dD_readSizes_282 : decode cD_readSizes 282 = .ok (.lconst 0, 1) := by decide +kernel
theorem dD_readSizes_283 : decode cD_readSizes 283 = .ok (.lcmp, 1) := by decide +kernel
theorem dD_readSizes_284 : decode cD_readSizes 284 = .ok (.ifCond .ne 7, 3) := by decide +kernel
theorem dD_readSizes_287 : decode cD_readSizes 287 = .ok (.iconst 1, 1) := by decide +kernel
theorem dD_readSizes_288 : decode cD_readSizes 288 = .ok (.goto 4, 3) := by decide +kernel
theorem dD_readSizes_291 : decode cD_readSizes 291 = .ok (.iconst 0, 1) := by decide +kernel
theorem dD_readSizes_292 : decode cD_readSizes 292 = .ok (.istore 4, 2) := by decide +kernel
theorem dD_readSizes_294 : decode cD_readSizes 294 = .ok (.iload 4, 2) := by decide +kernel
theorem dD_readSizes_296 : decode cD_readSizes 296 = .ok (.ifCond .eq 48, 3) := by decide +kernel
theorem dD_readSizes_299 : decode cD_readSizes 299 = .ok (.aload_n 0, 1) := by decide +kernel
theorem dD_readSizes_300 : decode cD_readSizes 300 = .ok (.iload_n 2, 1) := by decide +kernel
theorem dD_readSizes_301 : decode cD_readSizes 301 = .ok (.iconst 2, 1) := by decide +kernel
theorem dD_readSizes_302 : decode cD_readSizes 302 = .ok (.iadd, 1) := by decide +kernel
theorem dD_readSizes_303 : decode cD_readSizes 303 = .ok (.invokevirtual 261, 3) := by decide +kernel
theorem dD_readSizes_306 : decode cD_readSizes 306 = .ok (.aload_n 0, 1) := by decide +kernel
theorem dD_readSizes_307 : decode cD_readSizes 307 = .ok (.iload_n 2, 1) := by decide +kernel
theorem dD_readSizes_308 : decode cD_readSizes 308 = .ok (.bipush 6, 2) := by decide +kernel
theorem dD_readSizes_310 : decode cD_readSizes 310 = .ok (.iadd, 1) := by decide +kernel
theorem dD_readSizes_311 : decode cD_readSizes 311 = .ok (.invokevirtual 261, 3) := by decide +kernel
theorem dD_readSizes_314 : decode cD_readSizes 314 = .ok (.aload_n 0, 1) := by decide +kernel
theorem dD_readSizes_315 : decode cD_readSizes 315 = .ok (.iload_n 2, 1) := by decide +kernel
theorem dD_readSizes_316 : decode cD_readSizes 316 = .ok (.bipush 18, 2) := by decide +kernel
theorem dD_readSizes_318 : decode cD_readSizes 318 = .ok (.iadd, 1) := by decide +kernel
theorem dD_readSizes_319 : decode cD_readSizes 319 = .ok (.invokevirtual 261, 3) := by decide +kernel
theorem dD_readSizes_322 : decode cD_readSizes 322 = .ok (.aload_n 0, 1) := by decide +kernel
theorem dD_readSizes_323 : decode cD_readSizes 323 = .ok (.iload_n 2, 1) := by decide +kernel
theorem dD_readSizes_324 : decode cD_readSizes 324 = .ok (.bipush 22, 2) := by decide +kernel
theorem dD_readSizes_326 : decode cD_readSizes 326 = .ok (.iadd, 1) := by decide +kernel
theorem dD_readSizes_327 : decode cD_readSizes 327 = .ok (.invokevirtual 261, 3) := by decide +kernel
theorem dD_readSizes_330 : decode cD_readSizes 330 = .ok (.invokestatic 129, 3) := by decide +kernel
theorem dD_readSizes_333 : decode cD_readSizes 333 = .ok (.ldc2_w 166, 3) := by decide +kernel
theorem dD_readSizes_336 : decode cD_readSizes 336 = .ok (.lcmp, 1) := by decide +kernel
theorem dD_readSizes_337 : decode cD_readSizes 337 = .ok (.ifCond .gt 7, 3) := by decide +kernel
theorem dD_readSizes_340 : decode cD_readSizes 340 = .ok (.iconst 1, 1) := by decide +kernel
theorem dD_readSizes_341 : decode cD_readSizes 341 = .ok (.goto 4, 3) := by decide +kernel
theorem dD_readSizes_344 : decode cD_readSizes 344 = .ok (.iconst 0, 1) := by decide +kernel
theorem dD_readSizes_345 : decode cD_readSizes 345 = .ok (.istore 4, 2) := by decide +kernel
theorem dD_readSizes_347 : decode cD_readSizes 347 = .ok (.iconst 0, 1) := by decide +kernel
theorem dD_readSizes_348 : decode cD_readSizes 348 = .ok (.istore 5, 2) := by decide +kernel
theorem dD_readSizes_350 : decode cD_readSizes 350 = .ok (.iload 5, 2) := by decide +kernel
theorem dD_readSizes_352 : decode cD_readSizes 352 = .ok (.iload_n 3, 1) := by decide +kernel
theorem dD_readSizes_353 : decode cD_readSizes 353 = .ok (.if_icmp .ge 101, 3) := by decide +kernel
theorem dD_readSizes_356 : decode cD_readSizes 356 = .ok (.iload 4, 2) := by decide +kernel
theorem dD_readSizes_358 : decode cD_readSizes 358 = .ok (.ifCond .eq 96, 3) := by decide +kernel
theorem dD_readSizes_361 : decode cD_readSizes 361 = .ok (.aload_n 0, 1) := by decide +kernel
theorem dD_readSizes_362 : decode cD_readSizes 362 = .ok (.getfield 60, 3) := by decide +kernel
theorem dD_readSizes_365 : decode cD_readSizes 365 = .ok (.iload_n 2, 1) := by decide +kernel
theorem dD_readSizes_366 : decode cD_readSizes 366 = .ok (.bipush 36, 2) := by decide +kernel
theorem dD_readSizes_368 : decode cD_readSizes 368 = .ok (.iadd, 1) := by decide +kernel
theorem dD_readSizes_369 : decode cD_readSizes 369 = .ok (.iconst 3, 1) := by decide +kernel
theorem dD_readSizes_370 : decode cD_readSizes 370 = .ok (.iload 5, 2) := by decide +kernel
theorem dD_readSizes_372 : decode cD_readSizes 372 = .ok (.imul, 1) := by decide +kernel
theorem dD_readSizes_373 : decode cD_readSizes 373 = .ok (.iadd, 1) := by decide +kernel
theorem dD_readSizes_374 : decode cD_readSizes 374 = .ok (.iaload, 1) := by decide +kernel
theorem dD_readSizes_375 : decode cD_readSizes 375 = .ok (.bipush 16, 2) := by decide +kernel
theorem dD_readSizes_377 : decode cD_readSizes 377 = .ok (.if_icmp .ge 43, 3) := by decide +kernel
theorem dD_readSizes_380 : decode cD_readSizes 380 = .ok (.aload_n 0, 1) := by decide +kernel
theorem dD_readSizes_381 : decode cD_readSizes 381 = .ok (.getfield 60, 3) := by decide +kernel
theorem dD_readSizes_384 : decode cD_readSizes 384 = .ok (.iload_n 2, 1) := by decide +kernel
theorem dD_readSizes_385 : decode cD_readSizes 385 = .ok (.bipush 37, 2) := by decide +kernel
theorem dD_readSizes_387 : decode cD_readSizes 387 = .ok (.iadd, 1) := by decide +kernel
theorem dD_readSizes_388 : decode cD_readSizes 388 = .ok (.iconst 3, 1) := by decide +kernel
theorem dD_readSizes_389 : decode cD_readSizes 389 = .ok (.iload 5, 2) := by decide +kernel
theorem dD_readSizes_391 : decode cD_readSizes 391 = .ok (.imul, 1) := by decide +kernel
theorem dD_readSizes_392 : decode cD_readSizes 392 = .ok (.iadd, 1) := by decide +kernel
theorem dD_readSizes_393 : decode cD_readSizes 393 = .ok (.iaload, 1) := by decide +kernel
theorem dD_readSizes_394 : decode cD_readSizes 394 = .ok (.iconst 1, 1) := by decide +kernel
theorem dD_readSizes_395 : decode cD_readSizes 395 = .ok (.if_icmp .ne 25, 3) := by decide +kernel
theorem dD_readSizes_398 : decode cD_readSizes 398 = .ok (.aload_n 0, 1) := by decide +kernel
theorem dD_readSizes_399 : decode cD_readSizes 399 = .ok (.getfield 60, 3) := by decide +kernel
theorem dD_readSizes_402 : decode cD_readSizes 402 = .ok (.iload_n 2, 1) := by decide +kernel
theorem dD_readSizes_403 : decode cD_readSizes 403 = .ok (.bipush 38, 2) := by decide +kernel
theorem dD_readSizes_405 : decode cD_readSizes 405 = .ok (.iadd, 1) := by decide +kernel
theorem dD_readSizes_406 : decode cD_readSizes 406 = .ok (.iconst 3, 1) := by decide +kernel
theorem dD_readSizes_407 : decode cD_readSizes 407 = .ok (.iload 5, 2) := by decide +kernel
theorem dD_readSizes_409 : decode cD_readSizes 409 = .ok (.imul, 1) := by decide +kernel
theorem dD_readSizes_410 : decode cD_readSizes 410 = .ok (.iadd, 1) := by decide +kernel
theorem dD_readSizes_411 : decode cD_readSizes 411 = .ok (.iaload, 1) := by decide +kernel
theorem dD_readSizes_412 : decode cD_readSizes 412 = .ok (.iconst 1, 1) := by decide +kernel
theorem dD_readSizes_413 : decode cD_readSizes 413 = .ok (.if_icmp .ne 7, 3) := by decide +kernel
theorem dD_readSizes_416 : decode cD_readSizes 416 = .ok (.iconst 1, 1) := by decide +kernel
theorem dD_readSizes_417 : decode cD_readSizes 417 = .ok (.goto 4, 3) := by decide +kernel
theorem dD_readSizes_420 : decode cD_readSizes 420 = .ok (.iconst 0, 1) := by decide +kernel
theorem dD_readSizes_421 : decode cD_readSizes 421 = .ok (.istore 4, 2) := by decide +kernel
theorem dD_readSizes_423 : decode cD_readSizes 423 = .ok (.aload_n 0, 1) := by decide +kernel
theorem dD_readSizes_424 : decode cD_readSizes 424 = .ok (.getfield 20, 3) := by decide +kernel
theorem dD_readSizes_427 : decode cD_readSizes 427 = .ok (.iconst 4, 1) := by decide +kernel
theorem dD_readSizes_428 : decode cD_readSizes 428 = .ok (.iload 5, 2) := by decide +kernel
theorem dD_readSizes_430 : decode cD_readSizes 430 = .ok (.iadd, 1) := by decide +kernel
theorem dD_readSizes_431 : decode cD_readSizes 431 = .ok (.aload_n 0, 1) := by decide +kernel
theorem dD_readSizes_432 : decode cD_readSizes 432 = .ok (.getfield 60, 3) := by decide +kernel
theorem dD_readSizes_435 : decode cD_readSizes 435 = .ok (.iload_n 2, 1) := by decide +kernel
theorem dD_readSizes_436 : decode cD_readSizes 436 = .ok (.bipush 36, 2) := by decide +kernel
theorem dD_readSizes_438 : decode cD_readSizes 438 = .ok (.iadd, 1) := by decide +kernel
theorem dD_readSizes_439 : decode cD_readSizes 439 = .ok (.iconst 3, 1) := by decide +kernel
theorem dD_readSizes_440 : decode cD_readSizes 440 = .ok (.iload 5, 2) := by decide +kernel
theorem dD_readSizes_442 : decode cD_readSizes 442 = .ok (.imul, 1) := by decide +kernel
theorem dD_readSizes_443 : decode cD_readSizes 443 = .ok (.iadd, 1) := by decide +kernel
theorem dD_readSizes_444 : decode cD_readSizes 444 = .ok (.iaload, 1) := by decide +kernel
theorem dD_readSizes_445 : decode cD_readSizes 445 = .ok (.iconst 1, 1) := by decide +kernel
theorem dD_readSizes_446 : decode cD_readSizes 446 = .ok (.iadd, 1) := by decide +kernel
theorem dD_readSizes_447 : decode cD_readSizes 447 = .ok (.iastore, 1) := by decide +kernel
theorem dD_readSizes_448 : decode cD_readSizes 448 = .ok (.iinc 5 1, 3) := by decide +kernel
theorem dD_readSizes_451 : decode cD_readSizes 451 = .ok (.goto (-101), 3) := by decide +kernel
theorem dD_readSizes_454 : decode cD_readSizes 454 = .ok (.iload 4, 2) := by decide +kernel
theorem dD_readSizes_456 : decode cD_readSizes 456 = .ok (.ifCond .ne 12, 3) := by decide +kernel
theorem dD_readSizes_459 : decode cD_readSizes 459 = .ok (.aload_n 0, 1) := by decide +kernel
theorem dD_readSizes_460 : decode cD_readSizes 460 = .ok (.aload_n 0, 1) := by decide +kernel
theorem dD_readSizes_461 : decode cD_readSizes 461 = .ok (.getfield 301, 3) := by decide +kernel
theorem dD_readSizes_464 : decode cD_readSizes 464 = .ok (.invokevirtual 278, 3) := by decide +kernel
theorem dD_readSizes_467 : decode cD_readSizes 467 = .ok (.ireturn, 1) := by decide +kernel
theorem dD_readSizes_468 : decode cD_readSizes 468 = .ok (.aload_n 0, 1) := by decide +kernel
theorem dD_readSizes_469 : decode cD_readSizes 469 = .ok (.getfield 23, 3) := by decide +kernel
theorem dD_readSizes_472 : decode cD_readSizes 472 = .ok (.iconst 5, 1) := by decide +kernel
theorem dD_readSizes_473 : decode cD_readSizes 473 = .ok (.aload_n 0, 1) := by decide +kernel
theorem dD_readSizes_474 : decode cD_readSizes 474 = .ok (.iload_n 2, 1) := by decide +kernel
theorem dD_readSizes_475 : decode cD_readSizes 475 = .ok (.iconst 2, 1) := by decide +kernel
theorem dD_readSizes_476 : decode cD_readSizes 476 = .ok (.iadd, 1) := by decide +kernel
theorem dD_readSizes_477 : decode cD_readSizes 477 = .ok (.invokevirtual 261, 3) := by decide +kernel
theorem dD_readSizes_480 : decode cD_readSizes 480 = .ok (.l2i, 1) := by decide +kernel
theorem dD_readSizes_481 : decode cD_readSizes 481 = .ok (.iastore, 1) := by decide +kernel
theorem dD_readSizes_482 : decode cD_readSizes 482 = .ok (.aload_n 0, 1) := by decide +kernel
theorem dD_readSizes_483 : decode cD_readSizes 483 = .ok (.getfield 23, 3) := by decide +kernel
theorem dD_readSizes_486 : decode cD_readSizes 486 = .ok (.bipush 6, 2) := by decide +kernel
theorem dD_readSizes_488 : decode cD_readSizes 488 = .ok (.aload_n 0, 1) := by decide +kernel
theorem dD_readSizes_489 : decode cD_readSizes 489 = .ok (.iload_n 2, 1) := by decide +kernel
theorem dD_readSizes_490 : decode cD_readSizes 490 = .ok (.bipush 6, 2) := by decide +kernel
theorem dD_readSizes_492 : decode cD_readSizes 492 = .ok (.iadd, 1) := by decide +kernel
theorem dD_readSizes_493 : decode cD_readSizes 493 = .ok (.invokevirtual 261, 3) := by decide +kernel
theorem dD_readSizes_496 : decode cD_readSizes 496 = .ok (.l2i, 1) := by decide +kernel
theorem dD_readSizes_497 : decode cD_readSizes 497 = .ok (.iastore, 1) := by decide +kernel
theorem dD_readSizes_498 : decode cD_readSizes 498 = .ok (.aload_n 0, 1) := by decide +kernel
theorem dD_readSizes_499 : decode cD_readSizes 499 = .ok (.getfield 23, 3) := by decide +kernel
theorem dD_readSizes_502 : decode cD_readSizes 502 = .ok (.bipush 7, 2) := by decide +kernel
theorem dD_readSizes_504 : decode cD_readSizes 504 = .ok (.iload_n 3, 1) := by decide +kernel
theorem dD_readSizes_505 : decode cD_readSizes 505 = .ok (.iastore, 1) := by decide +kernel
theorem dD_readSizes_506 : decode cD_readSizes 506 = .ok (.aload_n 0, 1) := by decide +kernel
theorem dD_readSizes_507 : decode cD_readSizes 507 = .ok (.getfield 23, 3) := by decide +kernel
theorem dD_readSizes_510 : decode cD_readSizes 510 = .ok (.bipush 8, 2) := by decide +kernel
theorem dD_readSizes_512 : decode cD_readSizes 512 = .ok (.aload_n 0, 1) := by decide +kernel
theorem dD_readSizes_513 : decode cD_readSizes 513 = .ok (.iload_n 2, 1) := by decide +kernel
theorem dD_readSizes_514 : decode cD_readSizes 514 = .ok (.bipush 18, 2) := by decide +kernel
theorem dD_readSizes_516 : decode cD_readSizes 516 = .ok (.iadd, 1) := by decide +kernel
theorem dD_readSizes_517 : decode cD_readSizes 517 = .ok (.invokevirtual 261, 3) := by decide +kernel
theorem dD_readSizes_520 : decode cD_readSizes 520 = .ok (.l2i, 1) := by decide +kernel
theorem dD_readSizes_521 : decode cD_readSizes 521 = .ok (.iastore, 1) := by decide +kernel
theorem dD_readSizes_522 : decode cD_readSizes 522 = .ok (.aload_n 0, 1) := by decide +kernel
theorem dD_readSizes_523 : decode cD_readSizes 523 = .ok (.getfield 23, 3) := by decide +kernel
theorem dD_readSizes_526 : decode cD_readSizes 526 = .ok (.bipush 9, 2) := by decide +kernel
theorem dD_readSizes_528 : decode cD_readSizes 528 = .ok (.aload_n 0, 1) := by decide +kernel
theorem dD_readSizes_529 : decode cD_readSizes 529 = .ok (.iload_n 2, 1) := by decide +kernel
theorem dD_readSizes_530 : decode cD_readSizes 530 = .ok (.bipush 22, 2) := by decide +kernel
theorem dD_readSizes_532 : decode cD_readSizes 532 = .ok (.iadd, 1) := by decide +kernel
theorem dD_readSizes_533 : decode cD_readSizes 533 = .ok (.invokevirtual 261, 3) := by decide +kernel
theorem dD_readSizes_536 : decode cD_readSizes 536 = .ok (.l2i, 1) := by decide +kernel
theorem dD_readSizes_537 : decode cD_readSizes 537 = .ok (.iastore, 1) := by decide +kernel
theorem dD_readSizes_538 : decode cD_readSizes 538 = .ok (.aload_n 0, 1) := by decide +kernel
theorem dD_readSizes_539 : decode cD_readSizes 539 = .ok (.dup, 1) := by decide +kernel
theorem dD_readSizes_540 : decode cD_readSizes 540 = .ok (.getfield 301, 3) := by decide +kernel
theorem dD_readSizes_543 : decode cD_readSizes 543 = .ok (.iconst 2, 1) := by decide +kernel
theorem dD_readSizes_544 : decode cD_readSizes 544 = .ok (.iload_n 1, 1) := by decide +kernel
theorem dD_readSizes_545 : decode cD_readSizes 545 = .ok (.iadd, 1) := by decide +kernel
theorem dD_readSizes_546 : decode cD_readSizes 546 = .ok (.iadd, 1) := by decide +kernel
theorem dD_readSizes_547 : decode cD_readSizes 547 = .ok (.putfield 301, 3) := by decide +kernel
theorem dD_readSizes_550 : decode cD_readSizes 550 = .ok (.iconst 1, 1) := by decide +kernel
theorem dD_readSizes_551 : decode cD_readSizes 551 = .ok (.ireturn, 1) := by decide +kernel
theorem dD_isSegment_0 : decode cD_isSegment 0 = .ok (.iload_n 0, 1) := by decide +kernel
theorem dD_isSegment_1 : decode cD_isSegment 1 = .ok (.bipush 82, 2) := by decide +kernel
theorem dD_isSegment_3 : decode cD_isSegment 3 = .ok (.if_icmp .eq 21, 3) := by decide +kernel
theorem dD_isSegment_6 : decode cD_isSegment 6 = .ok (.iload_n 0, 1) := by decide +kernel
theorem dD_isSegment_7 : decode cD_isSegment 7 = .ok (.bipush 83, 2) := by decide +kernel
theorem dD_isSegment_9 : decode cD_isSegment 9 = .ok (.if_icmp .eq 15, 3) := by decide +kernel
theorem dD_isSegment_12 : decode cD_isSegment 12 = .ok (.iload_n 0, 1) := by decide +kernel
theorem dD_isSegment_13 : decode cD_isSegment 13 = .ok (.bipush 92, 2) := by decide +kernel
theorem dD_isSegment_15 : decode cD_isSegment 15 = .ok (.if_icmp .eq 9, 3) := by decide +kernel
theorem dD_isSegment_18 : decode cD_isSegment 18 = .ok (.iload_n 0, 1) := by decide +kernel
theorem dD_isSegment_19 : decode cD_isSegment 19 = .ok (.bipush 93, 2) := by decide +kernel
theorem dD_isSegment_21 : decode cD_isSegment 21 = .ok (.if_icmp .ne 7, 3) := by decide +kernel
theorem dD_isSegment_24 : decode cD_isSegment 24 = .ok (.iconst 1, 1) := by decide +kernel
theorem dD_isSegment_25 : decode cD_isSegment 25 = .ok (.goto 4, 3) := by decide +kernel
theorem dD_isSegment_28 : decode cD_isSegment 28 = .ok (.iconst 0, 1) := by decide +kernel
theorem dD_isSegment_29 : decode cD_isSegment 29 = .ok (.ireturn, 1) := by decide +kernel
theorem dD_takeStep_0 : decode cD_takeStep 0 = .ok (.aload_n 0, 1) := by decide +kernel
theorem dD_takeStep_1 : decode cD_takeStep 1 = .ok (.iload_n 1, 1) := by decide +kernel
theorem dD_takeStep_2 : decode cD_takeStep 2 = .ok (.iconst 1, 1) := by decide +kernel
theorem dD_takeStep_3 : decode cD_takeStep 3 = .ok (.iadd, 1) := by decide +kernel
theorem dD_takeStep_4 : decode cD_takeStep 4 = .ok (.invokevirtual 314, 3) := by decide +kernel
theorem dD_takeStep_7 : decode cD_takeStep 7 = .ok (.istore_n 3, 1) := by decide +kernel
theorem dD_takeStep_8 : decode cD_takeStep 8 = .ok (.aload_n 0, 1) := by decide +kernel
theorem dD_takeStep_9 : decode cD_takeStep 9 = .ok (.getfield 60, 3) := by decide +kernel
theorem dD_takeStep_12 : decode cD_takeStep 12 = .ok (.iload_n 1, 1) := by decide +kernel
theorem dD_takeStep_13 : decode cD_takeStep 13 = .ok (.iaload, 1) := by decide +kernel
theorem dD_takeStep_14 : decode cD_takeStep 14 = .ok (.bipush 32, 2) := by decide +kernel
theorem dD_takeStep_16 : decode cD_takeStep 16 = .ok (.irem, 1) := by decide +kernel
theorem dD_takeStep_17 : decode cD_takeStep 17 = .ok (.iconst 1, 1) := by decide +kernel
theorem dD_takeStep_18 : decode cD_takeStep 18 = .ok (.if_icmp .ne 11, 3) := by decide +kernel
theorem dD_takeStep_21 : decode cD_takeStep 21 = .ok (.iload_n 3, 1) := by decide +kernel
theorem dD_takeStep_22 : decode cD_takeStep 22 = .ok (.sipush 2048, 3) := by decide +kernel
theorem dD_takeStep_25 : decode cD_takeStep 25 = .ok (.irem, 1) := by decide +kernel
theorem dD_takeStep_26 : decode cD_takeStep 26 = .ok (.ifCond .eq 5, 3) := by decide +kernel
theorem dD_takeStep_29 : decode cD_takeStep 29 = .ok (.iconst 0, 1) := by decide +kernel
theorem dD_takeStep_30 : decode cD_takeStep 30 = .ok (.ireturn, 1) := by decide +kernel
theorem dD_takeStep_31 : decode cD_takeStep 31 = .ok (.aload_n 0, 1) := by decide +kernel
theorem dD_takeStep_32 : decode cD_takeStep 32 = .ok (.iload_n 2, 1) := by decide +kernel
theorem dD_takeStep_33 : decode cD_takeStep 33 = .ok (.bipush 10, 2) := by decide +kernel
theorem dD_takeStep_35 : decode cD_takeStep 35 = .ok (.aload_n 0, 1) := by decide +kernel
theorem dD_takeStep_36 : decode cD_takeStep 36 = .ok (.getfield 60, 3) := by decide +kernel
theorem dD_takeStep_39 : decode cD_takeStep 39 = .ok (.iload_n 1, 1) := by decide +kernel
theorem dD_takeStep_40 : decode cD_takeStep 40 = .ok (.iaload, 1) := by decide +kernel
theorem dD_takeStep_41 : decode cD_takeStep 41 = .ok (.bipush 32, 2) := by decide +kernel
theorem dD_takeStep_43 : decode cD_takeStep 43 = .ok (.idiv, 1) := by decide +kernel
theorem dD_takeStep_44 : decode cD_takeStep 44 = .ok (.invokevirtual 113, 3) := by decide +kernel
theorem dD_takeStep_47 : decode cD_takeStep 47 = .ok (.aload_n 0, 1) := by decide +kernel
theorem dD_takeStep_48 : decode cD_takeStep 48 = .ok (.iload_n 2, 1) := by decide +kernel
theorem dD_takeStep_49 : decode cD_takeStep 49 = .ok (.bipush 9, 2) := by decide +kernel
theorem dD_takeStep_51 : decode cD_takeStep 51 = .ok (.iload_n 3, 1) := by decide +kernel
theorem dD_takeStep_52 : decode cD_takeStep 52 = .ok (.sipush 2048, 3) := by decide +kernel
theorem dD_takeStep_55 : decode cD_takeStep 55 = .ok (.idiv, 1) := by decide +kernel
theorem dD_takeStep_56 : decode cD_takeStep 56 = .ok (.invokevirtual 113, 3) := by decide +kernel
theorem dD_takeStep_59 : decode cD_takeStep 59 = .ok (.aload_n 0, 1) := by decide +kernel
theorem dD_takeStep_60 : decode cD_takeStep 60 = .ok (.getfield 17, 3) := by decide +kernel
theorem dD_takeStep_63 : decode cD_takeStep 63 = .ok (.iload_n 2, 1) := by decide +kernel
theorem dD_takeStep_64 : decode cD_takeStep 64 = .ok (.iconst 1, 1) := by decide +kernel
theorem dD_takeStep_65 : decode cD_takeStep 65 = .ok (.bastore, 1) := by decide +kernel
theorem dD_takeStep_66 : decode cD_takeStep 66 = .ok (.iconst 1, 1) := by decide +kernel
theorem dD_takeStep_67 : decode cD_takeStep 67 = .ok (.ireturn, 1) := by decide +kernel
theorem dD_takeStyle_0 : decode cD_takeStyle 0 = .ok (.iload_n 1, 1) := by decide +kernel
theorem dD_takeStyle_1 : decode cD_takeStyle 1 = .ok (.istore 4, 2) := by decide +kernel
theorem dD_takeStyle_3 : decode cD_takeStyle 3 = .ok (.aload_n 0, 1) := by decide +kernel
theorem dD_takeStyle_4 : decode cD_takeStyle 4 = .ok (.getfield 60, 3) := by decide +kernel
theorem dD_takeStyle_7 : decode cD_takeStyle 7 = .ok (.iload 4, 2) := by decide +kernel
theorem dD_takeStyle_9 : decode cD_takeStyle 9 = .ok (.iaload, 1) := by decide +kernel
theorem dD_takeStyle_10 : decode cD_takeStyle 10 = .ok (.ifCond .eq 5, 3) := by decide +kernel
theorem dD_takeStyle_13 : decode cD_takeStyle 13 = .ok (.iconst 0, 1) := by decide +kernel
theorem dD_takeStyle_14 : decode cD_takeStyle 14 = .ok (.ireturn, 1) := by decide +kernel
theorem dD_takeStyle_15 : decode cD_takeStyle 15 = .ok (.iload_n 3, 1) := by decide +kernel
theorem dD_takeStyle_16 : decode cD_takeStyle 16 = .ok (.ifCond .eq 52, 3) := by decide +kernel
theorem dD_takeStyle_19 : decode cD_takeStyle 19 = .ok (.aload_n 0, 1) := by decide +kernel
theorem dD_takeStyle_20 : decode cD_takeStyle 20 = .ok (.getfield 60, 3) := by decide +kernel
theorem dD_takeStyle_23 : decode cD_takeStyle 23 = .ok (.iload 4, 2) := by decide +kernel
theorem dD_takeStyle_25 : decode cD_takeStyle 25 = .ok (.iconst 1, 1) := by decide +kernel
theorem dD_takeStyle_26 : decode cD_takeStyle 26 = .ok (.iadd, 1) := by decide +kernel
theorem dD_takeStyle_27 : decode cD_takeStyle 27 = .ok (.iaload, 1) := by decide +kernel
theorem dD_takeStyle_28 : decode cD_takeStyle 28 = .ok (.iconst 4, 1) := by decide +kernel
theorem dD_takeStyle_29 : decode cD_takeStyle 29 = .ok (.if_icmp .gt 34, 3) := by decide +kernel
theorem dD_takeStyle_32 : decode cD_takeStyle 32 = .ok (.aload_n 0, 1) := by decide +kernel
theorem dD_takeStyle_33 : decode cD_takeStyle 33 = .ok (.iload 4, 2) := by decide +kernel
theorem dD_takeStyle_35 : decode cD_takeStyle 35 = .ok (.iconst 2, 1) := by decide +kernel
theorem dD_takeStyle_36 : decode cD_takeStyle 36 = .ok (.iadd, 1) := by decide +kernel
theorem dD_takeStyle_37 : decode cD_takeStyle 37 = .ok (.invokevirtual 314, 3) := by decide +kernel
theorem dD_takeStyle_40 : decode cD_takeStyle 40 = .ok (.i2l, 1) := by decide +kernel
theorem dD_takeStyle_41 : decode cD_takeStyle 41 = .ok (.lconst 1, 1) := by decide +kernel
theorem dD_takeStyle_42 : decode cD_takeStyle 42 = .ok (.ldc2_w 154, 3) := by decide +kernel
theorem dD_takeStyle_45 : decode cD_takeStyle 45 = .ok (.invokestatic 135, 3) := by decide +kernel
theorem dD_takeStyle_48 : decode cD_takeStyle 48 = .ok (.ifCond .eq 15, 3) := by decide +kernel
theorem dD_takeStyle_51 : decode cD_takeStyle 51 = .ok (.aload_n 0, 1) := by decide +kernel
theorem dD_takeStyle_52 : decode cD_takeStyle 52 = .ok (.getfield 60, 3) := by decide +kernel
theorem dD_takeStyle_55 : decode cD_takeStyle 55 = .ok (.iload 4, 2) := by decide +kernel
theorem dD_takeStyle_57 : decode cD_takeStyle 57 = .ok (.iconst 4, 1) := by decide +kernel
theorem dD_takeStyle_58 : decode cD_takeStyle 58 = .ok (.iadd, 1) := by decide +kernel
theorem dD_takeStyle_59 : decode cD_takeStyle 59 = .ok (.iaload, 1) := by decide +kernel
theorem dD_takeStyle_60 : decode cD_takeStyle 60 = .ok (.ifCond .eq 5, 3) := by decide +kernel
theorem dD_takeStyle_63 : decode cD_takeStyle 63 = .ok (.iconst 0, 1) := by decide +kernel
theorem dD_takeStyle_64 : decode cD_takeStyle 64 = .ok (.ireturn, 1) := by decide +kernel
theorem dD_takeStyle_65 : decode cD_takeStyle 65 = .ok (.iinc 4 4, 3) := by decide +kernel
theorem dD_takeStyle_68 : decode cD_takeStyle 68 = .ok (.iinc 4 1, 3) := by decide +kernel
theorem dD_takeStyle_71 : decode cD_takeStyle 71 = .ok (.aload_n 0, 1) := by decide +kernel
theorem dD_takeStyle_72 : decode cD_takeStyle 72 = .ok (.getfield 60, 3) := by decide +kernel
theorem dD_takeStyle_75 : decode cD_takeStyle 75 = .ok (.iload 4, 2) := by decide +kernel
theorem dD_takeStyle_77 : decode cD_takeStyle 77 = .ok (.iaload, 1) := by decide +kernel
theorem dD_takeStyle_78 : decode cD_takeStyle 78 = .ok (.iconst 5, 1) := by decide +kernel
theorem dD_takeStyle_79 : decode cD_takeStyle 79 = .ok (.if_icmp .gt 62, 3) := by decide +kernel
theorem dD_takeStyle_82 : decode cD_takeStyle 82 = .ok (.aload_n 0, 1) := by decide +kernel
theorem dD_takeStyle_83 : decode cD_takeStyle 83 = .ok (.getfield 60, 3) := by decide +kernel
theorem dD_takeStyle_86 : decode cD_takeStyle 86 = .ok (.iload 4, 2) := by decide +kernel
theorem dD_takeStyle_88 : decode cD_takeStyle 88 = .ok (.iconst 1, 1) := by decide +kernel
theorem dD_takeStyle_89 : decode cD_takeStyle 89 = .ok (.iadd, 1) := by decide +kernel
theorem dD_takeStyle_90 : decode cD_takeStyle 90 = .ok (.iaload, 1) := by decide +kernel
theorem dD_takeStyle_91 : decode cD_takeStyle 91 = .ok (.iconst 4, 1) := by decide +kernel
theorem dD_takeStyle_92 : decode cD_takeStyle 92 = .ok (.if_icmp .gt 49, 3) := by decide +kernel
theorem dD_takeStyle_95 : decode cD_takeStyle 95 = .ok (.aload_n 0, 1) := by decide +kernel
theorem dD_takeStyle_96 : decode cD_takeStyle 96 = .ok (.getfield 60, 3) := by decide +kernel
theorem dD_takeStyle_99 : decode cD_takeStyle 99 = .ok (.iload 4, 2) := by decide +kernel
theorem dD_takeStyle_101 : decode cD_takeStyle 101 = .ok (.iconst 2, 1) := by decide +kernel
theorem dD_takeStyle_102 : decode cD_takeStyle 102 = .ok (.iadd, 1) := by decide +kernel
theorem dD_takeStyle_103 : decode cD_takeStyle 103 = .ok (.iaload, 1) := by decide +kernel
theorem dD_takeStyle_104 : decode cD_takeStyle 104 = .ok (.aload_n 0, 1) := by decide +kernel
theorem dD_takeStyle_105 : decode cD_takeStyle 105 = .ok (.getfield 60, 3) := by decide +kernel
theorem dD_takeStyle_108 : decode cD_takeStyle 108 = .ok (.iload 4, 2) := by decide +kernel
theorem dD_takeStyle_110 : decode cD_takeStyle 110 = .ok (.iconst 1, 1) := by decide +kernel
theorem dD_takeStyle_111 : decode cD_takeStyle 111 = .ok (.iadd, 1) := by decide +kernel
theorem dD_takeStyle_112 : decode cD_takeStyle 112 = .ok (.iaload, 1) := by decide +kernel
theorem dD_takeStyle_113 : decode cD_takeStyle 113 = .ok (.if_icmp .ne 28, 3) := by decide +kernel
theorem dD_takeStyle_116 : decode cD_takeStyle 116 = .ok (.aload_n 0, 1) := by decide +kernel
theorem dD_takeStyle_117 : decode cD_takeStyle 117 = .ok (.getfield 60, 3) := by decide +kernel
theorem dD_takeStyle_120 : decode cD_takeStyle 120 = .ok (.iload 4, 2) := by decide +kernel
theorem dD_takeStyle_122 : decode cD_takeStyle 122 = .ok (.iconst 3, 1) := by decide +kernel
theorem dD_takeStyle_123 : decode cD_takeStyle 123 = .ok (.iadd, 1) := by decide +kernel
theorem dD_takeStyle_124 : decode cD_takeStyle 124 = .ok (.iaload, 1) := by decide +kernel
theorem dD_takeStyle_125 : decode cD_takeStyle 125 = .ok (.ifCond .ne 16, 3) := by decide +kernel
theorem dD_takeStyle_128 : decode cD_takeStyle 128 = .ok (.aload_n 0, 1) := by decide +kernel
theorem dD_takeStyle_129 : decode cD_takeStyle 129 = .ok (.getfield 60, 3) := by decide +kernel
theorem dD_takeStyle_132 : decode cD_takeStyle 132 = .ok (.iload 4, 2) := by decide +kernel
theorem dD_takeStyle_134 : decode cD_takeStyle 134 = .ok (.iconst 4, 1) := by decide +kernel
theorem dD_takeStyle_135 : decode cD_takeStyle 135 = .ok (.iadd, 1) := by decide +kernel
theorem dD_takeStyle_136 : decode cD_takeStyle 136 = .ok (.iaload, 1) := by decide +kernel
theorem dD_takeStyle_137 : decode cD_takeStyle 137 = .ok (.iconst 1, 1) := by decide +kernel
theorem dD_takeStyle_138 : decode cD_takeStyle 138 = .ok (.if_icmp .le 5, 3) := by decide +kernel
theorem dD_takeStyle_141 : decode cD_takeStyle 141 = .ok (.iconst 0, 1) := by decide +kernel
theorem dD_takeStyle_142 : decode cD_takeStyle 142 = .ok (.ireturn, 1) := by decide +kernel
theorem dD_takeStyle_143 : decode cD_takeStyle 143 = .ok (.iload_n 3, 1) := by decide +kernel
theorem dD_takeStyle_144 : decode cD_takeStyle 144 = .ok (.ifCond .eq 30, 3) := by decide +kernel
theorem dD_takeStyle_147 : decode cD_takeStyle 147 = .ok (.aload_n 0, 1) := by decide +kernel
theorem dD_takeStyle_148 : decode cD_takeStyle 148 = .ok (.iload_n 2, 1) := by decide +kernel
theorem dD_takeStyle_149 : decode cD_takeStyle 149 = .ok (.iconst 4, 1) := by decide +kernel
theorem dD_takeStyle_150 : decode cD_takeStyle 150 = .ok (.aload_n 0, 1) := by decide +kernel
theorem dD_takeStyle_151 : decode cD_takeStyle 151 = .ok (.getfield 60, 3) := by decide +kernel
theorem dD_takeStyle_154 : decode cD_takeStyle 154 = .ok (.iload_n 1, 1) := by decide +kernel
theorem dD_takeStyle_155 : decode cD_takeStyle 155 = .ok (.iconst 1, 1) := by decide +kernel
theorem dD_takeStyle_156 : decode cD_takeStyle 156 = .ok (.iadd, 1) := by decide +kernel
theorem dD_takeStyle_157 : decode cD_takeStyle 157 = .ok (.iaload, 1) := by decide +kernel
theorem dD_takeStyle_158 : decode cD_takeStyle 158 = .ok (.invokevirtual 113, 3) := by decide +kernel
theorem dD_takeStyle_161 : decode cD_takeStyle 161 = .ok (.aload_n 0, 1) := by decide +kernel
theorem dD_takeStyle_162 : decode cD_takeStyle 162 = .ok (.iload_n 2, 1) := by decide +kernel
theorem dD_takeStyle_163 : decode cD_takeStyle 163 = .ok (.iconst 5, 1) := by decide +kernel
theorem dD_takeStyle_164 : decode cD_takeStyle 164 = .ok (.aload_n 0, 1) := by decide +kernel
theorem dD_takeStyle_165 : decode cD_takeStyle 165 = .ok (.iload_n 1, 1) := by decide +kernel
theorem dD_takeStyle_166 : decode cD_takeStyle 166 = .ok (.iconst 2, 1) := by decide +kernel
theorem dD_takeStyle_167 : decode cD_takeStyle 167 = .ok (.iadd, 1) := by decide +kernel
theorem dD_takeStyle_168 : decode cD_takeStyle 168 = .ok (.invokevirtual 314, 3) := by decide +kernel
theorem dD_takeStyle_171 : decode cD_takeStyle 171 = .ok (.invokevirtual 113, 3) := by decide +kernel
theorem dD_takeStyle_174 : decode cD_takeStyle 174 = .ok (.aload_n 0, 1) := by decide +kernel
theorem dD_takeStyle_175 : decode cD_takeStyle 175 = .ok (.iload_n 2, 1) := by decide +kernel
theorem dD_takeStyle_176 : decode cD_takeStyle 176 = .ok (.bipush 6, 2) := by decide +kernel
theorem dD_takeStyle_178 : decode cD_takeStyle 178 = .ok (.aload_n 0, 1) := by decide +kernel
theorem dD_takeStyle_179 : decode cD_takeStyle 179 = .ok (.getfield 60, 3) := by decide +kernel
theorem dD_takeStyle_182 : decode cD_takeStyle 182 = .ok (.iload 4, 2) := by decide +kernel
theorem dD_takeStyle_184 : decode cD_takeStyle 184 = .ok (.iaload, 1) := by decide +kernel
theorem dD_takeStyle_185 : decode cD_takeStyle 185 = .ok (.invokevirtual 113, 3) := by decide +kernel
theorem dD_takeStyle_188 : decode cD_takeStyle 188 = .ok (.aload_n 0, 1) := by decide +kernel
theorem dD_takeStyle_189 : decode cD_takeStyle 189 = .ok (.iload_n 2, 1) := by decide +kernel
theorem dD_takeStyle_190 : decode cD_takeStyle 190 = .ok (.bipush 7, 2) := by decide +kernel
theorem dD_takeStyle_192 : decode cD_takeStyle 192 = .ok (.aload_n 0, 1) := by decide +kernel
theorem dD_takeStyle_193 : decode cD_takeStyle 193 = .ok (.getfield 60, 3) := by decide +kernel
theorem dD_takeStyle_196 : decode cD_takeStyle 196 = .ok (.iload 4, 2) := by decide +kernel
theorem dD_takeStyle_198 : decode cD_takeStyle 198 = .ok (.iconst 1, 1) := by decide +kernel
theorem dD_takeStyle_199 : decode cD_takeStyle 199 = .ok (.iadd, 1) := by decide +kernel
theorem dD_takeStyle_200 : decode cD_takeStyle 200 = .ok (.iaload, 1) := by decide +kernel
theorem dD_takeStyle_201 : decode cD_takeStyle 201 = .ok (.iconst 2, 1) := by decide +kernel
theorem dD_takeStyle_202 : decode cD_takeStyle 202 = .ok (.iadd, 1) := by decide +kernel
theorem dD_takeStyle_203 : decode cD_takeStyle 203 = .ok (.invokevirtual 113, 3) := by decide +kernel
theorem dD_takeStyle_206 : decode cD_takeStyle 206 = .ok (.aload_n 0, 1) := by decide +kernel
theorem dD_takeStyle_207 : decode cD_takeStyle 207 = .ok (.iload_n 2, 1) := by decide +kernel
theorem dD_takeStyle_208 : decode cD_takeStyle 208 = .ok (.bipush 8, 2) := by decide +kernel
theorem dD_takeStyle_210 : decode cD_takeStyle 210 = .ok (.aload_n 0, 1) := by decide +kernel
theorem dD_takeStyle_211 : decode cD_takeStyle 211 = .ok (.getfield 60, 3) := by decide +kernel
theorem dD_takeStyle_214 : decode cD_takeStyle 214 = .ok (.iload 4, 2) := by decide +kernel
theorem dD_takeStyle_216 : decode cD_takeStyle 216 = .ok (.iconst 4, 1) := by decide +kernel
theorem dD_takeStyle_217 : decode cD_takeStyle 217 = .ok (.iadd, 1) := by decide +kernel
theorem dD_takeStyle_218 : decode cD_takeStyle 218 = .ok (.iaload, 1) := by decide +kernel
theorem dD_takeStyle_219 : decode cD_takeStyle 219 = .ok (.invokevirtual 113, 3) := by decide +kernel
theorem dD_takeStyle_222 : decode cD_takeStyle 222 = .ok (.aload_n 0, 1) := by decide +kernel
theorem dD_takeStyle_223 : decode cD_takeStyle 223 = .ok (.getfield 13, 3) := by decide +kernel
theorem dD_takeStyle_226 : decode cD_takeStyle 226 = .ok (.iload_n 2, 1) := by decide +kernel
theorem dD_takeStyle_227 : decode cD_takeStyle 227 = .ok (.iconst 1, 1) := by decide +kernel
theorem dD_takeStyle_228 : decode cD_takeStyle 228 = .ok (.bastore, 1) := by decide +kernel
theorem dD_takeStyle_229 : decode cD_takeStyle 229 = .ok (.iconst 1, 1) := by decide +kernel
theorem dD_takeStyle_230 : decode cD_takeStyle 230 = .ok (.ireturn, 1) := by decide +kernel
theorem dD_takeSegment_0 : decode cD_takeSegment 0 = .ok (.aload_n 0, 1) := by decide +kernel
theorem dD_takeSegment_1 : decode cD_takeSegment 1 = .ok (.getfield 60, 3) := by decide +kernel
theorem dD_takeSegment_4 : decode cD_takeSegment 4 = .ok (.iload_n 1, 1) := by decide +kernel
theorem dD_takeSegment_5 : decode cD_takeSegment 5 = .ok (.iconst 1, 1) := by decide +kernel
theorem dD_takeSegment_6 : decode cD_takeSegment 6 = .ok (.iadd, 1) := by decide +kernel
theorem dD_takeSegment_7 : decode cD_takeSegment 7 = .ok (.iaload, 1) := by decide +kernel
theorem dD_takeSegment_8 : decode cD_takeSegment 8 = .ok (.istore_n 3, 1) := by decide +kernel
theorem dD_takeSegment_9 : decode cD_takeSegment 9 = .ok (.aload_n 0, 1) := by decide +kernel
theorem dD_takeSegment_10 : decode cD_takeSegment 10 = .ok (.iload_n 1, 1) := by decide +kernel
theorem dD_takeSegment_11 : decode cD_takeSegment 11 = .ok (.iconst 2, 1) := by decide +kernel
theorem dD_takeSegment_12 : decode cD_takeSegment 12 = .ok (.iadd, 1) := by decide +kernel
theorem dD_takeSegment_13 : decode cD_takeSegment 13 = .ok (.invokevirtual 314, 3) := by decide +kernel
theorem dD_takeSegment_16 : decode cD_takeSegment 16 = .ok (.istore 4, 2) := by decide +kernel
theorem dD_takeSegment_18 : decode cD_takeSegment 18 = .ok (.iload_n 1, 1) := by decide +kernel
theorem dD_takeSegment_19 : decode cD_takeSegment 19 = .ok (.iconst 4, 1) := by decide +kernel
theorem dD_takeSegment_20 : decode cD_takeSegment 20 = .ok (.iadd, 1) := by decide +kernel
theorem dD_takeSegment_21 : decode cD_takeSegment 21 = .ok (.istore 5, 2) := by decide +kernel
theorem dD_takeSegment_23 : decode cD_takeSegment 23 = .ok (.iload_n 3, 1) := by decide +kernel
theorem dD_takeSegment_24 : decode cD_takeSegment 24 = .ok (.bipush 82, 2) := by decide +kernel
theorem dD_takeSegment_26 : decode cD_takeSegment 26 = .ok (.if_icmp .eq 9, 3) := by decide +kernel
theorem dD_takeSegment_29 : decode cD_takeSegment 29 = .ok (.iload_n 3, 1) := by decide +kernel
theorem dD_takeSegment_30 : decode cD_takeSegment 30 = .ok (.bipush 92, 2) := by decide +kernel
theorem dD_takeSegment_32 : decode cD_takeSegment 32 = .ok (.if_icmp .ne 7, 3) := by decide +kernel
theorem dD_takeSegment_35 : decode cD_takeSegment 35 = .ok (.iconst 1, 1) := by decide +kernel
theorem dD_takeSegment_36 : decode cD_takeSegment 36 = .ok (.goto 4, 3) := by decide +kernel
theorem dD_takeSegment_39 : decode cD_takeSegment 39 = .ok (.iconst 0, 1) := by decide +kernel
theorem dD_takeSegment_40 : decode cD_takeSegment 40 = .ok (.istore 6, 2) := by decide +kernel
theorem dD_takeSegment_42 : decode cD_takeSegment 42 = .ok (.iload 4, 2) := by decide +kernel
theorem dD_takeSegment_44 : decode cD_takeSegment 44 = .ok (.iload_n 3, 1) := by decide +kernel
theorem dD_takeSegment_45 : decode cD_takeSegment 45 = .ok (.bipush 82, 2) := by decide +kernel
theorem dD_takeSegment_47 : decode cD_takeSegment 47 = .ok (.if_icmp .ne 8, 3) := by decide +kernel
theorem dD_takeSegment_50 : decode cD_takeSegment 50 = .ok (.bipush 12, 2) := by decide +kernel
theorem dD_takeSegment_52 : decode cD_takeSegment 52 = .ok (.goto 26, 3) := by decide +kernel
theorem dD_takeSegment_55 : decode cD_takeSegment 55 = .ok (.iload_n 3, 1) := by decide +kernel
theorem dD_takeSegment_56 : decode cD_takeSegment 56 = .ok (.bipush 83, 2) := by decide +kernel
theorem dD_takeSegment_58 : decode cD_takeSegment 58 = .ok (.if_icmp .ne 8, 3) := by decide +kernel
theorem dD_takeSegment_61 : decode cD_takeSegment 61 = .ok (.bipush 9, 2) := by decide +kernel
theorem dD_takeSegment_63 : decode cD_takeSegment 63 = .ok (.goto 15, 3) := by decide +kernel
theorem dD_takeSegment_66 : decode cD_takeSegment 66 = .ok (.iload_n 3, 1) := by decide +kernel
theorem dD_takeSegment_67 : decode cD_takeSegment 67 = .ok (.bipush 92, 2) := by decide +kernel
theorem dD_takeSegment_69 : decode cD_takeSegment 69 = .ok (.if_icmp .ne 7, 3) := by decide +kernel
theorem dD_takeSegment_72 : decode cD_takeSegment 72 = .ok (.iconst 5, 1) := by decide +kernel
theorem dD_takeSegment_73 : decode cD_takeSegment 73 = .ok (.goto 5, 3) := by decide +kernel
theorem dD_takeSegment_76 : decode cD_takeSegment 76 = .ok (.bipush 6, 2) := by decide +kernel
theorem dD_takeSegment_78 : decode cD_takeSegment 78 = .ok (.if_icmp .ne 25, 3) := by decide +kernel
theorem dD_takeSegment_81 : decode cD_takeSegment 81 = .ok (.iload 6, 2) := by decide +kernel
theorem dD_takeSegment_83 : decode cD_takeSegment 83 = .ok (.ifCond .ne 22, 3) := by decide +kernel
theorem dD_takeSegment_86 : decode cD_takeSegment 86 = .ok (.aload_n 0, 1) := by decide +kernel
theorem dD_takeSegment_87 : decode cD_takeSegment 87 = .ok (.getfield 60, 3) := by decide +kernel
theorem dD_takeSegment_90 : decode cD_takeSegment 90 = .ok (.iload 5, 2) := by decide +kernel
theorem dD_takeSegment_92 : decode cD_takeSegment 92 = .ok (.iaload, 1) := by decide +kernel
theorem dD_takeSegment_93 : decode cD_takeSegment 93 = .ok (.aload_n 0, 1) := by decide +kernel
theorem dD_takeSegment_94 : decode cD_takeSegment 94 = .ok (.getfield 23, 3) := by decide +kernel
theorem dD_takeSegment_97 : decode cD_takeSegment 97 = .ok (.bipush 7, 2) := by decide +kernel
theorem dD_takeSegment_99 : decode cD_takeSegment 99 = .ok (.iaload, 1) := by decide +kernel
theorem dD_takeSegment_100 : decode cD_takeSegment 100 = .ok (.if_icmp .lt 5, 3) := by decide +kernel
theorem dD_takeSegment_103 : decode cD_takeSegment 103 = .ok (.iconst 0, 1) := by decide +kernel
theorem dD_takeSegment_104 : decode cD_takeSegment 104 = .ok (.ireturn, 1) := by decide +kernel
theorem dD_takeSegment_105 : decode cD_takeSegment 105 = .ok (.bipush 125, 2) := by decide +kernel
theorem dD_takeSegment_107 : decode cD_takeSegment 107 = .ok (.iload_n 2, 1) := by decide +kernel
theorem dD_takeSegment_108 : decode cD_takeSegment 108 = .ok (.iload 6, 2) := by decide +kernel
theorem dD_takeSegment_110 : decode cD_takeSegment 110 = .ok (.ifCond .eq 7, 3) := by decide +kernel
theorem dD_takeSegment_113 : decode cD_takeSegment 113 = .ok (.iconst (-1), 1) := by decide +kernel
theorem dD_takeSegment_114 : decode cD_takeSegment 114 = .ok (.goto 10, 3) := by decide +kernel
theorem dD_takeSegment_117 : decode cD_takeSegment 117 = .ok (.aload_n 0, 1) := by decide +kernel
theorem dD_takeSegment_118 : decode cD_takeSegment 118 = .ok (.getfield 60, 3) := by decide +kernel
theorem dD_takeSegment_121 : decode cD_takeSegment 121 = .ok (.iload 5, 2) := by decide +kernel
theorem dD_takeSegment_123 : decode cD_takeSegment 123 = .ok (.iaload, 1) := by decide +kernel
theorem dD_takeSegment_124 : decode cD_takeSegment 124 = .ok (.invokestatic 121, 3) := by decide +kernel
theorem dD_takeSegment_127 : decode cD_takeSegment 127 = .ok (.iadd, 1) := by decide +kernel
theorem dD_takeSegment_128 : decode cD_takeSegment 128 = .ok (.istore 7, 2) := by decide +kernel
theorem dD_takeSegment_130 : decode cD_takeSegment 130 = .ok (.iload 5, 2) := by decide +kernel
theorem dD_takeSegment_132 : decode cD_takeSegment 132 = .ok (.iload 6, 2) := by decide +kernel
theorem dD_takeSegment_134 : decode cD_takeSegment 134 = .ok (.ifCond .eq 7, 3) := by decide +kernel
theorem dD_takeSegment_137 : decode cD_takeSegment 137 = .ok (.iconst 0, 1) := by decide +kernel
theorem dD_takeSegment_138 : decode cD_takeSegment 138 = .ok (.goto 4, 3) := by decide +kernel
theorem dD_takeSegment_141 : decode cD_takeSegment 141 = .ok (.iconst 1, 1) := by decide +kernel
theorem dD_takeSegment_142 : decode cD_takeSegment 142 = .ok (.iadd, 1) := by decide +kernel
theorem dD_takeSegment_143 : decode cD_takeSegment 143 = .ok (.istore 5, 2) := by decide +kernel
theorem dD_takeSegment_145 : decode cD_takeSegment 145 = .ok (.iload_n 3, 1) := by decide +kernel
theorem dD_takeSegment_146 : decode cD_takeSegment 146 = .ok (.bipush 90, 2) := by decide +kernel
theorem dD_takeSegment_148 : decode cD_takeSegment 148 = .ok (.if_icmp .le 14, 3) := by decide +kernel
theorem dD_takeSegment_151 : decode cD_takeSegment 151 = .ok (.aload_n 0, 1) := by decide +kernel
theorem dD_takeSegment_152 : decode cD_takeSegment 152 = .ok (.iload 5, 2) := by decide +kernel
theorem dD_takeSegment_154 : decode cD_takeSegment 154 = .ok (.iload 7, 2) := by decide +kernel
theorem dD_takeSegment_156 : decode cD_takeSegment 156 = .ok (.invokevirtual 319, 3) := by decide +kernel
theorem dD_takeSegment_159 : decode cD_takeSegment 159 = .ok (.goto 13, 3) := by decide +kernel
theorem dD_takeSegment_162 : decode cD_takeSegment 162 = .ok (.aload_n 0, 1) := by decide +kernel
theorem dD_takeSegment_163 : decode cD_takeSegment 163 = .ok (.iload 5, 2) := by decide +kernel
theorem dD_takeSegment_165 : decode cD_takeSegment 165 = .ok (.iload 7, 2) := by decide +kernel
theorem dD_takeSegment_167 : decode cD_takeSegment 167 = .ok (.iload 6, 2) := by decide +kernel
theorem dD_takeSegment_169 : decode cD_takeSegment 169 = .ok (.invokevirtual 322, 3) := by decide +kernel
theorem dD_takeSegment_172 : decode cD_takeSegment 172 = .ok (.ireturn, 1) := by decide +kernel
theorem dD_behind_0 : decode cD_behind 0 = .ok (.iload_n 2, 1) := by decide +kernel
theorem dD_behind_1 : decode cD_behind 1 = .ok (.iload_n 1, 1) := by decide +kernel
theorem dD_behind_2 : decode cD_behind 2 = .ok (.isub, 1) := by decide +kernel
theorem dD_behind_3 : decode cD_behind 3 = .ok (.iconst 4, 1) := by decide +kernel
theorem dD_behind_4 : decode cD_behind 4 = .ok (.if_icmp .lt 15, 3) := by decide +kernel
theorem dD_behind_7 : decode cD_behind 7 = .ok (.aload_n 0, 1) := by decide +kernel
theorem dD_behind_8 : decode cD_behind 8 = .ok (.getfield 60, 3) := by decide +kernel
theorem dD_behind_11 : decode cD_behind 11 = .ok (.iload_n 1, 1) := by decide +kernel
theorem dD_behind_12 : decode cD_behind 12 = .ok (.iaload, 1) := by decide +kernel
theorem dD_behind_13 : decode cD_behind 13 = .ok (.sipush 255, 3) := by decide +kernel
theorem dD_behind_16 : decode cD_behind 16 = .ok (.if_icmp .eq 5, 3) := by decide +kernel
theorem dD_behind_19 : decode cD_behind 19 = .ok (.iconst (-1), 1) := by decide +kernel
theorem dD_behind_20 : decode cD_behind 20 = .ok (.ireturn, 1) := by decide +kernel
theorem dD_behind_21 : decode cD_behind 21 = .ok (.aload_n 0, 1) := by decide +kernel
theorem dD_behind_22 : decode cD_behind 22 = .ok (.iload_n 1, 1) := by decide +kernel
theorem dD_behind_23 : decode cD_behind 23 = .ok (.iconst 2, 1) := by decide +kernel
theorem dD_behind_24 : decode cD_behind 24 = .ok (.iadd, 1) := by decide +kernel
theorem dD_behind_25 : decode cD_behind 25 = .ok (.invokevirtual 314, 3) := by decide +kernel
theorem dD_behind_28 : decode cD_behind 28 = .ok (.istore_n 3, 1) := by decide +kernel
theorem dD_behind_29 : decode cD_behind 29 = .ok (.iload_n 3, 1) := by decide +kernel
theorem dD_behind_30 : decode cD_behind 30 = .ok (.iconst 2, 1) := by decide +kernel
theorem dD_behind_31 : decode cD_behind 31 = .ok (.if_icmp .lt 12, 3) := by decide +kernel
theorem dD_behind_34 : decode cD_behind 34 = .ok (.iload_n 1, 1) := by decide +kernel
theorem dD_behind_35 : decode cD_behind 35 = .ok (.iconst 2, 1) := by decide +kernel
theorem dD_behind_36 : decode cD_behind 36 = .ok (.iadd, 1) := by decide +kernel
theorem dD_behind_37 : decode cD_behind 37 = .ok (.iload_n 3, 1) := by decide +kernel
theorem dD_behind_38 : decode cD_behind 38 = .ok (.iadd, 1) := by decide +kernel
theorem dD_behind_39 : decode cD_behind 39 = .ok (.iload_n 2, 1) := by decide +kernel
theorem dD_behind_40 : decode cD_behind 40 = .ok (.if_icmp .le 7, 3) := by decide +kernel
theorem dD_behind_43 : decode cD_behind 43 = .ok (.iconst (-1), 1) := by decide +kernel
theorem dD_behind_44 : decode cD_behind 44 = .ok (.goto 8, 3) := by decide +kernel
theorem dD_behind_47 : decode cD_behind 47 = .ok (.iload_n 1, 1) := by decide +kernel
theorem dD_behind_48 : decode cD_behind 48 = .ok (.iconst 2, 1) := by decide +kernel
theorem dD_behind_49 : decode cD_behind 49 = .ok (.iadd, 1) := by decide +kernel
theorem dD_behind_50 : decode cD_behind 50 = .ok (.iload_n 3, 1) := by decide +kernel
theorem dD_behind_51 : decode cD_behind 51 = .ok (.iadd, 1) := by decide +kernel
theorem dD_behind_52 : decode cD_behind 52 = .ok (.ireturn, 1) := by decide +kernel
theorem dD_isMark_0 : decode cD_isMark 0 = .ok (.iload_n 2, 1) := by decide +kernel
theorem dD_isMark_1 : decode cD_isMark 1 = .ok (.iload_n 1, 1) := by decide +kernel
theorem dD_isMark_2 : decode cD_isMark 2 = .ok (.isub, 1) := by decide +kernel
theorem dD_isMark_3 : decode cD_isMark 3 = .ok (.iconst 2, 1) := by decide +kernel
theorem dD_isMark_4 : decode cD_isMark 4 = .ok (.if_icmp .lt 31, 3) := by decide +kernel
theorem dD_isMark_7 : decode cD_isMark 7 = .ok (.aload_n 0, 1) := by decide +kernel
theorem dD_isMark_8 : decode cD_isMark 8 = .ok (.getfield 60, 3) := by decide +kernel
theorem dD_isMark_11 : decode cD_isMark 11 = .ok (.iload_n 1, 1) := by decide +kernel
theorem dD_isMark_12 : decode cD_isMark 12 = .ok (.iaload, 1) := by decide +kernel
theorem dD_isMark_13 : decode cD_isMark 13 = .ok (.sipush 255, 3) := by decide +kernel
theorem dD_isMark_16 : decode cD_isMark 16 = .ok (.if_icmp .ne 19, 3) := by decide +kernel
theorem dD_isMark_19 : decode cD_isMark 19 = .ok (.aload_n 0, 1) := by decide +kernel
theorem dD_isMark_20 : decode cD_isMark 20 = .ok (.getfield 60, 3) := by decide +kernel
theorem dD_isMark_23 : decode cD_isMark 23 = .ok (.iload_n 1, 1) := by decide +kernel
theorem dD_isMark_24 : decode cD_isMark 24 = .ok (.iconst 1, 1) := by decide +kernel
theorem dD_isMark_25 : decode cD_isMark 25 = .ok (.iadd, 1) := by decide +kernel
theorem dD_isMark_26 : decode cD_isMark 26 = .ok (.iaload, 1) := by decide +kernel
theorem dD_isMark_27 : decode cD_isMark 27 = .ok (.iload_n 3, 1) := by decide +kernel
theorem dD_isMark_28 : decode cD_isMark 28 = .ok (.if_icmp .ne 7, 3) := by decide +kernel
theorem dD_isMark_31 : decode cD_isMark 31 = .ok (.iconst 1, 1) := by decide +kernel
theorem dD_isMark_32 : decode cD_isMark 32 = .ok (.goto 4, 3) := by decide +kernel
theorem dD_isMark_35 : decode cD_isMark 35 = .ok (.iconst 0, 1) := by decide +kernel
theorem dD_isMark_36 : decode cD_isMark 36 = .ok (.ireturn, 1) := by decide +kernel
theorem dD_readHead_0 : decode cD_readHead 0 = .ok (.aload_n 0, 1) := by decide +kernel
theorem dD_readHead_1 : decode cD_readHead 1 = .ok (.aload_n 0, 1) := by decide +kernel
theorem dD_readHead_2 : decode cD_readHead 2 = .ok (.getfield 301, 3) := by decide +kernel
theorem dD_readHead_5 : decode cD_readHead 5 = .ok (.aload_n 0, 1) := by decide +kernel
theorem dD_readHead_6 : decode cD_readHead 6 = .ok (.getfield 304, 3) := by decide +kernel
theorem dD_readHead_9 : decode cD_readHead 9 = .ok (.bipush 79, 2) := by decide +kernel
theorem dD_readHead_11 : decode cD_readHead 11 = .ok (.invokevirtual 326, 3) := by decide +kernel
theorem dD_readHead_14 : decode cD_readHead 14 = .ok (.ifCond .ne 12, 3) := by decide +kernel
theorem dD_readHead_17 : decode cD_readHead 17 = .ok (.aload_n 0, 1) := by decide +kernel
theorem dD_readHead_18 : decode cD_readHead 18 = .ok (.aload_n 0, 1) := by decide +kernel
theorem dD_readHead_19 : decode cD_readHead 19 = .ok (.getfield 301, 3) := by decide +kernel
theorem dD_readHead_22 : decode cD_readHead 22 = .ok (.invokevirtual 278, 3) := by decide +kernel
theorem dD_readHead_25 : decode cD_readHead 25 = .ok (.ireturn, 1) := by decide +kernel
theorem dD_readHead_26 : decode cD_readHead 26 = .ok (.aload_n 0, 1) := by decide +kernel
theorem dD_readHead_27 : decode cD_readHead 27 = .ok (.dup, 1) := by decide +kernel
theorem dD_readHead_28 : decode cD_readHead 28 = .ok (.getfield 301, 3) := by decide +kernel
theorem dD_readHead_31 : decode cD_readHead 31 = .ok (.iconst 2, 1) := by decide +kernel
theorem dD_readHead_32 : decode cD_readHead 32 = .ok (.iadd, 1) := by decide +kernel
theorem dD_readHead_33 : decode cD_readHead 33 = .ok (.putfield 301, 3) := by decide +kernel
theorem dD_readHead_36 : decode cD_readHead 36 = .ok (.aload_n 0, 1) := by decide +kernel
theorem dD_readHead_37 : decode cD_readHead 37 = .ok (.invokevirtual 330, 3) := by decide +kernel
theorem dD_readHead_40 : decode cD_readHead 40 = .ok (.ifCond .ne 5, 3) := by decide +kernel
theorem dD_readHead_43 : decode cD_readHead 43 = .ok (.iconst 0, 1) := by decide +kernel
theorem dD_readHead_44 : decode cD_readHead 44 = .ok (.ireturn, 1) := by decide +kernel
theorem dD_readHead_45 : decode cD_readHead 45 = .ok (.aload_n 0, 1) := by decide +kernel
theorem dD_readHead_46 : decode cD_readHead 46 = .ok (.aload_n 0, 1) := by decide +kernel
theorem dD_readHead_47 : decode cD_readHead 47 = .ok (.getfield 301, 3) := by decide +kernel
theorem dD_readHead_50 : decode cD_readHead 50 = .ok (.aload_n 0, 1) := by decide +kernel
theorem dD_readHead_51 : decode cD_readHead 51 = .ok (.getfield 304, 3) := by decide +kernel
theorem dD_readHead_54 : decode cD_readHead 54 = .ok (.sipush 144, 3) := by decide +kernel
theorem dD_readHead_57 : decode cD_readHead 57 = .ok (.invokevirtual 326, 3) := by decide +kernel
theorem dD_readHead_60 : decode cD_readHead 60 = .ok (.ifCond .ne 85, 3) := by decide +kernel
theorem dD_readHead_63 : decode cD_readHead 63 = .ok (.aload_n 0, 1) := by decide +kernel
theorem dD_readHead_64 : decode cD_readHead 64 = .ok (.aload_n 0, 1) := by decide +kernel
theorem dD_readHead_65 : decode cD_readHead 65 = .ok (.getfield 301, 3) := by decide +kernel
theorem dD_readHead_68 : decode cD_readHead 68 = .ok (.aload_n 0, 1) := by decide +kernel
theorem dD_readHead_69 : decode cD_readHead 69 = .ok (.getfield 304, 3) := by decide +kernel
theorem dD_readHead_72 : decode cD_readHead 72 = .ok (.sipush 217, 3) := by decide +kernel
theorem dD_readHead_75 : decode cD_readHead 75 = .ok (.invokevirtual 326, 3) := by decide +kernel
theorem dD_readHead_78 : decode cD_readHead 78 = .ok (.ifCond .ne 67, 3) := by decide +kernel
theorem dD_readHead_81 : decode cD_readHead 81 = .ok (.aload_n 0, 1) := by decide +kernel
theorem dD_readHead_82 : decode cD_readHead 82 = .ok (.aload_n 0, 1) := by decide +kernel
theorem dD_readHead_83 : decode cD_readHead 83 = .ok (.getfield 301, 3) := by decide +kernel
theorem dD_readHead_86 : decode cD_readHead 86 = .ok (.aload_n 0, 1) := by decide +kernel
theorem dD_readHead_87 : decode cD_readHead 87 = .ok (.getfield 304, 3) := by decide +kernel
theorem dD_readHead_90 : decode cD_readHead 90 = .ok (.invokevirtual 333, 3) := by decide +kernel
theorem dD_readHead_93 : decode cD_readHead 93 = .ok (.istore_n 1, 1) := by decide +kernel
theorem dD_readHead_94 : decode cD_readHead 94 = .ok (.iload_n 1, 1) := by decide +kernel
theorem dD_readHead_95 : decode cD_readHead 95 = .ok (.iconst (-1), 1) := by decide +kernel
theorem dD_readHead_96 : decode cD_readHead 96 = .ok (.if_icmp .eq 32, 3) := by decide +kernel
theorem dD_readHead_99 : decode cD_readHead 99 = .ok (.aload_n 0, 1) := by decide +kernel
theorem dD_readHead_100 : decode cD_readHead 100 = .ok (.getfield 60, 3) := by decide +kernel
theorem dD_readHead_103 : decode cD_readHead 103 = .ok (.aload_n 0, 1) := by decide +kernel
theorem dD_readHead_104 : decode cD_readHead 104 = .ok (.getfield 301, 3) := by decide +kernel
theorem dD_readHead_107 : decode cD_readHead 107 = .ok (.iconst 1, 1) := by decide +kernel
theorem dD_readHead_108 : decode cD_readHead 108 = .ok (.iadd, 1) := by decide +kernel
theorem dD_readHead_109 : decode cD_readHead 109 = .ok (.iaload, 1) := by decide +kernel
theorem dD_readHead_110 : decode cD_readHead 110 = .ok (.invokestatic 336, 3) := by decide +kernel
theorem dD_readHead_113 : decode cD_readHead 113 = .ok (.ifCond .eq 24, 3) := by decide +kernel
theorem dD_readHead_116 : decode cD_readHead 116 = .ok (.aload_n 0, 1) := by decide +kernel
theorem dD_readHead_117 : decode cD_readHead 117 = .ok (.aload_n 0, 1) := by decide +kernel
theorem dD_readHead_118 : decode cD_readHead 118 = .ok (.getfield 301, 3) := by decide +kernel
theorem dD_readHead_121 : decode cD_readHead 121 = .ok (.iconst (-1), 1) := by decide +kernel
theorem dD_readHead_122 : decode cD_readHead 122 = .ok (.invokevirtual 339, 3) := by decide +kernel
theorem dD_readHead_125 : decode cD_readHead 125 = .ok (.ifCond .ne 12, 3) := by decide +kernel
theorem dD_readHead_128 : decode cD_readHead 128 = .ok (.aload_n 0, 1) := by decide +kernel
theorem dD_readHead_129 : decode cD_readHead 129 = .ok (.aload_n 0, 1) := by decide +kernel
theorem dD_readHead_130 : decode cD_readHead 130 = .ok (.getfield 301, 3) := by decide +kernel
theorem dD_readHead_133 : decode cD_readHead 133 = .ok (.invokevirtual 278, 3) := by decide +kernel
theorem dD_readHead_136 : decode cD_readHead 136 = .ok (.ireturn, 1) := by decide +kernel
theorem dD_readHead_137 : decode cD_readHead 137 = .ok (.aload_n 0, 1) := by decide +kernel
theorem dD_readHead_138 : decode cD_readHead 138 = .ok (.iload_n 1, 1) := by decide +kernel
theorem dD_readHead_139 : decode cD_readHead 139 = .ok (.putfield 301, 3) := by decide +kernel
theorem dD_readHead_142 : decode cD_readHead 142 = .ok (.goto (-97), 3) := by decide +kernel
theorem dD_readHead_145 : decode cD_readHead 145 = .ok (.aload_n 0, 1) := by decide +kernel
theorem dD_readHead_146 : decode cD_readHead 146 = .ok (.getfield 13, 3) := by decide +kernel
theorem dD_readHead_149 : decode cD_readHead 149 = .ok (.bipush 125, 2) := by decide +kernel
theorem dD_readHead_151 : decode cD_readHead 151 = .ok (.baload, 1) := by decide +kernel
theorem dD_readHead_152 : decode cD_readHead 152 = .ok (.ifCond .eq 13, 3) := by decide +kernel
theorem dD_readHead_155 : decode cD_readHead 155 = .ok (.aload_n 0, 1) := by decide +kernel
theorem dD_readHead_156 : decode cD_readHead 156 = .ok (.getfield 17, 3) := by decide +kernel
theorem dD_readHead_159 : decode cD_readHead 159 = .ok (.bipush 125, 2) := by decide +kernel
theorem dD_readHead_161 : decode cD_readHead 161 = .ok (.baload, 1) := by decide +kernel
theorem dD_readHead_162 : decode cD_readHead 162 = .ok (.ifCond .ne 14, 3) := by decide +kernel
theorem dD_readHead_165 : decode cD_readHead 165 = .ok (.aload_n 0, 1) := by decide +kernel
theorem dD_readHead_166 : decode cD_readHead 166 = .ok (.aload_n 0, 1) := by decide +kernel
theorem dD_readHead_167 : decode cD_readHead 167 = .ok (.getfield 301, 3) := by decide +kernel
theorem dD_readHead_170 : decode cD_readHead 170 = .ok (.invokevirtual 278, 3) := by decide +kernel
theorem dD_readHead_173 : decode cD_readHead 173 = .ok (.ifCond .eq 7, 3) := by decide +kernel
theorem dD_readHead_176 : decode cD_readHead 176 = .ok (.iconst 1, 1) := by decide +kernel
theorem dD_readHead_177 : decode cD_readHead 177 = .ok (.goto 4, 3) := by decide +kernel
theorem dD_readHead_180 : decode cD_readHead 180 = .ok (.iconst 0, 1) := by decide +kernel
theorem dD_readHead_181 : decode cD_readHead 181 = .ok (.ireturn, 1) := by decide +kernel
theorem dD_takeLengths_0 : decode cD_takeLengths 0 = .ok (.iload_n 2, 1) := by decide +kernel
theorem dD_takeLengths_1 : decode cD_takeLengths 1 = .ok (.iload_n 1, 1) := by decide +kernel
theorem dD_takeLengths_2 : decode cD_takeLengths 2 = .ok (.isub, 1) := by decide +kernel
theorem dD_takeLengths_3 : decode cD_takeLengths 3 = .ok (.iconst 5, 1) := by decide +kernel
theorem dD_takeLengths_4 : decode cD_takeLengths 4 = .ok (.if_icmp .ge 5, 3) := by decide +kernel
theorem dD_takeLengths_7 : decode cD_takeLengths 7 = .ok (.iconst 0, 1) := by decide +kernel
theorem dD_takeLengths_8 : decode cD_takeLengths 8 = .ok (.ireturn, 1) := by decide +kernel
theorem dD_takeLengths_9 : decode cD_takeLengths 9 = .ok (.iconst 0, 1) := by decide +kernel
theorem dD_takeLengths_10 : decode cD_takeLengths 10 = .ok (.istore_n 3, 1) := by decide +kernel
theorem dD_takeLengths_11 : decode cD_takeLengths 11 = .ok (.iload_n 1, 1) := by decide +kernel
theorem dD_takeLengths_12 : decode cD_takeLengths 12 = .ok (.iconst 5, 1) := by decide +kernel
theorem dD_takeLengths_13 : decode cD_takeLengths 13 = .ok (.iadd, 1) := by decide +kernel
theorem dD_takeLengths_14 : decode cD_takeLengths 14 = .ok (.istore 4, 2) := by decide +kernel
theorem dD_takeLengths_16 : decode cD_takeLengths 16 = .ok (.iload 4, 2) := by decide +kernel
theorem dD_takeLengths_18 : decode cD_takeLengths 18 = .ok (.iload_n 2, 1) := by decide +kernel
theorem dD_takeLengths_19 : decode cD_takeLengths 19 = .ok (.if_icmp .ge 83, 3) := by decide +kernel
theorem dD_takeLengths_22 : decode cD_takeLengths 22 = .ok (.sipush 128, 3) := by decide +kernel
theorem dD_takeLengths_25 : decode cD_takeLengths 25 = .ok (.iload_n 3, 1) := by decide +kernel
theorem dD_takeLengths_26 : decode cD_takeLengths 26 = .ok (.imul, 1) := by decide +kernel
theorem dD_takeLengths_27 : decode cD_takeLengths 27 = .ok (.aload_n 0, 1) := by decide +kernel
theorem dD_takeLengths_28 : decode cD_takeLengths 28 = .ok (.getfield 60, 3) := by decide +kernel
theorem dD_takeLengths_31 : decode cD_takeLengths 31 = .ok (.iload 4, 2) := by decide +kernel
theorem dD_takeLengths_33 : decode cD_takeLengths 33 = .ok (.iaload, 1) := by decide +kernel
theorem dD_takeLengths_34 : decode cD_takeLengths 34 = .ok (.sipush 128, 3) := by decide +kernel
theorem dD_takeLengths_37 : decode cD_takeLengths 37 = .ok (.irem, 1) := by decide +kernel
theorem dD_takeLengths_38 : decode cD_takeLengths 38 = .ok (.iadd, 1) := by decide +kernel
theorem dD_takeLengths_39 : decode cD_takeLengths 39 = .ok (.istore_n 3, 1) := by decide +kernel
theorem dD_takeLengths_40 : decode cD_takeLengths 40 = .ok (.iload_n 3, 1) := by decide +kernel
theorem dD_takeLengths_41 : decode cD_takeLengths 41 = .ok (.ldc_w 342, 3) := by decide +kernel
theorem dD_takeLengths_44 : decode cD_takeLengths 44 = .ok (.if_icmp .le 5, 3) := by decide +kernel
theorem dD_takeLengths_47 : decode cD_takeLengths 47 = .ok (.iconst 0, 1) := by decide +kernel
theorem dD_takeLengths_48 : decode cD_takeLengths 48 = .ok (.ireturn, 1) := by decide +kernel
theorem dD_takeLengths_49 : decode cD_takeLengths 49 = .ok (.aload_n 0, 1) := by decide +kernel
theorem dD_takeLengths_50 : decode cD_takeLengths 50 = .ok (.getfield 60, 3) := by decide +kernel
theorem dD_takeLengths_53 : decode cD_takeLengths 53 = .ok (.iload 4, 2) := by decide +kernel
theorem dD_takeLengths_55 : decode cD_takeLengths 55 = .ok (.iaload, 1) := by decide +kernel
theorem dD_takeLengths_56 : decode cD_takeLengths 56 = .ok (.sipush 128, 3) := by decide +kernel
theorem dD_takeLengths_59 : decode cD_takeLengths 59 = .ok (.if_icmp .ge 37, 3) := by decide +kernel
theorem dD_takeLengths_62 : decode cD_takeLengths 62 = .ok (.aload_n 0, 1) := by decide +kernel
theorem dD_takeLengths_63 : decode cD_takeLengths 63 = .ok (.getfield 343, 3) := by decide +kernel
theorem dD_takeLengths_66 : decode cD_takeLengths 66 = .ok (.sipush 200, 3) := by decide +kernel
theorem dD_takeLengths_69 : decode cD_takeLengths 69 = .ok (.if_icmp .ne 5, 3) := by decide +kernel
theorem dD_takeLengths_72 : decode cD_takeLengths 72 = .ok (.iconst 0, 1) := by decide +kernel
theorem dD_takeLengths_73 : decode cD_takeLengths 73 = .ok (.ireturn, 1) := by decide +kernel
theorem dD_takeLengths_74 : decode cD_takeLengths 74 = .ok (.aload_n 0, 1) := by decide +kernel
theorem dD_takeLengths_75 : decode cD_takeLengths 75 = .ok (.getfield 93, 3) := by decide +kernel
theorem dD_takeLengths_78 : decode cD_takeLengths 78 = .ok (.aload_n 0, 1) := by decide +kernel
theorem dD_takeLengths_79 : decode cD_takeLengths 79 = .ok (.getfield 343, 3) := by decide +kernel
theorem dD_takeLengths_82 : decode cD_takeLengths 82 = .ok (.iload_n 3, 1) := by decide +kernel
theorem dD_takeLengths_83 : decode cD_takeLengths 83 = .ok (.iastore, 1) := by decide +kernel
theorem dD_takeLengths_84 : decode cD_takeLengths 84 = .ok (.aload_n 0, 1) := by decide +kernel
theorem dD_takeLengths_85 : decode cD_takeLengths 85 = .ok (.dup, 1) := by decide +kernel
theorem dD_takeLengths_86 : decode cD_takeLengths 86 = .ok (.getfield 343, 3) := by decide +kernel
theorem dD_takeLengths_89 : decode cD_takeLengths 89 = .ok (.iconst 1, 1) := by decide +kernel
theorem dD_takeLengths_90 : decode cD_takeLengths 90 = .ok (.iadd, 1) := by decide +kernel
theorem dD_takeLengths_91 : decode cD_takeLengths 91 = .ok (.putfield 343, 3) := by decide +kernel
theorem dD_takeLengths_94 : decode cD_takeLengths 94 = .ok (.iconst 0, 1) := by decide +kernel
theorem dD_takeLengths_95 : decode cD_takeLengths 95 = .ok (.istore_n 3, 1) := by decide +kernel
theorem dD_takeLengths_96 : decode cD_takeLengths 96 = .ok (.iinc 4 1, 3) := by decide +kernel
theorem dD_takeLengths_99 : decode cD_takeLengths 99 = .ok (.goto (-83), 3) := by decide +kernel
theorem dD_takeLengths_102 : decode cD_takeLengths 102 = .ok (.iconst 1, 1) := by decide +kernel
theorem dD_takeLengths_103 : decode cD_takeLengths 103 = .ok (.ireturn, 1) := by decide +kernel
theorem dD_headOf_0 : decode cD_headOf 0 = .ok (.iload_n 1, 1) := by decide +kernel
theorem dD_headOf_1 : decode cD_headOf 1 = .ok (.istore 5, 2) := by decide +kernel
theorem dD_headOf_3 : decode cD_headOf 3 = .ok (.aload_n 0, 1) := by decide +kernel
theorem dD_headOf_4 : decode cD_headOf 4 = .ok (.iconst 0, 1) := by decide +kernel
theorem dD_headOf_5 : decode cD_headOf 5 = .ok (.putfield 343, 3) := by decide +kernel
theorem dD_headOf_8 : decode cD_headOf 8 = .ok (.aload_n 0, 1) := by decide +kernel
theorem dD_headOf_9 : decode cD_headOf 9 = .ok (.iload 5, 2) := by decide +kernel
theorem dD_headOf_11 : decode cD_headOf 11 = .ok (.iload_n 2, 1) := by decide +kernel
theorem dD_headOf_12 : decode cD_headOf 12 = .ok (.sipush 147, 3) := by decide +kernel
theorem dD_headOf_15 : decode cD_headOf 15 = .ok (.invokevirtual 326, 3) := by decide +kernel
theorem dD_headOf_18 : decode cD_headOf 18 = .ok (.ifCond .ne 88, 3) := by decide +kernel
theorem dD_headOf_21 : decode cD_headOf 21 = .ok (.aload_n 0, 1) := by decide +kernel
theorem dD_headOf_22 : decode cD_headOf 22 = .ok (.iload 5, 2) := by decide +kernel
theorem dD_headOf_24 : decode cD_headOf 24 = .ok (.iload_n 2, 1) := by decide +kernel
theorem dD_headOf_25 : decode cD_headOf 25 = .ok (.invokevirtual 333, 3) := by decide +kernel
theorem dD_headOf_28 : decode cD_headOf 28 = .ok (.istore 6, 2) := by decide +kernel
theorem dD_headOf_30 : decode cD_headOf 30 = .ok (.iload 6, 2) := by decide +kernel
theorem dD_headOf_32 : decode cD_headOf 32 = .ok (.iconst (-1), 1) := by decide +kernel
theorem dD_headOf_33 : decode cD_headOf 33 = .ok (.if_icmp .ne 5, 3) := by decide +kernel
theorem dD_headOf_36 : decode cD_headOf 36 = .ok (.iconst (-1), 1) := by decide +kernel
theorem dD_headOf_37 : decode cD_headOf 37 = .ok (.ireturn, 1) := by decide +kernel
theorem dD_headOf_38 : decode cD_headOf 38 = .ok (.aload_n 0, 1) := by decide +kernel
theorem dD_headOf_39 : decode cD_headOf 39 = .ok (.getfield 60, 3) := by decide +kernel
theorem dD_headOf_42 : decode cD_headOf 42 = .ok (.iload 5, 2) := by decide +kernel
theorem dD_headOf_44 : decode cD_headOf 44 = .ok (.iconst 1, 1) := by decide +kernel
theorem dD_headOf_45 : decode cD_headOf 45 = .ok (.iadd, 1) := by decide +kernel
theorem dD_headOf_46 : decode cD_headOf 46 = .ok (.iaload, 1) := by decide +kernel
theorem dD_headOf_47 : decode cD_headOf 47 = .ok (.invokestatic 336, 3) := by decide +kernel
theorem dD_headOf_50 : decode cD_headOf 50 = .ok (.istore 7, 2) := by decide +kernel
theorem dD_headOf_52 : decode cD_headOf 52 = .ok (.iload 7, 2) := by decide +kernel
theorem dD_headOf_54 : decode cD_headOf 54 = .ok (.ifCond .eq 18, 3) := by decide +kernel
theorem dD_headOf_57 : decode cD_headOf 57 = .ok (.iload 4, 2) := by decide +kernel
theorem dD_headOf_59 : decode cD_headOf 59 = .ok (.ifCond .eq 38, 3) := by decide +kernel
theorem dD_headOf_62 : decode cD_headOf 62 = .ok (.aload_n 0, 1) := by decide +kernel
theorem dD_headOf_63 : decode cD_headOf 63 = .ok (.iload 5, 2) := by decide +kernel
theorem dD_headOf_65 : decode cD_headOf 65 = .ok (.iload_n 3, 1) := by decide +kernel
theorem dD_headOf_66 : decode cD_headOf 66 = .ok (.invokevirtual 339, 3) := by decide +kernel
theorem dD_headOf_69 : decode cD_headOf 69 = .ok (.ifCond .eq 28, 3) := by decide +kernel
theorem dD_headOf_72 : decode cD_headOf 72 = .ok (.aload_n 0, 1) := by decide +kernel
theorem dD_headOf_73 : decode cD_headOf 73 = .ok (.getfield 60, 3) := by decide +kernel
theorem dD_headOf_76 : decode cD_headOf 76 = .ok (.iload 5, 2) := by decide +kernel
theorem dD_headOf_78 : decode cD_headOf 78 = .ok (.iconst 1, 1) := by decide +kernel
theorem dD_headOf_79 : decode cD_headOf 79 = .ok (.iadd, 1) := by decide +kernel
theorem dD_headOf_80 : decode cD_headOf 80 = .ok (.iaload, 1) := by decide +kernel
theorem dD_headOf_81 : decode cD_headOf 81 = .ok (.bipush 88, 2) := by decide +kernel
theorem dD_headOf_83 : decode cD_headOf 83 = .ok (.if_icmp .ne 16, 3) := by decide +kernel
theorem dD_headOf_86 : decode cD_headOf 86 = .ok (.aload_n 0, 1) := by decide +kernel
theorem dD_headOf_87 : decode cD_headOf 87 = .ok (.iload 5, 2) := by decide +kernel
theorem dD_headOf_89 : decode cD_headOf 89 = .ok (.iload 6, 2) := by decide +kernel
theorem dD_headOf_91 : decode cD_headOf 91 = .ok (.invokevirtual 346, 3) := by decide +kernel
theorem dD_headOf_94 : decode cD_headOf 94 = .ok (.ifCond .ne 5, 3) := by decide +kernel
theorem dD_headOf_97 : decode cD_headOf 97 = .ok (.iconst (-1), 1) := by decide +kernel
theorem dD_headOf_98 : decode cD_headOf 98 = .ok (.ireturn, 1) := by decide +kernel
theorem dD_headOf_99 : decode cD_headOf 99 = .ok (.iload 6, 2) := by decide +kernel
theorem dD_headOf_101 : decode cD_headOf 101 = .ok (.istore 5, 2) := by decide +kernel
theorem dD_headOf_103 : decode cD_headOf 103 = .ok (.goto (-95), 3) := by decide +kernel
theorem dD_headOf_106 : decode cD_headOf 106 = .ok (.iload 5, 2) := by decide +kernel
theorem dD_headOf_108 : decode cD_headOf 108 = .ok (.iconst 2, 1) := by decide +kernel
theorem dD_headOf_109 : decode cD_headOf 109 = .ok (.iadd, 1) := by decide +kernel
theorem dD_headOf_110 : decode cD_headOf 110 = .ok (.ireturn, 1) := by decide +kernel
theorem dD_forget_0 : decode cD_forget 0 = .ok (.iconst (-1), 1) := by decide +kernel
theorem dD_forget_1 : decode cD_forget 1 = .ok (.istore_n 2, 1) := by decide +kernel
theorem dD_forget_2 : decode cD_forget 2 = .ok (.iload_n 2, 1) := by decide +kernel
theorem dD_forget_3 : decode cD_forget 3 = .ok (.iconst 4, 1) := by decide +kernel
theorem dD_forget_4 : decode cD_forget 4 = .ok (.if_icmp .ge 37, 3) := by decide +kernel
theorem dD_forget_7 : decode cD_forget 7 = .ok (.aload_n 0, 1) := by decide +kernel
theorem dD_forget_8 : decode cD_forget 8 = .ok (.getfield 13, 3) := by decide +kernel
theorem dD_forget_11 : decode cD_forget 11 = .ok (.bipush 125, 2) := by decide +kernel
theorem dD_forget_13 : decode cD_forget 13 = .ok (.iload_n 1, 1) := by decide +kernel
theorem dD_forget_14 : decode cD_forget 14 = .ok (.iload_n 2, 1) := by decide +kernel
theorem dD_forget_15 : decode cD_forget 15 = .ok (.invokestatic 121, 3) := by decide +kernel
theorem dD_forget_18 : decode cD_forget 18 = .ok (.iadd, 1) := by decide +kernel
theorem dD_forget_19 : decode cD_forget 19 = .ok (.iconst 0, 1) := by decide +kernel
theorem dD_forget_20 : decode cD_forget 20 = .ok (.bastore, 1) := by decide +kernel
theorem dD_forget_21 : decode cD_forget 21 = .ok (.aload_n 0, 1) := by decide +kernel
theorem dD_forget_22 : decode cD_forget 22 = .ok (.getfield 17, 3) := by decide +kernel
theorem dD_forget_25 : decode cD_forget 25 = .ok (.bipush 125, 2) := by decide +kernel
theorem dD_forget_27 : decode cD_forget 27 = .ok (.iload_n 1, 1) := by decide +kernel
theorem dD_forget_28 : decode cD_forget 28 = .ok (.iload_n 2, 1) := by decide +kernel
theorem dD_forget_29 : decode cD_forget 29 = .ok (.invokestatic 121, 3) := by decide +kernel
theorem dD_forget_32 : decode cD_forget 32 = .ok (.iadd, 1) := by decide +kernel
theorem dD_forget_33 : decode cD_forget 33 = .ok (.iconst 0, 1) := by decide +kernel
theorem dD_forget_34 : decode cD_forget 34 = .ok (.bastore, 1) := by decide +kernel
theorem dD_forget_35 : decode cD_forget 35 = .ok (.iinc 2 1, 3) := by decide +kernel
theorem dD_forget_38 : decode cD_forget 38 = .ok (.goto (-36), 3) := by decide +kernel
theorem dD_forget_41 : decode cD_forget 41 = .ok (.return_, 1) := by decide +kernel
theorem dD_takePackets_0 : decode cD_takePackets 0 = .ok (.lconst 0, 1) := by decide +kernel
theorem dD_takePackets_1 : decode cD_takePackets 1 = .ok (.lstore 5, 2) := by decide +kernel
theorem dD_takePackets_3 : decode cD_takePackets 3 = .ok (.iconst 0, 1) := by decide +kernel
theorem dD_takePackets_4 : decode cD_takePackets 4 = .ok (.istore 7, 2) := by decide +kernel
theorem dD_takePackets_6 : decode cD_takePackets 6 = .ok (.lconst 0, 1) := by decide +kernel
theorem dD_takePackets_7 : decode cD_takePackets 7 = .ok (.lstore 8, 2) := by decide +kernel
theorem dD_takePackets_9 : decode cD_takePackets 9 = .ok (.iconst 0, 1) := by decide +kernel
theorem dD_takePackets_10 : decode cD_takePackets 10 = .ok (.istore 10, 2) := by decide +kernel
theorem dD_takePackets_12 : decode cD_takePackets 12 = .ok (.iload 10, 2) := by decide +kernel
theorem dD_takePackets_14 : decode cD_takePackets 14 = .ok (.aload_n 0, 1) := by decide +kernel
theorem dD_takePackets_15 : decode cD_takePackets 15 = .ok (.getfield 343, 3) := by decide +kernel
theorem dD_takePackets_18 : decode cD_takePackets 18 = .ok (.if_icmp .ge 76, 3) := by decide +kernel
theorem dD_takePackets_21 : decode cD_takePackets 21 = .ok (.lload 5, 2) := by decide +kernel
theorem dD_takePackets_23 : decode cD_takePackets 23 = .ok (.aload_n 0, 1) := by decide +kernel
theorem dD_takePackets_24 : decode cD_takePackets 24 = .ok (.getfield 93, 3) := by decide +kernel
theorem dD_takePackets_27 : decode cD_takePackets 27 = .ok (.iload 10, 2) := by decide +kernel
theorem dD_takePackets_29 : decode cD_takePackets 29 = .ok (.iaload, 1) := by decide +kernel
theorem dD_takePackets_30 : decode cD_takePackets 30 = .ok (.i2l, 1) := by decide +kernel
theorem dD_takePackets_31 : decode cD_takePackets 31 = .ok (.ladd, 1) := by decide +kernel
theorem dD_takePackets_32 : decode cD_takePackets 32 = .ok (.lstore 5, 2) := by decide +kernel
theorem dD_takePackets_34 : decode cD_takePackets 34 = .ok (.iload 7, 2) := by decide +kernel
theorem dD_takePackets_36 : decode cD_takePackets 36 = .ok (.iload 10, 2) := by decide +kernel
theorem dD_takePackets_38 : decode cD_takePackets 38 = .ok (.if_icmp .ne 18, 3) := by decide +kernel
theorem dD_takePackets_41 : decode cD_takePackets 41 = .ok (.iload_n 2, 1) := by decide +kernel
theorem dD_takePackets_42 : decode cD_takePackets 42 = .ok (.i2l, 1) := by decide +kernel
theorem dD_takePackets_43 : decode cD_takePackets 43 = .ok (.lload 5, 2) := by decide +kernel
theorem dD_takePackets_45 : decode cD_takePackets 45 = .ok (.ladd, 1) := by decide +kernel
theorem dD_takePackets_46 : decode cD_takePackets 46 = .ok (.iload_n 3, 1) := by decide +kernel
theorem dD_takePackets_47 : decode cD_takePackets 47 = .ok (.i2l, 1) := by decide +kernel
theorem dD_takePackets_48 : decode cD_takePackets 48 = .ok (.lcmp, 1) := by decide +kernel
theorem dD_takePackets_49 : decode cD_takePackets 49 = .ok (.ifCond .gt 7, 3) := by decide +kernel
theorem dD_takePackets_52 : decode cD_takePackets 52 = .ok (.iconst 1, 1) := by decide +kernel
theorem dD_takePackets_53 : decode cD_takePackets 53 = .ok (.goto 4, 3) := by decide +kernel
theorem dD_takePackets_56 : decode cD_takePackets 56 = .ok (.iconst 0, 1) := by decide +kernel
theorem dD_takePackets_57 : decode cD_takePackets 57 = .ok (.istore 11, 2) := by decide +kernel
theorem dD_takePackets_59 : decode cD_takePackets 59 = .ok (.iload 7, 2) := by decide +kernel
theorem dD_takePackets_61 : decode cD_takePackets 61 = .ok (.iload 11, 2) := by decide +kernel
theorem dD_takePackets_63 : decode cD_takePackets 63 = .ok (.ifCond .eq 7, 3) := by decide +kernel
theorem dD_takePackets_66 : decode cD_takePackets 66 = .ok (.iconst 1, 1) := by decide +kernel
theorem dD_takePackets_67 : decode cD_takePackets 67 = .ok (.goto 4, 3) := by decide +kernel
theorem dD_takePackets_70 : decode cD_takePackets 70 = .ok (.iconst 0, 1) := by decide +kernel
theorem dD_takePackets_71 : decode cD_takePackets 71 = .ok (.iadd, 1) := by decide +kernel
theorem dD_takePackets_72 : decode cD_takePackets 72 = .ok (.istore 7, 2) := by decide +kernel
theorem dD_takePackets_74 : decode cD_takePackets 74 = .ok (.iload 11, 2) := by decide +kernel
theorem dD_takePackets_76 : decode cD_takePackets 76 = .ok (.ifCond .eq 8, 3) := by decide +kernel
theorem dD_takePackets_79 : decode cD_takePackets 79 = .ok (.lload 5, 2) := by decide +kernel
theorem dD_takePackets_81 : decode cD_takePackets 81 = .ok (.goto 5, 3) := by decide +kernel
theorem dD_takePackets_84 : decode cD_takePackets 84 = .ok (.lload 8, 2) := by decide +kernel
theorem dD_takePackets_86 : decode cD_takePackets 86 = .ok (.lstore 8, 2) := by decide +kernel
theorem dD_takePackets_88 : decode cD_takePackets 88 = .ok (.iinc 10 1, 3) := by decide +kernel
theorem dD_takePackets_91 : decode cD_takePackets 91 = .ok (.goto (-79), 3) := by decide +kernel
theorem dD_takePackets_94 : decode cD_takePackets 94 = .ok (.iload 4, 2) := by decide +kernel
theorem dD_takePackets_96 : decode cD_takePackets 96 = .ok (.ifCond .ne 21, 3) := by decide +kernel
theorem dD_takePackets_99 : decode cD_takePackets 99 = .ok (.lload 5, 2) := by decide +kernel
theorem dD_takePackets_101 : decode cD_takePackets 101 = .ok (.iload_n 3, 1) := by decide +kernel
theorem dD_takePackets_102 : decode cD_takePackets 102 = .ok (.iload_n 2, 1) := by decide +kernel
theorem dD_takePackets_103 : decode cD_takePackets 103 = .ok (.isub, 1) := by decide +kernel
theorem dD_takePackets_104 : decode cD_takePackets 104 = .ok (.i2l, 1) := by decide +kernel
theorem dD_takePackets_105 : decode cD_takePackets 105 = .ok (.lcmp, 1) := by decide +kernel
theorem dD_takePackets_106 : decode cD_takePackets 106 = .ok (.ifCond .eq 11, 3) := by decide +kernel
theorem dD_takePackets_109 : decode cD_takePackets 109 = .ok (.aload_n 0, 1) := by decide +kernel
theorem dD_takePackets_110 : decode cD_takePackets 110 = .ok (.getfield 84, 3) := by decide +kernel
theorem dD_takePackets_113 : decode cD_takePackets 113 = .ok (.iload_n 1, 1) := by decide +kernel
theorem dD_takePackets_114 : decode cD_takePackets 114 = .ok (.iconst 1, 1) := by decide +kernel
theorem dD_takePackets_115 : decode cD_takePackets 115 = .ok (.bastore, 1) := by decide +kernel
theorem dD_takePackets_116 : decode cD_takePackets 116 = .ok (.return_, 1) := by decide +kernel
theorem dD_takePackets_117 : decode cD_takePackets 117 = .ok (.aload_n 0, 1) := by decide +kernel
theorem dD_takePackets_118 : decode cD_takePackets 118 = .ok (.getfield 75, 3) := by decide +kernel
theorem dD_takePackets_121 : decode cD_takePackets 121 = .ok (.iload_n 1, 1) := by decide +kernel
theorem dD_takePackets_122 : decode cD_takePackets 122 = .ok (.iload_n 2, 1) := by decide +kernel
theorem dD_takePackets_123 : decode cD_takePackets 123 = .ok (.iastore, 1) := by decide +kernel
theorem dD_takePackets_124 : decode cD_takePackets 124 = .ok (.aload_n 0, 1) := by decide +kernel
theorem dD_takePackets_125 : decode cD_takePackets 125 = .ok (.getfield 78, 3) := by decide +kernel
theorem dD_takePackets_128 : decode cD_takePackets 128 = .ok (.iload_n 1, 1) := by decide +kernel
theorem dD_takePackets_129 : decode cD_takePackets 129 = .ok (.lload 8, 2) := by decide +kernel
theorem dD_takePackets_131 : decode cD_takePackets 131 = .ok (.l2i, 1) := by decide +kernel
theorem dD_takePackets_132 : decode cD_takePackets 132 = .ok (.iastore, 1) := by decide +kernel
theorem dD_takePackets_133 : decode cD_takePackets 133 = .ok (.aload_n 0, 1) := by decide +kernel
theorem dD_takePackets_134 : decode cD_takePackets 134 = .ok (.getfield 81, 3) := by decide +kernel
theorem dD_takePackets_137 : decode cD_takePackets 137 = .ok (.iload_n 1, 1) := by decide +kernel
theorem dD_takePackets_138 : decode cD_takePackets 138 = .ok (.iload 7, 2) := by decide +kernel
