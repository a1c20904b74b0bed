theorem dWriter_sizes_157 : decode cWriter_sizes 157 = .ok (.aload_n 0, 1) := by decide +kernel
theorem dWriter_sizes_158 : decode cWriter_sizes 158 = .ok (.getfield 14, 3) := by decide +kernel
theorem dWriter_sizes_161 : decode cWriter_sizes 161 = .ok (.iconst 1, 1) := by decide +kernel
theorem dWriter_sizes_162 : decode cWriter_sizes 162 = .ok (.invokevirtual 68, 3) := by decide +kernel
theorem dWriter_sizes_165 : decode cWriter_sizes 165 = .ok (.pop, 1) := by decide +kernel
theorem dWriter_sizes_166 : decode cWriter_sizes 166 = .ok (.aload_n 0, 1) := by decide +kernel
theorem dWriter_sizes_167 : decode cWriter_sizes 167 = .ok (.getfield 14, 3) := by decide +kernel
theorem dWriter_sizes_170 : decode cWriter_sizes 170 = .ok (.iconst 1, 1) := by decide +kernel
theorem dWriter_sizes_171 : decode cWriter_sizes 171 = .ok (.invokevirtual 68, 3) := by decide +kernel
theorem dWriter_sizes_174 : decode cWriter_sizes 174 = .ok (.pop, 1) := by decide +kernel
theorem dWriter_sizes_175 : decode cWriter_sizes 175 = .ok (.iinc 3 1, 3) := by decide +kernel
theorem dWriter_sizes_178 : decode cWriter_sizes 178 = .ok (.goto (-43), 3) := by decide +kernel
theorem dWriter_sizes_181 : decode cWriter_sizes 181 = .ok (.return_, 1) := by decide +kernel
theorem dWriter_style_0 : decode cWriter_style 0 = .ok (.iload_n 3, 1) := by decide +kernel
theorem dWriter_style_1 : decode cWriter_style 1 = .ok (.iconst (-1), 1) := by decide +kernel
theorem dWriter_style_2 : decode cWriter_style 2 = .ok (.if_icmp .ne 61, 3) := by decide +kernel
theorem dWriter_style_5 : decode cWriter_style 5 = .ok (.aload_n 0, 1) := by decide +kernel
theorem dWriter_style_6 : decode cWriter_style 6 = .ok (.bipush 82, 2) := by decide +kernel
theorem dWriter_style_8 : decode cWriter_style 8 = .ok (.invokevirtual 101, 3) := by decide +kernel
theorem dWriter_style_11 : decode cWriter_style 11 = .ok (.aload_n 0, 1) := by decide +kernel
theorem dWriter_style_12 : decode cWriter_style 12 = .ok (.getfield 14, 3) := by decide +kernel
theorem dWriter_style_15 : decode cWriter_style 15 = .ok (.bipush 12, 2) := by decide +kernel
theorem dWriter_style_17 : decode cWriter_style 17 = .ok (.iconst 2, 1) := by decide +kernel
theorem dWriter_style_18 : decode cWriter_style 18 = .ok (.invokevirtual 24, 3) := by decide +kernel
theorem dWriter_style_21 : decode cWriter_style 21 = .ok (.aload_n 0, 1) := by decide +kernel
theorem dWriter_style_22 : decode cWriter_style 22 = .ok (.getfield 14, 3) := by decide +kernel
theorem dWriter_style_25 : decode cWriter_style 25 = .ok (.iconst 0, 1) := by decide +kernel
theorem dWriter_style_26 : decode cWriter_style 26 = .ok (.invokevirtual 68, 3) := by decide +kernel
theorem dWriter_style_29 : decode cWriter_style 29 = .ok (.pop, 1) := by decide +kernel
theorem dWriter_style_30 : decode cWriter_style 30 = .ok (.aload_n 0, 1) := by decide +kernel
theorem dWriter_style_31 : decode cWriter_style 31 = .ok (.getfield 14, 3) := by decide +kernel
theorem dWriter_style_34 : decode cWriter_style 34 = .ok (.aload_n 1, 1) := by decide +kernel
theorem dWriter_style_35 : decode cWriter_style 35 = .ok (.iconst 4, 1) := by decide +kernel
theorem dWriter_style_36 : decode cWriter_style 36 = .ok (.iload_n 2, 1) := by decide +kernel
theorem dWriter_style_37 : decode cWriter_style 37 = .ok (.iconst (-1), 1) := by decide +kernel
theorem dWriter_style_38 : decode cWriter_style 38 = .ok (.invokevirtual 57, 3) := by decide +kernel
theorem dWriter_style_41 : decode cWriter_style 41 = .ok (.invokevirtual 68, 3) := by decide +kernel
theorem dWriter_style_44 : decode cWriter_style 44 = .ok (.pop, 1) := by decide +kernel
theorem dWriter_style_45 : decode cWriter_style 45 = .ok (.aload_n 0, 1) := by decide +kernel
theorem dWriter_style_46 : decode cWriter_style 46 = .ok (.getfield 14, 3) := by decide +kernel
theorem dWriter_style_49 : decode cWriter_style 49 = .ok (.aload_n 1, 1) := by decide +kernel
theorem dWriter_style_50 : decode cWriter_style 50 = .ok (.iconst 5, 1) := by decide +kernel
theorem dWriter_style_51 : decode cWriter_style 51 = .ok (.iload_n 2, 1) := by decide +kernel
theorem dWriter_style_52 : decode cWriter_style 52 = .ok (.iconst (-1), 1) := by decide +kernel
theorem dWriter_style_53 : decode cWriter_style 53 = .ok (.invokevirtual 57, 3) := by decide +kernel
theorem dWriter_style_56 : decode cWriter_style 56 = .ok (.iconst 2, 1) := by decide +kernel
theorem dWriter_style_57 : decode cWriter_style 57 = .ok (.invokevirtual 24, 3) := by decide +kernel
theorem dWriter_style_60 : decode cWriter_style 60 = .ok (.goto 28, 3) := by decide +kernel
theorem dWriter_style_63 : decode cWriter_style 63 = .ok (.aload_n 0, 1) := by decide +kernel
theorem dWriter_style_64 : decode cWriter_style 64 = .ok (.bipush 83, 2) := by decide +kernel
theorem dWriter_style_66 : decode cWriter_style 66 = .ok (.invokevirtual 101, 3) := by decide +kernel
theorem dWriter_style_69 : decode cWriter_style 69 = .ok (.aload_n 0, 1) := by decide +kernel
theorem dWriter_style_70 : decode cWriter_style 70 = .ok (.getfield 14, 3) := by decide +kernel
theorem dWriter_style_73 : decode cWriter_style 73 = .ok (.bipush 9, 2) := by decide +kernel
theorem dWriter_style_75 : decode cWriter_style 75 = .ok (.iconst 2, 1) := by decide +kernel
theorem dWriter_style_76 : decode cWriter_style 76 = .ok (.invokevirtual 24, 3) := by decide +kernel
theorem dWriter_style_79 : decode cWriter_style 79 = .ok (.aload_n 0, 1) := by decide +kernel
theorem dWriter_style_80 : decode cWriter_style 80 = .ok (.getfield 14, 3) := by decide +kernel
theorem dWriter_style_83 : decode cWriter_style 83 = .ok (.iload_n 3, 1) := by decide +kernel
theorem dWriter_style_84 : decode cWriter_style 84 = .ok (.invokevirtual 68, 3) := by decide +kernel
theorem dWriter_style_87 : decode cWriter_style 87 = .ok (.pop, 1) := by decide +kernel
theorem dWriter_style_88 : decode cWriter_style 88 = .ok (.aload_n 1, 1) := by decide +kernel
theorem dWriter_style_89 : decode cWriter_style 89 = .ok (.bipush 7, 2) := by decide +kernel
theorem dWriter_style_91 : decode cWriter_style 91 = .ok (.iload_n 2, 1) := by decide +kernel
theorem dWriter_style_92 : decode cWriter_style 92 = .ok (.iload_n 3, 1) := by decide +kernel
theorem dWriter_style_93 : decode cWriter_style 93 = .ok (.invokevirtual 57, 3) := by decide +kernel
theorem dWriter_style_96 : decode cWriter_style 96 = .ok (.iconst 2, 1) := by decide +kernel
theorem dWriter_style_97 : decode cWriter_style 97 = .ok (.isub, 1) := by decide +kernel
theorem dWriter_style_98 : decode cWriter_style 98 = .ok (.istore 4, 2) := by decide +kernel
theorem dWriter_style_100 : decode cWriter_style 100 = .ok (.aload_n 0, 1) := by decide +kernel
theorem dWriter_style_101 : decode cWriter_style 101 = .ok (.getfield 14, 3) := by decide +kernel
theorem dWriter_style_104 : decode cWriter_style 104 = .ok (.iconst 0, 1) := by decide +kernel
theorem dWriter_style_105 : decode cWriter_style 105 = .ok (.invokevirtual 68, 3) := by decide +kernel
theorem dWriter_style_108 : decode cWriter_style 108 = .ok (.pop, 1) := by decide +kernel
theorem dWriter_style_109 : decode cWriter_style 109 = .ok (.aload_n 0, 1) := by decide +kernel
theorem dWriter_style_110 : decode cWriter_style 110 = .ok (.getfield 14, 3) := by decide +kernel
theorem dWriter_style_113 : decode cWriter_style 113 = .ok (.aload_n 1, 1) := by decide +kernel
theorem dWriter_style_114 : decode cWriter_style 114 = .ok (.bipush 6, 2) := by decide +kernel
theorem dWriter_style_116 : decode cWriter_style 116 = .ok (.iload_n 2, 1) := by decide +kernel
theorem dWriter_style_117 : decode cWriter_style 117 = .ok (.iload_n 3, 1) := by decide +kernel
theorem dWriter_style_118 : decode cWriter_style 118 = .ok (.invokevirtual 57, 3) := by decide +kernel
theorem dWriter_style_121 : decode cWriter_style 121 = .ok (.invokevirtual 68, 3) := by decide +kernel
theorem dWriter_style_124 : decode cWriter_style 124 = .ok (.pop, 1) := by decide +kernel
theorem dWriter_style_125 : decode cWriter_style 125 = .ok (.aload_n 0, 1) := by decide +kernel
theorem dWriter_style_126 : decode cWriter_style 126 = .ok (.getfield 14, 3) := by decide +kernel
theorem dWriter_style_129 : decode cWriter_style 129 = .ok (.iload 4, 2) := by decide +kernel
theorem dWriter_style_131 : decode cWriter_style 131 = .ok (.invokevirtual 68, 3) := by decide +kernel
theorem dWriter_style_134 : decode cWriter_style 134 = .ok (.pop, 1) := by decide +kernel
theorem dWriter_style_135 : decode cWriter_style 135 = .ok (.aload_n 0, 1) := by decide +kernel
theorem dWriter_style_136 : decode cWriter_style 136 = .ok (.getfield 14, 3) := by decide +kernel
theorem dWriter_style_139 : decode cWriter_style 139 = .ok (.iload 4, 2) := by decide +kernel
theorem dWriter_style_141 : decode cWriter_style 141 = .ok (.invokevirtual 68, 3) := by decide +kernel
theorem dWriter_style_144 : decode cWriter_style 144 = .ok (.pop, 1) := by decide +kernel
theorem dWriter_style_145 : decode cWriter_style 145 = .ok (.aload_n 0, 1) := by decide +kernel
theorem dWriter_style_146 : decode cWriter_style 146 = .ok (.getfield 14, 3) := by decide +kernel
theorem dWriter_style_149 : decode cWriter_style 149 = .ok (.iconst 0, 1) := by decide +kernel
theorem dWriter_style_150 : decode cWriter_style 150 = .ok (.invokevirtual 68, 3) := by decide +kernel
theorem dWriter_style_153 : decode cWriter_style 153 = .ok (.pop, 1) := by decide +kernel
theorem dWriter_style_154 : decode cWriter_style 154 = .ok (.aload_n 0, 1) := by decide +kernel
theorem dWriter_style_155 : decode cWriter_style 155 = .ok (.getfield 14, 3) := by decide +kernel
theorem dWriter_style_158 : decode cWriter_style 158 = .ok (.aload_n 1, 1) := by decide +kernel
theorem dWriter_style_159 : decode cWriter_style 159 = .ok (.bipush 8, 2) := by decide +kernel
theorem dWriter_style_161 : decode cWriter_style 161 = .ok (.iload_n 2, 1) := by decide +kernel
theorem dWriter_style_162 : decode cWriter_style 162 = .ok (.iload_n 3, 1) := by decide +kernel
theorem dWriter_style_163 : decode cWriter_style 163 = .ok (.invokevirtual 57, 3) := by decide +kernel
theorem dWriter_style_166 : decode cWriter_style 166 = .ok (.invokevirtual 68, 3) := by decide +kernel
theorem dWriter_style_169 : decode cWriter_style 169 = .ok (.pop, 1) := by decide +kernel
theorem dWriter_style_170 : decode cWriter_style 170 = .ok (.return_, 1) := by decide +kernel
theorem dWriter_step_0 : decode cWriter_step 0 = .ok (.iload_n 3, 1) := by decide +kernel
theorem dWriter_step_1 : decode cWriter_step 1 = .ok (.iconst (-1), 1) := by decide +kernel
theorem dWriter_step_2 : decode cWriter_step 2 = .ok (.if_icmp .ne 21, 3) := by decide +kernel
theorem dWriter_step_5 : decode cWriter_step 5 = .ok (.aload_n 0, 1) := by decide +kernel
theorem dWriter_step_6 : decode cWriter_step 6 = .ok (.bipush 92, 2) := by decide +kernel
theorem dWriter_step_8 : decode cWriter_step 8 = .ok (.invokevirtual 101, 3) := by decide +kernel
theorem dWriter_step_11 : decode cWriter_step 11 = .ok (.aload_n 0, 1) := by decide +kernel
theorem dWriter_step_12 : decode cWriter_step 12 = .ok (.getfield 14, 3) := by decide +kernel
theorem dWriter_step_15 : decode cWriter_step 15 = .ok (.iconst 5, 1) := by decide +kernel
theorem dWriter_step_16 : decode cWriter_step 16 = .ok (.iconst 2, 1) := by decide +kernel
theorem dWriter_step_17 : decode cWriter_step 17 = .ok (.invokevirtual 24, 3) := by decide +kernel
theorem dWriter_step_20 : decode cWriter_step 20 = .ok (.goto 28, 3) := by decide +kernel
theorem dWriter_step_23 : decode cWriter_step 23 = .ok (.aload_n 0, 1) := by decide +kernel
theorem dWriter_step_24 : decode cWriter_step 24 = .ok (.bipush 93, 2) := by decide +kernel
theorem dWriter_step_26 : decode cWriter_step 26 = .ok (.invokevirtual 101, 3) := by decide +kernel
theorem dWriter_step_29 : decode cWriter_step 29 = .ok (.aload_n 0, 1) := by decide +kernel
theorem dWriter_step_30 : decode cWriter_step 30 = .ok (.getfield 14, 3) := by decide +kernel
theorem dWriter_step_33 : decode cWriter_step 33 = .ok (.bipush 6, 2) := by decide +kernel
theorem dWriter_step_35 : decode cWriter_step 35 = .ok (.iconst 2, 1) := by decide +kernel
theorem dWriter_step_36 : decode cWriter_step 36 = .ok (.invokevirtual 24, 3) := by decide +kernel
theorem dWriter_step_39 : decode cWriter_step 39 = .ok (.aload_n 0, 1) := by decide +kernel
theorem dWriter_step_40 : decode cWriter_step 40 = .ok (.getfield 14, 3) := by decide +kernel
theorem dWriter_step_43 : decode cWriter_step 43 = .ok (.iload_n 3, 1) := by decide +kernel
theorem dWriter_step_44 : decode cWriter_step 44 = .ok (.invokevirtual 68, 3) := by decide +kernel
theorem dWriter_step_47 : decode cWriter_step 47 = .ok (.pop, 1) := by decide +kernel
theorem dWriter_step_48 : decode cWriter_step 48 = .ok (.aload_n 0, 1) := by decide +kernel
theorem dWriter_step_49 : decode cWriter_step 49 = .ok (.getfield 14, 3) := by decide +kernel
theorem dWriter_step_52 : decode cWriter_step 52 = .ok (.bipush 32, 2) := by decide +kernel
theorem dWriter_step_54 : decode cWriter_step 54 = .ok (.aload_n 1, 1) := by decide +kernel
theorem dWriter_step_55 : decode cWriter_step 55 = .ok (.bipush 10, 2) := by decide +kernel
theorem dWriter_step_57 : decode cWriter_step 57 = .ok (.iload_n 2, 1) := by decide +kernel
theorem dWriter_step_58 : decode cWriter_step 58 = .ok (.iload_n 3, 1) := by decide +kernel
theorem dWriter_step_59 : decode cWriter_step 59 = .ok (.invokevirtual 57, 3) := by decide +kernel
theorem dWriter_step_62 : decode cWriter_step 62 = .ok (.imul, 1) := by decide +kernel
theorem dWriter_step_63 : decode cWriter_step 63 = .ok (.iconst 1, 1) := by decide +kernel
theorem dWriter_step_64 : decode cWriter_step 64 = .ok (.iadd, 1) := by decide +kernel
theorem dWriter_step_65 : decode cWriter_step 65 = .ok (.invokevirtual 68, 3) := by decide +kernel
theorem dWriter_step_68 : decode cWriter_step 68 = .ok (.pop, 1) := by decide +kernel
theorem dWriter_step_69 : decode cWriter_step 69 = .ok (.aload_n 0, 1) := by decide +kernel
theorem dWriter_step_70 : decode cWriter_step 70 = .ok (.getfield 14, 3) := by decide +kernel
theorem dWriter_step_73 : decode cWriter_step 73 = .ok (.sipush 2048, 3) := by decide +kernel
theorem dWriter_step_76 : decode cWriter_step 76 = .ok (.aload_n 1, 1) := by decide +kernel
theorem dWriter_step_77 : decode cWriter_step 77 = .ok (.bipush 9, 2) := by decide +kernel
theorem dWriter_step_79 : decode cWriter_step 79 = .ok (.iload_n 2, 1) := by decide +kernel
theorem dWriter_step_80 : decode cWriter_step 80 = .ok (.iload_n 3, 1) := by decide +kernel
theorem dWriter_step_81 : decode cWriter_step 81 = .ok (.invokevirtual 57, 3) := by decide +kernel
theorem dWriter_step_84 : decode cWriter_step 84 = .ok (.imul, 1) := by decide +kernel
theorem dWriter_step_85 : decode cWriter_step 85 = .ok (.iconst 2, 1) := by decide +kernel
theorem dWriter_step_86 : decode cWriter_step 86 = .ok (.invokevirtual 24, 3) := by decide +kernel
theorem dWriter_step_89 : decode cWriter_step 89 = .ok (.return_, 1) := by decide +kernel
theorem dWriter_segments_0 : decode cWriter_segments 0 = .ok (.iconst (-1), 1) := by decide +kernel
theorem dWriter_segments_1 : decode cWriter_segments 1 = .ok (.istore_n 3, 1) := by decide +kernel
theorem dWriter_segments_2 : decode cWriter_segments 2 = .ok (.iload_n 3, 1) := by decide +kernel
theorem dWriter_segments_3 : decode cWriter_segments 3 = .ok (.aload_n 1, 1) := by decide +kernel
theorem dWriter_segments_4 : decode cWriter_segments 4 = .ok (.getfield 51, 3) := by decide +kernel
theorem dWriter_segments_7 : decode cWriter_segments 7 = .ok (.iconst 2, 1) := by decide +kernel
theorem dWriter_segments_8 : decode cWriter_segments 8 = .ok (.iaload, 1) := by decide +kernel
theorem dWriter_segments_9 : decode cWriter_segments 9 = .ok (.if_icmp .ge 25, 3) := by decide +kernel
theorem dWriter_segments_12 : decode cWriter_segments 12 = .ok (.aload_n 1, 1) := by decide +kernel
theorem dWriter_segments_13 : decode cWriter_segments 13 = .ok (.iload_n 2, 1) := by decide +kernel
theorem dWriter_segments_14 : decode cWriter_segments 14 = .ok (.iload_n 3, 1) := by decide +kernel
theorem dWriter_segments_15 : decode cWriter_segments 15 = .ok (.invokevirtual 122, 3) := by decide +kernel
theorem dWriter_segments_18 : decode cWriter_segments 18 = .ok (.ifCond .eq 10, 3) := by decide +kernel
theorem dWriter_segments_21 : decode cWriter_segments 21 = .ok (.aload_n 0, 1) := by decide +kernel
theorem dWriter_segments_22 : decode cWriter_segments 22 = .ok (.aload_n 1, 1) := by decide +kernel
theorem dWriter_segments_23 : decode cWriter_segments 23 = .ok (.iload_n 2, 1) := by decide +kernel
theorem dWriter_segments_24 : decode cWriter_segments 24 = .ok (.iload_n 3, 1) := by decide +kernel
theorem dWriter_segments_25 : decode cWriter_segments 25 = .ok (.invokevirtual 126, 3) := by decide +kernel
theorem dWriter_segments_28 : decode cWriter_segments 28 = .ok (.iinc 3 1, 3) := by decide +kernel
theorem dWriter_segments_31 : decode cWriter_segments 31 = .ok (.goto (-29), 3) := by decide +kernel
theorem dWriter_segments_34 : decode cWriter_segments 34 = .ok (.iconst (-1), 1) := by decide +kernel
theorem dWriter_segments_35 : decode cWriter_segments 35 = .ok (.istore_n 3, 1) := by decide +kernel
theorem dWriter_segments_36 : decode cWriter_segments 36 = .ok (.iload_n 3, 1) := by decide +kernel
theorem dWriter_segments_37 : decode cWriter_segments 37 = .ok (.aload_n 1, 1) := by decide +kernel
theorem dWriter_segments_38 : decode cWriter_segments 38 = .ok (.getfield 51, 3) := by decide +kernel
theorem dWriter_segments_41 : decode cWriter_segments 41 = .ok (.iconst 2, 1) := by decide +kernel
theorem dWriter_segments_42 : decode cWriter_segments 42 = .ok (.iaload, 1) := by decide +kernel
theorem dWriter_segments_43 : decode cWriter_segments 43 = .ok (.if_icmp .ge 25, 3) := by decide +kernel
theorem dWriter_segments_46 : decode cWriter_segments 46 = .ok (.aload_n 1, 1) := by decide +kernel
theorem dWriter_segments_47 : decode cWriter_segments 47 = .ok (.iload_n 2, 1) := by decide +kernel
theorem dWriter_segments_48 : decode cWriter_segments 48 = .ok (.iload_n 3, 1) := by decide +kernel
theorem dWriter_segments_49 : decode cWriter_segments 49 = .ok (.invokevirtual 130, 3) := by decide +kernel
theorem dWriter_segments_52 : decode cWriter_segments 52 = .ok (.ifCond .eq 10, 3) := by decide +kernel
theorem dWriter_segments_55 : decode cWriter_segments 55 = .ok (.aload_n 0, 1) := by decide +kernel
theorem dWriter_segments_56 : decode cWriter_segments 56 = .ok (.aload_n 1, 1) := by decide +kernel
theorem dWriter_segments_57 : decode cWriter_segments 57 = .ok (.iload_n 2, 1) := by decide +kernel
theorem dWriter_segments_58 : decode cWriter_segments 58 = .ok (.iload_n 3, 1) := by decide +kernel
theorem dWriter_segments_59 : decode cWriter_segments 59 = .ok (.invokevirtual 133, 3) := by decide +kernel
theorem dWriter_segments_62 : decode cWriter_segments 62 = .ok (.iinc 3 1, 3) := by decide +kernel
theorem dWriter_segments_65 : decode cWriter_segments 65 = .ok (.goto (-29), 3) := by decide +kernel
theorem dWriter_segments_68 : decode cWriter_segments 68 = .ok (.return_, 1) := by decide +kernel
theorem dWriter_packetLengths_0 : decode cWriter_packetLengths 0 = .ok (.aload_n 1, 1) := by decide +kernel
theorem dWriter_packetLengths_1 : decode cWriter_packetLengths 1 = .ok (.getfield 142, 3) := by decide +kernel
theorem dWriter_packetLengths_4 : decode cWriter_packetLengths 4 = .ok (.bipush 20, 2) := by decide +kernel
theorem dWriter_packetLengths_6 : decode cWriter_packetLengths 6 = .ok (.invokestatic 150, 3) := by decide +kernel
theorem dWriter_packetLengths_9 : decode cWriter_packetLengths 9 = .ok (.istore_n 2, 1) := by decide +kernel
theorem dWriter_packetLengths_10 : decode cWriter_packetLengths 10 = .ok (.iconst 0, 1) := by decide +kernel
theorem dWriter_packetLengths_11 : decode cWriter_packetLengths 11 = .ok (.istore_n 3, 1) := by decide +kernel
theorem dWriter_packetLengths_12 : decode cWriter_packetLengths 12 = .ok (.iconst 0, 1) := by decide +kernel
theorem dWriter_packetLengths_13 : decode cWriter_packetLengths 13 = .ok (.istore 4, 2) := by decide +kernel
theorem dWriter_packetLengths_15 : decode cWriter_packetLengths 15 = .ok (.iload 4, 2) := by decide +kernel
theorem dWriter_packetLengths_17 : decode cWriter_packetLengths 17 = .ok (.iload_n 2, 1) := by decide +kernel
theorem dWriter_packetLengths_18 : decode cWriter_packetLengths 18 = .ok (.if_icmp .ge 30, 3) := by decide +kernel
theorem dWriter_packetLengths_21 : decode cWriter_packetLengths 21 = .ok (.iload_n 3, 1) := by decide +kernel
theorem dWriter_packetLengths_22 : decode cWriter_packetLengths 22 = .ok (.aload_n 1, 1) := by decide +kernel
theorem dWriter_packetLengths_23 : decode cWriter_packetLengths 23 = .ok (.getfield 153, 3) := by decide +kernel
theorem dWriter_packetLengths_26 : decode cWriter_packetLengths 26 = .ok (.iload 4, 2) := by decide +kernel
theorem dWriter_packetLengths_28 : decode cWriter_packetLengths 28 = .ok (.iaload, 1) := by decide +kernel
theorem dWriter_packetLengths_29 : decode cWriter_packetLengths 29 = .ok (.sipush 128, 3) := by decide +kernel
theorem dWriter_packetLengths_32 : decode cWriter_packetLengths 32 = .ok (.if_icmp .ge 7, 3) := by decide +kernel
theorem dWriter_packetLengths_35 : decode cWriter_packetLengths 35 = .ok (.iconst 1, 1) := by decide +kernel
theorem dWriter_packetLengths_36 : decode cWriter_packetLengths 36 = .ok (.goto 4, 3) := by decide +kernel
theorem dWriter_packetLengths_39 : decode cWriter_packetLengths 39 = .ok (.iconst 2, 1) := by decide +kernel
theorem dWriter_packetLengths_40 : decode cWriter_packetLengths 40 = .ok (.iadd, 1) := by decide +kernel
theorem dWriter_packetLengths_41 : decode cWriter_packetLengths 41 = .ok (.istore_n 3, 1) := by decide +kernel
theorem dWriter_packetLengths_42 : decode cWriter_packetLengths 42 = .ok (.iinc 4 1, 3) := by decide +kernel
theorem dWriter_packetLengths_45 : decode cWriter_packetLengths 45 = .ok (.goto (-30), 3) := by decide +kernel
theorem dWriter_packetLengths_48 : decode cWriter_packetLengths 48 = .ok (.aload_n 0, 1) := by decide +kernel
theorem dWriter_packetLengths_49 : decode cWriter_packetLengths 49 = .ok (.bipush 88, 2) := by decide +kernel
theorem dWriter_packetLengths_51 : decode cWriter_packetLengths 51 = .ok (.invokevirtual 101, 3) := by decide +kernel
theorem dWriter_packetLengths_54 : decode cWriter_packetLengths 54 = .ok (.aload_n 0, 1) := by decide +kernel
theorem dWriter_packetLengths_55 : decode cWriter_packetLengths 55 = .ok (.getfield 14, 3) := by decide +kernel
theorem dWriter_packetLengths_58 : decode cWriter_packetLengths 58 = .ok (.iconst 3, 1) := by decide +kernel
theorem dWriter_packetLengths_59 : decode cWriter_packetLengths 59 = .ok (.iload_n 3, 1) := by decide +kernel
theorem dWriter_packetLengths_60 : decode cWriter_packetLengths 60 = .ok (.iadd, 1) := by decide +kernel
theorem dWriter_packetLengths_61 : decode cWriter_packetLengths 61 = .ok (.iconst 2, 1) := by decide +kernel
theorem dWriter_packetLengths_62 : decode cWriter_packetLengths 62 = .ok (.invokevirtual 24, 3) := by decide +kernel
theorem dWriter_packetLengths_65 : decode cWriter_packetLengths 65 = .ok (.aload_n 0, 1) := by decide +kernel
theorem dWriter_packetLengths_66 : decode cWriter_packetLengths 66 = .ok (.getfield 14, 3) := by decide +kernel
theorem dWriter_packetLengths_69 : decode cWriter_packetLengths 69 = .ok (.iconst 0, 1) := by decide +kernel
theorem dWriter_packetLengths_70 : decode cWriter_packetLengths 70 = .ok (.invokevirtual 68, 3) := by decide +kernel
theorem dWriter_packetLengths_73 : decode cWriter_packetLengths 73 = .ok (.pop, 1) := by decide +kernel
theorem dWriter_packetLengths_74 : decode cWriter_packetLengths 74 = .ok (.iconst 0, 1) := by decide +kernel
theorem dWriter_packetLengths_75 : decode cWriter_packetLengths 75 = .ok (.istore 4, 2) := by decide +kernel
theorem dWriter_packetLengths_77 : decode cWriter_packetLengths 77 = .ok (.iload 4, 2) := by decide +kernel
theorem dWriter_packetLengths_79 : decode cWriter_packetLengths 79 = .ok (.iload_n 2, 1) := by decide +kernel
theorem dWriter_packetLengths_80 : decode cWriter_packetLengths 80 = .ok (.if_icmp .ge 58, 3) := by decide +kernel
theorem dWriter_packetLengths_83 : decode cWriter_packetLengths 83 = .ok (.aload_n 1, 1) := by decide +kernel
theorem dWriter_packetLengths_84 : decode cWriter_packetLengths 84 = .ok (.getfield 153, 3) := by decide +kernel
theorem dWriter_packetLengths_87 : decode cWriter_packetLengths 87 = .ok (.iload 4, 2) := by decide +kernel
theorem dWriter_packetLengths_89 : decode cWriter_packetLengths 89 = .ok (.iaload, 1) := by decide +kernel
theorem dWriter_packetLengths_90 : decode cWriter_packetLengths 90 = .ok (.istore 5, 2) := by decide +kernel
theorem dWriter_packetLengths_92 : decode cWriter_packetLengths 92 = .ok (.iload 5, 2) := by decide +kernel
theorem dWriter_packetLengths_94 : decode cWriter_packetLengths 94 = .ok (.sipush 128, 3) := by decide +kernel
theorem dWriter_packetLengths_97 : decode cWriter_packetLengths 97 = .ok (.if_icmp .lt 21, 3) := by decide +kernel
theorem dWriter_packetLengths_100 : decode cWriter_packetLengths 100 = .ok (.aload_n 0, 1) := by decide +kernel
theorem dWriter_packetLengths_101 : decode cWriter_packetLengths 101 = .ok (.getfield 14, 3) := by decide +kernel
theorem dWriter_packetLengths_104 : decode cWriter_packetLengths 104 = .ok (.sipush 128, 3) := by decide +kernel
theorem dWriter_packetLengths_107 : decode cWriter_packetLengths 107 = .ok (.iload 5, 2) := by decide +kernel
theorem dWriter_packetLengths_109 : decode cWriter_packetLengths 109 = .ok (.sipush 128, 3) := by decide +kernel
theorem dWriter_packetLengths_112 : decode cWriter_packetLengths 112 = .ok (.idiv, 1) := by decide +kernel
theorem dWriter_packetLengths_113 : decode cWriter_packetLengths 113 = .ok (.iadd, 1) := by decide +kernel
theorem dWriter_packetLengths_114 : decode cWriter_packetLengths 114 = .ok (.invokevirtual 68, 3) := by decide +kernel
theorem dWriter_packetLengths_117 : decode cWriter_packetLengths 117 = .ok (.pop, 1) := by decide +kernel
theorem dWriter_packetLengths_118 : decode cWriter_packetLengths 118 = .ok (.aload_n 0, 1) := by decide +kernel
theorem dWriter_packetLengths_119 : decode cWriter_packetLengths 119 = .ok (.getfield 14, 3) := by decide +kernel
theorem dWriter_packetLengths_122 : decode cWriter_packetLengths 122 = .ok (.iload 5, 2) := by decide +kernel
theorem dWriter_packetLengths_124 : decode cWriter_packetLengths 124 = .ok (.sipush 128, 3) := by decide +kernel
theorem dWriter_packetLengths_127 : decode cWriter_packetLengths 127 = .ok (.irem, 1) := by decide +kernel
theorem dWriter_packetLengths_128 : decode cWriter_packetLengths 128 = .ok (.invokevirtual 68, 3) := by decide +kernel
theorem dWriter_packetLengths_131 : decode cWriter_packetLengths 131 = .ok (.pop, 1) := by decide +kernel
theorem dWriter_packetLengths_132 : decode cWriter_packetLengths 132 = .ok (.iinc 4 1, 3) := by decide +kernel
theorem dWriter_packetLengths_135 : decode cWriter_packetLengths 135 = .ok (.goto (-58), 3) := by decide +kernel
theorem dWriter_packetLengths_138 : decode cWriter_packetLengths 138 = .ok (.return_, 1) := by decide +kernel
theorem dWriter_onePart_0 : decode cWriter_onePart 0 = .ok (.aload_n 0, 1) := by decide +kernel
theorem dWriter_onePart_1 : decode cWriter_onePart 1 = .ok (.getfield 14, 3) := by decide +kernel
theorem dWriter_onePart_4 : decode cWriter_onePart 4 = .ok (.getfield 20, 3) := by decide +kernel
theorem dWriter_onePart_7 : decode cWriter_onePart 7 = .ok (.istore_n 3, 1) := by decide +kernel
theorem dWriter_onePart_8 : decode cWriter_onePart 8 = .ok (.aload_n 0, 1) := by decide +kernel
theorem dWriter_onePart_9 : decode cWriter_onePart 9 = .ok (.sipush 144, 3) := by decide +kernel
theorem dWriter_onePart_12 : decode cWriter_onePart 12 = .ok (.invokevirtual 101, 3) := by decide +kernel
theorem dWriter_onePart_15 : decode cWriter_onePart 15 = .ok (.aload_n 0, 1) := by decide +kernel
theorem dWriter_onePart_16 : decode cWriter_onePart 16 = .ok (.getfield 14, 3) := by decide +kernel
theorem dWriter_onePart_19 : decode cWriter_onePart 19 = .ok (.bipush 10, 2) := by decide +kernel
theorem dWriter_onePart_21 : decode cWriter_onePart 21 = .ok (.iconst 2, 1) := by decide +kernel
theorem dWriter_onePart_22 : decode cWriter_onePart 22 = .ok (.invokevirtual 24, 3) := by decide +kernel
theorem dWriter_onePart_25 : decode cWriter_onePart 25 = .ok (.aload_n 0, 1) := by decide +kernel
theorem dWriter_onePart_26 : decode cWriter_onePart 26 = .ok (.getfield 14, 3) := by decide +kernel
theorem dWriter_onePart_29 : decode cWriter_onePart 29 = .ok (.aload_n 2, 1) := by decide +kernel
theorem dWriter_onePart_30 : decode cWriter_onePart 30 = .ok (.getfield 136, 3) := by decide +kernel
theorem dWriter_onePart_33 : decode cWriter_onePart 33 = .ok (.iconst 2, 1) := by decide +kernel
theorem dWriter_onePart_34 : decode cWriter_onePart 34 = .ok (.invokevirtual 24, 3) := by decide +kernel
theorem dWriter_onePart_37 : decode cWriter_onePart 37 = .ok (.aload_n 0, 1) := by decide +kernel
theorem dWriter_onePart_38 : decode cWriter_onePart 38 = .ok (.getfield 14, 3) := by decide +kernel
theorem dWriter_onePart_41 : decode cWriter_onePart 41 = .ok (.iconst 0, 1) := by decide +kernel
theorem dWriter_onePart_42 : decode cWriter_onePart 42 = .ok (.iconst 4, 1) := by decide +kernel
theorem dWriter_onePart_43 : decode cWriter_onePart 43 = .ok (.invokevirtual 24, 3) := by decide +kernel
theorem dWriter_onePart_46 : decode cWriter_onePart 46 = .ok (.aload_n 0, 1) := by decide +kernel
theorem dWriter_onePart_47 : decode cWriter_onePart 47 = .ok (.getfield 14, 3) := by decide +kernel
theorem dWriter_onePart_50 : decode cWriter_onePart 50 = .ok (.aload_n 2, 1) := by decide +kernel
theorem dWriter_onePart_51 : decode cWriter_onePart 51 = .ok (.getfield 139, 3) := by decide +kernel
theorem dWriter_onePart_54 : decode cWriter_onePart 54 = .ok (.invokevirtual 68, 3) := by decide +kernel
theorem dWriter_onePart_57 : decode cWriter_onePart 57 = .ok (.pop, 1) := by decide +kernel
theorem dWriter_onePart_58 : decode cWriter_onePart 58 = .ok (.aload_n 0, 1) := by decide +kernel
theorem dWriter_onePart_59 : decode cWriter_onePart 59 = .ok (.getfield 14, 3) := by decide +kernel
theorem dWriter_onePart_62 : decode cWriter_onePart 62 = .ok (.iconst 0, 1) := by decide +kernel
theorem dWriter_onePart_63 : decode cWriter_onePart 63 = .ok (.invokevirtual 68, 3) := by decide +kernel
theorem dWriter_onePart_66 : decode cWriter_onePart 66 = .ok (.pop, 1) := by decide +kernel
theorem dWriter_onePart_67 : decode cWriter_onePart 67 = .ok (.aload_n 2, 1) := by decide +kernel
theorem dWriter_onePart_68 : decode cWriter_onePart 68 = .ok (.getfield 139, 3) := by decide +kernel
theorem dWriter_onePart_71 : decode cWriter_onePart 71 = .ok (.ifCond .ne 12, 3) := by decide +kernel
theorem dWriter_onePart_74 : decode cWriter_onePart 74 = .ok (.aload_n 0, 1) := by decide +kernel
theorem dWriter_onePart_75 : decode cWriter_onePart 75 = .ok (.aload_n 1, 1) := by decide +kernel
theorem dWriter_onePart_76 : decode cWriter_onePart 76 = .ok (.aload_n 2, 1) := by decide +kernel
theorem dWriter_onePart_77 : decode cWriter_onePart 77 = .ok (.getfield 136, 3) := by decide +kernel
theorem dWriter_onePart_80 : decode cWriter_onePart 80 = .ok (.invokevirtual 106, 3) := by decide +kernel
theorem dWriter_onePart_83 : decode cWriter_onePart 83 = .ok (.aload_n 2, 1) := by decide +kernel
theorem dWriter_onePart_84 : decode cWriter_onePart 84 = .ok (.getfield 142, 3) := by decide +kernel
theorem dWriter_onePart_87 : decode cWriter_onePart 87 = .ok (.ifCond .le 8, 3) := by decide +kernel
theorem dWriter_onePart_90 : decode cWriter_onePart 90 = .ok (.aload_n 0, 1) := by decide +kernel
theorem dWriter_onePart_91 : decode cWriter_onePart 91 = .ok (.aload_n 2, 1) := by decide +kernel
theorem dWriter_onePart_92 : decode cWriter_onePart 92 = .ok (.invokevirtual 145, 3) := by decide +kernel
theorem dWriter_onePart_95 : decode cWriter_onePart 95 = .ok (.aload_n 0, 1) := by decide +kernel
theorem dWriter_onePart_96 : decode cWriter_onePart 96 = .ok (.sipush 147, 3) := by decide +kernel
theorem dWriter_onePart_99 : decode cWriter_onePart 99 = .ok (.invokevirtual 101, 3) := by decide +kernel
theorem dWriter_onePart_102 : decode cWriter_onePart 102 = .ok (.aload_n 0, 1) := by decide +kernel
theorem dWriter_onePart_103 : decode cWriter_onePart 103 = .ok (.aload_n 2, 1) := by decide +kernel
theorem dWriter_onePart_104 : decode cWriter_onePart 104 = .ok (.getfield 149, 3) := by decide +kernel
theorem dWriter_onePart_107 : decode cWriter_onePart 107 = .ok (.invokevirtual 94, 3) := by decide +kernel
theorem dWriter_onePart_110 : decode cWriter_onePart 110 = .ok (.aload_n 0, 1) := by decide +kernel
theorem dWriter_onePart_111 : decode cWriter_onePart 111 = .ok (.getfield 14, 3) := by decide +kernel
theorem dWriter_onePart_114 : decode cWriter_onePart 114 = .ok (.iload_n 3, 1) := by decide +kernel
theorem dWriter_onePart_115 : decode cWriter_onePart 115 = .ok (.bipush 6, 2) := by decide +kernel
theorem dWriter_onePart_117 : decode cWriter_onePart 117 = .ok (.iadd, 1) := by decide +kernel
theorem dWriter_onePart_118 : decode cWriter_onePart 118 = .ok (.aload_n 0, 1) := by decide +kernel
theorem dWriter_onePart_119 : decode cWriter_onePart 119 = .ok (.getfield 14, 3) := by decide +kernel
theorem dWriter_onePart_122 : decode cWriter_onePart 122 = .ok (.getfield 20, 3) := by decide +kernel
theorem dWriter_onePart_125 : decode cWriter_onePart 125 = .ok (.iload_n 3, 1) := by decide +kernel
theorem dWriter_onePart_126 : decode cWriter_onePart 126 = .ok (.isub, 1) := by decide +kernel
theorem dWriter_onePart_127 : decode cWriter_onePart 127 = .ok (.invokevirtual 28, 3) := by decide +kernel
theorem dWriter_onePart_130 : decode cWriter_onePart 130 = .ok (.return_, 1) := by decide +kernel
theorem dWriter_streamBox_0 : decode cWriter_streamBox 0 = .ok (.aload_n 0, 1) := by decide +kernel
theorem dWriter_streamBox_1 : decode cWriter_streamBox 1 = .ok (.ldc 100, 2) := by decide +kernel
theorem dWriter_streamBox_3 : decode cWriter_streamBox 3 = .ok (.invokevirtual 32, 3) := by decide +kernel
theorem dWriter_streamBox_6 : decode cWriter_streamBox 6 = .ok (.istore_n 3, 1) := by decide +kernel
theorem dWriter_streamBox_7 : decode cWriter_streamBox 7 = .ok (.aload_n 0, 1) := by decide +kernel
theorem dWriter_streamBox_8 : decode cWriter_streamBox 8 = .ok (.bipush 79, 2) := by decide +kernel
theorem dWriter_streamBox_10 : decode cWriter_streamBox 10 = .ok (.invokevirtual 101, 3) := by decide +kernel
theorem dWriter_streamBox_13 : decode cWriter_streamBox 13 = .ok (.aload_n 0, 1) := by decide +kernel
theorem dWriter_streamBox_14 : decode cWriter_streamBox 14 = .ok (.aload_n 1, 1) := by decide +kernel
theorem dWriter_streamBox_15 : decode cWriter_streamBox 15 = .ok (.invokevirtual 104, 3) := by decide +kernel
theorem dWriter_streamBox_18 : decode cWriter_streamBox 18 = .ok (.aload_n 0, 1) := by decide +kernel
theorem dWriter_streamBox_19 : decode cWriter_streamBox 19 = .ok (.aload_n 1, 1) := by decide +kernel
theorem dWriter_streamBox_20 : decode cWriter_streamBox 20 = .ok (.iconst (-1), 1) := by decide +kernel
theorem dWriter_streamBox_21 : decode cWriter_streamBox 21 = .ok (.invokevirtual 106, 3) := by decide +kernel
theorem dWriter_streamBox_24 : decode cWriter_streamBox 24 = .ok (.iconst 0, 1) := by decide +kernel
theorem dWriter_streamBox_25 : decode cWriter_streamBox 25 = .ok (.istore 4, 2) := by decide +kernel
theorem dWriter_streamBox_27 : decode cWriter_streamBox 27 = .ok (.iload 4, 2) := by decide +kernel
theorem dWriter_streamBox_29 : decode cWriter_streamBox 29 = .ok (.aload_n 2, 1) := by decide +kernel
theorem dWriter_streamBox_30 : decode cWriter_streamBox 30 = .ok (.invokevirtual 72, 3) := by decide +kernel
theorem dWriter_streamBox_33 : decode cWriter_streamBox 33 = .ok (.if_icmp .ge 23, 3) := by decide +kernel
theorem dWriter_streamBox_36 : decode cWriter_streamBox 36 = .ok (.aload_n 0, 1) := by decide +kernel
theorem dWriter_streamBox_37 : decode cWriter_streamBox 37 = .ok (.aload_n 1, 1) := by decide +kernel
theorem dWriter_streamBox_38 : decode cWriter_streamBox 38 = .ok (.aload_n 2, 1) := by decide +kernel
theorem dWriter_streamBox_39 : decode cWriter_streamBox 39 = .ok (.iload 4, 2) := by decide +kernel
theorem dWriter_streamBox_41 : decode cWriter_streamBox 41 = .ok (.invokevirtual 78, 3) := by decide +kernel
theorem dWriter_streamBox_44 : decode cWriter_streamBox 44 = .ok (.checkcast 110, 3) := by decide +kernel
theorem dWriter_streamBox_47 : decode cWriter_streamBox 47 = .ok (.invokevirtual 112, 3) := by decide +kernel
theorem dWriter_streamBox_50 : decode cWriter_streamBox 50 = .ok (.iinc 4 1, 3) := by decide +kernel
theorem dWriter_streamBox_53 : decode cWriter_streamBox 53 = .ok (.goto (-26), 3) := by decide +kernel
theorem dWriter_streamBox_56 : decode cWriter_streamBox 56 = .ok (.aload_n 0, 1) := by decide +kernel
theorem dWriter_streamBox_57 : decode cWriter_streamBox 57 = .ok (.sipush 217, 3) := by decide +kernel
theorem dWriter_streamBox_60 : decode cWriter_streamBox 60 = .ok (.invokevirtual 101, 3) := by decide +kernel
theorem dWriter_streamBox_63 : decode cWriter_streamBox 63 = .ok (.aload_n 0, 1) := by decide +kernel
theorem dWriter_streamBox_64 : decode cWriter_streamBox 64 = .ok (.iload_n 3, 1) := by decide +kernel
theorem dWriter_streamBox_65 : decode cWriter_streamBox 65 = .ok (.invokevirtual 37, 3) := by decide +kernel
theorem dWriter_streamBox_68 : decode cWriter_streamBox 68 = .ok (.return_, 1) := by decide +kernel
theorem dBoxReader_init_0 : decode cBoxReader_init 0 = .ok (.aload_n 0, 1) := by decide +kernel
theorem dBoxReader_init_1 : decode cBoxReader_init 1 = .ok (.invokespecial 3, 3) := by decide +kernel
theorem dBoxReader_init_4 : decode cBoxReader_init 4 = .ok (.aload_n 0, 1) := by decide +kernel
theorem dBoxReader_init_5 : decode cBoxReader_init 5 = .ok (.new 9, 3) := by decide +kernel
theorem dBoxReader_init_8 : decode cBoxReader_init 8 = .ok (.dup, 1) := by decide +kernel
theorem dBoxReader_init_9 : decode cBoxReader_init 9 = .ok (.invokespecial 11, 3) := by decide +kernel
theorem dBoxReader_init_12 : decode cBoxReader_init 12 = .ok (.putfield 12, 3) := by decide +kernel
theorem dBoxReader_init_15 : decode cBoxReader_init 15 = .ok (.aload_n 0, 1) := by decide +kernel
theorem dBoxReader_init_16 : decode cBoxReader_init 16 = .ok (.new 9, 3) := by decide +kernel
theorem dBoxReader_init_19 : decode cBoxReader_init 19 = .ok (.dup, 1) := by decide +kernel
theorem dBoxReader_init_20 : decode cBoxReader_init 20 = .ok (.invokespecial 11, 3) := by decide +kernel
theorem dBoxReader_init_23 : decode cBoxReader_init 23 = .ok (.putfield 18, 3) := by decide +kernel
theorem dBoxReader_init_26 : decode cBoxReader_init 26 = .ok (.aload_n 0, 1) := by decide +kernel
theorem dBoxReader_init_27 : decode cBoxReader_init 27 = .ok (.iconst (-1), 1) := by decide +kernel
theorem dBoxReader_init_28 : decode cBoxReader_init 28 = .ok (.putfield 21, 3) := by decide +kernel
theorem dBoxReader_init_31 : decode cBoxReader_init 31 = .ok (.aload_n 0, 1) := by decide +kernel
theorem dBoxReader_init_32 : decode cBoxReader_init 32 = .ok (.iconst 0, 1) := by decide +kernel
theorem dBoxReader_init_33 : decode cBoxReader_init 33 = .ok (.putfield 25, 3) := by decide +kernel
theorem dBoxReader_init_36 : decode cBoxReader_init 36 = .ok (.aload_n 0, 1) := by decide +kernel
theorem dBoxReader_init_37 : decode cBoxReader_init 37 = .ok (.iconst 0, 1) := by decide +kernel
theorem dBoxReader_init_38 : decode cBoxReader_init 38 = .ok (.putfield 28, 3) := by decide +kernel
theorem dBoxReader_init_41 : decode cBoxReader_init 41 = .ok (.aload_n 0, 1) := by decide +kernel
theorem dBoxReader_init_42 : decode cBoxReader_init 42 = .ok (.aload_n 1, 1) := by decide +kernel
theorem dBoxReader_init_43 : decode cBoxReader_init 43 = .ok (.putfield 31, 3) := by decide +kernel
theorem dBoxReader_init_46 : decode cBoxReader_init 46 = .ok (.return_, 1) := by decide +kernel
theorem dBoxReader_forget_0 : decode cBoxReader_forget 0 = .ok (.aload_n 0, 1) := by decide +kernel
theorem dBoxReader_forget_1 : decode cBoxReader_forget 1 = .ok (.getfield 12, 3) := by decide +kernel
theorem dBoxReader_forget_4 : decode cBoxReader_forget 4 = .ok (.iconst 0, 1) := by decide +kernel
theorem dBoxReader_forget_5 : decode cBoxReader_forget 5 = .ok (.putfield 35, 3) := by decide +kernel
theorem dBoxReader_forget_8 : decode cBoxReader_forget 8 = .ok (.aload_n 0, 1) := by decide +kernel
theorem dBoxReader_forget_9 : decode cBoxReader_forget 9 = .ok (.getfield 18, 3) := by decide +kernel
theorem dBoxReader_forget_12 : decode cBoxReader_forget 12 = .ok (.iconst 0, 1) := by decide +kernel
theorem dBoxReader_forget_13 : decode cBoxReader_forget 13 = .ok (.putfield 35, 3) := by decide +kernel
theorem dBoxReader_forget_16 : decode cBoxReader_forget 16 = .ok (.aload_n 0, 1) := by decide +kernel
theorem dBoxReader_forget_17 : decode cBoxReader_forget 17 = .ok (.iconst (-1), 1) := by decide +kernel
theorem dBoxReader_forget_18 : decode cBoxReader_forget 18 = .ok (.putfield 21, 3) := by decide +kernel
theorem dBoxReader_forget_21 : decode cBoxReader_forget 21 = .ok (.return_, 1) := by decide +kernel
theorem dBoxReader_kindAt_0 : decode cBoxReader_kindAt 0 = .ok (.aload_n 0, 1) := by decide +kernel
theorem dBoxReader_kindAt_1 : decode cBoxReader_kindAt 1 = .ok (.getfield 31, 3) := by decide +kernel
theorem dBoxReader_kindAt_4 : decode cBoxReader_kindAt 4 = .ok (.iload_n 1, 1) := by decide +kernel
theorem dBoxReader_kindAt_5 : decode cBoxReader_kindAt 5 = .ok (.iconst 4, 1) := by decide +kernel
theorem dBoxReader_kindAt_6 : decode cBoxReader_kindAt 6 = .ok (.iadd, 1) := by decide +kernel
theorem dBoxReader_kindAt_7 : decode cBoxReader_kindAt 7 = .ok (.iconst 4, 1) := by decide +kernel
theorem dBoxReader_kindAt_8 : decode cBoxReader_kindAt 8 = .ok (.invokevirtual 53, 3) := by decide +kernel
theorem dBoxReader_kindAt_11 : decode cBoxReader_kindAt 11 = .ok (.l2i, 1) := by decide +kernel
theorem dBoxReader_kindAt_12 : decode cBoxReader_kindAt 12 = .ok (.ireturn, 1) := by decide +kernel
theorem dBoxReader_beginsWithSignature_0 : decode cBoxReader_beginsWithSignature 0 = .ok (.aload_n 0, 1) := by decide +kernel
theorem dBoxReader_beginsWithSignature_1 : decode cBoxReader_beginsWithSignature 1 = .ok (.getfield 31, 3) := by decide +kernel
theorem dBoxReader_beginsWithSignature_4 : decode cBoxReader_beginsWithSignature 4 = .ok (.getfield 38, 3) := by decide +kernel
theorem dBoxReader_beginsWithSignature_7 : decode cBoxReader_beginsWithSignature 7 = .ok (.bipush 12, 2) := by decide +kernel
theorem dBoxReader_beginsWithSignature_9 : decode cBoxReader_beginsWithSignature 9 = .ok (.if_icmp .lt 49, 3) := by decide +kernel
theorem dBoxReader_beginsWithSignature_12 : decode cBoxReader_beginsWithSignature 12 = .ok (.aload_n 0, 1) := by decide +kernel
theorem dBoxReader_beginsWithSignature_13 : decode cBoxReader_beginsWithSignature 13 = .ok (.getfield 31, 3) := by decide +kernel
theorem dBoxReader_beginsWithSignature_16 : decode cBoxReader_beginsWithSignature 16 = .ok (.iconst 0, 1) := by decide +kernel
theorem dBoxReader_beginsWithSignature_17 : decode cBoxReader_beginsWithSignature 17 = .ok (.iconst 4, 1) := by decide +kernel
theorem dBoxReader_beginsWithSignature_18 : decode cBoxReader_beginsWithSignature 18 = .ok (.invokevirtual 53, 3) := by decide +kernel
theorem dBoxReader_beginsWithSignature_21 : decode cBoxReader_beginsWithSignature 21 = .ok (.ldc2_w 57, 3) := by decide +kernel
theorem dBoxReader_beginsWithSignature_24 : decode cBoxReader_beginsWithSignature 24 = .ok (.lcmp, 1) := by decide +kernel
theorem dBoxReader_beginsWithSignature_25 : decode cBoxReader_beginsWithSignature 25 = .ok (.ifCond .ne 33, 3) := by decide +kernel
theorem dBoxReader_beginsWithSignature_28 : decode cBoxReader_beginsWithSignature 28 = .ok (.aload_n 0, 1) := by decide +kernel
theorem dBoxReader_beginsWithSignature_29 : decode cBoxReader_beginsWithSignature 29 = .ok (.iconst 0, 1) := by decide +kernel
theorem dBoxReader_beginsWithSignature_30 : decode cBoxReader_beginsWithSignature 30 = .ok (.invokevirtual 59, 3) := by decide +kernel
theorem dBoxReader_beginsWithSignature_33 : decode cBoxReader_beginsWithSignature 33 = .ok (.ldc 62, 2) := by decide +kernel
theorem dBoxReader_beginsWithSignature_35 : decode cBoxReader_beginsWithSignature 35 = .ok (.if_icmp .ne 23, 3) := by decide +kernel
theorem dBoxReader_beginsWithSignature_38 : decode cBoxReader_beginsWithSignature 38 = .ok (.aload_n 0, 1) := by decide +kernel
theorem dBoxReader_beginsWithSignature_39 : decode cBoxReader_beginsWithSignature 39 = .ok (.getfield 31, 3) := by decide +kernel
theorem dBoxReader_beginsWithSignature_42 : decode cBoxReader_beginsWithSignature 42 = .ok (.bipush 8, 2) := by decide +kernel
theorem dBoxReader_beginsWithSignature_44 : decode cBoxReader_beginsWithSignature 44 = .ok (.iconst 4, 1) := by decide +kernel
theorem dBoxReader_beginsWithSignature_45 : decode cBoxReader_beginsWithSignature 45 = .ok (.invokevirtual 53, 3) := by decide +kernel
theorem dBoxReader_beginsWithSignature_48 : decode cBoxReader_beginsWithSignature 48 = .ok (.l2i, 1) := by decide +kernel
theorem dBoxReader_beginsWithSignature_49 : decode cBoxReader_beginsWithSignature 49 = .ok (.ldc 63, 2) := by decide +kernel
theorem dBoxReader_beginsWithSignature_51 : decode cBoxReader_beginsWithSignature 51 = .ok (.if_icmp .ne 7, 3) := by decide +kernel
theorem dBoxReader_beginsWithSignature_54 : decode cBoxReader_beginsWithSignature 54 = .ok (.iconst 1, 1) := by decide +kernel
theorem dBoxReader_beginsWithSignature_55 : decode cBoxReader_beginsWithSignature 55 = .ok (.goto 4, 3) := by decide +kernel
theorem dBoxReader_beginsWithSignature_58 : decode cBoxReader_beginsWithSignature 58 = .ok (.iconst 0, 1) := by decide +kernel
theorem dBoxReader_beginsWithSignature_59 : decode cBoxReader_beginsWithSignature 59 = .ok (.ireturn, 1) := by decide +kernel
theorem dBoxReader_boxEnd_0 : decode cBoxReader_boxEnd 0 = .ok (.iload_n 2, 1) := by decide +kernel
theorem dBoxReader_boxEnd_1 : decode cBoxReader_boxEnd 1 = .ok (.iload_n 1, 1) := by decide +kernel
theorem dBoxReader_boxEnd_2 : decode cBoxReader_boxEnd 2 = .ok (.isub, 1) := by decide +kernel
theorem dBoxReader_boxEnd_3 : decode cBoxReader_boxEnd 3 = .ok (.bipush 8, 2) := by decide +kernel
theorem dBoxReader_boxEnd_5 : decode cBoxReader_boxEnd 5 = .ok (.if_icmp .ge 5, 3) := by decide +kernel
theorem dBoxReader_boxEnd_8 : decode cBoxReader_boxEnd 8 = .ok (.iconst (-1), 1) := by decide +kernel
theorem dBoxReader_boxEnd_9 : decode cBoxReader_boxEnd 9 = .ok (.ireturn, 1) := by decide +kernel
theorem dBoxReader_boxEnd_10 : decode cBoxReader_boxEnd 10 = .ok (.aload_n 0, 1) := by decide +kernel
theorem dBoxReader_boxEnd_11 : decode cBoxReader_boxEnd 11 = .ok (.getfield 31, 3) := by decide +kernel
theorem dBoxReader_boxEnd_14 : decode cBoxReader_boxEnd 14 = .ok (.iload_n 1, 1) := by decide +kernel
theorem dBoxReader_boxEnd_15 : decode cBoxReader_boxEnd 15 = .ok (.iconst 4, 1) := by decide +kernel
theorem dBoxReader_boxEnd_16 : decode cBoxReader_boxEnd 16 = .ok (.invokevirtual 53, 3) := by decide +kernel
theorem dBoxReader_boxEnd_19 : decode cBoxReader_boxEnd 19 = .ok (.lstore 4, 2) := by decide +kernel
theorem dBoxReader_boxEnd_21 : decode cBoxReader_boxEnd 21 = .ok (.lload 4, 2) := by decide +kernel
theorem dBoxReader_boxEnd_23 : decode cBoxReader_boxEnd 23 = .ok (.lconst 0, 1) := by decide +kernel
theorem dBoxReader_boxEnd_24 : decode cBoxReader_boxEnd 24 = .ok (.lcmp, 1) := by decide +kernel
theorem dBoxReader_boxEnd_25 : decode cBoxReader_boxEnd 25 = .ok (.ifCond .ne 5, 3) := by decide +kernel
theorem dBoxReader_boxEnd_28 : decode cBoxReader_boxEnd 28 = .ok (.iload_n 2, 1) := by decide +kernel
theorem dBoxReader_boxEnd_29 : decode cBoxReader_boxEnd 29 = .ok (.ireturn, 1) := by decide +kernel
theorem dBoxReader_boxEnd_30 : decode cBoxReader_boxEnd 30 = .ok (.lload 4, 2) := by decide +kernel
theorem dBoxReader_boxEnd_32 : decode cBoxReader_boxEnd 32 = .ok (.ldc2_w 81, 3) := by decide +kernel
theorem dBoxReader_boxEnd_35 : decode cBoxReader_boxEnd 35 = .ok (.lcmp, 1) := by decide +kernel
theorem dBoxReader_boxEnd_36 : decode cBoxReader_boxEnd 36 = .ok (.ifCond .ge 5, 3) := by decide +kernel
theorem dBoxReader_boxEnd_39 : decode cBoxReader_boxEnd 39 = .ok (.iconst (-1), 1) := by decide +kernel
theorem dBoxReader_boxEnd_40 : decode cBoxReader_boxEnd 40 = .ok (.ireturn, 1) := by decide +kernel
theorem dBoxReader_boxEnd_41 : decode cBoxReader_boxEnd 41 = .ok (.lload 4, 2) := by decide +kernel
theorem dBoxReader_boxEnd_43 : decode cBoxReader_boxEnd 43 = .ok (.iload_n 2, 1) := by decide +kernel
theorem dBoxReader_boxEnd_44 : decode cBoxReader_boxEnd 44 = .ok (.iload_n 1, 1) := by decide +kernel
theorem dBoxReader_boxEnd_45 : decode cBoxReader_boxEnd 45 = .ok (.isub, 1) := by decide +kernel
theorem dBoxReader_boxEnd_46 : decode cBoxReader_boxEnd 46 = .ok (.i2l, 1) := by decide +kernel
theorem dBoxReader_boxEnd_47 : decode cBoxReader_boxEnd 47 = .ok (.lcmp, 1) := by decide +kernel
theorem dBoxReader_boxEnd_48 : decode cBoxReader_boxEnd 48 = .ok (.ifCond .le 23, 3) := by decide +kernel
theorem dBoxReader_boxEnd_51 : decode cBoxReader_boxEnd 51 = .ok (.iload_n 3, 1) := by decide +kernel
theorem dBoxReader_boxEnd_52 : decode cBoxReader_boxEnd 52 = .ok (.ifCond .eq 17, 3) := by decide +kernel
theorem dBoxReader_boxEnd_55 : decode cBoxReader_boxEnd 55 = .ok (.aload_n 0, 1) := by decide +kernel
theorem dBoxReader_boxEnd_56 : decode cBoxReader_boxEnd 56 = .ok (.iload_n 1, 1) := by decide +kernel
theorem dBoxReader_boxEnd_57 : decode cBoxReader_boxEnd 57 = .ok (.invokevirtual 59, 3) := by decide +kernel
theorem dBoxReader_boxEnd_60 : decode cBoxReader_boxEnd 60 = .ok (.ldc 68, 2) := by decide +kernel
theorem dBoxReader_boxEnd_62 : decode cBoxReader_boxEnd 62 = .ok (.if_icmp .ne 7, 3) := by decide +kernel
theorem dBoxReader_boxEnd_65 : decode cBoxReader_boxEnd 65 = .ok (.iload_n 2, 1) := by decide +kernel
theorem dBoxReader_boxEnd_66 : decode cBoxReader_boxEnd 66 = .ok (.goto 4, 3) := by decide +kernel
theorem dBoxReader_boxEnd_69 : decode cBoxReader_boxEnd 69 = .ok (.iconst (-1), 1) := by decide +kernel
theorem dBoxReader_boxEnd_70 : decode cBoxReader_boxEnd 70 = .ok (.ireturn, 1) := by decide +kernel
theorem dBoxReader_boxEnd_71 : decode cBoxReader_boxEnd 71 = .ok (.iload_n 1, 1) := by decide +kernel
theorem dBoxReader_boxEnd_72 : decode cBoxReader_boxEnd 72 = .ok (.lload 4, 2) := by decide +kernel
theorem dBoxReader_boxEnd_74 : decode cBoxReader_boxEnd 74 = .ok (.l2i, 1) := by decide +kernel
theorem dBoxReader_boxEnd_75 : decode cBoxReader_boxEnd 75 = .ok (.iadd, 1) := by decide +kernel
theorem dBoxReader_boxEnd_76 : decode cBoxReader_boxEnd 76 = .ok (.ireturn, 1) := by decide +kernel
theorem dBoxReader_keepUnknown_0 : decode cBoxReader_keepUnknown 0 = .ok (.aload_n 0, 1) := by decide +kernel
theorem dBoxReader_keepUnknown_1 : decode cBoxReader_keepUnknown 1 = .ok (.getfield 12, 3) := by decide +kernel
theorem dBoxReader_keepUnknown_4 : decode cBoxReader_keepUnknown 4 = .ok (.iload_n 1, 1) := by decide +kernel
theorem dBoxReader_keepUnknown_5 : decode cBoxReader_keepUnknown 5 = .ok (.invokevirtual 83, 3) := by decide +kernel
theorem dBoxReader_keepUnknown_8 : decode cBoxReader_keepUnknown 8 = .ok (.aload_n 0, 1) := by decide +kernel
theorem dBoxReader_keepUnknown_9 : decode cBoxReader_keepUnknown 9 = .ok (.getfield 18, 3) := by decide +kernel
theorem dBoxReader_keepUnknown_12 : decode cBoxReader_keepUnknown 12 = .ok (.iload_n 2, 1) := by decide +kernel
theorem dBoxReader_keepUnknown_13 : decode cBoxReader_keepUnknown 13 = .ok (.invokevirtual 83, 3) := by decide +kernel
theorem dBoxReader_keepUnknown_16 : decode cBoxReader_keepUnknown 16 = .ok (.return_, 1) := by decide +kernel
theorem dBoxReader_readHeaderBoxes_0 : decode cBoxReader_readHeaderBoxes 0 = .ok (.iload_n 1, 1) := by decide +kernel
theorem dBoxReader_readHeaderBoxes_1 : decode cBoxReader_readHeaderBoxes 1 = .ok (.istore_n 3, 1) := by decide +kernel
theorem dBoxReader_readHeaderBoxes_2 : decode cBoxReader_readHeaderBoxes 2 = .ok (.iconst 0, 1) := by decide +kernel
theorem dBoxReader_readHeaderBoxes_3 : decode cBoxReader_readHeaderBoxes 3 = .ok (.istore 4, 2) := by decide +kernel
theorem dBoxReader_readHeaderBoxes_5 : decode cBoxReader_readHeaderBoxes 5 = .ok (.iload 4, 2) := by decide +kernel
theorem dBoxReader_readHeaderBoxes_7 : decode cBoxReader_readHeaderBoxes 7 = .ok (.sipush 20000, 3) := by decide +kernel
theorem dBoxReader_readHeaderBoxes_10 : decode cBoxReader_readHeaderBoxes 10 = .ok (.if_icmp .ge 133, 3) := by decide +kernel
theorem dBoxReader_readHeaderBoxes_13 : decode cBoxReader_readHeaderBoxes 13 = .ok (.iload 4, 2) := by decide +kernel
theorem dBoxReader_readHeaderBoxes_15 : decode cBoxReader_readHeaderBoxes 15 = .ok (.ifCond .eq 8, 3) := by decide +kernel
theorem dBoxReader_readHeaderBoxes_18 : decode cBoxReader_readHeaderBoxes 18 = .ok (.iload_n 3, 1) := by decide +kernel
theorem dBoxReader_readHeaderBoxes_19 : decode cBoxReader_readHeaderBoxes 19 = .ok (.iload_n 2, 1) := by decide +kernel
theorem dBoxReader_readHeaderBoxes_20 : decode cBoxReader_readHeaderBoxes 20 = .ok (.if_icmp .ge 123, 3) := by decide +kernel
theorem dBoxReader_readHeaderBoxes_23 : decode cBoxReader_readHeaderBoxes 23 = .ok (.aload_n 0, 1) := by decide +kernel
theorem dBoxReader_readHeaderBoxes_24 : decode cBoxReader_readHeaderBoxes 24 = .ok (.iload_n 3, 1) := by decide +kernel
theorem dBoxReader_readHeaderBoxes_25 : decode cBoxReader_readHeaderBoxes 25 = .ok (.iload_n 2, 1) := by decide +kernel
theorem dBoxReader_readHeaderBoxes_26 : decode cBoxReader_readHeaderBoxes 26 = .ok (.iconst 0, 1) := by decide +kernel
theorem dBoxReader_readHeaderBoxes_27 : decode cBoxReader_readHeaderBoxes 27 = .ok (.invokevirtual 64, 3) := by decide +kernel
theorem dBoxReader_readHeaderBoxes_30 : decode cBoxReader_readHeaderBoxes 30 = .ok (.istore 5, 2) := by decide +kernel
theorem dBoxReader_readHeaderBoxes_32 : decode cBoxReader_readHeaderBoxes 32 = .ok (.iload 5, 2) := by decide +kernel
theorem dBoxReader_readHeaderBoxes_34 : decode cBoxReader_readHeaderBoxes 34 = .ok (.iconst (-1), 1) := by decide +kernel
theorem dBoxReader_readHeaderBoxes_35 : decode cBoxReader_readHeaderBoxes 35 = .ok (.if_icmp .ne 5, 3) := by decide +kernel
theorem dBoxReader_readHeaderBoxes_38 : decode cBoxReader_readHeaderBoxes 38 = .ok (.iload_n 3, 1) := by decide +kernel
theorem dBoxReader_readHeaderBoxes_39 : decode cBoxReader_readHeaderBoxes 39 = .ok (.ireturn, 1) := by decide +kernel
theorem dBoxReader_readHeaderBoxes_40 : decode cBoxReader_readHeaderBoxes 40 = .ok (.iload 5, 2) := by decide +kernel
theorem dBoxReader_readHeaderBoxes_42 : decode cBoxReader_readHeaderBoxes 42 = .ok (.iload_n 3, 1) := by decide +kernel
theorem dBoxReader_readHeaderBoxes_43 : decode cBoxReader_readHeaderBoxes 43 = .ok (.isub, 1) := by decide +kernel
theorem dBoxReader_readHeaderBoxes_44 : decode cBoxReader_readHeaderBoxes 44 = .ok (.bipush 8, 2) := by decide +kernel
theorem dBoxReader_readHeaderBoxes_46 : decode cBoxReader_readHeaderBoxes 46 = .ok (.isub, 1) := by decide +kernel
theorem dBoxReader_readHeaderBoxes_47 : decode cBoxReader_readHeaderBoxes 47 = .ok (.istore 6, 2) := by decide +kernel
theorem dBoxReader_readHeaderBoxes_49 : decode cBoxReader_readHeaderBoxes 49 = .ok (.iload 4, 2) := by decide +kernel
theorem dBoxReader_readHeaderBoxes_51 : decode cBoxReader_readHeaderBoxes 51 = .ok (.ifCond .ne 22, 3) := by decide +kernel
theorem dBoxReader_readHeaderBoxes_54 : decode cBoxReader_readHeaderBoxes 54 = .ok (.aload_n 0, 1) := by decide +kernel
theorem dBoxReader_readHeaderBoxes_55 : decode cBoxReader_readHeaderBoxes 55 = .ok (.iload_n 3, 1) := by decide +kernel
theorem dBoxReader_readHeaderBoxes_56 : decode cBoxReader_readHeaderBoxes 56 = .ok (.invokevirtual 59, 3) := by decide +kernel
theorem dBoxReader_readHeaderBoxes_59 : decode cBoxReader_readHeaderBoxes 59 = .ok (.ldc 79, 2) := by decide +kernel
theorem dBoxReader_readHeaderBoxes_61 : decode cBoxReader_readHeaderBoxes 61 = .ok (.if_icmp .ne 10, 3) := by decide +kernel
theorem dBoxReader_readHeaderBoxes_64 : decode cBoxReader_readHeaderBoxes 64 = .ok (.iload 6, 2) := by decide +kernel
theorem dBoxReader_readHeaderBoxes_66 : decode cBoxReader_readHeaderBoxes 66 = .ok (.bipush 14, 2) := by decide +kernel
theorem dBoxReader_readHeaderBoxes_68 : decode cBoxReader_readHeaderBoxes 68 = .ok (.if_icmp .eq 66, 3) := by decide +kernel
theorem dBoxReader_readHeaderBoxes_71 : decode cBoxReader_readHeaderBoxes 71 = .ok (.iload_n 3, 1) := by decide +kernel
theorem dBoxReader_readHeaderBoxes_72 : decode cBoxReader_readHeaderBoxes 72 = .ok (.ireturn, 1) := by decide +kernel
theorem dBoxReader_readHeaderBoxes_73 : decode cBoxReader_readHeaderBoxes 73 = .ok (.aload_n 0, 1) := by decide +kernel
theorem dBoxReader_readHeaderBoxes_74 : decode cBoxReader_readHeaderBoxes 74 = .ok (.iload_n 3, 1) := by decide +kernel
theorem dBoxReader_readHeaderBoxes_75 : decode cBoxReader_readHeaderBoxes 75 = .ok (.invokevirtual 59, 3) := by decide +kernel
theorem dBoxReader_readHeaderBoxes_78 : decode cBoxReader_readHeaderBoxes 78 = .ok (.ldc 80, 2) := by decide +kernel
theorem dBoxReader_readHeaderBoxes_80 : decode cBoxReader_readHeaderBoxes 80 = .ok (.if_icmp .ne 47, 3) := by decide +kernel
theorem dBoxReader_readHeaderBoxes_83 : decode cBoxReader_readHeaderBoxes 83 = .ok (.iload 6, 2) := by decide +kernel
theorem dBoxReader_readHeaderBoxes_85 : decode cBoxReader_readHeaderBoxes 85 = .ok (.bipush 7, 2) := by decide +kernel
theorem dBoxReader_readHeaderBoxes_87 : decode cBoxReader_readHeaderBoxes 87 = .ok (.if_icmp .lt 40, 3) := by decide +kernel
theorem dBoxReader_readHeaderBoxes_90 : decode cBoxReader_readHeaderBoxes 90 = .ok (.aload_n 0, 1) := by decide +kernel
theorem dBoxReader_readHeaderBoxes_91 : decode cBoxReader_readHeaderBoxes 91 = .ok (.getfield 31, 3) := by decide +kernel
theorem dBoxReader_readHeaderBoxes_94 : decode cBoxReader_readHeaderBoxes 94 = .ok (.iload_n 3, 1) := by decide +kernel
theorem dBoxReader_readHeaderBoxes_95 : decode cBoxReader_readHeaderBoxes 95 = .ok (.bipush 8, 2) := by decide +kernel
theorem dBoxReader_readHeaderBoxes_97 : decode cBoxReader_readHeaderBoxes 97 = .ok (.iadd, 1) := by decide +kernel
theorem dBoxReader_readHeaderBoxes_98 : decode cBoxReader_readHeaderBoxes 98 = .ok (.invokevirtual 41, 3) := by decide +kernel
theorem dBoxReader_readHeaderBoxes_101 : decode cBoxReader_readHeaderBoxes 101 = .ok (.iconst 1, 1) := by decide +kernel
theorem dBoxReader_readHeaderBoxes_102 : decode cBoxReader_readHeaderBoxes 102 = .ok (.if_icmp .ne 25, 3) := by decide +kernel
theorem dBoxReader_readHeaderBoxes_105 : decode cBoxReader_readHeaderBoxes 105 = .ok (.aload_n 0, 1) := by decide +kernel
theorem dBoxReader_readHeaderBoxes_106 : decode cBoxReader_readHeaderBoxes 106 = .ok (.aload_n 0, 1) := by decide +kernel
theorem dBoxReader_readHeaderBoxes_107 : decode cBoxReader_readHeaderBoxes 107 = .ok (.getfield 31, 3) := by decide +kernel
theorem dBoxReader_readHeaderBoxes_110 : decode cBoxReader_readHeaderBoxes 110 = .ok (.iload_n 3, 1) := by decide +kernel
theorem dBoxReader_readHeaderBoxes_111 : decode cBoxReader_readHeaderBoxes 111 = .ok (.bipush 8, 2) := by decide +kernel
theorem dBoxReader_readHeaderBoxes_113 : decode cBoxReader_readHeaderBoxes 113 = .ok (.iadd, 1) := by decide +kernel
theorem dBoxReader_readHeaderBoxes_114 : decode cBoxReader_readHeaderBoxes 114 = .ok (.iconst 3, 1) := by decide +kernel
theorem dBoxReader_readHeaderBoxes_115 : decode cBoxReader_readHeaderBoxes 115 = .ok (.iadd, 1) := by decide +kernel
theorem dBoxReader_readHeaderBoxes_116 : decode cBoxReader_readHeaderBoxes 116 = .ok (.iconst 4, 1) := by decide +kernel
theorem dBoxReader_readHeaderBoxes_117 : decode cBoxReader_readHeaderBoxes 117 = .ok (.invokevirtual 53, 3) := by decide +kernel
theorem dBoxReader_readHeaderBoxes_120 : decode cBoxReader_readHeaderBoxes 120 = .ok (.l2i, 1) := by decide +kernel
theorem dBoxReader_readHeaderBoxes_121 : decode cBoxReader_readHeaderBoxes 121 = .ok (.putfield 21, 3) := by decide +kernel
theorem dBoxReader_readHeaderBoxes_124 : decode cBoxReader_readHeaderBoxes 124 = .ok (.goto 10, 3) := by decide +kernel
theorem dBoxReader_readHeaderBoxes_127 : decode cBoxReader_readHeaderBoxes 127 = .ok (.aload_n 0, 1) := by decide +kernel
theorem dBoxReader_readHeaderBoxes_128 : decode cBoxReader_readHeaderBoxes 128 = .ok (.iload_n 3, 1) := by decide +kernel
theorem dBoxReader_readHeaderBoxes_129 : decode cBoxReader_readHeaderBoxes 129 = .ok (.iload 5, 2) := by decide +kernel
theorem dBoxReader_readHeaderBoxes_131 : decode cBoxReader_readHeaderBoxes 131 = .ok (.invokevirtual 75, 3) := by decide +kernel
theorem dBoxReader_readHeaderBoxes_134 : decode cBoxReader_readHeaderBoxes 134 = .ok (.iload 5, 2) := by decide +kernel
theorem dBoxReader_readHeaderBoxes_136 : decode cBoxReader_readHeaderBoxes 136 = .ok (.istore_n 3, 1) := by decide +kernel
theorem dBoxReader_readHeaderBoxes_137 : decode cBoxReader_readHeaderBoxes 137 = .ok (.iinc 4 1, 3) := by decide +kernel
theorem dBoxReader_readHeaderBoxes_140 : decode cBoxReader_readHeaderBoxes 140 = .ok (.goto (-135), 3) := by decide +kernel
theorem dBoxReader_readHeaderBoxes_143 : decode cBoxReader_readHeaderBoxes 143 = .ok (.iconst (-1), 1) := by decide +kernel
theorem dBoxReader_readHeaderBoxes_144 : decode cBoxReader_readHeaderBoxes 144 = .ok (.ireturn, 1) := by decide +kernel
theorem dBoxReader_readBoxes_0 : decode cBoxReader_readBoxes 0 = .ok (.aload_n 0, 1) := by decide +kernel
theorem dBoxReader_readBoxes_1 : decode cBoxReader_readBoxes 1 = .ok (.getfield 31, 3) := by decide +kernel
theorem dBoxReader_readBoxes_4 : decode cBoxReader_readBoxes 4 = .ok (.getfield 38, 3) := by decide +kernel
theorem dBoxReader_readBoxes_7 : decode cBoxReader_readBoxes 7 = .ok (.istore_n 1, 1) := by decide +kernel
theorem dBoxReader_readBoxes_8 : decode cBoxReader_readBoxes 8 = .ok (.bipush 12, 2) := by decide +kernel
theorem dBoxReader_readBoxes_10 : decode cBoxReader_readBoxes 10 = .ok (.istore_n 2, 1) := by decide +kernel
theorem dBoxReader_readBoxes_11 : decode cBoxReader_readBoxes 11 = .ok (.iconst 0, 1) := by decide +kernel
theorem dBoxReader_readBoxes_12 : decode cBoxReader_readBoxes 12 = .ok (.istore_n 3, 1) := by decide +kernel
theorem dBoxReader_readBoxes_13 : decode cBoxReader_readBoxes 13 = .ok (.iload_n 3, 1) := by decide +kernel
theorem dBoxReader_readBoxes_14 : decode cBoxReader_readBoxes 14 = .ok (.sipush 20000, 3) := by decide +kernel
theorem dBoxReader_readBoxes_17 : decode cBoxReader_readBoxes 17 = .ok (.if_icmp .ge 117, 3) := by decide +kernel
theorem dBoxReader_readBoxes_20 : decode cBoxReader_readBoxes 20 = .ok (.iload_n 2, 1) := by decide +kernel
theorem dBoxReader_readBoxes_21 : decode cBoxReader_readBoxes 21 = .ok (.iload_n 1, 1) := by decide +kernel
theorem dBoxReader_readBoxes_22 : decode cBoxReader_readBoxes 22 = .ok (.if_icmp .ge 112, 3) := by decide +kernel
theorem dBoxReader_readBoxes_25 : decode cBoxReader_readBoxes 25 = .ok (.aload_n 0, 1) := by decide +kernel
theorem dBoxReader_readBoxes_26 : decode cBoxReader_readBoxes 26 = .ok (.iload_n 2, 1) := by decide +kernel
theorem dBoxReader_readBoxes_27 : decode cBoxReader_readBoxes 27 = .ok (.iload_n 1, 1) := by decide +kernel
theorem dBoxReader_readBoxes_28 : decode cBoxReader_readBoxes 28 = .ok (.iconst 1, 1) := by decide +kernel
theorem dBoxReader_readBoxes_29 : decode cBoxReader_readBoxes 29 = .ok (.invokevirtual 64, 3) := by decide +kernel
theorem dBoxReader_readBoxes_32 : decode cBoxReader_readBoxes 32 = .ok (.istore 4, 2) := by decide +kernel
theorem dBoxReader_readBoxes_34 : decode cBoxReader_readBoxes 34 = .ok (.iload 4, 2) := by decide +kernel
theorem dBoxReader_readBoxes_36 : decode cBoxReader_readBoxes 36 = .ok (.iconst (-1), 1) := by decide +kernel
theorem dBoxReader_readBoxes_37 : decode cBoxReader_readBoxes 37 = .ok (.if_icmp .ne 5, 3) := by decide +kernel
theorem dBoxReader_readBoxes_40 : decode cBoxReader_readBoxes 40 = .ok (.iload_n 2, 1) := by decide +kernel
theorem dBoxReader_readBoxes_41 : decode cBoxReader_readBoxes 41 = .ok (.ireturn, 1) := by decide +kernel
theorem dBoxReader_readBoxes_42 : decode cBoxReader_readBoxes 42 = .ok (.aload_n 0, 1) := by decide +kernel
theorem dBoxReader_readBoxes_43 : decode cBoxReader_readBoxes 43 = .ok (.iload_n 2, 1) := by decide +kernel
theorem dBoxReader_readBoxes_44 : decode cBoxReader_readBoxes 44 = .ok (.invokevirtual 59, 3) := by decide +kernel
theorem dBoxReader_readBoxes_47 : decode cBoxReader_readBoxes 47 = .ok (.istore 5, 2) := by decide +kernel
theorem dBoxReader_readBoxes_49 : decode cBoxReader_readBoxes 49 = .ok (.iload 5, 2) := by decide +kernel
theorem dBoxReader_readBoxes_51 : decode cBoxReader_readBoxes 51 = .ok (.ldc 68, 2) := by decide +kernel
theorem dBoxReader_readBoxes_53 : decode cBoxReader_readBoxes 53 = .ok (.if_icmp .ne 19, 3) := by decide +kernel
theorem dBoxReader_readBoxes_56 : decode cBoxReader_readBoxes 56 = .ok (.aload_n 0, 1) := by decide +kernel
theorem dBoxReader_readBoxes_57 : decode cBoxReader_readBoxes 57 = .ok (.iload_n 2, 1) := by decide +kernel
theorem dBoxReader_readBoxes_58 : decode cBoxReader_readBoxes 58 = .ok (.bipush 8, 2) := by decide +kernel
theorem dBoxReader_readBoxes_60 : decode cBoxReader_readBoxes 60 = .ok (.iadd, 1) := by decide +kernel
theorem dBoxReader_readBoxes_61 : decode cBoxReader_readBoxes 61 = .ok (.putfield 25, 3) := by decide +kernel
theorem dBoxReader_readBoxes_64 : decode cBoxReader_readBoxes 64 = .ok (.aload_n 0, 1) := by decide +kernel
theorem dBoxReader_readBoxes_65 : decode cBoxReader_readBoxes 65 = .ok (.iload 4, 2) := by decide +kernel
theorem dBoxReader_readBoxes_67 : decode cBoxReader_readBoxes 67 = .ok (.putfield 28, 3) := by decide +kernel
theorem dBoxReader_readBoxes_70 : decode cBoxReader_readBoxes 70 = .ok (.iconst (-1), 1) := by decide +kernel
theorem dBoxReader_readBoxes_71 : decode cBoxReader_readBoxes 71 = .ok (.ireturn, 1) := by decide +kernel
theorem dBoxReader_readBoxes_72 : decode cBoxReader_readBoxes 72 = .ok (.iload 5, 2) := by decide +kernel
theorem dBoxReader_readBoxes_74 : decode cBoxReader_readBoxes 74 = .ok (.ldc 69, 2) := by decide +kernel
theorem dBoxReader_readBoxes_76 : decode cBoxReader_readBoxes 76 = .ok (.if_icmp .ne 16, 3) := by decide +kernel
theorem dBoxReader_readBoxes_79 : decode cBoxReader_readBoxes 79 = .ok (.aload_n 0, 1) := by decide +kernel
theorem dBoxReader_readBoxes_80 : decode cBoxReader_readBoxes 80 = .ok (.iload_n 2, 1) := by decide +kernel
theorem dBoxReader_readBoxes_81 : decode cBoxReader_readBoxes 81 = .ok (.bipush 8, 2) := by decide +kernel
theorem dBoxReader_readBoxes_83 : decode cBoxReader_readBoxes 83 = .ok (.iadd, 1) := by decide +kernel
theorem dBoxReader_readBoxes_84 : decode cBoxReader_readBoxes 84 = .ok (.iload 4, 2) := by decide +kernel
theorem dBoxReader_readBoxes_86 : decode cBoxReader_readBoxes 86 = .ok (.invokevirtual 70, 3) := by decide +kernel
theorem dBoxReader_readBoxes_89 : decode cBoxReader_readBoxes 89 = .ok (.goto 4, 3) := by decide +kernel
theorem dBoxReader_readBoxes_92 : decode cBoxReader_readBoxes 92 = .ok (.iconst (-1), 1) := by decide +kernel
theorem dBoxReader_readBoxes_93 : decode cBoxReader_readBoxes 93 = .ok (.istore 6, 2) := by decide +kernel
theorem dBoxReader_readBoxes_95 : decode cBoxReader_readBoxes 95 = .ok (.iload 6, 2) := by decide +kernel
theorem dBoxReader_readBoxes_97 : decode cBoxReader_readBoxes 97 = .ok (.iconst (-1), 1) := by decide +kernel
theorem dBoxReader_readBoxes_98 : decode cBoxReader_readBoxes 98 = .ok (.if_icmp .eq 6, 3) := by decide +kernel
theorem dBoxReader_readBoxes_101 : decode cBoxReader_readBoxes 101 = .ok (.iload 6, 2) := by decide +kernel
theorem dBoxReader_readBoxes_103 : decode cBoxReader_readBoxes 103 = .ok (.ireturn, 1) := by decide +kernel
theorem dBoxReader_readBoxes_104 : decode cBoxReader_readBoxes 104 = .ok (.iload 5, 2) := by decide +kernel
theorem dBoxReader_readBoxes_106 : decode cBoxReader_readBoxes 106 = .ok (.ldc 69, 2) := by decide +kernel
theorem dBoxReader_readBoxes_108 : decode cBoxReader_readBoxes 108 = .ok (.if_icmp .eq 17, 3) := by decide +kernel
theorem dBoxReader_readBoxes_111 : decode cBoxReader_readBoxes 111 = .ok (.iload 5, 2) := by decide +kernel
theorem dBoxReader_readBoxes_113 : decode cBoxReader_readBoxes 113 = .ok (.ldc 74, 2) := by decide +kernel
theorem dBoxReader_readBoxes_115 : decode cBoxReader_readBoxes 115 = .ok (.if_icmp .eq 10, 3) := by decide +kernel
theorem dBoxReader_readBoxes_118 : decode cBoxReader_readBoxes 118 = .ok (.aload_n 0, 1) := by decide +kernel
theorem dBoxReader_readBoxes_119 : decode cBoxReader_readBoxes 119 = .ok (.iload_n 2, 1) := by decide +kernel
theorem dBoxReader_readBoxes_120 : decode cBoxReader_readBoxes 120 = .ok (.iload 4, 2) := by decide +kernel
theorem dBoxReader_readBoxes_122 : decode cBoxReader_readBoxes 122 = .ok (.invokevirtual 75, 3) := by decide +kernel
theorem dBoxReader_readBoxes_125 : decode cBoxReader_readBoxes 125 = .ok (.iload 4, 2) := by decide +kernel
theorem dBoxReader_readBoxes_127 : decode cBoxReader_readBoxes 127 = .ok (.istore_n 2, 1) := by decide +kernel
theorem dBoxReader_readBoxes_128 : decode cBoxReader_readBoxes 128 = .ok (.iinc 3 1, 3) := by decide +kernel
theorem dBoxReader_readBoxes_131 : decode cBoxReader_readBoxes 131 = .ok (.goto (-118), 3) := by decide +kernel
theorem dBoxReader_readBoxes_134 : decode cBoxReader_readBoxes 134 = .ok (.iload_n 1, 1) := by decide +kernel
theorem dBoxReader_readBoxes_135 : decode cBoxReader_readBoxes 135 = .ok (.ireturn, 1) := by decide +kernel
theorem dBoxReader_findStream_0 : decode cBoxReader_findStream 0 = .ok (.aload_n 0, 1) := by decide +kernel
theorem dBoxReader_findStream_1 : decode cBoxReader_findStream 1 = .ok (.iconst 0, 1) := by decide +kernel
theorem dBoxReader_findStream_2 : decode cBoxReader_findStream 2 = .ok (.putfield 25, 3) := by decide +kernel
theorem dBoxReader_findStream_5 : decode cBoxReader_findStream 5 = .ok (.aload_n 0, 1) := by decide +kernel
theorem dBoxReader_findStream_6 : decode cBoxReader_findStream 6 = .ok (.aload_n 0, 1) := by decide +kernel
theorem dBoxReader_findStream_7 : decode cBoxReader_findStream 7 = .ok (.getfield 31, 3) := by decide +kernel
theorem dBoxReader_findStream_10 : decode cBoxReader_findStream 10 = .ok (.getfield 38, 3) := by decide +kernel
theorem dBoxReader_findStream_13 : decode cBoxReader_findStream 13 = .ok (.putfield 28, 3) := by decide +kernel
theorem dBoxReader_findStream_16 : decode cBoxReader_findStream 16 = .ok (.aload_n 0, 1) := by decide +kernel
theorem dBoxReader_findStream_17 : decode cBoxReader_findStream 17 = .ok (.getfield 31, 3) := by decide +kernel
theorem dBoxReader_findStream_20 : decode cBoxReader_findStream 20 = .ok (.iconst 0, 1) := by decide +kernel
theorem dBoxReader_findStream_21 : decode cBoxReader_findStream 21 = .ok (.invokevirtual 41, 3) := by decide +kernel
theorem dBoxReader_findStream_24 : decode cBoxReader_findStream 24 = .ok (.sipush 255, 3) := by decide +kernel
theorem dBoxReader_findStream_27 : decode cBoxReader_findStream 27 = .ok (.if_icmp .ne 18, 3) := by decide +kernel
theorem dBoxReader_findStream_30 : decode cBoxReader_findStream 30 = .ok (.aload_n 0, 1) := by decide +kernel
theorem dBoxReader_findStream_31 : decode cBoxReader_findStream 31 = .ok (.getfield 31, 3) := by decide +kernel
theorem dBoxReader_findStream_34 : decode cBoxReader_findStream 34 = .ok (.iconst 1, 1) := by decide +kernel
theorem dBoxReader_findStream_35 : decode cBoxReader_findStream 35 = .ok (.invokevirtual 41, 3) := by decide +kernel
theorem dBoxReader_findStream_38 : decode cBoxReader_findStream 38 = .ok (.bipush 79, 2) := by decide +kernel
theorem dBoxReader_findStream_40 : decode cBoxReader_findStream 40 = .ok (.if_icmp .ne 5, 3) := by decide +kernel
theorem dBoxReader_findStream_43 : decode cBoxReader_findStream 43 = .ok (.iconst (-1), 1) := by decide +kernel
theorem dBoxReader_findStream_44 : decode cBoxReader_findStream 44 = .ok (.ireturn, 1) := by decide +kernel
theorem dBoxReader_findStream_45 : decode cBoxReader_findStream 45 = .ok (.aload_n 0, 1) := by decide +kernel
theorem dBoxReader_findStream_46 : decode cBoxReader_findStream 46 = .ok (.invokevirtual 45, 3) := by decide +kernel
theorem dBoxReader_findStream_49 : decode cBoxReader_findStream 49 = .ok (.ifCond .eq 10, 3) := by decide +kernel
theorem dBoxReader_findStream_52 : decode cBoxReader_findStream 52 = .ok (.aload_n 0, 1) := by decide +kernel
theorem dBoxReader_findStream_53 : decode cBoxReader_findStream 53 = .ok (.invokevirtual 49, 3) := by decide +kernel
theorem dBoxReader_findStream_56 : decode cBoxReader_findStream 56 = .ok (.goto 4, 3) := by decide +kernel
theorem dBoxReader_findStream_59 : decode cBoxReader_findStream 59 = .ok (.iconst 0, 1) := by decide +kernel
theorem dBoxReader_findStream_60 : decode cBoxReader_findStream 60 = .ok (.ireturn, 1) := by decide +kernel
theorem dHeadReader_init_0 : decode cHeadReader_init 0 = .ok (.aload_n 0, 1) := by decide +kernel
theorem dHeadReader_init_1 : decode cHeadReader_init 1 = .ok (.invokespecial 3, 3) := by decide +kernel
theorem dHeadReader_init_4 : decode cHeadReader_init 4 = .ok (.aload_n 0, 1) := by decide +kernel
theorem dHeadReader_init_5 : decode cHeadReader_init 5 = .ok (.iconst 0, 1) := by decide +kernel
theorem dHeadReader_init_6 : decode cHeadReader_init 6 = .ok (.putfield 9, 3) := by decide +kernel
theorem dHeadReader_init_9 : decode cHeadReader_init 9 = .ok (.aload_n 0, 1) := by decide +kernel
theorem dHeadReader_init_10 : decode cHeadReader_init 10 = .ok (.aload_n 1, 1) := by decide +kernel
theorem dHeadReader_init_11 : decode cHeadReader_init 11 = .ok (.putfield 15, 3) := by decide +kernel
theorem dHeadReader_init_14 : decode cHeadReader_init 14 = .ok (.aload_n 0, 1) := by decide +kernel
theorem dHeadReader_init_15 : decode cHeadReader_init 15 = .ok (.aload_n 2, 1) := by decide +kernel
theorem dHeadReader_init_16 : decode cHeadReader_init 16 = .ok (.putfield 19, 3) := by decide +kernel
theorem dHeadReader_init_19 : decode cHeadReader_init 19 = .ok (.return_, 1) := by decide +kernel
theorem dHeadReader_isCode_0 : decode cHeadReader_isCode 0 = .ok (.iload_n 2, 1) := by decide +kernel
theorem dHeadReader_isCode_1 : decode cHeadReader_isCode 1 = .ok (.iload_n 1, 1) := by decide +kernel
theorem dHeadReader_isCode_2 : decode cHeadReader_isCode 2 = .ok (.isub, 1) := by decide +kernel
theorem dHeadReader_isCode_3 : decode cHeadReader_isCode 3 = .ok (.iconst 2, 1) := by decide +kernel
theorem dHeadReader_isCode_4 : decode cHeadReader_isCode 4 = .ok (.if_icmp .lt 35, 3) := by decide +kernel
theorem dHeadReader_isCode_7 : decode cHeadReader_isCode 7 = .ok (.aload_n 0, 1) := by decide +kernel
theorem dHeadReader_isCode_8 : decode cHeadReader_isCode 8 = .ok (.getfield 15, 3) := by decide +kernel
theorem dHeadReader_isCode_11 : decode cHeadReader_isCode 11 = .ok (.iload_n 1, 1) := by decide +kernel
theorem dHeadReader_isCode_12 : decode cHeadReader_isCode 12 = .ok (.invokevirtual 44, 3) := by decide +kernel
theorem dHeadReader_isCode_15 : decode cHeadReader_isCode 15 = .ok (.sipush 255, 3) := by decide +kernel
theorem dHeadReader_isCode_18 : decode cHeadReader_isCode 18 = .ok (.if_icmp .ne 21, 3) := by decide +kernel
theorem dHeadReader_isCode_21 : decode cHeadReader_isCode 21 = .ok (.aload_n 0, 1) := by decide +kernel
theorem dHeadReader_isCode_22 : decode cHeadReader_isCode 22 = .ok (.getfield 15, 3) := by decide +kernel
theorem dHeadReader_isCode_25 : decode cHeadReader_isCode 25 = .ok (.iload_n 1, 1) := by decide +kernel
theorem dHeadReader_isCode_26 : decode cHeadReader_isCode 26 = .ok (.iconst 1, 1) := by decide +kernel
theorem dHeadReader_isCode_27 : decode cHeadReader_isCode 27 = .ok (.iadd, 1) := by decide +kernel
theorem dHeadReader_isCode_28 : decode cHeadReader_isCode 28 = .ok (.invokevirtual 44, 3) := by decide +kernel
theorem dHeadReader_isCode_31 : decode cHeadReader_isCode 31 = .ok (.iload_n 3, 1) := by decide +kernel
theorem dHeadReader_isCode_32 : decode cHeadReader_isCode 32 = .ok (.if_icmp .ne 7, 3) := by decide +kernel
theorem dHeadReader_isCode_35 : decode cHeadReader_isCode 35 = .ok (.iconst 1, 1) := by decide +kernel
theorem dHeadReader_isCode_36 : decode cHeadReader_isCode 36 = .ok (.goto 4, 3) := by decide +kernel
theorem dHeadReader_isCode_39 : decode cHeadReader_isCode 39 = .ok (.iconst 0, 1) := by decide +kernel
theorem dHeadReader_isCode_40 : decode cHeadReader_isCode 40 = .ok (.ireturn, 1) := by decide +kernel
theorem dHeadReader_segmentEnd_0 : decode cHeadReader_segmentEnd 0 = .ok (.iload_n 2, 1) := by decide +kernel
theorem dHeadReader_segmentEnd_1 : decode cHeadReader_segmentEnd 1 = .ok (.iload_n 1, 1) := by decide +kernel
theorem dHeadReader_segmentEnd_2 : decode cHeadReader_segmentEnd 2 = .ok (.isub, 1) := by decide +kernel
theorem dHeadReader_segmentEnd_3 : decode cHeadReader_segmentEnd 3 = .ok (.iconst 4, 1) := by decide +kernel
theorem dHeadReader_segmentEnd_4 : decode cHeadReader_segmentEnd 4 = .ok (.if_icmp .lt 17, 3) := by decide +kernel
theorem dHeadReader_segmentEnd_7 : decode cHeadReader_segmentEnd 7 = .ok (.aload_n 0, 1) := by decide +kernel
theorem dHeadReader_segmentEnd_8 : decode cHeadReader_segmentEnd 8 = .ok (.getfield 15, 3) := by decide +kernel
theorem dHeadReader_segmentEnd_11 : decode cHeadReader_segmentEnd 11 = .ok (.iload_n 1, 1) := by decide +kernel
theorem dHeadReader_segmentEnd_12 : decode cHeadReader_segmentEnd 12 = .ok (.invokevirtual 44, 3) := by decide +kernel
theorem dHeadReader_segmentEnd_15 : decode cHeadReader_segmentEnd 15 = .ok (.sipush 255, 3) := by decide +kernel
theorem dHeadReader_segmentEnd_18 : decode cHeadReader_segmentEnd 18 = .ok (.if_icmp .eq 5, 3) := by decide +kernel
theorem dHeadReader_segmentEnd_21 : decode cHeadReader_segmentEnd 21 = .ok (.iconst (-1), 1) := by decide +kernel
theorem dHeadReader_segmentEnd_22 : decode cHeadReader_segmentEnd 22 = .ok (.ireturn, 1) := by decide +kernel
theorem dHeadReader_segmentEnd_23 : decode cHeadReader_segmentEnd 23 = .ok (.aload_n 0, 1) := by decide +kernel
theorem dHeadReader_segmentEnd_24 : decode cHeadReader_segmentEnd 24 = .ok (.getfield 15, 3) := by decide +kernel
theorem dHeadReader_segmentEnd_27 : decode cHeadReader_segmentEnd 27 = .ok (.iload_n 1, 1) := by decide +kernel
theorem dHeadReader_segmentEnd_28 : decode cHeadReader_segmentEnd 28 = .ok (.iconst 2, 1) := by decide +kernel
theorem dHeadReader_segmentEnd_29 : decode cHeadReader_segmentEnd 29 = .ok (.iadd, 1) := by decide +kernel
theorem dHeadReader_segmentEnd_30 : decode cHeadReader_segmentEnd 30 = .ok (.iconst 2, 1) := by decide +kernel
theorem dHeadReader_segmentEnd_31 : decode cHeadReader_segmentEnd 31 = .ok (.invokevirtual 50, 3) := by decide +kernel
theorem dHeadReader_segmentEnd_34 : decode cHeadReader_segmentEnd 34 = .ok (.l2i, 1) := by decide +kernel
theorem dHeadReader_segmentEnd_35 : decode cHeadReader_segmentEnd 35 = .ok (.istore_n 3, 1) := by decide +kernel
theorem dHeadReader_segmentEnd_36 : decode cHeadReader_segmentEnd 36 = .ok (.iload_n 3, 1) := by decide +kernel
theorem dHeadReader_segmentEnd_37 : decode cHeadReader_segmentEnd 37 = .ok (.iconst 2, 1) := by decide +kernel
theorem dHeadReader_segmentEnd_38 : decode cHeadReader_segmentEnd 38 = .ok (.if_icmp .lt 20, 3) := by decide +kernel
theorem dHeadReader_segmentEnd_41 : decode cHeadReader_segmentEnd 41 = .ok (.iload_n 3, 1) := by decide +kernel
theorem dHeadReader_segmentEnd_42 : decode cHeadReader_segmentEnd 42 = .ok (.iload_n 2, 1) := by decide +kernel
theorem dHeadReader_segmentEnd_43 : decode cHeadReader_segmentEnd 43 = .ok (.iload_n 1, 1) := by decide +kernel
theorem dHeadReader_segmentEnd_44 : decode cHeadReader_segmentEnd 44 = .ok (.isub, 1) := by decide +kernel
theorem dHeadReader_segmentEnd_45 : decode cHeadReader_segmentEnd 45 = .ok (.iconst 2, 1) := by decide +kernel
theorem dHeadReader_segmentEnd_46 : decode cHeadReader_segmentEnd 46 = .ok (.isub, 1) := by decide +kernel
theorem dHeadReader_segmentEnd_47 : decode cHeadReader_segmentEnd 47 = .ok (.if_icmp .gt 11, 3) := by decide +kernel
theorem dHeadReader_segmentEnd_50 : decode cHeadReader_segmentEnd 50 = .ok (.iload_n 1, 1) := by decide +kernel
theorem dHeadReader_segmentEnd_51 : decode cHeadReader_segmentEnd 51 = .ok (.iconst 2, 1) := by decide +kernel
theorem dHeadReader_segmentEnd_52 : decode cHeadReader_segmentEnd 52 = .ok (.iadd, 1) := by decide +kernel
theorem dHeadReader_segmentEnd_53 : decode cHeadReader_segmentEnd 53 = .ok (.iload_n 3, 1) := by decide +kernel
theorem dHeadReader_segmentEnd_54 : decode cHeadReader_segmentEnd 54 = .ok (.iadd, 1) := by decide +kernel
theorem dHeadReader_segmentEnd_55 : decode cHeadReader_segmentEnd 55 = .ok (.goto 4, 3) := by decide +kernel
theorem dHeadReader_segmentEnd_58 : decode cHeadReader_segmentEnd 58 = .ok (.iconst (-1), 1) := by decide +kernel
theorem dHeadReader_segmentEnd_59 : decode cHeadReader_segmentEnd 59 = .ok (.ireturn, 1) := by decide +kernel
theorem dHeadReader_isTileSide_0 : decode cHeadReader_isTileSide 0 = .ok (.lload_n 0, 1) := by decide +kernel
theorem dHeadReader_isTileSide_1 : decode cHeadReader_isTileSide 1 = .ok (.lconst 1, 1) := by decide +kernel
theorem dHeadReader_isTileSide_2 : decode cHeadReader_isTileSide 2 = .ok (.lcmp, 1) := by decide +kernel
theorem dHeadReader_isTileSide_3 : decode cHeadReader_isTileSide 3 = .ok (.ifCond .lt 15, 3) := by decide +kernel
theorem dHeadReader_isTileSide_6 : decode cHeadReader_isTileSide 6 = .ok (.lload_n 0, 1) := by decide +kernel
theorem dHeadReader_isTileSide_7 : decode cHeadReader_isTileSide 7 = .ok (.ldc2_w 89, 3) := by decide +kernel
theorem dHeadReader_isTileSide_10 : decode cHeadReader_isTileSide 10 = .ok (.lcmp, 1) := by decide +kernel
theorem dHeadReader_isTileSide_11 : decode cHeadReader_isTileSide 11 = .ok (.ifCond .gt 7, 3) := by decide +kernel
theorem dHeadReader_isTileSide_14 : decode cHeadReader_isTileSide 14 = .ok (.iconst 1, 1) := by decide +kernel
theorem dHeadReader_isTileSide_15 : decode cHeadReader_isTileSide 15 = .ok (.goto 4, 3) := by decide +kernel
theorem dHeadReader_isTileSide_18 : decode cHeadReader_isTileSide 18 = .ok (.iconst 0, 1) := by decide +kernel
theorem dHeadReader_isTileSide_19 : decode cHeadReader_isTileSide 19 = .ok (.ireturn, 1) := by decide +kernel
theorem dHeadReader_keepSides_0 : decode cHeadReader_keepSides 0 = .ok (.aload_n 0, 1) := by decide +kernel
theorem dHeadReader_keepSides_1 : decode cHeadReader_keepSides 1 = .ok (.getfield 15, 3) := by decide +kernel
theorem dHeadReader_keepSides_4 : decode cHeadReader_keepSides 4 = .ok (.iload_n 1, 1) := by decide +kernel
theorem dHeadReader_keepSides_5 : decode cHeadReader_keepSides 5 = .ok (.bipush 6, 2) := by decide +kernel
theorem dHeadReader_keepSides_7 : decode cHeadReader_keepSides 7 = .ok (.iadd, 1) := by decide +kernel
theorem dHeadReader_keepSides_8 : decode cHeadReader_keepSides 8 = .ok (.iconst 4, 1) := by decide +kernel
theorem dHeadReader_keepSides_9 : decode cHeadReader_keepSides 9 = .ok (.invokevirtual 50, 3) := by decide +kernel
theorem dHeadReader_keepSides_12 : decode cHeadReader_keepSides 12 = .ok (.lstore_n 2, 1) := by decide +kernel
theorem dHeadReader_keepSides_13 : decode cHeadReader_keepSides 13 = .ok (.aload_n 0, 1) := by decide +kernel
theorem dHeadReader_keepSides_14 : decode cHeadReader_keepSides 14 = .ok (.getfield 15, 3) := by decide +kernel
theorem dHeadReader_keepSides_17 : decode cHeadReader_keepSides 17 = .ok (.iload_n 1, 1) := by decide +kernel
theorem dHeadReader_keepSides_18 : decode cHeadReader_keepSides 18 = .ok (.bipush 10, 2) := by decide +kernel
theorem dHeadReader_keepSides_20 : decode cHeadReader_keepSides 20 = .ok (.iadd, 1) := by decide +kernel
theorem dHeadReader_keepSides_21 : decode cHeadReader_keepSides 21 = .ok (.iconst 4, 1) := by decide +kernel
theorem dHeadReader_keepSides_22 : decode cHeadReader_keepSides 22 = .ok (.invokevirtual 50, 3) := by decide +kernel
theorem dHeadReader_keepSides_25 : decode cHeadReader_keepSides 25 = .ok (.lstore 4, 2) := by decide +kernel
theorem dHeadReader_keepSides_27 : decode cHeadReader_keepSides 27 = .ok (.aload_n 0, 1) := by decide +kernel
theorem dHeadReader_keepSides_28 : decode cHeadReader_keepSides 28 = .ok (.getfield 15, 3) := by decide +kernel
theorem dHeadReader_keepSides_31 : decode cHeadReader_keepSides 31 = .ok (.iload_n 1, 1) := by decide +kernel
theorem dHeadReader_keepSides_32 : decode cHeadReader_keepSides 32 = .ok (.bipush 22, 2) := by decide +kernel
theorem dHeadReader_keepSides_34 : decode cHeadReader_keepSides 34 = .ok (.iadd, 1) := by decide +kernel
theorem dHeadReader_keepSides_35 : decode cHeadReader_keepSides 35 = .ok (.iconst 4, 1) := by decide +kernel
theorem dHeadReader_keepSides_36 : decode cHeadReader_keepSides 36 = .ok (.invokevirtual 50, 3) := by decide +kernel
theorem dHeadReader_keepSides_39 : decode cHeadReader_keepSides 39 = .ok (.lstore 6, 2) := by decide +kernel
theorem dHeadReader_keepSides_41 : decode cHeadReader_keepSides 41 = .ok (.aload_n 0, 1) := by decide +kernel
theorem dHeadReader_keepSides_42 : decode cHeadReader_keepSides 42 = .ok (.getfield 15, 3) := by decide +kernel
theorem dHeadReader_keepSides_45 : decode cHeadReader_keepSides 45 = .ok (.iload_n 1, 1) := by decide +kernel
theorem dHeadReader_keepSides_46 : decode cHeadReader_keepSides 46 = .ok (.bipush 26, 2) := by decide +kernel
theorem dHeadReader_keepSides_48 : decode cHeadReader_keepSides 48 = .ok (.iadd, 1) := by decide +kernel
theorem dHeadReader_keepSides_49 : decode cHeadReader_keepSides 49 = .ok (.iconst 4, 1) := by decide +kernel
theorem dHeadReader_keepSides_50 : decode cHeadReader_keepSides 50 = .ok (.invokevirtual 50, 3) := by decide +kernel
theorem dHeadReader_keepSides_53 : decode cHeadReader_keepSides 53 = .ok (.lstore 8, 2) := by decide +kernel
theorem dHeadReader_keepSides_55 : decode cHeadReader_keepSides 55 = .ok (.iconst 0, 1) := by decide +kernel
theorem dHeadReader_keepSides_56 : decode cHeadReader_keepSides 56 = .ok (.lload_n 2, 1) := by decide +kernel
theorem dHeadReader_keepSides_57 : decode cHeadReader_keepSides 57 = .ok (.invokestatic 54, 3) := by decide +kernel
theorem dHeadReader_keepSides_60 : decode cHeadReader_keepSides 60 = .ok (.ifCond .eq 28, 3) := by decide +kernel
theorem dHeadReader_keepSides_63 : decode cHeadReader_keepSides 63 = .ok (.iconst 1, 1) := by decide +kernel
theorem dHeadReader_keepSides_64 : decode cHeadReader_keepSides 64 = .ok (.lload 4, 2) := by decide +kernel
theorem dHeadReader_keepSides_66 : decode cHeadReader_keepSides 66 = .ok (.invokestatic 54, 3) := by decide +kernel
theorem dHeadReader_keepSides_69 : decode cHeadReader_keepSides 69 = .ok (.ifCond .eq 19, 3) := by decide +kernel
theorem dHeadReader_keepSides_72 : decode cHeadReader_keepSides 72 = .ok (.lload 6, 2) := by decide +kernel
theorem dHeadReader_keepSides_74 : decode cHeadReader_keepSides 74 = .ok (.invokestatic 65, 3) := by decide +kernel
theorem dHeadReader_keepSides_77 : decode cHeadReader_keepSides 77 = .ok (.ifCond .eq 11, 3) := by decide +kernel
theorem dHeadReader_keepSides_80 : decode cHeadReader_keepSides 80 = .ok (.lload 8, 2) := by decide +kernel
theorem dHeadReader_keepSides_82 : decode cHeadReader_keepSides 82 = .ok (.invokestatic 65, 3) := by decide +kernel
theorem dHeadReader_keepSides_85 : decode cHeadReader_keepSides 85 = .ok (.ifCond .ne 5, 3) := by decide +kernel
theorem dHeadReader_keepSides_88 : decode cHeadReader_keepSides 88 = .ok (.iconst 0, 1) := by decide +kernel
theorem dHeadReader_keepSides_89 : decode cHeadReader_keepSides 89 = .ok (.ireturn, 1) := by decide +kernel
theorem dHeadReader_keepSides_90 : decode cHeadReader_keepSides 90 = .ok (.aload_n 0, 1) := by decide +kernel
theorem dHeadReader_keepSides_91 : decode cHeadReader_keepSides 91 = .ok (.getfield 19, 3) := by decide +kernel
theorem dHeadReader_keepSides_94 : decode cHeadReader_keepSides 94 = .ok (.getfield 69, 3) := by decide +kernel
theorem dHeadReader_keepSides_97 : decode cHeadReader_keepSides 97 = .ok (.iconst 0, 1) := by decide +kernel
theorem dHeadReader_keepSides_98 : decode cHeadReader_keepSides 98 = .ok (.lload_n 2, 1) := by decide +kernel
theorem dHeadReader_keepSides_99 : decode cHeadReader_keepSides 99 = .ok (.l2i, 1) := by decide +kernel
theorem dHeadReader_keepSides_100 : decode cHeadReader_keepSides 100 = .ok (.iastore, 1) := by decide +kernel
theorem dHeadReader_keepSides_101 : decode cHeadReader_keepSides 101 = .ok (.aload_n 0, 1) := by decide +kernel
theorem dHeadReader_keepSides_102 : decode cHeadReader_keepSides 102 = .ok (.getfield 19, 3) := by decide +kernel
theorem dHeadReader_keepSides_105 : decode cHeadReader_keepSides 105 = .ok (.getfield 69, 3) := by decide +kernel
theorem dHeadReader_keepSides_108 : decode cHeadReader_keepSides 108 = .ok (.iconst 1, 1) := by decide +kernel
theorem dHeadReader_keepSides_109 : decode cHeadReader_keepSides 109 = .ok (.lload 4, 2) := by decide +kernel
theorem dHeadReader_keepSides_111 : decode cHeadReader_keepSides 111 = .ok (.l2i, 1) := by decide +kernel
theorem dHeadReader_keepSides_112 : decode cHeadReader_keepSides 112 = .ok (.iastore, 1) := by decide +kernel
theorem dHeadReader_keepSides_113 : decode cHeadReader_keepSides 113 = .ok (.aload_n 0, 1) := by decide +kernel
theorem dHeadReader_keepSides_114 : decode cHeadReader_keepSides 114 = .ok (.getfield 19, 3) := by decide +kernel
theorem dHeadReader_keepSides_117 : decode cHeadReader_keepSides 117 = .ok (.lload 6, 2) := by decide +kernel
theorem dHeadReader_keepSides_119 : decode cHeadReader_keepSides 119 = .ok (.l2i, 1) := by decide +kernel
theorem dHeadReader_keepSides_120 : decode cHeadReader_keepSides 120 = .ok (.putfield 73, 3) := by decide +kernel
theorem dHeadReader_keepSides_123 : decode cHeadReader_keepSides 123 = .ok (.aload_n 0, 1) := by decide +kernel
theorem dHeadReader_keepSides_124 : decode cHeadReader_keepSides 124 = .ok (.getfield 19, 3) := by decide +kernel
theorem dHeadReader_keepSides_127 : decode cHeadReader_keepSides 127 = .ok (.lload 8, 2) := by decide +kernel
theorem dHeadReader_keepSides_129 : decode cHeadReader_keepSides 129 = .ok (.l2i, 1) := by decide +kernel
theorem dHeadReader_keepSides_130 : decode cHeadReader_keepSides 130 = .ok (.putfield 76, 3) := by decide +kernel
theorem dHeadReader_keepSides_133 : decode cHeadReader_keepSides 133 = .ok (.aload_n 0, 1) := by decide +kernel
theorem dHeadReader_keepSides_134 : decode cHeadReader_keepSides 134 = .ok (.getfield 19, 3) := by decide +kernel
theorem dHeadReader_keepSides_137 : decode cHeadReader_keepSides 137 = .ok (.invokevirtual 79, 3) := by decide +kernel
theorem dHeadReader_keepSides_140 : decode cHeadReader_keepSides 140 = .ok (.bipush 24, 2) := by decide +kernel
theorem dHeadReader_keepSides_142 : decode cHeadReader_keepSides 142 = .ok (.if_icmp .gt 7, 3) := by decide +kernel
theorem dHeadReader_keepSides_145 : decode cHeadReader_keepSides 145 = .ok (.iconst 1, 1) := by decide +kernel
theorem dHeadReader_keepSides_146 : decode cHeadReader_keepSides 146 = .ok (.goto 4, 3) := by decide +kernel
theorem dHeadReader_keepSides_149 : decode cHeadReader_keepSides 149 = .ok (.iconst 0, 1) := by decide +kernel
theorem dHeadReader_keepSides_150 : decode cHeadReader_keepSides 150 = .ok (.ireturn, 1) := by decide +kernel
theorem dHeadReader_keepDepths_0 : decode cHeadReader_keepDepths 0 = .ok (.aload_n 0, 1) := by decide +kernel
theorem dHeadReader_keepDepths_1 : decode cHeadReader_keepDepths 1 = .ok (.getfield 19, 3) := by decide +kernel
theorem dHeadReader_keepDepths_4 : decode cHeadReader_keepDepths 4 = .ok (.getfield 69, 3) := by decide +kernel
theorem dHeadReader_keepDepths_7 : decode cHeadReader_keepDepths 7 = .ok (.iconst 2, 1) := by decide +kernel
theorem dHeadReader_keepDepths_8 : decode cHeadReader_keepDepths 8 = .ok (.iload_n 2, 1) := by decide +kernel
theorem dHeadReader_keepDepths_9 : decode cHeadReader_keepDepths 9 = .ok (.iastore, 1) := by decide +kernel
theorem dHeadReader_keepDepths_10 : decode cHeadReader_keepDepths 10 = .ok (.iconst 0, 1) := by decide +kernel
theorem dHeadReader_keepDepths_11 : decode cHeadReader_keepDepths 11 = .ok (.istore_n 3, 1) := by decide +kernel
theorem dHeadReader_keepDepths_12 : decode cHeadReader_keepDepths 12 = .ok (.iload_n 3, 1) := by decide +kernel
theorem dHeadReader_keepDepths_13 : decode cHeadReader_keepDepths 13 = .ok (.iload_n 2, 1) := by decide +kernel
theorem dHeadReader_keepDepths_14 : decode cHeadReader_keepDepths 14 = .ok (.if_icmp .ge 69, 3) := by decide +kernel
theorem dHeadReader_keepDepths_17 : decode cHeadReader_keepDepths 17 = .ok (.aload_n 0, 1) := by decide +kernel
theorem dHeadReader_keepDepths_18 : decode cHeadReader_keepDepths 18 = .ok (.getfield 15, 3) := by decide +kernel
theorem dHeadReader_keepDepths_21 : decode cHeadReader_keepDepths 21 = .ok (.iload_n 1, 1) := by decide +kernel
theorem dHeadReader_keepDepths_22 : decode cHeadReader_keepDepths 22 = .ok (.iconst 3, 1) := by decide +kernel
theorem dHeadReader_keepDepths_23 : decode cHeadReader_keepDepths 23 = .ok (.iload_n 3, 1) := by decide +kernel
theorem dHeadReader_keepDepths_24 : decode cHeadReader_keepDepths 24 = .ok (.imul, 1) := by decide +kernel
theorem dHeadReader_keepDepths_25 : decode cHeadReader_keepDepths 25 = .ok (.iadd, 1) := by decide +kernel
theorem dHeadReader_keepDepths_26 : decode cHeadReader_keepDepths 26 = .ok (.invokevirtual 44, 3) := by decide +kernel
theorem dHeadReader_keepDepths_29 : decode cHeadReader_keepDepths 29 = .ok (.iconst 1, 1) := by decide +kernel
theorem dHeadReader_keepDepths_30 : decode cHeadReader_keepDepths 30 = .ok (.iadd, 1) := by decide +kernel
theorem dHeadReader_keepDepths_31 : decode cHeadReader_keepDepths 31 = .ok (.istore 4, 2) := by decide +kernel
theorem dHeadReader_keepDepths_33 : decode cHeadReader_keepDepths 33 = .ok (.iconst 3, 1) := by decide +kernel
theorem dHeadReader_keepDepths_34 : decode cHeadReader_keepDepths 34 = .ok (.iload 4, 2) := by decide +kernel
theorem dHeadReader_keepDepths_36 : decode cHeadReader_keepDepths 36 = .ok (.i2l, 1) := by decide +kernel
theorem dHeadReader_keepDepths_37 : decode cHeadReader_keepDepths 37 = .ok (.invokestatic 54, 3) := by decide +kernel
theorem dHeadReader_keepDepths_40 : decode cHeadReader_keepDepths 40 = .ok (.ifCond .eq 25, 3) := by decide +kernel
theorem dHeadReader_keepDepths_43 : decode cHeadReader_keepDepths 43 = .ok (.aload_n 0, 1) := by decide +kernel
theorem dHeadReader_keepDepths_44 : decode cHeadReader_keepDepths 44 = .ok (.getfield 15, 3) := by decide +kernel
theorem dHeadReader_keepDepths_47 : decode cHeadReader_keepDepths 47 = .ok (.iload_n 1, 1) := by decide +kernel
theorem dHeadReader_keepDepths_48 : decode cHeadReader_keepDepths 48 = .ok (.iconst 3, 1) := by decide +kernel
theorem dHeadReader_keepDepths_49 : decode cHeadReader_keepDepths 49 = .ok (.iload_n 3, 1) := by decide +kernel
theorem dHeadReader_keepDepths_50 : decode cHeadReader_keepDepths 50 = .ok (.imul, 1) := by decide +kernel
theorem dHeadReader_keepDepths_51 : decode cHeadReader_keepDepths 51 = .ok (.iadd, 1) := by decide +kernel
theorem dHeadReader_keepDepths_52 : decode cHeadReader_keepDepths 52 = .ok (.iconst 1, 1) := by decide +kernel
theorem dHeadReader_keepDepths_53 : decode cHeadReader_keepDepths 53 = .ok (.iadd, 1) := by decide +kernel
theorem dHeadReader_keepDepths_54 : decode cHeadReader_keepDepths 54 = .ok (.iconst 2, 1) := by decide +kernel
theorem dHeadReader_keepDepths_55 : decode cHeadReader_keepDepths 55 = .ok (.invokevirtual 50, 3) := by decide +kernel
theorem dHeadReader_keepDepths_58 : decode cHeadReader_keepDepths 58 = .ok (.ldc2_w 83, 3) := by decide +kernel
theorem dHeadReader_keepDepths_61 : decode cHeadReader_keepDepths 61 = .ok (.lcmp, 1) := by decide +kernel
theorem dHeadReader_keepDepths_62 : decode cHeadReader_keepDepths 62 = .ok (.ifCond .eq 5, 3) := by decide +kernel
theorem dHeadReader_keepDepths_65 : decode cHeadReader_keepDepths 65 = .ok (.iconst 0, 1) := by decide +kernel
theorem dHeadReader_keepDepths_66 : decode cHeadReader_keepDepths 66 = .ok (.ireturn, 1) := by decide +kernel
theorem dHeadReader_keepDepths_67 : decode cHeadReader_keepDepths 67 = .ok (.aload_n 0, 1) := by decide +kernel
theorem dHeadReader_keepDepths_68 : decode cHeadReader_keepDepths 68 = .ok (.getfield 19, 3) := by decide +kernel
theorem dHeadReader_keepDepths_71 : decode cHeadReader_keepDepths 71 = .ok (.iload_n 3, 1) := by decide +kernel
theorem dHeadReader_keepDepths_72 : decode cHeadReader_keepDepths 72 = .ok (.iload 4, 2) := by decide +kernel
theorem dHeadReader_keepDepths_74 : decode cHeadReader_keepDepths 74 = .ok (.invokevirtual 85, 3) := by decide +kernel
theorem dHeadReader_keepDepths_77 : decode cHeadReader_keepDepths 77 = .ok (.iinc 3 1, 3) := by decide +kernel
theorem dHeadReader_keepDepths_80 : decode cHeadReader_keepDepths 80 = .ok (.goto (-68), 3) := by decide +kernel
theorem dHeadReader_keepDepths_83 : decode cHeadReader_keepDepths 83 = .ok (.iconst 1, 1) := by decide +kernel
theorem dHeadReader_keepDepths_84 : decode cHeadReader_keepDepths 84 = .ok (.ireturn, 1) := by decide +kernel
theorem dHeadReader_keepSizes_0 : decode cHeadReader_keepSizes 0 = .ok (.aload_n 0, 1) := by decide +kernel
theorem dHeadReader_keepSizes_1 : decode cHeadReader_keepSizes 1 = .ok (.getfield 15, 3) := by decide +kernel
theorem dHeadReader_keepSizes_4 : decode cHeadReader_keepSizes 4 = .ok (.iload_n 1, 1) := by decide +kernel
theorem dHeadReader_keepSizes_5 : decode cHeadReader_keepSizes 5 = .ok (.bipush 38, 2) := by decide +kernel
theorem dHeadReader_keepSizes_7 : decode cHeadReader_keepSizes 7 = .ok (.iadd, 1) := by decide +kernel
theorem dHeadReader_keepSizes_8 : decode cHeadReader_keepSizes 8 = .ok (.iconst 2, 1) := by decide +kernel
theorem dHeadReader_keepSizes_9 : decode cHeadReader_keepSizes 9 = .ok (.invokevirtual 50, 3) := by decide +kernel
theorem dHeadReader_keepSizes_12 : decode cHeadReader_keepSizes 12 = .ok (.lstore_n 3, 1) := by decide +kernel
theorem dHeadReader_keepSizes_13 : decode cHeadReader_keepSizes 13 = .ok (.iconst 2, 1) := by decide +kernel
theorem dHeadReader_keepSizes_14 : decode cHeadReader_keepSizes 14 = .ok (.lload_n 3, 1) := by decide +kernel
theorem dHeadReader_keepSizes_15 : decode cHeadReader_keepSizes 15 = .ok (.invokestatic 54, 3) := by decide +kernel
theorem dHeadReader_keepSizes_18 : decode cHeadReader_keepSizes 18 = .ok (.ifCond .eq 16, 3) := by decide +kernel
theorem dHeadReader_keepSizes_21 : decode cHeadReader_keepSizes 21 = .ok (.iload_n 2, 1) := by decide +kernel
theorem dHeadReader_keepSizes_22 : decode cHeadReader_keepSizes 22 = .ok (.iload_n 1, 1) := by decide +kernel
theorem dHeadReader_keepSizes_23 : decode cHeadReader_keepSizes 23 = .ok (.isub, 1) := by decide +kernel
theorem dHeadReader_keepSizes_24 : decode cHeadReader_keepSizes 24 = .ok (.bipush 40, 2) := by decide +kernel
theorem dHeadReader_keepSizes_26 : decode cHeadReader_keepSizes 26 = .ok (.iconst 3, 1) := by decide +kernel
theorem dHeadReader_keepSizes_27 : decode cHeadReader_keepSizes 27 = .ok (.lload_n 3, 1) := by decide +kernel
theorem dHeadReader_keepSizes_28 : decode cHeadReader_keepSizes 28 = .ok (.l2i, 1) := by decide +kernel
theorem dHeadReader_keepSizes_29 : decode cHeadReader_keepSizes 29 = .ok (.imul, 1) := by decide +kernel
theorem dHeadReader_keepSizes_30 : decode cHeadReader_keepSizes 30 = .ok (.iadd, 1) := by decide +kernel
theorem dHeadReader_keepSizes_31 : decode cHeadReader_keepSizes 31 = .ok (.if_icmp .eq 5, 3) := by decide +kernel
theorem dHeadReader_keepSizes_34 : decode cHeadReader_keepSizes 34 = .ok (.iconst 0, 1) := by decide +kernel
theorem dHeadReader_keepSizes_35 : decode cHeadReader_keepSizes 35 = .ok (.ireturn, 1) := by decide +kernel
theorem dHeadReader_keepSizes_36 : decode cHeadReader_keepSizes 36 = .ok (.aload_n 0, 1) := by decide +kernel
theorem dHeadReader_keepSizes_37 : decode cHeadReader_keepSizes 37 = .ok (.getfield 15, 3) := by decide +kernel
theorem dHeadReader_keepSizes_40 : decode cHeadReader_keepSizes 40 = .ok (.iload_n 1, 1) := by decide +kernel
theorem dHeadReader_keepSizes_41 : decode cHeadReader_keepSizes 41 = .ok (.iconst 4, 1) := by decide +kernel
theorem dHeadReader_keepSizes_42 : decode cHeadReader_keepSizes 42 = .ok (.iadd, 1) := by decide +kernel
theorem dHeadReader_keepSizes_43 : decode cHeadReader_keepSizes 43 = .ok (.iconst 2, 1) := by decide +kernel
theorem dHeadReader_keepSizes_44 : decode cHeadReader_keepSizes 44 = .ok (.invokevirtual 50, 3) := by decide +kernel
theorem dHeadReader_keepSizes_47 : decode cHeadReader_keepSizes 47 = .ok (.lconst 0, 1) := by decide +kernel
theorem dHeadReader_keepSizes_48 : decode cHeadReader_keepSizes 48 = .ok (.lcmp, 1) := by decide +kernel
theorem dHeadReader_keepSizes_49 : decode cHeadReader_keepSizes 49 = .ok (.ifCond .ne 75, 3) := by decide +kernel
theorem dHeadReader_keepSizes_52 : decode cHeadReader_keepSizes 52 = .ok (.aload_n 0, 1) := by decide +kernel
theorem dHeadReader_keepSizes_53 : decode cHeadReader_keepSizes 53 = .ok (.getfield 15, 3) := by decide +kernel
theorem dHeadReader_keepSizes_56 : decode cHeadReader_keepSizes 56 = .ok (.iload_n 1, 1) := by decide +kernel
theorem dHeadReader_keepSizes_57 : decode cHeadReader_keepSizes 57 = .ok (.bipush 14, 2) := by decide +kernel
theorem dHeadReader_keepSizes_59 : decode cHeadReader_keepSizes 59 = .ok (.iadd, 1) := by decide +kernel
theorem dHeadReader_keepSizes_60 : decode cHeadReader_keepSizes 60 = .ok (.iconst 4, 1) := by decide +kernel
theorem dHeadReader_keepSizes_61 : decode cHeadReader_keepSizes 61 = .ok (.invokevirtual 50, 3) := by decide +kernel
theorem dHeadReader_keepSizes_64 : decode cHeadReader_keepSizes 64 = .ok (.lconst 0, 1) := by decide +kernel
theorem dHeadReader_keepSizes_65 : decode cHeadReader_keepSizes 65 = .ok (.lcmp, 1) := by decide +kernel
theorem dHeadReader_keepSizes_66 : decode cHeadReader_keepSizes 66 = .ok (.ifCond .ne 58, 3) := by decide +kernel
theorem dHeadReader_keepSizes_69 : decode cHeadReader_keepSizes 69 = .ok (.aload_n 0, 1) := by decide +kernel
theorem dHeadReader_keepSizes_70 : decode cHeadReader_keepSizes 70 = .ok (.getfield 15, 3) := by decide +kernel
theorem dHeadReader_keepSizes_73 : decode cHeadReader_keepSizes 73 = .ok (.iload_n 1, 1) := by decide +kernel
theorem dHeadReader_keepSizes_74 : decode cHeadReader_keepSizes 74 = .ok (.bipush 18, 2) := by decide +kernel
theorem dHeadReader_keepSizes_76 : decode cHeadReader_keepSizes 76 = .ok (.iadd, 1) := by decide +kernel
theorem dHeadReader_keepSizes_77 : decode cHeadReader_keepSizes 77 = .ok (.iconst 4, 1) := by decide +kernel
theorem dHeadReader_keepSizes_78 : decode cHeadReader_keepSizes 78 = .ok (.invokevirtual 50, 3) := by decide +kernel
theorem dHeadReader_keepSizes_81 : decode cHeadReader_keepSizes 81 = .ok (.lconst 0, 1) := by decide +kernel
theorem dHeadReader_keepSizes_82 : decode cHeadReader_keepSizes 82 = .ok (.lcmp, 1) := by decide +kernel
theorem dHeadReader_keepSizes_83 : decode cHeadReader_keepSizes 83 = .ok (.ifCond .ne 41, 3) := by decide +kernel
theorem dHeadReader_keepSizes_86 : decode cHeadReader_keepSizes 86 = .ok (.aload_n 0, 1) := by decide +kernel
theorem dHeadReader_keepSizes_87 : decode cHeadReader_keepSizes 87 = .ok (.getfield 15, 3) := by decide +kernel
theorem dHeadReader_keepSizes_90 : decode cHeadReader_keepSizes 90 = .ok (.iload_n 1, 1) := by decide +kernel
theorem dHeadReader_keepSizes_91 : decode cHeadReader_keepSizes 91 = .ok (.bipush 30, 2) := by decide +kernel
theorem dHeadReader_keepSizes_93 : decode cHeadReader_keepSizes 93 = .ok (.iadd, 1) := by decide +kernel
theorem dHeadReader_keepSizes_94 : decode cHeadReader_keepSizes 94 = .ok (.iconst 4, 1) := by decide +kernel
theorem dHeadReader_keepSizes_95 : decode cHeadReader_keepSizes 95 = .ok (.invokevirtual 50, 3) := by decide +kernel
theorem dHeadReader_keepSizes_98 : decode cHeadReader_keepSizes 98 = .ok (.lconst 0, 1) := by decide +kernel
theorem dHeadReader_keepSizes_99 : decode cHeadReader_keepSizes 99 = .ok (.lcmp, 1) := by decide +kernel
theorem dHeadReader_keepSizes_100 : decode cHeadReader_keepSizes 100 = .ok (.ifCond .ne 24, 3) := by decide +kernel
theorem dHeadReader_keepSizes_103 : decode cHeadReader_keepSizes 103 = .ok (.aload_n 0, 1) := by decide +kernel
theorem dHeadReader_keepSizes_104 : decode cHeadReader_keepSizes 104 = .ok (.getfield 15, 3) := by decide +kernel
theorem dHeadReader_keepSizes_107 : decode cHeadReader_keepSizes 107 = .ok (.iload_n 1, 1) := by decide +kernel
theorem dHeadReader_keepSizes_108 : decode cHeadReader_keepSizes 108 = .ok (.bipush 34, 2) := by decide +kernel
theorem dHeadReader_keepSizes_110 : decode cHeadReader_keepSizes 110 = .ok (.iadd, 1) := by decide +kernel
theorem dHeadReader_keepSizes_111 : decode cHeadReader_keepSizes 111 = .ok (.iconst 4, 1) := by decide +kernel
theorem dHeadReader_keepSizes_112 : decode cHeadReader_keepSizes 112 = .ok (.invokevirtual 50, 3) := by decide +kernel
theorem dHeadReader_keepSizes_115 : decode cHeadReader_keepSizes 115 = .ok (.lconst 0, 1) := by decide +kernel
theorem dHeadReader_keepSizes_116 : decode cHeadReader_keepSizes 116 = .ok (.lcmp, 1) := by decide +kernel
theorem dHeadReader_keepSizes_117 : decode cHeadReader_keepSizes 117 = .ok (.ifCond .ne 7, 3) := by decide +kernel
theorem dHeadReader_keepSizes_120 : decode cHeadReader_keepSizes 120 = .ok (.iconst 1, 1) := by decide +kernel
theorem dHeadReader_keepSizes_121 : decode cHeadReader_keepSizes 121 = .ok (.goto 4, 3) := by decide +kernel
theorem dHeadReader_keepSizes_124 : decode cHeadReader_keepSizes 124 = .ok (.iconst 0, 1) := by decide +kernel
theorem dHeadReader_keepSizes_125 : decode cHeadReader_keepSizes 125 = .ok (.istore 5, 2) := by decide +kernel
theorem dHeadReader_keepSizes_127 : decode cHeadReader_keepSizes 127 = .ok (.iload 5, 2) := by decide +kernel
theorem dHeadReader_keepSizes_129 : decode cHeadReader_keepSizes 129 = .ok (.ifCond .eq 28, 3) := by decide +kernel
theorem dHeadReader_keepSizes_132 : decode cHeadReader_keepSizes 132 = .ok (.aload_n 0, 1) := by decide +kernel
theorem dHeadReader_keepSizes_133 : decode cHeadReader_keepSizes 133 = .ok (.iload_n 1, 1) := by decide +kernel
theorem dHeadReader_keepSizes_134 : decode cHeadReader_keepSizes 134 = .ok (.invokevirtual 58, 3) := by decide +kernel
theorem dHeadReader_keepSizes_137 : decode cHeadReader_keepSizes 137 = .ok (.ifCond .eq 20, 3) := by decide +kernel
theorem dHeadReader_keepSizes_140 : decode cHeadReader_keepSizes 140 = .ok (.aload_n 0, 1) := by decide +kernel
theorem dHeadReader_keepSizes_141 : decode cHeadReader_keepSizes 141 = .ok (.iload_n 1, 1) := by decide +kernel
theorem dHeadReader_keepSizes_142 : decode cHeadReader_keepSizes 142 = .ok (.bipush 40, 2) := by decide +kernel
theorem dHeadReader_keepSizes_144 : decode cHeadReader_keepSizes 144 = .ok (.iadd, 1) := by decide +kernel
theorem dHeadReader_keepSizes_145 : decode cHeadReader_keepSizes 145 = .ok (.lload_n 3, 1) := by decide +kernel
theorem dHeadReader_keepSizes_146 : decode cHeadReader_keepSizes 146 = .ok (.l2i, 1) := by decide +kernel
theorem dHeadReader_keepSizes_147 : decode cHeadReader_keepSizes 147 = .ok (.invokevirtual 62, 3) := by decide +kernel
theorem dHeadReader_keepSizes_150 : decode cHeadReader_keepSizes 150 = .ok (.ifCond .eq 7, 3) := by decide +kernel
theorem dHeadReader_keepSizes_153 : decode cHeadReader_keepSizes 153 = .ok (.iconst 1, 1) := by decide +kernel
theorem dHeadReader_keepSizes_154 : decode cHeadReader_keepSizes 154 = .ok (.goto 4, 3) := by decide +kernel
theorem dHeadReader_keepSizes_157 : decode cHeadReader_keepSizes 157 = .ok (.iconst 0, 1) := by decide +kernel
theorem dHeadReader_keepSizes_158 : decode cHeadReader_keepSizes 158 = .ok (.ireturn, 1) := by decide +kernel
theorem dHeadReader_keepStyleForAll_0 : decode cHeadReader_keepStyleForAll 0 = .ok (.aload_n 0, 1) := by decide +kernel
theorem dHeadReader_keepStyleForAll_1 : decode cHeadReader_keepStyleForAll 1 = .ok (.getfield 15, 3) := by decide +kernel
theorem dHeadReader_keepStyleForAll_4 : decode cHeadReader_keepStyleForAll 4 = .ok (.iload_n 1, 1) := by decide +kernel
theorem dHeadReader_keepStyleForAll_5 : decode cHeadReader_keepStyleForAll 5 = .ok (.iconst 5, 1) := by decide +kernel
theorem dHeadReader_keepStyleForAll_6 : decode cHeadReader_keepStyleForAll 6 = .ok (.iadd, 1) := by decide +kernel
theorem dHeadReader_keepStyleForAll_7 : decode cHeadReader_keepStyleForAll 7 = .ok (.invokevirtual 44, 3) := by decide +kernel
theorem dHeadReader_keepStyleForAll_10 : decode cHeadReader_keepStyleForAll 10 = .ok (.istore_n 3, 1) := by decide +kernel
theorem dHeadReader_keepStyleForAll_11 : decode cHeadReader_keepStyleForAll 11 = .ok (.aload_n 0, 1) := by decide +kernel
theorem dHeadReader_keepStyleForAll_12 : decode cHeadReader_keepStyleForAll 12 = .ok (.getfield 15, 3) := by decide +kernel
theorem dHeadReader_keepStyleForAll_15 : decode cHeadReader_keepStyleForAll 15 = .ok (.iload_n 1, 1) := by decide +kernel
theorem dHeadReader_keepStyleForAll_16 : decode cHeadReader_keepStyleForAll 16 = .ok (.bipush 6, 2) := by decide +kernel
theorem dHeadReader_keepStyleForAll_18 : decode cHeadReader_keepStyleForAll 18 = .ok (.iadd, 1) := by decide +kernel
theorem dHeadReader_keepStyleForAll_19 : decode cHeadReader_keepStyleForAll 19 = .ok (.iconst 2, 1) := by decide +kernel
theorem dHeadReader_keepStyleForAll_20 : decode cHeadReader_keepStyleForAll 20 = .ok (.invokevirtual 50, 3) := by decide +kernel
theorem dHeadReader_keepStyleForAll_23 : decode cHeadReader_keepStyleForAll 23 = .ok (.l2i, 1) := by decide +kernel
theorem dHeadReader_keepStyleForAll_24 : decode cHeadReader_keepStyleForAll 24 = .ok (.istore 4, 2) := by decide +kernel
theorem dHeadReader_keepStyleForAll_26 : decode cHeadReader_keepStyleForAll 26 = .ok (.aload_n 0, 1) := by decide +kernel
theorem dHeadReader_keepStyleForAll_27 : decode cHeadReader_keepStyleForAll 27 = .ok (.getfield 15, 3) := by decide +kernel
theorem dHeadReader_keepStyleForAll_30 : decode cHeadReader_keepStyleForAll 30 = .ok (.iload_n 1, 1) := by decide +kernel
theorem dHeadReader_keepStyleForAll_31 : decode cHeadReader_keepStyleForAll 31 = .ok (.iconst 4, 1) := by decide +kernel
theorem dHeadReader_keepStyleForAll_32 : decode cHeadReader_keepStyleForAll 32 = .ok (.iadd, 1) := by decide +kernel
theorem dHeadReader_keepStyleForAll_33 : decode cHeadReader_keepStyleForAll 33 = .ok (.invokevirtual 44, 3) := by decide +kernel
theorem dHeadReader_keepStyleForAll_36 : decode cHeadReader_keepStyleForAll 36 = .ok (.ifCond .ne 22, 3) := by decide +kernel
theorem dHeadReader_keepStyleForAll_39 : decode cHeadReader_keepStyleForAll 39 = .ok (.iconst 4, 1) := by decide +kernel
theorem dHeadReader_keepStyleForAll_40 : decode cHeadReader_keepStyleForAll 40 = .ok (.iload_n 3, 1) := by decide +kernel
theorem dHeadReader_keepStyleForAll_41 : decode cHeadReader_keepStyleForAll 41 = .ok (.i2l, 1) := by decide +kernel
theorem dHeadReader_keepStyleForAll_42 : decode cHeadReader_keepStyleForAll 42 = .ok (.invokestatic 54, 3) := by decide +kernel
theorem dHeadReader_keepStyleForAll_45 : decode cHeadReader_keepStyleForAll 45 = .ok (.ifCond .eq 13, 3) := by decide +kernel
theorem dHeadReader_keepStyleForAll_48 : decode cHeadReader_keepStyleForAll 48 = .ok (.iconst 5, 1) := by decide +kernel
theorem dHeadReader_keepStyleForAll_49 : decode cHeadReader_keepStyleForAll 49 = .ok (.iload 4, 2) := by decide +kernel
theorem dHeadReader_keepStyleForAll_51 : decode cHeadReader_keepStyleForAll 51 = .ok (.i2l, 1) := by decide +kernel
theorem dHeadReader_keepStyleForAll_52 : decode cHeadReader_keepStyleForAll 52 = .ok (.invokestatic 54, 3) := by decide +kernel
theorem dHeadReader_keepStyleForAll_55 : decode cHeadReader_keepStyleForAll 55 = .ok (.ifCond .ne 5, 3) := by decide +kernel
theorem dHeadReader_keepStyleForAll_58 : decode cHeadReader_keepStyleForAll 58 = .ok (.iconst 0, 1) := by decide +kernel
theorem dHeadReader_keepStyleForAll_59 : decode cHeadReader_keepStyleForAll 59 = .ok (.ireturn, 1) := by decide +kernel
theorem dHeadReader_keepStyleForAll_60 : decode cHeadReader_keepStyleForAll 60 = .ok (.aload_n 0, 1) := by decide +kernel
theorem dHeadReader_keepStyleForAll_61 : decode cHeadReader_keepStyleForAll 61 = .ok (.getfield 19, 3) := by decide +kernel
theorem dHeadReader_keepStyleForAll_64 : decode cHeadReader_keepStyleForAll 64 = .ok (.iload_n 2, 1) := by decide +kernel
theorem dHeadReader_keepStyleForAll_65 : decode cHeadReader_keepStyleForAll 65 = .ok (.iconst (-1), 1) := by decide +kernel
theorem dHeadReader_keepStyleForAll_66 : decode cHeadReader_keepStyleForAll 66 = .ok (.invokestatic 94, 3) := by decide +kernel
theorem dHeadReader_keepStyleForAll_69 : decode cHeadReader_keepStyleForAll 69 = .ok (.iconst 4, 1) := by decide +kernel
theorem dHeadReader_keepStyleForAll_70 : decode cHeadReader_keepStyleForAll 70 = .ok (.iload_n 3, 1) := by decide +kernel
theorem dHeadReader_keepStyleForAll_71 : decode cHeadReader_keepStyleForAll 71 = .ok (.invokevirtual 106, 3) := by decide +kernel
theorem dHeadReader_keepStyleForAll_74 : decode cHeadReader_keepStyleForAll 74 = .ok (.aload_n 0, 1) := by decide +kernel
theorem dHeadReader_keepStyleForAll_75 : decode cHeadReader_keepStyleForAll 75 = .ok (.getfield 19, 3) := by decide +kernel
theorem dHeadReader_keepStyleForAll_78 : decode cHeadReader_keepStyleForAll 78 = .ok (.iload_n 2, 1) := by decide +kernel
theorem dHeadReader_keepStyleForAll_79 : decode cHeadReader_keepStyleForAll 79 = .ok (.iconst (-1), 1) := by decide +kernel
theorem dHeadReader_keepStyleForAll_80 : decode cHeadReader_keepStyleForAll 80 = .ok (.invokestatic 94, 3) := by decide +kernel
theorem dHeadReader_keepStyleForAll_83 : decode cHeadReader_keepStyleForAll 83 = .ok (.iconst 5, 1) := by decide +kernel
theorem dHeadReader_keepStyleForAll_84 : decode cHeadReader_keepStyleForAll 84 = .ok (.iload 4, 2) := by decide +kernel
theorem dHeadReader_keepStyleForAll_86 : decode cHeadReader_keepStyleForAll 86 = .ok (.invokevirtual 106, 3) := by decide +kernel
theorem dHeadReader_keepStyleForAll_89 : decode cHeadReader_keepStyleForAll 89 = .ok (.iconst 1, 1) := by decide +kernel
theorem dHeadReader_keepStyleForAll_90 : decode cHeadReader_keepStyleForAll 90 = .ok (.ireturn, 1) := by decide +kernel
theorem dHeadReader_keepStyle_0 : decode cHeadReader_keepStyle 0 = .ok (.aload_n 0, 1) := by decide +kernel
theorem dHeadReader_keepStyle_1 : decode cHeadReader_keepStyle 1 = .ok (.getfield 15, 3) := by decide +kernel
theorem dHeadReader_keepStyle_4 : decode cHeadReader_keepStyle 4 = .ok (.iload_n 1, 1) := by decide +kernel
theorem dHeadReader_keepStyle_5 : decode cHeadReader_keepStyle 5 = .ok (.iconst 1, 1) := by decide +kernel
theorem dHeadReader_keepStyle_6 : decode cHeadReader_keepStyle 6 = .ok (.iadd, 1) := by decide +kernel
theorem dHeadReader_keepStyle_7 : decode cHeadReader_keepStyle 7 = .ok (.invokevirtual 44, 3) := by decide +kernel
theorem dHeadReader_keepStyle_10 : decode cHeadReader_keepStyle 10 = .ok (.istore_n 3, 1) := by decide +kernel
theorem dHeadReader_keepStyle_11 : decode cHeadReader_keepStyle 11 = .ok (.aload_n 0, 1) := by decide +kernel
theorem dHeadReader_keepStyle_12 : decode cHeadReader_keepStyle 12 = .ok (.getfield 15, 3) := by decide +kernel
theorem dHeadReader_keepStyle_15 : decode cHeadReader_keepStyle 15 = .ok (.iload_n 1, 1) := by decide +kernel
theorem dHeadReader_keepStyle_16 : decode cHeadReader_keepStyle 16 = .ok (.iconst 2, 1) := by decide +kernel
theorem dHeadReader_keepStyle_17 : decode cHeadReader_keepStyle 17 = .ok (.iadd, 1) := by decide +kernel
theorem dHeadReader_keepStyle_18 : decode cHeadReader_keepStyle 18 = .ok (.invokevirtual 44, 3) := by decide +kernel
theorem dHeadReader_keepStyle_21 : decode cHeadReader_keepStyle 21 = .ok (.iconst 2, 1) := by decide +kernel
theorem dHeadReader_keepStyle_22 : decode cHeadReader_keepStyle 22 = .ok (.iadd, 1) := by decide +kernel
theorem dHeadReader_keepStyle_23 : decode cHeadReader_keepStyle 23 = .ok (.istore 4, 2) := by decide +kernel
theorem dHeadReader_keepStyle_25 : decode cHeadReader_keepStyle 25 = .ok (.aload_n 0, 1) := by decide +kernel
theorem dHeadReader_keepStyle_26 : decode cHeadReader_keepStyle 26 = .ok (.getfield 15, 3) := by decide +kernel
theorem dHeadReader_keepStyle_29 : decode cHeadReader_keepStyle 29 = .ok (.iload_n 1, 1) := by decide +kernel
theorem dHeadReader_keepStyle_30 : decode cHeadReader_keepStyle 30 = .ok (.iconst 5, 1) := by decide +kernel
theorem dHeadReader_keepStyle_31 : decode cHeadReader_keepStyle 31 = .ok (.iadd, 1) := by decide +kernel
theorem dHeadReader_keepStyle_32 : decode cHeadReader_keepStyle 32 = .ok (.invokevirtual 44, 3) := by decide +kernel
theorem dHeadReader_keepStyle_35 : decode cHeadReader_keepStyle 35 = .ok (.istore 5, 2) := by decide +kernel
theorem dHeadReader_keepStyle_37 : decode cHeadReader_keepStyle 37 = .ok (.aload_n 0, 1) := by decide +kernel
theorem dHeadReader_keepStyle_38 : decode cHeadReader_keepStyle 38 = .ok (.getfield 15, 3) := by decide +kernel
theorem dHeadReader_keepStyle_41 : decode cHeadReader_keepStyle 41 = .ok (.iload_n 1, 1) := by decide +kernel
theorem dHeadReader_keepStyle_42 : decode cHeadReader_keepStyle 42 = .ok (.invokevirtual 44, 3) := by decide +kernel
theorem dHeadReader_keepStyle_45 : decode cHeadReader_keepStyle 45 = .ok (.ifCond .ne 37, 3) := by decide +kernel
theorem dHeadReader_keepStyle_48 : decode cHeadReader_keepStyle 48 = .ok (.aload_n 0, 1) := by decide +kernel
theorem dHeadReader_keepStyle_49 : decode cHeadReader_keepStyle 49 = .ok (.getfield 15, 3) := by decide +kernel
theorem dHeadReader_keepStyle_52 : decode cHeadReader_keepStyle 52 = .ok (.iload_n 1, 1) := by decide +kernel
theorem dHeadReader_keepStyle_53 : decode cHeadReader_keepStyle 53 = .ok (.iconst 3, 1) := by decide +kernel
theorem dHeadReader_keepStyle_54 : decode cHeadReader_keepStyle 54 = .ok (.iadd, 1) := by decide +kernel
theorem dHeadReader_keepStyle_55 : decode cHeadReader_keepStyle 55 = .ok (.invokevirtual 44, 3) := by decide +kernel
theorem dHeadReader_keepStyle_58 : decode cHeadReader_keepStyle 58 = .ok (.iconst 2, 1) := by decide +kernel
theorem dHeadReader_keepStyle_59 : decode cHeadReader_keepStyle 59 = .ok (.iadd, 1) := by decide +kernel
theorem dHeadReader_keepStyle_60 : decode cHeadReader_keepStyle 60 = .ok (.iload 4, 2) := by decide +kernel
theorem dHeadReader_keepStyle_62 : decode cHeadReader_keepStyle 62 = .ok (.if_icmp .ne 20, 3) := by decide +kernel
theorem dHeadReader_keepStyle_65 : decode cHeadReader_keepStyle 65 = .ok (.aload_n 0, 1) := by decide +kernel
theorem dHeadReader_keepStyle_66 : decode cHeadReader_keepStyle 66 = .ok (.getfield 15, 3) := by decide +kernel
theorem dHeadReader_keepStyle_69 : decode cHeadReader_keepStyle 69 = .ok (.iload_n 1, 1) := by decide +kernel
theorem dHeadReader_keepStyle_70 : decode cHeadReader_keepStyle 70 = .ok (.iconst 4, 1) := by decide +kernel
theorem dHeadReader_keepStyle_71 : decode cHeadReader_keepStyle 71 = .ok (.iadd, 1) := by decide +kernel
theorem dHeadReader_keepStyle_72 : decode cHeadReader_keepStyle 72 = .ok (.invokevirtual 44, 3) := by decide +kernel
theorem dHeadReader_keepStyle_75 : decode cHeadReader_keepStyle 75 = .ok (.ifCond .ne 7, 3) := by decide +kernel
theorem dHeadReader_keepStyle_78 : decode cHeadReader_keepStyle 78 = .ok (.iconst 1, 1) := by decide +kernel
theorem dHeadReader_keepStyle_79 : decode cHeadReader_keepStyle 79 = .ok (.goto 4, 3) := by decide +kernel
theorem dHeadReader_keepStyle_82 : decode cHeadReader_keepStyle 82 = .ok (.iconst 0, 1) := by decide +kernel
theorem dHeadReader_keepStyle_83 : decode cHeadReader_keepStyle 83 = .ok (.istore 6, 2) := by decide +kernel
theorem dHeadReader_keepStyle_85 : decode cHeadReader_keepStyle 85 = .ok (.iload 6, 2) := by decide +kernel
theorem dHeadReader_keepStyle_87 : decode cHeadReader_keepStyle 87 = .ok (.ifCond .eq 35, 3) := by decide +kernel
theorem dHeadReader_keepStyle_90 : decode cHeadReader_keepStyle 90 = .ok (.bipush 6, 2) := by decide +kernel
theorem dHeadReader_keepStyle_92 : decode cHeadReader_keepStyle 92 = .ok (.iload_n 3, 1) := by decide +kernel
theorem dHeadReader_keepStyle_93 : decode cHeadReader_keepStyle 93 = .ok (.i2l, 1) := by decide +kernel
theorem dHeadReader_keepStyle_94 : decode cHeadReader_keepStyle 94 = .ok (.invokestatic 54, 3) := by decide +kernel
theorem dHeadReader_keepStyle_97 : decode cHeadReader_keepStyle 97 = .ok (.ifCond .eq 25, 3) := by decide +kernel
theorem dHeadReader_keepStyle_100 : decode cHeadReader_keepStyle 100 = .ok (.bipush 7, 2) := by decide +kernel
theorem dHeadReader_keepStyle_102 : decode cHeadReader_keepStyle 102 = .ok (.iload 4, 2) := by decide +kernel
theorem dHeadReader_keepStyle_104 : decode cHeadReader_keepStyle 104 = .ok (.i2l, 1) := by decide +kernel
theorem dHeadReader_keepStyle_105 : decode cHeadReader_keepStyle 105 = .ok (.invokestatic 54, 3) := by decide +kernel
theorem dHeadReader_keepStyle_108 : decode cHeadReader_keepStyle 108 = .ok (.ifCond .eq 14, 3) := by decide +kernel
theorem dHeadReader_keepStyle_111 : decode cHeadReader_keepStyle 111 = .ok (.bipush 8, 2) := by decide +kernel
theorem dHeadReader_keepStyle_113 : decode cHeadReader_keepStyle 113 = .ok (.iload 5, 2) := by decide +kernel
theorem dHeadReader_keepStyle_115 : decode cHeadReader_keepStyle 115 = .ok (.i2l, 1) := by decide +kernel
theorem dHeadReader_keepStyle_116 : decode cHeadReader_keepStyle 116 = .ok (.invokestatic 54, 3) := by decide +kernel
theorem dHeadReader_keepStyle_119 : decode cHeadReader_keepStyle 119 = .ok (.ifCond .ne 5, 3) := by decide +kernel
theorem dHeadReader_keepStyle_122 : decode cHeadReader_keepStyle 122 = .ok (.iconst 0, 1) := by decide +kernel
theorem dHeadReader_keepStyle_123 : decode cHeadReader_keepStyle 123 = .ok (.ireturn, 1) := by decide +kernel
theorem dHeadReader_keepStyle_124 : decode cHeadReader_keepStyle 124 = .ok (.aload_n 0, 1) := by decide +kernel
theorem dHeadReader_keepStyle_125 : decode cHeadReader_keepStyle 125 = .ok (.getfield 19, 3) := by decide +kernel
theorem dHeadReader_keepStyle_128 : decode cHeadReader_keepStyle 128 = .ok (.iload_n 2, 1) := by decide +kernel
theorem dHeadReader_keepStyle_129 : decode cHeadReader_keepStyle 129 = .ok (.bipush 6, 2) := by decide +kernel
theorem dHeadReader_keepStyle_131 : decode cHeadReader_keepStyle 131 = .ok (.iload_n 3, 1) := by decide +kernel
theorem dHeadReader_keepStyle_132 : decode cHeadReader_keepStyle 132 = .ok (.invokevirtual 106, 3) := by decide +kernel
theorem dHeadReader_keepStyle_135 : decode cHeadReader_keepStyle 135 = .ok (.aload_n 0, 1) := by decide +kernel
theorem dHeadReader_keepStyle_136 : decode cHeadReader_keepStyle 136 = .ok (.getfield 19, 3) := by decide +kernel
theorem dHeadReader_keepStyle_139 : decode cHeadReader_keepStyle 139 = .ok (.iload_n 2, 1) := by decide +kernel
theorem dHeadReader_keepStyle_140 : decode cHeadReader_keepStyle 140 = .ok (.bipush 7, 2) := by decide +kernel
theorem dHeadReader_keepStyle_142 : decode cHeadReader_keepStyle 142 = .ok (.iload 4, 2) := by decide +kernel
theorem dHeadReader_keepStyle_144 : decode cHeadReader_keepStyle 144 = .ok (.invokevirtual 106, 3) := by decide +kernel
theorem dHeadReader_keepStyle_147 : decode cHeadReader_keepStyle 147 = .ok (.aload_n 0, 1) := by decide +kernel
theorem dHeadReader_keepStyle_148 : decode cHeadReader_keepStyle 148 = .ok (.getfield 19, 3) := by decide +kernel
theorem dHeadReader_keepStyle_151 : decode cHeadReader_keepStyle 151 = .ok (.iload_n 2, 1) := by decide +kernel
theorem dHeadReader_keepStyle_152 : decode cHeadReader_keepStyle 152 = .ok (.bipush 8, 2) := by decide +kernel
theorem dHeadReader_keepStyle_154 : decode cHeadReader_keepStyle 154 = .ok (.iload 5, 2) := by decide +kernel
theorem dHeadReader_keepStyle_156 : decode cHeadReader_keepStyle 156 = .ok (.invokevirtual 106, 3) := by decide +kernel
theorem dHeadReader_keepStyle_159 : decode cHeadReader_keepStyle 159 = .ok (.iconst 1, 1) := by decide +kernel
theorem dHeadReader_keepStyle_160 : decode cHeadReader_keepStyle 160 = .ok (.ireturn, 1) := by decide +kernel
theorem dHeadReader_keepStep_0 : decode cHeadReader_keepStep 0 = .ok (.aload_n 0, 1) := by decide +kernel
theorem dHeadReader_keepStep_1 : decode cHeadReader_keepStep 1 = .ok (.getfield 15, 3) := by decide +kernel
theorem dHeadReader_keepStep_4 : decode cHeadReader_keepStep 4 = .ok (.iload_n 1, 1) := by decide +kernel
theorem dHeadReader_keepStep_5 : decode cHeadReader_keepStep 5 = .ok (.invokevirtual 44, 3) := by decide +kernel
theorem dHeadReader_keepStep_8 : decode cHeadReader_keepStep 8 = .ok (.istore_n 3, 1) := by decide +kernel
theorem dHeadReader_keepStep_9 : decode cHeadReader_keepStep 9 = .ok (.aload_n 0, 1) := by decide +kernel
theorem dHeadReader_keepStep_10 : decode cHeadReader_keepStep 10 = .ok (.getfield 15, 3) := by decide +kernel
theorem dHeadReader_keepStep_13 : decode cHeadReader_keepStep 13 = .ok (.iload_n 1, 1) := by decide +kernel
theorem dHeadReader_keepStep_14 : decode cHeadReader_keepStep 14 = .ok (.iconst 1, 1) := by decide +kernel
theorem dHeadReader_keepStep_15 : decode cHeadReader_keepStep 15 = .ok (.iadd, 1) := by decide +kernel
theorem dHeadReader_keepStep_16 : decode cHeadReader_keepStep 16 = .ok (.iconst 2, 1) := by decide +kernel
theorem dHeadReader_keepStep_17 : decode cHeadReader_keepStep 17 = .ok (.invokevirtual 50, 3) := by decide +kernel
theorem dHeadReader_keepStep_20 : decode cHeadReader_keepStep 20 = .ok (.l2i, 1) := by decide +kernel
theorem dHeadReader_keepStep_21 : decode cHeadReader_keepStep 21 = .ok (.istore 4, 2) := by decide +kernel
theorem dHeadReader_keepStep_23 : decode cHeadReader_keepStep 23 = .ok (.iload_n 3, 1) := by decide +kernel
theorem dHeadReader_keepStep_24 : decode cHeadReader_keepStep 24 = .ok (.bipush 32, 2) := by decide +kernel
theorem dHeadReader_keepStep_26 : decode cHeadReader_keepStep 26 = .ok (.irem, 1) := by decide +kernel
theorem dHeadReader_keepStep_27 : decode cHeadReader_keepStep 27 = .ok (.iconst 1, 1) := by decide +kernel
theorem dHeadReader_keepStep_28 : decode cHeadReader_keepStep 28 = .ok (.if_icmp .ne 12, 3) := by decide +kernel
theorem dHeadReader_keepStep_31 : decode cHeadReader_keepStep 31 = .ok (.iload 4, 2) := by decide +kernel
theorem dHeadReader_keepStep_33 : decode cHeadReader_keepStep 33 = .ok (.sipush 2048, 3) := by decide +kernel
theorem dHeadReader_keepStep_36 : decode cHeadReader_keepStep 36 = .ok (.irem, 1) := by decide +kernel
theorem dHeadReader_keepStep_37 : decode cHeadReader_keepStep 37 = .ok (.ifCond .eq 5, 3) := by decide +kernel
theorem dHeadReader_keepStep_40 : decode cHeadReader_keepStep 40 = .ok (.iconst 0, 1) := by decide +kernel
theorem dHeadReader_keepStep_41 : decode cHeadReader_keepStep 41 = .ok (.ireturn, 1) := by decide +kernel
theorem dHeadReader_keepStep_42 : decode cHeadReader_keepStep 42 = .ok (.aload_n 0, 1) := by decide +kernel
theorem dHeadReader_keepStep_43 : decode cHeadReader_keepStep 43 = .ok (.getfield 19, 3) := by decide +kernel
theorem dHeadReader_keepStep_46 : decode cHeadReader_keepStep 46 = .ok (.iload_n 2, 1) := by decide +kernel
theorem dHeadReader_keepStep_47 : decode cHeadReader_keepStep 47 = .ok (.bipush 10, 2) := by decide +kernel
theorem dHeadReader_keepStep_49 : decode cHeadReader_keepStep 49 = .ok (.iload_n 3, 1) := by decide +kernel
theorem dHeadReader_keepStep_50 : decode cHeadReader_keepStep 50 = .ok (.bipush 32, 2) := by decide +kernel
theorem dHeadReader_keepStep_52 : decode cHeadReader_keepStep 52 = .ok (.idiv, 1) := by decide +kernel
theorem dHeadReader_keepStep_53 : decode cHeadReader_keepStep 53 = .ok (.invokevirtual 106, 3) := by decide +kernel
theorem dHeadReader_keepStep_56 : decode cHeadReader_keepStep 56 = .ok (.aload_n 0, 1) := by decide +kernel
theorem dHeadReader_keepStep_57 : decode cHeadReader_keepStep 57 = .ok (.getfield 19, 3) := by decide +kernel
theorem dHeadReader_keepStep_60 : decode cHeadReader_keepStep 60 = .ok (.iload_n 2, 1) := by decide +kernel
theorem dHeadReader_keepStep_61 : decode cHeadReader_keepStep 61 = .ok (.bipush 9, 2) := by decide +kernel
theorem dHeadReader_keepStep_63 : decode cHeadReader_keepStep 63 = .ok (.iload 4, 2) := by decide +kernel
theorem dHeadReader_keepStep_65 : decode cHeadReader_keepStep 65 = .ok (.sipush 2048, 3) := by decide +kernel
theorem dHeadReader_keepStep_68 : decode cHeadReader_keepStep 68 = .ok (.idiv, 1) := by decide +kernel
theorem dHeadReader_keepStep_69 : decode cHeadReader_keepStep 69 = .ok (.invokevirtual 106, 3) := by decide +kernel
theorem dHeadReader_keepStep_72 : decode cHeadReader_keepStep 72 = .ok (.iconst 1, 1) := by decide +kernel
theorem dHeadReader_keepStep_73 : decode cHeadReader_keepStep 73 = .ok (.ireturn, 1) := by decide +kernel
theorem dHeadReader_keepSegment_0 : decode cHeadReader_keepSegment 0 = .ok (.aload_n 0, 1) := by decide +kernel
theorem dHeadReader_keepSegment_1 : decode cHeadReader_keepSegment 1 = .ok (.getfield 15, 3) := by decide +kernel
theorem dHeadReader_keepSegment_4 : decode cHeadReader_keepSegment 4 = .ok (.iload_n 1, 1) := by decide +kernel
theorem dHeadReader_keepSegment_5 : decode cHeadReader_keepSegment 5 = .ok (.iconst 1, 1) := by decide +kernel
theorem dHeadReader_keepSegment_6 : decode cHeadReader_keepSegment 6 = .ok (.iadd, 1) := by decide +kernel
theorem dHeadReader_keepSegment_7 : decode cHeadReader_keepSegment 7 = .ok (.invokevirtual 44, 3) := by decide +kernel
theorem dHeadReader_keepSegment_10 : decode cHeadReader_keepSegment 10 = .ok (.lookupswitch 226 #[(82, 42), (83, 81), (92, 139), (93, 168)], 42) := by decide +kernel
