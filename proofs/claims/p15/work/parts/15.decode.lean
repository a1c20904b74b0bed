theorem dD_layBox_10 : decode cD_layBox 10 = .ok (.invokevirtual 233, 3) := by decide +kernel
theorem dD_layBox_13 : decode cD_layBox 13 = .ok (.aload_n 0, 1) := by decide +kernel
theorem dD_layBox_14 : decode cD_layBox 14 = .ok (.aload_n 0, 1) := by decide +kernel
theorem dD_layBox_15 : decode cD_layBox 15 = .ok (.getfield 44, 3) := by decide +kernel
theorem dD_layBox_18 : decode cD_layBox 18 = .ok (.iload_n 1, 1) := by decide +kernel
theorem dD_layBox_19 : decode cD_layBox 19 = .ok (.iaload, 1) := by decide +kernel
theorem dD_layBox_20 : decode cD_layBox 20 = .ok (.invokevirtual 233, 3) := by decide +kernel
theorem dD_layBox_23 : decode cD_layBox 23 = .ok (.iconst 0, 1) := by decide +kernel
theorem dD_layBox_24 : decode cD_layBox 24 = .ok (.istore_n 2, 1) := by decide +kernel
theorem dD_layBox_25 : decode cD_layBox 25 = .ok (.iload_n 2, 1) := by decide +kernel
theorem dD_layBox_26 : decode cD_layBox 26 = .ok (.aload_n 0, 1) := by decide +kernel
theorem dD_layBox_27 : decode cD_layBox 27 = .ok (.getfield 47, 3) := by decide +kernel
theorem dD_layBox_30 : decode cD_layBox 30 = .ok (.iload_n 1, 1) := by decide +kernel
theorem dD_layBox_31 : decode cD_layBox 31 = .ok (.iaload, 1) := by decide +kernel
theorem dD_layBox_32 : decode cD_layBox 32 = .ok (.if_icmp .ge 24, 3) := by decide +kernel
theorem dD_layBox_35 : decode cD_layBox 35 = .ok (.aload_n 0, 1) := by decide +kernel
theorem dD_layBox_36 : decode cD_layBox 36 = .ok (.aload_n 0, 1) := by decide +kernel
theorem dD_layBox_37 : decode cD_layBox 37 = .ok (.getfield 50, 3) := by decide +kernel
theorem dD_layBox_40 : decode cD_layBox 40 = .ok (.bipush 40, 2) := by decide +kernel
theorem dD_layBox_42 : decode cD_layBox 42 = .ok (.iload_n 1, 1) := by decide +kernel
theorem dD_layBox_43 : decode cD_layBox 43 = .ok (.imul, 1) := by decide +kernel
theorem dD_layBox_44 : decode cD_layBox 44 = .ok (.iload_n 2, 1) := by decide +kernel
theorem dD_layBox_45 : decode cD_layBox 45 = .ok (.iadd, 1) := by decide +kernel
theorem dD_layBox_46 : decode cD_layBox 46 = .ok (.iaload, 1) := by decide +kernel
theorem dD_layBox_47 : decode cD_layBox 47 = .ok (.invokevirtual 215, 3) := by decide +kernel
theorem dD_layBox_50 : decode cD_layBox 50 = .ok (.iinc 2 1, 3) := by decide +kernel
theorem dD_layBox_53 : decode cD_layBox 53 = .ok (.goto (-28), 3) := by decide +kernel
theorem dD_layBox_56 : decode cD_layBox 56 = .ok (.return_, 1) := by decide +kernel
theorem dD_layHeads_0 : decode cD_layHeads 0 = .ok (.aload_n 0, 1) := by decide +kernel
theorem dD_layHeads_1 : decode cD_layHeads 1 = .ok (.bipush 12, 2) := by decide +kernel
theorem dD_layHeads_3 : decode cD_layHeads 3 = .ok (.invokevirtual 233, 3) := by decide +kernel
theorem dD_layHeads_6 : decode cD_layHeads 6 = .ok (.aload_n 0, 1) := by decide +kernel
theorem dD_layHeads_7 : decode cD_layHeads 7 = .ok (.ldc 201, 2) := by decide +kernel
theorem dD_layHeads_9 : decode cD_layHeads 9 = .ok (.invokevirtual 233, 3) := by decide +kernel
theorem dD_layHeads_12 : decode cD_layHeads 12 = .ok (.aload_n 0, 1) := by decide +kernel
theorem dD_layHeads_13 : decode cD_layHeads 13 = .ok (.bipush 13, 2) := by decide +kernel
theorem dD_layHeads_15 : decode cD_layHeads 15 = .ok (.invokevirtual 215, 3) := by decide +kernel
theorem dD_layHeads_18 : decode cD_layHeads 18 = .ok (.aload_n 0, 1) := by decide +kernel
theorem dD_layHeads_19 : decode cD_layHeads 19 = .ok (.bipush 10, 2) := by decide +kernel
theorem dD_layHeads_21 : decode cD_layHeads 21 = .ok (.invokevirtual 215, 3) := by decide +kernel
theorem dD_layHeads_24 : decode cD_layHeads 24 = .ok (.aload_n 0, 1) := by decide +kernel
theorem dD_layHeads_25 : decode cD_layHeads 25 = .ok (.sipush 135, 3) := by decide +kernel
theorem dD_layHeads_28 : decode cD_layHeads 28 = .ok (.invokevirtual 215, 3) := by decide +kernel
theorem dD_layHeads_31 : decode cD_layHeads 31 = .ok (.aload_n 0, 1) := by decide +kernel
theorem dD_layHeads_32 : decode cD_layHeads 32 = .ok (.bipush 10, 2) := by decide +kernel
theorem dD_layHeads_34 : decode cD_layHeads 34 = .ok (.invokevirtual 215, 3) := by decide +kernel
theorem dD_layHeads_37 : decode cD_layHeads 37 = .ok (.aload_n 0, 1) := by decide +kernel
theorem dD_layHeads_38 : decode cD_layHeads 38 = .ok (.bipush 20, 2) := by decide +kernel
theorem dD_layHeads_40 : decode cD_layHeads 40 = .ok (.invokevirtual 233, 3) := by decide +kernel
theorem dD_layHeads_43 : decode cD_layHeads 43 = .ok (.aload_n 0, 1) := by decide +kernel
theorem dD_layHeads_44 : decode cD_layHeads 44 = .ok (.ldc 202, 2) := by decide +kernel
theorem dD_layHeads_46 : decode cD_layHeads 46 = .ok (.invokevirtual 233, 3) := by decide +kernel
theorem dD_layHeads_49 : decode cD_layHeads 49 = .ok (.aload_n 0, 1) := by decide +kernel
theorem dD_layHeads_50 : decode cD_layHeads 50 = .ok (.ldc 245, 2) := by decide +kernel
theorem dD_layHeads_52 : decode cD_layHeads 52 = .ok (.invokevirtual 233, 3) := by decide +kernel
theorem dD_layHeads_55 : decode cD_layHeads 55 = .ok (.aload_n 0, 1) := by decide +kernel
theorem dD_layHeads_56 : decode cD_layHeads 56 = .ok (.iconst 0, 1) := by decide +kernel
theorem dD_layHeads_57 : decode cD_layHeads 57 = .ok (.invokevirtual 233, 3) := by decide +kernel
theorem dD_layHeads_60 : decode cD_layHeads 60 = .ok (.aload_n 0, 1) := by decide +kernel
theorem dD_layHeads_61 : decode cD_layHeads 61 = .ok (.ldc 245, 2) := by decide +kernel
theorem dD_layHeads_63 : decode cD_layHeads 63 = .ok (.invokevirtual 233, 3) := by decide +kernel
theorem dD_layHeads_66 : decode cD_layHeads 66 = .ok (.bipush 30, 2) := by decide +kernel
theorem dD_layHeads_68 : decode cD_layHeads 68 = .ok (.istore_n 1, 1) := by decide +kernel
theorem dD_layHeads_69 : decode cD_layHeads 69 = .ok (.iconst 0, 1) := by decide +kernel
theorem dD_layHeads_70 : decode cD_layHeads 70 = .ok (.istore_n 2, 1) := by decide +kernel
theorem dD_layHeads_71 : decode cD_layHeads 71 = .ok (.iconst 0, 1) := by decide +kernel
theorem dD_layHeads_72 : decode cD_layHeads 72 = .ok (.istore_n 3, 1) := by decide +kernel
theorem dD_layHeads_73 : decode cD_layHeads 73 = .ok (.iload_n 3, 1) := by decide +kernel
theorem dD_layHeads_74 : decode cD_layHeads 74 = .ok (.aload_n 0, 1) := by decide +kernel
theorem dD_layHeads_75 : decode cD_layHeads 75 = .ok (.getfield 209, 3) := by decide +kernel
theorem dD_layHeads_78 : decode cD_layHeads 78 = .ok (.if_icmp .ge 34, 3) := by decide +kernel
theorem dD_layHeads_81 : decode cD_layHeads 81 = .ok (.iload_n 1, 1) := by decide +kernel
theorem dD_layHeads_82 : decode cD_layHeads 82 = .ok (.aload_n 0, 1) := by decide +kernel
theorem dD_layHeads_83 : decode cD_layHeads 83 = .ok (.getfield 41, 3) := by decide +kernel
theorem dD_layHeads_86 : decode cD_layHeads 86 = .ok (.iload_n 3, 1) := by decide +kernel
theorem dD_layHeads_87 : decode cD_layHeads 87 = .ok (.baload, 1) := by decide +kernel
theorem dD_layHeads_88 : decode cD_layHeads 88 = .ok (.ifCond .eq 15, 3) := by decide +kernel
theorem dD_layHeads_91 : decode cD_layHeads 91 = .ok (.bipush 8, 2) := by decide +kernel
theorem dD_layHeads_93 : decode cD_layHeads 93 = .ok (.aload_n 0, 1) := by decide +kernel
theorem dD_layHeads_94 : decode cD_layHeads 94 = .ok (.getfield 47, 3) := by decide +kernel
theorem dD_layHeads_97 : decode cD_layHeads 97 = .ok (.iload_n 3, 1) := by decide +kernel
theorem dD_layHeads_98 : decode cD_layHeads 98 = .ok (.iaload, 1) := by decide +kernel
theorem dD_layHeads_99 : decode cD_layHeads 99 = .ok (.iadd, 1) := by decide +kernel
theorem dD_layHeads_100 : decode cD_layHeads 100 = .ok (.goto 4, 3) := by decide +kernel
theorem dD_layHeads_103 : decode cD_layHeads 103 = .ok (.iconst 0, 1) := by decide +kernel
theorem dD_layHeads_104 : decode cD_layHeads 104 = .ok (.iadd, 1) := by decide +kernel
theorem dD_layHeads_105 : decode cD_layHeads 105 = .ok (.istore_n 1, 1) := by decide +kernel
theorem dD_layHeads_106 : decode cD_layHeads 106 = .ok (.iinc 3 1, 3) := by decide +kernel
theorem dD_layHeads_109 : decode cD_layHeads 109 = .ok (.goto (-36), 3) := by decide +kernel
theorem dD_layHeads_112 : decode cD_layHeads 112 = .ok (.iconst 0, 1) := by decide +kernel
theorem dD_layHeads_113 : decode cD_layHeads 113 = .ok (.istore_n 3, 1) := by decide +kernel
theorem dD_layHeads_114 : decode cD_layHeads 114 = .ok (.iload_n 3, 1) := by decide +kernel
theorem dD_layHeads_115 : decode cD_layHeads 115 = .ok (.aload_n 0, 1) := by decide +kernel
theorem dD_layHeads_116 : decode cD_layHeads 116 = .ok (.getfield 23, 3) := by decide +kernel
theorem dD_layHeads_119 : decode cD_layHeads 119 = .ok (.iconst 2, 1) := by decide +kernel
theorem dD_layHeads_120 : decode cD_layHeads 120 = .ok (.iaload, 1) := by decide +kernel
theorem dD_layHeads_121 : decode cD_layHeads 121 = .ok (.if_icmp .ge 30, 3) := by decide +kernel
theorem dD_layHeads_124 : decode cD_layHeads 124 = .ok (.aload_n 0, 1) := by decide +kernel
theorem dD_layHeads_125 : decode cD_layHeads 125 = .ok (.getfield 20, 3) := by decide +kernel
theorem dD_layHeads_128 : decode cD_layHeads 128 = .ok (.iload_n 3, 1) := by decide +kernel
theorem dD_layHeads_129 : decode cD_layHeads 129 = .ok (.iaload, 1) := by decide +kernel
theorem dD_layHeads_130 : decode cD_layHeads 130 = .ok (.iload_n 2, 1) := by decide +kernel
theorem dD_layHeads_131 : decode cD_layHeads 131 = .ok (.if_icmp .le 12, 3) := by decide +kernel
theorem dD_layHeads_134 : decode cD_layHeads 134 = .ok (.aload_n 0, 1) := by decide +kernel
theorem dD_layHeads_135 : decode cD_layHeads 135 = .ok (.getfield 20, 3) := by decide +kernel
theorem dD_layHeads_138 : decode cD_layHeads 138 = .ok (.iload_n 3, 1) := by decide +kernel
theorem dD_layHeads_139 : decode cD_layHeads 139 = .ok (.iaload, 1) := by decide +kernel
theorem dD_layHeads_140 : decode cD_layHeads 140 = .ok (.goto 4, 3) := by decide +kernel
theorem dD_layHeads_143 : decode cD_layHeads 143 = .ok (.iload_n 2, 1) := by decide +kernel
theorem dD_layHeads_144 : decode cD_layHeads 144 = .ok (.istore_n 2, 1) := by decide +kernel
theorem dD_layHeads_145 : decode cD_layHeads 145 = .ok (.iinc 3 1, 3) := by decide +kernel
theorem dD_layHeads_148 : decode cD_layHeads 148 = .ok (.goto (-34), 3) := by decide +kernel
theorem dD_layHeads_151 : decode cD_layHeads 151 = .ok (.aload_n 0, 1) := by decide +kernel
theorem dD_layHeads_152 : decode cD_layHeads 152 = .ok (.iload_n 1, 1) := by decide +kernel
theorem dD_layHeads_153 : decode cD_layHeads 153 = .ok (.invokevirtual 233, 3) := by decide +kernel
theorem dD_layHeads_156 : decode cD_layHeads 156 = .ok (.aload_n 0, 1) := by decide +kernel
theorem dD_layHeads_157 : decode cD_layHeads 157 = .ok (.ldc 203, 2) := by decide +kernel
theorem dD_layHeads_159 : decode cD_layHeads 159 = .ok (.invokevirtual 233, 3) := by decide +kernel
theorem dD_layHeads_162 : decode cD_layHeads 162 = .ok (.aload_n 0, 1) := by decide +kernel
theorem dD_layHeads_163 : decode cD_layHeads 163 = .ok (.bipush 22, 2) := by decide +kernel
theorem dD_layHeads_165 : decode cD_layHeads 165 = .ok (.invokevirtual 233, 3) := by decide +kernel
theorem dD_layHeads_168 : decode cD_layHeads 168 = .ok (.aload_n 0, 1) := by decide +kernel
theorem dD_layHeads_169 : decode cD_layHeads 169 = .ok (.ldc 204, 2) := by decide +kernel
theorem dD_layHeads_171 : decode cD_layHeads 171 = .ok (.invokevirtual 233, 3) := by decide +kernel
theorem dD_layHeads_174 : decode cD_layHeads 174 = .ok (.aload_n 0, 1) := by decide +kernel
theorem dD_layHeads_175 : decode cD_layHeads 175 = .ok (.aload_n 0, 1) := by decide +kernel
theorem dD_layHeads_176 : decode cD_layHeads 176 = .ok (.getfield 23, 3) := by decide +kernel
theorem dD_layHeads_179 : decode cD_layHeads 179 = .ok (.iconst 1, 1) := by decide +kernel
theorem dD_layHeads_180 : decode cD_layHeads 180 = .ok (.iaload, 1) := by decide +kernel
theorem dD_layHeads_181 : decode cD_layHeads 181 = .ok (.invokevirtual 233, 3) := by decide +kernel
theorem dD_layHeads_184 : decode cD_layHeads 184 = .ok (.aload_n 0, 1) := by decide +kernel
theorem dD_layHeads_185 : decode cD_layHeads 185 = .ok (.aload_n 0, 1) := by decide +kernel
theorem dD_layHeads_186 : decode cD_layHeads 186 = .ok (.getfield 23, 3) := by decide +kernel
theorem dD_layHeads_189 : decode cD_layHeads 189 = .ok (.iconst 0, 1) := by decide +kernel
theorem dD_layHeads_190 : decode cD_layHeads 190 = .ok (.iaload, 1) := by decide +kernel
theorem dD_layHeads_191 : decode cD_layHeads 191 = .ok (.invokevirtual 233, 3) := by decide +kernel
theorem dD_layHeads_194 : decode cD_layHeads 194 = .ok (.aload_n 0, 1) := by decide +kernel
theorem dD_layHeads_195 : decode cD_layHeads 195 = .ok (.aload_n 0, 1) := by decide +kernel
theorem dD_layHeads_196 : decode cD_layHeads 196 = .ok (.getfield 23, 3) := by decide +kernel
theorem dD_layHeads_199 : decode cD_layHeads 199 = .ok (.iconst 2, 1) := by decide +kernel
theorem dD_layHeads_200 : decode cD_layHeads 200 = .ok (.iaload, 1) := by decide +kernel
theorem dD_layHeads_201 : decode cD_layHeads 201 = .ok (.invokevirtual 219, 3) := by decide +kernel
theorem dD_layHeads_204 : decode cD_layHeads 204 = .ok (.aload_n 0, 1) := by decide +kernel
theorem dD_layHeads_205 : decode cD_layHeads 205 = .ok (.iload_n 2, 1) := by decide +kernel
theorem dD_layHeads_206 : decode cD_layHeads 206 = .ok (.iconst 1, 1) := by decide +kernel
theorem dD_layHeads_207 : decode cD_layHeads 207 = .ok (.isub, 1) := by decide +kernel
theorem dD_layHeads_208 : decode cD_layHeads 208 = .ok (.invokevirtual 215, 3) := by decide +kernel
theorem dD_layHeads_211 : decode cD_layHeads 211 = .ok (.aload_n 0, 1) := by decide +kernel
theorem dD_layHeads_212 : decode cD_layHeads 212 = .ok (.bipush 7, 2) := by decide +kernel
theorem dD_layHeads_214 : decode cD_layHeads 214 = .ok (.invokevirtual 215, 3) := by decide +kernel
theorem dD_layHeads_217 : decode cD_layHeads 217 = .ok (.aload_n 0, 1) := by decide +kernel
theorem dD_layHeads_218 : decode cD_layHeads 218 = .ok (.iconst 0, 1) := by decide +kernel
theorem dD_layHeads_219 : decode cD_layHeads 219 = .ok (.invokevirtual 215, 3) := by decide +kernel
theorem dD_layHeads_222 : decode cD_layHeads 222 = .ok (.aload_n 0, 1) := by decide +kernel
theorem dD_layHeads_223 : decode cD_layHeads 223 = .ok (.iconst 0, 1) := by decide +kernel
theorem dD_layHeads_224 : decode cD_layHeads 224 = .ok (.invokevirtual 215, 3) := by decide +kernel
theorem dD_layHeads_227 : decode cD_layHeads 227 = .ok (.return_, 1) := by decide +kernel
theorem dD_write_0 : decode cD_write 0 = .ok (.aload_n 0, 1) := by decide +kernel
theorem dD_write_1 : decode cD_write 1 = .ok (.iconst 0, 1) := by decide +kernel
theorem dD_write_2 : decode cD_write 2 = .ok (.putfield 110, 3) := by decide +kernel
theorem dD_write_5 : decode cD_write 5 = .ok (.aload_n 0, 1) := by decide +kernel
theorem dD_write_6 : decode cD_write 6 = .ok (.iconst 0, 1) := by decide +kernel
theorem dD_write_7 : decode cD_write 7 = .ok (.putfield 212, 3) := by decide +kernel
theorem dD_write_10 : decode cD_write 10 = .ok (.aload_n 0, 1) := by decide +kernel
theorem dD_write_11 : decode cD_write 11 = .ok (.invokevirtual 246, 3) := by decide +kernel
theorem dD_write_14 : decode cD_write 14 = .ok (.iconst 0, 1) := by decide +kernel
theorem dD_write_15 : decode cD_write 15 = .ok (.istore_n 1, 1) := by decide +kernel
theorem dD_write_16 : decode cD_write 16 = .ok (.iload_n 1, 1) := by decide +kernel
theorem dD_write_17 : decode cD_write 17 = .ok (.iconst 2, 1) := by decide +kernel
theorem dD_write_18 : decode cD_write 18 = .ok (.if_icmp .ge 48, 3) := by decide +kernel
theorem dD_write_21 : decode cD_write 21 = .ok (.iconst 0, 1) := by decide +kernel
theorem dD_write_22 : decode cD_write 22 = .ok (.istore_n 2, 1) := by decide +kernel
theorem dD_write_23 : decode cD_write 23 = .ok (.iload_n 2, 1) := by decide +kernel
theorem dD_write_24 : decode cD_write 24 = .ok (.aload_n 0, 1) := by decide +kernel
theorem dD_write_25 : decode cD_write 25 = .ok (.getfield 209, 3) := by decide +kernel
theorem dD_write_28 : decode cD_write 28 = .ok (.if_icmp .ge 32, 3) := by decide +kernel
theorem dD_write_31 : decode cD_write 31 = .ok (.aload_n 0, 1) := by decide +kernel
theorem dD_write_32 : decode cD_write 32 = .ok (.getfield 41, 3) := by decide +kernel
theorem dD_write_35 : decode cD_write 35 = .ok (.iload_n 2, 1) := by decide +kernel
theorem dD_write_36 : decode cD_write 36 = .ok (.baload, 1) := by decide +kernel
theorem dD_write_37 : decode cD_write 37 = .ok (.iload_n 1, 1) := by decide +kernel
theorem dD_write_38 : decode cD_write 38 = .ok (.ifCond .ne 7, 3) := by decide +kernel
theorem dD_write_41 : decode cD_write 41 = .ok (.iconst 1, 1) := by decide +kernel
theorem dD_write_42 : decode cD_write 42 = .ok (.goto 4, 3) := by decide +kernel
theorem dD_write_45 : decode cD_write 45 = .ok (.iconst 0, 1) := by decide +kernel
theorem dD_write_46 : decode cD_write 46 = .ok (.if_icmp .ne 8, 3) := by decide +kernel
theorem dD_write_49 : decode cD_write 49 = .ok (.aload_n 0, 1) := by decide +kernel
theorem dD_write_50 : decode cD_write 50 = .ok (.iload_n 2, 1) := by decide +kernel
theorem dD_write_51 : decode cD_write 51 = .ok (.invokevirtual 249, 3) := by decide +kernel
theorem dD_write_54 : decode cD_write 54 = .ok (.iinc 2 1, 3) := by decide +kernel
theorem dD_write_57 : decode cD_write 57 = .ok (.goto (-34), 3) := by decide +kernel
theorem dD_write_60 : decode cD_write 60 = .ok (.iinc 1 1, 3) := by decide +kernel
theorem dD_write_63 : decode cD_write 63 = .ok (.goto (-47), 3) := by decide +kernel
theorem dD_write_66 : decode cD_write 66 = .ok (.aload_n 0, 1) := by decide +kernel
theorem dD_write_67 : decode cD_write 67 = .ok (.getfield 212, 3) := by decide +kernel
theorem dD_write_70 : decode cD_write 70 = .ok (.istore_n 1, 1) := by decide +kernel
theorem dD_write_71 : decode cD_write 71 = .ok (.aload_n 0, 1) := by decide +kernel
theorem dD_write_72 : decode cD_write 72 = .ok (.iconst 0, 1) := by decide +kernel
theorem dD_write_73 : decode cD_write 73 = .ok (.invokevirtual 233, 3) := by decide +kernel
theorem dD_write_76 : decode cD_write 76 = .ok (.aload_n 0, 1) := by decide +kernel
theorem dD_write_77 : decode cD_write 77 = .ok (.ldc 205, 2) := by decide +kernel
theorem dD_write_79 : decode cD_write 79 = .ok (.invokevirtual 233, 3) := by decide +kernel
theorem dD_write_82 : decode cD_write 82 = .ok (.aload_n 0, 1) := by decide +kernel
theorem dD_write_83 : decode cD_write 83 = .ok (.invokevirtual 252, 3) := by decide +kernel
theorem dD_write_86 : decode cD_write 86 = .ok (.aload_n 0, 1) := by decide +kernel
theorem dD_write_87 : decode cD_write 87 = .ok (.getfield 212, 3) := by decide +kernel
theorem dD_write_90 : decode cD_write 90 = .ok (.iload_n 1, 1) := by decide +kernel
theorem dD_write_91 : decode cD_write 91 = .ok (.isub, 1) := by decide +kernel
theorem dD_write_92 : decode cD_write 92 = .ok (.istore_n 2, 1) := by decide +kernel
theorem dD_write_93 : decode cD_write 93 = .ok (.iconst 0, 1) := by decide +kernel
theorem dD_write_94 : decode cD_write 94 = .ok (.istore_n 3, 1) := by decide +kernel
theorem dD_write_95 : decode cD_write 95 = .ok (.iload_n 3, 1) := by decide +kernel
theorem dD_write_96 : decode cD_write 96 = .ok (.iconst 4, 1) := by decide +kernel
theorem dD_write_97 : decode cD_write 97 = .ok (.if_icmp .ge 30, 3) := by decide +kernel
theorem dD_write_100 : decode cD_write 100 = .ok (.aload_n 0, 1) := by decide +kernel
theorem dD_write_101 : decode cD_write 101 = .ok (.getfield 54, 3) := by decide +kernel
theorem dD_write_104 : decode cD_write 104 = .ok (.iload_n 1, 1) := by decide +kernel
theorem dD_write_105 : decode cD_write 105 = .ok (.iload_n 3, 1) := by decide +kernel
theorem dD_write_106 : decode cD_write 106 = .ok (.iadd, 1) := by decide +kernel
theorem dD_write_107 : decode cD_write 107 = .ok (.iload_n 2, 1) := by decide +kernel
theorem dD_write_108 : decode cD_write 108 = .ok (.bipush 24, 2) := by decide +kernel
theorem dD_write_110 : decode cD_write 110 = .ok (.bipush 8, 2) := by decide +kernel
theorem dD_write_112 : decode cD_write 112 = .ok (.iload_n 3, 1) := by decide +kernel
theorem dD_write_113 : decode cD_write 113 = .ok (.imul, 1) := by decide +kernel
theorem dD_write_114 : decode cD_write 114 = .ok (.isub, 1) := by decide +kernel
theorem dD_write_115 : decode cD_write 115 = .ok (.ishr, 1) := by decide +kernel
theorem dD_write_116 : decode cD_write 116 = .ok (.sipush 255, 3) := by decide +kernel
theorem dD_write_119 : decode cD_write 119 = .ok (.iand, 1) := by decide +kernel
theorem dD_write_120 : decode cD_write 120 = .ok (.iastore, 1) := by decide +kernel
theorem dD_write_121 : decode cD_write 121 = .ok (.iinc 3 1, 3) := by decide +kernel
theorem dD_write_124 : decode cD_write 124 = .ok (.goto (-29), 3) := by decide +kernel
theorem dD_write_127 : decode cD_write 127 = .ok (.aload_n 0, 1) := by decide +kernel
theorem dD_write_128 : decode cD_write 128 = .ok (.getfield 212, 3) := by decide +kernel
theorem dD_write_131 : decode cD_write 131 = .ok (.ireturn, 1) := by decide +kernel
theorem dD_byteAt_0 : decode cD_byteAt 0 = .ok (.aload_n 0, 1) := by decide +kernel
theorem dD_byteAt_1 : decode cD_byteAt 1 = .ok (.iload_n 1, 1) := by decide +kernel
theorem dD_byteAt_2 : decode cD_byteAt 2 = .ok (.i2l, 1) := by decide +kernel
theorem dD_byteAt_3 : decode cD_byteAt 3 = .ok (.lconst 0, 1) := by decide +kernel
theorem dD_byteAt_4 : decode cD_byteAt 4 = .ok (.aload_n 0, 1) := by decide +kernel
theorem dD_byteAt_5 : decode cD_byteAt 5 = .ok (.getfield 212, 3) := by decide +kernel
theorem dD_byteAt_8 : decode cD_byteAt 8 = .ok (.i2l, 1) := by decide +kernel
theorem dD_byteAt_9 : decode cD_byteAt 9 = .ok (.lconst 1, 1) := by decide +kernel
theorem dD_byteAt_10 : decode cD_byteAt 10 = .ok (.lsub, 1) := by decide +kernel
theorem dD_byteAt_11 : decode cD_byteAt 11 = .ok (.invokestatic 135, 3) := by decide +kernel
theorem dD_byteAt_14 : decode cD_byteAt 14 = .ok (.ifCond .eq 7, 3) := by decide +kernel
theorem dD_byteAt_17 : decode cD_byteAt 17 = .ok (.iconst 0, 1) := by decide +kernel
theorem dD_byteAt_18 : decode cD_byteAt 18 = .ok (.goto 4, 3) := by decide +kernel
theorem dD_byteAt_21 : decode cD_byteAt 21 = .ok (.iconst 1, 1) := by decide +kernel
theorem dD_byteAt_22 : decode cD_byteAt 22 = .ok (.putfield 110, 3) := by decide +kernel
theorem dD_byteAt_25 : decode cD_byteAt 25 = .ok (.aload_n 0, 1) := by decide +kernel
theorem dD_byteAt_26 : decode cD_byteAt 26 = .ok (.getfield 110, 3) := by decide +kernel
theorem dD_byteAt_29 : decode cD_byteAt 29 = .ok (.ifCond .le 7, 3) := by decide +kernel
theorem dD_byteAt_32 : decode cD_byteAt 32 = .ok (.iconst 0, 1) := by decide +kernel
theorem dD_byteAt_33 : decode cD_byteAt 33 = .ok (.goto 9, 3) := by decide +kernel
theorem dD_byteAt_36 : decode cD_byteAt 36 = .ok (.aload_n 0, 1) := by decide +kernel
theorem dD_byteAt_37 : decode cD_byteAt 37 = .ok (.getfield 54, 3) := by decide +kernel
theorem dD_byteAt_40 : decode cD_byteAt 40 = .ok (.iload_n 1, 1) := by decide +kernel
theorem dD_byteAt_41 : decode cD_byteAt 41 = .ok (.iaload, 1) := by decide +kernel
theorem dD_byteAt_42 : decode cD_byteAt 42 = .ok (.ireturn, 1) := by decide +kernel
theorem dD_feed_0 : decode cD_feed 0 = .ok (.aload_n 0, 1) := by decide +kernel
theorem dD_feed_1 : decode cD_feed 1 = .ok (.iload_n 1, 1) := by decide +kernel
theorem dD_feed_2 : decode cD_feed 2 = .ok (.i2l, 1) := by decide +kernel
theorem dD_feed_3 : decode cD_feed 3 = .ok (.lconst 0, 1) := by decide +kernel
theorem dD_feed_4 : decode cD_feed 4 = .ok (.ldc2_w 195, 3) := by decide +kernel
theorem dD_feed_7 : decode cD_feed 7 = .ok (.invokestatic 135, 3) := by decide +kernel
theorem dD_feed_10 : decode cD_feed 10 = .ok (.ifCond .ne 7, 3) := by decide +kernel
theorem dD_feed_13 : decode cD_feed 13 = .ok (.iconst 1, 1) := by decide +kernel
theorem dD_feed_14 : decode cD_feed 14 = .ok (.goto 18, 3) := by decide +kernel
theorem dD_feed_17 : decode cD_feed 17 = .ok (.aload_n 0, 1) := by decide +kernel
theorem dD_feed_18 : decode cD_feed 18 = .ok (.getfield 255, 3) := by decide +kernel
theorem dD_feed_21 : decode cD_feed 21 = .ok (.sipush 20000, 3) := by decide +kernel
theorem dD_feed_24 : decode cD_feed 24 = .ok (.if_icmp .ne 7, 3) := by decide +kernel
theorem dD_feed_27 : decode cD_feed 27 = .ok (.iconst 2, 1) := by decide +kernel
theorem dD_feed_28 : decode cD_feed 28 = .ok (.goto 4, 3) := by decide +kernel
theorem dD_feed_31 : decode cD_feed 31 = .ok (.iconst 0, 1) := by decide +kernel
theorem dD_feed_32 : decode cD_feed 32 = .ok (.putfield 110, 3) := by decide +kernel
theorem dD_feed_35 : decode cD_feed 35 = .ok (.aload_n 0, 1) := by decide +kernel
theorem dD_feed_36 : decode cD_feed 36 = .ok (.getfield 110, 3) := by decide +kernel
theorem dD_feed_39 : decode cD_feed 39 = .ok (.ifCond .le 5, 3) := by decide +kernel
theorem dD_feed_42 : decode cD_feed 42 = .ok (.iconst 0, 1) := by decide +kernel
theorem dD_feed_43 : decode cD_feed 43 = .ok (.ireturn, 1) := by decide +kernel
theorem dD_feed_44 : decode cD_feed 44 = .ok (.aload_n 0, 1) := by decide +kernel
theorem dD_feed_45 : decode cD_feed 45 = .ok (.getfield 57, 3) := by decide +kernel
theorem dD_feed_48 : decode cD_feed 48 = .ok (.aload_n 0, 1) := by decide +kernel
theorem dD_feed_49 : decode cD_feed 49 = .ok (.getfield 255, 3) := by decide +kernel
theorem dD_feed_52 : decode cD_feed 52 = .ok (.iload_n 1, 1) := by decide +kernel
theorem dD_feed_53 : decode cD_feed 53 = .ok (.iastore, 1) := by decide +kernel
theorem dD_feed_54 : decode cD_feed 54 = .ok (.aload_n 0, 1) := by decide +kernel
theorem dD_feed_55 : decode cD_feed 55 = .ok (.dup, 1) := by decide +kernel
theorem dD_feed_56 : decode cD_feed 56 = .ok (.getfield 255, 3) := by decide +kernel
theorem dD_feed_59 : decode cD_feed 59 = .ok (.iconst 1, 1) := by decide +kernel
theorem dD_feed_60 : decode cD_feed 60 = .ok (.iadd, 1) := by decide +kernel
theorem dD_feed_61 : decode cD_feed 61 = .ok (.putfield 255, 3) := by decide +kernel
theorem dD_feed_64 : decode cD_feed 64 = .ok (.aload_n 0, 1) := by decide +kernel
theorem dD_feed_65 : decode cD_feed 65 = .ok (.getfield 255, 3) := by decide +kernel
theorem dD_feed_68 : decode cD_feed 68 = .ok (.ireturn, 1) := by decide +kernel
theorem dD_pass_0 : decode cD_pass 0 = .ok (.iload_n 2, 1) := by decide +kernel
theorem dD_pass_1 : decode cD_pass 1 = .ok (.aload_n 0, 1) := by decide +kernel
theorem dD_pass_2 : decode cD_pass 2 = .ok (.getfield 212, 3) := by decide +kernel
theorem dD_pass_5 : decode cD_pass 5 = .ok (.iload_n 1, 1) := by decide +kernel
theorem dD_pass_6 : decode cD_pass 6 = .ok (.isub, 1) := by decide +kernel
theorem dD_pass_7 : decode cD_pass 7 = .ok (.if_icmp .ge 7, 3) := by decide +kernel
theorem dD_pass_10 : decode cD_pass 10 = .ok (.iload_n 2, 1) := by decide +kernel
theorem dD_pass_11 : decode cD_pass 11 = .ok (.goto 9, 3) := by decide +kernel
theorem dD_pass_14 : decode cD_pass 14 = .ok (.aload_n 0, 1) := by decide +kernel
theorem dD_pass_15 : decode cD_pass 15 = .ok (.getfield 212, 3) := by decide +kernel
theorem dD_pass_18 : decode cD_pass 18 = .ok (.iload_n 1, 1) := by decide +kernel
theorem dD_pass_19 : decode cD_pass 19 = .ok (.isub, 1) := by decide +kernel
theorem dD_pass_20 : decode cD_pass 20 = .ok (.istore_n 3, 1) := by decide +kernel
theorem dD_pass_21 : decode cD_pass 21 = .ok (.aload_n 0, 1) := by decide +kernel
theorem dD_pass_22 : decode cD_pass 22 = .ok (.iload_n 1, 1) := by decide +kernel
theorem dD_pass_23 : decode cD_pass 23 = .ok (.i2l, 1) := by decide +kernel
theorem dD_pass_24 : decode cD_pass 24 = .ok (.lconst 0, 1) := by decide +kernel
theorem dD_pass_25 : decode cD_pass 25 = .ok (.aload_n 0, 1) := by decide +kernel
theorem dD_pass_26 : decode cD_pass 26 = .ok (.getfield 212, 3) := by decide +kernel
theorem dD_pass_29 : decode cD_pass 29 = .ok (.i2l, 1) := by decide +kernel
theorem dD_pass_30 : decode cD_pass 30 = .ok (.lconst 1, 1) := by decide +kernel
theorem dD_pass_31 : decode cD_pass 31 = .ok (.lsub, 1) := by decide +kernel
theorem dD_pass_32 : decode cD_pass 32 = .ok (.invokestatic 135, 3) := by decide +kernel
theorem dD_pass_35 : decode cD_pass 35 = .ok (.ifCond .ne 7, 3) := by decide +kernel
theorem dD_pass_38 : decode cD_pass 38 = .ok (.iconst 1, 1) := by decide +kernel
theorem dD_pass_39 : decode cD_pass 39 = .ok (.goto 28, 3) := by decide +kernel
theorem dD_pass_42 : decode cD_pass 42 = .ok (.iload_n 2, 1) := by decide +kernel
theorem dD_pass_43 : decode cD_pass 43 = .ok (.ifCond .ge 7, 3) := by decide +kernel
theorem dD_pass_46 : decode cD_pass 46 = .ok (.iconst 2, 1) := by decide +kernel
theorem dD_pass_47 : decode cD_pass 47 = .ok (.goto 20, 3) := by decide +kernel
theorem dD_pass_50 : decode cD_pass 50 = .ok (.aload_n 0, 1) := by decide +kernel
theorem dD_pass_51 : decode cD_pass 51 = .ok (.getfield 255, 3) := by decide +kernel
theorem dD_pass_54 : decode cD_pass 54 = .ok (.iload_n 3, 1) := by decide +kernel
theorem dD_pass_55 : decode cD_pass 55 = .ok (.iadd, 1) := by decide +kernel
theorem dD_pass_56 : decode cD_pass 56 = .ok (.sipush 20000, 3) := by decide +kernel
theorem dD_pass_59 : decode cD_pass 59 = .ok (.if_icmp .le 7, 3) := by decide +kernel
theorem dD_pass_62 : decode cD_pass 62 = .ok (.iconst 3, 1) := by decide +kernel
theorem dD_pass_63 : decode cD_pass 63 = .ok (.goto 4, 3) := by decide +kernel
theorem dD_pass_66 : decode cD_pass 66 = .ok (.iconst 0, 1) := by decide +kernel
theorem dD_pass_67 : decode cD_pass 67 = .ok (.putfield 110, 3) := by decide +kernel
theorem dD_pass_70 : decode cD_pass 70 = .ok (.aload_n 0, 1) := by decide +kernel
theorem dD_pass_71 : decode cD_pass 71 = .ok (.getfield 110, 3) := by decide +kernel
theorem dD_pass_74 : decode cD_pass 74 = .ok (.ifCond .le 5, 3) := by decide +kernel
theorem dD_pass_77 : decode cD_pass 77 = .ok (.iconst 0, 1) := by decide +kernel
theorem dD_pass_78 : decode cD_pass 78 = .ok (.ireturn, 1) := by decide +kernel
theorem dD_pass_79 : decode cD_pass 79 = .ok (.iconst 0, 1) := by decide +kernel
theorem dD_pass_80 : decode cD_pass 80 = .ok (.istore 4, 2) := by decide +kernel
theorem dD_pass_82 : decode cD_pass 82 = .ok (.iload 4, 2) := by decide +kernel
theorem dD_pass_84 : decode cD_pass 84 = .ok (.iload_n 3, 1) := by decide +kernel
theorem dD_pass_85 : decode cD_pass 85 = .ok (.if_icmp .ge 37, 3) := by decide +kernel
theorem dD_pass_88 : decode cD_pass 88 = .ok (.aload_n 0, 1) := by decide +kernel
theorem dD_pass_89 : decode cD_pass 89 = .ok (.getfield 57, 3) := by decide +kernel
theorem dD_pass_92 : decode cD_pass 92 = .ok (.aload_n 0, 1) := by decide +kernel
theorem dD_pass_93 : decode cD_pass 93 = .ok (.getfield 255, 3) := by decide +kernel
theorem dD_pass_96 : decode cD_pass 96 = .ok (.aload_n 0, 1) := by decide +kernel
theorem dD_pass_97 : decode cD_pass 97 = .ok (.getfield 54, 3) := by decide +kernel
theorem dD_pass_100 : decode cD_pass 100 = .ok (.iload_n 1, 1) := by decide +kernel
theorem dD_pass_101 : decode cD_pass 101 = .ok (.iload 4, 2) := by decide +kernel
theorem dD_pass_103 : decode cD_pass 103 = .ok (.iadd, 1) := by decide +kernel
theorem dD_pass_104 : decode cD_pass 104 = .ok (.iaload, 1) := by decide +kernel
theorem dD_pass_105 : decode cD_pass 105 = .ok (.iastore, 1) := by decide +kernel
theorem dD_pass_106 : decode cD_pass 106 = .ok (.aload_n 0, 1) := by decide +kernel
theorem dD_pass_107 : decode cD_pass 107 = .ok (.dup, 1) := by decide +kernel
theorem dD_pass_108 : decode cD_pass 108 = .ok (.getfield 255, 3) := by decide +kernel
theorem dD_pass_111 : decode cD_pass 111 = .ok (.iconst 1, 1) := by decide +kernel
theorem dD_pass_112 : decode cD_pass 112 = .ok (.iadd, 1) := by decide +kernel
theorem dD_pass_113 : decode cD_pass 113 = .ok (.putfield 255, 3) := by decide +kernel
theorem dD_pass_116 : decode cD_pass 116 = .ok (.iinc 4 1, 3) := by decide +kernel
theorem dD_pass_119 : decode cD_pass 119 = .ok (.goto (-37), 3) := by decide +kernel
theorem dD_pass_122 : decode cD_pass 122 = .ok (.iload_n 3, 1) := by decide +kernel
theorem dD_pass_123 : decode cD_pass 123 = .ok (.ireturn, 1) := by decide +kernel
theorem dD_alter_0 : decode cD_alter 0 = .ok (.aload_n 0, 1) := by decide +kernel
theorem dD_alter_1 : decode cD_alter 1 = .ok (.iload_n 1, 1) := by decide +kernel
theorem dD_alter_2 : decode cD_alter 2 = .ok (.i2l, 1) := by decide +kernel
theorem dD_alter_3 : decode cD_alter 3 = .ok (.lconst 0, 1) := by decide +kernel
theorem dD_alter_4 : decode cD_alter 4 = .ok (.aload_n 0, 1) := by decide +kernel
theorem dD_alter_5 : decode cD_alter 5 = .ok (.getfield 255, 3) := by decide +kernel
theorem dD_alter_8 : decode cD_alter 8 = .ok (.i2l, 1) := by decide +kernel
theorem dD_alter_9 : decode cD_alter 9 = .ok (.lconst 1, 1) := by decide +kernel
theorem dD_alter_10 : decode cD_alter 10 = .ok (.lsub, 1) := by decide +kernel
theorem dD_alter_11 : decode cD_alter 11 = .ok (.invokestatic 135, 3) := by decide +kernel
theorem dD_alter_14 : decode cD_alter 14 = .ok (.ifCond .ne 7, 3) := by decide +kernel
theorem dD_alter_17 : decode cD_alter 17 = .ok (.iconst 1, 1) := by decide +kernel
theorem dD_alter_18 : decode cD_alter 18 = .ok (.goto 20, 3) := by decide +kernel
theorem dD_alter_21 : decode cD_alter 21 = .ok (.iload_n 2, 1) := by decide +kernel
theorem dD_alter_22 : decode cD_alter 22 = .ok (.i2l, 1) := by decide +kernel
theorem dD_alter_23 : decode cD_alter 23 = .ok (.lconst 0, 1) := by decide +kernel
theorem dD_alter_24 : decode cD_alter 24 = .ok (.ldc2_w 195, 3) := by decide +kernel
theorem dD_alter_27 : decode cD_alter 27 = .ok (.invokestatic 135, 3) := by decide +kernel
theorem dD_alter_30 : decode cD_alter 30 = .ok (.ifCond .ne 7, 3) := by decide +kernel
theorem dD_alter_33 : decode cD_alter 33 = .ok (.iconst 2, 1) := by decide +kernel
theorem dD_alter_34 : decode cD_alter 34 = .ok (.goto 4, 3) := by decide +kernel
theorem dD_alter_37 : decode cD_alter 37 = .ok (.iconst 0, 1) := by decide +kernel
theorem dD_alter_38 : decode cD_alter 38 = .ok (.putfield 110, 3) := by decide +kernel
theorem dD_alter_41 : decode cD_alter 41 = .ok (.aload_n 0, 1) := by decide +kernel
theorem dD_alter_42 : decode cD_alter 42 = .ok (.getfield 110, 3) := by decide +kernel
theorem dD_alter_45 : decode cD_alter 45 = .ok (.ifCond .le 5, 3) := by decide +kernel
theorem dD_alter_48 : decode cD_alter 48 = .ok (.iconst 0, 1) := by decide +kernel
theorem dD_alter_49 : decode cD_alter 49 = .ok (.ireturn, 1) := by decide +kernel
theorem dD_alter_50 : decode cD_alter 50 = .ok (.aload_n 0, 1) := by decide +kernel
theorem dD_alter_51 : decode cD_alter 51 = .ok (.getfield 57, 3) := by decide +kernel
theorem dD_alter_54 : decode cD_alter 54 = .ok (.iload_n 1, 1) := by decide +kernel
theorem dD_alter_55 : decode cD_alter 55 = .ok (.iaload, 1) := by decide +kernel
theorem dD_alter_56 : decode cD_alter 56 = .ok (.istore_n 3, 1) := by decide +kernel
theorem dD_alter_57 : decode cD_alter 57 = .ok (.aload_n 0, 1) := by decide +kernel
theorem dD_alter_58 : decode cD_alter 58 = .ok (.getfield 57, 3) := by decide +kernel
theorem dD_alter_61 : decode cD_alter 61 = .ok (.iload_n 1, 1) := by decide +kernel
theorem dD_alter_62 : decode cD_alter 62 = .ok (.iload_n 2, 1) := by decide +kernel
theorem dD_alter_63 : decode cD_alter 63 = .ok (.iastore, 1) := by decide +kernel
theorem dD_alter_64 : decode cD_alter 64 = .ok (.iload_n 3, 1) := by decide +kernel
theorem dD_alter_65 : decode cD_alter 65 = .ok (.ireturn, 1) := by decide +kernel
theorem dD_cut_0 : decode cD_cut 0 = .ok (.aload_n 0, 1) := by decide +kernel
theorem dD_cut_1 : decode cD_cut 1 = .ok (.iload_n 1, 1) := by decide +kernel
theorem dD_cut_2 : decode cD_cut 2 = .ok (.ifCond .ge 7, 3) := by decide +kernel
theorem dD_cut_5 : decode cD_cut 5 = .ok (.iconst 1, 1) := by decide +kernel
theorem dD_cut_6 : decode cD_cut 6 = .ok (.goto 4, 3) := by decide +kernel
theorem dD_cut_9 : decode cD_cut 9 = .ok (.iconst 0, 1) := by decide +kernel
theorem dD_cut_10 : decode cD_cut 10 = .ok (.putfield 110, 3) := by decide +kernel
theorem dD_cut_13 : decode cD_cut 13 = .ok (.aload_n 0, 1) := by decide +kernel
theorem dD_cut_14 : decode cD_cut 14 = .ok (.getfield 110, 3) := by decide +kernel
theorem dD_cut_17 : decode cD_cut 17 = .ok (.ifCond .le 5, 3) := by decide +kernel
theorem dD_cut_20 : decode cD_cut 20 = .ok (.iconst 0, 1) := by decide +kernel
theorem dD_cut_21 : decode cD_cut 21 = .ok (.ireturn, 1) := by decide +kernel
theorem dD_cut_22 : decode cD_cut 22 = .ok (.aload_n 0, 1) := by decide +kernel
theorem dD_cut_23 : decode cD_cut 23 = .ok (.iload_n 1, 1) := by decide +kernel
theorem dD_cut_24 : decode cD_cut 24 = .ok (.aload_n 0, 1) := by decide +kernel
theorem dD_cut_25 : decode cD_cut 25 = .ok (.getfield 255, 3) := by decide +kernel
theorem dD_cut_28 : decode cD_cut 28 = .ok (.if_icmp .ge 7, 3) := by decide +kernel
theorem dD_cut_31 : decode cD_cut 31 = .ok (.iload_n 1, 1) := by decide +kernel
theorem dD_cut_32 : decode cD_cut 32 = .ok (.goto 7, 3) := by decide +kernel
theorem dD_cut_35 : decode cD_cut 35 = .ok (.aload_n 0, 1) := by decide +kernel
theorem dD_cut_36 : decode cD_cut 36 = .ok (.getfield 255, 3) := by decide +kernel
theorem dD_cut_39 : decode cD_cut 39 = .ok (.putfield 255, 3) := by decide +kernel
theorem dD_cut_42 : decode cD_cut 42 = .ok (.aload_n 0, 1) := by decide +kernel
theorem dD_cut_43 : decode cD_cut 43 = .ok (.getfield 255, 3) := by decide +kernel
theorem dD_cut_46 : decode cD_cut 46 = .ok (.ireturn, 1) := by decide +kernel
theorem dD_four_0 : decode cD_four 0 = .ok (.aload_n 0, 1) := by decide +kernel
theorem dD_four_1 : decode cD_four 1 = .ok (.getfield 60, 3) := by decide +kernel
theorem dD_four_4 : decode cD_four 4 = .ok (.iload_n 1, 1) := by decide +kernel
theorem dD_four_5 : decode cD_four 5 = .ok (.iaload, 1) := by decide +kernel
theorem dD_four_6 : decode cD_four 6 = .ok (.i2l, 1) := by decide +kernel
theorem dD_four_7 : decode cD_four 7 = .ok (.bipush 24, 2) := by decide +kernel
theorem dD_four_9 : decode cD_four 9 = .ok (.lshl, 1) := by decide +kernel
theorem dD_four_10 : decode cD_four 10 = .ok (.aload_n 0, 1) := by decide +kernel
theorem dD_four_11 : decode cD_four 11 = .ok (.getfield 60, 3) := by decide +kernel
theorem dD_four_14 : decode cD_four 14 = .ok (.iload_n 1, 1) := by decide +kernel
theorem dD_four_15 : decode cD_four 15 = .ok (.iconst 1, 1) := by decide +kernel
theorem dD_four_16 : decode cD_four 16 = .ok (.iadd, 1) := by decide +kernel
theorem dD_four_17 : decode cD_four 17 = .ok (.iaload, 1) := by decide +kernel
theorem dD_four_18 : decode cD_four 18 = .ok (.bipush 16, 2) := by decide +kernel
theorem dD_four_20 : decode cD_four 20 = .ok (.ishl, 1) := by decide +kernel
theorem dD_four_21 : decode cD_four 21 = .ok (.i2l, 1) := by decide +kernel
theorem dD_four_22 : decode cD_four 22 = .ok (.lor, 1) := by decide +kernel
theorem dD_four_23 : decode cD_four 23 = .ok (.aload_n 0, 1) := by decide +kernel
theorem dD_four_24 : decode cD_four 24 = .ok (.getfield 60, 3) := by decide +kernel
theorem dD_four_27 : decode cD_four 27 = .ok (.iload_n 1, 1) := by decide +kernel
theorem dD_four_28 : decode cD_four 28 = .ok (.iconst 2, 1) := by decide +kernel
theorem dD_four_29 : decode cD_four 29 = .ok (.iadd, 1) := by decide +kernel
theorem dD_four_30 : decode cD_four 30 = .ok (.iaload, 1) := by decide +kernel
theorem dD_four_31 : decode cD_four 31 = .ok (.bipush 8, 2) := by decide +kernel
theorem dD_four_33 : decode cD_four 33 = .ok (.ishl, 1) := by decide +kernel
theorem dD_four_34 : decode cD_four 34 = .ok (.i2l, 1) := by decide +kernel
theorem dD_four_35 : decode cD_four 35 = .ok (.lor, 1) := by decide +kernel
theorem dD_four_36 : decode cD_four 36 = .ok (.aload_n 0, 1) := by decide +kernel
theorem dD_four_37 : decode cD_four 37 = .ok (.getfield 60, 3) := by decide +kernel
theorem dD_four_40 : decode cD_four 40 = .ok (.iload_n 1, 1) := by decide +kernel
theorem dD_four_41 : decode cD_four 41 = .ok (.iconst 3, 1) := by decide +kernel
theorem dD_four_42 : decode cD_four 42 = .ok (.iadd, 1) := by decide +kernel
theorem dD_four_43 : decode cD_four 43 = .ok (.iaload, 1) := by decide +kernel
theorem dD_four_44 : decode cD_four 44 = .ok (.i2l, 1) := by decide +kernel
theorem dD_four_45 : decode cD_four 45 = .ok (.lor, 1) := by decide +kernel
theorem dD_four_46 : decode cD_four 46 = .ok (.lreturn, 1) := by decide +kernel
theorem dD_two_0 : decode cD_two 0 = .ok (.aload_n 0, 1) := by decide +kernel
theorem dD_two_1 : decode cD_two 1 = .ok (.getfield 60, 3) := by decide +kernel
theorem dD_two_4 : decode cD_two 4 = .ok (.iload_n 1, 1) := by decide +kernel
theorem dD_two_5 : decode cD_two 5 = .ok (.iaload, 1) := by decide +kernel
theorem dD_two_6 : decode cD_two 6 = .ok (.bipush 8, 2) := by decide +kernel
theorem dD_two_8 : decode cD_two 8 = .ok (.ishl, 1) := by decide +kernel
theorem dD_two_9 : decode cD_two 9 = .ok (.aload_n 0, 1) := by decide +kernel
theorem dD_two_10 : decode cD_two 10 = .ok (.getfield 60, 3) := by decide +kernel
theorem dD_two_13 : decode cD_two 13 = .ok (.iload_n 1, 1) := by decide +kernel
theorem dD_two_14 : decode cD_two 14 = .ok (.iconst 1, 1) := by decide +kernel
theorem dD_two_15 : decode cD_two 15 = .ok (.iadd, 1) := by decide +kernel
theorem dD_two_16 : decode cD_two 16 = .ok (.iaload, 1) := by decide +kernel
theorem dD_two_17 : decode cD_two 17 = .ok (.ior, 1) := by decide +kernel
theorem dD_two_18 : decode cD_two 18 = .ok (.ireturn, 1) := by decide +kernel
theorem dD_fails_0 : decode cD_fails 0 = .ok (.aload_n 0, 1) := by decide +kernel
theorem dD_fails_1 : decode cD_fails 1 = .ok (.aload_n 0, 1) := by decide +kernel
theorem dD_fails_2 : decode cD_fails 2 = .ok (.getfield 258, 3) := by decide +kernel
theorem dD_fails_5 : decode cD_fails 5 = .ok (.iconst (-1), 1) := by decide +kernel
theorem dD_fails_6 : decode cD_fails 6 = .ok (.if_icmp .ne 7, 3) := by decide +kernel
theorem dD_fails_9 : decode cD_fails 9 = .ok (.iload_n 1, 1) := by decide +kernel
theorem dD_fails_10 : decode cD_fails 10 = .ok (.goto 7, 3) := by decide +kernel
theorem dD_fails_13 : decode cD_fails 13 = .ok (.aload_n 0, 1) := by decide +kernel
theorem dD_fails_14 : decode cD_fails 14 = .ok (.getfield 258, 3) := by decide +kernel
theorem dD_fails_17 : decode cD_fails 17 = .ok (.putfield 258, 3) := by decide +kernel
theorem dD_fails_20 : decode cD_fails 20 = .ok (.iconst 0, 1) := by decide +kernel
theorem dD_fails_21 : decode cD_fails 21 = .ok (.ireturn, 1) := by decide +kernel
theorem dD_endOf_0 : decode cD_endOf 0 = .ok (.iload_n 2, 1) := by decide +kernel
theorem dD_endOf_1 : decode cD_endOf 1 = .ok (.iload_n 1, 1) := by decide +kernel
theorem dD_endOf_2 : decode cD_endOf 2 = .ok (.isub, 1) := by decide +kernel
theorem dD_endOf_3 : decode cD_endOf 3 = .ok (.bipush 8, 2) := by decide +kernel
theorem dD_endOf_5 : decode cD_endOf 5 = .ok (.if_icmp .ge 5, 3) := by decide +kernel
theorem dD_endOf_8 : decode cD_endOf 8 = .ok (.iconst (-1), 1) := by decide +kernel
theorem dD_endOf_9 : decode cD_endOf 9 = .ok (.ireturn, 1) := by decide +kernel
theorem dD_endOf_10 : decode cD_endOf 10 = .ok (.aload_n 0, 1) := by decide +kernel
theorem dD_endOf_11 : decode cD_endOf 11 = .ok (.iload_n 1, 1) := by decide +kernel
theorem dD_endOf_12 : decode cD_endOf 12 = .ok (.invokevirtual 261, 3) := by decide +kernel
theorem dD_endOf_15 : decode cD_endOf 15 = .ok (.lstore 4, 2) := by decide +kernel
theorem dD_endOf_17 : decode cD_endOf 17 = .ok (.aload_n 0, 1) := by decide +kernel
theorem dD_endOf_18 : decode cD_endOf 18 = .ok (.iload_n 1, 1) := by decide +kernel
theorem dD_endOf_19 : decode cD_endOf 19 = .ok (.iconst 4, 1) := by decide +kernel
theorem dD_endOf_20 : decode cD_endOf 20 = .ok (.iadd, 1) := by decide +kernel
theorem dD_endOf_21 : decode cD_endOf 21 = .ok (.invokevirtual 261, 3) := by decide +kernel
theorem dD_endOf_24 : decode cD_endOf 24 = .ok (.ldc2_w 265, 3) := by decide +kernel
theorem dD_endOf_27 : decode cD_endOf 27 = .ok (.lcmp, 1) := by decide +kernel
theorem dD_endOf_28 : decode cD_endOf 28 = .ok (.ifCond .ne 11, 3) := by decide +kernel
theorem dD_endOf_31 : decode cD_endOf 31 = .ok (.iload_n 3, 1) := by decide +kernel
theorem dD_endOf_32 : decode cD_endOf 32 = .ok (.ifCond .ne 7, 3) := by decide +kernel
theorem dD_endOf_35 : decode cD_endOf 35 = .ok (.iconst 1, 1) := by decide +kernel
theorem dD_endOf_36 : decode cD_endOf 36 = .ok (.goto 4, 3) := by decide +kernel
theorem dD_endOf_39 : decode cD_endOf 39 = .ok (.iconst 0, 1) := by decide +kernel
theorem dD_endOf_40 : decode cD_endOf 40 = .ok (.istore 6, 2) := by decide +kernel
theorem dD_endOf_42 : decode cD_endOf 42 = .ok (.lload 4, 2) := by decide +kernel
theorem dD_endOf_44 : decode cD_endOf 44 = .ok (.lconst 0, 1) := by decide +kernel
theorem dD_endOf_45 : decode cD_endOf 45 = .ok (.lcmp, 1) := by decide +kernel
theorem dD_endOf_46 : decode cD_endOf 46 = .ok (.ifCond .eq 28, 3) := by decide +kernel
theorem dD_endOf_49 : decode cD_endOf 49 = .ok (.iload 6, 2) := by decide +kernel
theorem dD_endOf_51 : decode cD_endOf 51 = .ok (.ifCond .eq 25, 3) := by decide +kernel
theorem dD_endOf_54 : decode cD_endOf 54 = .ok (.lload 4, 2) := by decide +kernel
theorem dD_endOf_56 : decode cD_endOf 56 = .ok (.ldc2_w 267, 3) := by decide +kernel
theorem dD_endOf_59 : decode cD_endOf 59 = .ok (.lcmp, 1) := by decide +kernel
theorem dD_endOf_60 : decode cD_endOf 60 = .ok (.ifCond .lt 16, 3) := by decide +kernel
theorem dD_endOf_63 : decode cD_endOf 63 = .ok (.iload_n 1, 1) := by decide +kernel
theorem dD_endOf_64 : decode cD_endOf 64 = .ok (.i2l, 1) := by decide +kernel
theorem dD_endOf_65 : decode cD_endOf 65 = .ok (.lload 4, 2) := by decide +kernel
theorem dD_endOf_67 : decode cD_endOf 67 = .ok (.ladd, 1) := by decide +kernel
theorem dD_endOf_68 : decode cD_endOf 68 = .ok (.iload_n 2, 1) := by decide +kernel
theorem dD_endOf_69 : decode cD_endOf 69 = .ok (.i2l, 1) := by decide +kernel
theorem dD_endOf_70 : decode cD_endOf 70 = .ok (.lcmp, 1) := by decide +kernel
theorem dD_endOf_71 : decode cD_endOf 71 = .ok (.ifCond .le 5, 3) := by decide +kernel
theorem dD_endOf_74 : decode cD_endOf 74 = .ok (.iload_n 2, 1) := by decide +kernel
theorem dD_endOf_75 : decode cD_endOf 75 = .ok (.ireturn, 1) := by decide +kernel
theorem dD_endOf_76 : decode cD_endOf 76 = .ok (.lload 4, 2) := by decide +kernel
theorem dD_endOf_78 : decode cD_endOf 78 = .ok (.ldc2_w 267, 3) := by decide +kernel
theorem dD_endOf_81 : decode cD_endOf 81 = .ok (.lcmp, 1) := by decide +kernel
theorem dD_endOf_82 : decode cD_endOf 82 = .ok (.ifCond .lt 14, 3) := by decide +kernel
theorem dD_endOf_85 : decode cD_endOf 85 = .ok (.iload_n 1, 1) := by decide +kernel
theorem dD_endOf_86 : decode cD_endOf 86 = .ok (.i2l, 1) := by decide +kernel
theorem dD_endOf_87 : decode cD_endOf 87 = .ok (.lload 4, 2) := by decide +kernel
theorem dD_endOf_89 : decode cD_endOf 89 = .ok (.ladd, 1) := by decide +kernel
theorem dD_endOf_90 : decode cD_endOf 90 = .ok (.iload_n 2, 1) := by decide +kernel
theorem dD_endOf_91 : decode cD_endOf 91 = .ok (.i2l, 1) := by decide +kernel
theorem dD_endOf_92 : decode cD_endOf 92 = .ok (.lcmp, 1) := by decide +kernel
theorem dD_endOf_93 : decode cD_endOf 93 = .ok (.ifCond .le 7, 3) := by decide +kernel
theorem dD_endOf_96 : decode cD_endOf 96 = .ok (.iconst (-1), 1) := by decide +kernel
theorem dD_endOf_97 : decode cD_endOf 97 = .ok (.goto 9, 3) := by decide +kernel
theorem dD_endOf_100 : decode cD_endOf 100 = .ok (.iload_n 1, 1) := by decide +kernel
theorem dD_endOf_101 : decode cD_endOf 101 = .ok (.i2l, 1) := by decide +kernel
theorem dD_endOf_102 : decode cD_endOf 102 = .ok (.lload 4, 2) := by decide +kernel
theorem dD_endOf_104 : decode cD_endOf 104 = .ok (.ladd, 1) := by decide +kernel
theorem dD_endOf_105 : decode cD_endOf 105 = .ok (.l2i, 1) := by decide +kernel
theorem dD_endOf_106 : decode cD_endOf 106 = .ok (.ireturn, 1) := by decide +kernel
theorem dD_keepUnknown_0 : decode cD_keepUnknown 0 = .ok (.aload_n 0, 1) := by decide +kernel
theorem dD_keepUnknown_1 : decode cD_keepUnknown 1 = .ok (.getfield 63, 3) := by decide +kernel
theorem dD_keepUnknown_4 : decode cD_keepUnknown 4 = .ok (.aload_n 0, 1) := by decide +kernel
theorem dD_keepUnknown_5 : decode cD_keepUnknown 5 = .ok (.getfield 269, 3) := by decide +kernel
theorem dD_keepUnknown_8 : decode cD_keepUnknown 8 = .ok (.iload_n 1, 1) := by decide +kernel
theorem dD_keepUnknown_9 : decode cD_keepUnknown 9 = .ok (.iastore, 1) := by decide +kernel
theorem dD_keepUnknown_10 : decode cD_keepUnknown 10 = .ok (.aload_n 0, 1) := by decide +kernel
theorem dD_keepUnknown_11 : decode cD_keepUnknown 11 = .ok (.getfield 66, 3) := by decide +kernel
theorem dD_keepUnknown_14 : decode cD_keepUnknown 14 = .ok (.aload_n 0, 1) := by decide +kernel
theorem dD_keepUnknown_15 : decode cD_keepUnknown 15 = .ok (.getfield 269, 3) := by decide +kernel
theorem dD_keepUnknown_18 : decode cD_keepUnknown 18 = .ok (.iload_n 2, 1) := by decide +kernel
theorem dD_keepUnknown_19 : decode cD_keepUnknown 19 = .ok (.iload_n 1, 1) := by decide +kernel
theorem dD_keepUnknown_20 : decode cD_keepUnknown 20 = .ok (.isub, 1) := by decide +kernel
theorem dD_keepUnknown_21 : decode cD_keepUnknown 21 = .ok (.bipush 8, 2) := by decide +kernel
theorem dD_keepUnknown_23 : decode cD_keepUnknown 23 = .ok (.isub, 1) := by decide +kernel
theorem dD_keepUnknown_24 : decode cD_keepUnknown 24 = .ok (.iastore, 1) := by decide +kernel
theorem dD_keepUnknown_25 : decode cD_keepUnknown 25 = .ok (.aload_n 0, 1) := by decide +kernel
theorem dD_keepUnknown_26 : decode cD_keepUnknown 26 = .ok (.dup, 1) := by decide +kernel
theorem dD_keepUnknown_27 : decode cD_keepUnknown 27 = .ok (.getfield 269, 3) := by decide +kernel
theorem dD_keepUnknown_30 : decode cD_keepUnknown 30 = .ok (.iconst 1, 1) := by decide +kernel
theorem dD_keepUnknown_31 : decode cD_keepUnknown 31 = .ok (.iadd, 1) := by decide +kernel
theorem dD_keepUnknown_32 : decode cD_keepUnknown 32 = .ok (.putfield 269, 3) := by decide +kernel
theorem dD_keepUnknown_35 : decode cD_keepUnknown 35 = .ok (.return_, 1) := by decide +kernel
theorem dD_readInside_0 : decode cD_readInside 0 = .ok (.iload_n 1, 1) := by decide +kernel
theorem dD_readInside_1 : decode cD_readInside 1 = .ok (.istore_n 3, 1) := by decide +kernel
theorem dD_readInside_2 : decode cD_readInside 2 = .ok (.iconst 1, 1) := by decide +kernel
theorem dD_readInside_3 : decode cD_readInside 3 = .ok (.istore 4, 2) := by decide +kernel
theorem dD_readInside_5 : decode cD_readInside 5 = .ok (.iload 4, 2) := by decide +kernel
theorem dD_readInside_7 : decode cD_readInside 7 = .ok (.ifCond .ne 8, 3) := by decide +kernel
theorem dD_readInside_10 : decode cD_readInside 10 = .ok (.iload_n 3, 1) := by decide +kernel
theorem dD_readInside_11 : decode cD_readInside 11 = .ok (.iload_n 2, 1) := by decide +kernel
theorem dD_readInside_12 : decode cD_readInside 12 = .ok (.if_icmp .ge 137, 3) := by decide +kernel
theorem dD_readInside_15 : decode cD_readInside 15 = .ok (.aload_n 0, 1) := by decide +kernel
theorem dD_readInside_16 : decode cD_readInside 16 = .ok (.iload_n 3, 1) := by decide +kernel
theorem dD_readInside_17 : decode cD_readInside 17 = .ok (.iload_n 2, 1) := by decide +kernel
theorem dD_readInside_18 : decode cD_readInside 18 = .ok (.iconst 1, 1) := by decide +kernel
theorem dD_readInside_19 : decode cD_readInside 19 = .ok (.invokevirtual 272, 3) := by decide +kernel
theorem dD_readInside_22 : decode cD_readInside 22 = .ok (.istore 5, 2) := by decide +kernel
theorem dD_readInside_24 : decode cD_readInside 24 = .ok (.iload 5, 2) := by decide +kernel
theorem dD_readInside_26 : decode cD_readInside 26 = .ok (.iconst (-1), 1) := by decide +kernel
theorem dD_readInside_27 : decode cD_readInside 27 = .ok (.if_icmp .eq 31, 3) := by decide +kernel
theorem dD_readInside_30 : decode cD_readInside 30 = .ok (.iload 4, 2) := by decide +kernel
theorem dD_readInside_32 : decode cD_readInside 32 = .ok (.ifCond .eq 32, 3) := by decide +kernel
theorem dD_readInside_35 : decode cD_readInside 35 = .ok (.aload_n 0, 1) := by decide +kernel
theorem dD_readInside_36 : decode cD_readInside 36 = .ok (.iload_n 3, 1) := by decide +kernel
theorem dD_readInside_37 : decode cD_readInside 37 = .ok (.iconst 4, 1) := by decide +kernel
theorem dD_readInside_38 : decode cD_readInside 38 = .ok (.iadd, 1) := by decide +kernel
theorem dD_readInside_39 : decode cD_readInside 39 = .ok (.invokevirtual 261, 3) := by decide +kernel
theorem dD_readInside_42 : decode cD_readInside 42 = .ok (.ldc2_w 276, 3) := by decide +kernel
theorem dD_readInside_45 : decode cD_readInside 45 = .ok (.lcmp, 1) := by decide +kernel
theorem dD_readInside_46 : decode cD_readInside 46 = .ok (.ifCond .ne 12, 3) := by decide +kernel
theorem dD_readInside_49 : decode cD_readInside 49 = .ok (.iload 5, 2) := by decide +kernel
theorem dD_readInside_51 : decode cD_readInside 51 = .ok (.iload_n 3, 1) := by decide +kernel
theorem dD_readInside_52 : decode cD_readInside 52 = .ok (.isub, 1) := by decide +kernel
theorem dD_readInside_53 : decode cD_readInside 53 = .ok (.bipush 22, 2) := by decide +kernel
theorem dD_readInside_55 : decode cD_readInside 55 = .ok (.if_icmp .eq 9, 3) := by decide +kernel
theorem dD_readInside_58 : decode cD_readInside 58 = .ok (.aload_n 0, 1) := by decide +kernel
theorem dD_readInside_59 : decode cD_readInside 59 = .ok (.iload_n 3, 1) := by decide +kernel
theorem dD_readInside_60 : decode cD_readInside 60 = .ok (.invokevirtual 278, 3) := by decide +kernel
theorem dD_readInside_63 : decode cD_readInside 63 = .ok (.ireturn, 1) := by decide +kernel
theorem dD_readInside_64 : decode cD_readInside 64 = .ok (.aload_n 0, 1) := by decide +kernel
theorem dD_readInside_65 : decode cD_readInside 65 = .ok (.iload_n 3, 1) := by decide +kernel
theorem dD_readInside_66 : decode cD_readInside 66 = .ok (.iconst 4, 1) := by decide +kernel
theorem dD_readInside_67 : decode cD_readInside 67 = .ok (.iadd, 1) := by decide +kernel
theorem dD_readInside_68 : decode cD_readInside 68 = .ok (.invokevirtual 261, 3) := by decide +kernel
theorem dD_readInside_71 : decode cD_readInside 71 = .ok (.ldc2_w 281, 3) := by decide +kernel
theorem dD_readInside_74 : decode cD_readInside 74 = .ok (.lcmp, 1) := by decide +kernel
theorem dD_readInside_75 : decode cD_readInside 75 = .ok (.ifCond .ne 29, 3) := by decide +kernel
theorem dD_readInside_78 : decode cD_readInside 78 = .ok (.iload 5, 2) := by decide +kernel
theorem dD_readInside_80 : decode cD_readInside 80 = .ok (.iload_n 3, 1) := by decide +kernel
theorem dD_readInside_81 : decode cD_readInside 81 = .ok (.isub, 1) := by decide +kernel
theorem dD_readInside_82 : decode cD_readInside 82 = .ok (.bipush 15, 2) := by decide +kernel
theorem dD_readInside_84 : decode cD_readInside 84 = .ok (.if_icmp .lt 20, 3) := by decide +kernel
theorem dD_readInside_87 : decode cD_readInside 87 = .ok (.aload_n 0, 1) := by decide +kernel
theorem dD_readInside_88 : decode cD_readInside 88 = .ok (.getfield 60, 3) := by decide +kernel
theorem dD_readInside_91 : decode cD_readInside 91 = .ok (.iload_n 3, 1) := by decide +kernel
theorem dD_readInside_92 : decode cD_readInside 92 = .ok (.bipush 8, 2) := by decide +kernel
theorem dD_readInside_94 : decode cD_readInside 94 = .ok (.iadd, 1) := by decide +kernel
theorem dD_readInside_95 : decode cD_readInside 95 = .ok (.iaload, 1) := by decide +kernel
theorem dD_readInside_96 : decode cD_readInside 96 = .ok (.iconst 1, 1) := by decide +kernel
theorem dD_readInside_97 : decode cD_readInside 97 = .ok (.if_icmp .ne 7, 3) := by decide +kernel
theorem dD_readInside_100 : decode cD_readInside 100 = .ok (.iconst 1, 1) := by decide +kernel
theorem dD_readInside_101 : decode cD_readInside 101 = .ok (.goto 4, 3) := by decide +kernel
theorem dD_readInside_104 : decode cD_readInside 104 = .ok (.iconst 0, 1) := by decide +kernel
theorem dD_readInside_105 : decode cD_readInside 105 = .ok (.istore 6, 2) := by decide +kernel
theorem dD_readInside_107 : decode cD_readInside 107 = .ok (.iload 6, 2) := by decide +kernel
theorem dD_readInside_109 : decode cD_readInside 109 = .ok (.ifCond .eq 19, 3) := by decide +kernel
theorem dD_readInside_112 : decode cD_readInside 112 = .ok (.aload_n 0, 1) := by decide +kernel
theorem dD_readInside_113 : decode cD_readInside 113 = .ok (.aload_n 0, 1) := by decide +kernel
theorem dD_readInside_114 : decode cD_readInside 114 = .ok (.iload_n 3, 1) := by decide +kernel
theorem dD_readInside_115 : decode cD_readInside 115 = .ok (.bipush 11, 2) := by decide +kernel
theorem dD_readInside_117 : decode cD_readInside 117 = .ok (.iadd, 1) := by decide +kernel
theorem dD_readInside_118 : decode cD_readInside 118 = .ok (.invokevirtual 261, 3) := by decide +kernel
theorem dD_readInside_121 : decode cD_readInside 121 = .ok (.l2i, 1) := by decide +kernel
theorem dD_readInside_122 : decode cD_readInside 122 = .ok (.putfield 283, 3) := by decide +kernel
theorem dD_readInside_125 : decode cD_readInside 125 = .ok (.goto 15, 3) := by decide +kernel
theorem dD_readInside_128 : decode cD_readInside 128 = .ok (.iload 4, 2) := by decide +kernel
theorem dD_readInside_130 : decode cD_readInside 130 = .ok (.ifCond .ne 10, 3) := by decide +kernel
theorem dD_readInside_133 : decode cD_readInside 133 = .ok (.aload_n 0, 1) := by decide +kernel
theorem dD_readInside_134 : decode cD_readInside 134 = .ok (.iload_n 3, 1) := by decide +kernel
theorem dD_readInside_135 : decode cD_readInside 135 = .ok (.iload 5, 2) := by decide +kernel
theorem dD_readInside_137 : decode cD_readInside 137 = .ok (.invokevirtual 286, 3) := by decide +kernel
theorem dD_readInside_140 : decode cD_readInside 140 = .ok (.iconst 0, 1) := by decide +kernel
theorem dD_readInside_141 : decode cD_readInside 141 = .ok (.istore 4, 2) := by decide +kernel
theorem dD_readInside_143 : decode cD_readInside 143 = .ok (.iload 5, 2) := by decide +kernel
theorem dD_readInside_145 : decode cD_readInside 145 = .ok (.istore_n 3, 1) := by decide +kernel
theorem dD_readInside_146 : decode cD_readInside 146 = .ok (.goto (-141), 3) := by decide +kernel
theorem dD_readInside_149 : decode cD_readInside 149 = .ok (.iconst 1, 1) := by decide +kernel
theorem dD_readInside_150 : decode cD_readInside 150 = .ok (.ireturn, 1) := by decide +kernel
theorem dD_isFirstRight_0 : decode cD_isFirstRight 0 = .ok (.aload_n 0, 1) := by decide +kernel
theorem dD_isFirstRight_1 : decode cD_isFirstRight 1 = .ok (.getfield 289, 3) := by decide +kernel
theorem dD_isFirstRight_4 : decode cD_isFirstRight 4 = .ok (.bipush 12, 2) := by decide +kernel
theorem dD_isFirstRight_6 : decode cD_isFirstRight 6 = .ok (.if_icmp .lt 44, 3) := by decide +kernel
theorem dD_isFirstRight_9 : decode cD_isFirstRight 9 = .ok (.aload_n 0, 1) := by decide +kernel
theorem dD_isFirstRight_10 : decode cD_isFirstRight 10 = .ok (.iconst 0, 1) := by decide +kernel
theorem dD_isFirstRight_11 : decode cD_isFirstRight 11 = .ok (.invokevirtual 261, 3) := by decide +kernel
theorem dD_isFirstRight_14 : decode cD_isFirstRight 14 = .ok (.ldc2_w 292, 3) := by decide +kernel
theorem dD_isFirstRight_17 : decode cD_isFirstRight 17 = .ok (.lcmp, 1) := by decide +kernel
theorem dD_isFirstRight_18 : decode cD_isFirstRight 18 = .ok (.ifCond .ne 32, 3) := by decide +kernel
theorem dD_isFirstRight_21 : decode cD_isFirstRight 21 = .ok (.aload_n 0, 1) := by decide +kernel
theorem dD_isFirstRight_22 : decode cD_isFirstRight 22 = .ok (.iconst 4, 1) := by decide +kernel
theorem dD_isFirstRight_23 : decode cD_isFirstRight 23 = .ok (.invokevirtual 261, 3) := by decide +kernel
theorem dD_isFirstRight_26 : decode cD_isFirstRight 26 = .ok (.ldc2_w 294, 3) := by decide +kernel
theorem dD_isFirstRight_29 : decode cD_isFirstRight 29 = .ok (.lcmp, 1) := by decide +kernel
theorem dD_isFirstRight_30 : decode cD_isFirstRight 30 = .ok (.ifCond .ne 20, 3) := by decide +kernel
theorem dD_isFirstRight_33 : decode cD_isFirstRight 33 = .ok (.aload_n 0, 1) := by decide +kernel
theorem dD_isFirstRight_34 : decode cD_isFirstRight 34 = .ok (.bipush 8, 2) := by decide +kernel
theorem dD_isFirstRight_36 : decode cD_isFirstRight 36 = .ok (.invokevirtual 261, 3) := by decide +kernel
theorem dD_isFirstRight_39 : decode cD_isFirstRight 39 = .ok (.ldc2_w 296, 3) := by decide +kernel
theorem dD_isFirstRight_42 : decode cD_isFirstRight 42 = .ok (.lcmp, 1) := by decide +kernel
theorem dD_isFirstRight_43 : decode cD_isFirstRight 43 = .ok (.ifCond .ne 7, 3) := by decide +kernel
theorem dD_isFirstRight_46 : decode cD_isFirstRight 46 = .ok (.iconst 1, 1) := by decide +kernel
theorem dD_isFirstRight_47 : decode cD_isFirstRight 47 = .ok (.goto 4, 3) := by decide +kernel
theorem dD_isFirstRight_50 : decode cD_isFirstRight 50 = .ok (.iconst 0, 1) := by decide +kernel
theorem dD_isFirstRight_51 : decode cD_isFirstRight 51 = .ok (.ireturn, 1) := by decide +kernel
theorem dD_readBoxes_0 : decode cD_readBoxes 0 = .ok (.aload_n 0, 1) := by decide +kernel
theorem dD_readBoxes_1 : decode cD_readBoxes 1 = .ok (.invokevirtual 298, 3) := by decide +kernel
theorem dD_readBoxes_4 : decode cD_readBoxes 4 = .ok (.ifCond .ne 9, 3) := by decide +kernel
theorem dD_readBoxes_7 : decode cD_readBoxes 7 = .ok (.aload_n 0, 1) := by decide +kernel
theorem dD_readBoxes_8 : decode cD_readBoxes 8 = .ok (.iconst 0, 1) := by decide +kernel
theorem dD_readBoxes_9 : decode cD_readBoxes 9 = .ok (.invokevirtual 278, 3) := by decide +kernel
theorem dD_readBoxes_12 : decode cD_readBoxes 12 = .ok (.ireturn, 1) := by decide +kernel
theorem dD_readBoxes_13 : decode cD_readBoxes 13 = .ok (.bipush 12, 2) := by decide +kernel
theorem dD_readBoxes_15 : decode cD_readBoxes 15 = .ok (.istore_n 1, 1) := by decide +kernel
theorem dD_readBoxes_16 : decode cD_readBoxes 16 = .ok (.iload_n 1, 1) := by decide +kernel
theorem dD_readBoxes_17 : decode cD_readBoxes 17 = .ok (.aload_n 0, 1) := by decide +kernel
theorem dD_readBoxes_18 : decode cD_readBoxes 18 = .ok (.getfield 289, 3) := by decide +kernel
theorem dD_readBoxes_21 : decode cD_readBoxes 21 = .ok (.if_icmp .ge 97, 3) := by decide +kernel
theorem dD_readBoxes_24 : decode cD_readBoxes 24 = .ok (.aload_n 0, 1) := by decide +kernel
theorem dD_readBoxes_25 : decode cD_readBoxes 25 = .ok (.iload_n 1, 1) := by decide +kernel
theorem dD_readBoxes_26 : decode cD_readBoxes 26 = .ok (.aload_n 0, 1) := by decide +kernel
theorem dD_readBoxes_27 : decode cD_readBoxes 27 = .ok (.getfield 289, 3) := by decide +kernel
theorem dD_readBoxes_30 : decode cD_readBoxes 30 = .ok (.iconst 0, 1) := by decide +kernel
theorem dD_readBoxes_31 : decode cD_readBoxes 31 = .ok (.invokevirtual 272, 3) := by decide +kernel
theorem dD_readBoxes_34 : decode cD_readBoxes 34 = .ok (.istore_n 2, 1) := by decide +kernel
theorem dD_readBoxes_35 : decode cD_readBoxes 35 = .ok (.iload_n 2, 1) := by decide +kernel
theorem dD_readBoxes_36 : decode cD_readBoxes 36 = .ok (.iconst (-1), 1) := by decide +kernel
theorem dD_readBoxes_37 : decode cD_readBoxes 37 = .ok (.if_icmp .ne 9, 3) := by decide +kernel
theorem dD_readBoxes_40 : decode cD_readBoxes 40 = .ok (.aload_n 0, 1) := by decide +kernel
theorem dD_readBoxes_41 : decode cD_readBoxes 41 = .ok (.iload_n 1, 1) := by decide +kernel
theorem dD_readBoxes_42 : decode cD_readBoxes 42 = .ok (.invokevirtual 278, 3) := by decide +kernel
theorem dD_readBoxes_45 : decode cD_readBoxes 45 = .ok (.ireturn, 1) := by decide +kernel
theorem dD_readBoxes_46 : decode cD_readBoxes 46 = .ok (.aload_n 0, 1) := by decide +kernel
theorem dD_readBoxes_47 : decode cD_readBoxes 47 = .ok (.iload_n 1, 1) := by decide +kernel
theorem dD_readBoxes_48 : decode cD_readBoxes 48 = .ok (.iconst 4, 1) := by decide +kernel
theorem dD_readBoxes_49 : decode cD_readBoxes 49 = .ok (.iadd, 1) := by decide +kernel
theorem dD_readBoxes_50 : decode cD_readBoxes 50 = .ok (.invokevirtual 261, 3) := by decide +kernel
theorem dD_readBoxes_53 : decode cD_readBoxes 53 = .ok (.lstore_n 3, 1) := by decide +kernel
theorem dD_readBoxes_54 : decode cD_readBoxes 54 = .ok (.lload_n 3, 1) := by decide +kernel
theorem dD_readBoxes_55 : decode cD_readBoxes 55 = .ok (.ldc2_w 265, 3) := by decide +kernel
theorem dD_readBoxes_58 : decode cD_readBoxes 58 = .ok (.lcmp, 1) := by decide +kernel
theorem dD_readBoxes_59 : decode cD_readBoxes 59 = .ok (.ifCond .ne 18, 3) := by decide +kernel
theorem dD_readBoxes_62 : decode cD_readBoxes 62 = .ok (.aload_n 0, 1) := by decide +kernel
theorem dD_readBoxes_63 : decode cD_readBoxes 63 = .ok (.iload_n 1, 1) := by decide +kernel
theorem dD_readBoxes_64 : decode cD_readBoxes 64 = .ok (.bipush 8, 2) := by decide +kernel
theorem dD_readBoxes_66 : decode cD_readBoxes 66 = .ok (.iadd, 1) := by decide +kernel
theorem dD_readBoxes_67 : decode cD_readBoxes 67 = .ok (.putfield 301, 3) := by decide +kernel
theorem dD_readBoxes_70 : decode cD_readBoxes 70 = .ok (.aload_n 0, 1) := by decide +kernel
theorem dD_readBoxes_71 : decode cD_readBoxes 71 = .ok (.iload_n 2, 1) := by decide +kernel
theorem dD_readBoxes_72 : decode cD_readBoxes 72 = .ok (.putfield 304, 3) := by decide +kernel
theorem dD_readBoxes_75 : decode cD_readBoxes 75 = .ok (.iconst 1, 1) := by decide +kernel
theorem dD_readBoxes_76 : decode cD_readBoxes 76 = .ok (.ireturn, 1) := by decide +kernel
theorem dD_readBoxes_77 : decode cD_readBoxes 77 = .ok (.lload_n 3, 1) := by decide +kernel
theorem dD_readBoxes_78 : decode cD_readBoxes 78 = .ok (.ldc2_w 307, 3) := by decide +kernel
theorem dD_readBoxes_81 : decode cD_readBoxes 81 = .ok (.lcmp, 1) := by decide +kernel
theorem dD_readBoxes_82 : decode cD_readBoxes 82 = .ok (.ifCond .ne 17, 3) := by decide +kernel
theorem dD_readBoxes_85 : decode cD_readBoxes 85 = .ok (.aload_n 0, 1) := by decide +kernel
theorem dD_readBoxes_86 : decode cD_readBoxes 86 = .ok (.iload_n 1, 1) := by decide +kernel
theorem dD_readBoxes_87 : decode cD_readBoxes 87 = .ok (.bipush 8, 2) := by decide +kernel
theorem dD_readBoxes_89 : decode cD_readBoxes 89 = .ok (.iadd, 1) := by decide +kernel
theorem dD_readBoxes_90 : decode cD_readBoxes 90 = .ok (.iload_n 2, 1) := by decide +kernel
theorem dD_readBoxes_91 : decode cD_readBoxes 91 = .ok (.invokevirtual 309, 3) := by decide +kernel
theorem dD_readBoxes_94 : decode cD_readBoxes 94 = .ok (.ifCond .ne 19, 3) := by decide +kernel
theorem dD_readBoxes_97 : decode cD_readBoxes 97 = .ok (.iconst 0, 1) := by decide +kernel
theorem dD_readBoxes_98 : decode cD_readBoxes 98 = .ok (.ireturn, 1) := by decide +kernel
theorem dD_readBoxes_99 : decode cD_readBoxes 99 = .ok (.lload_n 3, 1) := by decide +kernel
theorem dD_readBoxes_100 : decode cD_readBoxes 100 = .ok (.ldc2_w 312, 3) := by decide +kernel
theorem dD_readBoxes_103 : decode cD_readBoxes 103 = .ok (.lcmp, 1) := by decide +kernel
theorem dD_readBoxes_104 : decode cD_readBoxes 104 = .ok (.ifCond .eq 9, 3) := by decide +kernel
theorem dD_readBoxes_107 : decode cD_readBoxes 107 = .ok (.aload_n 0, 1) := by decide +kernel
theorem dD_readBoxes_108 : decode cD_readBoxes 108 = .ok (.iload_n 1, 1) := by decide +kernel
theorem dD_readBoxes_109 : decode cD_readBoxes 109 = .ok (.iload_n 2, 1) := by decide +kernel
theorem dD_readBoxes_110 : decode cD_readBoxes 110 = .ok (.invokevirtual 286, 3) := by decide +kernel
theorem dD_readBoxes_113 : decode cD_readBoxes 113 = .ok (.iload_n 2, 1) := by decide +kernel
theorem dD_readBoxes_114 : decode cD_readBoxes 114 = .ok (.istore_n 1, 1) := by decide +kernel
theorem dD_readBoxes_115 : decode cD_readBoxes 115 = .ok (.goto (-99), 3) := by decide +kernel
theorem dD_readBoxes_118 : decode cD_readBoxes 118 = .ok (.aload_n 0, 1) := by decide +kernel
theorem dD_readBoxes_119 : decode cD_readBoxes 119 = .ok (.aload_n 0, 1) := by decide +kernel
theorem dD_readBoxes_120 : decode cD_readBoxes 120 = .ok (.getfield 289, 3) := by decide +kernel
theorem dD_readBoxes_123 : decode cD_readBoxes 123 = .ok (.invokevirtual 278, 3) := by decide +kernel
theorem dD_readBoxes_126 : decode cD_readBoxes 126 = .ok (.ireturn, 1) := by decide +kernel
theorem dD_readSizes_0 : decode cD_readSizes 0 = .ok (.aload_n 0, 1) := by decide +kernel
theorem dD_readSizes_1 : decode cD_readSizes 1 = .ok (.getfield 304, 3) := by decide +kernel
theorem dD_readSizes_4 : decode cD_readSizes 4 = .ok (.aload_n 0, 1) := by decide +kernel
theorem dD_readSizes_5 : decode cD_readSizes 5 = .ok (.getfield 301, 3) := by decide +kernel
theorem dD_readSizes_8 : decode cD_readSizes 8 = .ok (.isub, 1) := by decide +kernel
theorem dD_readSizes_9 : decode cD_readSizes 9 = .ok (.iconst 4, 1) := by decide +kernel
theorem dD_readSizes_10 : decode cD_readSizes 10 = .ok (.if_icmp .lt 34, 3) := by decide +kernel
theorem dD_readSizes_13 : decode cD_readSizes 13 = .ok (.aload_n 0, 1) := by decide +kernel
theorem dD_readSizes_14 : decode cD_readSizes 14 = .ok (.getfield 60, 3) := by decide +kernel
theorem dD_readSizes_17 : decode cD_readSizes 17 = .ok (.aload_n 0, 1) := by decide +kernel
theorem dD_readSizes_18 : decode cD_readSizes 18 = .ok (.getfield 301, 3) := by decide +kernel
theorem dD_readSizes_21 : decode cD_readSizes 21 = .ok (.iaload, 1) := by decide +kernel
theorem dD_readSizes_22 : decode cD_readSizes 22 = .ok (.sipush 255, 3) := by decide +kernel
theorem dD_readSizes_25 : decode cD_readSizes 25 = .ok (.if_icmp .ne 19, 3) := by decide +kernel
theorem dD_readSizes_28 : decode cD_readSizes 28 = .ok (.aload_n 0, 1) := by decide +kernel
theorem dD_readSizes_29 : decode cD_readSizes 29 = .ok (.getfield 60, 3) := by decide +kernel
theorem dD_readSizes_32 : decode cD_readSizes 32 = .ok (.aload_n 0, 1) := by decide +kernel
theorem dD_readSizes_33 : decode cD_readSizes 33 = .ok (.getfield 301, 3) := by decide +kernel
theorem dD_readSizes_36 : decode cD_readSizes 36 = .ok (.iconst 1, 1) := by decide +kernel
theorem dD_readSizes_37 : decode cD_readSizes 37 = .ok (.iadd, 1) := by decide +kernel
theorem dD_readSizes_38 : decode cD_readSizes 38 = .ok (.iaload, 1) := by decide +kernel
theorem dD_readSizes_39 : decode cD_readSizes 39 = .ok (.bipush 81, 2) := by decide +kernel
theorem dD_readSizes_41 : decode cD_readSizes 41 = .ok (.if_icmp .eq 12, 3) := by decide +kernel
theorem dD_readSizes_44 : decode cD_readSizes 44 = .ok (.aload_n 0, 1) := by decide +kernel
theorem dD_readSizes_45 : decode cD_readSizes 45 = .ok (.aload_n 0, 1) := by decide +kernel
theorem dD_readSizes_46 : decode cD_readSizes 46 = .ok (.getfield 301, 3) := by decide +kernel
theorem dD_readSizes_49 : decode cD_readSizes 49 = .ok (.invokevirtual 278, 3) := by decide +kernel
theorem dD_readSizes_52 : decode cD_readSizes 52 = .ok (.ireturn, 1) := by decide +kernel
theorem dD_readSizes_53 : decode cD_readSizes 53 = .ok (.aload_n 0, 1) := by decide +kernel
theorem dD_readSizes_54 : decode cD_readSizes 54 = .ok (.aload_n 0, 1) := by decide +kernel
theorem dD_readSizes_55 : decode cD_readSizes 55 = .ok (.getfield 301, 3) := by decide +kernel
theorem dD_readSizes_58 : decode cD_readSizes 58 = .ok (.iconst 2, 1) := by decide +kernel
theorem dD_readSizes_59 : decode cD_readSizes 59 = .ok (.iadd, 1) := by decide +kernel
theorem dD_readSizes_60 : decode cD_readSizes 60 = .ok (.invokevirtual 314, 3) := by decide +kernel
theorem dD_readSizes_63 : decode cD_readSizes 63 = .ok (.istore_n 1, 1) := by decide +kernel
theorem dD_readSizes_64 : decode cD_readSizes 64 = .ok (.iload_n 1, 1) := by decide +kernel
theorem dD_readSizes_65 : decode cD_readSizes 65 = .ok (.bipush 41, 2) := by decide +kernel
theorem dD_readSizes_67 : decode cD_readSizes 67 = .ok (.if_icmp .lt 18, 3) := by decide +kernel
theorem dD_readSizes_70 : decode cD_readSizes 70 = .ok (.aload_n 0, 1) := by decide +kernel
theorem dD_readSizes_71 : decode cD_readSizes 71 = .ok (.getfield 301, 3) := by decide +kernel
theorem dD_readSizes_74 : decode cD_readSizes 74 = .ok (.iconst 2, 1) := by decide +kernel
theorem dD_readSizes_75 : decode cD_readSizes 75 = .ok (.iadd, 1) := by decide +kernel
theorem dD_readSizes_76 : decode cD_readSizes 76 = .ok (.iload_n 1, 1) := by decide +kernel
theorem dD_readSizes_77 : decode cD_readSizes 77 = .ok (.iadd, 1) := by decide +kernel
theorem dD_readSizes_78 : decode cD_readSizes 78 = .ok (.aload_n 0, 1) := by decide +kernel
theorem dD_readSizes_79 : decode cD_readSizes 79 = .ok (.getfield 304, 3) := by decide +kernel
theorem dD_readSizes_82 : decode cD_readSizes 82 = .ok (.if_icmp .le 12, 3) := by decide +kernel
theorem dD_readSizes_85 : decode cD_readSizes 85 = .ok (.aload_n 0, 1) := by decide +kernel
theorem dD_readSizes_86 : decode cD_readSizes 86 = .ok (.aload_n 0, 1) := by decide +kernel
theorem dD_readSizes_87 : decode cD_readSizes 87 = .ok (.getfield 301, 3) := by decide +kernel
theorem dD_readSizes_90 : decode cD_readSizes 90 = .ok (.invokevirtual 278, 3) := by decide +kernel
theorem dD_readSizes_93 : decode cD_readSizes 93 = .ok (.ireturn, 1) := by decide +kernel
theorem dD_readSizes_94 : decode cD_readSizes 94 = .ok (.aload_n 0, 1) := by decide +kernel
theorem dD_readSizes_95 : decode cD_readSizes 95 = .ok (.getfield 301, 3) := by decide +kernel
theorem dD_readSizes_98 : decode cD_readSizes 98 = .ok (.iconst 4, 1) := by decide +kernel
theorem dD_readSizes_99 : decode cD_readSizes 99 = .ok (.iadd, 1) := by decide +kernel
theorem dD_readSizes_100 : decode cD_readSizes 100 = .ok (.istore_n 2, 1) := by decide +kernel
theorem dD_readSizes_101 : decode cD_readSizes 101 = .ok (.aload_n 0, 1) := by decide +kernel
theorem dD_readSizes_102 : decode cD_readSizes 102 = .ok (.iload_n 2, 1) := by decide +kernel
theorem dD_readSizes_103 : decode cD_readSizes 103 = .ok (.bipush 34, 2) := by decide +kernel
theorem dD_readSizes_105 : decode cD_readSizes 105 = .ok (.iadd, 1) := by decide +kernel
theorem dD_readSizes_106 : decode cD_readSizes 106 = .ok (.invokevirtual 314, 3) := by decide +kernel
theorem dD_readSizes_109 : decode cD_readSizes 109 = .ok (.istore_n 3, 1) := by decide +kernel
theorem dD_readSizes_110 : decode cD_readSizes 110 = .ok (.iload_n 1, 1) := by decide +kernel
theorem dD_readSizes_111 : decode cD_readSizes 111 = .ok (.bipush 38, 2) := by decide +kernel
theorem dD_readSizes_113 : decode cD_readSizes 113 = .ok (.iconst 3, 1) := by decide +kernel
theorem dD_readSizes_114 : decode cD_readSizes 114 = .ok (.iload_n 3, 1) := by decide +kernel
theorem dD_readSizes_115 : decode cD_readSizes 115 = .ok (.imul, 1) := by decide +kernel
theorem dD_readSizes_116 : decode cD_readSizes 116 = .ok (.iadd, 1) := by decide +kernel
theorem dD_readSizes_117 : decode cD_readSizes 117 = .ok (.if_icmp .ne 27, 3) := by decide +kernel
theorem dD_readSizes_120 : decode cD_readSizes 120 = .ok (.iload_n 3, 1) := by decide +kernel
theorem dD_readSizes_121 : decode cD_readSizes 121 = .ok (.i2l, 1) := by decide +kernel
theorem dD_readSizes_122 : decode cD_readSizes 122 = .ok (.lconst 1, 1) := by decide +kernel
theorem dD_readSizes_123 : decode cD_readSizes 123 = .ok (.ldc2_w 150, 3) := by decide +kernel
theorem dD_readSizes_126 : decode cD_readSizes 126 = .ok (.invokestatic 135, 3) := by decide +kernel
theorem dD_readSizes_129 : decode cD_readSizes 129 = .ok (.ifCond .eq 15, 3) := by decide +kernel
theorem dD_readSizes_132 : decode cD_readSizes 132 = .ok (.aload_n 0, 1) := by decide +kernel
theorem dD_readSizes_133 : decode cD_readSizes 133 = .ok (.iload_n 2, 1) := by decide +kernel
theorem dD_readSizes_134 : decode cD_readSizes 134 = .ok (.invokevirtual 314, 3) := by decide +kernel
theorem dD_readSizes_137 : decode cD_readSizes 137 = .ok (.ifCond .ne 7, 3) := by decide +kernel
theorem dD_readSizes_140 : decode cD_readSizes 140 = .ok (.iconst 1, 1) := by decide +kernel
theorem dD_readSizes_141 : decode cD_readSizes 141 = .ok (.goto 4, 3) := by decide +kernel
theorem dD_readSizes_144 : decode cD_readSizes 144 = .ok (.iconst 0, 1) := by decide +kernel
theorem dD_readSizes_145 : decode cD_readSizes 145 = .ok (.istore 4, 2) := by decide +kernel
theorem dD_readSizes_147 : decode cD_readSizes 147 = .ok (.iload 4, 2) := by decide +kernel
theorem dD_readSizes_149 : decode cD_readSizes 149 = .ok (.ifCond .eq 68, 3) := by decide +kernel
theorem dD_readSizes_152 : decode cD_readSizes 152 = .ok (.aload_n 0, 1) := by decide +kernel
theorem dD_readSizes_153 : decode cD_readSizes 153 = .ok (.iload_n 2, 1) := by decide +kernel
theorem dD_readSizes_154 : decode cD_readSizes 154 = .ok (.iconst 2, 1) := by decide +kernel
theorem dD_readSizes_155 : decode cD_readSizes 155 = .ok (.iadd, 1) := by decide +kernel
theorem dD_readSizes_156 : decode cD_readSizes 156 = .ok (.invokevirtual 261, 3) := by decide +kernel
theorem dD_readSizes_159 : decode cD_readSizes 159 = .ok (.lconst 1, 1) := by decide +kernel
theorem dD_readSizes_160 : decode cD_readSizes 160 = .ok (.ldc2_w 148, 3) := by decide +kernel
theorem dD_readSizes_163 : decode cD_readSizes 163 = .ok (.invokestatic 135, 3) := by decide +kernel
theorem dD_readSizes_166 : decode cD_readSizes 166 = .ok (.ifCond .eq 51, 3) := by decide +kernel
theorem dD_readSizes_169 : decode cD_readSizes 169 = .ok (.aload_n 0, 1) := by decide +kernel
theorem dD_readSizes_170 : decode cD_readSizes 170 = .ok (.iload_n 2, 1) := by decide +kernel
theorem dD_readSizes_171 : decode cD_readSizes 171 = .ok (.bipush 6, 2) := by decide +kernel
theorem dD_readSizes_173 : decode cD_readSizes 173 = .ok (.iadd, 1) := by decide +kernel
theorem dD_readSizes_174 : decode cD_readSizes 174 = .ok (.invokevirtual 261, 3) := by decide +kernel
theorem dD_readSizes_177 : decode cD_readSizes 177 = .ok (.lconst 1, 1) := by decide +kernel
theorem dD_readSizes_178 : decode cD_readSizes 178 = .ok (.ldc2_w 148, 3) := by decide +kernel
theorem dD_readSizes_181 : decode cD_readSizes 181 = .ok (.invokestatic 135, 3) := by decide +kernel
theorem dD_readSizes_184 : decode cD_readSizes 184 = .ok (.ifCond .eq 33, 3) := by decide +kernel
theorem dD_readSizes_187 : decode cD_readSizes 187 = .ok (.aload_n 0, 1) := by decide +kernel
theorem dD_readSizes_188 : decode cD_readSizes 188 = .ok (.iload_n 2, 1) := by decide +kernel
theorem dD_readSizes_189 : decode cD_readSizes 189 = .ok (.bipush 10, 2) := by decide +kernel
theorem dD_readSizes_191 : decode cD_readSizes 191 = .ok (.iadd, 1) := by decide +kernel
theorem dD_readSizes_192 : decode cD_readSizes 192 = .ok (.invokevirtual 261, 3) := by decide +kernel
theorem dD_readSizes_195 : decode cD_readSizes 195 = .ok (.lconst 0, 1) := by decide +kernel
theorem dD_readSizes_196 : decode cD_readSizes 196 = .ok (.lcmp, 1) := by decide +kernel
theorem dD_readSizes_197 : decode cD_readSizes 197 = .ok (.ifCond .ne 20, 3) := by decide +kernel
theorem dD_readSizes_200 : decode cD_readSizes 200 = .ok (.aload_n 0, 1) := by decide +kernel
theorem dD_readSizes_201 : decode cD_readSizes 201 = .ok (.iload_n 2, 1) := by decide +kernel
theorem dD_readSizes_202 : decode cD_readSizes 202 = .ok (.bipush 14, 2) := by decide +kernel
theorem dD_readSizes_204 : decode cD_readSizes 204 = .ok (.iadd, 1) := by decide +kernel
theorem dD_readSizes_205 : decode cD_readSizes 205 = .ok (.invokevirtual 261, 3) := by decide +kernel
theorem dD_readSizes_208 : decode cD_readSizes 208 = .ok (.lconst 0, 1) := by decide +kernel
theorem dD_readSizes_209 : decode cD_readSizes 209 = .ok (.lcmp, 1) := by decide +kernel
theorem dD_readSizes_210 : decode cD_readSizes 210 = .ok (.ifCond .ne 7, 3) := by decide +kernel
theorem dD_readSizes_213 : decode cD_readSizes 213 = .ok (.iconst 1, 1) := by decide +kernel
theorem dD_readSizes_214 : decode cD_readSizes 214 = .ok (.goto 4, 3) := by decide +kernel
theorem dD_readSizes_217 : decode cD_readSizes 217 = .ok (.iconst 0, 1) := by decide +kernel
theorem dD_readSizes_218 : decode cD_readSizes 218 = .ok (.istore 4, 2) := by decide +kernel
theorem dD_readSizes_220 : decode cD_readSizes 220 = .ok (.iload 4, 2) := by decide +kernel
theorem dD_readSizes_222 : decode cD_readSizes 222 = .ok (.ifCond .eq 69, 3) := by decide +kernel
theorem dD_readSizes_225 : decode cD_readSizes 225 = .ok (.aload_n 0, 1) := by decide +kernel
theorem dD_readSizes_226 : decode cD_readSizes 226 = .ok (.iload_n 2, 1) := by decide +kernel
theorem dD_readSizes_227 : decode cD_readSizes 227 = .ok (.bipush 18, 2) := by decide +kernel
theorem dD_readSizes_229 : decode cD_readSizes 229 = .ok (.iadd, 1) := by decide +kernel
theorem dD_readSizes_230 : decode cD_readSizes 230 = .ok (.invokevirtual 261, 3) := by decide +kernel
theorem dD_readSizes_233 : decode cD_readSizes 233 = .ok (.lconst 1, 1) := by decide +kernel
theorem dD_readSizes_234 : decode cD_readSizes 234 = .ok (.ldc2_w 317, 3) := by decide +kernel
theorem dD_readSizes_237 : decode cD_readSizes 237 = .ok (.invokestatic 135, 3) := by decide +kernel
theorem dD_readSizes_240 : decode cD_readSizes 240 = .ok (.ifCond .eq 51, 3) := by decide +kernel
theorem dD_readSizes_243 : decode cD_readSizes 243 = .ok (.aload_n 0, 1) := by decide +kernel
theorem dD_readSizes_244 : decode cD_readSizes 244 = .ok (.iload_n 2, 1) := by decide +kernel
theorem dD_readSizes_245 : decode cD_readSizes 245 = .ok (.bipush 22, 2) := by decide +kernel
theorem dD_readSizes_247 : decode cD_readSizes 247 = .ok (.iadd, 1) := by decide +kernel
theorem dD_readSizes_248 : decode cD_readSizes 248 = .ok (.invokevirtual 261, 3) := by decide +kernel
theorem dD_readSizes_251 : decode cD_readSizes 251 = .ok (.lconst 1, 1) := by decide +kernel
theorem dD_readSizes_252 : decode cD_readSizes 252 = .ok (.ldc2_w 317, 3) := by decide +kernel
theorem dD_readSizes_255 : decode cD_readSizes 255 = .ok (.invokestatic 135, 3) := by decide +kernel
theorem dD_readSizes_258 : decode cD_readSizes 258 = .ok (.ifCond .eq 33, 3) := by decide +kernel
theorem dD_readSizes_261 : decode cD_readSizes 261 = .ok (.aload_n 0, 1) := by decide +kernel
theorem dD_readSizes_262 : decode cD_readSizes 262 = .ok (.iload_n 2, 1) := by decide +kernel
theorem dD_readSizes_263 : decode cD_readSizes 263 = .ok (.bipush 26, 2) := by decide +kernel
theorem dD_readSizes_265 : decode cD_readSizes 265 = .ok (.iadd, 1) := by decide +kernel
theorem dD_readSizes_266 : decode cD_readSizes 266 = .ok (.invokevirtual 261, 3) := by decide +kernel
theorem dD_readSizes_269 : decode cD_readSizes 269 = .ok (.lconst 0, 1) := by decide +kernel
theorem dD_readSizes_270 : decode cD_readSizes 270 = .ok (.lcmp, 1) := by decide +kernel
theorem dD_readSizes_271 : decode cD_readSizes 271 = .ok (.ifCond .ne 20, 3) := by decide +kernel
theorem dD_readSizes_274 : decode cD_readSizes 274 = .ok (.aload_n 0, 1) := by decide +kernel
theorem dD_readSizes_275 : decode cD_readSizes 275 = .ok (.iload_n 2, 1) := by decide +kernel
theorem dD_readSizes_276 : decode cD_readSizes 276 = .ok (.bipush 30, 2) := by decide +kernel
theorem dD_readSizes_278 : decode cD_readSizes 278 = .ok (.iadd, 1) := by decide +kernel
theorem dD_readSizes_279 : decode cD_readSizes 279 = .ok (.invokevirtual 261, 3) := by decide +kernel
theorem dD_readSizes_282 : decode cD_readSizes 282 = .ok (.lconst 0, 1) := by decide +kernel
theorem dD_readSizes_283 : decode cD_readSizes 283 = .ok (.lcmp, 1) := by decide +kernel
theorem dD_readSizes_284 : decode cD_readSizes 284 = .ok (.ifCond .ne 7, 3) := by decide +kernel
theorem dD_readSizes_287 : decode cD_readSizes 287 = .ok (.iconst 1, 1) := by decide +kernel
theorem dD_readSizes_288 : decode cD_readSizes 288 = .ok (.goto 4, 3) := by decide +kernel
theorem dD_readSizes_291 : decode cD_readSizes 291 = .ok (.iconst 0, 1) := by decide +kernel
theorem dD_readSizes_292 : decode cD_readSizes 292 = .ok (.istore 4, 2) := by decide +kernel
theorem dD_readSizes_294 : decode cD_readSizes 294 = .ok (.iload 4, 2) := by decide +kernel
theorem dD_readSizes_296 : decode cD_readSizes 296 = .ok (.ifCond .eq 48, 3) := by decide +kernel
theorem dD_readSizes_299 : decode cD_readSizes 299 = .ok (.aload_n 0, 1) := by decide +kernel
theorem dD_readSizes_300 : decode cD_readSizes 300 = .ok (.iload_n 2, 1) := by decide +kernel
theorem dD_readSizes_301 : decode cD_readSizes 301 = .ok (.iconst 2, 1) := by decide +kernel
theorem dD_readSizes_302 : decode cD_readSizes 302 = .ok (.iadd, 1) := by decide +kernel
theorem dD_readSizes_303 : decode cD_readSizes 303 = .ok (.invokevirtual 261, 3) := by decide +kernel
theorem dD_readSizes_306 : decode cD_readSizes 306 = .ok (.aload_n 0, 1) := by decide +kernel
theorem dD_readSizes_307 : decode cD_readSizes 307 = .ok (.iload_n 2, 1) := by decide +kernel
theorem dD_readSizes_308 : decode cD_readSizes 308 = .ok (.bipush 6, 2) := by decide +kernel
theorem dD_readSizes_310 : decode cD_readSizes 310 = .ok (.iadd, 1) := by decide +kernel
theorem dD_readSizes_311 : decode cD_readSizes 311 = .ok (.invokevirtual 261, 3) := by decide +kernel
theorem dD_readSizes_314 : decode cD_readSizes 314 = .ok (.aload_n 0, 1) := by decide +kernel
theorem dD_readSizes_315 : decode cD_readSizes 315 = .ok (.iload_n 2, 1) := by decide +kernel
theorem dD_readSizes_316 : decode cD_readSizes 316 = .ok (.bipush 18, 2) := by decide +kernel
theorem dD_readSizes_318 : decode cD_readSizes 318 = .ok (.iadd, 1) := by decide +kernel
theorem dD_readSizes_319 : decode cD_readSizes 319 = .ok (.invokevirtual 261, 3) := by decide +kernel
theorem dD_readSizes_322 : decode cD_readSizes 322 = .ok (.aload_n 0, 1) := by decide +kernel
theorem dD_readSizes_323 : decode cD_readSizes 323 = .ok (.iload_n 2, 1) := by decide +kernel
theorem dD_readSizes_324 : decode cD_readSizes 324 = .ok (.bipush 22, 2) := by decide +kernel
theorem dD_readSizes_326 : decode cD_readSizes 326 = .ok (.iadd, 1) := by decide +kernel
theorem dD_readSizes_327 : decode cD_readSizes 327 = .ok (.invokevirtual 261, 3) := by decide +kernel
theorem dD_readSizes_330 : decode cD_readSizes 330 = .ok (.invokestatic 129, 3) := by decide +kernel
theorem dD_readSizes_333 : decode cD_readSizes 333 = .ok (.ldc2_w 166, 3) := by decide +kernel
theorem dD_readSizes_336 : decode cD_readSizes 336 = .ok (.lcmp, 1) := by decide +kernel
theorem dD_readSizes_337 : decode cD_readSizes 337 = .ok (.ifCond .gt 7, 3) := by decide +kernel
theorem dD_readSizes_340 : decode cD_readSizes 340 = .ok (.iconst 1, 1) := by decide +kernel
theorem dD_readSizes_341 : decode cD_readSizes 341 = .ok (.goto 4, 3) := by decide +kernel
theorem dD_readSizes_344 : decode cD_readSizes 344 = .ok (.iconst 0, 1) := by decide +kernel
theorem dD_readSizes_345 : decode cD_readSizes 345 = .ok (.istore 4, 2) := by decide +kernel
theorem dD_readSizes_347 : decode cD_readSizes 347 = .ok (.iconst 0, 1) := by decide +kernel
theorem dD_readSizes_348 : decode cD_readSizes 348 = .ok (.istore 5, 2) := by decide +kernel
theorem dD_readSizes_350 : decode cD_readSizes 350 = .ok (.iload 5, 2) := by decide +kernel
theorem dD_readSizes_352 : decode cD_readSizes 352 = .ok (.iload_n 3, 1) := by decide +kernel
theorem dD_readSizes_353 : decode cD_readSizes 353 = .ok (.if_icmp .ge 101, 3) := by decide +kernel
theorem dD_readSizes_356 : decode cD_readSizes 356 = .ok (.iload 4, 2) := by decide +kernel
theorem dD_readSizes_358 : decode cD_readSizes 358 = .ok (.ifCond .eq 96, 3) := by decide +kernel
theorem dD_readSizes_361 : decode cD_readSizes 361 = .ok (.aload_n 0, 1) := by decide +kernel
theorem dD_readSizes_362 : decode cD_readSizes 362 = .ok (.getfield 60, 3) := by decide +kernel
theorem dD_readSizes_365 : decode cD_readSizes 365 = .ok (.iload_n 2, 1) := by decide +kernel
theorem dD_readSizes_366 : decode cD_readSizes 366 = .ok (.bipush 36, 2) := by decide +kernel
theorem dD_readSizes_368 : decode cD_readSizes 368 = .ok (.iadd, 1) := by decide +kernel
theorem dD_readSizes_369 : decode cD_readSizes 369 = .ok (.iconst 3, 1) := by decide +kernel
theorem dD_readSizes_370 : decode cD_readSizes 370 = .ok (.iload 5, 2) := by decide +kernel
theorem dD_readSizes_372 : decode cD_readSizes 372 = .ok (.imul, 1) := by decide +kernel
theorem dD_readSizes_373 : decode cD_readSizes 373 = .ok (.iadd, 1) := by decide +kernel
theorem dD_readSizes_374 : decode cD_readSizes 374 = .ok (.iaload, 1) := by decide +kernel
theorem dD_readSizes_375 : decode cD_readSizes 375 = .ok (.bipush 16, 2) := by decide +kernel
theorem dD_readSizes_377 : decode cD_readSizes 377 = .ok (.if_icmp .ge 43, 3) := by decide +kernel
theorem dD_readSizes_380 : decode cD_readSizes 380 = .ok (.aload_n 0, 1) := by decide +kernel
theorem dD_readSizes_381 : decode cD_readSizes 381 = .ok (.getfield 60, 3) := by decide +kernel
theorem dD_readSizes_384 : decode cD_readSizes 384 = .ok (.iload_n 2, 1) := by decide +kernel
theorem dD_readSizes_385 : decode cD_readSizes 385 = .ok (.bipush 37, 2) := by decide +kernel
theorem dD_readSizes_387 : decode cD_readSizes 387 = .ok (.iadd, 1) := by decide +kernel
theorem dD_readSizes_388 : decode cD_readSizes 388 = .ok (.iconst 3, 1) := by decide +kernel
theorem dD_readSizes_389 : decode cD_readSizes 389 = .ok (.iload 5, 2) := by decide +kernel
theorem dD_readSizes_391 : decode cD_readSizes 391 = .ok (.imul, 1) := by decide +kernel
theorem dD_readSizes_392 : decode cD_readSizes 392 = .ok (.iadd, 1) := by decide +kernel
theorem dD_readSizes_393 : decode cD_readSizes 393 = .ok (.iaload, 1) := by decide +kernel
theorem dD_readSizes_394 : decode cD_readSizes 394 = .ok (.iconst 1, 1) := by decide +kernel
theorem dD_readSizes_395 : decode cD_readSizes 395 = .ok (.if_icmp .ne 25, 3) := by decide +kernel
theorem dD_readSizes_398 : decode cD_readSizes 398 = .ok (.aload_n 0, 1) := by decide +kernel
theorem dD_readSizes_399 : decode cD_readSizes 399 = .ok (.getfield 60, 3) := by decide +kernel
theorem dD_readSizes_402 : decode cD_readSizes 402 = .ok (.iload_n 2, 1) := by decide +kernel
theorem dD_readSizes_403 : decode cD_readSizes 403 = .ok (.bipush 38, 2) := by decide +kernel
theorem dD_readSizes_405 : decode cD_readSizes 405 = .ok (.iadd, 1) := by decide +kernel
theorem dD_readSizes_406 : decode cD_readSizes 406 = .ok (.iconst 3, 1) := by decide +kernel
theorem dD_readSizes_407 : decode cD_readSizes 407 = .ok (.iload 5, 2) := by decide +kernel
theorem dD_readSizes_409 : decode cD_readSizes 409 = .ok (.imul, 1) := by decide +kernel
theorem dD_readSizes_410 : decode cD_readSizes 410 = .ok (.iadd, 1) := by decide +kernel
theorem dD_readSizes_411 : decode cD_readSizes 411 = .ok (.iaload, 1) := by decide +kernel
theorem dD_readSizes_412 : decode cD_readSizes 412 = .ok (.iconst 1, 1) := by decide +kernel
theorem dD_readSizes_413 : decode cD_readSizes 413 = .ok (.if_icmp .ne 7, 3) := by decide +kernel
theorem dD_readSizes_416 : decode cD_readSizes 416 = .ok (.iconst 1, 1) := by decide +kernel
theorem dD_readSizes_417 : decode cD_readSizes 417 = .ok (.goto 4, 3) := by decide +kernel
theorem dD_readSizes_420 : decode cD_readSizes 420 = .ok (.iconst 0, 1) := by decide +kernel
theorem dD_readSizes_421 : decode cD_readSizes 421 = .ok (.istore 4, 2) := by decide +kernel
theorem dD_readSizes_423 : decode cD_readSizes 423 = .ok (.aload_n 0, 1) := by decide +kernel
theorem dD_readSizes_424 : decode cD_readSizes 424 = .ok (.getfield 20, 3) := by decide +kernel
theorem dD_readSizes_427 : decode cD_readSizes 427 = .ok (.iconst 4, 1) := by decide +kernel
theorem dD_readSizes_428 : decode cD_readSizes 428 = .ok (.iload 5, 2) := by decide +kernel
theorem dD_readSizes_430 : decode cD_readSizes 430 = .ok (.iadd, 1) := by decide +kernel
theorem dD_readSizes_431 : decode cD_readSizes 431 = .ok (.aload_n 0, 1) := by decide +kernel
theorem dD_readSizes_432 : decode cD_readSizes 432 = .ok (.getfield 60, 3) := by decide +kernel
theorem dD_readSizes_435 : decode cD_readSizes 435 = .ok (.iload_n 2, 1) := by decide +kernel
theorem dD_readSizes_436 : decode cD_readSizes 436 = .ok (.bipush 36, 2) := by decide +kernel
theorem dD_readSizes_438 : decode cD_readSizes 438 = .ok (.iadd, 1) := by decide +kernel
theorem dD_readSizes_439 : decode cD_readSizes 439 = .ok (.iconst 3, 1) := by decide +kernel
theorem dD_readSizes_440 : decode cD_readSizes 440 = .ok (.iload 5, 2) := by decide +kernel
theorem dD_readSizes_442 : decode cD_readSizes 442 = .ok (.imul, 1) := by decide +kernel
theorem dD_readSizes_443 : decode cD_readSizes 443 = .ok (.iadd, 1) := by decide +kernel
theorem dD_readSizes_444 : decode cD_readSizes 444 = .ok (.iaload, 1) := by decide +kernel
theorem dD_readSizes_445 : decode cD_readSizes 445 = .ok (.iconst 1, 1) := by decide +kernel
theorem dD_readSizes_446 : decode cD_readSizes 446 = .ok (.iadd, 1) := by decide +kernel
theorem dD_readSizes_447 : decode cD_readSizes 447 = .ok (.iastore, 1) := by decide +kernel
theorem dD_readSizes_448 : decode cD_readSizes 448 = .ok (.iinc 5 1, 3) := by decide +kernel
theorem dD_readSizes_451 : decode cD_readSizes 451 = .ok (.goto (-101), 3) := by decide +kernel
theorem dD_readSizes_454 : decode cD_readSizes 454 = .ok (.iload 4, 2) := by decide +kernel
theorem dD_readSizes_456 : decode cD_readSizes 456 = .ok (.ifCond .ne 12, 3) := by decide +kernel
theorem dD_readSizes_459 : decode cD_readSizes 459 = .ok (.aload_n 0, 1) := by decide +kernel
theorem dD_readSizes_460 : decode cD_readSizes 460 = .ok (.aload_n 0, 1) := by decide +kernel
theorem dD_readSizes_461 : decode cD_readSizes 461 = .ok (.getfield 301, 3) := by decide +kernel
theorem dD_readSizes_464 : decode cD_readSizes 464 = .ok (.invokevirtual 278, 3) := by decide +kernel
theorem dD_readSizes_467 : decode cD_readSizes 467 = .ok (.ireturn, 1) := by decide +kernel
theorem dD_readSizes_468 : decode cD_readSizes 468 = .ok (.aload_n 0, 1) := by decide +kernel
theorem dD_readSizes_469 : decode cD_readSizes 469 = .ok (.getfield 23, 3) := by decide +kernel
theorem dD_readSizes_472 : decode cD_readSizes 472 = .ok (.iconst 5, 1) := by decide +kernel
theorem dD_readSizes_473 : decode cD_readSizes 473 = .ok (.aload_n 0, 1) := by decide +kernel
theorem dD_readSizes_474 : decode cD_readSizes 474 = .ok (.iload_n 2, 1) := by decide +kernel
theorem dD_readSizes_475 : decode cD_readSizes 475 = .ok (.iconst 2, 1) := by decide +kernel
theorem dD_readSizes_476 : decode cD_readSizes 476 = .ok (.iadd, 1) := by decide +kernel
theorem dD_readSizes_477 : decode cD_readSizes 477 = .ok (.invokevirtual 261, 3) := by decide +kernel
theorem dD_readSizes_480 : decode cD_readSizes 480 = .ok (.l2i, 1) := by decide +kernel
theorem dD_readSizes_481 : decode cD_readSizes 481 = .ok (.iastore, 1) := by decide +kernel
theorem dD_readSizes_482 : decode cD_readSizes 482 = .ok (.aload_n 0, 1) := by decide +kernel
theorem dD_readSizes_483 : decode cD_readSizes 483 = .ok (.getfield 23, 3) := by decide +kernel
theorem dD_readSizes_486 : decode cD_readSizes 486 = .ok (.bipush 6, 2) := by decide +kernel
theorem dD_readSizes_488 : decode cD_readSizes 488 = .ok (.aload_n 0, 1) := by decide +kernel
theorem dD_readSizes_489 : decode cD_readSizes 489 = .ok (.iload_n 2, 1) := by decide +kernel
theorem dD_readSizes_490 : decode cD_readSizes 490 = .ok (.bipush 6, 2) := by decide +kernel
theorem dD_readSizes_492 : decode cD_readSizes 492 = .ok (.iadd, 1) := by decide +kernel
theorem dD_readSizes_493 : decode cD_readSizes 493 = .ok (.invokevirtual 261, 3) := by decide +kernel
theorem dD_readSizes_496 : decode cD_readSizes 496 = .ok (.l2i, 1) := by decide +kernel
theorem dD_readSizes_497 : decode cD_readSizes 497 = .ok (.iastore, 1) := by decide +kernel
theorem dD_readSizes_498 : decode cD_readSizes 498 = .ok (.aload_n 0, 1) := by decide +kernel
theorem dD_readSizes_499 : decode cD_readSizes 499 = .ok (.getfield 23, 3) := by decide +kernel
theorem dD_readSizes_502 : decode cD_readSizes 502 = .ok (.bipush 7, 2) := by decide +kernel
theorem dD_readSizes_504 : decode cD_readSizes 504 = .ok (.iload_n 3, 1) := by decide +kernel
theorem dD_readSizes_505 : decode cD_readSizes 505 = .ok (.iastore, 1) := by decide +kernel
theorem dD_readSizes_506 : decode cD_readSizes 506 = .ok (.aload_n 0, 1) := by decide +kernel
theorem dD_readSizes_507 : decode cD_readSizes 507 = .ok (.getfield 23, 3) := by decide +kernel
theorem dD_readSizes_510 : decode cD_readSizes 510 = .ok (.bipush 8, 2) := by decide +kernel
theorem dD_readSizes_512 : decode cD_readSizes 512 = .ok (.aload_n 0, 1) := by decide +kernel
theorem dD_readSizes_513 : decode cD_readSizes 513 = .ok (.iload_n 2, 1) := by decide +kernel
theorem dD_readSizes_514 : decode cD_readSizes 514 = .ok (.bipush 18, 2) := by decide +kernel
theorem dD_readSizes_516 : decode cD_readSizes 516 = .ok (.iadd, 1) := by decide +kernel
theorem dD_readSizes_517 : decode cD_readSizes 517 = .ok (.invokevirtual 261, 3) := by decide +kernel
theorem dD_readSizes_520 : decode cD_readSizes 520 = .ok (.l2i, 1) := by decide +kernel
theorem dD_readSizes_521 : decode cD_readSizes 521 = .ok (.iastore, 1) := by decide +kernel
theorem dD_readSizes_522 : decode cD_readSizes 522 = .ok (.aload_n 0, 1) := by decide +kernel
theorem dD_readSizes_523 : decode cD_readSizes 523 = .ok (.getfield 23, 3) := by decide +kernel
theorem dD_readSizes_526 : decode cD_readSizes 526 = .ok (.bipush 9, 2) := by decide +kernel
theorem dD_readSizes_528 : decode cD_readSizes 528 = .ok (.aload_n 0, 1) := by decide +kernel
theorem dD_readSizes_529 : decode cD_readSizes 529 = .ok (.iload_n 2, 1) := by decide +kernel
theorem dD_readSizes_530 : decode cD_readSizes 530 = .ok (.bipush 22, 2) := by decide +kernel
theorem dD_readSizes_532 : decode cD_readSizes 532 = .ok (.iadd, 1) := by decide +kernel
theorem dD_readSizes_533 : decode cD_readSizes 533 = .ok (.invokevirtual 261, 3) := by decide +kernel
theorem dD_readSizes_536 : decode cD_readSizes 536 = .ok (.l2i, 1) := by decide +kernel
theorem dD_readSizes_537 : decode cD_readSizes 537 = .ok (.iastore, 1) := by decide +kernel
theorem dD_readSizes_538 : decode cD_readSizes 538 = .ok (.aload_n 0, 1) := by decide +kernel
theorem dD_readSizes_539 : decode cD_readSizes 539 = .ok (.dup, 1) := by decide +kernel
theorem dD_readSizes_540 : decode cD_readSizes 540 = .ok (.getfield 301, 3) := by decide +kernel
theorem dD_readSizes_543 : decode cD_readSizes 543 = .ok (.iconst 2, 1) := by decide +kernel
theorem dD_readSizes_544 : decode cD_readSizes 544 = .ok (.iload_n 1, 1) := by decide +kernel
theorem dD_readSizes_545 : decode cD_readSizes 545 = .ok (.iadd, 1) := by decide +kernel
theorem dD_readSizes_546 : decode cD_readSizes 546 = .ok (.iadd, 1) := by decide +kernel
theorem dD_readSizes_547 : decode cD_readSizes 547 = .ok (.putfield 301, 3) := by decide +kernel
theorem dD_readSizes_550 : decode cD_readSizes 550 = .ok (.iconst 1, 1) := by decide +kernel
theorem dD_readSizes_551 : decode cD_readSizes 551 = .ok (.ireturn, 1) := by decide +kernel
theorem dD_isSegment_0 : decode cD_isSegment 0 = .ok (.iload_n 0, 1) := by decide +kernel
theorem dD_isSegment_1 : decode cD_isSegment 1 = .ok (.bipush 82, 2) := by decide +kernel
theorem dD_isSegment_3 : decode cD_isSegment 3 = .ok (.if_icmp .eq 21, 3) := by decide +kernel
theorem dD_isSegment_6 : decode cD_isSegment 6 = .ok (.iload_n 0, 1) := by decide +kernel
theorem dD_isSegment_7 : decode cD_isSegment 7 = .ok (.bipush 83, 2) := by decide +kernel
theorem dD_isSegment_9 : decode cD_isSegment 9 = .ok (.if_icmp .eq 15, 3) := by decide +kernel
theorem dD_isSegment_12 : decode cD_isSegment 12 = .ok (.iload_n 0, 1) := by decide +kernel
theorem dD_isSegment_13 : decode cD_isSegment 13 = .ok (.bipush 92, 2) := by decide +kernel
theorem dD_isSegment_15 : decode cD_isSegment 15 = .ok (.if_icmp .eq 9, 3) := by decide +kernel
theorem dD_isSegment_18 : decode cD_isSegment 18 = .ok (.iload_n 0, 1) := by decide +kernel
theorem dD_isSegment_19 : decode cD_isSegment 19 = .ok (.bipush 93, 2) := by decide +kernel
theorem dD_isSegment_21 : decode cD_isSegment 21 = .ok (.if_icmp .ne 7, 3) := by decide +kernel
theorem dD_isSegment_24 : decode cD_isSegment 24 = .ok (.iconst 1, 1) := by decide +kernel
theorem dD_isSegment_25 : decode cD_isSegment 25 = .ok (.goto 4, 3) := by decide +kernel
theorem dD_isSegment_28 : decode cD_isSegment 28 = .ok (.iconst 0, 1) := by decide +kernel
theorem dD_isSegment_29 : decode cD_isSegment 29 = .ok (.ireturn, 1) := by decide +kernel
theorem dD_takeStep_0 : decode cD_takeStep 0 = .ok (.aload_n 0, 1) := by decide +kernel
theorem dD_takeStep_1 : decode cD_takeStep 1 = .ok (.iload_n 1, 1) := by decide +kernel
theorem dD_takeStep_2 : decode cD_takeStep 2 = .ok (.iconst 1, 1) := by decide +kernel
theorem dD_takeStep_3 : decode cD_takeStep 3 = .ok (.iadd, 1) := by decide +kernel
theorem dD_takeStep_4 : decode cD_takeStep 4 = .ok (.invokevirtual 314, 3) := by decide +kernel
theorem dD_takeStep_7 : decode cD_takeStep 7 = .ok (.istore_n 3, 1) := by decide +kernel
theorem dD_takeStep_8 : decode cD_takeStep 8 = .ok (.aload_n 0, 1) := by decide +kernel
theorem dD_takeStep_9 : decode cD_takeStep 9 = .ok (.getfield 60, 3) := by decide +kernel
theorem dD_takeStep_12 : decode cD_takeStep 12 = .ok (.iload_n 1, 1) := by decide +kernel
theorem dD_takeStep_13 : decode cD_takeStep 13 = .ok (.iaload, 1) := by decide +kernel
theorem dD_takeStep_14 : decode cD_takeStep 14 = .ok (.bipush 32, 2) := by decide +kernel
theorem dD_takeStep_16 : decode cD_takeStep 16 = .ok (.irem, 1) := by decide +kernel
theorem dD_takeStep_17 : decode cD_takeStep 17 = .ok (.iconst 1, 1) := by decide +kernel
theorem dD_takeStep_18 : decode cD_takeStep 18 = .ok (.if_icmp .ne 11, 3) := by decide +kernel
theorem dD_takeStep_21 : decode cD_takeStep 21 = .ok (.iload_n 3, 1) := by decide +kernel
theorem dD_takeStep_22 : decode cD_takeStep 22 = .ok (.sipush 2048, 3) := by decide +kernel
theorem dD_takeStep_25 : decode cD_takeStep 25 = .ok (.irem, 1) := by decide +kernel
theorem dD_takeStep_26 : decode cD_takeStep 26 = .ok (.ifCond .eq 5, 3) := by decide +kernel
theorem dD_takeStep_29 : decode cD_takeStep 29 = .ok (.iconst 0, 1) := by decide +kernel
theorem dD_takeStep_30 : decode cD_takeStep 30 = .ok (.ireturn, 1) := by decide +kernel
theorem dD_takeStep_31 : decode cD_takeStep 31 = .ok (.aload_n 0, 1) := by decide +kernel
theorem dD_takeStep_32 : decode cD_takeStep 32 = .ok (.iload_n 2, 1) := by decide +kernel
theorem dD_takeStep_33 : decode cD_takeStep 33 = .ok (.bipush 10, 2) := by decide +kernel
theorem dD_takeStep_35 : decode cD_takeStep 35 = .ok (.aload_n 0, 1) := by decide +kernel
theorem dD_takeStep_36 : decode cD_takeStep 36 = .ok (.getfield 60, 3) := by decide +kernel
theorem dD_takeStep_39 : decode cD_takeStep 39 = .ok (.iload_n 1, 1) := by decide +kernel
theorem dD_takeStep_40 : decode cD_takeStep 40 = .ok (.iaload, 1) := by decide +kernel
theorem dD_takeStep_41 : decode cD_takeStep 41 = .ok (.bipush 32, 2) := by decide +kernel
theorem dD_takeStep_43 : decode cD_takeStep 43 = .ok (.idiv, 1) := by decide +kernel
theorem dD_takeStep_44 : decode cD_takeStep 44 = .ok (.invokevirtual 113, 3) := by decide +kernel
theorem dD_takeStep_47 : decode cD_takeStep 47 = .ok (.aload_n 0, 1) := by decide +kernel
theorem dD_takeStep_48 : decode cD_takeStep 48 = .ok (.iload_n 2, 1) := by decide +kernel
theorem dD_takeStep_49 : decode cD_takeStep 49 = .ok (.bipush 9, 2) := by decide +kernel
theorem dD_takeStep_51 : decode cD_takeStep 51 = .ok (.iload_n 3, 1) := by decide +kernel
theorem dD_takeStep_52 : decode cD_takeStep 52 = .ok (.sipush 2048, 3) := by decide +kernel
theorem dD_takeStep_55 : decode cD_takeStep 55 = .ok (.idiv, 1) := by decide +kernel
theorem dD_takeStep_56 : decode cD_takeStep 56 = .ok (.invokevirtual 113, 3) := by decide +kernel
theorem dD_takeStep_59 : decode cD_takeStep 59 = .ok (.aload_n 0, 1) := by decide +kernel
theorem dD_takeStep_60 : decode cD_takeStep 60 = .ok (.getfield 17, 3) := by decide +kernel
theorem dD_takeStep_63 : decode cD_takeStep 63 = .ok (.iload_n 2, 1) := by decide +kernel
theorem dD_takeStep_64 : decode cD_takeStep 64 = .ok (.iconst 1, 1) := by decide +kernel
theorem dD_takeStep_65 : decode cD_takeStep 65 = .ok (.bastore, 1) := by decide +kernel
theorem dD_takeStep_66 : decode cD_takeStep 66 = .ok (.iconst 1, 1) := by decide +kernel
theorem dD_takeStep_67 : decode cD_takeStep 67 = .ok (.ireturn, 1) := by decide +kernel
theorem dD_takeStyle_0 : decode cD_takeStyle 0 = .ok (.iload_n 1, 1) := by decide +kernel
theorem dD_takeStyle_1 : decode cD_takeStyle 1 = .ok (.istore 4, 2) := by decide +kernel
theorem dD_takeStyle_3 : decode cD_takeStyle 3 = .ok (.aload_n 0, 1) := by decide +kernel
theorem dD_takeStyle_4 : decode cD_takeStyle 4 = .ok (.getfield 60, 3) := by decide +kernel
theorem dD_takeStyle_7 : decode cD_takeStyle 7 = .ok (.iload 4, 2) := by decide +kernel
theorem dD_takeStyle_9 : decode cD_takeStyle 9 = .ok (.iaload, 1) := by decide +kernel
theorem dD_takeStyle_10 : decode cD_takeStyle 10 = .ok (.ifCond .eq 5, 3) := by decide +kernel
theorem dD_takeStyle_13 : decode cD_takeStyle 13 = .ok (.iconst 0, 1) := by decide +kernel
theorem dD_takeStyle_14 : decode cD_takeStyle 14 = .ok (.ireturn, 1) := by decide +kernel
theorem dD_takeStyle_15 : decode cD_takeStyle 15 = .ok (.iload_n 3, 1) := by decide +kernel
theorem dD_takeStyle_16 : decode cD_takeStyle 16 = .ok (.ifCond .eq 52, 3) := by decide +kernel
theorem dD_takeStyle_19 : decode cD_takeStyle 19 = .ok (.aload_n 0, 1) := by decide +kernel
theorem dD_takeStyle_20 : decode cD_takeStyle 20 = .ok (.getfield 60, 3) := by decide +kernel
theorem dD_takeStyle_23 : decode cD_takeStyle 23 = .ok (.iload 4, 2) := by decide +kernel
theorem dD_takeStyle_25 : decode cD_takeStyle 25 = .ok (.iconst 1, 1) := by decide +kernel
theorem dD_takeStyle_26 : decode cD_takeStyle 26 = .ok (.iadd, 1) := by decide +kernel
theorem dD_takeStyle_27 : decode cD_takeStyle 27 = .ok (.iaload, 1) := by decide +kernel
theorem dD_takeStyle_28 : decode cD_takeStyle 28 = .ok (.iconst 4, 1) := by decide +kernel
theorem dD_takeStyle_29 : decode cD_takeStyle 29 = .ok (.if_icmp .gt 34, 3) := by decide +kernel
theorem dD_takeStyle_32 : decode cD_takeStyle 32 = .ok (.aload_n 0, 1) := by decide +kernel
theorem dD_takeStyle_33 : decode cD_takeStyle 33 = .ok (.iload 4, 2) := by decide +kernel
theorem dD_takeStyle_35 : decode cD_takeStyle 35 = .ok (.iconst 2, 1) := by decide +kernel
theorem dD_takeStyle_36 : decode cD_takeStyle 36 = .ok (.iadd, 1) := by decide +kernel
theorem dD_takeStyle_37 : decode cD_takeStyle 37 = .ok (.invokevirtual 314, 3) := by decide +kernel
theorem dD_takeStyle_40 : decode cD_takeStyle 40 = .ok (.i2l, 1) := by decide +kernel
theorem dD_takeStyle_41 : decode cD_takeStyle 41 = .ok (.lconst 1, 1) := by decide +kernel
theorem dD_takeStyle_42 : decode cD_takeStyle 42 = .ok (.ldc2_w 154, 3) := by decide +kernel
theorem dD_takeStyle_45 : decode cD_takeStyle 45 = .ok (.invokestatic 135, 3) := by decide +kernel
theorem dD_takeStyle_48 : decode cD_takeStyle 48 = .ok (.ifCond .eq 15, 3) := by decide +kernel
theorem dD_takeStyle_51 : decode cD_takeStyle 51 = .ok (.aload_n 0, 1) := by decide +kernel
theorem dD_takeStyle_52 : decode cD_takeStyle 52 = .ok (.getfield 60, 3) := by decide +kernel
theorem dD_takeStyle_55 : decode cD_takeStyle 55 = .ok (.iload 4, 2) := by decide +kernel
theorem dD_takeStyle_57 : decode cD_takeStyle 57 = .ok (.iconst 4, 1) := by decide +kernel
theorem dD_takeStyle_58 : decode cD_takeStyle 58 = .ok (.iadd, 1) := by decide +kernel
theorem dD_takeStyle_59 : decode cD_takeStyle 59 = .ok (.iaload, 1) := by decide +kernel
theorem dD_takeStyle_60 : decode cD_takeStyle 60 = .ok (.ifCond .eq 5, 3) := by decide +kernel
theorem dD_takeStyle_63 : decode cD_takeStyle 63 = .ok (.iconst 0, 1) := by decide +kernel
theorem dD_takeStyle_64 : decode cD_takeStyle 64 = .ok (.ireturn, 1) := by decide +kernel
theorem dD_takeStyle_65 : decode cD_takeStyle 65 = .ok (.iinc 4 4, 3) := by decide +kernel
theorem dD_takeStyle_68 : decode cD_takeStyle 68 = .ok (.iinc 4 1, 3) := by decide +kernel
theorem dD_takeStyle_71 : decode cD_takeStyle 71 = .ok (.aload_n 0, 1) := by decide +kernel
theorem dD_takeStyle_72 : decode cD_takeStyle 72 = .ok (.getfield 60, 3) := by decide +kernel
theorem dD_takeStyle_75 : decode cD_takeStyle 75 = .ok (.iload 4, 2) := by decide +kernel
theorem dD_takeStyle_77 : decode cD_takeStyle 77 = .ok (.iaload, 1) := by decide +kernel
theorem dD_takeStyle_78 : decode cD_takeStyle 78 = .ok (.iconst 5, 1) := by decide +kernel
theorem dD_takeStyle_79 : decode cD_takeStyle 79 = .ok (.if_icmp .gt 62, 3) := by decide +kernel
theorem dD_takeStyle_82 : decode cD_takeStyle 82 = .ok (.aload_n 0, 1) := by decide +kernel
