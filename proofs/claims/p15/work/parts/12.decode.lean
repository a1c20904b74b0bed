theorem dHeadReader_keepSegment_52 : decode cHeadReader_keepSegment 52 = .ok (.iload_n 2, 1) := by decide +kernel
theorem dHeadReader_keepSegment_53 : decode cHeadReader_keepSegment 53 = .ok (.iload_n 1, 1) := by decide +kernel
theorem dHeadReader_keepSegment_54 : decode cHeadReader_keepSegment 54 = .ok (.isub, 1) := by decide +kernel
theorem dHeadReader_keepSegment_55 : decode cHeadReader_keepSegment 55 = .ok (.bipush 14, 2) := by decide +kernel
theorem dHeadReader_keepSegment_57 : decode cHeadReader_keepSegment 57 = .ok (.if_icmp .ne 32, 3) := by decide +kernel
theorem dHeadReader_keepSegment_60 : decode cHeadReader_keepSegment 60 = .ok (.aload_n 0, 1) := by decide +kernel
theorem dHeadReader_keepSegment_61 : decode cHeadReader_keepSegment 61 = .ok (.iload_n 1, 1) := by decide +kernel
theorem dHeadReader_keepSegment_62 : decode cHeadReader_keepSegment 62 = .ok (.iload_n 3, 1) := by decide +kernel
theorem dHeadReader_keepSegment_63 : decode cHeadReader_keepSegment 63 = .ok (.invokevirtual 91, 3) := by decide +kernel
theorem dHeadReader_keepSegment_66 : decode cHeadReader_keepSegment 66 = .ok (.ifCond .eq 23, 3) := by decide +kernel
theorem dHeadReader_keepSegment_69 : decode cHeadReader_keepSegment 69 = .ok (.aload_n 0, 1) := by decide +kernel
theorem dHeadReader_keepSegment_70 : decode cHeadReader_keepSegment 70 = .ok (.iload_n 1, 1) := by decide +kernel
theorem dHeadReader_keepSegment_71 : decode cHeadReader_keepSegment 71 = .ok (.bipush 8, 2) := by decide +kernel
theorem dHeadReader_keepSegment_73 : decode cHeadReader_keepSegment 73 = .ok (.iadd, 1) := by decide +kernel
theorem dHeadReader_keepSegment_74 : decode cHeadReader_keepSegment 74 = .ok (.iload_n 3, 1) := by decide +kernel
theorem dHeadReader_keepSegment_75 : decode cHeadReader_keepSegment 75 = .ok (.iconst (-1), 1) := by decide +kernel
theorem dHeadReader_keepSegment_76 : decode cHeadReader_keepSegment 76 = .ok (.invokestatic 94, 3) := by decide +kernel
theorem dHeadReader_keepSegment_79 : decode cHeadReader_keepSegment 79 = .ok (.invokevirtual 97, 3) := by decide +kernel
theorem dHeadReader_keepSegment_82 : decode cHeadReader_keepSegment 82 = .ok (.ifCond .eq 7, 3) := by decide +kernel
theorem dHeadReader_keepSegment_85 : decode cHeadReader_keepSegment 85 = .ok (.iconst 1, 1) := by decide +kernel
theorem dHeadReader_keepSegment_86 : decode cHeadReader_keepSegment 86 = .ok (.goto 4, 3) := by decide +kernel
theorem dHeadReader_keepSegment_89 : decode cHeadReader_keepSegment 89 = .ok (.iconst 0, 1) := by decide +kernel
theorem dHeadReader_keepSegment_90 : decode cHeadReader_keepSegment 90 = .ok (.ireturn, 1) := by decide +kernel
theorem dHeadReader_keepSegment_91 : decode cHeadReader_keepSegment 91 = .ok (.iload_n 2, 1) := by decide +kernel
theorem dHeadReader_keepSegment_92 : decode cHeadReader_keepSegment 92 = .ok (.iload_n 1, 1) := by decide +kernel
theorem dHeadReader_keepSegment_93 : decode cHeadReader_keepSegment 93 = .ok (.isub, 1) := by decide +kernel
theorem dHeadReader_keepSegment_94 : decode cHeadReader_keepSegment 94 = .ok (.bipush 11, 2) := by decide +kernel
theorem dHeadReader_keepSegment_96 : decode cHeadReader_keepSegment 96 = .ok (.if_icmp .ne 51, 3) := by decide +kernel
theorem dHeadReader_keepSegment_99 : decode cHeadReader_keepSegment 99 = .ok (.aload_n 0, 1) := by decide +kernel
theorem dHeadReader_keepSegment_100 : decode cHeadReader_keepSegment 100 = .ok (.getfield 19, 3) := by decide +kernel
theorem dHeadReader_keepSegment_103 : decode cHeadReader_keepSegment 103 = .ok (.aload_n 0, 1) := by decide +kernel
theorem dHeadReader_keepSegment_104 : decode cHeadReader_keepSegment 104 = .ok (.getfield 15, 3) := by decide +kernel
theorem dHeadReader_keepSegment_107 : decode cHeadReader_keepSegment 107 = .ok (.iload_n 1, 1) := by decide +kernel
theorem dHeadReader_keepSegment_108 : decode cHeadReader_keepSegment 108 = .ok (.iconst 4, 1) := by decide +kernel
theorem dHeadReader_keepSegment_109 : decode cHeadReader_keepSegment 109 = .ok (.iadd, 1) := by decide +kernel
theorem dHeadReader_keepSegment_110 : decode cHeadReader_keepSegment 110 = .ok (.invokevirtual 44, 3) := by decide +kernel
theorem dHeadReader_keepSegment_113 : decode cHeadReader_keepSegment 113 = .ok (.invokevirtual 100, 3) := by decide +kernel
theorem dHeadReader_keepSegment_116 : decode cHeadReader_keepSegment 116 = .ok (.ifCond .eq 31, 3) := by decide +kernel
theorem dHeadReader_keepSegment_119 : decode cHeadReader_keepSegment 119 = .ok (.aload_n 0, 1) := by decide +kernel
theorem dHeadReader_keepSegment_120 : decode cHeadReader_keepSegment 120 = .ok (.iload_n 1, 1) := by decide +kernel
theorem dHeadReader_keepSegment_121 : decode cHeadReader_keepSegment 121 = .ok (.iconst 5, 1) := by decide +kernel
theorem dHeadReader_keepSegment_122 : decode cHeadReader_keepSegment 122 = .ok (.iadd, 1) := by decide +kernel
theorem dHeadReader_keepSegment_123 : decode cHeadReader_keepSegment 123 = .ok (.iload_n 3, 1) := by decide +kernel
theorem dHeadReader_keepSegment_124 : decode cHeadReader_keepSegment 124 = .ok (.aload_n 0, 1) := by decide +kernel
theorem dHeadReader_keepSegment_125 : decode cHeadReader_keepSegment 125 = .ok (.getfield 15, 3) := by decide +kernel
theorem dHeadReader_keepSegment_128 : decode cHeadReader_keepSegment 128 = .ok (.iload_n 1, 1) := by decide +kernel
theorem dHeadReader_keepSegment_129 : decode cHeadReader_keepSegment 129 = .ok (.iconst 4, 1) := by decide +kernel
theorem dHeadReader_keepSegment_130 : decode cHeadReader_keepSegment 130 = .ok (.iadd, 1) := by decide +kernel
theorem dHeadReader_keepSegment_131 : decode cHeadReader_keepSegment 131 = .ok (.invokevirtual 44, 3) := by decide +kernel
theorem dHeadReader_keepSegment_134 : decode cHeadReader_keepSegment 134 = .ok (.invokestatic 94, 3) := by decide +kernel
theorem dHeadReader_keepSegment_137 : decode cHeadReader_keepSegment 137 = .ok (.invokevirtual 97, 3) := by decide +kernel
theorem dHeadReader_keepSegment_140 : decode cHeadReader_keepSegment 140 = .ok (.ifCond .eq 7, 3) := by decide +kernel
theorem dHeadReader_keepSegment_143 : decode cHeadReader_keepSegment 143 = .ok (.iconst 1, 1) := by decide +kernel
theorem dHeadReader_keepSegment_144 : decode cHeadReader_keepSegment 144 = .ok (.goto 4, 3) := by decide +kernel
theorem dHeadReader_keepSegment_147 : decode cHeadReader_keepSegment 147 = .ok (.iconst 0, 1) := by decide +kernel
theorem dHeadReader_keepSegment_148 : decode cHeadReader_keepSegment 148 = .ok (.ireturn, 1) := by decide +kernel
theorem dHeadReader_keepSegment_149 : decode cHeadReader_keepSegment 149 = .ok (.iload_n 2, 1) := by decide +kernel
theorem dHeadReader_keepSegment_150 : decode cHeadReader_keepSegment 150 = .ok (.iload_n 1, 1) := by decide +kernel
theorem dHeadReader_keepSegment_151 : decode cHeadReader_keepSegment 151 = .ok (.isub, 1) := by decide +kernel
theorem dHeadReader_keepSegment_152 : decode cHeadReader_keepSegment 152 = .ok (.bipush 7, 2) := by decide +kernel
theorem dHeadReader_keepSegment_154 : decode cHeadReader_keepSegment 154 = .ok (.if_icmp .ne 22, 3) := by decide +kernel
theorem dHeadReader_keepSegment_157 : decode cHeadReader_keepSegment 157 = .ok (.aload_n 0, 1) := by decide +kernel
theorem dHeadReader_keepSegment_158 : decode cHeadReader_keepSegment 158 = .ok (.iload_n 1, 1) := by decide +kernel
theorem dHeadReader_keepSegment_159 : decode cHeadReader_keepSegment 159 = .ok (.iconst 4, 1) := by decide +kernel
theorem dHeadReader_keepSegment_160 : decode cHeadReader_keepSegment 160 = .ok (.iadd, 1) := by decide +kernel
theorem dHeadReader_keepSegment_161 : decode cHeadReader_keepSegment 161 = .ok (.iload_n 3, 1) := by decide +kernel
theorem dHeadReader_keepSegment_162 : decode cHeadReader_keepSegment 162 = .ok (.iconst (-1), 1) := by decide +kernel
theorem dHeadReader_keepSegment_163 : decode cHeadReader_keepSegment 163 = .ok (.invokestatic 94, 3) := by decide +kernel
theorem dHeadReader_keepSegment_166 : decode cHeadReader_keepSegment 166 = .ok (.invokevirtual 103, 3) := by decide +kernel
theorem dHeadReader_keepSegment_169 : decode cHeadReader_keepSegment 169 = .ok (.ifCond .eq 7, 3) := by decide +kernel
theorem dHeadReader_keepSegment_172 : decode cHeadReader_keepSegment 172 = .ok (.iconst 1, 1) := by decide +kernel
theorem dHeadReader_keepSegment_173 : decode cHeadReader_keepSegment 173 = .ok (.goto 4, 3) := by decide +kernel
theorem dHeadReader_keepSegment_176 : decode cHeadReader_keepSegment 176 = .ok (.iconst 0, 1) := by decide +kernel
theorem dHeadReader_keepSegment_177 : decode cHeadReader_keepSegment 177 = .ok (.ireturn, 1) := by decide +kernel
theorem dHeadReader_keepSegment_178 : decode cHeadReader_keepSegment 178 = .ok (.iload_n 2, 1) := by decide +kernel
theorem dHeadReader_keepSegment_179 : decode cHeadReader_keepSegment 179 = .ok (.iload_n 1, 1) := by decide +kernel
theorem dHeadReader_keepSegment_180 : decode cHeadReader_keepSegment 180 = .ok (.isub, 1) := by decide +kernel
theorem dHeadReader_keepSegment_181 : decode cHeadReader_keepSegment 181 = .ok (.bipush 8, 2) := by decide +kernel
theorem dHeadReader_keepSegment_183 : decode cHeadReader_keepSegment 183 = .ok (.if_icmp .ne 51, 3) := by decide +kernel
theorem dHeadReader_keepSegment_186 : decode cHeadReader_keepSegment 186 = .ok (.aload_n 0, 1) := by decide +kernel
theorem dHeadReader_keepSegment_187 : decode cHeadReader_keepSegment 187 = .ok (.getfield 19, 3) := by decide +kernel
theorem dHeadReader_keepSegment_190 : decode cHeadReader_keepSegment 190 = .ok (.aload_n 0, 1) := by decide +kernel
theorem dHeadReader_keepSegment_191 : decode cHeadReader_keepSegment 191 = .ok (.getfield 15, 3) := by decide +kernel
theorem dHeadReader_keepSegment_194 : decode cHeadReader_keepSegment 194 = .ok (.iload_n 1, 1) := by decide +kernel
theorem dHeadReader_keepSegment_195 : decode cHeadReader_keepSegment 195 = .ok (.iconst 4, 1) := by decide +kernel
theorem dHeadReader_keepSegment_196 : decode cHeadReader_keepSegment 196 = .ok (.iadd, 1) := by decide +kernel
theorem dHeadReader_keepSegment_197 : decode cHeadReader_keepSegment 197 = .ok (.invokevirtual 44, 3) := by decide +kernel
theorem dHeadReader_keepSegment_200 : decode cHeadReader_keepSegment 200 = .ok (.invokevirtual 100, 3) := by decide +kernel
theorem dHeadReader_keepSegment_203 : decode cHeadReader_keepSegment 203 = .ok (.ifCond .eq 31, 3) := by decide +kernel
theorem dHeadReader_keepSegment_206 : decode cHeadReader_keepSegment 206 = .ok (.aload_n 0, 1) := by decide +kernel
theorem dHeadReader_keepSegment_207 : decode cHeadReader_keepSegment 207 = .ok (.iload_n 1, 1) := by decide +kernel
theorem dHeadReader_keepSegment_208 : decode cHeadReader_keepSegment 208 = .ok (.iconst 5, 1) := by decide +kernel
theorem dHeadReader_keepSegment_209 : decode cHeadReader_keepSegment 209 = .ok (.iadd, 1) := by decide +kernel
theorem dHeadReader_keepSegment_210 : decode cHeadReader_keepSegment 210 = .ok (.iload_n 3, 1) := by decide +kernel
theorem dHeadReader_keepSegment_211 : decode cHeadReader_keepSegment 211 = .ok (.aload_n 0, 1) := by decide +kernel
theorem dHeadReader_keepSegment_212 : decode cHeadReader_keepSegment 212 = .ok (.getfield 15, 3) := by decide +kernel
theorem dHeadReader_keepSegment_215 : decode cHeadReader_keepSegment 215 = .ok (.iload_n 1, 1) := by decide +kernel
theorem dHeadReader_keepSegment_216 : decode cHeadReader_keepSegment 216 = .ok (.iconst 4, 1) := by decide +kernel
theorem dHeadReader_keepSegment_217 : decode cHeadReader_keepSegment 217 = .ok (.iadd, 1) := by decide +kernel
theorem dHeadReader_keepSegment_218 : decode cHeadReader_keepSegment 218 = .ok (.invokevirtual 44, 3) := by decide +kernel
theorem dHeadReader_keepSegment_221 : decode cHeadReader_keepSegment 221 = .ok (.invokestatic 94, 3) := by decide +kernel
theorem dHeadReader_keepSegment_224 : decode cHeadReader_keepSegment 224 = .ok (.invokevirtual 103, 3) := by decide +kernel
theorem dHeadReader_keepSegment_227 : decode cHeadReader_keepSegment 227 = .ok (.ifCond .eq 7, 3) := by decide +kernel
theorem dHeadReader_keepSegment_230 : decode cHeadReader_keepSegment 230 = .ok (.iconst 1, 1) := by decide +kernel
theorem dHeadReader_keepSegment_231 : decode cHeadReader_keepSegment 231 = .ok (.goto 4, 3) := by decide +kernel
theorem dHeadReader_keepSegment_234 : decode cHeadReader_keepSegment 234 = .ok (.iconst 0, 1) := by decide +kernel
theorem dHeadReader_keepSegment_235 : decode cHeadReader_keepSegment 235 = .ok (.ireturn, 1) := by decide +kernel
theorem dHeadReader_keepSegment_236 : decode cHeadReader_keepSegment 236 = .ok (.iconst 1, 1) := by decide +kernel
theorem dHeadReader_keepSegment_237 : decode cHeadReader_keepSegment 237 = .ok (.ireturn, 1) := by decide +kernel
theorem dHeadReader_readHead_0 : decode cHeadReader_readHead 0 = .ok (.aload_n 0, 1) := by decide +kernel
theorem dHeadReader_readHead_1 : decode cHeadReader_readHead 1 = .ok (.iload_n 1, 1) := by decide +kernel
theorem dHeadReader_readHead_2 : decode cHeadReader_readHead 2 = .ok (.iload_n 2, 1) := by decide +kernel
theorem dHeadReader_readHead_3 : decode cHeadReader_readHead 3 = .ok (.bipush 79, 2) := by decide +kernel
theorem dHeadReader_readHead_5 : decode cHeadReader_readHead 5 = .ok (.invokevirtual 23, 3) := by decide +kernel
theorem dHeadReader_readHead_8 : decode cHeadReader_readHead 8 = .ok (.ifCond .ne 5, 3) := by decide +kernel
theorem dHeadReader_readHead_11 : decode cHeadReader_readHead 11 = .ok (.iload_n 1, 1) := by decide +kernel
theorem dHeadReader_readHead_12 : decode cHeadReader_readHead 12 = .ok (.ireturn, 1) := by decide +kernel
theorem dHeadReader_readHead_13 : decode cHeadReader_readHead 13 = .ok (.iload_n 1, 1) := by decide +kernel
theorem dHeadReader_readHead_14 : decode cHeadReader_readHead 14 = .ok (.iconst 2, 1) := by decide +kernel
theorem dHeadReader_readHead_15 : decode cHeadReader_readHead 15 = .ok (.iadd, 1) := by decide +kernel
theorem dHeadReader_readHead_16 : decode cHeadReader_readHead 16 = .ok (.istore_n 3, 1) := by decide +kernel
theorem dHeadReader_readHead_17 : decode cHeadReader_readHead 17 = .ok (.aload_n 0, 1) := by decide +kernel
theorem dHeadReader_readHead_18 : decode cHeadReader_readHead 18 = .ok (.iload_n 3, 1) := by decide +kernel
theorem dHeadReader_readHead_19 : decode cHeadReader_readHead 19 = .ok (.iload_n 2, 1) := by decide +kernel
theorem dHeadReader_readHead_20 : decode cHeadReader_readHead 20 = .ok (.bipush 81, 2) := by decide +kernel
theorem dHeadReader_readHead_22 : decode cHeadReader_readHead 22 = .ok (.invokevirtual 23, 3) := by decide +kernel
theorem dHeadReader_readHead_25 : decode cHeadReader_readHead 25 = .ok (.ifCond .eq 12, 3) := by decide +kernel
theorem dHeadReader_readHead_28 : decode cHeadReader_readHead 28 = .ok (.aload_n 0, 1) := by decide +kernel
theorem dHeadReader_readHead_29 : decode cHeadReader_readHead 29 = .ok (.iload_n 3, 1) := by decide +kernel
theorem dHeadReader_readHead_30 : decode cHeadReader_readHead 30 = .ok (.iload_n 2, 1) := by decide +kernel
theorem dHeadReader_readHead_31 : decode cHeadReader_readHead 31 = .ok (.invokevirtual 27, 3) := by decide +kernel
theorem dHeadReader_readHead_34 : decode cHeadReader_readHead 34 = .ok (.goto 4, 3) := by decide +kernel
theorem dHeadReader_readHead_37 : decode cHeadReader_readHead 37 = .ok (.iconst (-1), 1) := by decide +kernel
theorem dHeadReader_readHead_38 : decode cHeadReader_readHead 38 = .ok (.istore 4, 2) := by decide +kernel
theorem dHeadReader_readHead_40 : decode cHeadReader_readHead 40 = .ok (.iload 4, 2) := by decide +kernel
theorem dHeadReader_readHead_42 : decode cHeadReader_readHead 42 = .ok (.iconst (-1), 1) := by decide +kernel
theorem dHeadReader_readHead_43 : decode cHeadReader_readHead 43 = .ok (.if_icmp .eq 13, 3) := by decide +kernel
theorem dHeadReader_readHead_46 : decode cHeadReader_readHead 46 = .ok (.aload_n 0, 1) := by decide +kernel
theorem dHeadReader_readHead_47 : decode cHeadReader_readHead 47 = .ok (.iload_n 3, 1) := by decide +kernel
theorem dHeadReader_readHead_48 : decode cHeadReader_readHead 48 = .ok (.iload 4, 2) := by decide +kernel
theorem dHeadReader_readHead_50 : decode cHeadReader_readHead 50 = .ok (.invokevirtual 31, 3) := by decide +kernel
theorem dHeadReader_readHead_53 : decode cHeadReader_readHead 53 = .ok (.ifCond .ne 5, 3) := by decide +kernel
theorem dHeadReader_readHead_56 : decode cHeadReader_readHead 56 = .ok (.iload_n 3, 1) := by decide +kernel
theorem dHeadReader_readHead_57 : decode cHeadReader_readHead 57 = .ok (.ireturn, 1) := by decide +kernel
theorem dHeadReader_readHead_58 : decode cHeadReader_readHead 58 = .ok (.iconst 0, 1) := by decide +kernel
theorem dHeadReader_readHead_59 : decode cHeadReader_readHead 59 = .ok (.istore 5, 2) := by decide +kernel
theorem dHeadReader_readHead_61 : decode cHeadReader_readHead 61 = .ok (.iload 5, 2) := by decide +kernel
theorem dHeadReader_readHead_63 : decode cHeadReader_readHead 63 = .ok (.sipush 20000, 3) := by decide +kernel
theorem dHeadReader_readHead_66 : decode cHeadReader_readHead 66 = .ok (.if_icmp .ge 84, 3) := by decide +kernel
theorem dHeadReader_readHead_69 : decode cHeadReader_readHead 69 = .ok (.iload 4, 2) := by decide +kernel
theorem dHeadReader_readHead_71 : decode cHeadReader_readHead 71 = .ok (.istore_n 3, 1) := by decide +kernel
theorem dHeadReader_readHead_72 : decode cHeadReader_readHead 72 = .ok (.aload_n 0, 1) := by decide +kernel
theorem dHeadReader_readHead_73 : decode cHeadReader_readHead 73 = .ok (.iload_n 3, 1) := by decide +kernel
theorem dHeadReader_readHead_74 : decode cHeadReader_readHead 74 = .ok (.iload_n 2, 1) := by decide +kernel
theorem dHeadReader_readHead_75 : decode cHeadReader_readHead 75 = .ok (.sipush 144, 3) := by decide +kernel
theorem dHeadReader_readHead_78 : decode cHeadReader_readHead 78 = .ok (.invokevirtual 23, 3) := by decide +kernel
theorem dHeadReader_readHead_81 : decode cHeadReader_readHead 81 = .ok (.ifCond .ne 15, 3) := by decide +kernel
theorem dHeadReader_readHead_84 : decode cHeadReader_readHead 84 = .ok (.aload_n 0, 1) := by decide +kernel
theorem dHeadReader_readHead_85 : decode cHeadReader_readHead 85 = .ok (.iload_n 3, 1) := by decide +kernel
theorem dHeadReader_readHead_86 : decode cHeadReader_readHead 86 = .ok (.iload_n 2, 1) := by decide +kernel
theorem dHeadReader_readHead_87 : decode cHeadReader_readHead 87 = .ok (.sipush 217, 3) := by decide +kernel
theorem dHeadReader_readHead_90 : decode cHeadReader_readHead 90 = .ok (.invokevirtual 23, 3) := by decide +kernel
theorem dHeadReader_readHead_93 : decode cHeadReader_readHead 93 = .ok (.ifCond .eq 24, 3) := by decide +kernel
theorem dHeadReader_readHead_96 : decode cHeadReader_readHead 96 = .ok (.aload_n 0, 1) := by decide +kernel
theorem dHeadReader_readHead_97 : decode cHeadReader_readHead 97 = .ok (.iload_n 3, 1) := by decide +kernel
theorem dHeadReader_readHead_98 : decode cHeadReader_readHead 98 = .ok (.putfield 9, 3) := by decide +kernel
theorem dHeadReader_readHead_101 : decode cHeadReader_readHead 101 = .ok (.aload_n 0, 1) := by decide +kernel
theorem dHeadReader_readHead_102 : decode cHeadReader_readHead 102 = .ok (.getfield 19, 3) := by decide +kernel
theorem dHeadReader_readHead_105 : decode cHeadReader_readHead 105 = .ok (.invokevirtual 35, 3) := by decide +kernel
theorem dHeadReader_readHead_108 : decode cHeadReader_readHead 108 = .ok (.ifCond .eq 7, 3) := by decide +kernel
theorem dHeadReader_readHead_111 : decode cHeadReader_readHead 111 = .ok (.iconst (-1), 1) := by decide +kernel
theorem dHeadReader_readHead_112 : decode cHeadReader_readHead 112 = .ok (.goto 4, 3) := by decide +kernel
theorem dHeadReader_readHead_115 : decode cHeadReader_readHead 115 = .ok (.iload_n 3, 1) := by decide +kernel
theorem dHeadReader_readHead_116 : decode cHeadReader_readHead 116 = .ok (.ireturn, 1) := by decide +kernel
theorem dHeadReader_readHead_117 : decode cHeadReader_readHead 117 = .ok (.aload_n 0, 1) := by decide +kernel
theorem dHeadReader_readHead_118 : decode cHeadReader_readHead 118 = .ok (.iload_n 3, 1) := by decide +kernel
theorem dHeadReader_readHead_119 : decode cHeadReader_readHead 119 = .ok (.iload_n 2, 1) := by decide +kernel
theorem dHeadReader_readHead_120 : decode cHeadReader_readHead 120 = .ok (.invokevirtual 27, 3) := by decide +kernel
theorem dHeadReader_readHead_123 : decode cHeadReader_readHead 123 = .ok (.istore 4, 2) := by decide +kernel
theorem dHeadReader_readHead_125 : decode cHeadReader_readHead 125 = .ok (.iload 4, 2) := by decide +kernel
theorem dHeadReader_readHead_127 : decode cHeadReader_readHead 127 = .ok (.iconst (-1), 1) := by decide +kernel
theorem dHeadReader_readHead_128 : decode cHeadReader_readHead 128 = .ok (.if_icmp .eq 14, 3) := by decide +kernel
theorem dHeadReader_readHead_131 : decode cHeadReader_readHead 131 = .ok (.aload_n 0, 1) := by decide +kernel
theorem dHeadReader_readHead_132 : decode cHeadReader_readHead 132 = .ok (.iload_n 3, 1) := by decide +kernel
theorem dHeadReader_readHead_133 : decode cHeadReader_readHead 133 = .ok (.iload 4, 2) := by decide +kernel
theorem dHeadReader_readHead_135 : decode cHeadReader_readHead 135 = .ok (.iconst (-1), 1) := by decide +kernel
theorem dHeadReader_readHead_136 : decode cHeadReader_readHead 136 = .ok (.invokevirtual 41, 3) := by decide +kernel
theorem dHeadReader_readHead_139 : decode cHeadReader_readHead 139 = .ok (.ifCond .ne 5, 3) := by decide +kernel
theorem dHeadReader_readHead_142 : decode cHeadReader_readHead 142 = .ok (.iload_n 3, 1) := by decide +kernel
theorem dHeadReader_readHead_143 : decode cHeadReader_readHead 143 = .ok (.ireturn, 1) := by decide +kernel
theorem dHeadReader_readHead_144 : decode cHeadReader_readHead 144 = .ok (.iinc 5 1, 3) := by decide +kernel
theorem dHeadReader_readHead_147 : decode cHeadReader_readHead 147 = .ok (.goto (-86), 3) := by decide +kernel
theorem dHeadReader_readHead_150 : decode cHeadReader_readHead 150 = .ok (.iload_n 3, 1) := by decide +kernel
theorem dHeadReader_readHead_151 : decode cHeadReader_readHead 151 = .ok (.ireturn, 1) := by decide +kernel
theorem dHeadReader_isSegmentCode_0 : decode cHeadReader_isSegmentCode 0 = .ok (.iload_n 0, 1) := by decide +kernel
theorem dHeadReader_isSegmentCode_1 : decode cHeadReader_isSegmentCode 1 = .ok (.bipush 82, 2) := by decide +kernel
theorem dHeadReader_isSegmentCode_3 : decode cHeadReader_isSegmentCode 3 = .ok (.if_icmp .eq 21, 3) := by decide +kernel
theorem dHeadReader_isSegmentCode_6 : decode cHeadReader_isSegmentCode 6 = .ok (.iload_n 0, 1) := by decide +kernel
theorem dHeadReader_isSegmentCode_7 : decode cHeadReader_isSegmentCode 7 = .ok (.bipush 83, 2) := by decide +kernel
theorem dHeadReader_isSegmentCode_9 : decode cHeadReader_isSegmentCode 9 = .ok (.if_icmp .eq 15, 3) := by decide +kernel
theorem dHeadReader_isSegmentCode_12 : decode cHeadReader_isSegmentCode 12 = .ok (.iload_n 0, 1) := by decide +kernel
theorem dHeadReader_isSegmentCode_13 : decode cHeadReader_isSegmentCode 13 = .ok (.bipush 92, 2) := by decide +kernel
theorem dHeadReader_isSegmentCode_15 : decode cHeadReader_isSegmentCode 15 = .ok (.if_icmp .eq 9, 3) := by decide +kernel
theorem dHeadReader_isSegmentCode_18 : decode cHeadReader_isSegmentCode 18 = .ok (.iload_n 0, 1) := by decide +kernel
theorem dHeadReader_isSegmentCode_19 : decode cHeadReader_isSegmentCode 19 = .ok (.bipush 93, 2) := by decide +kernel
theorem dHeadReader_isSegmentCode_21 : decode cHeadReader_isSegmentCode 21 = .ok (.if_icmp .ne 7, 3) := by decide +kernel
theorem dHeadReader_isSegmentCode_24 : decode cHeadReader_isSegmentCode 24 = .ok (.iconst 1, 1) := by decide +kernel
theorem dHeadReader_isSegmentCode_25 : decode cHeadReader_isSegmentCode 25 = .ok (.goto 4, 3) := by decide +kernel
theorem dHeadReader_isSegmentCode_28 : decode cHeadReader_isSegmentCode 28 = .ok (.iconst 0, 1) := by decide +kernel
theorem dHeadReader_isSegmentCode_29 : decode cHeadReader_isSegmentCode 29 = .ok (.ireturn, 1) := by decide +kernel
theorem dPartReader_init_0 : decode cPartReader_init 0 = .ok (.aload_n 0, 1) := by decide +kernel
theorem dPartReader_init_1 : decode cPartReader_init 1 = .ok (.invokespecial 3, 3) := by decide +kernel
theorem dPartReader_init_4 : decode cPartReader_init 4 = .ok (.aload_n 0, 1) := by decide +kernel
theorem dPartReader_init_5 : decode cPartReader_init 5 = .ok (.sipush 300, 3) := by decide +kernel
theorem dPartReader_init_8 : decode cPartReader_init 8 = .ok (.newarray .int, 2) := by decide +kernel
theorem dPartReader_init_10 : decode cPartReader_init 10 = .ok (.putfield 9, 3) := by decide +kernel
theorem dPartReader_init_13 : decode cPartReader_init 13 = .ok (.aload_n 0, 1) := by decide +kernel
theorem dPartReader_init_14 : decode cPartReader_init 14 = .ok (.sipush 300, 3) := by decide +kernel
theorem dPartReader_init_17 : decode cPartReader_init 17 = .ok (.newarray .int, 2) := by decide +kernel
theorem dPartReader_init_19 : decode cPartReader_init 19 = .ok (.putfield 15, 3) := by decide +kernel
theorem dPartReader_init_22 : decode cPartReader_init 22 = .ok (.aload_n 0, 1) := by decide +kernel
theorem dPartReader_init_23 : decode cPartReader_init 23 = .ok (.sipush 300, 3) := by decide +kernel
theorem dPartReader_init_26 : decode cPartReader_init 26 = .ok (.newarray .int, 2) := by decide +kernel
theorem dPartReader_init_28 : decode cPartReader_init 28 = .ok (.putfield 18, 3) := by decide +kernel
theorem dPartReader_init_31 : decode cPartReader_init 31 = .ok (.aload_n 0, 1) := by decide +kernel
theorem dPartReader_init_32 : decode cPartReader_init 32 = .ok (.sipush 300, 3) := by decide +kernel
theorem dPartReader_init_35 : decode cPartReader_init 35 = .ok (.newarray .int, 2) := by decide +kernel
theorem dPartReader_init_37 : decode cPartReader_init 37 = .ok (.putfield 21, 3) := by decide +kernel
theorem dPartReader_init_40 : decode cPartReader_init 40 = .ok (.aload_n 0, 1) := by decide +kernel
theorem dPartReader_init_41 : decode cPartReader_init 41 = .ok (.sipush 300, 3) := by decide +kernel
theorem dPartReader_init_44 : decode cPartReader_init 44 = .ok (.newarray .int, 2) := by decide +kernel
theorem dPartReader_init_46 : decode cPartReader_init 46 = .ok (.putfield 24, 3) := by decide +kernel
theorem dPartReader_init_49 : decode cPartReader_init 49 = .ok (.aload_n 0, 1) := by decide +kernel
theorem dPartReader_init_50 : decode cPartReader_init 50 = .ok (.sipush 300, 3) := by decide +kernel
theorem dPartReader_init_53 : decode cPartReader_init 53 = .ok (.newarray .boolean, 2) := by decide +kernel
theorem dPartReader_init_55 : decode cPartReader_init 55 = .ok (.putfield 27, 3) := by decide +kernel
theorem dPartReader_init_58 : decode cPartReader_init 58 = .ok (.aload_n 0, 1) := by decide +kernel
theorem dPartReader_init_59 : decode cPartReader_init 59 = .ok (.bipush 24, 2) := by decide +kernel
theorem dPartReader_init_61 : decode cPartReader_init 61 = .ok (.newarray .int, 2) := by decide +kernel
theorem dPartReader_init_63 : decode cPartReader_init 63 = .ok (.putfield 31, 3) := by decide +kernel
theorem dPartReader_init_66 : decode cPartReader_init 66 = .ok (.aload_n 0, 1) := by decide +kernel
theorem dPartReader_init_67 : decode cPartReader_init 67 = .ok (.sipush 200, 3) := by decide +kernel
theorem dPartReader_init_70 : decode cPartReader_init 70 = .ok (.newarray .int, 2) := by decide +kernel
theorem dPartReader_init_72 : decode cPartReader_init 72 = .ok (.putfield 34, 3) := by decide +kernel
theorem dPartReader_init_75 : decode cPartReader_init 75 = .ok (.aload_n 0, 1) := by decide +kernel
theorem dPartReader_init_76 : decode cPartReader_init 76 = .ok (.iconst 0, 1) := by decide +kernel
theorem dPartReader_init_77 : decode cPartReader_init 77 = .ok (.putfield 37, 3) := by decide +kernel
theorem dPartReader_init_80 : decode cPartReader_init 80 = .ok (.aload_n 0, 1) := by decide +kernel
theorem dPartReader_init_81 : decode cPartReader_init 81 = .ok (.iconst 0, 1) := by decide +kernel
theorem dPartReader_init_82 : decode cPartReader_init 82 = .ok (.putfield 41, 3) := by decide +kernel
theorem dPartReader_init_85 : decode cPartReader_init 85 = .ok (.aload_n 0, 1) := by decide +kernel
theorem dPartReader_init_86 : decode cPartReader_init 86 = .ok (.aload_n 1, 1) := by decide +kernel
theorem dPartReader_init_87 : decode cPartReader_init 87 = .ok (.putfield 44, 3) := by decide +kernel
theorem dPartReader_init_90 : decode cPartReader_init 90 = .ok (.aload_n 0, 1) := by decide +kernel
theorem dPartReader_init_91 : decode cPartReader_init 91 = .ok (.aload_n 2, 1) := by decide +kernel
theorem dPartReader_init_92 : decode cPartReader_init 92 = .ok (.putfield 48, 3) := by decide +kernel
theorem dPartReader_init_95 : decode cPartReader_init 95 = .ok (.aload_n 0, 1) := by decide +kernel
theorem dPartReader_init_96 : decode cPartReader_init 96 = .ok (.aload_n 3, 1) := by decide +kernel
theorem dPartReader_init_97 : decode cPartReader_init 97 = .ok (.putfield 52, 3) := by decide +kernel
theorem dPartReader_init_100 : decode cPartReader_init 100 = .ok (.return_, 1) := by decide +kernel
theorem dPartReader_forget_0 : decode cPartReader_forget 0 = .ok (.aload_n 0, 1) := by decide +kernel
theorem dPartReader_forget_1 : decode cPartReader_forget 1 = .ok (.iconst 0, 1) := by decide +kernel
theorem dPartReader_forget_2 : decode cPartReader_forget 2 = .ok (.putfield 41, 3) := by decide +kernel
theorem dPartReader_forget_5 : decode cPartReader_forget 5 = .ok (.iconst 0, 1) := by decide +kernel
theorem dPartReader_forget_6 : decode cPartReader_forget 6 = .ok (.istore_n 1, 1) := by decide +kernel
theorem dPartReader_forget_7 : decode cPartReader_forget 7 = .ok (.iload_n 1, 1) := by decide +kernel
theorem dPartReader_forget_8 : decode cPartReader_forget 8 = .ok (.bipush 24, 2) := by decide +kernel
theorem dPartReader_forget_10 : decode cPartReader_forget 10 = .ok (.if_icmp .ge 16, 3) := by decide +kernel
theorem dPartReader_forget_13 : decode cPartReader_forget 13 = .ok (.aload_n 0, 1) := by decide +kernel
theorem dPartReader_forget_14 : decode cPartReader_forget 14 = .ok (.getfield 31, 3) := by decide +kernel
theorem dPartReader_forget_17 : decode cPartReader_forget 17 = .ok (.iload_n 1, 1) := by decide +kernel
theorem dPartReader_forget_18 : decode cPartReader_forget 18 = .ok (.iconst 0, 1) := by decide +kernel
theorem dPartReader_forget_19 : decode cPartReader_forget 19 = .ok (.iastore, 1) := by decide +kernel
theorem dPartReader_forget_20 : decode cPartReader_forget 20 = .ok (.iinc 1 1, 3) := by decide +kernel
theorem dPartReader_forget_23 : decode cPartReader_forget 23 = .ok (.goto (-16), 3) := by decide +kernel
theorem dPartReader_forget_26 : decode cPartReader_forget 26 = .ok (.return_, 1) := by decide +kernel
theorem dPartReader_numberOf_0 : decode cPartReader_numberOf 0 = .ok (.iload_n 2, 1) := by decide +kernel
theorem dPartReader_numberOf_1 : decode cPartReader_numberOf 1 = .ok (.tableswitch 98 0 5 #[39, 46, 53, 60, 67, 83], 39) := by decide +kernel
theorem dPartReader_numberOf_40 : decode cPartReader_numberOf 40 = .ok (.aload_n 0, 1) := by decide +kernel
theorem dPartReader_numberOf_41 : decode cPartReader_numberOf 41 = .ok (.getfield 9, 3) := by decide +kernel
theorem dPartReader_numberOf_44 : decode cPartReader_numberOf 44 = .ok (.iload_n 1, 1) := by decide +kernel
theorem dPartReader_numberOf_45 : decode cPartReader_numberOf 45 = .ok (.iaload, 1) := by decide +kernel
theorem dPartReader_numberOf_46 : decode cPartReader_numberOf 46 = .ok (.ireturn, 1) := by decide +kernel
theorem dPartReader_numberOf_47 : decode cPartReader_numberOf 47 = .ok (.aload_n 0, 1) := by decide +kernel
theorem dPartReader_numberOf_48 : decode cPartReader_numberOf 48 = .ok (.getfield 15, 3) := by decide +kernel
theorem dPartReader_numberOf_51 : decode cPartReader_numberOf 51 = .ok (.iload_n 1, 1) := by decide +kernel
theorem dPartReader_numberOf_52 : decode cPartReader_numberOf 52 = .ok (.iaload, 1) := by decide +kernel
theorem dPartReader_numberOf_53 : decode cPartReader_numberOf 53 = .ok (.ireturn, 1) := by decide +kernel
theorem dPartReader_numberOf_54 : decode cPartReader_numberOf 54 = .ok (.aload_n 0, 1) := by decide +kernel
theorem dPartReader_numberOf_55 : decode cPartReader_numberOf 55 = .ok (.getfield 21, 3) := by decide +kernel
theorem dPartReader_numberOf_58 : decode cPartReader_numberOf 58 = .ok (.iload_n 1, 1) := by decide +kernel
theorem dPartReader_numberOf_59 : decode cPartReader_numberOf 59 = .ok (.iaload, 1) := by decide +kernel
theorem dPartReader_numberOf_60 : decode cPartReader_numberOf 60 = .ok (.ireturn, 1) := by decide +kernel
theorem dPartReader_numberOf_61 : decode cPartReader_numberOf 61 = .ok (.aload_n 0, 1) := by decide +kernel
theorem dPartReader_numberOf_62 : decode cPartReader_numberOf 62 = .ok (.getfield 24, 3) := by decide +kernel
theorem dPartReader_numberOf_65 : decode cPartReader_numberOf 65 = .ok (.iload_n 1, 1) := by decide +kernel
theorem dPartReader_numberOf_66 : decode cPartReader_numberOf 66 = .ok (.iaload, 1) := by decide +kernel
theorem dPartReader_numberOf_67 : decode cPartReader_numberOf 67 = .ok (.ireturn, 1) := by decide +kernel
theorem dPartReader_numberOf_68 : decode cPartReader_numberOf 68 = .ok (.aload_n 0, 1) := by decide +kernel
theorem dPartReader_numberOf_69 : decode cPartReader_numberOf 69 = .ok (.getfield 9, 3) := by decide +kernel
theorem dPartReader_numberOf_72 : decode cPartReader_numberOf 72 = .ok (.iload_n 1, 1) := by decide +kernel
theorem dPartReader_numberOf_73 : decode cPartReader_numberOf 73 = .ok (.iaload, 1) := by decide +kernel
theorem dPartReader_numberOf_74 : decode cPartReader_numberOf 74 = .ok (.iconst (-1), 1) := by decide +kernel
theorem dPartReader_numberOf_75 : decode cPartReader_numberOf 75 = .ok (.if_icmp .ne 7, 3) := by decide +kernel
theorem dPartReader_numberOf_78 : decode cPartReader_numberOf 78 = .ok (.iconst 1, 1) := by decide +kernel
theorem dPartReader_numberOf_79 : decode cPartReader_numberOf 79 = .ok (.goto 4, 3) := by decide +kernel
theorem dPartReader_numberOf_82 : decode cPartReader_numberOf 82 = .ok (.iconst 0, 1) := by decide +kernel
theorem dPartReader_numberOf_83 : decode cPartReader_numberOf 83 = .ok (.ireturn, 1) := by decide +kernel
theorem dPartReader_numberOf_84 : decode cPartReader_numberOf 84 = .ok (.aload_n 0, 1) := by decide +kernel
theorem dPartReader_numberOf_85 : decode cPartReader_numberOf 85 = .ok (.getfield 27, 3) := by decide +kernel
theorem dPartReader_numberOf_88 : decode cPartReader_numberOf 88 = .ok (.iload_n 1, 1) := by decide +kernel
theorem dPartReader_numberOf_89 : decode cPartReader_numberOf 89 = .ok (.baload, 1) := by decide +kernel
theorem dPartReader_numberOf_90 : decode cPartReader_numberOf 90 = .ok (.ifCond .eq 7, 3) := by decide +kernel
theorem dPartReader_numberOf_93 : decode cPartReader_numberOf 93 = .ok (.iconst 1, 1) := by decide +kernel
theorem dPartReader_numberOf_94 : decode cPartReader_numberOf 94 = .ok (.goto 4, 3) := by decide +kernel
theorem dPartReader_numberOf_97 : decode cPartReader_numberOf 97 = .ok (.iconst 0, 1) := by decide +kernel
theorem dPartReader_numberOf_98 : decode cPartReader_numberOf 98 = .ok (.ireturn, 1) := by decide +kernel
theorem dPartReader_numberOf_99 : decode cPartReader_numberOf 99 = .ok (.iconst (-1), 1) := by decide +kernel
theorem dPartReader_numberOf_100 : decode cPartReader_numberOf 100 = .ok (.ireturn, 1) := by decide +kernel
theorem dPartReader_spoiltOnes_0 : decode cPartReader_spoiltOnes 0 = .ok (.iconst 0, 1) := by decide +kernel
theorem dPartReader_spoiltOnes_1 : decode cPartReader_spoiltOnes 1 = .ok (.istore_n 1, 1) := by decide +kernel
theorem dPartReader_spoiltOnes_2 : decode cPartReader_spoiltOnes 2 = .ok (.iconst 0, 1) := by decide +kernel
theorem dPartReader_spoiltOnes_3 : decode cPartReader_spoiltOnes 3 = .ok (.istore_n 2, 1) := by decide +kernel
theorem dPartReader_spoiltOnes_4 : decode cPartReader_spoiltOnes 4 = .ok (.iload_n 2, 1) := by decide +kernel
theorem dPartReader_spoiltOnes_5 : decode cPartReader_spoiltOnes 5 = .ok (.aload_n 0, 1) := by decide +kernel
theorem dPartReader_spoiltOnes_6 : decode cPartReader_spoiltOnes 6 = .ok (.getfield 41, 3) := by decide +kernel
theorem dPartReader_spoiltOnes_9 : decode cPartReader_spoiltOnes 9 = .ok (.if_icmp .ge 18, 3) := by decide +kernel
theorem dPartReader_spoiltOnes_12 : decode cPartReader_spoiltOnes 12 = .ok (.iload_n 1, 1) := by decide +kernel
theorem dPartReader_spoiltOnes_13 : decode cPartReader_spoiltOnes 13 = .ok (.aload_n 0, 1) := by decide +kernel
theorem dPartReader_spoiltOnes_14 : decode cPartReader_spoiltOnes 14 = .ok (.iload_n 2, 1) := by decide +kernel
theorem dPartReader_spoiltOnes_15 : decode cPartReader_spoiltOnes 15 = .ok (.iconst 4, 1) := by decide +kernel
theorem dPartReader_spoiltOnes_16 : decode cPartReader_spoiltOnes 16 = .ok (.invokevirtual 56, 3) := by decide +kernel
theorem dPartReader_spoiltOnes_19 : decode cPartReader_spoiltOnes 19 = .ok (.iadd, 1) := by decide +kernel
theorem dPartReader_spoiltOnes_20 : decode cPartReader_spoiltOnes 20 = .ok (.istore_n 1, 1) := by decide +kernel
theorem dPartReader_spoiltOnes_21 : decode cPartReader_spoiltOnes 21 = .ok (.iinc 2 1, 3) := by decide +kernel
theorem dPartReader_spoiltOnes_24 : decode cPartReader_spoiltOnes 24 = .ok (.goto (-20), 3) := by decide +kernel
theorem dPartReader_spoiltOnes_27 : decode cPartReader_spoiltOnes 27 = .ok (.iload_n 1, 1) := by decide +kernel
theorem dPartReader_spoiltOnes_28 : decode cPartReader_spoiltOnes 28 = .ok (.ireturn, 1) := by decide +kernel
theorem dPartReader_wholePackets_0 : decode cPartReader_wholePackets 0 = .ok (.iconst 0, 1) := by decide +kernel
theorem dPartReader_wholePackets_1 : decode cPartReader_wholePackets 1 = .ok (.istore_n 1, 1) := by decide +kernel
theorem dPartReader_wholePackets_2 : decode cPartReader_wholePackets 2 = .ok (.iconst 0, 1) := by decide +kernel
theorem dPartReader_wholePackets_3 : decode cPartReader_wholePackets 3 = .ok (.istore_n 2, 1) := by decide +kernel
theorem dPartReader_wholePackets_4 : decode cPartReader_wholePackets 4 = .ok (.iload_n 2, 1) := by decide +kernel
theorem dPartReader_wholePackets_5 : decode cPartReader_wholePackets 5 = .ok (.aload_n 0, 1) := by decide +kernel
theorem dPartReader_wholePackets_6 : decode cPartReader_wholePackets 6 = .ok (.getfield 41, 3) := by decide +kernel
theorem dPartReader_wholePackets_9 : decode cPartReader_wholePackets 9 = .ok (.if_icmp .ge 18, 3) := by decide +kernel
theorem dPartReader_wholePackets_12 : decode cPartReader_wholePackets 12 = .ok (.iload_n 1, 1) := by decide +kernel
theorem dPartReader_wholePackets_13 : decode cPartReader_wholePackets 13 = .ok (.aload_n 0, 1) := by decide +kernel
theorem dPartReader_wholePackets_14 : decode cPartReader_wholePackets 14 = .ok (.getfield 24, 3) := by decide +kernel
theorem dPartReader_wholePackets_17 : decode cPartReader_wholePackets 17 = .ok (.iload_n 2, 1) := by decide +kernel
theorem dPartReader_wholePackets_18 : decode cPartReader_wholePackets 18 = .ok (.iaload, 1) := by decide +kernel
theorem dPartReader_wholePackets_19 : decode cPartReader_wholePackets 19 = .ok (.iadd, 1) := by decide +kernel
theorem dPartReader_wholePackets_20 : decode cPartReader_wholePackets 20 = .ok (.istore_n 1, 1) := by decide +kernel
theorem dPartReader_wholePackets_21 : decode cPartReader_wholePackets 21 = .ok (.iinc 2 1, 3) := by decide +kernel
theorem dPartReader_wholePackets_24 : decode cPartReader_wholePackets 24 = .ok (.goto (-20), 3) := by decide +kernel
theorem dPartReader_wholePackets_27 : decode cPartReader_wholePackets 27 = .ok (.iload_n 1, 1) := by decide +kernel
theorem dPartReader_wholePackets_28 : decode cPartReader_wholePackets 28 = .ok (.ireturn, 1) := by decide +kernel
theorem dPartReader_beginsPart_0 : decode cPartReader_beginsPart 0 = .ok (.aload_n 0, 1) := by decide +kernel
theorem dPartReader_beginsPart_1 : decode cPartReader_beginsPart 1 = .ok (.getfield 52, 3) := by decide +kernel
theorem dPartReader_beginsPart_4 : decode cPartReader_beginsPart 4 = .ok (.iload_n 1, 1) := by decide +kernel
theorem dPartReader_beginsPart_5 : decode cPartReader_beginsPart 5 = .ok (.iload_n 2, 1) := by decide +kernel
theorem dPartReader_beginsPart_6 : decode cPartReader_beginsPart 6 = .ok (.sipush 144, 3) := by decide +kernel
theorem dPartReader_beginsPart_9 : decode cPartReader_beginsPart 9 = .ok (.invokevirtual 74, 3) := by decide +kernel
theorem dPartReader_beginsPart_12 : decode cPartReader_beginsPart 12 = .ok (.ifCond .eq 11, 3) := by decide +kernel
theorem dPartReader_beginsPart_15 : decode cPartReader_beginsPart 15 = .ok (.iload_n 2, 1) := by decide +kernel
theorem dPartReader_beginsPart_16 : decode cPartReader_beginsPart 16 = .ok (.iload_n 1, 1) := by decide +kernel
theorem dPartReader_beginsPart_17 : decode cPartReader_beginsPart 17 = .ok (.isub, 1) := by decide +kernel
theorem dPartReader_beginsPart_18 : decode cPartReader_beginsPart 18 = .ok (.bipush 12, 2) := by decide +kernel
theorem dPartReader_beginsPart_20 : decode cPartReader_beginsPart 20 = .ok (.if_icmp .ge 5, 3) := by decide +kernel
theorem dPartReader_beginsPart_23 : decode cPartReader_beginsPart 23 = .ok (.iconst 0, 1) := by decide +kernel
theorem dPartReader_beginsPart_24 : decode cPartReader_beginsPart 24 = .ok (.ireturn, 1) := by decide +kernel
theorem dPartReader_beginsPart_25 : decode cPartReader_beginsPart 25 = .ok (.aload_n 0, 1) := by decide +kernel
theorem dPartReader_beginsPart_26 : decode cPartReader_beginsPart 26 = .ok (.getfield 44, 3) := by decide +kernel
theorem dPartReader_beginsPart_29 : decode cPartReader_beginsPart 29 = .ok (.iload_n 1, 1) := by decide +kernel
theorem dPartReader_beginsPart_30 : decode cPartReader_beginsPart 30 = .ok (.bipush 6, 2) := by decide +kernel
theorem dPartReader_beginsPart_32 : decode cPartReader_beginsPart 32 = .ok (.iadd, 1) := by decide +kernel
theorem dPartReader_beginsPart_33 : decode cPartReader_beginsPart 33 = .ok (.iconst 4, 1) := by decide +kernel
theorem dPartReader_beginsPart_34 : decode cPartReader_beginsPart 34 = .ok (.invokevirtual 64, 3) := by decide +kernel
theorem dPartReader_beginsPart_37 : decode cPartReader_beginsPart 37 = .ok (.lstore_n 3, 1) := by decide +kernel
theorem dPartReader_beginsPart_38 : decode cPartReader_beginsPart 38 = .ok (.lload_n 3, 1) := by decide +kernel
theorem dPartReader_beginsPart_39 : decode cPartReader_beginsPart 39 = .ok (.lconst 0, 1) := by decide +kernel
theorem dPartReader_beginsPart_40 : decode cPartReader_beginsPart 40 = .ok (.lcmp, 1) := by decide +kernel
theorem dPartReader_beginsPart_41 : decode cPartReader_beginsPart 41 = .ok (.ifCond .eq 11, 3) := by decide +kernel
theorem dPartReader_beginsPart_44 : decode cPartReader_beginsPart 44 = .ok (.lload_n 3, 1) := by decide +kernel
theorem dPartReader_beginsPart_45 : decode cPartReader_beginsPart 45 = .ok (.ldc2_w 80, 3) := by decide +kernel
theorem dPartReader_beginsPart_48 : decode cPartReader_beginsPart 48 = .ok (.lcmp, 1) := by decide +kernel
theorem dPartReader_beginsPart_49 : decode cPartReader_beginsPart 49 = .ok (.ifCond .lt 7, 3) := by decide +kernel
theorem dPartReader_beginsPart_52 : decode cPartReader_beginsPart 52 = .ok (.iconst 1, 1) := by decide +kernel
theorem dPartReader_beginsPart_53 : decode cPartReader_beginsPart 53 = .ok (.goto 4, 3) := by decide +kernel
theorem dPartReader_beginsPart_56 : decode cPartReader_beginsPart 56 = .ok (.iconst 0, 1) := by decide +kernel
theorem dPartReader_beginsPart_57 : decode cPartReader_beginsPart 57 = .ok (.ireturn, 1) := by decide +kernel
theorem dPartReader_keepLengths_0 : decode cPartReader_keepLengths 0 = .ok (.iload_n 2, 1) := by decide +kernel
theorem dPartReader_keepLengths_1 : decode cPartReader_keepLengths 1 = .ok (.iload_n 1, 1) := by decide +kernel
theorem dPartReader_keepLengths_2 : decode cPartReader_keepLengths 2 = .ok (.isub, 1) := by decide +kernel
theorem dPartReader_keepLengths_3 : decode cPartReader_keepLengths 3 = .ok (.iconst 5, 1) := by decide +kernel
theorem dPartReader_keepLengths_4 : decode cPartReader_keepLengths 4 = .ok (.if_icmp .ge 5, 3) := by decide +kernel
theorem dPartReader_keepLengths_7 : decode cPartReader_keepLengths 7 = .ok (.iconst 0, 1) := by decide +kernel
theorem dPartReader_keepLengths_8 : decode cPartReader_keepLengths 8 = .ok (.ireturn, 1) := by decide +kernel
theorem dPartReader_keepLengths_9 : decode cPartReader_keepLengths 9 = .ok (.iconst 0, 1) := by decide +kernel
theorem dPartReader_keepLengths_10 : decode cPartReader_keepLengths 10 = .ok (.istore_n 3, 1) := by decide +kernel
theorem dPartReader_keepLengths_11 : decode cPartReader_keepLengths 11 = .ok (.iload_n 1, 1) := by decide +kernel
theorem dPartReader_keepLengths_12 : decode cPartReader_keepLengths 12 = .ok (.iconst 5, 1) := by decide +kernel
theorem dPartReader_keepLengths_13 : decode cPartReader_keepLengths 13 = .ok (.iadd, 1) := by decide +kernel
theorem dPartReader_keepLengths_14 : decode cPartReader_keepLengths 14 = .ok (.istore 4, 2) := by decide +kernel
theorem dPartReader_keepLengths_16 : decode cPartReader_keepLengths 16 = .ok (.iload 4, 2) := by decide +kernel
theorem dPartReader_keepLengths_18 : decode cPartReader_keepLengths 18 = .ok (.iload_n 2, 1) := by decide +kernel
theorem dPartReader_keepLengths_19 : decode cPartReader_keepLengths 19 = .ok (.if_icmp .ge 86, 3) := by decide +kernel
theorem dPartReader_keepLengths_22 : decode cPartReader_keepLengths 22 = .ok (.aload_n 0, 1) := by decide +kernel
theorem dPartReader_keepLengths_23 : decode cPartReader_keepLengths 23 = .ok (.getfield 44, 3) := by decide +kernel
theorem dPartReader_keepLengths_26 : decode cPartReader_keepLengths 26 = .ok (.iload 4, 2) := by decide +kernel
theorem dPartReader_keepLengths_28 : decode cPartReader_keepLengths 28 = .ok (.invokevirtual 90, 3) := by decide +kernel
theorem dPartReader_keepLengths_31 : decode cPartReader_keepLengths 31 = .ok (.istore 5, 2) := by decide +kernel
theorem dPartReader_keepLengths_33 : decode cPartReader_keepLengths 33 = .ok (.iload_n 3, 1) := by decide +kernel
theorem dPartReader_keepLengths_34 : decode cPartReader_keepLengths 34 = .ok (.ldc 117, 2) := by decide +kernel
theorem dPartReader_keepLengths_36 : decode cPartReader_keepLengths 36 = .ok (.invokestatic 118, 3) := by decide +kernel
theorem dPartReader_keepLengths_39 : decode cPartReader_keepLengths 39 = .ok (.sipush 128, 3) := by decide +kernel
theorem dPartReader_keepLengths_42 : decode cPartReader_keepLengths 42 = .ok (.imul, 1) := by decide +kernel
theorem dPartReader_keepLengths_43 : decode cPartReader_keepLengths 43 = .ok (.iload 5, 2) := by decide +kernel
theorem dPartReader_keepLengths_45 : decode cPartReader_keepLengths 45 = .ok (.sipush 128, 3) := by decide +kernel
theorem dPartReader_keepLengths_48 : decode cPartReader_keepLengths 48 = .ok (.irem, 1) := by decide +kernel
theorem dPartReader_keepLengths_49 : decode cPartReader_keepLengths 49 = .ok (.iadd, 1) := by decide +kernel
theorem dPartReader_keepLengths_50 : decode cPartReader_keepLengths 50 = .ok (.istore_n 3, 1) := by decide +kernel
theorem dPartReader_keepLengths_51 : decode cPartReader_keepLengths 51 = .ok (.iload 5, 2) := by decide +kernel
theorem dPartReader_keepLengths_53 : decode cPartReader_keepLengths 53 = .ok (.sipush 128, 3) := by decide +kernel
theorem dPartReader_keepLengths_56 : decode cPartReader_keepLengths 56 = .ok (.if_icmp .ge 43, 3) := by decide +kernel
theorem dPartReader_keepLengths_59 : decode cPartReader_keepLengths 59 = .ok (.iload_n 3, 1) := by decide +kernel
theorem dPartReader_keepLengths_60 : decode cPartReader_keepLengths 60 = .ok (.ldc 123, 2) := by decide +kernel
theorem dPartReader_keepLengths_62 : decode cPartReader_keepLengths 62 = .ok (.if_icmp .gt 13, 3) := by decide +kernel
theorem dPartReader_keepLengths_65 : decode cPartReader_keepLengths 65 = .ok (.aload_n 0, 1) := by decide +kernel
theorem dPartReader_keepLengths_66 : decode cPartReader_keepLengths 66 = .ok (.getfield 37, 3) := by decide +kernel
theorem dPartReader_keepLengths_69 : decode cPartReader_keepLengths 69 = .ok (.sipush 200, 3) := by decide +kernel
theorem dPartReader_keepLengths_72 : decode cPartReader_keepLengths 72 = .ok (.if_icmp .lt 5, 3) := by decide +kernel
theorem dPartReader_keepLengths_75 : decode cPartReader_keepLengths 75 = .ok (.iconst 0, 1) := by decide +kernel
theorem dPartReader_keepLengths_76 : decode cPartReader_keepLengths 76 = .ok (.ireturn, 1) := by decide +kernel
theorem dPartReader_keepLengths_77 : decode cPartReader_keepLengths 77 = .ok (.aload_n 0, 1) := by decide +kernel
theorem dPartReader_keepLengths_78 : decode cPartReader_keepLengths 78 = .ok (.getfield 34, 3) := by decide +kernel
theorem dPartReader_keepLengths_81 : decode cPartReader_keepLengths 81 = .ok (.aload_n 0, 1) := by decide +kernel
theorem dPartReader_keepLengths_82 : decode cPartReader_keepLengths 82 = .ok (.getfield 37, 3) := by decide +kernel
theorem dPartReader_keepLengths_85 : decode cPartReader_keepLengths 85 = .ok (.iload_n 3, 1) := by decide +kernel
theorem dPartReader_keepLengths_86 : decode cPartReader_keepLengths 86 = .ok (.iastore, 1) := by decide +kernel
theorem dPartReader_keepLengths_87 : decode cPartReader_keepLengths 87 = .ok (.aload_n 0, 1) := by decide +kernel
theorem dPartReader_keepLengths_88 : decode cPartReader_keepLengths 88 = .ok (.dup, 1) := by decide +kernel
theorem dPartReader_keepLengths_89 : decode cPartReader_keepLengths 89 = .ok (.getfield 37, 3) := by decide +kernel
theorem dPartReader_keepLengths_92 : decode cPartReader_keepLengths 92 = .ok (.iconst 1, 1) := by decide +kernel
theorem dPartReader_keepLengths_93 : decode cPartReader_keepLengths 93 = .ok (.iadd, 1) := by decide +kernel
theorem dPartReader_keepLengths_94 : decode cPartReader_keepLengths 94 = .ok (.putfield 37, 3) := by decide +kernel
theorem dPartReader_keepLengths_97 : decode cPartReader_keepLengths 97 = .ok (.iconst 0, 1) := by decide +kernel
theorem dPartReader_keepLengths_98 : decode cPartReader_keepLengths 98 = .ok (.istore_n 3, 1) := by decide +kernel
theorem dPartReader_keepLengths_99 : decode cPartReader_keepLengths 99 = .ok (.iinc 4 1, 3) := by decide +kernel
theorem dPartReader_keepLengths_102 : decode cPartReader_keepLengths 102 = .ok (.goto (-86), 3) := by decide +kernel
theorem dPartReader_keepLengths_105 : decode cPartReader_keepLengths 105 = .ok (.iconst 1, 1) := by decide +kernel
theorem dPartReader_keepLengths_106 : decode cPartReader_keepLengths 106 = .ok (.ireturn, 1) := by decide +kernel
theorem dPartReader_readPartHead_0 : decode cPartReader_readPartHead 0 = .ok (.iload_n 1, 1) := by decide +kernel
theorem dPartReader_readPartHead_1 : decode cPartReader_readPartHead 1 = .ok (.istore 4, 2) := by decide +kernel
theorem dPartReader_readPartHead_3 : decode cPartReader_readPartHead 3 = .ok (.aload_n 0, 1) := by decide +kernel
theorem dPartReader_readPartHead_4 : decode cPartReader_readPartHead 4 = .ok (.iconst 0, 1) := by decide +kernel
theorem dPartReader_readPartHead_5 : decode cPartReader_readPartHead 5 = .ok (.putfield 37, 3) := by decide +kernel
theorem dPartReader_readPartHead_8 : decode cPartReader_readPartHead 8 = .ok (.iconst 0, 1) := by decide +kernel
theorem dPartReader_readPartHead_9 : decode cPartReader_readPartHead 9 = .ok (.istore 5, 2) := by decide +kernel
theorem dPartReader_readPartHead_11 : decode cPartReader_readPartHead 11 = .ok (.iload 5, 2) := by decide +kernel
theorem dPartReader_readPartHead_13 : decode cPartReader_readPartHead 13 = .ok (.sipush 20000, 3) := by decide +kernel
theorem dPartReader_readPartHead_16 : decode cPartReader_readPartHead 16 = .ok (.if_icmp .ge 143, 3) := by decide +kernel
theorem dPartReader_readPartHead_19 : decode cPartReader_readPartHead 19 = .ok (.aload_n 0, 1) := by decide +kernel
theorem dPartReader_readPartHead_20 : decode cPartReader_readPartHead 20 = .ok (.getfield 52, 3) := by decide +kernel
theorem dPartReader_readPartHead_23 : decode cPartReader_readPartHead 23 = .ok (.iload 4, 2) := by decide +kernel
theorem dPartReader_readPartHead_25 : decode cPartReader_readPartHead 25 = .ok (.iload_n 2, 1) := by decide +kernel
theorem dPartReader_readPartHead_26 : decode cPartReader_readPartHead 26 = .ok (.sipush 147, 3) := by decide +kernel
theorem dPartReader_readPartHead_29 : decode cPartReader_readPartHead 29 = .ok (.invokevirtual 74, 3) := by decide +kernel
theorem dPartReader_readPartHead_32 : decode cPartReader_readPartHead 32 = .ok (.ifCond .eq 8, 3) := by decide +kernel
theorem dPartReader_readPartHead_35 : decode cPartReader_readPartHead 35 = .ok (.iload 4, 2) := by decide +kernel
theorem dPartReader_readPartHead_37 : decode cPartReader_readPartHead 37 = .ok (.iconst 2, 1) := by decide +kernel
theorem dPartReader_readPartHead_38 : decode cPartReader_readPartHead 38 = .ok (.iadd, 1) := by decide +kernel
theorem dPartReader_readPartHead_39 : decode cPartReader_readPartHead 39 = .ok (.ireturn, 1) := by decide +kernel
theorem dPartReader_readPartHead_40 : decode cPartReader_readPartHead 40 = .ok (.aload_n 0, 1) := by decide +kernel
theorem dPartReader_readPartHead_41 : decode cPartReader_readPartHead 41 = .ok (.getfield 52, 3) := by decide +kernel
theorem dPartReader_readPartHead_44 : decode cPartReader_readPartHead 44 = .ok (.iload 4, 2) := by decide +kernel
theorem dPartReader_readPartHead_46 : decode cPartReader_readPartHead 46 = .ok (.iload_n 2, 1) := by decide +kernel
theorem dPartReader_readPartHead_47 : decode cPartReader_readPartHead 47 = .ok (.invokevirtual 105, 3) := by decide +kernel
theorem dPartReader_readPartHead_50 : decode cPartReader_readPartHead 50 = .ok (.istore 6, 2) := by decide +kernel
theorem dPartReader_readPartHead_52 : decode cPartReader_readPartHead 52 = .ok (.iload 6, 2) := by decide +kernel
theorem dPartReader_readPartHead_54 : decode cPartReader_readPartHead 54 = .ok (.iconst (-1), 1) := by decide +kernel
theorem dPartReader_readPartHead_55 : decode cPartReader_readPartHead 55 = .ok (.if_icmp .ne 5, 3) := by decide +kernel
theorem dPartReader_readPartHead_58 : decode cPartReader_readPartHead 58 = .ok (.iconst (-1), 1) := by decide +kernel
theorem dPartReader_readPartHead_59 : decode cPartReader_readPartHead 59 = .ok (.ireturn, 1) := by decide +kernel
theorem dPartReader_readPartHead_60 : decode cPartReader_readPartHead 60 = .ok (.aload_n 0, 1) := by decide +kernel
theorem dPartReader_readPartHead_61 : decode cPartReader_readPartHead 61 = .ok (.getfield 44, 3) := by decide +kernel
theorem dPartReader_readPartHead_64 : decode cPartReader_readPartHead 64 = .ok (.iload 4, 2) := by decide +kernel
theorem dPartReader_readPartHead_66 : decode cPartReader_readPartHead 66 = .ok (.iconst 1, 1) := by decide +kernel
theorem dPartReader_readPartHead_67 : decode cPartReader_readPartHead 67 = .ok (.iadd, 1) := by decide +kernel
theorem dPartReader_readPartHead_68 : decode cPartReader_readPartHead 68 = .ok (.invokevirtual 90, 3) := by decide +kernel
theorem dPartReader_readPartHead_71 : decode cPartReader_readPartHead 71 = .ok (.istore 7, 2) := by decide +kernel
theorem dPartReader_readPartHead_73 : decode cPartReader_readPartHead 73 = .ok (.iload 7, 2) := by decide +kernel
theorem dPartReader_readPartHead_75 : decode cPartReader_readPartHead 75 = .ok (.invokestatic 108, 3) := by decide +kernel
theorem dPartReader_readPartHead_78 : decode cPartReader_readPartHead 78 = .ok (.ifCond .eq 16, 3) := by decide +kernel
theorem dPartReader_readPartHead_81 : decode cPartReader_readPartHead 81 = .ok (.aload_n 0, 1) := by decide +kernel
theorem dPartReader_readPartHead_82 : decode cPartReader_readPartHead 82 = .ok (.getfield 31, 3) := by decide +kernel
theorem dPartReader_readPartHead_85 : decode cPartReader_readPartHead 85 = .ok (.iload_n 3, 1) := by decide +kernel
theorem dPartReader_readPartHead_86 : decode cPartReader_readPartHead 86 = .ok (.iaload, 1) := by decide +kernel
theorem dPartReader_readPartHead_87 : decode cPartReader_readPartHead 87 = .ok (.ifCond .le 7, 3) := by decide +kernel
theorem dPartReader_readPartHead_90 : decode cPartReader_readPartHead 90 = .ok (.iconst 1, 1) := by decide +kernel
theorem dPartReader_readPartHead_91 : decode cPartReader_readPartHead 91 = .ok (.goto 4, 3) := by decide +kernel
theorem dPartReader_readPartHead_94 : decode cPartReader_readPartHead 94 = .ok (.iconst 0, 1) := by decide +kernel
theorem dPartReader_readPartHead_95 : decode cPartReader_readPartHead 95 = .ok (.istore 8, 2) := by decide +kernel
theorem dPartReader_readPartHead_97 : decode cPartReader_readPartHead 97 = .ok (.iload 7, 2) := by decide +kernel
theorem dPartReader_readPartHead_99 : decode cPartReader_readPartHead 99 = .ok (.bipush 88, 2) := by decide +kernel
theorem dPartReader_readPartHead_101 : decode cPartReader_readPartHead 101 = .ok (.if_icmp .ne 14, 3) := by decide +kernel
theorem dPartReader_readPartHead_104 : decode cPartReader_readPartHead 104 = .ok (.aload_n 0, 1) := by decide +kernel
theorem dPartReader_readPartHead_105 : decode cPartReader_readPartHead 105 = .ok (.iload 4, 2) := by decide +kernel
theorem dPartReader_readPartHead_107 : decode cPartReader_readPartHead 107 = .ok (.iload 6, 2) := by decide +kernel
theorem dPartReader_readPartHead_109 : decode cPartReader_readPartHead 109 = .ok (.invokevirtual 111, 3) := by decide +kernel
theorem dPartReader_readPartHead_112 : decode cPartReader_readPartHead 112 = .ok (.goto 28, 3) := by decide +kernel
theorem dPartReader_readPartHead_115 : decode cPartReader_readPartHead 115 = .ok (.iload 8, 2) := by decide +kernel
theorem dPartReader_readPartHead_117 : decode cPartReader_readPartHead 117 = .ok (.ifCond .ne 22, 3) := by decide +kernel
theorem dPartReader_readPartHead_120 : decode cPartReader_readPartHead 120 = .ok (.aload_n 0, 1) := by decide +kernel
theorem dPartReader_readPartHead_121 : decode cPartReader_readPartHead 121 = .ok (.getfield 52, 3) := by decide +kernel
theorem dPartReader_readPartHead_124 : decode cPartReader_readPartHead 124 = .ok (.iload 4, 2) := by decide +kernel
theorem dPartReader_readPartHead_126 : decode cPartReader_readPartHead 126 = .ok (.iload 6, 2) := by decide +kernel
theorem dPartReader_readPartHead_128 : decode cPartReader_readPartHead 128 = .ok (.iload_n 3, 1) := by decide +kernel
theorem dPartReader_readPartHead_129 : decode cPartReader_readPartHead 129 = .ok (.invokevirtual 114, 3) := by decide +kernel
theorem dPartReader_readPartHead_132 : decode cPartReader_readPartHead 132 = .ok (.ifCond .eq 7, 3) := by decide +kernel
theorem dPartReader_readPartHead_135 : decode cPartReader_readPartHead 135 = .ok (.iconst 1, 1) := by decide +kernel
theorem dPartReader_readPartHead_136 : decode cPartReader_readPartHead 136 = .ok (.goto 4, 3) := by decide +kernel
theorem dPartReader_readPartHead_139 : decode cPartReader_readPartHead 139 = .ok (.iconst 0, 1) := by decide +kernel
theorem dPartReader_readPartHead_140 : decode cPartReader_readPartHead 140 = .ok (.istore 9, 2) := by decide +kernel
theorem dPartReader_readPartHead_142 : decode cPartReader_readPartHead 142 = .ok (.iload 9, 2) := by decide +kernel
theorem dPartReader_readPartHead_144 : decode cPartReader_readPartHead 144 = .ok (.ifCond .ne 5, 3) := by decide +kernel
theorem dPartReader_readPartHead_147 : decode cPartReader_readPartHead 147 = .ok (.iconst (-1), 1) := by decide +kernel
theorem dPartReader_readPartHead_148 : decode cPartReader_readPartHead 148 = .ok (.ireturn, 1) := by decide +kernel
theorem dPartReader_readPartHead_149 : decode cPartReader_readPartHead 149 = .ok (.iload 6, 2) := by decide +kernel
theorem dPartReader_readPartHead_151 : decode cPartReader_readPartHead 151 = .ok (.istore 4, 2) := by decide +kernel
theorem dPartReader_readPartHead_153 : decode cPartReader_readPartHead 153 = .ok (.iinc 5 1, 3) := by decide +kernel
theorem dPartReader_readPartHead_156 : decode cPartReader_readPartHead 156 = .ok (.goto (-145), 3) := by decide +kernel
theorem dPartReader_readPartHead_159 : decode cPartReader_readPartHead 159 = .ok (.iconst (-1), 1) := by decide +kernel
theorem dPartReader_readPartHead_160 : decode cPartReader_readPartHead 160 = .ok (.ireturn, 1) := by decide +kernel
theorem dPartReader_weigh_0 : decode cPartReader_weigh 0 = .ok (.iload_n 3, 1) := by decide +kernel
theorem dPartReader_weigh_1 : decode cPartReader_weigh 1 = .ok (.iload_n 2, 1) := by decide +kernel
theorem dPartReader_weigh_2 : decode cPartReader_weigh 2 = .ok (.isub, 1) := by decide +kernel
theorem dPartReader_weigh_3 : decode cPartReader_weigh 3 = .ok (.istore 4, 2) := by decide +kernel
theorem dPartReader_weigh_5 : decode cPartReader_weigh 5 = .ok (.iconst 0, 1) := by decide +kernel
theorem dPartReader_weigh_6 : decode cPartReader_weigh 6 = .ok (.istore 5, 2) := by decide +kernel
theorem dPartReader_weigh_8 : decode cPartReader_weigh 8 = .ok (.iconst 0, 1) := by decide +kernel
theorem dPartReader_weigh_9 : decode cPartReader_weigh 9 = .ok (.istore 6, 2) := by decide +kernel
theorem dPartReader_weigh_11 : decode cPartReader_weigh 11 = .ok (.iload 5, 2) := by decide +kernel
theorem dPartReader_weigh_13 : decode cPartReader_weigh 13 = .ok (.aload_n 0, 1) := by decide +kernel
theorem dPartReader_weigh_14 : decode cPartReader_weigh 14 = .ok (.getfield 37, 3) := by decide +kernel
theorem dPartReader_weigh_17 : decode cPartReader_weigh 17 = .ok (.if_icmp .ge 36, 3) := by decide +kernel
theorem dPartReader_weigh_20 : decode cPartReader_weigh 20 = .ok (.aload_n 0, 1) := by decide +kernel
theorem dPartReader_weigh_21 : decode cPartReader_weigh 21 = .ok (.getfield 34, 3) := by decide +kernel
theorem dPartReader_weigh_24 : decode cPartReader_weigh 24 = .ok (.iload 5, 2) := by decide +kernel
theorem dPartReader_weigh_26 : decode cPartReader_weigh 26 = .ok (.iaload, 1) := by decide +kernel
theorem dPartReader_weigh_27 : decode cPartReader_weigh 27 = .ok (.iload 4, 2) := by decide +kernel
theorem dPartReader_weigh_29 : decode cPartReader_weigh 29 = .ok (.iload 6, 2) := by decide +kernel
theorem dPartReader_weigh_31 : decode cPartReader_weigh 31 = .ok (.isub, 1) := by decide +kernel
theorem dPartReader_weigh_32 : decode cPartReader_weigh 32 = .ok (.if_icmp .gt 21, 3) := by decide +kernel
theorem dPartReader_weigh_35 : decode cPartReader_weigh 35 = .ok (.iload 6, 2) := by decide +kernel
theorem dPartReader_weigh_37 : decode cPartReader_weigh 37 = .ok (.aload_n 0, 1) := by decide +kernel
theorem dPartReader_weigh_38 : decode cPartReader_weigh 38 = .ok (.getfield 34, 3) := by decide +kernel
theorem dPartReader_weigh_41 : decode cPartReader_weigh 41 = .ok (.iload 5, 2) := by decide +kernel
theorem dPartReader_weigh_43 : decode cPartReader_weigh 43 = .ok (.iaload, 1) := by decide +kernel
theorem dPartReader_weigh_44 : decode cPartReader_weigh 44 = .ok (.iadd, 1) := by decide +kernel
theorem dPartReader_weigh_45 : decode cPartReader_weigh 45 = .ok (.istore 6, 2) := by decide +kernel
theorem dPartReader_weigh_47 : decode cPartReader_weigh 47 = .ok (.iinc 5 1, 3) := by decide +kernel
theorem dPartReader_weigh_50 : decode cPartReader_weigh 50 = .ok (.goto (-39), 3) := by decide +kernel
theorem dPartReader_weigh_53 : decode cPartReader_weigh 53 = .ok (.aload_n 0, 1) := by decide +kernel
theorem dPartReader_weigh_54 : decode cPartReader_weigh 54 = .ok (.getfield 27, 3) := by decide +kernel
theorem dPartReader_weigh_57 : decode cPartReader_weigh 57 = .ok (.iload_n 1, 1) := by decide +kernel
theorem dPartReader_weigh_58 : decode cPartReader_weigh 58 = .ok (.baload, 1) := by decide +kernel
theorem dPartReader_weigh_59 : decode cPartReader_weigh 59 = .ok (.ifCond .ne 21, 3) := by decide +kernel
theorem dPartReader_weigh_62 : decode cPartReader_weigh 62 = .ok (.iload 5, 2) := by decide +kernel
theorem dPartReader_weigh_64 : decode cPartReader_weigh 64 = .ok (.aload_n 0, 1) := by decide +kernel
theorem dPartReader_weigh_65 : decode cPartReader_weigh 65 = .ok (.getfield 37, 3) := by decide +kernel
theorem dPartReader_weigh_68 : decode cPartReader_weigh 68 = .ok (.if_icmp .lt 10, 3) := by decide +kernel
theorem dPartReader_weigh_71 : decode cPartReader_weigh 71 = .ok (.iload 6, 2) := by decide +kernel
theorem dPartReader_weigh_73 : decode cPartReader_weigh 73 = .ok (.iload 4, 2) := by decide +kernel
theorem dPartReader_weigh_75 : decode cPartReader_weigh 75 = .ok (.if_icmp .ge 5, 3) := by decide +kernel
theorem dPartReader_weigh_78 : decode cPartReader_weigh 78 = .ok (.iconst 0, 1) := by decide +kernel
theorem dPartReader_weigh_79 : decode cPartReader_weigh 79 = .ok (.ireturn, 1) := by decide +kernel
theorem dPartReader_weigh_80 : decode cPartReader_weigh 80 = .ok (.aload_n 0, 1) := by decide +kernel
theorem dPartReader_weigh_81 : decode cPartReader_weigh 81 = .ok (.getfield 18, 3) := by decide +kernel
theorem dPartReader_weigh_84 : decode cPartReader_weigh 84 = .ok (.iload_n 1, 1) := by decide +kernel
theorem dPartReader_weigh_85 : decode cPartReader_weigh 85 = .ok (.iload_n 2, 1) := by decide +kernel
theorem dPartReader_weigh_86 : decode cPartReader_weigh 86 = .ok (.iastore, 1) := by decide +kernel
theorem dPartReader_weigh_87 : decode cPartReader_weigh 87 = .ok (.aload_n 0, 1) := by decide +kernel
theorem dPartReader_weigh_88 : decode cPartReader_weigh 88 = .ok (.getfield 21, 3) := by decide +kernel
theorem dPartReader_weigh_91 : decode cPartReader_weigh 91 = .ok (.iload_n 1, 1) := by decide +kernel
theorem dPartReader_weigh_92 : decode cPartReader_weigh 92 = .ok (.iload 6, 2) := by decide +kernel
theorem dPartReader_weigh_94 : decode cPartReader_weigh 94 = .ok (.iastore, 1) := by decide +kernel
theorem dPartReader_weigh_95 : decode cPartReader_weigh 95 = .ok (.aload_n 0, 1) := by decide +kernel
theorem dPartReader_weigh_96 : decode cPartReader_weigh 96 = .ok (.getfield 24, 3) := by decide +kernel
theorem dPartReader_weigh_99 : decode cPartReader_weigh 99 = .ok (.iload_n 1, 1) := by decide +kernel
theorem dPartReader_weigh_100 : decode cPartReader_weigh 100 = .ok (.iload 5, 2) := by decide +kernel
theorem dPartReader_weigh_102 : decode cPartReader_weigh 102 = .ok (.iastore, 1) := by decide +kernel
theorem dPartReader_weigh_103 : decode cPartReader_weigh 103 = .ok (.iconst 1, 1) := by decide +kernel
theorem dPartReader_weigh_104 : decode cPartReader_weigh 104 = .ok (.ireturn, 1) := by decide +kernel
theorem dPartReader_readPart_0 : decode cPartReader_readPart 0 = .ok (.aload_n 0, 1) := by decide +kernel
theorem dPartReader_readPart_1 : decode cPartReader_readPart 1 = .ok (.getfield 15, 3) := by decide +kernel
theorem dPartReader_readPart_4 : decode cPartReader_readPart 4 = .ok (.iload_n 1, 1) := by decide +kernel
theorem dPartReader_readPart_5 : decode cPartReader_readPart 5 = .ok (.iaload, 1) := by decide +kernel
theorem dPartReader_readPart_6 : decode cPartReader_readPart 6 = .ok (.istore_n 3, 1) := by decide +kernel
theorem dPartReader_readPart_7 : decode cPartReader_readPart 7 = .ok (.aload_n 0, 1) := by decide +kernel
theorem dPartReader_readPart_8 : decode cPartReader_readPart 8 = .ok (.getfield 44, 3) := by decide +kernel
theorem dPartReader_readPart_11 : decode cPartReader_readPart 11 = .ok (.iload_n 3, 1) := by decide +kernel
theorem dPartReader_readPart_12 : decode cPartReader_readPart 12 = .ok (.iconst 4, 1) := by decide +kernel
theorem dPartReader_readPart_13 : decode cPartReader_readPart 13 = .ok (.iadd, 1) := by decide +kernel
theorem dPartReader_readPart_14 : decode cPartReader_readPart 14 = .ok (.iconst 2, 1) := by decide +kernel
theorem dPartReader_readPart_15 : decode cPartReader_readPart 15 = .ok (.invokevirtual 64, 3) := by decide +kernel
theorem dPartReader_readPart_18 : decode cPartReader_readPart 18 = .ok (.l2i, 1) := by decide +kernel
theorem dPartReader_readPart_19 : decode cPartReader_readPart 19 = .ok (.istore 4, 2) := by decide +kernel
theorem dPartReader_readPart_21 : decode cPartReader_readPart 21 = .ok (.aload_n 0, 1) := by decide +kernel
theorem dPartReader_readPart_22 : decode cPartReader_readPart 22 = .ok (.getfield 9, 3) := by decide +kernel
theorem dPartReader_readPart_25 : decode cPartReader_readPart 25 = .ok (.iload_n 1, 1) := by decide +kernel
theorem dPartReader_readPart_26 : decode cPartReader_readPart 26 = .ok (.iconst (-1), 1) := by decide +kernel
theorem dPartReader_readPart_27 : decode cPartReader_readPart 27 = .ok (.iastore, 1) := by decide +kernel
theorem dPartReader_readPart_28 : decode cPartReader_readPart 28 = .ok (.aload_n 0, 1) := by decide +kernel
theorem dPartReader_readPart_29 : decode cPartReader_readPart 29 = .ok (.getfield 18, 3) := by decide +kernel
theorem dPartReader_readPart_32 : decode cPartReader_readPart 32 = .ok (.iload_n 1, 1) := by decide +kernel
theorem dPartReader_readPart_33 : decode cPartReader_readPart 33 = .ok (.iconst 0, 1) := by decide +kernel
theorem dPartReader_readPart_34 : decode cPartReader_readPart 34 = .ok (.iastore, 1) := by decide +kernel
theorem dPartReader_readPart_35 : decode cPartReader_readPart 35 = .ok (.aload_n 0, 1) := by decide +kernel
theorem dPartReader_readPart_36 : decode cPartReader_readPart 36 = .ok (.getfield 21, 3) := by decide +kernel
theorem dPartReader_readPart_39 : decode cPartReader_readPart 39 = .ok (.iload_n 1, 1) := by decide +kernel
theorem dPartReader_readPart_40 : decode cPartReader_readPart 40 = .ok (.iconst 0, 1) := by decide +kernel
theorem dPartReader_readPart_41 : decode cPartReader_readPart 41 = .ok (.iastore, 1) := by decide +kernel
theorem dPartReader_readPart_42 : decode cPartReader_readPart 42 = .ok (.aload_n 0, 1) := by decide +kernel
theorem dPartReader_readPart_43 : decode cPartReader_readPart 43 = .ok (.getfield 24, 3) := by decide +kernel
theorem dPartReader_readPart_46 : decode cPartReader_readPart 46 = .ok (.iload_n 1, 1) := by decide +kernel
theorem dPartReader_readPart_47 : decode cPartReader_readPart 47 = .ok (.iconst 0, 1) := by decide +kernel
theorem dPartReader_readPart_48 : decode cPartReader_readPart 48 = .ok (.iastore, 1) := by decide +kernel
theorem dPartReader_readPart_49 : decode cPartReader_readPart 49 = .ok (.aload_n 0, 1) := by decide +kernel
theorem dPartReader_readPart_50 : decode cPartReader_readPart 50 = .ok (.getfield 44, 3) := by decide +kernel
theorem dPartReader_readPart_53 : decode cPartReader_readPart 53 = .ok (.iload_n 3, 1) := by decide +kernel
theorem dPartReader_readPart_54 : decode cPartReader_readPart 54 = .ok (.iconst 2, 1) := by decide +kernel
theorem dPartReader_readPart_55 : decode cPartReader_readPart 55 = .ok (.iadd, 1) := by decide +kernel
theorem dPartReader_readPart_56 : decode cPartReader_readPart 56 = .ok (.iconst 2, 1) := by decide +kernel
theorem dPartReader_readPart_57 : decode cPartReader_readPart 57 = .ok (.invokevirtual 64, 3) := by decide +kernel
theorem dPartReader_readPart_60 : decode cPartReader_readPart 60 = .ok (.ldc2_w 82, 3) := by decide +kernel
theorem dPartReader_readPart_63 : decode cPartReader_readPart 63 = .ok (.lcmp, 1) := by decide +kernel
theorem dPartReader_readPart_64 : decode cPartReader_readPart 64 = .ok (.ifCond .ne 43, 3) := by decide +kernel
theorem dPartReader_readPart_67 : decode cPartReader_readPart 67 = .ok (.aload_n 0, 1) := by decide +kernel
theorem dPartReader_readPart_68 : decode cPartReader_readPart 68 = .ok (.getfield 48, 3) := by decide +kernel
theorem dPartReader_readPart_71 : decode cPartReader_readPart 71 = .ok (.iload 4, 2) := by decide +kernel
theorem dPartReader_readPart_73 : decode cPartReader_readPart 73 = .ok (.invokevirtual 84, 3) := by decide +kernel
theorem dPartReader_readPart_76 : decode cPartReader_readPart 76 = .ok (.ifCond .eq 31, 3) := by decide +kernel
theorem dPartReader_readPart_79 : decode cPartReader_readPart 79 = .ok (.iload 4, 2) := by decide +kernel
theorem dPartReader_readPart_81 : decode cPartReader_readPart 81 = .ok (.bipush 24, 2) := by decide +kernel
theorem dPartReader_readPart_83 : decode cPartReader_readPart 83 = .ok (.if_icmp .ge 24, 3) := by decide +kernel
theorem dPartReader_readPart_86 : decode cPartReader_readPart 86 = .ok (.aload_n 0, 1) := by decide +kernel
theorem dPartReader_readPart_87 : decode cPartReader_readPart 87 = .ok (.getfield 44, 3) := by decide +kernel
theorem dPartReader_readPart_90 : decode cPartReader_readPart 90 = .ok (.iload_n 3, 1) := by decide +kernel
theorem dPartReader_readPart_91 : decode cPartReader_readPart 91 = .ok (.bipush 10, 2) := by decide +kernel
theorem dPartReader_readPart_93 : decode cPartReader_readPart 93 = .ok (.iadd, 1) := by decide +kernel
theorem dPartReader_readPart_94 : decode cPartReader_readPart 94 = .ok (.invokevirtual 90, 3) := by decide +kernel
theorem dPartReader_readPart_97 : decode cPartReader_readPart 97 = .ok (.aload_n 0, 1) := by decide +kernel
theorem dPartReader_readPart_98 : decode cPartReader_readPart 98 = .ok (.getfield 31, 3) := by decide +kernel
theorem dPartReader_readPart_101 : decode cPartReader_readPart 101 = .ok (.iload 4, 2) := by decide +kernel
theorem dPartReader_readPart_103 : decode cPartReader_readPart 103 = .ok (.iaload, 1) := by decide +kernel
theorem dPartReader_readPart_104 : decode cPartReader_readPart 104 = .ok (.if_icmp .eq 4, 3) := by decide +kernel
theorem dPartReader_readPart_107 : decode cPartReader_readPart 107 = .ok (.return_, 1) := by decide +kernel
theorem dPartReader_readPart_108 : decode cPartReader_readPart 108 = .ok (.aload_n 0, 1) := by decide +kernel
theorem dPartReader_readPart_109 : decode cPartReader_readPart 109 = .ok (.iload_n 3, 1) := by decide +kernel
theorem dPartReader_readPart_110 : decode cPartReader_readPart 110 = .ok (.bipush 12, 2) := by decide +kernel
theorem dPartReader_readPart_112 : decode cPartReader_readPart 112 = .ok (.iadd, 1) := by decide +kernel
theorem dPartReader_readPart_113 : decode cPartReader_readPart 113 = .ok (.iload_n 2, 1) := by decide +kernel
theorem dPartReader_readPart_114 : decode cPartReader_readPart 114 = .ok (.iload 4, 2) := by decide +kernel
theorem dPartReader_readPart_116 : decode cPartReader_readPart 116 = .ok (.invokevirtual 94, 3) := by decide +kernel
theorem dPartReader_readPart_119 : decode cPartReader_readPart 119 = .ok (.istore 5, 2) := by decide +kernel
theorem dPartReader_readPart_121 : decode cPartReader_readPart 121 = .ok (.iload 5, 2) := by decide +kernel
theorem dPartReader_readPart_123 : decode cPartReader_readPart 123 = .ok (.iconst (-1), 1) := by decide +kernel
theorem dPartReader_readPart_124 : decode cPartReader_readPart 124 = .ok (.if_icmp .eq 36, 3) := by decide +kernel
theorem dPartReader_readPart_127 : decode cPartReader_readPart 127 = .ok (.aload_n 0, 1) := by decide +kernel
theorem dPartReader_readPart_128 : decode cPartReader_readPart 128 = .ok (.iload_n 1, 1) := by decide +kernel
theorem dPartReader_readPart_129 : decode cPartReader_readPart 129 = .ok (.iload 5, 2) := by decide +kernel
theorem dPartReader_readPart_131 : decode cPartReader_readPart 131 = .ok (.iload_n 2, 1) := by decide +kernel
theorem dPartReader_readPart_132 : decode cPartReader_readPart 132 = .ok (.invokevirtual 98, 3) := by decide +kernel
theorem dPartReader_readPart_135 : decode cPartReader_readPart 135 = .ok (.ifCond .eq 25, 3) := by decide +kernel
theorem dPartReader_readPart_138 : decode cPartReader_readPart 138 = .ok (.aload_n 0, 1) := by decide +kernel
theorem dPartReader_readPart_139 : decode cPartReader_readPart 139 = .ok (.getfield 9, 3) := by decide +kernel
theorem dPartReader_readPart_142 : decode cPartReader_readPart 142 = .ok (.iload_n 1, 1) := by decide +kernel
theorem dPartReader_readPart_143 : decode cPartReader_readPart 143 = .ok (.iload 4, 2) := by decide +kernel
theorem dPartReader_readPart_145 : decode cPartReader_readPart 145 = .ok (.iastore, 1) := by decide +kernel
theorem dPartReader_readPart_146 : decode cPartReader_readPart 146 = .ok (.aload_n 0, 1) := by decide +kernel
theorem dPartReader_readPart_147 : decode cPartReader_readPart 147 = .ok (.getfield 31, 3) := by decide +kernel
theorem dPartReader_readPart_150 : decode cPartReader_readPart 150 = .ok (.iload 4, 2) := by decide +kernel
theorem dPartReader_readPart_152 : decode cPartReader_readPart 152 = .ok (.dup2, 1) := by decide +kernel
theorem dPartReader_readPart_153 : decode cPartReader_readPart 153 = .ok (.iaload, 1) := by decide +kernel
theorem dPartReader_readPart_154 : decode cPartReader_readPart 154 = .ok (.iconst 1, 1) := by decide +kernel
theorem dPartReader_readPart_155 : decode cPartReader_readPart 155 = .ok (.iadd, 1) := by decide +kernel
theorem dPartReader_readPart_156 : decode cPartReader_readPart 156 = .ok (.iastore, 1) := by decide +kernel
theorem dPartReader_readPart_157 : decode cPartReader_readPart 157 = .ok (.goto 22, 3) := by decide +kernel
theorem dPartReader_readPart_160 : decode cPartReader_readPart 160 = .ok (.aload_n 0, 1) := by decide +kernel
theorem dPartReader_readPart_161 : decode cPartReader_readPart 161 = .ok (.getfield 31, 3) := by decide +kernel
theorem dPartReader_readPart_164 : decode cPartReader_readPart 164 = .ok (.iload 4, 2) := by decide +kernel
theorem dPartReader_readPart_166 : decode cPartReader_readPart 166 = .ok (.iaload, 1) := by decide +kernel
theorem dPartReader_readPart_167 : decode cPartReader_readPart 167 = .ok (.ifCond .ne 12, 3) := by decide +kernel
theorem dPartReader_readPart_170 : decode cPartReader_readPart 170 = .ok (.aload_n 0, 1) := by decide +kernel
theorem dPartReader_readPart_171 : decode cPartReader_readPart 171 = .ok (.getfield 48, 3) := by decide +kernel
theorem dPartReader_readPart_174 : decode cPartReader_readPart 174 = .ok (.iload 4, 2) := by decide +kernel
theorem dPartReader_readPart_176 : decode cPartReader_readPart 176 = .ok (.invokevirtual 101, 3) := by decide +kernel
theorem dPartReader_readPart_179 : decode cPartReader_readPart 179 = .ok (.return_, 1) := by decide +kernel
theorem dPartReader_readParts_0 : decode cPartReader_readParts 0 = .ok (.iload_n 1, 1) := by decide +kernel
theorem dPartReader_readParts_1 : decode cPartReader_readParts 1 = .ok (.istore_n 3, 1) := by decide +kernel
theorem dPartReader_readParts_2 : decode cPartReader_readParts 2 = .ok (.iconst 0, 1) := by decide +kernel
theorem dPartReader_readParts_3 : decode cPartReader_readParts 3 = .ok (.istore 4, 2) := by decide +kernel
theorem dPartReader_readParts_5 : decode cPartReader_readParts 5 = .ok (.iload 4, 2) := by decide +kernel
theorem dPartReader_readParts_7 : decode cPartReader_readParts 7 = .ok (.sipush 300, 3) := by decide +kernel
theorem dPartReader_readParts_10 : decode cPartReader_readParts 10 = .ok (.if_icmp .ge 108, 3) := by decide +kernel
theorem dPartReader_readParts_13 : decode cPartReader_readParts 13 = .ok (.aload_n 0, 1) := by decide +kernel
theorem dPartReader_readParts_14 : decode cPartReader_readParts 14 = .ok (.iload_n 3, 1) := by decide +kernel
theorem dPartReader_readParts_15 : decode cPartReader_readParts 15 = .ok (.iload_n 2, 1) := by decide +kernel
theorem dPartReader_readParts_16 : decode cPartReader_readParts 16 = .ok (.invokevirtual 60, 3) := by decide +kernel
theorem dPartReader_readParts_19 : decode cPartReader_readParts 19 = .ok (.ifCond .eq 99, 3) := by decide +kernel
theorem dPartReader_readParts_22 : decode cPartReader_readParts 22 = .ok (.aload_n 0, 1) := by decide +kernel
theorem dPartReader_readParts_23 : decode cPartReader_readParts 23 = .ok (.getfield 44, 3) := by decide +kernel
theorem dPartReader_readParts_26 : decode cPartReader_readParts 26 = .ok (.iload_n 3, 1) := by decide +kernel
theorem dPartReader_readParts_27 : decode cPartReader_readParts 27 = .ok (.bipush 6, 2) := by decide +kernel
theorem dPartReader_readParts_29 : decode cPartReader_readParts 29 = .ok (.iadd, 1) := by decide +kernel
theorem dPartReader_readParts_30 : decode cPartReader_readParts 30 = .ok (.iconst 4, 1) := by decide +kernel
theorem dPartReader_readParts_31 : decode cPartReader_readParts 31 = .ok (.invokevirtual 64, 3) := by decide +kernel
theorem dPartReader_readParts_34 : decode cPartReader_readParts 34 = .ok (.lstore 5, 2) := by decide +kernel
theorem dPartReader_readParts_36 : decode cPartReader_readParts 36 = .ok (.lload 5, 2) := by decide +kernel
theorem dPartReader_readParts_38 : decode cPartReader_readParts 38 = .ok (.iload_n 2, 1) := by decide +kernel
theorem dPartReader_readParts_39 : decode cPartReader_readParts 39 = .ok (.iload_n 3, 1) := by decide +kernel
theorem dPartReader_readParts_40 : decode cPartReader_readParts 40 = .ok (.isub, 1) := by decide +kernel
theorem dPartReader_readParts_41 : decode cPartReader_readParts 41 = .ok (.i2l, 1) := by decide +kernel
theorem dPartReader_readParts_42 : decode cPartReader_readParts 42 = .ok (.lcmp, 1) := by decide +kernel
theorem dPartReader_readParts_43 : decode cPartReader_readParts 43 = .ok (.ifCond .le 7, 3) := by decide +kernel
theorem dPartReader_readParts_46 : decode cPartReader_readParts 46 = .ok (.iconst 1, 1) := by decide +kernel
theorem dPartReader_readParts_47 : decode cPartReader_readParts 47 = .ok (.goto 4, 3) := by decide +kernel
theorem dPartReader_readParts_50 : decode cPartReader_readParts 50 = .ok (.iconst 0, 1) := by decide +kernel
theorem dPartReader_readParts_51 : decode cPartReader_readParts 51 = .ok (.istore 7, 2) := by decide +kernel
theorem dPartReader_readParts_53 : decode cPartReader_readParts 53 = .ok (.iload 7, 2) := by decide +kernel
theorem dPartReader_readParts_55 : decode cPartReader_readParts 55 = .ok (.ifCond .ne 10, 3) := by decide +kernel
theorem dPartReader_readParts_58 : decode cPartReader_readParts 58 = .ok (.lload 5, 2) := by decide +kernel
theorem dPartReader_readParts_60 : decode cPartReader_readParts 60 = .ok (.lconst 0, 1) := by decide +kernel
theorem dPartReader_readParts_61 : decode cPartReader_readParts 61 = .ok (.lcmp, 1) := by decide +kernel
theorem dPartReader_readParts_62 : decode cPartReader_readParts 62 = .ok (.ifCond .ne 7, 3) := by decide +kernel
theorem dPartReader_readParts_65 : decode cPartReader_readParts 65 = .ok (.iload_n 2, 1) := by decide +kernel
theorem dPartReader_readParts_66 : decode cPartReader_readParts 66 = .ok (.goto 8, 3) := by decide +kernel
theorem dPartReader_readParts_69 : decode cPartReader_readParts 69 = .ok (.iload_n 3, 1) := by decide +kernel
theorem dPartReader_readParts_70 : decode cPartReader_readParts 70 = .ok (.lload 5, 2) := by decide +kernel
theorem dPartReader_readParts_72 : decode cPartReader_readParts 72 = .ok (.l2i, 1) := by decide +kernel
theorem dPartReader_readParts_73 : decode cPartReader_readParts 73 = .ok (.iadd, 1) := by decide +kernel
theorem dPartReader_readParts_74 : decode cPartReader_readParts 74 = .ok (.istore 8, 2) := by decide +kernel
theorem dPartReader_readParts_76 : decode cPartReader_readParts 76 = .ok (.aload_n 0, 1) := by decide +kernel
theorem dPartReader_readParts_77 : decode cPartReader_readParts 77 = .ok (.getfield 15, 3) := by decide +kernel
theorem dPartReader_readParts_80 : decode cPartReader_readParts 80 = .ok (.iload 4, 2) := by decide +kernel
theorem dPartReader_readParts_82 : decode cPartReader_readParts 82 = .ok (.iload_n 3, 1) := by decide +kernel
theorem dPartReader_readParts_83 : decode cPartReader_readParts 83 = .ok (.iastore, 1) := by decide +kernel
theorem dPartReader_readParts_84 : decode cPartReader_readParts 84 = .ok (.aload_n 0, 1) := by decide +kernel
theorem dPartReader_readParts_85 : decode cPartReader_readParts 85 = .ok (.getfield 27, 3) := by decide +kernel
theorem dPartReader_readParts_88 : decode cPartReader_readParts 88 = .ok (.iload 4, 2) := by decide +kernel
theorem dPartReader_readParts_90 : decode cPartReader_readParts 90 = .ok (.iload 7, 2) := by decide +kernel
theorem dPartReader_readParts_92 : decode cPartReader_readParts 92 = .ok (.bastore, 1) := by decide +kernel
theorem dPartReader_readParts_93 : decode cPartReader_readParts 93 = .ok (.aload_n 0, 1) := by decide +kernel
theorem dPartReader_readParts_94 : decode cPartReader_readParts 94 = .ok (.iload 4, 2) := by decide +kernel
theorem dPartReader_readParts_96 : decode cPartReader_readParts 96 = .ok (.iload 8, 2) := by decide +kernel
theorem dPartReader_readParts_98 : decode cPartReader_readParts 98 = .ok (.invokevirtual 70, 3) := by decide +kernel
theorem dPartReader_readParts_101 : decode cPartReader_readParts 101 = .ok (.aload_n 0, 1) := by decide +kernel
theorem dPartReader_readParts_102 : decode cPartReader_readParts 102 = .ok (.iload 4, 2) := by decide +kernel
theorem dPartReader_readParts_104 : decode cPartReader_readParts 104 = .ok (.iconst 1, 1) := by decide +kernel
theorem dPartReader_readParts_105 : decode cPartReader_readParts 105 = .ok (.iadd, 1) := by decide +kernel
theorem dPartReader_readParts_106 : decode cPartReader_readParts 106 = .ok (.putfield 41, 3) := by decide +kernel
theorem dPartReader_readParts_109 : decode cPartReader_readParts 109 = .ok (.iload 8, 2) := by decide +kernel
theorem dPartReader_readParts_111 : decode cPartReader_readParts 111 = .ok (.istore_n 3, 1) := by decide +kernel
theorem dPartReader_readParts_112 : decode cPartReader_readParts 112 = .ok (.iinc 4 1, 3) := by decide +kernel
theorem dPartReader_readParts_115 : decode cPartReader_readParts 115 = .ok (.goto (-110), 3) := by decide +kernel
theorem dPartReader_readParts_118 : decode cPartReader_readParts 118 = .ok (.return_, 1) := by decide +kernel
theorem dAbstractCollection_init_0 : decode cAbstractCollection_init 0 = .ok (.aload_n 0, 1) := by decide +kernel
theorem dAbstractCollection_init_1 : decode cAbstractCollection_init 1 = .ok (.invokespecial 1, 3) := by decide +kernel
theorem dAbstractCollection_init_4 : decode cAbstractCollection_init 4 = .ok (.return_, 1) := by decide +kernel
theorem dAbstractList_init_0 : decode cAbstractList_init 0 = .ok (.aload_n 0, 1) := by decide +kernel
theorem dAbstractList_init_1 : decode cAbstractList_init 1 = .ok (.invokespecial 1, 3) := by decide +kernel
theorem dAbstractList_init_4 : decode cAbstractList_init 4 = .ok (.aload_n 0, 1) := by decide +kernel
theorem dAbstractList_init_5 : decode cAbstractList_init 5 = .ok (.iconst 0, 1) := by decide +kernel
theorem dAbstractList_init_6 : decode cAbstractList_init 6 = .ok (.putfield 7, 3) := by decide +kernel
theorem dAbstractList_init_9 : decode cAbstractList_init 9 = .ok (.return_, 1) := by decide +kernel
theorem dAL_init1_0 : decode cAL_init1 0 = .ok (.aload_n 0, 1) := by decide +kernel
theorem dAL_init1_1 : decode cAL_init1 1 = .ok (.invokespecial 1, 3) := by decide +kernel
theorem dAL_init1_4 : decode cAL_init1 4 = .ok (.aload_n 0, 1) := by decide +kernel
theorem dAL_init1_5 : decode cAL_init1 5 = .ok (.getstatic 39, 3) := by decide +kernel
theorem dAL_init1_8 : decode cAL_init1 8 = .ok (.putfield 9, 3) := by decide +kernel
theorem dAL_init1_11 : decode cAL_init1 11 = .ok (.return_, 1) := by decide +kernel
theorem dW_nearestSide_0 : decode cW_nearestSide 0 = .ok (.iconst 1, 1) := by decide +kernel
theorem dW_nearestSide_1 : decode cW_nearestSide 1 = .ok (.sipush 2000, 3) := by decide +kernel
theorem dW_nearestSide_4 : decode cW_nearestSide 4 = .ok (.iload_n 0, 1) := by decide +kernel
theorem dW_nearestSide_5 : decode cW_nearestSide 5 = .ok (.invokestatic 227, 3) := by decide +kernel
theorem dW_nearestSide_8 : decode cW_nearestSide 8 = .ok (.invokestatic 326, 3) := by decide +kernel
theorem dW_nearestSide_11 : decode cW_nearestSide 11 = .ok (.ireturn, 1) := by decide +kernel
theorem dW_init_0 : decode cW_init 0 = .ok (.aload_n 0, 1) := by decide +kernel
theorem dW_init_1 : decode cW_init 1 = .ok (.invokespecial 1, 3) := by decide +kernel
theorem dW_init_4 : decode cW_init 4 = .ok (.aload_n 0, 1) := by decide +kernel
theorem dW_init_5 : decode cW_init 5 = .ok (.new 7, 3) := by decide +kernel
theorem dW_init_8 : decode cW_init 8 = .ok (.dup, 1) := by decide +kernel
theorem dW_init_9 : decode cW_init 9 = .ok (.invokespecial 9, 3) := by decide +kernel
theorem dW_init_12 : decode cW_init 12 = .ok (.putfield 10, 3) := by decide +kernel
theorem dW_init_15 : decode cW_init 15 = .ok (.aload_n 0, 1) := by decide +kernel
theorem dW_init_16 : decode cW_init 16 = .ok (.new 16, 3) := by decide +kernel
theorem dW_init_19 : decode cW_init 19 = .ok (.dup, 1) := by decide +kernel
theorem dW_init_20 : decode cW_init 20 = .ok (.invokespecial 18, 3) := by decide +kernel
theorem dW_init_23 : decode cW_init 23 = .ok (.putfield 19, 3) := by decide +kernel
theorem dW_init_26 : decode cW_init 26 = .ok (.aload_n 0, 1) := by decide +kernel
theorem dW_init_27 : decode cW_init 27 = .ok (.new 16, 3) := by decide +kernel
theorem dW_init_30 : decode cW_init 30 = .ok (.dup, 1) := by decide +kernel
theorem dW_init_31 : decode cW_init 31 = .ok (.invokespecial 18, 3) := by decide +kernel
theorem dW_init_34 : decode cW_init 34 = .ok (.putfield 23, 3) := by decide +kernel
theorem dW_init_37 : decode cW_init 37 = .ok (.aload_n 0, 1) := by decide +kernel
theorem dW_init_38 : decode cW_init 38 = .ok (.new 26, 3) := by decide +kernel
theorem dW_init_41 : decode cW_init 41 = .ok (.dup, 1) := by decide +kernel
theorem dW_init_42 : decode cW_init 42 = .ok (.invokespecial 28, 3) := by decide +kernel
theorem dW_init_45 : decode cW_init 45 = .ok (.putfield 29, 3) := by decide +kernel
theorem dW_init_48 : decode cW_init 48 = .ok (.aload_n 0, 1) := by decide +kernel
theorem dW_init_49 : decode cW_init 49 = .ok (.new 33, 3) := by decide +kernel
theorem dW_init_52 : decode cW_init 52 = .ok (.dup, 1) := by decide +kernel
theorem dW_init_53 : decode cW_init 53 = .ok (.sipush 20000, 3) := by decide +kernel
theorem dW_init_56 : decode cW_init 56 = .ok (.invokespecial 35, 3) := by decide +kernel
theorem dW_init_59 : decode cW_init 59 = .ok (.putfield 38, 3) := by decide +kernel
theorem dW_init_62 : decode cW_init 62 = .ok (.aload_n 0, 1) := by decide +kernel
theorem dW_init_63 : decode cW_init 63 = .ok (.new 33, 3) := by decide +kernel
theorem dW_init_66 : decode cW_init 66 = .ok (.dup, 1) := by decide +kernel
theorem dW_init_67 : decode cW_init 67 = .ok (.sipush 20000, 3) := by decide +kernel
theorem dW_init_70 : decode cW_init 70 = .ok (.invokespecial 35, 3) := by decide +kernel
theorem dW_init_73 : decode cW_init 73 = .ok (.putfield 42, 3) := by decide +kernel
theorem dW_init_76 : decode cW_init 76 = .ok (.aload_n 0, 1) := by decide +kernel
theorem dW_init_77 : decode cW_init 77 = .ok (.new 7, 3) := by decide +kernel
theorem dW_init_80 : decode cW_init 80 = .ok (.dup, 1) := by decide +kernel
theorem dW_init_81 : decode cW_init 81 = .ok (.invokespecial 9, 3) := by decide +kernel
theorem dW_init_84 : decode cW_init 84 = .ok (.putfield 45, 3) := by decide +kernel
theorem dW_init_87 : decode cW_init 87 = .ok (.aload_n 0, 1) := by decide +kernel
theorem dW_init_88 : decode cW_init 88 = .ok (.new 48, 3) := by decide +kernel
theorem dW_init_91 : decode cW_init 91 = .ok (.dup, 1) := by decide +kernel
theorem dW_init_92 : decode cW_init 92 = .ok (.aload_n 0, 1) := by decide +kernel
theorem dW_init_93 : decode cW_init 93 = .ok (.getfield 42, 3) := by decide +kernel
theorem dW_init_96 : decode cW_init 96 = .ok (.invokespecial 50, 3) := by decide +kernel
theorem dW_init_99 : decode cW_init 99 = .ok (.putfield 53, 3) := by decide +kernel
theorem dW_init_102 : decode cW_init 102 = .ok (.aload_n 0, 1) := by decide +kernel
theorem dW_init_103 : decode cW_init 103 = .ok (.new 57, 3) := by decide +kernel
theorem dW_init_106 : decode cW_init 106 = .ok (.dup, 1) := by decide +kernel
theorem dW_init_107 : decode cW_init 107 = .ok (.aload_n 0, 1) := by decide +kernel
theorem dW_init_108 : decode cW_init 108 = .ok (.getfield 42, 3) := by decide +kernel
theorem dW_init_111 : decode cW_init 111 = .ok (.aload_n 0, 1) := by decide +kernel
theorem dW_init_112 : decode cW_init 112 = .ok (.getfield 45, 3) := by decide +kernel
theorem dW_init_115 : decode cW_init 115 = .ok (.invokespecial 59, 3) := by decide +kernel
theorem dW_init_118 : decode cW_init 118 = .ok (.putfield 62, 3) := by decide +kernel
theorem dW_init_121 : decode cW_init 121 = .ok (.aload_n 0, 1) := by decide +kernel
theorem dW_init_122 : decode cW_init 122 = .ok (.new 66, 3) := by decide +kernel
theorem dW_init_125 : decode cW_init 125 = .ok (.dup, 1) := by decide +kernel
theorem dW_init_126 : decode cW_init 126 = .ok (.aload_n 0, 1) := by decide +kernel
theorem dW_init_127 : decode cW_init 127 = .ok (.getfield 42, 3) := by decide +kernel
theorem dW_init_130 : decode cW_init 130 = .ok (.aload_n 0, 1) := by decide +kernel
theorem dW_init_131 : decode cW_init 131 = .ok (.getfield 45, 3) := by decide +kernel
theorem dW_init_134 : decode cW_init 134 = .ok (.aload_n 0, 1) := by decide +kernel
theorem dW_init_135 : decode cW_init 135 = .ok (.getfield 62, 3) := by decide +kernel
theorem dW_init_138 : decode cW_init 138 = .ok (.invokespecial 68, 3) := by decide +kernel
theorem dW_init_141 : decode cW_init 141 = .ok (.putfield 71, 3) := by decide +kernel
theorem dW_init_144 : decode cW_init 144 = .ok (.aload_n 0, 1) := by decide +kernel
theorem dW_init_145 : decode cW_init 145 = .ok (.iconst 0, 1) := by decide +kernel
theorem dW_init_146 : decode cW_init 146 = .ok (.putfield 75, 3) := by decide +kernel
theorem dW_init_149 : decode cW_init 149 = .ok (.aload_n 0, 1) := by decide +kernel
theorem dW_init_150 : decode cW_init 150 = .ok (.getfield 10, 3) := by decide +kernel
theorem dW_init_153 : decode cW_init 153 = .ok (.iload_n 1, 1) := by decide +kernel
theorem dW_init_154 : decode cW_init 154 = .ok (.invokestatic 79, 3) := by decide +kernel
theorem dW_init_157 : decode cW_init 157 = .ok (.iload_n 2, 1) := by decide +kernel
theorem dW_init_158 : decode cW_init 158 = .ok (.invokestatic 79, 3) := by decide +kernel
theorem dW_init_161 : decode cW_init 161 = .ok (.invokevirtual 83, 3) := by decide +kernel
theorem dW_init_164 : decode cW_init 164 = .ok (.return_, 1) := by decide +kernel
theorem dW_canBeSet_0 : decode cW_canBeSet 0 = .ok (.iload_n 1, 1) := by decide +kernel
theorem dW_canBeSet_1 : decode cW_canBeSet 1 = .ok (.ifCond .lt 9, 3) := by decide +kernel
theorem dW_canBeSet_4 : decode cW_canBeSet 4 = .ok (.iload_n 1, 1) := by decide +kernel
theorem dW_canBeSet_5 : decode cW_canBeSet 5 = .ok (.bipush 10, 2) := by decide +kernel
theorem dW_canBeSet_7 : decode cW_canBeSet 7 = .ok (.if_icmp .le 5, 3) := by decide +kernel
theorem dW_canBeSet_10 : decode cW_canBeSet 10 = .ok (.iconst 0, 1) := by decide +kernel
theorem dW_canBeSet_11 : decode cW_canBeSet 11 = .ok (.ireturn, 1) := by decide +kernel
theorem dW_canBeSet_12 : decode cW_canBeSet 12 = .ok (.iload_n 2, 1) := by decide +kernel
theorem dW_canBeSet_13 : decode cW_canBeSet 13 = .ok (.iconst (-1), 1) := by decide +kernel
theorem dW_canBeSet_14 : decode cW_canBeSet 14 = .ok (.if_icmp .eq 19, 3) := by decide +kernel
theorem dW_canBeSet_17 : decode cW_canBeSet 17 = .ok (.iload_n 1, 1) := by decide +kernel
theorem dW_canBeSet_18 : decode cW_canBeSet 18 = .ok (.iconst 4, 1) := by decide +kernel
theorem dW_canBeSet_19 : decode cW_canBeSet 19 = .ok (.if_icmp .lt 18, 3) := by decide +kernel
theorem dW_canBeSet_22 : decode cW_canBeSet 22 = .ok (.aload_n 0, 1) := by decide +kernel
theorem dW_canBeSet_23 : decode cW_canBeSet 23 = .ok (.getfield 10, 3) := by decide +kernel
theorem dW_canBeSet_26 : decode cW_canBeSet 26 = .ok (.iload_n 2, 1) := by decide +kernel
theorem dW_canBeSet_27 : decode cW_canBeSet 27 = .ok (.invokevirtual 317, 3) := by decide +kernel
theorem dW_canBeSet_30 : decode cW_canBeSet 30 = .ok (.ifCond .eq 7, 3) := by decide +kernel
theorem dW_canBeSet_33 : decode cW_canBeSet 33 = .ok (.iconst 1, 1) := by decide +kernel
theorem dW_canBeSet_34 : decode cW_canBeSet 34 = .ok (.goto 4, 3) := by decide +kernel
theorem dW_canBeSet_37 : decode cW_canBeSet 37 = .ok (.iconst 0, 1) := by decide +kernel
theorem dW_canBeSet_38 : decode cW_canBeSet 38 = .ok (.istore 4, 2) := by decide +kernel
theorem dW_canBeSet_40 : decode cW_canBeSet 40 = .ok (.iload_n 1, 1) := by decide +kernel
theorem dW_canBeSet_41 : decode cW_canBeSet 41 = .ok (.iconst 3, 1) := by decide +kernel
theorem dW_canBeSet_42 : decode cW_canBeSet 42 = .ok (.if_icmp .eq 9, 3) := by decide +kernel
theorem dW_canBeSet_45 : decode cW_canBeSet 45 = .ok (.iload_n 1, 1) := by decide +kernel
theorem dW_canBeSet_46 : decode cW_canBeSet 46 = .ok (.bipush 6, 2) := by decide +kernel
theorem dW_canBeSet_48 : decode cW_canBeSet 48 = .ok (.if_icmp .lt 7, 3) := by decide +kernel
theorem dW_canBeSet_51 : decode cW_canBeSet 51 = .ok (.iconst 1, 1) := by decide +kernel
theorem dW_canBeSet_52 : decode cW_canBeSet 52 = .ok (.goto 4, 3) := by decide +kernel
theorem dW_canBeSet_55 : decode cW_canBeSet 55 = .ok (.iconst 0, 1) := by decide +kernel
theorem dW_canBeSet_56 : decode cW_canBeSet 56 = .ok (.istore 5, 2) := by decide +kernel
theorem dW_canBeSet_58 : decode cW_canBeSet 58 = .ok (.iload_n 3, 1) := by decide +kernel
theorem dW_canBeSet_59 : decode cW_canBeSet 59 = .ok (.iconst (-1), 1) := by decide +kernel
theorem dW_canBeSet_60 : decode cW_canBeSet 60 = .ok (.if_icmp .eq 19, 3) := by decide +kernel
theorem dW_canBeSet_63 : decode cW_canBeSet 63 = .ok (.iload 5, 2) := by decide +kernel
theorem dW_canBeSet_65 : decode cW_canBeSet 65 = .ok (.ifCond .eq 18, 3) := by decide +kernel
theorem dW_canBeSet_68 : decode cW_canBeSet 68 = .ok (.aload_n 0, 1) := by decide +kernel
theorem dW_canBeSet_69 : decode cW_canBeSet 69 = .ok (.getfield 10, 3) := by decide +kernel
theorem dW_canBeSet_72 : decode cW_canBeSet 72 = .ok (.iload_n 3, 1) := by decide +kernel
theorem dW_canBeSet_73 : decode cW_canBeSet 73 = .ok (.invokevirtual 320, 3) := by decide +kernel
theorem dW_canBeSet_76 : decode cW_canBeSet 76 = .ok (.ifCond .eq 7, 3) := by decide +kernel
theorem dW_canBeSet_79 : decode cW_canBeSet 79 = .ok (.iconst 1, 1) := by decide +kernel
theorem dW_canBeSet_80 : decode cW_canBeSet 80 = .ok (.goto 4, 3) := by decide +kernel
theorem dW_canBeSet_83 : decode cW_canBeSet 83 = .ok (.iconst 0, 1) := by decide +kernel
theorem dW_canBeSet_84 : decode cW_canBeSet 84 = .ok (.istore 6, 2) := by decide +kernel
theorem dW_canBeSet_86 : decode cW_canBeSet 86 = .ok (.iload 4, 2) := by decide +kernel
theorem dW_canBeSet_88 : decode cW_canBeSet 88 = .ok (.ifCond .eq 12, 3) := by decide +kernel
theorem dW_canBeSet_91 : decode cW_canBeSet 91 = .ok (.iload 6, 2) := by decide +kernel
theorem dW_canBeSet_93 : decode cW_canBeSet 93 = .ok (.ifCond .eq 7, 3) := by decide +kernel
theorem dW_canBeSet_96 : decode cW_canBeSet 96 = .ok (.iconst 1, 1) := by decide +kernel
theorem dW_canBeSet_97 : decode cW_canBeSet 97 = .ok (.goto 4, 3) := by decide +kernel
theorem dW_canBeSet_100 : decode cW_canBeSet 100 = .ok (.iconst 0, 1) := by decide +kernel
theorem dW_canBeSet_101 : decode cW_canBeSet 101 = .ok (.ireturn, 1) := by decide +kernel
theorem dAL_isEmpty_0 : decode cAL_isEmpty 0 = .ok (.aload_n 0, 1) := by decide +kernel
theorem dAL_isEmpty_1 : decode cAL_isEmpty 1 = .ok (.getfield 48, 3) := by decide +kernel
theorem dAL_isEmpty_4 : decode cAL_isEmpty 4 = .ok (.ifCond .ne 7, 3) := by decide +kernel
theorem dAL_isEmpty_7 : decode cAL_isEmpty 7 = .ok (.iconst 1, 1) := by decide +kernel
theorem dAL_isEmpty_8 : decode cAL_isEmpty 8 = .ok (.goto 4, 3) := by decide +kernel
theorem dAL_isEmpty_11 : decode cAL_isEmpty 11 = .ok (.iconst 0, 1) := by decide +kernel
theorem dAL_isEmpty_12 : decode cAL_isEmpty 12 = .ok (.ireturn, 1) := by decide +kernel
theorem dW_set_0 : decode cW_set 0 = .ok (.aload_n 0, 1) := by decide +kernel
theorem dW_set_1 : decode cW_set 1 = .ok (.iload_n 1, 1) := by decide +kernel
theorem dW_set_2 : decode cW_set 2 = .ok (.iload_n 2, 1) := by decide +kernel
theorem dW_set_3 : decode cW_set 3 = .ok (.iload_n 3, 1) := by decide +kernel
theorem dW_set_4 : decode cW_set 4 = .ok (.invokevirtual 87, 3) := by decide +kernel
theorem dW_set_7 : decode cW_set 7 = .ok (.ifCond .ne 13, 3) := by decide +kernel
theorem dW_set_10 : decode cW_set 10 = .ok (.new 91, 3) := by decide +kernel
theorem dW_set_13 : decode cW_set 13 = .ok (.dup, 1) := by decide +kernel
theorem dW_set_14 : decode cW_set 14 = .ok (.ldc 93, 2) := by decide +kernel
theorem dW_set_16 : decode cW_set 16 = .ok (.invokespecial 95, 3) := by decide +kernel
theorem dW_set_19 : decode cW_set 19 = .ok (.athrow, 1) := by decide +kernel
theorem dW_set_20 : decode cW_set 20 = .ok (.iload_n 1, 1) := by decide +kernel
theorem dW_set_21 : decode cW_set 21 = .ok (.iconst 2, 1) := by decide +kernel
theorem dW_set_22 : decode cW_set 22 = .ok (.if_icmp .gt 33, 3) := by decide +kernel
theorem dW_set_25 : decode cW_set 25 = .ok (.aload_n 0, 1) := by decide +kernel
theorem dW_set_26 : decode cW_set 26 = .ok (.getfield 19, 3) := by decide +kernel
theorem dW_set_29 : decode cW_set 29 = .ok (.invokevirtual 98, 3) := by decide +kernel
theorem dW_set_32 : decode cW_set 32 = .ok (.ifCond .eq 13, 3) := by decide +kernel
theorem dW_set_35 : decode cW_set 35 = .ok (.aload_n 0, 1) := by decide +kernel
theorem dW_set_36 : decode cW_set 36 = .ok (.getfield 10, 3) := by decide +kernel
theorem dW_set_39 : decode cW_set 39 = .ok (.invokevirtual 102, 3) := by decide +kernel
theorem dW_set_42 : decode cW_set 42 = .ok (.ifCond .eq 13, 3) := by decide +kernel
theorem dW_set_45 : decode cW_set 45 = .ok (.new 105, 3) := by decide +kernel
theorem dW_set_48 : decode cW_set 48 = .ok (.dup, 1) := by decide +kernel
theorem dW_set_49 : decode cW_set 49 = .ok (.ldc 107, 2) := by decide +kernel
theorem dW_set_51 : decode cW_set 51 = .ok (.invokespecial 109, 3) := by decide +kernel
theorem dW_set_54 : decode cW_set 54 = .ok (.athrow, 1) := by decide +kernel
theorem dW_set_55 : decode cW_set 55 = .ok (.aload_n 0, 1) := by decide +kernel
theorem dW_set_56 : decode cW_set 56 = .ok (.getfield 10, 3) := by decide +kernel
theorem dW_set_59 : decode cW_set 59 = .ok (.iload_n 1, 1) := by decide +kernel
theorem dW_set_60 : decode cW_set 60 = .ok (.iload 4, 2) := by decide +kernel
theorem dW_set_62 : decode cW_set 62 = .ok (.invokevirtual 110, 3) := by decide +kernel
theorem dW_set_65 : decode cW_set 65 = .ok (.ifCond .ne 13, 3) := by decide +kernel
theorem dW_set_68 : decode cW_set 68 = .ok (.new 114, 3) := by decide +kernel
theorem dW_set_71 : decode cW_set 71 = .ok (.dup, 1) := by decide +kernel
theorem dW_set_72 : decode cW_set 72 = .ok (.ldc 116, 2) := by decide +kernel
theorem dW_set_74 : decode cW_set 74 = .ok (.invokespecial 118, 3) := by decide +kernel
theorem dW_set_77 : decode cW_set 77 = .ok (.athrow, 1) := by decide +kernel
theorem dW_set_78 : decode cW_set 78 = .ok (.aload_n 0, 1) := by decide +kernel
theorem dW_set_79 : decode cW_set 79 = .ok (.getfield 10, 3) := by decide +kernel
theorem dW_set_82 : decode cW_set 82 = .ok (.iload_n 1, 1) := by decide +kernel
theorem dW_set_83 : decode cW_set 83 = .ok (.iload_n 2, 1) := by decide +kernel
theorem dW_set_84 : decode cW_set 84 = .ok (.iload_n 3, 1) := by decide +kernel
theorem dW_set_85 : decode cW_set 85 = .ok (.invokevirtual 119, 3) := by decide +kernel
theorem dW_set_88 : decode cW_set 88 = .ok (.istore 5, 2) := by decide +kernel
theorem dW_set_90 : decode cW_set 90 = .ok (.aload_n 0, 1) := by decide +kernel
theorem dW_set_91 : decode cW_set 91 = .ok (.getfield 10, 3) := by decide +kernel
theorem dW_set_94 : decode cW_set 94 = .ok (.iload_n 1, 1) := by decide +kernel
theorem dW_set_95 : decode cW_set 95 = .ok (.iload_n 2, 1) := by decide +kernel
theorem dW_set_96 : decode cW_set 96 = .ok (.iload_n 3, 1) := by decide +kernel
theorem dW_set_97 : decode cW_set 97 = .ok (.iload 4, 2) := by decide +kernel
theorem dW_set_99 : decode cW_set 99 = .ok (.invokevirtual 123, 3) := by decide +kernel
theorem dW_set_102 : decode cW_set 102 = .ok (.iload 5, 2) := by decide +kernel
theorem dW_set_104 : decode cW_set 104 = .ok (.ireturn, 1) := by decide +kernel
theorem dW_partsOf_0 : decode cW_partsOf 0 = .ok (.iconst 0, 1) := by decide +kernel
theorem dW_partsOf_1 : decode cW_partsOf 1 = .ok (.istore_n 2, 1) := by decide +kernel
theorem dW_partsOf_2 : decode cW_partsOf 2 = .ok (.iconst 0, 1) := by decide +kernel
theorem dW_partsOf_3 : decode cW_partsOf 3 = .ok (.istore_n 3, 1) := by decide +kernel
theorem dW_partsOf_4 : decode cW_partsOf 4 = .ok (.iload_n 3, 1) := by decide +kernel
theorem dW_partsOf_5 : decode cW_partsOf 5 = .ok (.aload_n 0, 1) := by decide +kernel
theorem dW_partsOf_6 : decode cW_partsOf 6 = .ok (.getfield 19, 3) := by decide +kernel
theorem dW_partsOf_9 : decode cW_partsOf 9 = .ok (.invokevirtual 133, 3) := by decide +kernel
theorem dW_partsOf_12 : decode cW_partsOf 12 = .ok (.if_icmp .ge 30, 3) := by decide +kernel
theorem dW_partsOf_15 : decode cW_partsOf 15 = .ok (.aload_n 0, 1) := by decide +kernel
theorem dW_partsOf_16 : decode cW_partsOf 16 = .ok (.getfield 19, 3) := by decide +kernel
theorem dW_partsOf_19 : decode cW_partsOf 19 = .ok (.iload_n 3, 1) := by decide +kernel
theorem dW_partsOf_20 : decode cW_partsOf 20 = .ok (.invokevirtual 154, 3) := by decide +kernel
theorem dW_partsOf_23 : decode cW_partsOf 23 = .ok (.checkcast 141, 3) := by decide +kernel
theorem dW_partsOf_26 : decode cW_partsOf 26 = .ok (.getfield 323, 3) := by decide +kernel
theorem dW_partsOf_29 : decode cW_partsOf 29 = .ok (.iload_n 1, 1) := by decide +kernel
theorem dW_partsOf_30 : decode cW_partsOf 30 = .ok (.if_icmp .ne 6, 3) := by decide +kernel
theorem dW_partsOf_33 : decode cW_partsOf 33 = .ok (.iinc 2 1, 3) := by decide +kernel
theorem dW_partsOf_36 : decode cW_partsOf 36 = .ok (.iinc 3 1, 3) := by decide +kernel
theorem dW_partsOf_39 : decode cW_partsOf 39 = .ok (.goto (-35), 3) := by decide +kernel
theorem dW_partsOf_42 : decode cW_partsOf 42 = .ok (.iload_n 2, 1) := by decide +kernel
theorem dW_partsOf_43 : decode cW_partsOf 43 = .ok (.ireturn, 1) := by decide +kernel
theorem dArraysSupport_newLength_0 : decode cArraysSupport_newLength 0 = .ok (.iload_n 0, 1) := by decide +kernel
theorem dArraysSupport_newLength_1 : decode cArraysSupport_newLength 1 = .ok (.iload_n 1, 1) := by decide +kernel
theorem dArraysSupport_newLength_2 : decode cArraysSupport_newLength 2 = .ok (.iload_n 2, 1) := by decide +kernel
theorem dArraysSupport_newLength_3 : decode cArraysSupport_newLength 3 = .ok (.invokestatic 194, 3) := by decide +kernel
theorem dArraysSupport_newLength_6 : decode cArraysSupport_newLength 6 = .ok (.iadd, 1) := by decide +kernel
theorem dArraysSupport_newLength_7 : decode cArraysSupport_newLength 7 = .ok (.istore_n 3, 1) := by decide +kernel
theorem dArraysSupport_newLength_8 : decode cArraysSupport_newLength 8 = .ok (.iconst 0, 1) := by decide +kernel
theorem dArraysSupport_newLength_9 : decode cArraysSupport_newLength 9 = .ok (.iload_n 3, 1) := by decide +kernel
theorem dArraysSupport_newLength_10 : decode cArraysSupport_newLength 10 = .ok (.if_icmp .ge 11, 3) := by decide +kernel
theorem dArraysSupport_newLength_13 : decode cArraysSupport_newLength 13 = .ok (.iload_n 3, 1) := by decide +kernel
theorem dArraysSupport_newLength_14 : decode cArraysSupport_newLength 14 = .ok (.ldc 200, 2) := by decide +kernel
theorem dArraysSupport_newLength_16 : decode cArraysSupport_newLength 16 = .ok (.if_icmp .gt 5, 3) := by decide +kernel
theorem dArraysSupport_newLength_19 : decode cArraysSupport_newLength 19 = .ok (.iload_n 3, 1) := by decide +kernel
theorem dArraysSupport_newLength_20 : decode cArraysSupport_newLength 20 = .ok (.ireturn, 1) := by decide +kernel
theorem dArraysSupport_newLength_21 : decode cArraysSupport_newLength 21 = .ok (.iload_n 0, 1) := by decide +kernel
theorem dArraysSupport_newLength_22 : decode cArraysSupport_newLength 22 = .ok (.iload_n 1, 1) := by decide +kernel
theorem dArraysSupport_newLength_23 : decode cArraysSupport_newLength 23 = .ok (.invokestatic 201, 3) := by decide +kernel
theorem dArraysSupport_newLength_26 : decode cArraysSupport_newLength 26 = .ok (.ireturn, 1) := by decide +kernel
theorem dAR_copyOf1_0 : decode cAR_copyOf1 0 = .ok (.aload_n 2, 1) := by decide +kernel
theorem dAR_copyOf1_1 : decode cAR_copyOf1 1 = .ok (.ldc 110, 2) := by decide +kernel
theorem dAR_copyOf1_3 : decode cAR_copyOf1 3 = .ok (.if_acmp .ne 10, 3) := by decide +kernel
theorem dAR_copyOf1_6 : decode cAR_copyOf1 6 = .ok (.iload_n 1, 1) := by decide +kernel
theorem dAR_copyOf1_7 : decode cAR_copyOf1 7 = .ok (.anewarray 2, 3) := by decide +kernel
theorem dAR_copyOf1_10 : decode cAR_copyOf1 10 = .ok (.goto 14, 3) := by decide +kernel
theorem dAR_copyOf1_13 : decode cAR_copyOf1 13 = .ok (.aload_n 2, 1) := by decide +kernel
theorem dAR_copyOf1_14 : decode cAR_copyOf1 14 = .ok (.invokevirtual 90, 3) := by decide +kernel
theorem dAR_copyOf1_17 : decode cAR_copyOf1 17 = .ok (.iload_n 1, 1) := by decide +kernel
theorem dAR_copyOf1_18 : decode cAR_copyOf1 18 = .ok (.invokestatic 95, 3) := by decide +kernel
theorem dAR_copyOf1_21 : decode cAR_copyOf1 21 = .ok (.checkcast 110, 3) := by decide +kernel
theorem dAR_copyOf1_24 : decode cAR_copyOf1 24 = .ok (.astore_n 3, 1) := by decide +kernel
theorem dAR_copyOf1_25 : decode cAR_copyOf1 25 = .ok (.aload_n 0, 1) := by decide +kernel
theorem dAR_copyOf1_26 : decode cAR_copyOf1 26 = .ok (.iconst 0, 1) := by decide +kernel
theorem dAR_copyOf1_27 : decode cAR_copyOf1 27 = .ok (.aload_n 3, 1) := by decide +kernel
theorem dAR_copyOf1_28 : decode cAR_copyOf1 28 = .ok (.iconst 0, 1) := by decide +kernel
theorem dAR_copyOf1_29 : decode cAR_copyOf1 29 = .ok (.aload_n 0, 1) := by decide +kernel
theorem dAR_copyOf1_30 : decode cAR_copyOf1 30 = .ok (.arraylength, 1) := by decide +kernel
theorem dAR_copyOf1_31 : decode cAR_copyOf1 31 = .ok (.iload_n 1, 1) := by decide +kernel
theorem dAR_copyOf1_32 : decode cAR_copyOf1 32 = .ok (.invokestatic 304, 3) := by decide +kernel
theorem dAR_copyOf1_35 : decode cAR_copyOf1 35 = .ok (.invokestatic 150, 3) := by decide +kernel
theorem dAR_copyOf1_38 : decode cAR_copyOf1 38 = .ok (.aload_n 3, 1) := by decide +kernel
theorem dAR_copyOf1_39 : decode cAR_copyOf1 39 = .ok (.areturn, 1) := by decide +kernel
theorem dAR_copyOf0_0 : decode cAR_copyOf0 0 = .ok (.aload_n 0, 1) := by decide +kernel
theorem dAR_copyOf0_1 : decode cAR_copyOf0 1 = .ok (.iload_n 1, 1) := by decide +kernel
theorem dAR_copyOf0_2 : decode cAR_copyOf0 2 = .ok (.aload_n 0, 1) := by decide +kernel
theorem dAR_copyOf0_3 : decode cAR_copyOf0 3 = .ok (.invokevirtual 86, 3) := by decide +kernel
theorem dAR_copyOf0_6 : decode cAR_copyOf0 6 = .ok (.invokestatic 300, 3) := by decide +kernel
theorem dAR_copyOf0_9 : decode cAR_copyOf0 9 = .ok (.areturn, 1) := by decide +kernel
theorem dAL_grow0_0 : decode cAL_grow0 0 = .ok (.aload_n 0, 1) := by decide +kernel
theorem dAL_grow0_1 : decode cAL_grow0 1 = .ok (.getfield 9, 3) := by decide +kernel
theorem dAL_grow0_4 : decode cAL_grow0 4 = .ok (.arraylength, 1) := by decide +kernel
theorem dAL_grow0_5 : decode cAL_grow0 5 = .ok (.istore_n 2, 1) := by decide +kernel
theorem dAL_grow0_6 : decode cAL_grow0 6 = .ok (.iload_n 2, 1) := by decide +kernel
theorem dAL_grow0_7 : decode cAL_grow0 7 = .ok (.ifCond .gt 13, 3) := by decide +kernel
theorem dAL_grow0_10 : decode cAL_grow0 10 = .ok (.aload_n 0, 1) := by decide +kernel
theorem dAL_grow0_11 : decode cAL_grow0 11 = .ok (.getfield 9, 3) := by decide +kernel
theorem dAL_grow0_14 : decode cAL_grow0 14 = .ok (.getstatic 39, 3) := by decide +kernel
theorem dAL_grow0_17 : decode cAL_grow0 17 = .ok (.if_acmp .eq 28, 3) := by decide +kernel
theorem dAL_grow0_20 : decode cAL_grow0 20 = .ok (.iload_n 2, 1) := by decide +kernel
theorem dAL_grow0_21 : decode cAL_grow0 21 = .ok (.iload_n 1, 1) := by decide +kernel
theorem dAL_grow0_22 : decode cAL_grow0 22 = .ok (.iload_n 2, 1) := by decide +kernel
theorem dAL_grow0_23 : decode cAL_grow0 23 = .ok (.isub, 1) := by decide +kernel
theorem dAL_grow0_24 : decode cAL_grow0 24 = .ok (.iload_n 2, 1) := by decide +kernel
theorem dAL_grow0_25 : decode cAL_grow0 25 = .ok (.iconst 1, 1) := by decide +kernel
theorem dAL_grow0_26 : decode cAL_grow0 26 = .ok (.ishr, 1) := by decide +kernel
theorem dAL_grow0_27 : decode cAL_grow0 27 = .ok (.invokestatic 73, 3) := by decide +kernel
theorem dAL_grow0_30 : decode cAL_grow0 30 = .ok (.istore_n 3, 1) := by decide +kernel
theorem dAL_grow0_31 : decode cAL_grow0 31 = .ok (.aload_n 0, 1) := by decide +kernel
theorem dAL_grow0_32 : decode cAL_grow0 32 = .ok (.aload_n 0, 1) := by decide +kernel
theorem dAL_grow0_33 : decode cAL_grow0 33 = .ok (.getfield 9, 3) := by decide +kernel
theorem dAL_grow0_36 : decode cAL_grow0 36 = .ok (.iload_n 3, 1) := by decide +kernel
theorem dAL_grow0_37 : decode cAL_grow0 37 = .ok (.invokestatic 66, 3) := by decide +kernel
theorem dAL_grow0_40 : decode cAL_grow0 40 = .ok (.dup_x1, 1) := by decide +kernel
theorem dAL_grow0_41 : decode cAL_grow0 41 = .ok (.putfield 9, 3) := by decide +kernel
theorem dAL_grow0_44 : decode cAL_grow0 44 = .ok (.areturn, 1) := by decide +kernel
theorem dAL_grow0_45 : decode cAL_grow0 45 = .ok (.aload_n 0, 1) := by decide +kernel
theorem dAL_grow0_46 : decode cAL_grow0 46 = .ok (.bipush 10, 2) := by decide +kernel
theorem dAL_grow0_48 : decode cAL_grow0 48 = .ok (.iload_n 1, 1) := by decide +kernel
theorem dAL_grow0_49 : decode cAL_grow0 49 = .ok (.invokestatic 79, 3) := by decide +kernel
theorem dAL_grow0_52 : decode cAL_grow0 52 = .ok (.anewarray 7, 3) := by decide +kernel
theorem dAL_grow0_55 : decode cAL_grow0 55 = .ok (.dup_x1, 1) := by decide +kernel
theorem dAL_grow0_56 : decode cAL_grow0 56 = .ok (.putfield 9, 3) := by decide +kernel
theorem dAL_grow0_59 : decode cAL_grow0 59 = .ok (.areturn, 1) := by decide +kernel
theorem dAL_grow1_0 : decode cAL_grow1 0 = .ok (.aload_n 0, 1) := by decide +kernel
theorem dAL_grow1_1 : decode cAL_grow1 1 = .ok (.aload_n 0, 1) := by decide +kernel
theorem dAL_grow1_2 : decode cAL_grow1 2 = .ok (.getfield 48, 3) := by decide +kernel
theorem dAL_grow1_5 : decode cAL_grow1 5 = .ok (.iconst 1, 1) := by decide +kernel
theorem dAL_grow1_6 : decode cAL_grow1 6 = .ok (.iadd, 1) := by decide +kernel
theorem dAL_grow1_7 : decode cAL_grow1 7 = .ok (.invokevirtual 69, 3) := by decide +kernel
theorem dAL_grow1_10 : decode cAL_grow1 10 = .ok (.areturn, 1) := by decide +kernel
theorem dAL_add0_0 : decode cAL_add0 0 = .ok (.iload_n 3, 1) := by decide +kernel
theorem dAL_add0_1 : decode cAL_add0 1 = .ok (.aload_n 2, 1) := by decide +kernel
theorem dAL_add0_2 : decode cAL_add0 2 = .ok (.arraylength, 1) := by decide +kernel
theorem dAL_add0_3 : decode cAL_add0 3 = .ok (.if_icmp .ne 8, 3) := by decide +kernel
theorem dAL_add0_6 : decode cAL_add0 6 = .ok (.aload_n 0, 1) := by decide +kernel
theorem dAL_add0_7 : decode cAL_add0 7 = .ok (.invokevirtual 129, 3) := by decide +kernel
theorem dAL_add0_10 : decode cAL_add0 10 = .ok (.astore_n 2, 1) := by decide +kernel
theorem dAL_add0_11 : decode cAL_add0 11 = .ok (.aload_n 2, 1) := by decide +kernel
theorem dAL_add0_12 : decode cAL_add0 12 = .ok (.iload_n 3, 1) := by decide +kernel
theorem dAL_add0_13 : decode cAL_add0 13 = .ok (.aload_n 1, 1) := by decide +kernel
theorem dAL_add0_14 : decode cAL_add0 14 = .ok (.aastore, 1) := by decide +kernel
theorem dAL_add0_15 : decode cAL_add0 15 = .ok (.aload_n 0, 1) := by decide +kernel
theorem dAL_add0_16 : decode cAL_add0 16 = .ok (.iload_n 3, 1) := by decide +kernel
theorem dAL_add0_17 : decode cAL_add0 17 = .ok (.iconst 1, 1) := by decide +kernel
theorem dAL_add0_18 : decode cAL_add0 18 = .ok (.iadd, 1) := by decide +kernel
theorem dAL_add0_19 : decode cAL_add0 19 = .ok (.putfield 48, 3) := by decide +kernel
theorem dAL_add0_22 : decode cAL_add0 22 = .ok (.return_, 1) := by decide +kernel
theorem dAL_add1_0 : decode cAL_add1 0 = .ok (.aload_n 0, 1) := by decide +kernel
theorem dAL_add1_1 : decode cAL_add1 1 = .ok (.dup, 1) := by decide +kernel
theorem dAL_add1_2 : decode cAL_add1 2 = .ok (.getfield 63, 3) := by decide +kernel
theorem dAL_add1_5 : decode cAL_add1 5 = .ok (.iconst 1, 1) := by decide +kernel
theorem dAL_add1_6 : decode cAL_add1 6 = .ok (.iadd, 1) := by decide +kernel
theorem dAL_add1_7 : decode cAL_add1 7 = .ok (.putfield 63, 3) := by decide +kernel
theorem dAL_add1_10 : decode cAL_add1 10 = .ok (.aload_n 0, 1) := by decide +kernel
theorem dAL_add1_11 : decode cAL_add1 11 = .ok (.aload_n 1, 1) := by decide +kernel
theorem dAL_add1_12 : decode cAL_add1 12 = .ok (.aload_n 0, 1) := by decide +kernel
theorem dAL_add1_13 : decode cAL_add1 13 = .ok (.getfield 9, 3) := by decide +kernel
theorem dAL_add1_16 : decode cAL_add1 16 = .ok (.aload_n 0, 1) := by decide +kernel
theorem dAL_add1_17 : decode cAL_add1 17 = .ok (.getfield 48, 3) := by decide +kernel
theorem dAL_add1_20 : decode cAL_add1 20 = .ok (.invokevirtual 131, 3) := by decide +kernel
theorem dAL_add1_23 : decode cAL_add1 23 = .ok (.iconst 1, 1) := by decide +kernel
theorem dAL_add1_24 : decode cAL_add1 24 = .ok (.ireturn, 1) := by decide +kernel
theorem dW_tilePart_0 : decode cW_tilePart 0 = .ok (.iload_n 1, 1) := by decide +kernel
theorem dW_tilePart_1 : decode cW_tilePart 1 = .ok (.ifCond .lt 14, 3) := by decide +kernel
theorem dW_tilePart_4 : decode cW_tilePart 4 = .ok (.iload_n 1, 1) := by decide +kernel
theorem dW_tilePart_5 : decode cW_tilePart 5 = .ok (.aload_n 0, 1) := by decide +kernel
theorem dW_tilePart_6 : decode cW_tilePart 6 = .ok (.getfield 10, 3) := by decide +kernel
theorem dW_tilePart_9 : decode cW_tilePart 9 = .ok (.invokevirtual 127, 3) := by decide +kernel
theorem dW_tilePart_12 : decode cW_tilePart 12 = .ok (.if_icmp .lt 13, 3) := by decide +kernel
theorem dW_tilePart_15 : decode cW_tilePart 15 = .ok (.new 91, 3) := by decide +kernel
theorem dW_tilePart_18 : decode cW_tilePart 18 = .ok (.dup, 1) := by decide +kernel
theorem dW_tilePart_19 : decode cW_tilePart 19 = .ok (.ldc 131, 2) := by decide +kernel
theorem dW_tilePart_21 : decode cW_tilePart 21 = .ok (.invokespecial 95, 3) := by decide +kernel
theorem dW_tilePart_24 : decode cW_tilePart 24 = .ok (.athrow, 1) := by decide +kernel
theorem dW_tilePart_25 : decode cW_tilePart 25 = .ok (.aload_n 0, 1) := by decide +kernel
theorem dW_tilePart_26 : decode cW_tilePart 26 = .ok (.getfield 19, 3) := by decide +kernel
theorem dW_tilePart_29 : decode cW_tilePart 29 = .ok (.invokevirtual 133, 3) := by decide +kernel
theorem dW_tilePart_32 : decode cW_tilePart 32 = .ok (.bipush 40, 2) := by decide +kernel
theorem dW_tilePart_34 : decode cW_tilePart 34 = .ok (.if_icmp .lt 13, 3) := by decide +kernel
theorem dW_tilePart_37 : decode cW_tilePart 37 = .ok (.new 136, 3) := by decide +kernel
theorem dW_tilePart_40 : decode cW_tilePart 40 = .ok (.dup, 1) := by decide +kernel
theorem dW_tilePart_41 : decode cW_tilePart 41 = .ok (.ldc 138, 2) := by decide +kernel
theorem dW_tilePart_43 : decode cW_tilePart 43 = .ok (.invokespecial 140, 3) := by decide +kernel
theorem dW_tilePart_46 : decode cW_tilePart 46 = .ok (.athrow, 1) := by decide +kernel
theorem dW_tilePart_47 : decode cW_tilePart 47 = .ok (.aload_n 0, 1) := by decide +kernel
theorem dW_tilePart_48 : decode cW_tilePart 48 = .ok (.getfield 19, 3) := by decide +kernel
theorem dW_tilePart_51 : decode cW_tilePart 51 = .ok (.new 141, 3) := by decide +kernel
theorem dW_tilePart_54 : decode cW_tilePart 54 = .ok (.dup, 1) := by decide +kernel
theorem dW_tilePart_55 : decode cW_tilePart 55 = .ok (.iload_n 1, 1) := by decide +kernel
theorem dW_tilePart_56 : decode cW_tilePart 56 = .ok (.aload_n 0, 1) := by decide +kernel
theorem dW_tilePart_57 : decode cW_tilePart 57 = .ok (.iload_n 1, 1) := by decide +kernel
theorem dW_tilePart_58 : decode cW_tilePart 58 = .ok (.invokevirtual 143, 3) := by decide +kernel
theorem dW_tilePart_61 : decode cW_tilePart 61 = .ok (.invokespecial 146, 3) := by decide +kernel
theorem dW_tilePart_64 : decode cW_tilePart 64 = .ok (.invokevirtual 148, 3) := by decide +kernel
theorem dW_tilePart_67 : decode cW_tilePart 67 = .ok (.pop, 1) := by decide +kernel
theorem dW_tilePart_68 : decode cW_tilePart 68 = .ok (.aload_n 0, 1) := by decide +kernel
theorem dW_tilePart_69 : decode cW_tilePart 69 = .ok (.getfield 19, 3) := by decide +kernel
theorem dW_tilePart_72 : decode cW_tilePart 72 = .ok (.invokevirtual 133, 3) := by decide +kernel
theorem dW_tilePart_75 : decode cW_tilePart 75 = .ok (.iconst 1, 1) := by decide +kernel
theorem dW_tilePart_76 : decode cW_tilePart 76 = .ok (.isub, 1) := by decide +kernel
theorem dW_tilePart_77 : decode cW_tilePart 77 = .ok (.ireturn, 1) := by decide +kernel
theorem dW_packet_0 : decode cW_packet 0 = .ok (.iload_n 1, 1) := by decide +kernel
theorem dW_packet_1 : decode cW_packet 1 = .ok (.ifCond .lt 14, 3) := by decide +kernel
theorem dW_packet_4 : decode cW_packet 4 = .ok (.iload_n 1, 1) := by decide +kernel
theorem dW_packet_5 : decode cW_packet 5 = .ok (.aload_n 0, 1) := by decide +kernel
theorem dW_packet_6 : decode cW_packet 6 = .ok (.getfield 19, 3) := by decide +kernel
theorem dW_packet_9 : decode cW_packet 9 = .ok (.invokevirtual 133, 3) := by decide +kernel
theorem dW_packet_12 : decode cW_packet 12 = .ok (.if_icmp .lt 13, 3) := by decide +kernel
theorem dW_packet_15 : decode cW_packet 15 = .ok (.new 91, 3) := by decide +kernel
theorem dW_packet_18 : decode cW_packet 18 = .ok (.dup, 1) := by decide +kernel
theorem dW_packet_19 : decode cW_packet 19 = .ok (.ldc 152, 2) := by decide +kernel
theorem dW_packet_21 : decode cW_packet 21 = .ok (.invokespecial 95, 3) := by decide +kernel
theorem dW_packet_24 : decode cW_packet 24 = .ok (.athrow, 1) := by decide +kernel
theorem dW_packet_25 : decode cW_packet 25 = .ok (.aload_n 0, 1) := by decide +kernel
theorem dW_packet_26 : decode cW_packet 26 = .ok (.getfield 19, 3) := by decide +kernel
theorem dW_packet_29 : decode cW_packet 29 = .ok (.iload_n 1, 1) := by decide +kernel
theorem dW_packet_30 : decode cW_packet 30 = .ok (.invokevirtual 154, 3) := by decide +kernel
theorem dW_packet_33 : decode cW_packet 33 = .ok (.checkcast 141, 3) := by decide +kernel
theorem dW_packet_36 : decode cW_packet 36 = .ok (.astore_n 2, 1) := by decide +kernel
theorem dW_packet_37 : decode cW_packet 37 = .ok (.aload_n 2, 1) := by decide +kernel
theorem dW_packet_38 : decode cW_packet 38 = .ok (.getfield 158, 3) := by decide +kernel
theorem dW_packet_41 : decode cW_packet 41 = .ok (.bipush 20, 2) := by decide +kernel
theorem dW_packet_43 : decode cW_packet 43 = .ok (.if_icmp .lt 13, 3) := by decide +kernel
theorem dW_packet_46 : decode cW_packet 46 = .ok (.new 136, 3) := by decide +kernel
theorem dW_packet_49 : decode cW_packet 49 = .ok (.dup, 1) := by decide +kernel
theorem dW_packet_50 : decode cW_packet 50 = .ok (.ldc 162, 2) := by decide +kernel
theorem dW_packet_52 : decode cW_packet 52 = .ok (.invokespecial 140, 3) := by decide +kernel
theorem dW_packet_55 : decode cW_packet 55 = .ok (.athrow, 1) := by decide +kernel
theorem dW_packet_56 : decode cW_packet 56 = .ok (.aload_n 2, 1) := by decide +kernel
theorem dW_packet_57 : decode cW_packet 57 = .ok (.dup, 1) := by decide +kernel
theorem dW_packet_58 : decode cW_packet 58 = .ok (.getfield 158, 3) := by decide +kernel
theorem dW_packet_61 : decode cW_packet 61 = .ok (.iconst 1, 1) := by decide +kernel
theorem dW_packet_62 : decode cW_packet 62 = .ok (.iadd, 1) := by decide +kernel
theorem dW_packet_63 : decode cW_packet 63 = .ok (.putfield 158, 3) := by decide +kernel
theorem dW_packet_66 : decode cW_packet 66 = .ok (.aload_n 2, 1) := by decide +kernel
theorem dW_packet_67 : decode cW_packet 67 = .ok (.getfield 158, 3) := by decide +kernel
theorem dW_packet_70 : decode cW_packet 70 = .ok (.ireturn, 1) := by decide +kernel
theorem dW_isByte_0 : decode cW_isByte 0 = .ok (.iload_n 0, 1) := by decide +kernel
theorem dW_isByte_1 : decode cW_isByte 1 = .ok (.ifCond .lt 14, 3) := by decide +kernel
