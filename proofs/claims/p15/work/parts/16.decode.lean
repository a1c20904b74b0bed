theorem dD_takeStyle_83 : decode cD_takeStyle 83 = .ok (.getfield 60, 3) := by decide +kernel
theorem dD_takeStyle_86 : decode cD_takeStyle 86 = .ok (.iload 4, 2) := by decide +kernel
theorem dD_takeStyle_88 : decode cD_takeStyle 88 = .ok (.iconst 1, 1) := by decide +kernel
theorem dD_takeStyle_89 : decode cD_takeStyle 89 = .ok (.iadd, 1) := by decide +kernel
theorem dD_takeStyle_90 : decode cD_takeStyle 90 = .ok (.iaload, 1) := by decide +kernel
theorem dD_takeStyle_91 : decode cD_takeStyle 91 = .ok (.iconst 4, 1) := by decide +kernel
theorem dD_takeStyle_92 : decode cD_takeStyle 92 = .ok (.if_icmp .gt 49, 3) := by decide +kernel
theorem dD_takeStyle_95 : decode cD_takeStyle 95 = .ok (.aload_n 0, 1) := by decide +kernel
theorem dD_takeStyle_96 : decode cD_takeStyle 96 = .ok (.getfield 60, 3) := by decide +kernel
theorem dD_takeStyle_99 : decode cD_takeStyle 99 = .ok (.iload 4, 2) := by decide +kernel
theorem dD_takeStyle_101 : decode cD_takeStyle 101 = .ok (.iconst 2, 1) := by decide +kernel
theorem dD_takeStyle_102 : decode cD_takeStyle 102 = .ok (.iadd, 1) := by decide +kernel
theorem dD_takeStyle_103 : decode cD_takeStyle 103 = .ok (.iaload, 1) := by decide +kernel
theorem dD_takeStyle_104 : decode cD_takeStyle 104 = .ok (.aload_n 0, 1) := by decide +kernel
theorem dD_takeStyle_105 : decode cD_takeStyle 105 = .ok (.getfield 60, 3) := by decide +kernel
theorem dD_takeStyle_108 : decode cD_takeStyle 108 = .ok (.iload 4, 2) := by decide +kernel
theorem dD_takeStyle_110 : decode cD_takeStyle 110 = .ok (.iconst 1, 1) := by decide +kernel
theorem dD_takeStyle_111 : decode cD_takeStyle 111 = .ok (.iadd, 1) := by decide +kernel
theorem dD_takeStyle_112 : decode cD_takeStyle 112 = .ok (.iaload, 1) := by decide +kernel
theorem dD_takeStyle_113 : decode cD_takeStyle 113 = .ok (.if_icmp .ne 28, 3) := by decide +kernel
theorem dD_takeStyle_116 : decode cD_takeStyle 116 = .ok (.aload_n 0, 1) := by decide +kernel
theorem dD_takeStyle_117 : decode cD_takeStyle 117 = .ok (.getfield 60, 3) := by decide +kernel
theorem dD_takeStyle_120 : decode cD_takeStyle 120 = .ok (.iload 4, 2) := by decide +kernel
theorem dD_takeStyle_122 : decode cD_takeStyle 122 = .ok (.iconst 3, 1) := by decide +kernel
theorem dD_takeStyle_123 : decode cD_takeStyle 123 = .ok (.iadd, 1) := by decide +kernel
theorem dD_takeStyle_124 : decode cD_takeStyle 124 = .ok (.iaload, 1) := by decide +kernel
theorem dD_takeStyle_125 : decode cD_takeStyle 125 = .ok (.ifCond .ne 16, 3) := by decide +kernel
theorem dD_takeStyle_128 : decode cD_takeStyle 128 = .ok (.aload_n 0, 1) := by decide +kernel
theorem dD_takeStyle_129 : decode cD_takeStyle 129 = .ok (.getfield 60, 3) := by decide +kernel
theorem dD_takeStyle_132 : decode cD_takeStyle 132 = .ok (.iload 4, 2) := by decide +kernel
theorem dD_takeStyle_134 : decode cD_takeStyle 134 = .ok (.iconst 4, 1) := by decide +kernel
theorem dD_takeStyle_135 : decode cD_takeStyle 135 = .ok (.iadd, 1) := by decide +kernel
theorem dD_takeStyle_136 : decode cD_takeStyle 136 = .ok (.iaload, 1) := by decide +kernel
theorem dD_takeStyle_137 : decode cD_takeStyle 137 = .ok (.iconst 1, 1) := by decide +kernel
theorem dD_takeStyle_138 : decode cD_takeStyle 138 = .ok (.if_icmp .le 5, 3) := by decide +kernel
theorem dD_takeStyle_141 : decode cD_takeStyle 141 = .ok (.iconst 0, 1) := by decide +kernel
theorem dD_takeStyle_142 : decode cD_takeStyle 142 = .ok (.ireturn, 1) := by decide +kernel
theorem dD_takeStyle_143 : decode cD_takeStyle 143 = .ok (.iload_n 3, 1) := by decide +kernel
theorem dD_takeStyle_144 : decode cD_takeStyle 144 = .ok (.ifCond .eq 30, 3) := by decide +kernel
theorem dD_takeStyle_147 : decode cD_takeStyle 147 = .ok (.aload_n 0, 1) := by decide +kernel
theorem dD_takeStyle_148 : decode cD_takeStyle 148 = .ok (.iload_n 2, 1) := by decide +kernel
theorem dD_takeStyle_149 : decode cD_takeStyle 149 = .ok (.iconst 4, 1) := by decide +kernel
theorem dD_takeStyle_150 : decode cD_takeStyle 150 = .ok (.aload_n 0, 1) := by decide +kernel
theorem dD_takeStyle_151 : decode cD_takeStyle 151 = .ok (.getfield 60, 3) := by decide +kernel
theorem dD_takeStyle_154 : decode cD_takeStyle 154 = .ok (.iload_n 1, 1) := by decide +kernel
theorem dD_takeStyle_155 : decode cD_takeStyle 155 = .ok (.iconst 1, 1) := by decide +kernel
theorem dD_takeStyle_156 : decode cD_takeStyle 156 = .ok (.iadd, 1) := by decide +kernel
theorem dD_takeStyle_157 : decode cD_takeStyle 157 = .ok (.iaload, 1) := by decide +kernel
theorem dD_takeStyle_158 : decode cD_takeStyle 158 = .ok (.invokevirtual 113, 3) := by decide +kernel
theorem dD_takeStyle_161 : decode cD_takeStyle 161 = .ok (.aload_n 0, 1) := by decide +kernel
theorem dD_takeStyle_162 : decode cD_takeStyle 162 = .ok (.iload_n 2, 1) := by decide +kernel
theorem dD_takeStyle_163 : decode cD_takeStyle 163 = .ok (.iconst 5, 1) := by decide +kernel
theorem dD_takeStyle_164 : decode cD_takeStyle 164 = .ok (.aload_n 0, 1) := by decide +kernel
theorem dD_takeStyle_165 : decode cD_takeStyle 165 = .ok (.iload_n 1, 1) := by decide +kernel
theorem dD_takeStyle_166 : decode cD_takeStyle 166 = .ok (.iconst 2, 1) := by decide +kernel
theorem dD_takeStyle_167 : decode cD_takeStyle 167 = .ok (.iadd, 1) := by decide +kernel
theorem dD_takeStyle_168 : decode cD_takeStyle 168 = .ok (.invokevirtual 314, 3) := by decide +kernel
theorem dD_takeStyle_171 : decode cD_takeStyle 171 = .ok (.invokevirtual 113, 3) := by decide +kernel
theorem dD_takeStyle_174 : decode cD_takeStyle 174 = .ok (.aload_n 0, 1) := by decide +kernel
theorem dD_takeStyle_175 : decode cD_takeStyle 175 = .ok (.iload_n 2, 1) := by decide +kernel
theorem dD_takeStyle_176 : decode cD_takeStyle 176 = .ok (.bipush 6, 2) := by decide +kernel
theorem dD_takeStyle_178 : decode cD_takeStyle 178 = .ok (.aload_n 0, 1) := by decide +kernel
theorem dD_takeStyle_179 : decode cD_takeStyle 179 = .ok (.getfield 60, 3) := by decide +kernel
theorem dD_takeStyle_182 : decode cD_takeStyle 182 = .ok (.iload 4, 2) := by decide +kernel
theorem dD_takeStyle_184 : decode cD_takeStyle 184 = .ok (.iaload, 1) := by decide +kernel
theorem dD_takeStyle_185 : decode cD_takeStyle 185 = .ok (.invokevirtual 113, 3) := by decide +kernel
theorem dD_takeStyle_188 : decode cD_takeStyle 188 = .ok (.aload_n 0, 1) := by decide +kernel
theorem dD_takeStyle_189 : decode cD_takeStyle 189 = .ok (.iload_n 2, 1) := by decide +kernel
theorem dD_takeStyle_190 : decode cD_takeStyle 190 = .ok (.bipush 7, 2) := by decide +kernel
theorem dD_takeStyle_192 : decode cD_takeStyle 192 = .ok (.aload_n 0, 1) := by decide +kernel
theorem dD_takeStyle_193 : decode cD_takeStyle 193 = .ok (.getfield 60, 3) := by decide +kernel
theorem dD_takeStyle_196 : decode cD_takeStyle 196 = .ok (.iload 4, 2) := by decide +kernel
theorem dD_takeStyle_198 : decode cD_takeStyle 198 = .ok (.iconst 1, 1) := by decide +kernel
theorem dD_takeStyle_199 : decode cD_takeStyle 199 = .ok (.iadd, 1) := by decide +kernel
theorem dD_takeStyle_200 : decode cD_takeStyle 200 = .ok (.iaload, 1) := by decide +kernel
theorem dD_takeStyle_201 : decode cD_takeStyle 201 = .ok (.iconst 2, 1) := by decide +kernel
theorem dD_takeStyle_202 : decode cD_takeStyle 202 = .ok (.iadd, 1) := by decide +kernel
theorem dD_takeStyle_203 : decode cD_takeStyle 203 = .ok (.invokevirtual 113, 3) := by decide +kernel
theorem dD_takeStyle_206 : decode cD_takeStyle 206 = .ok (.aload_n 0, 1) := by decide +kernel
theorem dD_takeStyle_207 : decode cD_takeStyle 207 = .ok (.iload_n 2, 1) := by decide +kernel
theorem dD_takeStyle_208 : decode cD_takeStyle 208 = .ok (.bipush 8, 2) := by decide +kernel
theorem dD_takeStyle_210 : decode cD_takeStyle 210 = .ok (.aload_n 0, 1) := by decide +kernel
theorem dD_takeStyle_211 : decode cD_takeStyle 211 = .ok (.getfield 60, 3) := by decide +kernel
theorem dD_takeStyle_214 : decode cD_takeStyle 214 = .ok (.iload 4, 2) := by decide +kernel
theorem dD_takeStyle_216 : decode cD_takeStyle 216 = .ok (.iconst 4, 1) := by decide +kernel
theorem dD_takeStyle_217 : decode cD_takeStyle 217 = .ok (.iadd, 1) := by decide +kernel
theorem dD_takeStyle_218 : decode cD_takeStyle 218 = .ok (.iaload, 1) := by decide +kernel
theorem dD_takeStyle_219 : decode cD_takeStyle 219 = .ok (.invokevirtual 113, 3) := by decide +kernel
theorem dD_takeStyle_222 : decode cD_takeStyle 222 = .ok (.aload_n 0, 1) := by decide +kernel
theorem dD_takeStyle_223 : decode cD_takeStyle 223 = .ok (.getfield 13, 3) := by decide +kernel
theorem dD_takeStyle_226 : decode cD_takeStyle 226 = .ok (.iload_n 2, 1) := by decide +kernel
theorem dD_takeStyle_227 : decode cD_takeStyle 227 = .ok (.iconst 1, 1) := by decide +kernel
theorem dD_takeStyle_228 : decode cD_takeStyle 228 = .ok (.bastore, 1) := by decide +kernel
theorem dD_takeStyle_229 : decode cD_takeStyle 229 = .ok (.iconst 1, 1) := by decide +kernel
theorem dD_takeStyle_230 : decode cD_takeStyle 230 = .ok (.ireturn, 1) := by decide +kernel
theorem dD_takeSegment_0 : decode cD_takeSegment 0 = .ok (.aload_n 0, 1) := by decide +kernel
theorem dD_takeSegment_1 : decode cD_takeSegment 1 = .ok (.getfield 60, 3) := by decide +kernel
theorem dD_takeSegment_4 : decode cD_takeSegment 4 = .ok (.iload_n 1, 1) := by decide +kernel
theorem dD_takeSegment_5 : decode cD_takeSegment 5 = .ok (.iconst 1, 1) := by decide +kernel
theorem dD_takeSegment_6 : decode cD_takeSegment 6 = .ok (.iadd, 1) := by decide +kernel
theorem dD_takeSegment_7 : decode cD_takeSegment 7 = .ok (.iaload, 1) := by decide +kernel
theorem dD_takeSegment_8 : decode cD_takeSegment 8 = .ok (.istore_n 3, 1) := by decide +kernel
theorem dD_takeSegment_9 : decode cD_takeSegment 9 = .ok (.aload_n 0, 1) := by decide +kernel
theorem dD_takeSegment_10 : decode cD_takeSegment 10 = .ok (.iload_n 1, 1) := by decide +kernel
theorem dD_takeSegment_11 : decode cD_takeSegment 11 = .ok (.iconst 2, 1) := by decide +kernel
theorem dD_takeSegment_12 : decode cD_takeSegment 12 = .ok (.iadd, 1) := by decide +kernel
theorem dD_takeSegment_13 : decode cD_takeSegment 13 = .ok (.invokevirtual 314, 3) := by decide +kernel
theorem dD_takeSegment_16 : decode cD_takeSegment 16 = .ok (.istore 4, 2) := by decide +kernel
theorem dD_takeSegment_18 : decode cD_takeSegment 18 = .ok (.iload_n 1, 1) := by decide +kernel
theorem dD_takeSegment_19 : decode cD_takeSegment 19 = .ok (.iconst 4, 1) := by decide +kernel
theorem dD_takeSegment_20 : decode cD_takeSegment 20 = .ok (.iadd, 1) := by decide +kernel
theorem dD_takeSegment_21 : decode cD_takeSegment 21 = .ok (.istore 5, 2) := by decide +kernel
theorem dD_takeSegment_23 : decode cD_takeSegment 23 = .ok (.iload_n 3, 1) := by decide +kernel
theorem dD_takeSegment_24 : decode cD_takeSegment 24 = .ok (.bipush 82, 2) := by decide +kernel
theorem dD_takeSegment_26 : decode cD_takeSegment 26 = .ok (.if_icmp .eq 9, 3) := by decide +kernel
theorem dD_takeSegment_29 : decode cD_takeSegment 29 = .ok (.iload_n 3, 1) := by decide +kernel
theorem dD_takeSegment_30 : decode cD_takeSegment 30 = .ok (.bipush 92, 2) := by decide +kernel
theorem dD_takeSegment_32 : decode cD_takeSegment 32 = .ok (.if_icmp .ne 7, 3) := by decide +kernel
theorem dD_takeSegment_35 : decode cD_takeSegment 35 = .ok (.iconst 1, 1) := by decide +kernel
theorem dD_takeSegment_36 : decode cD_takeSegment 36 = .ok (.goto 4, 3) := by decide +kernel
theorem dD_takeSegment_39 : decode cD_takeSegment 39 = .ok (.iconst 0, 1) := by decide +kernel
theorem dD_takeSegment_40 : decode cD_takeSegment 40 = .ok (.istore 6, 2) := by decide +kernel
theorem dD_takeSegment_42 : decode cD_takeSegment 42 = .ok (.iload 4, 2) := by decide +kernel
theorem dD_takeSegment_44 : decode cD_takeSegment 44 = .ok (.iload_n 3, 1) := by decide +kernel
theorem dD_takeSegment_45 : decode cD_takeSegment 45 = .ok (.bipush 82, 2) := by decide +kernel
theorem dD_takeSegment_47 : decode cD_takeSegment 47 = .ok (.if_icmp .ne 8, 3) := by decide +kernel
theorem dD_takeSegment_50 : decode cD_takeSegment 50 = .ok (.bipush 12, 2) := by decide +kernel
theorem dD_takeSegment_52 : decode cD_takeSegment 52 = .ok (.goto 26, 3) := by decide +kernel
theorem dD_takeSegment_55 : decode cD_takeSegment 55 = .ok (.iload_n 3, 1) := by decide +kernel
theorem dD_takeSegment_56 : decode cD_takeSegment 56 = .ok (.bipush 83, 2) := by decide +kernel
theorem dD_takeSegment_58 : decode cD_takeSegment 58 = .ok (.if_icmp .ne 8, 3) := by decide +kernel
theorem dD_takeSegment_61 : decode cD_takeSegment 61 = .ok (.bipush 9, 2) := by decide +kernel
theorem dD_takeSegment_63 : decode cD_takeSegment 63 = .ok (.goto 15, 3) := by decide +kernel
theorem dD_takeSegment_66 : decode cD_takeSegment 66 = .ok (.iload_n 3, 1) := by decide +kernel
theorem dD_takeSegment_67 : decode cD_takeSegment 67 = .ok (.bipush 92, 2) := by decide +kernel
theorem dD_takeSegment_69 : decode cD_takeSegment 69 = .ok (.if_icmp .ne 7, 3) := by decide +kernel
theorem dD_takeSegment_72 : decode cD_takeSegment 72 = .ok (.iconst 5, 1) := by decide +kernel
theorem dD_takeSegment_73 : decode cD_takeSegment 73 = .ok (.goto 5, 3) := by decide +kernel
theorem dD_takeSegment_76 : decode cD_takeSegment 76 = .ok (.bipush 6, 2) := by decide +kernel
theorem dD_takeSegment_78 : decode cD_takeSegment 78 = .ok (.if_icmp .ne 25, 3) := by decide +kernel
theorem dD_takeSegment_81 : decode cD_takeSegment 81 = .ok (.iload 6, 2) := by decide +kernel
theorem dD_takeSegment_83 : decode cD_takeSegment 83 = .ok (.ifCond .ne 22, 3) := by decide +kernel
theorem dD_takeSegment_86 : decode cD_takeSegment 86 = .ok (.aload_n 0, 1) := by decide +kernel
theorem dD_takeSegment_87 : decode cD_takeSegment 87 = .ok (.getfield 60, 3) := by decide +kernel
theorem dD_takeSegment_90 : decode cD_takeSegment 90 = .ok (.iload 5, 2) := by decide +kernel
theorem dD_takeSegment_92 : decode cD_takeSegment 92 = .ok (.iaload, 1) := by decide +kernel
theorem dD_takeSegment_93 : decode cD_takeSegment 93 = .ok (.aload_n 0, 1) := by decide +kernel
theorem dD_takeSegment_94 : decode cD_takeSegment 94 = .ok (.getfield 23, 3) := by decide +kernel
theorem dD_takeSegment_97 : decode cD_takeSegment 97 = .ok (.bipush 7, 2) := by decide +kernel
theorem dD_takeSegment_99 : decode cD_takeSegment 99 = .ok (.iaload, 1) := by decide +kernel
theorem dD_takeSegment_100 : decode cD_takeSegment 100 = .ok (.if_icmp .lt 5, 3) := by decide +kernel
theorem dD_takeSegment_103 : decode cD_takeSegment 103 = .ok (.iconst 0, 1) := by decide +kernel
theorem dD_takeSegment_104 : decode cD_takeSegment 104 = .ok (.ireturn, 1) := by decide +kernel
theorem dD_takeSegment_105 : decode cD_takeSegment 105 = .ok (.bipush 125, 2) := by decide +kernel
theorem dD_takeSegment_107 : decode cD_takeSegment 107 = .ok (.iload_n 2, 1) := by decide +kernel
theorem dD_takeSegment_108 : decode cD_takeSegment 108 = .ok (.iload 6, 2) := by decide +kernel
theorem dD_takeSegment_110 : decode cD_takeSegment 110 = .ok (.ifCond .eq 7, 3) := by decide +kernel
theorem dD_takeSegment_113 : decode cD_takeSegment 113 = .ok (.iconst (-1), 1) := by decide +kernel
theorem dD_takeSegment_114 : decode cD_takeSegment 114 = .ok (.goto 10, 3) := by decide +kernel
theorem dD_takeSegment_117 : decode cD_takeSegment 117 = .ok (.aload_n 0, 1) := by decide +kernel
theorem dD_takeSegment_118 : decode cD_takeSegment 118 = .ok (.getfield 60, 3) := by decide +kernel
theorem dD_takeSegment_121 : decode cD_takeSegment 121 = .ok (.iload 5, 2) := by decide +kernel
theorem dD_takeSegment_123 : decode cD_takeSegment 123 = .ok (.iaload, 1) := by decide +kernel
theorem dD_takeSegment_124 : decode cD_takeSegment 124 = .ok (.invokestatic 121, 3) := by decide +kernel
theorem dD_takeSegment_127 : decode cD_takeSegment 127 = .ok (.iadd, 1) := by decide +kernel
theorem dD_takeSegment_128 : decode cD_takeSegment 128 = .ok (.istore 7, 2) := by decide +kernel
theorem dD_takeSegment_130 : decode cD_takeSegment 130 = .ok (.iload 5, 2) := by decide +kernel
theorem dD_takeSegment_132 : decode cD_takeSegment 132 = .ok (.iload 6, 2) := by decide +kernel
theorem dD_takeSegment_134 : decode cD_takeSegment 134 = .ok (.ifCond .eq 7, 3) := by decide +kernel
theorem dD_takeSegment_137 : decode cD_takeSegment 137 = .ok (.iconst 0, 1) := by decide +kernel
theorem dD_takeSegment_138 : decode cD_takeSegment 138 = .ok (.goto 4, 3) := by decide +kernel
theorem dD_takeSegment_141 : decode cD_takeSegment 141 = .ok (.iconst 1, 1) := by decide +kernel
theorem dD_takeSegment_142 : decode cD_takeSegment 142 = .ok (.iadd, 1) := by decide +kernel
theorem dD_takeSegment_143 : decode cD_takeSegment 143 = .ok (.istore 5, 2) := by decide +kernel
theorem dD_takeSegment_145 : decode cD_takeSegment 145 = .ok (.iload_n 3, 1) := by decide +kernel
theorem dD_takeSegment_146 : decode cD_takeSegment 146 = .ok (.bipush 90, 2) := by decide +kernel
theorem dD_takeSegment_148 : decode cD_takeSegment 148 = .ok (.if_icmp .le 14, 3) := by decide +kernel
theorem dD_takeSegment_151 : decode cD_takeSegment 151 = .ok (.aload_n 0, 1) := by decide +kernel
theorem dD_takeSegment_152 : decode cD_takeSegment 152 = .ok (.iload 5, 2) := by decide +kernel
theorem dD_takeSegment_154 : decode cD_takeSegment 154 = .ok (.iload 7, 2) := by decide +kernel
theorem dD_takeSegment_156 : decode cD_takeSegment 156 = .ok (.invokevirtual 319, 3) := by decide +kernel
theorem dD_takeSegment_159 : decode cD_takeSegment 159 = .ok (.goto 13, 3) := by decide +kernel
theorem dD_takeSegment_162 : decode cD_takeSegment 162 = .ok (.aload_n 0, 1) := by decide +kernel
theorem dD_takeSegment_163 : decode cD_takeSegment 163 = .ok (.iload 5, 2) := by decide +kernel
theorem dD_takeSegment_165 : decode cD_takeSegment 165 = .ok (.iload 7, 2) := by decide +kernel
theorem dD_takeSegment_167 : decode cD_takeSegment 167 = .ok (.iload 6, 2) := by decide +kernel
theorem dD_takeSegment_169 : decode cD_takeSegment 169 = .ok (.invokevirtual 322, 3) := by decide +kernel
theorem dD_takeSegment_172 : decode cD_takeSegment 172 = .ok (.ireturn, 1) := by decide +kernel
theorem dD_behind_0 : decode cD_behind 0 = .ok (.iload_n 2, 1) := by decide +kernel
theorem dD_behind_1 : decode cD_behind 1 = .ok (.iload_n 1, 1) := by decide +kernel
theorem dD_behind_2 : decode cD_behind 2 = .ok (.isub, 1) := by decide +kernel
theorem dD_behind_3 : decode cD_behind 3 = .ok (.iconst 4, 1) := by decide +kernel
theorem dD_behind_4 : decode cD_behind 4 = .ok (.if_icmp .lt 15, 3) := by decide +kernel
theorem dD_behind_7 : decode cD_behind 7 = .ok (.aload_n 0, 1) := by decide +kernel
theorem dD_behind_8 : decode cD_behind 8 = .ok (.getfield 60, 3) := by decide +kernel
theorem dD_behind_11 : decode cD_behind 11 = .ok (.iload_n 1, 1) := by decide +kernel
theorem dD_behind_12 : decode cD_behind 12 = .ok (.iaload, 1) := by decide +kernel
theorem dD_behind_13 : decode cD_behind 13 = .ok (.sipush 255, 3) := by decide +kernel
theorem dD_behind_16 : decode cD_behind 16 = .ok (.if_icmp .eq 5, 3) := by decide +kernel
theorem dD_behind_19 : decode cD_behind 19 = .ok (.iconst (-1), 1) := by decide +kernel
theorem dD_behind_20 : decode cD_behind 20 = .ok (.ireturn, 1) := by decide +kernel
theorem dD_behind_21 : decode cD_behind 21 = .ok (.aload_n 0, 1) := by decide +kernel
theorem dD_behind_22 : decode cD_behind 22 = .ok (.iload_n 1, 1) := by decide +kernel
theorem dD_behind_23 : decode cD_behind 23 = .ok (.iconst 2, 1) := by decide +kernel
theorem dD_behind_24 : decode cD_behind 24 = .ok (.iadd, 1) := by decide +kernel
theorem dD_behind_25 : decode cD_behind 25 = .ok (.invokevirtual 314, 3) := by decide +kernel
theorem dD_behind_28 : decode cD_behind 28 = .ok (.istore_n 3, 1) := by decide +kernel
theorem dD_behind_29 : decode cD_behind 29 = .ok (.iload_n 3, 1) := by decide +kernel
theorem dD_behind_30 : decode cD_behind 30 = .ok (.iconst 2, 1) := by decide +kernel
theorem dD_behind_31 : decode cD_behind 31 = .ok (.if_icmp .lt 12, 3) := by decide +kernel
theorem dD_behind_34 : decode cD_behind 34 = .ok (.iload_n 1, 1) := by decide +kernel
theorem dD_behind_35 : decode cD_behind 35 = .ok (.iconst 2, 1) := by decide +kernel
theorem dD_behind_36 : decode cD_behind 36 = .ok (.iadd, 1) := by decide +kernel
theorem dD_behind_37 : decode cD_behind 37 = .ok (.iload_n 3, 1) := by decide +kernel
theorem dD_behind_38 : decode cD_behind 38 = .ok (.iadd, 1) := by decide +kernel
theorem dD_behind_39 : decode cD_behind 39 = .ok (.iload_n 2, 1) := by decide +kernel
theorem dD_behind_40 : decode cD_behind 40 = .ok (.if_icmp .le 7, 3) := by decide +kernel
theorem dD_behind_43 : decode cD_behind 43 = .ok (.iconst (-1), 1) := by decide +kernel
theorem dD_behind_44 : decode cD_behind 44 = .ok (.goto 8, 3) := by decide +kernel
theorem dD_behind_47 : decode cD_behind 47 = .ok (.iload_n 1, 1) := by decide +kernel
theorem dD_behind_48 : decode cD_behind 48 = .ok (.iconst 2, 1) := by decide +kernel
theorem dD_behind_49 : decode cD_behind 49 = .ok (.iadd, 1) := by decide +kernel
theorem dD_behind_50 : decode cD_behind 50 = .ok (.iload_n 3, 1) := by decide +kernel
theorem dD_behind_51 : decode cD_behind 51 = .ok (.iadd, 1) := by decide +kernel
theorem dD_behind_52 : decode cD_behind 52 = .ok (.ireturn, 1) := by decide +kernel
theorem dD_isMark_0 : decode cD_isMark 0 = .ok (.iload_n 2, 1) := by decide +kernel
theorem dD_isMark_1 : decode cD_isMark 1 = .ok (.iload_n 1, 1) := by decide +kernel
theorem dD_isMark_2 : decode cD_isMark 2 = .ok (.isub, 1) := by decide +kernel
theorem dD_isMark_3 : decode cD_isMark 3 = .ok (.iconst 2, 1) := by decide +kernel
theorem dD_isMark_4 : decode cD_isMark 4 = .ok (.if_icmp .lt 31, 3) := by decide +kernel
theorem dD_isMark_7 : decode cD_isMark 7 = .ok (.aload_n 0, 1) := by decide +kernel
theorem dD_isMark_8 : decode cD_isMark 8 = .ok (.getfield 60, 3) := by decide +kernel
theorem dD_isMark_11 : decode cD_isMark 11 = .ok (.iload_n 1, 1) := by decide +kernel
theorem dD_isMark_12 : decode cD_isMark 12 = .ok (.iaload, 1) := by decide +kernel
theorem dD_isMark_13 : decode cD_isMark 13 = .ok (.sipush 255, 3) := by decide +kernel
theorem dD_isMark_16 : decode cD_isMark 16 = .ok (.if_icmp .ne 19, 3) := by decide +kernel
theorem dD_isMark_19 : decode cD_isMark 19 = .ok (.aload_n 0, 1) := by decide +kernel
theorem dD_isMark_20 : decode cD_isMark 20 = .ok (.getfield 60, 3) := by decide +kernel
theorem dD_isMark_23 : decode cD_isMark 23 = .ok (.iload_n 1, 1) := by decide +kernel
theorem dD_isMark_24 : decode cD_isMark 24 = .ok (.iconst 1, 1) := by decide +kernel
theorem dD_isMark_25 : decode cD_isMark 25 = .ok (.iadd, 1) := by decide +kernel
theorem dD_isMark_26 : decode cD_isMark 26 = .ok (.iaload, 1) := by decide +kernel
theorem dD_isMark_27 : decode cD_isMark 27 = .ok (.iload_n 3, 1) := by decide +kernel
theorem dD_isMark_28 : decode cD_isMark 28 = .ok (.if_icmp .ne 7, 3) := by decide +kernel
theorem dD_isMark_31 : decode cD_isMark 31 = .ok (.iconst 1, 1) := by decide +kernel
theorem dD_isMark_32 : decode cD_isMark 32 = .ok (.goto 4, 3) := by decide +kernel
theorem dD_isMark_35 : decode cD_isMark 35 = .ok (.iconst 0, 1) := by decide +kernel
theorem dD_isMark_36 : decode cD_isMark 36 = .ok (.ireturn, 1) := by decide +kernel
theorem dD_readHead_0 : decode cD_readHead 0 = .ok (.aload_n 0, 1) := by decide +kernel
theorem dD_readHead_1 : decode cD_readHead 1 = .ok (.aload_n 0, 1) := by decide +kernel
theorem dD_readHead_2 : decode cD_readHead 2 = .ok (.getfield 301, 3) := by decide +kernel
theorem dD_readHead_5 : decode cD_readHead 5 = .ok (.aload_n 0, 1) := by decide +kernel
theorem dD_readHead_6 : decode cD_readHead 6 = .ok (.getfield 304, 3) := by decide +kernel
theorem dD_readHead_9 : decode cD_readHead 9 = .ok (.bipush 79, 2) := by decide +kernel
theorem dD_readHead_11 : decode cD_readHead 11 = .ok (.invokevirtual 326, 3) := by decide +kernel
theorem dD_readHead_14 : decode cD_readHead 14 = .ok (.ifCond .ne 12, 3) := by decide +kernel
theorem dD_readHead_17 : decode cD_readHead 17 = .ok (.aload_n 0, 1) := by decide +kernel
theorem dD_readHead_18 : decode cD_readHead 18 = .ok (.aload_n 0, 1) := by decide +kernel
theorem dD_readHead_19 : decode cD_readHead 19 = .ok (.getfield 301, 3) := by decide +kernel
theorem dD_readHead_22 : decode cD_readHead 22 = .ok (.invokevirtual 278, 3) := by decide +kernel
theorem dD_readHead_25 : decode cD_readHead 25 = .ok (.ireturn, 1) := by decide +kernel
theorem dD_readHead_26 : decode cD_readHead 26 = .ok (.aload_n 0, 1) := by decide +kernel
theorem dD_readHead_27 : decode cD_readHead 27 = .ok (.dup, 1) := by decide +kernel
theorem dD_readHead_28 : decode cD_readHead 28 = .ok (.getfield 301, 3) := by decide +kernel
theorem dD_readHead_31 : decode cD_readHead 31 = .ok (.iconst 2, 1) := by decide +kernel
theorem dD_readHead_32 : decode cD_readHead 32 = .ok (.iadd, 1) := by decide +kernel
theorem dD_readHead_33 : decode cD_readHead 33 = .ok (.putfield 301, 3) := by decide +kernel
theorem dD_readHead_36 : decode cD_readHead 36 = .ok (.aload_n 0, 1) := by decide +kernel
theorem dD_readHead_37 : decode cD_readHead 37 = .ok (.invokevirtual 330, 3) := by decide +kernel
theorem dD_readHead_40 : decode cD_readHead 40 = .ok (.ifCond .ne 5, 3) := by decide +kernel
theorem dD_readHead_43 : decode cD_readHead 43 = .ok (.iconst 0, 1) := by decide +kernel
theorem dD_readHead_44 : decode cD_readHead 44 = .ok (.ireturn, 1) := by decide +kernel
theorem dD_readHead_45 : decode cD_readHead 45 = .ok (.aload_n 0, 1) := by decide +kernel
theorem dD_readHead_46 : decode cD_readHead 46 = .ok (.aload_n 0, 1) := by decide +kernel
theorem dD_readHead_47 : decode cD_readHead 47 = .ok (.getfield 301, 3) := by decide +kernel
theorem dD_readHead_50 : decode cD_readHead 50 = .ok (.aload_n 0, 1) := by decide +kernel
theorem dD_readHead_51 : decode cD_readHead 51 = .ok (.getfield 304, 3) := by decide +kernel
theorem dD_readHead_54 : decode cD_readHead 54 = .ok (.sipush 144, 3) := by decide +kernel
theorem dD_readHead_57 : decode cD_readHead 57 = .ok (.invokevirtual 326, 3) := by decide +kernel
theorem dD_readHead_60 : decode cD_readHead 60 = .ok (.ifCond .ne 85, 3) := by decide +kernel
theorem dD_readHead_63 : decode cD_readHead 63 = .ok (.aload_n 0, 1) := by decide +kernel
theorem dD_readHead_64 : decode cD_readHead 64 = .ok (.aload_n 0, 1) := by decide +kernel
theorem dD_readHead_65 : decode cD_readHead 65 = .ok (.getfield 301, 3) := by decide +kernel
theorem dD_readHead_68 : decode cD_readHead 68 = .ok (.aload_n 0, 1) := by decide +kernel
theorem dD_readHead_69 : decode cD_readHead 69 = .ok (.getfield 304, 3) := by decide +kernel
theorem dD_readHead_72 : decode cD_readHead 72 = .ok (.sipush 217, 3) := by decide +kernel
theorem dD_readHead_75 : decode cD_readHead 75 = .ok (.invokevirtual 326, 3) := by decide +kernel
theorem dD_readHead_78 : decode cD_readHead 78 = .ok (.ifCond .ne 67, 3) := by decide +kernel
theorem dD_readHead_81 : decode cD_readHead 81 = .ok (.aload_n 0, 1) := by decide +kernel
theorem dD_readHead_82 : decode cD_readHead 82 = .ok (.aload_n 0, 1) := by decide +kernel
theorem dD_readHead_83 : decode cD_readHead 83 = .ok (.getfield 301, 3) := by decide +kernel
theorem dD_readHead_86 : decode cD_readHead 86 = .ok (.aload_n 0, 1) := by decide +kernel
theorem dD_readHead_87 : decode cD_readHead 87 = .ok (.getfield 304, 3) := by decide +kernel
theorem dD_readHead_90 : decode cD_readHead 90 = .ok (.invokevirtual 333, 3) := by decide +kernel
theorem dD_readHead_93 : decode cD_readHead 93 = .ok (.istore_n 1, 1) := by decide +kernel
theorem dD_readHead_94 : decode cD_readHead 94 = .ok (.iload_n 1, 1) := by decide +kernel
theorem dD_readHead_95 : decode cD_readHead 95 = .ok (.iconst (-1), 1) := by decide +kernel
theorem dD_readHead_96 : decode cD_readHead 96 = .ok (.if_icmp .eq 32, 3) := by decide +kernel
theorem dD_readHead_99 : decode cD_readHead 99 = .ok (.aload_n 0, 1) := by decide +kernel
theorem dD_readHead_100 : decode cD_readHead 100 = .ok (.getfield 60, 3) := by decide +kernel
theorem dD_readHead_103 : decode cD_readHead 103 = .ok (.aload_n 0, 1) := by decide +kernel
theorem dD_readHead_104 : decode cD_readHead 104 = .ok (.getfield 301, 3) := by decide +kernel
theorem dD_readHead_107 : decode cD_readHead 107 = .ok (.iconst 1, 1) := by decide +kernel
theorem dD_readHead_108 : decode cD_readHead 108 = .ok (.iadd, 1) := by decide +kernel
theorem dD_readHead_109 : decode cD_readHead 109 = .ok (.iaload, 1) := by decide +kernel
theorem dD_readHead_110 : decode cD_readHead 110 = .ok (.invokestatic 336, 3) := by decide +kernel
theorem dD_readHead_113 : decode cD_readHead 113 = .ok (.ifCond .eq 24, 3) := by decide +kernel
theorem dD_readHead_116 : decode cD_readHead 116 = .ok (.aload_n 0, 1) := by decide +kernel
theorem dD_readHead_117 : decode cD_readHead 117 = .ok (.aload_n 0, 1) := by decide +kernel
theorem dD_readHead_118 : decode cD_readHead 118 = .ok (.getfield 301, 3) := by decide +kernel
theorem dD_readHead_121 : decode cD_readHead 121 = .ok (.iconst (-1), 1) := by decide +kernel
theorem dD_readHead_122 : decode cD_readHead 122 = .ok (.invokevirtual 339, 3) := by decide +kernel
theorem dD_readHead_125 : decode cD_readHead 125 = .ok (.ifCond .ne 12, 3) := by decide +kernel
theorem dD_readHead_128 : decode cD_readHead 128 = .ok (.aload_n 0, 1) := by decide +kernel
theorem dD_readHead_129 : decode cD_readHead 129 = .ok (.aload_n 0, 1) := by decide +kernel
theorem dD_readHead_130 : decode cD_readHead 130 = .ok (.getfield 301, 3) := by decide +kernel
theorem dD_readHead_133 : decode cD_readHead 133 = .ok (.invokevirtual 278, 3) := by decide +kernel
theorem dD_readHead_136 : decode cD_readHead 136 = .ok (.ireturn, 1) := by decide +kernel
theorem dD_readHead_137 : decode cD_readHead 137 = .ok (.aload_n 0, 1) := by decide +kernel
theorem dD_readHead_138 : decode cD_readHead 138 = .ok (.iload_n 1, 1) := by decide +kernel
theorem dD_readHead_139 : decode cD_readHead 139 = .ok (.putfield 301, 3) := by decide +kernel
theorem dD_readHead_142 : decode cD_readHead 142 = .ok (.goto (-97), 3) := by decide +kernel
theorem dD_readHead_145 : decode cD_readHead 145 = .ok (.aload_n 0, 1) := by decide +kernel
theorem dD_readHead_146 : decode cD_readHead 146 = .ok (.getfield 13, 3) := by decide +kernel
theorem dD_readHead_149 : decode cD_readHead 149 = .ok (.bipush 125, 2) := by decide +kernel
theorem dD_readHead_151 : decode cD_readHead 151 = .ok (.baload, 1) := by decide +kernel
theorem dD_readHead_152 : decode cD_readHead 152 = .ok (.ifCond .eq 13, 3) := by decide +kernel
theorem dD_readHead_155 : decode cD_readHead 155 = .ok (.aload_n 0, 1) := by decide +kernel
theorem dD_readHead_156 : decode cD_readHead 156 = .ok (.getfield 17, 3) := by decide +kernel
theorem dD_readHead_159 : decode cD_readHead 159 = .ok (.bipush 125, 2) := by decide +kernel
theorem dD_readHead_161 : decode cD_readHead 161 = .ok (.baload, 1) := by decide +kernel
theorem dD_readHead_162 : decode cD_readHead 162 = .ok (.ifCond .ne 14, 3) := by decide +kernel
theorem dD_readHead_165 : decode cD_readHead 165 = .ok (.aload_n 0, 1) := by decide +kernel
theorem dD_readHead_166 : decode cD_readHead 166 = .ok (.aload_n 0, 1) := by decide +kernel
theorem dD_readHead_167 : decode cD_readHead 167 = .ok (.getfield 301, 3) := by decide +kernel
theorem dD_readHead_170 : decode cD_readHead 170 = .ok (.invokevirtual 278, 3) := by decide +kernel
theorem dD_readHead_173 : decode cD_readHead 173 = .ok (.ifCond .eq 7, 3) := by decide +kernel
theorem dD_readHead_176 : decode cD_readHead 176 = .ok (.iconst 1, 1) := by decide +kernel
theorem dD_readHead_177 : decode cD_readHead 177 = .ok (.goto 4, 3) := by decide +kernel
theorem dD_readHead_180 : decode cD_readHead 180 = .ok (.iconst 0, 1) := by decide +kernel
theorem dD_readHead_181 : decode cD_readHead 181 = .ok (.ireturn, 1) := by decide +kernel
theorem dD_takeLengths_0 : decode cD_takeLengths 0 = .ok (.iload_n 2, 1) := by decide +kernel
theorem dD_takeLengths_1 : decode cD_takeLengths 1 = .ok (.iload_n 1, 1) := by decide +kernel
theorem dD_takeLengths_2 : decode cD_takeLengths 2 = .ok (.isub, 1) := by decide +kernel
theorem dD_takeLengths_3 : decode cD_takeLengths 3 = .ok (.iconst 5, 1) := by decide +kernel
theorem dD_takeLengths_4 : decode cD_takeLengths 4 = .ok (.if_icmp .ge 5, 3) := by decide +kernel
theorem dD_takeLengths_7 : decode cD_takeLengths 7 = .ok (.iconst 0, 1) := by decide +kernel
theorem dD_takeLengths_8 : decode cD_takeLengths 8 = .ok (.ireturn, 1) := by decide +kernel
theorem dD_takeLengths_9 : decode cD_takeLengths 9 = .ok (.iconst 0, 1) := by decide +kernel
theorem dD_takeLengths_10 : decode cD_takeLengths 10 = .ok (.istore_n 3, 1) := by decide +kernel
theorem dD_takeLengths_11 : decode cD_takeLengths 11 = .ok (.iload_n 1, 1) := by decide +kernel
theorem dD_takeLengths_12 : decode cD_takeLengths 12 = .ok (.iconst 5, 1) := by decide +kernel
theorem dD_takeLengths_13 : decode cD_takeLengths 13 = .ok (.iadd, 1) := by decide +kernel
theorem dD_takeLengths_14 : decode cD_takeLengths 14 = .ok (.istore 4, 2) := by decide +kernel
theorem dD_takeLengths_16 : decode cD_takeLengths 16 = .ok (.iload 4, 2) := by decide +kernel
theorem dD_takeLengths_18 : decode cD_takeLengths 18 = .ok (.iload_n 2, 1) := by decide +kernel
theorem dD_takeLengths_19 : decode cD_takeLengths 19 = .ok (.if_icmp .ge 83, 3) := by decide +kernel
theorem dD_takeLengths_22 : decode cD_takeLengths 22 = .ok (.sipush 128, 3) := by decide +kernel
theorem dD_takeLengths_25 : decode cD_takeLengths 25 = .ok (.iload_n 3, 1) := by decide +kernel
theorem dD_takeLengths_26 : decode cD_takeLengths 26 = .ok (.imul, 1) := by decide +kernel
theorem dD_takeLengths_27 : decode cD_takeLengths 27 = .ok (.aload_n 0, 1) := by decide +kernel
theorem dD_takeLengths_28 : decode cD_takeLengths 28 = .ok (.getfield 60, 3) := by decide +kernel
theorem dD_takeLengths_31 : decode cD_takeLengths 31 = .ok (.iload 4, 2) := by decide +kernel
theorem dD_takeLengths_33 : decode cD_takeLengths 33 = .ok (.iaload, 1) := by decide +kernel
theorem dD_takeLengths_34 : decode cD_takeLengths 34 = .ok (.sipush 128, 3) := by decide +kernel
theorem dD_takeLengths_37 : decode cD_takeLengths 37 = .ok (.irem, 1) := by decide +kernel
theorem dD_takeLengths_38 : decode cD_takeLengths 38 = .ok (.iadd, 1) := by decide +kernel
theorem dD_takeLengths_39 : decode cD_takeLengths 39 = .ok (.istore_n 3, 1) := by decide +kernel
theorem dD_takeLengths_40 : decode cD_takeLengths 40 = .ok (.iload_n 3, 1) := by decide +kernel
theorem dD_takeLengths_41 : decode cD_takeLengths 41 = .ok (.ldc_w 342, 3) := by decide +kernel
theorem dD_takeLengths_44 : decode cD_takeLengths 44 = .ok (.if_icmp .le 5, 3) := by decide +kernel
theorem dD_takeLengths_47 : decode cD_takeLengths 47 = .ok (.iconst 0, 1) := by decide +kernel
theorem dD_takeLengths_48 : decode cD_takeLengths 48 = .ok (.ireturn, 1) := by decide +kernel
theorem dD_takeLengths_49 : decode cD_takeLengths 49 = .ok (.aload_n 0, 1) := by decide +kernel
theorem dD_takeLengths_50 : decode cD_takeLengths 50 = .ok (.getfield 60, 3) := by decide +kernel
theorem dD_takeLengths_53 : decode cD_takeLengths 53 = .ok (.iload 4, 2) := by decide +kernel
theorem dD_takeLengths_55 : decode cD_takeLengths 55 = .ok (.iaload, 1) := by decide +kernel
theorem dD_takeLengths_56 : decode cD_takeLengths 56 = .ok (.sipush 128, 3) := by decide +kernel
theorem dD_takeLengths_59 : decode cD_takeLengths 59 = .ok (.if_icmp .ge 37, 3) := by decide +kernel
theorem dD_takeLengths_62 : decode cD_takeLengths 62 = .ok (.aload_n 0, 1) := by decide +kernel
theorem dD_takeLengths_63 : decode cD_takeLengths 63 = .ok (.getfield 343, 3) := by decide +kernel
theorem dD_takeLengths_66 : decode cD_takeLengths 66 = .ok (.sipush 200, 3) := by decide +kernel
theorem dD_takeLengths_69 : decode cD_takeLengths 69 = .ok (.if_icmp .ne 5, 3) := by decide +kernel
theorem dD_takeLengths_72 : decode cD_takeLengths 72 = .ok (.iconst 0, 1) := by decide +kernel
theorem dD_takeLengths_73 : decode cD_takeLengths 73 = .ok (.ireturn, 1) := by decide +kernel
theorem dD_takeLengths_74 : decode cD_takeLengths 74 = .ok (.aload_n 0, 1) := by decide +kernel
theorem dD_takeLengths_75 : decode cD_takeLengths 75 = .ok (.getfield 93, 3) := by decide +kernel
theorem dD_takeLengths_78 : decode cD_takeLengths 78 = .ok (.aload_n 0, 1) := by decide +kernel
theorem dD_takeLengths_79 : decode cD_takeLengths 79 = .ok (.getfield 343, 3) := by decide +kernel
theorem dD_takeLengths_82 : decode cD_takeLengths 82 = .ok (.iload_n 3, 1) := by decide +kernel
theorem dD_takeLengths_83 : decode cD_takeLengths 83 = .ok (.iastore, 1) := by decide +kernel
theorem dD_takeLengths_84 : decode cD_takeLengths 84 = .ok (.aload_n 0, 1) := by decide +kernel
theorem dD_takeLengths_85 : decode cD_takeLengths 85 = .ok (.dup, 1) := by decide +kernel
theorem dD_takeLengths_86 : decode cD_takeLengths 86 = .ok (.getfield 343, 3) := by decide +kernel
theorem dD_takeLengths_89 : decode cD_takeLengths 89 = .ok (.iconst 1, 1) := by decide +kernel
theorem dD_takeLengths_90 : decode cD_takeLengths 90 = .ok (.iadd, 1) := by decide +kernel
theorem dD_takeLengths_91 : decode cD_takeLengths 91 = .ok (.putfield 343, 3) := by decide +kernel
theorem dD_takeLengths_94 : decode cD_takeLengths 94 = .ok (.iconst 0, 1) := by decide +kernel
theorem dD_takeLengths_95 : decode cD_takeLengths 95 = .ok (.istore_n 3, 1) := by decide +kernel
theorem dD_takeLengths_96 : decode cD_takeLengths 96 = .ok (.iinc 4 1, 3) := by decide +kernel
theorem dD_takeLengths_99 : decode cD_takeLengths 99 = .ok (.goto (-83), 3) := by decide +kernel
theorem dD_takeLengths_102 : decode cD_takeLengths 102 = .ok (.iconst 1, 1) := by decide +kernel
theorem dD_takeLengths_103 : decode cD_takeLengths 103 = .ok (.ireturn, 1) := by decide +kernel
theorem dD_headOf_0 : decode cD_headOf 0 = .ok (.iload_n 1, 1) := by decide +kernel
theorem dD_headOf_1 : decode cD_headOf 1 = .ok (.istore 5, 2) := by decide +kernel
theorem dD_headOf_3 : decode cD_headOf 3 = .ok (.aload_n 0, 1) := by decide +kernel
theorem dD_headOf_4 : decode cD_headOf 4 = .ok (.iconst 0, 1) := by decide +kernel
theorem dD_headOf_5 : decode cD_headOf 5 = .ok (.putfield 343, 3) := by decide +kernel
theorem dD_headOf_8 : decode cD_headOf 8 = .ok (.aload_n 0, 1) := by decide +kernel
theorem dD_headOf_9 : decode cD_headOf 9 = .ok (.iload 5, 2) := by decide +kernel
theorem dD_headOf_11 : decode cD_headOf 11 = .ok (.iload_n 2, 1) := by decide +kernel
theorem dD_headOf_12 : decode cD_headOf 12 = .ok (.sipush 147, 3) := by decide +kernel
theorem dD_headOf_15 : decode cD_headOf 15 = .ok (.invokevirtual 326, 3) := by decide +kernel
theorem dD_headOf_18 : decode cD_headOf 18 = .ok (.ifCond .ne 88, 3) := by decide +kernel
theorem dD_headOf_21 : decode cD_headOf 21 = .ok (.aload_n 0, 1) := by decide +kernel
theorem dD_headOf_22 : decode cD_headOf 22 = .ok (.iload 5, 2) := by decide +kernel
theorem dD_headOf_24 : decode cD_headOf 24 = .ok (.iload_n 2, 1) := by decide +kernel
theorem dD_headOf_25 : decode cD_headOf 25 = .ok (.invokevirtual 333, 3) := by decide +kernel
theorem dD_headOf_28 : decode cD_headOf 28 = .ok (.istore 6, 2) := by decide +kernel
theorem dD_headOf_30 : decode cD_headOf 30 = .ok (.iload 6, 2) := by decide +kernel
theorem dD_headOf_32 : decode cD_headOf 32 = .ok (.iconst (-1), 1) := by decide +kernel
theorem dD_headOf_33 : decode cD_headOf 33 = .ok (.if_icmp .ne 5, 3) := by decide +kernel
theorem dD_headOf_36 : decode cD_headOf 36 = .ok (.iconst (-1), 1) := by decide +kernel
theorem dD_headOf_37 : decode cD_headOf 37 = .ok (.ireturn, 1) := by decide +kernel
theorem dD_headOf_38 : decode cD_headOf 38 = .ok (.aload_n 0, 1) := by decide +kernel
theorem dD_headOf_39 : decode cD_headOf 39 = .ok (.getfield 60, 3) := by decide +kernel
theorem dD_headOf_42 : decode cD_headOf 42 = .ok (.iload 5, 2) := by decide +kernel
theorem dD_headOf_44 : decode cD_headOf 44 = .ok (.iconst 1, 1) := by decide +kernel
theorem dD_headOf_45 : decode cD_headOf 45 = .ok (.iadd, 1) := by decide +kernel
theorem dD_headOf_46 : decode cD_headOf 46 = .ok (.iaload, 1) := by decide +kernel
theorem dD_headOf_47 : decode cD_headOf 47 = .ok (.invokestatic 336, 3) := by decide +kernel
theorem dD_headOf_50 : decode cD_headOf 50 = .ok (.istore 7, 2) := by decide +kernel
theorem dD_headOf_52 : decode cD_headOf 52 = .ok (.iload 7, 2) := by decide +kernel
theorem dD_headOf_54 : decode cD_headOf 54 = .ok (.ifCond .eq 18, 3) := by decide +kernel
theorem dD_headOf_57 : decode cD_headOf 57 = .ok (.iload 4, 2) := by decide +kernel
theorem dD_headOf_59 : decode cD_headOf 59 = .ok (.ifCond .eq 38, 3) := by decide +kernel
theorem dD_headOf_62 : decode cD_headOf 62 = .ok (.aload_n 0, 1) := by decide +kernel
theorem dD_headOf_63 : decode cD_headOf 63 = .ok (.iload 5, 2) := by decide +kernel
theorem dD_headOf_65 : decode cD_headOf 65 = .ok (.iload_n 3, 1) := by decide +kernel
theorem dD_headOf_66 : decode cD_headOf 66 = .ok (.invokevirtual 339, 3) := by decide +kernel
theorem dD_headOf_69 : decode cD_headOf 69 = .ok (.ifCond .eq 28, 3) := by decide +kernel
theorem dD_headOf_72 : decode cD_headOf 72 = .ok (.aload_n 0, 1) := by decide +kernel
theorem dD_headOf_73 : decode cD_headOf 73 = .ok (.getfield 60, 3) := by decide +kernel
theorem dD_headOf_76 : decode cD_headOf 76 = .ok (.iload 5, 2) := by decide +kernel
theorem dD_headOf_78 : decode cD_headOf 78 = .ok (.iconst 1, 1) := by decide +kernel
theorem dD_headOf_79 : decode cD_headOf 79 = .ok (.iadd, 1) := by decide +kernel
theorem dD_headOf_80 : decode cD_headOf 80 = .ok (.iaload, 1) := by decide +kernel
theorem dD_headOf_81 : decode cD_headOf 81 = .ok (.bipush 88, 2) := by decide +kernel
theorem dD_headOf_83 : decode cD_headOf 83 = .ok (.if_icmp .ne 16, 3) := by decide +kernel
theorem dD_headOf_86 : decode cD_headOf 86 = .ok (.aload_n 0, 1) := by decide +kernel
theorem dD_headOf_87 : decode cD_headOf 87 = .ok (.iload 5, 2) := by decide +kernel
theorem dD_headOf_89 : decode cD_headOf 89 = .ok (.iload 6, 2) := by decide +kernel
theorem dD_headOf_91 : decode cD_headOf 91 = .ok (.invokevirtual 346, 3) := by decide +kernel
theorem dD_headOf_94 : decode cD_headOf 94 = .ok (.ifCond .ne 5, 3) := by decide +kernel
theorem dD_headOf_97 : decode cD_headOf 97 = .ok (.iconst (-1), 1) := by decide +kernel
theorem dD_headOf_98 : decode cD_headOf 98 = .ok (.ireturn, 1) := by decide +kernel
theorem dD_headOf_99 : decode cD_headOf 99 = .ok (.iload 6, 2) := by decide +kernel
theorem dD_headOf_101 : decode cD_headOf 101 = .ok (.istore 5, 2) := by decide +kernel
theorem dD_headOf_103 : decode cD_headOf 103 = .ok (.goto (-95), 3) := by decide +kernel
theorem dD_headOf_106 : decode cD_headOf 106 = .ok (.iload 5, 2) := by decide +kernel
theorem dD_headOf_108 : decode cD_headOf 108 = .ok (.iconst 2, 1) := by decide +kernel
theorem dD_headOf_109 : decode cD_headOf 109 = .ok (.iadd, 1) := by decide +kernel
theorem dD_headOf_110 : decode cD_headOf 110 = .ok (.ireturn, 1) := by decide +kernel
theorem dD_forget_0 : decode cD_forget 0 = .ok (.iconst (-1), 1) := by decide +kernel
theorem dD_forget_1 : decode cD_forget 1 = .ok (.istore_n 2, 1) := by decide +kernel
theorem dD_forget_2 : decode cD_forget 2 = .ok (.iload_n 2, 1) := by decide +kernel
theorem dD_forget_3 : decode cD_forget 3 = .ok (.iconst 4, 1) := by decide +kernel
theorem dD_forget_4 : decode cD_forget 4 = .ok (.if_icmp .ge 37, 3) := by decide +kernel
theorem dD_forget_7 : decode cD_forget 7 = .ok (.aload_n 0, 1) := by decide +kernel
theorem dD_forget_8 : decode cD_forget 8 = .ok (.getfield 13, 3) := by decide +kernel
theorem dD_forget_11 : decode cD_forget 11 = .ok (.bipush 125, 2) := by decide +kernel
theorem dD_forget_13 : decode cD_forget 13 = .ok (.iload_n 1, 1) := by decide +kernel
theorem dD_forget_14 : decode cD_forget 14 = .ok (.iload_n 2, 1) := by decide +kernel
theorem dD_forget_15 : decode cD_forget 15 = .ok (.invokestatic 121, 3) := by decide +kernel
theorem dD_forget_18 : decode cD_forget 18 = .ok (.iadd, 1) := by decide +kernel
theorem dD_forget_19 : decode cD_forget 19 = .ok (.iconst 0, 1) := by decide +kernel
theorem dD_forget_20 : decode cD_forget 20 = .ok (.bastore, 1) := by decide +kernel
theorem dD_forget_21 : decode cD_forget 21 = .ok (.aload_n 0, 1) := by decide +kernel
theorem dD_forget_22 : decode cD_forget 22 = .ok (.getfield 17, 3) := by decide +kernel
theorem dD_forget_25 : decode cD_forget 25 = .ok (.bipush 125, 2) := by decide +kernel
theorem dD_forget_27 : decode cD_forget 27 = .ok (.iload_n 1, 1) := by decide +kernel
theorem dD_forget_28 : decode cD_forget 28 = .ok (.iload_n 2, 1) := by decide +kernel
theorem dD_forget_29 : decode cD_forget 29 = .ok (.invokestatic 121, 3) := by decide +kernel
theorem dD_forget_32 : decode cD_forget 32 = .ok (.iadd, 1) := by decide +kernel
theorem dD_forget_33 : decode cD_forget 33 = .ok (.iconst 0, 1) := by decide +kernel
theorem dD_forget_34 : decode cD_forget 34 = .ok (.bastore, 1) := by decide +kernel
theorem dD_forget_35 : decode cD_forget 35 = .ok (.iinc 2 1, 3) := by decide +kernel
theorem dD_forget_38 : decode cD_forget 38 = .ok (.goto (-36), 3) := by decide +kernel
theorem dD_forget_41 : decode cD_forget 41 = .ok (.return_, 1) := by decide +kernel
theorem dD_takePackets_0 : decode cD_takePackets 0 = .ok (.lconst 0, 1) := by decide +kernel
theorem dD_takePackets_1 : decode cD_takePackets 1 = .ok (.lstore 5, 2) := by decide +kernel
theorem dD_takePackets_3 : decode cD_takePackets 3 = .ok (.iconst 0, 1) := by decide +kernel
theorem dD_takePackets_4 : decode cD_takePackets 4 = .ok (.istore 7, 2) := by decide +kernel
theorem dD_takePackets_6 : decode cD_takePackets 6 = .ok (.lconst 0, 1) := by decide +kernel
theorem dD_takePackets_7 : decode cD_takePackets 7 = .ok (.lstore 8, 2) := by decide +kernel
theorem dD_takePackets_9 : decode cD_takePackets 9 = .ok (.iconst 0, 1) := by decide +kernel
theorem dD_takePackets_10 : decode cD_takePackets 10 = .ok (.istore 10, 2) := by decide +kernel
theorem dD_takePackets_12 : decode cD_takePackets 12 = .ok (.iload 10, 2) := by decide +kernel
theorem dD_takePackets_14 : decode cD_takePackets 14 = .ok (.aload_n 0, 1) := by decide +kernel
theorem dD_takePackets_15 : decode cD_takePackets 15 = .ok (.getfield 343, 3) := by decide +kernel
theorem dD_takePackets_18 : decode cD_takePackets 18 = .ok (.if_icmp .ge 76, 3) := by decide +kernel
theorem dD_takePackets_21 : decode cD_takePackets 21 = .ok (.lload 5, 2) := by decide +kernel
theorem dD_takePackets_23 : decode cD_takePackets 23 = .ok (.aload_n 0, 1) := by decide +kernel
theorem dD_takePackets_24 : decode cD_takePackets 24 = .ok (.getfield 93, 3) := by decide +kernel
theorem dD_takePackets_27 : decode cD_takePackets 27 = .ok (.iload 10, 2) := by decide +kernel
theorem dD_takePackets_29 : decode cD_takePackets 29 = .ok (.iaload, 1) := by decide +kernel
theorem dD_takePackets_30 : decode cD_takePackets 30 = .ok (.i2l, 1) := by decide +kernel
theorem dD_takePackets_31 : decode cD_takePackets 31 = .ok (.ladd, 1) := by decide +kernel
theorem dD_takePackets_32 : decode cD_takePackets 32 = .ok (.lstore 5, 2) := by decide +kernel
theorem dD_takePackets_34 : decode cD_takePackets 34 = .ok (.iload 7, 2) := by decide +kernel
theorem dD_takePackets_36 : decode cD_takePackets 36 = .ok (.iload 10, 2) := by decide +kernel
theorem dD_takePackets_38 : decode cD_takePackets 38 = .ok (.if_icmp .ne 18, 3) := by decide +kernel
theorem dD_takePackets_41 : decode cD_takePackets 41 = .ok (.iload_n 2, 1) := by decide +kernel
theorem dD_takePackets_42 : decode cD_takePackets 42 = .ok (.i2l, 1) := by decide +kernel
theorem dD_takePackets_43 : decode cD_takePackets 43 = .ok (.lload 5, 2) := by decide +kernel
theorem dD_takePackets_45 : decode cD_takePackets 45 = .ok (.ladd, 1) := by decide +kernel
theorem dD_takePackets_46 : decode cD_takePackets 46 = .ok (.iload_n 3, 1) := by decide +kernel
theorem dD_takePackets_47 : decode cD_takePackets 47 = .ok (.i2l, 1) := by decide +kernel
theorem dD_takePackets_48 : decode cD_takePackets 48 = .ok (.lcmp, 1) := by decide +kernel
theorem dD_takePackets_49 : decode cD_takePackets 49 = .ok (.ifCond .gt 7, 3) := by decide +kernel
theorem dD_takePackets_52 : decode cD_takePackets 52 = .ok (.iconst 1, 1) := by decide +kernel
theorem dD_takePackets_53 : decode cD_takePackets 53 = .ok (.goto 4, 3) := by decide +kernel
theorem dD_takePackets_56 : decode cD_takePackets 56 = .ok (.iconst 0, 1) := by decide +kernel
theorem dD_takePackets_57 : decode cD_takePackets 57 = .ok (.istore 11, 2) := by decide +kernel
theorem dD_takePackets_59 : decode cD_takePackets 59 = .ok (.iload 7, 2) := by decide +kernel
theorem dD_takePackets_61 : decode cD_takePackets 61 = .ok (.iload 11, 2) := by decide +kernel
theorem dD_takePackets_63 : decode cD_takePackets 63 = .ok (.ifCond .eq 7, 3) := by decide +kernel
theorem dD_takePackets_66 : decode cD_takePackets 66 = .ok (.iconst 1, 1) := by decide +kernel
theorem dD_takePackets_67 : decode cD_takePackets 67 = .ok (.goto 4, 3) := by decide +kernel
theorem dD_takePackets_70 : decode cD_takePackets 70 = .ok (.iconst 0, 1) := by decide +kernel
theorem dD_takePackets_71 : decode cD_takePackets 71 = .ok (.iadd, 1) := by decide +kernel
theorem dD_takePackets_72 : decode cD_takePackets 72 = .ok (.istore 7, 2) := by decide +kernel
theorem dD_takePackets_74 : decode cD_takePackets 74 = .ok (.iload 11, 2) := by decide +kernel
theorem dD_takePackets_76 : decode cD_takePackets 76 = .ok (.ifCond .eq 8, 3) := by decide +kernel
theorem dD_takePackets_79 : decode cD_takePackets 79 = .ok (.lload 5, 2) := by decide +kernel
theorem dD_takePackets_81 : decode cD_takePackets 81 = .ok (.goto 5, 3) := by decide +kernel
theorem dD_takePackets_84 : decode cD_takePackets 84 = .ok (.lload 8, 2) := by decide +kernel
theorem dD_takePackets_86 : decode cD_takePackets 86 = .ok (.lstore 8, 2) := by decide +kernel
theorem dD_takePackets_88 : decode cD_takePackets 88 = .ok (.iinc 10 1, 3) := by decide +kernel
theorem dD_takePackets_91 : decode cD_takePackets 91 = .ok (.goto (-79), 3) := by decide +kernel
theorem dD_takePackets_94 : decode cD_takePackets 94 = .ok (.iload 4, 2) := by decide +kernel
theorem dD_takePackets_96 : decode cD_takePackets 96 = .ok (.ifCond .ne 21, 3) := by decide +kernel
theorem dD_takePackets_99 : decode cD_takePackets 99 = .ok (.lload 5, 2) := by decide +kernel
theorem dD_takePackets_101 : decode cD_takePackets 101 = .ok (.iload_n 3, 1) := by decide +kernel
theorem dD_takePackets_102 : decode cD_takePackets 102 = .ok (.iload_n 2, 1) := by decide +kernel
theorem dD_takePackets_103 : decode cD_takePackets 103 = .ok (.isub, 1) := by decide +kernel
theorem dD_takePackets_104 : decode cD_takePackets 104 = .ok (.i2l, 1) := by decide +kernel
theorem dD_takePackets_105 : decode cD_takePackets 105 = .ok (.lcmp, 1) := by decide +kernel
theorem dD_takePackets_106 : decode cD_takePackets 106 = .ok (.ifCond .eq 11, 3) := by decide +kernel
theorem dD_takePackets_109 : decode cD_takePackets 109 = .ok (.aload_n 0, 1) := by decide +kernel
theorem dD_takePackets_110 : decode cD_takePackets 110 = .ok (.getfield 84, 3) := by decide +kernel
theorem dD_takePackets_113 : decode cD_takePackets 113 = .ok (.iload_n 1, 1) := by decide +kernel
theorem dD_takePackets_114 : decode cD_takePackets 114 = .ok (.iconst 1, 1) := by decide +kernel
theorem dD_takePackets_115 : decode cD_takePackets 115 = .ok (.bastore, 1) := by decide +kernel
theorem dD_takePackets_116 : decode cD_takePackets 116 = .ok (.return_, 1) := by decide +kernel
theorem dD_takePackets_117 : decode cD_takePackets 117 = .ok (.aload_n 0, 1) := by decide +kernel
theorem dD_takePackets_118 : decode cD_takePackets 118 = .ok (.getfield 75, 3) := by decide +kernel
theorem dD_takePackets_121 : decode cD_takePackets 121 = .ok (.iload_n 1, 1) := by decide +kernel
theorem dD_takePackets_122 : decode cD_takePackets 122 = .ok (.iload_n 2, 1) := by decide +kernel
theorem dD_takePackets_123 : decode cD_takePackets 123 = .ok (.iastore, 1) := by decide +kernel
theorem dD_takePackets_124 : decode cD_takePackets 124 = .ok (.aload_n 0, 1) := by decide +kernel
theorem dD_takePackets_125 : decode cD_takePackets 125 = .ok (.getfield 78, 3) := by decide +kernel
theorem dD_takePackets_128 : decode cD_takePackets 128 = .ok (.iload_n 1, 1) := by decide +kernel
theorem dD_takePackets_129 : decode cD_takePackets 129 = .ok (.lload 8, 2) := by decide +kernel
theorem dD_takePackets_131 : decode cD_takePackets 131 = .ok (.l2i, 1) := by decide +kernel
theorem dD_takePackets_132 : decode cD_takePackets 132 = .ok (.iastore, 1) := by decide +kernel
theorem dD_takePackets_133 : decode cD_takePackets 133 = .ok (.aload_n 0, 1) := by decide +kernel
theorem dD_takePackets_134 : decode cD_takePackets 134 = .ok (.getfield 81, 3) := by decide +kernel
theorem dD_takePackets_137 : decode cD_takePackets 137 = .ok (.iload_n 1, 1) := by decide +kernel
theorem dD_takePackets_138 : decode cD_takePackets 138 = .ok (.iload 7, 2) := by decide +kernel
theorem dD_takePackets_140 : decode cD_takePackets 140 = .ok (.iastore, 1) := by decide +kernel
theorem dD_takePackets_141 : decode cD_takePackets 141 = .ok (.return_, 1) := by decide +kernel
theorem dD_readPart_0 : decode cD_readPart 0 = .ok (.aload_n 0, 1) := by decide +kernel
theorem dD_readPart_1 : decode cD_readPart 1 = .ok (.getfield 304, 3) := by decide +kernel
theorem dD_readPart_4 : decode cD_readPart 4 = .ok (.aload_n 0, 1) := by decide +kernel
theorem dD_readPart_5 : decode cD_readPart 5 = .ok (.getfield 301, 3) := by decide +kernel
theorem dD_readPart_8 : decode cD_readPart 8 = .ok (.isub, 1) := by decide +kernel
theorem dD_readPart_9 : decode cD_readPart 9 = .ok (.bipush 12, 2) := by decide +kernel
theorem dD_readPart_11 : decode cD_readPart 11 = .ok (.if_icmp .lt 31, 3) := by decide +kernel
theorem dD_readPart_14 : decode cD_readPart 14 = .ok (.aload_n 0, 1) := by decide +kernel
theorem dD_readPart_15 : decode cD_readPart 15 = .ok (.aload_n 0, 1) := by decide +kernel
theorem dD_readPart_16 : decode cD_readPart 16 = .ok (.getfield 301, 3) := by decide +kernel
theorem dD_readPart_19 : decode cD_readPart 19 = .ok (.aload_n 0, 1) := by decide +kernel
theorem dD_readPart_20 : decode cD_readPart 20 = .ok (.getfield 304, 3) := by decide +kernel
theorem dD_readPart_23 : decode cD_readPart 23 = .ok (.sipush 144, 3) := by decide +kernel
theorem dD_readPart_26 : decode cD_readPart 26 = .ok (.invokevirtual 326, 3) := by decide +kernel
theorem dD_readPart_29 : decode cD_readPart 29 = .ok (.ifCond .eq 13, 3) := by decide +kernel
theorem dD_readPart_32 : decode cD_readPart 32 = .ok (.aload_n 0, 1) := by decide +kernel
theorem dD_readPart_33 : decode cD_readPart 33 = .ok (.getfield 349, 3) := by decide +kernel
theorem dD_readPart_36 : decode cD_readPart 36 = .ok (.sipush 300, 3) := by decide +kernel
theorem dD_readPart_39 : decode cD_readPart 39 = .ok (.if_icmp .ne 5, 3) := by decide +kernel
theorem dD_readPart_42 : decode cD_readPart 42 = .ok (.iconst 0, 1) := by decide +kernel
theorem dD_readPart_43 : decode cD_readPart 43 = .ok (.ireturn, 1) := by decide +kernel
theorem dD_readPart_44 : decode cD_readPart 44 = .ok (.aload_n 0, 1) := by decide +kernel
theorem dD_readPart_45 : decode cD_readPart 45 = .ok (.aload_n 0, 1) := by decide +kernel
theorem dD_readPart_46 : decode cD_readPart 46 = .ok (.getfield 301, 3) := by decide +kernel
theorem dD_readPart_49 : decode cD_readPart 49 = .ok (.bipush 6, 2) := by decide +kernel
theorem dD_readPart_51 : decode cD_readPart 51 = .ok (.iadd, 1) := by decide +kernel
theorem dD_readPart_52 : decode cD_readPart 52 = .ok (.invokevirtual 261, 3) := by decide +kernel
theorem dD_readPart_55 : decode cD_readPart 55 = .ok (.lstore_n 1, 1) := by decide +kernel
theorem dD_readPart_56 : decode cD_readPart 56 = .ok (.lload_n 1, 1) := by decide +kernel
theorem dD_readPart_57 : decode cD_readPart 57 = .ok (.lconst 0, 1) := by decide +kernel
theorem dD_readPart_58 : decode cD_readPart 58 = .ok (.lcmp, 1) := by decide +kernel
theorem dD_readPart_59 : decode cD_readPart 59 = .ok (.ifCond .eq 13, 3) := by decide +kernel
theorem dD_readPart_62 : decode cD_readPart 62 = .ok (.lload_n 1, 1) := by decide +kernel
theorem dD_readPart_63 : decode cD_readPart 63 = .ok (.ldc2_w 352, 3) := by decide +kernel
theorem dD_readPart_66 : decode cD_readPart 66 = .ok (.lcmp, 1) := by decide +kernel
theorem dD_readPart_67 : decode cD_readPart 67 = .ok (.ifCond .ge 5, 3) := by decide +kernel
theorem dD_readPart_70 : decode cD_readPart 70 = .ok (.iconst 0, 1) := by decide +kernel
theorem dD_readPart_71 : decode cD_readPart 71 = .ok (.ireturn, 1) := by decide +kernel
theorem dD_readPart_72 : decode cD_readPart 72 = .ok (.aload_n 0, 1) := by decide +kernel
theorem dD_readPart_73 : decode cD_readPart 73 = .ok (.getfield 349, 3) := by decide +kernel
theorem dD_readPart_76 : decode cD_readPart 76 = .ok (.istore_n 3, 1) := by decide +kernel
theorem dD_readPart_77 : decode cD_readPart 77 = .ok (.aload_n 0, 1) := by decide +kernel
theorem dD_readPart_78 : decode cD_readPart 78 = .ok (.getfield 301, 3) := by decide +kernel
theorem dD_readPart_81 : decode cD_readPart 81 = .ok (.i2l, 1) := by decide +kernel
theorem dD_readPart_82 : decode cD_readPart 82 = .ok (.lload_n 1, 1) := by decide +kernel
theorem dD_readPart_83 : decode cD_readPart 83 = .ok (.ladd, 1) := by decide +kernel
theorem dD_readPart_84 : decode cD_readPart 84 = .ok (.aload_n 0, 1) := by decide +kernel
theorem dD_readPart_85 : decode cD_readPart 85 = .ok (.getfield 304, 3) := by decide +kernel
theorem dD_readPart_88 : decode cD_readPart 88 = .ok (.i2l, 1) := by decide +kernel
theorem dD_readPart_89 : decode cD_readPart 89 = .ok (.lcmp, 1) := by decide +kernel
theorem dD_readPart_90 : decode cD_readPart 90 = .ok (.ifCond .le 7, 3) := by decide +kernel
theorem dD_readPart_93 : decode cD_readPart 93 = .ok (.iconst 1, 1) := by decide +kernel
theorem dD_readPart_94 : decode cD_readPart 94 = .ok (.goto 4, 3) := by decide +kernel
theorem dD_readPart_97 : decode cD_readPart 97 = .ok (.iconst 0, 1) := by decide +kernel
theorem dD_readPart_98 : decode cD_readPart 98 = .ok (.istore 4, 2) := by decide +kernel
theorem dD_readPart_100 : decode cD_readPart 100 = .ok (.lload_n 1, 1) := by decide +kernel
theorem dD_readPart_101 : decode cD_readPart 101 = .ok (.lconst 0, 1) := by decide +kernel
theorem dD_readPart_102 : decode cD_readPart 102 = .ok (.lcmp, 1) := by decide +kernel
theorem dD_readPart_103 : decode cD_readPart 103 = .ok (.ifCond .eq 8, 3) := by decide +kernel
theorem dD_readPart_106 : decode cD_readPart 106 = .ok (.iload 4, 2) := by decide +kernel
theorem dD_readPart_108 : decode cD_readPart 108 = .ok (.ifCond .eq 10, 3) := by decide +kernel
theorem dD_readPart_111 : decode cD_readPart 111 = .ok (.aload_n 0, 1) := by decide +kernel
theorem dD_readPart_112 : decode cD_readPart 112 = .ok (.getfield 304, 3) := by decide +kernel
theorem dD_readPart_115 : decode cD_readPart 115 = .ok (.goto 11, 3) := by decide +kernel
theorem dD_readPart_118 : decode cD_readPart 118 = .ok (.aload_n 0, 1) := by decide +kernel
theorem dD_readPart_119 : decode cD_readPart 119 = .ok (.getfield 301, 3) := by decide +kernel
theorem dD_readPart_122 : decode cD_readPart 122 = .ok (.i2l, 1) := by decide +kernel
theorem dD_readPart_123 : decode cD_readPart 123 = .ok (.lload_n 1, 1) := by decide +kernel
theorem dD_readPart_124 : decode cD_readPart 124 = .ok (.ladd, 1) := by decide +kernel
theorem dD_readPart_125 : decode cD_readPart 125 = .ok (.l2i, 1) := by decide +kernel
theorem dD_readPart_126 : decode cD_readPart 126 = .ok (.istore 5, 2) := by decide +kernel
theorem dD_readPart_128 : decode cD_readPart 128 = .ok (.aload_n 0, 1) := by decide +kernel
theorem dD_readPart_129 : decode cD_readPart 129 = .ok (.aload_n 0, 1) := by decide +kernel
theorem dD_readPart_130 : decode cD_readPart 130 = .ok (.getfield 301, 3) := by decide +kernel
theorem dD_readPart_133 : decode cD_readPart 133 = .ok (.iconst 4, 1) := by decide +kernel
theorem dD_readPart_134 : decode cD_readPart 134 = .ok (.iadd, 1) := by decide +kernel
theorem dD_readPart_135 : decode cD_readPart 135 = .ok (.invokevirtual 314, 3) := by decide +kernel
theorem dD_readPart_138 : decode cD_readPart 138 = .ok (.istore 6, 2) := by decide +kernel
theorem dD_readPart_140 : decode cD_readPart 140 = .ok (.aload_n 0, 1) := by decide +kernel
theorem dD_readPart_141 : decode cD_readPart 141 = .ok (.getfield 60, 3) := by decide +kernel
theorem dD_readPart_144 : decode cD_readPart 144 = .ok (.aload_n 0, 1) := by decide +kernel
theorem dD_readPart_145 : decode cD_readPart 145 = .ok (.getfield 301, 3) := by decide +kernel
theorem dD_readPart_148 : decode cD_readPart 148 = .ok (.bipush 10, 2) := by decide +kernel
theorem dD_readPart_150 : decode cD_readPart 150 = .ok (.iadd, 1) := by decide +kernel
theorem dD_readPart_151 : decode cD_readPart 151 = .ok (.iaload, 1) := by decide +kernel
theorem dD_readPart_152 : decode cD_readPart 152 = .ok (.istore 7, 2) := by decide +kernel
theorem dD_readPart_154 : decode cD_readPart 154 = .ok (.aload_n 0, 1) := by decide +kernel
theorem dD_readPart_155 : decode cD_readPart 155 = .ok (.getfield 72, 3) := by decide +kernel
theorem dD_readPart_158 : decode cD_readPart 158 = .ok (.iload_n 3, 1) := by decide +kernel
theorem dD_readPart_159 : decode cD_readPart 159 = .ok (.aload_n 0, 1) := by decide +kernel
theorem dD_readPart_160 : decode cD_readPart 160 = .ok (.getfield 301, 3) := by decide +kernel
theorem dD_readPart_163 : decode cD_readPart 163 = .ok (.iastore, 1) := by decide +kernel
theorem dD_readPart_164 : decode cD_readPart 164 = .ok (.aload_n 0, 1) := by decide +kernel
theorem dD_readPart_165 : decode cD_readPart 165 = .ok (.getfield 87, 3) := by decide +kernel
theorem dD_readPart_168 : decode cD_readPart 168 = .ok (.iload_n 3, 1) := by decide +kernel
theorem dD_readPart_169 : decode cD_readPart 169 = .ok (.iload 4, 2) := by decide +kernel
theorem dD_readPart_171 : decode cD_readPart 171 = .ok (.bastore, 1) := by decide +kernel
theorem dD_readPart_172 : decode cD_readPart 172 = .ok (.aload_n 0, 1) := by decide +kernel
theorem dD_readPart_173 : decode cD_readPart 173 = .ok (.getfield 78, 3) := by decide +kernel
theorem dD_readPart_176 : decode cD_readPart 176 = .ok (.iload_n 3, 1) := by decide +kernel
theorem dD_readPart_177 : decode cD_readPart 177 = .ok (.iconst 0, 1) := by decide +kernel
theorem dD_readPart_178 : decode cD_readPart 178 = .ok (.iastore, 1) := by decide +kernel
theorem dD_readPart_179 : decode cD_readPart 179 = .ok (.aload_n 0, 1) := by decide +kernel
theorem dD_readPart_180 : decode cD_readPart 180 = .ok (.getfield 81, 3) := by decide +kernel
theorem dD_readPart_183 : decode cD_readPart 183 = .ok (.iload_n 3, 1) := by decide +kernel
theorem dD_readPart_184 : decode cD_readPart 184 = .ok (.iconst 0, 1) := by decide +kernel
theorem dD_readPart_185 : decode cD_readPart 185 = .ok (.iastore, 1) := by decide +kernel
theorem dD_readPart_186 : decode cD_readPart 186 = .ok (.aload_n 0, 1) := by decide +kernel
theorem dD_readPart_187 : decode cD_readPart 187 = .ok (.getfield 84, 3) := by decide +kernel
theorem dD_readPart_190 : decode cD_readPart 190 = .ok (.iload_n 3, 1) := by decide +kernel
theorem dD_readPart_191 : decode cD_readPart 191 = .ok (.aload_n 0, 1) := by decide +kernel
theorem dD_readPart_192 : decode cD_readPart 192 = .ok (.aload_n 0, 1) := by decide +kernel
theorem dD_readPart_193 : decode cD_readPart 193 = .ok (.getfield 301, 3) := by decide +kernel
theorem dD_readPart_196 : decode cD_readPart 196 = .ok (.iconst 2, 1) := by decide +kernel
theorem dD_readPart_197 : decode cD_readPart 197 = .ok (.iadd, 1) := by decide +kernel
theorem dD_readPart_198 : decode cD_readPart 198 = .ok (.invokevirtual 314, 3) := by decide +kernel
theorem dD_readPart_201 : decode cD_readPart 201 = .ok (.bipush 10, 2) := by decide +kernel
theorem dD_readPart_203 : decode cD_readPart 203 = .ok (.if_icmp .ne 13, 3) := by decide +kernel
theorem dD_readPart_206 : decode cD_readPart 206 = .ok (.iload 6, 2) := by decide +kernel
theorem dD_readPart_208 : decode cD_readPart 208 = .ok (.aload_n 0, 1) := by decide +kernel
theorem dD_readPart_209 : decode cD_readPart 209 = .ok (.iconst 5, 1) := by decide +kernel
theorem dD_readPart_210 : decode cD_readPart 210 = .ok (.invokevirtual 141, 3) := by decide +kernel
theorem dD_readPart_213 : decode cD_readPart 213 = .ok (.if_icmp .lt 7, 3) := by decide +kernel
theorem dD_readPart_216 : decode cD_readPart 216 = .ok (.iconst 1, 1) := by decide +kernel
theorem dD_readPart_217 : decode cD_readPart 217 = .ok (.goto 4, 3) := by decide +kernel
theorem dD_readPart_220 : decode cD_readPart 220 = .ok (.iconst 0, 1) := by decide +kernel
theorem dD_readPart_221 : decode cD_readPart 221 = .ok (.bastore, 1) := by decide +kernel
theorem dD_readPart_222 : decode cD_readPart 222 = .ok (.aload_n 0, 1) := by decide +kernel
theorem dD_readPart_223 : decode cD_readPart 223 = .ok (.getfield 84, 3) := by decide +kernel
theorem dD_readPart_226 : decode cD_readPart 226 = .ok (.iload_n 3, 1) := by decide +kernel
theorem dD_readPart_227 : decode cD_readPart 227 = .ok (.aload_n 0, 1) := by decide +kernel
theorem dD_readPart_228 : decode cD_readPart 228 = .ok (.getfield 84, 3) := by decide +kernel
theorem dD_readPart_231 : decode cD_readPart 231 = .ok (.iload_n 3, 1) := by decide +kernel
theorem dD_readPart_232 : decode cD_readPart 232 = .ok (.baload, 1) := by decide +kernel
theorem dD_readPart_233 : decode cD_readPart 233 = .ok (.ifCond .ne 15, 3) := by decide +kernel
theorem dD_readPart_236 : decode cD_readPart 236 = .ok (.iload 7, 2) := by decide +kernel
theorem dD_readPart_238 : decode cD_readPart 238 = .ok (.aload_n 0, 1) := by decide +kernel
theorem dD_readPart_239 : decode cD_readPart 239 = .ok (.getfield 90, 3) := by decide +kernel
theorem dD_readPart_242 : decode cD_readPart 242 = .ok (.iload 6, 2) := by decide +kernel
theorem dD_readPart_244 : decode cD_readPart 244 = .ok (.iaload, 1) := by decide +kernel
theorem dD_readPart_245 : decode cD_readPart 245 = .ok (.if_icmp .eq 7, 3) := by decide +kernel
theorem dD_readPart_248 : decode cD_readPart 248 = .ok (.iconst 1, 1) := by decide +kernel
theorem dD_readPart_249 : decode cD_readPart 249 = .ok (.goto 4, 3) := by decide +kernel
theorem dD_readPart_252 : decode cD_readPart 252 = .ok (.iconst 0, 1) := by decide +kernel
theorem dD_readPart_253 : decode cD_readPart 253 = .ok (.bastore, 1) := by decide +kernel
theorem dD_readPart_254 : decode cD_readPart 254 = .ok (.aload_n 0, 1) := by decide +kernel
theorem dD_readPart_255 : decode cD_readPart 255 = .ok (.getfield 84, 3) := by decide +kernel
theorem dD_readPart_258 : decode cD_readPart 258 = .ok (.iload_n 3, 1) := by decide +kernel
theorem dD_readPart_259 : decode cD_readPart 259 = .ok (.baload, 1) := by decide +kernel
theorem dD_readPart_260 : decode cD_readPart 260 = .ok (.ifCond .ne 101, 3) := by decide +kernel
theorem dD_readPart_263 : decode cD_readPart 263 = .ok (.aload_n 0, 1) := by decide +kernel
theorem dD_readPart_264 : decode cD_readPart 264 = .ok (.aload_n 0, 1) := by decide +kernel
theorem dD_readPart_265 : decode cD_readPart 265 = .ok (.getfield 301, 3) := by decide +kernel
theorem dD_readPart_268 : decode cD_readPart 268 = .ok (.bipush 12, 2) := by decide +kernel
theorem dD_readPart_270 : decode cD_readPart 270 = .ok (.iadd, 1) := by decide +kernel
theorem dD_readPart_271 : decode cD_readPart 271 = .ok (.iload 5, 2) := by decide +kernel
theorem dD_readPart_273 : decode cD_readPart 273 = .ok (.iload 6, 2) := by decide +kernel
theorem dD_readPart_275 : decode cD_readPart 275 = .ok (.iload 7, 2) := by decide +kernel
theorem dD_readPart_277 : decode cD_readPart 277 = .ok (.ifCond .ne 7, 3) := by decide +kernel
theorem dD_readPart_280 : decode cD_readPart 280 = .ok (.iconst 1, 1) := by decide +kernel
theorem dD_readPart_281 : decode cD_readPart 281 = .ok (.goto 4, 3) := by decide +kernel
theorem dD_readPart_284 : decode cD_readPart 284 = .ok (.iconst 0, 1) := by decide +kernel
theorem dD_readPart_285 : decode cD_readPart 285 = .ok (.invokevirtual 354, 3) := by decide +kernel
theorem dD_readPart_288 : decode cD_readPart 288 = .ok (.istore 8, 2) := by decide +kernel
theorem dD_readPart_290 : decode cD_readPart 290 = .ok (.iload 8, 2) := by decide +kernel
theorem dD_readPart_292 : decode cD_readPart 292 = .ok (.iconst (-1), 1) := by decide +kernel
theorem dD_readPart_293 : decode cD_readPart 293 = .ok (.if_icmp .ne 13, 3) := by decide +kernel
theorem dD_readPart_296 : decode cD_readPart 296 = .ok (.aload_n 0, 1) := by decide +kernel
theorem dD_readPart_297 : decode cD_readPart 297 = .ok (.getfield 84, 3) := by decide +kernel
theorem dD_readPart_300 : decode cD_readPart 300 = .ok (.iload_n 3, 1) := by decide +kernel
theorem dD_readPart_301 : decode cD_readPart 301 = .ok (.iconst 1, 1) := by decide +kernel
theorem dD_readPart_302 : decode cD_readPart 302 = .ok (.bastore, 1) := by decide +kernel
theorem dD_readPart_303 : decode cD_readPart 303 = .ok (.goto 14, 3) := by decide +kernel
theorem dD_readPart_306 : decode cD_readPart 306 = .ok (.aload_n 0, 1) := by decide +kernel
theorem dD_readPart_307 : decode cD_readPart 307 = .ok (.iload_n 3, 1) := by decide +kernel
theorem dD_readPart_308 : decode cD_readPart 308 = .ok (.iload 8, 2) := by decide +kernel
theorem dD_readPart_310 : decode cD_readPart 310 = .ok (.iload 5, 2) := by decide +kernel
theorem dD_readPart_312 : decode cD_readPart 312 = .ok (.iload 4, 2) := by decide +kernel
theorem dD_readPart_314 : decode cD_readPart 314 = .ok (.invokevirtual 358, 3) := by decide +kernel
theorem dD_readPart_317 : decode cD_readPart 317 = .ok (.aload_n 0, 1) := by decide +kernel
theorem dD_readPart_318 : decode cD_readPart 318 = .ok (.getfield 84, 3) := by decide +kernel
theorem dD_readPart_321 : decode cD_readPart 321 = .ok (.iload_n 3, 1) := by decide +kernel
theorem dD_readPart_322 : decode cD_readPart 322 = .ok (.baload, 1) := by decide +kernel
theorem dD_readPart_323 : decode cD_readPart 323 = .ok (.ifCond .eq 14, 3) := by decide +kernel
theorem dD_readPart_326 : decode cD_readPart 326 = .ok (.iload 7, 2) := by decide +kernel
theorem dD_readPart_328 : decode cD_readPart 328 = .ok (.ifCond .ne 9, 3) := by decide +kernel
theorem dD_readPart_331 : decode cD_readPart 331 = .ok (.aload_n 0, 1) := by decide +kernel
theorem dD_readPart_332 : decode cD_readPart 332 = .ok (.iload 6, 2) := by decide +kernel
theorem dD_readPart_334 : decode cD_readPart 334 = .ok (.invokevirtual 362, 3) := by decide +kernel
theorem dD_readPart_337 : decode cD_readPart 337 = .ok (.aload_n 0, 1) := by decide +kernel
theorem dD_readPart_338 : decode cD_readPart 338 = .ok (.getfield 90, 3) := by decide +kernel
theorem dD_readPart_341 : decode cD_readPart 341 = .ok (.iload 6, 2) := by decide +kernel
theorem dD_readPart_343 : decode cD_readPart 343 = .ok (.dup2, 1) := by decide +kernel
theorem dD_readPart_344 : decode cD_readPart 344 = .ok (.iaload, 1) := by decide +kernel
theorem dD_readPart_345 : decode cD_readPart 345 = .ok (.aload_n 0, 1) := by decide +kernel
theorem dD_readPart_346 : decode cD_readPart 346 = .ok (.getfield 84, 3) := by decide +kernel
theorem dD_readPart_349 : decode cD_readPart 349 = .ok (.iload_n 3, 1) := by decide +kernel
theorem dD_readPart_350 : decode cD_readPart 350 = .ok (.baload, 1) := by decide +kernel
theorem dD_readPart_351 : decode cD_readPart 351 = .ok (.ifCond .eq 7, 3) := by decide +kernel
theorem dD_readPart_354 : decode cD_readPart 354 = .ok (.iconst 0, 1) := by decide +kernel
theorem dD_readPart_355 : decode cD_readPart 355 = .ok (.goto 4, 3) := by decide +kernel
theorem dD_readPart_358 : decode cD_readPart 358 = .ok (.iconst 1, 1) := by decide +kernel
theorem dD_readPart_359 : decode cD_readPart 359 = .ok (.iadd, 1) := by decide +kernel
theorem dD_readPart_360 : decode cD_readPart 360 = .ok (.iastore, 1) := by decide +kernel
theorem dD_readPart_361 : decode cD_readPart 361 = .ok (.aload_n 0, 1) := by decide +kernel
theorem dD_readPart_362 : decode cD_readPart 362 = .ok (.getfield 69, 3) := by decide +kernel
theorem dD_readPart_365 : decode cD_readPart 365 = .ok (.iload_n 3, 1) := by decide +kernel
theorem dD_readPart_366 : decode cD_readPart 366 = .ok (.aload_n 0, 1) := by decide +kernel
theorem dD_readPart_367 : decode cD_readPart 367 = .ok (.getfield 84, 3) := by decide +kernel
theorem dD_readPart_370 : decode cD_readPart 370 = .ok (.iload_n 3, 1) := by decide +kernel
theorem dD_readPart_371 : decode cD_readPart 371 = .ok (.baload, 1) := by decide +kernel
theorem dD_readPart_372 : decode cD_readPart 372 = .ok (.ifCond .eq 7, 3) := by decide +kernel
theorem dD_readPart_375 : decode cD_readPart 375 = .ok (.iconst (-1), 1) := by decide +kernel
theorem dD_readPart_376 : decode cD_readPart 376 = .ok (.goto 5, 3) := by decide +kernel
theorem dD_readPart_379 : decode cD_readPart 379 = .ok (.iload 6, 2) := by decide +kernel
theorem dD_readPart_381 : decode cD_readPart 381 = .ok (.iastore, 1) := by decide +kernel
theorem dD_readPart_382 : decode cD_readPart 382 = .ok (.aload_n 0, 1) := by decide +kernel
theorem dD_readPart_383 : decode cD_readPart 383 = .ok (.dup, 1) := by decide +kernel
theorem dD_readPart_384 : decode cD_readPart 384 = .ok (.getfield 349, 3) := by decide +kernel
theorem dD_readPart_387 : decode cD_readPart 387 = .ok (.iconst 1, 1) := by decide +kernel
theorem dD_readPart_388 : decode cD_readPart 388 = .ok (.iadd, 1) := by decide +kernel
theorem dD_readPart_389 : decode cD_readPart 389 = .ok (.putfield 349, 3) := by decide +kernel
theorem dD_readPart_392 : decode cD_readPart 392 = .ok (.aload_n 0, 1) := by decide +kernel
theorem dD_readPart_393 : decode cD_readPart 393 = .ok (.iload 5, 2) := by decide +kernel
theorem dD_readPart_395 : decode cD_readPart 395 = .ok (.putfield 301, 3) := by decide +kernel
theorem dD_readPart_398 : decode cD_readPart 398 = .ok (.iconst 1, 1) := by decide +kernel
theorem dD_readPart_399 : decode cD_readPart 399 = .ok (.ireturn, 1) := by decide +kernel
theorem dD_readStream_0 : decode cD_readStream 0 = .ok (.aload_n 0, 1) := by decide +kernel
theorem dD_readStream_1 : decode cD_readStream 1 = .ok (.invokevirtual 365, 3) := by decide +kernel
theorem dD_readStream_4 : decode cD_readStream 4 = .ok (.ifCond .ne 5, 3) := by decide +kernel
theorem dD_readStream_7 : decode cD_readStream 7 = .ok (.iconst 0, 1) := by decide +kernel
theorem dD_readStream_8 : decode cD_readStream 8 = .ok (.ireturn, 1) := by decide +kernel
theorem dD_readStream_9 : decode cD_readStream 9 = .ok (.iconst 0, 1) := by decide +kernel
theorem dD_readStream_10 : decode cD_readStream 10 = .ok (.istore_n 1, 1) := by decide +kernel
theorem dD_readStream_11 : decode cD_readStream 11 = .ok (.iload_n 1, 1) := by decide +kernel
theorem dD_readStream_12 : decode cD_readStream 12 = .ok (.bipush 24, 2) := by decide +kernel
theorem dD_readStream_14 : decode cD_readStream 14 = .ok (.if_icmp .ge 16, 3) := by decide +kernel
theorem dD_readStream_17 : decode cD_readStream 17 = .ok (.aload_n 0, 1) := by decide +kernel
theorem dD_readStream_18 : decode cD_readStream 18 = .ok (.getfield 90, 3) := by decide +kernel
theorem dD_readStream_21 : decode cD_readStream 21 = .ok (.iload_n 1, 1) := by decide +kernel
theorem dD_readStream_22 : decode cD_readStream 22 = .ok (.iconst 0, 1) := by decide +kernel
theorem dD_readStream_23 : decode cD_readStream 23 = .ok (.iastore, 1) := by decide +kernel
theorem dD_readStream_24 : decode cD_readStream 24 = .ok (.iinc 1 1, 3) := by decide +kernel
theorem dD_readStream_27 : decode cD_readStream 27 = .ok (.goto (-16), 3) := by decide +kernel
theorem dD_readStream_30 : decode cD_readStream 30 = .ok (.iconst 1, 1) := by decide +kernel
theorem dD_readStream_31 : decode cD_readStream 31 = .ok (.istore_n 1, 1) := by decide +kernel
theorem dD_readStream_32 : decode cD_readStream 32 = .ok (.iload_n 1, 1) := by decide +kernel
theorem dD_readStream_33 : decode cD_readStream 33 = .ok (.ifCond .eq 29, 3) := by decide +kernel
theorem dD_readStream_36 : decode cD_readStream 36 = .ok (.aload_n 0, 1) := by decide +kernel
theorem dD_readStream_37 : decode cD_readStream 37 = .ok (.aload_n 0, 1) := by decide +kernel
theorem dD_readStream_38 : decode cD_readStream 38 = .ok (.getfield 301, 3) := by decide +kernel
theorem dD_readStream_41 : decode cD_readStream 41 = .ok (.aload_n 0, 1) := by decide +kernel
theorem dD_readStream_42 : decode cD_readStream 42 = .ok (.getfield 304, 3) := by decide +kernel
theorem dD_readStream_45 : decode cD_readStream 45 = .ok (.sipush 217, 3) := by decide +kernel
theorem dD_readStream_48 : decode cD_readStream 48 = .ok (.invokevirtual 326, 3) := by decide +kernel
theorem dD_readStream_51 : decode cD_readStream 51 = .ok (.ifCond .ne 11, 3) := by decide +kernel
theorem dD_readStream_54 : decode cD_readStream 54 = .ok (.aload_n 0, 1) := by decide +kernel
theorem dD_readStream_55 : decode cD_readStream 55 = .ok (.invokevirtual 368, 3) := by decide +kernel
theorem dD_readStream_58 : decode cD_readStream 58 = .ok (.istore_n 1, 1) := by decide +kernel
theorem dD_readStream_59 : decode cD_readStream 59 = .ok (.goto (-27), 3) := by decide +kernel
theorem dD_readStream_62 : decode cD_readStream 62 = .ok (.iconst 1, 1) := by decide +kernel
theorem dD_readStream_63 : decode cD_readStream 63 = .ok (.ireturn, 1) := by decide +kernel
theorem dD_read_0 : decode cD_read 0 = .ok (.aload_n 0, 1) := by decide +kernel
theorem dD_read_1 : decode cD_read 1 = .ok (.iconst 0, 1) := by decide +kernel
theorem dD_read_2 : decode cD_read 2 = .ok (.putfield 110, 3) := by decide +kernel
theorem dD_read_5 : decode cD_read 5 = .ok (.iconst 0, 1) := by decide +kernel
theorem dD_read_6 : decode cD_read 6 = .ok (.istore_n 1, 1) := by decide +kernel
theorem dD_read_7 : decode cD_read 7 = .ok (.iload_n 1, 1) := by decide +kernel
theorem dD_read_8 : decode cD_read 8 = .ok (.aload_n 0, 1) := by decide +kernel
theorem dD_read_9 : decode cD_read 9 = .ok (.getfield 255, 3) := by decide +kernel
theorem dD_read_12 : decode cD_read 12 = .ok (.if_icmp .ge 21, 3) := by decide +kernel
theorem dD_read_15 : decode cD_read 15 = .ok (.aload_n 0, 1) := by decide +kernel
theorem dD_read_16 : decode cD_read 16 = .ok (.getfield 60, 3) := by decide +kernel
theorem dD_read_19 : decode cD_read 19 = .ok (.iload_n 1, 1) := by decide +kernel
theorem dD_read_20 : decode cD_read 20 = .ok (.aload_n 0, 1) := by decide +kernel
theorem dD_read_21 : decode cD_read 21 = .ok (.getfield 57, 3) := by decide +kernel
theorem dD_read_24 : decode cD_read 24 = .ok (.iload_n 1, 1) := by decide +kernel
theorem dD_read_25 : decode cD_read 25 = .ok (.iaload, 1) := by decide +kernel
theorem dD_read_26 : decode cD_read 26 = .ok (.iastore, 1) := by decide +kernel
theorem dD_read_27 : decode cD_read 27 = .ok (.iinc 1 1, 3) := by decide +kernel
theorem dD_read_30 : decode cD_read 30 = .ok (.goto (-23), 3) := by decide +kernel
theorem dD_read_33 : decode cD_read 33 = .ok (.aload_n 0, 1) := by decide +kernel
theorem dD_read_34 : decode cD_read 34 = .ok (.aload_n 0, 1) := by decide +kernel
theorem dD_read_35 : decode cD_read 35 = .ok (.getfield 255, 3) := by decide +kernel
theorem dD_read_38 : decode cD_read 38 = .ok (.putfield 289, 3) := by decide +kernel
theorem dD_read_41 : decode cD_read 41 = .ok (.aload_n 0, 1) := by decide +kernel
theorem dD_read_42 : decode cD_read 42 = .ok (.bipush 125, 2) := by decide +kernel
theorem dD_read_44 : decode cD_read 44 = .ok (.invokevirtual 371, 3) := by decide +kernel
theorem dD_read_47 : decode cD_read 47 = .ok (.aload_n 0, 1) := by decide +kernel
theorem dD_read_48 : decode cD_read 48 = .ok (.getfield 13, 3) := by decide +kernel
theorem dD_read_51 : decode cD_read 51 = .ok (.bipush 125, 2) := by decide +kernel
theorem dD_read_53 : decode cD_read 53 = .ok (.iconst 0, 1) := by decide +kernel
theorem dD_read_54 : decode cD_read 54 = .ok (.bastore, 1) := by decide +kernel
theorem dD_read_55 : decode cD_read 55 = .ok (.aload_n 0, 1) := by decide +kernel
theorem dD_read_56 : decode cD_read 56 = .ok (.getfield 17, 3) := by decide +kernel
theorem dD_read_59 : decode cD_read 59 = .ok (.bipush 125, 2) := by decide +kernel
theorem dD_read_61 : decode cD_read 61 = .ok (.iconst 0, 1) := by decide +kernel
theorem dD_read_62 : decode cD_read 62 = .ok (.bastore, 1) := by decide +kernel
theorem dD_read_63 : decode cD_read 63 = .ok (.aload_n 0, 1) := by decide +kernel
theorem dD_read_64 : decode cD_read 64 = .ok (.iconst (-1), 1) := by decide +kernel
theorem dD_read_65 : decode cD_read 65 = .ok (.putfield 283, 3) := by decide +kernel
theorem dD_read_68 : decode cD_read 68 = .ok (.aload_n 0, 1) := by decide +kernel
theorem dD_read_69 : decode cD_read 69 = .ok (.iconst 0, 1) := by decide +kernel
theorem dD_read_70 : decode cD_read 70 = .ok (.putfield 269, 3) := by decide +kernel
theorem dD_read_73 : decode cD_read 73 = .ok (.aload_n 0, 1) := by decide +kernel
theorem dD_read_74 : decode cD_read 74 = .ok (.iconst 0, 1) := by decide +kernel
theorem dD_read_75 : decode cD_read 75 = .ok (.putfield 349, 3) := by decide +kernel
theorem dD_read_78 : decode cD_read 78 = .ok (.aload_n 0, 1) := by decide +kernel
theorem dD_read_79 : decode cD_read 79 = .ok (.iconst (-1), 1) := by decide +kernel
theorem dD_read_80 : decode cD_read 80 = .ok (.putfield 258, 3) := by decide +kernel
theorem dD_read_83 : decode cD_read 83 = .ok (.aload_n 0, 1) := by decide +kernel
theorem dD_read_84 : decode cD_read 84 = .ok (.iconst 0, 1) := by decide +kernel
theorem dD_read_85 : decode cD_read 85 = .ok (.putfield 301, 3) := by decide +kernel
theorem dD_read_88 : decode cD_read 88 = .ok (.aload_n 0, 1) := by decide +kernel
theorem dD_read_89 : decode cD_read 89 = .ok (.aload_n 0, 1) := by decide +kernel
theorem dD_read_90 : decode cD_read 90 = .ok (.getfield 289, 3) := by decide +kernel
theorem dD_read_93 : decode cD_read 93 = .ok (.putfield 304, 3) := by decide +kernel
theorem dD_read_96 : decode cD_read 96 = .ok (.aload_n 0, 1) := by decide +kernel
theorem dD_read_97 : decode cD_read 97 = .ok (.aload_n 0, 1) := by decide +kernel
theorem dD_read_98 : decode cD_read 98 = .ok (.iconst 0, 1) := by decide +kernel
theorem dD_read_99 : decode cD_read 99 = .ok (.aload_n 0, 1) := by decide +kernel
theorem dD_read_100 : decode cD_read 100 = .ok (.getfield 289, 3) := by decide +kernel
theorem dD_read_103 : decode cD_read 103 = .ok (.bipush 79, 2) := by decide +kernel
theorem dD_read_105 : decode cD_read 105 = .ok (.invokevirtual 326, 3) := by decide +kernel
theorem dD_read_108 : decode cD_read 108 = .ok (.ifCond .ne 10, 3) := by decide +kernel
theorem dD_read_111 : decode cD_read 111 = .ok (.aload_n 0, 1) := by decide +kernel
theorem dD_read_112 : decode cD_read 112 = .ok (.invokevirtual 374, 3) := by decide +kernel
theorem dD_read_115 : decode cD_read 115 = .ok (.ifCond .eq 14, 3) := by decide +kernel
theorem dD_read_118 : decode cD_read 118 = .ok (.aload_n 0, 1) := by decide +kernel
theorem dD_read_119 : decode cD_read 119 = .ok (.invokevirtual 377, 3) := by decide +kernel
theorem dD_read_122 : decode cD_read 122 = .ok (.ifCond .eq 7, 3) := by decide +kernel
theorem dD_read_125 : decode cD_read 125 = .ok (.iconst 1, 1) := by decide +kernel
theorem dD_read_126 : decode cD_read 126 = .ok (.goto 4, 3) := by decide +kernel
theorem dD_read_129 : decode cD_read 129 = .ok (.iconst 0, 1) := by decide +kernel
theorem dD_read_130 : decode cD_read 130 = .ok (.putfield 380, 3) := by decide +kernel
theorem dD_read_133 : decode cD_read 133 = .ok (.aload_n 0, 1) := by decide +kernel
theorem dD_read_134 : decode cD_read 134 = .ok (.getfield 380, 3) := by decide +kernel
theorem dD_read_137 : decode cD_read 137 = .ok (.ifCond .eq 10, 3) := by decide +kernel
theorem dD_read_140 : decode cD_read 140 = .ok (.aload_n 0, 1) := by decide +kernel
theorem dD_read_141 : decode cD_read 141 = .ok (.getfield 349, 3) := by decide +kernel
theorem dD_read_144 : decode cD_read 144 = .ok (.goto 9, 3) := by decide +kernel
theorem dD_read_147 : decode cD_read 147 = .ok (.iconst (-1), 1) := by decide +kernel
theorem dD_read_148 : decode cD_read 148 = .ok (.aload_n 0, 1) := by decide +kernel
theorem dD_read_149 : decode cD_read 149 = .ok (.getfield 258, 3) := by decide +kernel
theorem dD_read_152 : decode cD_read 152 = .ok (.isub, 1) := by decide +kernel
theorem dD_read_153 : decode cD_read 153 = .ok (.ireturn, 1) := by decide +kernel
theorem dD_at_0 : decode cD_at 0 = .ok (.iload_n 1, 1) := by decide +kernel
theorem dD_at_1 : decode cD_at 1 = .ok (.iconst 5, 1) := by decide +kernel
theorem dD_at_2 : decode cD_at 2 = .ok (.if_icmp .le 9, 3) := by decide +kernel
theorem dD_at_5 : decode cD_at 5 = .ok (.iload_n 1, 1) := by decide +kernel
theorem dD_at_6 : decode cD_at 6 = .ok (.bipush 11, 2) := by decide +kernel
theorem dD_at_8 : decode cD_at 8 = .ok (.if_icmp .lt 13, 3) := by decide +kernel
theorem dD_at_11 : decode cD_at 11 = .ok (.iload_n 1, 1) := by decide +kernel
theorem dD_at_12 : decode cD_at 12 = .ok (.iconst 4, 1) := by decide +kernel
theorem dD_at_13 : decode cD_at 13 = .ok (.if_icmp .eq 8, 3) := by decide +kernel
theorem dD_at_16 : decode cD_at 16 = .ok (.iload_n 1, 1) := by decide +kernel
theorem dD_at_17 : decode cD_at 17 = .ok (.iconst 5, 1) := by decide +kernel
theorem dD_at_18 : decode cD_at 18 = .ok (.if_icmp .ne 7, 3) := by decide +kernel
theorem dD_at_21 : decode cD_at 21 = .ok (.iconst 1, 1) := by decide +kernel
theorem dD_at_22 : decode cD_at 22 = .ok (.goto 4, 3) := by decide +kernel
theorem dD_at_25 : decode cD_at 25 = .ok (.iconst 0, 1) := by decide +kernel
theorem dD_at_26 : decode cD_at 26 = .ok (.istore 4, 2) := by decide +kernel
theorem dD_at_28 : decode cD_at 28 = .ok (.iload_n 1, 1) := by decide +kernel
theorem dD_at_29 : decode cD_at 29 = .ok (.iconst 3, 1) := by decide +kernel
theorem dD_at_30 : decode cD_at 30 = .ok (.if_icmp .eq 14, 3) := by decide +kernel
theorem dD_at_33 : decode cD_at 33 = .ok (.iload_n 1, 1) := by decide +kernel
theorem dD_at_34 : decode cD_at 34 = .ok (.iconst 5, 1) := by decide +kernel
theorem dD_at_35 : decode cD_at 35 = .ok (.if_icmp .le 13, 3) := by decide +kernel
theorem dD_at_38 : decode cD_at 38 = .ok (.iload_n 1, 1) := by decide +kernel
theorem dD_at_39 : decode cD_at 39 = .ok (.bipush 11, 2) := by decide +kernel
theorem dD_at_41 : decode cD_at 41 = .ok (.if_icmp .ge 7, 3) := by decide +kernel
theorem dD_at_44 : decode cD_at 44 = .ok (.iconst 1, 1) := by decide +kernel
theorem dD_at_45 : decode cD_at 45 = .ok (.goto 4, 3) := by decide +kernel
theorem dD_at_48 : decode cD_at 48 = .ok (.iconst 0, 1) := by decide +kernel
theorem dD_at_49 : decode cD_at 49 = .ok (.istore 5, 2) := by decide +kernel
theorem dD_at_51 : decode cD_at 51 = .ok (.aload_n 0, 1) := by decide +kernel
theorem dD_at_52 : decode cD_at 52 = .ok (.getfield 380, 3) := by decide +kernel
theorem dD_at_55 : decode cD_at 55 = .ok (.ifCond .eq 65, 3) := by decide +kernel
theorem dD_at_58 : decode cD_at 58 = .ok (.iload_n 1, 1) := by decide +kernel
theorem dD_at_59 : decode cD_at 59 = .ok (.i2l, 1) := by decide +kernel
theorem dD_at_60 : decode cD_at 60 = .ok (.lconst 0, 1) := by decide +kernel
theorem dD_at_61 : decode cD_at 61 = .ok (.ldc2_w 384, 3) := by decide +kernel
theorem dD_at_64 : decode cD_at 64 = .ok (.invokestatic 135, 3) := by decide +kernel
theorem dD_at_67 : decode cD_at 67 = .ok (.ifCond .eq 53, 3) := by decide +kernel
theorem dD_at_70 : decode cD_at 70 = .ok (.iload 4, 2) := by decide +kernel
theorem dD_at_72 : decode cD_at 72 = .ok (.ifCond .eq 20, 3) := by decide +kernel
theorem dD_at_75 : decode cD_at 75 = .ok (.iload_n 2, 1) := by decide +kernel
theorem dD_at_76 : decode cD_at 76 = .ok (.i2l, 1) := by decide +kernel
theorem dD_at_77 : decode cD_at 77 = .ok (.lconst 0, 1) := by decide +kernel
theorem dD_at_78 : decode cD_at 78 = .ok (.aload_n 0, 1) := by decide +kernel
theorem dD_at_79 : decode cD_at 79 = .ok (.iconst 5, 1) := by decide +kernel
theorem dD_at_80 : decode cD_at 80 = .ok (.invokevirtual 141, 3) := by decide +kernel
theorem dD_at_83 : decode cD_at 83 = .ok (.i2l, 1) := by decide +kernel
theorem dD_at_84 : decode cD_at 84 = .ok (.lconst 1, 1) := by decide +kernel
theorem dD_at_85 : decode cD_at 85 = .ok (.lsub, 1) := by decide +kernel
theorem dD_at_86 : decode cD_at 86 = .ok (.invokestatic 135, 3) := by decide +kernel
theorem dD_at_89 : decode cD_at 89 = .ok (.ifCond .eq 31, 3) := by decide +kernel
theorem dD_at_92 : decode cD_at 92 = .ok (.iload 5, 2) := by decide +kernel
theorem dD_at_94 : decode cD_at 94 = .ok (.ifCond .eq 22, 3) := by decide +kernel
theorem dD_at_97 : decode cD_at 97 = .ok (.iload_n 3, 1) := by decide +kernel
theorem dD_at_98 : decode cD_at 98 = .ok (.i2l, 1) := by decide +kernel
theorem dD_at_99 : decode cD_at 99 = .ok (.lconst 0, 1) := by decide +kernel
theorem dD_at_100 : decode cD_at 100 = .ok (.aload_n 0, 1) := by decide +kernel
theorem dD_at_101 : decode cD_at 101 = .ok (.getfield 23, 3) := by decide +kernel
theorem dD_at_104 : decode cD_at 104 = .ok (.bipush 7, 2) := by decide +kernel
theorem dD_at_106 : decode cD_at 106 = .ok (.iaload, 1) := by decide +kernel
theorem dD_at_107 : decode cD_at 107 = .ok (.i2l, 1) := by decide +kernel
theorem dD_at_108 : decode cD_at 108 = .ok (.lconst 1, 1) := by decide +kernel
theorem dD_at_109 : decode cD_at 109 = .ok (.lsub, 1) := by decide +kernel
theorem dD_at_110 : decode cD_at 110 = .ok (.invokestatic 135, 3) := by decide +kernel
theorem dD_at_113 : decode cD_at 113 = .ok (.ifCond .eq 7, 3) := by decide +kernel
theorem dD_at_116 : decode cD_at 116 = .ok (.iconst 1, 1) := by decide +kernel
theorem dD_at_117 : decode cD_at 117 = .ok (.goto 4, 3) := by decide +kernel
theorem dD_at_120 : decode cD_at 120 = .ok (.iconst 0, 1) := by decide +kernel
theorem dD_at_121 : decode cD_at 121 = .ok (.istore 6, 2) := by decide +kernel
theorem dD_at_123 : decode cD_at 123 = .ok (.aload_n 0, 1) := by decide +kernel
theorem dD_at_124 : decode cD_at 124 = .ok (.aload_n 0, 1) := by decide +kernel
theorem dD_at_125 : decode cD_at 125 = .ok (.getfield 380, 3) := by decide +kernel
theorem dD_at_128 : decode cD_at 128 = .ok (.ifCond .ne 7, 3) := by decide +kernel
theorem dD_at_131 : decode cD_at 131 = .ok (.iconst 1, 1) := by decide +kernel
theorem dD_at_132 : decode cD_at 132 = .ok (.goto 13, 3) := by decide +kernel
theorem dD_at_135 : decode cD_at 135 = .ok (.iload 6, 2) := by decide +kernel
theorem dD_at_137 : decode cD_at 137 = .ok (.ifCond .ne 7, 3) := by decide +kernel
theorem dD_at_140 : decode cD_at 140 = .ok (.iconst 2, 1) := by decide +kernel
theorem dD_at_141 : decode cD_at 141 = .ok (.goto 4, 3) := by decide +kernel
theorem dD_at_144 : decode cD_at 144 = .ok (.iconst 0, 1) := by decide +kernel
theorem dD_at_145 : decode cD_at 145 = .ok (.putfield 110, 3) := by decide +kernel
theorem dD_at_148 : decode cD_at 148 = .ok (.aload_n 0, 1) := by decide +kernel
theorem dD_at_149 : decode cD_at 149 = .ok (.getfield 110, 3) := by decide +kernel
theorem dD_at_152 : decode cD_at 152 = .ok (.ifCond .le 5, 3) := by decide +kernel
theorem dD_at_155 : decode cD_at 155 = .ok (.iconst 0, 1) := by decide +kernel
theorem dD_at_156 : decode cD_at 156 = .ok (.ireturn, 1) := by decide +kernel
theorem dD_at_157 : decode cD_at 157 = .ok (.iload_n 1, 1) := by decide +kernel
theorem dD_at_158 : decode cD_at 158 = .ok (.iconst 3, 1) := by decide +kernel
theorem dD_at_159 : decode cD_at 159 = .ok (.if_icmp .ge 12, 3) := by decide +kernel
theorem dD_at_162 : decode cD_at 162 = .ok (.aload_n 0, 1) := by decide +kernel
theorem dD_at_163 : decode cD_at 163 = .ok (.getfield 23, 3) := by decide +kernel
theorem dD_at_166 : decode cD_at 166 = .ok (.iconst 5, 1) := by decide +kernel
theorem dD_at_167 : decode cD_at 167 = .ok (.iload_n 1, 1) := by decide +kernel
theorem dD_at_168 : decode cD_at 168 = .ok (.iadd, 1) := by decide +kernel
theorem dD_at_169 : decode cD_at 169 = .ok (.iaload, 1) := by decide +kernel
theorem dD_at_170 : decode cD_at 170 = .ok (.ireturn, 1) := by decide +kernel
theorem dD_at_171 : decode cD_at 171 = .ok (.iload_n 1, 1) := by decide +kernel
theorem dD_at_172 : decode cD_at 172 = .ok (.iconst 3, 1) := by decide +kernel
theorem dD_at_173 : decode cD_at 173 = .ok (.if_icmp .eq 9, 3) := by decide +kernel
theorem dD_at_176 : decode cD_at 176 = .ok (.iload_n 1, 1) := by decide +kernel
theorem dD_at_177 : decode cD_at 177 = .ok (.bipush 11, 2) := by decide +kernel
theorem dD_at_179 : decode cD_at 179 = .ok (.if_icmp .ne 24, 3) := by decide +kernel
theorem dD_at_182 : decode cD_at 182 = .ok (.iload_n 1, 1) := by decide +kernel
theorem dD_at_183 : decode cD_at 183 = .ok (.iconst 3, 1) := by decide +kernel
theorem dD_at_184 : decode cD_at 184 = .ok (.if_icmp .ne 14, 3) := by decide +kernel
theorem dD_at_187 : decode cD_at 187 = .ok (.aload_n 0, 1) := by decide +kernel
theorem dD_at_188 : decode cD_at 188 = .ok (.getfield 20, 3) := by decide +kernel
theorem dD_at_191 : decode cD_at 191 = .ok (.iconst 4, 1) := by decide +kernel
theorem dD_at_192 : decode cD_at 192 = .ok (.iload_n 3, 1) := by decide +kernel
theorem dD_at_193 : decode cD_at 193 = .ok (.iadd, 1) := by decide +kernel
theorem dD_at_194 : decode cD_at 194 = .ok (.iaload, 1) := by decide +kernel
theorem dD_at_195 : decode cD_at 195 = .ok (.goto 7, 3) := by decide +kernel
theorem dD_at_198 : decode cD_at 198 = .ok (.aload_n 0, 1) := by decide +kernel
theorem dD_at_199 : decode cD_at 199 = .ok (.getfield 283, 3) := by decide +kernel
theorem dD_at_202 : decode cD_at 202 = .ok (.ireturn, 1) := by decide +kernel
theorem dD_at_203 : decode cD_at 203 = .ok (.aload_n 0, 1) := by decide +kernel
theorem dD_at_204 : decode cD_at 204 = .ok (.aload_n 0, 1) := by decide +kernel
theorem dD_at_205 : decode cD_at 205 = .ok (.bipush 125, 2) := by decide +kernel
theorem dD_at_207 : decode cD_at 207 = .ok (.iload_n 1, 1) := by decide +kernel
theorem dD_at_208 : decode cD_at 208 = .ok (.iload_n 2, 1) := by decide +kernel
theorem dD_at_209 : decode cD_at 209 = .ok (.iload_n 1, 1) := by decide +kernel
theorem dD_at_210 : decode cD_at 210 = .ok (.iconst 5, 1) := by decide +kernel
theorem dD_at_211 : decode cD_at 211 = .ok (.if_icmp .le 7, 3) := by decide +kernel
theorem dD_at_214 : decode cD_at 214 = .ok (.iload_n 3, 1) := by decide +kernel
theorem dD_at_215 : decode cD_at 215 = .ok (.goto 4, 3) := by decide +kernel
theorem dD_at_218 : decode cD_at 218 = .ok (.iconst (-1), 1) := by decide +kernel
theorem dD_at_219 : decode cD_at 219 = .ok (.invokevirtual 168, 3) := by decide +kernel
theorem dD_at_222 : decode cD_at 222 = .ok (.iload_n 1, 1) := by decide +kernel
theorem dD_at_223 : decode cD_at 223 = .ok (.invokevirtual 172, 3) := by decide +kernel
theorem dD_at_226 : decode cD_at 226 = .ok (.ireturn, 1) := by decide +kernel
theorem dD_part_0 : decode cD_part 0 = .ok (.aload_n 0, 1) := by decide +kernel
theorem dD_part_1 : decode cD_part 1 = .ok (.aload_n 0, 1) := by decide +kernel
theorem dD_part_2 : decode cD_part 2 = .ok (.getfield 380, 3) := by decide +kernel
theorem dD_part_5 : decode cD_part 5 = .ok (.ifCond .ne 7, 3) := by decide +kernel
theorem dD_part_8 : decode cD_part 8 = .ok (.iconst 1, 1) := by decide +kernel
theorem dD_part_9 : decode cD_part 9 = .ok (.goto 24, 3) := by decide +kernel
theorem dD_part_12 : decode cD_part 12 = .ok (.iload_n 1, 1) := by decide +kernel
theorem dD_part_13 : decode cD_part 13 = .ok (.i2l, 1) := by decide +kernel
theorem dD_part_14 : decode cD_part 14 = .ok (.lconst 0, 1) := by decide +kernel
theorem dD_part_15 : decode cD_part 15 = .ok (.aload_n 0, 1) := by decide +kernel
theorem dD_part_16 : decode cD_part 16 = .ok (.getfield 349, 3) := by decide +kernel
theorem dD_part_19 : decode cD_part 19 = .ok (.i2l, 1) := by decide +kernel
theorem dD_part_20 : decode cD_part 20 = .ok (.lconst 1, 1) := by decide +kernel
theorem dD_part_21 : decode cD_part 21 = .ok (.lsub, 1) := by decide +kernel
theorem dD_part_22 : decode cD_part 22 = .ok (.invokestatic 135, 3) := by decide +kernel
theorem dD_part_25 : decode cD_part 25 = .ok (.ifCond .ne 7, 3) := by decide +kernel
theorem dD_part_28 : decode cD_part 28 = .ok (.iconst 2, 1) := by decide +kernel
theorem dD_part_29 : decode cD_part 29 = .ok (.goto 4, 3) := by decide +kernel
theorem dD_part_32 : decode cD_part 32 = .ok (.iconst 0, 1) := by decide +kernel
theorem dD_part_33 : decode cD_part 33 = .ok (.putfield 110, 3) := by decide +kernel
theorem dD_part_36 : decode cD_part 36 = .ok (.aload_n 0, 1) := by decide +kernel
theorem dD_part_37 : decode cD_part 37 = .ok (.getfield 110, 3) := by decide +kernel
theorem dD_part_40 : decode cD_part 40 = .ok (.ifCond .le 5, 3) := by decide +kernel
theorem dD_part_43 : decode cD_part 43 = .ok (.iconst 0, 1) := by decide +kernel
theorem dD_part_44 : decode cD_part 44 = .ok (.ireturn, 1) := by decide +kernel
theorem dD_part_45 : decode cD_part 45 = .ok (.iload_n 2, 1) := by decide +kernel
theorem dD_part_46 : decode cD_part 46 = .ok (.tableswitch 96 0 5 #[38, 45, 52, 59, 66, 81], 38) := by decide +kernel
theorem dD_part_84 : decode cD_part 84 = .ok (.aload_n 0, 1) := by decide +kernel
theorem dD_part_85 : decode cD_part 85 = .ok (.getfield 69, 3) := by decide +kernel
theorem dD_part_88 : decode cD_part 88 = .ok (.iload_n 1, 1) := by decide +kernel
theorem dD_part_89 : decode cD_part 89 = .ok (.iaload, 1) := by decide +kernel
theorem dD_part_90 : decode cD_part 90 = .ok (.ireturn, 1) := by decide +kernel
theorem dD_part_91 : decode cD_part 91 = .ok (.aload_n 0, 1) := by decide +kernel
theorem dD_part_92 : decode cD_part 92 = .ok (.getfield 72, 3) := by decide +kernel
theorem dD_part_95 : decode cD_part 95 = .ok (.iload_n 1, 1) := by decide +kernel
theorem dD_part_96 : decode cD_part 96 = .ok (.iaload, 1) := by decide +kernel
theorem dD_part_97 : decode cD_part 97 = .ok (.ireturn, 1) := by decide +kernel
theorem dD_part_98 : decode cD_part 98 = .ok (.aload_n 0, 1) := by decide +kernel
theorem dD_part_99 : decode cD_part 99 = .ok (.getfield 78, 3) := by decide +kernel
theorem dD_part_102 : decode cD_part 102 = .ok (.iload_n 1, 1) := by decide +kernel
theorem dD_part_103 : decode cD_part 103 = .ok (.iaload, 1) := by decide +kernel
theorem dD_part_104 : decode cD_part 104 = .ok (.ireturn, 1) := by decide +kernel
theorem dD_part_105 : decode cD_part 105 = .ok (.aload_n 0, 1) := by decide +kernel
theorem dD_part_106 : decode cD_part 106 = .ok (.getfield 81, 3) := by decide +kernel
theorem dD_part_109 : decode cD_part 109 = .ok (.iload_n 1, 1) := by decide +kernel
theorem dD_part_110 : decode cD_part 110 = .ok (.iaload, 1) := by decide +kernel
theorem dD_part_111 : decode cD_part 111 = .ok (.ireturn, 1) := by decide +kernel
theorem dD_part_112 : decode cD_part 112 = .ok (.aload_n 0, 1) := by decide +kernel
theorem dD_part_113 : decode cD_part 113 = .ok (.getfield 84, 3) := by decide +kernel
theorem dD_part_116 : decode cD_part 116 = .ok (.iload_n 1, 1) := by decide +kernel
theorem dD_part_117 : decode cD_part 117 = .ok (.baload, 1) := by decide +kernel
theorem dD_part_118 : decode cD_part 118 = .ok (.ifCond .eq 7, 3) := by decide +kernel
theorem dD_part_121 : decode cD_part 121 = .ok (.iconst 1, 1) := by decide +kernel
theorem dD_part_122 : decode cD_part 122 = .ok (.goto 4, 3) := by decide +kernel
theorem dD_part_125 : decode cD_part 125 = .ok (.iconst 0, 1) := by decide +kernel
theorem dD_part_126 : decode cD_part 126 = .ok (.ireturn, 1) := by decide +kernel
theorem dD_part_127 : decode cD_part 127 = .ok (.aload_n 0, 1) := by decide +kernel
theorem dD_part_128 : decode cD_part 128 = .ok (.getfield 87, 3) := by decide +kernel
theorem dD_part_131 : decode cD_part 131 = .ok (.iload_n 1, 1) := by decide +kernel
theorem dD_part_132 : decode cD_part 132 = .ok (.baload, 1) := by decide +kernel
theorem dD_part_133 : decode cD_part 133 = .ok (.ifCond .eq 7, 3) := by decide +kernel
theorem dD_part_136 : decode cD_part 136 = .ok (.iconst 1, 1) := by decide +kernel
theorem dD_part_137 : decode cD_part 137 = .ok (.goto 4, 3) := by decide +kernel
theorem dD_part_140 : decode cD_part 140 = .ok (.iconst 0, 1) := by decide +kernel
theorem dD_part_141 : decode cD_part 141 = .ok (.ireturn, 1) := by decide +kernel
theorem dD_part_142 : decode cD_part 142 = .ok (.iconst (-1), 1) := by decide +kernel
theorem dD_part_143 : decode cD_part 143 = .ok (.ireturn, 1) := by decide +kernel
theorem dD_partByte_0 : decode cD_partByte 0 = .ok (.aload_n 0, 1) := by decide +kernel
theorem dD_partByte_1 : decode cD_partByte 1 = .ok (.aload_n 0, 1) := by decide +kernel
theorem dD_partByte_2 : decode cD_partByte 2 = .ok (.getfield 380, 3) := by decide +kernel
theorem dD_partByte_5 : decode cD_partByte 5 = .ok (.ifCond .ne 7, 3) := by decide +kernel
theorem dD_partByte_8 : decode cD_partByte 8 = .ok (.iconst 1, 1) := by decide +kernel
theorem dD_partByte_9 : decode cD_partByte 9 = .ok (.goto 42, 3) := by decide +kernel
theorem dD_partByte_12 : decode cD_partByte 12 = .ok (.iload_n 1, 1) := by decide +kernel
theorem dD_partByte_13 : decode cD_partByte 13 = .ok (.i2l, 1) := by decide +kernel
theorem dD_partByte_14 : decode cD_partByte 14 = .ok (.lconst 0, 1) := by decide +kernel
theorem dD_partByte_15 : decode cD_partByte 15 = .ok (.aload_n 0, 1) := by decide +kernel
theorem dD_partByte_16 : decode cD_partByte 16 = .ok (.getfield 349, 3) := by decide +kernel
theorem dD_partByte_19 : decode cD_partByte 19 = .ok (.i2l, 1) := by decide +kernel
theorem dD_partByte_20 : decode cD_partByte 20 = .ok (.lconst 1, 1) := by decide +kernel
theorem dD_partByte_21 : decode cD_partByte 21 = .ok (.lsub, 1) := by decide +kernel
theorem dD_partByte_22 : decode cD_partByte 22 = .ok (.invokestatic 135, 3) := by decide +kernel
theorem dD_partByte_25 : decode cD_partByte 25 = .ok (.ifCond .eq 21, 3) := by decide +kernel
theorem dD_partByte_28 : decode cD_partByte 28 = .ok (.iload_n 2, 1) := by decide +kernel
theorem dD_partByte_29 : decode cD_partByte 29 = .ok (.i2l, 1) := by decide +kernel
theorem dD_partByte_30 : decode cD_partByte 30 = .ok (.lconst 0, 1) := by decide +kernel
theorem dD_partByte_31 : decode cD_partByte 31 = .ok (.aload_n 0, 1) := by decide +kernel
theorem dD_partByte_32 : decode cD_partByte 32 = .ok (.getfield 78, 3) := by decide +kernel
theorem dD_partByte_35 : decode cD_partByte 35 = .ok (.iload_n 1, 1) := by decide +kernel
theorem dD_partByte_36 : decode cD_partByte 36 = .ok (.iaload, 1) := by decide +kernel
theorem dD_partByte_37 : decode cD_partByte 37 = .ok (.i2l, 1) := by decide +kernel
theorem dD_partByte_38 : decode cD_partByte 38 = .ok (.lconst 1, 1) := by decide +kernel
theorem dD_partByte_39 : decode cD_partByte 39 = .ok (.lsub, 1) := by decide +kernel
theorem dD_partByte_40 : decode cD_partByte 40 = .ok (.invokestatic 135, 3) := by decide +kernel
theorem dD_partByte_43 : decode cD_partByte 43 = .ok (.ifCond .ne 7, 3) := by decide +kernel
theorem dD_partByte_46 : decode cD_partByte 46 = .ok (.iconst 2, 1) := by decide +kernel
theorem dD_partByte_47 : decode cD_partByte 47 = .ok (.goto 4, 3) := by decide +kernel
theorem dD_partByte_50 : decode cD_partByte 50 = .ok (.iconst 0, 1) := by decide +kernel
theorem dD_partByte_51 : decode cD_partByte 51 = .ok (.putfield 110, 3) := by decide +kernel
theorem dD_partByte_54 : decode cD_partByte 54 = .ok (.aload_n 0, 1) := by decide +kernel
theorem dD_partByte_55 : decode cD_partByte 55 = .ok (.getfield 110, 3) := by decide +kernel
theorem dD_partByte_58 : decode cD_partByte 58 = .ok (.ifCond .le 7, 3) := by decide +kernel
theorem dD_partByte_61 : decode cD_partByte 61 = .ok (.iconst 0, 1) := by decide +kernel
theorem dD_partByte_62 : decode cD_partByte 62 = .ok (.goto 16, 3) := by decide +kernel
theorem dD_partByte_65 : decode cD_partByte 65 = .ok (.aload_n 0, 1) := by decide +kernel
theorem dD_partByte_66 : decode cD_partByte 66 = .ok (.getfield 60, 3) := by decide +kernel
theorem dD_partByte_69 : decode cD_partByte 69 = .ok (.aload_n 0, 1) := by decide +kernel
theorem dD_partByte_70 : decode cD_partByte 70 = .ok (.getfield 75, 3) := by decide +kernel
theorem dD_partByte_73 : decode cD_partByte 73 = .ok (.iload_n 1, 1) := by decide +kernel
theorem dD_partByte_74 : decode cD_partByte 74 = .ok (.iaload, 1) := by decide +kernel
theorem dD_partByte_75 : decode cD_partByte 75 = .ok (.iload_n 2, 1) := by decide +kernel
theorem dD_partByte_76 : decode cD_partByte 76 = .ok (.iadd, 1) := by decide +kernel
theorem dD_partByte_77 : decode cD_partByte 77 = .ok (.iaload, 1) := by decide +kernel
theorem dD_partByte_78 : decode cD_partByte 78 = .ok (.ireturn, 1) := by decide +kernel
theorem dD_unknown_0 : decode cD_unknown 0 = .ok (.aload_n 0, 1) := by decide +kernel
theorem dD_unknown_1 : decode cD_unknown 1 = .ok (.iload_n 1, 1) := by decide +kernel
theorem dD_unknown_2 : decode cD_unknown 2 = .ok (.i2l, 1) := by decide +kernel
theorem dD_unknown_3 : decode cD_unknown 3 = .ok (.lconst 0, 1) := by decide +kernel
theorem dD_unknown_4 : decode cD_unknown 4 = .ok (.aload_n 0, 1) := by decide +kernel
theorem dD_unknown_5 : decode cD_unknown 5 = .ok (.getfield 269, 3) := by decide +kernel
theorem dD_unknown_8 : decode cD_unknown 8 = .ok (.i2l, 1) := by decide +kernel
theorem dD_unknown_9 : decode cD_unknown 9 = .ok (.lconst 1, 1) := by decide +kernel
theorem dD_unknown_10 : decode cD_unknown 10 = .ok (.lsub, 1) := by decide +kernel
theorem dD_unknown_11 : decode cD_unknown 11 = .ok (.invokestatic 135, 3) := by decide +kernel
theorem dD_unknown_14 : decode cD_unknown 14 = .ok (.ifCond .eq 23, 3) := by decide +kernel
theorem dD_unknown_17 : decode cD_unknown 17 = .ok (.iload_n 2, 1) := by decide +kernel
theorem dD_unknown_18 : decode cD_unknown 18 = .ok (.i2l, 1) := by decide +kernel
theorem dD_unknown_19 : decode cD_unknown 19 = .ok (.ldc2_w 386, 3) := by decide +kernel
theorem dD_unknown_22 : decode cD_unknown 22 = .ok (.aload_n 0, 1) := by decide +kernel
theorem dD_unknown_23 : decode cD_unknown 23 = .ok (.getfield 66, 3) := by decide +kernel
theorem dD_unknown_26 : decode cD_unknown 26 = .ok (.iload_n 1, 1) := by decide +kernel
theorem dD_unknown_27 : decode cD_unknown 27 = .ok (.iaload, 1) := by decide +kernel
theorem dD_unknown_28 : decode cD_unknown 28 = .ok (.i2l, 1) := by decide +kernel
theorem dD_unknown_29 : decode cD_unknown 29 = .ok (.lconst 1, 1) := by decide +kernel
theorem dD_unknown_30 : decode cD_unknown 30 = .ok (.lsub, 1) := by decide +kernel
theorem dD_unknown_31 : decode cD_unknown 31 = .ok (.invokestatic 135, 3) := by decide +kernel
theorem dD_unknown_34 : decode cD_unknown 34 = .ok (.ifCond .ne 7, 3) := by decide +kernel
theorem dD_unknown_37 : decode cD_unknown 37 = .ok (.iconst 1, 1) := by decide +kernel
theorem dD_unknown_38 : decode cD_unknown 38 = .ok (.goto 4, 3) := by decide +kernel
theorem dD_unknown_41 : decode cD_unknown 41 = .ok (.iconst 0, 1) := by decide +kernel
theorem dD_unknown_42 : decode cD_unknown 42 = .ok (.putfield 110, 3) := by decide +kernel
theorem dD_unknown_45 : decode cD_unknown 45 = .ok (.aload_n 0, 1) := by decide +kernel
theorem dD_unknown_46 : decode cD_unknown 46 = .ok (.getfield 110, 3) := by decide +kernel
theorem dD_unknown_49 : decode cD_unknown 49 = .ok (.ifCond .le 5, 3) := by decide +kernel
theorem dD_unknown_52 : decode cD_unknown 52 = .ok (.iconst 0, 1) := by decide +kernel
theorem dD_unknown_53 : decode cD_unknown 53 = .ok (.ireturn, 1) := by decide +kernel
theorem dD_unknown_54 : decode cD_unknown 54 = .ok (.iload_n 2, 1) := by decide +kernel
theorem dD_unknown_55 : decode cD_unknown 55 = .ok (.iconst (-1), 1) := by decide +kernel
theorem dD_unknown_56 : decode cD_unknown 56 = .ok (.if_icmp .ne 19, 3) := by decide +kernel
theorem dD_unknown_59 : decode cD_unknown 59 = .ok (.aload_n 0, 1) := by decide +kernel
theorem dD_unknown_60 : decode cD_unknown 60 = .ok (.aload_n 0, 1) := by decide +kernel
theorem dD_unknown_61 : decode cD_unknown 61 = .ok (.getfield 63, 3) := by decide +kernel
