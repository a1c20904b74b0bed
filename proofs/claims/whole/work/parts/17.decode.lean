theorem dD_unknown_64 : decode cD_unknown 64 = .ok (.iload_n 1, 1) := by decide +kernel
theorem dD_unknown_65 : decode cD_unknown 65 = .ok (.iaload, 1) := by decide +kernel
theorem dD_unknown_66 : decode cD_unknown 66 = .ok (.iconst 4, 1) := by decide +kernel
theorem dD_unknown_67 : decode cD_unknown 67 = .ok (.iadd, 1) := by decide +kernel
theorem dD_unknown_68 : decode cD_unknown 68 = .ok (.invokevirtual 261, 3) := by decide +kernel
theorem dD_unknown_71 : decode cD_unknown 71 = .ok (.l2i, 1) := by decide +kernel
theorem dD_unknown_72 : decode cD_unknown 72 = .ok (.goto 34, 3) := by decide +kernel
theorem dD_unknown_75 : decode cD_unknown 75 = .ok (.iload_n 2, 1) := by decide +kernel
theorem dD_unknown_76 : decode cD_unknown 76 = .ok (.bipush (-2), 2) := by decide +kernel
theorem dD_unknown_78 : decode cD_unknown 78 = .ok (.if_icmp .ne 12, 3) := by decide +kernel
theorem dD_unknown_81 : decode cD_unknown 81 = .ok (.aload_n 0, 1) := by decide +kernel
theorem dD_unknown_82 : decode cD_unknown 82 = .ok (.getfield 66, 3) := by decide +kernel
theorem dD_unknown_85 : decode cD_unknown 85 = .ok (.iload_n 1, 1) := by decide +kernel
theorem dD_unknown_86 : decode cD_unknown 86 = .ok (.iaload, 1) := by decide +kernel
theorem dD_unknown_87 : decode cD_unknown 87 = .ok (.goto 19, 3) := by decide +kernel
theorem dD_unknown_90 : decode cD_unknown 90 = .ok (.aload_n 0, 1) := by decide +kernel
theorem dD_unknown_91 : decode cD_unknown 91 = .ok (.getfield 60, 3) := by decide +kernel
theorem dD_unknown_94 : decode cD_unknown 94 = .ok (.aload_n 0, 1) := by decide +kernel
theorem dD_unknown_95 : decode cD_unknown 95 = .ok (.getfield 63, 3) := by decide +kernel
theorem dD_unknown_98 : decode cD_unknown 98 = .ok (.iload_n 1, 1) := by decide +kernel
theorem dD_unknown_99 : decode cD_unknown 99 = .ok (.iaload, 1) := by decide +kernel
theorem dD_unknown_100 : decode cD_unknown 100 = .ok (.bipush 8, 2) := by decide +kernel
theorem dD_unknown_102 : decode cD_unknown 102 = .ok (.iadd, 1) := by decide +kernel
theorem dD_unknown_103 : decode cD_unknown 103 = .ok (.iload_n 2, 1) := by decide +kernel
theorem dD_unknown_104 : decode cD_unknown 104 = .ok (.iadd, 1) := by decide +kernel
theorem dD_unknown_105 : decode cD_unknown 105 = .ok (.iaload, 1) := by decide +kernel
theorem dD_unknown_106 : decode cD_unknown 106 = .ok (.ireturn, 1) := by decide +kernel
theorem dD_told_0 : decode cD_told 0 = .ok (.aload_n 0, 1) := by decide +kernel
theorem dD_told_1 : decode cD_told 1 = .ok (.iconst 0, 1) := by decide +kernel
theorem dD_told_2 : decode cD_told 2 = .ok (.putfield 110, 3) := by decide +kernel
theorem dD_told_5 : decode cD_told 5 = .ok (.iconst 0, 1) := by decide +kernel
theorem dD_told_6 : decode cD_told 6 = .ok (.istore_n 2, 1) := by decide +kernel
theorem dD_told_7 : decode cD_told 7 = .ok (.iconst 0, 1) := by decide +kernel
theorem dD_told_8 : decode cD_told 8 = .ok (.istore_n 3, 1) := by decide +kernel
theorem dD_told_9 : decode cD_told 9 = .ok (.iconst 0, 1) := by decide +kernel
theorem dD_told_10 : decode cD_told 10 = .ok (.istore 4, 2) := by decide +kernel
theorem dD_told_12 : decode cD_told 12 = .ok (.iload 4, 2) := by decide +kernel
theorem dD_told_14 : decode cD_told 14 = .ok (.aload_n 0, 1) := by decide +kernel
theorem dD_told_15 : decode cD_told 15 = .ok (.getfield 349, 3) := by decide +kernel
theorem dD_told_18 : decode cD_told 18 = .ok (.if_icmp .ge 44, 3) := by decide +kernel
theorem dD_told_21 : decode cD_told 21 = .ok (.aload_n 0, 1) := by decide +kernel
theorem dD_told_22 : decode cD_told 22 = .ok (.getfield 380, 3) := by decide +kernel
theorem dD_told_25 : decode cD_told 25 = .ok (.ifCond .eq 37, 3) := by decide +kernel
theorem dD_told_28 : decode cD_told 28 = .ok (.iload_n 2, 1) := by decide +kernel
theorem dD_told_29 : decode cD_told 29 = .ok (.aload_n 0, 1) := by decide +kernel
theorem dD_told_30 : decode cD_told 30 = .ok (.getfield 84, 3) := by decide +kernel
theorem dD_told_33 : decode cD_told 33 = .ok (.iload 4, 2) := by decide +kernel
theorem dD_told_35 : decode cD_told 35 = .ok (.baload, 1) := by decide +kernel
theorem dD_told_36 : decode cD_told 36 = .ok (.ifCond .eq 7, 3) := by decide +kernel
theorem dD_told_39 : decode cD_told 39 = .ok (.iconst 1, 1) := by decide +kernel
theorem dD_told_40 : decode cD_told 40 = .ok (.goto 4, 3) := by decide +kernel
theorem dD_told_43 : decode cD_told 43 = .ok (.iconst 0, 1) := by decide +kernel
theorem dD_told_44 : decode cD_told 44 = .ok (.iadd, 1) := by decide +kernel
theorem dD_told_45 : decode cD_told 45 = .ok (.istore_n 2, 1) := by decide +kernel
theorem dD_told_46 : decode cD_told 46 = .ok (.iload_n 3, 1) := by decide +kernel
theorem dD_told_47 : decode cD_told 47 = .ok (.aload_n 0, 1) := by decide +kernel
theorem dD_told_48 : decode cD_told 48 = .ok (.getfield 81, 3) := by decide +kernel
theorem dD_told_51 : decode cD_told 51 = .ok (.iload 4, 2) := by decide +kernel
theorem dD_told_53 : decode cD_told 53 = .ok (.iaload, 1) := by decide +kernel
theorem dD_told_54 : decode cD_told 54 = .ok (.iadd, 1) := by decide +kernel
theorem dD_told_55 : decode cD_told 55 = .ok (.istore_n 3, 1) := by decide +kernel
theorem dD_told_56 : decode cD_told 56 = .ok (.iinc 4 1, 3) := by decide +kernel
theorem dD_told_59 : decode cD_told 59 = .ok (.goto (-47), 3) := by decide +kernel
theorem dD_told_62 : decode cD_told 62 = .ok (.iload_n 1, 1) := by decide +kernel
theorem dD_told_63 : decode cD_told 63 = .ok (.tableswitch 100 0 8 #[49, 55, 60, 65, 70, 75, 91, 96, 98], 49) := by decide +kernel
theorem dD_told_112 : decode cD_told 112 = .ok (.aload_n 0, 1) := by decide +kernel
theorem dD_told_113 : decode cD_told 113 = .ok (.iconst 0, 1) := by decide +kernel
theorem dD_told_114 : decode cD_told 114 = .ok (.invokevirtual 141, 3) := by decide +kernel
theorem dD_told_117 : decode cD_told 117 = .ok (.ireturn, 1) := by decide +kernel
theorem dD_told_118 : decode cD_told 118 = .ok (.aload_n 0, 1) := by decide +kernel
theorem dD_told_119 : decode cD_told 119 = .ok (.getfield 145, 3) := by decide +kernel
theorem dD_told_122 : decode cD_told 122 = .ok (.ireturn, 1) := by decide +kernel
theorem dD_told_123 : decode cD_told 123 = .ok (.aload_n 0, 1) := by decide +kernel
theorem dD_told_124 : decode cD_told 124 = .ok (.getfield 209, 3) := by decide +kernel
theorem dD_told_127 : decode cD_told 127 = .ok (.ireturn, 1) := by decide +kernel
theorem dD_told_128 : decode cD_told 128 = .ok (.aload_n 0, 1) := by decide +kernel
theorem dD_told_129 : decode cD_told 129 = .ok (.getfield 212, 3) := by decide +kernel
theorem dD_told_132 : decode cD_told 132 = .ok (.ireturn, 1) := by decide +kernel
theorem dD_told_133 : decode cD_told 133 = .ok (.aload_n 0, 1) := by decide +kernel
theorem dD_told_134 : decode cD_told 134 = .ok (.getfield 255, 3) := by decide +kernel
theorem dD_told_137 : decode cD_told 137 = .ok (.ireturn, 1) := by decide +kernel
theorem dD_told_138 : decode cD_told 138 = .ok (.aload_n 0, 1) := by decide +kernel
theorem dD_told_139 : decode cD_told 139 = .ok (.getfield 380, 3) := by decide +kernel
theorem dD_told_142 : decode cD_told 142 = .ok (.ifCond .eq 10, 3) := by decide +kernel
theorem dD_told_145 : decode cD_told 145 = .ok (.aload_n 0, 1) := by decide +kernel
theorem dD_told_146 : decode cD_told 146 = .ok (.getfield 349, 3) := by decide +kernel
theorem dD_told_149 : decode cD_told 149 = .ok (.goto 4, 3) := by decide +kernel
theorem dD_told_152 : decode cD_told 152 = .ok (.iconst 0, 1) := by decide +kernel
theorem dD_told_153 : decode cD_told 153 = .ok (.ireturn, 1) := by decide +kernel
theorem dD_told_154 : decode cD_told 154 = .ok (.aload_n 0, 1) := by decide +kernel
theorem dD_told_155 : decode cD_told 155 = .ok (.getfield 269, 3) := by decide +kernel
theorem dD_told_158 : decode cD_told 158 = .ok (.ireturn, 1) := by decide +kernel
theorem dD_told_159 : decode cD_told 159 = .ok (.iload_n 2, 1) := by decide +kernel
theorem dD_told_160 : decode cD_told 160 = .ok (.ireturn, 1) := by decide +kernel
theorem dD_told_161 : decode cD_told 161 = .ok (.iload_n 3, 1) := by decide +kernel
theorem dD_told_162 : decode cD_told 162 = .ok (.ireturn, 1) := by decide +kernel
theorem dD_told_163 : decode cD_told 163 = .ok (.iconst (-1), 1) := by decide +kernel
theorem dD_told_164 : decode cD_told 164 = .ok (.ireturn, 1) := by decide +kernel
