theorem dD_isPlace_28 : decode cD_isPlace 28 = .ok (.ifCond .eq 26, 3) := by decide +kernel
theorem dD_isPlace_31 : decode cD_isPlace 31 = .ok (.iload 4, 2) := by decide +kernel
theorem dD_isPlace_33 : decode cD_isPlace 33 = .ok (.i2l, 1) := by decide +kernel
theorem dD_isPlace_34 : decode cD_isPlace 34 = .ok (.ldc2_w 139, 3) := by decide +kernel
theorem dD_isPlace_37 : decode cD_isPlace 37 = .ok (.aload_n 0, 1) := by decide +kernel
theorem dD_isPlace_38 : decode cD_isPlace 38 = .ok (.getfield 23, 3) := by decide +kernel
theorem dD_isPlace_41 : decode cD_isPlace 41 = .ok (.iload_n 1, 1) := by decide +kernel
theorem dD_isPlace_42 : decode cD_isPlace 42 = .ok (.iconst 2, 1) := by decide +kernel
theorem dD_isPlace_43 : decode cD_isPlace 43 = .ok (.iadd, 1) := by decide +kernel
theorem dD_isPlace_44 : decode cD_isPlace 44 = .ok (.iaload, 1) := by decide +kernel
theorem dD_isPlace_45 : decode cD_isPlace 45 = .ok (.i2l, 1) := by decide +kernel
theorem dD_isPlace_46 : decode cD_isPlace 46 = .ok (.lconst 1, 1) := by decide +kernel
theorem dD_isPlace_47 : decode cD_isPlace 47 = .ok (.lsub, 1) := by decide +kernel
theorem dD_isPlace_48 : decode cD_isPlace 48 = .ok (.invokestatic 135, 3) := by decide +kernel
theorem dD_isPlace_51 : decode cD_isPlace 51 = .ok (.ifCond .ne 5, 3) := by decide +kernel
theorem dD_isPlace_54 : decode cD_isPlace 54 = .ok (.iconst 0, 1) := by decide +kernel
theorem dD_isPlace_55 : decode cD_isPlace 55 = .ok (.ireturn, 1) := by decide +kernel
theorem dD_isPlace_56 : decode cD_isPlace 56 = .ok (.iload_n 2, 1) := by decide +kernel
theorem dD_isPlace_57 : decode cD_isPlace 57 = .ok (.iconst 5, 1) := by decide +kernel
theorem dD_isPlace_58 : decode cD_isPlace 58 = .ok (.if_icmp .gt 35, 3) := by decide +kernel
theorem dD_isPlace_61 : decode cD_isPlace 61 = .ok (.iload 4, 2) := by decide +kernel
theorem dD_isPlace_63 : decode cD_isPlace 63 = .ok (.iconst (-1), 1) := by decide +kernel
theorem dD_isPlace_64 : decode cD_isPlace 64 = .ok (.if_icmp .ne 8, 3) := by decide +kernel
theorem dD_isPlace_67 : decode cD_isPlace 67 = .ok (.iload_n 3, 1) := by decide +kernel
theorem dD_isPlace_68 : decode cD_isPlace 68 = .ok (.iconst (-1), 1) := by decide +kernel
theorem dD_isPlace_69 : decode cD_isPlace 69 = .ok (.if_icmp .eq 24, 3) := by decide +kernel
theorem dD_isPlace_72 : decode cD_isPlace 72 = .ok (.iload_n 2, 1) := by decide +kernel
theorem dD_isPlace_73 : decode cD_isPlace 73 = .ok (.iconst 3, 1) := by decide +kernel
theorem dD_isPlace_74 : decode cD_isPlace 74 = .ok (.if_icmp .ne 8, 3) := by decide +kernel
theorem dD_isPlace_77 : decode cD_isPlace 77 = .ok (.iload_n 3, 1) := by decide +kernel
theorem dD_isPlace_78 : decode cD_isPlace 78 = .ok (.iconst (-1), 1) := by decide +kernel
theorem dD_isPlace_79 : decode cD_isPlace 79 = .ok (.if_icmp .eq 14, 3) := by decide +kernel
theorem dD_isPlace_82 : decode cD_isPlace 82 = .ok (.iload_n 2, 1) := by decide +kernel
theorem dD_isPlace_83 : decode cD_isPlace 83 = .ok (.iconst 3, 1) := by decide +kernel
theorem dD_isPlace_84 : decode cD_isPlace 84 = .ok (.if_icmp .le 13, 3) := by decide +kernel
theorem dD_isPlace_87 : decode cD_isPlace 87 = .ok (.iload 4, 2) := by decide +kernel
theorem dD_isPlace_89 : decode cD_isPlace 89 = .ok (.iconst (-1), 1) := by decide +kernel
theorem dD_isPlace_90 : decode cD_isPlace 90 = .ok (.if_icmp .ne 7, 3) := by decide +kernel
theorem dD_isPlace_93 : decode cD_isPlace 93 = .ok (.iconst 1, 1) := by decide +kernel
theorem dD_isPlace_94 : decode cD_isPlace 94 = .ok (.goto 4, 3) := by decide +kernel
theorem dD_isPlace_97 : decode cD_isPlace 97 = .ok (.iconst 0, 1) := by decide +kernel
theorem dD_isPlace_98 : decode cD_isPlace 98 = .ok (.ireturn, 1) := by decide +kernel
theorem dD_isFixed_0 : decode cD_isFixed 0 = .ok (.aload_n 0, 1) := by decide +kernel
theorem dD_isFixed_1 : decode cD_isFixed 1 = .ok (.getfield 145, 3) := by decide +kernel
theorem dD_isFixed_4 : decode cD_isFixed 4 = .ok (.ifCond .le 7, 3) := by decide +kernel
theorem dD_isFixed_7 : decode cD_isFixed 7 = .ok (.iconst 1, 1) := by decide +kernel
theorem dD_isFixed_8 : decode cD_isFixed 8 = .ok (.goto 4, 3) := by decide +kernel
theorem dD_isFixed_11 : decode cD_isFixed 11 = .ok (.iconst 0, 1) := by decide +kernel
theorem dD_isFixed_12 : decode cD_isFixed 12 = .ok (.istore_n 1, 1) := by decide +kernel
theorem dD_isFixed_13 : decode cD_isFixed 13 = .ok (.iconst 1, 1) := by decide +kernel
theorem dD_isFixed_14 : decode cD_isFixed 14 = .ok (.istore_n 2, 1) := by decide +kernel
theorem dD_isFixed_15 : decode cD_isFixed 15 = .ok (.iload_n 2, 1) := by decide +kernel
theorem dD_isFixed_16 : decode cD_isFixed 16 = .ok (.bipush 125, 2) := by decide +kernel
theorem dD_isFixed_18 : decode cD_isFixed 18 = .ok (.if_icmp .ge 37, 3) := by decide +kernel
theorem dD_isFixed_21 : decode cD_isFixed 21 = .ok (.iload_n 1, 1) := by decide +kernel
theorem dD_isFixed_22 : decode cD_isFixed 22 = .ok (.ifCond .ne 21, 3) := by decide +kernel
theorem dD_isFixed_25 : decode cD_isFixed 25 = .ok (.aload_n 0, 1) := by decide +kernel
theorem dD_isFixed_26 : decode cD_isFixed 26 = .ok (.getfield 13, 3) := by decide +kernel
theorem dD_isFixed_29 : decode cD_isFixed 29 = .ok (.iload_n 2, 1) := by decide +kernel
theorem dD_isFixed_30 : decode cD_isFixed 30 = .ok (.baload, 1) := by decide +kernel
theorem dD_isFixed_31 : decode cD_isFixed 31 = .ok (.ifCond .ne 12, 3) := by decide +kernel
theorem dD_isFixed_34 : decode cD_isFixed 34 = .ok (.aload_n 0, 1) := by decide +kernel
theorem dD_isFixed_35 : decode cD_isFixed 35 = .ok (.getfield 17, 3) := by decide +kernel
theorem dD_isFixed_38 : decode cD_isFixed 38 = .ok (.iload_n 2, 1) := by decide +kernel
theorem dD_isFixed_39 : decode cD_isFixed 39 = .ok (.baload, 1) := by decide +kernel
theorem dD_isFixed_40 : decode cD_isFixed 40 = .ok (.ifCond .eq 7, 3) := by decide +kernel
theorem dD_isFixed_43 : decode cD_isFixed 43 = .ok (.iconst 1, 1) := by decide +kernel
theorem dD_isFixed_44 : decode cD_isFixed 44 = .ok (.goto 4, 3) := by decide +kernel
theorem dD_isFixed_47 : decode cD_isFixed 47 = .ok (.iconst 0, 1) := by decide +kernel
theorem dD_isFixed_48 : decode cD_isFixed 48 = .ok (.istore_n 1, 1) := by decide +kernel
theorem dD_isFixed_49 : decode cD_isFixed 49 = .ok (.iinc 2 1, 3) := by decide +kernel
theorem dD_isFixed_52 : decode cD_isFixed 52 = .ok (.goto (-37), 3) := by decide +kernel
theorem dD_isFixed_55 : decode cD_isFixed 55 = .ok (.iload_n 1, 1) := by decide +kernel
theorem dD_isFixed_56 : decode cD_isFixed 56 = .ok (.ireturn, 1) := by decide +kernel
theorem dD_isNumber_0 : decode cD_isNumber 0 = .ok (.iload_n 0, 1) := by decide +kernel
theorem dD_isNumber_1 : decode cD_isNumber 1 = .ok (.tableswitch 145 0 9 #[55, 55, 65, 75, 85, 95, 105, 115, 127, 135], 55) := by decide +kernel
theorem dD_isNumber_56 : decode cD_isNumber 56 = .ok (.iload_n 1, 1) := by decide +kernel
theorem dD_isNumber_57 : decode cD_isNumber 57 = .ok (.i2l, 1) := by decide +kernel
theorem dD_isNumber_58 : decode cD_isNumber 58 = .ok (.lconst 1, 1) := by decide +kernel
theorem dD_isNumber_59 : decode cD_isNumber 59 = .ok (.ldc2_w 148, 3) := by decide +kernel
theorem dD_isNumber_62 : decode cD_isNumber 62 = .ok (.invokestatic 135, 3) := by decide +kernel
theorem dD_isNumber_65 : decode cD_isNumber 65 = .ok (.ireturn, 1) := by decide +kernel
theorem dD_isNumber_66 : decode cD_isNumber 66 = .ok (.iload_n 1, 1) := by decide +kernel
theorem dD_isNumber_67 : decode cD_isNumber 67 = .ok (.i2l, 1) := by decide +kernel
theorem dD_isNumber_68 : decode cD_isNumber 68 = .ok (.lconst 1, 1) := by decide +kernel
theorem dD_isNumber_69 : decode cD_isNumber 69 = .ok (.ldc2_w 150, 3) := by decide +kernel
theorem dD_isNumber_72 : decode cD_isNumber 72 = .ok (.invokestatic 135, 3) := by decide +kernel
theorem dD_isNumber_75 : decode cD_isNumber 75 = .ok (.ireturn, 1) := by decide +kernel
theorem dD_isNumber_76 : decode cD_isNumber 76 = .ok (.iload_n 1, 1) := by decide +kernel
theorem dD_isNumber_77 : decode cD_isNumber 77 = .ok (.i2l, 1) := by decide +kernel
theorem dD_isNumber_78 : decode cD_isNumber 78 = .ok (.lconst 1, 1) := by decide +kernel
theorem dD_isNumber_79 : decode cD_isNumber 79 = .ok (.ldc2_w 152, 3) := by decide +kernel
theorem dD_isNumber_82 : decode cD_isNumber 82 = .ok (.invokestatic 135, 3) := by decide +kernel
theorem dD_isNumber_85 : decode cD_isNumber 85 = .ok (.ireturn, 1) := by decide +kernel
theorem dD_isNumber_86 : decode cD_isNumber 86 = .ok (.iload_n 1, 1) := by decide +kernel
theorem dD_isNumber_87 : decode cD_isNumber 87 = .ok (.i2l, 1) := by decide +kernel
theorem dD_isNumber_88 : decode cD_isNumber 88 = .ok (.lconst 0, 1) := by decide +kernel
theorem dD_isNumber_89 : decode cD_isNumber 89 = .ok (.ldc2_w 150, 3) := by decide +kernel
theorem dD_isNumber_92 : decode cD_isNumber 92 = .ok (.invokestatic 135, 3) := by decide +kernel
theorem dD_isNumber_95 : decode cD_isNumber 95 = .ok (.ireturn, 1) := by decide +kernel
theorem dD_isNumber_96 : decode cD_isNumber 96 = .ok (.iload_n 1, 1) := by decide +kernel
theorem dD_isNumber_97 : decode cD_isNumber 97 = .ok (.i2l, 1) := by decide +kernel
theorem dD_isNumber_98 : decode cD_isNumber 98 = .ok (.lconst 1, 1) := by decide +kernel
theorem dD_isNumber_99 : decode cD_isNumber 99 = .ok (.ldc2_w 154, 3) := by decide +kernel
theorem dD_isNumber_102 : decode cD_isNumber 102 = .ok (.invokestatic 135, 3) := by decide +kernel
theorem dD_isNumber_105 : decode cD_isNumber 105 = .ok (.ireturn, 1) := by decide +kernel
theorem dD_isNumber_106 : decode cD_isNumber 106 = .ok (.iload_n 1, 1) := by decide +kernel
theorem dD_isNumber_107 : decode cD_isNumber 107 = .ok (.i2l, 1) := by decide +kernel
theorem dD_isNumber_108 : decode cD_isNumber 108 = .ok (.lconst 0, 1) := by decide +kernel
theorem dD_isNumber_109 : decode cD_isNumber 109 = .ok (.ldc2_w 156, 3) := by decide +kernel
theorem dD_isNumber_112 : decode cD_isNumber 112 = .ok (.invokestatic 135, 3) := by decide +kernel
theorem dD_isNumber_115 : decode cD_isNumber 115 = .ok (.ireturn, 1) := by decide +kernel
theorem dD_isNumber_116 : decode cD_isNumber 116 = .ok (.iload_n 1, 1) := by decide +kernel
theorem dD_isNumber_117 : decode cD_isNumber 117 = .ok (.i2l, 1) := by decide +kernel
theorem dD_isNumber_118 : decode cD_isNumber 118 = .ok (.ldc2_w 158, 3) := by decide +kernel
theorem dD_isNumber_121 : decode cD_isNumber 121 = .ok (.ldc2_w 160, 3) := by decide +kernel
theorem dD_isNumber_124 : decode cD_isNumber 124 = .ok (.invokestatic 135, 3) := by decide +kernel
theorem dD_isNumber_127 : decode cD_isNumber 127 = .ok (.ireturn, 1) := by decide +kernel
theorem dD_isNumber_128 : decode cD_isNumber 128 = .ok (.iload_n 1, 1) := by decide +kernel
theorem dD_isNumber_129 : decode cD_isNumber 129 = .ok (.i2l, 1) := by decide +kernel
theorem dD_isNumber_130 : decode cD_isNumber 130 = .ok (.lconst 0, 1) := by decide +kernel
theorem dD_isNumber_131 : decode cD_isNumber 131 = .ok (.lconst 1, 1) := by decide +kernel
theorem dD_isNumber_132 : decode cD_isNumber 132 = .ok (.invokestatic 135, 3) := by decide +kernel
theorem dD_isNumber_135 : decode cD_isNumber 135 = .ok (.ireturn, 1) := by decide +kernel
theorem dD_isNumber_136 : decode cD_isNumber 136 = .ok (.iload_n 1, 1) := by decide +kernel
theorem dD_isNumber_137 : decode cD_isNumber 137 = .ok (.i2l, 1) := by decide +kernel
theorem dD_isNumber_138 : decode cD_isNumber 138 = .ok (.lconst 0, 1) := by decide +kernel
theorem dD_isNumber_139 : decode cD_isNumber 139 = .ok (.ldc2_w 162, 3) := by decide +kernel
theorem dD_isNumber_142 : decode cD_isNumber 142 = .ok (.invokestatic 135, 3) := by decide +kernel
theorem dD_isNumber_145 : decode cD_isNumber 145 = .ok (.ireturn, 1) := by decide +kernel
theorem dD_isNumber_146 : decode cD_isNumber 146 = .ok (.iload_n 1, 1) := by decide +kernel
theorem dD_isNumber_147 : decode cD_isNumber 147 = .ok (.i2l, 1) := by decide +kernel
theorem dD_isNumber_148 : decode cD_isNumber 148 = .ok (.lconst 0, 1) := by decide +kernel
theorem dD_isNumber_149 : decode cD_isNumber 149 = .ok (.ldc2_w 164, 3) := by decide +kernel
theorem dD_isNumber_152 : decode cD_isNumber 152 = .ok (.invokestatic 135, 3) := by decide +kernel
theorem dD_isNumber_155 : decode cD_isNumber 155 = .ok (.ireturn, 1) := by decide +kernel
theorem dD_isTooMany_0 : decode cD_isTooMany 0 = .ok (.iload_n 1, 1) := by decide +kernel
theorem dD_isTooMany_1 : decode cD_isTooMany 1 = .ok (.ifCond .ne 8, 3) := by decide +kernel
theorem dD_isTooMany_4 : decode cD_isTooMany 4 = .ok (.iload_n 2, 1) := by decide +kernel
theorem dD_isTooMany_5 : decode cD_isTooMany 5 = .ok (.i2l, 1) := by decide +kernel
theorem dD_isTooMany_6 : decode cD_isTooMany 6 = .ok (.goto 10, 3) := by decide +kernel
theorem dD_isTooMany_9 : decode cD_isTooMany 9 = .ok (.aload_n 0, 1) := by decide +kernel
theorem dD_isTooMany_10 : decode cD_isTooMany 10 = .ok (.getfield 23, 3) := by decide +kernel
theorem dD_isTooMany_13 : decode cD_isTooMany 13 = .ok (.iconst 0, 1) := by decide +kernel
theorem dD_isTooMany_14 : decode cD_isTooMany 14 = .ok (.iaload, 1) := by decide +kernel
theorem dD_isTooMany_15 : decode cD_isTooMany 15 = .ok (.i2l, 1) := by decide +kernel
theorem dD_isTooMany_16 : decode cD_isTooMany 16 = .ok (.lstore_n 3, 1) := by decide +kernel
theorem dD_isTooMany_17 : decode cD_isTooMany 17 = .ok (.iload_n 1, 1) := by decide +kernel
theorem dD_isTooMany_18 : decode cD_isTooMany 18 = .ok (.iconst 1, 1) := by decide +kernel
theorem dD_isTooMany_19 : decode cD_isTooMany 19 = .ok (.if_icmp .ne 8, 3) := by decide +kernel
theorem dD_isTooMany_22 : decode cD_isTooMany 22 = .ok (.iload_n 2, 1) := by decide +kernel
theorem dD_isTooMany_23 : decode cD_isTooMany 23 = .ok (.i2l, 1) := by decide +kernel
theorem dD_isTooMany_24 : decode cD_isTooMany 24 = .ok (.goto 10, 3) := by decide +kernel
theorem dD_isTooMany_27 : decode cD_isTooMany 27 = .ok (.aload_n 0, 1) := by decide +kernel
theorem dD_isTooMany_28 : decode cD_isTooMany 28 = .ok (.getfield 23, 3) := by decide +kernel
theorem dD_isTooMany_31 : decode cD_isTooMany 31 = .ok (.iconst 1, 1) := by decide +kernel
theorem dD_isTooMany_32 : decode cD_isTooMany 32 = .ok (.iaload, 1) := by decide +kernel
theorem dD_isTooMany_33 : decode cD_isTooMany 33 = .ok (.i2l, 1) := by decide +kernel
theorem dD_isTooMany_34 : decode cD_isTooMany 34 = .ok (.lstore 5, 2) := by decide +kernel
theorem dD_isTooMany_36 : decode cD_isTooMany 36 = .ok (.lload_n 3, 1) := by decide +kernel
theorem dD_isTooMany_37 : decode cD_isTooMany 37 = .ok (.lload 5, 2) := by decide +kernel
theorem dD_isTooMany_39 : decode cD_isTooMany 39 = .ok (.aload_n 0, 1) := by decide +kernel
theorem dD_isTooMany_40 : decode cD_isTooMany 40 = .ok (.getfield 23, 3) := by decide +kernel
theorem dD_isTooMany_43 : decode cD_isTooMany 43 = .ok (.iconst 3, 1) := by decide +kernel
theorem dD_isTooMany_44 : decode cD_isTooMany 44 = .ok (.iaload, 1) := by decide +kernel
theorem dD_isTooMany_45 : decode cD_isTooMany 45 = .ok (.i2l, 1) := by decide +kernel
theorem dD_isTooMany_46 : decode cD_isTooMany 46 = .ok (.aload_n 0, 1) := by decide +kernel
theorem dD_isTooMany_47 : decode cD_isTooMany 47 = .ok (.getfield 23, 3) := by decide +kernel
theorem dD_isTooMany_50 : decode cD_isTooMany 50 = .ok (.iconst 4, 1) := by decide +kernel
theorem dD_isTooMany_51 : decode cD_isTooMany 51 = .ok (.iaload, 1) := by decide +kernel
theorem dD_isTooMany_52 : decode cD_isTooMany 52 = .ok (.i2l, 1) := by decide +kernel
theorem dD_isTooMany_53 : decode cD_isTooMany 53 = .ok (.invokestatic 129, 3) := by decide +kernel
theorem dD_isTooMany_56 : decode cD_isTooMany 56 = .ok (.ldc2_w 166, 3) := by decide +kernel
theorem dD_isTooMany_59 : decode cD_isTooMany 59 = .ok (.lcmp, 1) := by decide +kernel
theorem dD_isTooMany_60 : decode cD_isTooMany 60 = .ok (.ifCond .le 7, 3) := by decide +kernel
theorem dD_isTooMany_63 : decode cD_isTooMany 63 = .ok (.iconst 1, 1) := by decide +kernel
theorem dD_isTooMany_64 : decode cD_isTooMany 64 = .ok (.goto 4, 3) := by decide +kernel
theorem dD_isTooMany_67 : decode cD_isTooMany 67 = .ok (.iconst 0, 1) := by decide +kernel
theorem dD_isTooMany_68 : decode cD_isTooMany 68 = .ok (.ireturn, 1) := by decide +kernel
theorem dD_make_0 : decode cD_make 0 = .ok (.iload_n 2, 1) := by decide +kernel
theorem dD_make_1 : decode cD_make 1 = .ok (.iload_n 3, 1) := by decide +kernel
theorem dD_make_2 : decode cD_make 2 = .ok (.invokestatic 121, 3) := by decide +kernel
theorem dD_make_5 : decode cD_make 5 = .ok (.istore 4, 2) := by decide +kernel
theorem dD_make_7 : decode cD_make 7 = .ok (.aload_n 0, 1) := by decide +kernel
theorem dD_make_8 : decode cD_make 8 = .ok (.iconst 0, 1) := by decide +kernel
theorem dD_make_9 : decode cD_make 9 = .ok (.iload_n 1, 1) := by decide +kernel
theorem dD_make_10 : decode cD_make 10 = .ok (.iload_n 2, 1) := by decide +kernel
theorem dD_make_11 : decode cD_make 11 = .ok (.iload_n 3, 1) := by decide +kernel
theorem dD_make_12 : decode cD_make 12 = .ok (.invokevirtual 168, 3) := by decide +kernel
theorem dD_make_15 : decode cD_make 15 = .ok (.istore 5, 2) := by decide +kernel
theorem dD_make_17 : decode cD_make 17 = .ok (.iconst 4, 1) := by decide +kernel
theorem dD_make_18 : decode cD_make 18 = .ok (.istore 6, 2) := by decide +kernel
theorem dD_make_20 : decode cD_make 20 = .ok (.iload 6, 2) := by decide +kernel
theorem dD_make_22 : decode cD_make 22 = .ok (.bipush 10, 2) := by decide +kernel
theorem dD_make_24 : decode cD_make 24 = .ok (.if_icmp .gt 44, 3) := by decide +kernel
theorem dD_make_27 : decode cD_make 27 = .ok (.iload 5, 2) := by decide +kernel
theorem dD_make_29 : decode cD_make 29 = .ok (.iload 4, 2) := by decide +kernel
theorem dD_make_31 : decode cD_make 31 = .ok (.if_icmp .eq 37, 3) := by decide +kernel
theorem dD_make_34 : decode cD_make 34 = .ok (.iload 6, 2) := by decide +kernel
theorem dD_make_36 : decode cD_make 36 = .ok (.invokestatic 117, 3) := by decide +kernel
theorem dD_make_39 : decode cD_make 39 = .ok (.iload_n 1, 1) := by decide +kernel
theorem dD_make_40 : decode cD_make 40 = .ok (.invokestatic 117, 3) := by decide +kernel
theorem dD_make_43 : decode cD_make 43 = .ok (.if_icmp .ne 19, 3) := by decide +kernel
theorem dD_make_46 : decode cD_make 46 = .ok (.aload_n 0, 1) := by decide +kernel
theorem dD_make_47 : decode cD_make 47 = .ok (.iload 4, 2) := by decide +kernel
theorem dD_make_49 : decode cD_make 49 = .ok (.iload 6, 2) := by decide +kernel
theorem dD_make_51 : decode cD_make 51 = .ok (.aload_n 0, 1) := by decide +kernel
theorem dD_make_52 : decode cD_make 52 = .ok (.iload 5, 2) := by decide +kernel
theorem dD_make_54 : decode cD_make 54 = .ok (.iload 6, 2) := by decide +kernel
theorem dD_make_56 : decode cD_make 56 = .ok (.invokevirtual 172, 3) := by decide +kernel
theorem dD_make_59 : decode cD_make 59 = .ok (.invokevirtual 113, 3) := by decide +kernel
theorem dD_make_62 : decode cD_make 62 = .ok (.iinc 6 1, 3) := by decide +kernel
theorem dD_make_65 : decode cD_make 65 = .ok (.goto (-45), 3) := by decide +kernel
theorem dD_make_68 : decode cD_make 68 = .ok (.iload_n 1, 1) := by decide +kernel
theorem dD_make_69 : decode cD_make 69 = .ok (.invokestatic 117, 3) := by decide +kernel
theorem dD_make_72 : decode cD_make 72 = .ok (.ifCond .eq 14, 3) := by decide +kernel
theorem dD_make_75 : decode cD_make 75 = .ok (.aload_n 0, 1) := by decide +kernel
theorem dD_make_76 : decode cD_make 76 = .ok (.getfield 17, 3) := by decide +kernel
theorem dD_make_79 : decode cD_make 79 = .ok (.iload 4, 2) := by decide +kernel
theorem dD_make_81 : decode cD_make 81 = .ok (.iconst 1, 1) := by decide +kernel
theorem dD_make_82 : decode cD_make 82 = .ok (.bastore, 1) := by decide +kernel
theorem dD_make_83 : decode cD_make 83 = .ok (.goto 11, 3) := by decide +kernel
theorem dD_make_86 : decode cD_make 86 = .ok (.aload_n 0, 1) := by decide +kernel
theorem dD_make_87 : decode cD_make 87 = .ok (.getfield 13, 3) := by decide +kernel
theorem dD_make_90 : decode cD_make 90 = .ok (.iload 4, 2) := by decide +kernel
theorem dD_make_92 : decode cD_make 92 = .ok (.iconst 1, 1) := by decide +kernel
theorem dD_make_93 : decode cD_make 93 = .ok (.bastore, 1) := by decide +kernel
theorem dD_make_94 : decode cD_make 94 = .ok (.return_, 1) := by decide +kernel
theorem dD_set_0 : decode cD_set 0 = .ok (.aload_n 0, 1) := by decide +kernel
theorem dD_set_1 : decode cD_set 1 = .ok (.aload_n 0, 1) := by decide +kernel
theorem dD_set_2 : decode cD_set 2 = .ok (.iconst 0, 1) := by decide +kernel
theorem dD_set_3 : decode cD_set 3 = .ok (.iload_n 1, 1) := by decide +kernel
theorem dD_set_4 : decode cD_set 4 = .ok (.iload_n 2, 1) := by decide +kernel
theorem dD_set_5 : decode cD_set 5 = .ok (.iload_n 3, 1) := by decide +kernel
theorem dD_set_6 : decode cD_set 6 = .ok (.invokevirtual 175, 3) := by decide +kernel
theorem dD_set_9 : decode cD_set 9 = .ok (.ifCond .ne 7, 3) := by decide +kernel
theorem dD_set_12 : decode cD_set 12 = .ok (.iconst 1, 1) := by decide +kernel
theorem dD_set_13 : decode cD_set 13 = .ok (.goto 48, 3) := by decide +kernel
theorem dD_set_16 : decode cD_set 16 = .ok (.iload_n 1, 1) := by decide +kernel
theorem dD_set_17 : decode cD_set 17 = .ok (.iconst 3, 1) := by decide +kernel
theorem dD_set_18 : decode cD_set 18 = .ok (.if_icmp .ge 14, 3) := by decide +kernel
theorem dD_set_21 : decode cD_set 21 = .ok (.aload_n 0, 1) := by decide +kernel
theorem dD_set_22 : decode cD_set 22 = .ok (.invokevirtual 179, 3) := by decide +kernel
theorem dD_set_25 : decode cD_set 25 = .ok (.ifCond .eq 7, 3) := by decide +kernel
theorem dD_set_28 : decode cD_set 28 = .ok (.iconst 2, 1) := by decide +kernel
theorem dD_set_29 : decode cD_set 29 = .ok (.goto 32, 3) := by decide +kernel
theorem dD_set_32 : decode cD_set 32 = .ok (.iload_n 1, 1) := by decide +kernel
theorem dD_set_33 : decode cD_set 33 = .ok (.iload 4, 2) := by decide +kernel
theorem dD_set_35 : decode cD_set 35 = .ok (.invokestatic 183, 3) := by decide +kernel
theorem dD_set_38 : decode cD_set 38 = .ok (.ifCond .eq 18, 3) := by decide +kernel
theorem dD_set_41 : decode cD_set 41 = .ok (.iload_n 1, 1) := by decide +kernel
theorem dD_set_42 : decode cD_set 42 = .ok (.iconst 2, 1) := by decide +kernel
theorem dD_set_43 : decode cD_set 43 = .ok (.if_icmp .ge 17, 3) := by decide +kernel
theorem dD_set_46 : decode cD_set 46 = .ok (.aload_n 0, 1) := by decide +kernel
theorem dD_set_47 : decode cD_set 47 = .ok (.iload_n 1, 1) := by decide +kernel
theorem dD_set_48 : decode cD_set 48 = .ok (.iload 4, 2) := by decide +kernel
theorem dD_set_50 : decode cD_set 50 = .ok (.invokevirtual 186, 3) := by decide +kernel
theorem dD_set_53 : decode cD_set 53 = .ok (.ifCond .eq 7, 3) := by decide +kernel
theorem dD_set_56 : decode cD_set 56 = .ok (.iconst 3, 1) := by decide +kernel
theorem dD_set_57 : decode cD_set 57 = .ok (.goto 4, 3) := by decide +kernel
theorem dD_set_60 : decode cD_set 60 = .ok (.iconst 0, 1) := by decide +kernel
theorem dD_set_61 : decode cD_set 61 = .ok (.putfield 110, 3) := by decide +kernel
theorem dD_set_64 : decode cD_set 64 = .ok (.aload_n 0, 1) := by decide +kernel
theorem dD_set_65 : decode cD_set 65 = .ok (.getfield 110, 3) := by decide +kernel
theorem dD_set_68 : decode cD_set 68 = .ok (.ifCond .le 5, 3) := by decide +kernel
theorem dD_set_71 : decode cD_set 71 = .ok (.iconst 0, 1) := by decide +kernel
theorem dD_set_72 : decode cD_set 72 = .ok (.ireturn, 1) := by decide +kernel
theorem dD_set_73 : decode cD_set 73 = .ok (.iload_n 1, 1) := by decide +kernel
theorem dD_set_74 : decode cD_set 74 = .ok (.iconst 3, 1) := by decide +kernel
theorem dD_set_75 : decode cD_set 75 = .ok (.if_icmp .ge 22, 3) := by decide +kernel
theorem dD_set_78 : decode cD_set 78 = .ok (.aload_n 0, 1) := by decide +kernel
theorem dD_set_79 : decode cD_set 79 = .ok (.getfield 23, 3) := by decide +kernel
theorem dD_set_82 : decode cD_set 82 = .ok (.iload_n 1, 1) := by decide +kernel
theorem dD_set_83 : decode cD_set 83 = .ok (.iaload, 1) := by decide +kernel
theorem dD_set_84 : decode cD_set 84 = .ok (.istore 5, 2) := by decide +kernel
theorem dD_set_86 : decode cD_set 86 = .ok (.aload_n 0, 1) := by decide +kernel
theorem dD_set_87 : decode cD_set 87 = .ok (.getfield 23, 3) := by decide +kernel
theorem dD_set_90 : decode cD_set 90 = .ok (.iload_n 1, 1) := by decide +kernel
theorem dD_set_91 : decode cD_set 91 = .ok (.iload 4, 2) := by decide +kernel
theorem dD_set_93 : decode cD_set 93 = .ok (.iastore, 1) := by decide +kernel
theorem dD_set_94 : decode cD_set 94 = .ok (.iload 5, 2) := by decide +kernel
theorem dD_set_96 : decode cD_set 96 = .ok (.ireturn, 1) := by decide +kernel
theorem dD_set_97 : decode cD_set 97 = .ok (.iload_n 1, 1) := by decide +kernel
theorem dD_set_98 : decode cD_set 98 = .ok (.iconst 3, 1) := by decide +kernel
theorem dD_set_99 : decode cD_set 99 = .ok (.if_icmp .ne 66, 3) := by decide +kernel
theorem dD_set_102 : decode cD_set 102 = .ok (.aload_n 0, 1) := by decide +kernel
theorem dD_set_103 : decode cD_set 103 = .ok (.getfield 20, 3) := by decide +kernel
theorem dD_set_106 : decode cD_set 106 = .ok (.iload_n 3, 1) := by decide +kernel
theorem dD_set_107 : decode cD_set 107 = .ok (.ifCond .ge 7, 3) := by decide +kernel
theorem dD_set_110 : decode cD_set 110 = .ok (.iconst 0, 1) := by decide +kernel
theorem dD_set_111 : decode cD_set 111 = .ok (.goto 4, 3) := by decide +kernel
theorem dD_set_114 : decode cD_set 114 = .ok (.iload_n 3, 1) := by decide +kernel
theorem dD_set_115 : decode cD_set 115 = .ok (.iaload, 1) := by decide +kernel
theorem dD_set_116 : decode cD_set 116 = .ok (.istore 5, 2) := by decide +kernel
theorem dD_set_118 : decode cD_set 118 = .ok (.iconst 0, 1) := by decide +kernel
theorem dD_set_119 : decode cD_set 119 = .ok (.istore 6, 2) := by decide +kernel
theorem dD_set_121 : decode cD_set 121 = .ok (.iload 6, 2) := by decide +kernel
theorem dD_set_123 : decode cD_set 123 = .ok (.iconst 4, 1) := by decide +kernel
theorem dD_set_124 : decode cD_set 124 = .ok (.if_icmp .ge 38, 3) := by decide +kernel
theorem dD_set_127 : decode cD_set 127 = .ok (.aload_n 0, 1) := by decide +kernel
theorem dD_set_128 : decode cD_set 128 = .ok (.getfield 20, 3) := by decide +kernel
theorem dD_set_131 : decode cD_set 131 = .ok (.iload 6, 2) := by decide +kernel
theorem dD_set_133 : decode cD_set 133 = .ok (.iload_n 3, 1) := by decide +kernel
theorem dD_set_134 : decode cD_set 134 = .ok (.ifCond .lt 9, 3) := by decide +kernel
theorem dD_set_137 : decode cD_set 137 = .ok (.iload 6, 2) := by decide +kernel
theorem dD_set_139 : decode cD_set 139 = .ok (.iload_n 3, 1) := by decide +kernel
theorem dD_set_140 : decode cD_set 140 = .ok (.if_icmp .ne 8, 3) := by decide +kernel
theorem dD_set_143 : decode cD_set 143 = .ok (.iload 4, 2) := by decide +kernel
theorem dD_set_145 : decode cD_set 145 = .ok (.goto 10, 3) := by decide +kernel
theorem dD_set_148 : decode cD_set 148 = .ok (.aload_n 0, 1) := by decide +kernel
theorem dD_set_149 : decode cD_set 149 = .ok (.getfield 20, 3) := by decide +kernel
theorem dD_set_152 : decode cD_set 152 = .ok (.iload 6, 2) := by decide +kernel
theorem dD_set_154 : decode cD_set 154 = .ok (.iaload, 1) := by decide +kernel
theorem dD_set_155 : decode cD_set 155 = .ok (.iastore, 1) := by decide +kernel
theorem dD_set_156 : decode cD_set 156 = .ok (.iinc 6 1, 3) := by decide +kernel
theorem dD_set_159 : decode cD_set 159 = .ok (.goto (-38), 3) := by decide +kernel
theorem dD_set_162 : decode cD_set 162 = .ok (.iload 5, 2) := by decide +kernel
theorem dD_set_164 : decode cD_set 164 = .ok (.ireturn, 1) := by decide +kernel
theorem dD_set_165 : decode cD_set 165 = .ok (.aload_n 0, 1) := by decide +kernel
theorem dD_set_166 : decode cD_set 166 = .ok (.aload_n 0, 1) := by decide +kernel
theorem dD_set_167 : decode cD_set 167 = .ok (.iconst 0, 1) := by decide +kernel
theorem dD_set_168 : decode cD_set 168 = .ok (.iload_n 1, 1) := by decide +kernel
theorem dD_set_169 : decode cD_set 169 = .ok (.iload_n 2, 1) := by decide +kernel
theorem dD_set_170 : decode cD_set 170 = .ok (.iload_n 3, 1) := by decide +kernel
theorem dD_set_171 : decode cD_set 171 = .ok (.invokevirtual 168, 3) := by decide +kernel
theorem dD_set_174 : decode cD_set 174 = .ok (.iload_n 1, 1) := by decide +kernel
theorem dD_set_175 : decode cD_set 175 = .ok (.invokevirtual 172, 3) := by decide +kernel
theorem dD_set_178 : decode cD_set 178 = .ok (.istore 5, 2) := by decide +kernel
theorem dD_set_180 : decode cD_set 180 = .ok (.aload_n 0, 1) := by decide +kernel
theorem dD_set_181 : decode cD_set 181 = .ok (.iload_n 1, 1) := by decide +kernel
theorem dD_set_182 : decode cD_set 182 = .ok (.iload_n 2, 1) := by decide +kernel
theorem dD_set_183 : decode cD_set 183 = .ok (.iload_n 3, 1) := by decide +kernel
theorem dD_set_184 : decode cD_set 184 = .ok (.invokevirtual 189, 3) := by decide +kernel
theorem dD_set_187 : decode cD_set 187 = .ok (.aload_n 0, 1) := by decide +kernel
theorem dD_set_188 : decode cD_set 188 = .ok (.iload_n 2, 1) := by decide +kernel
theorem dD_set_189 : decode cD_set 189 = .ok (.iload_n 3, 1) := by decide +kernel
theorem dD_set_190 : decode cD_set 190 = .ok (.invokestatic 121, 3) := by decide +kernel
theorem dD_set_193 : decode cD_set 193 = .ok (.iload_n 1, 1) := by decide +kernel
theorem dD_set_194 : decode cD_set 194 = .ok (.iload 4, 2) := by decide +kernel
theorem dD_set_196 : decode cD_set 196 = .ok (.invokevirtual 113, 3) := by decide +kernel
theorem dD_set_199 : decode cD_set 199 = .ok (.iload 5, 2) := by decide +kernel
theorem dD_set_201 : decode cD_set 201 = .ok (.ireturn, 1) := by decide +kernel
theorem dD_tilePart_0 : decode cD_tilePart 0 = .ok (.aload_n 0, 1) := by decide +kernel
theorem dD_tilePart_1 : decode cD_tilePart 1 = .ok (.iload_n 1, 1) := by decide +kernel
theorem dD_tilePart_2 : decode cD_tilePart 2 = .ok (.i2l, 1) := by decide +kernel
theorem dD_tilePart_3 : decode cD_tilePart 3 = .ok (.lconst 0, 1) := by decide +kernel
theorem dD_tilePart_4 : decode cD_tilePart 4 = .ok (.aload_n 0, 1) := by decide +kernel
theorem dD_tilePart_5 : decode cD_tilePart 5 = .ok (.iconst 0, 1) := by decide +kernel
theorem dD_tilePart_6 : decode cD_tilePart 6 = .ok (.invokevirtual 141, 3) := by decide +kernel
theorem dD_tilePart_9 : decode cD_tilePart 9 = .ok (.i2l, 1) := by decide +kernel
theorem dD_tilePart_10 : decode cD_tilePart 10 = .ok (.lconst 1, 1) := by decide +kernel
theorem dD_tilePart_11 : decode cD_tilePart 11 = .ok (.lsub, 1) := by decide +kernel
theorem dD_tilePart_12 : decode cD_tilePart 12 = .ok (.invokestatic 135, 3) := by decide +kernel
theorem dD_tilePart_15 : decode cD_tilePart 15 = .ok (.ifCond .ne 7, 3) := by decide +kernel
theorem dD_tilePart_18 : decode cD_tilePart 18 = .ok (.iconst 1, 1) := by decide +kernel
theorem dD_tilePart_19 : decode cD_tilePart 19 = .ok (.goto 17, 3) := by decide +kernel
theorem dD_tilePart_22 : decode cD_tilePart 22 = .ok (.aload_n 0, 1) := by decide +kernel
theorem dD_tilePart_23 : decode cD_tilePart 23 = .ok (.getfield 145, 3) := by decide +kernel
theorem dD_tilePart_26 : decode cD_tilePart 26 = .ok (.bipush 40, 2) := by decide +kernel
theorem dD_tilePart_28 : decode cD_tilePart 28 = .ok (.if_icmp .ne 7, 3) := by decide +kernel
theorem dD_tilePart_31 : decode cD_tilePart 31 = .ok (.iconst 2, 1) := by decide +kernel
theorem dD_tilePart_32 : decode cD_tilePart 32 = .ok (.goto 4, 3) := by decide +kernel
theorem dD_tilePart_35 : decode cD_tilePart 35 = .ok (.iconst 0, 1) := by decide +kernel
theorem dD_tilePart_36 : decode cD_tilePart 36 = .ok (.putfield 110, 3) := by decide +kernel
theorem dD_tilePart_39 : decode cD_tilePart 39 = .ok (.aload_n 0, 1) := by decide +kernel
theorem dD_tilePart_40 : decode cD_tilePart 40 = .ok (.getfield 110, 3) := by decide +kernel
theorem dD_tilePart_43 : decode cD_tilePart 43 = .ok (.ifCond .le 5, 3) := by decide +kernel
theorem dD_tilePart_46 : decode cD_tilePart 46 = .ok (.iconst 0, 1) := by decide +kernel
theorem dD_tilePart_47 : decode cD_tilePart 47 = .ok (.ireturn, 1) := by decide +kernel
theorem dD_tilePart_48 : decode cD_tilePart 48 = .ok (.aload_n 0, 1) := by decide +kernel
theorem dD_tilePart_49 : decode cD_tilePart 49 = .ok (.getfield 26, 3) := by decide +kernel
theorem dD_tilePart_52 : decode cD_tilePart 52 = .ok (.aload_n 0, 1) := by decide +kernel
theorem dD_tilePart_53 : decode cD_tilePart 53 = .ok (.getfield 145, 3) := by decide +kernel
theorem dD_tilePart_56 : decode cD_tilePart 56 = .ok (.iload_n 1, 1) := by decide +kernel
theorem dD_tilePart_57 : decode cD_tilePart 57 = .ok (.iastore, 1) := by decide +kernel
theorem dD_tilePart_58 : decode cD_tilePart 58 = .ok (.aload_n 0, 1) := by decide +kernel
theorem dD_tilePart_59 : decode cD_tilePart 59 = .ok (.getfield 29, 3) := by decide +kernel
theorem dD_tilePart_62 : decode cD_tilePart 62 = .ok (.aload_n 0, 1) := by decide +kernel
theorem dD_tilePart_63 : decode cD_tilePart 63 = .ok (.getfield 145, 3) := by decide +kernel
theorem dD_tilePart_66 : decode cD_tilePart 66 = .ok (.iconst 0, 1) := by decide +kernel
theorem dD_tilePart_67 : decode cD_tilePart 67 = .ok (.iastore, 1) := by decide +kernel
theorem dD_tilePart_68 : decode cD_tilePart 68 = .ok (.aload_n 0, 1) := by decide +kernel
theorem dD_tilePart_69 : decode cD_tilePart 69 = .ok (.getfield 35, 3) := by decide +kernel
theorem dD_tilePart_72 : decode cD_tilePart 72 = .ok (.aload_n 0, 1) := by decide +kernel
theorem dD_tilePart_73 : decode cD_tilePart 73 = .ok (.getfield 145, 3) := by decide +kernel
theorem dD_tilePart_76 : decode cD_tilePart 76 = .ok (.iconst 0, 1) := by decide +kernel
theorem dD_tilePart_77 : decode cD_tilePart 77 = .ok (.iastore, 1) := by decide +kernel
theorem dD_tilePart_78 : decode cD_tilePart 78 = .ok (.aload_n 0, 1) := by decide +kernel
theorem dD_tilePart_79 : decode cD_tilePart 79 = .ok (.dup, 1) := by decide +kernel
theorem dD_tilePart_80 : decode cD_tilePart 80 = .ok (.getfield 145, 3) := by decide +kernel
theorem dD_tilePart_83 : decode cD_tilePart 83 = .ok (.iconst 1, 1) := by decide +kernel
theorem dD_tilePart_84 : decode cD_tilePart 84 = .ok (.iadd, 1) := by decide +kernel
theorem dD_tilePart_85 : decode cD_tilePart 85 = .ok (.putfield 145, 3) := by decide +kernel
theorem dD_tilePart_88 : decode cD_tilePart 88 = .ok (.aload_n 0, 1) := by decide +kernel
theorem dD_tilePart_89 : decode cD_tilePart 89 = .ok (.getfield 145, 3) := by decide +kernel
theorem dD_tilePart_92 : decode cD_tilePart 92 = .ok (.iconst 1, 1) := by decide +kernel
theorem dD_tilePart_93 : decode cD_tilePart 93 = .ok (.isub, 1) := by decide +kernel
theorem dD_tilePart_94 : decode cD_tilePart 94 = .ok (.ireturn, 1) := by decide +kernel
theorem dD_isPart_0 : decode cD_isPart 0 = .ok (.iload_n 1, 1) := by decide +kernel
theorem dD_isPart_1 : decode cD_isPart 1 = .ok (.i2l, 1) := by decide +kernel
theorem dD_isPart_2 : decode cD_isPart 2 = .ok (.lconst 0, 1) := by decide +kernel
theorem dD_isPart_3 : decode cD_isPart 3 = .ok (.aload_n 0, 1) := by decide +kernel
theorem dD_isPart_4 : decode cD_isPart 4 = .ok (.getfield 145, 3) := by decide +kernel
theorem dD_isPart_7 : decode cD_isPart 7 = .ok (.i2l, 1) := by decide +kernel
theorem dD_isPart_8 : decode cD_isPart 8 = .ok (.lconst 1, 1) := by decide +kernel
theorem dD_isPart_9 : decode cD_isPart 9 = .ok (.lsub, 1) := by decide +kernel
theorem dD_isPart_10 : decode cD_isPart 10 = .ok (.invokestatic 135, 3) := by decide +kernel
theorem dD_isPart_13 : decode cD_isPart 13 = .ok (.ireturn, 1) := by decide +kernel
theorem dD_packet_0 : decode cD_packet 0 = .ok (.aload_n 0, 1) := by decide +kernel
theorem dD_packet_1 : decode cD_packet 1 = .ok (.aload_n 0, 1) := by decide +kernel
theorem dD_packet_2 : decode cD_packet 2 = .ok (.iload_n 1, 1) := by decide +kernel
theorem dD_packet_3 : decode cD_packet 3 = .ok (.invokevirtual 192, 3) := by decide +kernel
theorem dD_packet_6 : decode cD_packet 6 = .ok (.ifCond .ne 7, 3) := by decide +kernel
theorem dD_packet_9 : decode cD_packet 9 = .ok (.iconst 1, 1) := by decide +kernel
theorem dD_packet_10 : decode cD_packet 10 = .ok (.goto 19, 3) := by decide +kernel
theorem dD_packet_13 : decode cD_packet 13 = .ok (.aload_n 0, 1) := by decide +kernel
theorem dD_packet_14 : decode cD_packet 14 = .ok (.getfield 29, 3) := by decide +kernel
theorem dD_packet_17 : decode cD_packet 17 = .ok (.iload_n 1, 1) := by decide +kernel
theorem dD_packet_18 : decode cD_packet 18 = .ok (.iaload, 1) := by decide +kernel
theorem dD_packet_19 : decode cD_packet 19 = .ok (.bipush 20, 2) := by decide +kernel
theorem dD_packet_21 : decode cD_packet 21 = .ok (.if_icmp .ne 7, 3) := by decide +kernel
theorem dD_packet_24 : decode cD_packet 24 = .ok (.iconst 2, 1) := by decide +kernel
theorem dD_packet_25 : decode cD_packet 25 = .ok (.goto 4, 3) := by decide +kernel
theorem dD_packet_28 : decode cD_packet 28 = .ok (.iconst 0, 1) := by decide +kernel
theorem dD_packet_29 : decode cD_packet 29 = .ok (.putfield 110, 3) := by decide +kernel
theorem dD_packet_32 : decode cD_packet 32 = .ok (.aload_n 0, 1) := by decide +kernel
theorem dD_packet_33 : decode cD_packet 33 = .ok (.getfield 110, 3) := by decide +kernel
theorem dD_packet_36 : decode cD_packet 36 = .ok (.ifCond .le 5, 3) := by decide +kernel
theorem dD_packet_39 : decode cD_packet 39 = .ok (.iconst 0, 1) := by decide +kernel
theorem dD_packet_40 : decode cD_packet 40 = .ok (.ireturn, 1) := by decide +kernel
theorem dD_packet_41 : decode cD_packet 41 = .ok (.aload_n 0, 1) := by decide +kernel
theorem dD_packet_42 : decode cD_packet 42 = .ok (.getfield 32, 3) := by decide +kernel
theorem dD_packet_45 : decode cD_packet 45 = .ok (.bipush 20, 2) := by decide +kernel
theorem dD_packet_47 : decode cD_packet 47 = .ok (.iload_n 1, 1) := by decide +kernel
theorem dD_packet_48 : decode cD_packet 48 = .ok (.imul, 1) := by decide +kernel
theorem dD_packet_49 : decode cD_packet 49 = .ok (.aload_n 0, 1) := by decide +kernel
theorem dD_packet_50 : decode cD_packet 50 = .ok (.getfield 29, 3) := by decide +kernel
theorem dD_packet_53 : decode cD_packet 53 = .ok (.iload_n 1, 1) := by decide +kernel
theorem dD_packet_54 : decode cD_packet 54 = .ok (.iaload, 1) := by decide +kernel
theorem dD_packet_55 : decode cD_packet 55 = .ok (.iadd, 1) := by decide +kernel
theorem dD_packet_56 : decode cD_packet 56 = .ok (.iconst 0, 1) := by decide +kernel
theorem dD_packet_57 : decode cD_packet 57 = .ok (.iastore, 1) := by decide +kernel
theorem dD_packet_58 : decode cD_packet 58 = .ok (.aload_n 0, 1) := by decide +kernel
theorem dD_packet_59 : decode cD_packet 59 = .ok (.getfield 29, 3) := by decide +kernel
theorem dD_packet_62 : decode cD_packet 62 = .ok (.iload_n 1, 1) := by decide +kernel
theorem dD_packet_63 : decode cD_packet 63 = .ok (.dup2, 1) := by decide +kernel
theorem dD_packet_64 : decode cD_packet 64 = .ok (.iaload, 1) := by decide +kernel
theorem dD_packet_65 : decode cD_packet 65 = .ok (.iconst 1, 1) := by decide +kernel
theorem dD_packet_66 : decode cD_packet 66 = .ok (.iadd, 1) := by decide +kernel
theorem dD_packet_67 : decode cD_packet 67 = .ok (.iastore, 1) := by decide +kernel
theorem dD_packet_68 : decode cD_packet 68 = .ok (.aload_n 0, 1) := by decide +kernel
theorem dD_packet_69 : decode cD_packet 69 = .ok (.getfield 29, 3) := by decide +kernel
theorem dD_packet_72 : decode cD_packet 72 = .ok (.iload_n 1, 1) := by decide +kernel
theorem dD_packet_73 : decode cD_packet 73 = .ok (.iaload, 1) := by decide +kernel
theorem dD_packet_74 : decode cD_packet 74 = .ok (.ireturn, 1) := by decide +kernel
theorem dD_byteOf_0 : decode cD_byteOf 0 = .ok (.aload_n 0, 1) := by decide +kernel
theorem dD_byteOf_1 : decode cD_byteOf 1 = .ok (.aload_n 0, 1) := by decide +kernel
theorem dD_byteOf_2 : decode cD_byteOf 2 = .ok (.iload_n 1, 1) := by decide +kernel
theorem dD_byteOf_3 : decode cD_byteOf 3 = .ok (.invokevirtual 192, 3) := by decide +kernel
theorem dD_byteOf_6 : decode cD_byteOf 6 = .ok (.ifCond .ne 7, 3) := by decide +kernel
theorem dD_byteOf_9 : decode cD_byteOf 9 = .ok (.iconst 1, 1) := by decide +kernel
theorem dD_byteOf_10 : decode cD_byteOf 10 = .ok (.goto 49, 3) := by decide +kernel
theorem dD_byteOf_13 : decode cD_byteOf 13 = .ok (.aload_n 0, 1) := by decide +kernel
theorem dD_byteOf_14 : decode cD_byteOf 14 = .ok (.getfield 29, 3) := by decide +kernel
theorem dD_byteOf_17 : decode cD_byteOf 17 = .ok (.iload_n 1, 1) := by decide +kernel
theorem dD_byteOf_18 : decode cD_byteOf 18 = .ok (.iaload, 1) := by decide +kernel
theorem dD_byteOf_19 : decode cD_byteOf 19 = .ok (.ifCond .ne 7, 3) := by decide +kernel
theorem dD_byteOf_22 : decode cD_byteOf 22 = .ok (.iconst 2, 1) := by decide +kernel
theorem dD_byteOf_23 : decode cD_byteOf 23 = .ok (.goto 36, 3) := by decide +kernel
theorem dD_byteOf_26 : decode cD_byteOf 26 = .ok (.iload_n 2, 1) := by decide +kernel
theorem dD_byteOf_27 : decode cD_byteOf 27 = .ok (.i2l, 1) := by decide +kernel
theorem dD_byteOf_28 : decode cD_byteOf 28 = .ok (.lconst 0, 1) := by decide +kernel
theorem dD_byteOf_29 : decode cD_byteOf 29 = .ok (.ldc2_w 195, 3) := by decide +kernel
theorem dD_byteOf_32 : decode cD_byteOf 32 = .ok (.invokestatic 135, 3) := by decide +kernel
theorem dD_byteOf_35 : decode cD_byteOf 35 = .ok (.ifCond .ne 7, 3) := by decide +kernel
theorem dD_byteOf_38 : decode cD_byteOf 38 = .ok (.iconst 3, 1) := by decide +kernel
theorem dD_byteOf_39 : decode cD_byteOf 39 = .ok (.goto 20, 3) := by decide +kernel
theorem dD_byteOf_42 : decode cD_byteOf 42 = .ok (.aload_n 0, 1) := by decide +kernel
theorem dD_byteOf_43 : decode cD_byteOf 43 = .ok (.getfield 35, 3) := by decide +kernel
theorem dD_byteOf_46 : decode cD_byteOf 46 = .ok (.iload_n 1, 1) := by decide +kernel
theorem dD_byteOf_47 : decode cD_byteOf 47 = .ok (.iaload, 1) := by decide +kernel
theorem dD_byteOf_48 : decode cD_byteOf 48 = .ok (.sipush 300, 3) := by decide +kernel
theorem dD_byteOf_51 : decode cD_byteOf 51 = .ok (.if_icmp .ne 7, 3) := by decide +kernel
theorem dD_byteOf_54 : decode cD_byteOf 54 = .ok (.iconst 4, 1) := by decide +kernel
theorem dD_byteOf_55 : decode cD_byteOf 55 = .ok (.goto 4, 3) := by decide +kernel
theorem dD_byteOf_58 : decode cD_byteOf 58 = .ok (.iconst 0, 1) := by decide +kernel
theorem dD_byteOf_59 : decode cD_byteOf 59 = .ok (.putfield 110, 3) := by decide +kernel
theorem dD_byteOf_62 : decode cD_byteOf 62 = .ok (.aload_n 0, 1) := by decide +kernel
theorem dD_byteOf_63 : decode cD_byteOf 63 = .ok (.getfield 110, 3) := by decide +kernel
theorem dD_byteOf_66 : decode cD_byteOf 66 = .ok (.ifCond .le 5, 3) := by decide +kernel
theorem dD_byteOf_69 : decode cD_byteOf 69 = .ok (.iconst 0, 1) := by decide +kernel
theorem dD_byteOf_70 : decode cD_byteOf 70 = .ok (.ireturn, 1) := by decide +kernel
theorem dD_byteOf_71 : decode cD_byteOf 71 = .ok (.aload_n 0, 1) := by decide +kernel
theorem dD_byteOf_72 : decode cD_byteOf 72 = .ok (.getfield 38, 3) := by decide +kernel
theorem dD_byteOf_75 : decode cD_byteOf 75 = .ok (.sipush 300, 3) := by decide +kernel
theorem dD_byteOf_78 : decode cD_byteOf 78 = .ok (.iload_n 1, 1) := by decide +kernel
theorem dD_byteOf_79 : decode cD_byteOf 79 = .ok (.imul, 1) := by decide +kernel
theorem dD_byteOf_80 : decode cD_byteOf 80 = .ok (.aload_n 0, 1) := by decide +kernel
theorem dD_byteOf_81 : decode cD_byteOf 81 = .ok (.getfield 35, 3) := by decide +kernel
theorem dD_byteOf_84 : decode cD_byteOf 84 = .ok (.iload_n 1, 1) := by decide +kernel
theorem dD_byteOf_85 : decode cD_byteOf 85 = .ok (.iaload, 1) := by decide +kernel
theorem dD_byteOf_86 : decode cD_byteOf 86 = .ok (.iadd, 1) := by decide +kernel
theorem dD_byteOf_87 : decode cD_byteOf 87 = .ok (.iload_n 2, 1) := by decide +kernel
theorem dD_byteOf_88 : decode cD_byteOf 88 = .ok (.iastore, 1) := by decide +kernel
theorem dD_byteOf_89 : decode cD_byteOf 89 = .ok (.aload_n 0, 1) := by decide +kernel
theorem dD_byteOf_90 : decode cD_byteOf 90 = .ok (.getfield 35, 3) := by decide +kernel
theorem dD_byteOf_93 : decode cD_byteOf 93 = .ok (.iload_n 1, 1) := by decide +kernel
theorem dD_byteOf_94 : decode cD_byteOf 94 = .ok (.dup2, 1) := by decide +kernel
theorem dD_byteOf_95 : decode cD_byteOf 95 = .ok (.iaload, 1) := by decide +kernel
theorem dD_byteOf_96 : decode cD_byteOf 96 = .ok (.iconst 1, 1) := by decide +kernel
theorem dD_byteOf_97 : decode cD_byteOf 97 = .ok (.iadd, 1) := by decide +kernel
theorem dD_byteOf_98 : decode cD_byteOf 98 = .ok (.iastore, 1) := by decide +kernel
theorem dD_byteOf_99 : decode cD_byteOf 99 = .ok (.aload_n 0, 1) := by decide +kernel
theorem dD_byteOf_100 : decode cD_byteOf 100 = .ok (.getfield 32, 3) := by decide +kernel
theorem dD_byteOf_103 : decode cD_byteOf 103 = .ok (.bipush 20, 2) := by decide +kernel
theorem dD_byteOf_105 : decode cD_byteOf 105 = .ok (.iload_n 1, 1) := by decide +kernel
theorem dD_byteOf_106 : decode cD_byteOf 106 = .ok (.imul, 1) := by decide +kernel
theorem dD_byteOf_107 : decode cD_byteOf 107 = .ok (.aload_n 0, 1) := by decide +kernel
theorem dD_byteOf_108 : decode cD_byteOf 108 = .ok (.getfield 29, 3) := by decide +kernel
theorem dD_byteOf_111 : decode cD_byteOf 111 = .ok (.iload_n 1, 1) := by decide +kernel
theorem dD_byteOf_112 : decode cD_byteOf 112 = .ok (.iaload, 1) := by decide +kernel
theorem dD_byteOf_113 : decode cD_byteOf 113 = .ok (.iadd, 1) := by decide +kernel
theorem dD_byteOf_114 : decode cD_byteOf 114 = .ok (.iconst 1, 1) := by decide +kernel
theorem dD_byteOf_115 : decode cD_byteOf 115 = .ok (.isub, 1) := by decide +kernel
theorem dD_byteOf_116 : decode cD_byteOf 116 = .ok (.dup2, 1) := by decide +kernel
theorem dD_byteOf_117 : decode cD_byteOf 117 = .ok (.iaload, 1) := by decide +kernel
theorem dD_byteOf_118 : decode cD_byteOf 118 = .ok (.iconst 1, 1) := by decide +kernel
theorem dD_byteOf_119 : decode cD_byteOf 119 = .ok (.iadd, 1) := by decide +kernel
theorem dD_byteOf_120 : decode cD_byteOf 120 = .ok (.iastore, 1) := by decide +kernel
theorem dD_byteOf_121 : decode cD_byteOf 121 = .ok (.aload_n 0, 1) := by decide +kernel
theorem dD_byteOf_122 : decode cD_byteOf 122 = .ok (.getfield 35, 3) := by decide +kernel
theorem dD_byteOf_125 : decode cD_byteOf 125 = .ok (.iload_n 1, 1) := by decide +kernel
theorem dD_byteOf_126 : decode cD_byteOf 126 = .ok (.iaload, 1) := by decide +kernel
theorem dD_byteOf_127 : decode cD_byteOf 127 = .ok (.ireturn, 1) := by decide +kernel
theorem dD_isKind_0 : decode cD_isKind 0 = .ok (.iconst 1, 1) := by decide +kernel
theorem dD_isKind_1 : decode cD_isKind 1 = .ok (.istore_n 1, 1) := by decide +kernel
theorem dD_isKind_2 : decode cD_isKind 2 = .ok (.iconst 0, 1) := by decide +kernel
theorem dD_isKind_3 : decode cD_isKind 3 = .ok (.istore_n 2, 1) := by decide +kernel
theorem dD_isKind_4 : decode cD_isKind 4 = .ok (.iload_n 2, 1) := by decide +kernel
theorem dD_isKind_5 : decode cD_isKind 5 = .ok (.bipush 32, 2) := by decide +kernel
theorem dD_isKind_7 : decode cD_isKind 7 = .ok (.if_icmp .ge 39, 3) := by decide +kernel
theorem dD_isKind_10 : decode cD_isKind 10 = .ok (.iload_n 1, 1) := by decide +kernel
theorem dD_isKind_11 : decode cD_isKind 11 = .ok (.ifCond .eq 27, 3) := by decide +kernel
theorem dD_isKind_14 : decode cD_isKind 14 = .ok (.iload_n 0, 1) := by decide +kernel
theorem dD_isKind_15 : decode cD_isKind 15 = .ok (.iload_n 2, 1) := by decide +kernel
theorem dD_isKind_16 : decode cD_isKind 16 = .ok (.ishr, 1) := by decide +kernel
theorem dD_isKind_17 : decode cD_isKind 17 = .ok (.sipush 255, 3) := by decide +kernel
theorem dD_isKind_20 : decode cD_isKind 20 = .ok (.iand, 1) := by decide +kernel
theorem dD_isKind_21 : decode cD_isKind 21 = .ok (.i2l, 1) := by decide +kernel
theorem dD_isKind_22 : decode cD_isKind 22 = .ok (.ldc2_w 197, 3) := by decide +kernel
theorem dD_isKind_25 : decode cD_isKind 25 = .ok (.ldc2_w 199, 3) := by decide +kernel
theorem dD_isKind_28 : decode cD_isKind 28 = .ok (.invokestatic 135, 3) := by decide +kernel
theorem dD_isKind_31 : decode cD_isKind 31 = .ok (.ifCond .eq 7, 3) := by decide +kernel
theorem dD_isKind_34 : decode cD_isKind 34 = .ok (.iconst 1, 1) := by decide +kernel
theorem dD_isKind_35 : decode cD_isKind 35 = .ok (.goto 4, 3) := by decide +kernel
theorem dD_isKind_38 : decode cD_isKind 38 = .ok (.iconst 0, 1) := by decide +kernel
theorem dD_isKind_39 : decode cD_isKind 39 = .ok (.istore_n 1, 1) := by decide +kernel
theorem dD_isKind_40 : decode cD_isKind 40 = .ok (.iinc 2 8, 3) := by decide +kernel
theorem dD_isKind_43 : decode cD_isKind 43 = .ok (.goto (-39), 3) := by decide +kernel
theorem dD_isKind_46 : decode cD_isKind 46 = .ok (.iload_n 1, 1) := by decide +kernel
theorem dD_isKind_47 : decode cD_isKind 47 = .ok (.ifCond .eq 37, 3) := by decide +kernel
theorem dD_isKind_50 : decode cD_isKind 50 = .ok (.iload_n 0, 1) := by decide +kernel
theorem dD_isKind_51 : decode cD_isKind 51 = .ok (.ldc 201, 2) := by decide +kernel
theorem dD_isKind_53 : decode cD_isKind 53 = .ok (.if_icmp .eq 31, 3) := by decide +kernel
theorem dD_isKind_56 : decode cD_isKind 56 = .ok (.iload_n 0, 1) := by decide +kernel
theorem dD_isKind_57 : decode cD_isKind 57 = .ok (.ldc 202, 2) := by decide +kernel
theorem dD_isKind_59 : decode cD_isKind 59 = .ok (.if_icmp .eq 25, 3) := by decide +kernel
theorem dD_isKind_62 : decode cD_isKind 62 = .ok (.iload_n 0, 1) := by decide +kernel
theorem dD_isKind_63 : decode cD_isKind 63 = .ok (.ldc 203, 2) := by decide +kernel
theorem dD_isKind_65 : decode cD_isKind 65 = .ok (.if_icmp .eq 19, 3) := by decide +kernel
theorem dD_isKind_68 : decode cD_isKind 68 = .ok (.iload_n 0, 1) := by decide +kernel
theorem dD_isKind_69 : decode cD_isKind 69 = .ok (.ldc 204, 2) := by decide +kernel
theorem dD_isKind_71 : decode cD_isKind 71 = .ok (.if_icmp .eq 13, 3) := by decide +kernel
theorem dD_isKind_74 : decode cD_isKind 74 = .ok (.iload_n 0, 1) := by decide +kernel
theorem dD_isKind_75 : decode cD_isKind 75 = .ok (.ldc 205, 2) := by decide +kernel
theorem dD_isKind_77 : decode cD_isKind 77 = .ok (.if_icmp .eq 7, 3) := by decide +kernel
theorem dD_isKind_80 : decode cD_isKind 80 = .ok (.iconst 1, 1) := by decide +kernel
theorem dD_isKind_81 : decode cD_isKind 81 = .ok (.goto 4, 3) := by decide +kernel
theorem dD_isKind_84 : decode cD_isKind 84 = .ok (.iconst 0, 1) := by decide +kernel
theorem dD_isKind_85 : decode cD_isKind 85 = .ok (.ireturn, 1) := by decide +kernel
theorem dD_box_0 : decode cD_box 0 = .ok (.aload_n 0, 1) := by decide +kernel
theorem dD_box_1 : decode cD_box 1 = .ok (.iload_n 2, 1) := by decide +kernel
theorem dD_box_2 : decode cD_box 2 = .ok (.invokestatic 206, 3) := by decide +kernel
theorem dD_box_5 : decode cD_box 5 = .ok (.ifCond .ne 7, 3) := by decide +kernel
theorem dD_box_8 : decode cD_box 8 = .ok (.iconst 1, 1) := by decide +kernel
theorem dD_box_9 : decode cD_box 9 = .ok (.goto 17, 3) := by decide +kernel
theorem dD_box_12 : decode cD_box 12 = .ok (.aload_n 0, 1) := by decide +kernel
theorem dD_box_13 : decode cD_box 13 = .ok (.getfield 209, 3) := by decide +kernel
theorem dD_box_16 : decode cD_box 16 = .ok (.bipush 8, 2) := by decide +kernel
theorem dD_box_18 : decode cD_box 18 = .ok (.if_icmp .ne 7, 3) := by decide +kernel
theorem dD_box_21 : decode cD_box 21 = .ok (.iconst 2, 1) := by decide +kernel
theorem dD_box_22 : decode cD_box 22 = .ok (.goto 4, 3) := by decide +kernel
theorem dD_box_25 : decode cD_box 25 = .ok (.iconst 0, 1) := by decide +kernel
theorem dD_box_26 : decode cD_box 26 = .ok (.putfield 110, 3) := by decide +kernel
theorem dD_box_29 : decode cD_box 29 = .ok (.aload_n 0, 1) := by decide +kernel
theorem dD_box_30 : decode cD_box 30 = .ok (.getfield 110, 3) := by decide +kernel
theorem dD_box_33 : decode cD_box 33 = .ok (.ifCond .le 5, 3) := by decide +kernel
theorem dD_box_36 : decode cD_box 36 = .ok (.iconst 0, 1) := by decide +kernel
theorem dD_box_37 : decode cD_box 37 = .ok (.ireturn, 1) := by decide +kernel
theorem dD_box_38 : decode cD_box 38 = .ok (.aload_n 0, 1) := by decide +kernel
theorem dD_box_39 : decode cD_box 39 = .ok (.getfield 41, 3) := by decide +kernel
theorem dD_box_42 : decode cD_box 42 = .ok (.aload_n 0, 1) := by decide +kernel
theorem dD_box_43 : decode cD_box 43 = .ok (.getfield 209, 3) := by decide +kernel
theorem dD_box_46 : decode cD_box 46 = .ok (.iload_n 1, 1) := by decide +kernel
theorem dD_box_47 : decode cD_box 47 = .ok (.bastore, 1) := by decide +kernel
theorem dD_box_48 : decode cD_box 48 = .ok (.aload_n 0, 1) := by decide +kernel
theorem dD_box_49 : decode cD_box 49 = .ok (.getfield 44, 3) := by decide +kernel
theorem dD_box_52 : decode cD_box 52 = .ok (.aload_n 0, 1) := by decide +kernel
theorem dD_box_53 : decode cD_box 53 = .ok (.getfield 209, 3) := by decide +kernel
theorem dD_box_56 : decode cD_box 56 = .ok (.iload_n 2, 1) := by decide +kernel
theorem dD_box_57 : decode cD_box 57 = .ok (.iastore, 1) := by decide +kernel
theorem dD_box_58 : decode cD_box 58 = .ok (.aload_n 0, 1) := by decide +kernel
theorem dD_box_59 : decode cD_box 59 = .ok (.getfield 47, 3) := by decide +kernel
theorem dD_box_62 : decode cD_box 62 = .ok (.aload_n 0, 1) := by decide +kernel
theorem dD_box_63 : decode cD_box 63 = .ok (.getfield 209, 3) := by decide +kernel
theorem dD_box_66 : decode cD_box 66 = .ok (.iconst 0, 1) := by decide +kernel
theorem dD_box_67 : decode cD_box 67 = .ok (.iastore, 1) := by decide +kernel
theorem dD_box_68 : decode cD_box 68 = .ok (.aload_n 0, 1) := by decide +kernel
theorem dD_box_69 : decode cD_box 69 = .ok (.dup, 1) := by decide +kernel
theorem dD_box_70 : decode cD_box 70 = .ok (.getfield 209, 3) := by decide +kernel
theorem dD_box_73 : decode cD_box 73 = .ok (.iconst 1, 1) := by decide +kernel
theorem dD_box_74 : decode cD_box 74 = .ok (.iadd, 1) := by decide +kernel
theorem dD_box_75 : decode cD_box 75 = .ok (.putfield 209, 3) := by decide +kernel
theorem dD_box_78 : decode cD_box 78 = .ok (.aload_n 0, 1) := by decide +kernel
theorem dD_box_79 : decode cD_box 79 = .ok (.getfield 209, 3) := by decide +kernel
theorem dD_box_82 : decode cD_box 82 = .ok (.iconst 1, 1) := by decide +kernel
theorem dD_box_83 : decode cD_box 83 = .ok (.isub, 1) := by decide +kernel
theorem dD_box_84 : decode cD_box 84 = .ok (.ireturn, 1) := by decide +kernel
theorem dD_boxByte_0 : decode cD_boxByte 0 = .ok (.aload_n 0, 1) := by decide +kernel
theorem dD_boxByte_1 : decode cD_boxByte 1 = .ok (.iload_n 1, 1) := by decide +kernel
theorem dD_boxByte_2 : decode cD_boxByte 2 = .ok (.i2l, 1) := by decide +kernel
theorem dD_boxByte_3 : decode cD_boxByte 3 = .ok (.lconst 0, 1) := by decide +kernel
theorem dD_boxByte_4 : decode cD_boxByte 4 = .ok (.aload_n 0, 1) := by decide +kernel
theorem dD_boxByte_5 : decode cD_boxByte 5 = .ok (.getfield 209, 3) := by decide +kernel
theorem dD_boxByte_8 : decode cD_boxByte 8 = .ok (.i2l, 1) := by decide +kernel
theorem dD_boxByte_9 : decode cD_boxByte 9 = .ok (.lconst 1, 1) := by decide +kernel
theorem dD_boxByte_10 : decode cD_boxByte 10 = .ok (.lsub, 1) := by decide +kernel
theorem dD_boxByte_11 : decode cD_boxByte 11 = .ok (.invokestatic 135, 3) := by decide +kernel
theorem dD_boxByte_14 : decode cD_boxByte 14 = .ok (.ifCond .ne 7, 3) := by decide +kernel
theorem dD_boxByte_17 : decode cD_boxByte 17 = .ok (.iconst 1, 1) := by decide +kernel
theorem dD_boxByte_18 : decode cD_boxByte 18 = .ok (.goto 35, 3) := by decide +kernel
theorem dD_boxByte_21 : decode cD_boxByte 21 = .ok (.iload_n 2, 1) := by decide +kernel
theorem dD_boxByte_22 : decode cD_boxByte 22 = .ok (.i2l, 1) := by decide +kernel
theorem dD_boxByte_23 : decode cD_boxByte 23 = .ok (.lconst 0, 1) := by decide +kernel
theorem dD_boxByte_24 : decode cD_boxByte 24 = .ok (.ldc2_w 195, 3) := by decide +kernel
theorem dD_boxByte_27 : decode cD_boxByte 27 = .ok (.invokestatic 135, 3) := by decide +kernel
theorem dD_boxByte_30 : decode cD_boxByte 30 = .ok (.ifCond .ne 7, 3) := by decide +kernel
theorem dD_boxByte_33 : decode cD_boxByte 33 = .ok (.iconst 2, 1) := by decide +kernel
theorem dD_boxByte_34 : decode cD_boxByte 34 = .ok (.goto 19, 3) := by decide +kernel
theorem dD_boxByte_37 : decode cD_boxByte 37 = .ok (.aload_n 0, 1) := by decide +kernel
theorem dD_boxByte_38 : decode cD_boxByte 38 = .ok (.getfield 47, 3) := by decide +kernel
theorem dD_boxByte_41 : decode cD_boxByte 41 = .ok (.iload_n 1, 1) := by decide +kernel
theorem dD_boxByte_42 : decode cD_boxByte 42 = .ok (.iaload, 1) := by decide +kernel
theorem dD_boxByte_43 : decode cD_boxByte 43 = .ok (.bipush 40, 2) := by decide +kernel
theorem dD_boxByte_45 : decode cD_boxByte 45 = .ok (.if_icmp .ne 7, 3) := by decide +kernel
theorem dD_boxByte_48 : decode cD_boxByte 48 = .ok (.iconst 3, 1) := by decide +kernel
theorem dD_boxByte_49 : decode cD_boxByte 49 = .ok (.goto 4, 3) := by decide +kernel
theorem dD_boxByte_52 : decode cD_boxByte 52 = .ok (.iconst 0, 1) := by decide +kernel
theorem dD_boxByte_53 : decode cD_boxByte 53 = .ok (.putfield 110, 3) := by decide +kernel
theorem dD_boxByte_56 : decode cD_boxByte 56 = .ok (.aload_n 0, 1) := by decide +kernel
theorem dD_boxByte_57 : decode cD_boxByte 57 = .ok (.getfield 110, 3) := by decide +kernel
theorem dD_boxByte_60 : decode cD_boxByte 60 = .ok (.ifCond .le 5, 3) := by decide +kernel
theorem dD_boxByte_63 : decode cD_boxByte 63 = .ok (.iconst 0, 1) := by decide +kernel
theorem dD_boxByte_64 : decode cD_boxByte 64 = .ok (.ireturn, 1) := by decide +kernel
theorem dD_boxByte_65 : decode cD_boxByte 65 = .ok (.aload_n 0, 1) := by decide +kernel
theorem dD_boxByte_66 : decode cD_boxByte 66 = .ok (.getfield 50, 3) := by decide +kernel
theorem dD_boxByte_69 : decode cD_boxByte 69 = .ok (.bipush 40, 2) := by decide +kernel
theorem dD_boxByte_71 : decode cD_boxByte 71 = .ok (.iload_n 1, 1) := by decide +kernel
theorem dD_boxByte_72 : decode cD_boxByte 72 = .ok (.imul, 1) := by decide +kernel
theorem dD_boxByte_73 : decode cD_boxByte 73 = .ok (.aload_n 0, 1) := by decide +kernel
theorem dD_boxByte_74 : decode cD_boxByte 74 = .ok (.getfield 47, 3) := by decide +kernel
theorem dD_boxByte_77 : decode cD_boxByte 77 = .ok (.iload_n 1, 1) := by decide +kernel
theorem dD_boxByte_78 : decode cD_boxByte 78 = .ok (.iaload, 1) := by decide +kernel
theorem dD_boxByte_79 : decode cD_boxByte 79 = .ok (.iadd, 1) := by decide +kernel
theorem dD_boxByte_80 : decode cD_boxByte 80 = .ok (.iload_n 2, 1) := by decide +kernel
theorem dD_boxByte_81 : decode cD_boxByte 81 = .ok (.iastore, 1) := by decide +kernel
theorem dD_boxByte_82 : decode cD_boxByte 82 = .ok (.aload_n 0, 1) := by decide +kernel
theorem dD_boxByte_83 : decode cD_boxByte 83 = .ok (.getfield 47, 3) := by decide +kernel
theorem dD_boxByte_86 : decode cD_boxByte 86 = .ok (.iload_n 1, 1) := by decide +kernel
theorem dD_boxByte_87 : decode cD_boxByte 87 = .ok (.dup2, 1) := by decide +kernel
theorem dD_boxByte_88 : decode cD_boxByte 88 = .ok (.iaload, 1) := by decide +kernel
theorem dD_boxByte_89 : decode cD_boxByte 89 = .ok (.iconst 1, 1) := by decide +kernel
theorem dD_boxByte_90 : decode cD_boxByte 90 = .ok (.iadd, 1) := by decide +kernel
theorem dD_boxByte_91 : decode cD_boxByte 91 = .ok (.iastore, 1) := by decide +kernel
theorem dD_boxByte_92 : decode cD_boxByte 92 = .ok (.aload_n 0, 1) := by decide +kernel
theorem dD_boxByte_93 : decode cD_boxByte 93 = .ok (.getfield 47, 3) := by decide +kernel
theorem dD_boxByte_96 : decode cD_boxByte 96 = .ok (.iload_n 1, 1) := by decide +kernel
theorem dD_boxByte_97 : decode cD_boxByte 97 = .ok (.iaload, 1) := by decide +kernel
theorem dD_boxByte_98 : decode cD_boxByte 98 = .ok (.ireturn, 1) := by decide +kernel
theorem dD_lay_0 : decode cD_lay 0 = .ok (.aload_n 0, 1) := by decide +kernel
theorem dD_lay_1 : decode cD_lay 1 = .ok (.getfield 54, 3) := by decide +kernel
theorem dD_lay_4 : decode cD_lay 4 = .ok (.aload_n 0, 1) := by decide +kernel
theorem dD_lay_5 : decode cD_lay 5 = .ok (.getfield 212, 3) := by decide +kernel
theorem dD_lay_8 : decode cD_lay 8 = .ok (.iload_n 1, 1) := by decide +kernel
theorem dD_lay_9 : decode cD_lay 9 = .ok (.sipush 255, 3) := by decide +kernel
theorem dD_lay_12 : decode cD_lay 12 = .ok (.iand, 1) := by decide +kernel
theorem dD_lay_13 : decode cD_lay 13 = .ok (.iastore, 1) := by decide +kernel
theorem dD_lay_14 : decode cD_lay 14 = .ok (.aload_n 0, 1) := by decide +kernel
theorem dD_lay_15 : decode cD_lay 15 = .ok (.dup, 1) := by decide +kernel
theorem dD_lay_16 : decode cD_lay 16 = .ok (.getfield 212, 3) := by decide +kernel
theorem dD_lay_19 : decode cD_lay 19 = .ok (.iconst 1, 1) := by decide +kernel
theorem dD_lay_20 : decode cD_lay 20 = .ok (.iadd, 1) := by decide +kernel
theorem dD_lay_21 : decode cD_lay 21 = .ok (.putfield 212, 3) := by decide +kernel
theorem dD_lay_24 : decode cD_lay 24 = .ok (.return_, 1) := by decide +kernel
theorem dD_layTwo_0 : decode cD_layTwo 0 = .ok (.aload_n 0, 1) := by decide +kernel
theorem dD_layTwo_1 : decode cD_layTwo 1 = .ok (.iload_n 1, 1) := by decide +kernel
theorem dD_layTwo_2 : decode cD_layTwo 2 = .ok (.bipush 8, 2) := by decide +kernel
theorem dD_layTwo_4 : decode cD_layTwo 4 = .ok (.ishr, 1) := by decide +kernel
theorem dD_layTwo_5 : decode cD_layTwo 5 = .ok (.invokevirtual 215, 3) := by decide +kernel
theorem dD_layTwo_8 : decode cD_layTwo 8 = .ok (.aload_n 0, 1) := by decide +kernel
theorem dD_layTwo_9 : decode cD_layTwo 9 = .ok (.iload_n 1, 1) := by decide +kernel
theorem dD_layTwo_10 : decode cD_layTwo 10 = .ok (.invokevirtual 215, 3) := by decide +kernel
theorem dD_layTwo_13 : decode cD_layTwo 13 = .ok (.return_, 1) := by decide +kernel
theorem dD_layFour_0 : decode cD_layFour 0 = .ok (.aload_n 0, 1) := by decide +kernel
theorem dD_layFour_1 : decode cD_layFour 1 = .ok (.iload_n 1, 1) := by decide +kernel
theorem dD_layFour_2 : decode cD_layFour 2 = .ok (.bipush 16, 2) := by decide +kernel
theorem dD_layFour_4 : decode cD_layFour 4 = .ok (.iushr, 1) := by decide +kernel
theorem dD_layFour_5 : decode cD_layFour 5 = .ok (.invokevirtual 219, 3) := by decide +kernel
theorem dD_layFour_8 : decode cD_layFour 8 = .ok (.aload_n 0, 1) := by decide +kernel
theorem dD_layFour_9 : decode cD_layFour 9 = .ok (.iload_n 1, 1) := by decide +kernel
theorem dD_layFour_10 : decode cD_layFour 10 = .ok (.ldc 222, 2) := by decide +kernel
theorem dD_layFour_12 : decode cD_layFour 12 = .ok (.iand, 1) := by decide +kernel
theorem dD_layFour_13 : decode cD_layFour 13 = .ok (.invokevirtual 219, 3) := by decide +kernel
theorem dD_layFour_16 : decode cD_layFour 16 = .ok (.return_, 1) := by decide +kernel
theorem dD_layMark_0 : decode cD_layMark 0 = .ok (.aload_n 0, 1) := by decide +kernel
theorem dD_layMark_1 : decode cD_layMark 1 = .ok (.sipush 255, 3) := by decide +kernel
theorem dD_layMark_4 : decode cD_layMark 4 = .ok (.invokevirtual 215, 3) := by decide +kernel
theorem dD_layMark_7 : decode cD_layMark 7 = .ok (.aload_n 0, 1) := by decide +kernel
theorem dD_layMark_8 : decode cD_layMark 8 = .ok (.iload_n 1, 1) := by decide +kernel
theorem dD_layMark_9 : decode cD_layMark 9 = .ok (.invokevirtual 215, 3) := by decide +kernel
theorem dD_layMark_12 : decode cD_layMark 12 = .ok (.aload_n 0, 1) := by decide +kernel
theorem dD_layMark_13 : decode cD_layMark 13 = .ok (.iload_n 2, 1) := by decide +kernel
theorem dD_layMark_14 : decode cD_layMark 14 = .ok (.invokevirtual 219, 3) := by decide +kernel
theorem dD_layMark_17 : decode cD_layMark 17 = .ok (.return_, 1) := by decide +kernel
theorem dD_layStyle_0 : decode cD_layStyle 0 = .ok (.aload_n 0, 1) := by decide +kernel
theorem dD_layStyle_1 : decode cD_layStyle 1 = .ok (.aload_n 0, 1) := by decide +kernel
theorem dD_layStyle_2 : decode cD_layStyle 2 = .ok (.iload_n 1, 1) := by decide +kernel
theorem dD_layStyle_3 : decode cD_layStyle 3 = .ok (.bipush 6, 2) := by decide +kernel
theorem dD_layStyle_5 : decode cD_layStyle 5 = .ok (.invokevirtual 172, 3) := by decide +kernel
theorem dD_layStyle_8 : decode cD_layStyle 8 = .ok (.invokevirtual 215, 3) := by decide +kernel
theorem dD_layStyle_11 : decode cD_layStyle 11 = .ok (.aload_n 0, 1) := by decide +kernel
theorem dD_layStyle_12 : decode cD_layStyle 12 = .ok (.aload_n 0, 1) := by decide +kernel
theorem dD_layStyle_13 : decode cD_layStyle 13 = .ok (.iload_n 1, 1) := by decide +kernel
theorem dD_layStyle_14 : decode cD_layStyle 14 = .ok (.bipush 7, 2) := by decide +kernel
theorem dD_layStyle_16 : decode cD_layStyle 16 = .ok (.invokevirtual 172, 3) := by decide +kernel
theorem dD_layStyle_19 : decode cD_layStyle 19 = .ok (.iconst 2, 1) := by decide +kernel
theorem dD_layStyle_20 : decode cD_layStyle 20 = .ok (.isub, 1) := by decide +kernel
theorem dD_layStyle_21 : decode cD_layStyle 21 = .ok (.invokevirtual 215, 3) := by decide +kernel
theorem dD_layStyle_24 : decode cD_layStyle 24 = .ok (.aload_n 0, 1) := by decide +kernel
theorem dD_layStyle_25 : decode cD_layStyle 25 = .ok (.aload_n 0, 1) := by decide +kernel
theorem dD_layStyle_26 : decode cD_layStyle 26 = .ok (.iload_n 1, 1) := by decide +kernel
theorem dD_layStyle_27 : decode cD_layStyle 27 = .ok (.bipush 7, 2) := by decide +kernel
theorem dD_layStyle_29 : decode cD_layStyle 29 = .ok (.invokevirtual 172, 3) := by decide +kernel
theorem dD_layStyle_32 : decode cD_layStyle 32 = .ok (.iconst 2, 1) := by decide +kernel
theorem dD_layStyle_33 : decode cD_layStyle 33 = .ok (.isub, 1) := by decide +kernel
theorem dD_layStyle_34 : decode cD_layStyle 34 = .ok (.invokevirtual 215, 3) := by decide +kernel
theorem dD_layStyle_37 : decode cD_layStyle 37 = .ok (.aload_n 0, 1) := by decide +kernel
theorem dD_layStyle_38 : decode cD_layStyle 38 = .ok (.iconst 0, 1) := by decide +kernel
theorem dD_layStyle_39 : decode cD_layStyle 39 = .ok (.invokevirtual 215, 3) := by decide +kernel
theorem dD_layStyle_42 : decode cD_layStyle 42 = .ok (.aload_n 0, 1) := by decide +kernel
theorem dD_layStyle_43 : decode cD_layStyle 43 = .ok (.aload_n 0, 1) := by decide +kernel
theorem dD_layStyle_44 : decode cD_layStyle 44 = .ok (.iload_n 1, 1) := by decide +kernel
theorem dD_layStyle_45 : decode cD_layStyle 45 = .ok (.bipush 8, 2) := by decide +kernel
theorem dD_layStyle_47 : decode cD_layStyle 47 = .ok (.invokevirtual 172, 3) := by decide +kernel
theorem dD_layStyle_50 : decode cD_layStyle 50 = .ok (.invokevirtual 215, 3) := by decide +kernel
theorem dD_layStyle_53 : decode cD_layStyle 53 = .ok (.return_, 1) := by decide +kernel
theorem dD_layStep_0 : decode cD_layStep 0 = .ok (.aload_n 0, 1) := by decide +kernel
theorem dD_layStep_1 : decode cD_layStep 1 = .ok (.bipush 32, 2) := by decide +kernel
theorem dD_layStep_3 : decode cD_layStep 3 = .ok (.aload_n 0, 1) := by decide +kernel
theorem dD_layStep_4 : decode cD_layStep 4 = .ok (.iload_n 1, 1) := by decide +kernel
theorem dD_layStep_5 : decode cD_layStep 5 = .ok (.bipush 10, 2) := by decide +kernel
theorem dD_layStep_7 : decode cD_layStep 7 = .ok (.invokevirtual 172, 3) := by decide +kernel
theorem dD_layStep_10 : decode cD_layStep 10 = .ok (.imul, 1) := by decide +kernel
theorem dD_layStep_11 : decode cD_layStep 11 = .ok (.iconst 1, 1) := by decide +kernel
theorem dD_layStep_12 : decode cD_layStep 12 = .ok (.iadd, 1) := by decide +kernel
theorem dD_layStep_13 : decode cD_layStep 13 = .ok (.invokevirtual 215, 3) := by decide +kernel
theorem dD_layStep_16 : decode cD_layStep 16 = .ok (.aload_n 0, 1) := by decide +kernel
theorem dD_layStep_17 : decode cD_layStep 17 = .ok (.sipush 2048, 3) := by decide +kernel
theorem dD_layStep_20 : decode cD_layStep 20 = .ok (.aload_n 0, 1) := by decide +kernel
theorem dD_layStep_21 : decode cD_layStep 21 = .ok (.iload_n 1, 1) := by decide +kernel
theorem dD_layStep_22 : decode cD_layStep 22 = .ok (.bipush 9, 2) := by decide +kernel
theorem dD_layStep_24 : decode cD_layStep 24 = .ok (.invokevirtual 172, 3) := by decide +kernel
theorem dD_layStep_27 : decode cD_layStep 27 = .ok (.imul, 1) := by decide +kernel
theorem dD_layStep_28 : decode cD_layStep 28 = .ok (.invokevirtual 219, 3) := by decide +kernel
theorem dD_layStep_31 : decode cD_layStep 31 = .ok (.return_, 1) := by decide +kernel
theorem dD_laySegments_0 : decode cD_laySegments 0 = .ok (.iconst (-1), 1) := by decide +kernel
theorem dD_laySegments_1 : decode cD_laySegments 1 = .ok (.istore_n 2, 1) := by decide +kernel
theorem dD_laySegments_2 : decode cD_laySegments 2 = .ok (.iload_n 2, 1) := by decide +kernel
theorem dD_laySegments_3 : decode cD_laySegments 3 = .ok (.aload_n 0, 1) := by decide +kernel
theorem dD_laySegments_4 : decode cD_laySegments 4 = .ok (.getfield 23, 3) := by decide +kernel
theorem dD_laySegments_7 : decode cD_laySegments 7 = .ok (.iconst 2, 1) := by decide +kernel
theorem dD_laySegments_8 : decode cD_laySegments 8 = .ok (.iaload, 1) := by decide +kernel
theorem dD_laySegments_9 : decode cD_laySegments 9 = .ok (.if_icmp .ge 105, 3) := by decide +kernel
theorem dD_laySegments_12 : decode cD_laySegments 12 = .ok (.iload_n 1, 1) := by decide +kernel
theorem dD_laySegments_13 : decode cD_laySegments 13 = .ok (.iload_n 2, 1) := by decide +kernel
theorem dD_laySegments_14 : decode cD_laySegments 14 = .ok (.invokestatic 121, 3) := by decide +kernel
theorem dD_laySegments_17 : decode cD_laySegments 17 = .ok (.istore_n 3, 1) := by decide +kernel
theorem dD_laySegments_18 : decode cD_laySegments 18 = .ok (.aload_n 0, 1) := by decide +kernel
theorem dD_laySegments_19 : decode cD_laySegments 19 = .ok (.getfield 13, 3) := by decide +kernel
theorem dD_laySegments_22 : decode cD_laySegments 22 = .ok (.iload_n 3, 1) := by decide +kernel
theorem dD_laySegments_23 : decode cD_laySegments 23 = .ok (.baload, 1) := by decide +kernel
theorem dD_laySegments_24 : decode cD_laySegments 24 = .ok (.ifCond .ne 6, 3) := by decide +kernel
theorem dD_laySegments_27 : decode cD_laySegments 27 = .ok (.goto 81, 3) := by decide +kernel
theorem dD_laySegments_30 : decode cD_laySegments 30 = .ok (.aload_n 0, 1) := by decide +kernel
theorem dD_laySegments_31 : decode cD_laySegments 31 = .ok (.iload_n 2, 1) := by decide +kernel
theorem dD_laySegments_32 : decode cD_laySegments 32 = .ok (.ifCond .ge 8, 3) := by decide +kernel
theorem dD_laySegments_35 : decode cD_laySegments 35 = .ok (.bipush 82, 2) := by decide +kernel
theorem dD_laySegments_37 : decode cD_laySegments 37 = .ok (.goto 5, 3) := by decide +kernel
theorem dD_laySegments_40 : decode cD_laySegments 40 = .ok (.bipush 83, 2) := by decide +kernel
theorem dD_laySegments_42 : decode cD_laySegments 42 = .ok (.iload_n 2, 1) := by decide +kernel
theorem dD_laySegments_43 : decode cD_laySegments 43 = .ok (.ifCond .ge 8, 3) := by decide +kernel
theorem dD_laySegments_46 : decode cD_laySegments 46 = .ok (.bipush 12, 2) := by decide +kernel
theorem dD_laySegments_48 : decode cD_laySegments 48 = .ok (.goto 5, 3) := by decide +kernel
theorem dD_laySegments_51 : decode cD_laySegments 51 = .ok (.bipush 9, 2) := by decide +kernel
theorem dD_laySegments_53 : decode cD_laySegments 53 = .ok (.invokevirtual 223, 3) := by decide +kernel
theorem dD_laySegments_56 : decode cD_laySegments 56 = .ok (.iload_n 2, 1) := by decide +kernel
theorem dD_laySegments_57 : decode cD_laySegments 57 = .ok (.ifCond .ge 36, 3) := by decide +kernel
theorem dD_laySegments_60 : decode cD_laySegments 60 = .ok (.aload_n 0, 1) := by decide +kernel
theorem dD_laySegments_61 : decode cD_laySegments 61 = .ok (.iconst 0, 1) := by decide +kernel
theorem dD_laySegments_62 : decode cD_laySegments 62 = .ok (.invokevirtual 215, 3) := by decide +kernel
theorem dD_laySegments_65 : decode cD_laySegments 65 = .ok (.aload_n 0, 1) := by decide +kernel
theorem dD_laySegments_66 : decode cD_laySegments 66 = .ok (.aload_n 0, 1) := by decide +kernel
theorem dD_laySegments_67 : decode cD_laySegments 67 = .ok (.iload_n 3, 1) := by decide +kernel
theorem dD_laySegments_68 : decode cD_laySegments 68 = .ok (.iconst 4, 1) := by decide +kernel
theorem dD_laySegments_69 : decode cD_laySegments 69 = .ok (.invokevirtual 172, 3) := by decide +kernel
theorem dD_laySegments_72 : decode cD_laySegments 72 = .ok (.invokevirtual 215, 3) := by decide +kernel
theorem dD_laySegments_75 : decode cD_laySegments 75 = .ok (.aload_n 0, 1) := by decide +kernel
theorem dD_laySegments_76 : decode cD_laySegments 76 = .ok (.aload_n 0, 1) := by decide +kernel
theorem dD_laySegments_77 : decode cD_laySegments 77 = .ok (.iload_n 3, 1) := by decide +kernel
theorem dD_laySegments_78 : decode cD_laySegments 78 = .ok (.iconst 5, 1) := by decide +kernel
theorem dD_laySegments_79 : decode cD_laySegments 79 = .ok (.invokevirtual 172, 3) := by decide +kernel
theorem dD_laySegments_82 : decode cD_laySegments 82 = .ok (.invokevirtual 219, 3) := by decide +kernel
theorem dD_laySegments_85 : decode cD_laySegments 85 = .ok (.aload_n 0, 1) := by decide +kernel
theorem dD_laySegments_86 : decode cD_laySegments 86 = .ok (.iconst 0, 1) := by decide +kernel
theorem dD_laySegments_87 : decode cD_laySegments 87 = .ok (.invokevirtual 215, 3) := by decide +kernel
theorem dD_laySegments_90 : decode cD_laySegments 90 = .ok (.goto 13, 3) := by decide +kernel
theorem dD_laySegments_93 : decode cD_laySegments 93 = .ok (.aload_n 0, 1) := by decide +kernel
theorem dD_laySegments_94 : decode cD_laySegments 94 = .ok (.iload_n 2, 1) := by decide +kernel
theorem dD_laySegments_95 : decode cD_laySegments 95 = .ok (.invokevirtual 215, 3) := by decide +kernel
theorem dD_laySegments_98 : decode cD_laySegments 98 = .ok (.aload_n 0, 1) := by decide +kernel
theorem dD_laySegments_99 : decode cD_laySegments 99 = .ok (.iconst 0, 1) := by decide +kernel
theorem dD_laySegments_100 : decode cD_laySegments 100 = .ok (.invokevirtual 215, 3) := by decide +kernel
theorem dD_laySegments_103 : decode cD_laySegments 103 = .ok (.aload_n 0, 1) := by decide +kernel
theorem dD_laySegments_104 : decode cD_laySegments 104 = .ok (.iload_n 3, 1) := by decide +kernel
theorem dD_laySegments_105 : decode cD_laySegments 105 = .ok (.invokevirtual 227, 3) := by decide +kernel
theorem dD_laySegments_108 : decode cD_laySegments 108 = .ok (.iinc 2 1, 3) := by decide +kernel
theorem dD_laySegments_111 : decode cD_laySegments 111 = .ok (.goto (-109), 3) := by decide +kernel
theorem dD_laySegments_114 : decode cD_laySegments 114 = .ok (.iconst (-1), 1) := by decide +kernel
theorem dD_laySegments_115 : decode cD_laySegments 115 = .ok (.istore_n 2, 1) := by decide +kernel
theorem dD_laySegments_116 : decode cD_laySegments 116 = .ok (.iload_n 2, 1) := by decide +kernel
theorem dD_laySegments_117 : decode cD_laySegments 117 = .ok (.aload_n 0, 1) := by decide +kernel
theorem dD_laySegments_118 : decode cD_laySegments 118 = .ok (.getfield 23, 3) := by decide +kernel
theorem dD_laySegments_121 : decode cD_laySegments 121 = .ok (.iconst 2, 1) := by decide +kernel
theorem dD_laySegments_122 : decode cD_laySegments 122 = .ok (.iaload, 1) := by decide +kernel
theorem dD_laySegments_123 : decode cD_laySegments 123 = .ok (.if_icmp .ge 63, 3) := by decide +kernel
theorem dD_laySegments_126 : decode cD_laySegments 126 = .ok (.iload_n 1, 1) := by decide +kernel
theorem dD_laySegments_127 : decode cD_laySegments 127 = .ok (.iload_n 2, 1) := by decide +kernel
theorem dD_laySegments_128 : decode cD_laySegments 128 = .ok (.invokestatic 121, 3) := by decide +kernel
theorem dD_laySegments_131 : decode cD_laySegments 131 = .ok (.istore_n 3, 1) := by decide +kernel
theorem dD_laySegments_132 : decode cD_laySegments 132 = .ok (.aload_n 0, 1) := by decide +kernel
theorem dD_laySegments_133 : decode cD_laySegments 133 = .ok (.getfield 17, 3) := by decide +kernel
theorem dD_laySegments_136 : decode cD_laySegments 136 = .ok (.iload_n 3, 1) := by decide +kernel
theorem dD_laySegments_137 : decode cD_laySegments 137 = .ok (.baload, 1) := by decide +kernel
theorem dD_laySegments_138 : decode cD_laySegments 138 = .ok (.ifCond .eq 42, 3) := by decide +kernel
theorem dD_laySegments_141 : decode cD_laySegments 141 = .ok (.aload_n 0, 1) := by decide +kernel
theorem dD_laySegments_142 : decode cD_laySegments 142 = .ok (.iload_n 2, 1) := by decide +kernel
theorem dD_laySegments_143 : decode cD_laySegments 143 = .ok (.ifCond .ge 8, 3) := by decide +kernel
theorem dD_laySegments_146 : decode cD_laySegments 146 = .ok (.bipush 92, 2) := by decide +kernel
theorem dD_laySegments_148 : decode cD_laySegments 148 = .ok (.goto 5, 3) := by decide +kernel
theorem dD_laySegments_151 : decode cD_laySegments 151 = .ok (.bipush 93, 2) := by decide +kernel
theorem dD_laySegments_153 : decode cD_laySegments 153 = .ok (.iload_n 2, 1) := by decide +kernel
theorem dD_laySegments_154 : decode cD_laySegments 154 = .ok (.ifCond .ge 7, 3) := by decide +kernel
theorem dD_laySegments_157 : decode cD_laySegments 157 = .ok (.iconst 5, 1) := by decide +kernel
theorem dD_laySegments_158 : decode cD_laySegments 158 = .ok (.goto 5, 3) := by decide +kernel
theorem dD_laySegments_161 : decode cD_laySegments 161 = .ok (.bipush 6, 2) := by decide +kernel
theorem dD_laySegments_163 : decode cD_laySegments 163 = .ok (.invokevirtual 223, 3) := by decide +kernel
theorem dD_laySegments_166 : decode cD_laySegments 166 = .ok (.iload_n 2, 1) := by decide +kernel
theorem dD_laySegments_167 : decode cD_laySegments 167 = .ok (.ifCond .lt 8, 3) := by decide +kernel
theorem dD_laySegments_170 : decode cD_laySegments 170 = .ok (.aload_n 0, 1) := by decide +kernel
theorem dD_laySegments_171 : decode cD_laySegments 171 = .ok (.iload_n 2, 1) := by decide +kernel
theorem dD_laySegments_172 : decode cD_laySegments 172 = .ok (.invokevirtual 215, 3) := by decide +kernel
theorem dD_laySegments_175 : decode cD_laySegments 175 = .ok (.aload_n 0, 1) := by decide +kernel
theorem dD_laySegments_176 : decode cD_laySegments 176 = .ok (.iload_n 3, 1) := by decide +kernel
theorem dD_laySegments_177 : decode cD_laySegments 177 = .ok (.invokevirtual 230, 3) := by decide +kernel
theorem dD_laySegments_180 : decode cD_laySegments 180 = .ok (.iinc 2 1, 3) := by decide +kernel
theorem dD_laySegments_183 : decode cD_laySegments 183 = .ok (.goto (-67), 3) := by decide +kernel
theorem dD_laySegments_186 : decode cD_laySegments 186 = .ok (.return_, 1) := by decide +kernel
theorem dD_layLengths_0 : decode cD_layLengths 0 = .ok (.aload_n 0, 1) := by decide +kernel
theorem dD_layLengths_1 : decode cD_layLengths 1 = .ok (.getfield 212, 3) := by decide +kernel
theorem dD_layLengths_4 : decode cD_layLengths 4 = .ok (.istore_n 2, 1) := by decide +kernel
theorem dD_layLengths_5 : decode cD_layLengths 5 = .ok (.aload_n 0, 1) := by decide +kernel
theorem dD_layLengths_6 : decode cD_layLengths 6 = .ok (.bipush 88, 2) := by decide +kernel
theorem dD_layLengths_8 : decode cD_layLengths 8 = .ok (.iconst 0, 1) := by decide +kernel
theorem dD_layLengths_9 : decode cD_layLengths 9 = .ok (.invokevirtual 223, 3) := by decide +kernel
theorem dD_layLengths_12 : decode cD_layLengths 12 = .ok (.aload_n 0, 1) := by decide +kernel
theorem dD_layLengths_13 : decode cD_layLengths 13 = .ok (.iconst 0, 1) := by decide +kernel
theorem dD_layLengths_14 : decode cD_layLengths 14 = .ok (.invokevirtual 215, 3) := by decide +kernel
theorem dD_layLengths_17 : decode cD_layLengths 17 = .ok (.iconst 0, 1) := by decide +kernel
theorem dD_layLengths_18 : decode cD_layLengths 18 = .ok (.istore_n 3, 1) := by decide +kernel
theorem dD_layLengths_19 : decode cD_layLengths 19 = .ok (.iload_n 3, 1) := by decide +kernel
theorem dD_layLengths_20 : decode cD_layLengths 20 = .ok (.aload_n 0, 1) := by decide +kernel
theorem dD_layLengths_21 : decode cD_layLengths 21 = .ok (.getfield 29, 3) := by decide +kernel
theorem dD_layLengths_24 : decode cD_layLengths 24 = .ok (.iload_n 1, 1) := by decide +kernel
theorem dD_layLengths_25 : decode cD_layLengths 25 = .ok (.iaload, 1) := by decide +kernel
theorem dD_layLengths_26 : decode cD_layLengths 26 = .ok (.if_icmp .ge 75, 3) := by decide +kernel
theorem dD_layLengths_29 : decode cD_layLengths 29 = .ok (.aload_n 0, 1) := by decide +kernel
theorem dD_layLengths_30 : decode cD_layLengths 30 = .ok (.getfield 32, 3) := by decide +kernel
theorem dD_layLengths_33 : decode cD_layLengths 33 = .ok (.bipush 20, 2) := by decide +kernel
theorem dD_layLengths_35 : decode cD_layLengths 35 = .ok (.iload_n 1, 1) := by decide +kernel
theorem dD_layLengths_36 : decode cD_layLengths 36 = .ok (.imul, 1) := by decide +kernel
theorem dD_layLengths_37 : decode cD_layLengths 37 = .ok (.iload_n 3, 1) := by decide +kernel
theorem dD_layLengths_38 : decode cD_layLengths 38 = .ok (.iadd, 1) := by decide +kernel
theorem dD_layLengths_39 : decode cD_layLengths 39 = .ok (.iaload, 1) := by decide +kernel
theorem dD_layLengths_40 : decode cD_layLengths 40 = .ok (.istore 4, 2) := by decide +kernel
theorem dD_layLengths_42 : decode cD_layLengths 42 = .ok (.bipush 28, 2) := by decide +kernel
theorem dD_layLengths_44 : decode cD_layLengths 44 = .ok (.istore 5, 2) := by decide +kernel
theorem dD_layLengths_46 : decode cD_layLengths 46 = .ok (.iload 5, 2) := by decide +kernel
theorem dD_layLengths_48 : decode cD_layLengths 48 = .ok (.ifCond .lt 47, 3) := by decide +kernel
theorem dD_layLengths_51 : decode cD_layLengths 51 = .ok (.iload 4, 2) := by decide +kernel
theorem dD_layLengths_53 : decode cD_layLengths 53 = .ok (.iload 5, 2) := by decide +kernel
theorem dD_layLengths_55 : decode cD_layLengths 55 = .ok (.ishr, 1) := by decide +kernel
theorem dD_layLengths_56 : decode cD_layLengths 56 = .ok (.ifCond .gt 8, 3) := by decide +kernel
theorem dD_layLengths_59 : decode cD_layLengths 59 = .ok (.iload 5, 2) := by decide +kernel
theorem dD_layLengths_61 : decode cD_layLengths 61 = .ok (.ifCond .ne 28, 3) := by decide +kernel
theorem dD_layLengths_64 : decode cD_layLengths 64 = .ok (.aload_n 0, 1) := by decide +kernel
theorem dD_layLengths_65 : decode cD_layLengths 65 = .ok (.iload 4, 2) := by decide +kernel
theorem dD_layLengths_67 : decode cD_layLengths 67 = .ok (.iload 5, 2) := by decide +kernel
theorem dD_layLengths_69 : decode cD_layLengths 69 = .ok (.ishr, 1) := by decide +kernel
theorem dD_layLengths_70 : decode cD_layLengths 70 = .ok (.bipush 127, 2) := by decide +kernel
theorem dD_layLengths_72 : decode cD_layLengths 72 = .ok (.iand, 1) := by decide +kernel
theorem dD_layLengths_73 : decode cD_layLengths 73 = .ok (.iload 5, 2) := by decide +kernel
theorem dD_layLengths_75 : decode cD_layLengths 75 = .ok (.ifCond .le 9, 3) := by decide +kernel
theorem dD_layLengths_78 : decode cD_layLengths 78 = .ok (.sipush 128, 3) := by decide +kernel
theorem dD_layLengths_81 : decode cD_layLengths 81 = .ok (.goto 4, 3) := by decide +kernel
theorem dD_layLengths_84 : decode cD_layLengths 84 = .ok (.iconst 0, 1) := by decide +kernel
theorem dD_layLengths_85 : decode cD_layLengths 85 = .ok (.ior, 1) := by decide +kernel
theorem dD_layLengths_86 : decode cD_layLengths 86 = .ok (.invokevirtual 215, 3) := by decide +kernel
theorem dD_layLengths_89 : decode cD_layLengths 89 = .ok (.iinc 5 (-7), 3) := by decide +kernel
theorem dD_layLengths_92 : decode cD_layLengths 92 = .ok (.goto (-46), 3) := by decide +kernel
theorem dD_layLengths_95 : decode cD_layLengths 95 = .ok (.iinc 3 1, 3) := by decide +kernel
theorem dD_layLengths_98 : decode cD_layLengths 98 = .ok (.goto (-79), 3) := by decide +kernel
theorem dD_layLengths_101 : decode cD_layLengths 101 = .ok (.aload_n 0, 1) := by decide +kernel
theorem dD_layLengths_102 : decode cD_layLengths 102 = .ok (.getfield 212, 3) := by decide +kernel
theorem dD_layLengths_105 : decode cD_layLengths 105 = .ok (.iload_n 2, 1) := by decide +kernel
theorem dD_layLengths_106 : decode cD_layLengths 106 = .ok (.isub, 1) := by decide +kernel
theorem dD_layLengths_107 : decode cD_layLengths 107 = .ok (.iconst 2, 1) := by decide +kernel
theorem dD_layLengths_108 : decode cD_layLengths 108 = .ok (.isub, 1) := by decide +kernel
theorem dD_layLengths_109 : decode cD_layLengths 109 = .ok (.istore_n 3, 1) := by decide +kernel
theorem dD_layLengths_110 : decode cD_layLengths 110 = .ok (.aload_n 0, 1) := by decide +kernel
theorem dD_layLengths_111 : decode cD_layLengths 111 = .ok (.getfield 54, 3) := by decide +kernel
theorem dD_layLengths_114 : decode cD_layLengths 114 = .ok (.iload_n 2, 1) := by decide +kernel
theorem dD_layLengths_115 : decode cD_layLengths 115 = .ok (.iconst 2, 1) := by decide +kernel
theorem dD_layLengths_116 : decode cD_layLengths 116 = .ok (.iadd, 1) := by decide +kernel
theorem dD_layLengths_117 : decode cD_layLengths 117 = .ok (.iload_n 3, 1) := by decide +kernel
theorem dD_layLengths_118 : decode cD_layLengths 118 = .ok (.bipush 8, 2) := by decide +kernel
theorem dD_layLengths_120 : decode cD_layLengths 120 = .ok (.ishr, 1) := by decide +kernel
theorem dD_layLengths_121 : decode cD_layLengths 121 = .ok (.iastore, 1) := by decide +kernel
theorem dD_layLengths_122 : decode cD_layLengths 122 = .ok (.aload_n 0, 1) := by decide +kernel
theorem dD_layLengths_123 : decode cD_layLengths 123 = .ok (.getfield 54, 3) := by decide +kernel
theorem dD_layLengths_126 : decode cD_layLengths 126 = .ok (.iload_n 2, 1) := by decide +kernel
theorem dD_layLengths_127 : decode cD_layLengths 127 = .ok (.iconst 3, 1) := by decide +kernel
theorem dD_layLengths_128 : decode cD_layLengths 128 = .ok (.iadd, 1) := by decide +kernel
theorem dD_layLengths_129 : decode cD_layLengths 129 = .ok (.iload_n 3, 1) := by decide +kernel
theorem dD_layLengths_130 : decode cD_layLengths 130 = .ok (.sipush 255, 3) := by decide +kernel
theorem dD_layLengths_133 : decode cD_layLengths 133 = .ok (.iand, 1) := by decide +kernel
theorem dD_layLengths_134 : decode cD_layLengths 134 = .ok (.iastore, 1) := by decide +kernel
theorem dD_layLengths_135 : decode cD_layLengths 135 = .ok (.return_, 1) := by decide +kernel
theorem dD_layPart_0 : decode cD_layPart 0 = .ok (.aload_n 0, 1) := by decide +kernel
theorem dD_layPart_1 : decode cD_layPart 1 = .ok (.getfield 212, 3) := by decide +kernel
theorem dD_layPart_4 : decode cD_layPart 4 = .ok (.istore_n 3, 1) := by decide +kernel
theorem dD_layPart_5 : decode cD_layPart 5 = .ok (.aload_n 0, 1) := by decide +kernel
theorem dD_layPart_6 : decode cD_layPart 6 = .ok (.sipush 144, 3) := by decide +kernel
theorem dD_layPart_9 : decode cD_layPart 9 = .ok (.bipush 10, 2) := by decide +kernel
theorem dD_layPart_11 : decode cD_layPart 11 = .ok (.invokevirtual 223, 3) := by decide +kernel
theorem dD_layPart_14 : decode cD_layPart 14 = .ok (.aload_n 0, 1) := by decide +kernel
theorem dD_layPart_15 : decode cD_layPart 15 = .ok (.aload_n 0, 1) := by decide +kernel
theorem dD_layPart_16 : decode cD_layPart 16 = .ok (.getfield 26, 3) := by decide +kernel
theorem dD_layPart_19 : decode cD_layPart 19 = .ok (.iload_n 1, 1) := by decide +kernel
theorem dD_layPart_20 : decode cD_layPart 20 = .ok (.iaload, 1) := by decide +kernel
theorem dD_layPart_21 : decode cD_layPart 21 = .ok (.invokevirtual 219, 3) := by decide +kernel
theorem dD_layPart_24 : decode cD_layPart 24 = .ok (.aload_n 0, 1) := by decide +kernel
theorem dD_layPart_25 : decode cD_layPart 25 = .ok (.iconst 0, 1) := by decide +kernel
theorem dD_layPart_26 : decode cD_layPart 26 = .ok (.invokevirtual 233, 3) := by decide +kernel
theorem dD_layPart_29 : decode cD_layPart 29 = .ok (.aload_n 0, 1) := by decide +kernel
theorem dD_layPart_30 : decode cD_layPart 30 = .ok (.iload_n 2, 1) := by decide +kernel
theorem dD_layPart_31 : decode cD_layPart 31 = .ok (.invokevirtual 215, 3) := by decide +kernel
theorem dD_layPart_34 : decode cD_layPart 34 = .ok (.aload_n 0, 1) := by decide +kernel
theorem dD_layPart_35 : decode cD_layPart 35 = .ok (.iconst 0, 1) := by decide +kernel
theorem dD_layPart_36 : decode cD_layPart 36 = .ok (.invokevirtual 215, 3) := by decide +kernel
theorem dD_layPart_39 : decode cD_layPart 39 = .ok (.iload_n 2, 1) := by decide +kernel
theorem dD_layPart_40 : decode cD_layPart 40 = .ok (.ifCond .ne 13, 3) := by decide +kernel
theorem dD_layPart_43 : decode cD_layPart 43 = .ok (.aload_n 0, 1) := by decide +kernel
theorem dD_layPart_44 : decode cD_layPart 44 = .ok (.aload_n 0, 1) := by decide +kernel
theorem dD_layPart_45 : decode cD_layPart 45 = .ok (.getfield 26, 3) := by decide +kernel
theorem dD_layPart_48 : decode cD_layPart 48 = .ok (.iload_n 1, 1) := by decide +kernel
theorem dD_layPart_49 : decode cD_layPart 49 = .ok (.iaload, 1) := by decide +kernel
theorem dD_layPart_50 : decode cD_layPart 50 = .ok (.invokevirtual 236, 3) := by decide +kernel
theorem dD_layPart_53 : decode cD_layPart 53 = .ok (.aload_n 0, 1) := by decide +kernel
theorem dD_layPart_54 : decode cD_layPart 54 = .ok (.getfield 29, 3) := by decide +kernel
theorem dD_layPart_57 : decode cD_layPart 57 = .ok (.iload_n 1, 1) := by decide +kernel
theorem dD_layPart_58 : decode cD_layPart 58 = .ok (.iaload, 1) := by decide +kernel
theorem dD_layPart_59 : decode cD_layPart 59 = .ok (.ifCond .le 8, 3) := by decide +kernel
theorem dD_layPart_62 : decode cD_layPart 62 = .ok (.aload_n 0, 1) := by decide +kernel
theorem dD_layPart_63 : decode cD_layPart 63 = .ok (.iload_n 1, 1) := by decide +kernel
theorem dD_layPart_64 : decode cD_layPart 64 = .ok (.invokevirtual 239, 3) := by decide +kernel
theorem dD_layPart_67 : decode cD_layPart 67 = .ok (.aload_n 0, 1) := by decide +kernel
theorem dD_layPart_68 : decode cD_layPart 68 = .ok (.sipush 255, 3) := by decide +kernel
theorem dD_layPart_71 : decode cD_layPart 71 = .ok (.invokevirtual 215, 3) := by decide +kernel
theorem dD_layPart_74 : decode cD_layPart 74 = .ok (.aload_n 0, 1) := by decide +kernel
theorem dD_layPart_75 : decode cD_layPart 75 = .ok (.sipush 147, 3) := by decide +kernel
theorem dD_layPart_78 : decode cD_layPart 78 = .ok (.invokevirtual 215, 3) := by decide +kernel
theorem dD_layPart_81 : decode cD_layPart 81 = .ok (.iconst 0, 1) := by decide +kernel
theorem dD_layPart_82 : decode cD_layPart 82 = .ok (.istore 4, 2) := by decide +kernel
theorem dD_layPart_84 : decode cD_layPart 84 = .ok (.iload 4, 2) := by decide +kernel
theorem dD_layPart_86 : decode cD_layPart 86 = .ok (.aload_n 0, 1) := by decide +kernel
theorem dD_layPart_87 : decode cD_layPart 87 = .ok (.getfield 35, 3) := by decide +kernel
theorem dD_layPart_90 : decode cD_layPart 90 = .ok (.iload_n 1, 1) := by decide +kernel
theorem dD_layPart_91 : decode cD_layPart 91 = .ok (.iaload, 1) := by decide +kernel
theorem dD_layPart_92 : decode cD_layPart 92 = .ok (.if_icmp .ge 26, 3) := by decide +kernel
theorem dD_layPart_95 : decode cD_layPart 95 = .ok (.aload_n 0, 1) := by decide +kernel
theorem dD_layPart_96 : decode cD_layPart 96 = .ok (.aload_n 0, 1) := by decide +kernel
theorem dD_layPart_97 : decode cD_layPart 97 = .ok (.getfield 38, 3) := by decide +kernel
theorem dD_layPart_100 : decode cD_layPart 100 = .ok (.sipush 300, 3) := by decide +kernel
theorem dD_layPart_103 : decode cD_layPart 103 = .ok (.iload_n 1, 1) := by decide +kernel
theorem dD_layPart_104 : decode cD_layPart 104 = .ok (.imul, 1) := by decide +kernel
theorem dD_layPart_105 : decode cD_layPart 105 = .ok (.iload 4, 2) := by decide +kernel
theorem dD_layPart_107 : decode cD_layPart 107 = .ok (.iadd, 1) := by decide +kernel
theorem dD_layPart_108 : decode cD_layPart 108 = .ok (.iaload, 1) := by decide +kernel
theorem dD_layPart_109 : decode cD_layPart 109 = .ok (.invokevirtual 215, 3) := by decide +kernel
theorem dD_layPart_112 : decode cD_layPart 112 = .ok (.iinc 4 1, 3) := by decide +kernel
theorem dD_layPart_115 : decode cD_layPart 115 = .ok (.goto (-31), 3) := by decide +kernel
theorem dD_layPart_118 : decode cD_layPart 118 = .ok (.aload_n 0, 1) := by decide +kernel
theorem dD_layPart_119 : decode cD_layPart 119 = .ok (.getfield 212, 3) := by decide +kernel
theorem dD_layPart_122 : decode cD_layPart 122 = .ok (.iload_n 3, 1) := by decide +kernel
theorem dD_layPart_123 : decode cD_layPart 123 = .ok (.isub, 1) := by decide +kernel
theorem dD_layPart_124 : decode cD_layPart 124 = .ok (.istore 4, 2) := by decide +kernel
theorem dD_layPart_126 : decode cD_layPart 126 = .ok (.iconst 0, 1) := by decide +kernel
theorem dD_layPart_127 : decode cD_layPart 127 = .ok (.istore 5, 2) := by decide +kernel
theorem dD_layPart_129 : decode cD_layPart 129 = .ok (.iload 5, 2) := by decide +kernel
theorem dD_layPart_131 : decode cD_layPart 131 = .ok (.iconst 4, 1) := by decide +kernel
theorem dD_layPart_132 : decode cD_layPart 132 = .ok (.if_icmp .ge 36, 3) := by decide +kernel
theorem dD_layPart_135 : decode cD_layPart 135 = .ok (.aload_n 0, 1) := by decide +kernel
theorem dD_layPart_136 : decode cD_layPart 136 = .ok (.getfield 54, 3) := by decide +kernel
theorem dD_layPart_139 : decode cD_layPart 139 = .ok (.iload_n 3, 1) := by decide +kernel
theorem dD_layPart_140 : decode cD_layPart 140 = .ok (.bipush 6, 2) := by decide +kernel
theorem dD_layPart_142 : decode cD_layPart 142 = .ok (.iadd, 1) := by decide +kernel
theorem dD_layPart_143 : decode cD_layPart 143 = .ok (.iload 5, 2) := by decide +kernel
theorem dD_layPart_145 : decode cD_layPart 145 = .ok (.iadd, 1) := by decide +kernel
theorem dD_layPart_146 : decode cD_layPart 146 = .ok (.iload 4, 2) := by decide +kernel
theorem dD_layPart_148 : decode cD_layPart 148 = .ok (.bipush 24, 2) := by decide +kernel
theorem dD_layPart_150 : decode cD_layPart 150 = .ok (.bipush 8, 2) := by decide +kernel
theorem dD_layPart_152 : decode cD_layPart 152 = .ok (.iload 5, 2) := by decide +kernel
theorem dD_layPart_154 : decode cD_layPart 154 = .ok (.imul, 1) := by decide +kernel
theorem dD_layPart_155 : decode cD_layPart 155 = .ok (.isub, 1) := by decide +kernel
theorem dD_layPart_156 : decode cD_layPart 156 = .ok (.ishr, 1) := by decide +kernel
theorem dD_layPart_157 : decode cD_layPart 157 = .ok (.sipush 255, 3) := by decide +kernel
theorem dD_layPart_160 : decode cD_layPart 160 = .ok (.iand, 1) := by decide +kernel
theorem dD_layPart_161 : decode cD_layPart 161 = .ok (.iastore, 1) := by decide +kernel
theorem dD_layPart_162 : decode cD_layPart 162 = .ok (.iinc 5 1, 3) := by decide +kernel
theorem dD_layPart_165 : decode cD_layPart 165 = .ok (.goto (-36), 3) := by decide +kernel
theorem dD_layPart_168 : decode cD_layPart 168 = .ok (.return_, 1) := by decide +kernel
theorem dD_layStream_0 : decode cD_layStream 0 = .ok (.aload_n 0, 1) := by decide +kernel
theorem dD_layStream_1 : decode cD_layStream 1 = .ok (.sipush 255, 3) := by decide +kernel
theorem dD_layStream_4 : decode cD_layStream 4 = .ok (.invokevirtual 215, 3) := by decide +kernel
theorem dD_layStream_7 : decode cD_layStream 7 = .ok (.aload_n 0, 1) := by decide +kernel
theorem dD_layStream_8 : decode cD_layStream 8 = .ok (.bipush 79, 2) := by decide +kernel
theorem dD_layStream_10 : decode cD_layStream 10 = .ok (.invokevirtual 215, 3) := by decide +kernel
theorem dD_layStream_13 : decode cD_layStream 13 = .ok (.aload_n 0, 1) := by decide +kernel
theorem dD_layStream_14 : decode cD_layStream 14 = .ok (.bipush 81, 2) := by decide +kernel
theorem dD_layStream_16 : decode cD_layStream 16 = .ok (.bipush 38, 2) := by decide +kernel
theorem dD_layStream_18 : decode cD_layStream 18 = .ok (.iconst 3, 1) := by decide +kernel
theorem dD_layStream_19 : decode cD_layStream 19 = .ok (.aload_n 0, 1) := by decide +kernel
theorem dD_layStream_20 : decode cD_layStream 20 = .ok (.getfield 23, 3) := by decide +kernel
theorem dD_layStream_23 : decode cD_layStream 23 = .ok (.iconst 2, 1) := by decide +kernel
theorem dD_layStream_24 : decode cD_layStream 24 = .ok (.iaload, 1) := by decide +kernel
theorem dD_layStream_25 : decode cD_layStream 25 = .ok (.imul, 1) := by decide +kernel
theorem dD_layStream_26 : decode cD_layStream 26 = .ok (.iadd, 1) := by decide +kernel
theorem dD_layStream_27 : decode cD_layStream 27 = .ok (.invokevirtual 223, 3) := by decide +kernel
theorem dD_layStream_30 : decode cD_layStream 30 = .ok (.aload_n 0, 1) := by decide +kernel
theorem dD_layStream_31 : decode cD_layStream 31 = .ok (.iconst 0, 1) := by decide +kernel
theorem dD_layStream_32 : decode cD_layStream 32 = .ok (.invokevirtual 219, 3) := by decide +kernel
theorem dD_layStream_35 : decode cD_layStream 35 = .ok (.aload_n 0, 1) := by decide +kernel
theorem dD_layStream_36 : decode cD_layStream 36 = .ok (.aload_n 0, 1) := by decide +kernel
theorem dD_layStream_37 : decode cD_layStream 37 = .ok (.getfield 23, 3) := by decide +kernel
theorem dD_layStream_40 : decode cD_layStream 40 = .ok (.iconst 0, 1) := by decide +kernel
theorem dD_layStream_41 : decode cD_layStream 41 = .ok (.iaload, 1) := by decide +kernel
theorem dD_layStream_42 : decode cD_layStream 42 = .ok (.invokevirtual 233, 3) := by decide +kernel
theorem dD_layStream_45 : decode cD_layStream 45 = .ok (.aload_n 0, 1) := by decide +kernel
theorem dD_layStream_46 : decode cD_layStream 46 = .ok (.aload_n 0, 1) := by decide +kernel
theorem dD_layStream_47 : decode cD_layStream 47 = .ok (.getfield 23, 3) := by decide +kernel
theorem dD_layStream_50 : decode cD_layStream 50 = .ok (.iconst 1, 1) := by decide +kernel
theorem dD_layStream_51 : decode cD_layStream 51 = .ok (.iaload, 1) := by decide +kernel
theorem dD_layStream_52 : decode cD_layStream 52 = .ok (.invokevirtual 233, 3) := by decide +kernel
theorem dD_layStream_55 : decode cD_layStream 55 = .ok (.aload_n 0, 1) := by decide +kernel
theorem dD_layStream_56 : decode cD_layStream 56 = .ok (.iconst 0, 1) := by decide +kernel
theorem dD_layStream_57 : decode cD_layStream 57 = .ok (.invokevirtual 233, 3) := by decide +kernel
theorem dD_layStream_60 : decode cD_layStream 60 = .ok (.aload_n 0, 1) := by decide +kernel
theorem dD_layStream_61 : decode cD_layStream 61 = .ok (.iconst 0, 1) := by decide +kernel
theorem dD_layStream_62 : decode cD_layStream 62 = .ok (.invokevirtual 233, 3) := by decide +kernel
theorem dD_layStream_65 : decode cD_layStream 65 = .ok (.aload_n 0, 1) := by decide +kernel
theorem dD_layStream_66 : decode cD_layStream 66 = .ok (.aload_n 0, 1) := by decide +kernel
theorem dD_layStream_67 : decode cD_layStream 67 = .ok (.getfield 23, 3) := by decide +kernel
theorem dD_layStream_70 : decode cD_layStream 70 = .ok (.iconst 3, 1) := by decide +kernel
theorem dD_layStream_71 : decode cD_layStream 71 = .ok (.iaload, 1) := by decide +kernel
theorem dD_layStream_72 : decode cD_layStream 72 = .ok (.invokevirtual 233, 3) := by decide +kernel
theorem dD_layStream_75 : decode cD_layStream 75 = .ok (.aload_n 0, 1) := by decide +kernel
theorem dD_layStream_76 : decode cD_layStream 76 = .ok (.aload_n 0, 1) := by decide +kernel
theorem dD_layStream_77 : decode cD_layStream 77 = .ok (.getfield 23, 3) := by decide +kernel
theorem dD_layStream_80 : decode cD_layStream 80 = .ok (.iconst 4, 1) := by decide +kernel
theorem dD_layStream_81 : decode cD_layStream 81 = .ok (.iaload, 1) := by decide +kernel
theorem dD_layStream_82 : decode cD_layStream 82 = .ok (.invokevirtual 233, 3) := by decide +kernel
theorem dD_layStream_85 : decode cD_layStream 85 = .ok (.aload_n 0, 1) := by decide +kernel
theorem dD_layStream_86 : decode cD_layStream 86 = .ok (.iconst 0, 1) := by decide +kernel
theorem dD_layStream_87 : decode cD_layStream 87 = .ok (.invokevirtual 233, 3) := by decide +kernel
theorem dD_layStream_90 : decode cD_layStream 90 = .ok (.aload_n 0, 1) := by decide +kernel
theorem dD_layStream_91 : decode cD_layStream 91 = .ok (.iconst 0, 1) := by decide +kernel
theorem dD_layStream_92 : decode cD_layStream 92 = .ok (.invokevirtual 233, 3) := by decide +kernel
theorem dD_layStream_95 : decode cD_layStream 95 = .ok (.aload_n 0, 1) := by decide +kernel
theorem dD_layStream_96 : decode cD_layStream 96 = .ok (.aload_n 0, 1) := by decide +kernel
theorem dD_layStream_97 : decode cD_layStream 97 = .ok (.getfield 23, 3) := by decide +kernel
theorem dD_layStream_100 : decode cD_layStream 100 = .ok (.iconst 2, 1) := by decide +kernel
theorem dD_layStream_101 : decode cD_layStream 101 = .ok (.iaload, 1) := by decide +kernel
theorem dD_layStream_102 : decode cD_layStream 102 = .ok (.invokevirtual 219, 3) := by decide +kernel
theorem dD_layStream_105 : decode cD_layStream 105 = .ok (.iconst 0, 1) := by decide +kernel
theorem dD_layStream_106 : decode cD_layStream 106 = .ok (.istore_n 1, 1) := by decide +kernel
theorem dD_layStream_107 : decode cD_layStream 107 = .ok (.iload_n 1, 1) := by decide +kernel
theorem dD_layStream_108 : decode cD_layStream 108 = .ok (.aload_n 0, 1) := by decide +kernel
theorem dD_layStream_109 : decode cD_layStream 109 = .ok (.getfield 23, 3) := by decide +kernel
theorem dD_layStream_112 : decode cD_layStream 112 = .ok (.iconst 2, 1) := by decide +kernel
theorem dD_layStream_113 : decode cD_layStream 113 = .ok (.iaload, 1) := by decide +kernel
theorem dD_layStream_114 : decode cD_layStream 114 = .ok (.if_icmp .ge 31, 3) := by decide +kernel
theorem dD_layStream_117 : decode cD_layStream 117 = .ok (.aload_n 0, 1) := by decide +kernel
theorem dD_layStream_118 : decode cD_layStream 118 = .ok (.aload_n 0, 1) := by decide +kernel
theorem dD_layStream_119 : decode cD_layStream 119 = .ok (.getfield 20, 3) := by decide +kernel
theorem dD_layStream_122 : decode cD_layStream 122 = .ok (.iload_n 1, 1) := by decide +kernel
theorem dD_layStream_123 : decode cD_layStream 123 = .ok (.iaload, 1) := by decide +kernel
theorem dD_layStream_124 : decode cD_layStream 124 = .ok (.iconst 1, 1) := by decide +kernel
theorem dD_layStream_125 : decode cD_layStream 125 = .ok (.isub, 1) := by decide +kernel
theorem dD_layStream_126 : decode cD_layStream 126 = .ok (.invokevirtual 215, 3) := by decide +kernel
theorem dD_layStream_129 : decode cD_layStream 129 = .ok (.aload_n 0, 1) := by decide +kernel
theorem dD_layStream_130 : decode cD_layStream 130 = .ok (.iconst 1, 1) := by decide +kernel
theorem dD_layStream_131 : decode cD_layStream 131 = .ok (.invokevirtual 215, 3) := by decide +kernel
theorem dD_layStream_134 : decode cD_layStream 134 = .ok (.aload_n 0, 1) := by decide +kernel
theorem dD_layStream_135 : decode cD_layStream 135 = .ok (.iconst 1, 1) := by decide +kernel
theorem dD_layStream_136 : decode cD_layStream 136 = .ok (.invokevirtual 215, 3) := by decide +kernel
theorem dD_layStream_139 : decode cD_layStream 139 = .ok (.iinc 1 1, 3) := by decide +kernel
theorem dD_layStream_142 : decode cD_layStream 142 = .ok (.goto (-35), 3) := by decide +kernel
theorem dD_layStream_145 : decode cD_layStream 145 = .ok (.aload_n 0, 1) := by decide +kernel
theorem dD_layStream_146 : decode cD_layStream 146 = .ok (.iconst (-1), 1) := by decide +kernel
theorem dD_layStream_147 : decode cD_layStream 147 = .ok (.invokevirtual 236, 3) := by decide +kernel
theorem dD_layStream_150 : decode cD_layStream 150 = .ok (.iconst 0, 1) := by decide +kernel
theorem dD_layStream_151 : decode cD_layStream 151 = .ok (.istore_n 1, 1) := by decide +kernel
theorem dD_layStream_152 : decode cD_layStream 152 = .ok (.iload_n 1, 1) := by decide +kernel
theorem dD_layStream_153 : decode cD_layStream 153 = .ok (.aload_n 0, 1) := by decide +kernel
theorem dD_layStream_154 : decode cD_layStream 154 = .ok (.getfield 145, 3) := by decide +kernel
theorem dD_layStream_157 : decode cD_layStream 157 = .ok (.if_icmp .ge 53, 3) := by decide +kernel
theorem dD_layStream_160 : decode cD_layStream 160 = .ok (.iconst 0, 1) := by decide +kernel
theorem dD_layStream_161 : decode cD_layStream 161 = .ok (.istore_n 2, 1) := by decide +kernel
theorem dD_layStream_162 : decode cD_layStream 162 = .ok (.iconst 0, 1) := by decide +kernel
theorem dD_layStream_163 : decode cD_layStream 163 = .ok (.istore_n 3, 1) := by decide +kernel
theorem dD_layStream_164 : decode cD_layStream 164 = .ok (.iload_n 3, 1) := by decide +kernel
theorem dD_layStream_165 : decode cD_layStream 165 = .ok (.iload_n 1, 1) := by decide +kernel
theorem dD_layStream_166 : decode cD_layStream 166 = .ok (.if_icmp .ge 32, 3) := by decide +kernel
theorem dD_layStream_169 : decode cD_layStream 169 = .ok (.iload_n 2, 1) := by decide +kernel
theorem dD_layStream_170 : decode cD_layStream 170 = .ok (.aload_n 0, 1) := by decide +kernel
theorem dD_layStream_171 : decode cD_layStream 171 = .ok (.getfield 26, 3) := by decide +kernel
theorem dD_layStream_174 : decode cD_layStream 174 = .ok (.iload_n 3, 1) := by decide +kernel
theorem dD_layStream_175 : decode cD_layStream 175 = .ok (.iaload, 1) := by decide +kernel
theorem dD_layStream_176 : decode cD_layStream 176 = .ok (.aload_n 0, 1) := by decide +kernel
theorem dD_layStream_177 : decode cD_layStream 177 = .ok (.getfield 26, 3) := by decide +kernel
theorem dD_layStream_180 : decode cD_layStream 180 = .ok (.iload_n 1, 1) := by decide +kernel
theorem dD_layStream_181 : decode cD_layStream 181 = .ok (.iaload, 1) := by decide +kernel
theorem dD_layStream_182 : decode cD_layStream 182 = .ok (.if_icmp .ne 7, 3) := by decide +kernel
theorem dD_layStream_185 : decode cD_layStream 185 = .ok (.iconst 1, 1) := by decide +kernel
theorem dD_layStream_186 : decode cD_layStream 186 = .ok (.goto 4, 3) := by decide +kernel
theorem dD_layStream_189 : decode cD_layStream 189 = .ok (.iconst 0, 1) := by decide +kernel
theorem dD_layStream_190 : decode cD_layStream 190 = .ok (.iadd, 1) := by decide +kernel
theorem dD_layStream_191 : decode cD_layStream 191 = .ok (.istore_n 2, 1) := by decide +kernel
theorem dD_layStream_192 : decode cD_layStream 192 = .ok (.iinc 3 1, 3) := by decide +kernel
theorem dD_layStream_195 : decode cD_layStream 195 = .ok (.goto (-31), 3) := by decide +kernel
theorem dD_layStream_198 : decode cD_layStream 198 = .ok (.aload_n 0, 1) := by decide +kernel
theorem dD_layStream_199 : decode cD_layStream 199 = .ok (.iload_n 1, 1) := by decide +kernel
theorem dD_layStream_200 : decode cD_layStream 200 = .ok (.iload_n 2, 1) := by decide +kernel
theorem dD_layStream_201 : decode cD_layStream 201 = .ok (.invokevirtual 242, 3) := by decide +kernel
theorem dD_layStream_204 : decode cD_layStream 204 = .ok (.iinc 1 1, 3) := by decide +kernel
theorem dD_layStream_207 : decode cD_layStream 207 = .ok (.goto (-55), 3) := by decide +kernel
theorem dD_layStream_210 : decode cD_layStream 210 = .ok (.aload_n 0, 1) := by decide +kernel
theorem dD_layStream_211 : decode cD_layStream 211 = .ok (.sipush 255, 3) := by decide +kernel
theorem dD_layStream_214 : decode cD_layStream 214 = .ok (.invokevirtual 215, 3) := by decide +kernel
theorem dD_layStream_217 : decode cD_layStream 217 = .ok (.aload_n 0, 1) := by decide +kernel
theorem dD_layStream_218 : decode cD_layStream 218 = .ok (.sipush 217, 3) := by decide +kernel
theorem dD_layStream_221 : decode cD_layStream 221 = .ok (.invokevirtual 215, 3) := by decide +kernel
theorem dD_layStream_224 : decode cD_layStream 224 = .ok (.return_, 1) := by decide +kernel
theorem dD_layBox_0 : decode cD_layBox 0 = .ok (.aload_n 0, 1) := by decide +kernel
theorem dD_layBox_1 : decode cD_layBox 1 = .ok (.bipush 8, 2) := by decide +kernel
theorem dD_layBox_3 : decode cD_layBox 3 = .ok (.aload_n 0, 1) := by decide +kernel
theorem dD_layBox_4 : decode cD_layBox 4 = .ok (.getfield 47, 3) := by decide +kernel
theorem dD_layBox_7 : decode cD_layBox 7 = .ok (.iload_n 1, 1) := by decide +kernel
theorem dD_layBox_8 : decode cD_layBox 8 = .ok (.iaload, 1) := by decide +kernel
theorem dD_layBox_9 : decode cD_layBox 9 = .ok (.iadd, 1) := by decide +kernel
