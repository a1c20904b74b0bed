theorem dD_isKind_68 : decode cD_isKind 68 = .ok (.iload_n 0, 1) := by decide +kernel
theorem dD_isKind_69 : decode cD_isKind 69 = .ok (.ldc 204, 2) := by decide +kernel
theorem dD_isKind_71 : decode cD_isKind 71 = .ok (.if_icmp .eq 13, 3) := by decide +kernel
theorem dD_isKind_74 : decode cD_isKind 74 = .ok (.iload_n 0, 1) := by decide +kernel
theorem dD_isKind_75 : decode cD_isKind 75 = .ok (.ldc 205, 2) := by decide +kernel
theorem dD_isKind_77 : decode cD_isKind 77 = .ok (.if_icmp .eq 7, 3) := by decide +kernel
theorem dD_isKind_80 : decode cD_isKind 80 = .ok (.iconst 1, 1) := by decide +kernel
theorem dD_isKind_81 : decode cD_isKind 81 = .ok (.goto 4, 3) := by decide +kernel
theorem dD_isKind_84 : decode cD_isKind 84 = .ok (.iconst 0, 1) := by decide +kernel
theorem dD_isKind_85 : decode cD_isKind 85 = .ok (.ireturn, 1) := by decide +kernel
theorem dD_box_0 : decode cD_box 0 = .ok (.aload_n 0, 1) := by decide +kernel
theorem dD_box_1 : decode cD_box 1 = .ok (.iload_n 2, 1) := by decide +kernel
theorem dD_box_2 : decode cD_box 2 = .ok (.invokestatic 206, 3) := by decide +kernel
theorem dD_box_5 : decode cD_box 5 = .ok (.ifCond .ne 7, 3) := by decide +kernel
theorem dD_box_8 : decode cD_box 8 = .ok (.iconst 1, 1) := by decide +kernel
theorem dD_box_9 : decode cD_box 9 = .ok (.goto 17, 3) := by decide +kernel
theorem dD_box_12 : decode cD_box 12 = .ok (.aload_n 0, 1) := by decide +kernel
theorem dD_box_13 : decode cD_box 13 = .ok (.getfield 209, 3) := by decide +kernel
theorem dD_box_16 : decode cD_box 16 = .ok (.bipush 8, 2) := by decide +kernel
theorem dD_box_18 : decode cD_box 18 = .ok (.if_icmp .ne 7, 3) := by decide +kernel
theorem dD_box_21 : decode cD_box 21 = .ok (.iconst 2, 1) := by decide +kernel
theorem dD_box_22 : decode cD_box 22 = .ok (.goto 4, 3) := by decide +kernel
theorem dD_box_25 : decode cD_box 25 = .ok (.iconst 0, 1) := by decide +kernel
theorem dD_box_26 : decode cD_box 26 = .ok (.putfield 110, 3) := by decide +kernel
theorem dD_box_29 : decode cD_box 29 = .ok (.aload_n 0, 1) := by decide +kernel
theorem dD_box_30 : decode cD_box 30 = .ok (.getfield 110, 3) := by decide +kernel
theorem dD_box_33 : decode cD_box 33 = .ok (.ifCond .le 5, 3) := by decide +kernel
theorem dD_box_36 : decode cD_box 36 = .ok (.iconst 0, 1) := by decide +kernel
theorem dD_box_37 : decode cD_box 37 = .ok (.ireturn, 1) := by decide +kernel
theorem dD_box_38 : decode cD_box 38 = .ok (.aload_n 0, 1) := by decide +kernel
theorem dD_box_39 : decode cD_box 39 = .ok (.getfield 41, 3) := by decide +kernel
theorem dD_box_42 : decode cD_box 42 = .ok (.aload_n 0, 1) := by decide +kernel
theorem dD_box_43 : decode cD_box 43 = .ok (.getfield 209, 3) := by decide +kernel
theorem dD_box_46 : decode cD_box 46 = .ok (.iload_n 1, 1) := by decide +kernel
theorem dD_box_47 : decode cD_box 47 = .ok (.bastore, 1) := by decide +kernel
theorem dD_box_48 : decode cD_box 48 = .ok (.aload_n 0, 1) := by decide +kernel
theorem dD_box_49 : decode cD_box 49 = .ok (.getfield 44, 3) := by decide +kernel
theorem dD_box_52 : decode cD_box 52 = .ok (.aload_n 0, 1) := by decide +kernel
theorem dD_box_53 : decode cD_box 53 = .ok (.getfield 209, 3) := by decide +kernel
theorem dD_box_56 : decode cD_box 56 = .ok (.iload_n 2, 1) := by decide +kernel
theorem dD_box_57 : decode cD_box 57 = .ok (.iastore, 1) := by decide +kernel
theorem dD_box_58 : decode cD_box 58 = .ok (.aload_n 0, 1) := by decide +kernel
theorem dD_box_59 : decode cD_box 59 = .ok (.getfield 47, 3) := by decide +kernel
theorem dD_box_62 : decode cD_box 62 = .ok (.aload_n 0, 1) := by decide +kernel
theorem dD_box_63 : decode cD_box 63 = .ok (.getfield 209, 3) := by decide +kernel
theorem dD_box_66 : decode cD_box 66 = .ok (.iconst 0, 1) := by decide +kernel
theorem dD_box_67 : decode cD_box 67 = .ok (.iastore, 1) := by decide +kernel
theorem dD_box_68 : decode cD_box 68 = .ok (.aload_n 0, 1) := by decide +kernel
theorem dD_box_69 : decode cD_box 69 = .ok (.dup, 1) := by decide +kernel
theorem dD_box_70 : decode cD_box 70 = .ok (.getfield 209, 3) := by decide +kernel
theorem dD_box_73 : decode cD_box 73 = .ok (.iconst 1, 1) := by decide +kernel
theorem dD_box_74 : decode cD_box 74 = .ok (.iadd, 1) := by decide +kernel
theorem dD_box_75 : decode cD_box 75 = .ok (.putfield 209, 3) := by decide +kernel
theorem dD_box_78 : decode cD_box 78 = .ok (.aload_n 0, 1) := by decide +kernel
theorem dD_box_79 : decode cD_box 79 = .ok (.getfield 209, 3) := by decide +kernel
theorem dD_box_82 : decode cD_box 82 = .ok (.iconst 1, 1) := by decide +kernel
theorem dD_box_83 : decode cD_box 83 = .ok (.isub, 1) := by decide +kernel
theorem dD_box_84 : decode cD_box 84 = .ok (.ireturn, 1) := by decide +kernel
theorem dD_boxByte_0 : decode cD_boxByte 0 = .ok (.aload_n 0, 1) := by decide +kernel
theorem dD_boxByte_1 : decode cD_boxByte 1 = .ok (.iload_n 1, 1) := by decide +kernel
theorem dD_boxByte_2 : decode cD_boxByte 2 = .ok (.i2l, 1) := by decide +kernel
theorem dD_boxByte_3 : decode cD_boxByte 3 = .ok (.lconst 0, 1) := by decide +kernel
theorem dD_boxByte_4 : decode cD_boxByte 4 = .ok (.aload_n 0, 1) := by decide +kernel
theorem dD_boxByte_5 : decode cD_boxByte 5 = .ok (.getfield 209, 3) := by decide +kernel
theorem dD_boxByte_8 : decode cD_boxByte 8 = .ok (.i2l, 1) := by decide +kernel
theorem dD_boxByte_9 : decode cD_boxByte 9 = .ok (.lconst 1, 1) := by decide +kernel
theorem dD_boxByte_10 : decode cD_boxByte 10 = .ok (.lsub, 1) := by decide +kernel
theorem dD_boxByte_11 : decode cD_boxByte 11 = .ok (.invokestatic 135, 3) := by decide +kernel
theorem dD_boxByte_14 : decode cD_boxByte 14 = .ok (.ifCond .ne 7, 3) := by decide +kernel
theorem dD_boxByte_17 : decode cD_boxByte 17 = .ok (.iconst 1, 1) := by decide +kernel
theorem dD_boxByte_18 : decode cD_boxByte 18 = .ok (.goto 35, 3) := by decide +kernel
theorem dD_boxByte_21 : decode cD_boxByte 21 = .ok (.iload_n 2, 1) := by decide +kernel
theorem dD_boxByte_22 : decode cD_boxByte 22 = .ok (.i2l, 1) := by decide +kernel
theorem dD_boxByte_23 : decode cD_boxByte 23 = .ok (.lconst 0, 1) := by decide +kernel
theorem dD_boxByte_24 : decode cD_boxByte 24 = .ok (.ldc2_w 195, 3) := by decide +kernel
theorem dD_boxByte_27 : decode cD_boxByte 27 = .ok (.invokestatic 135, 3) := by decide +kernel
theorem dD_boxByte_30 : decode cD_boxByte 30 = .ok (.ifCond .ne 7, 3) := by decide +kernel
theorem dD_boxByte_33 : decode cD_boxByte 33 = .ok (.iconst 2, 1) := by decide +kernel
theorem dD_boxByte_34 : decode cD_boxByte 34 = .ok (.goto 19, 3) := by decide +kernel
theorem dD_boxByte_37 : decode cD_boxByte 37 = .ok (.aload_n 0, 1) := by decide +kernel
theorem dD_boxByte_38 : decode cD_boxByte 38 = .ok (.getfield 47, 3) := by decide +kernel
theorem dD_boxByte_41 : decode cD_boxByte 41 = .ok (.iload_n 1, 1) := by decide +kernel
theorem dD_boxByte_42 : decode cD_boxByte 42 = .ok (.iaload, 1) := by decide +kernel
theorem dD_boxByte_43 : decode cD_boxByte 43 = .ok (.bipush 40, 2) := by decide +kernel
theorem dD_boxByte_45 : decode cD_boxByte 45 = .ok (.if_icmp .ne 7, 3) := by decide +kernel
theorem dD_boxByte_48 : decode cD_boxByte 48 = .ok (.iconst 3, 1) := by decide +kernel
theorem dD_boxByte_49 : decode cD_boxByte 49 = .ok (.goto 4, 3) := by decide +kernel
theorem dD_boxByte_52 : decode cD_boxByte 52 = .ok (.iconst 0, 1) := by decide +kernel
theorem dD_boxByte_53 : decode cD_boxByte 53 = .ok (.putfield 110, 3) := by decide +kernel
theorem dD_boxByte_56 : decode cD_boxByte 56 = .ok (.aload_n 0, 1) := by decide +kernel
theorem dD_boxByte_57 : decode cD_boxByte 57 = .ok (.getfield 110, 3) := by decide +kernel
theorem dD_boxByte_60 : decode cD_boxByte 60 = .ok (.ifCond .le 5, 3) := by decide +kernel
theorem dD_boxByte_63 : decode cD_boxByte 63 = .ok (.iconst 0, 1) := by decide +kernel
theorem dD_boxByte_64 : decode cD_boxByte 64 = .ok (.ireturn, 1) := by decide +kernel
theorem dD_boxByte_65 : decode cD_boxByte 65 = .ok (.aload_n 0, 1) := by decide +kernel
theorem dD_boxByte_66 : decode cD_boxByte 66 = .ok (.getfield 50, 3) := by decide +kernel
theorem dD_boxByte_69 : decode cD_boxByte 69 = .ok (.bipush 40, 2) := by decide +kernel
theorem dD_boxByte_71 : decode cD_boxByte 71 = .ok (.iload_n 1, 1) := by decide +kernel
theorem dD_boxByte_72 : decode cD_boxByte 72 = .ok (.imul, 1) := by decide +kernel
theorem dD_boxByte_73 : decode cD_boxByte 73 = .ok (.aload_n 0, 1) := by decide +kernel
theorem dD_boxByte_74 : decode cD_boxByte 74 = .ok (.getfield 47, 3) := by decide +kernel
theorem dD_boxByte_77 : decode cD_boxByte 77 = .ok (.iload_n 1, 1) := by decide +kernel
theorem dD_boxByte_78 : decode cD_boxByte 78 = .ok (.iaload, 1) := by decide +kernel
theorem dD_boxByte_79 : decode cD_boxByte 79 = .ok (.iadd, 1) := by decide +kernel
theorem dD_boxByte_80 : decode cD_boxByte 80 = .ok (.iload_n 2, 1) := by decide +kernel
theorem dD_boxByte_81 : decode cD_boxByte 81 = .ok (.iastore, 1) := by decide +kernel
theorem dD_boxByte_82 : decode cD_boxByte 82 = .ok (.aload_n 0, 1) := by decide +kernel
theorem dD_boxByte_83 : decode cD_boxByte 83 = .ok (.getfield 47, 3) := by decide +kernel
theorem dD_boxByte_86 : decode cD_boxByte 86 = .ok (.iload_n 1, 1) := by decide +kernel
theorem dD_boxByte_87 : decode cD_boxByte 87 = .ok (.dup2, 1) := by decide +kernel
theorem dD_boxByte_88 : decode cD_boxByte 88 = .ok (.iaload, 1) := by decide +kernel
theorem dD_boxByte_89 : decode cD_boxByte 89 = .ok (.iconst 1, 1) := by decide +kernel
theorem dD_boxByte_90 : decode cD_boxByte 90 = .ok (.iadd, 1) := by decide +kernel
theorem dD_boxByte_91 : decode cD_boxByte 91 = .ok (.iastore, 1) := by decide +kernel
theorem dD_boxByte_92 : decode cD_boxByte 92 = .ok (.aload_n 0, 1) := by decide +kernel
theorem dD_boxByte_93 : decode cD_boxByte 93 = .ok (.getfield 47, 3) := by decide +kernel
theorem dD_boxByte_96 : decode cD_boxByte 96 = .ok (.iload_n 1, 1) := by decide +kernel
theorem dD_boxByte_97 : decode cD_boxByte 97 = .ok (.iaload, 1) := by decide +kernel
theorem dD_boxByte_98 : decode cD_boxByte 98 = .ok (.ireturn, 1) := by decide +kernel
theorem dD_lay_0 : decode cD_lay 0 = .ok (.aload_n 0, 1) := by decide +kernel
theorem dD_lay_1 : decode cD_lay 1 = .ok (.getfield 54, 3) := by decide +kernel
theorem dD_lay_4 : decode cD_lay 4 = .ok (.aload_n 0, 1) := by decide +kernel
theorem dD_lay_5 : decode cD_lay 5 = .ok (.getfield 212, 3) := by decide +kernel
theorem dD_lay_8 : decode cD_lay 8 = .ok (.iload_n 1, 1) := by decide +kernel
theorem dD_lay_9 : decode cD_lay 9 = .ok (.sipush 255, 3) := by decide +kernel
theorem dD_lay_12 : decode cD_lay 12 = .ok (.iand, 1) := by decide +kernel
theorem dD_lay_13 : decode cD_lay 13 = .ok (.iastore, 1) := by decide +kernel
theorem dD_lay_14 : decode cD_lay 14 = .ok (.aload_n 0, 1) := by decide +kernel
theorem dD_lay_15 : decode cD_lay 15 = .ok (.dup, 1) := by decide +kernel
theorem dD_lay_16 : decode cD_lay 16 = .ok (.getfield 212, 3) := by decide +kernel
theorem dD_lay_19 : decode cD_lay 19 = .ok (.iconst 1, 1) := by decide +kernel
theorem dD_lay_20 : decode cD_lay 20 = .ok (.iadd, 1) := by decide +kernel
theorem dD_lay_21 : decode cD_lay 21 = .ok (.putfield 212, 3) := by decide +kernel
theorem dD_lay_24 : decode cD_lay 24 = .ok (.return_, 1) := by decide +kernel
theorem dD_layTwo_0 : decode cD_layTwo 0 = .ok (.aload_n 0, 1) := by decide +kernel
theorem dD_layTwo_1 : decode cD_layTwo 1 = .ok (.iload_n 1, 1) := by decide +kernel
theorem dD_layTwo_2 : decode cD_layTwo 2 = .ok (.bipush 8, 2) := by decide +kernel
theorem dD_layTwo_4 : decode cD_layTwo 4 = .ok (.ishr, 1) := by decide +kernel
theorem dD_layTwo_5 : decode cD_layTwo 5 = .ok (.invokevirtual 215, 3) := by decide +kernel
theorem dD_layTwo_8 : decode cD_layTwo 8 = .ok (.aload_n 0, 1) := by decide +kernel
theorem dD_layTwo_9 : decode cD_layTwo 9 = .ok (.iload_n 1, 1) := by decide +kernel
theorem dD_layTwo_10 : decode cD_layTwo 10 = .ok (.invokevirtual 215, 3) := by decide +kernel
theorem dD_layTwo_13 : decode cD_layTwo 13 = .ok (.return_, 1) := by decide +kernel
theorem dD_layFour_0 : decode cD_layFour 0 = .ok (.aload_n 0, 1) := by decide +kernel
theorem dD_layFour_1 : decode cD_layFour 1 = .ok (.iload_n 1, 1) := by decide +kernel
theorem dD_layFour_2 : decode cD_layFour 2 = .ok (.bipush 16, 2) := by decide +kernel
theorem dD_layFour_4 : decode cD_layFour 4 = .ok (.iushr, 1) := by decide +kernel
theorem dD_layFour_5 : decode cD_layFour 5 = .ok (.invokevirtual 219, 3) := by decide +kernel
theorem dD_layFour_8 : decode cD_layFour 8 = .ok (.aload_n 0, 1) := by decide +kernel
theorem dD_layFour_9 : decode cD_layFour 9 = .ok (.iload_n 1, 1) := by decide +kernel
theorem dD_layFour_10 : decode cD_layFour 10 = .ok (.ldc 222, 2) := by decide +kernel
theorem dD_layFour_12 : decode cD_layFour 12 = .ok (.iand, 1) := by decide +kernel
theorem dD_layFour_13 : decode cD_layFour 13 = .ok (.invokevirtual 219, 3) := by decide +kernel
theorem dD_layFour_16 : decode cD_layFour 16 = .ok (.return_, 1) := by decide +kernel
theorem dD_layMark_0 : decode cD_layMark 0 = .ok (.aload_n 0, 1) := by decide +kernel
theorem dD_layMark_1 : decode cD_layMark 1 = .ok (.sipush 255, 3) := by decide +kernel
theorem dD_layMark_4 : decode cD_layMark 4 = .ok (.invokevirtual 215, 3) := by decide +kernel
theorem dD_layMark_7 : decode cD_layMark 7 = .ok (.aload_n 0, 1) := by decide +kernel
theorem dD_layMark_8 : decode cD_layMark 8 = .ok (.iload_n 1, 1) := by decide +kernel
theorem dD_layMark_9 : decode cD_layMark 9 = .ok (.invokevirtual 215, 3) := by decide +kernel
theorem dD_layMark_12 : decode cD_layMark 12 = .ok (.aload_n 0, 1) := by decide +kernel
theorem dD_layMark_13 : decode cD_layMark 13 = .ok (.iload_n 2, 1) := by decide +kernel
theorem dD_layMark_14 : decode cD_layMark 14 = .ok (.invokevirtual 219, 3) := by decide +kernel
theorem dD_layMark_17 : decode cD_layMark 17 = .ok (.return_, 1) := by decide +kernel
theorem dD_layStyle_0 : decode cD_layStyle 0 = .ok (.aload_n 0, 1) := by decide +kernel
theorem dD_layStyle_1 : decode cD_layStyle 1 = .ok (.aload_n 0, 1) := by decide +kernel
theorem dD_layStyle_2 : decode cD_layStyle 2 = .ok (.iload_n 1, 1) := by decide +kernel
theorem dD_layStyle_3 : decode cD_layStyle 3 = .ok (.bipush 6, 2) := by decide +kernel
theorem dD_layStyle_5 : decode cD_layStyle 5 = .ok (.invokevirtual 172, 3) := by decide +kernel
theorem dD_layStyle_8 : decode cD_layStyle 8 = .ok (.invokevirtual 215, 3) := by decide +kernel
theorem dD_layStyle_11 : decode cD_layStyle 11 = .ok (.aload_n 0, 1) := by decide +kernel
theorem dD_layStyle_12 : decode cD_layStyle 12 = .ok (.aload_n 0, 1) := by decide +kernel
theorem dD_layStyle_13 : decode cD_layStyle 13 = .ok (.iload_n 1, 1) := by decide +kernel
theorem dD_layStyle_14 : decode cD_layStyle 14 = .ok (.bipush 7, 2) := by decide +kernel
theorem dD_layStyle_16 : decode cD_layStyle 16 = .ok (.invokevirtual 172, 3) := by decide +kernel
theorem dD_layStyle_19 : decode cD_layStyle 19 = .ok (.iconst 2, 1) := by decide +kernel
theorem dD_layStyle_20 : decode cD_layStyle 20 = .ok (.isub, 1) := by decide +kernel
theorem dD_layStyle_21 : decode cD_layStyle 21 = .ok (.invokevirtual 215, 3) := by decide +kernel
theorem dD_layStyle_24 : decode cD_layStyle 24 = .ok (.aload_n 0, 1) := by decide +kernel
theorem dD_layStyle_25 : decode cD_layStyle 25 = .ok (.aload_n 0, 1) := by decide +kernel
theorem dD_layStyle_26 : decode cD_layStyle 26 = .ok (.iload_n 1, 1) := by decide +kernel
theorem dD_layStyle_27 : decode cD_layStyle 27 = .ok (.bipush 7, 2) := by decide +kernel
theorem dD_layStyle_29 : decode cD_layStyle 29 = .ok (.invokevirtual 172, 3) := by decide +kernel
theorem dD_layStyle_32 : decode cD_layStyle 32 = .ok (.iconst 2, 1) := by decide +kernel
theorem dD_layStyle_33 : decode cD_layStyle 33 = .ok (.isub, 1) := by decide +kernel
theorem dD_layStyle_34 : decode cD_layStyle 34 = .ok (.invokevirtual 215, 3) := by decide +kernel
theorem dD_layStyle_37 : decode cD_layStyle 37 = .ok (.aload_n 0, 1) := by decide +kernel
theorem dD_layStyle_38 : decode cD_layStyle 38 = .ok (.iconst 0, 1) := by decide +kernel
theorem dD_layStyle_39 : decode cD_layStyle 39 = .ok (.invokevirtual 215, 3) := by decide +kernel
theorem dD_layStyle_42 : decode cD_layStyle 42 = .ok (.aload_n 0, 1) := by decide +kernel
theorem dD_layStyle_43 : decode cD_layStyle 43 = .ok (.aload_n 0, 1) := by decide +kernel
theorem dD_layStyle_44 : decode cD_layStyle 44 = .ok (.iload_n 1, 1) := by decide +kernel
theorem dD_layStyle_45 : decode cD_layStyle 45 = .ok (.bipush 8, 2) := by decide +kernel
theorem dD_layStyle_47 : decode cD_layStyle 47 = .ok (.invokevirtual 172, 3) := by decide +kernel
theorem dD_layStyle_50 : decode cD_layStyle 50 = .ok (.invokevirtual 215, 3) := by decide +kernel
theorem dD_layStyle_53 : decode cD_layStyle 53 = .ok (.return_, 1) := by decide +kernel
theorem dD_layStep_0 : decode cD_layStep 0 = .ok (.aload_n 0, 1) := by decide +kernel
theorem dD_layStep_1 : decode cD_layStep 1 = .ok (.bipush 32, 2) := by decide +kernel
theorem dD_layStep_3 : decode cD_layStep 3 = .ok (.aload_n 0, 1) := by decide +kernel
theorem dD_layStep_4 : decode cD_layStep 4 = .ok (.iload_n 1, 1) := by decide +kernel
theorem dD_layStep_5 : decode cD_layStep 5 = .ok (.bipush 10, 2) := by decide +kernel
theorem dD_layStep_7 : decode cD_layStep 7 = .ok (.invokevirtual 172, 3) := by decide +kernel
theorem dD_layStep_10 : decode cD_layStep 10 = .ok (.imul, 1) := by decide +kernel
theorem dD_layStep_11 : decode cD_layStep 11 = .ok (.iconst 1, 1) := by decide +kernel
theorem dD_layStep_12 : decode cD_layStep 12 = .ok (.iadd, 1) := by decide +kernel
theorem dD_layStep_13 : decode cD_layStep 13 = .ok (.invokevirtual 215, 3) := by decide +kernel
theorem dD_layStep_16 : decode cD_layStep 16 = .ok (.aload_n 0, 1) := by decide +kernel
theorem dD_layStep_17 : decode cD_layStep 17 = .ok (.sipush 2048, 3) := by decide +kernel
theorem dD_layStep_20 : decode cD_layStep 20 = .ok (.aload_n 0, 1) := by decide +kernel
theorem dD_layStep_21 : decode cD_layStep 21 = .ok (.iload_n 1, 1) := by decide +kernel
theorem dD_layStep_22 : decode cD_layStep 22 = .ok (.bipush 9, 2) := by decide +kernel
theorem dD_layStep_24 : decode cD_layStep 24 = .ok (.invokevirtual 172, 3) := by decide +kernel
theorem dD_layStep_27 : decode cD_layStep 27 = .ok (.imul, 1) := by decide +kernel
theorem dD_layStep_28 : decode cD_layStep 28 = .ok (.invokevirtual 219, 3) := by decide +kernel
theorem dD_layStep_31 : decode cD_layStep 31 = .ok (.return_, 1) := by decide +kernel
theorem dD_laySegments_0 : decode cD_laySegments 0 = .ok (.iconst (-1), 1) := by decide +kernel
theorem dD_laySegments_1 : decode cD_laySegments 1 = .ok (.istore_n 2, 1) := by decide +kernel
theorem dD_laySegments_2 : decode cD_laySegments 2 = .ok (.iload_n 2, 1) := by decide +kernel
theorem dD_laySegments_3 : decode cD_laySegments 3 = .ok (.aload_n 0, 1) := by decide +kernel
theorem dD_laySegments_4 : decode cD_laySegments 4 = .ok (.getfield 23, 3) := by decide +kernel
theorem dD_laySegments_7 : decode cD_laySegments 7 = .ok (.iconst 2, 1) := by decide +kernel
theorem dD_laySegments_8 : decode cD_laySegments 8 = .ok (.iaload, 1) := by decide +kernel
theorem dD_laySegments_9 : decode cD_laySegments 9 = .ok (.if_icmp .ge 105, 3) := by decide +kernel
theorem dD_laySegments_12 : decode cD_laySegments 12 = .ok (.iload_n 1, 1) := by decide +kernel
theorem dD_laySegments_13 : decode cD_laySegments 13 = .ok (.iload_n 2, 1) := by decide +kernel
theorem dD_laySegments_14 : decode cD_laySegments 14 = .ok (.invokestatic 121, 3) := by decide +kernel
theorem dD_laySegments_17 : decode cD_laySegments 17 = .ok (.istore_n 3, 1) := by decide +kernel
theorem dD_laySegments_18 : decode cD_laySegments 18 = .ok (.aload_n 0, 1) := by decide +kernel
theorem dD_laySegments_19 : decode cD_laySegments 19 = .ok (.getfield 13, 3) := by decide +kernel
theorem dD_laySegments_22 : decode cD_laySegments 22 = .ok (.iload_n 3, 1) := by decide +kernel
theorem dD_laySegments_23 : decode cD_laySegments 23 = .ok (.baload, 1) := by decide +kernel
theorem dD_laySegments_24 : decode cD_laySegments 24 = .ok (.ifCond .ne 6, 3) := by decide +kernel
theorem dD_laySegments_27 : decode cD_laySegments 27 = .ok (.goto 81, 3) := by decide +kernel
theorem dD_laySegments_30 : decode cD_laySegments 30 = .ok (.aload_n 0, 1) := by decide +kernel
theorem dD_laySegments_31 : decode cD_laySegments 31 = .ok (.iload_n 2, 1) := by decide +kernel
theorem dD_laySegments_32 : decode cD_laySegments 32 = .ok (.ifCond .ge 8, 3) := by decide +kernel
theorem dD_laySegments_35 : decode cD_laySegments 35 = .ok (.bipush 82, 2) := by decide +kernel
theorem dD_laySegments_37 : decode cD_laySegments 37 = .ok (.goto 5, 3) := by decide +kernel
theorem dD_laySegments_40 : decode cD_laySegments 40 = .ok (.bipush 83, 2) := by decide +kernel
theorem dD_laySegments_42 : decode cD_laySegments 42 = .ok (.iload_n 2, 1) := by decide +kernel
theorem dD_laySegments_43 : decode cD_laySegments 43 = .ok (.ifCond .ge 8, 3) := by decide +kernel
theorem dD_laySegments_46 : decode cD_laySegments 46 = .ok (.bipush 12, 2) := by decide +kernel
theorem dD_laySegments_48 : decode cD_laySegments 48 = .ok (.goto 5, 3) := by decide +kernel
theorem dD_laySegments_51 : decode cD_laySegments 51 = .ok (.bipush 9, 2) := by decide +kernel
theorem dD_laySegments_53 : decode cD_laySegments 53 = .ok (.invokevirtual 223, 3) := by decide +kernel
theorem dD_laySegments_56 : decode cD_laySegments 56 = .ok (.iload_n 2, 1) := by decide +kernel
theorem dD_laySegments_57 : decode cD_laySegments 57 = .ok (.ifCond .ge 36, 3) := by decide +kernel
theorem dD_laySegments_60 : decode cD_laySegments 60 = .ok (.aload_n 0, 1) := by decide +kernel
theorem dD_laySegments_61 : decode cD_laySegments 61 = .ok (.iconst 0, 1) := by decide +kernel
theorem dD_laySegments_62 : decode cD_laySegments 62 = .ok (.invokevirtual 215, 3) := by decide +kernel
theorem dD_laySegments_65 : decode cD_laySegments 65 = .ok (.aload_n 0, 1) := by decide +kernel
theorem dD_laySegments_66 : decode cD_laySegments 66 = .ok (.aload_n 0, 1) := by decide +kernel
theorem dD_laySegments_67 : decode cD_laySegments 67 = .ok (.iload_n 3, 1) := by decide +kernel
theorem dD_laySegments_68 : decode cD_laySegments 68 = .ok (.iconst 4, 1) := by decide +kernel
theorem dD_laySegments_69 : decode cD_laySegments 69 = .ok (.invokevirtual 172, 3) := by decide +kernel
theorem dD_laySegments_72 : decode cD_laySegments 72 = .ok (.invokevirtual 215, 3) := by decide +kernel
theorem dD_laySegments_75 : decode cD_laySegments 75 = .ok (.aload_n 0, 1) := by decide +kernel
theorem dD_laySegments_76 : decode cD_laySegments 76 = .ok (.aload_n 0, 1) := by decide +kernel
theorem dD_laySegments_77 : decode cD_laySegments 77 = .ok (.iload_n 3, 1) := by decide +kernel
theorem dD_laySegments_78 : decode cD_laySegments 78 = .ok (.iconst 5, 1) := by decide +kernel
theorem dD_laySegments_79 : decode cD_laySegments 79 = .ok (.invokevirtual 172, 3) := by decide +kernel
theorem dD_laySegments_82 : decode cD_laySegments 82 = .ok (.invokevirtual 219, 3) := by decide +kernel
theorem dD_laySegments_85 : decode cD_laySegments 85 = .ok (.aload_n 0, 1) := by decide +kernel
theorem dD_laySegments_86 : decode cD_laySegments 86 = .ok (.iconst 0, 1) := by decide +kernel
theorem dD_laySegments_87 : decode cD_laySegments 87 = .ok (.invokevirtual 215, 3) := by decide +kernel
theorem dD_laySegments_90 : decode cD_laySegments 90 = .ok (.goto 13, 3) := by decide +kernel
theorem dD_laySegments_93 : decode cD_laySegments 93 = .ok (.aload_n 0, 1) := by decide +kernel
theorem dD_laySegments_94 : decode cD_laySegments 94 = .ok (.iload_n 2, 1) := by decide +kernel
theorem dD_laySegments_95 : decode cD_laySegments 95 = .ok (.invokevirtual 215, 3) := by decide +kernel
theorem dD_laySegments_98 : decode cD_laySegments 98 = .ok (.aload_n 0, 1) := by decide +kernel
theorem dD_laySegments_99 : decode cD_laySegments 99 = .ok (.iconst 0, 1) := by decide +kernel
theorem dD_laySegments_100 : decode cD_laySegments 100 = .ok (.invokevirtual 215, 3) := by decide +kernel
theorem dD_laySegments_103 : decode cD_laySegments 103 = .ok (.aload_n 0, 1) := by decide +kernel
theorem dD_laySegments_104 : decode cD_laySegments 104 = .ok (.iload_n 3, 1) := by decide +kernel
theorem dD_laySegments_105 : decode cD_laySegments 105 = .ok (.invokevirtual 227, 3) := by decide +kernel
theorem dD_laySegments_108 : decode cD_laySegments 108 = .ok (.iinc 2 1, 3) := by decide +kernel
theorem dD_laySegments_111 : decode cD_laySegments 111 = .ok (.goto (-109), 3) := by decide +kernel
theorem dD_laySegments_114 : decode cD_laySegments 114 = .ok (.iconst (-1), 1) := by decide +kernel
theorem dD_laySegments_115 : decode cD_laySegments 115 = .ok (.istore_n 2, 1) := by decide +kernel
theorem dD_laySegments_116 : decode cD_laySegments 116 = .ok (.iload_n 2, 1) := by decide +kernel
theorem dD_laySegments_117 : decode cD_laySegments 117 = .ok (.aload_n 0, 1) := by decide +kernel
theorem dD_laySegments_118 : decode cD_laySegments 118 = .ok (.getfield 23, 3) := by decide +kernel
theorem dD_laySegments_121 : decode cD_laySegments 121 = .ok (.iconst 2, 1) := by decide +kernel
theorem dD_laySegments_122 : decode cD_laySegments 122 = .ok (.iaload, 1) := by decide +kernel
theorem dD_laySegments_123 : decode cD_laySegments 123 = .ok (.if_icmp .ge 63, 3) := by decide +kernel
theorem dD_laySegments_126 : decode cD_laySegments 126 = .ok (.iload_n 1, 1) := by decide +kernel
theorem dD_laySegments_127 : decode cD_laySegments 127 = .ok (.iload_n 2, 1) := by decide +kernel
theorem dD_laySegments_128 : decode cD_laySegments 128 = .ok (.invokestatic 121, 3) := by decide +kernel
theorem dD_laySegments_131 : decode cD_laySegments 131 = .ok (.istore_n 3, 1) := by decide +kernel
theorem dD_laySegments_132 : decode cD_laySegments 132 = .ok (.aload_n 0, 1) := by decide +kernel
theorem dD_laySegments_133 : decode cD_laySegments 133 = .ok (.getfield 17, 3) := by decide +kernel
theorem dD_laySegments_136 : decode cD_laySegments 136 = .ok (.iload_n 3, 1) := by decide +kernel
theorem dD_laySegments_137 : decode cD_laySegments 137 = .ok (.baload, 1) := by decide +kernel
theorem dD_laySegments_138 : decode cD_laySegments 138 = .ok (.ifCond .eq 42, 3) := by decide +kernel
theorem dD_laySegments_141 : decode cD_laySegments 141 = .ok (.aload_n 0, 1) := by decide +kernel
theorem dD_laySegments_142 : decode cD_laySegments 142 = .ok (.iload_n 2, 1) := by decide +kernel
theorem dD_laySegments_143 : decode cD_laySegments 143 = .ok (.ifCond .ge 8, 3) := by decide +kernel
theorem dD_laySegments_146 : decode cD_laySegments 146 = .ok (.bipush 92, 2) := by decide +kernel
theorem dD_laySegments_148 : decode cD_laySegments 148 = .ok (.goto 5, 3) := by decide +kernel
theorem dD_laySegments_151 : decode cD_laySegments 151 = .ok (.bipush 93, 2) := by decide +kernel
theorem dD_laySegments_153 : decode cD_laySegments 153 = .ok (.iload_n 2, 1) := by decide +kernel
theorem dD_laySegments_154 : decode cD_laySegments 154 = .ok (.ifCond .ge 7, 3) := by decide +kernel
theorem dD_laySegments_157 : decode cD_laySegments 157 = .ok (.iconst 5, 1) := by decide +kernel
theorem dD_laySegments_158 : decode cD_laySegments 158 = .ok (.goto 5, 3) := by decide +kernel
theorem dD_laySegments_161 : decode cD_laySegments 161 = .ok (.bipush 6, 2) := by decide +kernel
theorem dD_laySegments_163 : decode cD_laySegments 163 = .ok (.invokevirtual 223, 3) := by decide +kernel
theorem dD_laySegments_166 : decode cD_laySegments 166 = .ok (.iload_n 2, 1) := by decide +kernel
theorem dD_laySegments_167 : decode cD_laySegments 167 = .ok (.ifCond .lt 8, 3) := by decide +kernel
theorem dD_laySegments_170 : decode cD_laySegments 170 = .ok (.aload_n 0, 1) := by decide +kernel
theorem dD_laySegments_171 : decode cD_laySegments 171 = .ok (.iload_n 2, 1) := by decide +kernel
theorem dD_laySegments_172 : decode cD_laySegments 172 = .ok (.invokevirtual 215, 3) := by decide +kernel
theorem dD_laySegments_175 : decode cD_laySegments 175 = .ok (.aload_n 0, 1) := by decide +kernel
theorem dD_laySegments_176 : decode cD_laySegments 176 = .ok (.iload_n 3, 1) := by decide +kernel
theorem dD_laySegments_177 : decode cD_laySegments 177 = .ok (.invokevirtual 230, 3) := by decide +kernel
theorem dD_laySegments_180 : decode cD_laySegments 180 = .ok (.iinc 2 1, 3) := by decide +kernel
theorem dD_laySegments_183 : decode cD_laySegments 183 = .ok (.goto (-67), 3) := by decide +kernel
theorem dD_laySegments_186 : decode cD_laySegments 186 = .ok (.return_, 1) := by decide +kernel
theorem dD_layLengths_0 : decode cD_layLengths 0 = .ok (.aload_n 0, 1) := by decide +kernel
theorem dD_layLengths_1 : decode cD_layLengths 1 = .ok (.getfield 212, 3) := by decide +kernel
theorem dD_layLengths_4 : decode cD_layLengths 4 = .ok (.istore_n 2, 1) := by decide +kernel
theorem dD_layLengths_5 : decode cD_layLengths 5 = .ok (.aload_n 0, 1) := by decide +kernel
theorem dD_layLengths_6 : decode cD_layLengths 6 = .ok (.bipush 88, 2) := by decide +kernel
theorem dD_layLengths_8 : decode cD_layLengths 8 = .ok (.iconst 0, 1) := by decide +kernel
theorem dD_layLengths_9 : decode cD_layLengths 9 = .ok (.invokevirtual 223, 3) := by decide +kernel
theorem dD_layLengths_12 : decode cD_layLengths 12 = .ok (.aload_n 0, 1) := by decide +kernel
theorem dD_layLengths_13 : decode cD_layLengths 13 = .ok (.iconst 0, 1) := by decide +kernel
theorem dD_layLengths_14 : decode cD_layLengths 14 = .ok (.invokevirtual 215, 3) := by decide +kernel
theorem dD_layLengths_17 : decode cD_layLengths 17 = .ok (.iconst 0, 1) := by decide +kernel
theorem dD_layLengths_18 : decode cD_layLengths 18 = .ok (.istore_n 3, 1) := by decide +kernel
theorem dD_layLengths_19 : decode cD_layLengths 19 = .ok (.iload_n 3, 1) := by decide +kernel
theorem dD_layLengths_20 : decode cD_layLengths 20 = .ok (.aload_n 0, 1) := by decide +kernel
theorem dD_layLengths_21 : decode cD_layLengths 21 = .ok (.getfield 29, 3) := by decide +kernel
theorem dD_layLengths_24 : decode cD_layLengths 24 = .ok (.iload_n 1, 1) := by decide +kernel
theorem dD_layLengths_25 : decode cD_layLengths 25 = .ok (.iaload, 1) := by decide +kernel
theorem dD_layLengths_26 : decode cD_layLengths 26 = .ok (.if_icmp .ge 75, 3) := by decide +kernel
theorem dD_layLengths_29 : decode cD_layLengths 29 = .ok (.aload_n 0, 1) := by decide +kernel
theorem dD_layLengths_30 : decode cD_layLengths 30 = .ok (.getfield 32, 3) := by decide +kernel
theorem dD_layLengths_33 : decode cD_layLengths 33 = .ok (.bipush 20, 2) := by decide +kernel
theorem dD_layLengths_35 : decode cD_layLengths 35 = .ok (.iload_n 1, 1) := by decide +kernel
theorem dD_layLengths_36 : decode cD_layLengths 36 = .ok (.imul, 1) := by decide +kernel
theorem dD_layLengths_37 : decode cD_layLengths 37 = .ok (.iload_n 3, 1) := by decide +kernel
theorem dD_layLengths_38 : decode cD_layLengths 38 = .ok (.iadd, 1) := by decide +kernel
theorem dD_layLengths_39 : decode cD_layLengths 39 = .ok (.iaload, 1) := by decide +kernel
theorem dD_layLengths_40 : decode cD_layLengths 40 = .ok (.istore 4, 2) := by decide +kernel
theorem dD_layLengths_42 : decode cD_layLengths 42 = .ok (.bipush 28, 2) := by decide +kernel
theorem dD_layLengths_44 : decode cD_layLengths 44 = .ok (.istore 5, 2) := by decide +kernel
theorem dD_layLengths_46 : decode cD_layLengths 46 = .ok (.iload 5, 2) := by decide +kernel
theorem dD_layLengths_48 : decode cD_layLengths 48 = .ok (.ifCond .lt 47, 3) := by decide +kernel
theorem dD_layLengths_51 : decode cD_layLengths 51 = .ok (.iload 4, 2) := by decide +kernel
theorem dD_layLengths_53 : decode cD_layLengths 53 = .ok (.iload 5, 2) := by decide +kernel
theorem dD_layLengths_55 : decode cD_layLengths 55 = .ok (.ishr, 1) := by decide +kernel
theorem dD_layLengths_56 : decode cD_layLengths 56 = .ok (.ifCond .gt 8, 3) := by decide +kernel
theorem dD_layLengths_59 : decode cD_layLengths 59 = .ok (.iload 5, 2) := by decide +kernel
theorem dD_layLengths_61 : decode cD_layLengths 61 = .ok (.ifCond .ne 28, 3) := by decide +kernel
theorem dD_layLengths_64 : decode cD_layLengths 64 = .ok (.aload_n 0, 1) := by decide +kernel
theorem dD_layLengths_65 : decode cD_layLengths 65 = .ok (.iload 4, 2) := by decide +kernel
theorem dD_layLengths_67 : decode cD_layLengths 67 = .ok (.iload 5, 2) := by decide +kernel
theorem dD_layLengths_69 : decode cD_layLengths 69 = .ok (.ishr, 1) := by decide +kernel
theorem dD_layLengths_70 : decode cD_layLengths 70 = .ok (.bipush 127, 2) := by decide +kernel
theorem dD_layLengths_72 : decode cD_layLengths 72 = .ok (.iand, 1) := by decide +kernel
theorem dD_layLengths_73 : decode cD_layLengths 73 = .ok (.iload 5, 2) := by decide +kernel
theorem dD_layLengths_75 : decode cD_layLengths 75 = .ok (.ifCond .le 9, 3) := by decide +kernel
theorem dD_layLengths_78 : decode cD_layLengths 78 = .ok (.sipush 128, 3) := by decide +kernel
theorem dD_layLengths_81 : decode cD_layLengths 81 = .ok (.goto 4, 3) := by decide +kernel
theorem dD_layLengths_84 : decode cD_layLengths 84 = .ok (.iconst 0, 1) := by decide +kernel
theorem dD_layLengths_85 : decode cD_layLengths 85 = .ok (.ior, 1) := by decide +kernel
theorem dD_layLengths_86 : decode cD_layLengths 86 = .ok (.invokevirtual 215, 3) := by decide +kernel
theorem dD_layLengths_89 : decode cD_layLengths 89 = .ok (.iinc 5 (-7), 3) := by decide +kernel
theorem dD_layLengths_92 : decode cD_layLengths 92 = .ok (.goto (-46), 3) := by decide +kernel
theorem dD_layLengths_95 : decode cD_layLengths 95 = .ok (.iinc 3 1, 3) := by decide +kernel
theorem dD_layLengths_98 : decode cD_layLengths 98 = .ok (.goto (-79), 3) := by decide +kernel
theorem dD_layLengths_101 : decode cD_layLengths 101 = .ok (.aload_n 0, 1) := by decide +kernel
theorem dD_layLengths_102 : decode cD_layLengths 102 = .ok (.getfield 212, 3) := by decide +kernel
theorem dD_layLengths_105 : decode cD_layLengths 105 = .ok (.iload_n 2, 1) := by decide +kernel
theorem dD_layLengths_106 : decode cD_layLengths 106 = .ok (.isub, 1) := by decide +kernel
theorem dD_layLengths_107 : decode cD_layLengths 107 = .ok (.iconst 2, 1) := by decide +kernel
theorem dD_layLengths_108 : decode cD_layLengths 108 = .ok (.isub, 1) := by decide +kernel
theorem dD_layLengths_109 : decode cD_layLengths 109 = .ok (.istore_n 3, 1) := by decide +kernel
theorem dD_layLengths_110 : decode cD_layLengths 110 = .ok (.aload_n 0, 1) := by decide +kernel
theorem dD_layLengths_111 : decode cD_layLengths 111 = .ok (.getfield 54, 3) := by decide +kernel
theorem dD_layLengths_114 : decode cD_layLengths 114 = .ok (.iload_n 2, 1) := by decide +kernel
theorem dD_layLengths_115 : decode cD_layLengths 115 = .ok (.iconst 2, 1) := by decide +kernel
theorem dD_layLengths_116 : decode cD_layLengths 116 = .ok (.iadd, 1) := by decide +kernel
theorem dD_layLengths_117 : decode cD_layLengths 117 = .ok (.iload_n 3, 1) := by decide +kernel
theorem dD_layLengths_118 : decode cD_layLengths 118 = .ok (.bipush 8, 2) := by decide +kernel
theorem dD_layLengths_120 : decode cD_layLengths 120 = .ok (.ishr, 1) := by decide +kernel
theorem dD_layLengths_121 : decode cD_layLengths 121 = .ok (.iastore, 1) := by decide +kernel
theorem dD_layLengths_122 : decode cD_layLengths 122 = .ok (.aload_n 0, 1) := by decide +kernel
theorem dD_layLengths_123 : decode cD_layLengths 123 = .ok (.getfield 54, 3) := by decide +kernel
theorem dD_layLengths_126 : decode cD_layLengths 126 = .ok (.iload_n 2, 1) := by decide +kernel
theorem dD_layLengths_127 : decode cD_layLengths 127 = .ok (.iconst 3, 1) := by decide +kernel
theorem dD_layLengths_128 : decode cD_layLengths 128 = .ok (.iadd, 1) := by decide +kernel
theorem dD_layLengths_129 : decode cD_layLengths 129 = .ok (.iload_n 3, 1) := by decide +kernel
theorem dD_layLengths_130 : decode cD_layLengths 130 = .ok (.sipush 255, 3) := by decide +kernel
theorem dD_layLengths_133 : decode cD_layLengths 133 = .ok (.iand, 1) := by decide +kernel
theorem dD_layLengths_134 : decode cD_layLengths 134 = .ok (.iastore, 1) := by decide +kernel
theorem dD_layLengths_135 : decode cD_layLengths 135 = .ok (.return_, 1) := by decide +kernel
theorem dD_layPart_0 : decode cD_layPart 0 = .ok (.aload_n 0, 1) := by decide +kernel
theorem dD_layPart_1 : decode cD_layPart 1 = .ok (.getfield 212, 3) := by decide +kernel
theorem dD_layPart_4 : decode cD_layPart 4 = .ok (.istore_n 3, 1) := by decide +kernel
theorem dD_layPart_5 : decode cD_layPart 5 = .ok (.aload_n 0, 1) := by decide +kernel
theorem dD_layPart_6 : decode cD_layPart 6 = .ok (.sipush 144, 3) := by decide +kernel
theorem dD_layPart_9 : decode cD_layPart 9 = .ok (.bipush 10, 2) := by decide +kernel
theorem dD_layPart_11 : decode cD_layPart 11 = .ok (.invokevirtual 223, 3) := by decide +kernel
theorem dD_layPart_14 : decode cD_layPart 14 = .ok (.aload_n 0, 1) := by decide +kernel
theorem dD_layPart_15 : decode cD_layPart 15 = .ok (.aload_n 0, 1) := by decide +kernel
theorem dD_layPart_16 : decode cD_layPart 16 = .ok (.getfield 26, 3) := by decide +kernel
theorem dD_layPart_19 : decode cD_layPart 19 = .ok (.iload_n 1, 1) := by decide +kernel
theorem dD_layPart_20 : decode cD_layPart 20 = .ok (.iaload, 1) := by decide +kernel
theorem dD_layPart_21 : decode cD_layPart 21 = .ok (.invokevirtual 219, 3) := by decide +kernel
theorem dD_layPart_24 : decode cD_layPart 24 = .ok (.aload_n 0, 1) := by decide +kernel
theorem dD_layPart_25 : decode cD_layPart 25 = .ok (.iconst 0, 1) := by decide +kernel
theorem dD_layPart_26 : decode cD_layPart 26 = .ok (.invokevirtual 233, 3) := by decide +kernel
theorem dD_layPart_29 : decode cD_layPart 29 = .ok (.aload_n 0, 1) := by decide +kernel
theorem dD_layPart_30 : decode cD_layPart 30 = .ok (.iload_n 2, 1) := by decide +kernel
theorem dD_layPart_31 : decode cD_layPart 31 = .ok (.invokevirtual 215, 3) := by decide +kernel
theorem dD_layPart_34 : decode cD_layPart 34 = .ok (.aload_n 0, 1) := by decide +kernel
theorem dD_layPart_35 : decode cD_layPart 35 = .ok (.iconst 0, 1) := by decide +kernel
theorem dD_layPart_36 : decode cD_layPart 36 = .ok (.invokevirtual 215, 3) := by decide +kernel
theorem dD_layPart_39 : decode cD_layPart 39 = .ok (.iload_n 2, 1) := by decide +kernel
theorem dD_layPart_40 : decode cD_layPart 40 = .ok (.ifCond .ne 13, 3) := by decide +kernel
theorem dD_layPart_43 : decode cD_layPart 43 = .ok (.aload_n 0, 1) := by decide +kernel
theorem dD_layPart_44 : decode cD_layPart 44 = .ok (.aload_n 0, 1) := by decide +kernel
theorem dD_layPart_45 : decode cD_layPart 45 = .ok (.getfield 26, 3) := by decide +kernel
theorem dD_layPart_48 : decode cD_layPart 48 = .ok (.iload_n 1, 1) := by decide +kernel
theorem dD_layPart_49 : decode cD_layPart 49 = .ok (.iaload, 1) := by decide +kernel
theorem dD_layPart_50 : decode cD_layPart 50 = .ok (.invokevirtual 236, 3) := by decide +kernel
theorem dD_layPart_53 : decode cD_layPart 53 = .ok (.aload_n 0, 1) := by decide +kernel
theorem dD_layPart_54 : decode cD_layPart 54 = .ok (.getfield 29, 3) := by decide +kernel
theorem dD_layPart_57 : decode cD_layPart 57 = .ok (.iload_n 1, 1) := by decide +kernel
theorem dD_layPart_58 : decode cD_layPart 58 = .ok (.iaload, 1) := by decide +kernel
theorem dD_layPart_59 : decode cD_layPart 59 = .ok (.ifCond .le 8, 3) := by decide +kernel
theorem dD_layPart_62 : decode cD_layPart 62 = .ok (.aload_n 0, 1) := by decide +kernel
theorem dD_layPart_63 : decode cD_layPart 63 = .ok (.iload_n 1, 1) := by decide +kernel
theorem dD_layPart_64 : decode cD_layPart 64 = .ok (.invokevirtual 239, 3) := by decide +kernel
theorem dD_layPart_67 : decode cD_layPart 67 = .ok (.aload_n 0, 1) := by decide +kernel
theorem dD_layPart_68 : decode cD_layPart 68 = .ok (.sipush 255, 3) := by decide +kernel
theorem dD_layPart_71 : decode cD_layPart 71 = .ok (.invokevirtual 215, 3) := by decide +kernel
theorem dD_layPart_74 : decode cD_layPart 74 = .ok (.aload_n 0, 1) := by decide +kernel
theorem dD_layPart_75 : decode cD_layPart 75 = .ok (.sipush 147, 3) := by decide +kernel
theorem dD_layPart_78 : decode cD_layPart 78 = .ok (.invokevirtual 215, 3) := by decide +kernel
theorem dD_layPart_81 : decode cD_layPart 81 = .ok (.iconst 0, 1) := by decide +kernel
theorem dD_layPart_82 : decode cD_layPart 82 = .ok (.istore 4, 2) := by decide +kernel
theorem dD_layPart_84 : decode cD_layPart 84 = .ok (.iload 4, 2) := by decide +kernel
theorem dD_layPart_86 : decode cD_layPart 86 = .ok (.aload_n 0, 1) := by decide +kernel
theorem dD_layPart_87 : decode cD_layPart 87 = .ok (.getfield 35, 3) := by decide +kernel
theorem dD_layPart_90 : decode cD_layPart 90 = .ok (.iload_n 1, 1) := by decide +kernel
theorem dD_layPart_91 : decode cD_layPart 91 = .ok (.iaload, 1) := by decide +kernel
theorem dD_layPart_92 : decode cD_layPart 92 = .ok (.if_icmp .ge 26, 3) := by decide +kernel
theorem dD_layPart_95 : decode cD_layPart 95 = .ok (.aload_n 0, 1) := by decide +kernel
theorem dD_layPart_96 : decode cD_layPart 96 = .ok (.aload_n 0, 1) := by decide +kernel
theorem dD_layPart_97 : decode cD_layPart 97 = .ok (.getfield 38, 3) := by decide +kernel
theorem dD_layPart_100 : decode cD_layPart 100 = .ok (.sipush 300, 3) := by decide +kernel
theorem dD_layPart_103 : decode cD_layPart 103 = .ok (.iload_n 1, 1) := by decide +kernel
theorem dD_layPart_104 : decode cD_layPart 104 = .ok (.imul, 1) := by decide +kernel
theorem dD_layPart_105 : decode cD_layPart 105 = .ok (.iload 4, 2) := by decide +kernel
theorem dD_layPart_107 : decode cD_layPart 107 = .ok (.iadd, 1) := by decide +kernel
theorem dD_layPart_108 : decode cD_layPart 108 = .ok (.iaload, 1) := by decide +kernel
theorem dD_layPart_109 : decode cD_layPart 109 = .ok (.invokevirtual 215, 3) := by decide +kernel
theorem dD_layPart_112 : decode cD_layPart 112 = .ok (.iinc 4 1, 3) := by decide +kernel
theorem dD_layPart_115 : decode cD_layPart 115 = .ok (.goto (-31), 3) := by decide +kernel
theorem dD_layPart_118 : decode cD_layPart 118 = .ok (.aload_n 0, 1) := by decide +kernel
theorem dD_layPart_119 : decode cD_layPart 119 = .ok (.getfield 212, 3) := by decide +kernel
theorem dD_layPart_122 : decode cD_layPart 122 = .ok (.iload_n 3, 1) := by decide +kernel
theorem dD_layPart_123 : decode cD_layPart 123 = .ok (.isub, 1) := by decide +kernel
theorem dD_layPart_124 : decode cD_layPart 124 = .ok (.istore 4, 2) := by decide +kernel
theorem dD_layPart_126 : decode cD_layPart 126 = .ok (.iconst 0, 1) := by decide +kernel
theorem dD_layPart_127 : decode cD_layPart 127 = .ok (.istore 5, 2) := by decide +kernel
theorem dD_layPart_129 : decode cD_layPart 129 = .ok (.iload 5, 2) := by decide +kernel
theorem dD_layPart_131 : decode cD_layPart 131 = .ok (.iconst 4, 1) := by decide +kernel
theorem dD_layPart_132 : decode cD_layPart 132 = .ok (.if_icmp .ge 36, 3) := by decide +kernel
theorem dD_layPart_135 : decode cD_layPart 135 = .ok (.aload_n 0, 1) := by decide +kernel
theorem dD_layPart_136 : decode cD_layPart 136 = .ok (.getfield 54, 3) := by decide +kernel
theorem dD_layPart_139 : decode cD_layPart 139 = .ok (.iload_n 3, 1) := by decide +kernel
theorem dD_layPart_140 : decode cD_layPart 140 = .ok (.bipush 6, 2) := by decide +kernel
theorem dD_layPart_142 : decode cD_layPart 142 = .ok (.iadd, 1) := by decide +kernel
theorem dD_layPart_143 : decode cD_layPart 143 = .ok (.iload 5, 2) := by decide +kernel
theorem dD_layPart_145 : decode cD_layPart 145 = .ok (.iadd, 1) := by decide +kernel
theorem dD_layPart_146 : decode cD_layPart 146 = .ok (.iload 4, 2) := by decide +kernel
theorem dD_layPart_148 : decode cD_layPart 148 = .ok (.bipush 24, 2) := by decide +kernel
theorem dD_layPart_150 : decode cD_layPart 150 = .ok (.bipush 8, 2) := by decide +kernel
theorem dD_layPart_152 : decode cD_layPart 152 = .ok (.iload 5, 2) := by decide +kernel
theorem dD_layPart_154 : decode cD_layPart 154 = .ok (.imul, 1) := by decide +kernel
theorem dD_layPart_155 : decode cD_layPart 155 = .ok (.isub, 1) := by decide +kernel
theorem dD_layPart_156 : decode cD_layPart 156 = .ok (.ishr, 1) := by decide +kernel
theorem dD_layPart_157 : decode cD_layPart 157 = .ok (.sipush 255, 3) := by decide +kernel
theorem dD_layPart_160 : decode cD_layPart 160 = .ok (.iand, 1) := by decide +kernel
theorem dD_layPart_161 : decode cD_layPart 161 = .ok (.iastore, 1) := by decide +kernel
theorem dD_layPart_162 : decode cD_layPart 162 = .ok (.iinc 5 1, 3) := by decide +kernel
theorem dD_layPart_165 : decode cD_layPart 165 = .ok (.goto (-36), 3) := by decide +kernel
theorem dD_layPart_168 : decode cD_layPart 168 = .ok (.return_, 1) := by decide +kernel
theorem dD_layStream_0 : decode cD_layStream 0 = .ok (.aload_n 0, 1) := by decide +kernel
theorem dD_layStream_1 : decode cD_layStream 1 = .ok (.sipush 255, 3) := by decide +kernel
theorem dD_layStream_4 : decode cD_layStream 4 = .ok (.invokevirtual 215, 3) := by decide +kernel
theorem dD_layStream_7 : decode cD_layStream 7 = .ok (.aload_n 0, 1) := by decide +kernel
theorem dD_layStream_8 : decode cD_layStream 8 = .ok (.bipush 79, 2) := by decide +kernel
theorem dD_layStream_10 : decode cD_layStream 10 = .ok (.invokevirtual 215, 3) := by decide +kernel
theorem dD_layStream_13 : decode cD_layStream 13 = .ok (.aload_n 0, 1) := by decide +kernel
theorem dD_layStream_14 : decode cD_layStream 14 = .ok (.bipush 81, 2) := by decide +kernel
theorem dD_layStream_16 : decode cD_layStream 16 = .ok (.bipush 38, 2) := by decide +kernel
theorem dD_layStream_18 : decode cD_layStream 18 = .ok (.iconst 3, 1) := by decide +kernel
theorem dD_layStream_19 : decode cD_layStream 19 = .ok (.aload_n 0, 1) := by decide +kernel
theorem dD_layStream_20 : decode cD_layStream 20 = .ok (.getfield 23, 3) := by decide +kernel
theorem dD_layStream_23 : decode cD_layStream 23 = .ok (.iconst 2, 1) := by decide +kernel
theorem dD_layStream_24 : decode cD_layStream 24 = .ok (.iaload, 1) := by decide +kernel
theorem dD_layStream_25 : decode cD_layStream 25 = .ok (.imul, 1) := by decide +kernel
theorem dD_layStream_26 : decode cD_layStream 26 = .ok (.iadd, 1) := by decide +kernel
theorem dD_layStream_27 : decode cD_layStream 27 = .ok (.invokevirtual 223, 3) := by decide +kernel
theorem dD_layStream_30 : decode cD_layStream 30 = .ok (.aload_n 0, 1) := by decide +kernel
theorem dD_layStream_31 : decode cD_layStream 31 = .ok (.iconst 0, 1) := by decide +kernel
theorem dD_layStream_32 : decode cD_layStream 32 = .ok (.invokevirtual 219, 3) := by decide +kernel
theorem dD_layStream_35 : decode cD_layStream 35 = .ok (.aload_n 0, 1) := by decide +kernel
theorem dD_layStream_36 : decode cD_layStream 36 = .ok (.aload_n 0, 1) := by decide +kernel
theorem dD_layStream_37 : decode cD_layStream 37 = .ok (.getfield 23, 3) := by decide +kernel
theorem dD_layStream_40 : decode cD_layStream 40 = .ok (.iconst 0, 1) := by decide +kernel
theorem dD_layStream_41 : decode cD_layStream 41 = .ok (.iaload, 1) := by decide +kernel
theorem dD_layStream_42 : decode cD_layStream 42 = .ok (.invokevirtual 233, 3) := by decide +kernel
theorem dD_layStream_45 : decode cD_layStream 45 = .ok (.aload_n 0, 1) := by decide +kernel
theorem dD_layStream_46 : decode cD_layStream 46 = .ok (.aload_n 0, 1) := by decide +kernel
theorem dD_layStream_47 : decode cD_layStream 47 = .ok (.getfield 23, 3) := by decide +kernel
theorem dD_layStream_50 : decode cD_layStream 50 = .ok (.iconst 1, 1) := by decide +kernel
theorem dD_layStream_51 : decode cD_layStream 51 = .ok (.iaload, 1) := by decide +kernel
theorem dD_layStream_52 : decode cD_layStream 52 = .ok (.invokevirtual 233, 3) := by decide +kernel
theorem dD_layStream_55 : decode cD_layStream 55 = .ok (.aload_n 0, 1) := by decide +kernel
theorem dD_layStream_56 : decode cD_layStream 56 = .ok (.iconst 0, 1) := by decide +kernel
theorem dD_layStream_57 : decode cD_layStream 57 = .ok (.invokevirtual 233, 3) := by decide +kernel
theorem dD_layStream_60 : decode cD_layStream 60 = .ok (.aload_n 0, 1) := by decide +kernel
theorem dD_layStream_61 : decode cD_layStream 61 = .ok (.iconst 0, 1) := by decide +kernel
theorem dD_layStream_62 : decode cD_layStream 62 = .ok (.invokevirtual 233, 3) := by decide +kernel
theorem dD_layStream_65 : decode cD_layStream 65 = .ok (.aload_n 0, 1) := by decide +kernel
theorem dD_layStream_66 : decode cD_layStream 66 = .ok (.aload_n 0, 1) := by decide +kernel
theorem dD_layStream_67 : decode cD_layStream 67 = .ok (.getfield 23, 3) := by decide +kernel
theorem dD_layStream_70 : decode cD_layStream 70 = .ok (.iconst 3, 1) := by decide +kernel
theorem dD_layStream_71 : decode cD_layStream 71 = .ok (.iaload, 1) := by decide +kernel
theorem dD_layStream_72 : decode cD_layStream 72 = .ok (.invokevirtual 233, 3) := by decide +kernel
theorem dD_layStream_75 : decode cD_layStream 75 = .ok (.aload_n 0, 1) := by decide +kernel
theorem dD_layStream_76 : decode cD_layStream 76 = .ok (.aload_n 0, 1) := by decide +kernel
theorem dD_layStream_77 : decode cD_layStream 77 = .ok (.getfield 23, 3) := by decide +kernel
theorem dD_layStream_80 : decode cD_layStream 80 = .ok (.iconst 4, 1) := by decide +kernel
theorem dD_layStream_81 : decode cD_layStream 81 = .ok (.iaload, 1) := by decide +kernel
theorem dD_layStream_82 : decode cD_layStream 82 = .ok (.invokevirtual 233, 3) := by decide +kernel
theorem dD_layStream_85 : decode cD_layStream 85 = .ok (.aload_n 0, 1) := by decide +kernel
theorem dD_layStream_86 : decode cD_layStream 86 = .ok (.iconst 0, 1) := by decide +kernel
theorem dD_layStream_87 : decode cD_layStream 87 = .ok (.invokevirtual 233, 3) := by decide +kernel
theorem dD_layStream_90 : decode cD_layStream 90 = .ok (.aload_n 0, 1) := by decide +kernel
theorem dD_layStream_91 : decode cD_layStream 91 = .ok (.iconst 0, 1) := by decide +kernel
theorem dD_layStream_92 : decode cD_layStream 92 = .ok (.invokevirtual 233, 3) := by decide +kernel
theorem dD_layStream_95 : decode cD_layStream 95 = .ok (.aload_n 0, 1) := by decide +kernel
theorem dD_layStream_96 : decode cD_layStream 96 = .ok (.aload_n 0, 1) := by decide +kernel
theorem dD_layStream_97 : decode cD_layStream 97 = .ok (.getfield 23, 3) := by decide +kernel
theorem dD_layStream_100 : decode cD_layStream 100 = .ok (.iconst 2, 1) := by decide +kernel
theorem dD_layStream_101 : decode cD_layStream 101 = .ok (.iaload, 1) := by decide +kernel
theorem dD_layStream_102 : decode cD_layStream 102 = .ok (.invokevirtual 219, 3) := by decide +kernel
theorem dD_layStream_105 : decode cD_layStream 105 = .ok (.iconst 0, 1) := by decide +kernel
theorem dD_layStream_106 : decode cD_layStream 106 = .ok (.istore_n 1, 1) := by decide +kernel
theorem dD_layStream_107 : decode cD_layStream 107 = .ok (.iload_n 1, 1) := by decide +kernel
theorem dD_layStream_108 : decode cD_layStream 108 = .ok (.aload_n 0, 1) := by decide +kernel
theorem dD_layStream_109 : decode cD_layStream 109 = .ok (.getfield 23, 3) := by decide +kernel
theorem dD_layStream_112 : decode cD_layStream 112 = .ok (.iconst 2, 1) := by decide +kernel
theorem dD_layStream_113 : decode cD_layStream 113 = .ok (.iaload, 1) := by decide +kernel
theorem dD_layStream_114 : decode cD_layStream 114 = .ok (.if_icmp .ge 31, 3) := by decide +kernel
theorem dD_layStream_117 : decode cD_layStream 117 = .ok (.aload_n 0, 1) := by decide +kernel
theorem dD_layStream_118 : decode cD_layStream 118 = .ok (.aload_n 0, 1) := by decide +kernel
theorem dD_layStream_119 : decode cD_layStream 119 = .ok (.getfield 20, 3) := by decide +kernel
theorem dD_layStream_122 : decode cD_layStream 122 = .ok (.iload_n 1, 1) := by decide +kernel
theorem dD_layStream_123 : decode cD_layStream 123 = .ok (.iaload, 1) := by decide +kernel
theorem dD_layStream_124 : decode cD_layStream 124 = .ok (.iconst 1, 1) := by decide +kernel
theorem dD_layStream_125 : decode cD_layStream 125 = .ok (.isub, 1) := by decide +kernel
theorem dD_layStream_126 : decode cD_layStream 126 = .ok (.invokevirtual 215, 3) := by decide +kernel
theorem dD_layStream_129 : decode cD_layStream 129 = .ok (.aload_n 0, 1) := by decide +kernel
theorem dD_layStream_130 : decode cD_layStream 130 = .ok (.iconst 1, 1) := by decide +kernel
theorem dD_layStream_131 : decode cD_layStream 131 = .ok (.invokevirtual 215, 3) := by decide +kernel
theorem dD_layStream_134 : decode cD_layStream 134 = .ok (.aload_n 0, 1) := by decide +kernel
theorem dD_layStream_135 : decode cD_layStream 135 = .ok (.iconst 1, 1) := by decide +kernel
theorem dD_layStream_136 : decode cD_layStream 136 = .ok (.invokevirtual 215, 3) := by decide +kernel
theorem dD_layStream_139 : decode cD_layStream 139 = .ok (.iinc 1 1, 3) := by decide +kernel
theorem dD_layStream_142 : decode cD_layStream 142 = .ok (.goto (-35), 3) := by decide +kernel
theorem dD_layStream_145 : decode cD_layStream 145 = .ok (.aload_n 0, 1) := by decide +kernel
theorem dD_layStream_146 : decode cD_layStream 146 = .ok (.iconst (-1), 1) := by decide +kernel
theorem dD_layStream_147 : decode cD_layStream 147 = .ok (.invokevirtual 236, 3) := by decide +kernel
theorem dD_layStream_150 : decode cD_layStream 150 = .ok (.iconst 0, 1) := by decide +kernel
theorem dD_layStream_151 : decode cD_layStream 151 = .ok (.istore_n 1, 1) := by decide +kernel
theorem dD_layStream_152 : decode cD_layStream 152 = .ok (.iload_n 1, 1) := by decide +kernel
theorem dD_layStream_153 : decode cD_layStream 153 = .ok (.aload_n 0, 1) := by decide +kernel
theorem dD_layStream_154 : decode cD_layStream 154 = .ok (.getfield 145, 3) := by decide +kernel
theorem dD_layStream_157 : decode cD_layStream 157 = .ok (.if_icmp .ge 53, 3) := by decide +kernel
theorem dD_layStream_160 : decode cD_layStream 160 = .ok (.iconst 0, 1) := by decide +kernel
theorem dD_layStream_161 : decode cD_layStream 161 = .ok (.istore_n 2, 1) := by decide +kernel
theorem dD_layStream_162 : decode cD_layStream 162 = .ok (.iconst 0, 1) := by decide +kernel
theorem dD_layStream_163 : decode cD_layStream 163 = .ok (.istore_n 3, 1) := by decide +kernel
theorem dD_layStream_164 : decode cD_layStream 164 = .ok (.iload_n 3, 1) := by decide +kernel
theorem dD_layStream_165 : decode cD_layStream 165 = .ok (.iload_n 1, 1) := by decide +kernel
theorem dD_layStream_166 : decode cD_layStream 166 = .ok (.if_icmp .ge 32, 3) := by decide +kernel
theorem dD_layStream_169 : decode cD_layStream 169 = .ok (.iload_n 2, 1) := by decide +kernel
theorem dD_layStream_170 : decode cD_layStream 170 = .ok (.aload_n 0, 1) := by decide +kernel
theorem dD_layStream_171 : decode cD_layStream 171 = .ok (.getfield 26, 3) := by decide +kernel
theorem dD_layStream_174 : decode cD_layStream 174 = .ok (.iload_n 3, 1) := by decide +kernel
theorem dD_layStream_175 : decode cD_layStream 175 = .ok (.iaload, 1) := by decide +kernel
theorem dD_layStream_176 : decode cD_layStream 176 = .ok (.aload_n 0, 1) := by decide +kernel
theorem dD_layStream_177 : decode cD_layStream 177 = .ok (.getfield 26, 3) := by decide +kernel
theorem dD_layStream_180 : decode cD_layStream 180 = .ok (.iload_n 1, 1) := by decide +kernel
theorem dD_layStream_181 : decode cD_layStream 181 = .ok (.iaload, 1) := by decide +kernel
theorem dD_layStream_182 : decode cD_layStream 182 = .ok (.if_icmp .ne 7, 3) := by decide +kernel
theorem dD_layStream_185 : decode cD_layStream 185 = .ok (.iconst 1, 1) := by decide +kernel
theorem dD_layStream_186 : decode cD_layStream 186 = .ok (.goto 4, 3) := by decide +kernel
theorem dD_layStream_189 : decode cD_layStream 189 = .ok (.iconst 0, 1) := by decide +kernel
theorem dD_layStream_190 : decode cD_layStream 190 = .ok (.iadd, 1) := by decide +kernel
theorem dD_layStream_191 : decode cD_layStream 191 = .ok (.istore_n 2, 1) := by decide +kernel
theorem dD_layStream_192 : decode cD_layStream 192 = .ok (.iinc 3 1, 3) := by decide +kernel
theorem dD_layStream_195 : decode cD_layStream 195 = .ok (.goto (-31), 3) := by decide +kernel
theorem dD_layStream_198 : decode cD_layStream 198 = .ok (.aload_n 0, 1) := by decide +kernel
theorem dD_layStream_199 : decode cD_layStream 199 = .ok (.iload_n 1, 1) := by decide +kernel
theorem dD_layStream_200 : decode cD_layStream 200 = .ok (.iload_n 2, 1) := by decide +kernel
theorem dD_layStream_201 : decode cD_layStream 201 = .ok (.invokevirtual 242, 3) := by decide +kernel
theorem dD_layStream_204 : decode cD_layStream 204 = .ok (.iinc 1 1, 3) := by decide +kernel
theorem dD_layStream_207 : decode cD_layStream 207 = .ok (.goto (-55), 3) := by decide +kernel
theorem dD_layStream_210 : decode cD_layStream 210 = .ok (.aload_n 0, 1) := by decide +kernel
theorem dD_layStream_211 : decode cD_layStream 211 = .ok (.sipush 255, 3) := by decide +kernel
theorem dD_layStream_214 : decode cD_layStream 214 = .ok (.invokevirtual 215, 3) := by decide +kernel
theorem dD_layStream_217 : decode cD_layStream 217 = .ok (.aload_n 0, 1) := by decide +kernel
theorem dD_layStream_218 : decode cD_layStream 218 = .ok (.sipush 217, 3) := by decide +kernel
theorem dD_layStream_221 : decode cD_layStream 221 = .ok (.invokevirtual 215, 3) := by decide +kernel
theorem dD_layStream_224 : decode cD_layStream 224 = .ok (.return_, 1) := by decide +kernel
theorem dD_layBox_0 : decode cD_layBox 0 = .ok (.aload_n 0, 1) := by decide +kernel
theorem dD_layBox_1 : decode cD_layBox 1 = .ok (.bipush 8, 2) := by decide +kernel
theorem dD_layBox_3 : decode cD_layBox 3 = .ok (.aload_n 0, 1) := by decide +kernel
theorem dD_layBox_4 : decode cD_layBox 4 = .ok (.getfield 47, 3) := by decide +kernel
theorem dD_layBox_7 : decode cD_layBox 7 = .ok (.iload_n 1, 1) := by decide +kernel
theorem dD_layBox_8 : decode cD_layBox 8 = .ok (.iaload, 1) := by decide +kernel
theorem dD_layBox_9 : decode cD_layBox 9 = .ok (.iadd, 1) := by decide +kernel
theorem dD_layBox_10 : decode cD_layBox 10 = .ok (.invokevirtual 233, 3) := by decide +kernel
theorem dD_layBox_13 : decode cD_layBox 13 = .ok (.aload_n 0, 1) := by decide +kernel
theorem dD_layBox_14 : decode cD_layBox 14 = .ok (.aload_n 0, 1) := by decide +kernel
theorem dD_layBox_15 : decode cD_layBox 15 = .ok (.getfield 44, 3) := by decide +kernel
theorem dD_layBox_18 : decode cD_layBox 18 = .ok (.iload_n 1, 1) := by decide +kernel
theorem dD_layBox_19 : decode cD_layBox 19 = .ok (.iaload, 1) := by decide +kernel
theorem dD_layBox_20 : decode cD_layBox 20 = .ok (.invokevirtual 233, 3) := by decide +kernel
theorem dD_layBox_23 : decode cD_layBox 23 = .ok (.iconst 0, 1) := by decide +kernel
theorem dD_layBox_24 : decode cD_layBox 24 = .ok (.istore_n 2, 1) := by decide +kernel
theorem dD_layBox_25 : decode cD_layBox 25 = .ok (.iload_n 2, 1) := by decide +kernel
theorem dD_layBox_26 : decode cD_layBox 26 = .ok (.aload_n 0, 1) := by decide +kernel
theorem dD_layBox_27 : decode cD_layBox 27 = .ok (.getfield 47, 3) := by decide +kernel
theorem dD_layBox_30 : decode cD_layBox 30 = .ok (.iload_n 1, 1) := by decide +kernel
theorem dD_layBox_31 : decode cD_layBox 31 = .ok (.iaload, 1) := by decide +kernel
theorem dD_layBox_32 : decode cD_layBox 32 = .ok (.if_icmp .ge 24, 3) := by decide +kernel
theorem dD_layBox_35 : decode cD_layBox 35 = .ok (.aload_n 0, 1) := by decide +kernel
theorem dD_layBox_36 : decode cD_layBox 36 = .ok (.aload_n 0, 1) := by decide +kernel
theorem dD_layBox_37 : decode cD_layBox 37 = .ok (.getfield 50, 3) := by decide +kernel
theorem dD_layBox_40 : decode cD_layBox 40 = .ok (.bipush 40, 2) := by decide +kernel
theorem dD_layBox_42 : decode cD_layBox 42 = .ok (.iload_n 1, 1) := by decide +kernel
theorem dD_layBox_43 : decode cD_layBox 43 = .ok (.imul, 1) := by decide +kernel
theorem dD_layBox_44 : decode cD_layBox 44 = .ok (.iload_n 2, 1) := by decide +kernel
theorem dD_layBox_45 : decode cD_layBox 45 = .ok (.iadd, 1) := by decide +kernel
theorem dD_layBox_46 : decode cD_layBox 46 = .ok (.iaload, 1) := by decide +kernel
theorem dD_layBox_47 : decode cD_layBox 47 = .ok (.invokevirtual 215, 3) := by decide +kernel
theorem dD_layBox_50 : decode cD_layBox 50 = .ok (.iinc 2 1, 3) := by decide +kernel
theorem dD_layBox_53 : decode cD_layBox 53 = .ok (.goto (-28), 3) := by decide +kernel
theorem dD_layBox_56 : decode cD_layBox 56 = .ok (.return_, 1) := by decide +kernel
theorem dD_layHeads_0 : decode cD_layHeads 0 = .ok (.aload_n 0, 1) := by decide +kernel
theorem dD_layHeads_1 : decode cD_layHeads 1 = .ok (.bipush 12, 2) := by decide +kernel
theorem dD_layHeads_3 : decode cD_layHeads 3 = .ok (.invokevirtual 233, 3) := by decide +kernel
theorem dD_layHeads_6 : decode cD_layHeads 6 = .ok (.aload_n 0, 1) := by decide +kernel
theorem dD_layHeads_7 : decode cD_layHeads 7 = .ok (.ldc 201, 2) := by decide +kernel
theorem dD_layHeads_9 : decode cD_layHeads 9 = .ok (.invokevirtual 233, 3) := by decide +kernel
theorem dD_layHeads_12 : decode cD_layHeads 12 = .ok (.aload_n 0, 1) := by decide +kernel
theorem dD_layHeads_13 : decode cD_layHeads 13 = .ok (.bipush 13, 2) := by decide +kernel
theorem dD_layHeads_15 : decode cD_layHeads 15 = .ok (.invokevirtual 215, 3) := by decide +kernel
theorem dD_layHeads_18 : decode cD_layHeads 18 = .ok (.aload_n 0, 1) := by decide +kernel
theorem dD_layHeads_19 : decode cD_layHeads 19 = .ok (.bipush 10, 2) := by decide +kernel
theorem dD_layHeads_21 : decode cD_layHeads 21 = .ok (.invokevirtual 215, 3) := by decide +kernel
theorem dD_layHeads_24 : decode cD_layHeads 24 = .ok (.aload_n 0, 1) := by decide +kernel
theorem dD_layHeads_25 : decode cD_layHeads 25 = .ok (.sipush 135, 3) := by decide +kernel
theorem dD_layHeads_28 : decode cD_layHeads 28 = .ok (.invokevirtual 215, 3) := by decide +kernel
theorem dD_layHeads_31 : decode cD_layHeads 31 = .ok (.aload_n 0, 1) := by decide +kernel
theorem dD_layHeads_32 : decode cD_layHeads 32 = .ok (.bipush 10, 2) := by decide +kernel
theorem dD_layHeads_34 : decode cD_layHeads 34 = .ok (.invokevirtual 215, 3) := by decide +kernel
theorem dD_layHeads_37 : decode cD_layHeads 37 = .ok (.aload_n 0, 1) := by decide +kernel
theorem dD_layHeads_38 : decode cD_layHeads 38 = .ok (.bipush 20, 2) := by decide +kernel
theorem dD_layHeads_40 : decode cD_layHeads 40 = .ok (.invokevirtual 233, 3) := by decide +kernel
theorem dD_layHeads_43 : decode cD_layHeads 43 = .ok (.aload_n 0, 1) := by decide +kernel
theorem dD_layHeads_44 : decode cD_layHeads 44 = .ok (.ldc 202, 2) := by decide +kernel
theorem dD_layHeads_46 : decode cD_layHeads 46 = .ok (.invokevirtual 233, 3) := by decide +kernel
theorem dD_layHeads_49 : decode cD_layHeads 49 = .ok (.aload_n 0, 1) := by decide +kernel
theorem dD_layHeads_50 : decode cD_layHeads 50 = .ok (.ldc 245, 2) := by decide +kernel
theorem dD_layHeads_52 : decode cD_layHeads 52 = .ok (.invokevirtual 233, 3) := by decide +kernel
theorem dD_layHeads_55 : decode cD_layHeads 55 = .ok (.aload_n 0, 1) := by decide +kernel
theorem dD_layHeads_56 : decode cD_layHeads 56 = .ok (.iconst 0, 1) := by decide +kernel
theorem dD_layHeads_57 : decode cD_layHeads 57 = .ok (.invokevirtual 233, 3) := by decide +kernel
theorem dD_layHeads_60 : decode cD_layHeads 60 = .ok (.aload_n 0, 1) := by decide +kernel
theorem dD_layHeads_61 : decode cD_layHeads 61 = .ok (.ldc 245, 2) := by decide +kernel
theorem dD_layHeads_63 : decode cD_layHeads 63 = .ok (.invokevirtual 233, 3) := by decide +kernel
theorem dD_layHeads_66 : decode cD_layHeads 66 = .ok (.bipush 30, 2) := by decide +kernel
theorem dD_layHeads_68 : decode cD_layHeads 68 = .ok (.istore_n 1, 1) := by decide +kernel
theorem dD_layHeads_69 : decode cD_layHeads 69 = .ok (.iconst 0, 1) := by decide +kernel
theorem dD_layHeads_70 : decode cD_layHeads 70 = .ok (.istore_n 2, 1) := by decide +kernel
theorem dD_layHeads_71 : decode cD_layHeads 71 = .ok (.iconst 0, 1) := by decide +kernel
theorem dD_layHeads_72 : decode cD_layHeads 72 = .ok (.istore_n 3, 1) := by decide +kernel
theorem dD_layHeads_73 : decode cD_layHeads 73 = .ok (.iload_n 3, 1) := by decide +kernel
theorem dD_layHeads_74 : decode cD_layHeads 74 = .ok (.aload_n 0, 1) := by decide +kernel
theorem dD_layHeads_75 : decode cD_layHeads 75 = .ok (.getfield 209, 3) := by decide +kernel
theorem dD_layHeads_78 : decode cD_layHeads 78 = .ok (.if_icmp .ge 34, 3) := by decide +kernel
theorem dD_layHeads_81 : decode cD_layHeads 81 = .ok (.iload_n 1, 1) := by decide +kernel
theorem dD_layHeads_82 : decode cD_layHeads 82 = .ok (.aload_n 0, 1) := by decide +kernel
theorem dD_layHeads_83 : decode cD_layHeads 83 = .ok (.getfield 41, 3) := by decide +kernel
theorem dD_layHeads_86 : decode cD_layHeads 86 = .ok (.iload_n 3, 1) := by decide +kernel
theorem dD_layHeads_87 : decode cD_layHeads 87 = .ok (.baload, 1) := by decide +kernel
theorem dD_layHeads_88 : decode cD_layHeads 88 = .ok (.ifCond .eq 15, 3) := by decide +kernel
theorem dD_layHeads_91 : decode cD_layHeads 91 = .ok (.bipush 8, 2) := by decide +kernel
theorem dD_layHeads_93 : decode cD_layHeads 93 = .ok (.aload_n 0, 1) := by decide +kernel
theorem dD_layHeads_94 : decode cD_layHeads 94 = .ok (.getfield 47, 3) := by decide +kernel
theorem dD_layHeads_97 : decode cD_layHeads 97 = .ok (.iload_n 3, 1) := by decide +kernel
theorem dD_layHeads_98 : decode cD_layHeads 98 = .ok (.iaload, 1) := by decide +kernel
theorem dD_layHeads_99 : decode cD_layHeads 99 = .ok (.iadd, 1) := by decide +kernel
theorem dD_layHeads_100 : decode cD_layHeads 100 = .ok (.goto 4, 3) := by decide +kernel
theorem dD_layHeads_103 : decode cD_layHeads 103 = .ok (.iconst 0, 1) := by decide +kernel
theorem dD_layHeads_104 : decode cD_layHeads 104 = .ok (.iadd, 1) := by decide +kernel
theorem dD_layHeads_105 : decode cD_layHeads 105 = .ok (.istore_n 1, 1) := by decide +kernel
theorem dD_layHeads_106 : decode cD_layHeads 106 = .ok (.iinc 3 1, 3) := by decide +kernel
theorem dD_layHeads_109 : decode cD_layHeads 109 = .ok (.goto (-36), 3) := by decide +kernel
theorem dD_layHeads_112 : decode cD_layHeads 112 = .ok (.iconst 0, 1) := by decide +kernel
theorem dD_layHeads_113 : decode cD_layHeads 113 = .ok (.istore_n 3, 1) := by decide +kernel
theorem dD_layHeads_114 : decode cD_layHeads 114 = .ok (.iload_n 3, 1) := by decide +kernel
theorem dD_layHeads_115 : decode cD_layHeads 115 = .ok (.aload_n 0, 1) := by decide +kernel
theorem dD_layHeads_116 : decode cD_layHeads 116 = .ok (.getfield 23, 3) := by decide +kernel
theorem dD_layHeads_119 : decode cD_layHeads 119 = .ok (.iconst 2, 1) := by decide +kernel
theorem dD_layHeads_120 : decode cD_layHeads 120 = .ok (.iaload, 1) := by decide +kernel
theorem dD_layHeads_121 : decode cD_layHeads 121 = .ok (.if_icmp .ge 30, 3) := by decide +kernel
theorem dD_layHeads_124 : decode cD_layHeads 124 = .ok (.aload_n 0, 1) := by decide +kernel
theorem dD_layHeads_125 : decode cD_layHeads 125 = .ok (.getfield 20, 3) := by decide +kernel
theorem dD_layHeads_128 : decode cD_layHeads 128 = .ok (.iload_n 3, 1) := by decide +kernel
theorem dD_layHeads_129 : decode cD_layHeads 129 = .ok (.iaload, 1) := by decide +kernel
theorem dD_layHeads_130 : decode cD_layHeads 130 = .ok (.iload_n 2, 1) := by decide +kernel
theorem dD_layHeads_131 : decode cD_layHeads 131 = .ok (.if_icmp .le 12, 3) := by decide +kernel
theorem dD_layHeads_134 : decode cD_layHeads 134 = .ok (.aload_n 0, 1) := by decide +kernel
theorem dD_layHeads_135 : decode cD_layHeads 135 = .ok (.getfield 20, 3) := by decide +kernel
theorem dD_layHeads_138 : decode cD_layHeads 138 = .ok (.iload_n 3, 1) := by decide +kernel
theorem dD_layHeads_139 : decode cD_layHeads 139 = .ok (.iaload, 1) := by decide +kernel
theorem dD_layHeads_140 : decode cD_layHeads 140 = .ok (.goto 4, 3) := by decide +kernel
theorem dD_layHeads_143 : decode cD_layHeads 143 = .ok (.iload_n 2, 1) := by decide +kernel
theorem dD_layHeads_144 : decode cD_layHeads 144 = .ok (.istore_n 2, 1) := by decide +kernel
theorem dD_layHeads_145 : decode cD_layHeads 145 = .ok (.iinc 3 1, 3) := by decide +kernel
theorem dD_layHeads_148 : decode cD_layHeads 148 = .ok (.goto (-34), 3) := by decide +kernel
theorem dD_layHeads_151 : decode cD_layHeads 151 = .ok (.aload_n 0, 1) := by decide +kernel
theorem dD_layHeads_152 : decode cD_layHeads 152 = .ok (.iload_n 1, 1) := by decide +kernel
theorem dD_layHeads_153 : decode cD_layHeads 153 = .ok (.invokevirtual 233, 3) := by decide +kernel
theorem dD_layHeads_156 : decode cD_layHeads 156 = .ok (.aload_n 0, 1) := by decide +kernel
theorem dD_layHeads_157 : decode cD_layHeads 157 = .ok (.ldc 203, 2) := by decide +kernel
theorem dD_layHeads_159 : decode cD_layHeads 159 = .ok (.invokevirtual 233, 3) := by decide +kernel
theorem dD_layHeads_162 : decode cD_layHeads 162 = .ok (.aload_n 0, 1) := by decide +kernel
theorem dD_layHeads_163 : decode cD_layHeads 163 = .ok (.bipush 22, 2) := by decide +kernel
theorem dD_layHeads_165 : decode cD_layHeads 165 = .ok (.invokevirtual 233, 3) := by decide +kernel
theorem dD_layHeads_168 : decode cD_layHeads 168 = .ok (.aload_n 0, 1) := by decide +kernel
theorem dD_layHeads_169 : decode cD_layHeads 169 = .ok (.ldc 204, 2) := by decide +kernel
theorem dD_layHeads_171 : decode cD_layHeads 171 = .ok (.invokevirtual 233, 3) := by decide +kernel
theorem dD_layHeads_174 : decode cD_layHeads 174 = .ok (.aload_n 0, 1) := by decide +kernel
theorem dD_layHeads_175 : decode cD_layHeads 175 = .ok (.aload_n 0, 1) := by decide +kernel
theorem dD_layHeads_176 : decode cD_layHeads 176 = .ok (.getfield 23, 3) := by decide +kernel
theorem dD_layHeads_179 : decode cD_layHeads 179 = .ok (.iconst 1, 1) := by decide +kernel
theorem dD_layHeads_180 : decode cD_layHeads 180 = .ok (.iaload, 1) := by decide +kernel
theorem dD_layHeads_181 : decode cD_layHeads 181 = .ok (.invokevirtual 233, 3) := by decide +kernel
theorem dD_layHeads_184 : decode cD_layHeads 184 = .ok (.aload_n 0, 1) := by decide +kernel
theorem dD_layHeads_185 : decode cD_layHeads 185 = .ok (.aload_n 0, 1) := by decide +kernel
theorem dD_layHeads_186 : decode cD_layHeads 186 = .ok (.getfield 23, 3) := by decide +kernel
theorem dD_layHeads_189 : decode cD_layHeads 189 = .ok (.iconst 0, 1) := by decide +kernel
theorem dD_layHeads_190 : decode cD_layHeads 190 = .ok (.iaload, 1) := by decide +kernel
theorem dD_layHeads_191 : decode cD_layHeads 191 = .ok (.invokevirtual 233, 3) := by decide +kernel
theorem dD_layHeads_194 : decode cD_layHeads 194 = .ok (.aload_n 0, 1) := by decide +kernel
theorem dD_layHeads_195 : decode cD_layHeads 195 = .ok (.aload_n 0, 1) := by decide +kernel
theorem dD_layHeads_196 : decode cD_layHeads 196 = .ok (.getfield 23, 3) := by decide +kernel
theorem dD_layHeads_199 : decode cD_layHeads 199 = .ok (.iconst 2, 1) := by decide +kernel
theorem dD_layHeads_200 : decode cD_layHeads 200 = .ok (.iaload, 1) := by decide +kernel
theorem dD_layHeads_201 : decode cD_layHeads 201 = .ok (.invokevirtual 219, 3) := by decide +kernel
theorem dD_layHeads_204 : decode cD_layHeads 204 = .ok (.aload_n 0, 1) := by decide +kernel
theorem dD_layHeads_205 : decode cD_layHeads 205 = .ok (.iload_n 2, 1) := by decide +kernel
theorem dD_layHeads_206 : decode cD_layHeads 206 = .ok (.iconst 1, 1) := by decide +kernel
theorem dD_layHeads_207 : decode cD_layHeads 207 = .ok (.isub, 1) := by decide +kernel
theorem dD_layHeads_208 : decode cD_layHeads 208 = .ok (.invokevirtual 215, 3) := by decide +kernel
theorem dD_layHeads_211 : decode cD_layHeads 211 = .ok (.aload_n 0, 1) := by decide +kernel
theorem dD_layHeads_212 : decode cD_layHeads 212 = .ok (.bipush 7, 2) := by decide +kernel
theorem dD_layHeads_214 : decode cD_layHeads 214 = .ok (.invokevirtual 215, 3) := by decide +kernel
theorem dD_layHeads_217 : decode cD_layHeads 217 = .ok (.aload_n 0, 1) := by decide +kernel
theorem dD_layHeads_218 : decode cD_layHeads 218 = .ok (.iconst 0, 1) := by decide +kernel
theorem dD_layHeads_219 : decode cD_layHeads 219 = .ok (.invokevirtual 215, 3) := by decide +kernel
theorem dD_layHeads_222 : decode cD_layHeads 222 = .ok (.aload_n 0, 1) := by decide +kernel
theorem dD_layHeads_223 : decode cD_layHeads 223 = .ok (.iconst 0, 1) := by decide +kernel
theorem dD_layHeads_224 : decode cD_layHeads 224 = .ok (.invokevirtual 215, 3) := by decide +kernel
theorem dD_layHeads_227 : decode cD_layHeads 227 = .ok (.return_, 1) := by decide +kernel
theorem dD_write_0 : decode cD_write 0 = .ok (.aload_n 0, 1) := by decide +kernel
theorem dD_write_1 : decode cD_write 1 = .ok (.iconst 0, 1) := by decide +kernel
theorem dD_write_2 : decode cD_write 2 = .ok (.putfield 110, 3) := by decide +kernel
theorem dD_write_5 : decode cD_write 5 = .ok (.aload_n 0, 1) := by decide +kernel
theorem dD_write_6 : decode cD_write 6 = .ok (.iconst 0, 1) := by decide +kernel
theorem dD_write_7 : decode cD_write 7 = .ok (.putfield 212, 3) := by decide +kernel
theorem dD_write_10 : decode cD_write 10 = .ok (.aload_n 0, 1) := by decide +kernel
theorem dD_write_11 : decode cD_write 11 = .ok (.invokevirtual 246, 3) := by decide +kernel
theorem dD_write_14 : decode cD_write 14 = .ok (.iconst 0, 1) := by decide +kernel
theorem dD_write_15 : decode cD_write 15 = .ok (.istore_n 1, 1) := by decide +kernel
theorem dD_write_16 : decode cD_write 16 = .ok (.iload_n 1, 1) := by decide +kernel
theorem dD_write_17 : decode cD_write 17 = .ok (.iconst 2, 1) := by decide +kernel
theorem dD_write_18 : decode cD_write 18 = .ok (.if_icmp .ge 48, 3) := by decide +kernel
theorem dD_write_21 : decode cD_write 21 = .ok (.iconst 0, 1) := by decide +kernel
theorem dD_write_22 : decode cD_write 22 = .ok (.istore_n 2, 1) := by decide +kernel
theorem dD_write_23 : decode cD_write 23 = .ok (.iload_n 2, 1) := by decide +kernel
theorem dD_write_24 : decode cD_write 24 = .ok (.aload_n 0, 1) := by decide +kernel
theorem dD_write_25 : decode cD_write 25 = .ok (.getfield 209, 3) := by decide +kernel
theorem dD_write_28 : decode cD_write 28 = .ok (.if_icmp .ge 32, 3) := by decide +kernel
theorem dD_write_31 : decode cD_write 31 = .ok (.aload_n 0, 1) := by decide +kernel
theorem dD_write_32 : decode cD_write 32 = .ok (.getfield 41, 3) := by decide +kernel
theorem dD_write_35 : decode cD_write 35 = .ok (.iload_n 2, 1) := by decide +kernel
theorem dD_write_36 : decode cD_write 36 = .ok (.baload, 1) := by decide +kernel
theorem dD_write_37 : decode cD_write 37 = .ok (.iload_n 1, 1) := by decide +kernel
theorem dD_write_38 : decode cD_write 38 = .ok (.ifCond .ne 7, 3) := by decide +kernel
theorem dD_write_41 : decode cD_write 41 = .ok (.iconst 1, 1) := by decide +kernel
theorem dD_write_42 : decode cD_write 42 = .ok (.goto 4, 3) := by decide +kernel
theorem dD_write_45 : decode cD_write 45 = .ok (.iconst 0, 1) := by decide +kernel
theorem dD_write_46 : decode cD_write 46 = .ok (.if_icmp .ne 8, 3) := by decide +kernel
theorem dD_write_49 : decode cD_write 49 = .ok (.aload_n 0, 1) := by decide +kernel
theorem dD_write_50 : decode cD_write 50 = .ok (.iload_n 2, 1) := by decide +kernel
theorem dD_write_51 : decode cD_write 51 = .ok (.invokevirtual 249, 3) := by decide +kernel
theorem dD_write_54 : decode cD_write 54 = .ok (.iinc 2 1, 3) := by decide +kernel
theorem dD_write_57 : decode cD_write 57 = .ok (.goto (-34), 3) := by decide +kernel
theorem dD_write_60 : decode cD_write 60 = .ok (.iinc 1 1, 3) := by decide +kernel
theorem dD_write_63 : decode cD_write 63 = .ok (.goto (-47), 3) := by decide +kernel
theorem dD_write_66 : decode cD_write 66 = .ok (.aload_n 0, 1) := by decide +kernel
theorem dD_write_67 : decode cD_write 67 = .ok (.getfield 212, 3) := by decide +kernel
theorem dD_write_70 : decode cD_write 70 = .ok (.istore_n 1, 1) := by decide +kernel
theorem dD_write_71 : decode cD_write 71 = .ok (.aload_n 0, 1) := by decide +kernel
theorem dD_write_72 : decode cD_write 72 = .ok (.iconst 0, 1) := by decide +kernel
theorem dD_write_73 : decode cD_write 73 = .ok (.invokevirtual 233, 3) := by decide +kernel
theorem dD_write_76 : decode cD_write 76 = .ok (.aload_n 0, 1) := by decide +kernel
theorem dD_write_77 : decode cD_write 77 = .ok (.ldc 205, 2) := by decide +kernel
theorem dD_write_79 : decode cD_write 79 = .ok (.invokevirtual 233, 3) := by decide +kernel
theorem dD_write_82 : decode cD_write 82 = .ok (.aload_n 0, 1) := by decide +kernel
theorem dD_write_83 : decode cD_write 83 = .ok (.invokevirtual 252, 3) := by decide +kernel
theorem dD_write_86 : decode cD_write 86 = .ok (.aload_n 0, 1) := by decide +kernel
theorem dD_write_87 : decode cD_write 87 = .ok (.getfield 212, 3) := by decide +kernel
theorem dD_write_90 : decode cD_write 90 = .ok (.iload_n 1, 1) := by decide +kernel
theorem dD_write_91 : decode cD_write 91 = .ok (.isub, 1) := by decide +kernel
theorem dD_write_92 : decode cD_write 92 = .ok (.istore_n 2, 1) := by decide +kernel
theorem dD_write_93 : decode cD_write 93 = .ok (.iconst 0, 1) := by decide +kernel
theorem dD_write_94 : decode cD_write 94 = .ok (.istore_n 3, 1) := by decide +kernel
theorem dD_write_95 : decode cD_write 95 = .ok (.iload_n 3, 1) := by decide +kernel
theorem dD_write_96 : decode cD_write 96 = .ok (.iconst 4, 1) := by decide +kernel
theorem dD_write_97 : decode cD_write 97 = .ok (.if_icmp .ge 30, 3) := by decide +kernel
theorem dD_write_100 : decode cD_write 100 = .ok (.aload_n 0, 1) := by decide +kernel
theorem dD_write_101 : decode cD_write 101 = .ok (.getfield 54, 3) := by decide +kernel
theorem dD_write_104 : decode cD_write 104 = .ok (.iload_n 1, 1) := by decide +kernel
theorem dD_write_105 : decode cD_write 105 = .ok (.iload_n 3, 1) := by decide +kernel
theorem dD_write_106 : decode cD_write 106 = .ok (.iadd, 1) := by decide +kernel
theorem dD_write_107 : decode cD_write 107 = .ok (.iload_n 2, 1) := by decide +kernel
theorem dD_write_108 : decode cD_write 108 = .ok (.bipush 24, 2) := by decide +kernel
theorem dD_write_110 : decode cD_write 110 = .ok (.bipush 8, 2) := by decide +kernel
theorem dD_write_112 : decode cD_write 112 = .ok (.iload_n 3, 1) := by decide +kernel
theorem dD_write_113 : decode cD_write 113 = .ok (.imul, 1) := by decide +kernel
theorem dD_write_114 : decode cD_write 114 = .ok (.isub, 1) := by decide +kernel
theorem dD_write_115 : decode cD_write 115 = .ok (.ishr, 1) := by decide +kernel
theorem dD_write_116 : decode cD_write 116 = .ok (.sipush 255, 3) := by decide +kernel
theorem dD_write_119 : decode cD_write 119 = .ok (.iand, 1) := by decide +kernel
theorem dD_write_120 : decode cD_write 120 = .ok (.iastore, 1) := by decide +kernel
theorem dD_write_121 : decode cD_write 121 = .ok (.iinc 3 1, 3) := by decide +kernel
theorem dD_write_124 : decode cD_write 124 = .ok (.goto (-29), 3) := by decide +kernel
theorem dD_write_127 : decode cD_write 127 = .ok (.aload_n 0, 1) := by decide +kernel
theorem dD_write_128 : decode cD_write 128 = .ok (.getfield 212, 3) := by decide +kernel
theorem dD_write_131 : decode cD_write 131 = .ok (.ireturn, 1) := by decide +kernel
theorem dD_byteAt_0 : decode cD_byteAt 0 = .ok (.aload_n 0, 1) := by decide +kernel
theorem dD_byteAt_1 : decode cD_byteAt 1 = .ok (.iload_n 1, 1) := by decide +kernel
theorem dD_byteAt_2 : decode cD_byteAt 2 = .ok (.i2l, 1) := by decide +kernel
theorem dD_byteAt_3 : decode cD_byteAt 3 = .ok (.lconst 0, 1) := by decide +kernel
theorem dD_byteAt_4 : decode cD_byteAt 4 = .ok (.aload_n 0, 1) := by decide +kernel
theorem dD_byteAt_5 : decode cD_byteAt 5 = .ok (.getfield 212, 3) := by decide +kernel
theorem dD_byteAt_8 : decode cD_byteAt 8 = .ok (.i2l, 1) := by decide +kernel
theorem dD_byteAt_9 : decode cD_byteAt 9 = .ok (.lconst 1, 1) := by decide +kernel
theorem dD_byteAt_10 : decode cD_byteAt 10 = .ok (.lsub, 1) := by decide +kernel
theorem dD_byteAt_11 : decode cD_byteAt 11 = .ok (.invokestatic 135, 3) := by decide +kernel
theorem dD_byteAt_14 : decode cD_byteAt 14 = .ok (.ifCond .eq 7, 3) := by decide +kernel
theorem dD_byteAt_17 : decode cD_byteAt 17 = .ok (.iconst 0, 1) := by decide +kernel
theorem dD_byteAt_18 : decode cD_byteAt 18 = .ok (.goto 4, 3) := by decide +kernel
theorem dD_byteAt_21 : decode cD_byteAt 21 = .ok (.iconst 1, 1) := by decide +kernel
theorem dD_byteAt_22 : decode cD_byteAt 22 = .ok (.putfield 110, 3) := by decide +kernel
theorem dD_byteAt_25 : decode cD_byteAt 25 = .ok (.aload_n 0, 1) := by decide +kernel
theorem dD_byteAt_26 : decode cD_byteAt 26 = .ok (.getfield 110, 3) := by decide +kernel
theorem dD_byteAt_29 : decode cD_byteAt 29 = .ok (.ifCond .le 7, 3) := by decide +kernel
theorem dD_byteAt_32 : decode cD_byteAt 32 = .ok (.iconst 0, 1) := by decide +kernel
theorem dD_byteAt_33 : decode cD_byteAt 33 = .ok (.goto 9, 3) := by decide +kernel
theorem dD_byteAt_36 : decode cD_byteAt 36 = .ok (.aload_n 0, 1) := by decide +kernel
theorem dD_byteAt_37 : decode cD_byteAt 37 = .ok (.getfield 54, 3) := by decide +kernel
theorem dD_byteAt_40 : decode cD_byteAt 40 = .ok (.iload_n 1, 1) := by decide +kernel
theorem dD_byteAt_41 : decode cD_byteAt 41 = .ok (.iaload, 1) := by decide +kernel
theorem dD_byteAt_42 : decode cD_byteAt 42 = .ok (.ireturn, 1) := by decide +kernel
theorem dD_feed_0 : decode cD_feed 0 = .ok (.aload_n 0, 1) := by decide +kernel
theorem dD_feed_1 : decode cD_feed 1 = .ok (.iload_n 1, 1) := by decide +kernel
theorem dD_feed_2 : decode cD_feed 2 = .ok (.i2l, 1) := by decide +kernel
theorem dD_feed_3 : decode cD_feed 3 = .ok (.lconst 0, 1) := by decide +kernel
theorem dD_feed_4 : decode cD_feed 4 = .ok (.ldc2_w 195, 3) := by decide +kernel
theorem dD_feed_7 : decode cD_feed 7 = .ok (.invokestatic 135, 3) := by decide +kernel
theorem dD_feed_10 : decode cD_feed 10 = .ok (.ifCond .ne 7, 3) := by decide +kernel
theorem dD_feed_13 : decode cD_feed 13 = .ok (.iconst 1, 1) := by decide +kernel
theorem dD_feed_14 : decode cD_feed 14 = .ok (.goto 18, 3) := by decide +kernel
theorem dD_feed_17 : decode cD_feed 17 = .ok (.aload_n 0, 1) := by decide +kernel
theorem dD_feed_18 : decode cD_feed 18 = .ok (.getfield 255, 3) := by decide +kernel
theorem dD_feed_21 : decode cD_feed 21 = .ok (.sipush 20000, 3) := by decide +kernel
theorem dD_feed_24 : decode cD_feed 24 = .ok (.if_icmp .ne 7, 3) := by decide +kernel
theorem dD_feed_27 : decode cD_feed 27 = .ok (.iconst 2, 1) := by decide +kernel
theorem dD_feed_28 : decode cD_feed 28 = .ok (.goto 4, 3) := by decide +kernel
theorem dD_feed_31 : decode cD_feed 31 = .ok (.iconst 0, 1) := by decide +kernel
theorem dD_feed_32 : decode cD_feed 32 = .ok (.putfield 110, 3) := by decide +kernel
theorem dD_feed_35 : decode cD_feed 35 = .ok (.aload_n 0, 1) := by decide +kernel
theorem dD_feed_36 : decode cD_feed 36 = .ok (.getfield 110, 3) := by decide +kernel
theorem dD_feed_39 : decode cD_feed 39 = .ok (.ifCond .le 5, 3) := by decide +kernel
theorem dD_feed_42 : decode cD_feed 42 = .ok (.iconst 0, 1) := by decide +kernel
theorem dD_feed_43 : decode cD_feed 43 = .ok (.ireturn, 1) := by decide +kernel
theorem dD_feed_44 : decode cD_feed 44 = .ok (.aload_n 0, 1) := by decide +kernel
theorem dD_feed_45 : decode cD_feed 45 = .ok (.getfield 57, 3) := by decide +kernel
theorem dD_feed_48 : decode cD_feed 48 = .ok (.aload_n 0, 1) := by decide +kernel
theorem dD_feed_49 : decode cD_feed 49 = .ok (.getfield 255, 3) := by decide +kernel
theorem dD_feed_52 : decode cD_feed 52 = .ok (.iload_n 1, 1) := by decide +kernel
theorem dD_feed_53 : decode cD_feed 53 = .ok (.iastore, 1) := by decide +kernel
theorem dD_feed_54 : decode cD_feed 54 = .ok (.aload_n 0, 1) := by decide +kernel
theorem dD_feed_55 : decode cD_feed 55 = .ok (.dup, 1) := by decide +kernel
theorem dD_feed_56 : decode cD_feed 56 = .ok (.getfield 255, 3) := by decide +kernel
theorem dD_feed_59 : decode cD_feed 59 = .ok (.iconst 1, 1) := by decide +kernel
theorem dD_feed_60 : decode cD_feed 60 = .ok (.iadd, 1) := by decide +kernel
theorem dD_feed_61 : decode cD_feed 61 = .ok (.putfield 255, 3) := by decide +kernel
theorem dD_feed_64 : decode cD_feed 64 = .ok (.aload_n 0, 1) := by decide +kernel
theorem dD_feed_65 : decode cD_feed 65 = .ok (.getfield 255, 3) := by decide +kernel
theorem dD_feed_68 : decode cD_feed 68 = .ok (.ireturn, 1) := by decide +kernel
theorem dD_pass_0 : decode cD_pass 0 = .ok (.iload_n 2, 1) := by decide +kernel
theorem dD_pass_1 : decode cD_pass 1 = .ok (.aload_n 0, 1) := by decide +kernel
theorem dD_pass_2 : decode cD_pass 2 = .ok (.getfield 212, 3) := by decide +kernel
theorem dD_pass_5 : decode cD_pass 5 = .ok (.iload_n 1, 1) := by decide +kernel
theorem dD_pass_6 : decode cD_pass 6 = .ok (.isub, 1) := by decide +kernel
theorem dD_pass_7 : decode cD_pass 7 = .ok (.if_icmp .ge 7, 3) := by decide +kernel
theorem dD_pass_10 : decode cD_pass 10 = .ok (.iload_n 2, 1) := by decide +kernel
theorem dD_pass_11 : decode cD_pass 11 = .ok (.goto 9, 3) := by decide +kernel
theorem dD_pass_14 : decode cD_pass 14 = .ok (.aload_n 0, 1) := by decide +kernel
theorem dD_pass_15 : decode cD_pass 15 = .ok (.getfield 212, 3) := by decide +kernel
theorem dD_pass_18 : decode cD_pass 18 = .ok (.iload_n 1, 1) := by decide +kernel
theorem dD_pass_19 : decode cD_pass 19 = .ok (.isub, 1) := by decide +kernel
theorem dD_pass_20 : decode cD_pass 20 = .ok (.istore_n 3, 1) := by decide +kernel
theorem dD_pass_21 : decode cD_pass 21 = .ok (.aload_n 0, 1) := by decide +kernel
theorem dD_pass_22 : decode cD_pass 22 = .ok (.iload_n 1, 1) := by decide +kernel
theorem dD_pass_23 : decode cD_pass 23 = .ok (.i2l, 1) := by decide +kernel
theorem dD_pass_24 : decode cD_pass 24 = .ok (.lconst 0, 1) := by decide +kernel
theorem dD_pass_25 : decode cD_pass 25 = .ok (.aload_n 0, 1) := by decide +kernel
theorem dD_pass_26 : decode cD_pass 26 = .ok (.getfield 212, 3) := by decide +kernel
theorem dD_pass_29 : decode cD_pass 29 = .ok (.i2l, 1) := by decide +kernel
theorem dD_pass_30 : decode cD_pass 30 = .ok (.lconst 1, 1) := by decide +kernel
theorem dD_pass_31 : decode cD_pass 31 = .ok (.lsub, 1) := by decide +kernel
theorem dD_pass_32 : decode cD_pass 32 = .ok (.invokestatic 135, 3) := by decide +kernel
theorem dD_pass_35 : decode cD_pass 35 = .ok (.ifCond .ne 7, 3) := by decide +kernel
theorem dD_pass_38 : decode cD_pass 38 = .ok (.iconst 1, 1) := by decide +kernel
theorem dD_pass_39 : decode cD_pass 39 = .ok (.goto 28, 3) := by decide +kernel
theorem dD_pass_42 : decode cD_pass 42 = .ok (.iload_n 2, 1) := by decide +kernel
theorem dD_pass_43 : decode cD_pass 43 = .ok (.ifCond .ge 7, 3) := by decide +kernel
theorem dD_pass_46 : decode cD_pass 46 = .ok (.iconst 2, 1) := by decide +kernel
theorem dD_pass_47 : decode cD_pass 47 = .ok (.goto 20, 3) := by decide +kernel
theorem dD_pass_50 : decode cD_pass 50 = .ok (.aload_n 0, 1) := by decide +kernel
theorem dD_pass_51 : decode cD_pass 51 = .ok (.getfield 255, 3) := by decide +kernel
theorem dD_pass_54 : decode cD_pass 54 = .ok (.iload_n 3, 1) := by decide +kernel
theorem dD_pass_55 : decode cD_pass 55 = .ok (.iadd, 1) := by decide +kernel
theorem dD_pass_56 : decode cD_pass 56 = .ok (.sipush 20000, 3) := by decide +kernel
theorem dD_pass_59 : decode cD_pass 59 = .ok (.if_icmp .le 7, 3) := by decide +kernel
theorem dD_pass_62 : decode cD_pass 62 = .ok (.iconst 3, 1) := by decide +kernel
theorem dD_pass_63 : decode cD_pass 63 = .ok (.goto 4, 3) := by decide +kernel
theorem dD_pass_66 : decode cD_pass 66 = .ok (.iconst 0, 1) := by decide +kernel
theorem dD_pass_67 : decode cD_pass 67 = .ok (.putfield 110, 3) := by decide +kernel
theorem dD_pass_70 : decode cD_pass 70 = .ok (.aload_n 0, 1) := by decide +kernel
theorem dD_pass_71 : decode cD_pass 71 = .ok (.getfield 110, 3) := by decide +kernel
theorem dD_pass_74 : decode cD_pass 74 = .ok (.ifCond .le 5, 3) := by decide +kernel
theorem dD_pass_77 : decode cD_pass 77 = .ok (.iconst 0, 1) := by decide +kernel
theorem dD_pass_78 : decode cD_pass 78 = .ok (.ireturn, 1) := by decide +kernel
theorem dD_pass_79 : decode cD_pass 79 = .ok (.iconst 0, 1) := by decide +kernel
theorem dD_pass_80 : decode cD_pass 80 = .ok (.istore 4, 2) := by decide +kernel
theorem dD_pass_82 : decode cD_pass 82 = .ok (.iload 4, 2) := by decide +kernel
theorem dD_pass_84 : decode cD_pass 84 = .ok (.iload_n 3, 1) := by decide +kernel
theorem dD_pass_85 : decode cD_pass 85 = .ok (.if_icmp .ge 37, 3) := by decide +kernel
theorem dD_pass_88 : decode cD_pass 88 = .ok (.aload_n 0, 1) := by decide +kernel
theorem dD_pass_89 : decode cD_pass 89 = .ok (.getfield 57, 3) := by decide +kernel
theorem dD_pass_92 : decode cD_pass 92 = .ok (.aload_n 0, 1) := by decide +kernel
theorem dD_pass_93 : decode cD_pass 93 = .ok (.getfield 255, 3) := by decide +kernel
theorem dD_pass_96 : decode cD_pass 96 = .ok (.aload_n 0, 1) := by decide +kernel
theorem dD_pass_97 : decode cD_pass 97 = .ok (.getfield 54, 3) := by decide +kernel
theorem dD_pass_100 : decode cD_pass 100 = .ok (.iload_n 1, 1) := by decide +kernel
theorem dD_pass_101 : decode cD_pass 101 = .ok (.iload 4, 2) := by decide +kernel
theorem dD_pass_103 : decode cD_pass 103 = .ok (.iadd, 1) := by decide +kernel
theorem dD_pass_104 : decode cD_pass 104 = .ok (.iaload, 1) := by decide +kernel
theorem dD_pass_105 : decode cD_pass 105 = .ok (.iastore, 1) := by decide +kernel
theorem dD_pass_106 : decode cD_pass 106 = .ok (.aload_n 0, 1) := by decide +kernel
theorem dD_pass_107 : decode cD_pass 107 = .ok (.dup, 1) := by decide +kernel
theorem dD_pass_108 : decode cD_pass 108 = .ok (.getfield 255, 3) := by decide +kernel
theorem dD_pass_111 : decode cD_pass 111 = .ok (.iconst 1, 1) := by decide +kernel
theorem dD_pass_112 : decode cD_pass 112 = .ok (.iadd, 1) := by decide +kernel
theorem dD_pass_113 : decode cD_pass 113 = .ok (.putfield 255, 3) := by decide +kernel
theorem dD_pass_116 : decode cD_pass 116 = .ok (.iinc 4 1, 3) := by decide +kernel
theorem dD_pass_119 : decode cD_pass 119 = .ok (.goto (-37), 3) := by decide +kernel
theorem dD_pass_122 : decode cD_pass 122 = .ok (.iload_n 3, 1) := by decide +kernel
theorem dD_pass_123 : decode cD_pass 123 = .ok (.ireturn, 1) := by decide +kernel
theorem dD_alter_0 : decode cD_alter 0 = .ok (.aload_n 0, 1) := by decide +kernel
theorem dD_alter_1 : decode cD_alter 1 = .ok (.iload_n 1, 1) := by decide +kernel
theorem dD_alter_2 : decode cD_alter 2 = .ok (.i2l, 1) := by decide +kernel
theorem dD_alter_3 : decode cD_alter 3 = .ok (.lconst 0, 1) := by decide +kernel
theorem dD_alter_4 : decode cD_alter 4 = .ok (.aload_n 0, 1) := by decide +kernel
theorem dD_alter_5 : decode cD_alter 5 = .ok (.getfield 255, 3) := by decide +kernel
theorem dD_alter_8 : decode cD_alter 8 = .ok (.i2l, 1) := by decide +kernel
theorem dD_alter_9 : decode cD_alter 9 = .ok (.lconst 1, 1) := by decide +kernel
theorem dD_alter_10 : decode cD_alter 10 = .ok (.lsub, 1) := by decide +kernel
theorem dD_alter_11 : decode cD_alter 11 = .ok (.invokestatic 135, 3) := by decide +kernel
theorem dD_alter_14 : decode cD_alter 14 = .ok (.ifCond .ne 7, 3) := by decide +kernel
theorem dD_alter_17 : decode cD_alter 17 = .ok (.iconst 1, 1) := by decide +kernel
theorem dD_alter_18 : decode cD_alter 18 = .ok (.goto 20, 3) := by decide +kernel
theorem dD_alter_21 : decode cD_alter 21 = .ok (.iload_n 2, 1) := by decide +kernel
theorem dD_alter_22 : decode cD_alter 22 = .ok (.i2l, 1) := by decide +kernel
theorem dD_alter_23 : decode cD_alter 23 = .ok (.lconst 0, 1) := by decide +kernel
theorem dD_alter_24 : decode cD_alter 24 = .ok (.ldc2_w 195, 3) := by decide +kernel
theorem dD_alter_27 : decode cD_alter 27 = .ok (.invokestatic 135, 3) := by decide +kernel
theorem dD_alter_30 : decode cD_alter 30 = .ok (.ifCond .ne 7, 3) := by decide +kernel
theorem dD_alter_33 : decode cD_alter 33 = .ok (.iconst 2, 1) := by decide +kernel
theorem dD_alter_34 : decode cD_alter 34 = .ok (.goto 4, 3) := by decide +kernel
theorem dD_alter_37 : decode cD_alter 37 = .ok (.iconst 0, 1) := by decide +kernel
theorem dD_alter_38 : decode cD_alter 38 = .ok (.putfield 110, 3) := by decide +kernel
theorem dD_alter_41 : decode cD_alter 41 = .ok (.aload_n 0, 1) := by decide +kernel
theorem dD_alter_42 : decode cD_alter 42 = .ok (.getfield 110, 3) := by decide +kernel
theorem dD_alter_45 : decode cD_alter 45 = .ok (.ifCond .le 5, 3) := by decide +kernel
theorem dD_alter_48 : decode cD_alter 48 = .ok (.iconst 0, 1) := by decide +kernel
theorem dD_alter_49 : decode cD_alter 49 = .ok (.ireturn, 1) := by decide +kernel
theorem dD_alter_50 : decode cD_alter 50 = .ok (.aload_n 0, 1) := by decide +kernel
theorem dD_alter_51 : decode cD_alter 51 = .ok (.getfield 57, 3) := by decide +kernel
theorem dD_alter_54 : decode cD_alter 54 = .ok (.iload_n 1, 1) := by decide +kernel
theorem dD_alter_55 : decode cD_alter 55 = .ok (.iaload, 1) := by decide +kernel
theorem dD_alter_56 : decode cD_alter 56 = .ok (.istore_n 3, 1) := by decide +kernel
theorem dD_alter_57 : decode cD_alter 57 = .ok (.aload_n 0, 1) := by decide +kernel
theorem dD_alter_58 : decode cD_alter 58 = .ok (.getfield 57, 3) := by decide +kernel
theorem dD_alter_61 : decode cD_alter 61 = .ok (.iload_n 1, 1) := by decide +kernel
theorem dD_alter_62 : decode cD_alter 62 = .ok (.iload_n 2, 1) := by decide +kernel
theorem dD_alter_63 : decode cD_alter 63 = .ok (.iastore, 1) := by decide +kernel
theorem dD_alter_64 : decode cD_alter 64 = .ok (.iload_n 3, 1) := by decide +kernel
theorem dD_alter_65 : decode cD_alter 65 = .ok (.ireturn, 1) := by decide +kernel
theorem dD_cut_0 : decode cD_cut 0 = .ok (.aload_n 0, 1) := by decide +kernel
theorem dD_cut_1 : decode cD_cut 1 = .ok (.iload_n 1, 1) := by decide +kernel
theorem dD_cut_2 : decode cD_cut 2 = .ok (.ifCond .ge 7, 3) := by decide +kernel
theorem dD_cut_5 : decode cD_cut 5 = .ok (.iconst 1, 1) := by decide +kernel
theorem dD_cut_6 : decode cD_cut 6 = .ok (.goto 4, 3) := by decide +kernel
theorem dD_cut_9 : decode cD_cut 9 = .ok (.iconst 0, 1) := by decide +kernel
theorem dD_cut_10 : decode cD_cut 10 = .ok (.putfield 110, 3) := by decide +kernel
theorem dD_cut_13 : decode cD_cut 13 = .ok (.aload_n 0, 1) := by decide +kernel
theorem dD_cut_14 : decode cD_cut 14 = .ok (.getfield 110, 3) := by decide +kernel
theorem dD_cut_17 : decode cD_cut 17 = .ok (.ifCond .le 5, 3) := by decide +kernel
theorem dD_cut_20 : decode cD_cut 20 = .ok (.iconst 0, 1) := by decide +kernel
theorem dD_cut_21 : decode cD_cut 21 = .ok (.ireturn, 1) := by decide +kernel
theorem dD_cut_22 : decode cD_cut 22 = .ok (.aload_n 0, 1) := by decide +kernel
theorem dD_cut_23 : decode cD_cut 23 = .ok (.iload_n 1, 1) := by decide +kernel
theorem dD_cut_24 : decode cD_cut 24 = .ok (.aload_n 0, 1) := by decide +kernel
theorem dD_cut_25 : decode cD_cut 25 = .ok (.getfield 255, 3) := by decide +kernel
theorem dD_cut_28 : decode cD_cut 28 = .ok (.if_icmp .ge 7, 3) := by decide +kernel
theorem dD_cut_31 : decode cD_cut 31 = .ok (.iload_n 1, 1) := by decide +kernel
theorem dD_cut_32 : decode cD_cut 32 = .ok (.goto 7, 3) := by decide +kernel
theorem dD_cut_35 : decode cD_cut 35 = .ok (.aload_n 0, 1) := by decide +kernel
theorem dD_cut_36 : decode cD_cut 36 = .ok (.getfield 255, 3) := by decide +kernel
theorem dD_cut_39 : decode cD_cut 39 = .ok (.putfield 255, 3) := by decide +kernel
theorem dD_cut_42 : decode cD_cut 42 = .ok (.aload_n 0, 1) := by decide +kernel
theorem dD_cut_43 : decode cD_cut 43 = .ok (.getfield 255, 3) := by decide +kernel
theorem dD_cut_46 : decode cD_cut 46 = .ok (.ireturn, 1) := by decide +kernel
theorem dD_four_0 : decode cD_four 0 = .ok (.aload_n 0, 1) := by decide +kernel
theorem dD_four_1 : decode cD_four 1 = .ok (.getfield 60, 3) := by decide +kernel
theorem dD_four_4 : decode cD_four 4 = .ok (.iload_n 1, 1) := by decide +kernel
theorem dD_four_5 : decode cD_four 5 = .ok (.iaload, 1) := by decide +kernel
theorem dD_four_6 : decode cD_four 6 = .ok (.i2l, 1) := by decide +kernel
theorem dD_four_7 : decode cD_four 7 = .ok (.bipush 24, 2) := by decide +kernel
theorem dD_four_9 : decode cD_four 9 = .ok (.lshl, 1) := by decide +kernel
theorem dD_four_10 : decode cD_four 10 = .ok (.aload_n 0, 1) := by decide +kernel
theorem dD_four_11 : decode cD_four 11 = .ok (.getfield 60, 3) := by decide +kernel
theorem dD_four_14 : decode cD_four 14 = .ok (.iload_n 1, 1) := by decide +kernel
theorem dD_four_15 : decode cD_four 15 = .ok (.iconst 1, 1) := by decide +kernel
theorem dD_four_16 : decode cD_four 16 = .ok (.iadd, 1) := by decide +kernel
theorem dD_four_17 : decode cD_four 17 = .ok (.iaload, 1) := by decide +kernel
theorem dD_four_18 : decode cD_four 18 = .ok (.bipush 16, 2) := by decide +kernel
theorem dD_four_20 : decode cD_four 20 = .ok (.ishl, 1) := by decide +kernel
theorem dD_four_21 : decode cD_four 21 = .ok (.i2l, 1) := by decide +kernel
theorem dD_four_22 : decode cD_four 22 = .ok (.lor, 1) := by decide +kernel
theorem dD_four_23 : decode cD_four 23 = .ok (.aload_n 0, 1) := by decide +kernel
theorem dD_four_24 : decode cD_four 24 = .ok (.getfield 60, 3) := by decide +kernel
theorem dD_four_27 : decode cD_four 27 = .ok (.iload_n 1, 1) := by decide +kernel
theorem dD_four_28 : decode cD_four 28 = .ok (.iconst 2, 1) := by decide +kernel
theorem dD_four_29 : decode cD_four 29 = .ok (.iadd, 1) := by decide +kernel
theorem dD_four_30 : decode cD_four 30 = .ok (.iaload, 1) := by decide +kernel
theorem dD_four_31 : decode cD_four 31 = .ok (.bipush 8, 2) := by decide +kernel
theorem dD_four_33 : decode cD_four 33 = .ok (.ishl, 1) := by decide +kernel
theorem dD_four_34 : decode cD_four 34 = .ok (.i2l, 1) := by decide +kernel
theorem dD_four_35 : decode cD_four 35 = .ok (.lor, 1) := by decide +kernel
theorem dD_four_36 : decode cD_four 36 = .ok (.aload_n 0, 1) := by decide +kernel
theorem dD_four_37 : decode cD_four 37 = .ok (.getfield 60, 3) := by decide +kernel
theorem dD_four_40 : decode cD_four 40 = .ok (.iload_n 1, 1) := by decide +kernel
theorem dD_four_41 : decode cD_four 41 = .ok (.iconst 3, 1) := by decide +kernel
theorem dD_four_42 : decode cD_four 42 = .ok (.iadd, 1) := by decide +kernel
theorem dD_four_43 : decode cD_four 43 = .ok (.iaload, 1) := by decide +kernel
theorem dD_four_44 : decode cD_four 44 = .ok (.i2l, 1) := by decide +kernel
theorem dD_four_45 : decode cD_four 45 = .ok (.lor, 1) := by decide +kernel
theorem dD_four_46 : decode cD_four 46 = .ok (.lreturn, 1) := by decide +kernel
theorem dD_two_0 : decode cD_two 0 = .ok (.aload_n 0, 1) := by decide +kernel
theorem dD_two_1 : decode cD_two 1 = .ok (.getfield 60, 3) := by decide +kernel
theorem dD_two_4 : decode cD_two 4 = .ok (.iload_n 1, 1) := by decide +kernel
theorem dD_two_5 : decode cD_two 5 = .ok (.iaload, 1) := by decide +kernel
theorem dD_two_6 : decode cD_two 6 = .ok (.bipush 8, 2) := by decide +kernel
theorem dD_two_8 : decode cD_two 8 = .ok (.ishl, 1) := by decide +kernel
theorem dD_two_9 : decode cD_two 9 = .ok (.aload_n 0, 1) := by decide +kernel
theorem dD_two_10 : decode cD_two 10 = .ok (.getfield 60, 3) := by decide +kernel
theorem dD_two_13 : decode cD_two 13 = .ok (.iload_n 1, 1) := by decide +kernel
theorem dD_two_14 : decode cD_two 14 = .ok (.iconst 1, 1) := by decide +kernel
theorem dD_two_15 : decode cD_two 15 = .ok (.iadd, 1) := by decide +kernel
theorem dD_two_16 : decode cD_two 16 = .ok (.iaload, 1) := by decide +kernel
theorem dD_two_17 : decode cD_two 17 = .ok (.ior, 1) := by decide +kernel
theorem dD_two_18 : decode cD_two 18 = .ok (.ireturn, 1) := by decide +kernel
theorem dD_fails_0 : decode cD_fails 0 = .ok (.aload_n 0, 1) := by decide +kernel
theorem dD_fails_1 : decode cD_fails 1 = .ok (.aload_n 0, 1) := by decide +kernel
theorem dD_fails_2 : decode cD_fails 2 = .ok (.getfield 258, 3) := by decide +kernel
theorem dD_fails_5 : decode cD_fails 5 = .ok (.iconst (-1), 1) := by decide +kernel
theorem dD_fails_6 : decode cD_fails 6 = .ok (.if_icmp .ne 7, 3) := by decide +kernel
theorem dD_fails_9 : decode cD_fails 9 = .ok (.iload_n 1, 1) := by decide +kernel
theorem dD_fails_10 : decode cD_fails 10 = .ok (.goto 7, 3) := by decide +kernel
theorem dD_fails_13 : decode cD_fails 13 = .ok (.aload_n 0, 1) := by decide +kernel
theorem dD_fails_14 : decode cD_fails 14 = .ok (.getfield 258, 3) := by decide +kernel
theorem dD_fails_17 : decode cD_fails 17 = .ok (.putfield 258, 3) := by decide +kernel
theorem dD_fails_20 : decode cD_fails 20 = .ok (.iconst 0, 1) := by decide +kernel
theorem dD_fails_21 : decode cD_fails 21 = .ok (.ireturn, 1) := by decide +kernel
theorem dD_endOf_0 : decode cD_endOf 0 = .ok (.iload_n 2, 1) := by decide +kernel
theorem dD_endOf_1 : decode cD_endOf 1 = .ok (.iload_n 1, 1) := by decide +kernel
theorem dD_endOf_2 : decode cD_endOf 2 = .ok (.isub, 1) := by decide +kernel
theorem dD_endOf_3 : decode cD_endOf 3 = .ok (.bipush 8, 2) := by decide +kernel
theorem dD_endOf_5 : decode cD_endOf 5 = .ok (.if_icmp .ge 5, 3) := by decide +kernel
theorem dD_endOf_8 : decode cD_endOf 8 = .ok (.iconst (-1), 1) := by decide +kernel
theorem dD_endOf_9 : decode cD_endOf 9 = .ok (.ireturn, 1) := by decide +kernel
theorem dD_endOf_10 : decode cD_endOf 10 = .ok (.aload_n 0, 1) := by decide +kernel
theorem dD_endOf_11 : decode cD_endOf 11 = .ok (.iload_n 1, 1) := by decide +kernel
theorem dD_endOf_12 : decode cD_endOf 12 = .ok (.invokevirtual 261, 3) := by decide +kernel
theorem dD_endOf_15 : decode cD_endOf 15 = .ok (.lstore 4, 2) := by decide +kernel
theorem dD_endOf_17 : decode cD_endOf 17 = .ok (.aload_n 0, 1) := by decide +kernel
theorem dD_endOf_18 : decode cD_endOf 18 = .ok (.iload_n 1, 1) := by decide +kernel
theorem dD_endOf_19 : decode cD_endOf 19 = .ok (.iconst 4, 1) := by decide +kernel
theorem dD_endOf_20 : decode cD_endOf 20 = .ok (.iadd, 1) := by decide +kernel
theorem dD_endOf_21 : decode cD_endOf 21 = .ok (.invokevirtual 261, 3) := by decide +kernel
theorem dD_endOf_24 : decode cD_endOf 24 = .ok (.ldc2_w 265, 3) := by decide +kernel
theorem dD_endOf_27 : decode cD_endOf 27 = .ok (.lcmp, 1) := by decide +kernel
theorem dD_endOf_28 : decode cD_endOf 28 = .ok (.ifCond .ne 11, 3) := by decide +kernel
theorem dD_endOf_31 : decode cD_endOf 31 = .ok (.iload_n 3, 1) := by decide +kernel
theorem dD_endOf_32 : decode cD_endOf 32 = .ok (.ifCond .ne 7, 3) := by decide +kernel
theorem dD_endOf_35 : decode cD_endOf 35 = .ok (.iconst 1, 1) := by decide +kernel
theorem dD_endOf_36 : decode cD_endOf 36 = .ok (.goto 4, 3) := by decide +kernel
theorem dD_endOf_39 : decode cD_endOf 39 = .ok (.iconst 0, 1) := by decide +kernel
theorem dD_endOf_40 : decode cD_endOf 40 = .ok (.istore 6, 2) := by decide +kernel
theorem dD_endOf_42 : decode cD_endOf 42 = .ok (.lload 4, 2) := by decide +kernel
theorem dD_endOf_44 : decode cD_endOf 44 = .ok (.lconst 0, 1) := by decide +kernel
theorem dD_endOf_45 : decode cD_endOf 45 = .ok (.lcmp, 1) := by decide +kernel
theorem dD_endOf_46 : decode cD_endOf 46 = .ok (.ifCond .eq 28, 3) := by decide +kernel
theorem dD_endOf_49 : decode cD_endOf 49 = .ok (.iload 6, 2) := by decide +kernel
theorem dD_endOf_51 : decode cD_endOf 51 = .ok (.ifCond .eq 25, 3) := by decide +kernel
theorem dD_endOf_54 : decode cD_endOf 54 = .ok (.lload 4, 2) := by decide +kernel
theorem dD_endOf_56 : decode cD_endOf 56 = .ok (.ldc2_w 267, 3) := by decide +kernel
theorem dD_endOf_59 : decode cD_endOf 59 = .ok (.lcmp, 1) := by decide +kernel
theorem dD_endOf_60 : decode cD_endOf 60 = .ok (.ifCond .lt 16, 3) := by decide +kernel
theorem dD_endOf_63 : decode cD_endOf 63 = .ok (.iload_n 1, 1) := by decide +kernel
theorem dD_endOf_64 : decode cD_endOf 64 = .ok (.i2l, 1) := by decide +kernel
theorem dD_endOf_65 : decode cD_endOf 65 = .ok (.lload 4, 2) := by decide +kernel
theorem dD_endOf_67 : decode cD_endOf 67 = .ok (.ladd, 1) := by decide +kernel
theorem dD_endOf_68 : decode cD_endOf 68 = .ok (.iload_n 2, 1) := by decide +kernel
theorem dD_endOf_69 : decode cD_endOf 69 = .ok (.i2l, 1) := by decide +kernel
theorem dD_endOf_70 : decode cD_endOf 70 = .ok (.lcmp, 1) := by decide +kernel
theorem dD_endOf_71 : decode cD_endOf 71 = .ok (.ifCond .le 5, 3) := by decide +kernel
theorem dD_endOf_74 : decode cD_endOf 74 = .ok (.iload_n 2, 1) := by decide +kernel
theorem dD_endOf_75 : decode cD_endOf 75 = .ok (.ireturn, 1) := by decide +kernel
theorem dD_endOf_76 : decode cD_endOf 76 = .ok (.lload 4, 2) := by decide +kernel
theorem dD_endOf_78 : decode cD_endOf 78 = .ok (.ldc2_w 267, 3) := by decide +kernel
theorem dD_endOf_81 : decode cD_endOf 81 = .ok (.lcmp, 1) := by decide +kernel
theorem dD_endOf_82 : decode cD_endOf 82 = .ok (.ifCond .lt 14, 3) := by decide +kernel
theorem dD_endOf_85 : decode cD_endOf 85 = .ok (.iload_n 1, 1) := by decide +kernel
theorem dD_endOf_86 : decode cD_endOf 86 = .ok (.i2l, 1) := by decide +kernel
theorem dD_endOf_87 : decode cD_endOf 87 = .ok (.lload 4, 2) := by decide +kernel
theorem dD_endOf_89 : decode cD_endOf 89 = .ok (.ladd, 1) := by decide +kernel
theorem dD_endOf_90 : decode cD_endOf 90 = .ok (.iload_n 2, 1) := by decide +kernel
theorem dD_endOf_91 : decode cD_endOf 91 = .ok (.i2l, 1) := by decide +kernel
theorem dD_endOf_92 : decode cD_endOf 92 = .ok (.lcmp, 1) := by decide +kernel
theorem dD_endOf_93 : decode cD_endOf 93 = .ok (.ifCond .le 7, 3) := by decide +kernel
theorem dD_endOf_96 : decode cD_endOf 96 = .ok (.iconst (-1), 1) := by decide +kernel
theorem dD_endOf_97 : decode cD_endOf 97 = .ok (.goto 9, 3) := by decide +kernel
theorem dD_endOf_100 : decode cD_endOf 100 = .ok (.iload_n 1, 1) := by decide +kernel
theorem dD_endOf_101 : decode cD_endOf 101 = .ok (.i2l, 1) := by decide +kernel
theorem dD_endOf_102 : decode cD_endOf 102 = .ok (.lload 4, 2) := by decide +kernel
theorem dD_endOf_104 : decode cD_endOf 104 = .ok (.ladd, 1) := by decide +kernel
theorem dD_endOf_105 : decode cD_endOf 105 = .ok (.l2i, 1) := by decide +kernel
theorem dD_endOf_106 : decode cD_endOf 106 = .ok (.ireturn, 1) := by decide +kernel
theorem dD_keepUnknown_0 : decode cD_keepUnknown 0 = .ok (.aload_n 0, 1) := by decide +kernel
theorem dD_keepUnknown_1 : decode cD_keepUnknown 1 = .ok (.getfield 63, 3) := by decide +kernel
theorem dD_keepUnknown_4 : decode cD_keepUnknown 4 = .ok (.aload_n 0, 1) := by decide +kernel
theorem dD_keepUnknown_5 : decode cD_keepUnknown 5 = .ok (.getfield 269, 3) := by decide +kernel
theorem dD_keepUnknown_8 : decode cD_keepUnknown 8 = .ok (.iload_n 1, 1) := by decide +kernel
theorem dD_keepUnknown_9 : decode cD_keepUnknown 9 = .ok (.iastore, 1) := by decide +kernel
theorem dD_keepUnknown_10 : decode cD_keepUnknown 10 = .ok (.aload_n 0, 1) := by decide +kernel
theorem dD_keepUnknown_11 : decode cD_keepUnknown 11 = .ok (.getfield 66, 3) := by decide +kernel
theorem dD_keepUnknown_14 : decode cD_keepUnknown 14 = .ok (.aload_n 0, 1) := by decide +kernel
theorem dD_keepUnknown_15 : decode cD_keepUnknown 15 = .ok (.getfield 269, 3) := by decide +kernel
theorem dD_keepUnknown_18 : decode cD_keepUnknown 18 = .ok (.iload_n 2, 1) := by decide +kernel
