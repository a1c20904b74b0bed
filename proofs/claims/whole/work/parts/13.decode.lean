theorem dW_read_77 : decode cW_read 77 = .ok (.invokevirtual 259, 3) := by decide +kernel
theorem dW_read_80 : decode cW_read 80 = .ok (.aload_n 0, 1) := by decide +kernel
theorem dW_read_81 : decode cW_read 81 = .ok (.iconst 1, 1) := by decide +kernel
theorem dW_read_82 : decode cW_read 82 = .ok (.putfield 75, 3) := by decide +kernel
theorem dW_read_85 : decode cW_read 85 = .ok (.aload_n 0, 1) := by decide +kernel
theorem dW_read_86 : decode cW_read 86 = .ok (.getfield 71, 3) := by decide +kernel
theorem dW_read_89 : decode cW_read 89 = .ok (.getfield 262, 3) := by decide +kernel
theorem dW_read_92 : decode cW_read 92 = .ok (.ireturn, 1) := by decide +kernel
theorem dW_canBeAsked_0 : decode cW_canBeAsked 0 = .ok (.iload_n 1, 1) := by decide +kernel
theorem dW_canBeAsked_1 : decode cW_canBeAsked 1 = .ok (.ifCond .lt 9, 3) := by decide +kernel
theorem dW_canBeAsked_4 : decode cW_canBeAsked 4 = .ok (.iload_n 1, 1) := by decide +kernel
theorem dW_canBeAsked_5 : decode cW_canBeAsked 5 = .ok (.bipush 11, 2) := by decide +kernel
theorem dW_canBeAsked_7 : decode cW_canBeAsked 7 = .ok (.if_icmp .le 5, 3) := by decide +kernel
theorem dW_canBeAsked_10 : decode cW_canBeAsked 10 = .ok (.iconst 0, 1) := by decide +kernel
theorem dW_canBeAsked_11 : decode cW_canBeAsked 11 = .ok (.ireturn, 1) := by decide +kernel
theorem dW_canBeAsked_12 : decode cW_canBeAsked 12 = .ok (.iload_n 1, 1) := by decide +kernel
theorem dW_canBeAsked_13 : decode cW_canBeAsked 13 = .ok (.iconst 2, 1) := by decide +kernel
theorem dW_canBeAsked_14 : decode cW_canBeAsked 14 = .ok (.if_icmp .le 9, 3) := by decide +kernel
theorem dW_canBeAsked_17 : decode cW_canBeAsked 17 = .ok (.iload_n 1, 1) := by decide +kernel
theorem dW_canBeAsked_18 : decode cW_canBeAsked 18 = .ok (.bipush 11, 2) := by decide +kernel
theorem dW_canBeAsked_20 : decode cW_canBeAsked 20 = .ok (.if_icmp .ne 5, 3) := by decide +kernel
theorem dW_canBeAsked_23 : decode cW_canBeAsked 23 = .ok (.iconst 1, 1) := by decide +kernel
theorem dW_canBeAsked_24 : decode cW_canBeAsked 24 = .ok (.ireturn, 1) := by decide +kernel
theorem dW_canBeAsked_25 : decode cW_canBeAsked 25 = .ok (.iload_n 1, 1) := by decide +kernel
theorem dW_canBeAsked_26 : decode cW_canBeAsked 26 = .ok (.iconst 3, 1) := by decide +kernel
theorem dW_canBeAsked_27 : decode cW_canBeAsked 27 = .ok (.if_icmp .eq 14, 3) := by decide +kernel
theorem dW_canBeAsked_30 : decode cW_canBeAsked 30 = .ok (.aload_n 0, 1) := by decide +kernel
theorem dW_canBeAsked_31 : decode cW_canBeAsked 31 = .ok (.getfield 45, 3) := by decide +kernel
theorem dW_canBeAsked_34 : decode cW_canBeAsked 34 = .ok (.iload_n 2, 1) := by decide +kernel
theorem dW_canBeAsked_35 : decode cW_canBeAsked 35 = .ok (.invokevirtual 317, 3) := by decide +kernel
theorem dW_canBeAsked_38 : decode cW_canBeAsked 38 = .ok (.ifCond .eq 7, 3) := by decide +kernel
theorem dW_canBeAsked_41 : decode cW_canBeAsked 41 = .ok (.iconst 1, 1) := by decide +kernel
theorem dW_canBeAsked_42 : decode cW_canBeAsked 42 = .ok (.goto 4, 3) := by decide +kernel
theorem dW_canBeAsked_45 : decode cW_canBeAsked 45 = .ok (.iconst 0, 1) := by decide +kernel
theorem dW_canBeAsked_46 : decode cW_canBeAsked 46 = .ok (.istore 4, 2) := by decide +kernel
theorem dW_canBeAsked_48 : decode cW_canBeAsked 48 = .ok (.iload_n 1, 1) := by decide +kernel
theorem dW_canBeAsked_49 : decode cW_canBeAsked 49 = .ok (.iconst 4, 1) := by decide +kernel
theorem dW_canBeAsked_50 : decode cW_canBeAsked 50 = .ok (.if_icmp .eq 19, 3) := by decide +kernel
theorem dW_canBeAsked_53 : decode cW_canBeAsked 53 = .ok (.iload_n 1, 1) := by decide +kernel
theorem dW_canBeAsked_54 : decode cW_canBeAsked 54 = .ok (.iconst 5, 1) := by decide +kernel
theorem dW_canBeAsked_55 : decode cW_canBeAsked 55 = .ok (.if_icmp .eq 14, 3) := by decide +kernel
theorem dW_canBeAsked_58 : decode cW_canBeAsked 58 = .ok (.aload_n 0, 1) := by decide +kernel
theorem dW_canBeAsked_59 : decode cW_canBeAsked 59 = .ok (.getfield 45, 3) := by decide +kernel
theorem dW_canBeAsked_62 : decode cW_canBeAsked 62 = .ok (.iload_n 3, 1) := by decide +kernel
theorem dW_canBeAsked_63 : decode cW_canBeAsked 63 = .ok (.invokevirtual 320, 3) := by decide +kernel
theorem dW_canBeAsked_66 : decode cW_canBeAsked 66 = .ok (.ifCond .eq 7, 3) := by decide +kernel
theorem dW_canBeAsked_69 : decode cW_canBeAsked 69 = .ok (.iconst 1, 1) := by decide +kernel
theorem dW_canBeAsked_70 : decode cW_canBeAsked 70 = .ok (.goto 4, 3) := by decide +kernel
theorem dW_canBeAsked_73 : decode cW_canBeAsked 73 = .ok (.iconst 0, 1) := by decide +kernel
theorem dW_canBeAsked_74 : decode cW_canBeAsked 74 = .ok (.istore 5, 2) := by decide +kernel
theorem dW_canBeAsked_76 : decode cW_canBeAsked 76 = .ok (.iload 4, 2) := by decide +kernel
theorem dW_canBeAsked_78 : decode cW_canBeAsked 78 = .ok (.ifCond .eq 12, 3) := by decide +kernel
theorem dW_canBeAsked_81 : decode cW_canBeAsked 81 = .ok (.iload 5, 2) := by decide +kernel
theorem dW_canBeAsked_83 : decode cW_canBeAsked 83 = .ok (.ifCond .eq 7, 3) := by decide +kernel
theorem dW_canBeAsked_86 : decode cW_canBeAsked 86 = .ok (.iconst 1, 1) := by decide +kernel
theorem dW_canBeAsked_87 : decode cW_canBeAsked 87 = .ok (.goto 4, 3) := by decide +kernel
theorem dW_canBeAsked_90 : decode cW_canBeAsked 90 = .ok (.iconst 0, 1) := by decide +kernel
theorem dW_canBeAsked_91 : decode cW_canBeAsked 91 = .ok (.ireturn, 1) := by decide +kernel
theorem dW_told_0 : decode cW_told 0 = .ok (.iload_n 1, 1) := by decide +kernel
theorem dW_told_1 : decode cW_told 1 = .ok (.tableswitch 129 0 8 #[51, 59, 67, 75, 86, 94, 102, 113, 121], 51) := by decide +kernel
theorem dW_told_52 : decode cW_told 52 = .ok (.aload_n 0, 1) := by decide +kernel
theorem dW_told_53 : decode cW_told 53 = .ok (.getfield 10, 3) := by decide +kernel
theorem dW_told_56 : decode cW_told 56 = .ok (.invokevirtual 127, 3) := by decide +kernel
theorem dW_told_59 : decode cW_told 59 = .ok (.ireturn, 1) := by decide +kernel
theorem dW_told_60 : decode cW_told 60 = .ok (.aload_n 0, 1) := by decide +kernel
theorem dW_told_61 : decode cW_told 61 = .ok (.getfield 19, 3) := by decide +kernel
theorem dW_told_64 : decode cW_told 64 = .ok (.invokevirtual 133, 3) := by decide +kernel
theorem dW_told_67 : decode cW_told 67 = .ok (.ireturn, 1) := by decide +kernel
theorem dW_told_68 : decode cW_told 68 = .ok (.aload_n 0, 1) := by decide +kernel
theorem dW_told_69 : decode cW_told 69 = .ok (.getfield 23, 3) := by decide +kernel
theorem dW_told_72 : decode cW_told 72 = .ok (.invokevirtual 133, 3) := by decide +kernel
theorem dW_told_75 : decode cW_told 75 = .ok (.ireturn, 1) := by decide +kernel
theorem dW_told_76 : decode cW_told 76 = .ok (.aload_n 0, 1) := by decide +kernel
theorem dW_told_77 : decode cW_told 77 = .ok (.getfield 29, 3) := by decide +kernel
theorem dW_told_80 : decode cW_told 80 = .ok (.getfield 218, 3) := by decide +kernel
theorem dW_told_83 : decode cW_told 83 = .ok (.getfield 180, 3) := by decide +kernel
theorem dW_told_86 : decode cW_told 86 = .ok (.ireturn, 1) := by decide +kernel
theorem dW_told_87 : decode cW_told 87 = .ok (.aload_n 0, 1) := by decide +kernel
theorem dW_told_88 : decode cW_told 88 = .ok (.getfield 38, 3) := by decide +kernel
theorem dW_told_91 : decode cW_told 91 = .ok (.getfield 180, 3) := by decide +kernel
theorem dW_told_94 : decode cW_told 94 = .ok (.ireturn, 1) := by decide +kernel
theorem dW_told_95 : decode cW_told 95 = .ok (.aload_n 0, 1) := by decide +kernel
theorem dW_told_96 : decode cW_told 96 = .ok (.getfield 71, 3) := by decide +kernel
theorem dW_told_99 : decode cW_told 99 = .ok (.getfield 262, 3) := by decide +kernel
theorem dW_told_102 : decode cW_told 102 = .ok (.ireturn, 1) := by decide +kernel
theorem dW_told_103 : decode cW_told 103 = .ok (.aload_n 0, 1) := by decide +kernel
theorem dW_told_104 : decode cW_told 104 = .ok (.getfield 53, 3) := by decide +kernel
theorem dW_told_107 : decode cW_told 107 = .ok (.getfield 281, 3) := by decide +kernel
theorem dW_told_110 : decode cW_told 110 = .ok (.getfield 285, 3) := by decide +kernel
theorem dW_told_113 : decode cW_told 113 = .ok (.ireturn, 1) := by decide +kernel
theorem dW_told_114 : decode cW_told 114 = .ok (.aload_n 0, 1) := by decide +kernel
theorem dW_told_115 : decode cW_told 115 = .ok (.getfield 71, 3) := by decide +kernel
theorem dW_told_118 : decode cW_told 118 = .ok (.invokevirtual 295, 3) := by decide +kernel
theorem dW_told_121 : decode cW_told 121 = .ok (.ireturn, 1) := by decide +kernel
theorem dW_told_122 : decode cW_told 122 = .ok (.aload_n 0, 1) := by decide +kernel
theorem dW_told_123 : decode cW_told 123 = .ok (.getfield 71, 3) := by decide +kernel
theorem dW_told_126 : decode cW_told 126 = .ok (.invokevirtual 298, 3) := by decide +kernel
theorem dW_told_129 : decode cW_told 129 = .ok (.ireturn, 1) := by decide +kernel
theorem dW_told_130 : decode cW_told 130 = .ok (.iconst (-1), 1) := by decide +kernel
theorem dW_told_131 : decode cW_told 131 = .ok (.ireturn, 1) := by decide +kernel
theorem dAL_clear_0 : decode cAL_clear 0 = .ok (.aload_n 0, 1) := by decide +kernel
theorem dAL_clear_1 : decode cAL_clear 1 = .ok (.dup, 1) := by decide +kernel
theorem dAL_clear_2 : decode cAL_clear 2 = .ok (.getfield 63, 3) := by decide +kernel
theorem dAL_clear_5 : decode cAL_clear 5 = .ok (.iconst 1, 1) := by decide +kernel
theorem dAL_clear_6 : decode cAL_clear 6 = .ok (.iadd, 1) := by decide +kernel
theorem dAL_clear_7 : decode cAL_clear 7 = .ok (.putfield 63, 3) := by decide +kernel
theorem dAL_clear_10 : decode cAL_clear 10 = .ok (.aload_n 0, 1) := by decide +kernel
theorem dAL_clear_11 : decode cAL_clear 11 = .ok (.getfield 9, 3) := by decide +kernel
theorem dAL_clear_14 : decode cAL_clear 14 = .ok (.astore_n 1, 1) := by decide +kernel
theorem dAL_clear_15 : decode cAL_clear 15 = .ok (.aload_n 0, 1) := by decide +kernel
theorem dAL_clear_16 : decode cAL_clear 16 = .ok (.getfield 48, 3) := by decide +kernel
theorem dAL_clear_19 : decode cAL_clear 19 = .ok (.istore_n 2, 1) := by decide +kernel
theorem dAL_clear_20 : decode cAL_clear 20 = .ok (.aload_n 0, 1) := by decide +kernel
theorem dAL_clear_21 : decode cAL_clear 21 = .ok (.iconst 0, 1) := by decide +kernel
theorem dAL_clear_22 : decode cAL_clear 22 = .ok (.dup_x1, 1) := by decide +kernel
theorem dAL_clear_23 : decode cAL_clear 23 = .ok (.putfield 48, 3) := by decide +kernel
theorem dAL_clear_26 : decode cAL_clear 26 = .ok (.istore_n 3, 1) := by decide +kernel
theorem dAL_clear_27 : decode cAL_clear 27 = .ok (.iload_n 3, 1) := by decide +kernel
theorem dAL_clear_28 : decode cAL_clear 28 = .ok (.iload_n 2, 1) := by decide +kernel
theorem dAL_clear_29 : decode cAL_clear 29 = .ok (.if_icmp .ge 13, 3) := by decide +kernel
theorem dAL_clear_32 : decode cAL_clear 32 = .ok (.aload_n 1, 1) := by decide +kernel
theorem dAL_clear_33 : decode cAL_clear 33 = .ok (.iload_n 3, 1) := by decide +kernel
theorem dAL_clear_34 : decode cAL_clear 34 = .ok (.aconst_null, 1) := by decide +kernel
theorem dAL_clear_35 : decode cAL_clear 35 = .ok (.aastore, 1) := by decide +kernel
theorem dAL_clear_36 : decode cAL_clear 36 = .ok (.iinc 3 1, 3) := by decide +kernel
theorem dAL_clear_39 : decode cAL_clear 39 = .ok (.goto (-12), 3) := by decide +kernel
theorem dAL_clear_42 : decode cAL_clear 42 = .ok (.return_, 1) := by decide +kernel
theorem dW_clear_0 : decode cW_clear 0 = .ok (.aload_n 0, 1) := by decide +kernel
theorem dW_clear_1 : decode cW_clear 1 = .ok (.getfield 10, 3) := by decide +kernel
theorem dW_clear_4 : decode cW_clear 4 = .ok (.aload_n 0, 1) := by decide +kernel
theorem dW_clear_5 : decode cW_clear 5 = .ok (.getfield 10, 3) := by decide +kernel
theorem dW_clear_8 : decode cW_clear 8 = .ok (.getfield 301, 3) := by decide +kernel
theorem dW_clear_11 : decode cW_clear 11 = .ok (.aload_n 0, 1) := by decide +kernel
theorem dW_clear_12 : decode cW_clear 12 = .ok (.getfield 10, 3) := by decide +kernel
theorem dW_clear_15 : decode cW_clear 15 = .ok (.getfield 304, 3) := by decide +kernel
theorem dW_clear_18 : decode cW_clear 18 = .ok (.invokevirtual 83, 3) := by decide +kernel
theorem dW_clear_21 : decode cW_clear 21 = .ok (.aload_n 0, 1) := by decide +kernel
theorem dW_clear_22 : decode cW_clear 22 = .ok (.getfield 19, 3) := by decide +kernel
theorem dW_clear_25 : decode cW_clear 25 = .ok (.invokevirtual 307, 3) := by decide +kernel
theorem dW_clear_28 : decode cW_clear 28 = .ok (.aload_n 0, 1) := by decide +kernel
theorem dW_clear_29 : decode cW_clear 29 = .ok (.getfield 23, 3) := by decide +kernel
theorem dW_clear_32 : decode cW_clear 32 = .ok (.invokevirtual 307, 3) := by decide +kernel
theorem dW_clear_35 : decode cW_clear 35 = .ok (.aload_n 0, 1) := by decide +kernel
theorem dW_clear_36 : decode cW_clear 36 = .ok (.getfield 29, 3) := by decide +kernel
theorem dW_clear_39 : decode cW_clear 39 = .ok (.invokevirtual 204, 3) := by decide +kernel
theorem dW_clear_42 : decode cW_clear 42 = .ok (.aload_n 0, 1) := by decide +kernel
theorem dW_clear_43 : decode cW_clear 43 = .ok (.getfield 38, 3) := by decide +kernel
theorem dW_clear_46 : decode cW_clear 46 = .ok (.iconst 0, 1) := by decide +kernel
theorem dW_clear_47 : decode cW_clear 47 = .ok (.putfield 180, 3) := by decide +kernel
theorem dW_clear_50 : decode cW_clear 50 = .ok (.aload_n 0, 1) := by decide +kernel
theorem dW_clear_51 : decode cW_clear 51 = .ok (.getfield 42, 3) := by decide +kernel
theorem dW_clear_54 : decode cW_clear 54 = .ok (.iconst 0, 1) := by decide +kernel
theorem dW_clear_55 : decode cW_clear 55 = .ok (.putfield 180, 3) := by decide +kernel
theorem dW_clear_58 : decode cW_clear 58 = .ok (.aload_n 0, 1) := by decide +kernel
theorem dW_clear_59 : decode cW_clear 59 = .ok (.invokevirtual 238, 3) := by decide +kernel
theorem dW_clear_62 : decode cW_clear 62 = .ok (.return_, 1) := by decide +kernel
theorem dD_near_0 : decode cD_near 0 = .ok (.iload_n 0, 1) := by decide +kernel
theorem dD_near_1 : decode cD_near 1 = .ok (.iload_n 1, 1) := by decide +kernel
theorem dD_near_2 : decode cD_near 2 = .ok (.if_icmp .ge 7, 3) := by decide +kernel
theorem dD_near_5 : decode cD_near 5 = .ok (.iload_n 1, 1) := by decide +kernel
theorem dD_near_6 : decode cD_near 6 = .ok (.goto 13, 3) := by decide +kernel
theorem dD_near_9 : decode cD_near 9 = .ok (.iload_n 0, 1) := by decide +kernel
theorem dD_near_10 : decode cD_near 10 = .ok (.iload_n 2, 1) := by decide +kernel
theorem dD_near_11 : decode cD_near 11 = .ok (.if_icmp .le 7, 3) := by decide +kernel
theorem dD_near_14 : decode cD_near 14 = .ok (.iload_n 2, 1) := by decide +kernel
theorem dD_near_15 : decode cD_near 15 = .ok (.goto 4, 3) := by decide +kernel
theorem dD_near_18 : decode cD_near 18 = .ok (.iload_n 0, 1) := by decide +kernel
theorem dD_near_19 : decode cD_near 19 = .ok (.ireturn, 1) := by decide +kernel
theorem dD_put_0 : decode cD_put 0 = .ok (.aload_n 0, 1) := by decide +kernel
theorem dD_put_1 : decode cD_put 1 = .ok (.getfield 7, 3) := by decide +kernel
theorem dD_put_4 : decode cD_put 4 = .ok (.bipush 11, 2) := by decide +kernel
theorem dD_put_6 : decode cD_put 6 = .ok (.iload_n 1, 1) := by decide +kernel
theorem dD_put_7 : decode cD_put 7 = .ok (.imul, 1) := by decide +kernel
theorem dD_put_8 : decode cD_put 8 = .ok (.iload_n 2, 1) := by decide +kernel
theorem dD_put_9 : decode cD_put 9 = .ok (.iadd, 1) := by decide +kernel
theorem dD_put_10 : decode cD_put 10 = .ok (.iload_n 3, 1) := by decide +kernel
theorem dD_put_11 : decode cD_put 11 = .ok (.iastore, 1) := by decide +kernel
theorem dD_put_12 : decode cD_put 12 = .ok (.return_, 1) := by decide +kernel
theorem dD_begin_0 : decode cD_begin 0 = .ok (.iload_n 1, 1) := by decide +kernel
theorem dD_begin_1 : decode cD_begin 1 = .ok (.ifCond .ne 7, 3) := by decide +kernel
theorem dD_begin_4 : decode cD_begin 4 = .ok (.iconst 0, 1) := by decide +kernel
theorem dD_begin_5 : decode cD_begin 5 = .ok (.goto 4, 3) := by decide +kernel
theorem dD_begin_8 : decode cD_begin 8 = .ok (.iconst 5, 1) := by decide +kernel
theorem dD_begin_9 : decode cD_begin 9 = .ok (.istore_n 2, 1) := by decide +kernel
theorem dD_begin_10 : decode cD_begin 10 = .ok (.aload_n 0, 1) := by decide +kernel
theorem dD_begin_11 : decode cD_begin 11 = .ok (.getfield 23, 3) := by decide +kernel
theorem dD_begin_14 : decode cD_begin 14 = .ok (.iload_n 2, 1) := by decide +kernel
theorem dD_begin_15 : decode cD_begin 15 = .ok (.aload_n 0, 1) := by decide +kernel
theorem dD_begin_16 : decode cD_begin 16 = .ok (.getfield 100, 3) := by decide +kernel
theorem dD_begin_19 : decode cD_begin 19 = .ok (.iastore, 1) := by decide +kernel
theorem dD_begin_20 : decode cD_begin 20 = .ok (.aload_n 0, 1) := by decide +kernel
theorem dD_begin_21 : decode cD_begin 21 = .ok (.getfield 23, 3) := by decide +kernel
theorem dD_begin_24 : decode cD_begin 24 = .ok (.iload_n 2, 1) := by decide +kernel
theorem dD_begin_25 : decode cD_begin 25 = .ok (.iconst 1, 1) := by decide +kernel
theorem dD_begin_26 : decode cD_begin 26 = .ok (.iadd, 1) := by decide +kernel
theorem dD_begin_27 : decode cD_begin 27 = .ok (.aload_n 0, 1) := by decide +kernel
theorem dD_begin_28 : decode cD_begin 28 = .ok (.getfield 104, 3) := by decide +kernel
theorem dD_begin_31 : decode cD_begin 31 = .ok (.iastore, 1) := by decide +kernel
theorem dD_begin_32 : decode cD_begin 32 = .ok (.aload_n 0, 1) := by decide +kernel
theorem dD_begin_33 : decode cD_begin 33 = .ok (.getfield 23, 3) := by decide +kernel
theorem dD_begin_36 : decode cD_begin 36 = .ok (.iload_n 2, 1) := by decide +kernel
theorem dD_begin_37 : decode cD_begin 37 = .ok (.iconst 2, 1) := by decide +kernel
theorem dD_begin_38 : decode cD_begin 38 = .ok (.iadd, 1) := by decide +kernel
theorem dD_begin_39 : decode cD_begin 39 = .ok (.iconst 1, 1) := by decide +kernel
theorem dD_begin_40 : decode cD_begin 40 = .ok (.iastore, 1) := by decide +kernel
theorem dD_begin_41 : decode cD_begin 41 = .ok (.aload_n 0, 1) := by decide +kernel
theorem dD_begin_42 : decode cD_begin 42 = .ok (.getfield 23, 3) := by decide +kernel
theorem dD_begin_45 : decode cD_begin 45 = .ok (.iload_n 2, 1) := by decide +kernel
theorem dD_begin_46 : decode cD_begin 46 = .ok (.iconst 3, 1) := by decide +kernel
theorem dD_begin_47 : decode cD_begin 47 = .ok (.iadd, 1) := by decide +kernel
theorem dD_begin_48 : decode cD_begin 48 = .ok (.aload_n 0, 1) := by decide +kernel
theorem dD_begin_49 : decode cD_begin 49 = .ok (.getfield 100, 3) := by decide +kernel
theorem dD_begin_52 : decode cD_begin 52 = .ok (.iastore, 1) := by decide +kernel
theorem dD_begin_53 : decode cD_begin 53 = .ok (.aload_n 0, 1) := by decide +kernel
theorem dD_begin_54 : decode cD_begin 54 = .ok (.getfield 23, 3) := by decide +kernel
theorem dD_begin_57 : decode cD_begin 57 = .ok (.iload_n 2, 1) := by decide +kernel
theorem dD_begin_58 : decode cD_begin 58 = .ok (.iconst 4, 1) := by decide +kernel
theorem dD_begin_59 : decode cD_begin 59 = .ok (.iadd, 1) := by decide +kernel
theorem dD_begin_60 : decode cD_begin 60 = .ok (.aload_n 0, 1) := by decide +kernel
theorem dD_begin_61 : decode cD_begin 61 = .ok (.getfield 104, 3) := by decide +kernel
theorem dD_begin_64 : decode cD_begin 64 = .ok (.iastore, 1) := by decide +kernel
theorem dD_begin_65 : decode cD_begin 65 = .ok (.iconst 0, 1) := by decide +kernel
theorem dD_begin_66 : decode cD_begin 66 = .ok (.istore_n 3, 1) := by decide +kernel
theorem dD_begin_67 : decode cD_begin 67 = .ok (.iload_n 3, 1) := by decide +kernel
theorem dD_begin_68 : decode cD_begin 68 = .ok (.iconst 4, 1) := by decide +kernel
theorem dD_begin_69 : decode cD_begin 69 = .ok (.if_icmp .ge 27, 3) := by decide +kernel
theorem dD_begin_72 : decode cD_begin 72 = .ok (.aload_n 0, 1) := by decide +kernel
theorem dD_begin_73 : decode cD_begin 73 = .ok (.getfield 20, 3) := by decide +kernel
theorem dD_begin_76 : decode cD_begin 76 = .ok (.iload_n 2, 1) := by decide +kernel
theorem dD_begin_77 : decode cD_begin 77 = .ok (.ifCond .ne 7, 3) := by decide +kernel
theorem dD_begin_80 : decode cD_begin 80 = .ok (.iconst 0, 1) := by decide +kernel
theorem dD_begin_81 : decode cD_begin 81 = .ok (.goto 4, 3) := by decide +kernel
theorem dD_begin_84 : decode cD_begin 84 = .ok (.iconst 4, 1) := by decide +kernel
theorem dD_begin_85 : decode cD_begin 85 = .ok (.iload_n 3, 1) := by decide +kernel
theorem dD_begin_86 : decode cD_begin 86 = .ok (.iadd, 1) := by decide +kernel
theorem dD_begin_87 : decode cD_begin 87 = .ok (.bipush 8, 2) := by decide +kernel
theorem dD_begin_89 : decode cD_begin 89 = .ok (.iastore, 1) := by decide +kernel
theorem dD_begin_90 : decode cD_begin 90 = .ok (.iinc 3 1, 3) := by decide +kernel
theorem dD_begin_93 : decode cD_begin 93 = .ok (.goto (-26), 3) := by decide +kernel
theorem dD_begin_96 : decode cD_begin 96 = .ok (.iconst 0, 1) := by decide +kernel
theorem dD_begin_97 : decode cD_begin 97 = .ok (.istore_n 3, 1) := by decide +kernel
theorem dD_begin_98 : decode cD_begin 98 = .ok (.iload_n 3, 1) := by decide +kernel
theorem dD_begin_99 : decode cD_begin 99 = .ok (.bipush 125, 2) := by decide +kernel
theorem dD_begin_101 : decode cD_begin 101 = .ok (.if_icmp .ge 43, 3) := by decide +kernel
theorem dD_begin_104 : decode cD_begin 104 = .ok (.aload_n 0, 1) := by decide +kernel
theorem dD_begin_105 : decode cD_begin 105 = .ok (.getfield 13, 3) := by decide +kernel
theorem dD_begin_108 : decode cD_begin 108 = .ok (.iload_n 1, 1) := by decide +kernel
theorem dD_begin_109 : decode cD_begin 109 = .ok (.iload_n 3, 1) := by decide +kernel
theorem dD_begin_110 : decode cD_begin 110 = .ok (.iadd, 1) := by decide +kernel
theorem dD_begin_111 : decode cD_begin 111 = .ok (.iload_n 3, 1) := by decide +kernel
theorem dD_begin_112 : decode cD_begin 112 = .ok (.ifCond .ne 7, 3) := by decide +kernel
theorem dD_begin_115 : decode cD_begin 115 = .ok (.iconst 1, 1) := by decide +kernel
theorem dD_begin_116 : decode cD_begin 116 = .ok (.goto 4, 3) := by decide +kernel
theorem dD_begin_119 : decode cD_begin 119 = .ok (.iconst 0, 1) := by decide +kernel
theorem dD_begin_120 : decode cD_begin 120 = .ok (.bastore, 1) := by decide +kernel
theorem dD_begin_121 : decode cD_begin 121 = .ok (.aload_n 0, 1) := by decide +kernel
theorem dD_begin_122 : decode cD_begin 122 = .ok (.getfield 17, 3) := by decide +kernel
theorem dD_begin_125 : decode cD_begin 125 = .ok (.iload_n 1, 1) := by decide +kernel
theorem dD_begin_126 : decode cD_begin 126 = .ok (.iload_n 3, 1) := by decide +kernel
theorem dD_begin_127 : decode cD_begin 127 = .ok (.iadd, 1) := by decide +kernel
theorem dD_begin_128 : decode cD_begin 128 = .ok (.iload_n 3, 1) := by decide +kernel
theorem dD_begin_129 : decode cD_begin 129 = .ok (.ifCond .ne 7, 3) := by decide +kernel
theorem dD_begin_132 : decode cD_begin 132 = .ok (.iconst 1, 1) := by decide +kernel
theorem dD_begin_133 : decode cD_begin 133 = .ok (.goto 4, 3) := by decide +kernel
theorem dD_begin_136 : decode cD_begin 136 = .ok (.iconst 0, 1) := by decide +kernel
theorem dD_begin_137 : decode cD_begin 137 = .ok (.bastore, 1) := by decide +kernel
theorem dD_begin_138 : decode cD_begin 138 = .ok (.iinc 3 1, 3) := by decide +kernel
theorem dD_begin_141 : decode cD_begin 141 = .ok (.goto (-43), 3) := by decide +kernel
theorem dD_begin_144 : decode cD_begin 144 = .ok (.aload_n 0, 1) := by decide +kernel
theorem dD_begin_145 : decode cD_begin 145 = .ok (.iload_n 1, 1) := by decide +kernel
theorem dD_begin_146 : decode cD_begin 146 = .ok (.iconst 4, 1) := by decide +kernel
theorem dD_begin_147 : decode cD_begin 147 = .ok (.iconst 0, 1) := by decide +kernel
theorem dD_begin_148 : decode cD_begin 148 = .ok (.invokevirtual 113, 3) := by decide +kernel
theorem dD_begin_151 : decode cD_begin 151 = .ok (.aload_n 0, 1) := by decide +kernel
theorem dD_begin_152 : decode cD_begin 152 = .ok (.iload_n 1, 1) := by decide +kernel
theorem dD_begin_153 : decode cD_begin 153 = .ok (.iconst 5, 1) := by decide +kernel
theorem dD_begin_154 : decode cD_begin 154 = .ok (.iconst 1, 1) := by decide +kernel
theorem dD_begin_155 : decode cD_begin 155 = .ok (.invokevirtual 113, 3) := by decide +kernel
theorem dD_begin_158 : decode cD_begin 158 = .ok (.aload_n 0, 1) := by decide +kernel
theorem dD_begin_159 : decode cD_begin 159 = .ok (.iload_n 1, 1) := by decide +kernel
theorem dD_begin_160 : decode cD_begin 160 = .ok (.bipush 6, 2) := by decide +kernel
theorem dD_begin_162 : decode cD_begin 162 = .ok (.iconst 5, 1) := by decide +kernel
theorem dD_begin_163 : decode cD_begin 163 = .ok (.invokevirtual 113, 3) := by decide +kernel
theorem dD_begin_166 : decode cD_begin 166 = .ok (.aload_n 0, 1) := by decide +kernel
theorem dD_begin_167 : decode cD_begin 167 = .ok (.iload_n 1, 1) := by decide +kernel
theorem dD_begin_168 : decode cD_begin 168 = .ok (.bipush 7, 2) := by decide +kernel
theorem dD_begin_170 : decode cD_begin 170 = .ok (.iconst 4, 1) := by decide +kernel
theorem dD_begin_171 : decode cD_begin 171 = .ok (.invokevirtual 113, 3) := by decide +kernel
theorem dD_begin_174 : decode cD_begin 174 = .ok (.aload_n 0, 1) := by decide +kernel
theorem dD_begin_175 : decode cD_begin 175 = .ok (.iload_n 1, 1) := by decide +kernel
theorem dD_begin_176 : decode cD_begin 176 = .ok (.bipush 8, 2) := by decide +kernel
theorem dD_begin_178 : decode cD_begin 178 = .ok (.iconst 1, 1) := by decide +kernel
theorem dD_begin_179 : decode cD_begin 179 = .ok (.invokevirtual 113, 3) := by decide +kernel
theorem dD_begin_182 : decode cD_begin 182 = .ok (.aload_n 0, 1) := by decide +kernel
theorem dD_begin_183 : decode cD_begin 183 = .ok (.iload_n 1, 1) := by decide +kernel
theorem dD_begin_184 : decode cD_begin 184 = .ok (.bipush 9, 2) := by decide +kernel
theorem dD_begin_186 : decode cD_begin 186 = .ok (.bipush 8, 2) := by decide +kernel
theorem dD_begin_188 : decode cD_begin 188 = .ok (.invokevirtual 113, 3) := by decide +kernel
theorem dD_begin_191 : decode cD_begin 191 = .ok (.aload_n 0, 1) := by decide +kernel
theorem dD_begin_192 : decode cD_begin 192 = .ok (.iload_n 1, 1) := by decide +kernel
theorem dD_begin_193 : decode cD_begin 193 = .ok (.bipush 10, 2) := by decide +kernel
theorem dD_begin_195 : decode cD_begin 195 = .ok (.iconst 2, 1) := by decide +kernel
theorem dD_begin_196 : decode cD_begin 196 = .ok (.invokevirtual 113, 3) := by decide +kernel
theorem dD_begin_199 : decode cD_begin 199 = .ok (.return_, 1) := by decide +kernel
theorem dD_clear_0 : decode cD_clear 0 = .ok (.aload_n 0, 1) := by decide +kernel
theorem dD_clear_1 : decode cD_clear 1 = .ok (.iconst 0, 1) := by decide +kernel
theorem dD_clear_2 : decode cD_clear 2 = .ok (.putfield 110, 3) := by decide +kernel
theorem dD_clear_5 : decode cD_clear 5 = .ok (.aload_n 0, 1) := by decide +kernel
theorem dD_clear_6 : decode cD_clear 6 = .ok (.iconst 0, 1) := by decide +kernel
theorem dD_clear_7 : decode cD_clear 7 = .ok (.invokevirtual 371, 3) := by decide +kernel
theorem dD_clear_10 : decode cD_clear 10 = .ok (.aload_n 0, 1) := by decide +kernel
theorem dD_clear_11 : decode cD_clear 11 = .ok (.iconst 0, 1) := by decide +kernel
theorem dD_clear_12 : decode cD_clear 12 = .ok (.putfield 145, 3) := by decide +kernel
theorem dD_clear_15 : decode cD_clear 15 = .ok (.aload_n 0, 1) := by decide +kernel
theorem dD_clear_16 : decode cD_clear 16 = .ok (.iconst 0, 1) := by decide +kernel
theorem dD_clear_17 : decode cD_clear 17 = .ok (.putfield 209, 3) := by decide +kernel
theorem dD_clear_20 : decode cD_clear 20 = .ok (.aload_n 0, 1) := by decide +kernel
theorem dD_clear_21 : decode cD_clear 21 = .ok (.iconst 0, 1) := by decide +kernel
theorem dD_clear_22 : decode cD_clear 22 = .ok (.putfield 212, 3) := by decide +kernel
theorem dD_clear_25 : decode cD_clear 25 = .ok (.aload_n 0, 1) := by decide +kernel
theorem dD_clear_26 : decode cD_clear 26 = .ok (.iconst 0, 1) := by decide +kernel
theorem dD_clear_27 : decode cD_clear 27 = .ok (.putfield 255, 3) := by decide +kernel
theorem dD_clear_30 : decode cD_clear 30 = .ok (.aload_n 0, 1) := by decide +kernel
theorem dD_clear_31 : decode cD_clear 31 = .ok (.iconst 0, 1) := by decide +kernel
theorem dD_clear_32 : decode cD_clear 32 = .ok (.putfield 380, 3) := by decide +kernel
theorem dD_clear_35 : decode cD_clear 35 = .ok (.aload_n 0, 1) := by decide +kernel
theorem dD_clear_36 : decode cD_clear 36 = .ok (.iconst 0, 1) := by decide +kernel
theorem dD_clear_37 : decode cD_clear 37 = .ok (.putfield 269, 3) := by decide +kernel
theorem dD_clear_40 : decode cD_clear 40 = .ok (.aload_n 0, 1) := by decide +kernel
theorem dD_clear_41 : decode cD_clear 41 = .ok (.iconst 0, 1) := by decide +kernel
theorem dD_clear_42 : decode cD_clear 42 = .ok (.putfield 349, 3) := by decide +kernel
theorem dD_clear_45 : decode cD_clear 45 = .ok (.return_, 1) := by decide +kernel
theorem dD_init_0 : decode cD_init 0 = .ok (.aload_n 0, 1) := by decide +kernel
theorem dD_init_1 : decode cD_init 1 = .ok (.invokespecial 1, 3) := by decide +kernel
theorem dD_init_4 : decode cD_init 4 = .ok (.aload_n 0, 1) := by decide +kernel
theorem dD_init_5 : decode cD_init 5 = .ok (.sipush 2750, 3) := by decide +kernel
theorem dD_init_8 : decode cD_init 8 = .ok (.newarray .int, 2) := by decide +kernel
theorem dD_init_10 : decode cD_init 10 = .ok (.putfield 7, 3) := by decide +kernel
theorem dD_init_13 : decode cD_init 13 = .ok (.aload_n 0, 1) := by decide +kernel
theorem dD_init_14 : decode cD_init 14 = .ok (.sipush 250, 3) := by decide +kernel
theorem dD_init_17 : decode cD_init 17 = .ok (.newarray .boolean, 2) := by decide +kernel
theorem dD_init_19 : decode cD_init 19 = .ok (.putfield 13, 3) := by decide +kernel
theorem dD_init_22 : decode cD_init 22 = .ok (.aload_n 0, 1) := by decide +kernel
theorem dD_init_23 : decode cD_init 23 = .ok (.sipush 250, 3) := by decide +kernel
theorem dD_init_26 : decode cD_init 26 = .ok (.newarray .boolean, 2) := by decide +kernel
theorem dD_init_28 : decode cD_init 28 = .ok (.putfield 17, 3) := by decide +kernel
theorem dD_init_31 : decode cD_init 31 = .ok (.aload_n 0, 1) := by decide +kernel
theorem dD_init_32 : decode cD_init 32 = .ok (.bipush 8, 2) := by decide +kernel
theorem dD_init_34 : decode cD_init 34 = .ok (.newarray .int, 2) := by decide +kernel
theorem dD_init_36 : decode cD_init 36 = .ok (.putfield 20, 3) := by decide +kernel
theorem dD_init_39 : decode cD_init 39 = .ok (.aload_n 0, 1) := by decide +kernel
theorem dD_init_40 : decode cD_init 40 = .ok (.bipush 10, 2) := by decide +kernel
theorem dD_init_42 : decode cD_init 42 = .ok (.newarray .int, 2) := by decide +kernel
theorem dD_init_44 : decode cD_init 44 = .ok (.putfield 23, 3) := by decide +kernel
theorem dD_init_47 : decode cD_init 47 = .ok (.aload_n 0, 1) := by decide +kernel
theorem dD_init_48 : decode cD_init 48 = .ok (.bipush 40, 2) := by decide +kernel
theorem dD_init_50 : decode cD_init 50 = .ok (.newarray .int, 2) := by decide +kernel
theorem dD_init_52 : decode cD_init 52 = .ok (.putfield 26, 3) := by decide +kernel
theorem dD_init_55 : decode cD_init 55 = .ok (.aload_n 0, 1) := by decide +kernel
theorem dD_init_56 : decode cD_init 56 = .ok (.bipush 40, 2) := by decide +kernel
theorem dD_init_58 : decode cD_init 58 = .ok (.newarray .int, 2) := by decide +kernel
theorem dD_init_60 : decode cD_init 60 = .ok (.putfield 29, 3) := by decide +kernel
theorem dD_init_63 : decode cD_init 63 = .ok (.aload_n 0, 1) := by decide +kernel
theorem dD_init_64 : decode cD_init 64 = .ok (.sipush 800, 3) := by decide +kernel
theorem dD_init_67 : decode cD_init 67 = .ok (.newarray .int, 2) := by decide +kernel
theorem dD_init_69 : decode cD_init 69 = .ok (.putfield 32, 3) := by decide +kernel
theorem dD_init_72 : decode cD_init 72 = .ok (.aload_n 0, 1) := by decide +kernel
theorem dD_init_73 : decode cD_init 73 = .ok (.bipush 40, 2) := by decide +kernel
theorem dD_init_75 : decode cD_init 75 = .ok (.newarray .int, 2) := by decide +kernel
theorem dD_init_77 : decode cD_init 77 = .ok (.putfield 35, 3) := by decide +kernel
theorem dD_init_80 : decode cD_init 80 = .ok (.aload_n 0, 1) := by decide +kernel
theorem dD_init_81 : decode cD_init 81 = .ok (.sipush 12000, 3) := by decide +kernel
theorem dD_init_84 : decode cD_init 84 = .ok (.newarray .int, 2) := by decide +kernel
theorem dD_init_86 : decode cD_init 86 = .ok (.putfield 38, 3) := by decide +kernel
theorem dD_init_89 : decode cD_init 89 = .ok (.aload_n 0, 1) := by decide +kernel
theorem dD_init_90 : decode cD_init 90 = .ok (.bipush 8, 2) := by decide +kernel
theorem dD_init_92 : decode cD_init 92 = .ok (.newarray .boolean, 2) := by decide +kernel
theorem dD_init_94 : decode cD_init 94 = .ok (.putfield 41, 3) := by decide +kernel
theorem dD_init_97 : decode cD_init 97 = .ok (.aload_n 0, 1) := by decide +kernel
theorem dD_init_98 : decode cD_init 98 = .ok (.bipush 8, 2) := by decide +kernel
theorem dD_init_100 : decode cD_init 100 = .ok (.newarray .int, 2) := by decide +kernel
theorem dD_init_102 : decode cD_init 102 = .ok (.putfield 44, 3) := by decide +kernel
theorem dD_init_105 : decode cD_init 105 = .ok (.aload_n 0, 1) := by decide +kernel
theorem dD_init_106 : decode cD_init 106 = .ok (.bipush 8, 2) := by decide +kernel
theorem dD_init_108 : decode cD_init 108 = .ok (.newarray .int, 2) := by decide +kernel
theorem dD_init_110 : decode cD_init 110 = .ok (.putfield 47, 3) := by decide +kernel
theorem dD_init_113 : decode cD_init 113 = .ok (.aload_n 0, 1) := by decide +kernel
theorem dD_init_114 : decode cD_init 114 = .ok (.sipush 320, 3) := by decide +kernel
theorem dD_init_117 : decode cD_init 117 = .ok (.newarray .int, 2) := by decide +kernel
theorem dD_init_119 : decode cD_init 119 = .ok (.putfield 50, 3) := by decide +kernel
theorem dD_init_122 : decode cD_init 122 = .ok (.aload_n 0, 1) := by decide +kernel
theorem dD_init_123 : decode cD_init 123 = .ok (.ldc 53, 2) := by decide +kernel
theorem dD_init_125 : decode cD_init 125 = .ok (.newarray .int, 2) := by decide +kernel
theorem dD_init_127 : decode cD_init 127 = .ok (.putfield 54, 3) := by decide +kernel
theorem dD_init_130 : decode cD_init 130 = .ok (.aload_n 0, 1) := by decide +kernel
theorem dD_init_131 : decode cD_init 131 = .ok (.sipush 20000, 3) := by decide +kernel
theorem dD_init_134 : decode cD_init 134 = .ok (.newarray .int, 2) := by decide +kernel
theorem dD_init_136 : decode cD_init 136 = .ok (.putfield 57, 3) := by decide +kernel
theorem dD_init_139 : decode cD_init 139 = .ok (.aload_n 0, 1) := by decide +kernel
theorem dD_init_140 : decode cD_init 140 = .ok (.sipush 20000, 3) := by decide +kernel
theorem dD_init_143 : decode cD_init 143 = .ok (.newarray .int, 2) := by decide +kernel
theorem dD_init_145 : decode cD_init 145 = .ok (.putfield 60, 3) := by decide +kernel
theorem dD_init_148 : decode cD_init 148 = .ok (.aload_n 0, 1) := by decide +kernel
theorem dD_init_149 : decode cD_init 149 = .ok (.sipush 2600, 3) := by decide +kernel
theorem dD_init_152 : decode cD_init 152 = .ok (.newarray .int, 2) := by decide +kernel
theorem dD_init_154 : decode cD_init 154 = .ok (.putfield 63, 3) := by decide +kernel
theorem dD_init_157 : decode cD_init 157 = .ok (.aload_n 0, 1) := by decide +kernel
theorem dD_init_158 : decode cD_init 158 = .ok (.sipush 2600, 3) := by decide +kernel
theorem dD_init_161 : decode cD_init 161 = .ok (.newarray .int, 2) := by decide +kernel
theorem dD_init_163 : decode cD_init 163 = .ok (.putfield 66, 3) := by decide +kernel
theorem dD_init_166 : decode cD_init 166 = .ok (.aload_n 0, 1) := by decide +kernel
theorem dD_init_167 : decode cD_init 167 = .ok (.sipush 300, 3) := by decide +kernel
theorem dD_init_170 : decode cD_init 170 = .ok (.newarray .int, 2) := by decide +kernel
theorem dD_init_172 : decode cD_init 172 = .ok (.putfield 69, 3) := by decide +kernel
theorem dD_init_175 : decode cD_init 175 = .ok (.aload_n 0, 1) := by decide +kernel
theorem dD_init_176 : decode cD_init 176 = .ok (.sipush 300, 3) := by decide +kernel
theorem dD_init_179 : decode cD_init 179 = .ok (.newarray .int, 2) := by decide +kernel
theorem dD_init_181 : decode cD_init 181 = .ok (.putfield 72, 3) := by decide +kernel
theorem dD_init_184 : decode cD_init 184 = .ok (.aload_n 0, 1) := by decide +kernel
theorem dD_init_185 : decode cD_init 185 = .ok (.sipush 300, 3) := by decide +kernel
theorem dD_init_188 : decode cD_init 188 = .ok (.newarray .int, 2) := by decide +kernel
theorem dD_init_190 : decode cD_init 190 = .ok (.putfield 75, 3) := by decide +kernel
theorem dD_init_193 : decode cD_init 193 = .ok (.aload_n 0, 1) := by decide +kernel
theorem dD_init_194 : decode cD_init 194 = .ok (.sipush 300, 3) := by decide +kernel
theorem dD_init_197 : decode cD_init 197 = .ok (.newarray .int, 2) := by decide +kernel
theorem dD_init_199 : decode cD_init 199 = .ok (.putfield 78, 3) := by decide +kernel
theorem dD_init_202 : decode cD_init 202 = .ok (.aload_n 0, 1) := by decide +kernel
theorem dD_init_203 : decode cD_init 203 = .ok (.sipush 300, 3) := by decide +kernel
theorem dD_init_206 : decode cD_init 206 = .ok (.newarray .int, 2) := by decide +kernel
theorem dD_init_208 : decode cD_init 208 = .ok (.putfield 81, 3) := by decide +kernel
theorem dD_init_211 : decode cD_init 211 = .ok (.aload_n 0, 1) := by decide +kernel
theorem dD_init_212 : decode cD_init 212 = .ok (.sipush 300, 3) := by decide +kernel
theorem dD_init_215 : decode cD_init 215 = .ok (.newarray .boolean, 2) := by decide +kernel
theorem dD_init_217 : decode cD_init 217 = .ok (.putfield 84, 3) := by decide +kernel
theorem dD_init_220 : decode cD_init 220 = .ok (.aload_n 0, 1) := by decide +kernel
theorem dD_init_221 : decode cD_init 221 = .ok (.sipush 300, 3) := by decide +kernel
theorem dD_init_224 : decode cD_init 224 = .ok (.newarray .boolean, 2) := by decide +kernel
theorem dD_init_226 : decode cD_init 226 = .ok (.putfield 87, 3) := by decide +kernel
theorem dD_init_229 : decode cD_init 229 = .ok (.aload_n 0, 1) := by decide +kernel
theorem dD_init_230 : decode cD_init 230 = .ok (.bipush 24, 2) := by decide +kernel
theorem dD_init_232 : decode cD_init 232 = .ok (.newarray .int, 2) := by decide +kernel
theorem dD_init_234 : decode cD_init 234 = .ok (.putfield 90, 3) := by decide +kernel
theorem dD_init_237 : decode cD_init 237 = .ok (.aload_n 0, 1) := by decide +kernel
theorem dD_init_238 : decode cD_init 238 = .ok (.sipush 200, 3) := by decide +kernel
theorem dD_init_241 : decode cD_init 241 = .ok (.newarray .int, 2) := by decide +kernel
theorem dD_init_243 : decode cD_init 243 = .ok (.putfield 93, 3) := by decide +kernel
theorem dD_init_246 : decode cD_init 246 = .ok (.aload_n 0, 1) := by decide +kernel
theorem dD_init_247 : decode cD_init 247 = .ok (.iload_n 1, 1) := by decide +kernel
theorem dD_init_248 : decode cD_init 248 = .ok (.iconst 1, 1) := by decide +kernel
theorem dD_init_249 : decode cD_init 249 = .ok (.sipush 2000, 3) := by decide +kernel
theorem dD_init_252 : decode cD_init 252 = .ok (.invokestatic 96, 3) := by decide +kernel
theorem dD_init_255 : decode cD_init 255 = .ok (.putfield 100, 3) := by decide +kernel
theorem dD_init_258 : decode cD_init 258 = .ok (.aload_n 0, 1) := by decide +kernel
theorem dD_init_259 : decode cD_init 259 = .ok (.iload_n 2, 1) := by decide +kernel
theorem dD_init_260 : decode cD_init 260 = .ok (.iconst 1, 1) := by decide +kernel
theorem dD_init_261 : decode cD_init 261 = .ok (.sipush 2000, 3) := by decide +kernel
theorem dD_init_264 : decode cD_init 264 = .ok (.invokestatic 96, 3) := by decide +kernel
theorem dD_init_267 : decode cD_init 267 = .ok (.putfield 104, 3) := by decide +kernel
theorem dD_init_270 : decode cD_init 270 = .ok (.aload_n 0, 1) := by decide +kernel
theorem dD_init_271 : decode cD_init 271 = .ok (.invokevirtual 107, 3) := by decide +kernel
theorem dD_init_274 : decode cD_init 274 = .ok (.return_, 1) := by decide +kernel
theorem dD_thrown_0 : decode cD_thrown 0 = .ok (.aload_n 0, 1) := by decide +kernel
theorem dD_thrown_1 : decode cD_thrown 1 = .ok (.getfield 110, 3) := by decide +kernel
theorem dD_thrown_4 : decode cD_thrown 4 = .ok (.ireturn, 1) := by decide +kernel
theorem dD_in_0 : decode cD_in 0 = .ok (.lload_n 0, 1) := by decide +kernel
theorem dD_in_1 : decode cD_in 1 = .ok (.lload_n 2, 1) := by decide +kernel
theorem dD_in_2 : decode cD_in 2 = .ok (.lcmp, 1) := by decide +kernel
theorem dD_in_3 : decode cD_in 3 = .ok (.ifCond .lt 14, 3) := by decide +kernel
theorem dD_in_6 : decode cD_in 6 = .ok (.lload_n 0, 1) := by decide +kernel
theorem dD_in_7 : decode cD_in 7 = .ok (.lload 4, 2) := by decide +kernel
theorem dD_in_9 : decode cD_in 9 = .ok (.lcmp, 1) := by decide +kernel
theorem dD_in_10 : decode cD_in 10 = .ok (.ifCond .gt 7, 3) := by decide +kernel
theorem dD_in_13 : decode cD_in 13 = .ok (.iconst 1, 1) := by decide +kernel
theorem dD_in_14 : decode cD_in 14 = .ok (.goto 4, 3) := by decide +kernel
theorem dD_in_17 : decode cD_in 17 = .ok (.iconst 0, 1) := by decide +kernel
theorem dD_in_18 : decode cD_in 18 = .ok (.ireturn, 1) := by decide +kernel
theorem dD_get_0 : decode cD_get 0 = .ok (.aload_n 0, 1) := by decide +kernel
theorem dD_get_1 : decode cD_get 1 = .ok (.getfield 7, 3) := by decide +kernel
theorem dD_get_4 : decode cD_get 4 = .ok (.bipush 11, 2) := by decide +kernel
theorem dD_get_6 : decode cD_get 6 = .ok (.iload_n 1, 1) := by decide +kernel
theorem dD_get_7 : decode cD_get 7 = .ok (.imul, 1) := by decide +kernel
theorem dD_get_8 : decode cD_get 8 = .ok (.iload_n 2, 1) := by decide +kernel
theorem dD_get_9 : decode cD_get 9 = .ok (.iadd, 1) := by decide +kernel
theorem dD_get_10 : decode cD_get 10 = .ok (.iaload, 1) := by decide +kernel
theorem dD_get_11 : decode cD_get 11 = .ok (.ireturn, 1) := by decide +kernel
theorem dD_placeOf_0 : decode cD_placeOf 0 = .ok (.iconst 5, 1) := by decide +kernel
theorem dD_placeOf_1 : decode cD_placeOf 1 = .ok (.iload_n 0, 1) := by decide +kernel
theorem dD_placeOf_2 : decode cD_placeOf 2 = .ok (.iconst 1, 1) := by decide +kernel
theorem dD_placeOf_3 : decode cD_placeOf 3 = .ok (.iadd, 1) := by decide +kernel
theorem dD_placeOf_4 : decode cD_placeOf 4 = .ok (.imul, 1) := by decide +kernel
theorem dD_placeOf_5 : decode cD_placeOf 5 = .ok (.iload_n 1, 1) := by decide +kernel
theorem dD_placeOf_6 : decode cD_placeOf 6 = .ok (.iadd, 1) := by decide +kernel
theorem dD_placeOf_7 : decode cD_placeOf 7 = .ok (.iconst 1, 1) := by decide +kernel
theorem dD_placeOf_8 : decode cD_placeOf 8 = .ok (.iadd, 1) := by decide +kernel
theorem dD_placeOf_9 : decode cD_placeOf 9 = .ok (.ireturn, 1) := by decide +kernel
theorem dD_isStep_0 : decode cD_isStep 0 = .ok (.iload_n 0, 1) := by decide +kernel
theorem dD_isStep_1 : decode cD_isStep 1 = .ok (.bipush 9, 2) := by decide +kernel
theorem dD_isStep_3 : decode cD_isStep 3 = .ok (.if_icmp .eq 9, 3) := by decide +kernel
theorem dD_isStep_6 : decode cD_isStep 6 = .ok (.iload_n 0, 1) := by decide +kernel
theorem dD_isStep_7 : decode cD_isStep 7 = .ok (.bipush 10, 2) := by decide +kernel
theorem dD_isStep_9 : decode cD_isStep 9 = .ok (.if_icmp .ne 7, 3) := by decide +kernel
theorem dD_isStep_12 : decode cD_isStep 12 = .ok (.iconst 1, 1) := by decide +kernel
theorem dD_isStep_13 : decode cD_isStep 13 = .ok (.goto 4, 3) := by decide +kernel
theorem dD_isStep_16 : decode cD_isStep 16 = .ok (.iconst 0, 1) := by decide +kernel
theorem dD_isStep_17 : decode cD_isStep 17 = .ok (.ireturn, 1) := by decide +kernel
theorem dD_has_0 : decode cD_has 0 = .ok (.iload_n 2, 1) := by decide +kernel
theorem dD_has_1 : decode cD_has 1 = .ok (.invokestatic 117, 3) := by decide +kernel
theorem dD_has_4 : decode cD_has 4 = .ok (.ifCond .eq 12, 3) := by decide +kernel
theorem dD_has_7 : decode cD_has 7 = .ok (.aload_n 0, 1) := by decide +kernel
theorem dD_has_8 : decode cD_has 8 = .ok (.getfield 17, 3) := by decide +kernel
theorem dD_has_11 : decode cD_has 11 = .ok (.iload_n 1, 1) := by decide +kernel
theorem dD_has_12 : decode cD_has 12 = .ok (.baload, 1) := by decide +kernel
theorem dD_has_13 : decode cD_has 13 = .ok (.goto 9, 3) := by decide +kernel
theorem dD_has_16 : decode cD_has 16 = .ok (.aload_n 0, 1) := by decide +kernel
theorem dD_has_17 : decode cD_has 17 = .ok (.getfield 13, 3) := by decide +kernel
theorem dD_has_20 : decode cD_has 20 = .ok (.iload_n 1, 1) := by decide +kernel
theorem dD_has_21 : decode cD_has 21 = .ok (.baload, 1) := by decide +kernel
theorem dD_has_22 : decode cD_has 22 = .ok (.ireturn, 1) := by decide +kernel
theorem dD_force_0 : decode cD_force 0 = .ok (.aload_n 0, 1) := by decide +kernel
theorem dD_force_1 : decode cD_force 1 = .ok (.iload_n 1, 1) := by decide +kernel
theorem dD_force_2 : decode cD_force 2 = .ok (.iload_n 3, 1) := by decide +kernel
theorem dD_force_3 : decode cD_force 3 = .ok (.iload 4, 2) := by decide +kernel
theorem dD_force_5 : decode cD_force 5 = .ok (.invokestatic 121, 3) := by decide +kernel
theorem dD_force_8 : decode cD_force 8 = .ok (.iadd, 1) := by decide +kernel
theorem dD_force_9 : decode cD_force 9 = .ok (.iload_n 2, 1) := by decide +kernel
theorem dD_force_10 : decode cD_force 10 = .ok (.invokevirtual 125, 3) := by decide +kernel
theorem dD_force_13 : decode cD_force 13 = .ok (.ifCond .eq 12, 3) := by decide +kernel
theorem dD_force_16 : decode cD_force 16 = .ok (.iload_n 1, 1) := by decide +kernel
theorem dD_force_17 : decode cD_force 17 = .ok (.iload_n 3, 1) := by decide +kernel
theorem dD_force_18 : decode cD_force 18 = .ok (.iload 4, 2) := by decide +kernel
theorem dD_force_20 : decode cD_force 20 = .ok (.invokestatic 121, 3) := by decide +kernel
theorem dD_force_23 : decode cD_force 23 = .ok (.iadd, 1) := by decide +kernel
theorem dD_force_24 : decode cD_force 24 = .ok (.ireturn, 1) := by decide +kernel
theorem dD_force_25 : decode cD_force 25 = .ok (.iload_n 3, 1) := by decide +kernel
theorem dD_force_26 : decode cD_force 26 = .ok (.ifCond .lt 26, 3) := by decide +kernel
theorem dD_force_29 : decode cD_force 29 = .ok (.aload_n 0, 1) := by decide +kernel
theorem dD_force_30 : decode cD_force 30 = .ok (.iload_n 1, 1) := by decide +kernel
theorem dD_force_31 : decode cD_force 31 = .ok (.iload_n 3, 1) := by decide +kernel
theorem dD_force_32 : decode cD_force 32 = .ok (.iconst (-1), 1) := by decide +kernel
theorem dD_force_33 : decode cD_force 33 = .ok (.invokestatic 121, 3) := by decide +kernel
theorem dD_force_36 : decode cD_force 36 = .ok (.iadd, 1) := by decide +kernel
theorem dD_force_37 : decode cD_force 37 = .ok (.iload_n 2, 1) := by decide +kernel
theorem dD_force_38 : decode cD_force 38 = .ok (.invokevirtual 125, 3) := by decide +kernel
theorem dD_force_41 : decode cD_force 41 = .ok (.ifCond .eq 11, 3) := by decide +kernel
theorem dD_force_44 : decode cD_force 44 = .ok (.iload_n 1, 1) := by decide +kernel
theorem dD_force_45 : decode cD_force 45 = .ok (.iload_n 3, 1) := by decide +kernel
theorem dD_force_46 : decode cD_force 46 = .ok (.iconst (-1), 1) := by decide +kernel
theorem dD_force_47 : decode cD_force 47 = .ok (.invokestatic 121, 3) := by decide +kernel
theorem dD_force_50 : decode cD_force 50 = .ok (.iadd, 1) := by decide +kernel
theorem dD_force_51 : decode cD_force 51 = .ok (.ireturn, 1) := by decide +kernel
theorem dD_force_52 : decode cD_force 52 = .ok (.iload 4, 2) := by decide +kernel
theorem dD_force_54 : decode cD_force 54 = .ok (.ifCond .lt 30, 3) := by decide +kernel
theorem dD_force_57 : decode cD_force 57 = .ok (.aload_n 0, 1) := by decide +kernel
theorem dD_force_58 : decode cD_force 58 = .ok (.iload_n 1, 1) := by decide +kernel
theorem dD_force_59 : decode cD_force 59 = .ok (.iconst (-1), 1) := by decide +kernel
theorem dD_force_60 : decode cD_force 60 = .ok (.iload 4, 2) := by decide +kernel
theorem dD_force_62 : decode cD_force 62 = .ok (.invokestatic 121, 3) := by decide +kernel
theorem dD_force_65 : decode cD_force 65 = .ok (.iadd, 1) := by decide +kernel
theorem dD_force_66 : decode cD_force 66 = .ok (.iload_n 2, 1) := by decide +kernel
theorem dD_force_67 : decode cD_force 67 = .ok (.invokevirtual 125, 3) := by decide +kernel
theorem dD_force_70 : decode cD_force 70 = .ok (.ifCond .eq 14, 3) := by decide +kernel
theorem dD_force_73 : decode cD_force 73 = .ok (.iload_n 1, 1) := by decide +kernel
theorem dD_force_74 : decode cD_force 74 = .ok (.iconst (-1), 1) := by decide +kernel
theorem dD_force_75 : decode cD_force 75 = .ok (.iload 4, 2) := by decide +kernel
theorem dD_force_77 : decode cD_force 77 = .ok (.invokestatic 121, 3) := by decide +kernel
theorem dD_force_80 : decode cD_force 80 = .ok (.iadd, 1) := by decide +kernel
theorem dD_force_81 : decode cD_force 81 = .ok (.goto 4, 3) := by decide +kernel
theorem dD_force_84 : decode cD_force 84 = .ok (.iload_n 1, 1) := by decide +kernel
theorem dD_force_85 : decode cD_force 85 = .ok (.ireturn, 1) := by decide +kernel
theorem dD_tilesOf_0 : decode cD_tilesOf 0 = .ok (.lload_n 0, 1) := by decide +kernel
theorem dD_tilesOf_1 : decode cD_tilesOf 1 = .ok (.lload 4, 2) := by decide +kernel
theorem dD_tilesOf_3 : decode cD_tilesOf 3 = .ok (.ladd, 1) := by decide +kernel
theorem dD_tilesOf_4 : decode cD_tilesOf 4 = .ok (.lconst 1, 1) := by decide +kernel
theorem dD_tilesOf_5 : decode cD_tilesOf 5 = .ok (.lsub, 1) := by decide +kernel
theorem dD_tilesOf_6 : decode cD_tilesOf 6 = .ok (.lload 4, 2) := by decide +kernel
theorem dD_tilesOf_8 : decode cD_tilesOf 8 = .ok (.ldiv, 1) := by decide +kernel
theorem dD_tilesOf_9 : decode cD_tilesOf 9 = .ok (.lload_n 2, 1) := by decide +kernel
theorem dD_tilesOf_10 : decode cD_tilesOf 10 = .ok (.lload 6, 2) := by decide +kernel
theorem dD_tilesOf_12 : decode cD_tilesOf 12 = .ok (.ladd, 1) := by decide +kernel
theorem dD_tilesOf_13 : decode cD_tilesOf 13 = .ok (.lconst 1, 1) := by decide +kernel
theorem dD_tilesOf_14 : decode cD_tilesOf 14 = .ok (.lsub, 1) := by decide +kernel
theorem dD_tilesOf_15 : decode cD_tilesOf 15 = .ok (.lload 6, 2) := by decide +kernel
theorem dD_tilesOf_17 : decode cD_tilesOf 17 = .ok (.ldiv, 1) := by decide +kernel
theorem dD_tilesOf_18 : decode cD_tilesOf 18 = .ok (.lmul, 1) := by decide +kernel
theorem dD_tilesOf_19 : decode cD_tilesOf 19 = .ok (.lreturn, 1) := by decide +kernel
theorem dD_tiles_0 : decode cD_tiles 0 = .ok (.aload_n 0, 1) := by decide +kernel
theorem dD_tiles_1 : decode cD_tiles 1 = .ok (.getfield 23, 3) := by decide +kernel
theorem dD_tiles_4 : decode cD_tiles 4 = .ok (.iload_n 1, 1) := by decide +kernel
theorem dD_tiles_5 : decode cD_tiles 5 = .ok (.iaload, 1) := by decide +kernel
theorem dD_tiles_6 : decode cD_tiles 6 = .ok (.i2l, 1) := by decide +kernel
theorem dD_tiles_7 : decode cD_tiles 7 = .ok (.aload_n 0, 1) := by decide +kernel
theorem dD_tiles_8 : decode cD_tiles 8 = .ok (.getfield 23, 3) := by decide +kernel
theorem dD_tiles_11 : decode cD_tiles 11 = .ok (.iload_n 1, 1) := by decide +kernel
theorem dD_tiles_12 : decode cD_tiles 12 = .ok (.iconst 1, 1) := by decide +kernel
theorem dD_tiles_13 : decode cD_tiles 13 = .ok (.iadd, 1) := by decide +kernel
theorem dD_tiles_14 : decode cD_tiles 14 = .ok (.iaload, 1) := by decide +kernel
theorem dD_tiles_15 : decode cD_tiles 15 = .ok (.i2l, 1) := by decide +kernel
theorem dD_tiles_16 : decode cD_tiles 16 = .ok (.aload_n 0, 1) := by decide +kernel
theorem dD_tiles_17 : decode cD_tiles 17 = .ok (.getfield 23, 3) := by decide +kernel
theorem dD_tiles_20 : decode cD_tiles 20 = .ok (.iload_n 1, 1) := by decide +kernel
theorem dD_tiles_21 : decode cD_tiles 21 = .ok (.iconst 3, 1) := by decide +kernel
theorem dD_tiles_22 : decode cD_tiles 22 = .ok (.iadd, 1) := by decide +kernel
theorem dD_tiles_23 : decode cD_tiles 23 = .ok (.iaload, 1) := by decide +kernel
theorem dD_tiles_24 : decode cD_tiles 24 = .ok (.i2l, 1) := by decide +kernel
theorem dD_tiles_25 : decode cD_tiles 25 = .ok (.aload_n 0, 1) := by decide +kernel
theorem dD_tiles_26 : decode cD_tiles 26 = .ok (.getfield 23, 3) := by decide +kernel
theorem dD_tiles_29 : decode cD_tiles 29 = .ok (.iload_n 1, 1) := by decide +kernel
theorem dD_tiles_30 : decode cD_tiles 30 = .ok (.iconst 4, 1) := by decide +kernel
theorem dD_tiles_31 : decode cD_tiles 31 = .ok (.iadd, 1) := by decide +kernel
theorem dD_tiles_32 : decode cD_tiles 32 = .ok (.iaload, 1) := by decide +kernel
theorem dD_tiles_33 : decode cD_tiles 33 = .ok (.i2l, 1) := by decide +kernel
theorem dD_tiles_34 : decode cD_tiles 34 = .ok (.invokestatic 129, 3) := by decide +kernel
theorem dD_tiles_37 : decode cD_tiles 37 = .ok (.l2i, 1) := by decide +kernel
theorem dD_tiles_38 : decode cD_tiles 38 = .ok (.ireturn, 1) := by decide +kernel
theorem dD_isPlace_0 : decode cD_isPlace 0 = .ok (.iload_n 2, 1) := by decide +kernel
theorem dD_isPlace_1 : decode cD_isPlace 1 = .ok (.i2l, 1) := by decide +kernel
theorem dD_isPlace_2 : decode cD_isPlace 2 = .ok (.lconst 0, 1) := by decide +kernel
theorem dD_isPlace_3 : decode cD_isPlace 3 = .ok (.ldc2_w 133, 3) := by decide +kernel
theorem dD_isPlace_6 : decode cD_isPlace 6 = .ok (.invokestatic 135, 3) := by decide +kernel
theorem dD_isPlace_9 : decode cD_isPlace 9 = .ok (.ifCond .eq 45, 3) := by decide +kernel
theorem dD_isPlace_12 : decode cD_isPlace 12 = .ok (.iload_n 3, 1) := by decide +kernel
theorem dD_isPlace_13 : decode cD_isPlace 13 = .ok (.i2l, 1) := by decide +kernel
theorem dD_isPlace_14 : decode cD_isPlace 14 = .ok (.ldc2_w 139, 3) := by decide +kernel
theorem dD_isPlace_17 : decode cD_isPlace 17 = .ok (.aload_n 0, 1) := by decide +kernel
theorem dD_isPlace_18 : decode cD_isPlace 18 = .ok (.iload_n 1, 1) := by decide +kernel
theorem dD_isPlace_19 : decode cD_isPlace 19 = .ok (.invokevirtual 141, 3) := by decide +kernel
theorem dD_isPlace_22 : decode cD_isPlace 22 = .ok (.i2l, 1) := by decide +kernel
theorem dD_isPlace_23 : decode cD_isPlace 23 = .ok (.lconst 1, 1) := by decide +kernel
theorem dD_isPlace_24 : decode cD_isPlace 24 = .ok (.lsub, 1) := by decide +kernel
theorem dD_isPlace_25 : decode cD_isPlace 25 = .ok (.invokestatic 135, 3) := by decide +kernel
theorem dD_isPlace_28 : decode cD_isPlace 28 = .ok (.ifCond .eq 26, 3) := by decide +kernel
theorem dD_isPlace_31 : decode cD_isPlace 31 = .ok (.iload 4, 2) := by decide +kernel
theorem dD_isPlace_33 : decode cD_isPlace 33 = .ok (.i2l, 1) := by decide +kernel
theorem dD_isPlace_34 : decode cD_isPlace 34 = .ok (.ldc2_w 139, 3) := by decide +kernel
theorem dD_isPlace_37 : decode cD_isPlace 37 = .ok (.aload_n 0, 1) := by decide +kernel
theorem dD_isPlace_38 : decode cD_isPlace 38 = .ok (.getfield 23, 3) := by decide +kernel
theorem dD_isPlace_41 : decode cD_isPlace 41 = .ok (.iload_n 1, 1) := by decide +kernel
theorem dD_isPlace_42 : decode cD_isPlace 42 = .ok (.iconst 2, 1) := by decide +kernel
theorem dD_isPlace_43 : decode cD_isPlace 43 = .ok (.iadd, 1) := by decide +kernel
theorem dD_isPlace_44 : decode cD_isPlace 44 = .ok (.iaload, 1) := by decide +kernel
theorem dD_isPlace_45 : decode cD_isPlace 45 = .ok (.i2l, 1) := by decide +kernel
theorem dD_isPlace_46 : decode cD_isPlace 46 = .ok (.lconst 1, 1) := by decide +kernel
theorem dD_isPlace_47 : decode cD_isPlace 47 = .ok (.lsub, 1) := by decide +kernel
theorem dD_isPlace_48 : decode cD_isPlace 48 = .ok (.invokestatic 135, 3) := by decide +kernel
theorem dD_isPlace_51 : decode cD_isPlace 51 = .ok (.ifCond .ne 5, 3) := by decide +kernel
theorem dD_isPlace_54 : decode cD_isPlace 54 = .ok (.iconst 0, 1) := by decide +kernel
theorem dD_isPlace_55 : decode cD_isPlace 55 = .ok (.ireturn, 1) := by decide +kernel
theorem dD_isPlace_56 : decode cD_isPlace 56 = .ok (.iload_n 2, 1) := by decide +kernel
theorem dD_isPlace_57 : decode cD_isPlace 57 = .ok (.iconst 5, 1) := by decide +kernel
theorem dD_isPlace_58 : decode cD_isPlace 58 = .ok (.if_icmp .gt 35, 3) := by decide +kernel
theorem dD_isPlace_61 : decode cD_isPlace 61 = .ok (.iload 4, 2) := by decide +kernel
theorem dD_isPlace_63 : decode cD_isPlace 63 = .ok (.iconst (-1), 1) := by decide +kernel
theorem dD_isPlace_64 : decode cD_isPlace 64 = .ok (.if_icmp .ne 8, 3) := by decide +kernel
theorem dD_isPlace_67 : decode cD_isPlace 67 = .ok (.iload_n 3, 1) := by decide +kernel
theorem dD_isPlace_68 : decode cD_isPlace 68 = .ok (.iconst (-1), 1) := by decide +kernel
theorem dD_isPlace_69 : decode cD_isPlace 69 = .ok (.if_icmp .eq 24, 3) := by decide +kernel
theorem dD_isPlace_72 : decode cD_isPlace 72 = .ok (.iload_n 2, 1) := by decide +kernel
theorem dD_isPlace_73 : decode cD_isPlace 73 = .ok (.iconst 3, 1) := by decide +kernel
theorem dD_isPlace_74 : decode cD_isPlace 74 = .ok (.if_icmp .ne 8, 3) := by decide +kernel
theorem dD_isPlace_77 : decode cD_isPlace 77 = .ok (.iload_n 3, 1) := by decide +kernel
theorem dD_isPlace_78 : decode cD_isPlace 78 = .ok (.iconst (-1), 1) := by decide +kernel
theorem dD_isPlace_79 : decode cD_isPlace 79 = .ok (.if_icmp .eq 14, 3) := by decide +kernel
theorem dD_isPlace_82 : decode cD_isPlace 82 = .ok (.iload_n 2, 1) := by decide +kernel
theorem dD_isPlace_83 : decode cD_isPlace 83 = .ok (.iconst 3, 1) := by decide +kernel
theorem dD_isPlace_84 : decode cD_isPlace 84 = .ok (.if_icmp .le 13, 3) := by decide +kernel
theorem dD_isPlace_87 : decode cD_isPlace 87 = .ok (.iload 4, 2) := by decide +kernel
theorem dD_isPlace_89 : decode cD_isPlace 89 = .ok (.iconst (-1), 1) := by decide +kernel
theorem dD_isPlace_90 : decode cD_isPlace 90 = .ok (.if_icmp .ne 7, 3) := by decide +kernel
theorem dD_isPlace_93 : decode cD_isPlace 93 = .ok (.iconst 1, 1) := by decide +kernel
theorem dD_isPlace_94 : decode cD_isPlace 94 = .ok (.goto 4, 3) := by decide +kernel
theorem dD_isPlace_97 : decode cD_isPlace 97 = .ok (.iconst 0, 1) := by decide +kernel
theorem dD_isPlace_98 : decode cD_isPlace 98 = .ok (.ireturn, 1) := by decide +kernel
theorem dD_isFixed_0 : decode cD_isFixed 0 = .ok (.aload_n 0, 1) := by decide +kernel
theorem dD_isFixed_1 : decode cD_isFixed 1 = .ok (.getfield 145, 3) := by decide +kernel
theorem dD_isFixed_4 : decode cD_isFixed 4 = .ok (.ifCond .le 7, 3) := by decide +kernel
theorem dD_isFixed_7 : decode cD_isFixed 7 = .ok (.iconst 1, 1) := by decide +kernel
theorem dD_isFixed_8 : decode cD_isFixed 8 = .ok (.goto 4, 3) := by decide +kernel
theorem dD_isFixed_11 : decode cD_isFixed 11 = .ok (.iconst 0, 1) := by decide +kernel
theorem dD_isFixed_12 : decode cD_isFixed 12 = .ok (.istore_n 1, 1) := by decide +kernel
theorem dD_isFixed_13 : decode cD_isFixed 13 = .ok (.iconst 1, 1) := by decide +kernel
theorem dD_isFixed_14 : decode cD_isFixed 14 = .ok (.istore_n 2, 1) := by decide +kernel
theorem dD_isFixed_15 : decode cD_isFixed 15 = .ok (.iload_n 2, 1) := by decide +kernel
theorem dD_isFixed_16 : decode cD_isFixed 16 = .ok (.bipush 125, 2) := by decide +kernel
theorem dD_isFixed_18 : decode cD_isFixed 18 = .ok (.if_icmp .ge 37, 3) := by decide +kernel
theorem dD_isFixed_21 : decode cD_isFixed 21 = .ok (.iload_n 1, 1) := by decide +kernel
theorem dD_isFixed_22 : decode cD_isFixed 22 = .ok (.ifCond .ne 21, 3) := by decide +kernel
theorem dD_isFixed_25 : decode cD_isFixed 25 = .ok (.aload_n 0, 1) := by decide +kernel
theorem dD_isFixed_26 : decode cD_isFixed 26 = .ok (.getfield 13, 3) := by decide +kernel
theorem dD_isFixed_29 : decode cD_isFixed 29 = .ok (.iload_n 2, 1) := by decide +kernel
theorem dD_isFixed_30 : decode cD_isFixed 30 = .ok (.baload, 1) := by decide +kernel
theorem dD_isFixed_31 : decode cD_isFixed 31 = .ok (.ifCond .ne 12, 3) := by decide +kernel
theorem dD_isFixed_34 : decode cD_isFixed 34 = .ok (.aload_n 0, 1) := by decide +kernel
theorem dD_isFixed_35 : decode cD_isFixed 35 = .ok (.getfield 17, 3) := by decide +kernel
theorem dD_isFixed_38 : decode cD_isFixed 38 = .ok (.iload_n 2, 1) := by decide +kernel
theorem dD_isFixed_39 : decode cD_isFixed 39 = .ok (.baload, 1) := by decide +kernel
theorem dD_isFixed_40 : decode cD_isFixed 40 = .ok (.ifCond .eq 7, 3) := by decide +kernel
theorem dD_isFixed_43 : decode cD_isFixed 43 = .ok (.iconst 1, 1) := by decide +kernel
theorem dD_isFixed_44 : decode cD_isFixed 44 = .ok (.goto 4, 3) := by decide +kernel
theorem dD_isFixed_47 : decode cD_isFixed 47 = .ok (.iconst 0, 1) := by decide +kernel
theorem dD_isFixed_48 : decode cD_isFixed 48 = .ok (.istore_n 1, 1) := by decide +kernel
theorem dD_isFixed_49 : decode cD_isFixed 49 = .ok (.iinc 2 1, 3) := by decide +kernel
theorem dD_isFixed_52 : decode cD_isFixed 52 = .ok (.goto (-37), 3) := by decide +kernel
theorem dD_isFixed_55 : decode cD_isFixed 55 = .ok (.iload_n 1, 1) := by decide +kernel
theorem dD_isFixed_56 : decode cD_isFixed 56 = .ok (.ireturn, 1) := by decide +kernel
theorem dD_isNumber_0 : decode cD_isNumber 0 = .ok (.iload_n 0, 1) := by decide +kernel
theorem dD_isNumber_1 : decode cD_isNumber 1 = .ok (.tableswitch 145 0 9 #[55, 55, 65, 75, 85, 95, 105, 115, 127, 135], 55) := by decide +kernel
theorem dD_isNumber_56 : decode cD_isNumber 56 = .ok (.iload_n 1, 1) := by decide +kernel
theorem dD_isNumber_57 : decode cD_isNumber 57 = .ok (.i2l, 1) := by decide +kernel
theorem dD_isNumber_58 : decode cD_isNumber 58 = .ok (.lconst 1, 1) := by decide +kernel
theorem dD_isNumber_59 : decode cD_isNumber 59 = .ok (.ldc2_w 148, 3) := by decide +kernel
theorem dD_isNumber_62 : decode cD_isNumber 62 = .ok (.invokestatic 135, 3) := by decide +kernel
theorem dD_isNumber_65 : decode cD_isNumber 65 = .ok (.ireturn, 1) := by decide +kernel
theorem dD_isNumber_66 : decode cD_isNumber 66 = .ok (.iload_n 1, 1) := by decide +kernel
theorem dD_isNumber_67 : decode cD_isNumber 67 = .ok (.i2l, 1) := by decide +kernel
theorem dD_isNumber_68 : decode cD_isNumber 68 = .ok (.lconst 1, 1) := by decide +kernel
theorem dD_isNumber_69 : decode cD_isNumber 69 = .ok (.ldc2_w 150, 3) := by decide +kernel
theorem dD_isNumber_72 : decode cD_isNumber 72 = .ok (.invokestatic 135, 3) := by decide +kernel
theorem dD_isNumber_75 : decode cD_isNumber 75 = .ok (.ireturn, 1) := by decide +kernel
theorem dD_isNumber_76 : decode cD_isNumber 76 = .ok (.iload_n 1, 1) := by decide +kernel
theorem dD_isNumber_77 : decode cD_isNumber 77 = .ok (.i2l, 1) := by decide +kernel
theorem dD_isNumber_78 : decode cD_isNumber 78 = .ok (.lconst 1, 1) := by decide +kernel
theorem dD_isNumber_79 : decode cD_isNumber 79 = .ok (.ldc2_w 152, 3) := by decide +kernel
theorem dD_isNumber_82 : decode cD_isNumber 82 = .ok (.invokestatic 135, 3) := by decide +kernel
theorem dD_isNumber_85 : decode cD_isNumber 85 = .ok (.ireturn, 1) := by decide +kernel
theorem dD_isNumber_86 : decode cD_isNumber 86 = .ok (.iload_n 1, 1) := by decide +kernel
theorem dD_isNumber_87 : decode cD_isNumber 87 = .ok (.i2l, 1) := by decide +kernel
theorem dD_isNumber_88 : decode cD_isNumber 88 = .ok (.lconst 0, 1) := by decide +kernel
theorem dD_isNumber_89 : decode cD_isNumber 89 = .ok (.ldc2_w 150, 3) := by decide +kernel
theorem dD_isNumber_92 : decode cD_isNumber 92 = .ok (.invokestatic 135, 3) := by decide +kernel
theorem dD_isNumber_95 : decode cD_isNumber 95 = .ok (.ireturn, 1) := by decide +kernel
theorem dD_isNumber_96 : decode cD_isNumber 96 = .ok (.iload_n 1, 1) := by decide +kernel
theorem dD_isNumber_97 : decode cD_isNumber 97 = .ok (.i2l, 1) := by decide +kernel
theorem dD_isNumber_98 : decode cD_isNumber 98 = .ok (.lconst 1, 1) := by decide +kernel
theorem dD_isNumber_99 : decode cD_isNumber 99 = .ok (.ldc2_w 154, 3) := by decide +kernel
theorem dD_isNumber_102 : decode cD_isNumber 102 = .ok (.invokestatic 135, 3) := by decide +kernel
theorem dD_isNumber_105 : decode cD_isNumber 105 = .ok (.ireturn, 1) := by decide +kernel
theorem dD_isNumber_106 : decode cD_isNumber 106 = .ok (.iload_n 1, 1) := by decide +kernel
theorem dD_isNumber_107 : decode cD_isNumber 107 = .ok (.i2l, 1) := by decide +kernel
theorem dD_isNumber_108 : decode cD_isNumber 108 = .ok (.lconst 0, 1) := by decide +kernel
theorem dD_isNumber_109 : decode cD_isNumber 109 = .ok (.ldc2_w 156, 3) := by decide +kernel
theorem dD_isNumber_112 : decode cD_isNumber 112 = .ok (.invokestatic 135, 3) := by decide +kernel
theorem dD_isNumber_115 : decode cD_isNumber 115 = .ok (.ireturn, 1) := by decide +kernel
theorem dD_isNumber_116 : decode cD_isNumber 116 = .ok (.iload_n 1, 1) := by decide +kernel
theorem dD_isNumber_117 : decode cD_isNumber 117 = .ok (.i2l, 1) := by decide +kernel
theorem dD_isNumber_118 : decode cD_isNumber 118 = .ok (.ldc2_w 158, 3) := by decide +kernel
theorem dD_isNumber_121 : decode cD_isNumber 121 = .ok (.ldc2_w 160, 3) := by decide +kernel
theorem dD_isNumber_124 : decode cD_isNumber 124 = .ok (.invokestatic 135, 3) := by decide +kernel
theorem dD_isNumber_127 : decode cD_isNumber 127 = .ok (.ireturn, 1) := by decide +kernel
theorem dD_isNumber_128 : decode cD_isNumber 128 = .ok (.iload_n 1, 1) := by decide +kernel
theorem dD_isNumber_129 : decode cD_isNumber 129 = .ok (.i2l, 1) := by decide +kernel
theorem dD_isNumber_130 : decode cD_isNumber 130 = .ok (.lconst 0, 1) := by decide +kernel
theorem dD_isNumber_131 : decode cD_isNumber 131 = .ok (.lconst 1, 1) := by decide +kernel
theorem dD_isNumber_132 : decode cD_isNumber 132 = .ok (.invokestatic 135, 3) := by decide +kernel
theorem dD_isNumber_135 : decode cD_isNumber 135 = .ok (.ireturn, 1) := by decide +kernel
theorem dD_isNumber_136 : decode cD_isNumber 136 = .ok (.iload_n 1, 1) := by decide +kernel
theorem dD_isNumber_137 : decode cD_isNumber 137 = .ok (.i2l, 1) := by decide +kernel
theorem dD_isNumber_138 : decode cD_isNumber 138 = .ok (.lconst 0, 1) := by decide +kernel
theorem dD_isNumber_139 : decode cD_isNumber 139 = .ok (.ldc2_w 162, 3) := by decide +kernel
theorem dD_isNumber_142 : decode cD_isNumber 142 = .ok (.invokestatic 135, 3) := by decide +kernel
theorem dD_isNumber_145 : decode cD_isNumber 145 = .ok (.ireturn, 1) := by decide +kernel
theorem dD_isNumber_146 : decode cD_isNumber 146 = .ok (.iload_n 1, 1) := by decide +kernel
theorem dD_isNumber_147 : decode cD_isNumber 147 = .ok (.i2l, 1) := by decide +kernel
theorem dD_isNumber_148 : decode cD_isNumber 148 = .ok (.lconst 0, 1) := by decide +kernel
theorem dD_isNumber_149 : decode cD_isNumber 149 = .ok (.ldc2_w 164, 3) := by decide +kernel
theorem dD_isNumber_152 : decode cD_isNumber 152 = .ok (.invokestatic 135, 3) := by decide +kernel
theorem dD_isNumber_155 : decode cD_isNumber 155 = .ok (.ireturn, 1) := by decide +kernel
theorem dD_isTooMany_0 : decode cD_isTooMany 0 = .ok (.iload_n 1, 1) := by decide +kernel
theorem dD_isTooMany_1 : decode cD_isTooMany 1 = .ok (.ifCond .ne 8, 3) := by decide +kernel
theorem dD_isTooMany_4 : decode cD_isTooMany 4 = .ok (.iload_n 2, 1) := by decide +kernel
theorem dD_isTooMany_5 : decode cD_isTooMany 5 = .ok (.i2l, 1) := by decide +kernel
theorem dD_isTooMany_6 : decode cD_isTooMany 6 = .ok (.goto 10, 3) := by decide +kernel
theorem dD_isTooMany_9 : decode cD_isTooMany 9 = .ok (.aload_n 0, 1) := by decide +kernel
theorem dD_isTooMany_10 : decode cD_isTooMany 10 = .ok (.getfield 23, 3) := by decide +kernel
theorem dD_isTooMany_13 : decode cD_isTooMany 13 = .ok (.iconst 0, 1) := by decide +kernel
theorem dD_isTooMany_14 : decode cD_isTooMany 14 = .ok (.iaload, 1) := by decide +kernel
theorem dD_isTooMany_15 : decode cD_isTooMany 15 = .ok (.i2l, 1) := by decide +kernel
theorem dD_isTooMany_16 : decode cD_isTooMany 16 = .ok (.lstore_n 3, 1) := by decide +kernel
theorem dD_isTooMany_17 : decode cD_isTooMany 17 = .ok (.iload_n 1, 1) := by decide +kernel
theorem dD_isTooMany_18 : decode cD_isTooMany 18 = .ok (.iconst 1, 1) := by decide +kernel
theorem dD_isTooMany_19 : decode cD_isTooMany 19 = .ok (.if_icmp .ne 8, 3) := by decide +kernel
theorem dD_isTooMany_22 : decode cD_isTooMany 22 = .ok (.iload_n 2, 1) := by decide +kernel
theorem dD_isTooMany_23 : decode cD_isTooMany 23 = .ok (.i2l, 1) := by decide +kernel
theorem dD_isTooMany_24 : decode cD_isTooMany 24 = .ok (.goto 10, 3) := by decide +kernel
theorem dD_isTooMany_27 : decode cD_isTooMany 27 = .ok (.aload_n 0, 1) := by decide +kernel
theorem dD_isTooMany_28 : decode cD_isTooMany 28 = .ok (.getfield 23, 3) := by decide +kernel
theorem dD_isTooMany_31 : decode cD_isTooMany 31 = .ok (.iconst 1, 1) := by decide +kernel
theorem dD_isTooMany_32 : decode cD_isTooMany 32 = .ok (.iaload, 1) := by decide +kernel
theorem dD_isTooMany_33 : decode cD_isTooMany 33 = .ok (.i2l, 1) := by decide +kernel
theorem dD_isTooMany_34 : decode cD_isTooMany 34 = .ok (.lstore 5, 2) := by decide +kernel
theorem dD_isTooMany_36 : decode cD_isTooMany 36 = .ok (.lload_n 3, 1) := by decide +kernel
theorem dD_isTooMany_37 : decode cD_isTooMany 37 = .ok (.lload 5, 2) := by decide +kernel
theorem dD_isTooMany_39 : decode cD_isTooMany 39 = .ok (.aload_n 0, 1) := by decide +kernel
theorem dD_isTooMany_40 : decode cD_isTooMany 40 = .ok (.getfield 23, 3) := by decide +kernel
theorem dD_isTooMany_43 : decode cD_isTooMany 43 = .ok (.iconst 3, 1) := by decide +kernel
theorem dD_isTooMany_44 : decode cD_isTooMany 44 = .ok (.iaload, 1) := by decide +kernel
theorem dD_isTooMany_45 : decode cD_isTooMany 45 = .ok (.i2l, 1) := by decide +kernel
theorem dD_isTooMany_46 : decode cD_isTooMany 46 = .ok (.aload_n 0, 1) := by decide +kernel
theorem dD_isTooMany_47 : decode cD_isTooMany 47 = .ok (.getfield 23, 3) := by decide +kernel
theorem dD_isTooMany_50 : decode cD_isTooMany 50 = .ok (.iconst 4, 1) := by decide +kernel
theorem dD_isTooMany_51 : decode cD_isTooMany 51 = .ok (.iaload, 1) := by decide +kernel
theorem dD_isTooMany_52 : decode cD_isTooMany 52 = .ok (.i2l, 1) := by decide +kernel
theorem dD_isTooMany_53 : decode cD_isTooMany 53 = .ok (.invokestatic 129, 3) := by decide +kernel
theorem dD_isTooMany_56 : decode cD_isTooMany 56 = .ok (.ldc2_w 166, 3) := by decide +kernel
theorem dD_isTooMany_59 : decode cD_isTooMany 59 = .ok (.lcmp, 1) := by decide +kernel
theorem dD_isTooMany_60 : decode cD_isTooMany 60 = .ok (.ifCond .le 7, 3) := by decide +kernel
theorem dD_isTooMany_63 : decode cD_isTooMany 63 = .ok (.iconst 1, 1) := by decide +kernel
theorem dD_isTooMany_64 : decode cD_isTooMany 64 = .ok (.goto 4, 3) := by decide +kernel
theorem dD_isTooMany_67 : decode cD_isTooMany 67 = .ok (.iconst 0, 1) := by decide +kernel
theorem dD_isTooMany_68 : decode cD_isTooMany 68 = .ok (.ireturn, 1) := by decide +kernel
theorem dD_make_0 : decode cD_make 0 = .ok (.iload_n 2, 1) := by decide +kernel
theorem dD_make_1 : decode cD_make 1 = .ok (.iload_n 3, 1) := by decide +kernel
theorem dD_make_2 : decode cD_make 2 = .ok (.invokestatic 121, 3) := by decide +kernel
theorem dD_make_5 : decode cD_make 5 = .ok (.istore 4, 2) := by decide +kernel
theorem dD_make_7 : decode cD_make 7 = .ok (.aload_n 0, 1) := by decide +kernel
theorem dD_make_8 : decode cD_make 8 = .ok (.iconst 0, 1) := by decide +kernel
theorem dD_make_9 : decode cD_make 9 = .ok (.iload_n 1, 1) := by decide +kernel
theorem dD_make_10 : decode cD_make 10 = .ok (.iload_n 2, 1) := by decide +kernel
theorem dD_make_11 : decode cD_make 11 = .ok (.iload_n 3, 1) := by decide +kernel
theorem dD_make_12 : decode cD_make 12 = .ok (.invokevirtual 168, 3) := by decide +kernel
theorem dD_make_15 : decode cD_make 15 = .ok (.istore 5, 2) := by decide +kernel
theorem dD_make_17 : decode cD_make 17 = .ok (.iconst 4, 1) := by decide +kernel
theorem dD_make_18 : decode cD_make 18 = .ok (.istore 6, 2) := by decide +kernel
theorem dD_make_20 : decode cD_make 20 = .ok (.iload 6, 2) := by decide +kernel
theorem dD_make_22 : decode cD_make 22 = .ok (.bipush 10, 2) := by decide +kernel
theorem dD_make_24 : decode cD_make 24 = .ok (.if_icmp .gt 44, 3) := by decide +kernel
theorem dD_make_27 : decode cD_make 27 = .ok (.iload 5, 2) := by decide +kernel
theorem dD_make_29 : decode cD_make 29 = .ok (.iload 4, 2) := by decide +kernel
theorem dD_make_31 : decode cD_make 31 = .ok (.if_icmp .eq 37, 3) := by decide +kernel
theorem dD_make_34 : decode cD_make 34 = .ok (.iload 6, 2) := by decide +kernel
theorem dD_make_36 : decode cD_make 36 = .ok (.invokestatic 117, 3) := by decide +kernel
theorem dD_make_39 : decode cD_make 39 = .ok (.iload_n 1, 1) := by decide +kernel
theorem dD_make_40 : decode cD_make 40 = .ok (.invokestatic 117, 3) := by decide +kernel
theorem dD_make_43 : decode cD_make 43 = .ok (.if_icmp .ne 19, 3) := by decide +kernel
theorem dD_make_46 : decode cD_make 46 = .ok (.aload_n 0, 1) := by decide +kernel
theorem dD_make_47 : decode cD_make 47 = .ok (.iload 4, 2) := by decide +kernel
theorem dD_make_49 : decode cD_make 49 = .ok (.iload 6, 2) := by decide +kernel
theorem dD_make_51 : decode cD_make 51 = .ok (.aload_n 0, 1) := by decide +kernel
theorem dD_make_52 : decode cD_make 52 = .ok (.iload 5, 2) := by decide +kernel
theorem dD_make_54 : decode cD_make 54 = .ok (.iload 6, 2) := by decide +kernel
theorem dD_make_56 : decode cD_make 56 = .ok (.invokevirtual 172, 3) := by decide +kernel
theorem dD_make_59 : decode cD_make 59 = .ok (.invokevirtual 113, 3) := by decide +kernel
theorem dD_make_62 : decode cD_make 62 = .ok (.iinc 6 1, 3) := by decide +kernel
theorem dD_make_65 : decode cD_make 65 = .ok (.goto (-45), 3) := by decide +kernel
theorem dD_make_68 : decode cD_make 68 = .ok (.iload_n 1, 1) := by decide +kernel
theorem dD_make_69 : decode cD_make 69 = .ok (.invokestatic 117, 3) := by decide +kernel
theorem dD_make_72 : decode cD_make 72 = .ok (.ifCond .eq 14, 3) := by decide +kernel
theorem dD_make_75 : decode cD_make 75 = .ok (.aload_n 0, 1) := by decide +kernel
theorem dD_make_76 : decode cD_make 76 = .ok (.getfield 17, 3) := by decide +kernel
theorem dD_make_79 : decode cD_make 79 = .ok (.iload 4, 2) := by decide +kernel
theorem dD_make_81 : decode cD_make 81 = .ok (.iconst 1, 1) := by decide +kernel
theorem dD_make_82 : decode cD_make 82 = .ok (.bastore, 1) := by decide +kernel
theorem dD_make_83 : decode cD_make 83 = .ok (.goto 11, 3) := by decide +kernel
theorem dD_make_86 : decode cD_make 86 = .ok (.aload_n 0, 1) := by decide +kernel
theorem dD_make_87 : decode cD_make 87 = .ok (.getfield 13, 3) := by decide +kernel
theorem dD_make_90 : decode cD_make 90 = .ok (.iload 4, 2) := by decide +kernel
theorem dD_make_92 : decode cD_make 92 = .ok (.iconst 1, 1) := by decide +kernel
theorem dD_make_93 : decode cD_make 93 = .ok (.bastore, 1) := by decide +kernel
theorem dD_make_94 : decode cD_make 94 = .ok (.return_, 1) := by decide +kernel
theorem dD_set_0 : decode cD_set 0 = .ok (.aload_n 0, 1) := by decide +kernel
theorem dD_set_1 : decode cD_set 1 = .ok (.aload_n 0, 1) := by decide +kernel
theorem dD_set_2 : decode cD_set 2 = .ok (.iconst 0, 1) := by decide +kernel
theorem dD_set_3 : decode cD_set 3 = .ok (.iload_n 1, 1) := by decide +kernel
theorem dD_set_4 : decode cD_set 4 = .ok (.iload_n 2, 1) := by decide +kernel
theorem dD_set_5 : decode cD_set 5 = .ok (.iload_n 3, 1) := by decide +kernel
theorem dD_set_6 : decode cD_set 6 = .ok (.invokevirtual 175, 3) := by decide +kernel
theorem dD_set_9 : decode cD_set 9 = .ok (.ifCond .ne 7, 3) := by decide +kernel
theorem dD_set_12 : decode cD_set 12 = .ok (.iconst 1, 1) := by decide +kernel
theorem dD_set_13 : decode cD_set 13 = .ok (.goto 48, 3) := by decide +kernel
theorem dD_set_16 : decode cD_set 16 = .ok (.iload_n 1, 1) := by decide +kernel
theorem dD_set_17 : decode cD_set 17 = .ok (.iconst 3, 1) := by decide +kernel
theorem dD_set_18 : decode cD_set 18 = .ok (.if_icmp .ge 14, 3) := by decide +kernel
theorem dD_set_21 : decode cD_set 21 = .ok (.aload_n 0, 1) := by decide +kernel
theorem dD_set_22 : decode cD_set 22 = .ok (.invokevirtual 179, 3) := by decide +kernel
theorem dD_set_25 : decode cD_set 25 = .ok (.ifCond .eq 7, 3) := by decide +kernel
theorem dD_set_28 : decode cD_set 28 = .ok (.iconst 2, 1) := by decide +kernel
theorem dD_set_29 : decode cD_set 29 = .ok (.goto 32, 3) := by decide +kernel
theorem dD_set_32 : decode cD_set 32 = .ok (.iload_n 1, 1) := by decide +kernel
theorem dD_set_33 : decode cD_set 33 = .ok (.iload 4, 2) := by decide +kernel
theorem dD_set_35 : decode cD_set 35 = .ok (.invokestatic 183, 3) := by decide +kernel
theorem dD_set_38 : decode cD_set 38 = .ok (.ifCond .eq 18, 3) := by decide +kernel
theorem dD_set_41 : decode cD_set 41 = .ok (.iload_n 1, 1) := by decide +kernel
theorem dD_set_42 : decode cD_set 42 = .ok (.iconst 2, 1) := by decide +kernel
theorem dD_set_43 : decode cD_set 43 = .ok (.if_icmp .ge 17, 3) := by decide +kernel
theorem dD_set_46 : decode cD_set 46 = .ok (.aload_n 0, 1) := by decide +kernel
theorem dD_set_47 : decode cD_set 47 = .ok (.iload_n 1, 1) := by decide +kernel
theorem dD_set_48 : decode cD_set 48 = .ok (.iload 4, 2) := by decide +kernel
theorem dD_set_50 : decode cD_set 50 = .ok (.invokevirtual 186, 3) := by decide +kernel
theorem dD_set_53 : decode cD_set 53 = .ok (.ifCond .eq 7, 3) := by decide +kernel
theorem dD_set_56 : decode cD_set 56 = .ok (.iconst 3, 1) := by decide +kernel
theorem dD_set_57 : decode cD_set 57 = .ok (.goto 4, 3) := by decide +kernel
theorem dD_set_60 : decode cD_set 60 = .ok (.iconst 0, 1) := by decide +kernel
theorem dD_set_61 : decode cD_set 61 = .ok (.putfield 110, 3) := by decide +kernel
theorem dD_set_64 : decode cD_set 64 = .ok (.aload_n 0, 1) := by decide +kernel
theorem dD_set_65 : decode cD_set 65 = .ok (.getfield 110, 3) := by decide +kernel
theorem dD_set_68 : decode cD_set 68 = .ok (.ifCond .le 5, 3) := by decide +kernel
theorem dD_set_71 : decode cD_set 71 = .ok (.iconst 0, 1) := by decide +kernel
theorem dD_set_72 : decode cD_set 72 = .ok (.ireturn, 1) := by decide +kernel
theorem dD_set_73 : decode cD_set 73 = .ok (.iload_n 1, 1) := by decide +kernel
theorem dD_set_74 : decode cD_set 74 = .ok (.iconst 3, 1) := by decide +kernel
theorem dD_set_75 : decode cD_set 75 = .ok (.if_icmp .ge 22, 3) := by decide +kernel
theorem dD_set_78 : decode cD_set 78 = .ok (.aload_n 0, 1) := by decide +kernel
theorem dD_set_79 : decode cD_set 79 = .ok (.getfield 23, 3) := by decide +kernel
theorem dD_set_82 : decode cD_set 82 = .ok (.iload_n 1, 1) := by decide +kernel
theorem dD_set_83 : decode cD_set 83 = .ok (.iaload, 1) := by decide +kernel
theorem dD_set_84 : decode cD_set 84 = .ok (.istore 5, 2) := by decide +kernel
theorem dD_set_86 : decode cD_set 86 = .ok (.aload_n 0, 1) := by decide +kernel
theorem dD_set_87 : decode cD_set 87 = .ok (.getfield 23, 3) := by decide +kernel
theorem dD_set_90 : decode cD_set 90 = .ok (.iload_n 1, 1) := by decide +kernel
theorem dD_set_91 : decode cD_set 91 = .ok (.iload 4, 2) := by decide +kernel
theorem dD_set_93 : decode cD_set 93 = .ok (.iastore, 1) := by decide +kernel
theorem dD_set_94 : decode cD_set 94 = .ok (.iload 5, 2) := by decide +kernel
theorem dD_set_96 : decode cD_set 96 = .ok (.ireturn, 1) := by decide +kernel
theorem dD_set_97 : decode cD_set 97 = .ok (.iload_n 1, 1) := by decide +kernel
theorem dD_set_98 : decode cD_set 98 = .ok (.iconst 3, 1) := by decide +kernel
theorem dD_set_99 : decode cD_set 99 = .ok (.if_icmp .ne 66, 3) := by decide +kernel
theorem dD_set_102 : decode cD_set 102 = .ok (.aload_n 0, 1) := by decide +kernel
theorem dD_set_103 : decode cD_set 103 = .ok (.getfield 20, 3) := by decide +kernel
theorem dD_set_106 : decode cD_set 106 = .ok (.iload_n 3, 1) := by decide +kernel
theorem dD_set_107 : decode cD_set 107 = .ok (.ifCond .ge 7, 3) := by decide +kernel
theorem dD_set_110 : decode cD_set 110 = .ok (.iconst 0, 1) := by decide +kernel
theorem dD_set_111 : decode cD_set 111 = .ok (.goto 4, 3) := by decide +kernel
theorem dD_set_114 : decode cD_set 114 = .ok (.iload_n 3, 1) := by decide +kernel
theorem dD_set_115 : decode cD_set 115 = .ok (.iaload, 1) := by decide +kernel
theorem dD_set_116 : decode cD_set 116 = .ok (.istore 5, 2) := by decide +kernel
theorem dD_set_118 : decode cD_set 118 = .ok (.iconst 0, 1) := by decide +kernel
theorem dD_set_119 : decode cD_set 119 = .ok (.istore 6, 2) := by decide +kernel
theorem dD_set_121 : decode cD_set 121 = .ok (.iload 6, 2) := by decide +kernel
theorem dD_set_123 : decode cD_set 123 = .ok (.iconst 4, 1) := by decide +kernel
theorem dD_set_124 : decode cD_set 124 = .ok (.if_icmp .ge 38, 3) := by decide +kernel
theorem dD_set_127 : decode cD_set 127 = .ok (.aload_n 0, 1) := by decide +kernel
theorem dD_set_128 : decode cD_set 128 = .ok (.getfield 20, 3) := by decide +kernel
theorem dD_set_131 : decode cD_set 131 = .ok (.iload 6, 2) := by decide +kernel
theorem dD_set_133 : decode cD_set 133 = .ok (.iload_n 3, 1) := by decide +kernel
theorem dD_set_134 : decode cD_set 134 = .ok (.ifCond .lt 9, 3) := by decide +kernel
theorem dD_set_137 : decode cD_set 137 = .ok (.iload 6, 2) := by decide +kernel
theorem dD_set_139 : decode cD_set 139 = .ok (.iload_n 3, 1) := by decide +kernel
theorem dD_set_140 : decode cD_set 140 = .ok (.if_icmp .ne 8, 3) := by decide +kernel
theorem dD_set_143 : decode cD_set 143 = .ok (.iload 4, 2) := by decide +kernel
theorem dD_set_145 : decode cD_set 145 = .ok (.goto 10, 3) := by decide +kernel
theorem dD_set_148 : decode cD_set 148 = .ok (.aload_n 0, 1) := by decide +kernel
theorem dD_set_149 : decode cD_set 149 = .ok (.getfield 20, 3) := by decide +kernel
theorem dD_set_152 : decode cD_set 152 = .ok (.iload 6, 2) := by decide +kernel
theorem dD_set_154 : decode cD_set 154 = .ok (.iaload, 1) := by decide +kernel
theorem dD_set_155 : decode cD_set 155 = .ok (.iastore, 1) := by decide +kernel
theorem dD_set_156 : decode cD_set 156 = .ok (.iinc 6 1, 3) := by decide +kernel
theorem dD_set_159 : decode cD_set 159 = .ok (.goto (-38), 3) := by decide +kernel
theorem dD_set_162 : decode cD_set 162 = .ok (.iload 5, 2) := by decide +kernel
theorem dD_set_164 : decode cD_set 164 = .ok (.ireturn, 1) := by decide +kernel
theorem dD_set_165 : decode cD_set 165 = .ok (.aload_n 0, 1) := by decide +kernel
theorem dD_set_166 : decode cD_set 166 = .ok (.aload_n 0, 1) := by decide +kernel
theorem dD_set_167 : decode cD_set 167 = .ok (.iconst 0, 1) := by decide +kernel
theorem dD_set_168 : decode cD_set 168 = .ok (.iload_n 1, 1) := by decide +kernel
theorem dD_set_169 : decode cD_set 169 = .ok (.iload_n 2, 1) := by decide +kernel
theorem dD_set_170 : decode cD_set 170 = .ok (.iload_n 3, 1) := by decide +kernel
theorem dD_set_171 : decode cD_set 171 = .ok (.invokevirtual 168, 3) := by decide +kernel
theorem dD_set_174 : decode cD_set 174 = .ok (.iload_n 1, 1) := by decide +kernel
theorem dD_set_175 : decode cD_set 175 = .ok (.invokevirtual 172, 3) := by decide +kernel
theorem dD_set_178 : decode cD_set 178 = .ok (.istore 5, 2) := by decide +kernel
theorem dD_set_180 : decode cD_set 180 = .ok (.aload_n 0, 1) := by decide +kernel
theorem dD_set_181 : decode cD_set 181 = .ok (.iload_n 1, 1) := by decide +kernel
theorem dD_set_182 : decode cD_set 182 = .ok (.iload_n 2, 1) := by decide +kernel
theorem dD_set_183 : decode cD_set 183 = .ok (.iload_n 3, 1) := by decide +kernel
theorem dD_set_184 : decode cD_set 184 = .ok (.invokevirtual 189, 3) := by decide +kernel
theorem dD_set_187 : decode cD_set 187 = .ok (.aload_n 0, 1) := by decide +kernel
theorem dD_set_188 : decode cD_set 188 = .ok (.iload_n 2, 1) := by decide +kernel
theorem dD_set_189 : decode cD_set 189 = .ok (.iload_n 3, 1) := by decide +kernel
theorem dD_set_190 : decode cD_set 190 = .ok (.invokestatic 121, 3) := by decide +kernel
theorem dD_set_193 : decode cD_set 193 = .ok (.iload_n 1, 1) := by decide +kernel
theorem dD_set_194 : decode cD_set 194 = .ok (.iload 4, 2) := by decide +kernel
theorem dD_set_196 : decode cD_set 196 = .ok (.invokevirtual 113, 3) := by decide +kernel
theorem dD_set_199 : decode cD_set 199 = .ok (.iload 5, 2) := by decide +kernel
theorem dD_set_201 : decode cD_set 201 = .ok (.ireturn, 1) := by decide +kernel
theorem dD_tilePart_0 : decode cD_tilePart 0 = .ok (.aload_n 0, 1) := by decide +kernel
theorem dD_tilePart_1 : decode cD_tilePart 1 = .ok (.iload_n 1, 1) := by decide +kernel
theorem dD_tilePart_2 : decode cD_tilePart 2 = .ok (.i2l, 1) := by decide +kernel
theorem dD_tilePart_3 : decode cD_tilePart 3 = .ok (.lconst 0, 1) := by decide +kernel
theorem dD_tilePart_4 : decode cD_tilePart 4 = .ok (.aload_n 0, 1) := by decide +kernel
theorem dD_tilePart_5 : decode cD_tilePart 5 = .ok (.iconst 0, 1) := by decide +kernel
theorem dD_tilePart_6 : decode cD_tilePart 6 = .ok (.invokevirtual 141, 3) := by decide +kernel
theorem dD_tilePart_9 : decode cD_tilePart 9 = .ok (.i2l, 1) := by decide +kernel
theorem dD_tilePart_10 : decode cD_tilePart 10 = .ok (.lconst 1, 1) := by decide +kernel
theorem dD_tilePart_11 : decode cD_tilePart 11 = .ok (.lsub, 1) := by decide +kernel
theorem dD_tilePart_12 : decode cD_tilePart 12 = .ok (.invokestatic 135, 3) := by decide +kernel
theorem dD_tilePart_15 : decode cD_tilePart 15 = .ok (.ifCond .ne 7, 3) := by decide +kernel
theorem dD_tilePart_18 : decode cD_tilePart 18 = .ok (.iconst 1, 1) := by decide +kernel
theorem dD_tilePart_19 : decode cD_tilePart 19 = .ok (.goto 17, 3) := by decide +kernel
theorem dD_tilePart_22 : decode cD_tilePart 22 = .ok (.aload_n 0, 1) := by decide +kernel
theorem dD_tilePart_23 : decode cD_tilePart 23 = .ok (.getfield 145, 3) := by decide +kernel
theorem dD_tilePart_26 : decode cD_tilePart 26 = .ok (.bipush 40, 2) := by decide +kernel
theorem dD_tilePart_28 : decode cD_tilePart 28 = .ok (.if_icmp .ne 7, 3) := by decide +kernel
theorem dD_tilePart_31 : decode cD_tilePart 31 = .ok (.iconst 2, 1) := by decide +kernel
theorem dD_tilePart_32 : decode cD_tilePart 32 = .ok (.goto 4, 3) := by decide +kernel
theorem dD_tilePart_35 : decode cD_tilePart 35 = .ok (.iconst 0, 1) := by decide +kernel
theorem dD_tilePart_36 : decode cD_tilePart 36 = .ok (.putfield 110, 3) := by decide +kernel
theorem dD_tilePart_39 : decode cD_tilePart 39 = .ok (.aload_n 0, 1) := by decide +kernel
theorem dD_tilePart_40 : decode cD_tilePart 40 = .ok (.getfield 110, 3) := by decide +kernel
theorem dD_tilePart_43 : decode cD_tilePart 43 = .ok (.ifCond .le 5, 3) := by decide +kernel
theorem dD_tilePart_46 : decode cD_tilePart 46 = .ok (.iconst 0, 1) := by decide +kernel
theorem dD_tilePart_47 : decode cD_tilePart 47 = .ok (.ireturn, 1) := by decide +kernel
theorem dD_tilePart_48 : decode cD_tilePart 48 = .ok (.aload_n 0, 1) := by decide +kernel
theorem dD_tilePart_49 : decode cD_tilePart 49 = .ok (.getfield 26, 3) := by decide +kernel
theorem dD_tilePart_52 : decode cD_tilePart 52 = .ok (.aload_n 0, 1) := by decide +kernel
theorem dD_tilePart_53 : decode cD_tilePart 53 = .ok (.getfield 145, 3) := by decide +kernel
theorem dD_tilePart_56 : decode cD_tilePart 56 = .ok (.iload_n 1, 1) := by decide +kernel
theorem dD_tilePart_57 : decode cD_tilePart 57 = .ok (.iastore, 1) := by decide +kernel
theorem dD_tilePart_58 : decode cD_tilePart 58 = .ok (.aload_n 0, 1) := by decide +kernel
theorem dD_tilePart_59 : decode cD_tilePart 59 = .ok (.getfield 29, 3) := by decide +kernel
theorem dD_tilePart_62 : decode cD_tilePart 62 = .ok (.aload_n 0, 1) := by decide +kernel
theorem dD_tilePart_63 : decode cD_tilePart 63 = .ok (.getfield 145, 3) := by decide +kernel
theorem dD_tilePart_66 : decode cD_tilePart 66 = .ok (.iconst 0, 1) := by decide +kernel
theorem dD_tilePart_67 : decode cD_tilePart 67 = .ok (.iastore, 1) := by decide +kernel
theorem dD_tilePart_68 : decode cD_tilePart 68 = .ok (.aload_n 0, 1) := by decide +kernel
theorem dD_tilePart_69 : decode cD_tilePart 69 = .ok (.getfield 35, 3) := by decide +kernel
theorem dD_tilePart_72 : decode cD_tilePart 72 = .ok (.aload_n 0, 1) := by decide +kernel
theorem dD_tilePart_73 : decode cD_tilePart 73 = .ok (.getfield 145, 3) := by decide +kernel
theorem dD_tilePart_76 : decode cD_tilePart 76 = .ok (.iconst 0, 1) := by decide +kernel
theorem dD_tilePart_77 : decode cD_tilePart 77 = .ok (.iastore, 1) := by decide +kernel
theorem dD_tilePart_78 : decode cD_tilePart 78 = .ok (.aload_n 0, 1) := by decide +kernel
theorem dD_tilePart_79 : decode cD_tilePart 79 = .ok (.dup, 1) := by decide +kernel
theorem dD_tilePart_80 : decode cD_tilePart 80 = .ok (.getfield 145, 3) := by decide +kernel
theorem dD_tilePart_83 : decode cD_tilePart 83 = .ok (.iconst 1, 1) := by decide +kernel
theorem dD_tilePart_84 : decode cD_tilePart 84 = .ok (.iadd, 1) := by decide +kernel
theorem dD_tilePart_85 : decode cD_tilePart 85 = .ok (.putfield 145, 3) := by decide +kernel
theorem dD_tilePart_88 : decode cD_tilePart 88 = .ok (.aload_n 0, 1) := by decide +kernel
theorem dD_tilePart_89 : decode cD_tilePart 89 = .ok (.getfield 145, 3) := by decide +kernel
theorem dD_tilePart_92 : decode cD_tilePart 92 = .ok (.iconst 1, 1) := by decide +kernel
theorem dD_tilePart_93 : decode cD_tilePart 93 = .ok (.isub, 1) := by decide +kernel
theorem dD_tilePart_94 : decode cD_tilePart 94 = .ok (.ireturn, 1) := by decide +kernel
theorem dD_isPart_0 : decode cD_isPart 0 = .ok (.iload_n 1, 1) := by decide +kernel
theorem dD_isPart_1 : decode cD_isPart 1 = .ok (.i2l, 1) := by decide +kernel
theorem dD_isPart_2 : decode cD_isPart 2 = .ok (.lconst 0, 1) := by decide +kernel
theorem dD_isPart_3 : decode cD_isPart 3 = .ok (.aload_n 0, 1) := by decide +kernel
theorem dD_isPart_4 : decode cD_isPart 4 = .ok (.getfield 145, 3) := by decide +kernel
theorem dD_isPart_7 : decode cD_isPart 7 = .ok (.i2l, 1) := by decide +kernel
theorem dD_isPart_8 : decode cD_isPart 8 = .ok (.lconst 1, 1) := by decide +kernel
theorem dD_isPart_9 : decode cD_isPart 9 = .ok (.lsub, 1) := by decide +kernel
theorem dD_isPart_10 : decode cD_isPart 10 = .ok (.invokestatic 135, 3) := by decide +kernel
theorem dD_isPart_13 : decode cD_isPart 13 = .ok (.ireturn, 1) := by decide +kernel
theorem dD_packet_0 : decode cD_packet 0 = .ok (.aload_n 0, 1) := by decide +kernel
theorem dD_packet_1 : decode cD_packet 1 = .ok (.aload_n 0, 1) := by decide +kernel
theorem dD_packet_2 : decode cD_packet 2 = .ok (.iload_n 1, 1) := by decide +kernel
theorem dD_packet_3 : decode cD_packet 3 = .ok (.invokevirtual 192, 3) := by decide +kernel
theorem dD_packet_6 : decode cD_packet 6 = .ok (.ifCond .ne 7, 3) := by decide +kernel
theorem dD_packet_9 : decode cD_packet 9 = .ok (.iconst 1, 1) := by decide +kernel
theorem dD_packet_10 : decode cD_packet 10 = .ok (.goto 19, 3) := by decide +kernel
theorem dD_packet_13 : decode cD_packet 13 = .ok (.aload_n 0, 1) := by decide +kernel
theorem dD_packet_14 : decode cD_packet 14 = .ok (.getfield 29, 3) := by decide +kernel
theorem dD_packet_17 : decode cD_packet 17 = .ok (.iload_n 1, 1) := by decide +kernel
theorem dD_packet_18 : decode cD_packet 18 = .ok (.iaload, 1) := by decide +kernel
theorem dD_packet_19 : decode cD_packet 19 = .ok (.bipush 20, 2) := by decide +kernel
theorem dD_packet_21 : decode cD_packet 21 = .ok (.if_icmp .ne 7, 3) := by decide +kernel
theorem dD_packet_24 : decode cD_packet 24 = .ok (.iconst 2, 1) := by decide +kernel
theorem dD_packet_25 : decode cD_packet 25 = .ok (.goto 4, 3) := by decide +kernel
theorem dD_packet_28 : decode cD_packet 28 = .ok (.iconst 0, 1) := by decide +kernel
theorem dD_packet_29 : decode cD_packet 29 = .ok (.putfield 110, 3) := by decide +kernel
theorem dD_packet_32 : decode cD_packet 32 = .ok (.aload_n 0, 1) := by decide +kernel
theorem dD_packet_33 : decode cD_packet 33 = .ok (.getfield 110, 3) := by decide +kernel
theorem dD_packet_36 : decode cD_packet 36 = .ok (.ifCond .le 5, 3) := by decide +kernel
theorem dD_packet_39 : decode cD_packet 39 = .ok (.iconst 0, 1) := by decide +kernel
theorem dD_packet_40 : decode cD_packet 40 = .ok (.ireturn, 1) := by decide +kernel
theorem dD_packet_41 : decode cD_packet 41 = .ok (.aload_n 0, 1) := by decide +kernel
theorem dD_packet_42 : decode cD_packet 42 = .ok (.getfield 32, 3) := by decide +kernel
theorem dD_packet_45 : decode cD_packet 45 = .ok (.bipush 20, 2) := by decide +kernel
theorem dD_packet_47 : decode cD_packet 47 = .ok (.iload_n 1, 1) := by decide +kernel
theorem dD_packet_48 : decode cD_packet 48 = .ok (.imul, 1) := by decide +kernel
theorem dD_packet_49 : decode cD_packet 49 = .ok (.aload_n 0, 1) := by decide +kernel
theorem dD_packet_50 : decode cD_packet 50 = .ok (.getfield 29, 3) := by decide +kernel
theorem dD_packet_53 : decode cD_packet 53 = .ok (.iload_n 1, 1) := by decide +kernel
theorem dD_packet_54 : decode cD_packet 54 = .ok (.iaload, 1) := by decide +kernel
theorem dD_packet_55 : decode cD_packet 55 = .ok (.iadd, 1) := by decide +kernel
theorem dD_packet_56 : decode cD_packet 56 = .ok (.iconst 0, 1) := by decide +kernel
theorem dD_packet_57 : decode cD_packet 57 = .ok (.iastore, 1) := by decide +kernel
theorem dD_packet_58 : decode cD_packet 58 = .ok (.aload_n 0, 1) := by decide +kernel
theorem dD_packet_59 : decode cD_packet 59 = .ok (.getfield 29, 3) := by decide +kernel
theorem dD_packet_62 : decode cD_packet 62 = .ok (.iload_n 1, 1) := by decide +kernel
theorem dD_packet_63 : decode cD_packet 63 = .ok (.dup2, 1) := by decide +kernel
theorem dD_packet_64 : decode cD_packet 64 = .ok (.iaload, 1) := by decide +kernel
theorem dD_packet_65 : decode cD_packet 65 = .ok (.iconst 1, 1) := by decide +kernel
theorem dD_packet_66 : decode cD_packet 66 = .ok (.iadd, 1) := by decide +kernel
theorem dD_packet_67 : decode cD_packet 67 = .ok (.iastore, 1) := by decide +kernel
theorem dD_packet_68 : decode cD_packet 68 = .ok (.aload_n 0, 1) := by decide +kernel
theorem dD_packet_69 : decode cD_packet 69 = .ok (.getfield 29, 3) := by decide +kernel
theorem dD_packet_72 : decode cD_packet 72 = .ok (.iload_n 1, 1) := by decide +kernel
theorem dD_packet_73 : decode cD_packet 73 = .ok (.iaload, 1) := by decide +kernel
theorem dD_packet_74 : decode cD_packet 74 = .ok (.ireturn, 1) := by decide +kernel
theorem dD_byteOf_0 : decode cD_byteOf 0 = .ok (.aload_n 0, 1) := by decide +kernel
theorem dD_byteOf_1 : decode cD_byteOf 1 = .ok (.aload_n 0, 1) := by decide +kernel
theorem dD_byteOf_2 : decode cD_byteOf 2 = .ok (.iload_n 1, 1) := by decide +kernel
theorem dD_byteOf_3 : decode cD_byteOf 3 = .ok (.invokevirtual 192, 3) := by decide +kernel
theorem dD_byteOf_6 : decode cD_byteOf 6 = .ok (.ifCond .ne 7, 3) := by decide +kernel
theorem dD_byteOf_9 : decode cD_byteOf 9 = .ok (.iconst 1, 1) := by decide +kernel
theorem dD_byteOf_10 : decode cD_byteOf 10 = .ok (.goto 49, 3) := by decide +kernel
theorem dD_byteOf_13 : decode cD_byteOf 13 = .ok (.aload_n 0, 1) := by decide +kernel
theorem dD_byteOf_14 : decode cD_byteOf 14 = .ok (.getfield 29, 3) := by decide +kernel
theorem dD_byteOf_17 : decode cD_byteOf 17 = .ok (.iload_n 1, 1) := by decide +kernel
theorem dD_byteOf_18 : decode cD_byteOf 18 = .ok (.iaload, 1) := by decide +kernel
theorem dD_byteOf_19 : decode cD_byteOf 19 = .ok (.ifCond .ne 7, 3) := by decide +kernel
theorem dD_byteOf_22 : decode cD_byteOf 22 = .ok (.iconst 2, 1) := by decide +kernel
theorem dD_byteOf_23 : decode cD_byteOf 23 = .ok (.goto 36, 3) := by decide +kernel
theorem dD_byteOf_26 : decode cD_byteOf 26 = .ok (.iload_n 2, 1) := by decide +kernel
theorem dD_byteOf_27 : decode cD_byteOf 27 = .ok (.i2l, 1) := by decide +kernel
theorem dD_byteOf_28 : decode cD_byteOf 28 = .ok (.lconst 0, 1) := by decide +kernel
theorem dD_byteOf_29 : decode cD_byteOf 29 = .ok (.ldc2_w 195, 3) := by decide +kernel
theorem dD_byteOf_32 : decode cD_byteOf 32 = .ok (.invokestatic 135, 3) := by decide +kernel
theorem dD_byteOf_35 : decode cD_byteOf 35 = .ok (.ifCond .ne 7, 3) := by decide +kernel
theorem dD_byteOf_38 : decode cD_byteOf 38 = .ok (.iconst 3, 1) := by decide +kernel
theorem dD_byteOf_39 : decode cD_byteOf 39 = .ok (.goto 20, 3) := by decide +kernel
theorem dD_byteOf_42 : decode cD_byteOf 42 = .ok (.aload_n 0, 1) := by decide +kernel
theorem dD_byteOf_43 : decode cD_byteOf 43 = .ok (.getfield 35, 3) := by decide +kernel
theorem dD_byteOf_46 : decode cD_byteOf 46 = .ok (.iload_n 1, 1) := by decide +kernel
theorem dD_byteOf_47 : decode cD_byteOf 47 = .ok (.iaload, 1) := by decide +kernel
theorem dD_byteOf_48 : decode cD_byteOf 48 = .ok (.sipush 300, 3) := by decide +kernel
theorem dD_byteOf_51 : decode cD_byteOf 51 = .ok (.if_icmp .ne 7, 3) := by decide +kernel
theorem dD_byteOf_54 : decode cD_byteOf 54 = .ok (.iconst 4, 1) := by decide +kernel
theorem dD_byteOf_55 : decode cD_byteOf 55 = .ok (.goto 4, 3) := by decide +kernel
theorem dD_byteOf_58 : decode cD_byteOf 58 = .ok (.iconst 0, 1) := by decide +kernel
theorem dD_byteOf_59 : decode cD_byteOf 59 = .ok (.putfield 110, 3) := by decide +kernel
theorem dD_byteOf_62 : decode cD_byteOf 62 = .ok (.aload_n 0, 1) := by decide +kernel
theorem dD_byteOf_63 : decode cD_byteOf 63 = .ok (.getfield 110, 3) := by decide +kernel
theorem dD_byteOf_66 : decode cD_byteOf 66 = .ok (.ifCond .le 5, 3) := by decide +kernel
theorem dD_byteOf_69 : decode cD_byteOf 69 = .ok (.iconst 0, 1) := by decide +kernel
theorem dD_byteOf_70 : decode cD_byteOf 70 = .ok (.ireturn, 1) := by decide +kernel
theorem dD_byteOf_71 : decode cD_byteOf 71 = .ok (.aload_n 0, 1) := by decide +kernel
theorem dD_byteOf_72 : decode cD_byteOf 72 = .ok (.getfield 38, 3) := by decide +kernel
theorem dD_byteOf_75 : decode cD_byteOf 75 = .ok (.sipush 300, 3) := by decide +kernel
theorem dD_byteOf_78 : decode cD_byteOf 78 = .ok (.iload_n 1, 1) := by decide +kernel
theorem dD_byteOf_79 : decode cD_byteOf 79 = .ok (.imul, 1) := by decide +kernel
theorem dD_byteOf_80 : decode cD_byteOf 80 = .ok (.aload_n 0, 1) := by decide +kernel
theorem dD_byteOf_81 : decode cD_byteOf 81 = .ok (.getfield 35, 3) := by decide +kernel
theorem dD_byteOf_84 : decode cD_byteOf 84 = .ok (.iload_n 1, 1) := by decide +kernel
theorem dD_byteOf_85 : decode cD_byteOf 85 = .ok (.iaload, 1) := by decide +kernel
theorem dD_byteOf_86 : decode cD_byteOf 86 = .ok (.iadd, 1) := by decide +kernel
theorem dD_byteOf_87 : decode cD_byteOf 87 = .ok (.iload_n 2, 1) := by decide +kernel
theorem dD_byteOf_88 : decode cD_byteOf 88 = .ok (.iastore, 1) := by decide +kernel
theorem dD_byteOf_89 : decode cD_byteOf 89 = .ok (.aload_n 0, 1) := by decide +kernel
theorem dD_byteOf_90 : decode cD_byteOf 90 = .ok (.getfield 35, 3) := by decide +kernel
theorem dD_byteOf_93 : decode cD_byteOf 93 = .ok (.iload_n 1, 1) := by decide +kernel
theorem dD_byteOf_94 : decode cD_byteOf 94 = .ok (.dup2, 1) := by decide +kernel
theorem dD_byteOf_95 : decode cD_byteOf 95 = .ok (.iaload, 1) := by decide +kernel
theorem dD_byteOf_96 : decode cD_byteOf 96 = .ok (.iconst 1, 1) := by decide +kernel
theorem dD_byteOf_97 : decode cD_byteOf 97 = .ok (.iadd, 1) := by decide +kernel
theorem dD_byteOf_98 : decode cD_byteOf 98 = .ok (.iastore, 1) := by decide +kernel
theorem dD_byteOf_99 : decode cD_byteOf 99 = .ok (.aload_n 0, 1) := by decide +kernel
theorem dD_byteOf_100 : decode cD_byteOf 100 = .ok (.getfield 32, 3) := by decide +kernel
theorem dD_byteOf_103 : decode cD_byteOf 103 = .ok (.bipush 20, 2) := by decide +kernel
theorem dD_byteOf_105 : decode cD_byteOf 105 = .ok (.iload_n 1, 1) := by decide +kernel
theorem dD_byteOf_106 : decode cD_byteOf 106 = .ok (.imul, 1) := by decide +kernel
theorem dD_byteOf_107 : decode cD_byteOf 107 = .ok (.aload_n 0, 1) := by decide +kernel
theorem dD_byteOf_108 : decode cD_byteOf 108 = .ok (.getfield 29, 3) := by decide +kernel
theorem dD_byteOf_111 : decode cD_byteOf 111 = .ok (.iload_n 1, 1) := by decide +kernel
theorem dD_byteOf_112 : decode cD_byteOf 112 = .ok (.iaload, 1) := by decide +kernel
theorem dD_byteOf_113 : decode cD_byteOf 113 = .ok (.iadd, 1) := by decide +kernel
theorem dD_byteOf_114 : decode cD_byteOf 114 = .ok (.iconst 1, 1) := by decide +kernel
theorem dD_byteOf_115 : decode cD_byteOf 115 = .ok (.isub, 1) := by decide +kernel
theorem dD_byteOf_116 : decode cD_byteOf 116 = .ok (.dup2, 1) := by decide +kernel
theorem dD_byteOf_117 : decode cD_byteOf 117 = .ok (.iaload, 1) := by decide +kernel
theorem dD_byteOf_118 : decode cD_byteOf 118 = .ok (.iconst 1, 1) := by decide +kernel
theorem dD_byteOf_119 : decode cD_byteOf 119 = .ok (.iadd, 1) := by decide +kernel
theorem dD_byteOf_120 : decode cD_byteOf 120 = .ok (.iastore, 1) := by decide +kernel
theorem dD_byteOf_121 : decode cD_byteOf 121 = .ok (.aload_n 0, 1) := by decide +kernel
theorem dD_byteOf_122 : decode cD_byteOf 122 = .ok (.getfield 35, 3) := by decide +kernel
theorem dD_byteOf_125 : decode cD_byteOf 125 = .ok (.iload_n 1, 1) := by decide +kernel
theorem dD_byteOf_126 : decode cD_byteOf 126 = .ok (.iaload, 1) := by decide +kernel
theorem dD_byteOf_127 : decode cD_byteOf 127 = .ok (.ireturn, 1) := by decide +kernel
theorem dD_isKind_0 : decode cD_isKind 0 = .ok (.iconst 1, 1) := by decide +kernel
theorem dD_isKind_1 : decode cD_isKind 1 = .ok (.istore_n 1, 1) := by decide +kernel
theorem dD_isKind_2 : decode cD_isKind 2 = .ok (.iconst 0, 1) := by decide +kernel
theorem dD_isKind_3 : decode cD_isKind 3 = .ok (.istore_n 2, 1) := by decide +kernel
theorem dD_isKind_4 : decode cD_isKind 4 = .ok (.iload_n 2, 1) := by decide +kernel
theorem dD_isKind_5 : decode cD_isKind 5 = .ok (.bipush 32, 2) := by decide +kernel
theorem dD_isKind_7 : decode cD_isKind 7 = .ok (.if_icmp .ge 39, 3) := by decide +kernel
theorem dD_isKind_10 : decode cD_isKind 10 = .ok (.iload_n 1, 1) := by decide +kernel
theorem dD_isKind_11 : decode cD_isKind 11 = .ok (.ifCond .eq 27, 3) := by decide +kernel
theorem dD_isKind_14 : decode cD_isKind 14 = .ok (.iload_n 0, 1) := by decide +kernel
theorem dD_isKind_15 : decode cD_isKind 15 = .ok (.iload_n 2, 1) := by decide +kernel
theorem dD_isKind_16 : decode cD_isKind 16 = .ok (.ishr, 1) := by decide +kernel
theorem dD_isKind_17 : decode cD_isKind 17 = .ok (.sipush 255, 3) := by decide +kernel
theorem dD_isKind_20 : decode cD_isKind 20 = .ok (.iand, 1) := by decide +kernel
theorem dD_isKind_21 : decode cD_isKind 21 = .ok (.i2l, 1) := by decide +kernel
theorem dD_isKind_22 : decode cD_isKind 22 = .ok (.ldc2_w 197, 3) := by decide +kernel
theorem dD_isKind_25 : decode cD_isKind 25 = .ok (.ldc2_w 199, 3) := by decide +kernel
theorem dD_isKind_28 : decode cD_isKind 28 = .ok (.invokestatic 135, 3) := by decide +kernel
theorem dD_isKind_31 : decode cD_isKind 31 = .ok (.ifCond .eq 7, 3) := by decide +kernel
theorem dD_isKind_34 : decode cD_isKind 34 = .ok (.iconst 1, 1) := by decide +kernel
theorem dD_isKind_35 : decode cD_isKind 35 = .ok (.goto 4, 3) := by decide +kernel
theorem dD_isKind_38 : decode cD_isKind 38 = .ok (.iconst 0, 1) := by decide +kernel
theorem dD_isKind_39 : decode cD_isKind 39 = .ok (.istore_n 1, 1) := by decide +kernel
theorem dD_isKind_40 : decode cD_isKind 40 = .ok (.iinc 2 8, 3) := by decide +kernel
theorem dD_isKind_43 : decode cD_isKind 43 = .ok (.goto (-39), 3) := by decide +kernel
theorem dD_isKind_46 : decode cD_isKind 46 = .ok (.iload_n 1, 1) := by decide +kernel
theorem dD_isKind_47 : decode cD_isKind 47 = .ok (.ifCond .eq 37, 3) := by decide +kernel
theorem dD_isKind_50 : decode cD_isKind 50 = .ok (.iload_n 0, 1) := by decide +kernel
theorem dD_isKind_51 : decode cD_isKind 51 = .ok (.ldc 201, 2) := by decide +kernel
theorem dD_isKind_53 : decode cD_isKind 53 = .ok (.if_icmp .eq 31, 3) := by decide +kernel
theorem dD_isKind_56 : decode cD_isKind 56 = .ok (.iload_n 0, 1) := by decide +kernel
theorem dD_isKind_57 : decode cD_isKind 57 = .ok (.ldc 202, 2) := by decide +kernel
theorem dD_isKind_59 : decode cD_isKind 59 = .ok (.if_icmp .eq 25, 3) := by decide +kernel
theorem dD_isKind_62 : decode cD_isKind 62 = .ok (.iload_n 0, 1) := by decide +kernel
theorem dD_isKind_63 : decode cD_isKind 63 = .ok (.ldc 203, 2) := by decide +kernel
theorem dD_isKind_65 : decode cD_isKind 65 = .ok (.if_icmp .eq 19, 3) := by decide +kernel
