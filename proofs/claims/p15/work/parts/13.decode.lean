theorem dW_isByte_4 : decode cW_isByte 4 = .ok (.iload_n 0, 1) := by decide +kernel
theorem dW_isByte_5 : decode cW_isByte 5 = .ok (.sipush 255, 3) := by decide +kernel
theorem dW_isByte_8 : decode cW_isByte 8 = .ok (.if_icmp .gt 7, 3) := by decide +kernel
theorem dW_isByte_11 : decode cW_isByte 11 = .ok (.iconst 1, 1) := by decide +kernel
theorem dW_isByte_12 : decode cW_isByte 12 = .ok (.goto 4, 3) := by decide +kernel
theorem dW_isByte_15 : decode cW_isByte 15 = .ok (.iconst 0, 1) := by decide +kernel
theorem dW_isByte_16 : decode cW_isByte 16 = .ok (.ireturn, 1) := by decide +kernel
theorem dW_byteOf_0 : decode cW_byteOf 0 = .ok (.iload_n 1, 1) := by decide +kernel
theorem dW_byteOf_1 : decode cW_byteOf 1 = .ok (.ifCond .lt 14, 3) := by decide +kernel
theorem dW_byteOf_4 : decode cW_byteOf 4 = .ok (.iload_n 1, 1) := by decide +kernel
theorem dW_byteOf_5 : decode cW_byteOf 5 = .ok (.aload_n 0, 1) := by decide +kernel
theorem dW_byteOf_6 : decode cW_byteOf 6 = .ok (.getfield 19, 3) := by decide +kernel
theorem dW_byteOf_9 : decode cW_byteOf 9 = .ok (.invokevirtual 133, 3) := by decide +kernel
theorem dW_byteOf_12 : decode cW_byteOf 12 = .ok (.if_icmp .lt 13, 3) := by decide +kernel
theorem dW_byteOf_15 : decode cW_byteOf 15 = .ok (.new 91, 3) := by decide +kernel
theorem dW_byteOf_18 : decode cW_byteOf 18 = .ok (.dup, 1) := by decide +kernel
theorem dW_byteOf_19 : decode cW_byteOf 19 = .ok (.ldc 152, 2) := by decide +kernel
theorem dW_byteOf_21 : decode cW_byteOf 21 = .ok (.invokespecial 95, 3) := by decide +kernel
theorem dW_byteOf_24 : decode cW_byteOf 24 = .ok (.athrow, 1) := by decide +kernel
theorem dW_byteOf_25 : decode cW_byteOf 25 = .ok (.aload_n 0, 1) := by decide +kernel
theorem dW_byteOf_26 : decode cW_byteOf 26 = .ok (.getfield 19, 3) := by decide +kernel
theorem dW_byteOf_29 : decode cW_byteOf 29 = .ok (.iload_n 1, 1) := by decide +kernel
theorem dW_byteOf_30 : decode cW_byteOf 30 = .ok (.invokevirtual 154, 3) := by decide +kernel
theorem dW_byteOf_33 : decode cW_byteOf 33 = .ok (.checkcast 141, 3) := by decide +kernel
theorem dW_byteOf_36 : decode cW_byteOf 36 = .ok (.astore_n 3, 1) := by decide +kernel
theorem dW_byteOf_37 : decode cW_byteOf 37 = .ok (.aload_n 3, 1) := by decide +kernel
theorem dW_byteOf_38 : decode cW_byteOf 38 = .ok (.getfield 158, 3) := by decide +kernel
theorem dW_byteOf_41 : decode cW_byteOf 41 = .ok (.ifCond .ne 13, 3) := by decide +kernel
theorem dW_byteOf_44 : decode cW_byteOf 44 = .ok (.new 105, 3) := by decide +kernel
theorem dW_byteOf_47 : decode cW_byteOf 47 = .ok (.dup, 1) := by decide +kernel
theorem dW_byteOf_48 : decode cW_byteOf 48 = .ok (.ldc 164, 2) := by decide +kernel
theorem dW_byteOf_50 : decode cW_byteOf 50 = .ok (.invokespecial 109, 3) := by decide +kernel
theorem dW_byteOf_53 : decode cW_byteOf 53 = .ok (.athrow, 1) := by decide +kernel
theorem dW_byteOf_54 : decode cW_byteOf 54 = .ok (.iload_n 2, 1) := by decide +kernel
theorem dW_byteOf_55 : decode cW_byteOf 55 = .ok (.invokestatic 166, 3) := by decide +kernel
theorem dW_byteOf_58 : decode cW_byteOf 58 = .ok (.ifCond .ne 13, 3) := by decide +kernel
theorem dW_byteOf_61 : decode cW_byteOf 61 = .ok (.new 114, 3) := by decide +kernel
theorem dW_byteOf_64 : decode cW_byteOf 64 = .ok (.dup, 1) := by decide +kernel
theorem dW_byteOf_65 : decode cW_byteOf 65 = .ok (.ldc 170, 2) := by decide +kernel
theorem dW_byteOf_67 : decode cW_byteOf 67 = .ok (.invokespecial 118, 3) := by decide +kernel
theorem dW_byteOf_70 : decode cW_byteOf 70 = .ok (.athrow, 1) := by decide +kernel
theorem dW_byteOf_71 : decode cW_byteOf 71 = .ok (.aload_n 3, 1) := by decide +kernel
theorem dW_byteOf_72 : decode cW_byteOf 72 = .ok (.iload_n 2, 1) := by decide +kernel
theorem dW_byteOf_73 : decode cW_byteOf 73 = .ok (.invokevirtual 172, 3) := by decide +kernel
theorem dW_byteOf_76 : decode cW_byteOf 76 = .ok (.ifCond .ne 13, 3) := by decide +kernel
theorem dW_byteOf_79 : decode cW_byteOf 79 = .ok (.new 136, 3) := by decide +kernel
theorem dW_byteOf_82 : decode cW_byteOf 82 = .ok (.dup, 1) := by decide +kernel
theorem dW_byteOf_83 : decode cW_byteOf 83 = .ok (.ldc 175, 2) := by decide +kernel
theorem dW_byteOf_85 : decode cW_byteOf 85 = .ok (.invokespecial 140, 3) := by decide +kernel
theorem dW_byteOf_88 : decode cW_byteOf 88 = .ok (.athrow, 1) := by decide +kernel
theorem dW_byteOf_89 : decode cW_byteOf 89 = .ok (.aload_n 3, 1) := by decide +kernel
theorem dW_byteOf_90 : decode cW_byteOf 90 = .ok (.getfield 177, 3) := by decide +kernel
theorem dW_byteOf_93 : decode cW_byteOf 93 = .ok (.getfield 180, 3) := by decide +kernel
theorem dW_byteOf_96 : decode cW_byteOf 96 = .ok (.ireturn, 1) := by decide +kernel
theorem dW_isKind_0 : decode cW_isKind 0 = .ok (.iconst 0, 1) := by decide +kernel
theorem dW_isKind_1 : decode cW_isKind 1 = .ok (.istore_n 1, 1) := by decide +kernel
theorem dW_isKind_2 : decode cW_isKind 2 = .ok (.iload_n 1, 1) := by decide +kernel
theorem dW_isKind_3 : decode cW_isKind 3 = .ok (.bipush 32, 2) := by decide +kernel
theorem dW_isKind_5 : decode cW_isKind 5 = .ok (.if_icmp .ge 31, 3) := by decide +kernel
theorem dW_isKind_8 : decode cW_isKind 8 = .ok (.iload_n 0, 1) := by decide +kernel
theorem dW_isKind_9 : decode cW_isKind 9 = .ok (.iload_n 1, 1) := by decide +kernel
theorem dW_isKind_10 : decode cW_isKind 10 = .ok (.iushr, 1) := by decide +kernel
theorem dW_isKind_11 : decode cW_isKind 11 = .ok (.sipush 255, 3) := by decide +kernel
theorem dW_isKind_14 : decode cW_isKind 14 = .ok (.iand, 1) := by decide +kernel
theorem dW_isKind_15 : decode cW_isKind 15 = .ok (.istore_n 2, 1) := by decide +kernel
theorem dW_isKind_16 : decode cW_isKind 16 = .ok (.iload_n 2, 1) := by decide +kernel
theorem dW_isKind_17 : decode cW_isKind 17 = .ok (.bipush 32, 2) := by decide +kernel
theorem dW_isKind_19 : decode cW_isKind 19 = .ok (.if_icmp .lt 9, 3) := by decide +kernel
theorem dW_isKind_22 : decode cW_isKind 22 = .ok (.iload_n 2, 1) := by decide +kernel
theorem dW_isKind_23 : decode cW_isKind 23 = .ok (.bipush 126, 2) := by decide +kernel
theorem dW_isKind_25 : decode cW_isKind 25 = .ok (.if_icmp .le 5, 3) := by decide +kernel
theorem dW_isKind_28 : decode cW_isKind 28 = .ok (.iconst 0, 1) := by decide +kernel
theorem dW_isKind_29 : decode cW_isKind 29 = .ok (.ireturn, 1) := by decide +kernel
theorem dW_isKind_30 : decode cW_isKind 30 = .ok (.iinc 1 8, 3) := by decide +kernel
theorem dW_isKind_33 : decode cW_isKind 33 = .ok (.goto (-31), 3) := by decide +kernel
theorem dW_isKind_36 : decode cW_isKind 36 = .ok (.iconst 1, 1) := by decide +kernel
theorem dW_isKind_37 : decode cW_isKind 37 = .ok (.ireturn, 1) := by decide +kernel
theorem dW_isOwnKind_0 : decode cW_isOwnKind 0 = .ok (.iload_n 0, 1) := by decide +kernel
theorem dW_isOwnKind_1 : decode cW_isOwnKind 1 = .ok (.ldc_w 329, 3) := by decide +kernel
theorem dW_isOwnKind_4 : decode cW_isOwnKind 4 = .ok (.if_icmp .eq 31, 3) := by decide +kernel
theorem dW_isOwnKind_7 : decode cW_isOwnKind 7 = .ok (.iload_n 0, 1) := by decide +kernel
theorem dW_isOwnKind_8 : decode cW_isOwnKind 8 = .ok (.ldc_w 330, 3) := by decide +kernel
theorem dW_isOwnKind_11 : decode cW_isOwnKind 11 = .ok (.if_icmp .eq 24, 3) := by decide +kernel
theorem dW_isOwnKind_14 : decode cW_isOwnKind 14 = .ok (.iload_n 0, 1) := by decide +kernel
theorem dW_isOwnKind_15 : decode cW_isOwnKind 15 = .ok (.ldc_w 331, 3) := by decide +kernel
theorem dW_isOwnKind_18 : decode cW_isOwnKind 18 = .ok (.if_icmp .eq 17, 3) := by decide +kernel
theorem dW_isOwnKind_21 : decode cW_isOwnKind 21 = .ok (.iload_n 0, 1) := by decide +kernel
theorem dW_isOwnKind_22 : decode cW_isOwnKind 22 = .ok (.ldc_w 332, 3) := by decide +kernel
theorem dW_isOwnKind_25 : decode cW_isOwnKind 25 = .ok (.if_icmp .eq 10, 3) := by decide +kernel
theorem dW_isOwnKind_28 : decode cW_isOwnKind 28 = .ok (.iload_n 0, 1) := by decide +kernel
theorem dW_isOwnKind_29 : decode cW_isOwnKind 29 = .ok (.ldc_w 333, 3) := by decide +kernel
theorem dW_isOwnKind_32 : decode cW_isOwnKind 32 = .ok (.if_icmp .ne 7, 3) := by decide +kernel
theorem dW_isOwnKind_35 : decode cW_isOwnKind 35 = .ok (.iconst 1, 1) := by decide +kernel
theorem dW_isOwnKind_36 : decode cW_isOwnKind 36 = .ok (.goto 4, 3) := by decide +kernel
theorem dW_isOwnKind_39 : decode cW_isOwnKind 39 = .ok (.iconst 0, 1) := by decide +kernel
theorem dW_isOwnKind_40 : decode cW_isOwnKind 40 = .ok (.ireturn, 1) := by decide +kernel
theorem dW_box_0 : decode cW_box 0 = .ok (.iload_n 2, 1) := by decide +kernel
theorem dW_box_1 : decode cW_box 1 = .ok (.invokestatic 183, 3) := by decide +kernel
theorem dW_box_4 : decode cW_box 4 = .ok (.ifCond .eq 10, 3) := by decide +kernel
theorem dW_box_7 : decode cW_box 7 = .ok (.iload_n 2, 1) := by decide +kernel
theorem dW_box_8 : decode cW_box 8 = .ok (.invokestatic 186, 3) := by decide +kernel
theorem dW_box_11 : decode cW_box 11 = .ok (.ifCond .eq 13, 3) := by decide +kernel
theorem dW_box_14 : decode cW_box 14 = .ok (.new 114, 3) := by decide +kernel
theorem dW_box_17 : decode cW_box 17 = .ok (.dup, 1) := by decide +kernel
theorem dW_box_18 : decode cW_box 18 = .ok (.ldc 189, 2) := by decide +kernel
theorem dW_box_20 : decode cW_box 20 = .ok (.invokespecial 118, 3) := by decide +kernel
theorem dW_box_23 : decode cW_box 23 = .ok (.athrow, 1) := by decide +kernel
theorem dW_box_24 : decode cW_box 24 = .ok (.aload_n 0, 1) := by decide +kernel
theorem dW_box_25 : decode cW_box 25 = .ok (.getfield 23, 3) := by decide +kernel
theorem dW_box_28 : decode cW_box 28 = .ok (.invokevirtual 133, 3) := by decide +kernel
theorem dW_box_31 : decode cW_box 31 = .ok (.bipush 8, 2) := by decide +kernel
theorem dW_box_33 : decode cW_box 33 = .ok (.if_icmp .lt 13, 3) := by decide +kernel
theorem dW_box_36 : decode cW_box 36 = .ok (.new 136, 3) := by decide +kernel
theorem dW_box_39 : decode cW_box 39 = .ok (.dup, 1) := by decide +kernel
theorem dW_box_40 : decode cW_box 40 = .ok (.ldc 191, 2) := by decide +kernel
theorem dW_box_42 : decode cW_box 42 = .ok (.invokespecial 140, 3) := by decide +kernel
theorem dW_box_45 : decode cW_box 45 = .ok (.athrow, 1) := by decide +kernel
theorem dW_box_46 : decode cW_box 46 = .ok (.aload_n 0, 1) := by decide +kernel
theorem dW_box_47 : decode cW_box 47 = .ok (.getfield 23, 3) := by decide +kernel
theorem dW_box_50 : decode cW_box 50 = .ok (.new 193, 3) := by decide +kernel
theorem dW_box_53 : decode cW_box 53 = .ok (.dup, 1) := by decide +kernel
theorem dW_box_54 : decode cW_box 54 = .ok (.iload_n 1, 1) := by decide +kernel
theorem dW_box_55 : decode cW_box 55 = .ok (.iload_n 2, 1) := by decide +kernel
theorem dW_box_56 : decode cW_box 56 = .ok (.invokespecial 195, 3) := by decide +kernel
theorem dW_box_59 : decode cW_box 59 = .ok (.invokevirtual 148, 3) := by decide +kernel
theorem dW_box_62 : decode cW_box 62 = .ok (.pop, 1) := by decide +kernel
theorem dW_box_63 : decode cW_box 63 = .ok (.aload_n 0, 1) := by decide +kernel
theorem dW_box_64 : decode cW_box 64 = .ok (.getfield 23, 3) := by decide +kernel
theorem dW_box_67 : decode cW_box 67 = .ok (.invokevirtual 133, 3) := by decide +kernel
theorem dW_box_70 : decode cW_box 70 = .ok (.iconst 1, 1) := by decide +kernel
theorem dW_box_71 : decode cW_box 71 = .ok (.isub, 1) := by decide +kernel
theorem dW_box_72 : decode cW_box 72 = .ok (.ireturn, 1) := by decide +kernel
theorem dW_boxByte_0 : decode cW_boxByte 0 = .ok (.iload_n 1, 1) := by decide +kernel
theorem dW_boxByte_1 : decode cW_boxByte 1 = .ok (.ifCond .lt 14, 3) := by decide +kernel
theorem dW_boxByte_4 : decode cW_boxByte 4 = .ok (.iload_n 1, 1) := by decide +kernel
theorem dW_boxByte_5 : decode cW_boxByte 5 = .ok (.aload_n 0, 1) := by decide +kernel
theorem dW_boxByte_6 : decode cW_boxByte 6 = .ok (.getfield 23, 3) := by decide +kernel
theorem dW_boxByte_9 : decode cW_boxByte 9 = .ok (.invokevirtual 133, 3) := by decide +kernel
theorem dW_boxByte_12 : decode cW_boxByte 12 = .ok (.if_icmp .lt 13, 3) := by decide +kernel
theorem dW_boxByte_15 : decode cW_boxByte 15 = .ok (.new 91, 3) := by decide +kernel
theorem dW_boxByte_18 : decode cW_boxByte 18 = .ok (.dup, 1) := by decide +kernel
theorem dW_boxByte_19 : decode cW_boxByte 19 = .ok (.ldc 198, 2) := by decide +kernel
theorem dW_boxByte_21 : decode cW_boxByte 21 = .ok (.invokespecial 95, 3) := by decide +kernel
theorem dW_boxByte_24 : decode cW_boxByte 24 = .ok (.athrow, 1) := by decide +kernel
theorem dW_boxByte_25 : decode cW_boxByte 25 = .ok (.iload_n 2, 1) := by decide +kernel
theorem dW_boxByte_26 : decode cW_boxByte 26 = .ok (.invokestatic 166, 3) := by decide +kernel
theorem dW_boxByte_29 : decode cW_boxByte 29 = .ok (.ifCond .ne 13, 3) := by decide +kernel
theorem dW_boxByte_32 : decode cW_boxByte 32 = .ok (.new 114, 3) := by decide +kernel
theorem dW_boxByte_35 : decode cW_boxByte 35 = .ok (.dup, 1) := by decide +kernel
theorem dW_boxByte_36 : decode cW_boxByte 36 = .ok (.ldc 170, 2) := by decide +kernel
theorem dW_boxByte_38 : decode cW_boxByte 38 = .ok (.invokespecial 118, 3) := by decide +kernel
theorem dW_boxByte_41 : decode cW_boxByte 41 = .ok (.athrow, 1) := by decide +kernel
theorem dW_boxByte_42 : decode cW_boxByte 42 = .ok (.aload_n 0, 1) := by decide +kernel
theorem dW_boxByte_43 : decode cW_boxByte 43 = .ok (.getfield 23, 3) := by decide +kernel
theorem dW_boxByte_46 : decode cW_boxByte 46 = .ok (.iload_n 1, 1) := by decide +kernel
theorem dW_boxByte_47 : decode cW_boxByte 47 = .ok (.invokevirtual 154, 3) := by decide +kernel
theorem dW_boxByte_50 : decode cW_boxByte 50 = .ok (.checkcast 193, 3) := by decide +kernel
theorem dW_boxByte_53 : decode cW_boxByte 53 = .ok (.getfield 200, 3) := by decide +kernel
theorem dW_boxByte_56 : decode cW_boxByte 56 = .ok (.astore_n 3, 1) := by decide +kernel
theorem dW_boxByte_57 : decode cW_boxByte 57 = .ok (.aload_n 3, 1) := by decide +kernel
theorem dW_boxByte_58 : decode cW_boxByte 58 = .ok (.iload_n 2, 1) := by decide +kernel
theorem dW_boxByte_59 : decode cW_boxByte 59 = .ok (.invokevirtual 201, 3) := by decide +kernel
theorem dW_boxByte_62 : decode cW_boxByte 62 = .ok (.ifCond .ne 13, 3) := by decide +kernel
theorem dW_boxByte_65 : decode cW_boxByte 65 = .ok (.new 136, 3) := by decide +kernel
theorem dW_boxByte_68 : decode cW_boxByte 68 = .ok (.dup, 1) := by decide +kernel
theorem dW_boxByte_69 : decode cW_boxByte 69 = .ok (.ldc 175, 2) := by decide +kernel
theorem dW_boxByte_71 : decode cW_boxByte 71 = .ok (.invokespecial 140, 3) := by decide +kernel
theorem dW_boxByte_74 : decode cW_boxByte 74 = .ok (.athrow, 1) := by decide +kernel
theorem dW_boxByte_75 : decode cW_boxByte 75 = .ok (.aload_n 3, 1) := by decide +kernel
theorem dW_boxByte_76 : decode cW_boxByte 76 = .ok (.getfield 180, 3) := by decide +kernel
theorem dW_boxByte_79 : decode cW_boxByte 79 = .ok (.ireturn, 1) := by decide +kernel
theorem dW_write_0 : decode cW_write 0 = .ok (.aload_n 0, 1) := by decide +kernel
theorem dW_write_1 : decode cW_write 1 = .ok (.getfield 29, 3) := by decide +kernel
theorem dW_write_4 : decode cW_write 4 = .ok (.invokevirtual 204, 3) := by decide +kernel
theorem dW_write_7 : decode cW_write 7 = .ok (.aload_n 0, 1) := by decide +kernel
theorem dW_write_8 : decode cW_write 8 = .ok (.getfield 29, 3) := by decide +kernel
theorem dW_write_11 : decode cW_write 11 = .ok (.aload_n 0, 1) := by decide +kernel
theorem dW_write_12 : decode cW_write 12 = .ok (.getfield 10, 3) := by decide +kernel
theorem dW_write_15 : decode cW_write 15 = .ok (.aload_n 0, 1) := by decide +kernel
theorem dW_write_16 : decode cW_write 16 = .ok (.getfield 23, 3) := by decide +kernel
theorem dW_write_19 : decode cW_write 19 = .ok (.invokevirtual 207, 3) := by decide +kernel
theorem dW_write_22 : decode cW_write 22 = .ok (.aload_n 0, 1) := by decide +kernel
theorem dW_write_23 : decode cW_write 23 = .ok (.getfield 29, 3) := by decide +kernel
theorem dW_write_26 : decode cW_write 26 = .ok (.aload_n 0, 1) := by decide +kernel
theorem dW_write_27 : decode cW_write 27 = .ok (.getfield 23, 3) := by decide +kernel
theorem dW_write_30 : decode cW_write 30 = .ok (.iconst 0, 1) := by decide +kernel
theorem dW_write_31 : decode cW_write 31 = .ok (.invokevirtual 211, 3) := by decide +kernel
theorem dW_write_34 : decode cW_write 34 = .ok (.aload_n 0, 1) := by decide +kernel
theorem dW_write_35 : decode cW_write 35 = .ok (.getfield 29, 3) := by decide +kernel
theorem dW_write_38 : decode cW_write 38 = .ok (.aload_n 0, 1) := by decide +kernel
theorem dW_write_39 : decode cW_write 39 = .ok (.getfield 10, 3) := by decide +kernel
theorem dW_write_42 : decode cW_write 42 = .ok (.aload_n 0, 1) := by decide +kernel
theorem dW_write_43 : decode cW_write 43 = .ok (.getfield 19, 3) := by decide +kernel
theorem dW_write_46 : decode cW_write 46 = .ok (.invokevirtual 215, 3) := by decide +kernel
theorem dW_write_49 : decode cW_write 49 = .ok (.aload_n 0, 1) := by decide +kernel
theorem dW_write_50 : decode cW_write 50 = .ok (.getfield 29, 3) := by decide +kernel
theorem dW_write_53 : decode cW_write 53 = .ok (.getfield 218, 3) := by decide +kernel
theorem dW_write_56 : decode cW_write 56 = .ok (.getfield 180, 3) := by decide +kernel
theorem dW_write_59 : decode cW_write 59 = .ok (.ireturn, 1) := by decide +kernel
theorem dW_byteAt_0 : decode cW_byteAt 0 = .ok (.iload_n 1, 1) := by decide +kernel
theorem dW_byteAt_1 : decode cW_byteAt 1 = .ok (.ifCond .lt 17, 3) := by decide +kernel
theorem dW_byteAt_4 : decode cW_byteAt 4 = .ok (.iload_n 1, 1) := by decide +kernel
theorem dW_byteAt_5 : decode cW_byteAt 5 = .ok (.aload_n 0, 1) := by decide +kernel
theorem dW_byteAt_6 : decode cW_byteAt 6 = .ok (.getfield 29, 3) := by decide +kernel
theorem dW_byteAt_9 : decode cW_byteAt 9 = .ok (.getfield 218, 3) := by decide +kernel
theorem dW_byteAt_12 : decode cW_byteAt 12 = .ok (.getfield 180, 3) := by decide +kernel
theorem dW_byteAt_15 : decode cW_byteAt 15 = .ok (.if_icmp .lt 13, 3) := by decide +kernel
theorem dW_byteAt_18 : decode cW_byteAt 18 = .ok (.new 91, 3) := by decide +kernel
theorem dW_byteAt_21 : decode cW_byteAt 21 = .ok (.dup, 1) := by decide +kernel
theorem dW_byteAt_22 : decode cW_byteAt 22 = .ok (.ldc 221, 2) := by decide +kernel
theorem dW_byteAt_24 : decode cW_byteAt 24 = .ok (.invokespecial 95, 3) := by decide +kernel
theorem dW_byteAt_27 : decode cW_byteAt 27 = .ok (.athrow, 1) := by decide +kernel
theorem dW_byteAt_28 : decode cW_byteAt 28 = .ok (.aload_n 0, 1) := by decide +kernel
theorem dW_byteAt_29 : decode cW_byteAt 29 = .ok (.getfield 29, 3) := by decide +kernel
theorem dW_byteAt_32 : decode cW_byteAt 32 = .ok (.getfield 218, 3) := by decide +kernel
theorem dW_byteAt_35 : decode cW_byteAt 35 = .ok (.iload_n 1, 1) := by decide +kernel
theorem dW_byteAt_36 : decode cW_byteAt 36 = .ok (.invokevirtual 223, 3) := by decide +kernel
theorem dW_byteAt_39 : decode cW_byteAt 39 = .ok (.ireturn, 1) := by decide +kernel
theorem dW_feed_0 : decode cW_feed 0 = .ok (.iload_n 1, 1) := by decide +kernel
theorem dW_feed_1 : decode cW_feed 1 = .ok (.invokestatic 166, 3) := by decide +kernel
theorem dW_feed_4 : decode cW_feed 4 = .ok (.ifCond .ne 13, 3) := by decide +kernel
theorem dW_feed_7 : decode cW_feed 7 = .ok (.new 114, 3) := by decide +kernel
theorem dW_feed_10 : decode cW_feed 10 = .ok (.dup, 1) := by decide +kernel
theorem dW_feed_11 : decode cW_feed 11 = .ok (.ldc 170, 2) := by decide +kernel
theorem dW_feed_13 : decode cW_feed 13 = .ok (.invokespecial 118, 3) := by decide +kernel
theorem dW_feed_16 : decode cW_feed 16 = .ok (.athrow, 1) := by decide +kernel
theorem dW_feed_17 : decode cW_feed 17 = .ok (.aload_n 0, 1) := by decide +kernel
theorem dW_feed_18 : decode cW_feed 18 = .ok (.getfield 38, 3) := by decide +kernel
theorem dW_feed_21 : decode cW_feed 21 = .ok (.iload_n 1, 1) := by decide +kernel
theorem dW_feed_22 : decode cW_feed 22 = .ok (.invokevirtual 201, 3) := by decide +kernel
theorem dW_feed_25 : decode cW_feed 25 = .ok (.ifCond .ne 13, 3) := by decide +kernel
theorem dW_feed_28 : decode cW_feed 28 = .ok (.new 136, 3) := by decide +kernel
theorem dW_feed_31 : decode cW_feed 31 = .ok (.dup, 1) := by decide +kernel
theorem dW_feed_32 : decode cW_feed 32 = .ok (.ldc 175, 2) := by decide +kernel
theorem dW_feed_34 : decode cW_feed 34 = .ok (.invokespecial 140, 3) := by decide +kernel
theorem dW_feed_37 : decode cW_feed 37 = .ok (.athrow, 1) := by decide +kernel
theorem dW_feed_38 : decode cW_feed 38 = .ok (.aload_n 0, 1) := by decide +kernel
theorem dW_feed_39 : decode cW_feed 39 = .ok (.getfield 38, 3) := by decide +kernel
theorem dW_feed_42 : decode cW_feed 42 = .ok (.getfield 180, 3) := by decide +kernel
theorem dW_feed_45 : decode cW_feed 45 = .ok (.ireturn, 1) := by decide +kernel
theorem dW_pass_0 : decode cW_pass 0 = .ok (.iload_n 1, 1) := by decide +kernel
theorem dW_pass_1 : decode cW_pass 1 = .ok (.ifCond .lt 17, 3) := by decide +kernel
theorem dW_pass_4 : decode cW_pass 4 = .ok (.iload_n 1, 1) := by decide +kernel
theorem dW_pass_5 : decode cW_pass 5 = .ok (.aload_n 0, 1) := by decide +kernel
theorem dW_pass_6 : decode cW_pass 6 = .ok (.getfield 29, 3) := by decide +kernel
theorem dW_pass_9 : decode cW_pass 9 = .ok (.getfield 218, 3) := by decide +kernel
theorem dW_pass_12 : decode cW_pass 12 = .ok (.getfield 180, 3) := by decide +kernel
theorem dW_pass_15 : decode cW_pass 15 = .ok (.if_icmp .lt 13, 3) := by decide +kernel
theorem dW_pass_18 : decode cW_pass 18 = .ok (.new 91, 3) := by decide +kernel
theorem dW_pass_21 : decode cW_pass 21 = .ok (.dup, 1) := by decide +kernel
theorem dW_pass_22 : decode cW_pass 22 = .ok (.ldc 221, 2) := by decide +kernel
theorem dW_pass_24 : decode cW_pass 24 = .ok (.invokespecial 95, 3) := by decide +kernel
theorem dW_pass_27 : decode cW_pass 27 = .ok (.athrow, 1) := by decide +kernel
theorem dW_pass_28 : decode cW_pass 28 = .ok (.iload_n 2, 1) := by decide +kernel
theorem dW_pass_29 : decode cW_pass 29 = .ok (.ifCond .ge 13, 3) := by decide +kernel
theorem dW_pass_32 : decode cW_pass 32 = .ok (.new 114, 3) := by decide +kernel
theorem dW_pass_35 : decode cW_pass 35 = .ok (.dup, 1) := by decide +kernel
theorem dW_pass_36 : decode cW_pass 36 = .ok (.ldc 225, 2) := by decide +kernel
theorem dW_pass_38 : decode cW_pass 38 = .ok (.invokespecial 118, 3) := by decide +kernel
theorem dW_pass_41 : decode cW_pass 41 = .ok (.athrow, 1) := by decide +kernel
theorem dW_pass_42 : decode cW_pass 42 = .ok (.iload_n 2, 1) := by decide +kernel
theorem dW_pass_43 : decode cW_pass 43 = .ok (.aload_n 0, 1) := by decide +kernel
theorem dW_pass_44 : decode cW_pass 44 = .ok (.getfield 29, 3) := by decide +kernel
theorem dW_pass_47 : decode cW_pass 47 = .ok (.getfield 218, 3) := by decide +kernel
theorem dW_pass_50 : decode cW_pass 50 = .ok (.getfield 180, 3) := by decide +kernel
theorem dW_pass_53 : decode cW_pass 53 = .ok (.iload_n 1, 1) := by decide +kernel
theorem dW_pass_54 : decode cW_pass 54 = .ok (.isub, 1) := by decide +kernel
theorem dW_pass_55 : decode cW_pass 55 = .ok (.invokestatic 227, 3) := by decide +kernel
theorem dW_pass_58 : decode cW_pass 58 = .ok (.istore_n 3, 1) := by decide +kernel
theorem dW_pass_59 : decode cW_pass 59 = .ok (.iload_n 3, 1) := by decide +kernel
theorem dW_pass_60 : decode cW_pass 60 = .ok (.sipush 20000, 3) := by decide +kernel
theorem dW_pass_63 : decode cW_pass 63 = .ok (.aload_n 0, 1) := by decide +kernel
theorem dW_pass_64 : decode cW_pass 64 = .ok (.getfield 38, 3) := by decide +kernel
theorem dW_pass_67 : decode cW_pass 67 = .ok (.getfield 180, 3) := by decide +kernel
theorem dW_pass_70 : decode cW_pass 70 = .ok (.isub, 1) := by decide +kernel
theorem dW_pass_71 : decode cW_pass 71 = .ok (.if_icmp .le 13, 3) := by decide +kernel
theorem dW_pass_74 : decode cW_pass 74 = .ok (.new 136, 3) := by decide +kernel
theorem dW_pass_77 : decode cW_pass 77 = .ok (.dup, 1) := by decide +kernel
theorem dW_pass_78 : decode cW_pass 78 = .ok (.ldc 233, 2) := by decide +kernel
theorem dW_pass_80 : decode cW_pass 80 = .ok (.invokespecial 140, 3) := by decide +kernel
theorem dW_pass_83 : decode cW_pass 83 = .ok (.athrow, 1) := by decide +kernel
theorem dW_pass_84 : decode cW_pass 84 = .ok (.iconst 0, 1) := by decide +kernel
theorem dW_pass_85 : decode cW_pass 85 = .ok (.istore 4, 2) := by decide +kernel
theorem dW_pass_87 : decode cW_pass 87 = .ok (.iload 4, 2) := by decide +kernel
theorem dW_pass_89 : decode cW_pass 89 = .ok (.iload_n 3, 1) := by decide +kernel
theorem dW_pass_90 : decode cW_pass 90 = .ok (.if_icmp .ge 31, 3) := by decide +kernel
theorem dW_pass_93 : decode cW_pass 93 = .ok (.aload_n 0, 1) := by decide +kernel
theorem dW_pass_94 : decode cW_pass 94 = .ok (.getfield 38, 3) := by decide +kernel
theorem dW_pass_97 : decode cW_pass 97 = .ok (.aload_n 0, 1) := by decide +kernel
theorem dW_pass_98 : decode cW_pass 98 = .ok (.getfield 29, 3) := by decide +kernel
theorem dW_pass_101 : decode cW_pass 101 = .ok (.getfield 218, 3) := by decide +kernel
theorem dW_pass_104 : decode cW_pass 104 = .ok (.iload_n 1, 1) := by decide +kernel
theorem dW_pass_105 : decode cW_pass 105 = .ok (.iload 4, 2) := by decide +kernel
theorem dW_pass_107 : decode cW_pass 107 = .ok (.iadd, 1) := by decide +kernel
theorem dW_pass_108 : decode cW_pass 108 = .ok (.invokevirtual 223, 3) := by decide +kernel
theorem dW_pass_111 : decode cW_pass 111 = .ok (.invokevirtual 201, 3) := by decide +kernel
theorem dW_pass_114 : decode cW_pass 114 = .ok (.pop, 1) := by decide +kernel
theorem dW_pass_115 : decode cW_pass 115 = .ok (.iinc 4 1, 3) := by decide +kernel
theorem dW_pass_118 : decode cW_pass 118 = .ok (.goto (-31), 3) := by decide +kernel
theorem dW_pass_121 : decode cW_pass 121 = .ok (.iload_n 3, 1) := by decide +kernel
theorem dW_pass_122 : decode cW_pass 122 = .ok (.ireturn, 1) := by decide +kernel
theorem dW_alter_0 : decode cW_alter 0 = .ok (.iload_n 1, 1) := by decide +kernel
theorem dW_alter_1 : decode cW_alter 1 = .ok (.ifCond .lt 14, 3) := by decide +kernel
theorem dW_alter_4 : decode cW_alter 4 = .ok (.iload_n 1, 1) := by decide +kernel
theorem dW_alter_5 : decode cW_alter 5 = .ok (.aload_n 0, 1) := by decide +kernel
theorem dW_alter_6 : decode cW_alter 6 = .ok (.getfield 38, 3) := by decide +kernel
theorem dW_alter_9 : decode cW_alter 9 = .ok (.getfield 180, 3) := by decide +kernel
theorem dW_alter_12 : decode cW_alter 12 = .ok (.if_icmp .lt 13, 3) := by decide +kernel
theorem dW_alter_15 : decode cW_alter 15 = .ok (.new 91, 3) := by decide +kernel
theorem dW_alter_18 : decode cW_alter 18 = .ok (.dup, 1) := by decide +kernel
theorem dW_alter_19 : decode cW_alter 19 = .ok (.ldc 221, 2) := by decide +kernel
theorem dW_alter_21 : decode cW_alter 21 = .ok (.invokespecial 95, 3) := by decide +kernel
theorem dW_alter_24 : decode cW_alter 24 = .ok (.athrow, 1) := by decide +kernel
theorem dW_alter_25 : decode cW_alter 25 = .ok (.iload_n 2, 1) := by decide +kernel
theorem dW_alter_26 : decode cW_alter 26 = .ok (.invokestatic 166, 3) := by decide +kernel
theorem dW_alter_29 : decode cW_alter 29 = .ok (.ifCond .ne 13, 3) := by decide +kernel
theorem dW_alter_32 : decode cW_alter 32 = .ok (.new 114, 3) := by decide +kernel
theorem dW_alter_35 : decode cW_alter 35 = .ok (.dup, 1) := by decide +kernel
theorem dW_alter_36 : decode cW_alter 36 = .ok (.ldc 170, 2) := by decide +kernel
theorem dW_alter_38 : decode cW_alter 38 = .ok (.invokespecial 118, 3) := by decide +kernel
theorem dW_alter_41 : decode cW_alter 41 = .ok (.athrow, 1) := by decide +kernel
theorem dW_alter_42 : decode cW_alter 42 = .ok (.aload_n 0, 1) := by decide +kernel
theorem dW_alter_43 : decode cW_alter 43 = .ok (.getfield 38, 3) := by decide +kernel
theorem dW_alter_46 : decode cW_alter 46 = .ok (.iload_n 1, 1) := by decide +kernel
theorem dW_alter_47 : decode cW_alter 47 = .ok (.invokevirtual 223, 3) := by decide +kernel
theorem dW_alter_50 : decode cW_alter 50 = .ok (.istore_n 3, 1) := by decide +kernel
theorem dW_alter_51 : decode cW_alter 51 = .ok (.aload_n 0, 1) := by decide +kernel
theorem dW_alter_52 : decode cW_alter 52 = .ok (.getfield 38, 3) := by decide +kernel
theorem dW_alter_55 : decode cW_alter 55 = .ok (.iload_n 1, 1) := by decide +kernel
theorem dW_alter_56 : decode cW_alter 56 = .ok (.iload_n 2, 1) := by decide +kernel
theorem dW_alter_57 : decode cW_alter 57 = .ok (.invokevirtual 235, 3) := by decide +kernel
theorem dW_alter_60 : decode cW_alter 60 = .ok (.iload_n 3, 1) := by decide +kernel
theorem dW_alter_61 : decode cW_alter 61 = .ok (.ireturn, 1) := by decide +kernel
theorem dW_cut_0 : decode cW_cut 0 = .ok (.iload_n 1, 1) := by decide +kernel
theorem dW_cut_1 : decode cW_cut 1 = .ok (.ifCond .ge 13, 3) := by decide +kernel
theorem dW_cut_4 : decode cW_cut 4 = .ok (.new 114, 3) := by decide +kernel
theorem dW_cut_7 : decode cW_cut 7 = .ok (.dup, 1) := by decide +kernel
theorem dW_cut_8 : decode cW_cut 8 = .ok (.ldc 225, 2) := by decide +kernel
theorem dW_cut_10 : decode cW_cut 10 = .ok (.invokespecial 118, 3) := by decide +kernel
theorem dW_cut_13 : decode cW_cut 13 = .ok (.athrow, 1) := by decide +kernel
theorem dW_cut_14 : decode cW_cut 14 = .ok (.aload_n 0, 1) := by decide +kernel
theorem dW_cut_15 : decode cW_cut 15 = .ok (.getfield 38, 3) := by decide +kernel
theorem dW_cut_18 : decode cW_cut 18 = .ok (.iload_n 1, 1) := by decide +kernel
theorem dW_cut_19 : decode cW_cut 19 = .ok (.aload_n 0, 1) := by decide +kernel
theorem dW_cut_20 : decode cW_cut 20 = .ok (.getfield 38, 3) := by decide +kernel
theorem dW_cut_23 : decode cW_cut 23 = .ok (.getfield 180, 3) := by decide +kernel
theorem dW_cut_26 : decode cW_cut 26 = .ok (.invokestatic 227, 3) := by decide +kernel
theorem dW_cut_29 : decode cW_cut 29 = .ok (.putfield 180, 3) := by decide +kernel
theorem dW_cut_32 : decode cW_cut 32 = .ok (.aload_n 0, 1) := by decide +kernel
theorem dW_cut_33 : decode cW_cut 33 = .ok (.getfield 38, 3) := by decide +kernel
theorem dW_cut_36 : decode cW_cut 36 = .ok (.getfield 180, 3) := by decide +kernel
theorem dW_cut_39 : decode cW_cut 39 = .ok (.ireturn, 1) := by decide +kernel
theorem dW_forgetReading_0 : decode cW_forgetReading 0 = .ok (.aload_n 0, 1) := by decide +kernel
theorem dW_forgetReading_1 : decode cW_forgetReading 1 = .ok (.iconst 0, 1) := by decide +kernel
theorem dW_forgetReading_2 : decode cW_forgetReading 2 = .ok (.putfield 75, 3) := by decide +kernel
theorem dW_forgetReading_5 : decode cW_forgetReading 5 = .ok (.aload_n 0, 1) := by decide +kernel
theorem dW_forgetReading_6 : decode cW_forgetReading 6 = .ok (.getfield 53, 3) := by decide +kernel
theorem dW_forgetReading_9 : decode cW_forgetReading 9 = .ok (.invokevirtual 310, 3) := by decide +kernel
theorem dW_forgetReading_12 : decode cW_forgetReading 12 = .ok (.aload_n 0, 1) := by decide +kernel
theorem dW_forgetReading_13 : decode cW_forgetReading 13 = .ok (.getfield 45, 3) := by decide +kernel
theorem dW_forgetReading_16 : decode cW_forgetReading 16 = .ok (.invokevirtual 313, 3) := by decide +kernel
theorem dW_forgetReading_19 : decode cW_forgetReading 19 = .ok (.aload_n 0, 1) := by decide +kernel
theorem dW_forgetReading_20 : decode cW_forgetReading 20 = .ok (.getfield 71, 3) := by decide +kernel
theorem dW_forgetReading_23 : decode cW_forgetReading 23 = .ok (.invokevirtual 316, 3) := by decide +kernel
theorem dW_forgetReading_26 : decode cW_forgetReading 26 = .ok (.return_, 1) := by decide +kernel
theorem dW_read_0 : decode cW_read 0 = .ok (.aload_n 0, 1) := by decide +kernel
theorem dW_read_1 : decode cW_read 1 = .ok (.invokevirtual 238, 3) := by decide +kernel
theorem dW_read_4 : decode cW_read 4 = .ok (.aload_n 0, 1) := by decide +kernel
theorem dW_read_5 : decode cW_read 5 = .ok (.getfield 42, 3) := by decide +kernel
theorem dW_read_8 : decode cW_read 8 = .ok (.aload_n 0, 1) := by decide +kernel
theorem dW_read_9 : decode cW_read 9 = .ok (.getfield 38, 3) := by decide +kernel
theorem dW_read_12 : decode cW_read 12 = .ok (.invokevirtual 241, 3) := by decide +kernel
theorem dW_read_15 : decode cW_read 15 = .ok (.aload_n 0, 1) := by decide +kernel
theorem dW_read_16 : decode cW_read 16 = .ok (.getfield 53, 3) := by decide +kernel
theorem dW_read_19 : decode cW_read 19 = .ok (.invokevirtual 244, 3) := by decide +kernel
theorem dW_read_22 : decode cW_read 22 = .ok (.istore_n 1, 1) := by decide +kernel
theorem dW_read_23 : decode cW_read 23 = .ok (.iload_n 1, 1) := by decide +kernel
theorem dW_read_24 : decode cW_read 24 = .ok (.iconst (-1), 1) := by decide +kernel
theorem dW_read_25 : decode cW_read 25 = .ok (.if_icmp .ne 25, 3) := by decide +kernel
theorem dW_read_28 : decode cW_read 28 = .ok (.aload_n 0, 1) := by decide +kernel
theorem dW_read_29 : decode cW_read 29 = .ok (.getfield 62, 3) := by decide +kernel
theorem dW_read_32 : decode cW_read 32 = .ok (.aload_n 0, 1) := by decide +kernel
theorem dW_read_33 : decode cW_read 33 = .ok (.getfield 53, 3) := by decide +kernel
theorem dW_read_36 : decode cW_read 36 = .ok (.getfield 247, 3) := by decide +kernel
theorem dW_read_39 : decode cW_read 39 = .ok (.aload_n 0, 1) := by decide +kernel
theorem dW_read_40 : decode cW_read 40 = .ok (.getfield 53, 3) := by decide +kernel
theorem dW_read_43 : decode cW_read 43 = .ok (.getfield 250, 3) := by decide +kernel
theorem dW_read_46 : decode cW_read 46 = .ok (.invokevirtual 253, 3) := by decide +kernel
theorem dW_read_49 : decode cW_read 49 = .ok (.istore_n 1, 1) := by decide +kernel
theorem dW_read_50 : decode cW_read 50 = .ok (.iload_n 1, 1) := by decide +kernel
theorem dW_read_51 : decode cW_read 51 = .ok (.iconst (-1), 1) := by decide +kernel
theorem dW_read_52 : decode cW_read 52 = .ok (.if_icmp .eq 7, 3) := by decide +kernel
theorem dW_read_55 : decode cW_read 55 = .ok (.iconst (-1), 1) := by decide +kernel
theorem dW_read_56 : decode cW_read 56 = .ok (.iload_n 1, 1) := by decide +kernel
theorem dW_read_57 : decode cW_read 57 = .ok (.isub, 1) := by decide +kernel
theorem dW_read_58 : decode cW_read 58 = .ok (.ireturn, 1) := by decide +kernel
theorem dW_read_59 : decode cW_read 59 = .ok (.aload_n 0, 1) := by decide +kernel
theorem dW_read_60 : decode cW_read 60 = .ok (.getfield 71, 3) := by decide +kernel
theorem dW_read_63 : decode cW_read 63 = .ok (.aload_n 0, 1) := by decide +kernel
theorem dW_read_64 : decode cW_read 64 = .ok (.getfield 62, 3) := by decide +kernel
theorem dW_read_67 : decode cW_read 67 = .ok (.getfield 256, 3) := by decide +kernel
theorem dW_read_70 : decode cW_read 70 = .ok (.aload_n 0, 1) := by decide +kernel
theorem dW_read_71 : decode cW_read 71 = .ok (.getfield 53, 3) := by decide +kernel
theorem dW_read_74 : decode cW_read 74 = .ok (.getfield 250, 3) := by decide +kernel
theorem dW_read_77 : decode cW_read 77 = .ok (.invokevirtual 259, 3) := by decide +kernel
theorem dW_read_80 : decode cW_read 80 = .ok (.aload_n 0, 1) := by decide +kernel
theorem dW_read_81 : decode cW_read 81 = .ok (.iconst 1, 1) := by decide +kernel
theorem dW_read_82 : decode cW_read 82 = .ok (.putfield 75, 3) := by decide +kernel
theorem dW_read_85 : decode cW_read 85 = .ok (.aload_n 0, 1) := by decide +kernel
theorem dW_read_86 : decode cW_read 86 = .ok (.getfield 71, 3) := by decide +kernel
theorem dW_read_89 : decode cW_read 89 = .ok (.getfield 262, 3) := by decide +kernel
theorem dW_read_92 : decode cW_read 92 = .ok (.ireturn, 1) := by decide +kernel
theorem dW_canBeAsked_0 : decode cW_canBeAsked 0 = .ok (.iload_n 1, 1) := by decide +kernel
theorem dW_canBeAsked_1 : decode cW_canBeAsked 1 = .ok (.ifCond .lt 9, 3) := by decide +kernel
theorem dW_canBeAsked_4 : decode cW_canBeAsked 4 = .ok (.iload_n 1, 1) := by decide +kernel
theorem dW_canBeAsked_5 : decode cW_canBeAsked 5 = .ok (.bipush 11, 2) := by decide +kernel
theorem dW_canBeAsked_7 : decode cW_canBeAsked 7 = .ok (.if_icmp .le 5, 3) := by decide +kernel
theorem dW_canBeAsked_10 : decode cW_canBeAsked 10 = .ok (.iconst 0, 1) := by decide +kernel
theorem dW_canBeAsked_11 : decode cW_canBeAsked 11 = .ok (.ireturn, 1) := by decide +kernel
theorem dW_canBeAsked_12 : decode cW_canBeAsked 12 = .ok (.iload_n 1, 1) := by decide +kernel
theorem dW_canBeAsked_13 : decode cW_canBeAsked 13 = .ok (.iconst 2, 1) := by decide +kernel
theorem dW_canBeAsked_14 : decode cW_canBeAsked 14 = .ok (.if_icmp .le 9, 3) := by decide +kernel
theorem dW_canBeAsked_17 : decode cW_canBeAsked 17 = .ok (.iload_n 1, 1) := by decide +kernel
theorem dW_canBeAsked_18 : decode cW_canBeAsked 18 = .ok (.bipush 11, 2) := by decide +kernel
theorem dW_canBeAsked_20 : decode cW_canBeAsked 20 = .ok (.if_icmp .ne 5, 3) := by decide +kernel
theorem dW_canBeAsked_23 : decode cW_canBeAsked 23 = .ok (.iconst 1, 1) := by decide +kernel
theorem dW_canBeAsked_24 : decode cW_canBeAsked 24 = .ok (.ireturn, 1) := by decide +kernel
theorem dW_canBeAsked_25 : decode cW_canBeAsked 25 = .ok (.iload_n 1, 1) := by decide +kernel
theorem dW_canBeAsked_26 : decode cW_canBeAsked 26 = .ok (.iconst 3, 1) := by decide +kernel
theorem dW_canBeAsked_27 : decode cW_canBeAsked 27 = .ok (.if_icmp .eq 14, 3) := by decide +kernel
theorem dW_canBeAsked_30 : decode cW_canBeAsked 30 = .ok (.aload_n 0, 1) := by decide +kernel
theorem dW_canBeAsked_31 : decode cW_canBeAsked 31 = .ok (.getfield 45, 3) := by decide +kernel
theorem dW_canBeAsked_34 : decode cW_canBeAsked 34 = .ok (.iload_n 2, 1) := by decide +kernel
theorem dW_canBeAsked_35 : decode cW_canBeAsked 35 = .ok (.invokevirtual 317, 3) := by decide +kernel
theorem dW_canBeAsked_38 : decode cW_canBeAsked 38 = .ok (.ifCond .eq 7, 3) := by decide +kernel
theorem dW_canBeAsked_41 : decode cW_canBeAsked 41 = .ok (.iconst 1, 1) := by decide +kernel
theorem dW_canBeAsked_42 : decode cW_canBeAsked 42 = .ok (.goto 4, 3) := by decide +kernel
theorem dW_canBeAsked_45 : decode cW_canBeAsked 45 = .ok (.iconst 0, 1) := by decide +kernel
theorem dW_canBeAsked_46 : decode cW_canBeAsked 46 = .ok (.istore 4, 2) := by decide +kernel
theorem dW_canBeAsked_48 : decode cW_canBeAsked 48 = .ok (.iload_n 1, 1) := by decide +kernel
theorem dW_canBeAsked_49 : decode cW_canBeAsked 49 = .ok (.iconst 4, 1) := by decide +kernel
theorem dW_canBeAsked_50 : decode cW_canBeAsked 50 = .ok (.if_icmp .eq 19, 3) := by decide +kernel
theorem dW_canBeAsked_53 : decode cW_canBeAsked 53 = .ok (.iload_n 1, 1) := by decide +kernel
theorem dW_canBeAsked_54 : decode cW_canBeAsked 54 = .ok (.iconst 5, 1) := by decide +kernel
theorem dW_canBeAsked_55 : decode cW_canBeAsked 55 = .ok (.if_icmp .eq 14, 3) := by decide +kernel
theorem dW_canBeAsked_58 : decode cW_canBeAsked 58 = .ok (.aload_n 0, 1) := by decide +kernel
theorem dW_canBeAsked_59 : decode cW_canBeAsked 59 = .ok (.getfield 45, 3) := by decide +kernel
theorem dW_canBeAsked_62 : decode cW_canBeAsked 62 = .ok (.iload_n 3, 1) := by decide +kernel
theorem dW_canBeAsked_63 : decode cW_canBeAsked 63 = .ok (.invokevirtual 320, 3) := by decide +kernel
theorem dW_canBeAsked_66 : decode cW_canBeAsked 66 = .ok (.ifCond .eq 7, 3) := by decide +kernel
theorem dW_canBeAsked_69 : decode cW_canBeAsked 69 = .ok (.iconst 1, 1) := by decide +kernel
theorem dW_canBeAsked_70 : decode cW_canBeAsked 70 = .ok (.goto 4, 3) := by decide +kernel
theorem dW_canBeAsked_73 : decode cW_canBeAsked 73 = .ok (.iconst 0, 1) := by decide +kernel
theorem dW_canBeAsked_74 : decode cW_canBeAsked 74 = .ok (.istore 5, 2) := by decide +kernel
theorem dW_canBeAsked_76 : decode cW_canBeAsked 76 = .ok (.iload 4, 2) := by decide +kernel
theorem dW_canBeAsked_78 : decode cW_canBeAsked 78 = .ok (.ifCond .eq 12, 3) := by decide +kernel
theorem dW_canBeAsked_81 : decode cW_canBeAsked 81 = .ok (.iload 5, 2) := by decide +kernel
theorem dW_canBeAsked_83 : decode cW_canBeAsked 83 = .ok (.ifCond .eq 7, 3) := by decide +kernel
theorem dW_canBeAsked_86 : decode cW_canBeAsked 86 = .ok (.iconst 1, 1) := by decide +kernel
theorem dW_canBeAsked_87 : decode cW_canBeAsked 87 = .ok (.goto 4, 3) := by decide +kernel
theorem dW_canBeAsked_90 : decode cW_canBeAsked 90 = .ok (.iconst 0, 1) := by decide +kernel
theorem dW_canBeAsked_91 : decode cW_canBeAsked 91 = .ok (.ireturn, 1) := by decide +kernel
theorem dW_at_0 : decode cW_at 0 = .ok (.aload_n 0, 1) := by decide +kernel
theorem dW_at_1 : decode cW_at 1 = .ok (.getfield 75, 3) := by decide +kernel
theorem dW_at_4 : decode cW_at 4 = .ok (.ifCond .ne 14, 3) := by decide +kernel
theorem dW_at_7 : decode cW_at 7 = .ok (.new 105, 3) := by decide +kernel
theorem dW_at_10 : decode cW_at 10 = .ok (.dup, 1) := by decide +kernel
theorem dW_at_11 : decode cW_at 11 = .ok (.ldc_w 263, 3) := by decide +kernel
theorem dW_at_14 : decode cW_at 14 = .ok (.invokespecial 109, 3) := by decide +kernel
theorem dW_at_17 : decode cW_at 17 = .ok (.athrow, 1) := by decide +kernel
theorem dW_at_18 : decode cW_at 18 = .ok (.aload_n 0, 1) := by decide +kernel
theorem dW_at_19 : decode cW_at 19 = .ok (.iload_n 1, 1) := by decide +kernel
theorem dW_at_20 : decode cW_at 20 = .ok (.iload_n 2, 1) := by decide +kernel
theorem dW_at_21 : decode cW_at 21 = .ok (.iload_n 3, 1) := by decide +kernel
theorem dW_at_22 : decode cW_at 22 = .ok (.invokevirtual 265, 3) := by decide +kernel
theorem dW_at_25 : decode cW_at 25 = .ok (.ifCond .ne 13, 3) := by decide +kernel
theorem dW_at_28 : decode cW_at 28 = .ok (.new 91, 3) := by decide +kernel
theorem dW_at_31 : decode cW_at 31 = .ok (.dup, 1) := by decide +kernel
theorem dW_at_32 : decode cW_at 32 = .ok (.ldc 93, 2) := by decide +kernel
theorem dW_at_34 : decode cW_at 34 = .ok (.invokespecial 95, 3) := by decide +kernel
theorem dW_at_37 : decode cW_at 37 = .ok (.athrow, 1) := by decide +kernel
theorem dW_at_38 : decode cW_at 38 = .ok (.iload_n 1, 1) := by decide +kernel
theorem dW_at_39 : decode cW_at 39 = .ok (.bipush 11, 2) := by decide +kernel
theorem dW_at_41 : decode cW_at 41 = .ok (.if_icmp .ne 13, 3) := by decide +kernel
theorem dW_at_44 : decode cW_at 44 = .ok (.aload_n 0, 1) := by decide +kernel
theorem dW_at_45 : decode cW_at 45 = .ok (.getfield 53, 3) := by decide +kernel
theorem dW_at_48 : decode cW_at 48 = .ok (.getfield 268, 3) := by decide +kernel
theorem dW_at_51 : decode cW_at 51 = .ok (.goto 13, 3) := by decide +kernel
theorem dW_at_54 : decode cW_at 54 = .ok (.aload_n 0, 1) := by decide +kernel
theorem dW_at_55 : decode cW_at 55 = .ok (.getfield 45, 3) := by decide +kernel
theorem dW_at_58 : decode cW_at 58 = .ok (.iload_n 1, 1) := by decide +kernel
theorem dW_at_59 : decode cW_at 59 = .ok (.iload_n 2, 1) := by decide +kernel
theorem dW_at_60 : decode cW_at 60 = .ok (.iload_n 3, 1) := by decide +kernel
theorem dW_at_61 : decode cW_at 61 = .ok (.invokevirtual 119, 3) := by decide +kernel
theorem dW_at_64 : decode cW_at 64 = .ok (.ireturn, 1) := by decide +kernel
theorem dW_part_0 : decode cW_part 0 = .ok (.aload_n 0, 1) := by decide +kernel
theorem dW_part_1 : decode cW_part 1 = .ok (.getfield 75, 3) := by decide +kernel
theorem dW_part_4 : decode cW_part 4 = .ok (.ifCond .ne 14, 3) := by decide +kernel
theorem dW_part_7 : decode cW_part 7 = .ok (.new 105, 3) := by decide +kernel
theorem dW_part_10 : decode cW_part 10 = .ok (.dup, 1) := by decide +kernel
theorem dW_part_11 : decode cW_part 11 = .ok (.ldc_w 263, 3) := by decide +kernel
theorem dW_part_14 : decode cW_part 14 = .ok (.invokespecial 109, 3) := by decide +kernel
theorem dW_part_17 : decode cW_part 17 = .ok (.athrow, 1) := by decide +kernel
theorem dW_part_18 : decode cW_part 18 = .ok (.iload_n 1, 1) := by decide +kernel
theorem dW_part_19 : decode cW_part 19 = .ok (.ifCond .lt 14, 3) := by decide +kernel
theorem dW_part_22 : decode cW_part 22 = .ok (.iload_n 1, 1) := by decide +kernel
theorem dW_part_23 : decode cW_part 23 = .ok (.aload_n 0, 1) := by decide +kernel
theorem dW_part_24 : decode cW_part 24 = .ok (.getfield 71, 3) := by decide +kernel
theorem dW_part_27 : decode cW_part 27 = .ok (.getfield 262, 3) := by decide +kernel
theorem dW_part_30 : decode cW_part 30 = .ok (.if_icmp .lt 13, 3) := by decide +kernel
theorem dW_part_33 : decode cW_part 33 = .ok (.new 91, 3) := by decide +kernel
theorem dW_part_36 : decode cW_part 36 = .ok (.dup, 1) := by decide +kernel
theorem dW_part_37 : decode cW_part 37 = .ok (.ldc 152, 2) := by decide +kernel
theorem dW_part_39 : decode cW_part 39 = .ok (.invokespecial 95, 3) := by decide +kernel
theorem dW_part_42 : decode cW_part 42 = .ok (.athrow, 1) := by decide +kernel
theorem dW_part_43 : decode cW_part 43 = .ok (.aload_n 0, 1) := by decide +kernel
theorem dW_part_44 : decode cW_part 44 = .ok (.getfield 71, 3) := by decide +kernel
theorem dW_part_47 : decode cW_part 47 = .ok (.iload_n 1, 1) := by decide +kernel
theorem dW_part_48 : decode cW_part 48 = .ok (.iload_n 2, 1) := by decide +kernel
theorem dW_part_49 : decode cW_part 49 = .ok (.invokevirtual 271, 3) := by decide +kernel
theorem dW_part_52 : decode cW_part 52 = .ok (.ireturn, 1) := by decide +kernel
theorem dW_partByte_0 : decode cW_partByte 0 = .ok (.aload_n 0, 1) := by decide +kernel
theorem dW_partByte_1 : decode cW_partByte 1 = .ok (.getfield 75, 3) := by decide +kernel
theorem dW_partByte_4 : decode cW_partByte 4 = .ok (.ifCond .ne 14, 3) := by decide +kernel
theorem dW_partByte_7 : decode cW_partByte 7 = .ok (.new 105, 3) := by decide +kernel
theorem dW_partByte_10 : decode cW_partByte 10 = .ok (.dup, 1) := by decide +kernel
theorem dW_partByte_11 : decode cW_partByte 11 = .ok (.ldc_w 263, 3) := by decide +kernel
theorem dW_partByte_14 : decode cW_partByte 14 = .ok (.invokespecial 109, 3) := by decide +kernel
theorem dW_partByte_17 : decode cW_partByte 17 = .ok (.athrow, 1) := by decide +kernel
theorem dW_partByte_18 : decode cW_partByte 18 = .ok (.iload_n 1, 1) := by decide +kernel
theorem dW_partByte_19 : decode cW_partByte 19 = .ok (.ifCond .lt 14, 3) := by decide +kernel
theorem dW_partByte_22 : decode cW_partByte 22 = .ok (.iload_n 1, 1) := by decide +kernel
theorem dW_partByte_23 : decode cW_partByte 23 = .ok (.aload_n 0, 1) := by decide +kernel
theorem dW_partByte_24 : decode cW_partByte 24 = .ok (.getfield 71, 3) := by decide +kernel
theorem dW_partByte_27 : decode cW_partByte 27 = .ok (.getfield 262, 3) := by decide +kernel
theorem dW_partByte_30 : decode cW_partByte 30 = .ok (.if_icmp .lt 13, 3) := by decide +kernel
theorem dW_partByte_33 : decode cW_partByte 33 = .ok (.new 91, 3) := by decide +kernel
theorem dW_partByte_36 : decode cW_partByte 36 = .ok (.dup, 1) := by decide +kernel
theorem dW_partByte_37 : decode cW_partByte 37 = .ok (.ldc 152, 2) := by decide +kernel
theorem dW_partByte_39 : decode cW_partByte 39 = .ok (.invokespecial 95, 3) := by decide +kernel
theorem dW_partByte_42 : decode cW_partByte 42 = .ok (.athrow, 1) := by decide +kernel
theorem dW_partByte_43 : decode cW_partByte 43 = .ok (.iload_n 2, 1) := by decide +kernel
theorem dW_partByte_44 : decode cW_partByte 44 = .ok (.ifCond .lt 16, 3) := by decide +kernel
theorem dW_partByte_47 : decode cW_partByte 47 = .ok (.iload_n 2, 1) := by decide +kernel
theorem dW_partByte_48 : decode cW_partByte 48 = .ok (.aload_n 0, 1) := by decide +kernel
theorem dW_partByte_49 : decode cW_partByte 49 = .ok (.getfield 71, 3) := by decide +kernel
theorem dW_partByte_52 : decode cW_partByte 52 = .ok (.getfield 274, 3) := by decide +kernel
theorem dW_partByte_55 : decode cW_partByte 55 = .ok (.iload_n 1, 1) := by decide +kernel
theorem dW_partByte_56 : decode cW_partByte 56 = .ok (.iaload, 1) := by decide +kernel
theorem dW_partByte_57 : decode cW_partByte 57 = .ok (.if_icmp .lt 13, 3) := by decide +kernel
theorem dW_partByte_60 : decode cW_partByte 60 = .ok (.new 91, 3) := by decide +kernel
theorem dW_partByte_63 : decode cW_partByte 63 = .ok (.dup, 1) := by decide +kernel
theorem dW_partByte_64 : decode cW_partByte 64 = .ok (.ldc 221, 2) := by decide +kernel
theorem dW_partByte_66 : decode cW_partByte 66 = .ok (.invokespecial 95, 3) := by decide +kernel
theorem dW_partByte_69 : decode cW_partByte 69 = .ok (.athrow, 1) := by decide +kernel
theorem dW_partByte_70 : decode cW_partByte 70 = .ok (.aload_n 0, 1) := by decide +kernel
theorem dW_partByte_71 : decode cW_partByte 71 = .ok (.getfield 42, 3) := by decide +kernel
theorem dW_partByte_74 : decode cW_partByte 74 = .ok (.aload_n 0, 1) := by decide +kernel
theorem dW_partByte_75 : decode cW_partByte 75 = .ok (.getfield 71, 3) := by decide +kernel
theorem dW_partByte_78 : decode cW_partByte 78 = .ok (.getfield 278, 3) := by decide +kernel
theorem dW_partByte_81 : decode cW_partByte 81 = .ok (.iload_n 1, 1) := by decide +kernel
theorem dW_partByte_82 : decode cW_partByte 82 = .ok (.iaload, 1) := by decide +kernel
theorem dW_partByte_83 : decode cW_partByte 83 = .ok (.iload_n 2, 1) := by decide +kernel
theorem dW_partByte_84 : decode cW_partByte 84 = .ok (.iadd, 1) := by decide +kernel
theorem dW_partByte_85 : decode cW_partByte 85 = .ok (.invokevirtual 223, 3) := by decide +kernel
theorem dW_partByte_88 : decode cW_partByte 88 = .ok (.ireturn, 1) := by decide +kernel
theorem dW_unknown_0 : decode cW_unknown 0 = .ok (.iload_n 1, 1) := by decide +kernel
theorem dW_unknown_1 : decode cW_unknown 1 = .ok (.ifCond .lt 17, 3) := by decide +kernel
theorem dW_unknown_4 : decode cW_unknown 4 = .ok (.iload_n 1, 1) := by decide +kernel
theorem dW_unknown_5 : decode cW_unknown 5 = .ok (.aload_n 0, 1) := by decide +kernel
theorem dW_unknown_6 : decode cW_unknown 6 = .ok (.getfield 53, 3) := by decide +kernel
theorem dW_unknown_9 : decode cW_unknown 9 = .ok (.getfield 281, 3) := by decide +kernel
theorem dW_unknown_12 : decode cW_unknown 12 = .ok (.getfield 285, 3) := by decide +kernel
theorem dW_unknown_15 : decode cW_unknown 15 = .ok (.if_icmp .lt 13, 3) := by decide +kernel
theorem dW_unknown_18 : decode cW_unknown 18 = .ok (.new 91, 3) := by decide +kernel
theorem dW_unknown_21 : decode cW_unknown 21 = .ok (.dup, 1) := by decide +kernel
theorem dW_unknown_22 : decode cW_unknown 22 = .ok (.ldc 198, 2) := by decide +kernel
theorem dW_unknown_24 : decode cW_unknown 24 = .ok (.invokespecial 95, 3) := by decide +kernel
theorem dW_unknown_27 : decode cW_unknown 27 = .ok (.athrow, 1) := by decide +kernel
theorem dW_unknown_28 : decode cW_unknown 28 = .ok (.aload_n 0, 1) := by decide +kernel
theorem dW_unknown_29 : decode cW_unknown 29 = .ok (.getfield 53, 3) := by decide +kernel
theorem dW_unknown_32 : decode cW_unknown 32 = .ok (.getfield 281, 3) := by decide +kernel
theorem dW_unknown_35 : decode cW_unknown 35 = .ok (.iload_n 1, 1) := by decide +kernel
theorem dW_unknown_36 : decode cW_unknown 36 = .ok (.invokevirtual 288, 3) := by decide +kernel
theorem dW_unknown_39 : decode cW_unknown 39 = .ok (.istore_n 3, 1) := by decide +kernel
theorem dW_unknown_40 : decode cW_unknown 40 = .ok (.aload_n 0, 1) := by decide +kernel
theorem dW_unknown_41 : decode cW_unknown 41 = .ok (.getfield 53, 3) := by decide +kernel
theorem dW_unknown_44 : decode cW_unknown 44 = .ok (.getfield 289, 3) := by decide +kernel
theorem dW_unknown_47 : decode cW_unknown 47 = .ok (.iload_n 1, 1) := by decide +kernel
theorem dW_unknown_48 : decode cW_unknown 48 = .ok (.invokevirtual 288, 3) := by decide +kernel
theorem dW_unknown_51 : decode cW_unknown 51 = .ok (.iload_n 3, 1) := by decide +kernel
theorem dW_unknown_52 : decode cW_unknown 52 = .ok (.isub, 1) := by decide +kernel
theorem dW_unknown_53 : decode cW_unknown 53 = .ok (.bipush 8, 2) := by decide +kernel
theorem dW_unknown_55 : decode cW_unknown 55 = .ok (.isub, 1) := by decide +kernel
theorem dW_unknown_56 : decode cW_unknown 56 = .ok (.istore 4, 2) := by decide +kernel
theorem dW_unknown_58 : decode cW_unknown 58 = .ok (.iload_n 2, 1) := by decide +kernel
theorem dW_unknown_59 : decode cW_unknown 59 = .ok (.bipush (-2), 2) := by decide +kernel
theorem dW_unknown_61 : decode cW_unknown 61 = .ok (.if_icmp .lt 9, 3) := by decide +kernel
theorem dW_unknown_64 : decode cW_unknown 64 = .ok (.iload_n 2, 1) := by decide +kernel
theorem dW_unknown_65 : decode cW_unknown 65 = .ok (.iload 4, 2) := by decide +kernel
theorem dW_unknown_67 : decode cW_unknown 67 = .ok (.if_icmp .lt 13, 3) := by decide +kernel
theorem dW_unknown_70 : decode cW_unknown 70 = .ok (.new 91, 3) := by decide +kernel
theorem dW_unknown_73 : decode cW_unknown 73 = .ok (.dup, 1) := by decide +kernel
theorem dW_unknown_74 : decode cW_unknown 74 = .ok (.ldc 221, 2) := by decide +kernel
theorem dW_unknown_76 : decode cW_unknown 76 = .ok (.invokespecial 95, 3) := by decide +kernel
theorem dW_unknown_79 : decode cW_unknown 79 = .ok (.athrow, 1) := by decide +kernel
theorem dW_unknown_80 : decode cW_unknown 80 = .ok (.iload_n 2, 1) := by decide +kernel
theorem dW_unknown_81 : decode cW_unknown 81 = .ok (.iconst (-1), 1) := by decide +kernel
theorem dW_unknown_82 : decode cW_unknown 82 = .ok (.if_icmp .ne 12, 3) := by decide +kernel
theorem dW_unknown_85 : decode cW_unknown 85 = .ok (.aload_n 0, 1) := by decide +kernel
theorem dW_unknown_86 : decode cW_unknown 86 = .ok (.getfield 53, 3) := by decide +kernel
theorem dW_unknown_89 : decode cW_unknown 89 = .ok (.iload_n 3, 1) := by decide +kernel
theorem dW_unknown_90 : decode cW_unknown 90 = .ok (.invokevirtual 292, 3) := by decide +kernel
theorem dW_unknown_93 : decode cW_unknown 93 = .ok (.ireturn, 1) := by decide +kernel
theorem dW_unknown_94 : decode cW_unknown 94 = .ok (.iload_n 2, 1) := by decide +kernel
theorem dW_unknown_95 : decode cW_unknown 95 = .ok (.bipush (-2), 2) := by decide +kernel
theorem dW_unknown_97 : decode cW_unknown 97 = .ok (.if_icmp .ne 8, 3) := by decide +kernel
theorem dW_unknown_100 : decode cW_unknown 100 = .ok (.iload 4, 2) := by decide +kernel
theorem dW_unknown_102 : decode cW_unknown 102 = .ok (.goto 16, 3) := by decide +kernel
theorem dW_unknown_105 : decode cW_unknown 105 = .ok (.aload_n 0, 1) := by decide +kernel
theorem dW_unknown_106 : decode cW_unknown 106 = .ok (.getfield 42, 3) := by decide +kernel
theorem dW_unknown_109 : decode cW_unknown 109 = .ok (.iload_n 3, 1) := by decide +kernel
theorem dW_unknown_110 : decode cW_unknown 110 = .ok (.bipush 8, 2) := by decide +kernel
theorem dW_unknown_112 : decode cW_unknown 112 = .ok (.iadd, 1) := by decide +kernel
theorem dW_unknown_113 : decode cW_unknown 113 = .ok (.iload_n 2, 1) := by decide +kernel
theorem dW_unknown_114 : decode cW_unknown 114 = .ok (.iadd, 1) := by decide +kernel
theorem dW_unknown_115 : decode cW_unknown 115 = .ok (.invokevirtual 223, 3) := by decide +kernel
theorem dW_unknown_118 : decode cW_unknown 118 = .ok (.ireturn, 1) := by decide +kernel
theorem dW_told_0 : decode cW_told 0 = .ok (.iload_n 1, 1) := by decide +kernel
theorem dW_told_1 : decode cW_told 1 = .ok (.tableswitch 129 0 8 #[51, 59, 67, 75, 86, 94, 102, 113, 121], 51) := by decide +kernel
theorem dW_told_52 : decode cW_told 52 = .ok (.aload_n 0, 1) := by decide +kernel
theorem dW_told_53 : decode cW_told 53 = .ok (.getfield 10, 3) := by decide +kernel
theorem dW_told_56 : decode cW_told 56 = .ok (.invokevirtual 127, 3) := by decide +kernel
theorem dW_told_59 : decode cW_told 59 = .ok (.ireturn, 1) := by decide +kernel
theorem dW_told_60 : decode cW_told 60 = .ok (.aload_n 0, 1) := by decide +kernel
theorem dW_told_61 : decode cW_told 61 = .ok (.getfield 19, 3) := by decide +kernel
theorem dW_told_64 : decode cW_told 64 = .ok (.invokevirtual 133, 3) := by decide +kernel
theorem dW_told_67 : decode cW_told 67 = .ok (.ireturn, 1) := by decide +kernel
theorem dW_told_68 : decode cW_told 68 = .ok (.aload_n 0, 1) := by decide +kernel
theorem dW_told_69 : decode cW_told 69 = .ok (.getfield 23, 3) := by decide +kernel
theorem dW_told_72 : decode cW_told 72 = .ok (.invokevirtual 133, 3) := by decide +kernel
theorem dW_told_75 : decode cW_told 75 = .ok (.ireturn, 1) := by decide +kernel
theorem dW_told_76 : decode cW_told 76 = .ok (.aload_n 0, 1) := by decide +kernel
theorem dW_told_77 : decode cW_told 77 = .ok (.getfield 29, 3) := by decide +kernel
theorem dW_told_80 : decode cW_told 80 = .ok (.getfield 218, 3) := by decide +kernel
theorem dW_told_83 : decode cW_told 83 = .ok (.getfield 180, 3) := by decide +kernel
theorem dW_told_86 : decode cW_told 86 = .ok (.ireturn, 1) := by decide +kernel
theorem dW_told_87 : decode cW_told 87 = .ok (.aload_n 0, 1) := by decide +kernel
theorem dW_told_88 : decode cW_told 88 = .ok (.getfield 38, 3) := by decide +kernel
theorem dW_told_91 : decode cW_told 91 = .ok (.getfield 180, 3) := by decide +kernel
theorem dW_told_94 : decode cW_told 94 = .ok (.ireturn, 1) := by decide +kernel
theorem dW_told_95 : decode cW_told 95 = .ok (.aload_n 0, 1) := by decide +kernel
theorem dW_told_96 : decode cW_told 96 = .ok (.getfield 71, 3) := by decide +kernel
theorem dW_told_99 : decode cW_told 99 = .ok (.getfield 262, 3) := by decide +kernel
theorem dW_told_102 : decode cW_told 102 = .ok (.ireturn, 1) := by decide +kernel
theorem dW_told_103 : decode cW_told 103 = .ok (.aload_n 0, 1) := by decide +kernel
theorem dW_told_104 : decode cW_told 104 = .ok (.getfield 53, 3) := by decide +kernel
theorem dW_told_107 : decode cW_told 107 = .ok (.getfield 281, 3) := by decide +kernel
theorem dW_told_110 : decode cW_told 110 = .ok (.getfield 285, 3) := by decide +kernel
theorem dW_told_113 : decode cW_told 113 = .ok (.ireturn, 1) := by decide +kernel
theorem dW_told_114 : decode cW_told 114 = .ok (.aload_n 0, 1) := by decide +kernel
theorem dW_told_115 : decode cW_told 115 = .ok (.getfield 71, 3) := by decide +kernel
theorem dW_told_118 : decode cW_told 118 = .ok (.invokevirtual 295, 3) := by decide +kernel
theorem dW_told_121 : decode cW_told 121 = .ok (.ireturn, 1) := by decide +kernel
theorem dW_told_122 : decode cW_told 122 = .ok (.aload_n 0, 1) := by decide +kernel
theorem dW_told_123 : decode cW_told 123 = .ok (.getfield 71, 3) := by decide +kernel
theorem dW_told_126 : decode cW_told 126 = .ok (.invokevirtual 298, 3) := by decide +kernel
theorem dW_told_129 : decode cW_told 129 = .ok (.ireturn, 1) := by decide +kernel
theorem dW_told_130 : decode cW_told 130 = .ok (.iconst (-1), 1) := by decide +kernel
theorem dW_told_131 : decode cW_told 131 = .ok (.ireturn, 1) := by decide +kernel
theorem dAL_clear_0 : decode cAL_clear 0 = .ok (.aload_n 0, 1) := by decide +kernel
theorem dAL_clear_1 : decode cAL_clear 1 = .ok (.dup, 1) := by decide +kernel
theorem dAL_clear_2 : decode cAL_clear 2 = .ok (.getfield 63, 3) := by decide +kernel
theorem dAL_clear_5 : decode cAL_clear 5 = .ok (.iconst 1, 1) := by decide +kernel
theorem dAL_clear_6 : decode cAL_clear 6 = .ok (.iadd, 1) := by decide +kernel
theorem dAL_clear_7 : decode cAL_clear 7 = .ok (.putfield 63, 3) := by decide +kernel
theorem dAL_clear_10 : decode cAL_clear 10 = .ok (.aload_n 0, 1) := by decide +kernel
theorem dAL_clear_11 : decode cAL_clear 11 = .ok (.getfield 9, 3) := by decide +kernel
theorem dAL_clear_14 : decode cAL_clear 14 = .ok (.astore_n 1, 1) := by decide +kernel
theorem dAL_clear_15 : decode cAL_clear 15 = .ok (.aload_n 0, 1) := by decide +kernel
theorem dAL_clear_16 : decode cAL_clear 16 = .ok (.getfield 48, 3) := by decide +kernel
theorem dAL_clear_19 : decode cAL_clear 19 = .ok (.istore_n 2, 1) := by decide +kernel
theorem dAL_clear_20 : decode cAL_clear 20 = .ok (.aload_n 0, 1) := by decide +kernel
theorem dAL_clear_21 : decode cAL_clear 21 = .ok (.iconst 0, 1) := by decide +kernel
theorem dAL_clear_22 : decode cAL_clear 22 = .ok (.dup_x1, 1) := by decide +kernel
theorem dAL_clear_23 : decode cAL_clear 23 = .ok (.putfield 48, 3) := by decide +kernel
theorem dAL_clear_26 : decode cAL_clear 26 = .ok (.istore_n 3, 1) := by decide +kernel
theorem dAL_clear_27 : decode cAL_clear 27 = .ok (.iload_n 3, 1) := by decide +kernel
theorem dAL_clear_28 : decode cAL_clear 28 = .ok (.iload_n 2, 1) := by decide +kernel
theorem dAL_clear_29 : decode cAL_clear 29 = .ok (.if_icmp .ge 13, 3) := by decide +kernel
theorem dAL_clear_32 : decode cAL_clear 32 = .ok (.aload_n 1, 1) := by decide +kernel
theorem dAL_clear_33 : decode cAL_clear 33 = .ok (.iload_n 3, 1) := by decide +kernel
theorem dAL_clear_34 : decode cAL_clear 34 = .ok (.aconst_null, 1) := by decide +kernel
theorem dAL_clear_35 : decode cAL_clear 35 = .ok (.aastore, 1) := by decide +kernel
theorem dAL_clear_36 : decode cAL_clear 36 = .ok (.iinc 3 1, 3) := by decide +kernel
theorem dAL_clear_39 : decode cAL_clear 39 = .ok (.goto (-12), 3) := by decide +kernel
theorem dAL_clear_42 : decode cAL_clear 42 = .ok (.return_, 1) := by decide +kernel
theorem dW_clear_0 : decode cW_clear 0 = .ok (.aload_n 0, 1) := by decide +kernel
theorem dW_clear_1 : decode cW_clear 1 = .ok (.getfield 10, 3) := by decide +kernel
theorem dW_clear_4 : decode cW_clear 4 = .ok (.aload_n 0, 1) := by decide +kernel
theorem dW_clear_5 : decode cW_clear 5 = .ok (.getfield 10, 3) := by decide +kernel
theorem dW_clear_8 : decode cW_clear 8 = .ok (.getfield 301, 3) := by decide +kernel
theorem dW_clear_11 : decode cW_clear 11 = .ok (.aload_n 0, 1) := by decide +kernel
theorem dW_clear_12 : decode cW_clear 12 = .ok (.getfield 10, 3) := by decide +kernel
theorem dW_clear_15 : decode cW_clear 15 = .ok (.getfield 304, 3) := by decide +kernel
theorem dW_clear_18 : decode cW_clear 18 = .ok (.invokevirtual 83, 3) := by decide +kernel
theorem dW_clear_21 : decode cW_clear 21 = .ok (.aload_n 0, 1) := by decide +kernel
theorem dW_clear_22 : decode cW_clear 22 = .ok (.getfield 19, 3) := by decide +kernel
theorem dW_clear_25 : decode cW_clear 25 = .ok (.invokevirtual 307, 3) := by decide +kernel
theorem dW_clear_28 : decode cW_clear 28 = .ok (.aload_n 0, 1) := by decide +kernel
theorem dW_clear_29 : decode cW_clear 29 = .ok (.getfield 23, 3) := by decide +kernel
theorem dW_clear_32 : decode cW_clear 32 = .ok (.invokevirtual 307, 3) := by decide +kernel
theorem dW_clear_35 : decode cW_clear 35 = .ok (.aload_n 0, 1) := by decide +kernel
theorem dW_clear_36 : decode cW_clear 36 = .ok (.getfield 29, 3) := by decide +kernel
theorem dW_clear_39 : decode cW_clear 39 = .ok (.invokevirtual 204, 3) := by decide +kernel
theorem dW_clear_42 : decode cW_clear 42 = .ok (.aload_n 0, 1) := by decide +kernel
theorem dW_clear_43 : decode cW_clear 43 = .ok (.getfield 38, 3) := by decide +kernel
theorem dW_clear_46 : decode cW_clear 46 = .ok (.iconst 0, 1) := by decide +kernel
theorem dW_clear_47 : decode cW_clear 47 = .ok (.putfield 180, 3) := by decide +kernel
theorem dW_clear_50 : decode cW_clear 50 = .ok (.aload_n 0, 1) := by decide +kernel
theorem dW_clear_51 : decode cW_clear 51 = .ok (.getfield 42, 3) := by decide +kernel
theorem dW_clear_54 : decode cW_clear 54 = .ok (.iconst 0, 1) := by decide +kernel
theorem dW_clear_55 : decode cW_clear 55 = .ok (.putfield 180, 3) := by decide +kernel
theorem dW_clear_58 : decode cW_clear 58 = .ok (.aload_n 0, 1) := by decide +kernel
theorem dW_clear_59 : decode cW_clear 59 = .ok (.invokevirtual 238, 3) := by decide +kernel
theorem dW_clear_62 : decode cW_clear 62 = .ok (.return_, 1) := by decide +kernel
theorem dD_near_0 : decode cD_near 0 = .ok (.iload_n 0, 1) := by decide +kernel
theorem dD_near_1 : decode cD_near 1 = .ok (.iload_n 1, 1) := by decide +kernel
theorem dD_near_2 : decode cD_near 2 = .ok (.if_icmp .ge 7, 3) := by decide +kernel
theorem dD_near_5 : decode cD_near 5 = .ok (.iload_n 1, 1) := by decide +kernel
theorem dD_near_6 : decode cD_near 6 = .ok (.goto 13, 3) := by decide +kernel
theorem dD_near_9 : decode cD_near 9 = .ok (.iload_n 0, 1) := by decide +kernel
theorem dD_near_10 : decode cD_near 10 = .ok (.iload_n 2, 1) := by decide +kernel
theorem dD_near_11 : decode cD_near 11 = .ok (.if_icmp .le 7, 3) := by decide +kernel
theorem dD_near_14 : decode cD_near 14 = .ok (.iload_n 2, 1) := by decide +kernel
theorem dD_near_15 : decode cD_near 15 = .ok (.goto 4, 3) := by decide +kernel
theorem dD_near_18 : decode cD_near 18 = .ok (.iload_n 0, 1) := by decide +kernel
theorem dD_near_19 : decode cD_near 19 = .ok (.ireturn, 1) := by decide +kernel
theorem dD_put_0 : decode cD_put 0 = .ok (.aload_n 0, 1) := by decide +kernel
theorem dD_put_1 : decode cD_put 1 = .ok (.getfield 7, 3) := by decide +kernel
theorem dD_put_4 : decode cD_put 4 = .ok (.bipush 11, 2) := by decide +kernel
theorem dD_put_6 : decode cD_put 6 = .ok (.iload_n 1, 1) := by decide +kernel
theorem dD_put_7 : decode cD_put 7 = .ok (.imul, 1) := by decide +kernel
theorem dD_put_8 : decode cD_put 8 = .ok (.iload_n 2, 1) := by decide +kernel
theorem dD_put_9 : decode cD_put 9 = .ok (.iadd, 1) := by decide +kernel
theorem dD_put_10 : decode cD_put 10 = .ok (.iload_n 3, 1) := by decide +kernel
theorem dD_put_11 : decode cD_put 11 = .ok (.iastore, 1) := by decide +kernel
theorem dD_put_12 : decode cD_put 12 = .ok (.return_, 1) := by decide +kernel
theorem dD_begin_0 : decode cD_begin 0 = .ok (.iload_n 1, 1) := by decide +kernel
theorem dD_begin_1 : decode cD_begin 1 = .ok (.ifCond .ne 7, 3) := by decide +kernel
theorem dD_begin_4 : decode cD_begin 4 = .ok (.iconst 0, 1) := by decide +kernel
theorem dD_begin_5 : decode cD_begin 5 = .ok (.goto 4, 3) := by decide +kernel
theorem dD_begin_8 : decode cD_begin 8 = .ok (.iconst 5, 1) := by decide +kernel
theorem dD_begin_9 : decode cD_begin 9 = .ok (.istore_n 2, 1) := by decide +kernel
theorem dD_begin_10 : decode cD_begin 10 = .ok (.aload_n 0, 1) := by decide +kernel
theorem dD_begin_11 : decode cD_begin 11 = .ok (.getfield 23, 3) := by decide +kernel
theorem dD_begin_14 : decode cD_begin 14 = .ok (.iload_n 2, 1) := by decide +kernel
theorem dD_begin_15 : decode cD_begin 15 = .ok (.aload_n 0, 1) := by decide +kernel
theorem dD_begin_16 : decode cD_begin 16 = .ok (.getfield 100, 3) := by decide +kernel
theorem dD_begin_19 : decode cD_begin 19 = .ok (.iastore, 1) := by decide +kernel
theorem dD_begin_20 : decode cD_begin 20 = .ok (.aload_n 0, 1) := by decide +kernel
theorem dD_begin_21 : decode cD_begin 21 = .ok (.getfield 23, 3) := by decide +kernel
theorem dD_begin_24 : decode cD_begin 24 = .ok (.iload_n 2, 1) := by decide +kernel
theorem dD_begin_25 : decode cD_begin 25 = .ok (.iconst 1, 1) := by decide +kernel
theorem dD_begin_26 : decode cD_begin 26 = .ok (.iadd, 1) := by decide +kernel
theorem dD_begin_27 : decode cD_begin 27 = .ok (.aload_n 0, 1) := by decide +kernel
theorem dD_begin_28 : decode cD_begin 28 = .ok (.getfield 104, 3) := by decide +kernel
theorem dD_begin_31 : decode cD_begin 31 = .ok (.iastore, 1) := by decide +kernel
theorem dD_begin_32 : decode cD_begin 32 = .ok (.aload_n 0, 1) := by decide +kernel
theorem dD_begin_33 : decode cD_begin 33 = .ok (.getfield 23, 3) := by decide +kernel
theorem dD_begin_36 : decode cD_begin 36 = .ok (.iload_n 2, 1) := by decide +kernel
theorem dD_begin_37 : decode cD_begin 37 = .ok (.iconst 2, 1) := by decide +kernel
theorem dD_begin_38 : decode cD_begin 38 = .ok (.iadd, 1) := by decide +kernel
theorem dD_begin_39 : decode cD_begin 39 = .ok (.iconst 1, 1) := by decide +kernel
theorem dD_begin_40 : decode cD_begin 40 = .ok (.iastore, 1) := by decide +kernel
theorem dD_begin_41 : decode cD_begin 41 = .ok (.aload_n 0, 1) := by decide +kernel
theorem dD_begin_42 : decode cD_begin 42 = .ok (.getfield 23, 3) := by decide +kernel
theorem dD_begin_45 : decode cD_begin 45 = .ok (.iload_n 2, 1) := by decide +kernel
theorem dD_begin_46 : decode cD_begin 46 = .ok (.iconst 3, 1) := by decide +kernel
theorem dD_begin_47 : decode cD_begin 47 = .ok (.iadd, 1) := by decide +kernel
theorem dD_begin_48 : decode cD_begin 48 = .ok (.aload_n 0, 1) := by decide +kernel
theorem dD_begin_49 : decode cD_begin 49 = .ok (.getfield 100, 3) := by decide +kernel
theorem dD_begin_52 : decode cD_begin 52 = .ok (.iastore, 1) := by decide +kernel
theorem dD_begin_53 : decode cD_begin 53 = .ok (.aload_n 0, 1) := by decide +kernel
theorem dD_begin_54 : decode cD_begin 54 = .ok (.getfield 23, 3) := by decide +kernel
theorem dD_begin_57 : decode cD_begin 57 = .ok (.iload_n 2, 1) := by decide +kernel
theorem dD_begin_58 : decode cD_begin 58 = .ok (.iconst 4, 1) := by decide +kernel
theorem dD_begin_59 : decode cD_begin 59 = .ok (.iadd, 1) := by decide +kernel
theorem dD_begin_60 : decode cD_begin 60 = .ok (.aload_n 0, 1) := by decide +kernel
theorem dD_begin_61 : decode cD_begin 61 = .ok (.getfield 104, 3) := by decide +kernel
theorem dD_begin_64 : decode cD_begin 64 = .ok (.iastore, 1) := by decide +kernel
theorem dD_begin_65 : decode cD_begin 65 = .ok (.iconst 0, 1) := by decide +kernel
theorem dD_begin_66 : decode cD_begin 66 = .ok (.istore_n 3, 1) := by decide +kernel
theorem dD_begin_67 : decode cD_begin 67 = .ok (.iload_n 3, 1) := by decide +kernel
theorem dD_begin_68 : decode cD_begin 68 = .ok (.iconst 4, 1) := by decide +kernel
theorem dD_begin_69 : decode cD_begin 69 = .ok (.if_icmp .ge 27, 3) := by decide +kernel
theorem dD_begin_72 : decode cD_begin 72 = .ok (.aload_n 0, 1) := by decide +kernel
theorem dD_begin_73 : decode cD_begin 73 = .ok (.getfield 20, 3) := by decide +kernel
theorem dD_begin_76 : decode cD_begin 76 = .ok (.iload_n 2, 1) := by decide +kernel
theorem dD_begin_77 : decode cD_begin 77 = .ok (.ifCond .ne 7, 3) := by decide +kernel
theorem dD_begin_80 : decode cD_begin 80 = .ok (.iconst 0, 1) := by decide +kernel
theorem dD_begin_81 : decode cD_begin 81 = .ok (.goto 4, 3) := by decide +kernel
theorem dD_begin_84 : decode cD_begin 84 = .ok (.iconst 4, 1) := by decide +kernel
theorem dD_begin_85 : decode cD_begin 85 = .ok (.iload_n 3, 1) := by decide +kernel
theorem dD_begin_86 : decode cD_begin 86 = .ok (.iadd, 1) := by decide +kernel
theorem dD_begin_87 : decode cD_begin 87 = .ok (.bipush 8, 2) := by decide +kernel
theorem dD_begin_89 : decode cD_begin 89 = .ok (.iastore, 1) := by decide +kernel
theorem dD_begin_90 : decode cD_begin 90 = .ok (.iinc 3 1, 3) := by decide +kernel
theorem dD_begin_93 : decode cD_begin 93 = .ok (.goto (-26), 3) := by decide +kernel
theorem dD_begin_96 : decode cD_begin 96 = .ok (.iconst 0, 1) := by decide +kernel
theorem dD_begin_97 : decode cD_begin 97 = .ok (.istore_n 3, 1) := by decide +kernel
theorem dD_begin_98 : decode cD_begin 98 = .ok (.iload_n 3, 1) := by decide +kernel
theorem dD_begin_99 : decode cD_begin 99 = .ok (.bipush 125, 2) := by decide +kernel
theorem dD_begin_101 : decode cD_begin 101 = .ok (.if_icmp .ge 43, 3) := by decide +kernel
theorem dD_begin_104 : decode cD_begin 104 = .ok (.aload_n 0, 1) := by decide +kernel
theorem dD_begin_105 : decode cD_begin 105 = .ok (.getfield 13, 3) := by decide +kernel
theorem dD_begin_108 : decode cD_begin 108 = .ok (.iload_n 1, 1) := by decide +kernel
theorem dD_begin_109 : decode cD_begin 109 = .ok (.iload_n 3, 1) := by decide +kernel
theorem dD_begin_110 : decode cD_begin 110 = .ok (.iadd, 1) := by decide +kernel
theorem dD_begin_111 : decode cD_begin 111 = .ok (.iload_n 3, 1) := by decide +kernel
theorem dD_begin_112 : decode cD_begin 112 = .ok (.ifCond .ne 7, 3) := by decide +kernel
theorem dD_begin_115 : decode cD_begin 115 = .ok (.iconst 1, 1) := by decide +kernel
theorem dD_begin_116 : decode cD_begin 116 = .ok (.goto 4, 3) := by decide +kernel
theorem dD_begin_119 : decode cD_begin 119 = .ok (.iconst 0, 1) := by decide +kernel
theorem dD_begin_120 : decode cD_begin 120 = .ok (.bastore, 1) := by decide +kernel
theorem dD_begin_121 : decode cD_begin 121 = .ok (.aload_n 0, 1) := by decide +kernel
theorem dD_begin_122 : decode cD_begin 122 = .ok (.getfield 17, 3) := by decide +kernel
theorem dD_begin_125 : decode cD_begin 125 = .ok (.iload_n 1, 1) := by decide +kernel
theorem dD_begin_126 : decode cD_begin 126 = .ok (.iload_n 3, 1) := by decide +kernel
theorem dD_begin_127 : decode cD_begin 127 = .ok (.iadd, 1) := by decide +kernel
theorem dD_begin_128 : decode cD_begin 128 = .ok (.iload_n 3, 1) := by decide +kernel
theorem dD_begin_129 : decode cD_begin 129 = .ok (.ifCond .ne 7, 3) := by decide +kernel
theorem dD_begin_132 : decode cD_begin 132 = .ok (.iconst 1, 1) := by decide +kernel
theorem dD_begin_133 : decode cD_begin 133 = .ok (.goto 4, 3) := by decide +kernel
theorem dD_begin_136 : decode cD_begin 136 = .ok (.iconst 0, 1) := by decide +kernel
theorem dD_begin_137 : decode cD_begin 137 = .ok (.bastore, 1) := by decide +kernel
theorem dD_begin_138 : decode cD_begin 138 = .ok (.iinc 3 1, 3) := by decide +kernel
theorem dD_begin_141 : decode cD_begin 141 = .ok (.goto (-43), 3) := by decide +kernel
theorem dD_begin_144 : decode cD_begin 144 = .ok (.aload_n 0, 1) := by decide +kernel
theorem dD_begin_145 : decode cD_begin 145 = .ok (.iload_n 1, 1) := by decide +kernel
theorem dD_begin_146 : decode cD_begin 146 = .ok (.iconst 4, 1) := by decide +kernel
theorem dD_begin_147 : decode cD_begin 147 = .ok (.iconst 0, 1) := by decide +kernel
theorem dD_begin_148 : decode cD_begin 148 = .ok (.invokevirtual 113, 3) := by decide +kernel
theorem dD_begin_151 : decode cD_begin 151 = .ok (.aload_n 0, 1) := by decide +kernel
theorem dD_begin_152 : decode cD_begin 152 = .ok (.iload_n 1, 1) := by decide +kernel
theorem dD_begin_153 : decode cD_begin 153 = .ok (.iconst 5, 1) := by decide +kernel
theorem dD_begin_154 : decode cD_begin 154 = .ok (.iconst 1, 1) := by decide +kernel
theorem dD_begin_155 : decode cD_begin 155 = .ok (.invokevirtual 113, 3) := by decide +kernel
theorem dD_begin_158 : decode cD_begin 158 = .ok (.aload_n 0, 1) := by decide +kernel
theorem dD_begin_159 : decode cD_begin 159 = .ok (.iload_n 1, 1) := by decide +kernel
theorem dD_begin_160 : decode cD_begin 160 = .ok (.bipush 6, 2) := by decide +kernel
theorem dD_begin_162 : decode cD_begin 162 = .ok (.iconst 5, 1) := by decide +kernel
theorem dD_begin_163 : decode cD_begin 163 = .ok (.invokevirtual 113, 3) := by decide +kernel
theorem dD_begin_166 : decode cD_begin 166 = .ok (.aload_n 0, 1) := by decide +kernel
theorem dD_begin_167 : decode cD_begin 167 = .ok (.iload_n 1, 1) := by decide +kernel
theorem dD_begin_168 : decode cD_begin 168 = .ok (.bipush 7, 2) := by decide +kernel
theorem dD_begin_170 : decode cD_begin 170 = .ok (.iconst 4, 1) := by decide +kernel
theorem dD_begin_171 : decode cD_begin 171 = .ok (.invokevirtual 113, 3) := by decide +kernel
theorem dD_begin_174 : decode cD_begin 174 = .ok (.aload_n 0, 1) := by decide +kernel
theorem dD_begin_175 : decode cD_begin 175 = .ok (.iload_n 1, 1) := by decide +kernel
theorem dD_begin_176 : decode cD_begin 176 = .ok (.bipush 8, 2) := by decide +kernel
theorem dD_begin_178 : decode cD_begin 178 = .ok (.iconst 1, 1) := by decide +kernel
theorem dD_begin_179 : decode cD_begin 179 = .ok (.invokevirtual 113, 3) := by decide +kernel
theorem dD_begin_182 : decode cD_begin 182 = .ok (.aload_n 0, 1) := by decide +kernel
theorem dD_begin_183 : decode cD_begin 183 = .ok (.iload_n 1, 1) := by decide +kernel
theorem dD_begin_184 : decode cD_begin 184 = .ok (.bipush 9, 2) := by decide +kernel
theorem dD_begin_186 : decode cD_begin 186 = .ok (.bipush 8, 2) := by decide +kernel
theorem dD_begin_188 : decode cD_begin 188 = .ok (.invokevirtual 113, 3) := by decide +kernel
theorem dD_begin_191 : decode cD_begin 191 = .ok (.aload_n 0, 1) := by decide +kernel
theorem dD_begin_192 : decode cD_begin 192 = .ok (.iload_n 1, 1) := by decide +kernel
theorem dD_begin_193 : decode cD_begin 193 = .ok (.bipush 10, 2) := by decide +kernel
theorem dD_begin_195 : decode cD_begin 195 = .ok (.iconst 2, 1) := by decide +kernel
theorem dD_begin_196 : decode cD_begin 196 = .ok (.invokevirtual 113, 3) := by decide +kernel
theorem dD_begin_199 : decode cD_begin 199 = .ok (.return_, 1) := by decide +kernel
theorem dD_clear_0 : decode cD_clear 0 = .ok (.aload_n 0, 1) := by decide +kernel
theorem dD_clear_1 : decode cD_clear 1 = .ok (.iconst 0, 1) := by decide +kernel
theorem dD_clear_2 : decode cD_clear 2 = .ok (.putfield 110, 3) := by decide +kernel
theorem dD_clear_5 : decode cD_clear 5 = .ok (.aload_n 0, 1) := by decide +kernel
theorem dD_clear_6 : decode cD_clear 6 = .ok (.iconst 0, 1) := by decide +kernel
theorem dD_clear_7 : decode cD_clear 7 = .ok (.invokevirtual 371, 3) := by decide +kernel
theorem dD_clear_10 : decode cD_clear 10 = .ok (.aload_n 0, 1) := by decide +kernel
theorem dD_clear_11 : decode cD_clear 11 = .ok (.iconst 0, 1) := by decide +kernel
theorem dD_clear_12 : decode cD_clear 12 = .ok (.putfield 145, 3) := by decide +kernel
theorem dD_clear_15 : decode cD_clear 15 = .ok (.aload_n 0, 1) := by decide +kernel
theorem dD_clear_16 : decode cD_clear 16 = .ok (.iconst 0, 1) := by decide +kernel
theorem dD_clear_17 : decode cD_clear 17 = .ok (.putfield 209, 3) := by decide +kernel
theorem dD_clear_20 : decode cD_clear 20 = .ok (.aload_n 0, 1) := by decide +kernel
theorem dD_clear_21 : decode cD_clear 21 = .ok (.iconst 0, 1) := by decide +kernel
theorem dD_clear_22 : decode cD_clear 22 = .ok (.putfield 212, 3) := by decide +kernel
theorem dD_clear_25 : decode cD_clear 25 = .ok (.aload_n 0, 1) := by decide +kernel
theorem dD_clear_26 : decode cD_clear 26 = .ok (.iconst 0, 1) := by decide +kernel
theorem dD_clear_27 : decode cD_clear 27 = .ok (.putfield 255, 3) := by decide +kernel
theorem dD_clear_30 : decode cD_clear 30 = .ok (.aload_n 0, 1) := by decide +kernel
theorem dD_clear_31 : decode cD_clear 31 = .ok (.iconst 0, 1) := by decide +kernel
theorem dD_clear_32 : decode cD_clear 32 = .ok (.putfield 380, 3) := by decide +kernel
theorem dD_clear_35 : decode cD_clear 35 = .ok (.aload_n 0, 1) := by decide +kernel
theorem dD_clear_36 : decode cD_clear 36 = .ok (.iconst 0, 1) := by decide +kernel
theorem dD_clear_37 : decode cD_clear 37 = .ok (.putfield 269, 3) := by decide +kernel
theorem dD_clear_40 : decode cD_clear 40 = .ok (.aload_n 0, 1) := by decide +kernel
theorem dD_clear_41 : decode cD_clear 41 = .ok (.iconst 0, 1) := by decide +kernel
theorem dD_clear_42 : decode cD_clear 42 = .ok (.putfield 349, 3) := by decide +kernel
theorem dD_clear_45 : decode cD_clear 45 = .ok (.return_, 1) := by decide +kernel
theorem dD_init_0 : decode cD_init 0 = .ok (.aload_n 0, 1) := by decide +kernel
theorem dD_init_1 : decode cD_init 1 = .ok (.invokespecial 1, 3) := by decide +kernel
theorem dD_init_4 : decode cD_init 4 = .ok (.aload_n 0, 1) := by decide +kernel
theorem dD_init_5 : decode cD_init 5 = .ok (.sipush 2750, 3) := by decide +kernel
theorem dD_init_8 : decode cD_init 8 = .ok (.newarray .int, 2) := by decide +kernel
theorem dD_init_10 : decode cD_init 10 = .ok (.putfield 7, 3) := by decide +kernel
theorem dD_init_13 : decode cD_init 13 = .ok (.aload_n 0, 1) := by decide +kernel
theorem dD_init_14 : decode cD_init 14 = .ok (.sipush 250, 3) := by decide +kernel
theorem dD_init_17 : decode cD_init 17 = .ok (.newarray .boolean, 2) := by decide +kernel
theorem dD_init_19 : decode cD_init 19 = .ok (.putfield 13, 3) := by decide +kernel
theorem dD_init_22 : decode cD_init 22 = .ok (.aload_n 0, 1) := by decide +kernel
theorem dD_init_23 : decode cD_init 23 = .ok (.sipush 250, 3) := by decide +kernel
theorem dD_init_26 : decode cD_init 26 = .ok (.newarray .boolean, 2) := by decide +kernel
theorem dD_init_28 : decode cD_init 28 = .ok (.putfield 17, 3) := by decide +kernel
theorem dD_init_31 : decode cD_init 31 = .ok (.aload_n 0, 1) := by decide +kernel
theorem dD_init_32 : decode cD_init 32 = .ok (.bipush 8, 2) := by decide +kernel
theorem dD_init_34 : decode cD_init 34 = .ok (.newarray .int, 2) := by decide +kernel
theorem dD_init_36 : decode cD_init 36 = .ok (.putfield 20, 3) := by decide +kernel
theorem dD_init_39 : decode cD_init 39 = .ok (.aload_n 0, 1) := by decide +kernel
theorem dD_init_40 : decode cD_init 40 = .ok (.bipush 10, 2) := by decide +kernel
theorem dD_init_42 : decode cD_init 42 = .ok (.newarray .int, 2) := by decide +kernel
theorem dD_init_44 : decode cD_init 44 = .ok (.putfield 23, 3) := by decide +kernel
theorem dD_init_47 : decode cD_init 47 = .ok (.aload_n 0, 1) := by decide +kernel
theorem dD_init_48 : decode cD_init 48 = .ok (.bipush 40, 2) := by decide +kernel
theorem dD_init_50 : decode cD_init 50 = .ok (.newarray .int, 2) := by decide +kernel
theorem dD_init_52 : decode cD_init 52 = .ok (.putfield 26, 3) := by decide +kernel
theorem dD_init_55 : decode cD_init 55 = .ok (.aload_n 0, 1) := by decide +kernel
theorem dD_init_56 : decode cD_init 56 = .ok (.bipush 40, 2) := by decide +kernel
theorem dD_init_58 : decode cD_init 58 = .ok (.newarray .int, 2) := by decide +kernel
theorem dD_init_60 : decode cD_init 60 = .ok (.putfield 29, 3) := by decide +kernel
theorem dD_init_63 : decode cD_init 63 = .ok (.aload_n 0, 1) := by decide +kernel
theorem dD_init_64 : decode cD_init 64 = .ok (.sipush 800, 3) := by decide +kernel
theorem dD_init_67 : decode cD_init 67 = .ok (.newarray .int, 2) := by decide +kernel
theorem dD_init_69 : decode cD_init 69 = .ok (.putfield 32, 3) := by decide +kernel
theorem dD_init_72 : decode cD_init 72 = .ok (.aload_n 0, 1) := by decide +kernel
theorem dD_init_73 : decode cD_init 73 = .ok (.bipush 40, 2) := by decide +kernel
theorem dD_init_75 : decode cD_init 75 = .ok (.newarray .int, 2) := by decide +kernel
theorem dD_init_77 : decode cD_init 77 = .ok (.putfield 35, 3) := by decide +kernel
theorem dD_init_80 : decode cD_init 80 = .ok (.aload_n 0, 1) := by decide +kernel
theorem dD_init_81 : decode cD_init 81 = .ok (.sipush 12000, 3) := by decide +kernel
theorem dD_init_84 : decode cD_init 84 = .ok (.newarray .int, 2) := by decide +kernel
theorem dD_init_86 : decode cD_init 86 = .ok (.putfield 38, 3) := by decide +kernel
theorem dD_init_89 : decode cD_init 89 = .ok (.aload_n 0, 1) := by decide +kernel
theorem dD_init_90 : decode cD_init 90 = .ok (.bipush 8, 2) := by decide +kernel
theorem dD_init_92 : decode cD_init 92 = .ok (.newarray .boolean, 2) := by decide +kernel
theorem dD_init_94 : decode cD_init 94 = .ok (.putfield 41, 3) := by decide +kernel
theorem dD_init_97 : decode cD_init 97 = .ok (.aload_n 0, 1) := by decide +kernel
theorem dD_init_98 : decode cD_init 98 = .ok (.bipush 8, 2) := by decide +kernel
theorem dD_init_100 : decode cD_init 100 = .ok (.newarray .int, 2) := by decide +kernel
theorem dD_init_102 : decode cD_init 102 = .ok (.putfield 44, 3) := by decide +kernel
theorem dD_init_105 : decode cD_init 105 = .ok (.aload_n 0, 1) := by decide +kernel
theorem dD_init_106 : decode cD_init 106 = .ok (.bipush 8, 2) := by decide +kernel
theorem dD_init_108 : decode cD_init 108 = .ok (.newarray .int, 2) := by decide +kernel
theorem dD_init_110 : decode cD_init 110 = .ok (.putfield 47, 3) := by decide +kernel
theorem dD_init_113 : decode cD_init 113 = .ok (.aload_n 0, 1) := by decide +kernel
theorem dD_init_114 : decode cD_init 114 = .ok (.sipush 320, 3) := by decide +kernel
theorem dD_init_117 : decode cD_init 117 = .ok (.newarray .int, 2) := by decide +kernel
theorem dD_init_119 : decode cD_init 119 = .ok (.putfield 50, 3) := by decide +kernel
theorem dD_init_122 : decode cD_init 122 = .ok (.aload_n 0, 1) := by decide +kernel
theorem dD_init_123 : decode cD_init 123 = .ok (.ldc 53, 2) := by decide +kernel
theorem dD_init_125 : decode cD_init 125 = .ok (.newarray .int, 2) := by decide +kernel
theorem dD_init_127 : decode cD_init 127 = .ok (.putfield 54, 3) := by decide +kernel
theorem dD_init_130 : decode cD_init 130 = .ok (.aload_n 0, 1) := by decide +kernel
theorem dD_init_131 : decode cD_init 131 = .ok (.sipush 20000, 3) := by decide +kernel
theorem dD_init_134 : decode cD_init 134 = .ok (.newarray .int, 2) := by decide +kernel
theorem dD_init_136 : decode cD_init 136 = .ok (.putfield 57, 3) := by decide +kernel
theorem dD_init_139 : decode cD_init 139 = .ok (.aload_n 0, 1) := by decide +kernel
theorem dD_init_140 : decode cD_init 140 = .ok (.sipush 20000, 3) := by decide +kernel
theorem dD_init_143 : decode cD_init 143 = .ok (.newarray .int, 2) := by decide +kernel
theorem dD_init_145 : decode cD_init 145 = .ok (.putfield 60, 3) := by decide +kernel
theorem dD_init_148 : decode cD_init 148 = .ok (.aload_n 0, 1) := by decide +kernel
theorem dD_init_149 : decode cD_init 149 = .ok (.sipush 2600, 3) := by decide +kernel
theorem dD_init_152 : decode cD_init 152 = .ok (.newarray .int, 2) := by decide +kernel
theorem dD_init_154 : decode cD_init 154 = .ok (.putfield 63, 3) := by decide +kernel
theorem dD_init_157 : decode cD_init 157 = .ok (.aload_n 0, 1) := by decide +kernel
theorem dD_init_158 : decode cD_init 158 = .ok (.sipush 2600, 3) := by decide +kernel
theorem dD_init_161 : decode cD_init 161 = .ok (.newarray .int, 2) := by decide +kernel
theorem dD_init_163 : decode cD_init 163 = .ok (.putfield 66, 3) := by decide +kernel
theorem dD_init_166 : decode cD_init 166 = .ok (.aload_n 0, 1) := by decide +kernel
theorem dD_init_167 : decode cD_init 167 = .ok (.sipush 300, 3) := by decide +kernel
theorem dD_init_170 : decode cD_init 170 = .ok (.newarray .int, 2) := by decide +kernel
theorem dD_init_172 : decode cD_init 172 = .ok (.putfield 69, 3) := by decide +kernel
theorem dD_init_175 : decode cD_init 175 = .ok (.aload_n 0, 1) := by decide +kernel
theorem dD_init_176 : decode cD_init 176 = .ok (.sipush 300, 3) := by decide +kernel
theorem dD_init_179 : decode cD_init 179 = .ok (.newarray .int, 2) := by decide +kernel
theorem dD_init_181 : decode cD_init 181 = .ok (.putfield 72, 3) := by decide +kernel
theorem dD_init_184 : decode cD_init 184 = .ok (.aload_n 0, 1) := by decide +kernel
theorem dD_init_185 : decode cD_init 185 = .ok (.sipush 300, 3) := by decide +kernel
theorem dD_init_188 : decode cD_init 188 = .ok (.newarray .int, 2) := by decide +kernel
theorem dD_init_190 : decode cD_init 190 = .ok (.putfield 75, 3) := by decide +kernel
theorem dD_init_193 : decode cD_init 193 = .ok (.aload_n 0, 1) := by decide +kernel
theorem dD_init_194 : decode cD_init 194 = .ok (.sipush 300, 3) := by decide +kernel
theorem dD_init_197 : decode cD_init 197 = .ok (.newarray .int, 2) := by decide +kernel
theorem dD_init_199 : decode cD_init 199 = .ok (.putfield 78, 3) := by decide +kernel
theorem dD_init_202 : decode cD_init 202 = .ok (.aload_n 0, 1) := by decide +kernel
theorem dD_init_203 : decode cD_init 203 = .ok (.sipush 300, 3) := by decide +kernel
theorem dD_init_206 : decode cD_init 206 = .ok (.newarray .int, 2) := by decide +kernel
theorem dD_init_208 : decode cD_init 208 = .ok (.putfield 81, 3) := by decide +kernel
theorem dD_init_211 : decode cD_init 211 = .ok (.aload_n 0, 1) := by decide +kernel
theorem dD_init_212 : decode cD_init 212 = .ok (.sipush 300, 3) := by decide +kernel
theorem dD_init_215 : decode cD_init 215 = .ok (.newarray .boolean, 2) := by decide +kernel
theorem dD_init_217 : decode cD_init 217 = .ok (.putfield 84, 3) := by decide +kernel
theorem dD_init_220 : decode cD_init 220 = .ok (.aload_n 0, 1) := by decide +kernel
theorem dD_init_221 : decode cD_init 221 = .ok (.sipush 300, 3) := by decide +kernel
theorem dD_init_224 : decode cD_init 224 = .ok (.newarray .boolean, 2) := by decide +kernel
theorem dD_init_226 : decode cD_init 226 = .ok (.putfield 87, 3) := by decide +kernel
theorem dD_init_229 : decode cD_init 229 = .ok (.aload_n 0, 1) := by decide +kernel
theorem dD_init_230 : decode cD_init 230 = .ok (.bipush 24, 2) := by decide +kernel
theorem dD_init_232 : decode cD_init 232 = .ok (.newarray .int, 2) := by decide +kernel
theorem dD_init_234 : decode cD_init 234 = .ok (.putfield 90, 3) := by decide +kernel
theorem dD_init_237 : decode cD_init 237 = .ok (.aload_n 0, 1) := by decide +kernel
theorem dD_init_238 : decode cD_init 238 = .ok (.sipush 200, 3) := by decide +kernel
theorem dD_init_241 : decode cD_init 241 = .ok (.newarray .int, 2) := by decide +kernel
theorem dD_init_243 : decode cD_init 243 = .ok (.putfield 93, 3) := by decide +kernel
theorem dD_init_246 : decode cD_init 246 = .ok (.aload_n 0, 1) := by decide +kernel
theorem dD_init_247 : decode cD_init 247 = .ok (.iload_n 1, 1) := by decide +kernel
theorem dD_init_248 : decode cD_init 248 = .ok (.iconst 1, 1) := by decide +kernel
theorem dD_init_249 : decode cD_init 249 = .ok (.sipush 2000, 3) := by decide +kernel
theorem dD_init_252 : decode cD_init 252 = .ok (.invokestatic 96, 3) := by decide +kernel
theorem dD_init_255 : decode cD_init 255 = .ok (.putfield 100, 3) := by decide +kernel
theorem dD_init_258 : decode cD_init 258 = .ok (.aload_n 0, 1) := by decide +kernel
theorem dD_init_259 : decode cD_init 259 = .ok (.iload_n 2, 1) := by decide +kernel
theorem dD_init_260 : decode cD_init 260 = .ok (.iconst 1, 1) := by decide +kernel
theorem dD_init_261 : decode cD_init 261 = .ok (.sipush 2000, 3) := by decide +kernel
theorem dD_init_264 : decode cD_init 264 = .ok (.invokestatic 96, 3) := by decide +kernel
theorem dD_init_267 : decode cD_init 267 = .ok (.putfield 104, 3) := by decide +kernel
theorem dD_init_270 : decode cD_init 270 = .ok (.aload_n 0, 1) := by decide +kernel
theorem dD_init_271 : decode cD_init 271 = .ok (.invokevirtual 107, 3) := by decide +kernel
theorem dD_init_274 : decode cD_init 274 = .ok (.return_, 1) := by decide +kernel
theorem dD_thrown_0 : decode cD_thrown 0 = .ok (.aload_n 0, 1) := by decide +kernel
theorem dD_thrown_1 : decode cD_thrown 1 = .ok (.getfield 110, 3) := by decide +kernel
theorem dD_thrown_4 : decode cD_thrown 4 = .ok (.ireturn, 1) := by decide +kernel
theorem dD_in_0 : decode cD_in 0 = .ok (.lload_n 0, 1) := by decide +kernel
theorem dD_in_1 : decode cD_in 1 = .ok (.lload_n 2, 1) := by decide +kernel
theorem dD_in_2 : decode cD_in 2 = .ok (.lcmp, 1) := by decide +kernel
theorem dD_in_3 : decode cD_in 3 = .ok (.ifCond .lt 14, 3) := by decide +kernel
theorem dD_in_6 : decode cD_in 6 = .ok (.lload_n 0, 1) := by decide +kernel
theorem dD_in_7 : decode cD_in 7 = .ok (.lload 4, 2) := by decide +kernel
theorem dD_in_9 : decode cD_in 9 = .ok (.lcmp, 1) := by decide +kernel
theorem dD_in_10 : decode cD_in 10 = .ok (.ifCond .gt 7, 3) := by decide +kernel
theorem dD_in_13 : decode cD_in 13 = .ok (.iconst 1, 1) := by decide +kernel
theorem dD_in_14 : decode cD_in 14 = .ok (.goto 4, 3) := by decide +kernel
theorem dD_in_17 : decode cD_in 17 = .ok (.iconst 0, 1) := by decide +kernel
theorem dD_in_18 : decode cD_in 18 = .ok (.ireturn, 1) := by decide +kernel
theorem dD_get_0 : decode cD_get 0 = .ok (.aload_n 0, 1) := by decide +kernel
theorem dD_get_1 : decode cD_get 1 = .ok (.getfield 7, 3) := by decide +kernel
theorem dD_get_4 : decode cD_get 4 = .ok (.bipush 11, 2) := by decide +kernel
theorem dD_get_6 : decode cD_get 6 = .ok (.iload_n 1, 1) := by decide +kernel
theorem dD_get_7 : decode cD_get 7 = .ok (.imul, 1) := by decide +kernel
theorem dD_get_8 : decode cD_get 8 = .ok (.iload_n 2, 1) := by decide +kernel
theorem dD_get_9 : decode cD_get 9 = .ok (.iadd, 1) := by decide +kernel
theorem dD_get_10 : decode cD_get 10 = .ok (.iaload, 1) := by decide +kernel
theorem dD_get_11 : decode cD_get 11 = .ok (.ireturn, 1) := by decide +kernel
theorem dD_placeOf_0 : decode cD_placeOf 0 = .ok (.iconst 5, 1) := by decide +kernel
theorem dD_placeOf_1 : decode cD_placeOf 1 = .ok (.iload_n 0, 1) := by decide +kernel
theorem dD_placeOf_2 : decode cD_placeOf 2 = .ok (.iconst 1, 1) := by decide +kernel
theorem dD_placeOf_3 : decode cD_placeOf 3 = .ok (.iadd, 1) := by decide +kernel
theorem dD_placeOf_4 : decode cD_placeOf 4 = .ok (.imul, 1) := by decide +kernel
theorem dD_placeOf_5 : decode cD_placeOf 5 = .ok (.iload_n 1, 1) := by decide +kernel
theorem dD_placeOf_6 : decode cD_placeOf 6 = .ok (.iadd, 1) := by decide +kernel
theorem dD_placeOf_7 : decode cD_placeOf 7 = .ok (.iconst 1, 1) := by decide +kernel
theorem dD_placeOf_8 : decode cD_placeOf 8 = .ok (.iadd, 1) := by decide +kernel
theorem dD_placeOf_9 : decode cD_placeOf 9 = .ok (.ireturn, 1) := by decide +kernel
theorem dD_isStep_0 : decode cD_isStep 0 = .ok (.iload_n 0, 1) := by decide +kernel
theorem dD_isStep_1 : decode cD_isStep 1 = .ok (.bipush 9, 2) := by decide +kernel
theorem dD_isStep_3 : decode cD_isStep 3 = .ok (.if_icmp .eq 9, 3) := by decide +kernel
theorem dD_isStep_6 : decode cD_isStep 6 = .ok (.iload_n 0, 1) := by decide +kernel
theorem dD_isStep_7 : decode cD_isStep 7 = .ok (.bipush 10, 2) := by decide +kernel
theorem dD_isStep_9 : decode cD_isStep 9 = .ok (.if_icmp .ne 7, 3) := by decide +kernel
theorem dD_isStep_12 : decode cD_isStep 12 = .ok (.iconst 1, 1) := by decide +kernel
theorem dD_isStep_13 : decode cD_isStep 13 = .ok (.goto 4, 3) := by decide +kernel
theorem dD_isStep_16 : decode cD_isStep 16 = .ok (.iconst 0, 1) := by decide +kernel
theorem dD_isStep_17 : decode cD_isStep 17 = .ok (.ireturn, 1) := by decide +kernel
theorem dD_has_0 : decode cD_has 0 = .ok (.iload_n 2, 1) := by decide +kernel
theorem dD_has_1 : decode cD_has 1 = .ok (.invokestatic 117, 3) := by decide +kernel
theorem dD_has_4 : decode cD_has 4 = .ok (.ifCond .eq 12, 3) := by decide +kernel
theorem dD_has_7 : decode cD_has 7 = .ok (.aload_n 0, 1) := by decide +kernel
theorem dD_has_8 : decode cD_has 8 = .ok (.getfield 17, 3) := by decide +kernel
theorem dD_has_11 : decode cD_has 11 = .ok (.iload_n 1, 1) := by decide +kernel
theorem dD_has_12 : decode cD_has 12 = .ok (.baload, 1) := by decide +kernel
theorem dD_has_13 : decode cD_has 13 = .ok (.goto 9, 3) := by decide +kernel
theorem dD_has_16 : decode cD_has 16 = .ok (.aload_n 0, 1) := by decide +kernel
theorem dD_has_17 : decode cD_has 17 = .ok (.getfield 13, 3) := by decide +kernel
theorem dD_has_20 : decode cD_has 20 = .ok (.iload_n 1, 1) := by decide +kernel
theorem dD_has_21 : decode cD_has 21 = .ok (.baload, 1) := by decide +kernel
theorem dD_has_22 : decode cD_has 22 = .ok (.ireturn, 1) := by decide +kernel
theorem dD_force_0 : decode cD_force 0 = .ok (.aload_n 0, 1) := by decide +kernel
theorem dD_force_1 : decode cD_force 1 = .ok (.iload_n 1, 1) := by decide +kernel
theorem dD_force_2 : decode cD_force 2 = .ok (.iload_n 3, 1) := by decide +kernel
theorem dD_force_3 : decode cD_force 3 = .ok (.iload 4, 2) := by decide +kernel
theorem dD_force_5 : decode cD_force 5 = .ok (.invokestatic 121, 3) := by decide +kernel
theorem dD_force_8 : decode cD_force 8 = .ok (.iadd, 1) := by decide +kernel
theorem dD_force_9 : decode cD_force 9 = .ok (.iload_n 2, 1) := by decide +kernel
theorem dD_force_10 : decode cD_force 10 = .ok (.invokevirtual 125, 3) := by decide +kernel
theorem dD_force_13 : decode cD_force 13 = .ok (.ifCond .eq 12, 3) := by decide +kernel
theorem dD_force_16 : decode cD_force 16 = .ok (.iload_n 1, 1) := by decide +kernel
theorem dD_force_17 : decode cD_force 17 = .ok (.iload_n 3, 1) := by decide +kernel
theorem dD_force_18 : decode cD_force 18 = .ok (.iload 4, 2) := by decide +kernel
theorem dD_force_20 : decode cD_force 20 = .ok (.invokestatic 121, 3) := by decide +kernel
theorem dD_force_23 : decode cD_force 23 = .ok (.iadd, 1) := by decide +kernel
theorem dD_force_24 : decode cD_force 24 = .ok (.ireturn, 1) := by decide +kernel
theorem dD_force_25 : decode cD_force 25 = .ok (.iload_n 3, 1) := by decide +kernel
theorem dD_force_26 : decode cD_force 26 = .ok (.ifCond .lt 26, 3) := by decide +kernel
theorem dD_force_29 : decode cD_force 29 = .ok (.aload_n 0, 1) := by decide +kernel
theorem dD_force_30 : decode cD_force 30 = .ok (.iload_n 1, 1) := by decide +kernel
theorem dD_force_31 : decode cD_force 31 = .ok (.iload_n 3, 1) := by decide +kernel
theorem dD_force_32 : decode cD_force 32 = .ok (.iconst (-1), 1) := by decide +kernel
theorem dD_force_33 : decode cD_force 33 = .ok (.invokestatic 121, 3) := by decide +kernel
theorem dD_force_36 : decode cD_force 36 = .ok (.iadd, 1) := by decide +kernel
theorem dD_force_37 : decode cD_force 37 = .ok (.iload_n 2, 1) := by decide +kernel
theorem dD_force_38 : decode cD_force 38 = .ok (.invokevirtual 125, 3) := by decide +kernel
theorem dD_force_41 : decode cD_force 41 = .ok (.ifCond .eq 11, 3) := by decide +kernel
theorem dD_force_44 : decode cD_force 44 = .ok (.iload_n 1, 1) := by decide +kernel
theorem dD_force_45 : decode cD_force 45 = .ok (.iload_n 3, 1) := by decide +kernel
theorem dD_force_46 : decode cD_force 46 = .ok (.iconst (-1), 1) := by decide +kernel
theorem dD_force_47 : decode cD_force 47 = .ok (.invokestatic 121, 3) := by decide +kernel
theorem dD_force_50 : decode cD_force 50 = .ok (.iadd, 1) := by decide +kernel
theorem dD_force_51 : decode cD_force 51 = .ok (.ireturn, 1) := by decide +kernel
theorem dD_force_52 : decode cD_force 52 = .ok (.iload 4, 2) := by decide +kernel
theorem dD_force_54 : decode cD_force 54 = .ok (.ifCond .lt 30, 3) := by decide +kernel
theorem dD_force_57 : decode cD_force 57 = .ok (.aload_n 0, 1) := by decide +kernel
theorem dD_force_58 : decode cD_force 58 = .ok (.iload_n 1, 1) := by decide +kernel
theorem dD_force_59 : decode cD_force 59 = .ok (.iconst (-1), 1) := by decide +kernel
theorem dD_force_60 : decode cD_force 60 = .ok (.iload 4, 2) := by decide +kernel
theorem dD_force_62 : decode cD_force 62 = .ok (.invokestatic 121, 3) := by decide +kernel
theorem dD_force_65 : decode cD_force 65 = .ok (.iadd, 1) := by decide +kernel
theorem dD_force_66 : decode cD_force 66 = .ok (.iload_n 2, 1) := by decide +kernel
theorem dD_force_67 : decode cD_force 67 = .ok (.invokevirtual 125, 3) := by decide +kernel
theorem dD_force_70 : decode cD_force 70 = .ok (.ifCond .eq 14, 3) := by decide +kernel
theorem dD_force_73 : decode cD_force 73 = .ok (.iload_n 1, 1) := by decide +kernel
theorem dD_force_74 : decode cD_force 74 = .ok (.iconst (-1), 1) := by decide +kernel
theorem dD_force_75 : decode cD_force 75 = .ok (.iload 4, 2) := by decide +kernel
theorem dD_force_77 : decode cD_force 77 = .ok (.invokestatic 121, 3) := by decide +kernel
theorem dD_force_80 : decode cD_force 80 = .ok (.iadd, 1) := by decide +kernel
theorem dD_force_81 : decode cD_force 81 = .ok (.goto 4, 3) := by decide +kernel
theorem dD_force_84 : decode cD_force 84 = .ok (.iload_n 1, 1) := by decide +kernel
theorem dD_force_85 : decode cD_force 85 = .ok (.ireturn, 1) := by decide +kernel
theorem dD_tilesOf_0 : decode cD_tilesOf 0 = .ok (.lload_n 0, 1) := by decide +kernel
theorem dD_tilesOf_1 : decode cD_tilesOf 1 = .ok (.lload 4, 2) := by decide +kernel
theorem dD_tilesOf_3 : decode cD_tilesOf 3 = .ok (.ladd, 1) := by decide +kernel
theorem dD_tilesOf_4 : decode cD_tilesOf 4 = .ok (.lconst 1, 1) := by decide +kernel
theorem dD_tilesOf_5 : decode cD_tilesOf 5 = .ok (.lsub, 1) := by decide +kernel
theorem dD_tilesOf_6 : decode cD_tilesOf 6 = .ok (.lload 4, 2) := by decide +kernel
theorem dD_tilesOf_8 : decode cD_tilesOf 8 = .ok (.ldiv, 1) := by decide +kernel
theorem dD_tilesOf_9 : decode cD_tilesOf 9 = .ok (.lload_n 2, 1) := by decide +kernel
theorem dD_tilesOf_10 : decode cD_tilesOf 10 = .ok (.lload 6, 2) := by decide +kernel
theorem dD_tilesOf_12 : decode cD_tilesOf 12 = .ok (.ladd, 1) := by decide +kernel
theorem dD_tilesOf_13 : decode cD_tilesOf 13 = .ok (.lconst 1, 1) := by decide +kernel
theorem dD_tilesOf_14 : decode cD_tilesOf 14 = .ok (.lsub, 1) := by decide +kernel
theorem dD_tilesOf_15 : decode cD_tilesOf 15 = .ok (.lload 6, 2) := by decide +kernel
theorem dD_tilesOf_17 : decode cD_tilesOf 17 = .ok (.ldiv, 1) := by decide +kernel
theorem dD_tilesOf_18 : decode cD_tilesOf 18 = .ok (.lmul, 1) := by decide +kernel
theorem dD_tilesOf_19 : decode cD_tilesOf 19 = .ok (.lreturn, 1) := by decide +kernel
theorem dD_tiles_0 : decode cD_tiles 0 = .ok (.aload_n 0, 1) := by decide +kernel
theorem dD_tiles_1 : decode cD_tiles 1 = .ok (.getfield 23, 3) := by decide +kernel
theorem dD_tiles_4 : decode cD_tiles 4 = .ok (.iload_n 1, 1) := by decide +kernel
theorem dD_tiles_5 : decode cD_tiles 5 = .ok (.iaload, 1) := by decide +kernel
theorem dD_tiles_6 : decode cD_tiles 6 = .ok (.i2l, 1) := by decide +kernel
theorem dD_tiles_7 : decode cD_tiles 7 = .ok (.aload_n 0, 1) := by decide +kernel
theorem dD_tiles_8 : decode cD_tiles 8 = .ok (.getfield 23, 3) := by decide +kernel
theorem dD_tiles_11 : decode cD_tiles 11 = .ok (.iload_n 1, 1) := by decide +kernel
theorem dD_tiles_12 : decode cD_tiles 12 = .ok (.iconst 1, 1) := by decide +kernel
theorem dD_tiles_13 : decode cD_tiles 13 = .ok (.iadd, 1) := by decide +kernel
theorem dD_tiles_14 : decode cD_tiles 14 = .ok (.iaload, 1) := by decide +kernel
theorem dD_tiles_15 : decode cD_tiles 15 = .ok (.i2l, 1) := by decide +kernel
theorem dD_tiles_16 : decode cD_tiles 16 = .ok (.aload_n 0, 1) := by decide +kernel
theorem dD_tiles_17 : decode cD_tiles 17 = .ok (.getfield 23, 3) := by decide +kernel
theorem dD_tiles_20 : decode cD_tiles 20 = .ok (.iload_n 1, 1) := by decide +kernel
theorem dD_tiles_21 : decode cD_tiles 21 = .ok (.iconst 3, 1) := by decide +kernel
theorem dD_tiles_22 : decode cD_tiles 22 = .ok (.iadd, 1) := by decide +kernel
theorem dD_tiles_23 : decode cD_tiles 23 = .ok (.iaload, 1) := by decide +kernel
theorem dD_tiles_24 : decode cD_tiles 24 = .ok (.i2l, 1) := by decide +kernel
theorem dD_tiles_25 : decode cD_tiles 25 = .ok (.aload_n 0, 1) := by decide +kernel
theorem dD_tiles_26 : decode cD_tiles 26 = .ok (.getfield 23, 3) := by decide +kernel
theorem dD_tiles_29 : decode cD_tiles 29 = .ok (.iload_n 1, 1) := by decide +kernel
theorem dD_tiles_30 : decode cD_tiles 30 = .ok (.iconst 4, 1) := by decide +kernel
theorem dD_tiles_31 : decode cD_tiles 31 = .ok (.iadd, 1) := by decide +kernel
theorem dD_tiles_32 : decode cD_tiles 32 = .ok (.iaload, 1) := by decide +kernel
theorem dD_tiles_33 : decode cD_tiles 33 = .ok (.i2l, 1) := by decide +kernel
theorem dD_tiles_34 : decode cD_tiles 34 = .ok (.invokestatic 129, 3) := by decide +kernel
theorem dD_tiles_37 : decode cD_tiles 37 = .ok (.l2i, 1) := by decide +kernel
theorem dD_tiles_38 : decode cD_tiles 38 = .ok (.ireturn, 1) := by decide +kernel
theorem dD_isPlace_0 : decode cD_isPlace 0 = .ok (.iload_n 2, 1) := by decide +kernel
theorem dD_isPlace_1 : decode cD_isPlace 1 = .ok (.i2l, 1) := by decide +kernel
theorem dD_isPlace_2 : decode cD_isPlace 2 = .ok (.lconst 0, 1) := by decide +kernel
theorem dD_isPlace_3 : decode cD_isPlace 3 = .ok (.ldc2_w 133, 3) := by decide +kernel
theorem dD_isPlace_6 : decode cD_isPlace 6 = .ok (.invokestatic 135, 3) := by decide +kernel
theorem dD_isPlace_9 : decode cD_isPlace 9 = .ok (.ifCond .eq 45, 3) := by decide +kernel
theorem dD_isPlace_12 : decode cD_isPlace 12 = .ok (.iload_n 3, 1) := by decide +kernel
theorem dD_isPlace_13 : decode cD_isPlace 13 = .ok (.i2l, 1) := by decide +kernel
theorem dD_isPlace_14 : decode cD_isPlace 14 = .ok (.ldc2_w 139, 3) := by decide +kernel
theorem dD_isPlace_17 : decode cD_isPlace 17 = .ok (.aload_n 0, 1) := by decide +kernel
theorem dD_isPlace_18 : decode cD_isPlace 18 = .ok (.iload_n 1, 1) := by decide +kernel
theorem dD_isPlace_19 : decode cD_isPlace 19 = .ok (.invokevirtual 141, 3) := by decide +kernel
theorem dD_isPlace_22 : decode cD_isPlace 22 = .ok (.i2l, 1) := by decide +kernel
theorem dD_isPlace_23 : decode cD_isPlace 23 = .ok (.lconst 1, 1) := by decide +kernel
theorem dD_isPlace_24 : decode cD_isPlace 24 = .ok (.lsub, 1) := by decide +kernel
theorem dD_isPlace_25 : decode cD_isPlace 25 = .ok (.invokestatic 135, 3) := by decide +kernel
