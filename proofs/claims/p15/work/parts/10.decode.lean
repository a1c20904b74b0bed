theorem dBytes_init_0 : decode cBytes_init 0 = .ok (.aload_n 0, 1) := by decide +kernel
theorem dBytes_init_1 : decode cBytes_init 1 = .ok (.invokespecial 3, 3) := by decide +kernel
theorem dBytes_init_4 : decode cBytes_init 4 = .ok (.aload_n 0, 1) := by decide +kernel
theorem dBytes_init_5 : decode cBytes_init 5 = .ok (.bipush 32, 2) := by decide +kernel
theorem dBytes_init_7 : decode cBytes_init 7 = .ok (.newarray .byte, 2) := by decide +kernel
theorem dBytes_init_9 : decode cBytes_init 9 = .ok (.putfield 11, 3) := by decide +kernel
theorem dBytes_init_12 : decode cBytes_init 12 = .ok (.aload_n 0, 1) := by decide +kernel
theorem dBytes_init_13 : decode cBytes_init 13 = .ok (.iconst 0, 1) := by decide +kernel
theorem dBytes_init_14 : decode cBytes_init 14 = .ok (.putfield 15, 3) := by decide +kernel
theorem dBytes_init_17 : decode cBytes_init 17 = .ok (.aload_n 0, 1) := by decide +kernel
theorem dBytes_init_18 : decode cBytes_init 18 = .ok (.iload_n 1, 1) := by decide +kernel
theorem dBytes_init_19 : decode cBytes_init 19 = .ok (.putfield 19, 3) := by decide +kernel
theorem dBytes_init_22 : decode cBytes_init 22 = .ok (.return_, 1) := by decide +kernel
theorem dAR_copyOf2_0 : decode cAR_copyOf2 0 = .ok (.iload_n 1, 1) := by decide +kernel
theorem dAR_copyOf2_1 : decode cAR_copyOf2 1 = .ok (.aload_n 0, 1) := by decide +kernel
theorem dAR_copyOf2_2 : decode cAR_copyOf2 2 = .ok (.arraylength, 1) := by decide +kernel
theorem dAR_copyOf2_3 : decode cAR_copyOf2 3 = .ok (.if_icmp .ne 11, 3) := by decide +kernel
theorem dAR_copyOf2_6 : decode cAR_copyOf2 6 = .ok (.aload_n 0, 1) := by decide +kernel
theorem dAR_copyOf2_7 : decode cAR_copyOf2 7 = .ok (.invokevirtual 310, 3) := by decide +kernel
theorem dAR_copyOf2_10 : decode cAR_copyOf2 10 = .ok (.checkcast 311, 3) := by decide +kernel
theorem dAR_copyOf2_13 : decode cAR_copyOf2 13 = .ok (.areturn, 1) := by decide +kernel
theorem dAR_copyOf2_14 : decode cAR_copyOf2 14 = .ok (.iload_n 1, 1) := by decide +kernel
theorem dAR_copyOf2_15 : decode cAR_copyOf2 15 = .ok (.newarray .byte, 2) := by decide +kernel
theorem dAR_copyOf2_17 : decode cAR_copyOf2 17 = .ok (.astore_n 2, 1) := by decide +kernel
theorem dAR_copyOf2_18 : decode cAR_copyOf2 18 = .ok (.aload_n 0, 1) := by decide +kernel
theorem dAR_copyOf2_19 : decode cAR_copyOf2 19 = .ok (.iconst 0, 1) := by decide +kernel
theorem dAR_copyOf2_20 : decode cAR_copyOf2 20 = .ok (.aload_n 2, 1) := by decide +kernel
theorem dAR_copyOf2_21 : decode cAR_copyOf2 21 = .ok (.iconst 0, 1) := by decide +kernel
theorem dAR_copyOf2_22 : decode cAR_copyOf2 22 = .ok (.aload_n 0, 1) := by decide +kernel
theorem dAR_copyOf2_23 : decode cAR_copyOf2 23 = .ok (.arraylength, 1) := by decide +kernel
theorem dAR_copyOf2_24 : decode cAR_copyOf2 24 = .ok (.iload_n 1, 1) := by decide +kernel
theorem dAR_copyOf2_25 : decode cAR_copyOf2 25 = .ok (.invokestatic 304, 3) := by decide +kernel
theorem dAR_copyOf2_28 : decode cAR_copyOf2 28 = .ok (.invokestatic 150, 3) := by decide +kernel
theorem dAR_copyOf2_31 : decode cAR_copyOf2 31 = .ok (.aload_n 2, 1) := by decide +kernel
theorem dAR_copyOf2_32 : decode cAR_copyOf2 32 = .ok (.areturn, 1) := by decide +kernel
theorem dBytes_append_0 : decode cBytes_append 0 = .ok (.aload_n 0, 1) := by decide +kernel
theorem dBytes_append_1 : decode cBytes_append 1 = .ok (.getfield 15, 3) := by decide +kernel
theorem dBytes_append_4 : decode cBytes_append 4 = .ok (.aload_n 0, 1) := by decide +kernel
theorem dBytes_append_5 : decode cBytes_append 5 = .ok (.getfield 19, 3) := by decide +kernel
theorem dBytes_append_8 : decode cBytes_append 8 = .ok (.if_icmp .lt 5, 3) := by decide +kernel
theorem dBytes_append_11 : decode cBytes_append 11 = .ok (.iconst 0, 1) := by decide +kernel
theorem dBytes_append_12 : decode cBytes_append 12 = .ok (.ireturn, 1) := by decide +kernel
theorem dBytes_append_13 : decode cBytes_append 13 = .ok (.aload_n 0, 1) := by decide +kernel
theorem dBytes_append_14 : decode cBytes_append 14 = .ok (.getfield 15, 3) := by decide +kernel
theorem dBytes_append_17 : decode cBytes_append 17 = .ok (.aload_n 0, 1) := by decide +kernel
theorem dBytes_append_18 : decode cBytes_append 18 = .ok (.getfield 11, 3) := by decide +kernel
theorem dBytes_append_21 : decode cBytes_append 21 = .ok (.arraylength, 1) := by decide +kernel
theorem dBytes_append_22 : decode cBytes_append 22 = .ok (.if_icmp .lt 28, 3) := by decide +kernel
theorem dBytes_append_25 : decode cBytes_append 25 = .ok (.aload_n 0, 1) := by decide +kernel
theorem dBytes_append_26 : decode cBytes_append 26 = .ok (.aload_n 0, 1) := by decide +kernel
theorem dBytes_append_27 : decode cBytes_append 27 = .ok (.getfield 11, 3) := by decide +kernel
theorem dBytes_append_30 : decode cBytes_append 30 = .ok (.aload_n 0, 1) := by decide +kernel
theorem dBytes_append_31 : decode cBytes_append 31 = .ok (.getfield 19, 3) := by decide +kernel
theorem dBytes_append_34 : decode cBytes_append 34 = .ok (.iconst 2, 1) := by decide +kernel
theorem dBytes_append_35 : decode cBytes_append 35 = .ok (.aload_n 0, 1) := by decide +kernel
theorem dBytes_append_36 : decode cBytes_append 36 = .ok (.getfield 11, 3) := by decide +kernel
theorem dBytes_append_39 : decode cBytes_append 39 = .ok (.arraylength, 1) := by decide +kernel
theorem dBytes_append_40 : decode cBytes_append 40 = .ok (.imul, 1) := by decide +kernel
theorem dBytes_append_41 : decode cBytes_append 41 = .ok (.invokestatic 22, 3) := by decide +kernel
theorem dBytes_append_44 : decode cBytes_append 44 = .ok (.invokestatic 28, 3) := by decide +kernel
theorem dBytes_append_47 : decode cBytes_append 47 = .ok (.putfield 11, 3) := by decide +kernel
theorem dBytes_append_50 : decode cBytes_append 50 = .ok (.aload_n 0, 1) := by decide +kernel
theorem dBytes_append_51 : decode cBytes_append 51 = .ok (.getfield 11, 3) := by decide +kernel
theorem dBytes_append_54 : decode cBytes_append 54 = .ok (.aload_n 0, 1) := by decide +kernel
theorem dBytes_append_55 : decode cBytes_append 55 = .ok (.getfield 15, 3) := by decide +kernel
theorem dBytes_append_58 : decode cBytes_append 58 = .ok (.iload_n 1, 1) := by decide +kernel
theorem dBytes_append_59 : decode cBytes_append 59 = .ok (.i2b, 1) := by decide +kernel
theorem dBytes_append_60 : decode cBytes_append 60 = .ok (.bastore, 1) := by decide +kernel
theorem dBytes_append_61 : decode cBytes_append 61 = .ok (.aload_n 0, 1) := by decide +kernel
theorem dBytes_append_62 : decode cBytes_append 62 = .ok (.dup, 1) := by decide +kernel
theorem dBytes_append_63 : decode cBytes_append 63 = .ok (.getfield 15, 3) := by decide +kernel
theorem dBytes_append_66 : decode cBytes_append 66 = .ok (.iconst 1, 1) := by decide +kernel
theorem dBytes_append_67 : decode cBytes_append 67 = .ok (.iadd, 1) := by decide +kernel
theorem dBytes_append_68 : decode cBytes_append 68 = .ok (.putfield 15, 3) := by decide +kernel
theorem dBytes_append_71 : decode cBytes_append 71 = .ok (.iconst 1, 1) := by decide +kernel
theorem dBytes_append_72 : decode cBytes_append 72 = .ok (.ireturn, 1) := by decide +kernel
theorem dBytes_appendNumber_0 : decode cBytes_appendNumber 0 = .ok (.bipush 8, 2) := by decide +kernel
theorem dBytes_appendNumber_2 : decode cBytes_appendNumber 2 = .ok (.iload_n 2, 1) := by decide +kernel
theorem dBytes_appendNumber_3 : decode cBytes_appendNumber 3 = .ok (.iconst 1, 1) := by decide +kernel
theorem dBytes_appendNumber_4 : decode cBytes_appendNumber 4 = .ok (.isub, 1) := by decide +kernel
theorem dBytes_appendNumber_5 : decode cBytes_appendNumber 5 = .ok (.imul, 1) := by decide +kernel
theorem dBytes_appendNumber_6 : decode cBytes_appendNumber 6 = .ok (.istore_n 3, 1) := by decide +kernel
theorem dBytes_appendNumber_7 : decode cBytes_appendNumber 7 = .ok (.iload_n 3, 1) := by decide +kernel
theorem dBytes_appendNumber_8 : decode cBytes_appendNumber 8 = .ok (.ifCond .lt 21, 3) := by decide +kernel
theorem dBytes_appendNumber_11 : decode cBytes_appendNumber 11 = .ok (.aload_n 0, 1) := by decide +kernel
theorem dBytes_appendNumber_12 : decode cBytes_appendNumber 12 = .ok (.iload_n 1, 1) := by decide +kernel
theorem dBytes_appendNumber_13 : decode cBytes_appendNumber 13 = .ok (.iload_n 3, 1) := by decide +kernel
theorem dBytes_appendNumber_14 : decode cBytes_appendNumber 14 = .ok (.iushr, 1) := by decide +kernel
theorem dBytes_appendNumber_15 : decode cBytes_appendNumber 15 = .ok (.sipush 255, 3) := by decide +kernel
theorem dBytes_appendNumber_18 : decode cBytes_appendNumber 18 = .ok (.iand, 1) := by decide +kernel
theorem dBytes_appendNumber_19 : decode cBytes_appendNumber 19 = .ok (.invokevirtual 34, 3) := by decide +kernel
theorem dBytes_appendNumber_22 : decode cBytes_appendNumber 22 = .ok (.pop, 1) := by decide +kernel
theorem dBytes_appendNumber_23 : decode cBytes_appendNumber 23 = .ok (.iinc 3 (-8), 3) := by decide +kernel
theorem dBytes_appendNumber_26 : decode cBytes_appendNumber 26 = .ok (.goto (-19), 3) := by decide +kernel
theorem dBytes_appendNumber_29 : decode cBytes_appendNumber 29 = .ok (.return_, 1) := by decide +kernel
theorem dBytes_get_0 : decode cBytes_get 0 = .ok (.iload_n 1, 1) := by decide +kernel
theorem dBytes_get_1 : decode cBytes_get 1 = .ok (.ifCond .lt 24, 3) := by decide +kernel
theorem dBytes_get_4 : decode cBytes_get 4 = .ok (.iload_n 1, 1) := by decide +kernel
theorem dBytes_get_5 : decode cBytes_get 5 = .ok (.aload_n 0, 1) := by decide +kernel
theorem dBytes_get_6 : decode cBytes_get 6 = .ok (.getfield 15, 3) := by decide +kernel
theorem dBytes_get_9 : decode cBytes_get 9 = .ok (.if_icmp .ge 16, 3) := by decide +kernel
theorem dBytes_get_12 : decode cBytes_get 12 = .ok (.aload_n 0, 1) := by decide +kernel
theorem dBytes_get_13 : decode cBytes_get 13 = .ok (.getfield 11, 3) := by decide +kernel
theorem dBytes_get_16 : decode cBytes_get 16 = .ok (.iload_n 1, 1) := by decide +kernel
theorem dBytes_get_17 : decode cBytes_get 17 = .ok (.baload, 1) := by decide +kernel
theorem dBytes_get_18 : decode cBytes_get 18 = .ok (.sipush 255, 3) := by decide +kernel
theorem dBytes_get_21 : decode cBytes_get 21 = .ok (.iand, 1) := by decide +kernel
theorem dBytes_get_22 : decode cBytes_get 22 = .ok (.goto 4, 3) := by decide +kernel
theorem dBytes_get_25 : decode cBytes_get 25 = .ok (.iconst (-1), 1) := by decide +kernel
theorem dBytes_get_26 : decode cBytes_get 26 = .ok (.ireturn, 1) := by decide +kernel
theorem dBytes_put_0 : decode cBytes_put 0 = .ok (.iload_n 1, 1) := by decide +kernel
theorem dBytes_put_1 : decode cBytes_put 1 = .ok (.ifCond .lt 19, 3) := by decide +kernel
theorem dBytes_put_4 : decode cBytes_put 4 = .ok (.iload_n 1, 1) := by decide +kernel
theorem dBytes_put_5 : decode cBytes_put 5 = .ok (.aload_n 0, 1) := by decide +kernel
theorem dBytes_put_6 : decode cBytes_put 6 = .ok (.getfield 15, 3) := by decide +kernel
theorem dBytes_put_9 : decode cBytes_put 9 = .ok (.if_icmp .ge 11, 3) := by decide +kernel
theorem dBytes_put_12 : decode cBytes_put 12 = .ok (.aload_n 0, 1) := by decide +kernel
theorem dBytes_put_13 : decode cBytes_put 13 = .ok (.getfield 11, 3) := by decide +kernel
theorem dBytes_put_16 : decode cBytes_put 16 = .ok (.iload_n 1, 1) := by decide +kernel
theorem dBytes_put_17 : decode cBytes_put 17 = .ok (.iload_n 2, 1) := by decide +kernel
theorem dBytes_put_18 : decode cBytes_put 18 = .ok (.i2b, 1) := by decide +kernel
theorem dBytes_put_19 : decode cBytes_put 19 = .ok (.bastore, 1) := by decide +kernel
theorem dBytes_put_20 : decode cBytes_put 20 = .ok (.return_, 1) := by decide +kernel
theorem dBytes_putNumber4_0 : decode cBytes_putNumber4 0 = .ok (.iconst 0, 1) := by decide +kernel
theorem dBytes_putNumber4_1 : decode cBytes_putNumber4 1 = .ok (.istore_n 3, 1) := by decide +kernel
theorem dBytes_putNumber4_2 : decode cBytes_putNumber4 2 = .ok (.iload_n 3, 1) := by decide +kernel
theorem dBytes_putNumber4_3 : decode cBytes_putNumber4 3 = .ok (.iconst 4, 1) := by decide +kernel
theorem dBytes_putNumber4_4 : decode cBytes_putNumber4 4 = .ok (.if_icmp .ge 29, 3) := by decide +kernel
theorem dBytes_putNumber4_7 : decode cBytes_putNumber4 7 = .ok (.aload_n 0, 1) := by decide +kernel
theorem dBytes_putNumber4_8 : decode cBytes_putNumber4 8 = .ok (.iload_n 1, 1) := by decide +kernel
theorem dBytes_putNumber4_9 : decode cBytes_putNumber4 9 = .ok (.iload_n 3, 1) := by decide +kernel
theorem dBytes_putNumber4_10 : decode cBytes_putNumber4 10 = .ok (.iadd, 1) := by decide +kernel
theorem dBytes_putNumber4_11 : decode cBytes_putNumber4 11 = .ok (.iload_n 2, 1) := by decide +kernel
theorem dBytes_putNumber4_12 : decode cBytes_putNumber4 12 = .ok (.bipush 24, 2) := by decide +kernel
theorem dBytes_putNumber4_14 : decode cBytes_putNumber4 14 = .ok (.bipush 8, 2) := by decide +kernel
theorem dBytes_putNumber4_16 : decode cBytes_putNumber4 16 = .ok (.iload_n 3, 1) := by decide +kernel
theorem dBytes_putNumber4_17 : decode cBytes_putNumber4 17 = .ok (.imul, 1) := by decide +kernel
theorem dBytes_putNumber4_18 : decode cBytes_putNumber4 18 = .ok (.isub, 1) := by decide +kernel
theorem dBytes_putNumber4_19 : decode cBytes_putNumber4 19 = .ok (.iushr, 1) := by decide +kernel
theorem dBytes_putNumber4_20 : decode cBytes_putNumber4 20 = .ok (.sipush 255, 3) := by decide +kernel
theorem dBytes_putNumber4_23 : decode cBytes_putNumber4 23 = .ok (.iand, 1) := by decide +kernel
theorem dBytes_putNumber4_24 : decode cBytes_putNumber4 24 = .ok (.invokevirtual 38, 3) := by decide +kernel
theorem dBytes_putNumber4_27 : decode cBytes_putNumber4 27 = .ok (.iinc 3 1, 3) := by decide +kernel
theorem dBytes_putNumber4_30 : decode cBytes_putNumber4 30 = .ok (.goto (-28), 3) := by decide +kernel
theorem dBytes_putNumber4_33 : decode cBytes_putNumber4 33 = .ok (.return_, 1) := by decide +kernel
theorem dBytes_number_0 : decode cBytes_number 0 = .ok (.lconst 0, 1) := by decide +kernel
theorem dBytes_number_1 : decode cBytes_number 1 = .ok (.lstore_n 3, 1) := by decide +kernel
theorem dBytes_number_2 : decode cBytes_number 2 = .ok (.iconst 0, 1) := by decide +kernel
theorem dBytes_number_3 : decode cBytes_number 3 = .ok (.istore 5, 2) := by decide +kernel
theorem dBytes_number_5 : decode cBytes_number 5 = .ok (.iload 5, 2) := by decide +kernel
theorem dBytes_number_7 : decode cBytes_number 7 = .ok (.iload_n 2, 1) := by decide +kernel
theorem dBytes_number_8 : decode cBytes_number 8 = .ok (.if_icmp .ge 29, 3) := by decide +kernel
theorem dBytes_number_11 : decode cBytes_number 11 = .ok (.lload_n 3, 1) := by decide +kernel
theorem dBytes_number_12 : decode cBytes_number 12 = .ok (.ldc2_w 42, 3) := by decide +kernel
theorem dBytes_number_15 : decode cBytes_number 15 = .ok (.lmul, 1) := by decide +kernel
theorem dBytes_number_16 : decode cBytes_number 16 = .ok (.iconst 0, 1) := by decide +kernel
theorem dBytes_number_17 : decode cBytes_number 17 = .ok (.aload_n 0, 1) := by decide +kernel
theorem dBytes_number_18 : decode cBytes_number 18 = .ok (.iload_n 1, 1) := by decide +kernel
theorem dBytes_number_19 : decode cBytes_number 19 = .ok (.iload 5, 2) := by decide +kernel
theorem dBytes_number_21 : decode cBytes_number 21 = .ok (.iadd, 1) := by decide +kernel
theorem dBytes_number_22 : decode cBytes_number 22 = .ok (.invokevirtual 44, 3) := by decide +kernel
theorem dBytes_number_25 : decode cBytes_number 25 = .ok (.invokestatic 48, 3) := by decide +kernel
theorem dBytes_number_28 : decode cBytes_number 28 = .ok (.i2l, 1) := by decide +kernel
theorem dBytes_number_29 : decode cBytes_number 29 = .ok (.ladd, 1) := by decide +kernel
theorem dBytes_number_30 : decode cBytes_number 30 = .ok (.lstore_n 3, 1) := by decide +kernel
theorem dBytes_number_31 : decode cBytes_number 31 = .ok (.iinc 5 1, 3) := by decide +kernel
theorem dBytes_number_34 : decode cBytes_number 34 = .ok (.goto (-29), 3) := by decide +kernel
theorem dBytes_number_37 : decode cBytes_number 37 = .ok (.lload_n 3, 1) := by decide +kernel
theorem dBytes_number_38 : decode cBytes_number 38 = .ok (.lreturn, 1) := by decide +kernel
theorem dBytes_copy_0 : decode cBytes_copy 0 = .ok (.aload_n 0, 1) := by decide +kernel
theorem dBytes_copy_1 : decode cBytes_copy 1 = .ok (.getfield 11, 3) := by decide +kernel
theorem dBytes_copy_4 : decode cBytes_copy 4 = .ok (.arraylength, 1) := by decide +kernel
theorem dBytes_copy_5 : decode cBytes_copy 5 = .ok (.aload_n 1, 1) := by decide +kernel
theorem dBytes_copy_6 : decode cBytes_copy 6 = .ok (.getfield 11, 3) := by decide +kernel
theorem dBytes_copy_9 : decode cBytes_copy 9 = .ok (.arraylength, 1) := by decide +kernel
theorem dBytes_copy_10 : decode cBytes_copy 10 = .ok (.if_icmp .ge 14, 3) := by decide +kernel
theorem dBytes_copy_13 : decode cBytes_copy 13 = .ok (.aload_n 0, 1) := by decide +kernel
theorem dBytes_copy_14 : decode cBytes_copy 14 = .ok (.aload_n 1, 1) := by decide +kernel
theorem dBytes_copy_15 : decode cBytes_copy 15 = .ok (.getfield 11, 3) := by decide +kernel
theorem dBytes_copy_18 : decode cBytes_copy 18 = .ok (.arraylength, 1) := by decide +kernel
theorem dBytes_copy_19 : decode cBytes_copy 19 = .ok (.newarray .byte, 2) := by decide +kernel
theorem dBytes_copy_21 : decode cBytes_copy 21 = .ok (.putfield 11, 3) := by decide +kernel
theorem dBytes_copy_24 : decode cBytes_copy 24 = .ok (.aload_n 1, 1) := by decide +kernel
theorem dBytes_copy_25 : decode cBytes_copy 25 = .ok (.getfield 11, 3) := by decide +kernel
theorem dBytes_copy_28 : decode cBytes_copy 28 = .ok (.iconst 0, 1) := by decide +kernel
theorem dBytes_copy_29 : decode cBytes_copy 29 = .ok (.aload_n 0, 1) := by decide +kernel
theorem dBytes_copy_30 : decode cBytes_copy 30 = .ok (.getfield 11, 3) := by decide +kernel
theorem dBytes_copy_33 : decode cBytes_copy 33 = .ok (.iconst 0, 1) := by decide +kernel
theorem dBytes_copy_34 : decode cBytes_copy 34 = .ok (.aload_n 1, 1) := by decide +kernel
theorem dBytes_copy_35 : decode cBytes_copy 35 = .ok (.getfield 15, 3) := by decide +kernel
theorem dBytes_copy_38 : decode cBytes_copy 38 = .ok (.invokestatic 51, 3) := by decide +kernel
theorem dBytes_copy_41 : decode cBytes_copy 41 = .ok (.aload_n 0, 1) := by decide +kernel
theorem dBytes_copy_42 : decode cBytes_copy 42 = .ok (.aload_n 1, 1) := by decide +kernel
theorem dBytes_copy_43 : decode cBytes_copy 43 = .ok (.getfield 15, 3) := by decide +kernel
theorem dBytes_copy_46 : decode cBytes_copy 46 = .ok (.putfield 15, 3) := by decide +kernel
theorem dBytes_copy_49 : decode cBytes_copy 49 = .ok (.return_, 1) := by decide +kernel
theorem dNumbers_init_0 : decode cNumbers_init 0 = .ok (.aload_n 0, 1) := by decide +kernel
theorem dNumbers_init_1 : decode cNumbers_init 1 = .ok (.invokespecial 3, 3) := by decide +kernel
theorem dNumbers_init_4 : decode cNumbers_init 4 = .ok (.aload_n 0, 1) := by decide +kernel
theorem dNumbers_init_5 : decode cNumbers_init 5 = .ok (.bipush 8, 2) := by decide +kernel
theorem dNumbers_init_7 : decode cNumbers_init 7 = .ok (.newarray .int, 2) := by decide +kernel
theorem dNumbers_init_9 : decode cNumbers_init 9 = .ok (.putfield 11, 3) := by decide +kernel
theorem dNumbers_init_12 : decode cNumbers_init 12 = .ok (.aload_n 0, 1) := by decide +kernel
theorem dNumbers_init_13 : decode cNumbers_init 13 = .ok (.iconst 0, 1) := by decide +kernel
theorem dNumbers_init_14 : decode cNumbers_init 14 = .ok (.putfield 15, 3) := by decide +kernel
theorem dNumbers_init_17 : decode cNumbers_init 17 = .ok (.return_, 1) := by decide +kernel
theorem dAR_copyOf4_0 : decode cAR_copyOf4 0 = .ok (.iload_n 1, 1) := by decide +kernel
theorem dAR_copyOf4_1 : decode cAR_copyOf4 1 = .ok (.aload_n 0, 1) := by decide +kernel
theorem dAR_copyOf4_2 : decode cAR_copyOf4 2 = .ok (.arraylength, 1) := by decide +kernel
theorem dAR_copyOf4_3 : decode cAR_copyOf4 3 = .ok (.if_icmp .ne 11, 3) := by decide +kernel
theorem dAR_copyOf4_6 : decode cAR_copyOf4 6 = .ok (.aload_n 0, 1) := by decide +kernel
theorem dAR_copyOf4_7 : decode cAR_copyOf4 7 = .ok (.invokevirtual 316, 3) := by decide +kernel
theorem dAR_copyOf4_10 : decode cAR_copyOf4 10 = .ok (.checkcast 317, 3) := by decide +kernel
theorem dAR_copyOf4_13 : decode cAR_copyOf4 13 = .ok (.areturn, 1) := by decide +kernel
theorem dAR_copyOf4_14 : decode cAR_copyOf4 14 = .ok (.iload_n 1, 1) := by decide +kernel
theorem dAR_copyOf4_15 : decode cAR_copyOf4 15 = .ok (.newarray .int, 2) := by decide +kernel
theorem dAR_copyOf4_17 : decode cAR_copyOf4 17 = .ok (.astore_n 2, 1) := by decide +kernel
theorem dAR_copyOf4_18 : decode cAR_copyOf4 18 = .ok (.aload_n 0, 1) := by decide +kernel
theorem dAR_copyOf4_19 : decode cAR_copyOf4 19 = .ok (.iconst 0, 1) := by decide +kernel
theorem dAR_copyOf4_20 : decode cAR_copyOf4 20 = .ok (.aload_n 2, 1) := by decide +kernel
theorem dAR_copyOf4_21 : decode cAR_copyOf4 21 = .ok (.iconst 0, 1) := by decide +kernel
theorem dAR_copyOf4_22 : decode cAR_copyOf4 22 = .ok (.aload_n 0, 1) := by decide +kernel
theorem dAR_copyOf4_23 : decode cAR_copyOf4 23 = .ok (.arraylength, 1) := by decide +kernel
theorem dAR_copyOf4_24 : decode cAR_copyOf4 24 = .ok (.iload_n 1, 1) := by decide +kernel
theorem dAR_copyOf4_25 : decode cAR_copyOf4 25 = .ok (.invokestatic 304, 3) := by decide +kernel
theorem dAR_copyOf4_28 : decode cAR_copyOf4 28 = .ok (.invokestatic 150, 3) := by decide +kernel
theorem dAR_copyOf4_31 : decode cAR_copyOf4 31 = .ok (.aload_n 2, 1) := by decide +kernel
theorem dAR_copyOf4_32 : decode cAR_copyOf4 32 = .ok (.areturn, 1) := by decide +kernel
theorem dNumbers_append_0 : decode cNumbers_append 0 = .ok (.aload_n 0, 1) := by decide +kernel
theorem dNumbers_append_1 : decode cNumbers_append 1 = .ok (.getfield 15, 3) := by decide +kernel
theorem dNumbers_append_4 : decode cNumbers_append 4 = .ok (.aload_n 0, 1) := by decide +kernel
theorem dNumbers_append_5 : decode cNumbers_append 5 = .ok (.getfield 11, 3) := by decide +kernel
theorem dNumbers_append_8 : decode cNumbers_append 8 = .ok (.arraylength, 1) := by decide +kernel
theorem dNumbers_append_9 : decode cNumbers_append 9 = .ok (.if_icmp .lt 21, 3) := by decide +kernel
theorem dNumbers_append_12 : decode cNumbers_append 12 = .ok (.aload_n 0, 1) := by decide +kernel
theorem dNumbers_append_13 : decode cNumbers_append 13 = .ok (.aload_n 0, 1) := by decide +kernel
theorem dNumbers_append_14 : decode cNumbers_append 14 = .ok (.getfield 11, 3) := by decide +kernel
theorem dNumbers_append_17 : decode cNumbers_append 17 = .ok (.iconst 2, 1) := by decide +kernel
theorem dNumbers_append_18 : decode cNumbers_append 18 = .ok (.aload_n 0, 1) := by decide +kernel
theorem dNumbers_append_19 : decode cNumbers_append 19 = .ok (.getfield 11, 3) := by decide +kernel
theorem dNumbers_append_22 : decode cNumbers_append 22 = .ok (.arraylength, 1) := by decide +kernel
theorem dNumbers_append_23 : decode cNumbers_append 23 = .ok (.imul, 1) := by decide +kernel
theorem dNumbers_append_24 : decode cNumbers_append 24 = .ok (.invokestatic 19, 3) := by decide +kernel
theorem dNumbers_append_27 : decode cNumbers_append 27 = .ok (.putfield 11, 3) := by decide +kernel
theorem dNumbers_append_30 : decode cNumbers_append 30 = .ok (.aload_n 0, 1) := by decide +kernel
theorem dNumbers_append_31 : decode cNumbers_append 31 = .ok (.getfield 11, 3) := by decide +kernel
theorem dNumbers_append_34 : decode cNumbers_append 34 = .ok (.aload_n 0, 1) := by decide +kernel
theorem dNumbers_append_35 : decode cNumbers_append 35 = .ok (.getfield 15, 3) := by decide +kernel
theorem dNumbers_append_38 : decode cNumbers_append 38 = .ok (.iload_n 1, 1) := by decide +kernel
theorem dNumbers_append_39 : decode cNumbers_append 39 = .ok (.iastore, 1) := by decide +kernel
theorem dNumbers_append_40 : decode cNumbers_append 40 = .ok (.aload_n 0, 1) := by decide +kernel
theorem dNumbers_append_41 : decode cNumbers_append 41 = .ok (.dup, 1) := by decide +kernel
theorem dNumbers_append_42 : decode cNumbers_append 42 = .ok (.getfield 15, 3) := by decide +kernel
theorem dNumbers_append_45 : decode cNumbers_append 45 = .ok (.iconst 1, 1) := by decide +kernel
theorem dNumbers_append_46 : decode cNumbers_append 46 = .ok (.iadd, 1) := by decide +kernel
theorem dNumbers_append_47 : decode cNumbers_append 47 = .ok (.putfield 15, 3) := by decide +kernel
theorem dNumbers_append_50 : decode cNumbers_append 50 = .ok (.return_, 1) := by decide +kernel
theorem dNumbers_get_0 : decode cNumbers_get 0 = .ok (.iload_n 1, 1) := by decide +kernel
theorem dNumbers_get_1 : decode cNumbers_get 1 = .ok (.ifCond .lt 20, 3) := by decide +kernel
theorem dNumbers_get_4 : decode cNumbers_get 4 = .ok (.iload_n 1, 1) := by decide +kernel
theorem dNumbers_get_5 : decode cNumbers_get 5 = .ok (.aload_n 0, 1) := by decide +kernel
theorem dNumbers_get_6 : decode cNumbers_get 6 = .ok (.getfield 15, 3) := by decide +kernel
theorem dNumbers_get_9 : decode cNumbers_get 9 = .ok (.if_icmp .ge 12, 3) := by decide +kernel
theorem dNumbers_get_12 : decode cNumbers_get 12 = .ok (.aload_n 0, 1) := by decide +kernel
theorem dNumbers_get_13 : decode cNumbers_get 13 = .ok (.getfield 11, 3) := by decide +kernel
theorem dNumbers_get_16 : decode cNumbers_get 16 = .ok (.iload_n 1, 1) := by decide +kernel
theorem dNumbers_get_17 : decode cNumbers_get 17 = .ok (.iaload, 1) := by decide +kernel
theorem dNumbers_get_18 : decode cNumbers_get 18 = .ok (.goto 4, 3) := by decide +kernel
theorem dNumbers_get_21 : decode cNumbers_get 21 = .ok (.iconst (-1), 1) := by decide +kernel
theorem dNumbers_get_22 : decode cNumbers_get 22 = .ok (.ireturn, 1) := by decide +kernel
theorem dTilePart_init_0 : decode cTilePart_init 0 = .ok (.aload_n 0, 1) := by decide +kernel
theorem dTilePart_init_1 : decode cTilePart_init 1 = .ok (.invokespecial 3, 3) := by decide +kernel
theorem dTilePart_init_4 : decode cTilePart_init 4 = .ok (.aload_n 0, 1) := by decide +kernel
theorem dTilePart_init_5 : decode cTilePart_init 5 = .ok (.bipush 20, 2) := by decide +kernel
theorem dTilePart_init_7 : decode cTilePart_init 7 = .ok (.newarray .int, 2) := by decide +kernel
theorem dTilePart_init_9 : decode cTilePart_init 9 = .ok (.putfield 9, 3) := by decide +kernel
theorem dTilePart_init_12 : decode cTilePart_init 12 = .ok (.aload_n 0, 1) := by decide +kernel
theorem dTilePart_init_13 : decode cTilePart_init 13 = .ok (.new 15, 3) := by decide +kernel
theorem dTilePart_init_16 : decode cTilePart_init 16 = .ok (.dup, 1) := by decide +kernel
theorem dTilePart_init_17 : decode cTilePart_init 17 = .ok (.sipush 300, 3) := by decide +kernel
theorem dTilePart_init_20 : decode cTilePart_init 20 = .ok (.invokespecial 17, 3) := by decide +kernel
theorem dTilePart_init_23 : decode cTilePart_init 23 = .ok (.putfield 20, 3) := by decide +kernel
theorem dTilePart_init_26 : decode cTilePart_init 26 = .ok (.aload_n 0, 1) := by decide +kernel
theorem dTilePart_init_27 : decode cTilePart_init 27 = .ok (.iconst 0, 1) := by decide +kernel
theorem dTilePart_init_28 : decode cTilePart_init 28 = .ok (.putfield 24, 3) := by decide +kernel
theorem dTilePart_init_31 : decode cTilePart_init 31 = .ok (.aload_n 0, 1) := by decide +kernel
theorem dTilePart_init_32 : decode cTilePart_init 32 = .ok (.iload_n 1, 1) := by decide +kernel
theorem dTilePart_init_33 : decode cTilePart_init 33 = .ok (.putfield 28, 3) := by decide +kernel
theorem dTilePart_init_36 : decode cTilePart_init 36 = .ok (.aload_n 0, 1) := by decide +kernel
theorem dTilePart_init_37 : decode cTilePart_init 37 = .ok (.iload_n 2, 1) := by decide +kernel
theorem dTilePart_init_38 : decode cTilePart_init 38 = .ok (.putfield 31, 3) := by decide +kernel
theorem dTilePart_init_41 : decode cTilePart_init 41 = .ok (.return_, 1) := by decide +kernel
theorem dTilePart_grow_0 : decode cTilePart_grow 0 = .ok (.aload_n 0, 1) := by decide +kernel
theorem dTilePart_grow_1 : decode cTilePart_grow 1 = .ok (.getfield 24, 3) := by decide +kernel
theorem dTilePart_grow_4 : decode cTilePart_grow 4 = .ok (.iconst 1, 1) := by decide +kernel
theorem dTilePart_grow_5 : decode cTilePart_grow 5 = .ok (.if_icmp .lt 23, 3) := by decide +kernel
theorem dTilePart_grow_8 : decode cTilePart_grow 8 = .ok (.aload_n 0, 1) := by decide +kernel
theorem dTilePart_grow_9 : decode cTilePart_grow 9 = .ok (.getfield 24, 3) := by decide +kernel
theorem dTilePart_grow_12 : decode cTilePart_grow 12 = .ok (.bipush 20, 2) := by decide +kernel
theorem dTilePart_grow_14 : decode cTilePart_grow 14 = .ok (.if_icmp .gt 14, 3) := by decide +kernel
theorem dTilePart_grow_17 : decode cTilePart_grow 17 = .ok (.aload_n 0, 1) := by decide +kernel
theorem dTilePart_grow_18 : decode cTilePart_grow 18 = .ok (.getfield 20, 3) := by decide +kernel
theorem dTilePart_grow_21 : decode cTilePart_grow 21 = .ok (.iload_n 1, 1) := by decide +kernel
theorem dTilePart_grow_22 : decode cTilePart_grow 22 = .ok (.invokevirtual 34, 3) := by decide +kernel
theorem dTilePart_grow_25 : decode cTilePart_grow 25 = .ok (.ifCond .ne 5, 3) := by decide +kernel
theorem dTilePart_grow_28 : decode cTilePart_grow 28 = .ok (.iconst 0, 1) := by decide +kernel
theorem dTilePart_grow_29 : decode cTilePart_grow 29 = .ok (.ireturn, 1) := by decide +kernel
theorem dTilePart_grow_30 : decode cTilePart_grow 30 = .ok (.aload_n 0, 1) := by decide +kernel
theorem dTilePart_grow_31 : decode cTilePart_grow 31 = .ok (.getfield 9, 3) := by decide +kernel
theorem dTilePart_grow_34 : decode cTilePart_grow 34 = .ok (.aload_n 0, 1) := by decide +kernel
theorem dTilePart_grow_35 : decode cTilePart_grow 35 = .ok (.getfield 24, 3) := by decide +kernel
theorem dTilePart_grow_38 : decode cTilePart_grow 38 = .ok (.iconst 1, 1) := by decide +kernel
theorem dTilePart_grow_39 : decode cTilePart_grow 39 = .ok (.isub, 1) := by decide +kernel
theorem dTilePart_grow_40 : decode cTilePart_grow 40 = .ok (.dup2, 1) := by decide +kernel
theorem dTilePart_grow_41 : decode cTilePart_grow 41 = .ok (.iaload, 1) := by decide +kernel
theorem dTilePart_grow_42 : decode cTilePart_grow 42 = .ok (.iconst 1, 1) := by decide +kernel
theorem dTilePart_grow_43 : decode cTilePart_grow 43 = .ok (.iadd, 1) := by decide +kernel
theorem dTilePart_grow_44 : decode cTilePart_grow 44 = .ok (.iastore, 1) := by decide +kernel
theorem dTilePart_grow_45 : decode cTilePart_grow 45 = .ok (.iconst 1, 1) := by decide +kernel
theorem dTilePart_grow_46 : decode cTilePart_grow 46 = .ok (.ireturn, 1) := by decide +kernel
theorem dMadeBox_init_0 : decode cMadeBox_init 0 = .ok (.aload_n 0, 1) := by decide +kernel
theorem dMadeBox_init_1 : decode cMadeBox_init 1 = .ok (.invokespecial 3, 3) := by decide +kernel
theorem dMadeBox_init_4 : decode cMadeBox_init 4 = .ok (.aload_n 0, 1) := by decide +kernel
theorem dMadeBox_init_5 : decode cMadeBox_init 5 = .ok (.new 9, 3) := by decide +kernel
theorem dMadeBox_init_8 : decode cMadeBox_init 8 = .ok (.dup, 1) := by decide +kernel
theorem dMadeBox_init_9 : decode cMadeBox_init 9 = .ok (.bipush 40, 2) := by decide +kernel
theorem dMadeBox_init_11 : decode cMadeBox_init 11 = .ok (.invokespecial 11, 3) := by decide +kernel
theorem dMadeBox_init_14 : decode cMadeBox_init 14 = .ok (.putfield 14, 3) := by decide +kernel
theorem dMadeBox_init_17 : decode cMadeBox_init 17 = .ok (.aload_n 0, 1) := by decide +kernel
theorem dMadeBox_init_18 : decode cMadeBox_init 18 = .ok (.iload_n 1, 1) := by decide +kernel
theorem dMadeBox_init_19 : decode cMadeBox_init 19 = .ok (.putfield 20, 3) := by decide +kernel
theorem dMadeBox_init_22 : decode cMadeBox_init 22 = .ok (.aload_n 0, 1) := by decide +kernel
theorem dMadeBox_init_23 : decode cMadeBox_init 23 = .ok (.iload_n 2, 1) := by decide +kernel
theorem dMadeBox_init_24 : decode cMadeBox_init 24 = .ok (.putfield 24, 3) := by decide +kernel
theorem dMadeBox_init_27 : decode cMadeBox_init 27 = .ok (.return_, 1) := by decide +kernel
theorem dSettings_init_0 : decode cSettings_init 0 = .ok (.aload_n 0, 1) := by decide +kernel
theorem dSettings_init_1 : decode cSettings_init 1 = .ok (.invokespecial 5, 3) := by decide +kernel
theorem dSettings_init_4 : decode cSettings_init 4 = .ok (.aload_n 0, 1) := by decide +kernel
theorem dSettings_init_5 : decode cSettings_init 5 = .ok (.iconst 3, 1) := by decide +kernel
theorem dSettings_init_6 : decode cSettings_init 6 = .ok (.newarray .int, 2) := by decide +kernel
theorem dSettings_init_8 : decode cSettings_init 8 = .ok (.putfield 11, 3) := by decide +kernel
theorem dSettings_init_11 : decode cSettings_init 11 = .ok (.aload_n 0, 1) := by decide +kernel
theorem dSettings_init_12 : decode cSettings_init 12 = .ok (.iconst 4, 1) := by decide +kernel
theorem dSettings_init_13 : decode cSettings_init 13 = .ok (.newarray .int, 2) := by decide +kernel
theorem dSettings_init_15 : decode cSettings_init 15 = .ok (.putfield 15, 3) := by decide +kernel
theorem dSettings_init_18 : decode cSettings_init 18 = .ok (.aload_n 0, 1) := by decide +kernel
theorem dSettings_init_19 : decode cSettings_init 19 = .ok (.sipush 875, 3) := by decide +kernel
theorem dSettings_init_22 : decode cSettings_init 22 = .ok (.newarray .int, 2) := by decide +kernel
theorem dSettings_init_24 : decode cSettings_init 24 = .ok (.putfield 18, 3) := by decide +kernel
theorem dSettings_init_27 : decode cSettings_init 27 = .ok (.aload_n 0, 1) := by decide +kernel
theorem dSettings_init_28 : decode cSettings_init 28 = .ok (.bipush 125, 2) := by decide +kernel
theorem dSettings_init_30 : decode cSettings_init 30 = .ok (.newarray .boolean, 2) := by decide +kernel
theorem dSettings_init_32 : decode cSettings_init 32 = .ok (.putfield 21, 3) := by decide +kernel
theorem dSettings_init_35 : decode cSettings_init 35 = .ok (.aload_n 0, 1) := by decide +kernel
theorem dSettings_init_36 : decode cSettings_init 36 = .ok (.bipush 125, 2) := by decide +kernel
theorem dSettings_init_38 : decode cSettings_init 38 = .ok (.newarray .boolean, 2) := by decide +kernel
theorem dSettings_init_40 : decode cSettings_init 40 = .ok (.putfield 25, 3) := by decide +kernel
theorem dSettings_init_43 : decode cSettings_init 43 = .ok (.aload_n 0, 1) := by decide +kernel
theorem dSettings_init_44 : decode cSettings_init 44 = .ok (.iconst 1, 1) := by decide +kernel
theorem dSettings_init_45 : decode cSettings_init 45 = .ok (.putfield 28, 3) := by decide +kernel
theorem dSettings_init_48 : decode cSettings_init 48 = .ok (.aload_n 0, 1) := by decide +kernel
theorem dSettings_init_49 : decode cSettings_init 49 = .ok (.iconst 1, 1) := by decide +kernel
theorem dSettings_init_50 : decode cSettings_init 50 = .ok (.putfield 32, 3) := by decide +kernel
theorem dSettings_init_53 : decode cSettings_init 53 = .ok (.return_, 1) := by decide +kernel
theorem dSettings_forgetSegments_0 : decode cSettings_forgetSegments 0 = .ok (.iconst 0, 1) := by decide +kernel
theorem dSettings_forgetSegments_1 : decode cSettings_forgetSegments 1 = .ok (.istore_n 1, 1) := by decide +kernel
theorem dSettings_forgetSegments_2 : decode cSettings_forgetSegments 2 = .ok (.iload_n 1, 1) := by decide +kernel
theorem dSettings_forgetSegments_3 : decode cSettings_forgetSegments 3 = .ok (.bipush 125, 2) := by decide +kernel
theorem dSettings_forgetSegments_5 : decode cSettings_forgetSegments 5 = .ok (.if_icmp .ge 23, 3) := by decide +kernel
theorem dSettings_forgetSegments_8 : decode cSettings_forgetSegments 8 = .ok (.aload_n 0, 1) := by decide +kernel
theorem dSettings_forgetSegments_9 : decode cSettings_forgetSegments 9 = .ok (.getfield 21, 3) := by decide +kernel
theorem dSettings_forgetSegments_12 : decode cSettings_forgetSegments 12 = .ok (.iload_n 1, 1) := by decide +kernel
theorem dSettings_forgetSegments_13 : decode cSettings_forgetSegments 13 = .ok (.iconst 0, 1) := by decide +kernel
theorem dSettings_forgetSegments_14 : decode cSettings_forgetSegments 14 = .ok (.bastore, 1) := by decide +kernel
theorem dSettings_forgetSegments_15 : decode cSettings_forgetSegments 15 = .ok (.aload_n 0, 1) := by decide +kernel
theorem dSettings_forgetSegments_16 : decode cSettings_forgetSegments 16 = .ok (.getfield 25, 3) := by decide +kernel
theorem dSettings_forgetSegments_19 : decode cSettings_forgetSegments 19 = .ok (.iload_n 1, 1) := by decide +kernel
theorem dSettings_forgetSegments_20 : decode cSettings_forgetSegments 20 = .ok (.iconst 0, 1) := by decide +kernel
theorem dSettings_forgetSegments_21 : decode cSettings_forgetSegments 21 = .ok (.bastore, 1) := by decide +kernel
theorem dSettings_forgetSegments_22 : decode cSettings_forgetSegments 22 = .ok (.iinc 1 1, 3) := by decide +kernel
theorem dSettings_forgetSegments_25 : decode cSettings_forgetSegments 25 = .ok (.goto (-23), 3) := by decide +kernel
theorem dSettings_forgetSegments_28 : decode cSettings_forgetSegments 28 = .ok (.return_, 1) := by decide +kernel
theorem dSettings_place_0 : decode cSettings_place 0 = .ok (.iload_n 0, 1) := by decide +kernel
theorem dSettings_place_1 : decode cSettings_place 1 = .ok (.bipush 7, 2) := by decide +kernel
theorem dSettings_place_3 : decode cSettings_place 3 = .ok (.imul, 1) := by decide +kernel
theorem dSettings_place_4 : decode cSettings_place 4 = .ok (.iload_n 1, 1) := by decide +kernel
theorem dSettings_place_5 : decode cSettings_place 5 = .ok (.iadd, 1) := by decide +kernel
theorem dSettings_place_6 : decode cSettings_place 6 = .ok (.iconst 4, 1) := by decide +kernel
theorem dSettings_place_7 : decode cSettings_place 7 = .ok (.isub, 1) := by decide +kernel
theorem dSettings_place_8 : decode cSettings_place 8 = .ok (.ireturn, 1) := by decide +kernel
theorem dSettings_hold_0 : decode cSettings_hold 0 = .ok (.aload_n 0, 1) := by decide +kernel
theorem dSettings_hold_1 : decode cSettings_hold 1 = .ok (.getfield 18, 3) := by decide +kernel
theorem dSettings_hold_4 : decode cSettings_hold 4 = .ok (.iload_n 1, 1) := by decide +kernel
theorem dSettings_hold_5 : decode cSettings_hold 5 = .ok (.iload_n 2, 1) := by decide +kernel
theorem dSettings_hold_6 : decode cSettings_hold 6 = .ok (.invokestatic 72, 3) := by decide +kernel
theorem dSettings_hold_9 : decode cSettings_hold 9 = .ok (.iload_n 3, 1) := by decide +kernel
theorem dSettings_hold_10 : decode cSettings_hold 10 = .ok (.iastore, 1) := by decide +kernel
theorem dSettings_hold_11 : decode cSettings_hold 11 = .ok (.iload_n 2, 1) := by decide +kernel
theorem dSettings_hold_12 : decode cSettings_hold 12 = .ok (.bipush 9, 2) := by decide +kernel
theorem dSettings_hold_14 : decode cSettings_hold 14 = .ok (.if_icmp .ge 13, 3) := by decide +kernel
theorem dSettings_hold_17 : decode cSettings_hold 17 = .ok (.aload_n 0, 1) := by decide +kernel
theorem dSettings_hold_18 : decode cSettings_hold 18 = .ok (.getfield 21, 3) := by decide +kernel
theorem dSettings_hold_21 : decode cSettings_hold 21 = .ok (.iload_n 1, 1) := by decide +kernel
theorem dSettings_hold_22 : decode cSettings_hold 22 = .ok (.iconst 1, 1) := by decide +kernel
theorem dSettings_hold_23 : decode cSettings_hold 23 = .ok (.bastore, 1) := by decide +kernel
theorem dSettings_hold_24 : decode cSettings_hold 24 = .ok (.goto 10, 3) := by decide +kernel
theorem dSettings_hold_27 : decode cSettings_hold 27 = .ok (.aload_n 0, 1) := by decide +kernel
theorem dSettings_hold_28 : decode cSettings_hold 28 = .ok (.getfield 25, 3) := by decide +kernel
theorem dSettings_hold_31 : decode cSettings_hold 31 = .ok (.iload_n 1, 1) := by decide +kernel
theorem dSettings_hold_32 : decode cSettings_hold 32 = .ok (.iconst 1, 1) := by decide +kernel
theorem dSettings_hold_33 : decode cSettings_hold 33 = .ok (.bastore, 1) := by decide +kernel
theorem dSettings_hold_34 : decode cSettings_hold 34 = .ok (.return_, 1) := by decide +kernel
theorem dSettings_restart_0 : decode cSettings_restart 0 = .ok (.aload_n 0, 1) := by decide +kernel
theorem dSettings_restart_1 : decode cSettings_restart 1 = .ok (.iload_n 1, 1) := by decide +kernel
theorem dSettings_restart_2 : decode cSettings_restart 2 = .ok (.putfield 28, 3) := by decide +kernel
theorem dSettings_restart_5 : decode cSettings_restart 5 = .ok (.aload_n 0, 1) := by decide +kernel
theorem dSettings_restart_6 : decode cSettings_restart 6 = .ok (.iload_n 2, 1) := by decide +kernel
theorem dSettings_restart_7 : decode cSettings_restart 7 = .ok (.putfield 32, 3) := by decide +kernel
theorem dSettings_restart_10 : decode cSettings_restart 10 = .ok (.aload_n 0, 1) := by decide +kernel
theorem dSettings_restart_11 : decode cSettings_restart 11 = .ok (.getfield 11, 3) := by decide +kernel
theorem dSettings_restart_14 : decode cSettings_restart 14 = .ok (.iconst 0, 1) := by decide +kernel
theorem dSettings_restart_15 : decode cSettings_restart 15 = .ok (.iload_n 1, 1) := by decide +kernel
theorem dSettings_restart_16 : decode cSettings_restart 16 = .ok (.iastore, 1) := by decide +kernel
theorem dSettings_restart_17 : decode cSettings_restart 17 = .ok (.aload_n 0, 1) := by decide +kernel
theorem dSettings_restart_18 : decode cSettings_restart 18 = .ok (.getfield 11, 3) := by decide +kernel
theorem dSettings_restart_21 : decode cSettings_restart 21 = .ok (.iconst 1, 1) := by decide +kernel
theorem dSettings_restart_22 : decode cSettings_restart 22 = .ok (.iload_n 2, 1) := by decide +kernel
theorem dSettings_restart_23 : decode cSettings_restart 23 = .ok (.iastore, 1) := by decide +kernel
theorem dSettings_restart_24 : decode cSettings_restart 24 = .ok (.aload_n 0, 1) := by decide +kernel
theorem dSettings_restart_25 : decode cSettings_restart 25 = .ok (.getfield 11, 3) := by decide +kernel
theorem dSettings_restart_28 : decode cSettings_restart 28 = .ok (.iconst 2, 1) := by decide +kernel
theorem dSettings_restart_29 : decode cSettings_restart 29 = .ok (.getstatic 35, 3) := by decide +kernel
theorem dSettings_restart_32 : decode cSettings_restart 32 = .ok (.iconst 2, 1) := by decide +kernel
theorem dSettings_restart_33 : decode cSettings_restart 33 = .ok (.iaload, 1) := by decide +kernel
theorem dSettings_restart_34 : decode cSettings_restart 34 = .ok (.iastore, 1) := by decide +kernel
theorem dSettings_restart_35 : decode cSettings_restart 35 = .ok (.iconst 0, 1) := by decide +kernel
theorem dSettings_restart_36 : decode cSettings_restart 36 = .ok (.istore_n 3, 1) := by decide +kernel
theorem dSettings_restart_37 : decode cSettings_restart 37 = .ok (.iload_n 3, 1) := by decide +kernel
theorem dSettings_restart_38 : decode cSettings_restart 38 = .ok (.iconst 4, 1) := by decide +kernel
theorem dSettings_restart_39 : decode cSettings_restart 39 = .ok (.if_icmp .ge 20, 3) := by decide +kernel
theorem dSettings_restart_42 : decode cSettings_restart 42 = .ok (.aload_n 0, 1) := by decide +kernel
theorem dSettings_restart_43 : decode cSettings_restart 43 = .ok (.getfield 15, 3) := by decide +kernel
theorem dSettings_restart_46 : decode cSettings_restart 46 = .ok (.iload_n 3, 1) := by decide +kernel
theorem dSettings_restart_47 : decode cSettings_restart 47 = .ok (.getstatic 35, 3) := by decide +kernel
theorem dSettings_restart_50 : decode cSettings_restart 50 = .ok (.iconst 3, 1) := by decide +kernel
theorem dSettings_restart_51 : decode cSettings_restart 51 = .ok (.iaload, 1) := by decide +kernel
theorem dSettings_restart_52 : decode cSettings_restart 52 = .ok (.iastore, 1) := by decide +kernel
theorem dSettings_restart_53 : decode cSettings_restart 53 = .ok (.iinc 3 1, 3) := by decide +kernel
theorem dSettings_restart_56 : decode cSettings_restart 56 = .ok (.goto (-19), 3) := by decide +kernel
theorem dSettings_restart_59 : decode cSettings_restart 59 = .ok (.aload_n 0, 1) := by decide +kernel
theorem dSettings_restart_60 : decode cSettings_restart 60 = .ok (.invokevirtual 38, 3) := by decide +kernel
theorem dSettings_restart_63 : decode cSettings_restart 63 = .ok (.iconst 4, 1) := by decide +kernel
theorem dSettings_restart_64 : decode cSettings_restart 64 = .ok (.istore_n 3, 1) := by decide +kernel
theorem dSettings_restart_65 : decode cSettings_restart 65 = .ok (.iload_n 3, 1) := by decide +kernel
theorem dSettings_restart_66 : decode cSettings_restart 66 = .ok (.bipush 10, 2) := by decide +kernel
theorem dSettings_restart_68 : decode cSettings_restart 68 = .ok (.if_icmp .gt 20, 3) := by decide +kernel
theorem dSettings_restart_71 : decode cSettings_restart 71 = .ok (.aload_n 0, 1) := by decide +kernel
theorem dSettings_restart_72 : decode cSettings_restart 72 = .ok (.iconst 0, 1) := by decide +kernel
theorem dSettings_restart_73 : decode cSettings_restart 73 = .ok (.iload_n 3, 1) := by decide +kernel
theorem dSettings_restart_74 : decode cSettings_restart 74 = .ok (.getstatic 35, 3) := by decide +kernel
theorem dSettings_restart_77 : decode cSettings_restart 77 = .ok (.iload_n 3, 1) := by decide +kernel
theorem dSettings_restart_78 : decode cSettings_restart 78 = .ok (.iaload, 1) := by decide +kernel
theorem dSettings_restart_79 : decode cSettings_restart 79 = .ok (.invokevirtual 41, 3) := by decide +kernel
theorem dSettings_restart_82 : decode cSettings_restart 82 = .ok (.iinc 3 1, 3) := by decide +kernel
theorem dSettings_restart_85 : decode cSettings_restart 85 = .ok (.goto (-20), 3) := by decide +kernel
theorem dSettings_restart_88 : decode cSettings_restart 88 = .ok (.return_, 1) := by decide +kernel
theorem dSettings_slotOf_0 : decode cSettings_slotOf 0 = .ok (.iload_n 0, 1) := by decide +kernel
theorem dSettings_slotOf_1 : decode cSettings_slotOf 1 = .ok (.ifCond .lt 15, 3) := by decide +kernel
theorem dSettings_slotOf_4 : decode cSettings_slotOf 4 = .ok (.iload_n 0, 1) := by decide +kernel
theorem dSettings_slotOf_5 : decode cSettings_slotOf 5 = .ok (.bipush 24, 2) := by decide +kernel
theorem dSettings_slotOf_7 : decode cSettings_slotOf 7 = .ok (.if_icmp .ge 9, 3) := by decide +kernel
theorem dSettings_slotOf_10 : decode cSettings_slotOf 10 = .ok (.iload_n 0, 1) := by decide +kernel
theorem dSettings_slotOf_11 : decode cSettings_slotOf 11 = .ok (.iconst 1, 1) := by decide +kernel
theorem dSettings_slotOf_12 : decode cSettings_slotOf 12 = .ok (.iadd, 1) := by decide +kernel
theorem dSettings_slotOf_13 : decode cSettings_slotOf 13 = .ok (.goto 4, 3) := by decide +kernel
theorem dSettings_slotOf_16 : decode cSettings_slotOf 16 = .ok (.iconst 0, 1) := by decide +kernel
theorem dSettings_slotOf_17 : decode cSettings_slotOf 17 = .ok (.istore_n 2, 1) := by decide +kernel
theorem dSettings_slotOf_18 : decode cSettings_slotOf 18 = .ok (.iload_n 1, 1) := by decide +kernel
theorem dSettings_slotOf_19 : decode cSettings_slotOf 19 = .ok (.ifCond .lt 14, 3) := by decide +kernel
theorem dSettings_slotOf_22 : decode cSettings_slotOf 22 = .ok (.iload_n 1, 1) := by decide +kernel
theorem dSettings_slotOf_23 : decode cSettings_slotOf 23 = .ok (.iconst 4, 1) := by decide +kernel
theorem dSettings_slotOf_24 : decode cSettings_slotOf 24 = .ok (.if_icmp .ge 9, 3) := by decide +kernel
theorem dSettings_slotOf_27 : decode cSettings_slotOf 27 = .ok (.iload_n 1, 1) := by decide +kernel
theorem dSettings_slotOf_28 : decode cSettings_slotOf 28 = .ok (.iconst 1, 1) := by decide +kernel
theorem dSettings_slotOf_29 : decode cSettings_slotOf 29 = .ok (.iadd, 1) := by decide +kernel
theorem dSettings_slotOf_30 : decode cSettings_slotOf 30 = .ok (.goto 4, 3) := by decide +kernel
theorem dSettings_slotOf_33 : decode cSettings_slotOf 33 = .ok (.iconst 0, 1) := by decide +kernel
theorem dSettings_slotOf_34 : decode cSettings_slotOf 34 = .ok (.istore_n 3, 1) := by decide +kernel
theorem dSettings_slotOf_35 : decode cSettings_slotOf 35 = .ok (.iload_n 2, 1) := by decide +kernel
theorem dSettings_slotOf_36 : decode cSettings_slotOf 36 = .ok (.iconst 5, 1) := by decide +kernel
theorem dSettings_slotOf_37 : decode cSettings_slotOf 37 = .ok (.imul, 1) := by decide +kernel
theorem dSettings_slotOf_38 : decode cSettings_slotOf 38 = .ok (.iload_n 3, 1) := by decide +kernel
theorem dSettings_slotOf_39 : decode cSettings_slotOf 39 = .ok (.iadd, 1) := by decide +kernel
theorem dSettings_slotOf_40 : decode cSettings_slotOf 40 = .ok (.ireturn, 1) := by decide +kernel
theorem dSettings_forgetTile_0 : decode cSettings_forgetTile 0 = .ok (.iconst (-1), 1) := by decide +kernel
theorem dSettings_forgetTile_1 : decode cSettings_forgetTile 1 = .ok (.istore_n 2, 1) := by decide +kernel
theorem dSettings_forgetTile_2 : decode cSettings_forgetTile 2 = .ok (.iload_n 2, 1) := by decide +kernel
theorem dSettings_forgetTile_3 : decode cSettings_forgetTile 3 = .ok (.iconst 4, 1) := by decide +kernel
theorem dSettings_forgetTile_4 : decode cSettings_forgetTile 4 = .ok (.if_icmp .ge 31, 3) := by decide +kernel
theorem dSettings_forgetTile_7 : decode cSettings_forgetTile 7 = .ok (.aload_n 0, 1) := by decide +kernel
theorem dSettings_forgetTile_8 : decode cSettings_forgetTile 8 = .ok (.getfield 21, 3) := by decide +kernel
theorem dSettings_forgetTile_11 : decode cSettings_forgetTile 11 = .ok (.iload_n 1, 1) := by decide +kernel
theorem dSettings_forgetTile_12 : decode cSettings_forgetTile 12 = .ok (.iload_n 2, 1) := by decide +kernel
theorem dSettings_forgetTile_13 : decode cSettings_forgetTile 13 = .ok (.invokestatic 45, 3) := by decide +kernel
theorem dSettings_forgetTile_16 : decode cSettings_forgetTile 16 = .ok (.iconst 0, 1) := by decide +kernel
theorem dSettings_forgetTile_17 : decode cSettings_forgetTile 17 = .ok (.bastore, 1) := by decide +kernel
theorem dSettings_forgetTile_18 : decode cSettings_forgetTile 18 = .ok (.aload_n 0, 1) := by decide +kernel
theorem dSettings_forgetTile_19 : decode cSettings_forgetTile 19 = .ok (.getfield 25, 3) := by decide +kernel
theorem dSettings_forgetTile_22 : decode cSettings_forgetTile 22 = .ok (.iload_n 1, 1) := by decide +kernel
theorem dSettings_forgetTile_23 : decode cSettings_forgetTile 23 = .ok (.iload_n 2, 1) := by decide +kernel
theorem dSettings_forgetTile_24 : decode cSettings_forgetTile 24 = .ok (.invokestatic 45, 3) := by decide +kernel
theorem dSettings_forgetTile_27 : decode cSettings_forgetTile 27 = .ok (.iconst 0, 1) := by decide +kernel
theorem dSettings_forgetTile_28 : decode cSettings_forgetTile 28 = .ok (.bastore, 1) := by decide +kernel
theorem dSettings_forgetTile_29 : decode cSettings_forgetTile 29 = .ok (.iinc 2 1, 3) := by decide +kernel
theorem dSettings_forgetTile_32 : decode cSettings_forgetTile 32 = .ok (.goto (-30), 3) := by decide +kernel
theorem dSettings_forgetTile_35 : decode cSettings_forgetTile 35 = .ok (.return_, 1) := by decide +kernel
theorem dSettings_asManyAsItTakes_0 : decode cSettings_asManyAsItTakes 0 = .ok (.iload_n 1, 1) := by decide +kernel
theorem dSettings_asManyAsItTakes_1 : decode cSettings_asManyAsItTakes 1 = .ok (.iconst 1, 1) := by decide +kernel
theorem dSettings_asManyAsItTakes_2 : decode cSettings_asManyAsItTakes 2 = .ok (.if_icmp .ge 7, 3) := by decide +kernel
theorem dSettings_asManyAsItTakes_5 : decode cSettings_asManyAsItTakes 5 = .ok (.iconst 0, 1) := by decide +kernel
theorem dSettings_asManyAsItTakes_6 : decode cSettings_asManyAsItTakes 6 = .ok (.goto 10, 3) := by decide +kernel
theorem dSettings_asManyAsItTakes_9 : decode cSettings_asManyAsItTakes 9 = .ok (.iload_n 0, 1) := by decide +kernel
theorem dSettings_asManyAsItTakes_10 : decode cSettings_asManyAsItTakes 10 = .ok (.iload_n 1, 1) := by decide +kernel
theorem dSettings_asManyAsItTakes_11 : decode cSettings_asManyAsItTakes 11 = .ok (.iadd, 1) := by decide +kernel
theorem dSettings_asManyAsItTakes_12 : decode cSettings_asManyAsItTakes 12 = .ok (.iconst 1, 1) := by decide +kernel
theorem dSettings_asManyAsItTakes_13 : decode cSettings_asManyAsItTakes 13 = .ok (.isub, 1) := by decide +kernel
theorem dSettings_asManyAsItTakes_14 : decode cSettings_asManyAsItTakes 14 = .ok (.iload_n 1, 1) := by decide +kernel
theorem dSettings_asManyAsItTakes_15 : decode cSettings_asManyAsItTakes 15 = .ok (.idiv, 1) := by decide +kernel
theorem dSettings_asManyAsItTakes_16 : decode cSettings_asManyAsItTakes 16 = .ok (.ireturn, 1) := by decide +kernel
theorem dSettings_tilesFor_0 : decode cSettings_tilesFor 0 = .ok (.iload_n 1, 1) := by decide +kernel
theorem dSettings_tilesFor_1 : decode cSettings_tilesFor 1 = .ok (.aload_n 0, 1) := by decide +kernel
theorem dSettings_tilesFor_2 : decode cSettings_tilesFor 2 = .ok (.getfield 28, 3) := by decide +kernel
theorem dSettings_tilesFor_5 : decode cSettings_tilesFor 5 = .ok (.invokestatic 56, 3) := by decide +kernel
theorem dSettings_tilesFor_8 : decode cSettings_tilesFor 8 = .ok (.iload_n 2, 1) := by decide +kernel
theorem dSettings_tilesFor_9 : decode cSettings_tilesFor 9 = .ok (.aload_n 0, 1) := by decide +kernel
theorem dSettings_tilesFor_10 : decode cSettings_tilesFor 10 = .ok (.getfield 32, 3) := by decide +kernel
theorem dSettings_tilesFor_13 : decode cSettings_tilesFor 13 = .ok (.invokestatic 56, 3) := by decide +kernel
theorem dSettings_tilesFor_16 : decode cSettings_tilesFor 16 = .ok (.imul, 1) := by decide +kernel
theorem dSettings_tilesFor_17 : decode cSettings_tilesFor 17 = .ok (.ireturn, 1) := by decide +kernel
theorem dSettings_tiles_0 : decode cSettings_tiles 0 = .ok (.aload_n 0, 1) := by decide +kernel
theorem dSettings_tiles_1 : decode cSettings_tiles 1 = .ok (.aload_n 0, 1) := by decide +kernel
theorem dSettings_tiles_2 : decode cSettings_tiles 2 = .ok (.getfield 11, 3) := by decide +kernel
theorem dSettings_tiles_5 : decode cSettings_tiles 5 = .ok (.iconst 0, 1) := by decide +kernel
theorem dSettings_tiles_6 : decode cSettings_tiles 6 = .ok (.iaload, 1) := by decide +kernel
theorem dSettings_tiles_7 : decode cSettings_tiles 7 = .ok (.aload_n 0, 1) := by decide +kernel
theorem dSettings_tiles_8 : decode cSettings_tiles 8 = .ok (.getfield 11, 3) := by decide +kernel
theorem dSettings_tiles_11 : decode cSettings_tiles 11 = .ok (.iconst 1, 1) := by decide +kernel
theorem dSettings_tiles_12 : decode cSettings_tiles 12 = .ok (.iaload, 1) := by decide +kernel
theorem dSettings_tiles_13 : decode cSettings_tiles 13 = .ok (.invokevirtual 53, 3) := by decide +kernel
theorem dSettings_tiles_16 : decode cSettings_tiles 16 = .ok (.ireturn, 1) := by decide +kernel
theorem dSettings_isTile_0 : decode cSettings_isTile 0 = .ok (.iload_n 1, 1) := by decide +kernel
theorem dSettings_isTile_1 : decode cSettings_isTile 1 = .ok (.ifCond .lt 15, 3) := by decide +kernel
theorem dSettings_isTile_4 : decode cSettings_isTile 4 = .ok (.iload_n 1, 1) := by decide +kernel
theorem dSettings_isTile_5 : decode cSettings_isTile 5 = .ok (.aload_n 0, 1) := by decide +kernel
theorem dSettings_isTile_6 : decode cSettings_isTile 6 = .ok (.invokevirtual 49, 3) := by decide +kernel
theorem dSettings_isTile_9 : decode cSettings_isTile 9 = .ok (.if_icmp .ge 7, 3) := by decide +kernel
theorem dSettings_isTile_12 : decode cSettings_isTile 12 = .ok (.iconst 1, 1) := by decide +kernel
theorem dSettings_isTile_13 : decode cSettings_isTile 13 = .ok (.goto 4, 3) := by decide +kernel
theorem dSettings_isTile_16 : decode cSettings_isTile 16 = .ok (.iconst 0, 1) := by decide +kernel
theorem dSettings_isTile_17 : decode cSettings_isTile 17 = .ok (.ireturn, 1) := by decide +kernel
theorem dSettings_isComponent_0 : decode cSettings_isComponent 0 = .ok (.iload_n 1, 1) := by decide +kernel
theorem dSettings_isComponent_1 : decode cSettings_isComponent 1 = .ok (.ifCond .lt 17, 3) := by decide +kernel
theorem dSettings_isComponent_4 : decode cSettings_isComponent 4 = .ok (.iload_n 1, 1) := by decide +kernel
theorem dSettings_isComponent_5 : decode cSettings_isComponent 5 = .ok (.aload_n 0, 1) := by decide +kernel
theorem dSettings_isComponent_6 : decode cSettings_isComponent 6 = .ok (.getfield 11, 3) := by decide +kernel
theorem dSettings_isComponent_9 : decode cSettings_isComponent 9 = .ok (.iconst 2, 1) := by decide +kernel
theorem dSettings_isComponent_10 : decode cSettings_isComponent 10 = .ok (.iaload, 1) := by decide +kernel
theorem dSettings_isComponent_11 : decode cSettings_isComponent 11 = .ok (.if_icmp .ge 7, 3) := by decide +kernel
theorem dSettings_isComponent_14 : decode cSettings_isComponent 14 = .ok (.iconst 1, 1) := by decide +kernel
theorem dSettings_isComponent_15 : decode cSettings_isComponent 15 = .ok (.goto 4, 3) := by decide +kernel
theorem dSettings_isComponent_18 : decode cSettings_isComponent 18 = .ok (.iconst 0, 1) := by decide +kernel
theorem dSettings_isComponent_19 : decode cSettings_isComponent 19 = .ok (.ireturn, 1) := by decide +kernel
theorem dW_isWithin_0 : decode cW_isWithin 0 = .ok (.iload_n 0, 1) := by decide +kernel
theorem dW_isWithin_1 : decode cW_isWithin 1 = .ok (.ifCond .lt 37, 3) := by decide +kernel
theorem dW_isWithin_4 : decode cW_isWithin 4 = .ok (.iload_n 0, 1) := by decide +kernel
theorem dW_isWithin_5 : decode cW_isWithin 5 = .ok (.getstatic 334, 3) := by decide +kernel
theorem dW_isWithin_8 : decode cW_isWithin 8 = .ok (.arraylength, 1) := by decide +kernel
theorem dW_isWithin_9 : decode cW_isWithin 9 = .ok (.if_icmp .ge 29, 3) := by decide +kernel
theorem dW_isWithin_12 : decode cW_isWithin 12 = .ok (.lload_n 1, 1) := by decide +kernel
theorem dW_isWithin_13 : decode cW_isWithin 13 = .ok (.getstatic 334, 3) := by decide +kernel
theorem dW_isWithin_16 : decode cW_isWithin 16 = .ok (.iload_n 0, 1) := by decide +kernel
theorem dW_isWithin_17 : decode cW_isWithin 17 = .ok (.iaload, 1) := by decide +kernel
theorem dW_isWithin_18 : decode cW_isWithin 18 = .ok (.i2l, 1) := by decide +kernel
theorem dW_isWithin_19 : decode cW_isWithin 19 = .ok (.lcmp, 1) := by decide +kernel
theorem dW_isWithin_20 : decode cW_isWithin 20 = .ok (.ifCond .lt 18, 3) := by decide +kernel
theorem dW_isWithin_23 : decode cW_isWithin 23 = .ok (.lload_n 1, 1) := by decide +kernel
theorem dW_isWithin_24 : decode cW_isWithin 24 = .ok (.getstatic 337, 3) := by decide +kernel
theorem dW_isWithin_27 : decode cW_isWithin 27 = .ok (.iload_n 0, 1) := by decide +kernel
theorem dW_isWithin_28 : decode cW_isWithin 28 = .ok (.iaload, 1) := by decide +kernel
theorem dW_isWithin_29 : decode cW_isWithin 29 = .ok (.i2l, 1) := by decide +kernel
theorem dW_isWithin_30 : decode cW_isWithin 30 = .ok (.lcmp, 1) := by decide +kernel
theorem dW_isWithin_31 : decode cW_isWithin 31 = .ok (.ifCond .gt 7, 3) := by decide +kernel
theorem dW_isWithin_34 : decode cW_isWithin 34 = .ok (.iconst 1, 1) := by decide +kernel
theorem dW_isWithin_35 : decode cW_isWithin 35 = .ok (.goto 4, 3) := by decide +kernel
theorem dW_isWithin_38 : decode cW_isWithin 38 = .ok (.iconst 0, 1) := by decide +kernel
theorem dW_isWithin_39 : decode cW_isWithin 39 = .ok (.ireturn, 1) := by decide +kernel
theorem dSettings_allows_0 : decode cSettings_allows 0 = .ok (.iload_n 1, 1) := by decide +kernel
theorem dSettings_allows_1 : decode cSettings_allows 1 = .ok (.iload_n 2, 1) := by decide +kernel
theorem dSettings_allows_2 : decode cSettings_allows 2 = .ok (.i2l, 1) := by decide +kernel
theorem dSettings_allows_3 : decode cSettings_allows 3 = .ok (.invokestatic 59, 3) := by decide +kernel
theorem dSettings_allows_6 : decode cSettings_allows 6 = .ok (.ifCond .ne 5, 3) := by decide +kernel
theorem dSettings_allows_9 : decode cSettings_allows 9 = .ok (.iconst 0, 1) := by decide +kernel
theorem dSettings_allows_10 : decode cSettings_allows 10 = .ok (.ireturn, 1) := by decide +kernel
theorem dSettings_allows_11 : decode cSettings_allows 11 = .ok (.iload_n 1, 1) := by decide +kernel
theorem dSettings_allows_12 : decode cSettings_allows 12 = .ok (.ifCond .ne 7, 3) := by decide +kernel
theorem dSettings_allows_15 : decode cSettings_allows 15 = .ok (.iload_n 2, 1) := by decide +kernel
theorem dSettings_allows_16 : decode cSettings_allows 16 = .ok (.goto 9, 3) := by decide +kernel
theorem dSettings_allows_19 : decode cSettings_allows 19 = .ok (.aload_n 0, 1) := by decide +kernel
theorem dSettings_allows_20 : decode cSettings_allows 20 = .ok (.getfield 11, 3) := by decide +kernel
theorem dSettings_allows_23 : decode cSettings_allows 23 = .ok (.iconst 0, 1) := by decide +kernel
theorem dSettings_allows_24 : decode cSettings_allows 24 = .ok (.iaload, 1) := by decide +kernel
theorem dSettings_allows_25 : decode cSettings_allows 25 = .ok (.istore_n 3, 1) := by decide +kernel
theorem dSettings_allows_26 : decode cSettings_allows 26 = .ok (.iload_n 1, 1) := by decide +kernel
theorem dSettings_allows_27 : decode cSettings_allows 27 = .ok (.iconst 1, 1) := by decide +kernel
theorem dSettings_allows_28 : decode cSettings_allows 28 = .ok (.if_icmp .ne 7, 3) := by decide +kernel
theorem dSettings_allows_31 : decode cSettings_allows 31 = .ok (.iload_n 2, 1) := by decide +kernel
theorem dSettings_allows_32 : decode cSettings_allows 32 = .ok (.goto 9, 3) := by decide +kernel
theorem dSettings_allows_35 : decode cSettings_allows 35 = .ok (.aload_n 0, 1) := by decide +kernel
theorem dSettings_allows_36 : decode cSettings_allows 36 = .ok (.getfield 11, 3) := by decide +kernel
theorem dSettings_allows_39 : decode cSettings_allows 39 = .ok (.iconst 1, 1) := by decide +kernel
theorem dSettings_allows_40 : decode cSettings_allows 40 = .ok (.iaload, 1) := by decide +kernel
theorem dSettings_allows_41 : decode cSettings_allows 41 = .ok (.istore 4, 2) := by decide +kernel
theorem dSettings_allows_43 : decode cSettings_allows 43 = .ok (.aload_n 0, 1) := by decide +kernel
theorem dSettings_allows_44 : decode cSettings_allows 44 = .ok (.iload_n 3, 1) := by decide +kernel
theorem dSettings_allows_45 : decode cSettings_allows 45 = .ok (.iload 4, 2) := by decide +kernel
theorem dSettings_allows_47 : decode cSettings_allows 47 = .ok (.invokevirtual 53, 3) := by decide +kernel
theorem dSettings_allows_50 : decode cSettings_allows 50 = .ok (.bipush 24, 2) := by decide +kernel
theorem dSettings_allows_52 : decode cSettings_allows 52 = .ok (.if_icmp .gt 7, 3) := by decide +kernel
theorem dSettings_allows_55 : decode cSettings_allows 55 = .ok (.iconst 1, 1) := by decide +kernel
theorem dSettings_allows_56 : decode cSettings_allows 56 = .ok (.goto 4, 3) := by decide +kernel
theorem dSettings_allows_59 : decode cSettings_allows 59 = .ok (.iconst 0, 1) := by decide +kernel
theorem dSettings_allows_60 : decode cSettings_allows 60 = .ok (.ireturn, 1) := by decide +kernel
theorem dSettings_hasSegmentNotForAll_0 : decode cSettings_hasSegmentNotForAll 0 = .ok (.iconst 1, 1) := by decide +kernel
theorem dSettings_hasSegmentNotForAll_1 : decode cSettings_hasSegmentNotForAll 1 = .ok (.istore_n 1, 1) := by decide +kernel
theorem dSettings_hasSegmentNotForAll_2 : decode cSettings_hasSegmentNotForAll 2 = .ok (.iload_n 1, 1) := by decide +kernel
theorem dSettings_hasSegmentNotForAll_3 : decode cSettings_hasSegmentNotForAll 3 = .ok (.bipush 125, 2) := by decide +kernel
theorem dSettings_hasSegmentNotForAll_5 : decode cSettings_hasSegmentNotForAll 5 = .ok (.if_icmp .ge 29, 3) := by decide +kernel
theorem dSettings_hasSegmentNotForAll_8 : decode cSettings_hasSegmentNotForAll 8 = .ok (.aload_n 0, 1) := by decide +kernel
theorem dSettings_hasSegmentNotForAll_9 : decode cSettings_hasSegmentNotForAll 9 = .ok (.getfield 21, 3) := by decide +kernel
theorem dSettings_hasSegmentNotForAll_12 : decode cSettings_hasSegmentNotForAll 12 = .ok (.iload_n 1, 1) := by decide +kernel
theorem dSettings_hasSegmentNotForAll_13 : decode cSettings_hasSegmentNotForAll 13 = .ok (.baload, 1) := by decide +kernel
theorem dSettings_hasSegmentNotForAll_14 : decode cSettings_hasSegmentNotForAll 14 = .ok (.ifCond .ne 12, 3) := by decide +kernel
theorem dSettings_hasSegmentNotForAll_17 : decode cSettings_hasSegmentNotForAll 17 = .ok (.aload_n 0, 1) := by decide +kernel
theorem dSettings_hasSegmentNotForAll_18 : decode cSettings_hasSegmentNotForAll 18 = .ok (.getfield 25, 3) := by decide +kernel
theorem dSettings_hasSegmentNotForAll_21 : decode cSettings_hasSegmentNotForAll 21 = .ok (.iload_n 1, 1) := by decide +kernel
theorem dSettings_hasSegmentNotForAll_22 : decode cSettings_hasSegmentNotForAll 22 = .ok (.baload, 1) := by decide +kernel
theorem dSettings_hasSegmentNotForAll_23 : decode cSettings_hasSegmentNotForAll 23 = .ok (.ifCond .eq 5, 3) := by decide +kernel
theorem dSettings_hasSegmentNotForAll_26 : decode cSettings_hasSegmentNotForAll 26 = .ok (.iconst 1, 1) := by decide +kernel
theorem dSettings_hasSegmentNotForAll_27 : decode cSettings_hasSegmentNotForAll 27 = .ok (.ireturn, 1) := by decide +kernel
theorem dSettings_hasSegmentNotForAll_28 : decode cSettings_hasSegmentNotForAll 28 = .ok (.iinc 1 1, 3) := by decide +kernel
theorem dSettings_hasSegmentNotForAll_31 : decode cSettings_hasSegmentNotForAll 31 = .ok (.goto (-29), 3) := by decide +kernel
theorem dSettings_hasSegmentNotForAll_34 : decode cSettings_hasSegmentNotForAll 34 = .ok (.iconst 0, 1) := by decide +kernel
theorem dSettings_hasSegmentNotForAll_35 : decode cSettings_hasSegmentNotForAll 35 = .ok (.ireturn, 1) := by decide +kernel
theorem dSettings_hasStyleAndStepForAll_0 : decode cSettings_hasStyleAndStepForAll 0 = .ok (.aload_n 0, 1) := by decide +kernel
theorem dSettings_hasStyleAndStepForAll_1 : decode cSettings_hasStyleAndStepForAll 1 = .ok (.getfield 21, 3) := by decide +kernel
theorem dSettings_hasStyleAndStepForAll_4 : decode cSettings_hasStyleAndStepForAll 4 = .ok (.iconst 0, 1) := by decide +kernel
theorem dSettings_hasStyleAndStepForAll_5 : decode cSettings_hasStyleAndStepForAll 5 = .ok (.baload, 1) := by decide +kernel
theorem dSettings_hasStyleAndStepForAll_6 : decode cSettings_hasStyleAndStepForAll 6 = .ok (.ifCond .eq 16, 3) := by decide +kernel
theorem dSettings_hasStyleAndStepForAll_9 : decode cSettings_hasStyleAndStepForAll 9 = .ok (.aload_n 0, 1) := by decide +kernel
theorem dSettings_hasStyleAndStepForAll_10 : decode cSettings_hasStyleAndStepForAll 10 = .ok (.getfield 25, 3) := by decide +kernel
theorem dSettings_hasStyleAndStepForAll_13 : decode cSettings_hasStyleAndStepForAll 13 = .ok (.iconst 0, 1) := by decide +kernel
theorem dSettings_hasStyleAndStepForAll_14 : decode cSettings_hasStyleAndStepForAll 14 = .ok (.baload, 1) := by decide +kernel
theorem dSettings_hasStyleAndStepForAll_15 : decode cSettings_hasStyleAndStepForAll 15 = .ok (.ifCond .eq 7, 3) := by decide +kernel
theorem dSettings_hasStyleAndStepForAll_18 : decode cSettings_hasStyleAndStepForAll 18 = .ok (.iconst 1, 1) := by decide +kernel
theorem dSettings_hasStyleAndStepForAll_19 : decode cSettings_hasStyleAndStepForAll 19 = .ok (.goto 4, 3) := by decide +kernel
theorem dSettings_hasStyleAndStepForAll_22 : decode cSettings_hasStyleAndStepForAll 22 = .ok (.iconst 0, 1) := by decide +kernel
theorem dSettings_hasStyleAndStepForAll_23 : decode cSettings_hasStyleAndStepForAll 23 = .ok (.ireturn, 1) := by decide +kernel
theorem dSettings_hasStyle_0 : decode cSettings_hasStyle 0 = .ok (.aload_n 0, 1) := by decide +kernel
theorem dSettings_hasStyle_1 : decode cSettings_hasStyle 1 = .ok (.getfield 21, 3) := by decide +kernel
theorem dSettings_hasStyle_4 : decode cSettings_hasStyle 4 = .ok (.iload_n 1, 1) := by decide +kernel
theorem dSettings_hasStyle_5 : decode cSettings_hasStyle 5 = .ok (.iload_n 2, 1) := by decide +kernel
theorem dSettings_hasStyle_6 : decode cSettings_hasStyle 6 = .ok (.invokestatic 45, 3) := by decide +kernel
theorem dSettings_hasStyle_9 : decode cSettings_hasStyle 9 = .ok (.baload, 1) := by decide +kernel
theorem dSettings_hasStyle_10 : decode cSettings_hasStyle 10 = .ok (.ireturn, 1) := by decide +kernel
theorem dSettings_hasStep_0 : decode cSettings_hasStep 0 = .ok (.aload_n 0, 1) := by decide +kernel
theorem dSettings_hasStep_1 : decode cSettings_hasStep 1 = .ok (.getfield 25, 3) := by decide +kernel
theorem dSettings_hasStep_4 : decode cSettings_hasStep 4 = .ok (.iload_n 1, 1) := by decide +kernel
theorem dSettings_hasStep_5 : decode cSettings_hasStep 5 = .ok (.iload_n 2, 1) := by decide +kernel
theorem dSettings_hasStep_6 : decode cSettings_hasStep 6 = .ok (.invokestatic 45, 3) := by decide +kernel
theorem dSettings_hasStep_9 : decode cSettings_hasStep 9 = .ok (.baload, 1) := by decide +kernel
theorem dSettings_hasStep_10 : decode cSettings_hasStep 10 = .ok (.ireturn, 1) := by decide +kernel
theorem dSettings_slotInForce_0 : decode cSettings_slotInForce 0 = .ok (.iload_n 1, 1) := by decide +kernel
theorem dSettings_slotInForce_1 : decode cSettings_slotInForce 1 = .ok (.bipush 9, 2) := by decide +kernel
theorem dSettings_slotInForce_3 : decode cSettings_slotInForce 3 = .ok (.if_icmp .ge 10, 3) := by decide +kernel
theorem dSettings_slotInForce_6 : decode cSettings_slotInForce 6 = .ok (.aload_n 0, 1) := by decide +kernel
theorem dSettings_slotInForce_7 : decode cSettings_slotInForce 7 = .ok (.getfield 21, 3) := by decide +kernel
theorem dSettings_slotInForce_10 : decode cSettings_slotInForce 10 = .ok (.goto 7, 3) := by decide +kernel
theorem dSettings_slotInForce_13 : decode cSettings_slotInForce 13 = .ok (.aload_n 0, 1) := by decide +kernel
theorem dSettings_slotInForce_14 : decode cSettings_slotInForce 14 = .ok (.getfield 25, 3) := by decide +kernel
theorem dSettings_slotInForce_17 : decode cSettings_slotInForce 17 = .ok (.astore 4, 2) := by decide +kernel
theorem dSettings_slotInForce_19 : decode cSettings_slotInForce 19 = .ok (.aload 4, 2) := by decide +kernel
theorem dSettings_slotInForce_21 : decode cSettings_slotInForce 21 = .ok (.iload_n 2, 1) := by decide +kernel
theorem dSettings_slotInForce_22 : decode cSettings_slotInForce 22 = .ok (.iload_n 3, 1) := by decide +kernel
theorem dSettings_slotInForce_23 : decode cSettings_slotInForce 23 = .ok (.invokestatic 45, 3) := by decide +kernel
theorem dSettings_slotInForce_26 : decode cSettings_slotInForce 26 = .ok (.baload, 1) := by decide +kernel
theorem dSettings_slotInForce_27 : decode cSettings_slotInForce 27 = .ok (.ifCond .eq 9, 3) := by decide +kernel
theorem dSettings_slotInForce_30 : decode cSettings_slotInForce 30 = .ok (.iload_n 2, 1) := by decide +kernel
theorem dSettings_slotInForce_31 : decode cSettings_slotInForce 31 = .ok (.iload_n 3, 1) := by decide +kernel
theorem dSettings_slotInForce_32 : decode cSettings_slotInForce 32 = .ok (.invokestatic 45, 3) := by decide +kernel
theorem dSettings_slotInForce_35 : decode cSettings_slotInForce 35 = .ok (.ireturn, 1) := by decide +kernel
theorem dSettings_slotInForce_36 : decode cSettings_slotInForce 36 = .ok (.aload 4, 2) := by decide +kernel
theorem dSettings_slotInForce_38 : decode cSettings_slotInForce 38 = .ok (.iload_n 2, 1) := by decide +kernel
theorem dSettings_slotInForce_39 : decode cSettings_slotInForce 39 = .ok (.iconst (-1), 1) := by decide +kernel
theorem dSettings_slotInForce_40 : decode cSettings_slotInForce 40 = .ok (.invokestatic 45, 3) := by decide +kernel
theorem dSettings_slotInForce_43 : decode cSettings_slotInForce 43 = .ok (.baload, 1) := by decide +kernel
theorem dSettings_slotInForce_44 : decode cSettings_slotInForce 44 = .ok (.ifCond .eq 9, 3) := by decide +kernel
theorem dSettings_slotInForce_47 : decode cSettings_slotInForce 47 = .ok (.iload_n 2, 1) := by decide +kernel
theorem dSettings_slotInForce_48 : decode cSettings_slotInForce 48 = .ok (.iconst (-1), 1) := by decide +kernel
theorem dSettings_slotInForce_49 : decode cSettings_slotInForce 49 = .ok (.invokestatic 45, 3) := by decide +kernel
theorem dSettings_slotInForce_52 : decode cSettings_slotInForce 52 = .ok (.ireturn, 1) := by decide +kernel
theorem dSettings_slotInForce_53 : decode cSettings_slotInForce 53 = .ok (.aload 4, 2) := by decide +kernel
theorem dSettings_slotInForce_55 : decode cSettings_slotInForce 55 = .ok (.iconst (-1), 1) := by decide +kernel
theorem dSettings_slotInForce_56 : decode cSettings_slotInForce 56 = .ok (.iload_n 3, 1) := by decide +kernel
theorem dSettings_slotInForce_57 : decode cSettings_slotInForce 57 = .ok (.invokestatic 45, 3) := by decide +kernel
theorem dSettings_slotInForce_60 : decode cSettings_slotInForce 60 = .ok (.baload, 1) := by decide +kernel
theorem dSettings_slotInForce_61 : decode cSettings_slotInForce 61 = .ok (.ifCond .eq 11, 3) := by decide +kernel
theorem dSettings_slotInForce_64 : decode cSettings_slotInForce 64 = .ok (.iconst (-1), 1) := by decide +kernel
theorem dSettings_slotInForce_65 : decode cSettings_slotInForce 65 = .ok (.iload_n 3, 1) := by decide +kernel
theorem dSettings_slotInForce_66 : decode cSettings_slotInForce 66 = .ok (.invokestatic 45, 3) := by decide +kernel
theorem dSettings_slotInForce_69 : decode cSettings_slotInForce 69 = .ok (.goto 4, 3) := by decide +kernel
theorem dSettings_slotInForce_72 : decode cSettings_slotInForce 72 = .ok (.iconst 0, 1) := by decide +kernel
theorem dSettings_slotInForce_73 : decode cSettings_slotInForce 73 = .ok (.ireturn, 1) := by decide +kernel
theorem dSettings_valueOf_0 : decode cSettings_valueOf 0 = .ok (.iload_n 1, 1) := by decide +kernel
theorem dSettings_valueOf_1 : decode cSettings_valueOf 1 = .ok (.iconst 2, 1) := by decide +kernel
theorem dSettings_valueOf_2 : decode cSettings_valueOf 2 = .ok (.if_icmp .gt 10, 3) := by decide +kernel
theorem dSettings_valueOf_5 : decode cSettings_valueOf 5 = .ok (.aload_n 0, 1) := by decide +kernel
theorem dSettings_valueOf_6 : decode cSettings_valueOf 6 = .ok (.getfield 11, 3) := by decide +kernel
theorem dSettings_valueOf_9 : decode cSettings_valueOf 9 = .ok (.iload_n 1, 1) := by decide +kernel
theorem dSettings_valueOf_10 : decode cSettings_valueOf 10 = .ok (.iaload, 1) := by decide +kernel
theorem dSettings_valueOf_11 : decode cSettings_valueOf 11 = .ok (.ireturn, 1) := by decide +kernel
theorem dSettings_valueOf_12 : decode cSettings_valueOf 12 = .ok (.iload_n 1, 1) := by decide +kernel
theorem dSettings_valueOf_13 : decode cSettings_valueOf 13 = .ok (.iconst 3, 1) := by decide +kernel
theorem dSettings_valueOf_14 : decode cSettings_valueOf 14 = .ok (.if_icmp .ne 14, 3) := by decide +kernel
theorem dSettings_valueOf_17 : decode cSettings_valueOf 17 = .ok (.aload_n 0, 1) := by decide +kernel
theorem dSettings_valueOf_18 : decode cSettings_valueOf 18 = .ok (.getfield 15, 3) := by decide +kernel
theorem dSettings_valueOf_21 : decode cSettings_valueOf 21 = .ok (.iconst 0, 1) := by decide +kernel
theorem dSettings_valueOf_22 : decode cSettings_valueOf 22 = .ok (.iload_n 3, 1) := by decide +kernel
theorem dSettings_valueOf_23 : decode cSettings_valueOf 23 = .ok (.invokestatic 63, 3) := by decide +kernel
theorem dSettings_valueOf_26 : decode cSettings_valueOf 26 = .ok (.iaload, 1) := by decide +kernel
theorem dSettings_valueOf_27 : decode cSettings_valueOf 27 = .ok (.ireturn, 1) := by decide +kernel
theorem dSettings_valueOf_28 : decode cSettings_valueOf 28 = .ok (.iload_n 1, 1) := by decide +kernel
theorem dSettings_valueOf_29 : decode cSettings_valueOf 29 = .ok (.iconst 4, 1) := by decide +kernel
theorem dSettings_valueOf_30 : decode cSettings_valueOf 30 = .ok (.if_icmp .eq 8, 3) := by decide +kernel
theorem dSettings_valueOf_33 : decode cSettings_valueOf 33 = .ok (.iload_n 1, 1) := by decide +kernel
theorem dSettings_valueOf_34 : decode cSettings_valueOf 34 = .ok (.iconst 5, 1) := by decide +kernel
theorem dSettings_valueOf_35 : decode cSettings_valueOf 35 = .ok (.if_icmp .ne 7, 3) := by decide +kernel
theorem dSettings_valueOf_38 : decode cSettings_valueOf 38 = .ok (.iconst 1, 1) := by decide +kernel
theorem dSettings_valueOf_39 : decode cSettings_valueOf 39 = .ok (.goto 4, 3) := by decide +kernel
theorem dSettings_valueOf_42 : decode cSettings_valueOf 42 = .ok (.iconst 0, 1) := by decide +kernel
theorem dSettings_valueOf_43 : decode cSettings_valueOf 43 = .ok (.istore 4, 2) := by decide +kernel
theorem dSettings_valueOf_45 : decode cSettings_valueOf 45 = .ok (.aload_n 0, 1) := by decide +kernel
theorem dSettings_valueOf_46 : decode cSettings_valueOf 46 = .ok (.getfield 18, 3) := by decide +kernel
theorem dSettings_valueOf_49 : decode cSettings_valueOf 49 = .ok (.aload_n 0, 1) := by decide +kernel
theorem dSettings_valueOf_50 : decode cSettings_valueOf 50 = .ok (.iload_n 1, 1) := by decide +kernel
theorem dSettings_valueOf_51 : decode cSettings_valueOf 51 = .ok (.iload_n 2, 1) := by decide +kernel
theorem dSettings_valueOf_52 : decode cSettings_valueOf 52 = .ok (.iload 4, 2) := by decide +kernel
theorem dSettings_valueOf_54 : decode cSettings_valueOf 54 = .ok (.ifCond .eq 7, 3) := by decide +kernel
theorem dSettings_valueOf_57 : decode cSettings_valueOf 57 = .ok (.iconst (-1), 1) := by decide +kernel
theorem dSettings_valueOf_58 : decode cSettings_valueOf 58 = .ok (.goto 4, 3) := by decide +kernel
theorem dSettings_valueOf_61 : decode cSettings_valueOf 61 = .ok (.iload_n 3, 1) := by decide +kernel
theorem dSettings_valueOf_62 : decode cSettings_valueOf 62 = .ok (.invokevirtual 68, 3) := by decide +kernel
theorem dSettings_valueOf_65 : decode cSettings_valueOf 65 = .ok (.iload_n 1, 1) := by decide +kernel
theorem dSettings_valueOf_66 : decode cSettings_valueOf 66 = .ok (.invokestatic 72, 3) := by decide +kernel
theorem dSettings_valueOf_69 : decode cSettings_valueOf 69 = .ok (.iaload, 1) := by decide +kernel
theorem dSettings_valueOf_70 : decode cSettings_valueOf 70 = .ok (.ireturn, 1) := by decide +kernel
theorem dSettings_changeDepth_0 : decode cSettings_changeDepth 0 = .ok (.iconst 0, 1) := by decide +kernel
theorem dSettings_changeDepth_1 : decode cSettings_changeDepth 1 = .ok (.istore_n 3, 1) := by decide +kernel
theorem dSettings_changeDepth_2 : decode cSettings_changeDepth 2 = .ok (.iload_n 3, 1) := by decide +kernel
theorem dSettings_changeDepth_3 : decode cSettings_changeDepth 3 = .ok (.iconst 4, 1) := by decide +kernel
theorem dSettings_changeDepth_4 : decode cSettings_changeDepth 4 = .ok (.if_icmp .ge 26, 3) := by decide +kernel
theorem dSettings_changeDepth_7 : decode cSettings_changeDepth 7 = .ok (.iload_n 1, 1) := by decide +kernel
theorem dSettings_changeDepth_8 : decode cSettings_changeDepth 8 = .ok (.iconst (-1), 1) := by decide +kernel
theorem dSettings_changeDepth_9 : decode cSettings_changeDepth 9 = .ok (.if_icmp .eq 8, 3) := by decide +kernel
theorem dSettings_changeDepth_12 : decode cSettings_changeDepth 12 = .ok (.iload_n 1, 1) := by decide +kernel
theorem dSettings_changeDepth_13 : decode cSettings_changeDepth 13 = .ok (.iload_n 3, 1) := by decide +kernel
theorem dSettings_changeDepth_14 : decode cSettings_changeDepth 14 = .ok (.if_icmp .ne 10, 3) := by decide +kernel
theorem dSettings_changeDepth_17 : decode cSettings_changeDepth 17 = .ok (.aload_n 0, 1) := by decide +kernel
theorem dSettings_changeDepth_18 : decode cSettings_changeDepth 18 = .ok (.getfield 15, 3) := by decide +kernel
theorem dSettings_changeDepth_21 : decode cSettings_changeDepth 21 = .ok (.iload_n 3, 1) := by decide +kernel
theorem dSettings_changeDepth_22 : decode cSettings_changeDepth 22 = .ok (.iload_n 2, 1) := by decide +kernel
theorem dSettings_changeDepth_23 : decode cSettings_changeDepth 23 = .ok (.iastore, 1) := by decide +kernel
theorem dSettings_changeDepth_24 : decode cSettings_changeDepth 24 = .ok (.iinc 3 1, 3) := by decide +kernel
theorem dSettings_changeDepth_27 : decode cSettings_changeDepth 27 = .ok (.goto (-25), 3) := by decide +kernel
theorem dSettings_changeDepth_30 : decode cSettings_changeDepth 30 = .ok (.return_, 1) := by decide +kernel
theorem dSettings_makeSegment_0 : decode cSettings_makeSegment 0 = .ok (.iload_n 2, 1) := by decide +kernel
theorem dSettings_makeSegment_1 : decode cSettings_makeSegment 1 = .ok (.iload_n 3, 1) := by decide +kernel
theorem dSettings_makeSegment_2 : decode cSettings_makeSegment 2 = .ok (.invokestatic 45, 3) := by decide +kernel
theorem dSettings_makeSegment_5 : decode cSettings_makeSegment 5 = .ok (.istore 4, 2) := by decide +kernel
theorem dSettings_makeSegment_7 : decode cSettings_makeSegment 7 = .ok (.aload_n 0, 1) := by decide +kernel
theorem dSettings_makeSegment_8 : decode cSettings_makeSegment 8 = .ok (.iload_n 1, 1) := by decide +kernel
theorem dSettings_makeSegment_9 : decode cSettings_makeSegment 9 = .ok (.iload_n 2, 1) := by decide +kernel
theorem dSettings_makeSegment_10 : decode cSettings_makeSegment 10 = .ok (.iload_n 3, 1) := by decide +kernel
theorem dSettings_makeSegment_11 : decode cSettings_makeSegment 11 = .ok (.invokevirtual 68, 3) := by decide +kernel
theorem dSettings_makeSegment_14 : decode cSettings_makeSegment 14 = .ok (.istore 5, 2) := by decide +kernel
theorem dSettings_makeSegment_16 : decode cSettings_makeSegment 16 = .ok (.iload 4, 2) := by decide +kernel
theorem dSettings_makeSegment_18 : decode cSettings_makeSegment 18 = .ok (.iload 5, 2) := by decide +kernel
theorem dSettings_makeSegment_20 : decode cSettings_makeSegment 20 = .ok (.if_icmp .ne 4, 3) := by decide +kernel
theorem dSettings_makeSegment_23 : decode cSettings_makeSegment 23 = .ok (.return_, 1) := by decide +kernel
theorem dSettings_makeSegment_24 : decode cSettings_makeSegment 24 = .ok (.iload_n 1, 1) := by decide +kernel
theorem dSettings_makeSegment_25 : decode cSettings_makeSegment 25 = .ok (.bipush 9, 2) := by decide +kernel
theorem dSettings_makeSegment_27 : decode cSettings_makeSegment 27 = .ok (.if_icmp .ge 7, 3) := by decide +kernel
theorem dSettings_makeSegment_30 : decode cSettings_makeSegment 30 = .ok (.iconst 4, 1) := by decide +kernel
theorem dSettings_makeSegment_31 : decode cSettings_makeSegment 31 = .ok (.goto 5, 3) := by decide +kernel
theorem dSettings_makeSegment_34 : decode cSettings_makeSegment 34 = .ok (.bipush 9, 2) := by decide +kernel
theorem dSettings_makeSegment_36 : decode cSettings_makeSegment 36 = .ok (.istore 6, 2) := by decide +kernel
theorem dSettings_makeSegment_38 : decode cSettings_makeSegment 38 = .ok (.iload_n 1, 1) := by decide +kernel
theorem dSettings_makeSegment_39 : decode cSettings_makeSegment 39 = .ok (.bipush 9, 2) := by decide +kernel
theorem dSettings_makeSegment_41 : decode cSettings_makeSegment 41 = .ok (.if_icmp .ge 8, 3) := by decide +kernel
theorem dSettings_makeSegment_44 : decode cSettings_makeSegment 44 = .ok (.bipush 8, 2) := by decide +kernel
theorem dSettings_makeSegment_46 : decode cSettings_makeSegment 46 = .ok (.goto 5, 3) := by decide +kernel
theorem dSettings_makeSegment_49 : decode cSettings_makeSegment 49 = .ok (.bipush 10, 2) := by decide +kernel
theorem dSettings_makeSegment_51 : decode cSettings_makeSegment 51 = .ok (.istore 7, 2) := by decide +kernel
theorem dSettings_makeSegment_53 : decode cSettings_makeSegment 53 = .ok (.iload 6, 2) := by decide +kernel
theorem dSettings_makeSegment_55 : decode cSettings_makeSegment 55 = .ok (.istore 8, 2) := by decide +kernel
theorem dSettings_makeSegment_57 : decode cSettings_makeSegment 57 = .ok (.iload 8, 2) := by decide +kernel
theorem dSettings_makeSegment_59 : decode cSettings_makeSegment 59 = .ok (.iload 7, 2) := by decide +kernel
theorem dSettings_makeSegment_61 : decode cSettings_makeSegment 61 = .ok (.if_icmp .gt 29, 3) := by decide +kernel
theorem dSettings_makeSegment_64 : decode cSettings_makeSegment 64 = .ok (.aload_n 0, 1) := by decide +kernel
theorem dSettings_makeSegment_65 : decode cSettings_makeSegment 65 = .ok (.iload 4, 2) := by decide +kernel
theorem dSettings_makeSegment_67 : decode cSettings_makeSegment 67 = .ok (.iload 8, 2) := by decide +kernel
theorem dSettings_makeSegment_69 : decode cSettings_makeSegment 69 = .ok (.aload_n 0, 1) := by decide +kernel
theorem dSettings_makeSegment_70 : decode cSettings_makeSegment 70 = .ok (.getfield 18, 3) := by decide +kernel
theorem dSettings_makeSegment_73 : decode cSettings_makeSegment 73 = .ok (.iload 5, 2) := by decide +kernel
theorem dSettings_makeSegment_75 : decode cSettings_makeSegment 75 = .ok (.iload 8, 2) := by decide +kernel
theorem dSettings_makeSegment_77 : decode cSettings_makeSegment 77 = .ok (.invokestatic 72, 3) := by decide +kernel
theorem dSettings_makeSegment_80 : decode cSettings_makeSegment 80 = .ok (.iaload, 1) := by decide +kernel
theorem dSettings_makeSegment_81 : decode cSettings_makeSegment 81 = .ok (.invokevirtual 41, 3) := by decide +kernel
theorem dSettings_makeSegment_84 : decode cSettings_makeSegment 84 = .ok (.iinc 8 1, 3) := by decide +kernel
theorem dSettings_makeSegment_87 : decode cSettings_makeSegment 87 = .ok (.goto (-30), 3) := by decide +kernel
theorem dSettings_makeSegment_90 : decode cSettings_makeSegment 90 = .ok (.return_, 1) := by decide +kernel
theorem dSettings_change_0 : decode cSettings_change 0 = .ok (.iload_n 1, 1) := by decide +kernel
theorem dSettings_change_1 : decode cSettings_change 1 = .ok (.iconst 2, 1) := by decide +kernel
theorem dSettings_change_2 : decode cSettings_change 2 = .ok (.if_icmp .gt 14, 3) := by decide +kernel
theorem dSettings_change_5 : decode cSettings_change 5 = .ok (.aload_n 0, 1) := by decide +kernel
theorem dSettings_change_6 : decode cSettings_change 6 = .ok (.getfield 11, 3) := by decide +kernel
theorem dSettings_change_9 : decode cSettings_change 9 = .ok (.iload_n 1, 1) := by decide +kernel
theorem dSettings_change_10 : decode cSettings_change 10 = .ok (.iload 4, 2) := by decide +kernel
theorem dSettings_change_12 : decode cSettings_change 12 = .ok (.iastore, 1) := by decide +kernel
theorem dSettings_change_13 : decode cSettings_change 13 = .ok (.goto 37, 3) := by decide +kernel
theorem dSettings_change_16 : decode cSettings_change 16 = .ok (.iload_n 1, 1) := by decide +kernel
theorem dSettings_change_17 : decode cSettings_change 17 = .ok (.iconst 3, 1) := by decide +kernel
theorem dSettings_change_18 : decode cSettings_change 18 = .ok (.if_icmp .ne 13, 3) := by decide +kernel
theorem dSettings_change_21 : decode cSettings_change 21 = .ok (.aload_n 0, 1) := by decide +kernel
theorem dSettings_change_22 : decode cSettings_change 22 = .ok (.iload_n 3, 1) := by decide +kernel
theorem dSettings_change_23 : decode cSettings_change 23 = .ok (.iload 4, 2) := by decide +kernel
theorem dSettings_change_25 : decode cSettings_change 25 = .ok (.invokevirtual 75, 3) := by decide +kernel
theorem dSettings_change_28 : decode cSettings_change 28 = .ok (.goto 22, 3) := by decide +kernel
theorem dSettings_change_31 : decode cSettings_change 31 = .ok (.aload_n 0, 1) := by decide +kernel
theorem dSettings_change_32 : decode cSettings_change 32 = .ok (.iload_n 1, 1) := by decide +kernel
theorem dSettings_change_33 : decode cSettings_change 33 = .ok (.iload_n 2, 1) := by decide +kernel
theorem dSettings_change_34 : decode cSettings_change 34 = .ok (.iload_n 3, 1) := by decide +kernel
theorem dSettings_change_35 : decode cSettings_change 35 = .ok (.invokevirtual 79, 3) := by decide +kernel
theorem dSettings_change_38 : decode cSettings_change 38 = .ok (.aload_n 0, 1) := by decide +kernel
theorem dSettings_change_39 : decode cSettings_change 39 = .ok (.iload_n 2, 1) := by decide +kernel
theorem dSettings_change_40 : decode cSettings_change 40 = .ok (.iload_n 3, 1) := by decide +kernel
theorem dSettings_change_41 : decode cSettings_change 41 = .ok (.invokestatic 45, 3) := by decide +kernel
theorem dSettings_change_44 : decode cSettings_change 44 = .ok (.iload_n 1, 1) := by decide +kernel
theorem dSettings_change_45 : decode cSettings_change 45 = .ok (.iload 4, 2) := by decide +kernel
theorem dSettings_change_47 : decode cSettings_change 47 = .ok (.invokevirtual 41, 3) := by decide +kernel
theorem dSettings_change_50 : decode cSettings_change 50 = .ok (.return_, 1) := by decide +kernel
theorem dWriter_init_0 : decode cWriter_init 0 = .ok (.aload_n 0, 1) := by decide +kernel
theorem dWriter_init_1 : decode cWriter_init 1 = .ok (.invokespecial 3, 3) := by decide +kernel
theorem dWriter_init_4 : decode cWriter_init 4 = .ok (.aload_n 0, 1) := by decide +kernel
theorem dWriter_init_5 : decode cWriter_init 5 = .ok (.new 9, 3) := by decide +kernel
theorem dWriter_init_8 : decode cWriter_init 8 = .ok (.dup, 1) := by decide +kernel
theorem dWriter_init_9 : decode cWriter_init 9 = .ok (.sipush 20000, 3) := by decide +kernel
theorem dWriter_init_12 : decode cWriter_init 12 = .ok (.invokespecial 11, 3) := by decide +kernel
theorem dWriter_init_15 : decode cWriter_init 15 = .ok (.putfield 14, 3) := by decide +kernel
theorem dWriter_init_18 : decode cWriter_init 18 = .ok (.return_, 1) := by decide +kernel
theorem dWriter_begin_0 : decode cWriter_begin 0 = .ok (.aload_n 0, 1) := by decide +kernel
theorem dWriter_begin_1 : decode cWriter_begin 1 = .ok (.getfield 14, 3) := by decide +kernel
theorem dWriter_begin_4 : decode cWriter_begin 4 = .ok (.iconst 0, 1) := by decide +kernel
theorem dWriter_begin_5 : decode cWriter_begin 5 = .ok (.putfield 20, 3) := by decide +kernel
theorem dWriter_begin_8 : decode cWriter_begin 8 = .ok (.return_, 1) := by decide +kernel
theorem dWriter_openBox_0 : decode cWriter_openBox 0 = .ok (.aload_n 0, 1) := by decide +kernel
theorem dWriter_openBox_1 : decode cWriter_openBox 1 = .ok (.getfield 14, 3) := by decide +kernel
theorem dWriter_openBox_4 : decode cWriter_openBox 4 = .ok (.getfield 20, 3) := by decide +kernel
theorem dWriter_openBox_7 : decode cWriter_openBox 7 = .ok (.istore_n 2, 1) := by decide +kernel
theorem dWriter_openBox_8 : decode cWriter_openBox 8 = .ok (.aload_n 0, 1) := by decide +kernel
theorem dWriter_openBox_9 : decode cWriter_openBox 9 = .ok (.getfield 14, 3) := by decide +kernel
theorem dWriter_openBox_12 : decode cWriter_openBox 12 = .ok (.iconst 0, 1) := by decide +kernel
theorem dWriter_openBox_13 : decode cWriter_openBox 13 = .ok (.iconst 4, 1) := by decide +kernel
theorem dWriter_openBox_14 : decode cWriter_openBox 14 = .ok (.invokevirtual 24, 3) := by decide +kernel
theorem dWriter_openBox_17 : decode cWriter_openBox 17 = .ok (.aload_n 0, 1) := by decide +kernel
theorem dWriter_openBox_18 : decode cWriter_openBox 18 = .ok (.getfield 14, 3) := by decide +kernel
theorem dWriter_openBox_21 : decode cWriter_openBox 21 = .ok (.iload_n 1, 1) := by decide +kernel
theorem dWriter_openBox_22 : decode cWriter_openBox 22 = .ok (.iconst 4, 1) := by decide +kernel
theorem dWriter_openBox_23 : decode cWriter_openBox 23 = .ok (.invokevirtual 24, 3) := by decide +kernel
theorem dWriter_openBox_26 : decode cWriter_openBox 26 = .ok (.iload_n 2, 1) := by decide +kernel
theorem dWriter_openBox_27 : decode cWriter_openBox 27 = .ok (.ireturn, 1) := by decide +kernel
theorem dWriter_closeBox_0 : decode cWriter_closeBox 0 = .ok (.aload_n 0, 1) := by decide +kernel
theorem dWriter_closeBox_1 : decode cWriter_closeBox 1 = .ok (.getfield 14, 3) := by decide +kernel
theorem dWriter_closeBox_4 : decode cWriter_closeBox 4 = .ok (.iload_n 1, 1) := by decide +kernel
theorem dWriter_closeBox_5 : decode cWriter_closeBox 5 = .ok (.aload_n 0, 1) := by decide +kernel
theorem dWriter_closeBox_6 : decode cWriter_closeBox 6 = .ok (.getfield 14, 3) := by decide +kernel
theorem dWriter_closeBox_9 : decode cWriter_closeBox 9 = .ok (.getfield 20, 3) := by decide +kernel
theorem dWriter_closeBox_12 : decode cWriter_closeBox 12 = .ok (.iload_n 1, 1) := by decide +kernel
theorem dWriter_closeBox_13 : decode cWriter_closeBox 13 = .ok (.isub, 1) := by decide +kernel
theorem dWriter_closeBox_14 : decode cWriter_closeBox 14 = .ok (.invokevirtual 28, 3) := by decide +kernel
theorem dWriter_closeBox_17 : decode cWriter_closeBox 17 = .ok (.return_, 1) := by decide +kernel
theorem dWriter_pictureHeader_0 : decode cWriter_pictureHeader 0 = .ok (.iconst 1, 1) := by decide +kernel
theorem dWriter_pictureHeader_1 : decode cWriter_pictureHeader 1 = .ok (.istore_n 2, 1) := by decide +kernel
theorem dWriter_pictureHeader_2 : decode cWriter_pictureHeader 2 = .ok (.iconst 0, 1) := by decide +kernel
theorem dWriter_pictureHeader_3 : decode cWriter_pictureHeader 3 = .ok (.istore_n 3, 1) := by decide +kernel
theorem dWriter_pictureHeader_4 : decode cWriter_pictureHeader 4 = .ok (.iload_n 3, 1) := by decide +kernel
theorem dWriter_pictureHeader_5 : decode cWriter_pictureHeader 5 = .ok (.aload_n 1, 1) := by decide +kernel
theorem dWriter_pictureHeader_6 : decode cWriter_pictureHeader 6 = .ok (.getfield 51, 3) := by decide +kernel
theorem dWriter_pictureHeader_9 : decode cWriter_pictureHeader 9 = .ok (.iconst 2, 1) := by decide +kernel
theorem dWriter_pictureHeader_10 : decode cWriter_pictureHeader 10 = .ok (.iaload, 1) := by decide +kernel
theorem dWriter_pictureHeader_11 : decode cWriter_pictureHeader 11 = .ok (.if_icmp .ge 21, 3) := by decide +kernel
theorem dWriter_pictureHeader_14 : decode cWriter_pictureHeader 14 = .ok (.iload_n 2, 1) := by decide +kernel
theorem dWriter_pictureHeader_15 : decode cWriter_pictureHeader 15 = .ok (.aload_n 1, 1) := by decide +kernel
theorem dWriter_pictureHeader_16 : decode cWriter_pictureHeader 16 = .ok (.iconst 3, 1) := by decide +kernel
theorem dWriter_pictureHeader_17 : decode cWriter_pictureHeader 17 = .ok (.iconst (-1), 1) := by decide +kernel
theorem dWriter_pictureHeader_18 : decode cWriter_pictureHeader 18 = .ok (.iload_n 3, 1) := by decide +kernel
theorem dWriter_pictureHeader_19 : decode cWriter_pictureHeader 19 = .ok (.invokevirtual 57, 3) := by decide +kernel
theorem dWriter_pictureHeader_22 : decode cWriter_pictureHeader 22 = .ok (.invokestatic 61, 3) := by decide +kernel
theorem dWriter_pictureHeader_25 : decode cWriter_pictureHeader 25 = .ok (.istore_n 2, 1) := by decide +kernel
theorem dWriter_pictureHeader_26 : decode cWriter_pictureHeader 26 = .ok (.iinc 3 1, 3) := by decide +kernel
theorem dWriter_pictureHeader_29 : decode cWriter_pictureHeader 29 = .ok (.goto (-25), 3) := by decide +kernel
theorem dWriter_pictureHeader_32 : decode cWriter_pictureHeader 32 = .ok (.aload_n 0, 1) := by decide +kernel
theorem dWriter_pictureHeader_33 : decode cWriter_pictureHeader 33 = .ok (.ldc 67, 2) := by decide +kernel
theorem dWriter_pictureHeader_35 : decode cWriter_pictureHeader 35 = .ok (.invokevirtual 32, 3) := by decide +kernel
theorem dWriter_pictureHeader_38 : decode cWriter_pictureHeader 38 = .ok (.istore_n 3, 1) := by decide +kernel
theorem dWriter_pictureHeader_39 : decode cWriter_pictureHeader 39 = .ok (.aload_n 0, 1) := by decide +kernel
theorem dWriter_pictureHeader_40 : decode cWriter_pictureHeader 40 = .ok (.getfield 14, 3) := by decide +kernel
theorem dWriter_pictureHeader_43 : decode cWriter_pictureHeader 43 = .ok (.aload_n 1, 1) := by decide +kernel
theorem dWriter_pictureHeader_44 : decode cWriter_pictureHeader 44 = .ok (.getfield 51, 3) := by decide +kernel
theorem dWriter_pictureHeader_47 : decode cWriter_pictureHeader 47 = .ok (.iconst 1, 1) := by decide +kernel
theorem dWriter_pictureHeader_48 : decode cWriter_pictureHeader 48 = .ok (.iaload, 1) := by decide +kernel
theorem dWriter_pictureHeader_49 : decode cWriter_pictureHeader 49 = .ok (.iconst 4, 1) := by decide +kernel
theorem dWriter_pictureHeader_50 : decode cWriter_pictureHeader 50 = .ok (.invokevirtual 24, 3) := by decide +kernel
theorem dWriter_pictureHeader_53 : decode cWriter_pictureHeader 53 = .ok (.aload_n 0, 1) := by decide +kernel
theorem dWriter_pictureHeader_54 : decode cWriter_pictureHeader 54 = .ok (.getfield 14, 3) := by decide +kernel
theorem dWriter_pictureHeader_57 : decode cWriter_pictureHeader 57 = .ok (.aload_n 1, 1) := by decide +kernel
theorem dWriter_pictureHeader_58 : decode cWriter_pictureHeader 58 = .ok (.getfield 51, 3) := by decide +kernel
theorem dWriter_pictureHeader_61 : decode cWriter_pictureHeader 61 = .ok (.iconst 0, 1) := by decide +kernel
theorem dWriter_pictureHeader_62 : decode cWriter_pictureHeader 62 = .ok (.iaload, 1) := by decide +kernel
theorem dWriter_pictureHeader_63 : decode cWriter_pictureHeader 63 = .ok (.iconst 4, 1) := by decide +kernel
theorem dWriter_pictureHeader_64 : decode cWriter_pictureHeader 64 = .ok (.invokevirtual 24, 3) := by decide +kernel
theorem dWriter_pictureHeader_67 : decode cWriter_pictureHeader 67 = .ok (.aload_n 0, 1) := by decide +kernel
theorem dWriter_pictureHeader_68 : decode cWriter_pictureHeader 68 = .ok (.getfield 14, 3) := by decide +kernel
theorem dWriter_pictureHeader_71 : decode cWriter_pictureHeader 71 = .ok (.aload_n 1, 1) := by decide +kernel
theorem dWriter_pictureHeader_72 : decode cWriter_pictureHeader 72 = .ok (.getfield 51, 3) := by decide +kernel
theorem dWriter_pictureHeader_75 : decode cWriter_pictureHeader 75 = .ok (.iconst 2, 1) := by decide +kernel
theorem dWriter_pictureHeader_76 : decode cWriter_pictureHeader 76 = .ok (.iaload, 1) := by decide +kernel
theorem dWriter_pictureHeader_77 : decode cWriter_pictureHeader 77 = .ok (.iconst 2, 1) := by decide +kernel
theorem dWriter_pictureHeader_78 : decode cWriter_pictureHeader 78 = .ok (.invokevirtual 24, 3) := by decide +kernel
theorem dWriter_pictureHeader_81 : decode cWriter_pictureHeader 81 = .ok (.aload_n 0, 1) := by decide +kernel
theorem dWriter_pictureHeader_82 : decode cWriter_pictureHeader 82 = .ok (.getfield 14, 3) := by decide +kernel
theorem dWriter_pictureHeader_85 : decode cWriter_pictureHeader 85 = .ok (.iload_n 2, 1) := by decide +kernel
theorem dWriter_pictureHeader_86 : decode cWriter_pictureHeader 86 = .ok (.iconst 1, 1) := by decide +kernel
theorem dWriter_pictureHeader_87 : decode cWriter_pictureHeader 87 = .ok (.isub, 1) := by decide +kernel
theorem dWriter_pictureHeader_88 : decode cWriter_pictureHeader 88 = .ok (.invokevirtual 68, 3) := by decide +kernel
theorem dWriter_pictureHeader_91 : decode cWriter_pictureHeader 91 = .ok (.pop, 1) := by decide +kernel
theorem dWriter_pictureHeader_92 : decode cWriter_pictureHeader 92 = .ok (.aload_n 0, 1) := by decide +kernel
theorem dWriter_pictureHeader_93 : decode cWriter_pictureHeader 93 = .ok (.getfield 14, 3) := by decide +kernel
theorem dWriter_pictureHeader_96 : decode cWriter_pictureHeader 96 = .ok (.bipush 7, 2) := by decide +kernel
theorem dWriter_pictureHeader_98 : decode cWriter_pictureHeader 98 = .ok (.invokevirtual 68, 3) := by decide +kernel
theorem dWriter_pictureHeader_101 : decode cWriter_pictureHeader 101 = .ok (.pop, 1) := by decide +kernel
theorem dWriter_pictureHeader_102 : decode cWriter_pictureHeader 102 = .ok (.aload_n 0, 1) := by decide +kernel
theorem dWriter_pictureHeader_103 : decode cWriter_pictureHeader 103 = .ok (.getfield 14, 3) := by decide +kernel
theorem dWriter_pictureHeader_106 : decode cWriter_pictureHeader 106 = .ok (.iconst 0, 1) := by decide +kernel
theorem dWriter_pictureHeader_107 : decode cWriter_pictureHeader 107 = .ok (.iconst 2, 1) := by decide +kernel
theorem dWriter_pictureHeader_108 : decode cWriter_pictureHeader 108 = .ok (.invokevirtual 24, 3) := by decide +kernel
theorem dWriter_pictureHeader_111 : decode cWriter_pictureHeader 111 = .ok (.aload_n 0, 1) := by decide +kernel
theorem dWriter_pictureHeader_112 : decode cWriter_pictureHeader 112 = .ok (.iload_n 3, 1) := by decide +kernel
theorem dWriter_pictureHeader_113 : decode cWriter_pictureHeader 113 = .ok (.invokevirtual 37, 3) := by decide +kernel
theorem dWriter_pictureHeader_116 : decode cWriter_pictureHeader 116 = .ok (.return_, 1) := by decide +kernel
theorem dAL_size_0 : decode cAL_size 0 = .ok (.aload_n 0, 1) := by decide +kernel
theorem dAL_size_1 : decode cAL_size 1 = .ok (.getfield 48, 3) := by decide +kernel
theorem dAL_size_4 : decode cAL_size 4 = .ok (.ireturn, 1) := by decide +kernel
theorem dPreconditions_checkIndex0_0 : decode cPreconditions_checkIndex0 0 = .ok (.iload_n 0, 1) := by decide +kernel
theorem dPreconditions_checkIndex0_1 : decode cPreconditions_checkIndex0 1 = .ok (.ifCond .lt 8, 3) := by decide +kernel
theorem dPreconditions_checkIndex0_4 : decode cPreconditions_checkIndex0 4 = .ok (.iload_n 0, 1) := by decide +kernel
theorem dPreconditions_checkIndex0_5 : decode cPreconditions_checkIndex0 5 = .ok (.iload_n 1, 1) := by decide +kernel
theorem dPreconditions_checkIndex0_6 : decode cPreconditions_checkIndex0 6 = .ok (.if_icmp .lt 10, 3) := by decide +kernel
theorem dPreconditions_checkIndex0_9 : decode cPreconditions_checkIndex0 9 = .ok (.aload_n 2, 1) := by decide +kernel
theorem dPreconditions_checkIndex0_10 : decode cPreconditions_checkIndex0 10 = .ok (.iload_n 0, 1) := by decide +kernel
theorem dPreconditions_checkIndex0_11 : decode cPreconditions_checkIndex0 11 = .ok (.iload_n 1, 1) := by decide +kernel
theorem dPreconditions_checkIndex0_12 : decode cPreconditions_checkIndex0 12 = .ok (.invokestatic 95, 3) := by decide +kernel
theorem dPreconditions_checkIndex0_15 : decode cPreconditions_checkIndex0 15 = .ok (.athrow, 1) := by decide +kernel
theorem dPreconditions_checkIndex0_16 : decode cPreconditions_checkIndex0 16 = .ok (.iload_n 0, 1) := by decide +kernel
theorem dPreconditions_checkIndex0_17 : decode cPreconditions_checkIndex0 17 = .ok (.ireturn, 1) := by decide +kernel
theorem dObjects_checkIndex0_0 : decode cObjects_checkIndex0 0 = .ok (.iload_n 0, 1) := by decide +kernel
theorem dObjects_checkIndex0_1 : decode cObjects_checkIndex0 1 = .ok (.iload_n 1, 1) := by decide +kernel
theorem dObjects_checkIndex0_2 : decode cObjects_checkIndex0 2 = .ok (.aconst_null, 1) := by decide +kernel
theorem dObjects_checkIndex0_3 : decode cObjects_checkIndex0 3 = .ok (.invokestatic 105, 3) := by decide +kernel
theorem dObjects_checkIndex0_6 : decode cObjects_checkIndex0 6 = .ok (.ireturn, 1) := by decide +kernel
theorem dAL_elementData_0 : decode cAL_elementData 0 = .ok (.aload_n 0, 1) := by decide +kernel
theorem dAL_elementData_1 : decode cAL_elementData 1 = .ok (.getfield 9, 3) := by decide +kernel
theorem dAL_elementData_4 : decode cAL_elementData 4 = .ok (.iload_n 1, 1) := by decide +kernel
theorem dAL_elementData_5 : decode cAL_elementData 5 = .ok (.aaload, 1) := by decide +kernel
theorem dAL_elementData_6 : decode cAL_elementData 6 = .ok (.areturn, 1) := by decide +kernel
theorem dAL_get_0 : decode cAL_get 0 = .ok (.iload_n 1, 1) := by decide +kernel
theorem dAL_get_1 : decode cAL_get 1 = .ok (.aload_n 0, 1) := by decide +kernel
theorem dAL_get_2 : decode cAL_get 2 = .ok (.getfield 48, 3) := by decide +kernel
theorem dAL_get_5 : decode cAL_get 5 = .ok (.invokestatic 118, 3) := by decide +kernel
theorem dAL_get_8 : decode cAL_get 8 = .ok (.pop, 1) := by decide +kernel
theorem dAL_get_9 : decode cAL_get 9 = .ok (.aload_n 0, 1) := by decide +kernel
theorem dAL_get_10 : decode cAL_get 10 = .ok (.iload_n 1, 1) := by decide +kernel
theorem dAL_get_11 : decode cAL_get 11 = .ok (.invokevirtual 123, 3) := by decide +kernel
theorem dAL_get_14 : decode cAL_get 14 = .ok (.areturn, 1) := by decide +kernel
theorem dWriter_appendAll_0 : decode cWriter_appendAll 0 = .ok (.iconst 0, 1) := by decide +kernel
theorem dWriter_appendAll_1 : decode cWriter_appendAll 1 = .ok (.istore_n 2, 1) := by decide +kernel
theorem dWriter_appendAll_2 : decode cWriter_appendAll 2 = .ok (.iload_n 2, 1) := by decide +kernel
theorem dWriter_appendAll_3 : decode cWriter_appendAll 3 = .ok (.aload_n 1, 1) := by decide +kernel
theorem dWriter_appendAll_4 : decode cWriter_appendAll 4 = .ok (.getfield 20, 3) := by decide +kernel
theorem dWriter_appendAll_7 : decode cWriter_appendAll 7 = .ok (.if_icmp .ge 22, 3) := by decide +kernel
theorem dWriter_appendAll_10 : decode cWriter_appendAll 10 = .ok (.aload_n 0, 1) := by decide +kernel
theorem dWriter_appendAll_11 : decode cWriter_appendAll 11 = .ok (.getfield 14, 3) := by decide +kernel
theorem dWriter_appendAll_14 : decode cWriter_appendAll 14 = .ok (.aload_n 1, 1) := by decide +kernel
theorem dWriter_appendAll_15 : decode cWriter_appendAll 15 = .ok (.iload_n 2, 1) := by decide +kernel
theorem dWriter_appendAll_16 : decode cWriter_appendAll 16 = .ok (.invokevirtual 98, 3) := by decide +kernel
theorem dWriter_appendAll_19 : decode cWriter_appendAll 19 = .ok (.invokevirtual 68, 3) := by decide +kernel
theorem dWriter_appendAll_22 : decode cWriter_appendAll 22 = .ok (.pop, 1) := by decide +kernel
theorem dWriter_appendAll_23 : decode cWriter_appendAll 23 = .ok (.iinc 2 1, 3) := by decide +kernel
theorem dWriter_appendAll_26 : decode cWriter_appendAll 26 = .ok (.goto (-24), 3) := by decide +kernel
theorem dWriter_appendAll_29 : decode cWriter_appendAll 29 = .ok (.return_, 1) := by decide +kernel
theorem dWriter_madeBoxes_0 : decode cWriter_madeBoxes 0 = .ok (.iconst 0, 1) := by decide +kernel
theorem dWriter_madeBoxes_1 : decode cWriter_madeBoxes 1 = .ok (.istore_n 3, 1) := by decide +kernel
theorem dWriter_madeBoxes_2 : decode cWriter_madeBoxes 2 = .ok (.iload_n 3, 1) := by decide +kernel
theorem dWriter_madeBoxes_3 : decode cWriter_madeBoxes 3 = .ok (.aload_n 1, 1) := by decide +kernel
theorem dWriter_madeBoxes_4 : decode cWriter_madeBoxes 4 = .ok (.invokevirtual 72, 3) := by decide +kernel
theorem dWriter_madeBoxes_7 : decode cWriter_madeBoxes 7 = .ok (.if_icmp .ge 54, 3) := by decide +kernel
theorem dWriter_madeBoxes_10 : decode cWriter_madeBoxes 10 = .ok (.aload_n 1, 1) := by decide +kernel
theorem dWriter_madeBoxes_11 : decode cWriter_madeBoxes 11 = .ok (.iload_n 3, 1) := by decide +kernel
theorem dWriter_madeBoxes_12 : decode cWriter_madeBoxes 12 = .ok (.invokevirtual 78, 3) := by decide +kernel
theorem dWriter_madeBoxes_15 : decode cWriter_madeBoxes 15 = .ok (.checkcast 82, 3) := by decide +kernel
theorem dWriter_madeBoxes_18 : decode cWriter_madeBoxes 18 = .ok (.astore 4, 2) := by decide +kernel
theorem dWriter_madeBoxes_20 : decode cWriter_madeBoxes 20 = .ok (.aload 4, 2) := by decide +kernel
theorem dWriter_madeBoxes_22 : decode cWriter_madeBoxes 22 = .ok (.getfield 84, 3) := by decide +kernel
theorem dWriter_madeBoxes_25 : decode cWriter_madeBoxes 25 = .ok (.iload_n 2, 1) := by decide +kernel
theorem dWriter_madeBoxes_26 : decode cWriter_madeBoxes 26 = .ok (.if_icmp .ne 29, 3) := by decide +kernel
theorem dWriter_madeBoxes_29 : decode cWriter_madeBoxes 29 = .ok (.aload_n 0, 1) := by decide +kernel
theorem dWriter_madeBoxes_30 : decode cWriter_madeBoxes 30 = .ok (.aload 4, 2) := by decide +kernel
theorem dWriter_madeBoxes_32 : decode cWriter_madeBoxes 32 = .ok (.getfield 88, 3) := by decide +kernel
theorem dWriter_madeBoxes_35 : decode cWriter_madeBoxes 35 = .ok (.invokevirtual 32, 3) := by decide +kernel
theorem dWriter_madeBoxes_38 : decode cWriter_madeBoxes 38 = .ok (.istore 5, 2) := by decide +kernel
theorem dWriter_madeBoxes_40 : decode cWriter_madeBoxes 40 = .ok (.aload_n 0, 1) := by decide +kernel
theorem dWriter_madeBoxes_41 : decode cWriter_madeBoxes 41 = .ok (.aload 4, 2) := by decide +kernel
theorem dWriter_madeBoxes_43 : decode cWriter_madeBoxes 43 = .ok (.getfield 91, 3) := by decide +kernel
theorem dWriter_madeBoxes_46 : decode cWriter_madeBoxes 46 = .ok (.invokevirtual 94, 3) := by decide +kernel
theorem dWriter_madeBoxes_49 : decode cWriter_madeBoxes 49 = .ok (.aload_n 0, 1) := by decide +kernel
theorem dWriter_madeBoxes_50 : decode cWriter_madeBoxes 50 = .ok (.iload 5, 2) := by decide +kernel
theorem dWriter_madeBoxes_52 : decode cWriter_madeBoxes 52 = .ok (.invokevirtual 37, 3) := by decide +kernel
theorem dWriter_madeBoxes_55 : decode cWriter_madeBoxes 55 = .ok (.iinc 3 1, 3) := by decide +kernel
theorem dWriter_madeBoxes_58 : decode cWriter_madeBoxes 58 = .ok (.goto (-56), 3) := by decide +kernel
theorem dWriter_madeBoxes_61 : decode cWriter_madeBoxes 61 = .ok (.return_, 1) := by decide +kernel
theorem dWriter_headBoxes_0 : decode cWriter_headBoxes 0 = .ok (.aload_n 0, 1) := by decide +kernel
theorem dWriter_headBoxes_1 : decode cWriter_headBoxes 1 = .ok (.ldc 31, 2) := by decide +kernel
theorem dWriter_headBoxes_3 : decode cWriter_headBoxes 3 = .ok (.invokevirtual 32, 3) := by decide +kernel
theorem dWriter_headBoxes_6 : decode cWriter_headBoxes 6 = .ok (.istore_n 3, 1) := by decide +kernel
theorem dWriter_headBoxes_7 : decode cWriter_headBoxes 7 = .ok (.aload_n 0, 1) := by decide +kernel
theorem dWriter_headBoxes_8 : decode cWriter_headBoxes 8 = .ok (.getfield 14, 3) := by decide +kernel
theorem dWriter_headBoxes_11 : decode cWriter_headBoxes 11 = .ok (.ldc 36, 2) := by decide +kernel
theorem dWriter_headBoxes_13 : decode cWriter_headBoxes 13 = .ok (.iconst 4, 1) := by decide +kernel
theorem dWriter_headBoxes_14 : decode cWriter_headBoxes 14 = .ok (.invokevirtual 24, 3) := by decide +kernel
theorem dWriter_headBoxes_17 : decode cWriter_headBoxes 17 = .ok (.aload_n 0, 1) := by decide +kernel
theorem dWriter_headBoxes_18 : decode cWriter_headBoxes 18 = .ok (.iload_n 3, 1) := by decide +kernel
theorem dWriter_headBoxes_19 : decode cWriter_headBoxes 19 = .ok (.invokevirtual 37, 3) := by decide +kernel
theorem dWriter_headBoxes_22 : decode cWriter_headBoxes 22 = .ok (.aload_n 0, 1) := by decide +kernel
theorem dWriter_headBoxes_23 : decode cWriter_headBoxes 23 = .ok (.ldc 40, 2) := by decide +kernel
theorem dWriter_headBoxes_25 : decode cWriter_headBoxes 25 = .ok (.invokevirtual 32, 3) := by decide +kernel
theorem dWriter_headBoxes_28 : decode cWriter_headBoxes 28 = .ok (.istore 4, 2) := by decide +kernel
theorem dWriter_headBoxes_30 : decode cWriter_headBoxes 30 = .ok (.aload_n 0, 1) := by decide +kernel
theorem dWriter_headBoxes_31 : decode cWriter_headBoxes 31 = .ok (.getfield 14, 3) := by decide +kernel
theorem dWriter_headBoxes_34 : decode cWriter_headBoxes 34 = .ok (.ldc 41, 2) := by decide +kernel
theorem dWriter_headBoxes_36 : decode cWriter_headBoxes 36 = .ok (.iconst 4, 1) := by decide +kernel
theorem dWriter_headBoxes_37 : decode cWriter_headBoxes 37 = .ok (.invokevirtual 24, 3) := by decide +kernel
theorem dWriter_headBoxes_40 : decode cWriter_headBoxes 40 = .ok (.aload_n 0, 1) := by decide +kernel
theorem dWriter_headBoxes_41 : decode cWriter_headBoxes 41 = .ok (.getfield 14, 3) := by decide +kernel
theorem dWriter_headBoxes_44 : decode cWriter_headBoxes 44 = .ok (.iconst 0, 1) := by decide +kernel
theorem dWriter_headBoxes_45 : decode cWriter_headBoxes 45 = .ok (.iconst 4, 1) := by decide +kernel
theorem dWriter_headBoxes_46 : decode cWriter_headBoxes 46 = .ok (.invokevirtual 24, 3) := by decide +kernel
theorem dWriter_headBoxes_49 : decode cWriter_headBoxes 49 = .ok (.aload_n 0, 1) := by decide +kernel
theorem dWriter_headBoxes_50 : decode cWriter_headBoxes 50 = .ok (.getfield 14, 3) := by decide +kernel
theorem dWriter_headBoxes_53 : decode cWriter_headBoxes 53 = .ok (.ldc 41, 2) := by decide +kernel
theorem dWriter_headBoxes_55 : decode cWriter_headBoxes 55 = .ok (.iconst 4, 1) := by decide +kernel
theorem dWriter_headBoxes_56 : decode cWriter_headBoxes 56 = .ok (.invokevirtual 24, 3) := by decide +kernel
theorem dWriter_headBoxes_59 : decode cWriter_headBoxes 59 = .ok (.aload_n 0, 1) := by decide +kernel
theorem dWriter_headBoxes_60 : decode cWriter_headBoxes 60 = .ok (.iload 4, 2) := by decide +kernel
theorem dWriter_headBoxes_62 : decode cWriter_headBoxes 62 = .ok (.invokevirtual 37, 3) := by decide +kernel
theorem dWriter_headBoxes_65 : decode cWriter_headBoxes 65 = .ok (.aload_n 0, 1) := by decide +kernel
theorem dWriter_headBoxes_66 : decode cWriter_headBoxes 66 = .ok (.ldc 42, 2) := by decide +kernel
theorem dWriter_headBoxes_68 : decode cWriter_headBoxes 68 = .ok (.invokevirtual 32, 3) := by decide +kernel
theorem dWriter_headBoxes_71 : decode cWriter_headBoxes 71 = .ok (.istore 5, 2) := by decide +kernel
theorem dWriter_headBoxes_73 : decode cWriter_headBoxes 73 = .ok (.aload_n 0, 1) := by decide +kernel
theorem dWriter_headBoxes_74 : decode cWriter_headBoxes 74 = .ok (.aload_n 1, 1) := by decide +kernel
theorem dWriter_headBoxes_75 : decode cWriter_headBoxes 75 = .ok (.invokevirtual 43, 3) := by decide +kernel
theorem dWriter_headBoxes_78 : decode cWriter_headBoxes 78 = .ok (.aload_n 0, 1) := by decide +kernel
theorem dWriter_headBoxes_79 : decode cWriter_headBoxes 79 = .ok (.aload_n 2, 1) := by decide +kernel
theorem dWriter_headBoxes_80 : decode cWriter_headBoxes 80 = .ok (.iconst 1, 1) := by decide +kernel
theorem dWriter_headBoxes_81 : decode cWriter_headBoxes 81 = .ok (.invokevirtual 47, 3) := by decide +kernel
theorem dWriter_headBoxes_84 : decode cWriter_headBoxes 84 = .ok (.aload_n 0, 1) := by decide +kernel
theorem dWriter_headBoxes_85 : decode cWriter_headBoxes 85 = .ok (.iload 5, 2) := by decide +kernel
theorem dWriter_headBoxes_87 : decode cWriter_headBoxes 87 = .ok (.invokevirtual 37, 3) := by decide +kernel
theorem dWriter_headBoxes_90 : decode cWriter_headBoxes 90 = .ok (.return_, 1) := by decide +kernel
theorem dWriter_code_0 : decode cWriter_code 0 = .ok (.aload_n 0, 1) := by decide +kernel
theorem dWriter_code_1 : decode cWriter_code 1 = .ok (.getfield 14, 3) := by decide +kernel
theorem dWriter_code_4 : decode cWriter_code 4 = .ok (.sipush 255, 3) := by decide +kernel
theorem dWriter_code_7 : decode cWriter_code 7 = .ok (.invokevirtual 68, 3) := by decide +kernel
theorem dWriter_code_10 : decode cWriter_code 10 = .ok (.pop, 1) := by decide +kernel
theorem dWriter_code_11 : decode cWriter_code 11 = .ok (.aload_n 0, 1) := by decide +kernel
theorem dWriter_code_12 : decode cWriter_code 12 = .ok (.getfield 14, 3) := by decide +kernel
theorem dWriter_code_15 : decode cWriter_code 15 = .ok (.iload_n 1, 1) := by decide +kernel
theorem dWriter_code_16 : decode cWriter_code 16 = .ok (.invokevirtual 68, 3) := by decide +kernel
theorem dWriter_code_19 : decode cWriter_code 19 = .ok (.pop, 1) := by decide +kernel
theorem dWriter_code_20 : decode cWriter_code 20 = .ok (.return_, 1) := by decide +kernel
theorem dWriter_sizes_0 : decode cWriter_sizes 0 = .ok (.aload_n 1, 1) := by decide +kernel
theorem dWriter_sizes_1 : decode cWriter_sizes 1 = .ok (.getfield 51, 3) := by decide +kernel
theorem dWriter_sizes_4 : decode cWriter_sizes 4 = .ok (.iconst 2, 1) := by decide +kernel
theorem dWriter_sizes_5 : decode cWriter_sizes 5 = .ok (.iaload, 1) := by decide +kernel
theorem dWriter_sizes_6 : decode cWriter_sizes 6 = .ok (.istore_n 2, 1) := by decide +kernel
theorem dWriter_sizes_7 : decode cWriter_sizes 7 = .ok (.aload_n 0, 1) := by decide +kernel
theorem dWriter_sizes_8 : decode cWriter_sizes 8 = .ok (.bipush 81, 2) := by decide +kernel
theorem dWriter_sizes_10 : decode cWriter_sizes 10 = .ok (.invokevirtual 101, 3) := by decide +kernel
theorem dWriter_sizes_13 : decode cWriter_sizes 13 = .ok (.aload_n 0, 1) := by decide +kernel
theorem dWriter_sizes_14 : decode cWriter_sizes 14 = .ok (.getfield 14, 3) := by decide +kernel
theorem dWriter_sizes_17 : decode cWriter_sizes 17 = .ok (.bipush 38, 2) := by decide +kernel
theorem dWriter_sizes_19 : decode cWriter_sizes 19 = .ok (.iconst 3, 1) := by decide +kernel
theorem dWriter_sizes_20 : decode cWriter_sizes 20 = .ok (.iload_n 2, 1) := by decide +kernel
theorem dWriter_sizes_21 : decode cWriter_sizes 21 = .ok (.imul, 1) := by decide +kernel
theorem dWriter_sizes_22 : decode cWriter_sizes 22 = .ok (.iadd, 1) := by decide +kernel
theorem dWriter_sizes_23 : decode cWriter_sizes 23 = .ok (.iconst 2, 1) := by decide +kernel
theorem dWriter_sizes_24 : decode cWriter_sizes 24 = .ok (.invokevirtual 24, 3) := by decide +kernel
theorem dWriter_sizes_27 : decode cWriter_sizes 27 = .ok (.aload_n 0, 1) := by decide +kernel
theorem dWriter_sizes_28 : decode cWriter_sizes 28 = .ok (.getfield 14, 3) := by decide +kernel
theorem dWriter_sizes_31 : decode cWriter_sizes 31 = .ok (.iconst 0, 1) := by decide +kernel
theorem dWriter_sizes_32 : decode cWriter_sizes 32 = .ok (.iconst 2, 1) := by decide +kernel
theorem dWriter_sizes_33 : decode cWriter_sizes 33 = .ok (.invokevirtual 24, 3) := by decide +kernel
theorem dWriter_sizes_36 : decode cWriter_sizes 36 = .ok (.aload_n 0, 1) := by decide +kernel
theorem dWriter_sizes_37 : decode cWriter_sizes 37 = .ok (.getfield 14, 3) := by decide +kernel
theorem dWriter_sizes_40 : decode cWriter_sizes 40 = .ok (.aload_n 1, 1) := by decide +kernel
theorem dWriter_sizes_41 : decode cWriter_sizes 41 = .ok (.getfield 51, 3) := by decide +kernel
theorem dWriter_sizes_44 : decode cWriter_sizes 44 = .ok (.iconst 0, 1) := by decide +kernel
theorem dWriter_sizes_45 : decode cWriter_sizes 45 = .ok (.iaload, 1) := by decide +kernel
theorem dWriter_sizes_46 : decode cWriter_sizes 46 = .ok (.iconst 4, 1) := by decide +kernel
theorem dWriter_sizes_47 : decode cWriter_sizes 47 = .ok (.invokevirtual 24, 3) := by decide +kernel
theorem dWriter_sizes_50 : decode cWriter_sizes 50 = .ok (.aload_n 0, 1) := by decide +kernel
theorem dWriter_sizes_51 : decode cWriter_sizes 51 = .ok (.getfield 14, 3) := by decide +kernel
theorem dWriter_sizes_54 : decode cWriter_sizes 54 = .ok (.aload_n 1, 1) := by decide +kernel
theorem dWriter_sizes_55 : decode cWriter_sizes 55 = .ok (.getfield 51, 3) := by decide +kernel
theorem dWriter_sizes_58 : decode cWriter_sizes 58 = .ok (.iconst 1, 1) := by decide +kernel
theorem dWriter_sizes_59 : decode cWriter_sizes 59 = .ok (.iaload, 1) := by decide +kernel
theorem dWriter_sizes_60 : decode cWriter_sizes 60 = .ok (.iconst 4, 1) := by decide +kernel
theorem dWriter_sizes_61 : decode cWriter_sizes 61 = .ok (.invokevirtual 24, 3) := by decide +kernel
theorem dWriter_sizes_64 : decode cWriter_sizes 64 = .ok (.aload_n 0, 1) := by decide +kernel
theorem dWriter_sizes_65 : decode cWriter_sizes 65 = .ok (.getfield 14, 3) := by decide +kernel
theorem dWriter_sizes_68 : decode cWriter_sizes 68 = .ok (.iconst 0, 1) := by decide +kernel
theorem dWriter_sizes_69 : decode cWriter_sizes 69 = .ok (.iconst 4, 1) := by decide +kernel
theorem dWriter_sizes_70 : decode cWriter_sizes 70 = .ok (.invokevirtual 24, 3) := by decide +kernel
theorem dWriter_sizes_73 : decode cWriter_sizes 73 = .ok (.aload_n 0, 1) := by decide +kernel
theorem dWriter_sizes_74 : decode cWriter_sizes 74 = .ok (.getfield 14, 3) := by decide +kernel
theorem dWriter_sizes_77 : decode cWriter_sizes 77 = .ok (.iconst 0, 1) := by decide +kernel
theorem dWriter_sizes_78 : decode cWriter_sizes 78 = .ok (.iconst 4, 1) := by decide +kernel
theorem dWriter_sizes_79 : decode cWriter_sizes 79 = .ok (.invokevirtual 24, 3) := by decide +kernel
theorem dWriter_sizes_82 : decode cWriter_sizes 82 = .ok (.aload_n 0, 1) := by decide +kernel
theorem dWriter_sizes_83 : decode cWriter_sizes 83 = .ok (.getfield 14, 3) := by decide +kernel
theorem dWriter_sizes_86 : decode cWriter_sizes 86 = .ok (.aload_n 1, 1) := by decide +kernel
theorem dWriter_sizes_87 : decode cWriter_sizes 87 = .ok (.getfield 116, 3) := by decide +kernel
theorem dWriter_sizes_90 : decode cWriter_sizes 90 = .ok (.iconst 4, 1) := by decide +kernel
theorem dWriter_sizes_91 : decode cWriter_sizes 91 = .ok (.invokevirtual 24, 3) := by decide +kernel
theorem dWriter_sizes_94 : decode cWriter_sizes 94 = .ok (.aload_n 0, 1) := by decide +kernel
theorem dWriter_sizes_95 : decode cWriter_sizes 95 = .ok (.getfield 14, 3) := by decide +kernel
theorem dWriter_sizes_98 : decode cWriter_sizes 98 = .ok (.aload_n 1, 1) := by decide +kernel
theorem dWriter_sizes_99 : decode cWriter_sizes 99 = .ok (.getfield 119, 3) := by decide +kernel
theorem dWriter_sizes_102 : decode cWriter_sizes 102 = .ok (.iconst 4, 1) := by decide +kernel
theorem dWriter_sizes_103 : decode cWriter_sizes 103 = .ok (.invokevirtual 24, 3) := by decide +kernel
theorem dWriter_sizes_106 : decode cWriter_sizes 106 = .ok (.aload_n 0, 1) := by decide +kernel
theorem dWriter_sizes_107 : decode cWriter_sizes 107 = .ok (.getfield 14, 3) := by decide +kernel
theorem dWriter_sizes_110 : decode cWriter_sizes 110 = .ok (.iconst 0, 1) := by decide +kernel
theorem dWriter_sizes_111 : decode cWriter_sizes 111 = .ok (.iconst 4, 1) := by decide +kernel
theorem dWriter_sizes_112 : decode cWriter_sizes 112 = .ok (.invokevirtual 24, 3) := by decide +kernel
theorem dWriter_sizes_115 : decode cWriter_sizes 115 = .ok (.aload_n 0, 1) := by decide +kernel
theorem dWriter_sizes_116 : decode cWriter_sizes 116 = .ok (.getfield 14, 3) := by decide +kernel
theorem dWriter_sizes_119 : decode cWriter_sizes 119 = .ok (.iconst 0, 1) := by decide +kernel
theorem dWriter_sizes_120 : decode cWriter_sizes 120 = .ok (.iconst 4, 1) := by decide +kernel
theorem dWriter_sizes_121 : decode cWriter_sizes 121 = .ok (.invokevirtual 24, 3) := by decide +kernel
theorem dWriter_sizes_124 : decode cWriter_sizes 124 = .ok (.aload_n 0, 1) := by decide +kernel
theorem dWriter_sizes_125 : decode cWriter_sizes 125 = .ok (.getfield 14, 3) := by decide +kernel
theorem dWriter_sizes_128 : decode cWriter_sizes 128 = .ok (.iload_n 2, 1) := by decide +kernel
theorem dWriter_sizes_129 : decode cWriter_sizes 129 = .ok (.iconst 2, 1) := by decide +kernel
theorem dWriter_sizes_130 : decode cWriter_sizes 130 = .ok (.invokevirtual 24, 3) := by decide +kernel
theorem dWriter_sizes_133 : decode cWriter_sizes 133 = .ok (.iconst 0, 1) := by decide +kernel
theorem dWriter_sizes_134 : decode cWriter_sizes 134 = .ok (.istore_n 3, 1) := by decide +kernel
theorem dWriter_sizes_135 : decode cWriter_sizes 135 = .ok (.iload_n 3, 1) := by decide +kernel
theorem dWriter_sizes_136 : decode cWriter_sizes 136 = .ok (.iload_n 2, 1) := by decide +kernel
theorem dWriter_sizes_137 : decode cWriter_sizes 137 = .ok (.if_icmp .ge 44, 3) := by decide +kernel
theorem dWriter_sizes_140 : decode cWriter_sizes 140 = .ok (.aload_n 0, 1) := by decide +kernel
theorem dWriter_sizes_141 : decode cWriter_sizes 141 = .ok (.getfield 14, 3) := by decide +kernel
theorem dWriter_sizes_144 : decode cWriter_sizes 144 = .ok (.aload_n 1, 1) := by decide +kernel
theorem dWriter_sizes_145 : decode cWriter_sizes 145 = .ok (.iconst 3, 1) := by decide +kernel
theorem dWriter_sizes_146 : decode cWriter_sizes 146 = .ok (.iconst (-1), 1) := by decide +kernel
theorem dWriter_sizes_147 : decode cWriter_sizes 147 = .ok (.iload_n 3, 1) := by decide +kernel
theorem dWriter_sizes_148 : decode cWriter_sizes 148 = .ok (.invokevirtual 57, 3) := by decide +kernel
theorem dWriter_sizes_151 : decode cWriter_sizes 151 = .ok (.iconst 1, 1) := by decide +kernel
theorem dWriter_sizes_152 : decode cWriter_sizes 152 = .ok (.isub, 1) := by decide +kernel
theorem dWriter_sizes_153 : decode cWriter_sizes 153 = .ok (.invokevirtual 68, 3) := by decide +kernel
theorem dWriter_sizes_156 : decode cWriter_sizes 156 = .ok (.pop, 1) := by decide +kernel
