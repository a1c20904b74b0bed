theorem dBytes_init_0 : decode cBytes_init 0 = .ok (.aload_n 0, 1) := by decide +kernel
theorem dBytes_init_1 : decode cBytes_init 1 = .ok (.invokespecial 3, 3) := by decide +kernel
theorem dBytes_init_4 : decode cBytes_init 4 = .ok (.aload_n 0, 1) := by decide +kernel
theorem dBytes_init_5 : decode cBytes_init 5 = .ok (.bipush 32, 2) := by decide +kernel
theorem dBytes_init_7 : decode cBytes_init 7 = .ok (.newarray .byte, 2) := by decide +kernel
theorem dBytes_init_9 : decode cBytes_init 9 = .ok (.putfield 11, 3) := by decide +kernel
theorem dBytes_init_12 : decode cBytes_init 12 = .ok (.aload_n 0, 1) := by decide +kernel
theorem dBytes_init_13 : decode cBytes_init 13 = .ok (.iconst 0, 1) := by decide +kernel
theorem dBytes_init_14 : decode cBytes_init 14 = .ok (.putfield 15, 3) := by decide +kernel
theorem dBytes_init_17 : decode cBytes_init 17 = .ok (.aload_n 0, 1) := by decide +kernel
theorem dBytes_init_18 : decode cBytes_init 18 = .ok (.iload_n 1, 1) := by decide +kernel
theorem dBytes_init_19 : decode cBytes_init 19 = .ok (.putfield 19, 3) := by decide +kernel
theorem dBytes_init_22 : decode cBytes_init 22 = .ok (.return_, 1) := by decide +kernel
theorem dBytes_get_0 : decode cBytes_get 0 = .ok (.iload_n 1, 1) := by decide +kernel
theorem dBytes_get_1 : decode cBytes_get 1 = .ok (.ifCond .lt 24, 3) := by decide +kernel
theorem dBytes_get_4 : decode cBytes_get 4 = .ok (.iload_n 1, 1) := by decide +kernel
theorem dBytes_get_5 : decode cBytes_get 5 = .ok (.aload_n 0, 1) := by decide +kernel
theorem dBytes_get_6 : decode cBytes_get 6 = .ok (.getfield 15, 3) := by decide +kernel
theorem dBytes_get_9 : decode cBytes_get 9 = .ok (.if_icmp .ge 16, 3) := by decide +kernel
theorem dBytes_get_12 : decode cBytes_get 12 = .ok (.aload_n 0, 1) := by decide +kernel
theorem dBytes_get_13 : decode cBytes_get 13 = .ok (.getfield 11, 3) := by decide +kernel
theorem dBytes_get_16 : decode cBytes_get 16 = .ok (.iload_n 1, 1) := by decide +kernel
theorem dBytes_get_17 : decode cBytes_get 17 = .ok (.baload, 1) := by decide +kernel
theorem dBytes_get_18 : decode cBytes_get 18 = .ok (.sipush 255, 3) := by decide +kernel
theorem dBytes_get_21 : decode cBytes_get 21 = .ok (.iand, 1) := by decide +kernel
theorem dBytes_get_22 : decode cBytes_get 22 = .ok (.goto 4, 3) := by decide +kernel
theorem dBytes_get_25 : decode cBytes_get 25 = .ok (.iconst (-1), 1) := by decide +kernel
theorem dBytes_get_26 : decode cBytes_get 26 = .ok (.ireturn, 1) := by decide +kernel
theorem dBytes_put_0 : decode cBytes_put 0 = .ok (.iload_n 1, 1) := by decide +kernel
theorem dBytes_put_1 : decode cBytes_put 1 = .ok (.ifCond .lt 19, 3) := by decide +kernel
theorem dBytes_put_4 : decode cBytes_put 4 = .ok (.iload_n 1, 1) := by decide +kernel
theorem dBytes_put_5 : decode cBytes_put 5 = .ok (.aload_n 0, 1) := by decide +kernel
theorem dBytes_put_6 : decode cBytes_put 6 = .ok (.getfield 15, 3) := by decide +kernel
theorem dBytes_put_9 : decode cBytes_put 9 = .ok (.if_icmp .ge 11, 3) := by decide +kernel
theorem dBytes_put_12 : decode cBytes_put 12 = .ok (.aload_n 0, 1) := by decide +kernel
theorem dBytes_put_13 : decode cBytes_put 13 = .ok (.getfield 11, 3) := by decide +kernel
theorem dBytes_put_16 : decode cBytes_put 16 = .ok (.iload_n 1, 1) := by decide +kernel
theorem dBytes_put_17 : decode cBytes_put 17 = .ok (.iload_n 2, 1) := by decide +kernel
theorem dBytes_put_18 : decode cBytes_put 18 = .ok (.i2b, 1) := by decide +kernel
theorem dBytes_put_19 : decode cBytes_put 19 = .ok (.bastore, 1) := by decide +kernel
theorem dBytes_put_20 : decode cBytes_put 20 = .ok (.return_, 1) := by decide +kernel
theorem dBytes_putNumber4_0 : decode cBytes_putNumber4 0 = .ok (.iconst 0, 1) := by decide +kernel
theorem dBytes_putNumber4_1 : decode cBytes_putNumber4 1 = .ok (.istore_n 3, 1) := by decide +kernel
theorem dBytes_putNumber4_2 : decode cBytes_putNumber4 2 = .ok (.iload_n 3, 1) := by decide +kernel
theorem dBytes_putNumber4_3 : decode cBytes_putNumber4 3 = .ok (.iconst 4, 1) := by decide +kernel
theorem dBytes_putNumber4_4 : decode cBytes_putNumber4 4 = .ok (.if_icmp .ge 29, 3) := by decide +kernel
theorem dBytes_putNumber4_7 : decode cBytes_putNumber4 7 = .ok (.aload_n 0, 1) := by decide +kernel
theorem dBytes_putNumber4_8 : decode cBytes_putNumber4 8 = .ok (.iload_n 1, 1) := by decide +kernel
theorem dBytes_putNumber4_9 : decode cBytes_putNumber4 9 = .ok (.iload_n 3, 1) := by decide +kernel
theorem dBytes_putNumber4_10 : decode cBytes_putNumber4 10 = .ok (.iadd, 1) := by decide +kernel
theorem dBytes_putNumber4_11 : decode cBytes_putNumber4 11 = .ok (.iload_n 2, 1) := by decide +kernel
theorem dBytes_putNumber4_12 : decode cBytes_putNumber4 12 = .ok (.bipush 24, 2) := by decide +kernel
theorem dBytes_putNumber4_14 : decode cBytes_putNumber4 14 = .ok (.bipush 8, 2) := by decide +kernel
theorem dBytes_putNumber4_16 : decode cBytes_putNumber4 16 = .ok (.iload_n 3, 1) := by decide +kernel
theorem dBytes_putNumber4_17 : decode cBytes_putNumber4 17 = .ok (.imul, 1) := by decide +kernel
theorem dBytes_putNumber4_18 : decode cBytes_putNumber4 18 = .ok (.isub, 1) := by decide +kernel
theorem dBytes_putNumber4_19 : decode cBytes_putNumber4 19 = .ok (.iushr, 1) := by decide +kernel
theorem dBytes_putNumber4_20 : decode cBytes_putNumber4 20 = .ok (.sipush 255, 3) := by decide +kernel
theorem dBytes_putNumber4_23 : decode cBytes_putNumber4 23 = .ok (.iand, 1) := by decide +kernel
theorem dBytes_putNumber4_24 : decode cBytes_putNumber4 24 = .ok (.invokevirtual 38, 3) := by decide +kernel
theorem dBytes_putNumber4_27 : decode cBytes_putNumber4 27 = .ok (.iinc 3 1, 3) := by decide +kernel
theorem dBytes_putNumber4_30 : decode cBytes_putNumber4 30 = .ok (.goto (-28), 3) := by decide +kernel
theorem dBytes_putNumber4_33 : decode cBytes_putNumber4 33 = .ok (.return_, 1) := by decide +kernel
theorem dBytes_number_0 : decode cBytes_number 0 = .ok (.lconst 0, 1) := by decide +kernel
theorem dBytes_number_1 : decode cBytes_number 1 = .ok (.lstore_n 3, 1) := by decide +kernel
theorem dBytes_number_2 : decode cBytes_number 2 = .ok (.iconst 0, 1) := by decide +kernel
theorem dBytes_number_3 : decode cBytes_number 3 = .ok (.istore 5, 2) := by decide +kernel
theorem dBytes_number_5 : decode cBytes_number 5 = .ok (.iload 5, 2) := by decide +kernel
theorem dBytes_number_7 : decode cBytes_number 7 = .ok (.iload_n 2, 1) := by decide +kernel
theorem dBytes_number_8 : decode cBytes_number 8 = .ok (.if_icmp .ge 29, 3) := by decide +kernel
theorem dBytes_number_11 : decode cBytes_number 11 = .ok (.lload_n 3, 1) := by decide +kernel
theorem dBytes_number_12 : decode cBytes_number 12 = .ok (.ldc2_w 42, 3) := by decide +kernel
theorem dBytes_number_15 : decode cBytes_number 15 = .ok (.lmul, 1) := by decide +kernel
theorem dBytes_number_16 : decode cBytes_number 16 = .ok (.iconst 0, 1) := by decide +kernel
theorem dBytes_number_17 : decode cBytes_number 17 = .ok (.aload_n 0, 1) := by decide +kernel
theorem dBytes_number_18 : decode cBytes_number 18 = .ok (.iload_n 1, 1) := by decide +kernel
theorem dBytes_number_19 : decode cBytes_number 19 = .ok (.iload 5, 2) := by decide +kernel
theorem dBytes_number_21 : decode cBytes_number 21 = .ok (.iadd, 1) := by decide +kernel
theorem dBytes_number_22 : decode cBytes_number 22 = .ok (.invokevirtual 44, 3) := by decide +kernel
theorem dBytes_number_25 : decode cBytes_number 25 = .ok (.invokestatic 48, 3) := by decide +kernel
theorem dBytes_number_28 : decode cBytes_number 28 = .ok (.i2l, 1) := by decide +kernel
theorem dBytes_number_29 : decode cBytes_number 29 = .ok (.ladd, 1) := by decide +kernel
theorem dBytes_number_30 : decode cBytes_number 30 = .ok (.lstore_n 3, 1) := by decide +kernel
theorem dBytes_number_31 : decode cBytes_number 31 = .ok (.iinc 5 1, 3) := by decide +kernel
theorem dBytes_number_34 : decode cBytes_number 34 = .ok (.goto (-29), 3) := by decide +kernel
theorem dBytes_number_37 : decode cBytes_number 37 = .ok (.lload_n 3, 1) := by decide +kernel
theorem dBytes_number_38 : decode cBytes_number 38 = .ok (.lreturn, 1) := by decide +kernel
theorem dNumbers_init_0 : decode cNumbers_init 0 = .ok (.aload_n 0, 1) := by decide +kernel
theorem dNumbers_init_1 : decode cNumbers_init 1 = .ok (.invokespecial 3, 3) := by decide +kernel
theorem dNumbers_init_4 : decode cNumbers_init 4 = .ok (.aload_n 0, 1) := by decide +kernel
theorem dNumbers_init_5 : decode cNumbers_init 5 = .ok (.bipush 8, 2) := by decide +kernel
theorem dNumbers_init_7 : decode cNumbers_init 7 = .ok (.newarray .int, 2) := by decide +kernel
theorem dNumbers_init_9 : decode cNumbers_init 9 = .ok (.putfield 11, 3) := by decide +kernel
theorem dNumbers_init_12 : decode cNumbers_init 12 = .ok (.aload_n 0, 1) := by decide +kernel
theorem dNumbers_init_13 : decode cNumbers_init 13 = .ok (.iconst 0, 1) := by decide +kernel
theorem dNumbers_init_14 : decode cNumbers_init 14 = .ok (.putfield 15, 3) := by decide +kernel
theorem dNumbers_init_17 : decode cNumbers_init 17 = .ok (.return_, 1) := by decide +kernel
theorem dNumbers_get_0 : decode cNumbers_get 0 = .ok (.iload_n 1, 1) := by decide +kernel
theorem dNumbers_get_1 : decode cNumbers_get 1 = .ok (.ifCond .lt 20, 3) := by decide +kernel
theorem dNumbers_get_4 : decode cNumbers_get 4 = .ok (.iload_n 1, 1) := by decide +kernel
theorem dNumbers_get_5 : decode cNumbers_get 5 = .ok (.aload_n 0, 1) := by decide +kernel
theorem dNumbers_get_6 : decode cNumbers_get 6 = .ok (.getfield 15, 3) := by decide +kernel
theorem dNumbers_get_9 : decode cNumbers_get 9 = .ok (.if_icmp .ge 12, 3) := by decide +kernel
theorem dNumbers_get_12 : decode cNumbers_get 12 = .ok (.aload_n 0, 1) := by decide +kernel
theorem dNumbers_get_13 : decode cNumbers_get 13 = .ok (.getfield 11, 3) := by decide +kernel
theorem dNumbers_get_16 : decode cNumbers_get 16 = .ok (.iload_n 1, 1) := by decide +kernel
theorem dNumbers_get_17 : decode cNumbers_get 17 = .ok (.iaload, 1) := by decide +kernel
theorem dNumbers_get_18 : decode cNumbers_get 18 = .ok (.goto 4, 3) := by decide +kernel
theorem dNumbers_get_21 : decode cNumbers_get 21 = .ok (.iconst (-1), 1) := by decide +kernel
theorem dNumbers_get_22 : decode cNumbers_get 22 = .ok (.ireturn, 1) := by decide +kernel
theorem dTilePart_init_0 : decode cTilePart_init 0 = .ok (.aload_n 0, 1) := by decide +kernel
theorem dTilePart_init_1 : decode cTilePart_init 1 = .ok (.invokespecial 3, 3) := by decide +kernel
theorem dTilePart_init_4 : decode cTilePart_init 4 = .ok (.aload_n 0, 1) := by decide +kernel
theorem dTilePart_init_5 : decode cTilePart_init 5 = .ok (.bipush 20, 2) := by decide +kernel
theorem dTilePart_init_7 : decode cTilePart_init 7 = .ok (.newarray .int, 2) := by decide +kernel
theorem dTilePart_init_9 : decode cTilePart_init 9 = .ok (.putfield 9, 3) := by decide +kernel
theorem dTilePart_init_12 : decode cTilePart_init 12 = .ok (.aload_n 0, 1) := by decide +kernel
theorem dTilePart_init_13 : decode cTilePart_init 13 = .ok (.new 15, 3) := by decide +kernel
theorem dTilePart_init_16 : decode cTilePart_init 16 = .ok (.dup, 1) := by decide +kernel
theorem dTilePart_init_17 : decode cTilePart_init 17 = .ok (.sipush 300, 3) := by decide +kernel
theorem dTilePart_init_20 : decode cTilePart_init 20 = .ok (.invokespecial 17, 3) := by decide +kernel
theorem dTilePart_init_23 : decode cTilePart_init 23 = .ok (.putfield 20, 3) := by decide +kernel
theorem dTilePart_init_26 : decode cTilePart_init 26 = .ok (.aload_n 0, 1) := by decide +kernel
theorem dTilePart_init_27 : decode cTilePart_init 27 = .ok (.iconst 0, 1) := by decide +kernel
theorem dTilePart_init_28 : decode cTilePart_init 28 = .ok (.putfield 24, 3) := by decide +kernel
theorem dTilePart_init_31 : decode cTilePart_init 31 = .ok (.aload_n 0, 1) := by decide +kernel
theorem dTilePart_init_32 : decode cTilePart_init 32 = .ok (.iload_n 1, 1) := by decide +kernel
theorem dTilePart_init_33 : decode cTilePart_init 33 = .ok (.putfield 28, 3) := by decide +kernel
theorem dTilePart_init_36 : decode cTilePart_init 36 = .ok (.aload_n 0, 1) := by decide +kernel
theorem dTilePart_init_37 : decode cTilePart_init 37 = .ok (.iload_n 2, 1) := by decide +kernel
theorem dTilePart_init_38 : decode cTilePart_init 38 = .ok (.putfield 31, 3) := by decide +kernel
theorem dTilePart_init_41 : decode cTilePart_init 41 = .ok (.return_, 1) := by decide +kernel
theorem dMadeBox_init_0 : decode cMadeBox_init 0 = .ok (.aload_n 0, 1) := by decide +kernel
theorem dMadeBox_init_1 : decode cMadeBox_init 1 = .ok (.invokespecial 3, 3) := by decide +kernel
theorem dMadeBox_init_4 : decode cMadeBox_init 4 = .ok (.aload_n 0, 1) := by decide +kernel
theorem dMadeBox_init_5 : decode cMadeBox_init 5 = .ok (.new 9, 3) := by decide +kernel
theorem dMadeBox_init_8 : decode cMadeBox_init 8 = .ok (.dup, 1) := by decide +kernel
theorem dMadeBox_init_9 : decode cMadeBox_init 9 = .ok (.bipush 40, 2) := by decide +kernel
theorem dMadeBox_init_11 : decode cMadeBox_init 11 = .ok (.invokespecial 11, 3) := by decide +kernel
theorem dMadeBox_init_14 : decode cMadeBox_init 14 = .ok (.putfield 14, 3) := by decide +kernel
theorem dMadeBox_init_17 : decode cMadeBox_init 17 = .ok (.aload_n 0, 1) := by decide +kernel
theorem dMadeBox_init_18 : decode cMadeBox_init 18 = .ok (.iload_n 1, 1) := by decide +kernel
theorem dMadeBox_init_19 : decode cMadeBox_init 19 = .ok (.putfield 20, 3) := by decide +kernel
theorem dMadeBox_init_22 : decode cMadeBox_init 22 = .ok (.aload_n 0, 1) := by decide +kernel
theorem dMadeBox_init_23 : decode cMadeBox_init 23 = .ok (.iload_n 2, 1) := by decide +kernel
theorem dMadeBox_init_24 : decode cMadeBox_init 24 = .ok (.putfield 24, 3) := by decide +kernel
theorem dMadeBox_init_27 : decode cMadeBox_init 27 = .ok (.return_, 1) := by decide +kernel
theorem dSettings_init_0 : decode cSettings_init 0 = .ok (.aload_n 0, 1) := by decide +kernel
theorem dSettings_init_1 : decode cSettings_init 1 = .ok (.invokespecial 5, 3) := by decide +kernel
theorem dSettings_init_4 : decode cSettings_init 4 = .ok (.aload_n 0, 1) := by decide +kernel
theorem dSettings_init_5 : decode cSettings_init 5 = .ok (.iconst 3, 1) := by decide +kernel
theorem dSettings_init_6 : decode cSettings_init 6 = .ok (.newarray .int, 2) := by decide +kernel
theorem dSettings_init_8 : decode cSettings_init 8 = .ok (.putfield 11, 3) := by decide +kernel
theorem dSettings_init_11 : decode cSettings_init 11 = .ok (.aload_n 0, 1) := by decide +kernel
theorem dSettings_init_12 : decode cSettings_init 12 = .ok (.iconst 4, 1) := by decide +kernel
theorem dSettings_init_13 : decode cSettings_init 13 = .ok (.newarray .int, 2) := by decide +kernel
theorem dSettings_init_15 : decode cSettings_init 15 = .ok (.putfield 15, 3) := by decide +kernel
theorem dSettings_init_18 : decode cSettings_init 18 = .ok (.aload_n 0, 1) := by decide +kernel
theorem dSettings_init_19 : decode cSettings_init 19 = .ok (.sipush 875, 3) := by decide +kernel
theorem dSettings_init_22 : decode cSettings_init 22 = .ok (.newarray .int, 2) := by decide +kernel
theorem dSettings_init_24 : decode cSettings_init 24 = .ok (.putfield 18, 3) := by decide +kernel
theorem dSettings_init_27 : decode cSettings_init 27 = .ok (.aload_n 0, 1) := by decide +kernel
theorem dSettings_init_28 : decode cSettings_init 28 = .ok (.bipush 125, 2) := by decide +kernel
theorem dSettings_init_30 : decode cSettings_init 30 = .ok (.newarray .boolean, 2) := by decide +kernel
theorem dSettings_init_32 : decode cSettings_init 32 = .ok (.putfield 21, 3) := by decide +kernel
theorem dSettings_init_35 : decode cSettings_init 35 = .ok (.aload_n 0, 1) := by decide +kernel
theorem dSettings_init_36 : decode cSettings_init 36 = .ok (.bipush 125, 2) := by decide +kernel
theorem dSettings_init_38 : decode cSettings_init 38 = .ok (.newarray .boolean, 2) := by decide +kernel
theorem dSettings_init_40 : decode cSettings_init 40 = .ok (.putfield 25, 3) := by decide +kernel
theorem dSettings_init_43 : decode cSettings_init 43 = .ok (.aload_n 0, 1) := by decide +kernel
theorem dSettings_init_44 : decode cSettings_init 44 = .ok (.iconst 1, 1) := by decide +kernel
theorem dSettings_init_45 : decode cSettings_init 45 = .ok (.putfield 28, 3) := by decide +kernel
theorem dSettings_init_48 : decode cSettings_init 48 = .ok (.aload_n 0, 1) := by decide +kernel
theorem dSettings_init_49 : decode cSettings_init 49 = .ok (.iconst 1, 1) := by decide +kernel
theorem dSettings_init_50 : decode cSettings_init 50 = .ok (.putfield 32, 3) := by decide +kernel
theorem dSettings_init_53 : decode cSettings_init 53 = .ok (.return_, 1) := by decide +kernel
theorem dSettings_forgetSegments_0 : decode cSettings_forgetSegments 0 = .ok (.iconst 0, 1) := by decide +kernel
theorem dSettings_forgetSegments_1 : decode cSettings_forgetSegments 1 = .ok (.istore_n 1, 1) := by decide +kernel
theorem dSettings_forgetSegments_2 : decode cSettings_forgetSegments 2 = .ok (.iload_n 1, 1) := by decide +kernel
theorem dSettings_forgetSegments_3 : decode cSettings_forgetSegments 3 = .ok (.bipush 125, 2) := by decide +kernel
theorem dSettings_forgetSegments_5 : decode cSettings_forgetSegments 5 = .ok (.if_icmp .ge 23, 3) := by decide +kernel
theorem dSettings_forgetSegments_8 : decode cSettings_forgetSegments 8 = .ok (.aload_n 0, 1) := by decide +kernel
theorem dSettings_forgetSegments_9 : decode cSettings_forgetSegments 9 = .ok (.getfield 21, 3) := by decide +kernel
theorem dSettings_forgetSegments_12 : decode cSettings_forgetSegments 12 = .ok (.iload_n 1, 1) := by decide +kernel
theorem dSettings_forgetSegments_13 : decode cSettings_forgetSegments 13 = .ok (.iconst 0, 1) := by decide +kernel
theorem dSettings_forgetSegments_14 : decode cSettings_forgetSegments 14 = .ok (.bastore, 1) := by decide +kernel
theorem dSettings_forgetSegments_15 : decode cSettings_forgetSegments 15 = .ok (.aload_n 0, 1) := by decide +kernel
theorem dSettings_forgetSegments_16 : decode cSettings_forgetSegments 16 = .ok (.getfield 25, 3) := by decide +kernel
theorem dSettings_forgetSegments_19 : decode cSettings_forgetSegments 19 = .ok (.iload_n 1, 1) := by decide +kernel
theorem dSettings_forgetSegments_20 : decode cSettings_forgetSegments 20 = .ok (.iconst 0, 1) := by decide +kernel
theorem dSettings_forgetSegments_21 : decode cSettings_forgetSegments 21 = .ok (.bastore, 1) := by decide +kernel
theorem dSettings_forgetSegments_22 : decode cSettings_forgetSegments 22 = .ok (.iinc 1 1, 3) := by decide +kernel
theorem dSettings_forgetSegments_25 : decode cSettings_forgetSegments 25 = .ok (.goto (-23), 3) := by decide +kernel
theorem dSettings_forgetSegments_28 : decode cSettings_forgetSegments 28 = .ok (.return_, 1) := by decide +kernel
theorem dSettings_place_0 : decode cSettings_place 0 = .ok (.iload_n 0, 1) := by decide +kernel
theorem dSettings_place_1 : decode cSettings_place 1 = .ok (.bipush 7, 2) := by decide +kernel
theorem dSettings_place_3 : decode cSettings_place 3 = .ok (.imul, 1) := by decide +kernel
theorem dSettings_place_4 : decode cSettings_place 4 = .ok (.iload_n 1, 1) := by decide +kernel
theorem dSettings_place_5 : decode cSettings_place 5 = .ok (.iadd, 1) := by decide +kernel
theorem dSettings_place_6 : decode cSettings_place 6 = .ok (.iconst 4, 1) := by decide +kernel
theorem dSettings_place_7 : decode cSettings_place 7 = .ok (.isub, 1) := by decide +kernel
theorem dSettings_place_8 : decode cSettings_place 8 = .ok (.ireturn, 1) := by decide +kernel
theorem dSettings_hold_0 : decode cSettings_hold 0 = .ok (.aload_n 0, 1) := by decide +kernel
theorem dSettings_hold_1 : decode cSettings_hold 1 = .ok (.getfield 18, 3) := by decide +kernel
theorem dSettings_hold_4 : decode cSettings_hold 4 = .ok (.iload_n 1, 1) := by decide +kernel
theorem dSettings_hold_5 : decode cSettings_hold 5 = .ok (.iload_n 2, 1) := by decide +kernel
theorem dSettings_hold_6 : decode cSettings_hold 6 = .ok (.invokestatic 72, 3) := by decide +kernel
theorem dSettings_hold_9 : decode cSettings_hold 9 = .ok (.iload_n 3, 1) := by decide +kernel
theorem dSettings_hold_10 : decode cSettings_hold 10 = .ok (.iastore, 1) := by decide +kernel
theorem dSettings_hold_11 : decode cSettings_hold 11 = .ok (.iload_n 2, 1) := by decide +kernel
theorem dSettings_hold_12 : decode cSettings_hold 12 = .ok (.bipush 9, 2) := by decide +kernel
theorem dSettings_hold_14 : decode cSettings_hold 14 = .ok (.if_icmp .ge 13, 3) := by decide +kernel
theorem dSettings_hold_17 : decode cSettings_hold 17 = .ok (.aload_n 0, 1) := by decide +kernel
theorem dSettings_hold_18 : decode cSettings_hold 18 = .ok (.getfield 21, 3) := by decide +kernel
theorem dSettings_hold_21 : decode cSettings_hold 21 = .ok (.iload_n 1, 1) := by decide +kernel
theorem dSettings_hold_22 : decode cSettings_hold 22 = .ok (.iconst 1, 1) := by decide +kernel
theorem dSettings_hold_23 : decode cSettings_hold 23 = .ok (.bastore, 1) := by decide +kernel
theorem dSettings_hold_24 : decode cSettings_hold 24 = .ok (.goto 10, 3) := by decide +kernel
theorem dSettings_hold_27 : decode cSettings_hold 27 = .ok (.aload_n 0, 1) := by decide +kernel
theorem dSettings_hold_28 : decode cSettings_hold 28 = .ok (.getfield 25, 3) := by decide +kernel
theorem dSettings_hold_31 : decode cSettings_hold 31 = .ok (.iload_n 1, 1) := by decide +kernel
theorem dSettings_hold_32 : decode cSettings_hold 32 = .ok (.iconst 1, 1) := by decide +kernel
theorem dSettings_hold_33 : decode cSettings_hold 33 = .ok (.bastore, 1) := by decide +kernel
theorem dSettings_hold_34 : decode cSettings_hold 34 = .ok (.return_, 1) := by decide +kernel
theorem dSettings_restart_0 : decode cSettings_restart 0 = .ok (.aload_n 0, 1) := by decide +kernel
theorem dSettings_restart_1 : decode cSettings_restart 1 = .ok (.iload_n 1, 1) := by decide +kernel
theorem dSettings_restart_2 : decode cSettings_restart 2 = .ok (.putfield 28, 3) := by decide +kernel
theorem dSettings_restart_5 : decode cSettings_restart 5 = .ok (.aload_n 0, 1) := by decide +kernel
theorem dSettings_restart_6 : decode cSettings_restart 6 = .ok (.iload_n 2, 1) := by decide +kernel
theorem dSettings_restart_7 : decode cSettings_restart 7 = .ok (.putfield 32, 3) := by decide +kernel
theorem dSettings_restart_10 : decode cSettings_restart 10 = .ok (.aload_n 0, 1) := by decide +kernel
theorem dSettings_restart_11 : decode cSettings_restart 11 = .ok (.getfield 11, 3) := by decide +kernel
theorem dSettings_restart_14 : decode cSettings_restart 14 = .ok (.iconst 0, 1) := by decide +kernel
theorem dSettings_restart_15 : decode cSettings_restart 15 = .ok (.iload_n 1, 1) := by decide +kernel
theorem dSettings_restart_16 : decode cSettings_restart 16 = .ok (.iastore, 1) := by decide +kernel
theorem dSettings_restart_17 : decode cSettings_restart 17 = .ok (.aload_n 0, 1) := by decide +kernel
theorem dSettings_restart_18 : decode cSettings_restart 18 = .ok (.getfield 11, 3) := by decide +kernel
theorem dSettings_restart_21 : decode cSettings_restart 21 = .ok (.iconst 1, 1) := by decide +kernel
theorem dSettings_restart_22 : decode cSettings_restart 22 = .ok (.iload_n 2, 1) := by decide +kernel
theorem dSettings_restart_23 : decode cSettings_restart 23 = .ok (.iastore, 1) := by decide +kernel
theorem dSettings_restart_24 : decode cSettings_restart 24 = .ok (.aload_n 0, 1) := by decide +kernel
theorem dSettings_restart_25 : decode cSettings_restart 25 = .ok (.getfield 11, 3) := by decide +kernel
theorem dSettings_restart_28 : decode cSettings_restart 28 = .ok (.iconst 2, 1) := by decide +kernel
theorem dSettings_restart_29 : decode cSettings_restart 29 = .ok (.getstatic 35, 3) := by decide +kernel
theorem dSettings_restart_32 : decode cSettings_restart 32 = .ok (.iconst 2, 1) := by decide +kernel
theorem dSettings_restart_33 : decode cSettings_restart 33 = .ok (.iaload, 1) := by decide +kernel
theorem dSettings_restart_34 : decode cSettings_restart 34 = .ok (.iastore, 1) := by decide +kernel
theorem dSettings_restart_35 : decode cSettings_restart 35 = .ok (.iconst 0, 1) := by decide +kernel
theorem dSettings_restart_36 : decode cSettings_restart 36 = .ok (.istore_n 3, 1) := by decide +kernel
theorem dSettings_restart_37 : decode cSettings_restart 37 = .ok (.iload_n 3, 1) := by decide +kernel
theorem dSettings_restart_38 : decode cSettings_restart 38 = .ok (.iconst 4, 1) := by decide +kernel
theorem dSettings_restart_39 : decode cSettings_restart 39 = .ok (.if_icmp .ge 20, 3) := by decide +kernel
theorem dSettings_restart_42 : decode cSettings_restart 42 = .ok (.aload_n 0, 1) := by decide +kernel
theorem dSettings_restart_43 : decode cSettings_restart 43 = .ok (.getfield 15, 3) := by decide +kernel
theorem dSettings_restart_46 : decode cSettings_restart 46 = .ok (.iload_n 3, 1) := by decide +kernel
theorem dSettings_restart_47 : decode cSettings_restart 47 = .ok (.getstatic 35, 3) := by decide +kernel
theorem dSettings_restart_50 : decode cSettings_restart 50 = .ok (.iconst 3, 1) := by decide +kernel
theorem dSettings_restart_51 : decode cSettings_restart 51 = .ok (.iaload, 1) := by decide +kernel
theorem dSettings_restart_52 : decode cSettings_restart 52 = .ok (.iastore, 1) := by decide +kernel
theorem dSettings_restart_53 : decode cSettings_restart 53 = .ok (.iinc 3 1, 3) := by decide +kernel
theorem dSettings_restart_56 : decode cSettings_restart 56 = .ok (.goto (-19), 3) := by decide +kernel
theorem dSettings_restart_59 : decode cSettings_restart 59 = .ok (.aload_n 0, 1) := by decide +kernel
theorem dSettings_restart_60 : decode cSettings_restart 60 = .ok (.invokevirtual 38, 3) := by decide +kernel
theorem dSettings_restart_63 : decode cSettings_restart 63 = .ok (.iconst 4, 1) := by decide +kernel
theorem dSettings_restart_64 : decode cSettings_restart 64 = .ok (.istore_n 3, 1) := by decide +kernel
theorem dSettings_restart_65 : decode cSettings_restart 65 = .ok (.iload_n 3, 1) := by decide +kernel
theorem dSettings_restart_66 : decode cSettings_restart 66 = .ok (.bipush 10, 2) := by decide +kernel
theorem dSettings_restart_68 : decode cSettings_restart 68 = .ok (.if_icmp .gt 20, 3) := by decide +kernel
theorem dSettings_restart_71 : decode cSettings_restart 71 = .ok (.aload_n 0, 1) := by decide +kernel
theorem dSettings_restart_72 : decode cSettings_restart 72 = .ok (.iconst 0, 1) := by decide +kernel
theorem dSettings_restart_73 : decode cSettings_restart 73 = .ok (.iload_n 3, 1) := by decide +kernel
theorem dSettings_restart_74 : decode cSettings_restart 74 = .ok (.getstatic 35, 3) := by decide +kernel
theorem dSettings_restart_77 : decode cSettings_restart 77 = .ok (.iload_n 3, 1) := by decide +kernel
theorem dSettings_restart_78 : decode cSettings_restart 78 = .ok (.iaload, 1) := by decide +kernel
theorem dSettings_restart_79 : decode cSettings_restart 79 = .ok (.invokevirtual 41, 3) := by decide +kernel
theorem dSettings_restart_82 : decode cSettings_restart 82 = .ok (.iinc 3 1, 3) := by decide +kernel
theorem dSettings_restart_85 : decode cSettings_restart 85 = .ok (.goto (-20), 3) := by decide +kernel
theorem dSettings_restart_88 : decode cSettings_restart 88 = .ok (.return_, 1) := by decide +kernel
theorem dSettings_slotOf_0 : decode cSettings_slotOf 0 = .ok (.iload_n 0, 1) := by decide +kernel
theorem dSettings_slotOf_1 : decode cSettings_slotOf 1 = .ok (.ifCond .lt 15, 3) := by decide +kernel
theorem dSettings_slotOf_4 : decode cSettings_slotOf 4 = .ok (.iload_n 0, 1) := by decide +kernel
theorem dSettings_slotOf_5 : decode cSettings_slotOf 5 = .ok (.bipush 24, 2) := by decide +kernel
theorem dSettings_slotOf_7 : decode cSettings_slotOf 7 = .ok (.if_icmp .ge 9, 3) := by decide +kernel
theorem dSettings_slotOf_10 : decode cSettings_slotOf 10 = .ok (.iload_n 0, 1) := by decide +kernel
theorem dSettings_slotOf_11 : decode cSettings_slotOf 11 = .ok (.iconst 1, 1) := by decide +kernel
theorem dSettings_slotOf_12 : decode cSettings_slotOf 12 = .ok (.iadd, 1) := by decide +kernel
theorem dSettings_slotOf_13 : decode cSettings_slotOf 13 = .ok (.goto 4, 3) := by decide +kernel
theorem dSettings_slotOf_16 : decode cSettings_slotOf 16 = .ok (.iconst 0, 1) := by decide +kernel
theorem dSettings_slotOf_17 : decode cSettings_slotOf 17 = .ok (.istore_n 2, 1) := by decide +kernel
theorem dSettings_slotOf_18 : decode cSettings_slotOf 18 = .ok (.iload_n 1, 1) := by decide +kernel
theorem dSettings_slotOf_19 : decode cSettings_slotOf 19 = .ok (.ifCond .lt 14, 3) := by decide +kernel
theorem dSettings_slotOf_22 : decode cSettings_slotOf 22 = .ok (.iload_n 1, 1) := by decide +kernel
theorem dSettings_slotOf_23 : decode cSettings_slotOf 23 = .ok (.iconst 4, 1) := by decide +kernel
theorem dSettings_slotOf_24 : decode cSettings_slotOf 24 = .ok (.if_icmp .ge 9, 3) := by decide +kernel
theorem dSettings_slotOf_27 : decode cSettings_slotOf 27 = .ok (.iload_n 1, 1) := by decide +kernel
theorem dSettings_slotOf_28 : decode cSettings_slotOf 28 = .ok (.iconst 1, 1) := by decide +kernel
theorem dSettings_slotOf_29 : decode cSettings_slotOf 29 = .ok (.iadd, 1) := by decide +kernel
theorem dSettings_slotOf_30 : decode cSettings_slotOf 30 = .ok (.goto 4, 3) := by decide +kernel
theorem dSettings_slotOf_33 : decode cSettings_slotOf 33 = .ok (.iconst 0, 1) := by decide +kernel
theorem dSettings_slotOf_34 : decode cSettings_slotOf 34 = .ok (.istore_n 3, 1) := by decide +kernel
theorem dSettings_slotOf_35 : decode cSettings_slotOf 35 = .ok (.iload_n 2, 1) := by decide +kernel
theorem dSettings_slotOf_36 : decode cSettings_slotOf 36 = .ok (.iconst 5, 1) := by decide +kernel
theorem dSettings_slotOf_37 : decode cSettings_slotOf 37 = .ok (.imul, 1) := by decide +kernel
theorem dSettings_slotOf_38 : decode cSettings_slotOf 38 = .ok (.iload_n 3, 1) := by decide +kernel
theorem dSettings_slotOf_39 : decode cSettings_slotOf 39 = .ok (.iadd, 1) := by decide +kernel
theorem dSettings_slotOf_40 : decode cSettings_slotOf 40 = .ok (.ireturn, 1) := by decide +kernel
theorem dSettings_forgetTile_0 : decode cSettings_forgetTile 0 = .ok (.iconst (-1), 1) := by decide +kernel
theorem dSettings_forgetTile_1 : decode cSettings_forgetTile 1 = .ok (.istore_n 2, 1) := by decide +kernel
theorem dSettings_forgetTile_2 : decode cSettings_forgetTile 2 = .ok (.iload_n 2, 1) := by decide +kernel
theorem dSettings_forgetTile_3 : decode cSettings_forgetTile 3 = .ok (.iconst 4, 1) := by decide +kernel
theorem dSettings_forgetTile_4 : decode cSettings_forgetTile 4 = .ok (.if_icmp .ge 31, 3) := by decide +kernel
theorem dSettings_forgetTile_7 : decode cSettings_forgetTile 7 = .ok (.aload_n 0, 1) := by decide +kernel
theorem dSettings_forgetTile_8 : decode cSettings_forgetTile 8 = .ok (.getfield 21, 3) := by decide +kernel
theorem dSettings_forgetTile_11 : decode cSettings_forgetTile 11 = .ok (.iload_n 1, 1) := by decide +kernel
theorem dSettings_forgetTile_12 : decode cSettings_forgetTile 12 = .ok (.iload_n 2, 1) := by decide +kernel
theorem dSettings_forgetTile_13 : decode cSettings_forgetTile 13 = .ok (.invokestatic 45, 3) := by decide +kernel
theorem dSettings_forgetTile_16 : decode cSettings_forgetTile 16 = .ok (.iconst 0, 1) := by decide +kernel
theorem dSettings_forgetTile_17 : decode cSettings_forgetTile 17 = .ok (.bastore, 1) := by decide +kernel
theorem dSettings_forgetTile_18 : decode cSettings_forgetTile 18 = .ok (.aload_n 0, 1) := by decide +kernel
theorem dSettings_forgetTile_19 : decode cSettings_forgetTile 19 = .ok (.getfield 25, 3) := by decide +kernel
theorem dSettings_forgetTile_22 : decode cSettings_forgetTile 22 = .ok (.iload_n 1, 1) := by decide +kernel
theorem dSettings_forgetTile_23 : decode cSettings_forgetTile 23 = .ok (.iload_n 2, 1) := by decide +kernel
theorem dSettings_forgetTile_24 : decode cSettings_forgetTile 24 = .ok (.invokestatic 45, 3) := by decide +kernel
theorem dSettings_forgetTile_27 : decode cSettings_forgetTile 27 = .ok (.iconst 0, 1) := by decide +kernel
theorem dSettings_forgetTile_28 : decode cSettings_forgetTile 28 = .ok (.bastore, 1) := by decide +kernel
theorem dSettings_forgetTile_29 : decode cSettings_forgetTile 29 = .ok (.iinc 2 1, 3) := by decide +kernel
theorem dSettings_forgetTile_32 : decode cSettings_forgetTile 32 = .ok (.goto (-30), 3) := by decide +kernel
theorem dSettings_forgetTile_35 : decode cSettings_forgetTile 35 = .ok (.return_, 1) := by decide +kernel
theorem dSettings_asManyAsItTakes_0 : decode cSettings_asManyAsItTakes 0 = .ok (.iload_n 1, 1) := by decide +kernel
theorem dSettings_asManyAsItTakes_1 : decode cSettings_asManyAsItTakes 1 = .ok (.iconst 1, 1) := by decide +kernel
theorem dSettings_asManyAsItTakes_2 : decode cSettings_asManyAsItTakes 2 = .ok (.if_icmp .ge 7, 3) := by decide +kernel
theorem dSettings_asManyAsItTakes_5 : decode cSettings_asManyAsItTakes 5 = .ok (.iconst 0, 1) := by decide +kernel
theorem dSettings_asManyAsItTakes_6 : decode cSettings_asManyAsItTakes 6 = .ok (.goto 10, 3) := by decide +kernel
theorem dSettings_asManyAsItTakes_9 : decode cSettings_asManyAsItTakes 9 = .ok (.iload_n 0, 1) := by decide +kernel
theorem dSettings_asManyAsItTakes_10 : decode cSettings_asManyAsItTakes 10 = .ok (.iload_n 1, 1) := by decide +kernel
theorem dSettings_asManyAsItTakes_11 : decode cSettings_asManyAsItTakes 11 = .ok (.iadd, 1) := by decide +kernel
theorem dSettings_asManyAsItTakes_12 : decode cSettings_asManyAsItTakes 12 = .ok (.iconst 1, 1) := by decide +kernel
theorem dSettings_asManyAsItTakes_13 : decode cSettings_asManyAsItTakes 13 = .ok (.isub, 1) := by decide +kernel
theorem dSettings_asManyAsItTakes_14 : decode cSettings_asManyAsItTakes 14 = .ok (.iload_n 1, 1) := by decide +kernel
theorem dSettings_asManyAsItTakes_15 : decode cSettings_asManyAsItTakes 15 = .ok (.idiv, 1) := by decide +kernel
theorem dSettings_asManyAsItTakes_16 : decode cSettings_asManyAsItTakes 16 = .ok (.ireturn, 1) := by decide +kernel
theorem dSettings_tilesFor_0 : decode cSettings_tilesFor 0 = .ok (.iload_n 1, 1) := by decide +kernel
theorem dSettings_tilesFor_1 : decode cSettings_tilesFor 1 = .ok (.aload_n 0, 1) := by decide +kernel
theorem dSettings_tilesFor_2 : decode cSettings_tilesFor 2 = .ok (.getfield 28, 3) := by decide +kernel
theorem dSettings_tilesFor_5 : decode cSettings_tilesFor 5 = .ok (.invokestatic 56, 3) := by decide +kernel
theorem dSettings_tilesFor_8 : decode cSettings_tilesFor 8 = .ok (.iload_n 2, 1) := by decide +kernel
theorem dSettings_tilesFor_9 : decode cSettings_tilesFor 9 = .ok (.aload_n 0, 1) := by decide +kernel
theorem dSettings_tilesFor_10 : decode cSettings_tilesFor 10 = .ok (.getfield 32, 3) := by decide +kernel
theorem dSettings_tilesFor_13 : decode cSettings_tilesFor 13 = .ok (.invokestatic 56, 3) := by decide +kernel
theorem dSettings_tilesFor_16 : decode cSettings_tilesFor 16 = .ok (.imul, 1) := by decide +kernel
theorem dSettings_tilesFor_17 : decode cSettings_tilesFor 17 = .ok (.ireturn, 1) := by decide +kernel
theorem dSettings_tiles_0 : decode cSettings_tiles 0 = .ok (.aload_n 0, 1) := by decide +kernel
theorem dSettings_tiles_1 : decode cSettings_tiles 1 = .ok (.aload_n 0, 1) := by decide +kernel
theorem dSettings_tiles_2 : decode cSettings_tiles 2 = .ok (.getfield 11, 3) := by decide +kernel
theorem dSettings_tiles_5 : decode cSettings_tiles 5 = .ok (.iconst 0, 1) := by decide +kernel
theorem dSettings_tiles_6 : decode cSettings_tiles 6 = .ok (.iaload, 1) := by decide +kernel
theorem dSettings_tiles_7 : decode cSettings_tiles 7 = .ok (.aload_n 0, 1) := by decide +kernel
theorem dSettings_tiles_8 : decode cSettings_tiles 8 = .ok (.getfield 11, 3) := by decide +kernel
theorem dSettings_tiles_11 : decode cSettings_tiles 11 = .ok (.iconst 1, 1) := by decide +kernel
theorem dSettings_tiles_12 : decode cSettings_tiles 12 = .ok (.iaload, 1) := by decide +kernel
theorem dSettings_tiles_13 : decode cSettings_tiles 13 = .ok (.invokevirtual 53, 3) := by decide +kernel
theorem dSettings_tiles_16 : decode cSettings_tiles 16 = .ok (.ireturn, 1) := by decide +kernel
theorem dSettings_isTile_0 : decode cSettings_isTile 0 = .ok (.iload_n 1, 1) := by decide +kernel
theorem dSettings_isTile_1 : decode cSettings_isTile 1 = .ok (.ifCond .lt 15, 3) := by decide +kernel
theorem dSettings_isTile_4 : decode cSettings_isTile 4 = .ok (.iload_n 1, 1) := by decide +kernel
theorem dSettings_isTile_5 : decode cSettings_isTile 5 = .ok (.aload_n 0, 1) := by decide +kernel
theorem dSettings_isTile_6 : decode cSettings_isTile 6 = .ok (.invokevirtual 49, 3) := by decide +kernel
theorem dSettings_isTile_9 : decode cSettings_isTile 9 = .ok (.if_icmp .ge 7, 3) := by decide +kernel
theorem dSettings_isTile_12 : decode cSettings_isTile 12 = .ok (.iconst 1, 1) := by decide +kernel
theorem dSettings_isTile_13 : decode cSettings_isTile 13 = .ok (.goto 4, 3) := by decide +kernel
theorem dSettings_isTile_16 : decode cSettings_isTile 16 = .ok (.iconst 0, 1) := by decide +kernel
theorem dSettings_isTile_17 : decode cSettings_isTile 17 = .ok (.ireturn, 1) := by decide +kernel
theorem dSettings_isComponent_0 : decode cSettings_isComponent 0 = .ok (.iload_n 1, 1) := by decide +kernel
theorem dSettings_isComponent_1 : decode cSettings_isComponent 1 = .ok (.ifCond .lt 17, 3) := by decide +kernel
theorem dSettings_isComponent_4 : decode cSettings_isComponent 4 = .ok (.iload_n 1, 1) := by decide +kernel
theorem dSettings_isComponent_5 : decode cSettings_isComponent 5 = .ok (.aload_n 0, 1) := by decide +kernel
theorem dSettings_isComponent_6 : decode cSettings_isComponent 6 = .ok (.getfield 11, 3) := by decide +kernel
theorem dSettings_isComponent_9 : decode cSettings_isComponent 9 = .ok (.iconst 2, 1) := by decide +kernel
theorem dSettings_isComponent_10 : decode cSettings_isComponent 10 = .ok (.iaload, 1) := by decide +kernel
theorem dSettings_isComponent_11 : decode cSettings_isComponent 11 = .ok (.if_icmp .ge 7, 3) := by decide +kernel
theorem dSettings_isComponent_14 : decode cSettings_isComponent 14 = .ok (.iconst 1, 1) := by decide +kernel
theorem dSettings_isComponent_15 : decode cSettings_isComponent 15 = .ok (.goto 4, 3) := by decide +kernel
theorem dSettings_isComponent_18 : decode cSettings_isComponent 18 = .ok (.iconst 0, 1) := by decide +kernel
theorem dSettings_isComponent_19 : decode cSettings_isComponent 19 = .ok (.ireturn, 1) := by decide +kernel
theorem dW_isWithin_0 : decode cW_isWithin 0 = .ok (.iload_n 0, 1) := by decide +kernel
theorem dW_isWithin_1 : decode cW_isWithin 1 = .ok (.ifCond .lt 37, 3) := by decide +kernel
theorem dW_isWithin_4 : decode cW_isWithin 4 = .ok (.iload_n 0, 1) := by decide +kernel
theorem dW_isWithin_5 : decode cW_isWithin 5 = .ok (.getstatic 334, 3) := by decide +kernel
theorem dW_isWithin_8 : decode cW_isWithin 8 = .ok (.arraylength, 1) := by decide +kernel
theorem dW_isWithin_9 : decode cW_isWithin 9 = .ok (.if_icmp .ge 29, 3) := by decide +kernel
theorem dW_isWithin_12 : decode cW_isWithin 12 = .ok (.lload_n 1, 1) := by decide +kernel
theorem dW_isWithin_13 : decode cW_isWithin 13 = .ok (.getstatic 334, 3) := by decide +kernel
theorem dW_isWithin_16 : decode cW_isWithin 16 = .ok (.iload_n 0, 1) := by decide +kernel
theorem dW_isWithin_17 : decode cW_isWithin 17 = .ok (.iaload, 1) := by decide +kernel
theorem dW_isWithin_18 : decode cW_isWithin 18 = .ok (.i2l, 1) := by decide +kernel
theorem dW_isWithin_19 : decode cW_isWithin 19 = .ok (.lcmp, 1) := by decide +kernel
theorem dW_isWithin_20 : decode cW_isWithin 20 = .ok (.ifCond .lt 18, 3) := by decide +kernel
theorem dW_isWithin_23 : decode cW_isWithin 23 = .ok (.lload_n 1, 1) := by decide +kernel
theorem dW_isWithin_24 : decode cW_isWithin 24 = .ok (.getstatic 337, 3) := by decide +kernel
theorem dW_isWithin_27 : decode cW_isWithin 27 = .ok (.iload_n 0, 1) := by decide +kernel
theorem dW_isWithin_28 : decode cW_isWithin 28 = .ok (.iaload, 1) := by decide +kernel
theorem dW_isWithin_29 : decode cW_isWithin 29 = .ok (.i2l, 1) := by decide +kernel
theorem dW_isWithin_30 : decode cW_isWithin 30 = .ok (.lcmp, 1) := by decide +kernel
theorem dW_isWithin_31 : decode cW_isWithin 31 = .ok (.ifCond .gt 7, 3) := by decide +kernel
theorem dW_isWithin_34 : decode cW_isWithin 34 = .ok (.iconst 1, 1) := by decide +kernel
theorem dW_isWithin_35 : decode cW_isWithin 35 = .ok (.goto 4, 3) := by decide +kernel
theorem dW_isWithin_38 : decode cW_isWithin 38 = .ok (.iconst 0, 1) := by decide +kernel
theorem dW_isWithin_39 : decode cW_isWithin 39 = .ok (.ireturn, 1) := by decide +kernel
theorem dSettings_allows_0 : decode cSettings_allows 0 = .ok (.iload_n 1, 1) := by decide +kernel
theorem dSettings_allows_1 : decode cSettings_allows 1 = .ok (.iload_n 2, 1) := by decide +kernel
theorem dSettings_allows_2 : decode cSettings_allows 2 = .ok (.i2l, 1) := by decide +kernel
theorem dSettings_allows_3 : decode cSettings_allows 3 = .ok (.invokestatic 59, 3) := by decide +kernel
theorem dSettings_allows_6 : decode cSettings_allows 6 = .ok (.ifCond .ne 5, 3) := by decide +kernel
theorem dSettings_allows_9 : decode cSettings_allows 9 = .ok (.iconst 0, 1) := by decide +kernel
theorem dSettings_allows_10 : decode cSettings_allows 10 = .ok (.ireturn, 1) := by decide +kernel
theorem dSettings_allows_11 : decode cSettings_allows 11 = .ok (.iload_n 1, 1) := by decide +kernel
theorem dSettings_allows_12 : decode cSettings_allows 12 = .ok (.ifCond .ne 7, 3) := by decide +kernel
theorem dSettings_allows_15 : decode cSettings_allows 15 = .ok (.iload_n 2, 1) := by decide +kernel
theorem dSettings_allows_16 : decode cSettings_allows 16 = .ok (.goto 9, 3) := by decide +kernel
theorem dSettings_allows_19 : decode cSettings_allows 19 = .ok (.aload_n 0, 1) := by decide +kernel
theorem dSettings_allows_20 : decode cSettings_allows 20 = .ok (.getfield 11, 3) := by decide +kernel
theorem dSettings_allows_23 : decode cSettings_allows 23 = .ok (.iconst 0, 1) := by decide +kernel
theorem dSettings_allows_24 : decode cSettings_allows 24 = .ok (.iaload, 1) := by decide +kernel
theorem dSettings_allows_25 : decode cSettings_allows 25 = .ok (.istore_n 3, 1) := by decide +kernel
theorem dSettings_allows_26 : decode cSettings_allows 26 = .ok (.iload_n 1, 1) := by decide +kernel
theorem dSettings_allows_27 : decode cSettings_allows 27 = .ok (.iconst 1, 1) := by decide +kernel
theorem dSettings_allows_28 : decode cSettings_allows 28 = .ok (.if_icmp .ne 7, 3) := by decide +kernel
theorem dSettings_allows_31 : decode cSettings_allows 31 = .ok (.iload_n 2, 1) := by decide +kernel
theorem dSettings_allows_32 : decode cSettings_allows 32 = .ok (.goto 9, 3) := by decide +kernel
theorem dSettings_allows_35 : decode cSettings_allows 35 = .ok (.aload_n 0, 1) := by decide +kernel
theorem dSettings_allows_36 : decode cSettings_allows 36 = .ok (.getfield 11, 3) := by decide +kernel
theorem dSettings_allows_39 : decode cSettings_allows 39 = .ok (.iconst 1, 1) := by decide +kernel
theorem dSettings_allows_40 : decode cSettings_allows 40 = .ok (.iaload, 1) := by decide +kernel
theorem dSettings_allows_41 : decode cSettings_allows 41 = .ok (.istore 4, 2) := by decide +kernel
theorem dSettings_allows_43 : decode cSettings_allows 43 = .ok (.aload_n 0, 1) := by decide +kernel
theorem dSettings_allows_44 : decode cSettings_allows 44 = .ok (.iload_n 3, 1) := by decide +kernel
theorem dSettings_allows_45 : decode cSettings_allows 45 = .ok (.iload 4, 2) := by decide +kernel
theorem dSettings_allows_47 : decode cSettings_allows 47 = .ok (.invokevirtual 53, 3) := by decide +kernel
theorem dSettings_allows_50 : decode cSettings_allows 50 = .ok (.bipush 24, 2) := by decide +kernel
theorem dSettings_allows_52 : decode cSettings_allows 52 = .ok (.if_icmp .gt 7, 3) := by decide +kernel
theorem dSettings_allows_55 : decode cSettings_allows 55 = .ok (.iconst 1, 1) := by decide +kernel
theorem dSettings_allows_56 : decode cSettings_allows 56 = .ok (.goto 4, 3) := by decide +kernel
theorem dSettings_allows_59 : decode cSettings_allows 59 = .ok (.iconst 0, 1) := by decide +kernel
theorem dSettings_allows_60 : decode cSettings_allows 60 = .ok (.ireturn, 1) := by decide +kernel
theorem dSettings_hasSegmentNotForAll_0 : decode cSettings_hasSegmentNotForAll 0 = .ok (.iconst 1, 1) := by decide +kernel
theorem dSettings_hasSegmentNotForAll_1 : decode cSettings_hasSegmentNotForAll 1 = .ok (.istore_n 1, 1) := by decide +kernel
theorem dSettings_hasSegmentNotForAll_2 : decode cSettings_hasSegmentNotForAll 2 = .ok (.iload_n 1, 1) := by decide +kernel
theorem dSettings_hasSegmentNotForAll_3 : decode cSettings_hasSegmentNotForAll 3 = .ok (.bipush 125, 2) := by decide +kernel
theorem dSettings_hasSegmentNotForAll_5 : decode cSettings_hasSegmentNotForAll 5 = .ok (.if_icmp .ge 29, 3) := by decide +kernel
theorem dSettings_hasSegmentNotForAll_8 : decode cSettings_hasSegmentNotForAll 8 = .ok (.aload_n 0, 1) := by decide +kernel
theorem dSettings_hasSegmentNotForAll_9 : decode cSettings_hasSegmentNotForAll 9 = .ok (.getfield 21, 3) := by decide +kernel
theorem dSettings_hasSegmentNotForAll_12 : decode cSettings_hasSegmentNotForAll 12 = .ok (.iload_n 1, 1) := by decide +kernel
theorem dSettings_hasSegmentNotForAll_13 : decode cSettings_hasSegmentNotForAll 13 = .ok (.baload, 1) := by decide +kernel
theorem dSettings_hasSegmentNotForAll_14 : decode cSettings_hasSegmentNotForAll 14 = .ok (.ifCond .ne 12, 3) := by decide +kernel
theorem dSettings_hasSegmentNotForAll_17 : decode cSettings_hasSegmentNotForAll 17 = .ok (.aload_n 0, 1) := by decide +kernel
theorem dSettings_hasSegmentNotForAll_18 : decode cSettings_hasSegmentNotForAll 18 = .ok (.getfield 25, 3) := by decide +kernel
theorem dSettings_hasSegmentNotForAll_21 : decode cSettings_hasSegmentNotForAll 21 = .ok (.iload_n 1, 1) := by decide +kernel
theorem dSettings_hasSegmentNotForAll_22 : decode cSettings_hasSegmentNotForAll 22 = .ok (.baload, 1) := by decide +kernel
theorem dSettings_hasSegmentNotForAll_23 : decode cSettings_hasSegmentNotForAll 23 = .ok (.ifCond .eq 5, 3) := by decide +kernel
theorem dSettings_hasSegmentNotForAll_26 : decode cSettings_hasSegmentNotForAll 26 = .ok (.iconst 1, 1) := by decide +kernel
theorem dSettings_hasSegmentNotForAll_27 : decode cSettings_hasSegmentNotForAll 27 = .ok (.ireturn, 1) := by decide +kernel
theorem dSettings_hasSegmentNotForAll_28 : decode cSettings_hasSegmentNotForAll 28 = .ok (.iinc 1 1, 3) := by decide +kernel
theorem dSettings_hasSegmentNotForAll_31 : decode cSettings_hasSegmentNotForAll 31 = .ok (.goto (-29), 3) := by decide +kernel
theorem dSettings_hasSegmentNotForAll_34 : decode cSettings_hasSegmentNotForAll 34 = .ok (.iconst 0, 1) := by decide +kernel
theorem dSettings_hasSegmentNotForAll_35 : decode cSettings_hasSegmentNotForAll 35 = .ok (.ireturn, 1) := by decide +kernel
theorem dSettings_hasStyleAndStepForAll_0 : decode cSettings_hasStyleAndStepForAll 0 = .ok (.aload_n 0, 1) := by decide +kernel
theorem dSettings_hasStyleAndStepForAll_1 : decode cSettings_hasStyleAndStepForAll 1 = .ok (.getfield 21, 3) := by decide +kernel
theorem dSettings_hasStyleAndStepForAll_4 : decode cSettings_hasStyleAndStepForAll 4 = .ok (.iconst 0, 1) := by decide +kernel
theorem dSettings_hasStyleAndStepForAll_5 : decode cSettings_hasStyleAndStepForAll 5 = .ok (.baload, 1) := by decide +kernel
theorem dSettings_hasStyleAndStepForAll_6 : decode cSettings_hasStyleAndStepForAll 6 = .ok (.ifCond .eq 16, 3) := by decide +kernel
theorem dSettings_hasStyleAndStepForAll_9 : decode cSettings_hasStyleAndStepForAll 9 = .ok (.aload_n 0, 1) := by decide +kernel
theorem dSettings_hasStyleAndStepForAll_10 : decode cSettings_hasStyleAndStepForAll 10 = .ok (.getfield 25, 3) := by decide +kernel
theorem dSettings_hasStyleAndStepForAll_13 : decode cSettings_hasStyleAndStepForAll 13 = .ok (.iconst 0, 1) := by decide +kernel
theorem dSettings_hasStyleAndStepForAll_14 : decode cSettings_hasStyleAndStepForAll 14 = .ok (.baload, 1) := by decide +kernel
theorem dSettings_hasStyleAndStepForAll_15 : decode cSettings_hasStyleAndStepForAll 15 = .ok (.ifCond .eq 7, 3) := by decide +kernel
theorem dSettings_hasStyleAndStepForAll_18 : decode cSettings_hasStyleAndStepForAll 18 = .ok (.iconst 1, 1) := by decide +kernel
theorem dSettings_hasStyleAndStepForAll_19 : decode cSettings_hasStyleAndStepForAll 19 = .ok (.goto 4, 3) := by decide +kernel
theorem dSettings_hasStyleAndStepForAll_22 : decode cSettings_hasStyleAndStepForAll 22 = .ok (.iconst 0, 1) := by decide +kernel
theorem dSettings_hasStyleAndStepForAll_23 : decode cSettings_hasStyleAndStepForAll 23 = .ok (.ireturn, 1) := by decide +kernel
theorem dSettings_hasStyle_0 : decode cSettings_hasStyle 0 = .ok (.aload_n 0, 1) := by decide +kernel
theorem dSettings_hasStyle_1 : decode cSettings_hasStyle 1 = .ok (.getfield 21, 3) := by decide +kernel
theorem dSettings_hasStyle_4 : decode cSettings_hasStyle 4 = .ok (.iload_n 1, 1) := by decide +kernel
theorem dSettings_hasStyle_5 : decode cSettings_hasStyle 5 = .ok (.iload_n 2, 1) := by decide +kernel
theorem dSettings_hasStyle_6 : decode cSettings_hasStyle 6 = .ok (.invokestatic 45, 3) := by decide +kernel
theorem dSettings_hasStyle_9 : decode cSettings_hasStyle 9 = .ok (.baload, 1) := by decide +kernel
theorem dSettings_hasStyle_10 : decode cSettings_hasStyle 10 = .ok (.ireturn, 1) := by decide +kernel
theorem dSettings_hasStep_0 : decode cSettings_hasStep 0 = .ok (.aload_n 0, 1) := by decide +kernel
theorem dSettings_hasStep_1 : decode cSettings_hasStep 1 = .ok (.getfield 25, 3) := by decide +kernel
theorem dSettings_hasStep_4 : decode cSettings_hasStep 4 = .ok (.iload_n 1, 1) := by decide +kernel
theorem dSettings_hasStep_5 : decode cSettings_hasStep 5 = .ok (.iload_n 2, 1) := by decide +kernel
theorem dSettings_hasStep_6 : decode cSettings_hasStep 6 = .ok (.invokestatic 45, 3) := by decide +kernel
theorem dSettings_hasStep_9 : decode cSettings_hasStep 9 = .ok (.baload, 1) := by decide +kernel
theorem dSettings_hasStep_10 : decode cSettings_hasStep 10 = .ok (.ireturn, 1) := by decide +kernel
theorem dSettings_slotInForce_0 : decode cSettings_slotInForce 0 = .ok (.iload_n 1, 1) := by decide +kernel
theorem dSettings_slotInForce_1 : decode cSettings_slotInForce 1 = .ok (.bipush 9, 2) := by decide +kernel
theorem dSettings_slotInForce_3 : decode cSettings_slotInForce 3 = .ok (.if_icmp .ge 10, 3) := by decide +kernel
theorem dSettings_slotInForce_6 : decode cSettings_slotInForce 6 = .ok (.aload_n 0, 1) := by decide +kernel
theorem dSettings_slotInForce_7 : decode cSettings_slotInForce 7 = .ok (.getfield 21, 3) := by decide +kernel
theorem dSettings_slotInForce_10 : decode cSettings_slotInForce 10 = .ok (.goto 7, 3) := by decide +kernel
theorem dSettings_slotInForce_13 : decode cSettings_slotInForce 13 = .ok (.aload_n 0, 1) := by decide +kernel
theorem dSettings_slotInForce_14 : decode cSettings_slotInForce 14 = .ok (.getfield 25, 3) := by decide +kernel
theorem dSettings_slotInForce_17 : decode cSettings_slotInForce 17 = .ok (.astore 4, 2) := by decide +kernel
theorem dSettings_slotInForce_19 : decode cSettings_slotInForce 19 = .ok (.aload 4, 2) := by decide +kernel
theorem dSettings_slotInForce_21 : decode cSettings_slotInForce 21 = .ok (.iload_n 2, 1) := by decide +kernel
theorem dSettings_slotInForce_22 : decode cSettings_slotInForce 22 = .ok (.iload_n 3, 1) := by decide +kernel
theorem dSettings_slotInForce_23 : decode cSettings_slotInForce 23 = .ok (.invokestatic 45, 3) := by decide +kernel
theorem dSettings_slotInForce_26 : decode cSettings_slotInForce 26 = .ok (.baload, 1) := by decide +kernel
theorem dSettings_slotInForce_27 : decode cSettings_slotInForce 27 = .ok (.ifCond .eq 9, 3) := by decide +kernel
theorem dSettings_slotInForce_30 : decode cSettings_slotInForce 30 = .ok (.iload_n 2, 1) := by decide +kernel
theorem dSettings_slotInForce_31 : decode cSettings_slotInForce 31 = .ok (.iload_n 3, 1) := by decide +kernel
theorem dSettings_slotInForce_32 : decode cSettings_slotInForce 32 = .ok (.invokestatic 45, 3) := by decide +kernel
theorem dSettings_slotInForce_35 : decode cSettings_slotInForce 35 = .ok (.ireturn, 1) := by decide +kernel
theorem dSettings_slotInForce_36 : decode cSettings_slotInForce 36 = .ok (.aload 4, 2) := by decide +kernel
theorem dSettings_slotInForce_38 : decode cSettings_slotInForce 38 = .ok (.iload_n 2, 1) := by decide +kernel
theorem dSettings_slotInForce_39 : decode cSettings_slotInForce 39 = .ok (.iconst (-1), 1) := by decide +kernel
theorem dSettings_slotInForce_40 : decode cSettings_slotInForce 40 = .ok (.invokestatic 45, 3) := by decide +kernel
theorem dSettings_slotInForce_43 : decode cSettings_slotInForce 43 = .ok (.baload, 1) := by decide +kernel
theorem dSettings_slotInForce_44 : decode cSettings_slotInForce 44 = .ok (.ifCond .eq 9, 3) := by decide +kernel
theorem dSettings_slotInForce_47 : decode cSettings_slotInForce 47 = .ok (.iload_n 2, 1) := by decide +kernel
theorem dSettings_slotInForce_48 : decode cSettings_slotInForce 48 = .ok (.iconst (-1), 1) := by decide +kernel
theorem dSettings_slotInForce_49 : decode cSettings_slotInForce 49 = .ok (.invokestatic 45, 3) := by decide +kernel
theorem dSettings_slotInForce_52 : decode cSettings_slotInForce 52 = .ok (.ireturn, 1) := by decide +kernel
theorem dSettings_slotInForce_53 : decode cSettings_slotInForce 53 = .ok (.aload 4, 2) := by decide +kernel
theorem dSettings_slotInForce_55 : decode cSettings_slotInForce 55 = .ok (.iconst (-1), 1) := by decide +kernel
theorem dSettings_slotInForce_56 : decode cSettings_slotInForce 56 = .ok (.iload_n 3, 1) := by decide +kernel
theorem dSettings_slotInForce_57 : decode cSettings_slotInForce 57 = .ok (.invokestatic 45, 3) := by decide +kernel
theorem dSettings_slotInForce_60 : decode cSettings_slotInForce 60 = .ok (.baload, 1) := by decide +kernel
theorem dSettings_slotInForce_61 : decode cSettings_slotInForce 61 = .ok (.ifCond .eq 11, 3) := by decide +kernel
theorem dSettings_slotInForce_64 : decode cSettings_slotInForce 64 = .ok (.iconst (-1), 1) := by decide +kernel
theorem dSettings_slotInForce_65 : decode cSettings_slotInForce 65 = .ok (.iload_n 3, 1) := by decide +kernel
theorem dSettings_slotInForce_66 : decode cSettings_slotInForce 66 = .ok (.invokestatic 45, 3) := by decide +kernel
theorem dSettings_slotInForce_69 : decode cSettings_slotInForce 69 = .ok (.goto 4, 3) := by decide +kernel
theorem dSettings_slotInForce_72 : decode cSettings_slotInForce 72 = .ok (.iconst 0, 1) := by decide +kernel
theorem dSettings_slotInForce_73 : decode cSettings_slotInForce 73 = .ok (.ireturn, 1) := by decide +kernel
theorem dSettings_valueOf_0 : decode cSettings_valueOf 0 = .ok (.iload_n 1, 1) := by decide +kernel
theorem dSettings_valueOf_1 : decode cSettings_valueOf 1 = .ok (.iconst 2, 1) := by decide +kernel
theorem dSettings_valueOf_2 : decode cSettings_valueOf 2 = .ok (.if_icmp .gt 10, 3) := by decide +kernel
theorem dSettings_valueOf_5 : decode cSettings_valueOf 5 = .ok (.aload_n 0, 1) := by decide +kernel
theorem dSettings_valueOf_6 : decode cSettings_valueOf 6 = .ok (.getfield 11, 3) := by decide +kernel
theorem dSettings_valueOf_9 : decode cSettings_valueOf 9 = .ok (.iload_n 1, 1) := by decide +kernel
theorem dSettings_valueOf_10 : decode cSettings_valueOf 10 = .ok (.iaload, 1) := by decide +kernel
theorem dSettings_valueOf_11 : decode cSettings_valueOf 11 = .ok (.ireturn, 1) := by decide +kernel
theorem dSettings_valueOf_12 : decode cSettings_valueOf 12 = .ok (.iload_n 1, 1) := by decide +kernel
theorem dSettings_valueOf_13 : decode cSettings_valueOf 13 = .ok (.iconst 3, 1) := by decide +kernel
theorem dSettings_valueOf_14 : decode cSettings_valueOf 14 = .ok (.if_icmp .ne 14, 3) := by decide +kernel
theorem dSettings_valueOf_17 : decode cSettings_valueOf 17 = .ok (.aload_n 0, 1) := by decide +kernel
theorem dSettings_valueOf_18 : decode cSettings_valueOf 18 = .ok (.getfield 15, 3) := by decide +kernel
theorem dSettings_valueOf_21 : decode cSettings_valueOf 21 = .ok (.iconst 0, 1) := by decide +kernel
theorem dSettings_valueOf_22 : decode cSettings_valueOf 22 = .ok (.iload_n 3, 1) := by decide +kernel
theorem dSettings_valueOf_23 : decode cSettings_valueOf 23 = .ok (.invokestatic 63, 3) := by decide +kernel
theorem dSettings_valueOf_26 : decode cSettings_valueOf 26 = .ok (.iaload, 1) := by decide +kernel
theorem dSettings_valueOf_27 : decode cSettings_valueOf 27 = .ok (.ireturn, 1) := by decide +kernel
theorem dSettings_valueOf_28 : decode cSettings_valueOf 28 = .ok (.iload_n 1, 1) := by decide +kernel
theorem dSettings_valueOf_29 : decode cSettings_valueOf 29 = .ok (.iconst 4, 1) := by decide +kernel
theorem dSettings_valueOf_30 : decode cSettings_valueOf 30 = .ok (.if_icmp .eq 8, 3) := by decide +kernel
theorem dSettings_valueOf_33 : decode cSettings_valueOf 33 = .ok (.iload_n 1, 1) := by decide +kernel
theorem dSettings_valueOf_34 : decode cSettings_valueOf 34 = .ok (.iconst 5, 1) := by decide +kernel
theorem dSettings_valueOf_35 : decode cSettings_valueOf 35 = .ok (.if_icmp .ne 7, 3) := by decide +kernel
theorem dSettings_valueOf_38 : decode cSettings_valueOf 38 = .ok (.iconst 1, 1) := by decide +kernel
theorem dSettings_valueOf_39 : decode cSettings_valueOf 39 = .ok (.goto 4, 3) := by decide +kernel
theorem dSettings_valueOf_42 : decode cSettings_valueOf 42 = .ok (.iconst 0, 1) := by decide +kernel
theorem dSettings_valueOf_43 : decode cSettings_valueOf 43 = .ok (.istore 4, 2) := by decide +kernel
theorem dSettings_valueOf_45 : decode cSettings_valueOf 45 = .ok (.aload_n 0, 1) := by decide +kernel
theorem dSettings_valueOf_46 : decode cSettings_valueOf 46 = .ok (.getfield 18, 3) := by decide +kernel
theorem dSettings_valueOf_49 : decode cSettings_valueOf 49 = .ok (.aload_n 0, 1) := by decide +kernel
theorem dSettings_valueOf_50 : decode cSettings_valueOf 50 = .ok (.iload_n 1, 1) := by decide +kernel
theorem dSettings_valueOf_51 : decode cSettings_valueOf 51 = .ok (.iload_n 2, 1) := by decide +kernel
theorem dSettings_valueOf_52 : decode cSettings_valueOf 52 = .ok (.iload 4, 2) := by decide +kernel
theorem dSettings_valueOf_54 : decode cSettings_valueOf 54 = .ok (.ifCond .eq 7, 3) := by decide +kernel
theorem dSettings_valueOf_57 : decode cSettings_valueOf 57 = .ok (.iconst (-1), 1) := by decide +kernel
theorem dSettings_valueOf_58 : decode cSettings_valueOf 58 = .ok (.goto 4, 3) := by decide +kernel
theorem dSettings_valueOf_61 : decode cSettings_valueOf 61 = .ok (.iload_n 3, 1) := by decide +kernel
theorem dSettings_valueOf_62 : decode cSettings_valueOf 62 = .ok (.invokevirtual 68, 3) := by decide +kernel
theorem dSettings_valueOf_65 : decode cSettings_valueOf 65 = .ok (.iload_n 1, 1) := by decide +kernel
theorem dSettings_valueOf_66 : decode cSettings_valueOf 66 = .ok (.invokestatic 72, 3) := by decide +kernel
theorem dSettings_valueOf_69 : decode cSettings_valueOf 69 = .ok (.iaload, 1) := by decide +kernel
theorem dSettings_valueOf_70 : decode cSettings_valueOf 70 = .ok (.ireturn, 1) := by decide +kernel
theorem dSettings_changeDepth_0 : decode cSettings_changeDepth 0 = .ok (.iconst 0, 1) := by decide +kernel
theorem dSettings_changeDepth_1 : decode cSettings_changeDepth 1 = .ok (.istore_n 3, 1) := by decide +kernel
theorem dSettings_changeDepth_2 : decode cSettings_changeDepth 2 = .ok (.iload_n 3, 1) := by decide +kernel
theorem dSettings_changeDepth_3 : decode cSettings_changeDepth 3 = .ok (.iconst 4, 1) := by decide +kernel
theorem dSettings_changeDepth_4 : decode cSettings_changeDepth 4 = .ok (.if_icmp .ge 26, 3) := by decide +kernel
theorem dSettings_changeDepth_7 : decode cSettings_changeDepth 7 = .ok (.iload_n 1, 1) := by decide +kernel
theorem dSettings_changeDepth_8 : decode cSettings_changeDepth 8 = .ok (.iconst (-1), 1) := by decide +kernel
theorem dSettings_changeDepth_9 : decode cSettings_changeDepth 9 = .ok (.if_icmp .eq 8, 3) := by decide +kernel
theorem dSettings_changeDepth_12 : decode cSettings_changeDepth 12 = .ok (.iload_n 1, 1) := by decide +kernel
theorem dSettings_changeDepth_13 : decode cSettings_changeDepth 13 = .ok (.iload_n 3, 1) := by decide +kernel
theorem dSettings_changeDepth_14 : decode cSettings_changeDepth 14 = .ok (.if_icmp .ne 10, 3) := by decide +kernel
theorem dSettings_changeDepth_17 : decode cSettings_changeDepth 17 = .ok (.aload_n 0, 1) := by decide +kernel
theorem dSettings_changeDepth_18 : decode cSettings_changeDepth 18 = .ok (.getfield 15, 3) := by decide +kernel
theorem dSettings_changeDepth_21 : decode cSettings_changeDepth 21 = .ok (.iload_n 3, 1) := by decide +kernel
theorem dSettings_changeDepth_22 : decode cSettings_changeDepth 22 = .ok (.iload_n 2, 1) := by decide +kernel
theorem dSettings_changeDepth_23 : decode cSettings_changeDepth 23 = .ok (.iastore, 1) := by decide +kernel
theorem dSettings_changeDepth_24 : decode cSettings_changeDepth 24 = .ok (.iinc 3 1, 3) := by decide +kernel
theorem dSettings_changeDepth_27 : decode cSettings_changeDepth 27 = .ok (.goto (-25), 3) := by decide +kernel
theorem dSettings_changeDepth_30 : decode cSettings_changeDepth 30 = .ok (.return_, 1) := by decide +kernel
theorem dSettings_makeSegment_0 : decode cSettings_makeSegment 0 = .ok (.iload_n 2, 1) := by decide +kernel
theorem dSettings_makeSegment_1 : decode cSettings_makeSegment 1 = .ok (.iload_n 3, 1) := by decide +kernel
theorem dSettings_makeSegment_2 : decode cSettings_makeSegment 2 = .ok (.invokestatic 45, 3) := by decide +kernel
theorem dSettings_makeSegment_5 : decode cSettings_makeSegment 5 = .ok (.istore 4, 2) := by decide +kernel
theorem dSettings_makeSegment_7 : decode cSettings_makeSegment 7 = .ok (.aload_n 0, 1) := by decide +kernel
theorem dSettings_makeSegment_8 : decode cSettings_makeSegment 8 = .ok (.iload_n 1, 1) := by decide +kernel
theorem dSettings_makeSegment_9 : decode cSettings_makeSegment 9 = .ok (.iload_n 2, 1) := by decide +kernel
theorem dSettings_makeSegment_10 : decode cSettings_makeSegment 10 = .ok (.iload_n 3, 1) := by decide +kernel
theorem dSettings_makeSegment_11 : decode cSettings_makeSegment 11 = .ok (.invokevirtual 68, 3) := by decide +kernel
theorem dSettings_makeSegment_14 : decode cSettings_makeSegment 14 = .ok (.istore 5, 2) := by decide +kernel
theorem dSettings_makeSegment_16 : decode cSettings_makeSegment 16 = .ok (.iload 4, 2) := by decide +kernel
theorem dSettings_makeSegment_18 : decode cSettings_makeSegment 18 = .ok (.iload 5, 2) := by decide +kernel
theorem dSettings_makeSegment_20 : decode cSettings_makeSegment 20 = .ok (.if_icmp .ne 4, 3) := by decide +kernel
theorem dSettings_makeSegment_23 : decode cSettings_makeSegment 23 = .ok (.return_, 1) := by decide +kernel
theorem dSettings_makeSegment_24 : decode cSettings_makeSegment 24 = .ok (.iload_n 1, 1) := by decide +kernel
theorem dSettings_makeSegment_25 : decode cSettings_makeSegment 25 = .ok (.bipush 9, 2) := by decide +kernel
theorem dSettings_makeSegment_27 : decode cSettings_makeSegment 27 = .ok (.if_icmp .ge 7, 3) := by decide +kernel
theorem dSettings_makeSegment_30 : decode cSettings_makeSegment 30 = .ok (.iconst 4, 1) := by decide +kernel
theorem dSettings_makeSegment_31 : decode cSettings_makeSegment 31 = .ok (.goto 5, 3) := by decide +kernel
theorem dSettings_makeSegment_34 : decode cSettings_makeSegment 34 = .ok (.bipush 9, 2) := by decide +kernel
theorem dSettings_makeSegment_36 : decode cSettings_makeSegment 36 = .ok (.istore 6, 2) := by decide +kernel
theorem dSettings_makeSegment_38 : decode cSettings_makeSegment 38 = .ok (.iload_n 1, 1) := by decide +kernel
theorem dSettings_makeSegment_39 : decode cSettings_makeSegment 39 = .ok (.bipush 9, 2) := by decide +kernel
theorem dSettings_makeSegment_41 : decode cSettings_makeSegment 41 = .ok (.if_icmp .ge 8, 3) := by decide +kernel
theorem dSettings_makeSegment_44 : decode cSettings_makeSegment 44 = .ok (.bipush 8, 2) := by decide +kernel
theorem dSettings_makeSegment_46 : decode cSettings_makeSegment 46 = .ok (.goto 5, 3) := by decide +kernel
theorem dSettings_makeSegment_49 : decode cSettings_makeSegment 49 = .ok (.bipush 10, 2) := by decide +kernel
theorem dSettings_makeSegment_51 : decode cSettings_makeSegment 51 = .ok (.istore 7, 2) := by decide +kernel
theorem dSettings_makeSegment_53 : decode cSettings_makeSegment 53 = .ok (.iload 6, 2) := by decide +kernel
theorem dSettings_makeSegment_55 : decode cSettings_makeSegment 55 = .ok (.istore 8, 2) := by decide +kernel
theorem dSettings_makeSegment_57 : decode cSettings_makeSegment 57 = .ok (.iload 8, 2) := by decide +kernel
theorem dSettings_makeSegment_59 : decode cSettings_makeSegment 59 = .ok (.iload 7, 2) := by decide +kernel
theorem dSettings_makeSegment_61 : decode cSettings_makeSegment 61 = .ok (.if_icmp .gt 29, 3) := by decide +kernel
theorem dSettings_makeSegment_64 : decode cSettings_makeSegment 64 = .ok (.aload_n 0, 1) := by decide +kernel
theorem dSettings_makeSegment_65 : decode cSettings_makeSegment 65 = .ok (.iload 4, 2) := by decide +kernel
theorem dSettings_makeSegment_67 : decode cSettings_makeSegment 67 = .ok (.iload 8, 2) := by decide +kernel
theorem dSettings_makeSegment_69 : decode cSettings_makeSegment 69 = .ok (.aload_n 0, 1) := by decide +kernel
theorem dSettings_makeSegment_70 : decode cSettings_makeSegment 70 = .ok (.getfield 18, 3) := by decide +kernel
theorem dSettings_makeSegment_73 : decode cSettings_makeSegment 73 = .ok (.iload 5, 2) := by decide +kernel
theorem dSettings_makeSegment_75 : decode cSettings_makeSegment 75 = .ok (.iload 8, 2) := by decide +kernel
theorem dSettings_makeSegment_77 : decode cSettings_makeSegment 77 = .ok (.invokestatic 72, 3) := by decide +kernel
theorem dSettings_makeSegment_80 : decode cSettings_makeSegment 80 = .ok (.iaload, 1) := by decide +kernel
theorem dSettings_makeSegment_81 : decode cSettings_makeSegment 81 = .ok (.invokevirtual 41, 3) := by decide +kernel
theorem dSettings_makeSegment_84 : decode cSettings_makeSegment 84 = .ok (.iinc 8 1, 3) := by decide +kernel
theorem dSettings_makeSegment_87 : decode cSettings_makeSegment 87 = .ok (.goto (-30), 3) := by decide +kernel
theorem dSettings_makeSegment_90 : decode cSettings_makeSegment 90 = .ok (.return_, 1) := by decide +kernel
theorem dSettings_change_0 : decode cSettings_change 0 = .ok (.iload_n 1, 1) := by decide +kernel
theorem dSettings_change_1 : decode cSettings_change 1 = .ok (.iconst 2, 1) := by decide +kernel
theorem dSettings_change_2 : decode cSettings_change 2 = .ok (.if_icmp .gt 14, 3) := by decide +kernel
theorem dSettings_change_5 : decode cSettings_change 5 = .ok (.aload_n 0, 1) := by decide +kernel
theorem dSettings_change_6 : decode cSettings_change 6 = .ok (.getfield 11, 3) := by decide +kernel
theorem dSettings_change_9 : decode cSettings_change 9 = .ok (.iload_n 1, 1) := by decide +kernel
theorem dSettings_change_10 : decode cSettings_change 10 = .ok (.iload 4, 2) := by decide +kernel
theorem dSettings_change_12 : decode cSettings_change 12 = .ok (.iastore, 1) := by decide +kernel
theorem dSettings_change_13 : decode cSettings_change 13 = .ok (.goto 37, 3) := by decide +kernel
theorem dSettings_change_16 : decode cSettings_change 16 = .ok (.iload_n 1, 1) := by decide +kernel
theorem dSettings_change_17 : decode cSettings_change 17 = .ok (.iconst 3, 1) := by decide +kernel
theorem dSettings_change_18 : decode cSettings_change 18 = .ok (.if_icmp .ne 13, 3) := by decide +kernel
theorem dSettings_change_21 : decode cSettings_change 21 = .ok (.aload_n 0, 1) := by decide +kernel
theorem dSettings_change_22 : decode cSettings_change 22 = .ok (.iload_n 3, 1) := by decide +kernel
theorem dSettings_change_23 : decode cSettings_change 23 = .ok (.iload 4, 2) := by decide +kernel
theorem dSettings_change_25 : decode cSettings_change 25 = .ok (.invokevirtual 75, 3) := by decide +kernel
theorem dSettings_change_28 : decode cSettings_change 28 = .ok (.goto 22, 3) := by decide +kernel
theorem dSettings_change_31 : decode cSettings_change 31 = .ok (.aload_n 0, 1) := by decide +kernel
theorem dSettings_change_32 : decode cSettings_change 32 = .ok (.iload_n 1, 1) := by decide +kernel
theorem dSettings_change_33 : decode cSettings_change 33 = .ok (.iload_n 2, 1) := by decide +kernel
theorem dSettings_change_34 : decode cSettings_change 34 = .ok (.iload_n 3, 1) := by decide +kernel
theorem dSettings_change_35 : decode cSettings_change 35 = .ok (.invokevirtual 79, 3) := by decide +kernel
theorem dSettings_change_38 : decode cSettings_change 38 = .ok (.aload_n 0, 1) := by decide +kernel
theorem dSettings_change_39 : decode cSettings_change 39 = .ok (.iload_n 2, 1) := by decide +kernel
theorem dSettings_change_40 : decode cSettings_change 40 = .ok (.iload_n 3, 1) := by decide +kernel
theorem dSettings_change_41 : decode cSettings_change 41 = .ok (.invokestatic 45, 3) := by decide +kernel
theorem dSettings_change_44 : decode cSettings_change 44 = .ok (.iload_n 1, 1) := by decide +kernel
theorem dSettings_change_45 : decode cSettings_change 45 = .ok (.iload 4, 2) := by decide +kernel
theorem dSettings_change_47 : decode cSettings_change 47 = .ok (.invokevirtual 41, 3) := by decide +kernel
theorem dSettings_change_50 : decode cSettings_change 50 = .ok (.return_, 1) := by decide +kernel
theorem dWriter_init_0 : decode cWriter_init 0 = .ok (.aload_n 0, 1) := by decide +kernel
theorem dWriter_init_1 : decode cWriter_init 1 = .ok (.invokespecial 3, 3) := by decide +kernel
theorem dWriter_init_4 : decode cWriter_init 4 = .ok (.aload_n 0, 1) := by decide +kernel
theorem dWriter_init_5 : decode cWriter_init 5 = .ok (.new 9, 3) := by decide +kernel
theorem dWriter_init_8 : decode cWriter_init 8 = .ok (.dup, 1) := by decide +kernel
theorem dWriter_init_9 : decode cWriter_init 9 = .ok (.sipush 20000, 3) := by decide +kernel
theorem dWriter_init_12 : decode cWriter_init 12 = .ok (.invokespecial 11, 3) := by decide +kernel
theorem dWriter_init_15 : decode cWriter_init 15 = .ok (.putfield 14, 3) := by decide +kernel
theorem dWriter_init_18 : decode cWriter_init 18 = .ok (.return_, 1) := by decide +kernel
theorem dWriter_begin_0 : decode cWriter_begin 0 = .ok (.aload_n 0, 1) := by decide +kernel
theorem dWriter_begin_1 : decode cWriter_begin 1 = .ok (.getfield 14, 3) := by decide +kernel
theorem dWriter_begin_4 : decode cWriter_begin 4 = .ok (.iconst 0, 1) := by decide +kernel
theorem dWriter_begin_5 : decode cWriter_begin 5 = .ok (.putfield 20, 3) := by decide +kernel
theorem dWriter_begin_8 : decode cWriter_begin 8 = .ok (.return_, 1) := by decide +kernel
theorem dWriter_closeBox_0 : decode cWriter_closeBox 0 = .ok (.aload_n 0, 1) := by decide +kernel
theorem dWriter_closeBox_1 : decode cWriter_closeBox 1 = .ok (.getfield 14, 3) := by decide +kernel
theorem dWriter_closeBox_4 : decode cWriter_closeBox 4 = .ok (.iload_n 1, 1) := by decide +kernel
theorem dWriter_closeBox_5 : decode cWriter_closeBox 5 = .ok (.aload_n 0, 1) := by decide +kernel
theorem dWriter_closeBox_6 : decode cWriter_closeBox 6 = .ok (.getfield 14, 3) := by decide +kernel
theorem dWriter_closeBox_9 : decode cWriter_closeBox 9 = .ok (.getfield 20, 3) := by decide +kernel
theorem dWriter_closeBox_12 : decode cWriter_closeBox 12 = .ok (.iload_n 1, 1) := by decide +kernel
theorem dWriter_closeBox_13 : decode cWriter_closeBox 13 = .ok (.isub, 1) := by decide +kernel
theorem dWriter_closeBox_14 : decode cWriter_closeBox 14 = .ok (.invokevirtual 28, 3) := by decide +kernel
theorem dWriter_closeBox_17 : decode cWriter_closeBox 17 = .ok (.return_, 1) := by decide +kernel
theorem dBoxReader_init_0 : decode cBoxReader_init 0 = .ok (.aload_n 0, 1) := by decide +kernel
theorem dBoxReader_init_1 : decode cBoxReader_init 1 = .ok (.invokespecial 3, 3) := by decide +kernel
theorem dBoxReader_init_4 : decode cBoxReader_init 4 = .ok (.aload_n 0, 1) := by decide +kernel
theorem dBoxReader_init_5 : decode cBoxReader_init 5 = .ok (.new 9, 3) := by decide +kernel
theorem dBoxReader_init_8 : decode cBoxReader_init 8 = .ok (.dup, 1) := by decide +kernel
theorem dBoxReader_init_9 : decode cBoxReader_init 9 = .ok (.invokespecial 11, 3) := by decide +kernel
theorem dBoxReader_init_12 : decode cBoxReader_init 12 = .ok (.putfield 12, 3) := by decide +kernel
theorem dBoxReader_init_15 : decode cBoxReader_init 15 = .ok (.aload_n 0, 1) := by decide +kernel
theorem dBoxReader_init_16 : decode cBoxReader_init 16 = .ok (.new 9, 3) := by decide +kernel
theorem dBoxReader_init_19 : decode cBoxReader_init 19 = .ok (.dup, 1) := by decide +kernel
theorem dBoxReader_init_20 : decode cBoxReader_init 20 = .ok (.invokespecial 11, 3) := by decide +kernel
theorem dBoxReader_init_23 : decode cBoxReader_init 23 = .ok (.putfield 18, 3) := by decide +kernel
theorem dBoxReader_init_26 : decode cBoxReader_init 26 = .ok (.aload_n 0, 1) := by decide +kernel
theorem dBoxReader_init_27 : decode cBoxReader_init 27 = .ok (.iconst (-1), 1) := by decide +kernel
theorem dBoxReader_init_28 : decode cBoxReader_init 28 = .ok (.putfield 21, 3) := by decide +kernel
theorem dBoxReader_init_31 : decode cBoxReader_init 31 = .ok (.aload_n 0, 1) := by decide +kernel
theorem dBoxReader_init_32 : decode cBoxReader_init 32 = .ok (.iconst 0, 1) := by decide +kernel
theorem dBoxReader_init_33 : decode cBoxReader_init 33 = .ok (.putfield 25, 3) := by decide +kernel
theorem dBoxReader_init_36 : decode cBoxReader_init 36 = .ok (.aload_n 0, 1) := by decide +kernel
theorem dBoxReader_init_37 : decode cBoxReader_init 37 = .ok (.iconst 0, 1) := by decide +kernel
theorem dBoxReader_init_38 : decode cBoxReader_init 38 = .ok (.putfield 28, 3) := by decide +kernel
theorem dBoxReader_init_41 : decode cBoxReader_init 41 = .ok (.aload_n 0, 1) := by decide +kernel
theorem dBoxReader_init_42 : decode cBoxReader_init 42 = .ok (.aload_n 1, 1) := by decide +kernel
theorem dBoxReader_init_43 : decode cBoxReader_init 43 = .ok (.putfield 31, 3) := by decide +kernel
theorem dBoxReader_init_46 : decode cBoxReader_init 46 = .ok (.return_, 1) := by decide +kernel
theorem dBoxReader_forget_0 : decode cBoxReader_forget 0 = .ok (.aload_n 0, 1) := by decide +kernel
theorem dBoxReader_forget_1 : decode cBoxReader_forget 1 = .ok (.getfield 12, 3) := by decide +kernel
theorem dBoxReader_forget_4 : decode cBoxReader_forget 4 = .ok (.iconst 0, 1) := by decide +kernel
theorem dBoxReader_forget_5 : decode cBoxReader_forget 5 = .ok (.putfield 35, 3) := by decide +kernel
theorem dBoxReader_forget_8 : decode cBoxReader_forget 8 = .ok (.aload_n 0, 1) := by decide +kernel
theorem dBoxReader_forget_9 : decode cBoxReader_forget 9 = .ok (.getfield 18, 3) := by decide +kernel
theorem dBoxReader_forget_12 : decode cBoxReader_forget 12 = .ok (.iconst 0, 1) := by decide +kernel
theorem dBoxReader_forget_13 : decode cBoxReader_forget 13 = .ok (.putfield 35, 3) := by decide +kernel
theorem dBoxReader_forget_16 : decode cBoxReader_forget 16 = .ok (.aload_n 0, 1) := by decide +kernel
theorem dBoxReader_forget_17 : decode cBoxReader_forget 17 = .ok (.iconst (-1), 1) := by decide +kernel
theorem dBoxReader_forget_18 : decode cBoxReader_forget 18 = .ok (.putfield 21, 3) := by decide +kernel
theorem dBoxReader_forget_21 : decode cBoxReader_forget 21 = .ok (.return_, 1) := by decide +kernel
theorem dBoxReader_kindAt_0 : decode cBoxReader_kindAt 0 = .ok (.aload_n 0, 1) := by decide +kernel
theorem dBoxReader_kindAt_1 : decode cBoxReader_kindAt 1 = .ok (.getfield 31, 3) := by decide +kernel
theorem dBoxReader_kindAt_4 : decode cBoxReader_kindAt 4 = .ok (.iload_n 1, 1) := by decide +kernel
theorem dBoxReader_kindAt_5 : decode cBoxReader_kindAt 5 = .ok (.iconst 4, 1) := by decide +kernel
theorem dBoxReader_kindAt_6 : decode cBoxReader_kindAt 6 = .ok (.iadd, 1) := by decide +kernel
theorem dBoxReader_kindAt_7 : decode cBoxReader_kindAt 7 = .ok (.iconst 4, 1) := by decide +kernel
theorem dBoxReader_kindAt_8 : decode cBoxReader_kindAt 8 = .ok (.invokevirtual 53, 3) := by decide +kernel
theorem dBoxReader_kindAt_11 : decode cBoxReader_kindAt 11 = .ok (.l2i, 1) := by decide +kernel
theorem dBoxReader_kindAt_12 : decode cBoxReader_kindAt 12 = .ok (.ireturn, 1) := by decide +kernel
theorem dBoxReader_beginsWithSignature_0 : decode cBoxReader_beginsWithSignature 0 = .ok (.aload_n 0, 1) := by decide +kernel
theorem dBoxReader_beginsWithSignature_1 : decode cBoxReader_beginsWithSignature 1 = .ok (.getfield 31, 3) := by decide +kernel
theorem dBoxReader_beginsWithSignature_4 : decode cBoxReader_beginsWithSignature 4 = .ok (.getfield 38, 3) := by decide +kernel
theorem dBoxReader_beginsWithSignature_7 : decode cBoxReader_beginsWithSignature 7 = .ok (.bipush 12, 2) := by decide +kernel
theorem dBoxReader_beginsWithSignature_9 : decode cBoxReader_beginsWithSignature 9 = .ok (.if_icmp .lt 49, 3) := by decide +kernel
theorem dBoxReader_beginsWithSignature_12 : decode cBoxReader_beginsWithSignature 12 = .ok (.aload_n 0, 1) := by decide +kernel
theorem dBoxReader_beginsWithSignature_13 : decode cBoxReader_beginsWithSignature 13 = .ok (.getfield 31, 3) := by decide +kernel
theorem dBoxReader_beginsWithSignature_16 : decode cBoxReader_beginsWithSignature 16 = .ok (.iconst 0, 1) := by decide +kernel
theorem dBoxReader_beginsWithSignature_17 : decode cBoxReader_beginsWithSignature 17 = .ok (.iconst 4, 1) := by decide +kernel
theorem dBoxReader_beginsWithSignature_18 : decode cBoxReader_beginsWithSignature 18 = .ok (.invokevirtual 53, 3) := by decide +kernel
theorem dBoxReader_beginsWithSignature_21 : decode cBoxReader_beginsWithSignature 21 = .ok (.ldc2_w 57, 3) := by decide +kernel
theorem dBoxReader_beginsWithSignature_24 : decode cBoxReader_beginsWithSignature 24 = .ok (.lcmp, 1) := by decide +kernel
theorem dBoxReader_beginsWithSignature_25 : decode cBoxReader_beginsWithSignature 25 = .ok (.ifCond .ne 33, 3) := by decide +kernel
theorem dBoxReader_beginsWithSignature_28 : decode cBoxReader_beginsWithSignature 28 = .ok (.aload_n 0, 1) := by decide +kernel
theorem dBoxReader_beginsWithSignature_29 : decode cBoxReader_beginsWithSignature 29 = .ok (.iconst 0, 1) := by decide +kernel
theorem dBoxReader_beginsWithSignature_30 : decode cBoxReader_beginsWithSignature 30 = .ok (.invokevirtual 59, 3) := by decide +kernel
theorem dBoxReader_beginsWithSignature_33 : decode cBoxReader_beginsWithSignature 33 = .ok (.ldc 62, 2) := by decide +kernel
theorem dBoxReader_beginsWithSignature_35 : decode cBoxReader_beginsWithSignature 35 = .ok (.if_icmp .ne 23, 3) := by decide +kernel
theorem dBoxReader_beginsWithSignature_38 : decode cBoxReader_beginsWithSignature 38 = .ok (.aload_n 0, 1) := by decide +kernel
theorem dBoxReader_beginsWithSignature_39 : decode cBoxReader_beginsWithSignature 39 = .ok (.getfield 31, 3) := by decide +kernel
theorem dBoxReader_beginsWithSignature_42 : decode cBoxReader_beginsWithSignature 42 = .ok (.bipush 8, 2) := by decide +kernel
theorem dBoxReader_beginsWithSignature_44 : decode cBoxReader_beginsWithSignature 44 = .ok (.iconst 4, 1) := by decide +kernel
theorem dBoxReader_beginsWithSignature_45 : decode cBoxReader_beginsWithSignature 45 = .ok (.invokevirtual 53, 3) := by decide +kernel
theorem dBoxReader_beginsWithSignature_48 : decode cBoxReader_beginsWithSignature 48 = .ok (.l2i, 1) := by decide +kernel
theorem dBoxReader_beginsWithSignature_49 : decode cBoxReader_beginsWithSignature 49 = .ok (.ldc 63, 2) := by decide +kernel
theorem dBoxReader_beginsWithSignature_51 : decode cBoxReader_beginsWithSignature 51 = .ok (.if_icmp .ne 7, 3) := by decide +kernel
theorem dBoxReader_beginsWithSignature_54 : decode cBoxReader_beginsWithSignature 54 = .ok (.iconst 1, 1) := by decide +kernel
theorem dBoxReader_beginsWithSignature_55 : decode cBoxReader_beginsWithSignature 55 = .ok (.goto 4, 3) := by decide +kernel
theorem dBoxReader_beginsWithSignature_58 : decode cBoxReader_beginsWithSignature 58 = .ok (.iconst 0, 1) := by decide +kernel
theorem dBoxReader_beginsWithSignature_59 : decode cBoxReader_beginsWithSignature 59 = .ok (.ireturn, 1) := by decide +kernel
theorem dBoxReader_boxEnd_0 : decode cBoxReader_boxEnd 0 = .ok (.iload_n 2, 1) := by decide +kernel
theorem dBoxReader_boxEnd_1 : decode cBoxReader_boxEnd 1 = .ok (.iload_n 1, 1) := by decide +kernel
theorem dBoxReader_boxEnd_2 : decode cBoxReader_boxEnd 2 = .ok (.isub, 1) := by decide +kernel
theorem dBoxReader_boxEnd_3 : decode cBoxReader_boxEnd 3 = .ok (.bipush 8, 2) := by decide +kernel
theorem dBoxReader_boxEnd_5 : decode cBoxReader_boxEnd 5 = .ok (.if_icmp .ge 5, 3) := by decide +kernel
theorem dBoxReader_boxEnd_8 : decode cBoxReader_boxEnd 8 = .ok (.iconst (-1), 1) := by decide +kernel
theorem dBoxReader_boxEnd_9 : decode cBoxReader_boxEnd 9 = .ok (.ireturn, 1) := by decide +kernel
theorem dBoxReader_boxEnd_10 : decode cBoxReader_boxEnd 10 = .ok (.aload_n 0, 1) := by decide +kernel
theorem dBoxReader_boxEnd_11 : decode cBoxReader_boxEnd 11 = .ok (.getfield 31, 3) := by decide +kernel
theorem dBoxReader_boxEnd_14 : decode cBoxReader_boxEnd 14 = .ok (.iload_n 1, 1) := by decide +kernel
theorem dBoxReader_boxEnd_15 : decode cBoxReader_boxEnd 15 = .ok (.iconst 4, 1) := by decide +kernel
theorem dBoxReader_boxEnd_16 : decode cBoxReader_boxEnd 16 = .ok (.invokevirtual 53, 3) := by decide +kernel
theorem dBoxReader_boxEnd_19 : decode cBoxReader_boxEnd 19 = .ok (.lstore 4, 2) := by decide +kernel
theorem dBoxReader_boxEnd_21 : decode cBoxReader_boxEnd 21 = .ok (.lload 4, 2) := by decide +kernel
theorem dBoxReader_boxEnd_23 : decode cBoxReader_boxEnd 23 = .ok (.lconst 0, 1) := by decide +kernel
theorem dBoxReader_boxEnd_24 : decode cBoxReader_boxEnd 24 = .ok (.lcmp, 1) := by decide +kernel
theorem dBoxReader_boxEnd_25 : decode cBoxReader_boxEnd 25 = .ok (.ifCond .ne 5, 3) := by decide +kernel
theorem dBoxReader_boxEnd_28 : decode cBoxReader_boxEnd 28 = .ok (.iload_n 2, 1) := by decide +kernel
theorem dBoxReader_boxEnd_29 : decode cBoxReader_boxEnd 29 = .ok (.ireturn, 1) := by decide +kernel
theorem dBoxReader_boxEnd_30 : decode cBoxReader_boxEnd 30 = .ok (.lload 4, 2) := by decide +kernel
theorem dBoxReader_boxEnd_32 : decode cBoxReader_boxEnd 32 = .ok (.ldc2_w 81, 3) := by decide +kernel
theorem dBoxReader_boxEnd_35 : decode cBoxReader_boxEnd 35 = .ok (.lcmp, 1) := by decide +kernel
theorem dBoxReader_boxEnd_36 : decode cBoxReader_boxEnd 36 = .ok (.ifCond .ge 5, 3) := by decide +kernel
theorem dBoxReader_boxEnd_39 : decode cBoxReader_boxEnd 39 = .ok (.iconst (-1), 1) := by decide +kernel
theorem dBoxReader_boxEnd_40 : decode cBoxReader_boxEnd 40 = .ok (.ireturn, 1) := by decide +kernel
theorem dBoxReader_boxEnd_41 : decode cBoxReader_boxEnd 41 = .ok (.lload 4, 2) := by decide +kernel
theorem dBoxReader_boxEnd_43 : decode cBoxReader_boxEnd 43 = .ok (.iload_n 2, 1) := by decide +kernel
theorem dBoxReader_boxEnd_44 : decode cBoxReader_boxEnd 44 = .ok (.iload_n 1, 1) := by decide +kernel
theorem dBoxReader_boxEnd_45 : decode cBoxReader_boxEnd 45 = .ok (.isub, 1) := by decide +kernel
theorem dBoxReader_boxEnd_46 : decode cBoxReader_boxEnd 46 = .ok (.i2l, 1) := by decide +kernel
theorem dBoxReader_boxEnd_47 : decode cBoxReader_boxEnd 47 = .ok (.lcmp, 1) := by decide +kernel
theorem dBoxReader_boxEnd_48 : decode cBoxReader_boxEnd 48 = .ok (.ifCond .le 23, 3) := by decide +kernel
theorem dBoxReader_boxEnd_51 : decode cBoxReader_boxEnd 51 = .ok (.iload_n 3, 1) := by decide +kernel
theorem dBoxReader_boxEnd_52 : decode cBoxReader_boxEnd 52 = .ok (.ifCond .eq 17, 3) := by decide +kernel
theorem dBoxReader_boxEnd_55 : decode cBoxReader_boxEnd 55 = .ok (.aload_n 0, 1) := by decide +kernel
theorem dBoxReader_boxEnd_56 : decode cBoxReader_boxEnd 56 = .ok (.iload_n 1, 1) := by decide +kernel
theorem dBoxReader_boxEnd_57 : decode cBoxReader_boxEnd 57 = .ok (.invokevirtual 59, 3) := by decide +kernel
theorem dBoxReader_boxEnd_60 : decode cBoxReader_boxEnd 60 = .ok (.ldc 68, 2) := by decide +kernel
theorem dBoxReader_boxEnd_62 : decode cBoxReader_boxEnd 62 = .ok (.if_icmp .ne 7, 3) := by decide +kernel
theorem dBoxReader_boxEnd_65 : decode cBoxReader_boxEnd 65 = .ok (.iload_n 2, 1) := by decide +kernel
theorem dBoxReader_boxEnd_66 : decode cBoxReader_boxEnd 66 = .ok (.goto 4, 3) := by decide +kernel
theorem dBoxReader_boxEnd_69 : decode cBoxReader_boxEnd 69 = .ok (.iconst (-1), 1) := by decide +kernel
theorem dBoxReader_boxEnd_70 : decode cBoxReader_boxEnd 70 = .ok (.ireturn, 1) := by decide +kernel
theorem dBoxReader_boxEnd_71 : decode cBoxReader_boxEnd 71 = .ok (.iload_n 1, 1) := by decide +kernel
theorem dBoxReader_boxEnd_72 : decode cBoxReader_boxEnd 72 = .ok (.lload 4, 2) := by decide +kernel
theorem dBoxReader_boxEnd_74 : decode cBoxReader_boxEnd 74 = .ok (.l2i, 1) := by decide +kernel
theorem dBoxReader_boxEnd_75 : decode cBoxReader_boxEnd 75 = .ok (.iadd, 1) := by decide +kernel
theorem dBoxReader_boxEnd_76 : decode cBoxReader_boxEnd 76 = .ok (.ireturn, 1) := by decide +kernel
theorem dHeadReader_init_0 : decode cHeadReader_init 0 = .ok (.aload_n 0, 1) := by decide +kernel
theorem dHeadReader_init_1 : decode cHeadReader_init 1 = .ok (.invokespecial 3, 3) := by decide +kernel
theorem dHeadReader_init_4 : decode cHeadReader_init 4 = .ok (.aload_n 0, 1) := by decide +kernel
theorem dHeadReader_init_5 : decode cHeadReader_init 5 = .ok (.iconst 0, 1) := by decide +kernel
theorem dHeadReader_init_6 : decode cHeadReader_init 6 = .ok (.putfield 9, 3) := by decide +kernel
theorem dHeadReader_init_9 : decode cHeadReader_init 9 = .ok (.aload_n 0, 1) := by decide +kernel
theorem dHeadReader_init_10 : decode cHeadReader_init 10 = .ok (.aload_n 1, 1) := by decide +kernel
theorem dHeadReader_init_11 : decode cHeadReader_init 11 = .ok (.putfield 15, 3) := by decide +kernel
theorem dHeadReader_init_14 : decode cHeadReader_init 14 = .ok (.aload_n 0, 1) := by decide +kernel
theorem dHeadReader_init_15 : decode cHeadReader_init 15 = .ok (.aload_n 2, 1) := by decide +kernel
theorem dHeadReader_init_16 : decode cHeadReader_init 16 = .ok (.putfield 19, 3) := by decide +kernel
theorem dHeadReader_init_19 : decode cHeadReader_init 19 = .ok (.return_, 1) := by decide +kernel
theorem dHeadReader_isCode_0 : decode cHeadReader_isCode 0 = .ok (.iload_n 2, 1) := by decide +kernel
theorem dHeadReader_isCode_1 : decode cHeadReader_isCode 1 = .ok (.iload_n 1, 1) := by decide +kernel
theorem dHeadReader_isCode_2 : decode cHeadReader_isCode 2 = .ok (.isub, 1) := by decide +kernel
theorem dHeadReader_isCode_3 : decode cHeadReader_isCode 3 = .ok (.iconst 2, 1) := by decide +kernel
theorem dHeadReader_isCode_4 : decode cHeadReader_isCode 4 = .ok (.if_icmp .lt 35, 3) := by decide +kernel
theorem dHeadReader_isCode_7 : decode cHeadReader_isCode 7 = .ok (.aload_n 0, 1) := by decide +kernel
theorem dHeadReader_isCode_8 : decode cHeadReader_isCode 8 = .ok (.getfield 15, 3) := by decide +kernel
theorem dHeadReader_isCode_11 : decode cHeadReader_isCode 11 = .ok (.iload_n 1, 1) := by decide +kernel
theorem dHeadReader_isCode_12 : decode cHeadReader_isCode 12 = .ok (.invokevirtual 44, 3) := by decide +kernel
theorem dHeadReader_isCode_15 : decode cHeadReader_isCode 15 = .ok (.sipush 255, 3) := by decide +kernel
theorem dHeadReader_isCode_18 : decode cHeadReader_isCode 18 = .ok (.if_icmp .ne 21, 3) := by decide +kernel
theorem dHeadReader_isCode_21 : decode cHeadReader_isCode 21 = .ok (.aload_n 0, 1) := by decide +kernel
theorem dHeadReader_isCode_22 : decode cHeadReader_isCode 22 = .ok (.getfield 15, 3) := by decide +kernel
theorem dHeadReader_isCode_25 : decode cHeadReader_isCode 25 = .ok (.iload_n 1, 1) := by decide +kernel
theorem dHeadReader_isCode_26 : decode cHeadReader_isCode 26 = .ok (.iconst 1, 1) := by decide +kernel
theorem dHeadReader_isCode_27 : decode cHeadReader_isCode 27 = .ok (.iadd, 1) := by decide +kernel
theorem dHeadReader_isCode_28 : decode cHeadReader_isCode 28 = .ok (.invokevirtual 44, 3) := by decide +kernel
theorem dHeadReader_isCode_31 : decode cHeadReader_isCode 31 = .ok (.iload_n 3, 1) := by decide +kernel
theorem dHeadReader_isCode_32 : decode cHeadReader_isCode 32 = .ok (.if_icmp .ne 7, 3) := by decide +kernel
theorem dHeadReader_isCode_35 : decode cHeadReader_isCode 35 = .ok (.iconst 1, 1) := by decide +kernel
theorem dHeadReader_isCode_36 : decode cHeadReader_isCode 36 = .ok (.goto 4, 3) := by decide +kernel
theorem dHeadReader_isCode_39 : decode cHeadReader_isCode 39 = .ok (.iconst 0, 1) := by decide +kernel
theorem dHeadReader_isCode_40 : decode cHeadReader_isCode 40 = .ok (.ireturn, 1) := by decide +kernel
theorem dHeadReader_segmentEnd_0 : decode cHeadReader_segmentEnd 0 = .ok (.iload_n 2, 1) := by decide +kernel
theorem dHeadReader_segmentEnd_1 : decode cHeadReader_segmentEnd 1 = .ok (.iload_n 1, 1) := by decide +kernel
theorem dHeadReader_segmentEnd_2 : decode cHeadReader_segmentEnd 2 = .ok (.isub, 1) := by decide +kernel
theorem dHeadReader_segmentEnd_3 : decode cHeadReader_segmentEnd 3 = .ok (.iconst 4, 1) := by decide +kernel
theorem dHeadReader_segmentEnd_4 : decode cHeadReader_segmentEnd 4 = .ok (.if_icmp .lt 17, 3) := by decide +kernel
theorem dHeadReader_segmentEnd_7 : decode cHeadReader_segmentEnd 7 = .ok (.aload_n 0, 1) := by decide +kernel
theorem dHeadReader_segmentEnd_8 : decode cHeadReader_segmentEnd 8 = .ok (.getfield 15, 3) := by decide +kernel
theorem dHeadReader_segmentEnd_11 : decode cHeadReader_segmentEnd 11 = .ok (.iload_n 1, 1) := by decide +kernel
theorem dHeadReader_segmentEnd_12 : decode cHeadReader_segmentEnd 12 = .ok (.invokevirtual 44, 3) := by decide +kernel
theorem dHeadReader_segmentEnd_15 : decode cHeadReader_segmentEnd 15 = .ok (.sipush 255, 3) := by decide +kernel
theorem dHeadReader_segmentEnd_18 : decode cHeadReader_segmentEnd 18 = .ok (.if_icmp .eq 5, 3) := by decide +kernel
theorem dHeadReader_segmentEnd_21 : decode cHeadReader_segmentEnd 21 = .ok (.iconst (-1), 1) := by decide +kernel
theorem dHeadReader_segmentEnd_22 : decode cHeadReader_segmentEnd 22 = .ok (.ireturn, 1) := by decide +kernel
theorem dHeadReader_segmentEnd_23 : decode cHeadReader_segmentEnd 23 = .ok (.aload_n 0, 1) := by decide +kernel
theorem dHeadReader_segmentEnd_24 : decode cHeadReader_segmentEnd 24 = .ok (.getfield 15, 3) := by decide +kernel
theorem dHeadReader_segmentEnd_27 : decode cHeadReader_segmentEnd 27 = .ok (.iload_n 1, 1) := by decide +kernel
theorem dHeadReader_segmentEnd_28 : decode cHeadReader_segmentEnd 28 = .ok (.iconst 2, 1) := by decide +kernel
theorem dHeadReader_segmentEnd_29 : decode cHeadReader_segmentEnd 29 = .ok (.iadd, 1) := by decide +kernel
theorem dHeadReader_segmentEnd_30 : decode cHeadReader_segmentEnd 30 = .ok (.iconst 2, 1) := by decide +kernel
theorem dHeadReader_segmentEnd_31 : decode cHeadReader_segmentEnd 31 = .ok (.invokevirtual 50, 3) := by decide +kernel
theorem dHeadReader_segmentEnd_34 : decode cHeadReader_segmentEnd 34 = .ok (.l2i, 1) := by decide +kernel
theorem dHeadReader_segmentEnd_35 : decode cHeadReader_segmentEnd 35 = .ok (.istore_n 3, 1) := by decide +kernel
theorem dHeadReader_segmentEnd_36 : decode cHeadReader_segmentEnd 36 = .ok (.iload_n 3, 1) := by decide +kernel
theorem dHeadReader_segmentEnd_37 : decode cHeadReader_segmentEnd 37 = .ok (.iconst 2, 1) := by decide +kernel
theorem dHeadReader_segmentEnd_38 : decode cHeadReader_segmentEnd 38 = .ok (.if_icmp .lt 20, 3) := by decide +kernel
theorem dHeadReader_segmentEnd_41 : decode cHeadReader_segmentEnd 41 = .ok (.iload_n 3, 1) := by decide +kernel
theorem dHeadReader_segmentEnd_42 : decode cHeadReader_segmentEnd 42 = .ok (.iload_n 2, 1) := by decide +kernel
theorem dHeadReader_segmentEnd_43 : decode cHeadReader_segmentEnd 43 = .ok (.iload_n 1, 1) := by decide +kernel
theorem dHeadReader_segmentEnd_44 : decode cHeadReader_segmentEnd 44 = .ok (.isub, 1) := by decide +kernel
theorem dHeadReader_segmentEnd_45 : decode cHeadReader_segmentEnd 45 = .ok (.iconst 2, 1) := by decide +kernel
theorem dHeadReader_segmentEnd_46 : decode cHeadReader_segmentEnd 46 = .ok (.isub, 1) := by decide +kernel
theorem dHeadReader_segmentEnd_47 : decode cHeadReader_segmentEnd 47 = .ok (.if_icmp .gt 11, 3) := by decide +kernel
theorem dHeadReader_segmentEnd_50 : decode cHeadReader_segmentEnd 50 = .ok (.iload_n 1, 1) := by decide +kernel
theorem dHeadReader_segmentEnd_51 : decode cHeadReader_segmentEnd 51 = .ok (.iconst 2, 1) := by decide +kernel
theorem dHeadReader_segmentEnd_52 : decode cHeadReader_segmentEnd 52 = .ok (.iadd, 1) := by decide +kernel
theorem dHeadReader_segmentEnd_53 : decode cHeadReader_segmentEnd 53 = .ok (.iload_n 3, 1) := by decide +kernel
theorem dHeadReader_segmentEnd_54 : decode cHeadReader_segmentEnd 54 = .ok (.iadd, 1) := by decide +kernel
theorem dHeadReader_segmentEnd_55 : decode cHeadReader_segmentEnd 55 = .ok (.goto 4, 3) := by decide +kernel
theorem dHeadReader_segmentEnd_58 : decode cHeadReader_segmentEnd 58 = .ok (.iconst (-1), 1) := by decide +kernel
theorem dHeadReader_segmentEnd_59 : decode cHeadReader_segmentEnd 59 = .ok (.ireturn, 1) := by decide +kernel
theorem dHeadReader_isTileSide_0 : decode cHeadReader_isTileSide 0 = .ok (.lload_n 0, 1) := by decide +kernel
theorem dHeadReader_isTileSide_1 : decode cHeadReader_isTileSide 1 = .ok (.lconst 1, 1) := by decide +kernel
theorem dHeadReader_isTileSide_2 : decode cHeadReader_isTileSide 2 = .ok (.lcmp, 1) := by decide +kernel
theorem dHeadReader_isTileSide_3 : decode cHeadReader_isTileSide 3 = .ok (.ifCond .lt 15, 3) := by decide +kernel
theorem dHeadReader_isTileSide_6 : decode cHeadReader_isTileSide 6 = .ok (.lload_n 0, 1) := by decide +kernel
theorem dHeadReader_isTileSide_7 : decode cHeadReader_isTileSide 7 = .ok (.ldc2_w 89, 3) := by decide +kernel
theorem dHeadReader_isTileSide_10 : decode cHeadReader_isTileSide 10 = .ok (.lcmp, 1) := by decide +kernel
theorem dHeadReader_isTileSide_11 : decode cHeadReader_isTileSide 11 = .ok (.ifCond .gt 7, 3) := by decide +kernel
theorem dHeadReader_isTileSide_14 : decode cHeadReader_isTileSide 14 = .ok (.iconst 1, 1) := by decide +kernel
theorem dHeadReader_isTileSide_15 : decode cHeadReader_isTileSide 15 = .ok (.goto 4, 3) := by decide +kernel
theorem dHeadReader_isTileSide_18 : decode cHeadReader_isTileSide 18 = .ok (.iconst 0, 1) := by decide +kernel
theorem dHeadReader_isTileSide_19 : decode cHeadReader_isTileSide 19 = .ok (.ireturn, 1) := by decide +kernel
theorem dHeadReader_keepSides_0 : decode cHeadReader_keepSides 0 = .ok (.aload_n 0, 1) := by decide +kernel
theorem dHeadReader_keepSides_1 : decode cHeadReader_keepSides 1 = .ok (.getfield 15, 3) := by decide +kernel
theorem dHeadReader_keepSides_4 : decode cHeadReader_keepSides 4 = .ok (.iload_n 1, 1) := by decide +kernel
theorem dHeadReader_keepSides_5 : decode cHeadReader_keepSides 5 = .ok (.bipush 6, 2) := by decide +kernel
theorem dHeadReader_keepSides_7 : decode cHeadReader_keepSides 7 = .ok (.iadd, 1) := by decide +kernel
theorem dHeadReader_keepSides_8 : decode cHeadReader_keepSides 8 = .ok (.iconst 4, 1) := by decide +kernel
theorem dHeadReader_keepSides_9 : decode cHeadReader_keepSides 9 = .ok (.invokevirtual 50, 3) := by decide +kernel
theorem dHeadReader_keepSides_12 : decode cHeadReader_keepSides 12 = .ok (.lstore_n 2, 1) := by decide +kernel
theorem dHeadReader_keepSides_13 : decode cHeadReader_keepSides 13 = .ok (.aload_n 0, 1) := by decide +kernel
theorem dHeadReader_keepSides_14 : decode cHeadReader_keepSides 14 = .ok (.getfield 15, 3) := by decide +kernel
theorem dHeadReader_keepSides_17 : decode cHeadReader_keepSides 17 = .ok (.iload_n 1, 1) := by decide +kernel
theorem dHeadReader_keepSides_18 : decode cHeadReader_keepSides 18 = .ok (.bipush 10, 2) := by decide +kernel
theorem dHeadReader_keepSides_20 : decode cHeadReader_keepSides 20 = .ok (.iadd, 1) := by decide +kernel
theorem dHeadReader_keepSides_21 : decode cHeadReader_keepSides 21 = .ok (.iconst 4, 1) := by decide +kernel
theorem dHeadReader_keepSides_22 : decode cHeadReader_keepSides 22 = .ok (.invokevirtual 50, 3) := by decide +kernel
theorem dHeadReader_keepSides_25 : decode cHeadReader_keepSides 25 = .ok (.lstore 4, 2) := by decide +kernel
theorem dHeadReader_keepSides_27 : decode cHeadReader_keepSides 27 = .ok (.aload_n 0, 1) := by decide +kernel
theorem dHeadReader_keepSides_28 : decode cHeadReader_keepSides 28 = .ok (.getfield 15, 3) := by decide +kernel
theorem dHeadReader_keepSides_31 : decode cHeadReader_keepSides 31 = .ok (.iload_n 1, 1) := by decide +kernel
theorem dHeadReader_keepSides_32 : decode cHeadReader_keepSides 32 = .ok (.bipush 22, 2) := by decide +kernel
theorem dHeadReader_keepSides_34 : decode cHeadReader_keepSides 34 = .ok (.iadd, 1) := by decide +kernel
theorem dHeadReader_keepSides_35 : decode cHeadReader_keepSides 35 = .ok (.iconst 4, 1) := by decide +kernel
theorem dHeadReader_keepSides_36 : decode cHeadReader_keepSides 36 = .ok (.invokevirtual 50, 3) := by decide +kernel
theorem dHeadReader_keepSides_39 : decode cHeadReader_keepSides 39 = .ok (.lstore 6, 2) := by decide +kernel
theorem dHeadReader_keepSides_41 : decode cHeadReader_keepSides 41 = .ok (.aload_n 0, 1) := by decide +kernel
theorem dHeadReader_keepSides_42 : decode cHeadReader_keepSides 42 = .ok (.getfield 15, 3) := by decide +kernel
theorem dHeadReader_keepSides_45 : decode cHeadReader_keepSides 45 = .ok (.iload_n 1, 1) := by decide +kernel
theorem dHeadReader_keepSides_46 : decode cHeadReader_keepSides 46 = .ok (.bipush 26, 2) := by decide +kernel
theorem dHeadReader_keepSides_48 : decode cHeadReader_keepSides 48 = .ok (.iadd, 1) := by decide +kernel
theorem dHeadReader_keepSides_49 : decode cHeadReader_keepSides 49 = .ok (.iconst 4, 1) := by decide +kernel
theorem dHeadReader_keepSides_50 : decode cHeadReader_keepSides 50 = .ok (.invokevirtual 50, 3) := by decide +kernel
theorem dHeadReader_keepSides_53 : decode cHeadReader_keepSides 53 = .ok (.lstore 8, 2) := by decide +kernel
theorem dHeadReader_keepSides_55 : decode cHeadReader_keepSides 55 = .ok (.iconst 0, 1) := by decide +kernel
theorem dHeadReader_keepSides_56 : decode cHeadReader_keepSides 56 = .ok (.lload_n 2, 1) := by decide +kernel
theorem dHeadReader_keepSides_57 : decode cHeadReader_keepSides 57 = .ok (.invokestatic 54, 3) := by decide +kernel
theorem dHeadReader_keepSides_60 : decode cHeadReader_keepSides 60 = .ok (.ifCond .eq 28, 3) := by decide +kernel
theorem dHeadReader_keepSides_63 : decode cHeadReader_keepSides 63 = .ok (.iconst 1, 1) := by decide +kernel
theorem dHeadReader_keepSides_64 : decode cHeadReader_keepSides 64 = .ok (.lload 4, 2) := by decide +kernel
theorem dHeadReader_keepSides_66 : decode cHeadReader_keepSides 66 = .ok (.invokestatic 54, 3) := by decide +kernel
theorem dHeadReader_keepSides_69 : decode cHeadReader_keepSides 69 = .ok (.ifCond .eq 19, 3) := by decide +kernel
theorem dHeadReader_keepSides_72 : decode cHeadReader_keepSides 72 = .ok (.lload 6, 2) := by decide +kernel
theorem dHeadReader_keepSides_74 : decode cHeadReader_keepSides 74 = .ok (.invokestatic 65, 3) := by decide +kernel
theorem dHeadReader_keepSides_77 : decode cHeadReader_keepSides 77 = .ok (.ifCond .eq 11, 3) := by decide +kernel
theorem dHeadReader_keepSides_80 : decode cHeadReader_keepSides 80 = .ok (.lload 8, 2) := by decide +kernel
theorem dHeadReader_keepSides_82 : decode cHeadReader_keepSides 82 = .ok (.invokestatic 65, 3) := by decide +kernel
theorem dHeadReader_keepSides_85 : decode cHeadReader_keepSides 85 = .ok (.ifCond .ne 5, 3) := by decide +kernel
theorem dHeadReader_keepSides_88 : decode cHeadReader_keepSides 88 = .ok (.iconst 0, 1) := by decide +kernel
theorem dHeadReader_keepSides_89 : decode cHeadReader_keepSides 89 = .ok (.ireturn, 1) := by decide +kernel
theorem dHeadReader_keepSides_90 : decode cHeadReader_keepSides 90 = .ok (.aload_n 0, 1) := by decide +kernel
theorem dHeadReader_keepSides_91 : decode cHeadReader_keepSides 91 = .ok (.getfield 19, 3) := by decide +kernel
theorem dHeadReader_keepSides_94 : decode cHeadReader_keepSides 94 = .ok (.getfield 69, 3) := by decide +kernel
theorem dHeadReader_keepSides_97 : decode cHeadReader_keepSides 97 = .ok (.iconst 0, 1) := by decide +kernel
theorem dHeadReader_keepSides_98 : decode cHeadReader_keepSides 98 = .ok (.lload_n 2, 1) := by decide +kernel
theorem dHeadReader_keepSides_99 : decode cHeadReader_keepSides 99 = .ok (.l2i, 1) := by decide +kernel
theorem dHeadReader_keepSides_100 : decode cHeadReader_keepSides 100 = .ok (.iastore, 1) := by decide +kernel
theorem dHeadReader_keepSides_101 : decode cHeadReader_keepSides 101 = .ok (.aload_n 0, 1) := by decide +kernel
theorem dHeadReader_keepSides_102 : decode cHeadReader_keepSides 102 = .ok (.getfield 19, 3) := by decide +kernel
theorem dHeadReader_keepSides_105 : decode cHeadReader_keepSides 105 = .ok (.getfield 69, 3) := by decide +kernel
theorem dHeadReader_keepSides_108 : decode cHeadReader_keepSides 108 = .ok (.iconst 1, 1) := by decide +kernel
theorem dHeadReader_keepSides_109 : decode cHeadReader_keepSides 109 = .ok (.lload 4, 2) := by decide +kernel
theorem dHeadReader_keepSides_111 : decode cHeadReader_keepSides 111 = .ok (.l2i, 1) := by decide +kernel
theorem dHeadReader_keepSides_112 : decode cHeadReader_keepSides 112 = .ok (.iastore, 1) := by decide +kernel
theorem dHeadReader_keepSides_113 : decode cHeadReader_keepSides 113 = .ok (.aload_n 0, 1) := by decide +kernel
theorem dHeadReader_keepSides_114 : decode cHeadReader_keepSides 114 = .ok (.getfield 19, 3) := by decide +kernel
theorem dHeadReader_keepSides_117 : decode cHeadReader_keepSides 117 = .ok (.lload 6, 2) := by decide +kernel
theorem dHeadReader_keepSides_119 : decode cHeadReader_keepSides 119 = .ok (.l2i, 1) := by decide +kernel
theorem dHeadReader_keepSides_120 : decode cHeadReader_keepSides 120 = .ok (.putfield 73, 3) := by decide +kernel
theorem dHeadReader_keepSides_123 : decode cHeadReader_keepSides 123 = .ok (.aload_n 0, 1) := by decide +kernel
theorem dHeadReader_keepSides_124 : decode cHeadReader_keepSides 124 = .ok (.getfield 19, 3) := by decide +kernel
theorem dHeadReader_keepSides_127 : decode cHeadReader_keepSides 127 = .ok (.lload 8, 2) := by decide +kernel
theorem dHeadReader_keepSides_129 : decode cHeadReader_keepSides 129 = .ok (.l2i, 1) := by decide +kernel
theorem dHeadReader_keepSides_130 : decode cHeadReader_keepSides 130 = .ok (.putfield 76, 3) := by decide +kernel
theorem dHeadReader_keepSides_133 : decode cHeadReader_keepSides 133 = .ok (.aload_n 0, 1) := by decide +kernel
theorem dHeadReader_keepSides_134 : decode cHeadReader_keepSides 134 = .ok (.getfield 19, 3) := by decide +kernel
theorem dHeadReader_keepSides_137 : decode cHeadReader_keepSides 137 = .ok (.invokevirtual 79, 3) := by decide +kernel
theorem dHeadReader_keepSides_140 : decode cHeadReader_keepSides 140 = .ok (.bipush 24, 2) := by decide +kernel
theorem dHeadReader_keepSides_142 : decode cHeadReader_keepSides 142 = .ok (.if_icmp .gt 7, 3) := by decide +kernel
theorem dHeadReader_keepSides_145 : decode cHeadReader_keepSides 145 = .ok (.iconst 1, 1) := by decide +kernel
theorem dHeadReader_keepSides_146 : decode cHeadReader_keepSides 146 = .ok (.goto 4, 3) := by decide +kernel
theorem dHeadReader_keepSides_149 : decode cHeadReader_keepSides 149 = .ok (.iconst 0, 1) := by decide +kernel
theorem dHeadReader_keepSides_150 : decode cHeadReader_keepSides 150 = .ok (.ireturn, 1) := by decide +kernel
theorem dHeadReader_keepDepths_0 : decode cHeadReader_keepDepths 0 = .ok (.aload_n 0, 1) := by decide +kernel
theorem dHeadReader_keepDepths_1 : decode cHeadReader_keepDepths 1 = .ok (.getfield 19, 3) := by decide +kernel
theorem dHeadReader_keepDepths_4 : decode cHeadReader_keepDepths 4 = .ok (.getfield 69, 3) := by decide +kernel
theorem dHeadReader_keepDepths_7 : decode cHeadReader_keepDepths 7 = .ok (.iconst 2, 1) := by decide +kernel
theorem dHeadReader_keepDepths_8 : decode cHeadReader_keepDepths 8 = .ok (.iload_n 2, 1) := by decide +kernel
theorem dHeadReader_keepDepths_9 : decode cHeadReader_keepDepths 9 = .ok (.iastore, 1) := by decide +kernel
theorem dHeadReader_keepDepths_10 : decode cHeadReader_keepDepths 10 = .ok (.iconst 0, 1) := by decide +kernel
theorem dHeadReader_keepDepths_11 : decode cHeadReader_keepDepths 11 = .ok (.istore_n 3, 1) := by decide +kernel
theorem dHeadReader_keepDepths_12 : decode cHeadReader_keepDepths 12 = .ok (.iload_n 3, 1) := by decide +kernel
theorem dHeadReader_keepDepths_13 : decode cHeadReader_keepDepths 13 = .ok (.iload_n 2, 1) := by decide +kernel
theorem dHeadReader_keepDepths_14 : decode cHeadReader_keepDepths 14 = .ok (.if_icmp .ge 69, 3) := by decide +kernel
theorem dHeadReader_keepDepths_17 : decode cHeadReader_keepDepths 17 = .ok (.aload_n 0, 1) := by decide +kernel
theorem dHeadReader_keepDepths_18 : decode cHeadReader_keepDepths 18 = .ok (.getfield 15, 3) := by decide +kernel
theorem dHeadReader_keepDepths_21 : decode cHeadReader_keepDepths 21 = .ok (.iload_n 1, 1) := by decide +kernel
theorem dHeadReader_keepDepths_22 : decode cHeadReader_keepDepths 22 = .ok (.iconst 3, 1) := by decide +kernel
theorem dHeadReader_keepDepths_23 : decode cHeadReader_keepDepths 23 = .ok (.iload_n 3, 1) := by decide +kernel
theorem dHeadReader_keepDepths_24 : decode cHeadReader_keepDepths 24 = .ok (.imul, 1) := by decide +kernel
theorem dHeadReader_keepDepths_25 : decode cHeadReader_keepDepths 25 = .ok (.iadd, 1) := by decide +kernel
theorem dHeadReader_keepDepths_26 : decode cHeadReader_keepDepths 26 = .ok (.invokevirtual 44, 3) := by decide +kernel
theorem dHeadReader_keepDepths_29 : decode cHeadReader_keepDepths 29 = .ok (.iconst 1, 1) := by decide +kernel
theorem dHeadReader_keepDepths_30 : decode cHeadReader_keepDepths 30 = .ok (.iadd, 1) := by decide +kernel
theorem dHeadReader_keepDepths_31 : decode cHeadReader_keepDepths 31 = .ok (.istore 4, 2) := by decide +kernel
theorem dHeadReader_keepDepths_33 : decode cHeadReader_keepDepths 33 = .ok (.iconst 3, 1) := by decide +kernel
theorem dHeadReader_keepDepths_34 : decode cHeadReader_keepDepths 34 = .ok (.iload 4, 2) := by decide +kernel
theorem dHeadReader_keepDepths_36 : decode cHeadReader_keepDepths 36 = .ok (.i2l, 1) := by decide +kernel
theorem dHeadReader_keepDepths_37 : decode cHeadReader_keepDepths 37 = .ok (.invokestatic 54, 3) := by decide +kernel
theorem dHeadReader_keepDepths_40 : decode cHeadReader_keepDepths 40 = .ok (.ifCond .eq 25, 3) := by decide +kernel
theorem dHeadReader_keepDepths_43 : decode cHeadReader_keepDepths 43 = .ok (.aload_n 0, 1) := by decide +kernel
theorem dHeadReader_keepDepths_44 : decode cHeadReader_keepDepths 44 = .ok (.getfield 15, 3) := by decide +kernel
theorem dHeadReader_keepDepths_47 : decode cHeadReader_keepDepths 47 = .ok (.iload_n 1, 1) := by decide +kernel
theorem dHeadReader_keepDepths_48 : decode cHeadReader_keepDepths 48 = .ok (.iconst 3, 1) := by decide +kernel
theorem dHeadReader_keepDepths_49 : decode cHeadReader_keepDepths 49 = .ok (.iload_n 3, 1) := by decide +kernel
theorem dHeadReader_keepDepths_50 : decode cHeadReader_keepDepths 50 = .ok (.imul, 1) := by decide +kernel
theorem dHeadReader_keepDepths_51 : decode cHeadReader_keepDepths 51 = .ok (.iadd, 1) := by decide +kernel
theorem dHeadReader_keepDepths_52 : decode cHeadReader_keepDepths 52 = .ok (.iconst 1, 1) := by decide +kernel
theorem dHeadReader_keepDepths_53 : decode cHeadReader_keepDepths 53 = .ok (.iadd, 1) := by decide +kernel
theorem dHeadReader_keepDepths_54 : decode cHeadReader_keepDepths 54 = .ok (.iconst 2, 1) := by decide +kernel
theorem dHeadReader_keepDepths_55 : decode cHeadReader_keepDepths 55 = .ok (.invokevirtual 50, 3) := by decide +kernel
theorem dHeadReader_keepDepths_58 : decode cHeadReader_keepDepths 58 = .ok (.ldc2_w 83, 3) := by decide +kernel
theorem dHeadReader_keepDepths_61 : decode cHeadReader_keepDepths 61 = .ok (.lcmp, 1) := by decide +kernel
theorem dHeadReader_keepDepths_62 : decode cHeadReader_keepDepths 62 = .ok (.ifCond .eq 5, 3) := by decide +kernel
theorem dHeadReader_keepDepths_65 : decode cHeadReader_keepDepths 65 = .ok (.iconst 0, 1) := by decide +kernel
theorem dHeadReader_keepDepths_66 : decode cHeadReader_keepDepths 66 = .ok (.ireturn, 1) := by decide +kernel
theorem dHeadReader_keepDepths_67 : decode cHeadReader_keepDepths 67 = .ok (.aload_n 0, 1) := by decide +kernel
theorem dHeadReader_keepDepths_68 : decode cHeadReader_keepDepths 68 = .ok (.getfield 19, 3) := by decide +kernel
theorem dHeadReader_keepDepths_71 : decode cHeadReader_keepDepths 71 = .ok (.iload_n 3, 1) := by decide +kernel
theorem dHeadReader_keepDepths_72 : decode cHeadReader_keepDepths 72 = .ok (.iload 4, 2) := by decide +kernel
theorem dHeadReader_keepDepths_74 : decode cHeadReader_keepDepths 74 = .ok (.invokevirtual 85, 3) := by decide +kernel
theorem dHeadReader_keepDepths_77 : decode cHeadReader_keepDepths 77 = .ok (.iinc 3 1, 3) := by decide +kernel
theorem dHeadReader_keepDepths_80 : decode cHeadReader_keepDepths 80 = .ok (.goto (-68), 3) := by decide +kernel
theorem dHeadReader_keepDepths_83 : decode cHeadReader_keepDepths 83 = .ok (.iconst 1, 1) := by decide +kernel
theorem dHeadReader_keepDepths_84 : decode cHeadReader_keepDepths 84 = .ok (.ireturn, 1) := by decide +kernel
theorem dHeadReader_keepSizes_0 : decode cHeadReader_keepSizes 0 = .ok (.aload_n 0, 1) := by decide +kernel
theorem dHeadReader_keepSizes_1 : decode cHeadReader_keepSizes 1 = .ok (.getfield 15, 3) := by decide +kernel
theorem dHeadReader_keepSizes_4 : decode cHeadReader_keepSizes 4 = .ok (.iload_n 1, 1) := by decide +kernel
theorem dHeadReader_keepSizes_5 : decode cHeadReader_keepSizes 5 = .ok (.bipush 38, 2) := by decide +kernel
theorem dHeadReader_keepSizes_7 : decode cHeadReader_keepSizes 7 = .ok (.iadd, 1) := by decide +kernel
theorem dHeadReader_keepSizes_8 : decode cHeadReader_keepSizes 8 = .ok (.iconst 2, 1) := by decide +kernel
theorem dHeadReader_keepSizes_9 : decode cHeadReader_keepSizes 9 = .ok (.invokevirtual 50, 3) := by decide +kernel
theorem dHeadReader_keepSizes_12 : decode cHeadReader_keepSizes 12 = .ok (.lstore_n 3, 1) := by decide +kernel
theorem dHeadReader_keepSizes_13 : decode cHeadReader_keepSizes 13 = .ok (.iconst 2, 1) := by decide +kernel
theorem dHeadReader_keepSizes_14 : decode cHeadReader_keepSizes 14 = .ok (.lload_n 3, 1) := by decide +kernel
theorem dHeadReader_keepSizes_15 : decode cHeadReader_keepSizes 15 = .ok (.invokestatic 54, 3) := by decide +kernel
theorem dHeadReader_keepSizes_18 : decode cHeadReader_keepSizes 18 = .ok (.ifCond .eq 16, 3) := by decide +kernel
theorem dHeadReader_keepSizes_21 : decode cHeadReader_keepSizes 21 = .ok (.iload_n 2, 1) := by decide +kernel
theorem dHeadReader_keepSizes_22 : decode cHeadReader_keepSizes 22 = .ok (.iload_n 1, 1) := by decide +kernel
theorem dHeadReader_keepSizes_23 : decode cHeadReader_keepSizes 23 = .ok (.isub, 1) := by decide +kernel
theorem dHeadReader_keepSizes_24 : decode cHeadReader_keepSizes 24 = .ok (.bipush 40, 2) := by decide +kernel
theorem dHeadReader_keepSizes_26 : decode cHeadReader_keepSizes 26 = .ok (.iconst 3, 1) := by decide +kernel
theorem dHeadReader_keepSizes_27 : decode cHeadReader_keepSizes 27 = .ok (.lload_n 3, 1) := by decide +kernel
theorem dHeadReader_keepSizes_28 : decode cHeadReader_keepSizes 28 = .ok (.l2i, 1) := by decide +kernel
theorem dHeadReader_keepSizes_29 : decode cHeadReader_keepSizes 29 = .ok (.imul, 1) := by decide +kernel
theorem dHeadReader_keepSizes_30 : decode cHeadReader_keepSizes 30 = .ok (.iadd, 1) := by decide +kernel
theorem dHeadReader_keepSizes_31 : decode cHeadReader_keepSizes 31 = .ok (.if_icmp .eq 5, 3) := by decide +kernel
theorem dHeadReader_keepSizes_34 : decode cHeadReader_keepSizes 34 = .ok (.iconst 0, 1) := by decide +kernel
theorem dHeadReader_keepSizes_35 : decode cHeadReader_keepSizes 35 = .ok (.ireturn, 1) := by decide +kernel
theorem dHeadReader_keepSizes_36 : decode cHeadReader_keepSizes 36 = .ok (.aload_n 0, 1) := by decide +kernel
theorem dHeadReader_keepSizes_37 : decode cHeadReader_keepSizes 37 = .ok (.getfield 15, 3) := by decide +kernel
theorem dHeadReader_keepSizes_40 : decode cHeadReader_keepSizes 40 = .ok (.iload_n 1, 1) := by decide +kernel
theorem dHeadReader_keepSizes_41 : decode cHeadReader_keepSizes 41 = .ok (.iconst 4, 1) := by decide +kernel
theorem dHeadReader_keepSizes_42 : decode cHeadReader_keepSizes 42 = .ok (.iadd, 1) := by decide +kernel
theorem dHeadReader_keepSizes_43 : decode cHeadReader_keepSizes 43 = .ok (.iconst 2, 1) := by decide +kernel
theorem dHeadReader_keepSizes_44 : decode cHeadReader_keepSizes 44 = .ok (.invokevirtual 50, 3) := by decide +kernel
theorem dHeadReader_keepSizes_47 : decode cHeadReader_keepSizes 47 = .ok (.lconst 0, 1) := by decide +kernel
theorem dHeadReader_keepSizes_48 : decode cHeadReader_keepSizes 48 = .ok (.lcmp, 1) := by decide +kernel
theorem dHeadReader_keepSizes_49 : decode cHeadReader_keepSizes 49 = .ok (.ifCond .ne 75, 3) := by decide +kernel
theorem dHeadReader_keepSizes_52 : decode cHeadReader_keepSizes 52 = .ok (.aload_n 0, 1) := by decide +kernel
theorem dHeadReader_keepSizes_53 : decode cHeadReader_keepSizes 53 = .ok (.getfield 15, 3) := by decide +kernel
theorem dHeadReader_keepSizes_56 : decode cHeadReader_keepSizes 56 = .ok (.iload_n 1, 1) := by decide +kernel
theorem dHeadReader_keepSizes_57 : decode cHeadReader_keepSizes 57 = .ok (.bipush 14, 2) := by decide +kernel
theorem dHeadReader_keepSizes_59 : decode cHeadReader_keepSizes 59 = .ok (.iadd, 1) := by decide +kernel
theorem dHeadReader_keepSizes_60 : decode cHeadReader_keepSizes 60 = .ok (.iconst 4, 1) := by decide +kernel
theorem dHeadReader_keepSizes_61 : decode cHeadReader_keepSizes 61 = .ok (.invokevirtual 50, 3) := by decide +kernel
theorem dHeadReader_keepSizes_64 : decode cHeadReader_keepSizes 64 = .ok (.lconst 0, 1) := by decide +kernel
theorem dHeadReader_keepSizes_65 : decode cHeadReader_keepSizes 65 = .ok (.lcmp, 1) := by decide +kernel
theorem dHeadReader_keepSizes_66 : decode cHeadReader_keepSizes 66 = .ok (.ifCond .ne 58, 3) := by decide +kernel
theorem dHeadReader_keepSizes_69 : decode cHeadReader_keepSizes 69 = .ok (.aload_n 0, 1) := by decide +kernel
theorem dHeadReader_keepSizes_70 : decode cHeadReader_keepSizes 70 = .ok (.getfield 15, 3) := by decide +kernel
theorem dHeadReader_keepSizes_73 : decode cHeadReader_keepSizes 73 = .ok (.iload_n 1, 1) := by decide +kernel
theorem dHeadReader_keepSizes_74 : decode cHeadReader_keepSizes 74 = .ok (.bipush 18, 2) := by decide +kernel
theorem dHeadReader_keepSizes_76 : decode cHeadReader_keepSizes 76 = .ok (.iadd, 1) := by decide +kernel
theorem dHeadReader_keepSizes_77 : decode cHeadReader_keepSizes 77 = .ok (.iconst 4, 1) := by decide +kernel
theorem dHeadReader_keepSizes_78 : decode cHeadReader_keepSizes 78 = .ok (.invokevirtual 50, 3) := by decide +kernel
theorem dHeadReader_keepSizes_81 : decode cHeadReader_keepSizes 81 = .ok (.lconst 0, 1) := by decide +kernel
theorem dHeadReader_keepSizes_82 : decode cHeadReader_keepSizes 82 = .ok (.lcmp, 1) := by decide +kernel
theorem dHeadReader_keepSizes_83 : decode cHeadReader_keepSizes 83 = .ok (.ifCond .ne 41, 3) := by decide +kernel
theorem dHeadReader_keepSizes_86 : decode cHeadReader_keepSizes 86 = .ok (.aload_n 0, 1) := by decide +kernel
theorem dHeadReader_keepSizes_87 : decode cHeadReader_keepSizes 87 = .ok (.getfield 15, 3) := by decide +kernel
theorem dHeadReader_keepSizes_90 : decode cHeadReader_keepSizes 90 = .ok (.iload_n 1, 1) := by decide +kernel
theorem dHeadReader_keepSizes_91 : decode cHeadReader_keepSizes 91 = .ok (.bipush 30, 2) := by decide +kernel
theorem dHeadReader_keepSizes_93 : decode cHeadReader_keepSizes 93 = .ok (.iadd, 1) := by decide +kernel
theorem dHeadReader_keepSizes_94 : decode cHeadReader_keepSizes 94 = .ok (.iconst 4, 1) := by decide +kernel
theorem dHeadReader_keepSizes_95 : decode cHeadReader_keepSizes 95 = .ok (.invokevirtual 50, 3) := by decide +kernel
theorem dHeadReader_keepSizes_98 : decode cHeadReader_keepSizes 98 = .ok (.lconst 0, 1) := by decide +kernel
theorem dHeadReader_keepSizes_99 : decode cHeadReader_keepSizes 99 = .ok (.lcmp, 1) := by decide +kernel
theorem dHeadReader_keepSizes_100 : decode cHeadReader_keepSizes 100 = .ok (.ifCond .ne 24, 3) := by decide +kernel
theorem dHeadReader_keepSizes_103 : decode cHeadReader_keepSizes 103 = .ok (.aload_n 0, 1) := by decide +kernel
theorem dHeadReader_keepSizes_104 : decode cHeadReader_keepSizes 104 = .ok (.getfield 15, 3) := by decide +kernel
theorem dHeadReader_keepSizes_107 : decode cHeadReader_keepSizes 107 = .ok (.iload_n 1, 1) := by decide +kernel
theorem dHeadReader_keepSizes_108 : decode cHeadReader_keepSizes 108 = .ok (.bipush 34, 2) := by decide +kernel
theorem dHeadReader_keepSizes_110 : decode cHeadReader_keepSizes 110 = .ok (.iadd, 1) := by decide +kernel
theorem dHeadReader_keepSizes_111 : decode cHeadReader_keepSizes 111 = .ok (.iconst 4, 1) := by decide +kernel
theorem dHeadReader_keepSizes_112 : decode cHeadReader_keepSizes 112 = .ok (.invokevirtual 50, 3) := by decide +kernel
theorem dHeadReader_keepSizes_115 : decode cHeadReader_keepSizes 115 = .ok (.lconst 0, 1) := by decide +kernel
theorem dHeadReader_keepSizes_116 : decode cHeadReader_keepSizes 116 = .ok (.lcmp, 1) := by decide +kernel
theorem dHeadReader_keepSizes_117 : decode cHeadReader_keepSizes 117 = .ok (.ifCond .ne 7, 3) := by decide +kernel
theorem dHeadReader_keepSizes_120 : decode cHeadReader_keepSizes 120 = .ok (.iconst 1, 1) := by decide +kernel
theorem dHeadReader_keepSizes_121 : decode cHeadReader_keepSizes 121 = .ok (.goto 4, 3) := by decide +kernel
theorem dHeadReader_keepSizes_124 : decode cHeadReader_keepSizes 124 = .ok (.iconst 0, 1) := by decide +kernel
theorem dHeadReader_keepSizes_125 : decode cHeadReader_keepSizes 125 = .ok (.istore 5, 2) := by decide +kernel
theorem dHeadReader_keepSizes_127 : decode cHeadReader_keepSizes 127 = .ok (.iload 5, 2) := by decide +kernel
theorem dHeadReader_keepSizes_129 : decode cHeadReader_keepSizes 129 = .ok (.ifCond .eq 28, 3) := by decide +kernel
theorem dHeadReader_keepSizes_132 : decode cHeadReader_keepSizes 132 = .ok (.aload_n 0, 1) := by decide +kernel
theorem dHeadReader_keepSizes_133 : decode cHeadReader_keepSizes 133 = .ok (.iload_n 1, 1) := by decide +kernel
theorem dHeadReader_keepSizes_134 : decode cHeadReader_keepSizes 134 = .ok (.invokevirtual 58, 3) := by decide +kernel
theorem dHeadReader_keepSizes_137 : decode cHeadReader_keepSizes 137 = .ok (.ifCond .eq 20, 3) := by decide +kernel
theorem dHeadReader_keepSizes_140 : decode cHeadReader_keepSizes 140 = .ok (.aload_n 0, 1) := by decide +kernel
theorem dHeadReader_keepSizes_141 : decode cHeadReader_keepSizes 141 = .ok (.iload_n 1, 1) := by decide +kernel
theorem dHeadReader_keepSizes_142 : decode cHeadReader_keepSizes 142 = .ok (.bipush 40, 2) := by decide +kernel
theorem dHeadReader_keepSizes_144 : decode cHeadReader_keepSizes 144 = .ok (.iadd, 1) := by decide +kernel
theorem dHeadReader_keepSizes_145 : decode cHeadReader_keepSizes 145 = .ok (.lload_n 3, 1) := by decide +kernel
theorem dHeadReader_keepSizes_146 : decode cHeadReader_keepSizes 146 = .ok (.l2i, 1) := by decide +kernel
theorem dHeadReader_keepSizes_147 : decode cHeadReader_keepSizes 147 = .ok (.invokevirtual 62, 3) := by decide +kernel
theorem dHeadReader_keepSizes_150 : decode cHeadReader_keepSizes 150 = .ok (.ifCond .eq 7, 3) := by decide +kernel
theorem dHeadReader_keepSizes_153 : decode cHeadReader_keepSizes 153 = .ok (.iconst 1, 1) := by decide +kernel
theorem dHeadReader_keepSizes_154 : decode cHeadReader_keepSizes 154 = .ok (.goto 4, 3) := by decide +kernel
theorem dHeadReader_keepSizes_157 : decode cHeadReader_keepSizes 157 = .ok (.iconst 0, 1) := by decide +kernel
theorem dHeadReader_keepSizes_158 : decode cHeadReader_keepSizes 158 = .ok (.ireturn, 1) := by decide +kernel
theorem dHeadReader_keepStyleForAll_0 : decode cHeadReader_keepStyleForAll 0 = .ok (.aload_n 0, 1) := by decide +kernel
theorem dHeadReader_keepStyleForAll_1 : decode cHeadReader_keepStyleForAll 1 = .ok (.getfield 15, 3) := by decide +kernel
theorem dHeadReader_keepStyleForAll_4 : decode cHeadReader_keepStyleForAll 4 = .ok (.iload_n 1, 1) := by decide +kernel
theorem dHeadReader_keepStyleForAll_5 : decode cHeadReader_keepStyleForAll 5 = .ok (.iconst 5, 1) := by decide +kernel
theorem dHeadReader_keepStyleForAll_6 : decode cHeadReader_keepStyleForAll 6 = .ok (.iadd, 1) := by decide +kernel
theorem dHeadReader_keepStyleForAll_7 : decode cHeadReader_keepStyleForAll 7 = .ok (.invokevirtual 44, 3) := by decide +kernel
theorem dHeadReader_keepStyleForAll_10 : decode cHeadReader_keepStyleForAll 10 = .ok (.istore_n 3, 1) := by decide +kernel
theorem dHeadReader_keepStyleForAll_11 : decode cHeadReader_keepStyleForAll 11 = .ok (.aload_n 0, 1) := by decide +kernel
theorem dHeadReader_keepStyleForAll_12 : decode cHeadReader_keepStyleForAll 12 = .ok (.getfield 15, 3) := by decide +kernel
theorem dHeadReader_keepStyleForAll_15 : decode cHeadReader_keepStyleForAll 15 = .ok (.iload_n 1, 1) := by decide +kernel
theorem dHeadReader_keepStyleForAll_16 : decode cHeadReader_keepStyleForAll 16 = .ok (.bipush 6, 2) := by decide +kernel
theorem dHeadReader_keepStyleForAll_18 : decode cHeadReader_keepStyleForAll 18 = .ok (.iadd, 1) := by decide +kernel
theorem dHeadReader_keepStyleForAll_19 : decode cHeadReader_keepStyleForAll 19 = .ok (.iconst 2, 1) := by decide +kernel
theorem dHeadReader_keepStyleForAll_20 : decode cHeadReader_keepStyleForAll 20 = .ok (.invokevirtual 50, 3) := by decide +kernel
theorem dHeadReader_keepStyleForAll_23 : decode cHeadReader_keepStyleForAll 23 = .ok (.l2i, 1) := by decide +kernel
theorem dHeadReader_keepStyleForAll_24 : decode cHeadReader_keepStyleForAll 24 = .ok (.istore 4, 2) := by decide +kernel
theorem dHeadReader_keepStyleForAll_26 : decode cHeadReader_keepStyleForAll 26 = .ok (.aload_n 0, 1) := by decide +kernel
theorem dHeadReader_keepStyleForAll_27 : decode cHeadReader_keepStyleForAll 27 = .ok (.getfield 15, 3) := by decide +kernel
theorem dHeadReader_keepStyleForAll_30 : decode cHeadReader_keepStyleForAll 30 = .ok (.iload_n 1, 1) := by decide +kernel
theorem dHeadReader_keepStyleForAll_31 : decode cHeadReader_keepStyleForAll 31 = .ok (.iconst 4, 1) := by decide +kernel
theorem dHeadReader_keepStyleForAll_32 : decode cHeadReader_keepStyleForAll 32 = .ok (.iadd, 1) := by decide +kernel
theorem dHeadReader_keepStyleForAll_33 : decode cHeadReader_keepStyleForAll 33 = .ok (.invokevirtual 44, 3) := by decide +kernel
theorem dHeadReader_keepStyleForAll_36 : decode cHeadReader_keepStyleForAll 36 = .ok (.ifCond .ne 22, 3) := by decide +kernel
theorem dHeadReader_keepStyleForAll_39 : decode cHeadReader_keepStyleForAll 39 = .ok (.iconst 4, 1) := by decide +kernel
theorem dHeadReader_keepStyleForAll_40 : decode cHeadReader_keepStyleForAll 40 = .ok (.iload_n 3, 1) := by decide +kernel
theorem dHeadReader_keepStyleForAll_41 : decode cHeadReader_keepStyleForAll 41 = .ok (.i2l, 1) := by decide +kernel
theorem dHeadReader_keepStyleForAll_42 : decode cHeadReader_keepStyleForAll 42 = .ok (.invokestatic 54, 3) := by decide +kernel
theorem dHeadReader_keepStyleForAll_45 : decode cHeadReader_keepStyleForAll 45 = .ok (.ifCond .eq 13, 3) := by decide +kernel
theorem dHeadReader_keepStyleForAll_48 : decode cHeadReader_keepStyleForAll 48 = .ok (.iconst 5, 1) := by decide +kernel
theorem dHeadReader_keepStyleForAll_49 : decode cHeadReader_keepStyleForAll 49 = .ok (.iload 4, 2) := by decide +kernel
theorem dHeadReader_keepStyleForAll_51 : decode cHeadReader_keepStyleForAll 51 = .ok (.i2l, 1) := by decide +kernel
theorem dHeadReader_keepStyleForAll_52 : decode cHeadReader_keepStyleForAll 52 = .ok (.invokestatic 54, 3) := by decide +kernel
theorem dHeadReader_keepStyleForAll_55 : decode cHeadReader_keepStyleForAll 55 = .ok (.ifCond .ne 5, 3) := by decide +kernel
theorem dHeadReader_keepStyleForAll_58 : decode cHeadReader_keepStyleForAll 58 = .ok (.iconst 0, 1) := by decide +kernel
theorem dHeadReader_keepStyleForAll_59 : decode cHeadReader_keepStyleForAll 59 = .ok (.ireturn, 1) := by decide +kernel
theorem dHeadReader_keepStyleForAll_60 : decode cHeadReader_keepStyleForAll 60 = .ok (.aload_n 0, 1) := by decide +kernel
theorem dHeadReader_keepStyleForAll_61 : decode cHeadReader_keepStyleForAll 61 = .ok (.getfield 19, 3) := by decide +kernel
theorem dHeadReader_keepStyleForAll_64 : decode cHeadReader_keepStyleForAll 64 = .ok (.iload_n 2, 1) := by decide +kernel
theorem dHeadReader_keepStyleForAll_65 : decode cHeadReader_keepStyleForAll 65 = .ok (.iconst (-1), 1) := by decide +kernel
theorem dHeadReader_keepStyleForAll_66 : decode cHeadReader_keepStyleForAll 66 = .ok (.invokestatic 94, 3) := by decide +kernel
theorem dHeadReader_keepStyleForAll_69 : decode cHeadReader_keepStyleForAll 69 = .ok (.iconst 4, 1) := by decide +kernel
theorem dHeadReader_keepStyleForAll_70 : decode cHeadReader_keepStyleForAll 70 = .ok (.iload_n 3, 1) := by decide +kernel
theorem dHeadReader_keepStyleForAll_71 : decode cHeadReader_keepStyleForAll 71 = .ok (.invokevirtual 106, 3) := by decide +kernel
theorem dHeadReader_keepStyleForAll_74 : decode cHeadReader_keepStyleForAll 74 = .ok (.aload_n 0, 1) := by decide +kernel
theorem dHeadReader_keepStyleForAll_75 : decode cHeadReader_keepStyleForAll 75 = .ok (.getfield 19, 3) := by decide +kernel
theorem dHeadReader_keepStyleForAll_78 : decode cHeadReader_keepStyleForAll 78 = .ok (.iload_n 2, 1) := by decide +kernel
theorem dHeadReader_keepStyleForAll_79 : decode cHeadReader_keepStyleForAll 79 = .ok (.iconst (-1), 1) := by decide +kernel
theorem dHeadReader_keepStyleForAll_80 : decode cHeadReader_keepStyleForAll 80 = .ok (.invokestatic 94, 3) := by decide +kernel
theorem dHeadReader_keepStyleForAll_83 : decode cHeadReader_keepStyleForAll 83 = .ok (.iconst 5, 1) := by decide +kernel
theorem dHeadReader_keepStyleForAll_84 : decode cHeadReader_keepStyleForAll 84 = .ok (.iload 4, 2) := by decide +kernel
theorem dHeadReader_keepStyleForAll_86 : decode cHeadReader_keepStyleForAll 86 = .ok (.invokevirtual 106, 3) := by decide +kernel
theorem dHeadReader_keepStyleForAll_89 : decode cHeadReader_keepStyleForAll 89 = .ok (.iconst 1, 1) := by decide +kernel
theorem dHeadReader_keepStyleForAll_90 : decode cHeadReader_keepStyleForAll 90 = .ok (.ireturn, 1) := by decide +kernel
theorem dHeadReader_keepStyle_0 : decode cHeadReader_keepStyle 0 = .ok (.aload_n 0, 1) := by decide +kernel
theorem dHeadReader_keepStyle_1 : decode cHeadReader_keepStyle 1 = .ok (.getfield 15, 3) := by decide +kernel
theorem dHeadReader_keepStyle_4 : decode cHeadReader_keepStyle 4 = .ok (.iload_n 1, 1) := by decide +kernel
theorem dHeadReader_keepStyle_5 : decode cHeadReader_keepStyle 5 = .ok (.iconst 1, 1) := by decide +kernel
theorem dHeadReader_keepStyle_6 : decode cHeadReader_keepStyle 6 = .ok (.iadd, 1) := by decide +kernel
theorem dHeadReader_keepStyle_7 : decode cHeadReader_keepStyle 7 = .ok (.invokevirtual 44, 3) := by decide +kernel
theorem dHeadReader_keepStyle_10 : decode cHeadReader_keepStyle 10 = .ok (.istore_n 3, 1) := by decide +kernel
theorem dHeadReader_keepStyle_11 : decode cHeadReader_keepStyle 11 = .ok (.aload_n 0, 1) := by decide +kernel
theorem dHeadReader_keepStyle_12 : decode cHeadReader_keepStyle 12 = .ok (.getfield 15, 3) := by decide +kernel
theorem dHeadReader_keepStyle_15 : decode cHeadReader_keepStyle 15 = .ok (.iload_n 1, 1) := by decide +kernel
theorem dHeadReader_keepStyle_16 : decode cHeadReader_keepStyle 16 = .ok (.iconst 2, 1) := by decide +kernel
