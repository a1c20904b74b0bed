theorem dD_unknown_64 : decode cD_unknown 64 = .ok (.iload_n 1, 1) := by decide +kernel
theorem dD_unknown_65 : decode cD_unknown 65 = .ok (.iaload, 1) := by decide +kernel
theorem dD_unknown_66 : decode cD_unknown 66 = .ok (.iconst 4, 1) := by decide +kernel
theorem dD_unknown_67 : decode cD_unknown 67 = .ok (.iadd, 1) := by decide +kernel
theorem dD_unknown_68 : decode cD_unknown 68 = .ok (.invokevirtual 261, 3) := by decide +kernel
theorem dD_unknown_71 : decode cD_unknown 71 = .ok (.l2i, 1) := by decide +kernel
theorem dD_unknown_72 : decode cD_unknown 72 = .ok (.goto 34, 3) := by decide +kernel
theorem dD_unknown_75 : decode cD_unknown 75 = .ok (.iload_n 2, 1) := by decide +kernel
theorem dD_unknown_76 : decode cD_unknown 76 = .ok (.bipush (-2), 2) := by decide +kernel
theorem dD_unknown_78 : decode cD_unknown 78 = .ok (.if_icmp .ne 12, 3) := by decide +kernel
theorem dD_unknown_81 : decode cD_unknown 81 = .ok (.aload_n 0, 1) := by decide +kernel
theorem dD_unknown_82 : decode cD_unknown 82 = .ok (.getfield 66, 3) := by decide +kernel
theorem dD_unknown_85 : decode cD_unknown 85 = .ok (.iload_n 1, 1) := by decide +kernel
theorem dD_unknown_86 : decode cD_unknown 86 = .ok (.iaload, 1) := by decide +kernel
theorem dD_unknown_87 : decode cD_unknown 87 = .ok (.goto 19, 3) := by decide +kernel
theorem dD_unknown_90 : decode cD_unknown 90 = .ok (.aload_n 0, 1) := by decide +kernel
theorem dD_unknown_91 : decode cD_unknown 91 = .ok (.getfield 60, 3) := by decide +kernel
theorem dD_unknown_94 : decode cD_unknown 94 = .ok (.aload_n 0, 1) := by decide +kernel
theorem dD_unknown_95 : decode cD_unknown 95 = .ok (.getfield 63, 3) := by decide +kernel
theorem dD_unknown_98 : decode cD_unknown 98 = .ok (.iload_n 1, 1) := by decide +kernel
theorem dD_unknown_99 : decode cD_unknown 99 = .ok (.iaload, 1) := by decide +kernel
theorem dD_unknown_100 : decode cD_unknown 100 = .ok (.bipush 8, 2) := by decide +kernel
theorem dD_unknown_102 : decode cD_unknown 102 = .ok (.iadd, 1) := by decide +kernel
theorem dD_unknown_103 : decode cD_unknown 103 = .ok (.iload_n 2, 1) := by decide +kernel
theorem dD_unknown_104 : decode cD_unknown 104 = .ok (.iadd, 1) := by decide +kernel
theorem dD_unknown_105 : decode cD_unknown 105 = .ok (.iaload, 1) := by decide +kernel
theorem dD_unknown_106 : decode cD_unknown 106 = .ok (.ireturn, 1) := by decide +kernel
theorem dD_told_0 : decode cD_told 0 = .ok (.aload_n 0, 1) := by decide +kernel
theorem dD_told_1 : decode cD_told 1 = .ok (.iconst 0, 1) := by decide +kernel
theorem dD_told_2 : decode cD_told 2 = .ok (.putfield 110, 3) := by decide +kernel
theorem dD_told_5 : decode cD_told 5 = .ok (.iconst 0, 1) := by decide +kernel
theorem dD_told_6 : decode cD_told 6 = .ok (.istore_n 2, 1) := by decide +kernel
theorem dD_told_7 : decode cD_told 7 = .ok (.iconst 0, 1) := by decide +kernel
theorem dD_told_8 : decode cD_told 8 = .ok (.istore_n 3, 1) := by decide +kernel
theorem dD_told_9 : decode cD_told 9 = .ok (.iconst 0, 1) := by decide +kernel
theorem dD_told_10 : decode cD_told 10 = .ok (.istore 4, 2) := by decide +kernel
theorem dD_told_12 : decode cD_told 12 = .ok (.iload 4, 2) := by decide +kernel
theorem dD_told_14 : decode cD_told 14 = .ok (.aload_n 0, 1) := by decide +kernel
theorem dD_told_15 : decode cD_told 15 = .ok (.getfield 349, 3) := by decide +kernel
theorem dD_told_18 : decode cD_told 18 = .ok (.if_icmp .ge 44, 3) := by decide +kernel
theorem dD_told_21 : decode cD_told 21 = .ok (.aload_n 0, 1) := by decide +kernel
theorem dD_told_22 : decode cD_told 22 = .ok (.getfield 380, 3) := by decide +kernel
theorem dD_told_25 : decode cD_told 25 = .ok (.ifCond .eq 37, 3) := by decide +kernel
theorem dD_told_28 : decode cD_told 28 = .ok (.iload_n 2, 1) := by decide +kernel
theorem dD_told_29 : decode cD_told 29 = .ok (.aload_n 0, 1) := by decide +kernel
theorem dD_told_30 : decode cD_told 30 = .ok (.getfield 84, 3) := by decide +kernel
theorem dD_told_33 : decode cD_told 33 = .ok (.iload 4, 2) := by decide +kernel
theorem dD_told_35 : decode cD_told 35 = .ok (.baload, 1) := by decide +kernel
theorem dD_told_36 : decode cD_told 36 = .ok (.ifCond .eq 7, 3) := by decide +kernel
theorem dD_told_39 : decode cD_told 39 = .ok (.iconst 1, 1) := by decide +kernel
theorem dD_told_40 : decode cD_told 40 = .ok (.goto 4, 3) := by decide +kernel
theorem dD_told_43 : decode cD_told 43 = .ok (.iconst 0, 1) := by decide +kernel
theorem dD_told_44 : decode cD_told 44 = .ok (.iadd, 1) := by decide +kernel
theorem dD_told_45 : decode cD_told 45 = .ok (.istore_n 2, 1) := by decide +kernel
theorem dD_told_46 : decode cD_told 46 = .ok (.iload_n 3, 1) := by decide +kernel
theorem dD_told_47 : decode cD_told 47 = .ok (.aload_n 0, 1) := by decide +kernel
theorem dD_told_48 : decode cD_told 48 = .ok (.getfield 81, 3) := by decide +kernel
theorem dD_told_51 : decode cD_told 51 = .ok (.iload 4, 2) := by decide +kernel
theorem dD_told_53 : decode cD_told 53 = .ok (.iaload, 1) := by decide +kernel
theorem dD_told_54 : decode cD_told 54 = .ok (.iadd, 1) := by decide +kernel
theorem dD_told_55 : decode cD_told 55 = .ok (.istore_n 3, 1) := by decide +kernel
theorem dD_told_56 : decode cD_told 56 = .ok (.iinc 4 1, 3) := by decide +kernel
theorem dD_told_59 : decode cD_told 59 = .ok (.goto (-47), 3) := by decide +kernel
theorem dD_told_62 : decode cD_told 62 = .ok (.iload_n 1, 1) := by decide +kernel
theorem dD_told_63 : decode cD_told 63 = .ok (.tableswitch 100 0 8 #[49, 55, 60, 65, 70, 75, 91, 96, 98], 49) := by decide +kernel
theorem dD_told_112 : decode cD_told 112 = .ok (.aload_n 0, 1) := by decide +kernel
theorem dD_told_113 : decode cD_told 113 = .ok (.iconst 0, 1) := by decide +kernel
theorem dD_told_114 : decode cD_told 114 = .ok (.invokevirtual 141, 3) := by decide +kernel
theorem dD_told_117 : decode cD_told 117 = .ok (.ireturn, 1) := by decide +kernel
theorem dD_told_118 : decode cD_told 118 = .ok (.aload_n 0, 1) := by decide +kernel
theorem dD_told_119 : decode cD_told 119 = .ok (.getfield 145, 3) := by decide +kernel
theorem dD_told_122 : decode cD_told 122 = .ok (.ireturn, 1) := by decide +kernel
theorem dD_told_123 : decode cD_told 123 = .ok (.aload_n 0, 1) := by decide +kernel
theorem dD_told_124 : decode cD_told 124 = .ok (.getfield 209, 3) := by decide +kernel
theorem dD_told_127 : decode cD_told 127 = .ok (.ireturn, 1) := by decide +kernel
theorem dD_told_128 : decode cD_told 128 = .ok (.aload_n 0, 1) := by decide +kernel
theorem dD_told_129 : decode cD_told 129 = .ok (.getfield 212, 3) := by decide +kernel
theorem dD_told_132 : decode cD_told 132 = .ok (.ireturn, 1) := by decide +kernel
theorem dD_told_133 : decode cD_told 133 = .ok (.aload_n 0, 1) := by decide +kernel
theorem dD_told_134 : decode cD_told 134 = .ok (.getfield 255, 3) := by decide +kernel
theorem dD_told_137 : decode cD_told 137 = .ok (.ireturn, 1) := by decide +kernel
theorem dD_told_138 : decode cD_told 138 = .ok (.aload_n 0, 1) := by decide +kernel
theorem dD_told_139 : decode cD_told 139 = .ok (.getfield 380, 3) := by decide +kernel
theorem dD_told_142 : decode cD_told 142 = .ok (.ifCond .eq 10, 3) := by decide +kernel
theorem dD_told_145 : decode cD_told 145 = .ok (.aload_n 0, 1) := by decide +kernel
theorem dD_told_146 : decode cD_told 146 = .ok (.getfield 349, 3) := by decide +kernel
theorem dD_told_149 : decode cD_told 149 = .ok (.goto 4, 3) := by decide +kernel
theorem dD_told_152 : decode cD_told 152 = .ok (.iconst 0, 1) := by decide +kernel
theorem dD_told_153 : decode cD_told 153 = .ok (.ireturn, 1) := by decide +kernel
theorem dD_told_154 : decode cD_told 154 = .ok (.aload_n 0, 1) := by decide +kernel
theorem dD_told_155 : decode cD_told 155 = .ok (.getfield 269, 3) := by decide +kernel
theorem dD_told_158 : decode cD_told 158 = .ok (.ireturn, 1) := by decide +kernel
theorem dD_told_159 : decode cD_told 159 = .ok (.iload_n 2, 1) := by decide +kernel
theorem dD_told_160 : decode cD_told 160 = .ok (.ireturn, 1) := by decide +kernel
theorem dD_told_161 : decode cD_told 161 = .ok (.iload_n 3, 1) := by decide +kernel
theorem dD_told_162 : decode cD_told 162 = .ok (.ireturn, 1) := by decide +kernel
theorem dD_told_163 : decode cD_told 163 = .ok (.iconst (-1), 1) := by decide +kernel
theorem dD_told_164 : decode cD_told 164 = .ok (.ireturn, 1) := by decide +kernel
theorem dL_cell_0 : decode cL_cell 0 = .ok (.iload_n 1, 1) := by decide +kernel
theorem dL_cell_1 : decode cL_cell 1 = .ok (.aload_n 0, 1) := by decide +kernel
theorem dL_cell_2 : decode cL_cell 2 = .ok (.arraylength, 1) := by decide +kernel
theorem dL_cell_3 : decode cL_cell 3 = .ok (.if_icmp .ge 9, 3) := by decide +kernel
theorem dL_cell_6 : decode cL_cell 6 = .ok (.aload_n 0, 1) := by decide +kernel
theorem dL_cell_7 : decode cL_cell 7 = .ok (.iload_n 1, 1) := by decide +kernel
theorem dL_cell_8 : decode cL_cell 8 = .ok (.iaload, 1) := by decide +kernel
theorem dL_cell_9 : decode cL_cell 9 = .ok (.goto 4, 3) := by decide +kernel
theorem dL_cell_12 : decode cL_cell 12 = .ok (.iconst 0, 1) := by decide +kernel
theorem dL_cell_13 : decode cL_cell 13 = .ok (.ireturn, 1) := by decide +kernel
theorem dL_set_0 : decode cL_set 0 = .ok (.aload 5, 2) := by decide +kernel
theorem dL_set_2 : decode cL_set 2 = .ok (.iconst 0, 1) := by decide +kernel
theorem dL_set_3 : decode cL_set 3 = .ok (.aload_n 0, 1) := by decide +kernel
theorem dL_set_4 : decode cL_set 4 = .ok (.iload_n 1, 1) := by decide +kernel
theorem dL_set_5 : decode cL_set 5 = .ok (.iload_n 2, 1) := by decide +kernel
theorem dL_set_6 : decode cL_set 6 = .ok (.iload_n 3, 1) := by decide +kernel
theorem dL_set_7 : decode cL_set 7 = .ok (.iload 4, 2) := by decide +kernel
theorem dL_set_9 : decode cL_set 9 = .ok (.invokevirtual 7, 3) := by decide +kernel
theorem dL_set_12 : decode cL_set 12 = .ok (.i2l, 1) := by decide +kernel
theorem dL_set_13 : decode cL_set 13 = .ok (.lastore, 1) := by decide +kernel
theorem dL_set_14 : decode cL_set 14 = .ok (.goto 15, 3) := by decide +kernel
theorem dL_set_17 : decode cL_set 17 = .ok (.astore 6, 2) := by decide +kernel
theorem dL_set_19 : decode cL_set 19 = .ok (.iconst 1, 1) := by decide +kernel
theorem dL_set_20 : decode cL_set 20 = .ok (.ireturn, 1) := by decide +kernel
theorem dL_set_21 : decode cL_set 21 = .ok (.astore 6, 2) := by decide +kernel
theorem dL_set_23 : decode cL_set 23 = .ok (.iconst 2, 1) := by decide +kernel
theorem dL_set_24 : decode cL_set 24 = .ok (.ireturn, 1) := by decide +kernel
theorem dL_set_25 : decode cL_set 25 = .ok (.astore 6, 2) := by decide +kernel
theorem dL_set_27 : decode cL_set 27 = .ok (.iconst 3, 1) := by decide +kernel
theorem dL_set_28 : decode cL_set 28 = .ok (.ireturn, 1) := by decide +kernel
theorem dL_set_29 : decode cL_set 29 = .ok (.iconst 0, 1) := by decide +kernel
theorem dL_set_30 : decode cL_set 30 = .ok (.ireturn, 1) := by decide +kernel
theorem dL_tilePart_0 : decode cL_tilePart 0 = .ok (.aload_n 2, 1) := by decide +kernel
theorem dL_tilePart_1 : decode cL_tilePart 1 = .ok (.iconst 0, 1) := by decide +kernel
theorem dL_tilePart_2 : decode cL_tilePart 2 = .ok (.aload_n 0, 1) := by decide +kernel
theorem dL_tilePart_3 : decode cL_tilePart 3 = .ok (.iload_n 1, 1) := by decide +kernel
theorem dL_tilePart_4 : decode cL_tilePart 4 = .ok (.invokevirtual 19, 3) := by decide +kernel
theorem dL_tilePart_7 : decode cL_tilePart 7 = .ok (.i2l, 1) := by decide +kernel
theorem dL_tilePart_8 : decode cL_tilePart 8 = .ok (.lastore, 1) := by decide +kernel
theorem dL_tilePart_9 : decode cL_tilePart 9 = .ok (.goto 9, 3) := by decide +kernel
theorem dL_tilePart_12 : decode cL_tilePart 12 = .ok (.astore_n 3, 1) := by decide +kernel
theorem dL_tilePart_13 : decode cL_tilePart 13 = .ok (.iconst 1, 1) := by decide +kernel
theorem dL_tilePart_14 : decode cL_tilePart 14 = .ok (.ireturn, 1) := by decide +kernel
theorem dL_tilePart_15 : decode cL_tilePart 15 = .ok (.astore_n 3, 1) := by decide +kernel
theorem dL_tilePart_16 : decode cL_tilePart 16 = .ok (.iconst 2, 1) := by decide +kernel
theorem dL_tilePart_17 : decode cL_tilePart 17 = .ok (.ireturn, 1) := by decide +kernel
theorem dL_tilePart_18 : decode cL_tilePart 18 = .ok (.iconst 0, 1) := by decide +kernel
theorem dL_tilePart_19 : decode cL_tilePart 19 = .ok (.ireturn, 1) := by decide +kernel
theorem dL_packet_0 : decode cL_packet 0 = .ok (.aload_n 2, 1) := by decide +kernel
theorem dL_packet_1 : decode cL_packet 1 = .ok (.iconst 0, 1) := by decide +kernel
theorem dL_packet_2 : decode cL_packet 2 = .ok (.aload_n 0, 1) := by decide +kernel
theorem dL_packet_3 : decode cL_packet 3 = .ok (.iload_n 1, 1) := by decide +kernel
theorem dL_packet_4 : decode cL_packet 4 = .ok (.invokevirtual 25, 3) := by decide +kernel
theorem dL_packet_7 : decode cL_packet 7 = .ok (.i2l, 1) := by decide +kernel
theorem dL_packet_8 : decode cL_packet 8 = .ok (.lastore, 1) := by decide +kernel
theorem dL_packet_9 : decode cL_packet 9 = .ok (.goto 9, 3) := by decide +kernel
theorem dL_packet_12 : decode cL_packet 12 = .ok (.astore_n 3, 1) := by decide +kernel
theorem dL_packet_13 : decode cL_packet 13 = .ok (.iconst 1, 1) := by decide +kernel
theorem dL_packet_14 : decode cL_packet 14 = .ok (.ireturn, 1) := by decide +kernel
theorem dL_packet_15 : decode cL_packet 15 = .ok (.astore_n 3, 1) := by decide +kernel
theorem dL_packet_16 : decode cL_packet 16 = .ok (.iconst 2, 1) := by decide +kernel
theorem dL_packet_17 : decode cL_packet 17 = .ok (.ireturn, 1) := by decide +kernel
theorem dL_packet_18 : decode cL_packet 18 = .ok (.iconst 0, 1) := by decide +kernel
theorem dL_packet_19 : decode cL_packet 19 = .ok (.ireturn, 1) := by decide +kernel
theorem dL_byteOf_0 : decode cL_byteOf 0 = .ok (.aload_n 3, 1) := by decide +kernel
theorem dL_byteOf_1 : decode cL_byteOf 1 = .ok (.iconst 0, 1) := by decide +kernel
theorem dL_byteOf_2 : decode cL_byteOf 2 = .ok (.aload_n 0, 1) := by decide +kernel
theorem dL_byteOf_3 : decode cL_byteOf 3 = .ok (.iload_n 1, 1) := by decide +kernel
theorem dL_byteOf_4 : decode cL_byteOf 4 = .ok (.iload_n 2, 1) := by decide +kernel
theorem dL_byteOf_5 : decode cL_byteOf 5 = .ok (.invokevirtual 28, 3) := by decide +kernel
theorem dL_byteOf_8 : decode cL_byteOf 8 = .ok (.i2l, 1) := by decide +kernel
theorem dL_byteOf_9 : decode cL_byteOf 9 = .ok (.lastore, 1) := by decide +kernel
theorem dL_byteOf_10 : decode cL_byteOf 10 = .ok (.goto 19, 3) := by decide +kernel
theorem dL_byteOf_13 : decode cL_byteOf 13 = .ok (.astore 4, 2) := by decide +kernel
theorem dL_byteOf_15 : decode cL_byteOf 15 = .ok (.iconst 1, 1) := by decide +kernel
theorem dL_byteOf_16 : decode cL_byteOf 16 = .ok (.ireturn, 1) := by decide +kernel
theorem dL_byteOf_17 : decode cL_byteOf 17 = .ok (.astore 4, 2) := by decide +kernel
theorem dL_byteOf_19 : decode cL_byteOf 19 = .ok (.iconst 2, 1) := by decide +kernel
theorem dL_byteOf_20 : decode cL_byteOf 20 = .ok (.ireturn, 1) := by decide +kernel
theorem dL_byteOf_21 : decode cL_byteOf 21 = .ok (.astore 4, 2) := by decide +kernel
theorem dL_byteOf_23 : decode cL_byteOf 23 = .ok (.iconst 3, 1) := by decide +kernel
theorem dL_byteOf_24 : decode cL_byteOf 24 = .ok (.ireturn, 1) := by decide +kernel
theorem dL_byteOf_25 : decode cL_byteOf 25 = .ok (.astore 4, 2) := by decide +kernel
theorem dL_byteOf_27 : decode cL_byteOf 27 = .ok (.iconst 4, 1) := by decide +kernel
theorem dL_byteOf_28 : decode cL_byteOf 28 = .ok (.ireturn, 1) := by decide +kernel
theorem dL_byteOf_29 : decode cL_byteOf 29 = .ok (.iconst 0, 1) := by decide +kernel
theorem dL_byteOf_30 : decode cL_byteOf 30 = .ok (.ireturn, 1) := by decide +kernel
theorem dL_box_0 : decode cL_box 0 = .ok (.aload_n 3, 1) := by decide +kernel
theorem dL_box_1 : decode cL_box 1 = .ok (.iconst 0, 1) := by decide +kernel
theorem dL_box_2 : decode cL_box 2 = .ok (.aload_n 0, 1) := by decide +kernel
theorem dL_box_3 : decode cL_box 3 = .ok (.iload_n 1, 1) := by decide +kernel
theorem dL_box_4 : decode cL_box 4 = .ok (.iload_n 2, 1) := by decide +kernel
theorem dL_box_5 : decode cL_box 5 = .ok (.invokevirtual 32, 3) := by decide +kernel
theorem dL_box_8 : decode cL_box 8 = .ok (.i2l, 1) := by decide +kernel
theorem dL_box_9 : decode cL_box 9 = .ok (.lastore, 1) := by decide +kernel
theorem dL_box_10 : decode cL_box 10 = .ok (.goto 11, 3) := by decide +kernel
theorem dL_box_13 : decode cL_box 13 = .ok (.astore 4, 2) := by decide +kernel
theorem dL_box_15 : decode cL_box 15 = .ok (.iconst 1, 1) := by decide +kernel
theorem dL_box_16 : decode cL_box 16 = .ok (.ireturn, 1) := by decide +kernel
theorem dL_box_17 : decode cL_box 17 = .ok (.astore 4, 2) := by decide +kernel
theorem dL_box_19 : decode cL_box 19 = .ok (.iconst 2, 1) := by decide +kernel
theorem dL_box_20 : decode cL_box 20 = .ok (.ireturn, 1) := by decide +kernel
theorem dL_box_21 : decode cL_box 21 = .ok (.iconst 0, 1) := by decide +kernel
theorem dL_box_22 : decode cL_box 22 = .ok (.ireturn, 1) := by decide +kernel
theorem dL_boxByte_0 : decode cL_boxByte 0 = .ok (.aload_n 3, 1) := by decide +kernel
theorem dL_boxByte_1 : decode cL_boxByte 1 = .ok (.iconst 0, 1) := by decide +kernel
theorem dL_boxByte_2 : decode cL_boxByte 2 = .ok (.aload_n 0, 1) := by decide +kernel
theorem dL_boxByte_3 : decode cL_boxByte 3 = .ok (.iload_n 1, 1) := by decide +kernel
theorem dL_boxByte_4 : decode cL_boxByte 4 = .ok (.iload_n 2, 1) := by decide +kernel
theorem dL_boxByte_5 : decode cL_boxByte 5 = .ok (.invokevirtual 36, 3) := by decide +kernel
theorem dL_boxByte_8 : decode cL_boxByte 8 = .ok (.i2l, 1) := by decide +kernel
theorem dL_boxByte_9 : decode cL_boxByte 9 = .ok (.lastore, 1) := by decide +kernel
theorem dL_boxByte_10 : decode cL_boxByte 10 = .ok (.goto 15, 3) := by decide +kernel
theorem dL_boxByte_13 : decode cL_boxByte 13 = .ok (.astore 4, 2) := by decide +kernel
theorem dL_boxByte_15 : decode cL_boxByte 15 = .ok (.iconst 1, 1) := by decide +kernel
theorem dL_boxByte_16 : decode cL_boxByte 16 = .ok (.ireturn, 1) := by decide +kernel
theorem dL_boxByte_17 : decode cL_boxByte 17 = .ok (.astore 4, 2) := by decide +kernel
theorem dL_boxByte_19 : decode cL_boxByte 19 = .ok (.iconst 2, 1) := by decide +kernel
theorem dL_boxByte_20 : decode cL_boxByte 20 = .ok (.ireturn, 1) := by decide +kernel
theorem dL_boxByte_21 : decode cL_boxByte 21 = .ok (.astore 4, 2) := by decide +kernel
theorem dL_boxByte_23 : decode cL_boxByte 23 = .ok (.iconst 3, 1) := by decide +kernel
theorem dL_boxByte_24 : decode cL_boxByte 24 = .ok (.ireturn, 1) := by decide +kernel
theorem dL_boxByte_25 : decode cL_boxByte 25 = .ok (.iconst 0, 1) := by decide +kernel
theorem dL_boxByte_26 : decode cL_boxByte 26 = .ok (.ireturn, 1) := by decide +kernel
theorem dL_byteAt_0 : decode cL_byteAt 0 = .ok (.aload_n 2, 1) := by decide +kernel
theorem dL_byteAt_1 : decode cL_byteAt 1 = .ok (.iconst 0, 1) := by decide +kernel
theorem dL_byteAt_2 : decode cL_byteAt 2 = .ok (.aload_n 0, 1) := by decide +kernel
theorem dL_byteAt_3 : decode cL_byteAt 3 = .ok (.iload_n 1, 1) := by decide +kernel
theorem dL_byteAt_4 : decode cL_byteAt 4 = .ok (.invokevirtual 39, 3) := by decide +kernel
theorem dL_byteAt_7 : decode cL_byteAt 7 = .ok (.i2l, 1) := by decide +kernel
theorem dL_byteAt_8 : decode cL_byteAt 8 = .ok (.lastore, 1) := by decide +kernel
theorem dL_byteAt_9 : decode cL_byteAt 9 = .ok (.goto 6, 3) := by decide +kernel
theorem dL_byteAt_12 : decode cL_byteAt 12 = .ok (.astore_n 3, 1) := by decide +kernel
theorem dL_byteAt_13 : decode cL_byteAt 13 = .ok (.iconst 1, 1) := by decide +kernel
theorem dL_byteAt_14 : decode cL_byteAt 14 = .ok (.ireturn, 1) := by decide +kernel
theorem dL_byteAt_15 : decode cL_byteAt 15 = .ok (.iconst 0, 1) := by decide +kernel
theorem dL_byteAt_16 : decode cL_byteAt 16 = .ok (.ireturn, 1) := by decide +kernel
theorem dL_feed_0 : decode cL_feed 0 = .ok (.aload_n 2, 1) := by decide +kernel
theorem dL_feed_1 : decode cL_feed 1 = .ok (.iconst 0, 1) := by decide +kernel
theorem dL_feed_2 : decode cL_feed 2 = .ok (.aload_n 0, 1) := by decide +kernel
theorem dL_feed_3 : decode cL_feed 3 = .ok (.iload_n 1, 1) := by decide +kernel
theorem dL_feed_4 : decode cL_feed 4 = .ok (.invokevirtual 42, 3) := by decide +kernel
theorem dL_feed_7 : decode cL_feed 7 = .ok (.i2l, 1) := by decide +kernel
theorem dL_feed_8 : decode cL_feed 8 = .ok (.lastore, 1) := by decide +kernel
theorem dL_feed_9 : decode cL_feed 9 = .ok (.goto 9, 3) := by decide +kernel
theorem dL_feed_12 : decode cL_feed 12 = .ok (.astore_n 3, 1) := by decide +kernel
theorem dL_feed_13 : decode cL_feed 13 = .ok (.iconst 1, 1) := by decide +kernel
theorem dL_feed_14 : decode cL_feed 14 = .ok (.ireturn, 1) := by decide +kernel
theorem dL_feed_15 : decode cL_feed 15 = .ok (.astore_n 3, 1) := by decide +kernel
theorem dL_feed_16 : decode cL_feed 16 = .ok (.iconst 2, 1) := by decide +kernel
theorem dL_feed_17 : decode cL_feed 17 = .ok (.ireturn, 1) := by decide +kernel
theorem dL_feed_18 : decode cL_feed 18 = .ok (.iconst 0, 1) := by decide +kernel
theorem dL_feed_19 : decode cL_feed 19 = .ok (.ireturn, 1) := by decide +kernel
theorem dL_pass_0 : decode cL_pass 0 = .ok (.aload_n 3, 1) := by decide +kernel
theorem dL_pass_1 : decode cL_pass 1 = .ok (.iconst 0, 1) := by decide +kernel
theorem dL_pass_2 : decode cL_pass 2 = .ok (.aload_n 0, 1) := by decide +kernel
theorem dL_pass_3 : decode cL_pass 3 = .ok (.iload_n 1, 1) := by decide +kernel
theorem dL_pass_4 : decode cL_pass 4 = .ok (.iload_n 2, 1) := by decide +kernel
theorem dL_pass_5 : decode cL_pass 5 = .ok (.invokevirtual 45, 3) := by decide +kernel
theorem dL_pass_8 : decode cL_pass 8 = .ok (.i2l, 1) := by decide +kernel
theorem dL_pass_9 : decode cL_pass 9 = .ok (.lastore, 1) := by decide +kernel
theorem dL_pass_10 : decode cL_pass 10 = .ok (.goto 15, 3) := by decide +kernel
theorem dL_pass_13 : decode cL_pass 13 = .ok (.astore 4, 2) := by decide +kernel
theorem dL_pass_15 : decode cL_pass 15 = .ok (.iconst 1, 1) := by decide +kernel
theorem dL_pass_16 : decode cL_pass 16 = .ok (.ireturn, 1) := by decide +kernel
theorem dL_pass_17 : decode cL_pass 17 = .ok (.astore 4, 2) := by decide +kernel
theorem dL_pass_19 : decode cL_pass 19 = .ok (.iconst 2, 1) := by decide +kernel
theorem dL_pass_20 : decode cL_pass 20 = .ok (.ireturn, 1) := by decide +kernel
theorem dL_pass_21 : decode cL_pass 21 = .ok (.astore 4, 2) := by decide +kernel
theorem dL_pass_23 : decode cL_pass 23 = .ok (.iconst 3, 1) := by decide +kernel
theorem dL_pass_24 : decode cL_pass 24 = .ok (.ireturn, 1) := by decide +kernel
theorem dL_pass_25 : decode cL_pass 25 = .ok (.iconst 0, 1) := by decide +kernel
theorem dL_pass_26 : decode cL_pass 26 = .ok (.ireturn, 1) := by decide +kernel
theorem dL_alter_0 : decode cL_alter 0 = .ok (.aload_n 3, 1) := by decide +kernel
theorem dL_alter_1 : decode cL_alter 1 = .ok (.iconst 0, 1) := by decide +kernel
theorem dL_alter_2 : decode cL_alter 2 = .ok (.aload_n 0, 1) := by decide +kernel
theorem dL_alter_3 : decode cL_alter 3 = .ok (.iload_n 1, 1) := by decide +kernel
theorem dL_alter_4 : decode cL_alter 4 = .ok (.iload_n 2, 1) := by decide +kernel
theorem dL_alter_5 : decode cL_alter 5 = .ok (.invokevirtual 48, 3) := by decide +kernel
theorem dL_alter_8 : decode cL_alter 8 = .ok (.i2l, 1) := by decide +kernel
theorem dL_alter_9 : decode cL_alter 9 = .ok (.lastore, 1) := by decide +kernel
theorem dL_alter_10 : decode cL_alter 10 = .ok (.goto 11, 3) := by decide +kernel
theorem dL_alter_13 : decode cL_alter 13 = .ok (.astore 4, 2) := by decide +kernel
theorem dL_alter_15 : decode cL_alter 15 = .ok (.iconst 1, 1) := by decide +kernel
theorem dL_alter_16 : decode cL_alter 16 = .ok (.ireturn, 1) := by decide +kernel
theorem dL_alter_17 : decode cL_alter 17 = .ok (.astore 4, 2) := by decide +kernel
theorem dL_alter_19 : decode cL_alter 19 = .ok (.iconst 2, 1) := by decide +kernel
theorem dL_alter_20 : decode cL_alter 20 = .ok (.ireturn, 1) := by decide +kernel
theorem dL_alter_21 : decode cL_alter 21 = .ok (.iconst 0, 1) := by decide +kernel
theorem dL_alter_22 : decode cL_alter 22 = .ok (.ireturn, 1) := by decide +kernel
theorem dL_cut_0 : decode cL_cut 0 = .ok (.aload_n 2, 1) := by decide +kernel
theorem dL_cut_1 : decode cL_cut 1 = .ok (.iconst 0, 1) := by decide +kernel
theorem dL_cut_2 : decode cL_cut 2 = .ok (.aload_n 0, 1) := by decide +kernel
theorem dL_cut_3 : decode cL_cut 3 = .ok (.iload_n 1, 1) := by decide +kernel
theorem dL_cut_4 : decode cL_cut 4 = .ok (.invokevirtual 51, 3) := by decide +kernel
theorem dL_cut_7 : decode cL_cut 7 = .ok (.i2l, 1) := by decide +kernel
theorem dL_cut_8 : decode cL_cut 8 = .ok (.lastore, 1) := by decide +kernel
theorem dL_cut_9 : decode cL_cut 9 = .ok (.goto 6, 3) := by decide +kernel
theorem dL_cut_12 : decode cL_cut 12 = .ok (.astore_n 3, 1) := by decide +kernel
theorem dL_cut_13 : decode cL_cut 13 = .ok (.iconst 1, 1) := by decide +kernel
theorem dL_cut_14 : decode cL_cut 14 = .ok (.ireturn, 1) := by decide +kernel
theorem dL_cut_15 : decode cL_cut 15 = .ok (.iconst 0, 1) := by decide +kernel
theorem dL_cut_16 : decode cL_cut 16 = .ok (.ireturn, 1) := by decide +kernel
theorem dL_at_0 : decode cL_at 0 = .ok (.aload 4, 2) := by decide +kernel
theorem dL_at_2 : decode cL_at 2 = .ok (.iconst 0, 1) := by decide +kernel
theorem dL_at_3 : decode cL_at 3 = .ok (.aload_n 0, 1) := by decide +kernel
theorem dL_at_4 : decode cL_at 4 = .ok (.iload_n 1, 1) := by decide +kernel
theorem dL_at_5 : decode cL_at 5 = .ok (.iload_n 2, 1) := by decide +kernel
theorem dL_at_6 : decode cL_at 6 = .ok (.iload_n 3, 1) := by decide +kernel
theorem dL_at_7 : decode cL_at 7 = .ok (.invokevirtual 54, 3) := by decide +kernel
theorem dL_at_10 : decode cL_at 10 = .ok (.i2l, 1) := by decide +kernel
theorem dL_at_11 : decode cL_at 11 = .ok (.lastore, 1) := by decide +kernel
theorem dL_at_12 : decode cL_at 12 = .ok (.goto 11, 3) := by decide +kernel
theorem dL_at_15 : decode cL_at 15 = .ok (.astore 5, 2) := by decide +kernel
theorem dL_at_17 : decode cL_at 17 = .ok (.iconst 1, 1) := by decide +kernel
theorem dL_at_18 : decode cL_at 18 = .ok (.ireturn, 1) := by decide +kernel
theorem dL_at_19 : decode cL_at 19 = .ok (.astore 5, 2) := by decide +kernel
theorem dL_at_21 : decode cL_at 21 = .ok (.iconst 2, 1) := by decide +kernel
theorem dL_at_22 : decode cL_at 22 = .ok (.ireturn, 1) := by decide +kernel
theorem dL_at_23 : decode cL_at 23 = .ok (.iconst 0, 1) := by decide +kernel
theorem dL_at_24 : decode cL_at 24 = .ok (.ireturn, 1) := by decide +kernel
theorem dL_part_0 : decode cL_part 0 = .ok (.aload_n 3, 1) := by decide +kernel
theorem dL_part_1 : decode cL_part 1 = .ok (.iconst 0, 1) := by decide +kernel
theorem dL_part_2 : decode cL_part 2 = .ok (.aload_n 0, 1) := by decide +kernel
theorem dL_part_3 : decode cL_part 3 = .ok (.iload_n 1, 1) := by decide +kernel
theorem dL_part_4 : decode cL_part 4 = .ok (.iload_n 2, 1) := by decide +kernel
theorem dL_part_5 : decode cL_part 5 = .ok (.invokevirtual 58, 3) := by decide +kernel
theorem dL_part_8 : decode cL_part 8 = .ok (.i2l, 1) := by decide +kernel
theorem dL_part_9 : decode cL_part 9 = .ok (.lastore, 1) := by decide +kernel
theorem dL_part_10 : decode cL_part 10 = .ok (.goto 11, 3) := by decide +kernel
theorem dL_part_13 : decode cL_part 13 = .ok (.astore 4, 2) := by decide +kernel
theorem dL_part_15 : decode cL_part 15 = .ok (.iconst 1, 1) := by decide +kernel
theorem dL_part_16 : decode cL_part 16 = .ok (.ireturn, 1) := by decide +kernel
theorem dL_part_17 : decode cL_part 17 = .ok (.astore 4, 2) := by decide +kernel
theorem dL_part_19 : decode cL_part 19 = .ok (.iconst 2, 1) := by decide +kernel
theorem dL_part_20 : decode cL_part 20 = .ok (.ireturn, 1) := by decide +kernel
theorem dL_part_21 : decode cL_part 21 = .ok (.iconst 0, 1) := by decide +kernel
theorem dL_part_22 : decode cL_part 22 = .ok (.ireturn, 1) := by decide +kernel
theorem dL_partByte_0 : decode cL_partByte 0 = .ok (.aload_n 3, 1) := by decide +kernel
theorem dL_partByte_1 : decode cL_partByte 1 = .ok (.iconst 0, 1) := by decide +kernel
theorem dL_partByte_2 : decode cL_partByte 2 = .ok (.aload_n 0, 1) := by decide +kernel
theorem dL_partByte_3 : decode cL_partByte 3 = .ok (.iload_n 1, 1) := by decide +kernel
theorem dL_partByte_4 : decode cL_partByte 4 = .ok (.iload_n 2, 1) := by decide +kernel
theorem dL_partByte_5 : decode cL_partByte 5 = .ok (.invokevirtual 61, 3) := by decide +kernel
theorem dL_partByte_8 : decode cL_partByte 8 = .ok (.i2l, 1) := by decide +kernel
theorem dL_partByte_9 : decode cL_partByte 9 = .ok (.lastore, 1) := by decide +kernel
theorem dL_partByte_10 : decode cL_partByte 10 = .ok (.goto 11, 3) := by decide +kernel
theorem dL_partByte_13 : decode cL_partByte 13 = .ok (.astore 4, 2) := by decide +kernel
theorem dL_partByte_15 : decode cL_partByte 15 = .ok (.iconst 1, 1) := by decide +kernel
theorem dL_partByte_16 : decode cL_partByte 16 = .ok (.ireturn, 1) := by decide +kernel
theorem dL_partByte_17 : decode cL_partByte 17 = .ok (.astore 4, 2) := by decide +kernel
theorem dL_partByte_19 : decode cL_partByte 19 = .ok (.iconst 2, 1) := by decide +kernel
theorem dL_partByte_20 : decode cL_partByte 20 = .ok (.ireturn, 1) := by decide +kernel
theorem dL_partByte_21 : decode cL_partByte 21 = .ok (.iconst 0, 1) := by decide +kernel
theorem dL_partByte_22 : decode cL_partByte 22 = .ok (.ireturn, 1) := by decide +kernel
theorem dL_unknown_0 : decode cL_unknown 0 = .ok (.aload_n 3, 1) := by decide +kernel
theorem dL_unknown_1 : decode cL_unknown 1 = .ok (.iconst 0, 1) := by decide +kernel
theorem dL_unknown_2 : decode cL_unknown 2 = .ok (.aload_n 0, 1) := by decide +kernel
theorem dL_unknown_3 : decode cL_unknown 3 = .ok (.iload_n 1, 1) := by decide +kernel
theorem dL_unknown_4 : decode cL_unknown 4 = .ok (.iload_n 2, 1) := by decide +kernel
theorem dL_unknown_5 : decode cL_unknown 5 = .ok (.invokevirtual 64, 3) := by decide +kernel
theorem dL_unknown_8 : decode cL_unknown 8 = .ok (.i2l, 1) := by decide +kernel
theorem dL_unknown_9 : decode cL_unknown 9 = .ok (.lastore, 1) := by decide +kernel
theorem dL_unknown_10 : decode cL_unknown 10 = .ok (.goto 7, 3) := by decide +kernel
theorem dL_unknown_13 : decode cL_unknown 13 = .ok (.astore 4, 2) := by decide +kernel
theorem dL_unknown_15 : decode cL_unknown 15 = .ok (.iconst 1, 1) := by decide +kernel
theorem dL_unknown_16 : decode cL_unknown 16 = .ok (.ireturn, 1) := by decide +kernel
theorem dL_unknown_17 : decode cL_unknown 17 = .ok (.iconst 0, 1) := by decide +kernel
theorem dL_unknown_18 : decode cL_unknown 18 = .ok (.ireturn, 1) := by decide +kernel
theorem dL_law_0 : decode cL_law 0 = .ok (.new 8, 3) := by decide +kernel
theorem dL_law_3 : decode cL_law 3 = .ok (.dup, 1) := by decide +kernel
theorem dL_law_4 : decode cL_law 4 = .ok (.aload_n 0, 1) := by decide +kernel
theorem dL_law_5 : decode cL_law 5 = .ok (.iconst 0, 1) := by decide +kernel
theorem dL_law_6 : decode cL_law 6 = .ok (.invokestatic 67, 3) := by decide +kernel
theorem dL_law_9 : decode cL_law 9 = .ok (.aload_n 0, 1) := by decide +kernel
theorem dL_law_10 : decode cL_law 10 = .ok (.iconst 1, 1) := by decide +kernel
theorem dL_law_11 : decode cL_law 11 = .ok (.invokestatic 67, 3) := by decide +kernel
theorem dL_law_14 : decode cL_law 14 = .ok (.invokespecial 73, 3) := by decide +kernel
theorem dL_law_17 : decode cL_law 17 = .ok (.astore_n 1, 1) := by decide +kernel
theorem dL_law_18 : decode cL_law 18 = .ok (.new 76, 3) := by decide +kernel
theorem dL_law_21 : decode cL_law 21 = .ok (.dup, 1) := by decide +kernel
theorem dL_law_22 : decode cL_law 22 = .ok (.aload_n 0, 1) := by decide +kernel
theorem dL_law_23 : decode cL_law 23 = .ok (.iconst 0, 1) := by decide +kernel
theorem dL_law_24 : decode cL_law 24 = .ok (.invokestatic 67, 3) := by decide +kernel
theorem dL_law_27 : decode cL_law 27 = .ok (.aload_n 0, 1) := by decide +kernel
theorem dL_law_28 : decode cL_law 28 = .ok (.iconst 1, 1) := by decide +kernel
theorem dL_law_29 : decode cL_law 29 = .ok (.invokestatic 67, 3) := by decide +kernel
theorem dL_law_32 : decode cL_law 32 = .ok (.invokespecial 78, 3) := by decide +kernel
theorem dL_law_35 : decode cL_law 35 = .ok (.astore_n 2, 1) := by decide +kernel
theorem dL_law_36 : decode cL_law 36 = .ok (.iconst 1, 1) := by decide +kernel
theorem dL_law_37 : decode cL_law 37 = .ok (.newarray .long, 2) := by decide +kernel
theorem dL_law_39 : decode cL_law 39 = .ok (.astore_n 3, 1) := by decide +kernel
theorem dL_law_40 : decode cL_law 40 = .ok (.iconst 2, 1) := by decide +kernel
theorem dL_law_41 : decode cL_law 41 = .ok (.istore 4, 2) := by decide +kernel
theorem dL_law_43 : decode cL_law 43 = .ok (.iload 4, 2) := by decide +kernel
theorem dL_law_45 : decode cL_law 45 = .ok (.aload_n 0, 1) := by decide +kernel
theorem dL_law_46 : decode cL_law 46 = .ok (.arraylength, 1) := by decide +kernel
theorem dL_law_47 : decode cL_law 47 = .ok (.iconst 5, 1) := by decide +kernel
theorem dL_law_48 : decode cL_law 48 = .ok (.isub, 1) := by decide +kernel
theorem dL_law_49 : decode cL_law 49 = .ok (.if_icmp .gt 787, 3) := by decide +kernel
theorem dL_law_52 : decode cL_law 52 = .ok (.aload_n 0, 1) := by decide +kernel
theorem dL_law_53 : decode cL_law 53 = .ok (.iload 4, 2) := by decide +kernel
theorem dL_law_55 : decode cL_law 55 = .ok (.iaload, 1) := by decide +kernel
theorem dL_law_56 : decode cL_law 56 = .ok (.bipush 31, 2) := by decide +kernel
theorem dL_law_58 : decode cL_law 58 = .ok (.iand, 1) := by decide +kernel
theorem dL_law_59 : decode cL_law 59 = .ok (.tableswitch 771 0 18 #[89, 153, 181, 209, 249, 305, 345, 358, 386, 414, 454, 494, 522, 535, 615, 655, 695, 735, 760], 89) := by decide +kernel
theorem dL_law_148 : decode cL_law 148 = .ok (.aload_n 1, 1) := by decide +kernel
theorem dL_law_149 : decode cL_law 149 = .ok (.aload_n 0, 1) := by decide +kernel
theorem dL_law_150 : decode cL_law 150 = .ok (.iload 4, 2) := by decide +kernel
theorem dL_law_152 : decode cL_law 152 = .ok (.iconst 1, 1) := by decide +kernel
theorem dL_law_153 : decode cL_law 153 = .ok (.iadd, 1) := by decide +kernel
theorem dL_law_154 : decode cL_law 154 = .ok (.iaload, 1) := by decide +kernel
theorem dL_law_155 : decode cL_law 155 = .ok (.aload_n 0, 1) := by decide +kernel
theorem dL_law_156 : decode cL_law 156 = .ok (.iload 4, 2) := by decide +kernel
theorem dL_law_158 : decode cL_law 158 = .ok (.iconst 2, 1) := by decide +kernel
theorem dL_law_159 : decode cL_law 159 = .ok (.iadd, 1) := by decide +kernel
theorem dL_law_160 : decode cL_law 160 = .ok (.iaload, 1) := by decide +kernel
theorem dL_law_161 : decode cL_law 161 = .ok (.aload_n 0, 1) := by decide +kernel
theorem dL_law_162 : decode cL_law 162 = .ok (.iload 4, 2) := by decide +kernel
theorem dL_law_164 : decode cL_law 164 = .ok (.iconst 3, 1) := by decide +kernel
theorem dL_law_165 : decode cL_law 165 = .ok (.iadd, 1) := by decide +kernel
theorem dL_law_166 : decode cL_law 166 = .ok (.iaload, 1) := by decide +kernel
theorem dL_law_167 : decode cL_law 167 = .ok (.aload_n 0, 1) := by decide +kernel
theorem dL_law_168 : decode cL_law 168 = .ok (.iload 4, 2) := by decide +kernel
theorem dL_law_170 : decode cL_law 170 = .ok (.iconst 4, 1) := by decide +kernel
theorem dL_law_171 : decode cL_law 171 = .ok (.iadd, 1) := by decide +kernel
theorem dL_law_172 : decode cL_law 172 = .ok (.iaload, 1) := by decide +kernel
theorem dL_law_173 : decode cL_law 173 = .ok (.aload_n 3, 1) := by decide +kernel
theorem dL_law_174 : decode cL_law 174 = .ok (.invokestatic 79, 3) := by decide +kernel
theorem dL_law_177 : decode cL_law 177 = .ok (.istore 5, 2) := by decide +kernel
theorem dL_law_179 : decode cL_law 179 = .ok (.aload_n 2, 1) := by decide +kernel
theorem dL_law_180 : decode cL_law 180 = .ok (.aload_n 0, 1) := by decide +kernel
theorem dL_law_181 : decode cL_law 181 = .ok (.iload 4, 2) := by decide +kernel
theorem dL_law_183 : decode cL_law 183 = .ok (.iconst 1, 1) := by decide +kernel
theorem dL_law_184 : decode cL_law 184 = .ok (.iadd, 1) := by decide +kernel
theorem dL_law_185 : decode cL_law 185 = .ok (.iaload, 1) := by decide +kernel
theorem dL_law_186 : decode cL_law 186 = .ok (.aload_n 0, 1) := by decide +kernel
theorem dL_law_187 : decode cL_law 187 = .ok (.iload 4, 2) := by decide +kernel
theorem dL_law_189 : decode cL_law 189 = .ok (.iconst 2, 1) := by decide +kernel
theorem dL_law_190 : decode cL_law 190 = .ok (.iadd, 1) := by decide +kernel
theorem dL_law_191 : decode cL_law 191 = .ok (.iaload, 1) := by decide +kernel
theorem dL_law_192 : decode cL_law 192 = .ok (.aload_n 0, 1) := by decide +kernel
theorem dL_law_193 : decode cL_law 193 = .ok (.iload 4, 2) := by decide +kernel
theorem dL_law_195 : decode cL_law 195 = .ok (.iconst 3, 1) := by decide +kernel
theorem dL_law_196 : decode cL_law 196 = .ok (.iadd, 1) := by decide +kernel
theorem dL_law_197 : decode cL_law 197 = .ok (.iaload, 1) := by decide +kernel
theorem dL_law_198 : decode cL_law 198 = .ok (.aload_n 0, 1) := by decide +kernel
theorem dL_law_199 : decode cL_law 199 = .ok (.iload 4, 2) := by decide +kernel
theorem dL_law_201 : decode cL_law 201 = .ok (.iconst 4, 1) := by decide +kernel
theorem dL_law_202 : decode cL_law 202 = .ok (.iadd, 1) := by decide +kernel
theorem dL_law_203 : decode cL_law 203 = .ok (.iaload, 1) := by decide +kernel
theorem dL_law_204 : decode cL_law 204 = .ok (.invokevirtual 82, 3) := by decide +kernel
theorem dL_law_207 : decode cL_law 207 = .ok (.istore 6, 2) := by decide +kernel
theorem dL_law_209 : decode cL_law 209 = .ok (.goto 621, 3) := by decide +kernel
theorem dL_law_212 : decode cL_law 212 = .ok (.aload_n 1, 1) := by decide +kernel
theorem dL_law_213 : decode cL_law 213 = .ok (.aload_n 0, 1) := by decide +kernel
theorem dL_law_214 : decode cL_law 214 = .ok (.iload 4, 2) := by decide +kernel
theorem dL_law_216 : decode cL_law 216 = .ok (.iconst 1, 1) := by decide +kernel
theorem dL_law_217 : decode cL_law 217 = .ok (.iadd, 1) := by decide +kernel
theorem dL_law_218 : decode cL_law 218 = .ok (.iaload, 1) := by decide +kernel
theorem dL_law_219 : decode cL_law 219 = .ok (.aload_n 3, 1) := by decide +kernel
theorem dL_law_220 : decode cL_law 220 = .ok (.invokestatic 83, 3) := by decide +kernel
theorem dL_law_223 : decode cL_law 223 = .ok (.istore 5, 2) := by decide +kernel
theorem dL_law_225 : decode cL_law 225 = .ok (.aload_n 2, 1) := by decide +kernel
theorem dL_law_226 : decode cL_law 226 = .ok (.aload_n 0, 1) := by decide +kernel
theorem dL_law_227 : decode cL_law 227 = .ok (.iload 4, 2) := by decide +kernel
theorem dL_law_229 : decode cL_law 229 = .ok (.iconst 1, 1) := by decide +kernel
theorem dL_law_230 : decode cL_law 230 = .ok (.iadd, 1) := by decide +kernel
theorem dL_law_231 : decode cL_law 231 = .ok (.iaload, 1) := by decide +kernel
theorem dL_law_232 : decode cL_law 232 = .ok (.invokevirtual 86, 3) := by decide +kernel
theorem dL_law_235 : decode cL_law 235 = .ok (.istore 6, 2) := by decide +kernel
theorem dL_law_237 : decode cL_law 237 = .ok (.goto 593, 3) := by decide +kernel
theorem dL_law_240 : decode cL_law 240 = .ok (.aload_n 1, 1) := by decide +kernel
theorem dL_law_241 : decode cL_law 241 = .ok (.aload_n 0, 1) := by decide +kernel
theorem dL_law_242 : decode cL_law 242 = .ok (.iload 4, 2) := by decide +kernel
theorem dL_law_244 : decode cL_law 244 = .ok (.iconst 1, 1) := by decide +kernel
theorem dL_law_245 : decode cL_law 245 = .ok (.iadd, 1) := by decide +kernel
theorem dL_law_246 : decode cL_law 246 = .ok (.iaload, 1) := by decide +kernel
theorem dL_law_247 : decode cL_law 247 = .ok (.aload_n 3, 1) := by decide +kernel
theorem dL_law_248 : decode cL_law 248 = .ok (.invokestatic 87, 3) := by decide +kernel
theorem dL_law_251 : decode cL_law 251 = .ok (.istore 5, 2) := by decide +kernel
theorem dL_law_253 : decode cL_law 253 = .ok (.aload_n 2, 1) := by decide +kernel
theorem dL_law_254 : decode cL_law 254 = .ok (.aload_n 0, 1) := by decide +kernel
theorem dL_law_255 : decode cL_law 255 = .ok (.iload 4, 2) := by decide +kernel
theorem dL_law_257 : decode cL_law 257 = .ok (.iconst 1, 1) := by decide +kernel
theorem dL_law_258 : decode cL_law 258 = .ok (.iadd, 1) := by decide +kernel
theorem dL_law_259 : decode cL_law 259 = .ok (.iaload, 1) := by decide +kernel
theorem dL_law_260 : decode cL_law 260 = .ok (.invokevirtual 89, 3) := by decide +kernel
theorem dL_law_263 : decode cL_law 263 = .ok (.istore 6, 2) := by decide +kernel
theorem dL_law_265 : decode cL_law 265 = .ok (.goto 565, 3) := by decide +kernel
theorem dL_law_268 : decode cL_law 268 = .ok (.aload_n 1, 1) := by decide +kernel
theorem dL_law_269 : decode cL_law 269 = .ok (.aload_n 0, 1) := by decide +kernel
theorem dL_law_270 : decode cL_law 270 = .ok (.iload 4, 2) := by decide +kernel
theorem dL_law_272 : decode cL_law 272 = .ok (.iconst 1, 1) := by decide +kernel
theorem dL_law_273 : decode cL_law 273 = .ok (.iadd, 1) := by decide +kernel
theorem dL_law_274 : decode cL_law 274 = .ok (.iaload, 1) := by decide +kernel
theorem dL_law_275 : decode cL_law 275 = .ok (.aload_n 0, 1) := by decide +kernel
theorem dL_law_276 : decode cL_law 276 = .ok (.iload 4, 2) := by decide +kernel
theorem dL_law_278 : decode cL_law 278 = .ok (.iconst 2, 1) := by decide +kernel
theorem dL_law_279 : decode cL_law 279 = .ok (.iadd, 1) := by decide +kernel
theorem dL_law_280 : decode cL_law 280 = .ok (.iaload, 1) := by decide +kernel
theorem dL_law_281 : decode cL_law 281 = .ok (.aload_n 3, 1) := by decide +kernel
theorem dL_law_282 : decode cL_law 282 = .ok (.invokestatic 90, 3) := by decide +kernel
theorem dL_law_285 : decode cL_law 285 = .ok (.istore 5, 2) := by decide +kernel
theorem dL_law_287 : decode cL_law 287 = .ok (.aload_n 2, 1) := by decide +kernel
theorem dL_law_288 : decode cL_law 288 = .ok (.aload_n 0, 1) := by decide +kernel
theorem dL_law_289 : decode cL_law 289 = .ok (.iload 4, 2) := by decide +kernel
theorem dL_law_291 : decode cL_law 291 = .ok (.iconst 1, 1) := by decide +kernel
theorem dL_law_292 : decode cL_law 292 = .ok (.iadd, 1) := by decide +kernel
theorem dL_law_293 : decode cL_law 293 = .ok (.iaload, 1) := by decide +kernel
theorem dL_law_294 : decode cL_law 294 = .ok (.aload_n 0, 1) := by decide +kernel
theorem dL_law_295 : decode cL_law 295 = .ok (.iload 4, 2) := by decide +kernel
theorem dL_law_297 : decode cL_law 297 = .ok (.iconst 2, 1) := by decide +kernel
theorem dL_law_298 : decode cL_law 298 = .ok (.iadd, 1) := by decide +kernel
theorem dL_law_299 : decode cL_law 299 = .ok (.iaload, 1) := by decide +kernel
theorem dL_law_300 : decode cL_law 300 = .ok (.invokevirtual 93, 3) := by decide +kernel
theorem dL_law_303 : decode cL_law 303 = .ok (.istore 6, 2) := by decide +kernel
theorem dL_law_305 : decode cL_law 305 = .ok (.goto 525, 3) := by decide +kernel
theorem dL_law_308 : decode cL_law 308 = .ok (.aload_n 1, 1) := by decide +kernel
theorem dL_law_309 : decode cL_law 309 = .ok (.aload_n 0, 1) := by decide +kernel
theorem dL_law_310 : decode cL_law 310 = .ok (.iload 4, 2) := by decide +kernel
theorem dL_law_312 : decode cL_law 312 = .ok (.iconst 1, 1) := by decide +kernel
theorem dL_law_313 : decode cL_law 313 = .ok (.iadd, 1) := by decide +kernel
theorem dL_law_314 : decode cL_law 314 = .ok (.iaload, 1) := by decide +kernel
theorem dL_law_315 : decode cL_law 315 = .ok (.ifCond .eq 7, 3) := by decide +kernel
theorem dL_law_318 : decode cL_law 318 = .ok (.iconst 1, 1) := by decide +kernel
theorem dL_law_319 : decode cL_law 319 = .ok (.goto 4, 3) := by decide +kernel
theorem dL_law_322 : decode cL_law 322 = .ok (.iconst 0, 1) := by decide +kernel
theorem dL_law_323 : decode cL_law 323 = .ok (.aload_n 0, 1) := by decide +kernel
theorem dL_law_324 : decode cL_law 324 = .ok (.iload 4, 2) := by decide +kernel
theorem dL_law_326 : decode cL_law 326 = .ok (.iconst 2, 1) := by decide +kernel
theorem dL_law_327 : decode cL_law 327 = .ok (.iadd, 1) := by decide +kernel
theorem dL_law_328 : decode cL_law 328 = .ok (.iaload, 1) := by decide +kernel
theorem dL_law_329 : decode cL_law 329 = .ok (.aload_n 3, 1) := by decide +kernel
theorem dL_law_330 : decode cL_law 330 = .ok (.invokestatic 94, 3) := by decide +kernel
theorem dL_law_333 : decode cL_law 333 = .ok (.istore 5, 2) := by decide +kernel
theorem dL_law_335 : decode cL_law 335 = .ok (.aload_n 2, 1) := by decide +kernel
theorem dL_law_336 : decode cL_law 336 = .ok (.aload_n 0, 1) := by decide +kernel
theorem dL_law_337 : decode cL_law 337 = .ok (.iload 4, 2) := by decide +kernel
theorem dL_law_339 : decode cL_law 339 = .ok (.iconst 1, 1) := by decide +kernel
theorem dL_law_340 : decode cL_law 340 = .ok (.iadd, 1) := by decide +kernel
theorem dL_law_341 : decode cL_law 341 = .ok (.iaload, 1) := by decide +kernel
theorem dL_law_342 : decode cL_law 342 = .ok (.ifCond .eq 7, 3) := by decide +kernel
theorem dL_law_345 : decode cL_law 345 = .ok (.iconst 1, 1) := by decide +kernel
theorem dL_law_346 : decode cL_law 346 = .ok (.goto 4, 3) := by decide +kernel
theorem dL_law_349 : decode cL_law 349 = .ok (.iconst 0, 1) := by decide +kernel
theorem dL_law_350 : decode cL_law 350 = .ok (.aload_n 0, 1) := by decide +kernel
theorem dL_law_351 : decode cL_law 351 = .ok (.iload 4, 2) := by decide +kernel
theorem dL_law_353 : decode cL_law 353 = .ok (.iconst 2, 1) := by decide +kernel
theorem dL_law_354 : decode cL_law 354 = .ok (.iadd, 1) := by decide +kernel
theorem dL_law_355 : decode cL_law 355 = .ok (.iaload, 1) := by decide +kernel
theorem dL_law_356 : decode cL_law 356 = .ok (.invokevirtual 97, 3) := by decide +kernel
theorem dL_law_359 : decode cL_law 359 = .ok (.istore 6, 2) := by decide +kernel
theorem dL_law_361 : decode cL_law 361 = .ok (.goto 469, 3) := by decide +kernel
theorem dL_law_364 : decode cL_law 364 = .ok (.aload_n 1, 1) := by decide +kernel
theorem dL_law_365 : decode cL_law 365 = .ok (.aload_n 0, 1) := by decide +kernel
theorem dL_law_366 : decode cL_law 366 = .ok (.iload 4, 2) := by decide +kernel
theorem dL_law_368 : decode cL_law 368 = .ok (.iconst 1, 1) := by decide +kernel
theorem dL_law_369 : decode cL_law 369 = .ok (.iadd, 1) := by decide +kernel
theorem dL_law_370 : decode cL_law 370 = .ok (.iaload, 1) := by decide +kernel
theorem dL_law_371 : decode cL_law 371 = .ok (.aload_n 0, 1) := by decide +kernel
theorem dL_law_372 : decode cL_law 372 = .ok (.iload 4, 2) := by decide +kernel
theorem dL_law_374 : decode cL_law 374 = .ok (.iconst 2, 1) := by decide +kernel
theorem dL_law_375 : decode cL_law 375 = .ok (.iadd, 1) := by decide +kernel
theorem dL_law_376 : decode cL_law 376 = .ok (.iaload, 1) := by decide +kernel
theorem dL_law_377 : decode cL_law 377 = .ok (.aload_n 3, 1) := by decide +kernel
theorem dL_law_378 : decode cL_law 378 = .ok (.invokestatic 98, 3) := by decide +kernel
theorem dL_law_381 : decode cL_law 381 = .ok (.istore 5, 2) := by decide +kernel
theorem dL_law_383 : decode cL_law 383 = .ok (.aload_n 2, 1) := by decide +kernel
theorem dL_law_384 : decode cL_law 384 = .ok (.aload_n 0, 1) := by decide +kernel
theorem dL_law_385 : decode cL_law 385 = .ok (.iload 4, 2) := by decide +kernel
theorem dL_law_387 : decode cL_law 387 = .ok (.iconst 1, 1) := by decide +kernel
theorem dL_law_388 : decode cL_law 388 = .ok (.iadd, 1) := by decide +kernel
theorem dL_law_389 : decode cL_law 389 = .ok (.iaload, 1) := by decide +kernel
theorem dL_law_390 : decode cL_law 390 = .ok (.aload_n 0, 1) := by decide +kernel
theorem dL_law_391 : decode cL_law 391 = .ok (.iload 4, 2) := by decide +kernel
theorem dL_law_393 : decode cL_law 393 = .ok (.iconst 2, 1) := by decide +kernel
theorem dL_law_394 : decode cL_law 394 = .ok (.iadd, 1) := by decide +kernel
theorem dL_law_395 : decode cL_law 395 = .ok (.iaload, 1) := by decide +kernel
theorem dL_law_396 : decode cL_law 396 = .ok (.invokevirtual 100, 3) := by decide +kernel
theorem dL_law_399 : decode cL_law 399 = .ok (.istore 6, 2) := by decide +kernel
theorem dL_law_401 : decode cL_law 401 = .ok (.goto 429, 3) := by decide +kernel
theorem dL_law_404 : decode cL_law 404 = .ok (.aload_n 1, 1) := by decide +kernel
theorem dL_law_405 : decode cL_law 405 = .ok (.invokevirtual 101, 3) := by decide +kernel
theorem dL_law_408 : decode cL_law 408 = .ok (.pop, 1) := by decide +kernel
theorem dL_law_409 : decode cL_law 409 = .ok (.aload_n 2, 1) := by decide +kernel
theorem dL_law_410 : decode cL_law 410 = .ok (.invokevirtual 105, 3) := by decide +kernel
theorem dL_law_413 : decode cL_law 413 = .ok (.pop, 1) := by decide +kernel
theorem dL_law_414 : decode cL_law 414 = .ok (.goto 416, 3) := by decide +kernel
theorem dL_law_417 : decode cL_law 417 = .ok (.aload_n 1, 1) := by decide +kernel
theorem dL_law_418 : decode cL_law 418 = .ok (.aload_n 0, 1) := by decide +kernel
theorem dL_law_419 : decode cL_law 419 = .ok (.iload 4, 2) := by decide +kernel
theorem dL_law_421 : decode cL_law 421 = .ok (.iconst 1, 1) := by decide +kernel
theorem dL_law_422 : decode cL_law 422 = .ok (.iadd, 1) := by decide +kernel
theorem dL_law_423 : decode cL_law 423 = .ok (.iaload, 1) := by decide +kernel
theorem dL_law_424 : decode cL_law 424 = .ok (.aload_n 3, 1) := by decide +kernel
theorem dL_law_425 : decode cL_law 425 = .ok (.invokestatic 106, 3) := by decide +kernel
theorem dL_law_428 : decode cL_law 428 = .ok (.istore 5, 2) := by decide +kernel
theorem dL_law_430 : decode cL_law 430 = .ok (.aload_n 2, 1) := by decide +kernel
theorem dL_law_431 : decode cL_law 431 = .ok (.aload_n 0, 1) := by decide +kernel
theorem dL_law_432 : decode cL_law 432 = .ok (.iload 4, 2) := by decide +kernel
theorem dL_law_434 : decode cL_law 434 = .ok (.iconst 1, 1) := by decide +kernel
theorem dL_law_435 : decode cL_law 435 = .ok (.iadd, 1) := by decide +kernel
theorem dL_law_436 : decode cL_law 436 = .ok (.iaload, 1) := by decide +kernel
theorem dL_law_437 : decode cL_law 437 = .ok (.invokevirtual 108, 3) := by decide +kernel
theorem dL_law_440 : decode cL_law 440 = .ok (.istore 6, 2) := by decide +kernel
theorem dL_law_442 : decode cL_law 442 = .ok (.goto 388, 3) := by decide +kernel
theorem dL_law_445 : decode cL_law 445 = .ok (.aload_n 1, 1) := by decide +kernel
theorem dL_law_446 : decode cL_law 446 = .ok (.aload_n 0, 1) := by decide +kernel
theorem dL_law_447 : decode cL_law 447 = .ok (.iload 4, 2) := by decide +kernel
theorem dL_law_449 : decode cL_law 449 = .ok (.iconst 1, 1) := by decide +kernel
theorem dL_law_450 : decode cL_law 450 = .ok (.iadd, 1) := by decide +kernel
theorem dL_law_451 : decode cL_law 451 = .ok (.iaload, 1) := by decide +kernel
theorem dL_law_452 : decode cL_law 452 = .ok (.aload_n 3, 1) := by decide +kernel
theorem dL_law_453 : decode cL_law 453 = .ok (.invokestatic 109, 3) := by decide +kernel
theorem dL_law_456 : decode cL_law 456 = .ok (.istore 5, 2) := by decide +kernel
theorem dL_law_458 : decode cL_law 458 = .ok (.aload_n 2, 1) := by decide +kernel
theorem dL_law_459 : decode cL_law 459 = .ok (.aload_n 0, 1) := by decide +kernel
theorem dL_law_460 : decode cL_law 460 = .ok (.iload 4, 2) := by decide +kernel
theorem dL_law_462 : decode cL_law 462 = .ok (.iconst 1, 1) := by decide +kernel
theorem dL_law_463 : decode cL_law 463 = .ok (.iadd, 1) := by decide +kernel
theorem dL_law_464 : decode cL_law 464 = .ok (.iaload, 1) := by decide +kernel
theorem dL_law_465 : decode cL_law 465 = .ok (.invokevirtual 111, 3) := by decide +kernel
theorem dL_law_468 : decode cL_law 468 = .ok (.istore 6, 2) := by decide +kernel
theorem dL_law_470 : decode cL_law 470 = .ok (.goto 360, 3) := by decide +kernel
theorem dL_law_473 : decode cL_law 473 = .ok (.aload_n 1, 1) := by decide +kernel
theorem dL_law_474 : decode cL_law 474 = .ok (.aload_n 0, 1) := by decide +kernel
theorem dL_law_475 : decode cL_law 475 = .ok (.iload 4, 2) := by decide +kernel
theorem dL_law_477 : decode cL_law 477 = .ok (.iconst 1, 1) := by decide +kernel
theorem dL_law_478 : decode cL_law 478 = .ok (.iadd, 1) := by decide +kernel
theorem dL_law_479 : decode cL_law 479 = .ok (.iaload, 1) := by decide +kernel
theorem dL_law_480 : decode cL_law 480 = .ok (.aload_n 0, 1) := by decide +kernel
theorem dL_law_481 : decode cL_law 481 = .ok (.iload 4, 2) := by decide +kernel
theorem dL_law_483 : decode cL_law 483 = .ok (.iconst 2, 1) := by decide +kernel
theorem dL_law_484 : decode cL_law 484 = .ok (.iadd, 1) := by decide +kernel
theorem dL_law_485 : decode cL_law 485 = .ok (.iaload, 1) := by decide +kernel
theorem dL_law_486 : decode cL_law 486 = .ok (.aload_n 3, 1) := by decide +kernel
theorem dL_law_487 : decode cL_law 487 = .ok (.invokestatic 112, 3) := by decide +kernel
theorem dL_law_490 : decode cL_law 490 = .ok (.istore 5, 2) := by decide +kernel
theorem dL_law_492 : decode cL_law 492 = .ok (.aload_n 2, 1) := by decide +kernel
theorem dL_law_493 : decode cL_law 493 = .ok (.aload_n 0, 1) := by decide +kernel
theorem dL_law_494 : decode cL_law 494 = .ok (.iload 4, 2) := by decide +kernel
theorem dL_law_496 : decode cL_law 496 = .ok (.iconst 1, 1) := by decide +kernel
theorem dL_law_497 : decode cL_law 497 = .ok (.iadd, 1) := by decide +kernel
theorem dL_law_498 : decode cL_law 498 = .ok (.iaload, 1) := by decide +kernel
theorem dL_law_499 : decode cL_law 499 = .ok (.aload_n 0, 1) := by decide +kernel
theorem dL_law_500 : decode cL_law 500 = .ok (.iload 4, 2) := by decide +kernel
theorem dL_law_502 : decode cL_law 502 = .ok (.iconst 2, 1) := by decide +kernel
theorem dL_law_503 : decode cL_law 503 = .ok (.iadd, 1) := by decide +kernel
theorem dL_law_504 : decode cL_law 504 = .ok (.iaload, 1) := by decide +kernel
theorem dL_law_505 : decode cL_law 505 = .ok (.invokevirtual 114, 3) := by decide +kernel
theorem dL_law_508 : decode cL_law 508 = .ok (.istore 6, 2) := by decide +kernel
theorem dL_law_510 : decode cL_law 510 = .ok (.goto 320, 3) := by decide +kernel
theorem dL_law_513 : decode cL_law 513 = .ok (.aload_n 1, 1) := by decide +kernel
theorem dL_law_514 : decode cL_law 514 = .ok (.aload_n 0, 1) := by decide +kernel
theorem dL_law_515 : decode cL_law 515 = .ok (.iload 4, 2) := by decide +kernel
theorem dL_law_517 : decode cL_law 517 = .ok (.iconst 1, 1) := by decide +kernel
theorem dL_law_518 : decode cL_law 518 = .ok (.iadd, 1) := by decide +kernel
theorem dL_law_519 : decode cL_law 519 = .ok (.iaload, 1) := by decide +kernel
theorem dL_law_520 : decode cL_law 520 = .ok (.aload_n 0, 1) := by decide +kernel
theorem dL_law_521 : decode cL_law 521 = .ok (.iload 4, 2) := by decide +kernel
theorem dL_law_523 : decode cL_law 523 = .ok (.iconst 2, 1) := by decide +kernel
theorem dL_law_524 : decode cL_law 524 = .ok (.iadd, 1) := by decide +kernel
theorem dL_law_525 : decode cL_law 525 = .ok (.iaload, 1) := by decide +kernel
theorem dL_law_526 : decode cL_law 526 = .ok (.aload_n 3, 1) := by decide +kernel
theorem dL_law_527 : decode cL_law 527 = .ok (.invokestatic 115, 3) := by decide +kernel
theorem dL_law_530 : decode cL_law 530 = .ok (.istore 5, 2) := by decide +kernel
theorem dL_law_532 : decode cL_law 532 = .ok (.aload_n 2, 1) := by decide +kernel
theorem dL_law_533 : decode cL_law 533 = .ok (.aload_n 0, 1) := by decide +kernel
theorem dL_law_534 : decode cL_law 534 = .ok (.iload 4, 2) := by decide +kernel
theorem dL_law_536 : decode cL_law 536 = .ok (.iconst 1, 1) := by decide +kernel
theorem dL_law_537 : decode cL_law 537 = .ok (.iadd, 1) := by decide +kernel
theorem dL_law_538 : decode cL_law 538 = .ok (.iaload, 1) := by decide +kernel
theorem dL_law_539 : decode cL_law 539 = .ok (.aload_n 0, 1) := by decide +kernel
theorem dL_law_540 : decode cL_law 540 = .ok (.iload 4, 2) := by decide +kernel
theorem dL_law_542 : decode cL_law 542 = .ok (.iconst 2, 1) := by decide +kernel
theorem dL_law_543 : decode cL_law 543 = .ok (.iadd, 1) := by decide +kernel
theorem dL_law_544 : decode cL_law 544 = .ok (.iaload, 1) := by decide +kernel
theorem dL_law_545 : decode cL_law 545 = .ok (.invokevirtual 117, 3) := by decide +kernel
theorem dL_law_548 : decode cL_law 548 = .ok (.istore 6, 2) := by decide +kernel
theorem dL_law_550 : decode cL_law 550 = .ok (.goto 280, 3) := by decide +kernel
theorem dL_law_553 : decode cL_law 553 = .ok (.aload_n 1, 1) := by decide +kernel
theorem dL_law_554 : decode cL_law 554 = .ok (.aload_n 0, 1) := by decide +kernel
theorem dL_law_555 : decode cL_law 555 = .ok (.iload 4, 2) := by decide +kernel
theorem dL_law_557 : decode cL_law 557 = .ok (.iconst 1, 1) := by decide +kernel
theorem dL_law_558 : decode cL_law 558 = .ok (.iadd, 1) := by decide +kernel
theorem dL_law_559 : decode cL_law 559 = .ok (.iaload, 1) := by decide +kernel
theorem dL_law_560 : decode cL_law 560 = .ok (.aload_n 3, 1) := by decide +kernel
theorem dL_law_561 : decode cL_law 561 = .ok (.invokestatic 118, 3) := by decide +kernel
theorem dL_law_564 : decode cL_law 564 = .ok (.istore 5, 2) := by decide +kernel
theorem dL_law_566 : decode cL_law 566 = .ok (.aload_n 2, 1) := by decide +kernel
theorem dL_law_567 : decode cL_law 567 = .ok (.aload_n 0, 1) := by decide +kernel
theorem dL_law_568 : decode cL_law 568 = .ok (.iload 4, 2) := by decide +kernel
theorem dL_law_570 : decode cL_law 570 = .ok (.iconst 1, 1) := by decide +kernel
theorem dL_law_571 : decode cL_law 571 = .ok (.iadd, 1) := by decide +kernel
theorem dL_law_572 : decode cL_law 572 = .ok (.iaload, 1) := by decide +kernel
theorem dL_law_573 : decode cL_law 573 = .ok (.invokevirtual 120, 3) := by decide +kernel
theorem dL_law_576 : decode cL_law 576 = .ok (.istore 6, 2) := by decide +kernel
theorem dL_law_578 : decode cL_law 578 = .ok (.goto 252, 3) := by decide +kernel
theorem dL_law_581 : decode cL_law 581 = .ok (.aload_n 1, 1) := by decide +kernel
theorem dL_law_582 : decode cL_law 582 = .ok (.invokevirtual 121, 3) := by decide +kernel
theorem dL_law_585 : decode cL_law 585 = .ok (.pop, 1) := by decide +kernel
theorem dL_law_586 : decode cL_law 586 = .ok (.aload_n 2, 1) := by decide +kernel
theorem dL_law_587 : decode cL_law 587 = .ok (.invokevirtual 124, 3) := by decide +kernel
theorem dL_law_590 : decode cL_law 590 = .ok (.pop, 1) := by decide +kernel
theorem dL_law_591 : decode cL_law 591 = .ok (.goto 239, 3) := by decide +kernel
theorem dL_law_594 : decode cL_law 594 = .ok (.aload_n 1, 1) := by decide +kernel
theorem dL_law_595 : decode cL_law 595 = .ok (.aload_n 0, 1) := by decide +kernel
theorem dL_law_596 : decode cL_law 596 = .ok (.iload 4, 2) := by decide +kernel
theorem dL_law_598 : decode cL_law 598 = .ok (.iconst 1, 1) := by decide +kernel
theorem dL_law_599 : decode cL_law 599 = .ok (.iadd, 1) := by decide +kernel
theorem dL_law_600 : decode cL_law 600 = .ok (.iaload, 1) := by decide +kernel
theorem dL_law_601 : decode cL_law 601 = .ok (.aload_n 0, 1) := by decide +kernel
theorem dL_law_602 : decode cL_law 602 = .ok (.iload 4, 2) := by decide +kernel
theorem dL_law_604 : decode cL_law 604 = .ok (.iconst 2, 1) := by decide +kernel
theorem dL_law_605 : decode cL_law 605 = .ok (.iadd, 1) := by decide +kernel
theorem dL_law_606 : decode cL_law 606 = .ok (.iaload, 1) := by decide +kernel
theorem dL_law_607 : decode cL_law 607 = .ok (.aload_n 0, 1) := by decide +kernel
theorem dL_law_608 : decode cL_law 608 = .ok (.iload 4, 2) := by decide +kernel
theorem dL_law_610 : decode cL_law 610 = .ok (.iconst 3, 1) := by decide +kernel
theorem dL_law_611 : decode cL_law 611 = .ok (.iadd, 1) := by decide +kernel
theorem dL_law_612 : decode cL_law 612 = .ok (.iaload, 1) := by decide +kernel
theorem dL_law_613 : decode cL_law 613 = .ok (.aload_n 3, 1) := by decide +kernel
theorem dL_law_614 : decode cL_law 614 = .ok (.invokestatic 125, 3) := by decide +kernel
theorem dL_law_617 : decode cL_law 617 = .ok (.istore 5, 2) := by decide +kernel
theorem dL_law_619 : decode cL_law 619 = .ok (.aload_n 2, 1) := by decide +kernel
theorem dL_law_620 : decode cL_law 620 = .ok (.aload_n 0, 1) := by decide +kernel
theorem dL_law_621 : decode cL_law 621 = .ok (.iload 4, 2) := by decide +kernel
theorem dL_law_623 : decode cL_law 623 = .ok (.iconst 1, 1) := by decide +kernel
theorem dL_law_624 : decode cL_law 624 = .ok (.iadd, 1) := by decide +kernel
theorem dL_law_625 : decode cL_law 625 = .ok (.iaload, 1) := by decide +kernel
theorem dL_law_626 : decode cL_law 626 = .ok (.aload_n 0, 1) := by decide +kernel
theorem dL_law_627 : decode cL_law 627 = .ok (.iload 4, 2) := by decide +kernel
theorem dL_law_629 : decode cL_law 629 = .ok (.iconst 2, 1) := by decide +kernel
theorem dL_law_630 : decode cL_law 630 = .ok (.iadd, 1) := by decide +kernel
theorem dL_law_631 : decode cL_law 631 = .ok (.iaload, 1) := by decide +kernel
theorem dL_law_632 : decode cL_law 632 = .ok (.aload_n 0, 1) := by decide +kernel
theorem dL_law_633 : decode cL_law 633 = .ok (.iload 4, 2) := by decide +kernel
theorem dL_law_635 : decode cL_law 635 = .ok (.iconst 3, 1) := by decide +kernel
theorem dL_law_636 : decode cL_law 636 = .ok (.iadd, 1) := by decide +kernel
theorem dL_law_637 : decode cL_law 637 = .ok (.iaload, 1) := by decide +kernel
theorem dL_law_638 : decode cL_law 638 = .ok (.invokevirtual 128, 3) := by decide +kernel
theorem dL_law_641 : decode cL_law 641 = .ok (.istore 6, 2) := by decide +kernel
theorem dL_law_643 : decode cL_law 643 = .ok (.aload_n 2, 1) := by decide +kernel
theorem dL_law_644 : decode cL_law 644 = .ok (.invokevirtual 129, 3) := by decide +kernel
theorem dL_law_647 : decode cL_law 647 = .ok (.iload 5, 2) := by decide +kernel
theorem dL_law_649 : decode cL_law 649 = .ok (.if_icmp .eq 5, 3) := by decide +kernel
theorem dL_law_652 : decode cL_law 652 = .ok (.iconst 0, 1) := by decide +kernel
theorem dL_law_653 : decode cL_law 653 = .ok (.ireturn, 1) := by decide +kernel
theorem dL_law_654 : decode cL_law 654 = .ok (.iload 5, 2) := by decide +kernel
theorem dL_law_656 : decode cL_law 656 = .ok (.ifCond .ne 15, 3) := by decide +kernel
theorem dL_law_659 : decode cL_law 659 = .ok (.aload_n 3, 1) := by decide +kernel
theorem dL_law_660 : decode cL_law 660 = .ok (.iconst 0, 1) := by decide +kernel
theorem dL_law_661 : decode cL_law 661 = .ok (.laload, 1) := by decide +kernel
theorem dL_law_662 : decode cL_law 662 = .ok (.iload 6, 2) := by decide +kernel
theorem dL_law_664 : decode cL_law 664 = .ok (.i2l, 1) := by decide +kernel
theorem dL_law_665 : decode cL_law 665 = .ok (.lcmp, 1) := by decide +kernel
theorem dL_law_666 : decode cL_law 666 = .ok (.ifCond .eq 5, 3) := by decide +kernel
theorem dL_law_669 : decode cL_law 669 = .ok (.iconst 0, 1) := by decide +kernel
theorem dL_law_670 : decode cL_law 670 = .ok (.ireturn, 1) := by decide +kernel
theorem dL_law_671 : decode cL_law 671 = .ok (.goto 159, 3) := by decide +kernel
theorem dL_law_674 : decode cL_law 674 = .ok (.aload_n 1, 1) := by decide +kernel
theorem dL_law_675 : decode cL_law 675 = .ok (.aload_n 0, 1) := by decide +kernel
theorem dL_law_676 : decode cL_law 676 = .ok (.iload 4, 2) := by decide +kernel
theorem dL_law_678 : decode cL_law 678 = .ok (.iconst 1, 1) := by decide +kernel
theorem dL_law_679 : decode cL_law 679 = .ok (.iadd, 1) := by decide +kernel
theorem dL_law_680 : decode cL_law 680 = .ok (.iaload, 1) := by decide +kernel
theorem dL_law_681 : decode cL_law 681 = .ok (.aload_n 0, 1) := by decide +kernel
theorem dL_law_682 : decode cL_law 682 = .ok (.iload 4, 2) := by decide +kernel
theorem dL_law_684 : decode cL_law 684 = .ok (.iconst 2, 1) := by decide +kernel
theorem dL_law_685 : decode cL_law 685 = .ok (.iadd, 1) := by decide +kernel
theorem dL_law_686 : decode cL_law 686 = .ok (.iaload, 1) := by decide +kernel
theorem dL_law_687 : decode cL_law 687 = .ok (.aload_n 3, 1) := by decide +kernel
theorem dL_law_688 : decode cL_law 688 = .ok (.invokestatic 132, 3) := by decide +kernel
theorem dL_law_691 : decode cL_law 691 = .ok (.istore 5, 2) := by decide +kernel
theorem dL_law_693 : decode cL_law 693 = .ok (.aload_n 2, 1) := by decide +kernel
theorem dL_law_694 : decode cL_law 694 = .ok (.aload_n 0, 1) := by decide +kernel
theorem dL_law_695 : decode cL_law 695 = .ok (.iload 4, 2) := by decide +kernel
theorem dL_law_697 : decode cL_law 697 = .ok (.iconst 1, 1) := by decide +kernel
theorem dL_law_698 : decode cL_law 698 = .ok (.iadd, 1) := by decide +kernel
theorem dL_law_699 : decode cL_law 699 = .ok (.iaload, 1) := by decide +kernel
theorem dL_law_700 : decode cL_law 700 = .ok (.aload_n 0, 1) := by decide +kernel
theorem dL_law_701 : decode cL_law 701 = .ok (.iload 4, 2) := by decide +kernel
theorem dL_law_703 : decode cL_law 703 = .ok (.iconst 2, 1) := by decide +kernel
theorem dL_law_704 : decode cL_law 704 = .ok (.iadd, 1) := by decide +kernel
theorem dL_law_705 : decode cL_law 705 = .ok (.iaload, 1) := by decide +kernel
theorem dL_law_706 : decode cL_law 706 = .ok (.invokevirtual 134, 3) := by decide +kernel
theorem dL_law_709 : decode cL_law 709 = .ok (.istore 6, 2) := by decide +kernel
theorem dL_law_711 : decode cL_law 711 = .ok (.goto 119, 3) := by decide +kernel
theorem dL_law_714 : decode cL_law 714 = .ok (.aload_n 1, 1) := by decide +kernel
theorem dL_law_715 : decode cL_law 715 = .ok (.aload_n 0, 1) := by decide +kernel
theorem dL_law_716 : decode cL_law 716 = .ok (.iload 4, 2) := by decide +kernel
theorem dL_law_718 : decode cL_law 718 = .ok (.iconst 1, 1) := by decide +kernel
theorem dL_law_719 : decode cL_law 719 = .ok (.iadd, 1) := by decide +kernel
theorem dL_law_720 : decode cL_law 720 = .ok (.iaload, 1) := by decide +kernel
theorem dL_law_721 : decode cL_law 721 = .ok (.aload_n 0, 1) := by decide +kernel
theorem dL_law_722 : decode cL_law 722 = .ok (.iload 4, 2) := by decide +kernel
theorem dL_law_724 : decode cL_law 724 = .ok (.iconst 2, 1) := by decide +kernel
theorem dL_law_725 : decode cL_law 725 = .ok (.iadd, 1) := by decide +kernel
theorem dL_law_726 : decode cL_law 726 = .ok (.iaload, 1) := by decide +kernel
theorem dL_law_727 : decode cL_law 727 = .ok (.aload_n 3, 1) := by decide +kernel
theorem dL_law_728 : decode cL_law 728 = .ok (.invokestatic 135, 3) := by decide +kernel
theorem dL_law_731 : decode cL_law 731 = .ok (.istore 5, 2) := by decide +kernel
theorem dL_law_733 : decode cL_law 733 = .ok (.aload_n 2, 1) := by decide +kernel
theorem dL_law_734 : decode cL_law 734 = .ok (.aload_n 0, 1) := by decide +kernel
theorem dL_law_735 : decode cL_law 735 = .ok (.iload 4, 2) := by decide +kernel
theorem dL_law_737 : decode cL_law 737 = .ok (.iconst 1, 1) := by decide +kernel
theorem dL_law_738 : decode cL_law 738 = .ok (.iadd, 1) := by decide +kernel
theorem dL_law_739 : decode cL_law 739 = .ok (.iaload, 1) := by decide +kernel
theorem dL_law_740 : decode cL_law 740 = .ok (.aload_n 0, 1) := by decide +kernel
theorem dL_law_741 : decode cL_law 741 = .ok (.iload 4, 2) := by decide +kernel
theorem dL_law_743 : decode cL_law 743 = .ok (.iconst 2, 1) := by decide +kernel
theorem dL_law_744 : decode cL_law 744 = .ok (.iadd, 1) := by decide +kernel
theorem dL_law_745 : decode cL_law 745 = .ok (.iaload, 1) := by decide +kernel
theorem dL_law_746 : decode cL_law 746 = .ok (.invokevirtual 137, 3) := by decide +kernel
theorem dL_law_749 : decode cL_law 749 = .ok (.istore 6, 2) := by decide +kernel
theorem dL_law_751 : decode cL_law 751 = .ok (.goto 79, 3) := by decide +kernel
theorem dL_law_754 : decode cL_law 754 = .ok (.aload_n 1, 1) := by decide +kernel
theorem dL_law_755 : decode cL_law 755 = .ok (.aload_n 0, 1) := by decide +kernel
theorem dL_law_756 : decode cL_law 756 = .ok (.iload 4, 2) := by decide +kernel
theorem dL_law_758 : decode cL_law 758 = .ok (.iconst 1, 1) := by decide +kernel
theorem dL_law_759 : decode cL_law 759 = .ok (.iadd, 1) := by decide +kernel
theorem dL_law_760 : decode cL_law 760 = .ok (.iaload, 1) := by decide +kernel
theorem dL_law_761 : decode cL_law 761 = .ok (.aload_n 0, 1) := by decide +kernel
theorem dL_law_762 : decode cL_law 762 = .ok (.iload 4, 2) := by decide +kernel
theorem dL_law_764 : decode cL_law 764 = .ok (.iconst 2, 1) := by decide +kernel
theorem dL_law_765 : decode cL_law 765 = .ok (.iadd, 1) := by decide +kernel
theorem dL_law_766 : decode cL_law 766 = .ok (.iaload, 1) := by decide +kernel
theorem dL_law_767 : decode cL_law 767 = .ok (.aload_n 3, 1) := by decide +kernel
theorem dL_law_768 : decode cL_law 768 = .ok (.invokestatic 138, 3) := by decide +kernel
theorem dL_law_771 : decode cL_law 771 = .ok (.istore 5, 2) := by decide +kernel
theorem dL_law_773 : decode cL_law 773 = .ok (.aload_n 2, 1) := by decide +kernel
theorem dL_law_774 : decode cL_law 774 = .ok (.aload_n 0, 1) := by decide +kernel
theorem dL_law_775 : decode cL_law 775 = .ok (.iload 4, 2) := by decide +kernel
theorem dL_law_777 : decode cL_law 777 = .ok (.iconst 1, 1) := by decide +kernel
theorem dL_law_778 : decode cL_law 778 = .ok (.iadd, 1) := by decide +kernel
theorem dL_law_779 : decode cL_law 779 = .ok (.iaload, 1) := by decide +kernel
theorem dL_law_780 : decode cL_law 780 = .ok (.aload_n 0, 1) := by decide +kernel
theorem dL_law_781 : decode cL_law 781 = .ok (.iload 4, 2) := by decide +kernel
theorem dL_law_783 : decode cL_law 783 = .ok (.iconst 2, 1) := by decide +kernel
theorem dL_law_784 : decode cL_law 784 = .ok (.iadd, 1) := by decide +kernel
theorem dL_law_785 : decode cL_law 785 = .ok (.iaload, 1) := by decide +kernel
theorem dL_law_786 : decode cL_law 786 = .ok (.invokevirtual 140, 3) := by decide +kernel
theorem dL_law_789 : decode cL_law 789 = .ok (.istore 6, 2) := by decide +kernel
theorem dL_law_791 : decode cL_law 791 = .ok (.goto 39, 3) := by decide +kernel
theorem dL_law_794 : decode cL_law 794 = .ok (.aload_n 1, 1) := by decide +kernel
theorem dL_law_795 : decode cL_law 795 = .ok (.aload_n 0, 1) := by decide +kernel
theorem dL_law_796 : decode cL_law 796 = .ok (.iload 4, 2) := by decide +kernel
theorem dL_law_798 : decode cL_law 798 = .ok (.iconst 1, 1) := by decide +kernel
theorem dL_law_799 : decode cL_law 799 = .ok (.iadd, 1) := by decide +kernel
theorem dL_law_800 : decode cL_law 800 = .ok (.iaload, 1) := by decide +kernel
theorem dL_law_801 : decode cL_law 801 = .ok (.invokevirtual 141, 3) := by decide +kernel
theorem dL_law_804 : decode cL_law 804 = .ok (.pop, 1) := by decide +kernel
theorem dL_law_805 : decode cL_law 805 = .ok (.aload_n 2, 1) := by decide +kernel
theorem dL_law_806 : decode cL_law 806 = .ok (.aload_n 0, 1) := by decide +kernel
theorem dL_law_807 : decode cL_law 807 = .ok (.iload 4, 2) := by decide +kernel
theorem dL_law_809 : decode cL_law 809 = .ok (.iconst 1, 1) := by decide +kernel
theorem dL_law_810 : decode cL_law 810 = .ok (.iadd, 1) := by decide +kernel
theorem dL_law_811 : decode cL_law 811 = .ok (.iaload, 1) := by decide +kernel
theorem dL_law_812 : decode cL_law 812 = .ok (.invokevirtual 144, 3) := by decide +kernel
theorem dL_law_815 : decode cL_law 815 = .ok (.pop, 1) := by decide +kernel
theorem dL_law_816 : decode cL_law 816 = .ok (.goto 14, 3) := by decide +kernel
theorem dL_law_819 : decode cL_law 819 = .ok (.aload_n 1, 1) := by decide +kernel
theorem dL_law_820 : decode cL_law 820 = .ok (.invokevirtual 145, 3) := by decide +kernel
theorem dL_law_823 : decode cL_law 823 = .ok (.aload_n 2, 1) := by decide +kernel
theorem dL_law_824 : decode cL_law 824 = .ok (.invokevirtual 148, 3) := by decide +kernel
theorem dL_law_827 : decode cL_law 827 = .ok (.goto 3, 3) := by decide +kernel
theorem dL_law_830 : decode cL_law 830 = .ok (.iinc 4 5, 3) := by decide +kernel
theorem dL_law_833 : decode cL_law 833 = .ok (.goto (-790), 3) := by decide +kernel
theorem dL_law_836 : decode cL_law 836 = .ok (.iconst 1, 1) := by decide +kernel
theorem dL_law_837 : decode cL_law 837 = .ok (.ireturn, 1) := by decide +kernel
