theorem dX2_writePacket_118 : decode cX2_writePacket 118 = .ok (.iconst 0, 1) := by decide +kernel
theorem dX2_writePacket_119 : decode cX2_writePacket 119 = .ok (.istore 4, 2) := by decide +kernel
theorem dX2_writePacket_121 : decode cX2_writePacket 121 = .ok (.iload 4, 2) := by decide +kernel
theorem dX2_writePacket_123 : decode cX2_writePacket 123 = .ok (.aload_n 1, 1) := by decide +kernel
theorem dX2_writePacket_124 : decode cX2_writePacket 124 = .ok (.invokevirtual 114, 3) := by decide +kernel
theorem dX2_writePacket_127 : decode cX2_writePacket 127 = .ok (.if_icmp .ge 29, 3) := by decide +kernel
theorem dX2_writePacket_130 : decode cX2_writePacket 130 = .ok (.aload_n 3, 1) := by decide +kernel
theorem dX2_writePacket_131 : decode cX2_writePacket 131 = .ok (.aload_n 0, 1) := by decide +kernel
theorem dX2_writePacket_132 : decode cX2_writePacket 132 = .ok (.getfield 18, 3) := by decide +kernel
theorem dX2_writePacket_135 : decode cX2_writePacket 135 = .ok (.iload 4, 2) := by decide +kernel
theorem dX2_writePacket_137 : decode cX2_writePacket 137 = .ok (.iaload, 1) := by decide +kernel
theorem dX2_writePacket_138 : decode cX2_writePacket 138 = .ok (.aload_n 1, 1) := by decide +kernel
theorem dX2_writePacket_139 : decode cX2_writePacket 139 = .ok (.invokevirtual 117, 3) := by decide +kernel
theorem dX2_writePacket_142 : decode cX2_writePacket 142 = .ok (.isub, 1) := by decide +kernel
theorem dX2_writePacket_143 : decode cX2_writePacket 143 = .ok (.aload_n 1, 1) := by decide +kernel
theorem dX2_writePacket_144 : decode cX2_writePacket 144 = .ok (.invokevirtual 120, 3) := by decide +kernel
theorem dX2_writePacket_147 : decode cX2_writePacket 147 = .ok (.invokevirtual 108, 3) := by decide +kernel
theorem dX2_writePacket_150 : decode cX2_writePacket 150 = .ok (.iinc 4 1, 3) := by decide +kernel
theorem dX2_writePacket_153 : decode cX2_writePacket 153 = .ok (.goto (-32), 3) := by decide +kernel
theorem dX2_writePacket_156 : decode cX2_writePacket 156 = .ok (.aload_n 0, 1) := by decide +kernel
theorem dX2_writePacket_157 : decode cX2_writePacket 157 = .ok (.aload_n 1, 1) := by decide +kernel
theorem dX2_writePacket_158 : decode cX2_writePacket 158 = .ok (.getfield 75, 3) := by decide +kernel
theorem dX2_writePacket_161 : decode cX2_writePacket 161 = .ok (.aload_n 3, 1) := by decide +kernel
theorem dX2_writePacket_162 : decode cX2_writePacket 162 = .ok (.invokevirtual 123, 3) := by decide +kernel
theorem dX2_writePacket_165 : decode cX2_writePacket 165 = .ok (.return_, 1) := by decide +kernel
theorem dX2_writePayload_0 : decode cX2_writePayload 0 = .ok (.iconst 1, 1) := by decide +kernel
theorem dX2_writePayload_1 : decode cX2_writePayload 1 = .ok (.iload_n 1, 1) := by decide +kernel
theorem dX2_writePayload_2 : decode cX2_writePayload 2 = .ok (.ishl, 1) := by decide +kernel
theorem dX2_writePayload_3 : decode cX2_writePayload 3 = .ok (.iconst 1, 1) := by decide +kernel
theorem dX2_writePayload_4 : decode cX2_writePayload 4 = .ok (.isub, 1) := by decide +kernel
theorem dX2_writePayload_5 : decode cX2_writePayload 5 = .ok (.istore_n 3, 1) := by decide +kernel
theorem dX2_writePayload_6 : decode cX2_writePayload 6 = .ok (.iconst 0, 1) := by decide +kernel
theorem dX2_writePayload_7 : decode cX2_writePayload 7 = .ok (.istore 4, 2) := by decide +kernel
theorem dX2_writePayload_9 : decode cX2_writePayload 9 = .ok (.iconst 0, 1) := by decide +kernel
theorem dX2_writePayload_10 : decode cX2_writePayload 10 = .ok (.istore 5, 2) := by decide +kernel
theorem dX2_writePayload_12 : decode cX2_writePayload 12 = .ok (.iconst 0, 1) := by decide +kernel
theorem dX2_writePayload_13 : decode cX2_writePayload 13 = .ok (.istore 6, 2) := by decide +kernel
theorem dX2_writePayload_15 : decode cX2_writePayload 15 = .ok (.iload 6, 2) := by decide +kernel
theorem dX2_writePayload_17 : decode cX2_writePayload 17 = .ok (.aload_n 0, 1) := by decide +kernel
theorem dX2_writePayload_18 : decode cX2_writePayload 18 = .ok (.getfield 12, 3) := by decide +kernel
theorem dX2_writePayload_21 : decode cX2_writePayload 21 = .ok (.getfield 111, 3) := by decide +kernel
theorem dX2_writePayload_24 : decode cX2_writePayload 24 = .ok (.iconst 2, 1) := by decide +kernel
theorem dX2_writePayload_25 : decode cX2_writePayload 25 = .ok (.iaload, 1) := by decide +kernel
theorem dX2_writePayload_26 : decode cX2_writePayload 26 = .ok (.if_icmp .ge 88, 3) := by decide +kernel
theorem dX2_writePayload_29 : decode cX2_writePayload 29 = .ok (.iload 6, 2) := by decide +kernel
theorem dX2_writePayload_31 : decode cX2_writePayload 31 = .ok (.sipush 1400, 3) := by decide +kernel
theorem dX2_writePayload_34 : decode cX2_writePayload 34 = .ok (.if_icmp .ge 80, 3) := by decide +kernel
theorem dX2_writePayload_37 : decode cX2_writePayload 37 = .ok (.aload_n 0, 1) := by decide +kernel
theorem dX2_writePayload_38 : decode cX2_writePayload 38 = .ok (.getfield 22, 3) := by decide +kernel
theorem dX2_writePayload_41 : decode cX2_writePayload 41 = .ok (.iload 6, 2) := by decide +kernel
theorem dX2_writePayload_43 : decode cX2_writePayload 43 = .ok (.iaload, 1) := by decide +kernel
theorem dX2_writePayload_44 : decode cX2_writePayload 44 = .ok (.bipush 16, 2) := by decide +kernel
theorem dX2_writePayload_46 : decode cX2_writePayload 46 = .ok (.ishr, 1) := by decide +kernel
theorem dX2_writePayload_47 : decode cX2_writePayload 47 = .ok (.iconst 1, 1) := by decide +kernel
theorem dX2_writePayload_48 : decode cX2_writePayload 48 = .ok (.isub, 1) := by decide +kernel
theorem dX2_writePayload_49 : decode cX2_writePayload 49 = .ok (.istore 7, 2) := by decide +kernel
theorem dX2_writePayload_51 : decode cX2_writePayload 51 = .ok (.iload 7, 2) := by decide +kernel
theorem dX2_writePayload_53 : decode cX2_writePayload 53 = .ok (.ifCond .lt 55, 3) := by decide +kernel
theorem dX2_writePayload_56 : decode cX2_writePayload 56 = .ok (.iload 4, 2) := by decide +kernel
theorem dX2_writePayload_58 : decode cX2_writePayload 58 = .ok (.iload_n 1, 1) := by decide +kernel
theorem dX2_writePayload_59 : decode cX2_writePayload 59 = .ok (.ishl, 1) := by decide +kernel
theorem dX2_writePayload_60 : decode cX2_writePayload 60 = .ok (.aload_n 0, 1) := by decide +kernel
theorem dX2_writePayload_61 : decode cX2_writePayload 61 = .ok (.getfield 22, 3) := by decide +kernel
theorem dX2_writePayload_64 : decode cX2_writePayload 64 = .ok (.iload 6, 2) := by decide +kernel
theorem dX2_writePayload_66 : decode cX2_writePayload 66 = .ok (.iaload, 1) := by decide +kernel
theorem dX2_writePayload_67 : decode cX2_writePayload 67 = .ok (.iload 7, 2) := by decide +kernel
theorem dX2_writePayload_69 : decode cX2_writePayload 69 = .ok (.iload_n 1, 1) := by decide +kernel
theorem dX2_writePayload_70 : decode cX2_writePayload 70 = .ok (.imul, 1) := by decide +kernel
theorem dX2_writePayload_71 : decode cX2_writePayload 71 = .ok (.ishr, 1) := by decide +kernel
theorem dX2_writePayload_72 : decode cX2_writePayload 72 = .ok (.iload_n 3, 1) := by decide +kernel
theorem dX2_writePayload_73 : decode cX2_writePayload 73 = .ok (.iand, 1) := by decide +kernel
theorem dX2_writePayload_74 : decode cX2_writePayload 74 = .ok (.ior, 1) := by decide +kernel
theorem dX2_writePayload_75 : decode cX2_writePayload 75 = .ok (.istore 4, 2) := by decide +kernel
theorem dX2_writePayload_77 : decode cX2_writePayload 77 = .ok (.iload 5, 2) := by decide +kernel
theorem dX2_writePayload_79 : decode cX2_writePayload 79 = .ok (.iload_n 1, 1) := by decide +kernel
theorem dX2_writePayload_80 : decode cX2_writePayload 80 = .ok (.iadd, 1) := by decide +kernel
theorem dX2_writePayload_81 : decode cX2_writePayload 81 = .ok (.istore 5, 2) := by decide +kernel
theorem dX2_writePayload_83 : decode cX2_writePayload 83 = .ok (.iload 5, 2) := by decide +kernel
theorem dX2_writePayload_85 : decode cX2_writePayload 85 = .ok (.bipush 8, 2) := by decide +kernel
theorem dX2_writePayload_87 : decode cX2_writePayload 87 = .ok (.if_icmp .ne 15, 3) := by decide +kernel
theorem dX2_writePayload_90 : decode cX2_writePayload 90 = .ok (.aload_n 2, 1) := by decide +kernel
theorem dX2_writePayload_91 : decode cX2_writePayload 91 = .ok (.iload 4, 2) := by decide +kernel
theorem dX2_writePayload_93 : decode cX2_writePayload 93 = .ok (.invokevirtual 81, 3) := by decide +kernel
theorem dX2_writePayload_96 : decode cX2_writePayload 96 = .ok (.iconst 0, 1) := by decide +kernel
theorem dX2_writePayload_97 : decode cX2_writePayload 97 = .ok (.istore 4, 2) := by decide +kernel
theorem dX2_writePayload_99 : decode cX2_writePayload 99 = .ok (.iconst 0, 1) := by decide +kernel
theorem dX2_writePayload_100 : decode cX2_writePayload 100 = .ok (.istore 5, 2) := by decide +kernel
theorem dX2_writePayload_102 : decode cX2_writePayload 102 = .ok (.iinc 7 (-1), 3) := by decide +kernel
theorem dX2_writePayload_105 : decode cX2_writePayload 105 = .ok (.goto (-54), 3) := by decide +kernel
theorem dX2_writePayload_108 : decode cX2_writePayload 108 = .ok (.iinc 6 1, 3) := by decide +kernel
theorem dX2_writePayload_111 : decode cX2_writePayload 111 = .ok (.goto (-96), 3) := by decide +kernel
theorem dX2_writePayload_114 : decode cX2_writePayload 114 = .ok (.iload 5, 2) := by decide +kernel
theorem dX2_writePayload_116 : decode cX2_writePayload 116 = .ok (.ifCond .le 15, 3) := by decide +kernel
theorem dX2_writePayload_119 : decode cX2_writePayload 119 = .ok (.aload_n 2, 1) := by decide +kernel
theorem dX2_writePayload_120 : decode cX2_writePayload 120 = .ok (.iload 4, 2) := by decide +kernel
theorem dX2_writePayload_122 : decode cX2_writePayload 122 = .ok (.bipush 8, 2) := by decide +kernel
theorem dX2_writePayload_124 : decode cX2_writePayload 124 = .ok (.iload 5, 2) := by decide +kernel
theorem dX2_writePayload_126 : decode cX2_writePayload 126 = .ok (.isub, 1) := by decide +kernel
theorem dX2_writePayload_127 : decode cX2_writePayload 127 = .ok (.ishl, 1) := by decide +kernel
theorem dX2_writePayload_128 : decode cX2_writePayload 128 = .ok (.invokevirtual 81, 3) := by decide +kernel
theorem dX2_writePayload_131 : decode cX2_writePayload 131 = .ok (.return_, 1) := by decide +kernel
theorem dX3_init_0 : decode cX3_init 0 = .ok (.aload_n 0, 1) := by decide +kernel
theorem dX3_init_1 : decode cX3_init 1 = .ok (.invokespecial 5, 3) := by decide +kernel
theorem dX3_init_4 : decode cX3_init 4 = .ok (.aload_n 0, 1) := by decide +kernel
theorem dX3_init_5 : decode cX3_init 5 = .ok (.sipush 562, 3) := by decide +kernel
theorem dX3_init_8 : decode cX3_init 8 = .ok (.newarray .int, 2) := by decide +kernel
theorem dX3_init_10 : decode cX3_init 10 = .ok (.putfield 11, 3) := by decide +kernel
theorem dX3_init_13 : decode cX3_init 13 = .ok (.aload_n 0, 1) := by decide +kernel
theorem dX3_init_14 : decode cX3_init 14 = .ok (.iconst 1, 1) := by decide +kernel
theorem dX3_init_15 : decode cX3_init 15 = .ok (.putfield 15, 3) := by decide +kernel
theorem dX3_init_18 : decode cX3_init 18 = .ok (.aload_n 0, 1) := by decide +kernel
theorem dX3_init_19 : decode cX3_init 19 = .ok (.iconst 1, 1) := by decide +kernel
theorem dX3_init_20 : decode cX3_init 20 = .ok (.putfield 19, 3) := by decide +kernel
theorem dX3_init_23 : decode cX3_init 23 = .ok (.return_, 1) := by decide +kernel
theorem dX3_clear_0 : decode cX3_clear 0 = .ok (.aload_n 0, 1) := by decide +kernel
theorem dX3_clear_1 : decode cX3_clear 1 = .ok (.getfield 11, 3) := by decide +kernel
theorem dX3_clear_4 : decode cX3_clear 4 = .ok (.iconst 0, 1) := by decide +kernel
theorem dX3_clear_5 : decode cX3_clear 5 = .ok (.iconst 1, 1) := by decide +kernel
theorem dX3_clear_6 : decode cX3_clear 6 = .ok (.iastore, 1) := by decide +kernel
theorem dX3_clear_7 : decode cX3_clear 7 = .ok (.aload_n 0, 1) := by decide +kernel
theorem dX3_clear_8 : decode cX3_clear 8 = .ok (.iconst 1, 1) := by decide +kernel
theorem dX3_clear_9 : decode cX3_clear 9 = .ok (.putfield 15, 3) := by decide +kernel
theorem dX3_clear_12 : decode cX3_clear 12 = .ok (.aload_n 0, 1) := by decide +kernel
theorem dX3_clear_13 : decode cX3_clear 13 = .ok (.iconst 1, 1) := by decide +kernel
theorem dX3_clear_14 : decode cX3_clear 14 = .ok (.putfield 19, 3) := by decide +kernel
theorem dX3_clear_17 : decode cX3_clear 17 = .ok (.return_, 1) := by decide +kernel
theorem dX3_times_0 : decode cX3_times 0 = .ok (.aload_n 0, 1) := by decide +kernel
theorem dX3_times_1 : decode cX3_times 1 = .ok (.getfield 19, 3) := by decide +kernel
theorem dX3_times_4 : decode cX3_times 4 = .ok (.i2l, 1) := by decide +kernel
theorem dX3_times_5 : decode cX3_times 5 = .ok (.iload_n 1, 1) := by decide +kernel
theorem dX3_times_6 : decode cX3_times 6 = .ok (.i2l, 1) := by decide +kernel
theorem dX3_times_7 : decode cX3_times 7 = .ok (.lmul, 1) := by decide +kernel
theorem dX3_times_8 : decode cX3_times 8 = .ok (.ldc2_w 22, 3) := by decide +kernel
theorem dX3_times_11 : decode cX3_times 11 = .ok (.lcmp, 1) := by decide +kernel
theorem dX3_times_12 : decode cX3_times 12 = .ok (.ifCond .le 7, 3) := by decide +kernel
theorem dX3_times_15 : decode cX3_times 15 = .ok (.aload_n 0, 1) := by decide +kernel
theorem dX3_times_16 : decode cX3_times 16 = .ok (.invokevirtual 24, 3) := by decide +kernel
theorem dX3_times_19 : decode cX3_times 19 = .ok (.aload_n 0, 1) := by decide +kernel
theorem dX3_times_20 : decode cX3_times 20 = .ok (.dup, 1) := by decide +kernel
theorem dX3_times_21 : decode cX3_times 21 = .ok (.getfield 19, 3) := by decide +kernel
theorem dX3_times_24 : decode cX3_times 24 = .ok (.iload_n 1, 1) := by decide +kernel
theorem dX3_times_25 : decode cX3_times 25 = .ok (.imul, 1) := by decide +kernel
theorem dX3_times_26 : decode cX3_times 26 = .ok (.putfield 19, 3) := by decide +kernel
theorem dX3_times_29 : decode cX3_times 29 = .ok (.return_, 1) := by decide +kernel
theorem dX3_highestBit_0 : decode cX3_highestBit 0 = .ok (.aload_n 0, 1) := by decide +kernel
theorem dX3_highestBit_1 : decode cX3_highestBit 1 = .ok (.invokevirtual 24, 3) := by decide +kernel
theorem dX3_highestBit_4 : decode cX3_highestBit 4 = .ok (.aload_n 0, 1) := by decide +kernel
theorem dX3_highestBit_5 : decode cX3_highestBit 5 = .ok (.getfield 11, 3) := by decide +kernel
theorem dX3_highestBit_8 : decode cX3_highestBit 8 = .ok (.aload_n 0, 1) := by decide +kernel
theorem dX3_highestBit_9 : decode cX3_highestBit 9 = .ok (.getfield 15, 3) := by decide +kernel
theorem dX3_highestBit_12 : decode cX3_highestBit 12 = .ok (.iconst 1, 1) := by decide +kernel
theorem dX3_highestBit_13 : decode cX3_highestBit 13 = .ok (.isub, 1) := by decide +kernel
theorem dX3_highestBit_14 : decode cX3_highestBit 14 = .ok (.iaload, 1) := by decide +kernel
theorem dX3_highestBit_15 : decode cX3_highestBit 15 = .ok (.istore_n 1, 1) := by decide +kernel
theorem dX3_highestBit_16 : decode cX3_highestBit 16 = .ok (.bipush 30, 2) := by decide +kernel
theorem dX3_highestBit_18 : decode cX3_highestBit 18 = .ok (.aload_n 0, 1) := by decide +kernel
theorem dX3_highestBit_19 : decode cX3_highestBit 19 = .ok (.getfield 15, 3) := by decide +kernel
theorem dX3_highestBit_22 : decode cX3_highestBit 22 = .ok (.iconst 1, 1) := by decide +kernel
theorem dX3_highestBit_23 : decode cX3_highestBit 23 = .ok (.isub, 1) := by decide +kernel
theorem dX3_highestBit_24 : decode cX3_highestBit 24 = .ok (.imul, 1) := by decide +kernel
theorem dX3_highestBit_25 : decode cX3_highestBit 25 = .ok (.bipush 31, 2) := by decide +kernel
theorem dX3_highestBit_27 : decode cX3_highestBit 27 = .ok (.iadd, 1) := by decide +kernel
theorem dX3_highestBit_28 : decode cX3_highestBit 28 = .ok (.iload_n 1, 1) := by decide +kernel
theorem dX3_highestBit_29 : decode cX3_highestBit 29 = .ok (.invokestatic 27, 3) := by decide +kernel
theorem dX3_highestBit_32 : decode cX3_highestBit 32 = .ok (.isub, 1) := by decide +kernel
theorem dX3_highestBit_33 : decode cX3_highestBit 33 = .ok (.ireturn, 1) := by decide +kernel
theorem dX3_multiply_0 : decode cX3_multiply 0 = .ok (.lconst 0, 1) := by decide +kernel
theorem dX3_multiply_1 : decode cX3_multiply 1 = .ok (.lstore_n 1, 1) := by decide +kernel
theorem dX3_multiply_2 : decode cX3_multiply 2 = .ok (.iconst 0, 1) := by decide +kernel
theorem dX3_multiply_3 : decode cX3_multiply 3 = .ok (.istore_n 3, 1) := by decide +kernel
theorem dX3_multiply_4 : decode cX3_multiply 4 = .ok (.iload_n 3, 1) := by decide +kernel
theorem dX3_multiply_5 : decode cX3_multiply 5 = .ok (.aload_n 0, 1) := by decide +kernel
theorem dX3_multiply_6 : decode cX3_multiply 6 = .ok (.getfield 15, 3) := by decide +kernel
theorem dX3_multiply_9 : decode cX3_multiply 9 = .ok (.if_icmp .ge 45, 3) := by decide +kernel
theorem dX3_multiply_12 : decode cX3_multiply 12 = .ok (.aload_n 0, 1) := by decide +kernel
theorem dX3_multiply_13 : decode cX3_multiply 13 = .ok (.getfield 11, 3) := by decide +kernel
theorem dX3_multiply_16 : decode cX3_multiply 16 = .ok (.iload_n 3, 1) := by decide +kernel
theorem dX3_multiply_17 : decode cX3_multiply 17 = .ok (.iaload, 1) := by decide +kernel
theorem dX3_multiply_18 : decode cX3_multiply 18 = .ok (.i2l, 1) := by decide +kernel
theorem dX3_multiply_19 : decode cX3_multiply 19 = .ok (.aload_n 0, 1) := by decide +kernel
theorem dX3_multiply_20 : decode cX3_multiply 20 = .ok (.getfield 19, 3) := by decide +kernel
theorem dX3_multiply_23 : decode cX3_multiply 23 = .ok (.i2l, 1) := by decide +kernel
theorem dX3_multiply_24 : decode cX3_multiply 24 = .ok (.lmul, 1) := by decide +kernel
theorem dX3_multiply_25 : decode cX3_multiply 25 = .ok (.lload_n 1, 1) := by decide +kernel
theorem dX3_multiply_26 : decode cX3_multiply 26 = .ok (.ladd, 1) := by decide +kernel
theorem dX3_multiply_27 : decode cX3_multiply 27 = .ok (.lstore 4, 2) := by decide +kernel
theorem dX3_multiply_29 : decode cX3_multiply 29 = .ok (.aload_n 0, 1) := by decide +kernel
theorem dX3_multiply_30 : decode cX3_multiply 30 = .ok (.getfield 11, 3) := by decide +kernel
theorem dX3_multiply_33 : decode cX3_multiply 33 = .ok (.iload_n 3, 1) := by decide +kernel
theorem dX3_multiply_34 : decode cX3_multiply 34 = .ok (.lload 4, 2) := by decide +kernel
theorem dX3_multiply_36 : decode cX3_multiply 36 = .ok (.ldc2_w 22, 3) := by decide +kernel
theorem dX3_multiply_39 : decode cX3_multiply 39 = .ok (.land, 1) := by decide +kernel
theorem dX3_multiply_40 : decode cX3_multiply 40 = .ok (.l2i, 1) := by decide +kernel
theorem dX3_multiply_41 : decode cX3_multiply 41 = .ok (.iastore, 1) := by decide +kernel
theorem dX3_multiply_42 : decode cX3_multiply 42 = .ok (.lload 4, 2) := by decide +kernel
theorem dX3_multiply_44 : decode cX3_multiply 44 = .ok (.bipush 30, 2) := by decide +kernel
theorem dX3_multiply_46 : decode cX3_multiply 46 = .ok (.lshr, 1) := by decide +kernel
theorem dX3_multiply_47 : decode cX3_multiply 47 = .ok (.lstore_n 1, 1) := by decide +kernel
theorem dX3_multiply_48 : decode cX3_multiply 48 = .ok (.iinc 3 1, 3) := by decide +kernel
theorem dX3_multiply_51 : decode cX3_multiply 51 = .ok (.goto (-47), 3) := by decide +kernel
theorem dX3_multiply_54 : decode cX3_multiply 54 = .ok (.lload_n 1, 1) := by decide +kernel
theorem dX3_multiply_55 : decode cX3_multiply 55 = .ok (.lconst 0, 1) := by decide +kernel
theorem dX3_multiply_56 : decode cX3_multiply 56 = .ok (.lcmp, 1) := by decide +kernel
theorem dX3_multiply_57 : decode cX3_multiply 57 = .ok (.ifCond .le 34, 3) := by decide +kernel
theorem dX3_multiply_60 : decode cX3_multiply 60 = .ok (.aload_n 0, 1) := by decide +kernel
theorem dX3_multiply_61 : decode cX3_multiply 61 = .ok (.getfield 15, 3) := by decide +kernel
theorem dX3_multiply_64 : decode cX3_multiply 64 = .ok (.sipush 562, 3) := by decide +kernel
theorem dX3_multiply_67 : decode cX3_multiply 67 = .ok (.if_icmp .ge 24, 3) := by decide +kernel
theorem dX3_multiply_70 : decode cX3_multiply 70 = .ok (.aload_n 0, 1) := by decide +kernel
theorem dX3_multiply_71 : decode cX3_multiply 71 = .ok (.getfield 11, 3) := by decide +kernel
theorem dX3_multiply_74 : decode cX3_multiply 74 = .ok (.aload_n 0, 1) := by decide +kernel
theorem dX3_multiply_75 : decode cX3_multiply 75 = .ok (.getfield 15, 3) := by decide +kernel
theorem dX3_multiply_78 : decode cX3_multiply 78 = .ok (.lload_n 1, 1) := by decide +kernel
theorem dX3_multiply_79 : decode cX3_multiply 79 = .ok (.l2i, 1) := by decide +kernel
theorem dX3_multiply_80 : decode cX3_multiply 80 = .ok (.iastore, 1) := by decide +kernel
theorem dX3_multiply_81 : decode cX3_multiply 81 = .ok (.aload_n 0, 1) := by decide +kernel
theorem dX3_multiply_82 : decode cX3_multiply 82 = .ok (.dup, 1) := by decide +kernel
theorem dX3_multiply_83 : decode cX3_multiply 83 = .ok (.getfield 15, 3) := by decide +kernel
theorem dX3_multiply_86 : decode cX3_multiply 86 = .ok (.iconst 1, 1) := by decide +kernel
theorem dX3_multiply_87 : decode cX3_multiply 87 = .ok (.iadd, 1) := by decide +kernel
theorem dX3_multiply_88 : decode cX3_multiply 88 = .ok (.putfield 15, 3) := by decide +kernel
theorem dX3_multiply_91 : decode cX3_multiply 91 = .ok (.aload_n 0, 1) := by decide +kernel
theorem dX3_multiply_92 : decode cX3_multiply 92 = .ok (.iconst 1, 1) := by decide +kernel
theorem dX3_multiply_93 : decode cX3_multiply 93 = .ok (.putfield 19, 3) := by decide +kernel
theorem dX3_multiply_96 : decode cX3_multiply 96 = .ok (.return_, 1) := by decide +kernel
theorem dX4_init_0 : decode cX4_init 0 = .ok (.aload_n 0, 1) := by decide +kernel
theorem dX4_init_1 : decode cX4_init 1 = .ok (.invokespecial 3, 3) := by decide +kernel
theorem dX4_init_4 : decode cX4_init 4 = .ok (.aload_n 0, 1) := by decide +kernel
theorem dX4_init_5 : decode cX4_init 5 = .ok (.sipush 4000, 3) := by decide +kernel
theorem dX4_init_8 : decode cX4_init 8 = .ok (.newarray .byte, 2) := by decide +kernel
theorem dX4_init_10 : decode cX4_init 10 = .ok (.putfield 9, 3) := by decide +kernel
theorem dX4_init_13 : decode cX4_init 13 = .ok (.aload_n 0, 1) := by decide +kernel
theorem dX4_init_14 : decode cX4_init 14 = .ok (.iconst 0, 1) := by decide +kernel
theorem dX4_init_15 : decode cX4_init 15 = .ok (.putfield 15, 3) := by decide +kernel
theorem dX4_init_18 : decode cX4_init 18 = .ok (.return_, 1) := by decide +kernel
theorem dX4_byteAt_0 : decode cX4_byteAt 0 = .ok (.iload_n 1, 1) := by decide +kernel
theorem dX4_byteAt_1 : decode cX4_byteAt 1 = .ok (.ifCond .lt 18, 3) := by decide +kernel
theorem dX4_byteAt_4 : decode cX4_byteAt 4 = .ok (.iload_n 1, 1) := by decide +kernel
theorem dX4_byteAt_5 : decode cX4_byteAt 5 = .ok (.aload_n 0, 1) := by decide +kernel
theorem dX4_byteAt_6 : decode cX4_byteAt 6 = .ok (.getfield 15, 3) := by decide +kernel
theorem dX4_byteAt_9 : decode cX4_byteAt 9 = .ok (.if_icmp .ge 10, 3) := by decide +kernel
theorem dX4_byteAt_12 : decode cX4_byteAt 12 = .ok (.iload_n 1, 1) := by decide +kernel
theorem dX4_byteAt_13 : decode cX4_byteAt 13 = .ok (.sipush 4000, 3) := by decide +kernel
theorem dX4_byteAt_16 : decode cX4_byteAt 16 = .ok (.if_icmp .lt 7, 3) := by decide +kernel
theorem dX4_byteAt_19 : decode cX4_byteAt 19 = .ok (.iconst (-1), 1) := by decide +kernel
theorem dX4_byteAt_20 : decode cX4_byteAt 20 = .ok (.goto 13, 3) := by decide +kernel
theorem dX4_byteAt_23 : decode cX4_byteAt 23 = .ok (.aload_n 0, 1) := by decide +kernel
theorem dX4_byteAt_24 : decode cX4_byteAt 24 = .ok (.getfield 9, 3) := by decide +kernel
theorem dX4_byteAt_27 : decode cX4_byteAt 27 = .ok (.iload_n 1, 1) := by decide +kernel
theorem dX4_byteAt_28 : decode cX4_byteAt 28 = .ok (.baload, 1) := by decide +kernel
theorem dX4_byteAt_29 : decode cX4_byteAt 29 = .ok (.sipush 255, 3) := by decide +kernel
theorem dX4_byteAt_32 : decode cX4_byteAt 32 = .ok (.iand, 1) := by decide +kernel
theorem dX4_byteAt_33 : decode cX4_byteAt 33 = .ok (.ireturn, 1) := by decide +kernel
theorem dX4_add_0 : decode cX4_add 0 = .ok (.aload_n 0, 1) := by decide +kernel
theorem dX4_add_1 : decode cX4_add 1 = .ok (.getfield 15, 3) := by decide +kernel
theorem dX4_add_4 : decode cX4_add 4 = .ok (.ifCond .lt 34, 3) := by decide +kernel
theorem dX4_add_7 : decode cX4_add 7 = .ok (.aload_n 0, 1) := by decide +kernel
theorem dX4_add_8 : decode cX4_add 8 = .ok (.getfield 15, 3) := by decide +kernel
theorem dX4_add_11 : decode cX4_add 11 = .ok (.sipush 4000, 3) := by decide +kernel
theorem dX4_add_14 : decode cX4_add 14 = .ok (.if_icmp .ge 24, 3) := by decide +kernel
theorem dX4_add_17 : decode cX4_add 17 = .ok (.aload_n 0, 1) := by decide +kernel
theorem dX4_add_18 : decode cX4_add 18 = .ok (.getfield 9, 3) := by decide +kernel
theorem dX4_add_21 : decode cX4_add 21 = .ok (.aload_n 0, 1) := by decide +kernel
theorem dX4_add_22 : decode cX4_add 22 = .ok (.getfield 15, 3) := by decide +kernel
theorem dX4_add_25 : decode cX4_add 25 = .ok (.iload_n 1, 1) := by decide +kernel
theorem dX4_add_26 : decode cX4_add 26 = .ok (.i2b, 1) := by decide +kernel
theorem dX4_add_27 : decode cX4_add 27 = .ok (.bastore, 1) := by decide +kernel
theorem dX4_add_28 : decode cX4_add 28 = .ok (.aload_n 0, 1) := by decide +kernel
theorem dX4_add_29 : decode cX4_add 29 = .ok (.dup, 1) := by decide +kernel
theorem dX4_add_30 : decode cX4_add 30 = .ok (.getfield 15, 3) := by decide +kernel
theorem dX4_add_33 : decode cX4_add 33 = .ok (.iconst 1, 1) := by decide +kernel
theorem dX4_add_34 : decode cX4_add 34 = .ok (.iadd, 1) := by decide +kernel
theorem dX4_add_35 : decode cX4_add 35 = .ok (.putfield 15, 3) := by decide +kernel
theorem dX4_add_38 : decode cX4_add 38 = .ok (.return_, 1) := by decide +kernel
theorem dX4_addNumber_0 : decode cX4_addNumber 0 = .ok (.iload_n 2, 1) := by decide +kernel
theorem dX4_addNumber_1 : decode cX4_addNumber 1 = .ok (.iconst 1, 1) := by decide +kernel
theorem dX4_addNumber_2 : decode cX4_addNumber 2 = .ok (.isub, 1) := by decide +kernel
theorem dX4_addNumber_3 : decode cX4_addNumber 3 = .ok (.istore_n 3, 1) := by decide +kernel
theorem dX4_addNumber_4 : decode cX4_addNumber 4 = .ok (.iload_n 3, 1) := by decide +kernel
theorem dX4_addNumber_5 : decode cX4_addNumber 5 = .ok (.ifCond .lt 19, 3) := by decide +kernel
theorem dX4_addNumber_8 : decode cX4_addNumber 8 = .ok (.aload_n 0, 1) := by decide +kernel
theorem dX4_addNumber_9 : decode cX4_addNumber 9 = .ok (.iload_n 1, 1) := by decide +kernel
theorem dX4_addNumber_10 : decode cX4_addNumber 10 = .ok (.bipush 8, 2) := by decide +kernel
theorem dX4_addNumber_12 : decode cX4_addNumber 12 = .ok (.iload_n 3, 1) := by decide +kernel
theorem dX4_addNumber_13 : decode cX4_addNumber 13 = .ok (.imul, 1) := by decide +kernel
theorem dX4_addNumber_14 : decode cX4_addNumber 14 = .ok (.iushr, 1) := by decide +kernel
theorem dX4_addNumber_15 : decode cX4_addNumber 15 = .ok (.invokevirtual 19, 3) := by decide +kernel
theorem dX4_addNumber_18 : decode cX4_addNumber 18 = .ok (.iinc 3 (-1), 3) := by decide +kernel
theorem dX4_addNumber_21 : decode cX4_addNumber 21 = .ok (.goto (-17), 3) := by decide +kernel
theorem dX4_addNumber_24 : decode cX4_addNumber 24 = .ok (.return_, 1) := by decide +kernel
theorem dX4_copy_0 : decode cX4_copy 0 = .ok (.aload_n 1, 1) := by decide +kernel
theorem dX4_copy_1 : decode cX4_copy 1 = .ok (.getfield 9, 3) := by decide +kernel
theorem dX4_copy_4 : decode cX4_copy 4 = .ok (.iconst 0, 1) := by decide +kernel
theorem dX4_copy_5 : decode cX4_copy 5 = .ok (.aload_n 0, 1) := by decide +kernel
theorem dX4_copy_6 : decode cX4_copy 6 = .ok (.getfield 9, 3) := by decide +kernel
theorem dX4_copy_9 : decode cX4_copy 9 = .ok (.iconst 0, 1) := by decide +kernel
theorem dX4_copy_10 : decode cX4_copy 10 = .ok (.sipush 4000, 3) := by decide +kernel
theorem dX4_copy_13 : decode cX4_copy 13 = .ok (.invokestatic 23, 3) := by decide +kernel
theorem dX4_copy_16 : decode cX4_copy 16 = .ok (.aload_n 0, 1) := by decide +kernel
theorem dX4_copy_17 : decode cX4_copy 17 = .ok (.aload_n 1, 1) := by decide +kernel
theorem dX4_copy_18 : decode cX4_copy 18 = .ok (.getfield 15, 3) := by decide +kernel
theorem dX4_copy_21 : decode cX4_copy 21 = .ok (.putfield 15, 3) := by decide +kernel
theorem dX4_copy_24 : decode cX4_copy 24 = .ok (.return_, 1) := by decide +kernel
theorem dX5_init_0 : decode cX5_init 0 = .ok (.aload_n 0, 1) := by decide +kernel
theorem dX5_init_1 : decode cX5_init 1 = .ok (.invokespecial 3, 3) := by decide +kernel
theorem dX5_init_4 : decode cX5_init 4 = .ok (.aload_n 0, 1) := by decide +kernel
theorem dX5_init_5 : decode cX5_init 5 = .ok (.sipush 4096, 3) := by decide +kernel
theorem dX5_init_8 : decode cX5_init 8 = .ok (.newarray .int, 2) := by decide +kernel
theorem dX5_init_10 : decode cX5_init 10 = .ok (.putfield 9, 3) := by decide +kernel
theorem dX5_init_13 : decode cX5_init 13 = .ok (.aload_n 0, 1) := by decide +kernel
theorem dX5_init_14 : decode cX5_init 14 = .ok (.sipush 4096, 3) := by decide +kernel
theorem dX5_init_17 : decode cX5_init 17 = .ok (.newarray .int, 2) := by decide +kernel
theorem dX5_init_19 : decode cX5_init 19 = .ok (.putfield 15, 3) := by decide +kernel
theorem dX5_init_22 : decode cX5_init 22 = .ok (.aload_n 0, 1) := by decide +kernel
theorem dX5_init_23 : decode cX5_init 23 = .ok (.sipush 256, 3) := by decide +kernel
theorem dX5_init_26 : decode cX5_init 26 = .ok (.newarray .int, 2) := by decide +kernel
theorem dX5_init_28 : decode cX5_init 28 = .ok (.putfield 18, 3) := by decide +kernel
theorem dX5_init_31 : decode cX5_init 31 = .ok (.aload_n 0, 1) := by decide +kernel
theorem dX5_init_32 : decode cX5_init 32 = .ok (.sipush 256, 3) := by decide +kernel
theorem dX5_init_35 : decode cX5_init 35 = .ok (.newarray .int, 2) := by decide +kernel
theorem dX5_init_37 : decode cX5_init 37 = .ok (.putfield 21, 3) := by decide +kernel
theorem dX5_init_40 : decode cX5_init 40 = .ok (.aload_n 0, 1) := by decide +kernel
theorem dX5_init_41 : decode cX5_init 41 = .ok (.sipush 256, 3) := by decide +kernel
theorem dX5_init_44 : decode cX5_init 44 = .ok (.newarray .int, 2) := by decide +kernel
theorem dX5_init_46 : decode cX5_init 46 = .ok (.putfield 24, 3) := by decide +kernel
theorem dX5_init_49 : decode cX5_init 49 = .ok (.aload_n 0, 1) := by decide +kernel
theorem dX5_init_50 : decode cX5_init 50 = .ok (.sipush 256, 3) := by decide +kernel
theorem dX5_init_53 : decode cX5_init 53 = .ok (.newarray .int, 2) := by decide +kernel
theorem dX5_init_55 : decode cX5_init 55 = .ok (.putfield 27, 3) := by decide +kernel
theorem dX5_init_58 : decode cX5_init 58 = .ok (.aload_n 0, 1) := by decide +kernel
theorem dX5_init_59 : decode cX5_init 59 = .ok (.iconst 0, 1) := by decide +kernel
theorem dX5_init_60 : decode cX5_init 60 = .ok (.putfield 30, 3) := by decide +kernel
theorem dX5_init_63 : decode cX5_init 63 = .ok (.aload_n 0, 1) := by decide +kernel
theorem dX5_init_64 : decode cX5_init 64 = .ok (.iconst 0, 1) := by decide +kernel
theorem dX5_init_65 : decode cX5_init 65 = .ok (.putfield 34, 3) := by decide +kernel
theorem dX5_init_68 : decode cX5_init 68 = .ok (.aload_n 0, 1) := by decide +kernel
theorem dX5_init_69 : decode cX5_init 69 = .ok (.iconst (-1), 1) := by decide +kernel
theorem dX5_init_70 : decode cX5_init 70 = .ok (.putfield 37, 3) := by decide +kernel
theorem dX5_init_73 : decode cX5_init 73 = .ok (.aload_n 0, 1) := by decide +kernel
theorem dX5_init_74 : decode cX5_init 74 = .ok (.aconst_null, 1) := by decide +kernel
theorem dX5_init_75 : decode cX5_init 75 = .ok (.putfield 40, 3) := by decide +kernel
theorem dX5_init_78 : decode cX5_init 78 = .ok (.return_, 1) := by decide +kernel
theorem dX5_forget_0 : decode cX5_forget 0 = .ok (.aload_n 0, 1) := by decide +kernel
theorem dX5_forget_1 : decode cX5_forget 1 = .ok (.aconst_null, 1) := by decide +kernel
theorem dX5_forget_2 : decode cX5_forget 2 = .ok (.putfield 40, 3) := by decide +kernel
theorem dX5_forget_5 : decode cX5_forget 5 = .ok (.return_, 1) := by decide +kernel
theorem dX5_shareOf_0 : decode cX5_shareOf 0 = .ok (.iload_n 1, 1) := by decide +kernel
theorem dX5_shareOf_1 : decode cX5_shareOf 1 = .ok (.invokestatic 44, 3) := by decide +kernel
theorem dX5_shareOf_4 : decode cX5_shareOf 4 = .ok (.ifCond .eq 12, 3) := by decide +kernel
theorem dX5_shareOf_7 : decode cX5_shareOf 7 = .ok (.aload_n 0, 1) := by decide +kernel
theorem dX5_shareOf_8 : decode cX5_shareOf 8 = .ok (.getfield 18, 3) := by decide +kernel
theorem dX5_shareOf_11 : decode cX5_shareOf 11 = .ok (.iload_n 1, 1) := by decide +kernel
theorem dX5_shareOf_12 : decode cX5_shareOf 12 = .ok (.iaload, 1) := by decide +kernel
theorem dX5_shareOf_13 : decode cX5_shareOf 13 = .ok (.goto 4, 3) := by decide +kernel
theorem dX5_shareOf_16 : decode cX5_shareOf 16 = .ok (.iconst 0, 1) := by decide +kernel
theorem dX5_shareOf_17 : decode cX5_shareOf 17 = .ok (.ireturn, 1) := by decide +kernel
theorem dX5_startOf_0 : decode cX5_startOf 0 = .ok (.iload_n 1, 1) := by decide +kernel
theorem dX5_startOf_1 : decode cX5_startOf 1 = .ok (.invokestatic 44, 3) := by decide +kernel
theorem dX5_startOf_4 : decode cX5_startOf 4 = .ok (.ifCond .eq 12, 3) := by decide +kernel
theorem dX5_startOf_7 : decode cX5_startOf 7 = .ok (.aload_n 0, 1) := by decide +kernel
theorem dX5_startOf_8 : decode cX5_startOf 8 = .ok (.getfield 21, 3) := by decide +kernel
theorem dX5_startOf_11 : decode cX5_startOf 11 = .ok (.iload_n 1, 1) := by decide +kernel
theorem dX5_startOf_12 : decode cX5_startOf 12 = .ok (.iaload, 1) := by decide +kernel
theorem dX5_startOf_13 : decode cX5_startOf 13 = .ok (.goto 4, 3) := by decide +kernel
theorem dX5_startOf_16 : decode cX5_startOf 16 = .ok (.iconst 0, 1) := by decide +kernel
theorem dX5_startOf_17 : decode cX5_startOf 17 = .ok (.ireturn, 1) := by decide +kernel
theorem dX5_symbolAt_0 : decode cX5_symbolAt 0 = .ok (.iload_n 1, 1) := by decide +kernel
theorem dX5_symbolAt_1 : decode cX5_symbolAt 1 = .ok (.ifCond .lt 24, 3) := by decide +kernel
theorem dX5_symbolAt_4 : decode cX5_symbolAt 4 = .ok (.iload_n 1, 1) := by decide +kernel
theorem dX5_symbolAt_5 : decode cX5_symbolAt 5 = .ok (.aload_n 0, 1) := by decide +kernel
theorem dX5_symbolAt_6 : decode cX5_symbolAt 6 = .ok (.getfield 34, 3) := by decide +kernel
theorem dX5_symbolAt_9 : decode cX5_symbolAt 9 = .ok (.if_icmp .ge 16, 3) := by decide +kernel
theorem dX5_symbolAt_12 : decode cX5_symbolAt 12 = .ok (.aload_n 0, 1) := by decide +kernel
theorem dX5_symbolAt_13 : decode cX5_symbolAt 13 = .ok (.getfield 9, 3) := by decide +kernel
theorem dX5_symbolAt_16 : decode cX5_symbolAt 16 = .ok (.iload_n 1, 1) := by decide +kernel
theorem dX5_symbolAt_17 : decode cX5_symbolAt 17 = .ok (.iaload, 1) := by decide +kernel
theorem dX5_symbolAt_18 : decode cX5_symbolAt 18 = .ok (.sipush 255, 3) := by decide +kernel
theorem dX5_symbolAt_21 : decode cX5_symbolAt 21 = .ok (.iand, 1) := by decide +kernel
theorem dX5_symbolAt_22 : decode cX5_symbolAt 22 = .ok (.goto 4, 3) := by decide +kernel
theorem dX5_symbolAt_25 : decode cX5_symbolAt 25 = .ok (.iconst 0, 1) := by decide +kernel
theorem dX5_symbolAt_26 : decode cX5_symbolAt 26 = .ok (.ireturn, 1) := by decide +kernel
theorem dX5_rankAt_0 : decode cX5_rankAt 0 = .ok (.iload_n 1, 1) := by decide +kernel
theorem dX5_rankAt_1 : decode cX5_rankAt 1 = .ok (.ifCond .lt 23, 3) := by decide +kernel
theorem dX5_rankAt_4 : decode cX5_rankAt 4 = .ok (.iload_n 1, 1) := by decide +kernel
theorem dX5_rankAt_5 : decode cX5_rankAt 5 = .ok (.aload_n 0, 1) := by decide +kernel
theorem dX5_rankAt_6 : decode cX5_rankAt 6 = .ok (.getfield 34, 3) := by decide +kernel
theorem dX5_rankAt_9 : decode cX5_rankAt 9 = .ok (.if_icmp .ge 15, 3) := by decide +kernel
theorem dX5_rankAt_12 : decode cX5_rankAt 12 = .ok (.aload_n 0, 1) := by decide +kernel
theorem dX5_rankAt_13 : decode cX5_rankAt 13 = .ok (.getfield 9, 3) := by decide +kernel
theorem dX5_rankAt_16 : decode cX5_rankAt 16 = .ok (.iload_n 1, 1) := by decide +kernel
theorem dX5_rankAt_17 : decode cX5_rankAt 17 = .ok (.iaload, 1) := by decide +kernel
theorem dX5_rankAt_18 : decode cX5_rankAt 18 = .ok (.bipush 8, 2) := by decide +kernel
theorem dX5_rankAt_20 : decode cX5_rankAt 20 = .ok (.ishr, 1) := by decide +kernel
theorem dX5_rankAt_21 : decode cX5_rankAt 21 = .ok (.goto 4, 3) := by decide +kernel
theorem dX5_rankAt_24 : decode cX5_rankAt 24 = .ok (.iconst 0, 1) := by decide +kernel
theorem dX5_rankAt_25 : decode cX5_rankAt 25 = .ok (.ireturn, 1) := by decide +kernel
theorem dX5_placeOf_0 : decode cX5_placeOf 0 = .ok (.aload_n 0, 1) := by decide +kernel
theorem dX5_placeOf_1 : decode cX5_placeOf 1 = .ok (.iload_n 1, 1) := by decide +kernel
theorem dX5_placeOf_2 : decode cX5_placeOf 2 = .ok (.invokevirtual 48, 3) := by decide +kernel
theorem dX5_placeOf_5 : decode cX5_placeOf 5 = .ok (.iload_n 2, 1) := by decide +kernel
theorem dX5_placeOf_6 : decode cX5_placeOf 6 = .ok (.iadd, 1) := by decide +kernel
theorem dX5_placeOf_7 : decode cX5_placeOf 7 = .ok (.aload_n 0, 1) := by decide +kernel
theorem dX5_placeOf_8 : decode cX5_placeOf 8 = .ok (.iload_n 1, 1) := by decide +kernel
theorem dX5_placeOf_9 : decode cX5_placeOf 9 = .ok (.invokevirtual 52, 3) := by decide +kernel
theorem dX5_placeOf_12 : decode cX5_placeOf 12 = .ok (.isub, 1) := by decide +kernel
theorem dX5_placeOf_13 : decode cX5_placeOf 13 = .ok (.istore_n 3, 1) := by decide +kernel
theorem dX5_placeOf_14 : decode cX5_placeOf 14 = .ok (.iload_n 3, 1) := by decide +kernel
theorem dX5_placeOf_15 : decode cX5_placeOf 15 = .ok (.ifCond .lt 20, 3) := by decide +kernel
theorem dX5_placeOf_18 : decode cX5_placeOf 18 = .ok (.iload_n 3, 1) := by decide +kernel
theorem dX5_placeOf_19 : decode cX5_placeOf 19 = .ok (.aload_n 0, 1) := by decide +kernel
theorem dX5_placeOf_20 : decode cX5_placeOf 20 = .ok (.getfield 34, 3) := by decide +kernel
theorem dX5_placeOf_23 : decode cX5_placeOf 23 = .ok (.if_icmp .ge 12, 3) := by decide +kernel
theorem dX5_placeOf_26 : decode cX5_placeOf 26 = .ok (.aload_n 0, 1) := by decide +kernel
theorem dX5_placeOf_27 : decode cX5_placeOf 27 = .ok (.getfield 15, 3) := by decide +kernel
theorem dX5_placeOf_30 : decode cX5_placeOf 30 = .ok (.iload_n 3, 1) := by decide +kernel
theorem dX5_placeOf_31 : decode cX5_placeOf 31 = .ok (.iaload, 1) := by decide +kernel
theorem dX5_placeOf_32 : decode cX5_placeOf 32 = .ok (.goto 4, 3) := by decide +kernel
theorem dX5_placeOf_35 : decode cX5_placeOf 35 = .ok (.iconst 0, 1) := by decide +kernel
theorem dX5_placeOf_36 : decode cX5_placeOf 36 = .ok (.ireturn, 1) := by decide +kernel
theorem dX5_lay_0 : decode cX5_lay 0 = .ok (.aload_n 1, 1) := by decide +kernel
theorem dX5_lay_1 : decode cX5_lay 1 = .ok (.aload_n 0, 1) := by decide +kernel
theorem dX5_lay_2 : decode cX5_lay 2 = .ok (.getfield 40, 3) := by decide +kernel
theorem dX5_lay_5 : decode cX5_lay 5 = .ok (.if_acmp .ne 12, 3) := by decide +kernel
theorem dX5_lay_8 : decode cX5_lay 8 = .ok (.iload_n 2, 1) := by decide +kernel
theorem dX5_lay_9 : decode cX5_lay 9 = .ok (.aload_n 0, 1) := by decide +kernel
theorem dX5_lay_10 : decode cX5_lay 10 = .ok (.getfield 37, 3) := by decide +kernel
theorem dX5_lay_13 : decode cX5_lay 13 = .ok (.if_icmp .ne 4, 3) := by decide +kernel
theorem dX5_lay_16 : decode cX5_lay 16 = .ok (.return_, 1) := by decide +kernel
theorem dX5_lay_17 : decode cX5_lay 17 = .ok (.aload_n 0, 1) := by decide +kernel
theorem dX5_lay_18 : decode cX5_lay 18 = .ok (.aload_n 1, 1) := by decide +kernel
theorem dX5_lay_19 : decode cX5_lay 19 = .ok (.putfield 40, 3) := by decide +kernel
theorem dX5_lay_22 : decode cX5_lay 22 = .ok (.aload_n 0, 1) := by decide +kernel
theorem dX5_lay_23 : decode cX5_lay 23 = .ok (.iload_n 2, 1) := by decide +kernel
theorem dX5_lay_24 : decode cX5_lay 24 = .ok (.putfield 37, 3) := by decide +kernel
theorem dX5_lay_27 : decode cX5_lay 27 = .ok (.aload_n 0, 1) := by decide +kernel
theorem dX5_lay_28 : decode cX5_lay 28 = .ok (.aload_n 1, 1) := by decide +kernel
theorem dX5_lay_29 : decode cX5_lay 29 = .ok (.invokevirtual 55, 3) := by decide +kernel
theorem dX5_lay_32 : decode cX5_lay 32 = .ok (.sipush 4096, 3) := by decide +kernel
theorem dX5_lay_35 : decode cX5_lay 35 = .ok (.invokestatic 60, 3) := by decide +kernel
theorem dX5_lay_38 : decode cX5_lay 38 = .ok (.putfield 34, 3) := by decide +kernel
theorem dX5_lay_41 : decode cX5_lay 41 = .ok (.aload_n 0, 1) := by decide +kernel
theorem dX5_lay_42 : decode cX5_lay 42 = .ok (.aload_n 1, 1) := by decide +kernel
theorem dX5_lay_43 : decode cX5_lay 43 = .ok (.invokevirtual 66, 3) := by decide +kernel
theorem dX5_lay_46 : decode cX5_lay 46 = .ok (.aload_n 0, 1) := by decide +kernel
theorem dX5_lay_47 : decode cX5_lay 47 = .ok (.getfield 37, 3) := by decide +kernel
theorem dX5_lay_50 : decode cX5_lay 50 = .ok (.iconst 2, 1) := by decide +kernel
theorem dX5_lay_51 : decode cX5_lay 51 = .ok (.if_icmp .ne 10, 3) := by decide +kernel
theorem dX5_lay_54 : decode cX5_lay 54 = .ok (.aload_n 0, 1) := by decide +kernel
theorem dX5_lay_55 : decode cX5_lay 55 = .ok (.invokevirtual 70, 3) := by decide +kernel
theorem dX5_lay_58 : decode cX5_lay 58 = .ok (.goto 37, 3) := by decide +kernel
theorem dX5_lay_61 : decode cX5_lay 61 = .ok (.aload_n 0, 1) := by decide +kernel
theorem dX5_lay_62 : decode cX5_lay 62 = .ok (.aload_n 0, 1) := by decide +kernel
theorem dX5_lay_63 : decode cX5_lay 63 = .ok (.getfield 37, 3) := by decide +kernel
theorem dX5_lay_66 : decode cX5_lay 66 = .ok (.iconst 1, 1) := by decide +kernel
theorem dX5_lay_67 : decode cX5_lay 67 = .ok (.if_icmp .ne 24, 3) := by decide +kernel
theorem dX5_lay_70 : decode cX5_lay 70 = .ok (.aload_n 0, 1) := by decide +kernel
theorem dX5_lay_71 : decode cX5_lay 71 = .ok (.getfield 34, 3) := by decide +kernel
theorem dX5_lay_74 : decode cX5_lay 74 = .ok (.iconst 2, 1) := by decide +kernel
theorem dX5_lay_75 : decode cX5_lay 75 = .ok (.idiv, 1) := by decide +kernel
theorem dX5_lay_76 : decode cX5_lay 76 = .ok (.aload_n 0, 1) := by decide +kernel
theorem dX5_lay_77 : decode cX5_lay 77 = .ok (.getfield 34, 3) := by decide +kernel
theorem dX5_lay_80 : decode cX5_lay 80 = .ok (.bipush 8, 2) := by decide +kernel
theorem dX5_lay_82 : decode cX5_lay 82 = .ok (.idiv, 1) := by decide +kernel
theorem dX5_lay_83 : decode cX5_lay 83 = .ok (.iadd, 1) := by decide +kernel
theorem dX5_lay_84 : decode cX5_lay 84 = .ok (.iconst 3, 1) := by decide +kernel
theorem dX5_lay_85 : decode cX5_lay 85 = .ok (.iadd, 1) := by decide +kernel
theorem dX5_lay_86 : decode cX5_lay 86 = .ok (.iconst 1, 1) := by decide +kernel
theorem dX5_lay_87 : decode cX5_lay 87 = .ok (.ior, 1) := by decide +kernel
theorem dX5_lay_88 : decode cX5_lay 88 = .ok (.goto 4, 3) := by decide +kernel
theorem dX5_lay_91 : decode cX5_lay 91 = .ok (.iconst 1, 1) := by decide +kernel
theorem dX5_lay_92 : decode cX5_lay 92 = .ok (.invokevirtual 73, 3) := by decide +kernel
theorem dX5_lay_95 : decode cX5_lay 95 = .ok (.aload_n 0, 1) := by decide +kernel
theorem dX5_lay_96 : decode cX5_lay 96 = .ok (.invokevirtual 77, 3) := by decide +kernel
theorem dX5_lay_99 : decode cX5_lay 99 = .ok (.return_, 1) := by decide +kernel
theorem dX5_takeShares_0 : decode cX5_takeShares 0 = .ok (.iconst 0, 1) := by decide +kernel
theorem dX5_takeShares_1 : decode cX5_takeShares 1 = .ok (.istore_n 2, 1) := by decide +kernel
theorem dX5_takeShares_2 : decode cX5_takeShares 2 = .ok (.iconst 0, 1) := by decide +kernel
theorem dX5_takeShares_3 : decode cX5_takeShares 3 = .ok (.istore_n 3, 1) := by decide +kernel
theorem dX5_takeShares_4 : decode cX5_takeShares 4 = .ok (.iload_n 3, 1) := by decide +kernel
theorem dX5_takeShares_5 : decode cX5_takeShares 5 = .ok (.sipush 256, 3) := by decide +kernel
theorem dX5_takeShares_8 : decode cX5_takeShares 8 = .ok (.if_icmp .ge 36, 3) := by decide +kernel
theorem dX5_takeShares_11 : decode cX5_takeShares 11 = .ok (.aload_n 0, 1) := by decide +kernel
theorem dX5_takeShares_12 : decode cX5_takeShares 12 = .ok (.getfield 18, 3) := by decide +kernel
theorem dX5_takeShares_15 : decode cX5_takeShares 15 = .ok (.iload_n 3, 1) := by decide +kernel
theorem dX5_takeShares_16 : decode cX5_takeShares 16 = .ok (.aload_n 1, 1) := by decide +kernel
theorem dX5_takeShares_17 : decode cX5_takeShares 17 = .ok (.iload_n 3, 1) := by decide +kernel
theorem dX5_takeShares_18 : decode cX5_takeShares 18 = .ok (.invokevirtual 80, 3) := by decide +kernel
theorem dX5_takeShares_21 : decode cX5_takeShares 21 = .ok (.iastore, 1) := by decide +kernel
theorem dX5_takeShares_22 : decode cX5_takeShares 22 = .ok (.aload_n 0, 1) := by decide +kernel
theorem dX5_takeShares_23 : decode cX5_takeShares 23 = .ok (.getfield 21, 3) := by decide +kernel
theorem dX5_takeShares_26 : decode cX5_takeShares 26 = .ok (.iload_n 3, 1) := by decide +kernel
theorem dX5_takeShares_27 : decode cX5_takeShares 27 = .ok (.iload_n 2, 1) := by decide +kernel
theorem dX5_takeShares_28 : decode cX5_takeShares 28 = .ok (.iastore, 1) := by decide +kernel
theorem dX5_takeShares_29 : decode cX5_takeShares 29 = .ok (.iload_n 2, 1) := by decide +kernel
theorem dX5_takeShares_30 : decode cX5_takeShares 30 = .ok (.aload_n 0, 1) := by decide +kernel
theorem dX5_takeShares_31 : decode cX5_takeShares 31 = .ok (.getfield 18, 3) := by decide +kernel
theorem dX5_takeShares_34 : decode cX5_takeShares 34 = .ok (.iload_n 3, 1) := by decide +kernel
theorem dX5_takeShares_35 : decode cX5_takeShares 35 = .ok (.iaload, 1) := by decide +kernel
theorem dX5_takeShares_36 : decode cX5_takeShares 36 = .ok (.iadd, 1) := by decide +kernel
theorem dX5_takeShares_37 : decode cX5_takeShares 37 = .ok (.istore_n 2, 1) := by decide +kernel
theorem dX5_takeShares_38 : decode cX5_takeShares 38 = .ok (.iinc 3 1, 3) := by decide +kernel
theorem dX5_takeShares_41 : decode cX5_takeShares 41 = .ok (.goto (-37), 3) := by decide +kernel
theorem dX5_takeShares_44 : decode cX5_takeShares 44 = .ok (.return_, 1) := by decide +kernel
theorem dX5_layByStep_0 : decode cX5_layByStep 0 = .ok (.iconst 0, 1) := by decide +kernel
theorem dX5_layByStep_1 : decode cX5_layByStep 1 = .ok (.istore_n 2, 1) := by decide +kernel
theorem dX5_layByStep_2 : decode cX5_layByStep 2 = .ok (.iconst 0, 1) := by decide +kernel
theorem dX5_layByStep_3 : decode cX5_layByStep 3 = .ok (.istore_n 3, 1) := by decide +kernel
theorem dX5_layByStep_4 : decode cX5_layByStep 4 = .ok (.iload_n 3, 1) := by decide +kernel
theorem dX5_layByStep_5 : decode cX5_layByStep 5 = .ok (.sipush 256, 3) := by decide +kernel
theorem dX5_layByStep_8 : decode cX5_layByStep 8 = .ok (.if_icmp .ge 47, 3) := by decide +kernel
theorem dX5_layByStep_11 : decode cX5_layByStep 11 = .ok (.iconst 0, 1) := by decide +kernel
theorem dX5_layByStep_12 : decode cX5_layByStep 12 = .ok (.istore 4, 2) := by decide +kernel
theorem dX5_layByStep_14 : decode cX5_layByStep 14 = .ok (.iload 4, 2) := by decide +kernel
theorem dX5_layByStep_16 : decode cX5_layByStep 16 = .ok (.aload_n 0, 1) := by decide +kernel
theorem dX5_layByStep_17 : decode cX5_layByStep 17 = .ok (.getfield 18, 3) := by decide +kernel
theorem dX5_layByStep_20 : decode cX5_layByStep 20 = .ok (.iload_n 3, 1) := by decide +kernel
theorem dX5_layByStep_21 : decode cX5_layByStep 21 = .ok (.iaload, 1) := by decide +kernel
theorem dX5_layByStep_22 : decode cX5_layByStep 22 = .ok (.if_icmp .ge 27, 3) := by decide +kernel
theorem dX5_layByStep_25 : decode cX5_layByStep 25 = .ok (.aload_n 0, 1) := by decide +kernel
theorem dX5_layByStep_26 : decode cX5_layByStep 26 = .ok (.getfield 9, 3) := by decide +kernel
theorem dX5_layByStep_29 : decode cX5_layByStep 29 = .ok (.iload_n 2, 1) := by decide +kernel
theorem dX5_layByStep_30 : decode cX5_layByStep 30 = .ok (.iload_n 3, 1) := by decide +kernel
theorem dX5_layByStep_31 : decode cX5_layByStep 31 = .ok (.iastore, 1) := by decide +kernel
theorem dX5_layByStep_32 : decode cX5_layByStep 32 = .ok (.iload_n 2, 1) := by decide +kernel
theorem dX5_layByStep_33 : decode cX5_layByStep 33 = .ok (.iload_n 1, 1) := by decide +kernel
theorem dX5_layByStep_34 : decode cX5_layByStep 34 = .ok (.iadd, 1) := by decide +kernel
theorem dX5_layByStep_35 : decode cX5_layByStep 35 = .ok (.aload_n 0, 1) := by decide +kernel
theorem dX5_layByStep_36 : decode cX5_layByStep 36 = .ok (.getfield 34, 3) := by decide +kernel
theorem dX5_layByStep_39 : decode cX5_layByStep 39 = .ok (.iconst 1, 1) := by decide +kernel
theorem dX5_layByStep_40 : decode cX5_layByStep 40 = .ok (.isub, 1) := by decide +kernel
theorem dX5_layByStep_41 : decode cX5_layByStep 41 = .ok (.iand, 1) := by decide +kernel
theorem dX5_layByStep_42 : decode cX5_layByStep 42 = .ok (.istore_n 2, 1) := by decide +kernel
theorem dX5_layByStep_43 : decode cX5_layByStep 43 = .ok (.iinc 4 1, 3) := by decide +kernel
theorem dX5_layByStep_46 : decode cX5_layByStep 46 = .ok (.goto (-32), 3) := by decide +kernel
theorem dX5_layByStep_49 : decode cX5_layByStep 49 = .ok (.iinc 3 1, 3) := by decide +kernel
theorem dX5_layByStep_52 : decode cX5_layByStep 52 = .ok (.goto (-48), 3) := by decide +kernel
theorem dX5_layByStep_55 : decode cX5_layByStep 55 = .ok (.return_, 1) := by decide +kernel
theorem dX5_layEven_0 : decode cX5_layEven 0 = .ok (.aload_n 0, 1) := by decide +kernel
theorem dX5_layEven_1 : decode cX5_layEven 1 = .ok (.getfield 24, 3) := by decide +kernel
theorem dX5_layEven_4 : decode cX5_layEven 4 = .ok (.iconst 0, 1) := by decide +kernel
theorem dX5_layEven_5 : decode cX5_layEven 5 = .ok (.invokestatic 81, 3) := by decide +kernel
theorem dX5_layEven_8 : decode cX5_layEven 8 = .ok (.aload_n 0, 1) := by decide +kernel
theorem dX5_layEven_9 : decode cX5_layEven 9 = .ok (.iconst 0, 1) := by decide +kernel
theorem dX5_layEven_10 : decode cX5_layEven 10 = .ok (.putfield 30, 3) := by decide +kernel
theorem dX5_layEven_13 : decode cX5_layEven 13 = .ok (.iconst 0, 1) := by decide +kernel
theorem dX5_layEven_14 : decode cX5_layEven 14 = .ok (.istore_n 1, 1) := by decide +kernel
theorem dX5_layEven_15 : decode cX5_layEven 15 = .ok (.iload_n 1, 1) := by decide +kernel
theorem dX5_layEven_16 : decode cX5_layEven 16 = .ok (.sipush 256, 3) := by decide +kernel
theorem dX5_layEven_19 : decode cX5_layEven 19 = .ok (.if_icmp .ge 38, 3) := by decide +kernel
theorem dX5_layEven_22 : decode cX5_layEven 22 = .ok (.aload_n 0, 1) := by decide +kernel
theorem dX5_layEven_23 : decode cX5_layEven 23 = .ok (.getfield 18, 3) := by decide +kernel
theorem dX5_layEven_26 : decode cX5_layEven 26 = .ok (.iload_n 1, 1) := by decide +kernel
theorem dX5_layEven_27 : decode cX5_layEven 27 = .ok (.iaload, 1) := by decide +kernel
theorem dX5_layEven_28 : decode cX5_layEven 28 = .ok (.ifCond .le 23, 3) := by decide +kernel
theorem dX5_layEven_31 : decode cX5_layEven 31 = .ok (.aload_n 0, 1) := by decide +kernel
theorem dX5_layEven_32 : decode cX5_layEven 32 = .ok (.getfield 27, 3) := by decide +kernel
theorem dX5_layEven_35 : decode cX5_layEven 35 = .ok (.aload_n 0, 1) := by decide +kernel
theorem dX5_layEven_36 : decode cX5_layEven 36 = .ok (.getfield 30, 3) := by decide +kernel
theorem dX5_layEven_39 : decode cX5_layEven 39 = .ok (.iload_n 1, 1) := by decide +kernel
theorem dX5_layEven_40 : decode cX5_layEven 40 = .ok (.iastore, 1) := by decide +kernel
theorem dX5_layEven_41 : decode cX5_layEven 41 = .ok (.aload_n 0, 1) := by decide +kernel
theorem dX5_layEven_42 : decode cX5_layEven 42 = .ok (.dup, 1) := by decide +kernel
theorem dX5_layEven_43 : decode cX5_layEven 43 = .ok (.getfield 30, 3) := by decide +kernel
theorem dX5_layEven_46 : decode cX5_layEven 46 = .ok (.iconst 1, 1) := by decide +kernel
theorem dX5_layEven_47 : decode cX5_layEven 47 = .ok (.iadd, 1) := by decide +kernel
theorem dX5_layEven_48 : decode cX5_layEven 48 = .ok (.putfield 30, 3) := by decide +kernel
theorem dX5_layEven_51 : decode cX5_layEven 51 = .ok (.iinc 1 1, 3) := by decide +kernel
theorem dX5_layEven_54 : decode cX5_layEven 54 = .ok (.goto (-39), 3) := by decide +kernel
theorem dX5_layEven_57 : decode cX5_layEven 57 = .ok (.aload_n 0, 1) := by decide +kernel
theorem dX5_layEven_58 : decode cX5_layEven 58 = .ok (.getfield 30, 3) := by decide +kernel
theorem dX5_layEven_61 : decode cX5_layEven 61 = .ok (.iconst 2, 1) := by decide +kernel
theorem dX5_layEven_62 : decode cX5_layEven 62 = .ok (.idiv, 1) := by decide +kernel
theorem dX5_layEven_63 : decode cX5_layEven 63 = .ok (.istore_n 1, 1) := by decide +kernel
theorem dX5_layEven_64 : decode cX5_layEven 64 = .ok (.iload_n 1, 1) := by decide +kernel
theorem dX5_layEven_65 : decode cX5_layEven 65 = .ok (.ifCond .lt 14, 3) := by decide +kernel
theorem dX5_layEven_68 : decode cX5_layEven 68 = .ok (.aload_n 0, 1) := by decide +kernel
theorem dX5_layEven_69 : decode cX5_layEven 69 = .ok (.iload_n 1, 1) := by decide +kernel
theorem dX5_layEven_70 : decode cX5_layEven 70 = .ok (.invokevirtual 87, 3) := by decide +kernel
theorem dX5_layEven_73 : decode cX5_layEven 73 = .ok (.iinc 1 (-1), 3) := by decide +kernel
theorem dX5_layEven_76 : decode cX5_layEven 76 = .ok (.goto (-12), 3) := by decide +kernel
theorem dX5_layEven_79 : decode cX5_layEven 79 = .ok (.iconst 0, 1) := by decide +kernel
theorem dX5_layEven_80 : decode cX5_layEven 80 = .ok (.istore_n 1, 1) := by decide +kernel
theorem dX5_layEven_81 : decode cX5_layEven 81 = .ok (.iload_n 1, 1) := by decide +kernel
theorem dX5_layEven_82 : decode cX5_layEven 82 = .ok (.aload_n 0, 1) := by decide +kernel
theorem dX5_layEven_83 : decode cX5_layEven 83 = .ok (.getfield 34, 3) := by decide +kernel
theorem dX5_layEven_86 : decode cX5_layEven 86 = .ok (.if_icmp .ge 86, 3) := by decide +kernel
theorem dX5_layEven_89 : decode cX5_layEven 89 = .ok (.aload_n 0, 1) := by decide +kernel
theorem dX5_layEven_90 : decode cX5_layEven 90 = .ok (.getfield 27, 3) := by decide +kernel
theorem dX5_layEven_93 : decode cX5_layEven 93 = .ok (.iconst 0, 1) := by decide +kernel
theorem dX5_layEven_94 : decode cX5_layEven 94 = .ok (.iaload, 1) := by decide +kernel
theorem dX5_layEven_95 : decode cX5_layEven 95 = .ok (.istore_n 2, 1) := by decide +kernel
theorem dX5_layEven_96 : decode cX5_layEven 96 = .ok (.aload_n 0, 1) := by decide +kernel
theorem dX5_layEven_97 : decode cX5_layEven 97 = .ok (.getfield 9, 3) := by decide +kernel
theorem dX5_layEven_100 : decode cX5_layEven 100 = .ok (.iload_n 1, 1) := by decide +kernel
theorem dX5_layEven_101 : decode cX5_layEven 101 = .ok (.iload_n 2, 1) := by decide +kernel
theorem dX5_layEven_102 : decode cX5_layEven 102 = .ok (.iastore, 1) := by decide +kernel
theorem dX5_layEven_103 : decode cX5_layEven 103 = .ok (.aload_n 0, 1) := by decide +kernel
theorem dX5_layEven_104 : decode cX5_layEven 104 = .ok (.getfield 24, 3) := by decide +kernel
theorem dX5_layEven_107 : decode cX5_layEven 107 = .ok (.iload_n 2, 1) := by decide +kernel
theorem dX5_layEven_108 : decode cX5_layEven 108 = .ok (.dup2, 1) := by decide +kernel
theorem dX5_layEven_109 : decode cX5_layEven 109 = .ok (.iaload, 1) := by decide +kernel
theorem dX5_layEven_110 : decode cX5_layEven 110 = .ok (.iconst 1, 1) := by decide +kernel
theorem dX5_layEven_111 : decode cX5_layEven 111 = .ok (.iadd, 1) := by decide +kernel
theorem dX5_layEven_112 : decode cX5_layEven 112 = .ok (.iastore, 1) := by decide +kernel
theorem dX5_layEven_113 : decode cX5_layEven 113 = .ok (.aload_n 0, 1) := by decide +kernel
theorem dX5_layEven_114 : decode cX5_layEven 114 = .ok (.getfield 24, 3) := by decide +kernel
theorem dX5_layEven_117 : decode cX5_layEven 117 = .ok (.iload_n 2, 1) := by decide +kernel
theorem dX5_layEven_118 : decode cX5_layEven 118 = .ok (.iaload, 1) := by decide +kernel
theorem dX5_layEven_119 : decode cX5_layEven 119 = .ok (.aload_n 0, 1) := by decide +kernel
theorem dX5_layEven_120 : decode cX5_layEven 120 = .ok (.getfield 18, 3) := by decide +kernel
theorem dX5_layEven_123 : decode cX5_layEven 123 = .ok (.iload_n 2, 1) := by decide +kernel
theorem dX5_layEven_124 : decode cX5_layEven 124 = .ok (.iaload, 1) := by decide +kernel
theorem dX5_layEven_125 : decode cX5_layEven 125 = .ok (.if_icmp .ne 36, 3) := by decide +kernel
theorem dX5_layEven_128 : decode cX5_layEven 128 = .ok (.aload_n 0, 1) := by decide +kernel
theorem dX5_layEven_129 : decode cX5_layEven 129 = .ok (.getfield 30, 3) := by decide +kernel
theorem dX5_layEven_132 : decode cX5_layEven 132 = .ok (.iconst 1, 1) := by decide +kernel
theorem dX5_layEven_133 : decode cX5_layEven 133 = .ok (.if_icmp .le 28, 3) := by decide +kernel
theorem dX5_layEven_136 : decode cX5_layEven 136 = .ok (.aload_n 0, 1) := by decide +kernel
theorem dX5_layEven_137 : decode cX5_layEven 137 = .ok (.dup, 1) := by decide +kernel
theorem dX5_layEven_138 : decode cX5_layEven 138 = .ok (.getfield 30, 3) := by decide +kernel
theorem dX5_layEven_141 : decode cX5_layEven 141 = .ok (.iconst 1, 1) := by decide +kernel
theorem dX5_layEven_142 : decode cX5_layEven 142 = .ok (.isub, 1) := by decide +kernel
theorem dX5_layEven_143 : decode cX5_layEven 143 = .ok (.putfield 30, 3) := by decide +kernel
theorem dX5_layEven_146 : decode cX5_layEven 146 = .ok (.aload_n 0, 1) := by decide +kernel
theorem dX5_layEven_147 : decode cX5_layEven 147 = .ok (.getfield 27, 3) := by decide +kernel
theorem dX5_layEven_150 : decode cX5_layEven 150 = .ok (.iconst 0, 1) := by decide +kernel
theorem dX5_layEven_151 : decode cX5_layEven 151 = .ok (.aload_n 0, 1) := by decide +kernel
theorem dX5_layEven_152 : decode cX5_layEven 152 = .ok (.getfield 27, 3) := by decide +kernel
theorem dX5_layEven_155 : decode cX5_layEven 155 = .ok (.aload_n 0, 1) := by decide +kernel
theorem dX5_layEven_156 : decode cX5_layEven 156 = .ok (.getfield 30, 3) := by decide +kernel
theorem dX5_layEven_159 : decode cX5_layEven 159 = .ok (.iaload, 1) := by decide +kernel
theorem dX5_layEven_160 : decode cX5_layEven 160 = .ok (.iastore, 1) := by decide +kernel
theorem dX5_layEven_161 : decode cX5_layEven 161 = .ok (.aload_n 0, 1) := by decide +kernel
theorem dX5_layEven_162 : decode cX5_layEven 162 = .ok (.iconst 0, 1) := by decide +kernel
theorem dX5_layEven_163 : decode cX5_layEven 163 = .ok (.invokevirtual 87, 3) := by decide +kernel
theorem dX5_layEven_166 : decode cX5_layEven 166 = .ok (.iinc 1 1, 3) := by decide +kernel
theorem dX5_layEven_169 : decode cX5_layEven 169 = .ok (.goto (-88), 3) := by decide +kernel
theorem dX5_layEven_172 : decode cX5_layEven 172 = .ok (.return_, 1) := by decide +kernel
theorem dX5_sink_0 : decode cX5_sink 0 = .ok (.iload_n 1, 1) := by decide +kernel
theorem dX5_sink_1 : decode cX5_sink 1 = .ok (.istore_n 2, 1) := by decide +kernel
theorem dX5_sink_2 : decode cX5_sink 2 = .ok (.iconst 0, 1) := by decide +kernel
theorem dX5_sink_3 : decode cX5_sink 3 = .ok (.istore_n 3, 1) := by decide +kernel
theorem dX5_sink_4 : decode cX5_sink 4 = .ok (.iload_n 3, 1) := by decide +kernel
theorem dX5_sink_5 : decode cX5_sink 5 = .ok (.bipush 8, 2) := by decide +kernel
theorem dX5_sink_7 : decode cX5_sink 7 = .ok (.if_icmp .ge 119, 3) := by decide +kernel
theorem dX5_sink_10 : decode cX5_sink 10 = .ok (.iconst 2, 1) := by decide +kernel
theorem dX5_sink_11 : decode cX5_sink 11 = .ok (.iload_n 2, 1) := by decide +kernel
theorem dX5_sink_12 : decode cX5_sink 12 = .ok (.imul, 1) := by decide +kernel
theorem dX5_sink_13 : decode cX5_sink 13 = .ok (.iconst 1, 1) := by decide +kernel
theorem dX5_sink_14 : decode cX5_sink 14 = .ok (.iadd, 1) := by decide +kernel
theorem dX5_sink_15 : decode cX5_sink 15 = .ok (.aload_n 0, 1) := by decide +kernel
theorem dX5_sink_16 : decode cX5_sink 16 = .ok (.getfield 30, 3) := by decide +kernel
theorem dX5_sink_19 : decode cX5_sink 19 = .ok (.if_icmp .ge 107, 3) := by decide +kernel
theorem dX5_sink_22 : decode cX5_sink 22 = .ok (.iconst 2, 1) := by decide +kernel
theorem dX5_sink_23 : decode cX5_sink 23 = .ok (.iload_n 2, 1) := by decide +kernel
theorem dX5_sink_24 : decode cX5_sink 24 = .ok (.imul, 1) := by decide +kernel
theorem dX5_sink_25 : decode cX5_sink 25 = .ok (.iconst 1, 1) := by decide +kernel
theorem dX5_sink_26 : decode cX5_sink 26 = .ok (.iadd, 1) := by decide +kernel
theorem dX5_sink_27 : decode cX5_sink 27 = .ok (.istore 4, 2) := by decide +kernel
theorem dX5_sink_29 : decode cX5_sink 29 = .ok (.iload 4, 2) := by decide +kernel
theorem dX5_sink_31 : decode cX5_sink 31 = .ok (.iconst 1, 1) := by decide +kernel
theorem dX5_sink_32 : decode cX5_sink 32 = .ok (.iadd, 1) := by decide +kernel
theorem dX5_sink_33 : decode cX5_sink 33 = .ok (.aload_n 0, 1) := by decide +kernel
theorem dX5_sink_34 : decode cX5_sink 34 = .ok (.getfield 30, 3) := by decide +kernel
theorem dX5_sink_37 : decode cX5_sink 37 = .ok (.if_icmp .ge 29, 3) := by decide +kernel
theorem dX5_sink_40 : decode cX5_sink 40 = .ok (.aload_n 0, 1) := by decide +kernel
theorem dX5_sink_41 : decode cX5_sink 41 = .ok (.aload_n 0, 1) := by decide +kernel
theorem dX5_sink_42 : decode cX5_sink 42 = .ok (.getfield 27, 3) := by decide +kernel
theorem dX5_sink_45 : decode cX5_sink 45 = .ok (.iload 4, 2) := by decide +kernel
theorem dX5_sink_47 : decode cX5_sink 47 = .ok (.iconst 1, 1) := by decide +kernel
theorem dX5_sink_48 : decode cX5_sink 48 = .ok (.iadd, 1) := by decide +kernel
theorem dX5_sink_49 : decode cX5_sink 49 = .ok (.iaload, 1) := by decide +kernel
theorem dX5_sink_50 : decode cX5_sink 50 = .ok (.aload_n 0, 1) := by decide +kernel
theorem dX5_sink_51 : decode cX5_sink 51 = .ok (.getfield 27, 3) := by decide +kernel
theorem dX5_sink_54 : decode cX5_sink 54 = .ok (.iload 4, 2) := by decide +kernel
theorem dX5_sink_56 : decode cX5_sink 56 = .ok (.iaload, 1) := by decide +kernel
theorem dX5_sink_57 : decode cX5_sink 57 = .ok (.invokevirtual 90, 3) := by decide +kernel
theorem dX5_sink_60 : decode cX5_sink 60 = .ok (.ifCond .eq 6, 3) := by decide +kernel
theorem dX5_sink_63 : decode cX5_sink 63 = .ok (.iinc 4 1, 3) := by decide +kernel
theorem dX5_sink_66 : decode cX5_sink 66 = .ok (.aload_n 0, 1) := by decide +kernel
theorem dX5_sink_67 : decode cX5_sink 67 = .ok (.aload_n 0, 1) := by decide +kernel
theorem dX5_sink_68 : decode cX5_sink 68 = .ok (.getfield 27, 3) := by decide +kernel
theorem dX5_sink_71 : decode cX5_sink 71 = .ok (.iload 4, 2) := by decide +kernel
theorem dX5_sink_73 : decode cX5_sink 73 = .ok (.iaload, 1) := by decide +kernel
theorem dX5_sink_74 : decode cX5_sink 74 = .ok (.aload_n 0, 1) := by decide +kernel
theorem dX5_sink_75 : decode cX5_sink 75 = .ok (.getfield 27, 3) := by decide +kernel
theorem dX5_sink_78 : decode cX5_sink 78 = .ok (.iload_n 2, 1) := by decide +kernel
theorem dX5_sink_79 : decode cX5_sink 79 = .ok (.iaload, 1) := by decide +kernel
theorem dX5_sink_80 : decode cX5_sink 80 = .ok (.invokevirtual 90, 3) := by decide +kernel
theorem dX5_sink_83 : decode cX5_sink 83 = .ok (.ifCond .ne 4, 3) := by decide +kernel
theorem dX5_sink_86 : decode cX5_sink 86 = .ok (.return_, 1) := by decide +kernel
theorem dX5_sink_87 : decode cX5_sink 87 = .ok (.aload_n 0, 1) := by decide +kernel
theorem dX5_sink_88 : decode cX5_sink 88 = .ok (.getfield 27, 3) := by decide +kernel
theorem dX5_sink_91 : decode cX5_sink 91 = .ok (.iload_n 2, 1) := by decide +kernel
theorem dX5_sink_92 : decode cX5_sink 92 = .ok (.iaload, 1) := by decide +kernel
theorem dX5_sink_93 : decode cX5_sink 93 = .ok (.istore 5, 2) := by decide +kernel
theorem dX5_sink_95 : decode cX5_sink 95 = .ok (.aload_n 0, 1) := by decide +kernel
theorem dX5_sink_96 : decode cX5_sink 96 = .ok (.getfield 27, 3) := by decide +kernel
theorem dX5_sink_99 : decode cX5_sink 99 = .ok (.iload_n 2, 1) := by decide +kernel
theorem dX5_sink_100 : decode cX5_sink 100 = .ok (.aload_n 0, 1) := by decide +kernel
theorem dX5_sink_101 : decode cX5_sink 101 = .ok (.getfield 27, 3) := by decide +kernel
theorem dX5_sink_104 : decode cX5_sink 104 = .ok (.iload 4, 2) := by decide +kernel
theorem dX5_sink_106 : decode cX5_sink 106 = .ok (.iaload, 1) := by decide +kernel
theorem dX5_sink_107 : decode cX5_sink 107 = .ok (.iastore, 1) := by decide +kernel
theorem dX5_sink_108 : decode cX5_sink 108 = .ok (.aload_n 0, 1) := by decide +kernel
theorem dX5_sink_109 : decode cX5_sink 109 = .ok (.getfield 27, 3) := by decide +kernel
theorem dX5_sink_112 : decode cX5_sink 112 = .ok (.iload 4, 2) := by decide +kernel
theorem dX5_sink_114 : decode cX5_sink 114 = .ok (.iload 5, 2) := by decide +kernel
theorem dX5_sink_116 : decode cX5_sink 116 = .ok (.iastore, 1) := by decide +kernel
theorem dX5_sink_117 : decode cX5_sink 117 = .ok (.iload 4, 2) := by decide +kernel
theorem dX5_sink_119 : decode cX5_sink 119 = .ok (.istore_n 2, 1) := by decide +kernel
theorem dX5_sink_120 : decode cX5_sink 120 = .ok (.iinc 3 1, 3) := by decide +kernel
theorem dX5_sink_123 : decode cX5_sink 123 = .ok (.goto (-119), 3) := by decide +kernel
theorem dX5_sink_126 : decode cX5_sink 126 = .ok (.return_, 1) := by decide +kernel
theorem dX5_isAhead_0 : decode cX5_isAhead 0 = .ok (.iconst 2, 1) := by decide +kernel
theorem dX5_isAhead_1 : decode cX5_isAhead 1 = .ok (.aload_n 0, 1) := by decide +kernel
theorem dX5_isAhead_2 : decode cX5_isAhead 2 = .ok (.getfield 24, 3) := by decide +kernel
theorem dX5_isAhead_5 : decode cX5_isAhead 5 = .ok (.iload_n 1, 1) := by decide +kernel
theorem dX5_isAhead_6 : decode cX5_isAhead 6 = .ok (.iaload, 1) := by decide +kernel
theorem dX5_isAhead_7 : decode cX5_isAhead 7 = .ok (.imul, 1) := by decide +kernel
theorem dX5_isAhead_8 : decode cX5_isAhead 8 = .ok (.iconst 1, 1) := by decide +kernel
theorem dX5_isAhead_9 : decode cX5_isAhead 9 = .ok (.iadd, 1) := by decide +kernel
theorem dX5_isAhead_10 : decode cX5_isAhead 10 = .ok (.aload_n 0, 1) := by decide +kernel
theorem dX5_isAhead_11 : decode cX5_isAhead 11 = .ok (.getfield 18, 3) := by decide +kernel
theorem dX5_isAhead_14 : decode cX5_isAhead 14 = .ok (.iload_n 2, 1) := by decide +kernel
theorem dX5_isAhead_15 : decode cX5_isAhead 15 = .ok (.iaload, 1) := by decide +kernel
theorem dX5_isAhead_16 : decode cX5_isAhead 16 = .ok (.imul, 1) := by decide +kernel
theorem dX5_isAhead_17 : decode cX5_isAhead 17 = .ok (.istore_n 3, 1) := by decide +kernel
theorem dX5_isAhead_18 : decode cX5_isAhead 18 = .ok (.iconst 2, 1) := by decide +kernel
theorem dX5_isAhead_19 : decode cX5_isAhead 19 = .ok (.aload_n 0, 1) := by decide +kernel
theorem dX5_isAhead_20 : decode cX5_isAhead 20 = .ok (.getfield 24, 3) := by decide +kernel
theorem dX5_isAhead_23 : decode cX5_isAhead 23 = .ok (.iload_n 2, 1) := by decide +kernel
theorem dX5_isAhead_24 : decode cX5_isAhead 24 = .ok (.iaload, 1) := by decide +kernel
theorem dX5_isAhead_25 : decode cX5_isAhead 25 = .ok (.imul, 1) := by decide +kernel
theorem dX5_isAhead_26 : decode cX5_isAhead 26 = .ok (.iconst 1, 1) := by decide +kernel
theorem dX5_isAhead_27 : decode cX5_isAhead 27 = .ok (.iadd, 1) := by decide +kernel
theorem dX5_isAhead_28 : decode cX5_isAhead 28 = .ok (.aload_n 0, 1) := by decide +kernel
theorem dX5_isAhead_29 : decode cX5_isAhead 29 = .ok (.getfield 18, 3) := by decide +kernel
theorem dX5_isAhead_32 : decode cX5_isAhead 32 = .ok (.iload_n 1, 1) := by decide +kernel
theorem dX5_isAhead_33 : decode cX5_isAhead 33 = .ok (.iaload, 1) := by decide +kernel
theorem dX5_isAhead_34 : decode cX5_isAhead 34 = .ok (.imul, 1) := by decide +kernel
theorem dX5_isAhead_35 : decode cX5_isAhead 35 = .ok (.istore 4, 2) := by decide +kernel
theorem dX5_isAhead_37 : decode cX5_isAhead 37 = .ok (.iload_n 3, 1) := by decide +kernel
theorem dX5_isAhead_38 : decode cX5_isAhead 38 = .ok (.iload 4, 2) := by decide +kernel
theorem dX5_isAhead_40 : decode cX5_isAhead 40 = .ok (.if_icmp .lt 14, 3) := by decide +kernel
theorem dX5_isAhead_43 : decode cX5_isAhead 43 = .ok (.iload_n 3, 1) := by decide +kernel
theorem dX5_isAhead_44 : decode cX5_isAhead 44 = .ok (.iload 4, 2) := by decide +kernel
theorem dX5_isAhead_46 : decode cX5_isAhead 46 = .ok (.if_icmp .ne 12, 3) := by decide +kernel
theorem dX5_isAhead_49 : decode cX5_isAhead 49 = .ok (.iload_n 1, 1) := by decide +kernel
theorem dX5_isAhead_50 : decode cX5_isAhead 50 = .ok (.iload_n 2, 1) := by decide +kernel
theorem dX5_isAhead_51 : decode cX5_isAhead 51 = .ok (.if_icmp .ge 7, 3) := by decide +kernel
theorem dX5_isAhead_54 : decode cX5_isAhead 54 = .ok (.iconst 1, 1) := by decide +kernel
theorem dX5_isAhead_55 : decode cX5_isAhead 55 = .ok (.goto 4, 3) := by decide +kernel
theorem dX5_isAhead_58 : decode cX5_isAhead 58 = .ok (.iconst 0, 1) := by decide +kernel
theorem dX5_isAhead_59 : decode cX5_isAhead 59 = .ok (.ireturn, 1) := by decide +kernel
theorem dX5_giveRanks_0 : decode cX5_giveRanks 0 = .ok (.aload_n 0, 1) := by decide +kernel
theorem dX5_giveRanks_1 : decode cX5_giveRanks 1 = .ok (.getfield 24, 3) := by decide +kernel
theorem dX5_giveRanks_4 : decode cX5_giveRanks 4 = .ok (.iconst 0, 1) := by decide +kernel
theorem dX5_giveRanks_5 : decode cX5_giveRanks 5 = .ok (.invokestatic 81, 3) := by decide +kernel
theorem dX5_giveRanks_8 : decode cX5_giveRanks 8 = .ok (.iconst 0, 1) := by decide +kernel
theorem dX5_giveRanks_9 : decode cX5_giveRanks 9 = .ok (.istore_n 1, 1) := by decide +kernel
theorem dX5_giveRanks_10 : decode cX5_giveRanks 10 = .ok (.iload_n 1, 1) := by decide +kernel
theorem dX5_giveRanks_11 : decode cX5_giveRanks 11 = .ok (.aload_n 0, 1) := by decide +kernel
theorem dX5_giveRanks_12 : decode cX5_giveRanks 12 = .ok (.getfield 34, 3) := by decide +kernel
theorem dX5_giveRanks_15 : decode cX5_giveRanks 15 = .ok (.if_icmp .ge 82, 3) := by decide +kernel
theorem dX5_giveRanks_18 : decode cX5_giveRanks 18 = .ok (.aload_n 0, 1) := by decide +kernel
theorem dX5_giveRanks_19 : decode cX5_giveRanks 19 = .ok (.getfield 9, 3) := by decide +kernel
theorem dX5_giveRanks_22 : decode cX5_giveRanks 22 = .ok (.iload_n 1, 1) := by decide +kernel
theorem dX5_giveRanks_23 : decode cX5_giveRanks 23 = .ok (.iaload, 1) := by decide +kernel
theorem dX5_giveRanks_24 : decode cX5_giveRanks 24 = .ok (.sipush 255, 3) := by decide +kernel
theorem dX5_giveRanks_27 : decode cX5_giveRanks 27 = .ok (.iand, 1) := by decide +kernel
theorem dX5_giveRanks_28 : decode cX5_giveRanks 28 = .ok (.istore_n 2, 1) := by decide +kernel
theorem dX5_giveRanks_29 : decode cX5_giveRanks 29 = .ok (.aload_n 0, 1) := by decide +kernel
theorem dX5_giveRanks_30 : decode cX5_giveRanks 30 = .ok (.getfield 21, 3) := by decide +kernel
theorem dX5_giveRanks_33 : decode cX5_giveRanks 33 = .ok (.iload_n 2, 1) := by decide +kernel
theorem dX5_giveRanks_34 : decode cX5_giveRanks 34 = .ok (.iaload, 1) := by decide +kernel
theorem dX5_giveRanks_35 : decode cX5_giveRanks 35 = .ok (.aload_n 0, 1) := by decide +kernel
theorem dX5_giveRanks_36 : decode cX5_giveRanks 36 = .ok (.getfield 24, 3) := by decide +kernel
theorem dX5_giveRanks_39 : decode cX5_giveRanks 39 = .ok (.iload_n 2, 1) := by decide +kernel
theorem dX5_giveRanks_40 : decode cX5_giveRanks 40 = .ok (.iaload, 1) := by decide +kernel
theorem dX5_giveRanks_41 : decode cX5_giveRanks 41 = .ok (.iadd, 1) := by decide +kernel
theorem dX5_giveRanks_42 : decode cX5_giveRanks 42 = .ok (.istore_n 3, 1) := by decide +kernel
theorem dX5_giveRanks_43 : decode cX5_giveRanks 43 = .ok (.iload_n 3, 1) := by decide +kernel
theorem dX5_giveRanks_44 : decode cX5_giveRanks 44 = .ok (.sipush 4096, 3) := by decide +kernel
theorem dX5_giveRanks_47 : decode cX5_giveRanks 47 = .ok (.if_icmp .ge 10, 3) := by decide +kernel
theorem dX5_giveRanks_50 : decode cX5_giveRanks 50 = .ok (.aload_n 0, 1) := by decide +kernel
theorem dX5_giveRanks_51 : decode cX5_giveRanks 51 = .ok (.getfield 15, 3) := by decide +kernel
theorem dX5_giveRanks_54 : decode cX5_giveRanks 54 = .ok (.iload_n 3, 1) := by decide +kernel
theorem dX5_giveRanks_55 : decode cX5_giveRanks 55 = .ok (.iload_n 1, 1) := by decide +kernel
theorem dX5_giveRanks_56 : decode cX5_giveRanks 56 = .ok (.iastore, 1) := by decide +kernel
theorem dX5_giveRanks_57 : decode cX5_giveRanks 57 = .ok (.aload_n 0, 1) := by decide +kernel
theorem dX5_giveRanks_58 : decode cX5_giveRanks 58 = .ok (.getfield 9, 3) := by decide +kernel
theorem dX5_giveRanks_61 : decode cX5_giveRanks 61 = .ok (.iload_n 1, 1) := by decide +kernel
theorem dX5_giveRanks_62 : decode cX5_giveRanks 62 = .ok (.aload_n 0, 1) := by decide +kernel
theorem dX5_giveRanks_63 : decode cX5_giveRanks 63 = .ok (.getfield 18, 3) := by decide +kernel
theorem dX5_giveRanks_66 : decode cX5_giveRanks 66 = .ok (.iload_n 2, 1) := by decide +kernel
theorem dX5_giveRanks_67 : decode cX5_giveRanks 67 = .ok (.iaload, 1) := by decide +kernel
theorem dX5_giveRanks_68 : decode cX5_giveRanks 68 = .ok (.aload_n 0, 1) := by decide +kernel
theorem dX5_giveRanks_69 : decode cX5_giveRanks 69 = .ok (.getfield 24, 3) := by decide +kernel
theorem dX5_giveRanks_72 : decode cX5_giveRanks 72 = .ok (.iload_n 2, 1) := by decide +kernel
theorem dX5_giveRanks_73 : decode cX5_giveRanks 73 = .ok (.iaload, 1) := by decide +kernel
theorem dX5_giveRanks_74 : decode cX5_giveRanks 74 = .ok (.iadd, 1) := by decide +kernel
theorem dX5_giveRanks_75 : decode cX5_giveRanks 75 = .ok (.bipush 8, 2) := by decide +kernel
theorem dX5_giveRanks_77 : decode cX5_giveRanks 77 = .ok (.ishl, 1) := by decide +kernel
theorem dX5_giveRanks_78 : decode cX5_giveRanks 78 = .ok (.iload_n 2, 1) := by decide +kernel
theorem dX5_giveRanks_79 : decode cX5_giveRanks 79 = .ok (.ior, 1) := by decide +kernel
theorem dX5_giveRanks_80 : decode cX5_giveRanks 80 = .ok (.iastore, 1) := by decide +kernel
theorem dX5_giveRanks_81 : decode cX5_giveRanks 81 = .ok (.aload_n 0, 1) := by decide +kernel
theorem dX5_giveRanks_82 : decode cX5_giveRanks 82 = .ok (.getfield 24, 3) := by decide +kernel
theorem dX5_giveRanks_85 : decode cX5_giveRanks 85 = .ok (.iload_n 2, 1) := by decide +kernel
theorem dX5_giveRanks_86 : decode cX5_giveRanks 86 = .ok (.dup2, 1) := by decide +kernel
theorem dX5_giveRanks_87 : decode cX5_giveRanks 87 = .ok (.iaload, 1) := by decide +kernel
theorem dX5_giveRanks_88 : decode cX5_giveRanks 88 = .ok (.iconst 1, 1) := by decide +kernel
theorem dX5_giveRanks_89 : decode cX5_giveRanks 89 = .ok (.iadd, 1) := by decide +kernel
theorem dX5_giveRanks_90 : decode cX5_giveRanks 90 = .ok (.iastore, 1) := by decide +kernel
theorem dX5_giveRanks_91 : decode cX5_giveRanks 91 = .ok (.iinc 1 1, 3) := by decide +kernel
theorem dX5_giveRanks_94 : decode cX5_giveRanks 94 = .ok (.goto (-84), 3) := by decide +kernel
theorem dX5_giveRanks_97 : decode cX5_giveRanks 97 = .ok (.return_, 1) := by decide +kernel
theorem dX6_init_0 : decode cX6_init 0 = .ok (.aload_n 0, 1) := by decide +kernel
theorem dX6_init_1 : decode cX6_init 1 = .ok (.invokespecial 3, 3) := by decide +kernel
theorem dX6_init_4 : decode cX6_init 4 = .ok (.aload_n 0, 1) := by decide +kernel
theorem dX6_init_5 : decode cX6_init 5 = .ok (.sipush 256, 3) := by decide +kernel
theorem dX6_init_8 : decode cX6_init 8 = .ok (.newarray .int, 2) := by decide +kernel
theorem dX6_init_10 : decode cX6_init 10 = .ok (.putfield 9, 3) := by decide +kernel
theorem dX6_init_13 : decode cX6_init 13 = .ok (.aload_n 0, 1) := by decide +kernel
theorem dX6_init_14 : decode cX6_init 14 = .ok (.iconst 0, 1) := by decide +kernel
theorem dX6_init_15 : decode cX6_init 15 = .ok (.putfield 15, 3) := by decide +kernel
theorem dX6_init_18 : decode cX6_init 18 = .ok (.return_, 1) := by decide +kernel
theorem dX6_isThere_0 : decode cX6_isThere 0 = .ok (.aload_n 0, 1) := by decide +kernel
theorem dX6_isThere_1 : decode cX6_isThere 1 = .ok (.getfield 15, 3) := by decide +kernel
theorem dX6_isThere_4 : decode cX6_isThere 4 = .ok (.ifCond .le 7, 3) := by decide +kernel
theorem dX6_isThere_7 : decode cX6_isThere 7 = .ok (.iconst 1, 1) := by decide +kernel
theorem dX6_isThere_8 : decode cX6_isThere 8 = .ok (.goto 4, 3) := by decide +kernel
theorem dX6_isThere_11 : decode cX6_isThere 11 = .ok (.iconst 0, 1) := by decide +kernel
theorem dX6_isThere_12 : decode cX6_isThere 12 = .ok (.ireturn, 1) := by decide +kernel
theorem dX6_places_0 : decode cX6_places 0 = .ok (.iconst 1, 1) := by decide +kernel
theorem dX6_places_1 : decode cX6_places 1 = .ok (.aload_n 0, 1) := by decide +kernel
theorem dX6_places_2 : decode cX6_places 2 = .ok (.getfield 15, 3) := by decide +kernel
theorem dX6_places_5 : decode cX6_places 5 = .ok (.ishl, 1) := by decide +kernel
theorem dX6_places_6 : decode cX6_places 6 = .ok (.ireturn, 1) := by decide +kernel
theorem dX6_shareOf_0 : decode cX6_shareOf 0 = .ok (.iload_n 1, 1) := by decide +kernel
theorem dX6_shareOf_1 : decode cX6_shareOf 1 = .ok (.invokestatic 19, 3) := by decide +kernel
theorem dX6_shareOf_4 : decode cX6_shareOf 4 = .ok (.ifCond .eq 12, 3) := by decide +kernel
theorem dX6_shareOf_7 : decode cX6_shareOf 7 = .ok (.aload_n 0, 1) := by decide +kernel
theorem dX6_shareOf_8 : decode cX6_shareOf 8 = .ok (.getfield 9, 3) := by decide +kernel
theorem dX6_shareOf_11 : decode cX6_shareOf 11 = .ok (.iload_n 1, 1) := by decide +kernel
theorem dX6_shareOf_12 : decode cX6_shareOf 12 = .ok (.iaload, 1) := by decide +kernel
theorem dX6_shareOf_13 : decode cX6_shareOf 13 = .ok (.goto 4, 3) := by decide +kernel
theorem dX6_shareOf_16 : decode cX6_shareOf 16 = .ok (.iconst 0, 1) := by decide +kernel
theorem dX6_shareOf_17 : decode cX6_shareOf 17 = .ok (.ireturn, 1) := by decide +kernel
theorem dX6_startOf_0 : decode cX6_startOf 0 = .ok (.iconst 0, 1) := by decide +kernel
theorem dX6_startOf_1 : decode cX6_startOf 1 = .ok (.istore_n 2, 1) := by decide +kernel
theorem dX6_startOf_2 : decode cX6_startOf 2 = .ok (.iconst 0, 1) := by decide +kernel
theorem dX6_startOf_3 : decode cX6_startOf 3 = .ok (.istore_n 3, 1) := by decide +kernel
theorem dX6_startOf_4 : decode cX6_startOf 4 = .ok (.iload_n 3, 1) := by decide +kernel
theorem dX6_startOf_5 : decode cX6_startOf 5 = .ok (.iload_n 1, 1) := by decide +kernel
theorem dX6_startOf_6 : decode cX6_startOf 6 = .ok (.if_icmp .ge 25, 3) := by decide +kernel
theorem dX6_startOf_9 : decode cX6_startOf 9 = .ok (.iload_n 3, 1) := by decide +kernel
theorem dX6_startOf_10 : decode cX6_startOf 10 = .ok (.sipush 256, 3) := by decide +kernel
theorem dX6_startOf_13 : decode cX6_startOf 13 = .ok (.if_icmp .ge 18, 3) := by decide +kernel
theorem dX6_startOf_16 : decode cX6_startOf 16 = .ok (.iload_n 2, 1) := by decide +kernel
theorem dX6_startOf_17 : decode cX6_startOf 17 = .ok (.aload_n 0, 1) := by decide +kernel
theorem dX6_startOf_18 : decode cX6_startOf 18 = .ok (.getfield 9, 3) := by decide +kernel
theorem dX6_startOf_21 : decode cX6_startOf 21 = .ok (.iload_n 3, 1) := by decide +kernel
theorem dX6_startOf_22 : decode cX6_startOf 22 = .ok (.iaload, 1) := by decide +kernel
theorem dX6_startOf_23 : decode cX6_startOf 23 = .ok (.iadd, 1) := by decide +kernel
theorem dX6_startOf_24 : decode cX6_startOf 24 = .ok (.istore_n 2, 1) := by decide +kernel
theorem dX6_startOf_25 : decode cX6_startOf 25 = .ok (.iinc 3 1, 3) := by decide +kernel
theorem dX6_startOf_28 : decode cX6_startOf 28 = .ok (.goto (-24), 3) := by decide +kernel
theorem dX6_startOf_31 : decode cX6_startOf 31 = .ok (.iload_n 2, 1) := by decide +kernel
theorem dX6_startOf_32 : decode cX6_startOf 32 = .ok (.ireturn, 1) := by decide +kernel
theorem dX6_different_0 : decode cX6_different 0 = .ok (.iconst 0, 1) := by decide +kernel
theorem dX6_different_1 : decode cX6_different 1 = .ok (.istore_n 1, 1) := by decide +kernel
theorem dX6_different_2 : decode cX6_different 2 = .ok (.iconst 0, 1) := by decide +kernel
theorem dX6_different_3 : decode cX6_different 3 = .ok (.istore_n 2, 1) := by decide +kernel
theorem dX6_different_4 : decode cX6_different 4 = .ok (.iload_n 2, 1) := by decide +kernel
theorem dX6_different_5 : decode cX6_different 5 = .ok (.sipush 256, 3) := by decide +kernel
theorem dX6_different_8 : decode cX6_different 8 = .ok (.if_icmp .ge 21, 3) := by decide +kernel
theorem dX6_different_11 : decode cX6_different 11 = .ok (.aload_n 0, 1) := by decide +kernel
theorem dX6_different_12 : decode cX6_different 12 = .ok (.getfield 9, 3) := by decide +kernel
theorem dX6_different_15 : decode cX6_different 15 = .ok (.iload_n 2, 1) := by decide +kernel
theorem dX6_different_16 : decode cX6_different 16 = .ok (.iaload, 1) := by decide +kernel
theorem dX6_different_17 : decode cX6_different 17 = .ok (.ifCond .le 6, 3) := by decide +kernel
theorem dX6_different_20 : decode cX6_different 20 = .ok (.iinc 1 1, 3) := by decide +kernel
theorem dX6_different_23 : decode cX6_different 23 = .ok (.iinc 2 1, 3) := by decide +kernel
theorem dX6_different_26 : decode cX6_different 26 = .ok (.goto (-22), 3) := by decide +kernel
theorem dX6_different_29 : decode cX6_different 29 = .ok (.iload_n 1, 1) := by decide +kernel
theorem dX6_different_30 : decode cX6_different 30 = .ok (.ireturn, 1) := by decide +kernel
theorem dX6_clear_0 : decode cX6_clear 0 = .ok (.aload_n 0, 1) := by decide +kernel
theorem dX6_clear_1 : decode cX6_clear 1 = .ok (.iload_n 1, 1) := by decide +kernel
theorem dX6_clear_2 : decode cX6_clear 2 = .ok (.putfield 15, 3) := by decide +kernel
theorem dX6_clear_5 : decode cX6_clear 5 = .ok (.aload_n 0, 1) := by decide +kernel
theorem dX6_clear_6 : decode cX6_clear 6 = .ok (.getfield 9, 3) := by decide +kernel
theorem dX6_clear_9 : decode cX6_clear 9 = .ok (.iconst 0, 1) := by decide +kernel
theorem dX6_clear_10 : decode cX6_clear 10 = .ok (.invokestatic 23, 3) := by decide +kernel
theorem dX6_clear_13 : decode cX6_clear 13 = .ok (.return_, 1) := by decide +kernel
theorem dX6_change_0 : decode cX6_change 0 = .ok (.iload_n 1, 1) := by decide +kernel
theorem dX6_change_1 : decode cX6_change 1 = .ok (.invokestatic 19, 3) := by decide +kernel
theorem dX6_change_4 : decode cX6_change 4 = .ok (.ifCond .eq 13, 3) := by decide +kernel
theorem dX6_change_7 : decode cX6_change 7 = .ok (.aload_n 0, 1) := by decide +kernel
theorem dX6_change_8 : decode cX6_change 8 = .ok (.getfield 9, 3) := by decide +kernel
theorem dX6_change_11 : decode cX6_change 11 = .ok (.iload_n 1, 1) := by decide +kernel
theorem dX6_change_12 : decode cX6_change 12 = .ok (.dup2, 1) := by decide +kernel
theorem dX6_change_13 : decode cX6_change 13 = .ok (.iaload, 1) := by decide +kernel
theorem dX6_change_14 : decode cX6_change 14 = .ok (.iload_n 2, 1) := by decide +kernel
theorem dX6_change_15 : decode cX6_change 15 = .ok (.iadd, 1) := by decide +kernel
theorem dX6_change_16 : decode cX6_change 16 = .ok (.iastore, 1) := by decide +kernel
theorem dX6_change_17 : decode cX6_change 17 = .ok (.return_, 1) := by decide +kernel
theorem dX6_fit_0 : decode cX6_fit 0 = .ok (.aload_n 0, 1) := by decide +kernel
theorem dX6_fit_1 : decode cX6_fit 1 = .ok (.iload_n 3, 1) := by decide +kernel
theorem dX6_fit_2 : decode cX6_fit 2 = .ok (.invokevirtual 29, 3) := by decide +kernel
theorem dX6_fit_5 : decode cX6_fit 5 = .ok (.iconst 0, 1) := by decide +kernel
theorem dX6_fit_6 : decode cX6_fit 6 = .ok (.istore 4, 2) := by decide +kernel
theorem dX6_fit_8 : decode cX6_fit 8 = .ok (.iconst 0, 1) := by decide +kernel
theorem dX6_fit_9 : decode cX6_fit 9 = .ok (.istore 5, 2) := by decide +kernel
theorem dX6_fit_11 : decode cX6_fit 11 = .ok (.iload 5, 2) := by decide +kernel
theorem dX6_fit_13 : decode cX6_fit 13 = .ok (.sipush 256, 3) := by decide +kernel
theorem dX6_fit_16 : decode cX6_fit 16 = .ok (.if_icmp .ge 54, 3) := by decide +kernel
theorem dX6_fit_19 : decode cX6_fit 19 = .ok (.aload_n 1, 1) := by decide +kernel
theorem dX6_fit_20 : decode cX6_fit 20 = .ok (.iload 5, 2) := by decide +kernel
theorem dX6_fit_22 : decode cX6_fit 22 = .ok (.iaload, 1) := by decide +kernel
theorem dX6_fit_23 : decode cX6_fit 23 = .ok (.ifCond .le 41, 3) := by decide +kernel
theorem dX6_fit_26 : decode cX6_fit 26 = .ok (.iload_n 2, 1) := by decide +kernel
theorem dX6_fit_27 : decode cX6_fit 27 = .ok (.ifCond .le 37, 3) := by decide +kernel
theorem dX6_fit_30 : decode cX6_fit 30 = .ok (.aload_n 0, 1) := by decide +kernel
theorem dX6_fit_31 : decode cX6_fit 31 = .ok (.getfield 9, 3) := by decide +kernel
theorem dX6_fit_34 : decode cX6_fit 34 = .ok (.iload 5, 2) := by decide +kernel
theorem dX6_fit_36 : decode cX6_fit 36 = .ok (.iconst 1, 1) := by decide +kernel
theorem dX6_fit_37 : decode cX6_fit 37 = .ok (.aload_n 1, 1) := by decide +kernel
theorem dX6_fit_38 : decode cX6_fit 38 = .ok (.iload 5, 2) := by decide +kernel
theorem dX6_fit_40 : decode cX6_fit 40 = .ok (.iaload, 1) := by decide +kernel
theorem dX6_fit_41 : decode cX6_fit 41 = .ok (.aload_n 0, 1) := by decide +kernel
theorem dX6_fit_42 : decode cX6_fit 42 = .ok (.invokevirtual 33, 3) := by decide +kernel
theorem dX6_fit_45 : decode cX6_fit 45 = .ok (.imul, 1) := by decide +kernel
theorem dX6_fit_46 : decode cX6_fit 46 = .ok (.iload_n 2, 1) := by decide +kernel
theorem dX6_fit_47 : decode cX6_fit 47 = .ok (.idiv, 1) := by decide +kernel
theorem dX6_fit_48 : decode cX6_fit 48 = .ok (.invokestatic 37, 3) := by decide +kernel
theorem dX6_fit_51 : decode cX6_fit 51 = .ok (.iastore, 1) := by decide +kernel
theorem dX6_fit_52 : decode cX6_fit 52 = .ok (.iload 4, 2) := by decide +kernel
theorem dX6_fit_54 : decode cX6_fit 54 = .ok (.aload_n 0, 1) := by decide +kernel
theorem dX6_fit_55 : decode cX6_fit 55 = .ok (.getfield 9, 3) := by decide +kernel
theorem dX6_fit_58 : decode cX6_fit 58 = .ok (.iload 5, 2) := by decide +kernel
theorem dX6_fit_60 : decode cX6_fit 60 = .ok (.iaload, 1) := by decide +kernel
theorem dX6_fit_61 : decode cX6_fit 61 = .ok (.iadd, 1) := by decide +kernel
theorem dX6_fit_62 : decode cX6_fit 62 = .ok (.istore 4, 2) := by decide +kernel
theorem dX6_fit_64 : decode cX6_fit 64 = .ok (.iinc 5 1, 3) := by decide +kernel
theorem dX6_fit_67 : decode cX6_fit 67 = .ok (.goto (-56), 3) := by decide +kernel
theorem dX6_fit_70 : decode cX6_fit 70 = .ok (.aload_n 0, 1) := by decide +kernel
theorem dX6_fit_71 : decode cX6_fit 71 = .ok (.invokevirtual 33, 3) := by decide +kernel
theorem dX6_fit_74 : decode cX6_fit 74 = .ok (.iload 4, 2) := by decide +kernel
theorem dX6_fit_76 : decode cX6_fit 76 = .ok (.isub, 1) := by decide +kernel
theorem dX6_fit_77 : decode cX6_fit 77 = .ok (.istore 5, 2) := by decide +kernel
theorem dX6_fit_79 : decode cX6_fit 79 = .ok (.iload 5, 2) := by decide +kernel
theorem dX6_fit_81 : decode cX6_fit 81 = .ok (.ifCond .le 20, 3) := by decide +kernel
theorem dX6_fit_84 : decode cX6_fit 84 = .ok (.aload_n 0, 1) := by decide +kernel
theorem dX6_fit_85 : decode cX6_fit 85 = .ok (.aload_n 0, 1) := by decide +kernel
theorem dX6_fit_86 : decode cX6_fit 86 = .ok (.aload_n 1, 1) := by decide +kernel
theorem dX6_fit_87 : decode cX6_fit 87 = .ok (.iload_n 2, 1) := by decide +kernel
theorem dX6_fit_88 : decode cX6_fit 88 = .ok (.invokevirtual 43, 3) := by decide +kernel
theorem dX6_fit_91 : decode cX6_fit 91 = .ok (.iconst 1, 1) := by decide +kernel
theorem dX6_fit_92 : decode cX6_fit 92 = .ok (.invokevirtual 47, 3) := by decide +kernel
theorem dX6_fit_95 : decode cX6_fit 95 = .ok (.iinc 5 (-1), 3) := by decide +kernel
theorem dX6_fit_98 : decode cX6_fit 98 = .ok (.goto (-19), 3) := by decide +kernel
theorem dX6_fit_101 : decode cX6_fit 101 = .ok (.iload 4, 2) := by decide +kernel
theorem dX6_fit_103 : decode cX6_fit 103 = .ok (.aload_n 0, 1) := by decide +kernel
theorem dX6_fit_104 : decode cX6_fit 104 = .ok (.invokevirtual 33, 3) := by decide +kernel
theorem dX6_fit_107 : decode cX6_fit 107 = .ok (.isub, 1) := by decide +kernel
theorem dX6_fit_108 : decode cX6_fit 108 = .ok (.istore 5, 2) := by decide +kernel
theorem dX6_fit_110 : decode cX6_fit 110 = .ok (.iload 5, 2) := by decide +kernel
theorem dX6_fit_112 : decode cX6_fit 112 = .ok (.ifCond .le 20, 3) := by decide +kernel
theorem dX6_fit_115 : decode cX6_fit 115 = .ok (.aload_n 0, 1) := by decide +kernel
theorem dX6_fit_116 : decode cX6_fit 116 = .ok (.aload_n 0, 1) := by decide +kernel
theorem dX6_fit_117 : decode cX6_fit 117 = .ok (.aload_n 1, 1) := by decide +kernel
theorem dX6_fit_118 : decode cX6_fit 118 = .ok (.iload_n 2, 1) := by decide +kernel
theorem dX6_fit_119 : decode cX6_fit 119 = .ok (.invokevirtual 51, 3) := by decide +kernel
theorem dX6_fit_122 : decode cX6_fit 122 = .ok (.iconst (-1), 1) := by decide +kernel
theorem dX6_fit_123 : decode cX6_fit 123 = .ok (.invokevirtual 47, 3) := by decide +kernel
theorem dX6_fit_126 : decode cX6_fit 126 = .ok (.iinc 5 (-1), 3) := by decide +kernel
theorem dX6_fit_129 : decode cX6_fit 129 = .ok (.goto (-19), 3) := by decide +kernel
theorem dX6_fit_132 : decode cX6_fit 132 = .ok (.return_, 1) := by decide +kernel
theorem dX6_lack_0 : decode cX6_lack 0 = .ok (.aload_n 2, 1) := by decide +kernel
theorem dX6_lack_1 : decode cX6_lack 1 = .ok (.iload_n 1, 1) := by decide +kernel
theorem dX6_lack_2 : decode cX6_lack 2 = .ok (.iaload, 1) := by decide +kernel
theorem dX6_lack_3 : decode cX6_lack 3 = .ok (.aload_n 0, 1) := by decide +kernel
theorem dX6_lack_4 : decode cX6_lack 4 = .ok (.invokevirtual 33, 3) := by decide +kernel
theorem dX6_lack_7 : decode cX6_lack 7 = .ok (.imul, 1) := by decide +kernel
theorem dX6_lack_8 : decode cX6_lack 8 = .ok (.aload_n 0, 1) := by decide +kernel
theorem dX6_lack_9 : decode cX6_lack 9 = .ok (.getfield 9, 3) := by decide +kernel
theorem dX6_lack_12 : decode cX6_lack 12 = .ok (.iload_n 1, 1) := by decide +kernel
theorem dX6_lack_13 : decode cX6_lack 13 = .ok (.iaload, 1) := by decide +kernel
theorem dX6_lack_14 : decode cX6_lack 14 = .ok (.iload_n 3, 1) := by decide +kernel
theorem dX6_lack_15 : decode cX6_lack 15 = .ok (.imul, 1) := by decide +kernel
theorem dX6_lack_16 : decode cX6_lack 16 = .ok (.isub, 1) := by decide +kernel
theorem dX6_lack_17 : decode cX6_lack 17 = .ok (.ireturn, 1) := by decide +kernel
theorem dX6_mostLacking_0 : decode cX6_mostLacking 0 = .ok (.iconst (-1), 1) := by decide +kernel
theorem dX6_mostLacking_1 : decode cX6_mostLacking 1 = .ok (.istore_n 3, 1) := by decide +kernel
theorem dX6_mostLacking_2 : decode cX6_mostLacking 2 = .ok (.iconst 0, 1) := by decide +kernel
theorem dX6_mostLacking_3 : decode cX6_mostLacking 3 = .ok (.istore 4, 2) := by decide +kernel
theorem dX6_mostLacking_5 : decode cX6_mostLacking 5 = .ok (.iconst 0, 1) := by decide +kernel
theorem dX6_mostLacking_6 : decode cX6_mostLacking 6 = .ok (.istore 5, 2) := by decide +kernel
theorem dX6_mostLacking_8 : decode cX6_mostLacking 8 = .ok (.iload 5, 2) := by decide +kernel
theorem dX6_mostLacking_10 : decode cX6_mostLacking 10 = .ok (.sipush 256, 3) := by decide +kernel
theorem dX6_mostLacking_13 : decode cX6_mostLacking 13 = .ok (.if_icmp .ge 47, 3) := by decide +kernel
theorem dX6_mostLacking_16 : decode cX6_mostLacking 16 = .ok (.aload_n 1, 1) := by decide +kernel
theorem dX6_mostLacking_17 : decode cX6_mostLacking 17 = .ok (.iload 5, 2) := by decide +kernel
theorem dX6_mostLacking_19 : decode cX6_mostLacking 19 = .ok (.iaload, 1) := by decide +kernel
theorem dX6_mostLacking_20 : decode cX6_mostLacking 20 = .ok (.ifCond .le 34, 3) := by decide +kernel
theorem dX6_mostLacking_23 : decode cX6_mostLacking 23 = .ok (.iload_n 3, 1) := by decide +kernel
theorem dX6_mostLacking_24 : decode cX6_mostLacking 24 = .ok (.iconst (-1), 1) := by decide +kernel
theorem dX6_mostLacking_25 : decode cX6_mostLacking 25 = .ok (.if_icmp .eq 16, 3) := by decide +kernel
theorem dX6_mostLacking_28 : decode cX6_mostLacking 28 = .ok (.aload_n 0, 1) := by decide +kernel
theorem dX6_mostLacking_29 : decode cX6_mostLacking 29 = .ok (.iload 5, 2) := by decide +kernel
theorem dX6_mostLacking_31 : decode cX6_mostLacking 31 = .ok (.aload_n 1, 1) := by decide +kernel
theorem dX6_mostLacking_32 : decode cX6_mostLacking 32 = .ok (.iload_n 2, 1) := by decide +kernel
theorem dX6_mostLacking_33 : decode cX6_mostLacking 33 = .ok (.invokevirtual 54, 3) := by decide +kernel
theorem dX6_mostLacking_36 : decode cX6_mostLacking 36 = .ok (.iload 4, 2) := by decide +kernel
theorem dX6_mostLacking_38 : decode cX6_mostLacking 38 = .ok (.if_icmp .le 16, 3) := by decide +kernel
theorem dX6_mostLacking_41 : decode cX6_mostLacking 41 = .ok (.iload 5, 2) := by decide +kernel
theorem dX6_mostLacking_43 : decode cX6_mostLacking 43 = .ok (.istore_n 3, 1) := by decide +kernel
theorem dX6_mostLacking_44 : decode cX6_mostLacking 44 = .ok (.aload_n 0, 1) := by decide +kernel
theorem dX6_mostLacking_45 : decode cX6_mostLacking 45 = .ok (.iload 5, 2) := by decide +kernel
theorem dX6_mostLacking_47 : decode cX6_mostLacking 47 = .ok (.aload_n 1, 1) := by decide +kernel
theorem dX6_mostLacking_48 : decode cX6_mostLacking 48 = .ok (.iload_n 2, 1) := by decide +kernel
theorem dX6_mostLacking_49 : decode cX6_mostLacking 49 = .ok (.invokevirtual 54, 3) := by decide +kernel
theorem dX6_mostLacking_52 : decode cX6_mostLacking 52 = .ok (.istore 4, 2) := by decide +kernel
theorem dX6_mostLacking_54 : decode cX6_mostLacking 54 = .ok (.iinc 5 1, 3) := by decide +kernel
theorem dX6_mostLacking_57 : decode cX6_mostLacking 57 = .ok (.goto (-49), 3) := by decide +kernel
theorem dX6_mostLacking_60 : decode cX6_mostLacking 60 = .ok (.iload_n 3, 1) := by decide +kernel
theorem dX6_mostLacking_61 : decode cX6_mostLacking 61 = .ok (.ireturn, 1) := by decide +kernel
theorem dX6_leastLacking_0 : decode cX6_leastLacking 0 = .ok (.iconst (-1), 1) := by decide +kernel
theorem dX6_leastLacking_1 : decode cX6_leastLacking 1 = .ok (.istore_n 3, 1) := by decide +kernel
theorem dX6_leastLacking_2 : decode cX6_leastLacking 2 = .ok (.iconst 0, 1) := by decide +kernel
theorem dX6_leastLacking_3 : decode cX6_leastLacking 3 = .ok (.istore 4, 2) := by decide +kernel
theorem dX6_leastLacking_5 : decode cX6_leastLacking 5 = .ok (.iconst 0, 1) := by decide +kernel
theorem dX6_leastLacking_6 : decode cX6_leastLacking 6 = .ok (.istore 5, 2) := by decide +kernel
theorem dX6_leastLacking_8 : decode cX6_leastLacking 8 = .ok (.iload 5, 2) := by decide +kernel
theorem dX6_leastLacking_10 : decode cX6_leastLacking 10 = .ok (.sipush 256, 3) := by decide +kernel
theorem dX6_leastLacking_13 : decode cX6_leastLacking 13 = .ok (.if_icmp .ge 51, 3) := by decide +kernel
theorem dX6_leastLacking_16 : decode cX6_leastLacking 16 = .ok (.aload_n 0, 1) := by decide +kernel
theorem dX6_leastLacking_17 : decode cX6_leastLacking 17 = .ok (.getfield 9, 3) := by decide +kernel
theorem dX6_leastLacking_20 : decode cX6_leastLacking 20 = .ok (.iload 5, 2) := by decide +kernel
theorem dX6_leastLacking_22 : decode cX6_leastLacking 22 = .ok (.iaload, 1) := by decide +kernel
theorem dX6_leastLacking_23 : decode cX6_leastLacking 23 = .ok (.iconst 1, 1) := by decide +kernel
theorem dX6_leastLacking_24 : decode cX6_leastLacking 24 = .ok (.if_icmp .le 34, 3) := by decide +kernel
theorem dX6_leastLacking_27 : decode cX6_leastLacking 27 = .ok (.iload_n 3, 1) := by decide +kernel
theorem dX6_leastLacking_28 : decode cX6_leastLacking 28 = .ok (.iconst (-1), 1) := by decide +kernel
theorem dX6_leastLacking_29 : decode cX6_leastLacking 29 = .ok (.if_icmp .eq 16, 3) := by decide +kernel
theorem dX6_leastLacking_32 : decode cX6_leastLacking 32 = .ok (.aload_n 0, 1) := by decide +kernel
theorem dX6_leastLacking_33 : decode cX6_leastLacking 33 = .ok (.iload 5, 2) := by decide +kernel
theorem dX6_leastLacking_35 : decode cX6_leastLacking 35 = .ok (.aload_n 1, 1) := by decide +kernel
theorem dX6_leastLacking_36 : decode cX6_leastLacking 36 = .ok (.iload_n 2, 1) := by decide +kernel
theorem dX6_leastLacking_37 : decode cX6_leastLacking 37 = .ok (.invokevirtual 54, 3) := by decide +kernel
theorem dX6_leastLacking_40 : decode cX6_leastLacking 40 = .ok (.iload 4, 2) := by decide +kernel
theorem dX6_leastLacking_42 : decode cX6_leastLacking 42 = .ok (.if_icmp .gt 16, 3) := by decide +kernel
theorem dX6_leastLacking_45 : decode cX6_leastLacking 45 = .ok (.iload 5, 2) := by decide +kernel
theorem dX6_leastLacking_47 : decode cX6_leastLacking 47 = .ok (.istore_n 3, 1) := by decide +kernel
theorem dX6_leastLacking_48 : decode cX6_leastLacking 48 = .ok (.aload_n 0, 1) := by decide +kernel
theorem dX6_leastLacking_49 : decode cX6_leastLacking 49 = .ok (.iload 5, 2) := by decide +kernel
theorem dX6_leastLacking_51 : decode cX6_leastLacking 51 = .ok (.aload_n 1, 1) := by decide +kernel
theorem dX6_leastLacking_52 : decode cX6_leastLacking 52 = .ok (.iload_n 2, 1) := by decide +kernel
theorem dX6_leastLacking_53 : decode cX6_leastLacking 53 = .ok (.invokevirtual 54, 3) := by decide +kernel
theorem dX6_leastLacking_56 : decode cX6_leastLacking 56 = .ok (.istore 4, 2) := by decide +kernel
theorem dX6_leastLacking_58 : decode cX6_leastLacking 58 = .ok (.iinc 5 1, 3) := by decide +kernel
theorem dX6_leastLacking_61 : decode cX6_leastLacking 61 = .ok (.goto (-53), 3) := by decide +kernel
theorem dX6_leastLacking_64 : decode cX6_leastLacking 64 = .ok (.iload_n 3, 1) := by decide +kernel
theorem dX6_leastLacking_65 : decode cX6_leastLacking 65 = .ok (.ireturn, 1) := by decide +kernel
theorem dX7_init_0 : decode cX7_init 0 = .ok (.aload_n 0, 1) := by decide +kernel
theorem dX7_init_1 : decode cX7_init 1 = .ok (.invokespecial 3, 3) := by decide +kernel
theorem dX7_init_4 : decode cX7_init 4 = .ok (.aload_n 0, 1) := by decide +kernel
theorem dX7_init_5 : decode cX7_init 5 = .ok (.bipush 6, 2) := by decide +kernel
theorem dX7_init_7 : decode cX7_init 7 = .ok (.newarray .int, 2) := by decide +kernel
theorem dX7_init_9 : decode cX7_init 9 = .ok (.putfield 11, 3) := by decide +kernel
theorem dX7_init_12 : decode cX7_init 12 = .ok (.return_, 1) := by decide +kernel
theorem dX7_figure_0 : decode cX7_figure 0 = .ok (.iload_n 1, 1) := by decide +kernel
theorem dX7_figure_1 : decode cX7_figure 1 = .ok (.ifCond .lt 18, 3) := by decide +kernel
theorem dX7_figure_4 : decode cX7_figure 4 = .ok (.iload_n 1, 1) := by decide +kernel
theorem dX7_figure_5 : decode cX7_figure 5 = .ok (.bipush 6, 2) := by decide +kernel
theorem dX7_figure_7 : decode cX7_figure 7 = .ok (.if_icmp .ge 12, 3) := by decide +kernel
theorem dX7_figure_10 : decode cX7_figure 10 = .ok (.aload_n 0, 1) := by decide +kernel
theorem dX7_figure_11 : decode cX7_figure 11 = .ok (.getfield 11, 3) := by decide +kernel
theorem dX7_figure_14 : decode cX7_figure 14 = .ok (.iload_n 1, 1) := by decide +kernel
theorem dX7_figure_15 : decode cX7_figure 15 = .ok (.iaload, 1) := by decide +kernel
theorem dX7_figure_16 : decode cX7_figure 16 = .ok (.goto 4, 3) := by decide +kernel
theorem dX7_figure_19 : decode cX7_figure 19 = .ok (.iconst (-1), 1) := by decide +kernel
theorem dX7_figure_20 : decode cX7_figure 20 = .ok (.ireturn, 1) := by decide +kernel
theorem dX7_begin_0 : decode cX7_begin 0 = .ok (.aload_n 0, 1) := by decide +kernel
theorem dX7_begin_1 : decode cX7_begin 1 = .ok (.getfield 11, 3) := by decide +kernel
theorem dX7_begin_4 : decode cX7_begin 4 = .ok (.iconst 0, 1) := by decide +kernel
theorem dX7_begin_5 : decode cX7_begin 5 = .ok (.invokestatic 15, 3) := by decide +kernel
theorem dX7_begin_8 : decode cX7_begin 8 = .ok (.aload_n 0, 1) := by decide +kernel
theorem dX7_begin_9 : decode cX7_begin 9 = .ok (.getfield 11, 3) := by decide +kernel
theorem dX7_begin_12 : decode cX7_begin 12 = .ok (.iconst 0, 1) := by decide +kernel
theorem dX7_begin_13 : decode cX7_begin 13 = .ok (.iload_n 1, 1) := by decide +kernel
theorem dX7_begin_14 : decode cX7_begin 14 = .ok (.iastore, 1) := by decide +kernel
theorem dX7_begin_15 : decode cX7_begin 15 = .ok (.aload_n 0, 1) := by decide +kernel
theorem dX7_begin_16 : decode cX7_begin 16 = .ok (.getfield 11, 3) := by decide +kernel
theorem dX7_begin_19 : decode cX7_begin 19 = .ok (.iconst 1, 1) := by decide +kernel
theorem dX7_begin_20 : decode cX7_begin 20 = .ok (.iload_n 1, 1) := by decide +kernel
theorem dX7_begin_21 : decode cX7_begin 21 = .ok (.iastore, 1) := by decide +kernel
theorem dX7_begin_22 : decode cX7_begin 22 = .ok (.return_, 1) := by decide +kernel
theorem dX7_meet_0 : decode cX7_meet 0 = .ok (.aload_n 0, 1) := by decide +kernel
theorem dX7_meet_1 : decode cX7_meet 1 = .ok (.getfield 11, 3) := by decide +kernel
theorem dX7_meet_4 : decode cX7_meet 4 = .ok (.iconst 0, 1) := by decide +kernel
theorem dX7_meet_5 : decode cX7_meet 5 = .ok (.aload_n 0, 1) := by decide +kernel
theorem dX7_meet_6 : decode cX7_meet 6 = .ok (.getfield 11, 3) := by decide +kernel
theorem dX7_meet_9 : decode cX7_meet 9 = .ok (.iconst 0, 1) := by decide +kernel
theorem dX7_meet_10 : decode cX7_meet 10 = .ok (.iaload, 1) := by decide +kernel
theorem dX7_meet_11 : decode cX7_meet 11 = .ok (.iload_n 1, 1) := by decide +kernel
theorem dX7_meet_12 : decode cX7_meet 12 = .ok (.invokestatic 21, 3) := by decide +kernel
theorem dX7_meet_15 : decode cX7_meet 15 = .ok (.iastore, 1) := by decide +kernel
theorem dX7_meet_16 : decode cX7_meet 16 = .ok (.aload_n 0, 1) := by decide +kernel
theorem dX7_meet_17 : decode cX7_meet 17 = .ok (.getfield 11, 3) := by decide +kernel
theorem dX7_meet_20 : decode cX7_meet 20 = .ok (.iconst 1, 1) := by decide +kernel
theorem dX7_meet_21 : decode cX7_meet 21 = .ok (.aload_n 0, 1) := by decide +kernel
theorem dX7_meet_22 : decode cX7_meet 22 = .ok (.getfield 11, 3) := by decide +kernel
theorem dX7_meet_25 : decode cX7_meet 25 = .ok (.iconst 1, 1) := by decide +kernel
theorem dX7_meet_26 : decode cX7_meet 26 = .ok (.iaload, 1) := by decide +kernel
theorem dX7_meet_27 : decode cX7_meet 27 = .ok (.iload_n 1, 1) := by decide +kernel
theorem dX7_meet_28 : decode cX7_meet 28 = .ok (.invokestatic 27, 3) := by decide +kernel
theorem dX7_meet_31 : decode cX7_meet 31 = .ok (.iastore, 1) := by decide +kernel
theorem dX7_meet_32 : decode cX7_meet 32 = .ok (.return_, 1) := by decide +kernel
theorem dX7_addSymbol_0 : decode cX7_addSymbol 0 = .ok (.aload_n 0, 1) := by decide +kernel
theorem dX7_addSymbol_1 : decode cX7_addSymbol 1 = .ok (.iload_n 1, 1) := by decide +kernel
theorem dX7_addSymbol_2 : decode cX7_addSymbol 2 = .ok (.invokevirtual 30, 3) := by decide +kernel
theorem dX7_addSymbol_5 : decode cX7_addSymbol 5 = .ok (.aload_n 0, 1) := by decide +kernel
theorem dX7_addSymbol_6 : decode cX7_addSymbol 6 = .ok (.getfield 11, 3) := by decide +kernel
theorem dX7_addSymbol_9 : decode cX7_addSymbol 9 = .ok (.iconst 2, 1) := by decide +kernel
theorem dX7_addSymbol_10 : decode cX7_addSymbol 10 = .ok (.dup2, 1) := by decide +kernel
theorem dX7_addSymbol_11 : decode cX7_addSymbol 11 = .ok (.iaload, 1) := by decide +kernel
theorem dX7_addSymbol_12 : decode cX7_addSymbol 12 = .ok (.iconst 1, 1) := by decide +kernel
theorem dX7_addSymbol_13 : decode cX7_addSymbol 13 = .ok (.iadd, 1) := by decide +kernel
theorem dX7_addSymbol_14 : decode cX7_addSymbol 14 = .ok (.iastore, 1) := by decide +kernel
theorem dX7_addSymbol_15 : decode cX7_addSymbol 15 = .ok (.aload_n 0, 1) := by decide +kernel
theorem dX7_addSymbol_16 : decode cX7_addSymbol 16 = .ok (.getfield 11, 3) := by decide +kernel
theorem dX7_addSymbol_19 : decode cX7_addSymbol 19 = .ok (.iconst 3, 1) := by decide +kernel
theorem dX7_addSymbol_20 : decode cX7_addSymbol 20 = .ok (.dup2, 1) := by decide +kernel
theorem dX7_addSymbol_21 : decode cX7_addSymbol 21 = .ok (.iaload, 1) := by decide +kernel
theorem dX7_addSymbol_22 : decode cX7_addSymbol 22 = .ok (.iload_n 2, 1) := by decide +kernel
theorem dX7_addSymbol_23 : decode cX7_addSymbol 23 = .ok (.iadd, 1) := by decide +kernel
theorem dX7_addSymbol_24 : decode cX7_addSymbol 24 = .ok (.iastore, 1) := by decide +kernel
theorem dX7_addSymbol_25 : decode cX7_addSymbol 25 = .ok (.aload_n 0, 1) := by decide +kernel
theorem dX7_addSymbol_26 : decode cX7_addSymbol 26 = .ok (.getfield 11, 3) := by decide +kernel
theorem dX7_addSymbol_29 : decode cX7_addSymbol 29 = .ok (.iconst 5, 1) := by decide +kernel
theorem dX7_addSymbol_30 : decode cX7_addSymbol 30 = .ok (.aload_n 0, 1) := by decide +kernel
theorem dX7_addSymbol_31 : decode cX7_addSymbol 31 = .ok (.getfield 11, 3) := by decide +kernel
theorem dX7_addSymbol_34 : decode cX7_addSymbol 34 = .ok (.iconst 5, 1) := by decide +kernel
theorem dX7_addSymbol_35 : decode cX7_addSymbol 35 = .ok (.iaload, 1) := by decide +kernel
theorem dX7_addSymbol_36 : decode cX7_addSymbol 36 = .ok (.iload_n 2, 1) := by decide +kernel
theorem dX7_addSymbol_37 : decode cX7_addSymbol 37 = .ok (.invokestatic 27, 3) := by decide +kernel
theorem dX7_addSymbol_40 : decode cX7_addSymbol 40 = .ok (.iastore, 1) := by decide +kernel
