theorem dX9_begin_3 : decode cX9_begin 3 = .ok (.istore_n 3, 1) := by decide +kernel
theorem dX9_begin_4 : decode cX9_begin 4 = .ok (.iload_n 3, 1) := by decide +kernel
theorem dX9_begin_5 : decode cX9_begin 5 = .ok (.sipush 256, 3) := by decide +kernel
theorem dX9_begin_8 : decode cX9_begin 8 = .ok (.if_icmp .ge 37, 3) := by decide +kernel
theorem dX9_begin_11 : decode cX9_begin 11 = .ok (.aload_n 0, 1) := by decide +kernel
theorem dX9_begin_12 : decode cX9_begin 12 = .ok (.getfield 22, 3) := by decide +kernel
theorem dX9_begin_15 : decode cX9_begin 15 = .ok (.sipush 256, 3) := by decide +kernel
theorem dX9_begin_18 : decode cX9_begin 18 = .ok (.iload_n 1, 1) := by decide +kernel
theorem dX9_begin_19 : decode cX9_begin 19 = .ok (.imul, 1) := by decide +kernel
theorem dX9_begin_20 : decode cX9_begin 20 = .ok (.iload_n 3, 1) := by decide +kernel
theorem dX9_begin_21 : decode cX9_begin 21 = .ok (.iadd, 1) := by decide +kernel
theorem dX9_begin_22 : decode cX9_begin 22 = .ok (.iload_n 2, 1) := by decide +kernel
theorem dX9_begin_23 : decode cX9_begin 23 = .ok (.iastore, 1) := by decide +kernel
theorem dX9_begin_24 : decode cX9_begin 24 = .ok (.iload_n 2, 1) := by decide +kernel
theorem dX9_begin_25 : decode cX9_begin 25 = .ok (.aload_n 0, 1) := by decide +kernel
theorem dX9_begin_26 : decode cX9_begin 26 = .ok (.getfield 19, 3) := by decide +kernel
theorem dX9_begin_29 : decode cX9_begin 29 = .ok (.sipush 256, 3) := by decide +kernel
theorem dX9_begin_32 : decode cX9_begin 32 = .ok (.iload_n 1, 1) := by decide +kernel
theorem dX9_begin_33 : decode cX9_begin 33 = .ok (.imul, 1) := by decide +kernel
theorem dX9_begin_34 : decode cX9_begin 34 = .ok (.iload_n 3, 1) := by decide +kernel
theorem dX9_begin_35 : decode cX9_begin 35 = .ok (.iadd, 1) := by decide +kernel
theorem dX9_begin_36 : decode cX9_begin 36 = .ok (.iaload, 1) := by decide +kernel
theorem dX9_begin_37 : decode cX9_begin 37 = .ok (.iadd, 1) := by decide +kernel
theorem dX9_begin_38 : decode cX9_begin 38 = .ok (.istore_n 2, 1) := by decide +kernel
theorem dX9_begin_39 : decode cX9_begin 39 = .ok (.iinc 3 1, 3) := by decide +kernel
theorem dX9_begin_42 : decode cX9_begin 42 = .ok (.goto (-38), 3) := by decide +kernel
theorem dX9_begin_45 : decode cX9_begin 45 = .ok (.iconst 0, 1) := by decide +kernel
theorem dX9_begin_46 : decode cX9_begin 46 = .ok (.istore_n 3, 1) := by decide +kernel
theorem dX9_begin_47 : decode cX9_begin 47 = .ok (.iload_n 3, 1) := by decide +kernel
theorem dX9_begin_48 : decode cX9_begin 48 = .ok (.iconst 3, 1) := by decide +kernel
theorem dX9_begin_49 : decode cX9_begin 49 = .ok (.if_icmp .ge 20, 3) := by decide +kernel
theorem dX9_begin_52 : decode cX9_begin 52 = .ok (.aload_n 0, 1) := by decide +kernel
theorem dX9_begin_53 : decode cX9_begin 53 = .ok (.getfield 25, 3) := by decide +kernel
theorem dX9_begin_56 : decode cX9_begin 56 = .ok (.iconst 3, 1) := by decide +kernel
theorem dX9_begin_57 : decode cX9_begin 57 = .ok (.iload_n 1, 1) := by decide +kernel
theorem dX9_begin_58 : decode cX9_begin 58 = .ok (.imul, 1) := by decide +kernel
theorem dX9_begin_59 : decode cX9_begin 59 = .ok (.iload_n 3, 1) := by decide +kernel
theorem dX9_begin_60 : decode cX9_begin 60 = .ok (.iadd, 1) := by decide +kernel
theorem dX9_begin_61 : decode cX9_begin 61 = .ok (.iconst 0, 1) := by decide +kernel
theorem dX9_begin_62 : decode cX9_begin 62 = .ok (.bastore, 1) := by decide +kernel
theorem dX9_begin_63 : decode cX9_begin 63 = .ok (.iinc 3 1, 3) := by decide +kernel
theorem dX9_begin_66 : decode cX9_begin 66 = .ok (.goto (-19), 3) := by decide +kernel
theorem dX9_begin_69 : decode cX9_begin 69 = .ok (.return_, 1) := by decide +kernel
theorem dX9_log_0 : decode cX9_log 0 = .ok (.aload_n 0, 1) := by decide +kernel
theorem dX9_log_1 : decode cX9_log 1 = .ok (.iload_n 1, 1) := by decide +kernel
theorem dX9_log_2 : decode cX9_log 2 = .ok (.invokevirtual 84, 3) := by decide +kernel
theorem dX9_log_5 : decode cX9_log 5 = .ok (.ifCond .eq 12, 3) := by decide +kernel
theorem dX9_log_8 : decode cX9_log 8 = .ok (.aload_n 0, 1) := by decide +kernel
theorem dX9_log_9 : decode cX9_log 9 = .ok (.getfield 16, 3) := by decide +kernel
theorem dX9_log_12 : decode cX9_log 12 = .ok (.iload_n 1, 1) := by decide +kernel
theorem dX9_log_13 : decode cX9_log 13 = .ok (.iaload, 1) := by decide +kernel
theorem dX9_log_14 : decode cX9_log 14 = .ok (.goto 4, 3) := by decide +kernel
theorem dX9_log_17 : decode cX9_log 17 = .ok (.iconst (-1), 1) := by decide +kernel
theorem dX9_log_18 : decode cX9_log 18 = .ok (.ireturn, 1) := by decide +kernel
theorem dX9_share_0 : decode cX9_share 0 = .ok (.aload_n 0, 1) := by decide +kernel
theorem dX9_share_1 : decode cX9_share 1 = .ok (.iload_n 1, 1) := by decide +kernel
theorem dX9_share_2 : decode cX9_share 2 = .ok (.invokevirtual 84, 3) := by decide +kernel
theorem dX9_share_5 : decode cX9_share 5 = .ok (.ifCond .eq 29, 3) := by decide +kernel
theorem dX9_share_8 : decode cX9_share 8 = .ok (.iload_n 2, 1) := by decide +kernel
theorem dX9_share_9 : decode cX9_share 9 = .ok (.ifCond .lt 25, 3) := by decide +kernel
theorem dX9_share_12 : decode cX9_share 12 = .ok (.iload_n 2, 1) := by decide +kernel
theorem dX9_share_13 : decode cX9_share 13 = .ok (.sipush 256, 3) := by decide +kernel
theorem dX9_share_16 : decode cX9_share 16 = .ok (.if_icmp .ge 18, 3) := by decide +kernel
theorem dX9_share_19 : decode cX9_share 19 = .ok (.aload_n 0, 1) := by decide +kernel
theorem dX9_share_20 : decode cX9_share 20 = .ok (.getfield 19, 3) := by decide +kernel
theorem dX9_share_23 : decode cX9_share 23 = .ok (.sipush 256, 3) := by decide +kernel
theorem dX9_share_26 : decode cX9_share 26 = .ok (.iload_n 1, 1) := by decide +kernel
theorem dX9_share_27 : decode cX9_share 27 = .ok (.imul, 1) := by decide +kernel
theorem dX9_share_28 : decode cX9_share 28 = .ok (.iload_n 2, 1) := by decide +kernel
theorem dX9_share_29 : decode cX9_share 29 = .ok (.iadd, 1) := by decide +kernel
theorem dX9_share_30 : decode cX9_share 30 = .ok (.iaload, 1) := by decide +kernel
theorem dX9_share_31 : decode cX9_share 31 = .ok (.goto 4, 3) := by decide +kernel
theorem dX9_share_34 : decode cX9_share 34 = .ok (.iconst (-1), 1) := by decide +kernel
theorem dX9_share_35 : decode cX9_share 35 = .ok (.ireturn, 1) := by decide +kernel
theorem dX9_start_0 : decode cX9_start 0 = .ok (.aload_n 0, 1) := by decide +kernel
theorem dX9_start_1 : decode cX9_start 1 = .ok (.iload_n 1, 1) := by decide +kernel
theorem dX9_start_2 : decode cX9_start 2 = .ok (.invokevirtual 84, 3) := by decide +kernel
theorem dX9_start_5 : decode cX9_start 5 = .ok (.ifCond .eq 29, 3) := by decide +kernel
theorem dX9_start_8 : decode cX9_start 8 = .ok (.iload_n 2, 1) := by decide +kernel
theorem dX9_start_9 : decode cX9_start 9 = .ok (.ifCond .lt 25, 3) := by decide +kernel
theorem dX9_start_12 : decode cX9_start 12 = .ok (.iload_n 2, 1) := by decide +kernel
theorem dX9_start_13 : decode cX9_start 13 = .ok (.sipush 256, 3) := by decide +kernel
theorem dX9_start_16 : decode cX9_start 16 = .ok (.if_icmp .ge 18, 3) := by decide +kernel
theorem dX9_start_19 : decode cX9_start 19 = .ok (.aload_n 0, 1) := by decide +kernel
theorem dX9_start_20 : decode cX9_start 20 = .ok (.getfield 22, 3) := by decide +kernel
theorem dX9_start_23 : decode cX9_start 23 = .ok (.sipush 256, 3) := by decide +kernel
theorem dX9_start_26 : decode cX9_start 26 = .ok (.iload_n 1, 1) := by decide +kernel
theorem dX9_start_27 : decode cX9_start 27 = .ok (.imul, 1) := by decide +kernel
theorem dX9_start_28 : decode cX9_start 28 = .ok (.iload_n 2, 1) := by decide +kernel
theorem dX9_start_29 : decode cX9_start 29 = .ok (.iadd, 1) := by decide +kernel
theorem dX9_start_30 : decode cX9_start 30 = .ok (.iaload, 1) := by decide +kernel
theorem dX9_start_31 : decode cX9_start 31 = .ok (.goto 4, 3) := by decide +kernel
theorem dX9_start_34 : decode cX9_start 34 = .ok (.iconst (-1), 1) := by decide +kernel
theorem dX9_start_35 : decode cX9_start 35 = .ok (.ireturn, 1) := by decide +kernel
theorem dX9_lay_0 : decode cX9_lay 0 = .ok (.aload_n 0, 1) := by decide +kernel
theorem dX9_lay_1 : decode cX9_lay 1 = .ok (.getfield 25, 3) := by decide +kernel
theorem dX9_lay_4 : decode cX9_lay 4 = .ok (.iconst 3, 1) := by decide +kernel
theorem dX9_lay_5 : decode cX9_lay 5 = .ok (.iload_n 1, 1) := by decide +kernel
theorem dX9_lay_6 : decode cX9_lay 6 = .ok (.imul, 1) := by decide +kernel
theorem dX9_lay_7 : decode cX9_lay 7 = .ok (.iload_n 2, 1) := by decide +kernel
theorem dX9_lay_8 : decode cX9_lay 8 = .ok (.iadd, 1) := by decide +kernel
theorem dX9_lay_9 : decode cX9_lay 9 = .ok (.baload, 1) := by decide +kernel
theorem dX9_lay_10 : decode cX9_lay 10 = .ok (.ifCond .eq 4, 3) := by decide +kernel
theorem dX9_lay_13 : decode cX9_lay 13 = .ok (.return_, 1) := by decide +kernel
theorem dX9_lay_14 : decode cX9_lay 14 = .ok (.aload_n 0, 1) := by decide +kernel
theorem dX9_lay_15 : decode cX9_lay 15 = .ok (.getfield 25, 3) := by decide +kernel
theorem dX9_lay_18 : decode cX9_lay 18 = .ok (.iconst 3, 1) := by decide +kernel
theorem dX9_lay_19 : decode cX9_lay 19 = .ok (.iload_n 1, 1) := by decide +kernel
theorem dX9_lay_20 : decode cX9_lay 20 = .ok (.imul, 1) := by decide +kernel
theorem dX9_lay_21 : decode cX9_lay 21 = .ok (.iload_n 2, 1) := by decide +kernel
theorem dX9_lay_22 : decode cX9_lay 22 = .ok (.iadd, 1) := by decide +kernel
theorem dX9_lay_23 : decode cX9_lay 23 = .ok (.iconst 1, 1) := by decide +kernel
theorem dX9_lay_24 : decode cX9_lay 24 = .ok (.bastore, 1) := by decide +kernel
theorem dX9_lay_25 : decode cX9_lay 25 = .ok (.sipush 4096, 3) := by decide +kernel
theorem dX9_lay_28 : decode cX9_lay 28 = .ok (.iconst 3, 1) := by decide +kernel
theorem dX9_lay_29 : decode cX9_lay 29 = .ok (.iload_n 1, 1) := by decide +kernel
theorem dX9_lay_30 : decode cX9_lay 30 = .ok (.imul, 1) := by decide +kernel
theorem dX9_lay_31 : decode cX9_lay 31 = .ok (.iload_n 2, 1) := by decide +kernel
theorem dX9_lay_32 : decode cX9_lay 32 = .ok (.iadd, 1) := by decide +kernel
theorem dX9_lay_33 : decode cX9_lay 33 = .ok (.imul, 1) := by decide +kernel
theorem dX9_lay_34 : decode cX9_lay 34 = .ok (.istore_n 3, 1) := by decide +kernel
theorem dX9_lay_35 : decode cX9_lay 35 = .ok (.iconst 1, 1) := by decide +kernel
theorem dX9_lay_36 : decode cX9_lay 36 = .ok (.aload_n 0, 1) := by decide +kernel
theorem dX9_lay_37 : decode cX9_lay 37 = .ok (.getfield 16, 3) := by decide +kernel
theorem dX9_lay_40 : decode cX9_lay 40 = .ok (.iload_n 1, 1) := by decide +kernel
theorem dX9_lay_41 : decode cX9_lay 41 = .ok (.iaload, 1) := by decide +kernel
theorem dX9_lay_42 : decode cX9_lay 42 = .ok (.ishl, 1) := by decide +kernel
theorem dX9_lay_43 : decode cX9_lay 43 = .ok (.istore 4, 2) := by decide +kernel
theorem dX9_lay_45 : decode cX9_lay 45 = .ok (.iload_n 2, 1) := by decide +kernel
theorem dX9_lay_46 : decode cX9_lay 46 = .ok (.iconst 2, 1) := by decide +kernel
theorem dX9_lay_47 : decode cX9_lay 47 = .ok (.if_icmp .ne 14, 3) := by decide +kernel
theorem dX9_lay_50 : decode cX9_lay 50 = .ok (.aload_n 0, 1) := by decide +kernel
theorem dX9_lay_51 : decode cX9_lay 51 = .ok (.iload_n 1, 1) := by decide +kernel
theorem dX9_lay_52 : decode cX9_lay 52 = .ok (.iload_n 3, 1) := by decide +kernel
theorem dX9_lay_53 : decode cX9_lay 53 = .ok (.iload 4, 2) := by decide +kernel
theorem dX9_lay_55 : decode cX9_lay 55 = .ok (.invokevirtual 88, 3) := by decide +kernel
theorem dX9_lay_58 : decode cX9_lay 58 = .ok (.goto 108, 3) := by decide +kernel
theorem dX9_lay_61 : decode cX9_lay 61 = .ok (.iload_n 2, 1) := by decide +kernel
theorem dX9_lay_62 : decode cX9_lay 62 = .ok (.ifCond .ne 7, 3) := by decide +kernel
theorem dX9_lay_65 : decode cX9_lay 65 = .ok (.iconst 1, 1) := by decide +kernel
theorem dX9_lay_66 : decode cX9_lay 66 = .ok (.goto 15, 3) := by decide +kernel
theorem dX9_lay_69 : decode cX9_lay 69 = .ok (.iload 4, 2) := by decide +kernel
theorem dX9_lay_71 : decode cX9_lay 71 = .ok (.iconst 2, 1) := by decide +kernel
theorem dX9_lay_72 : decode cX9_lay 72 = .ok (.idiv, 1) := by decide +kernel
theorem dX9_lay_73 : decode cX9_lay 73 = .ok (.iload 4, 2) := by decide +kernel
theorem dX9_lay_75 : decode cX9_lay 75 = .ok (.bipush 8, 2) := by decide +kernel
theorem dX9_lay_77 : decode cX9_lay 77 = .ok (.idiv, 1) := by decide +kernel
theorem dX9_lay_78 : decode cX9_lay 78 = .ok (.iadd, 1) := by decide +kernel
theorem dX9_lay_79 : decode cX9_lay 79 = .ok (.iconst 3, 1) := by decide +kernel
theorem dX9_lay_80 : decode cX9_lay 80 = .ok (.iadd, 1) := by decide +kernel
theorem dX9_lay_81 : decode cX9_lay 81 = .ok (.istore 5, 2) := by decide +kernel
theorem dX9_lay_83 : decode cX9_lay 83 = .ok (.iload_n 2, 1) := by decide +kernel
theorem dX9_lay_84 : decode cX9_lay 84 = .ok (.iconst 1, 1) := by decide +kernel
theorem dX9_lay_85 : decode cX9_lay 85 = .ok (.if_icmp .ne 13, 3) := by decide +kernel
theorem dX9_lay_88 : decode cX9_lay 88 = .ok (.iload 5, 2) := by decide +kernel
theorem dX9_lay_90 : decode cX9_lay 90 = .ok (.iconst 2, 1) := by decide +kernel
theorem dX9_lay_91 : decode cX9_lay 91 = .ok (.irem, 1) := by decide +kernel
theorem dX9_lay_92 : decode cX9_lay 92 = .ok (.ifCond .ne 6, 3) := by decide +kernel
theorem dX9_lay_95 : decode cX9_lay 95 = .ok (.iinc 5 1, 3) := by decide +kernel
theorem dX9_lay_98 : decode cX9_lay 98 = .ok (.iconst 0, 1) := by decide +kernel
theorem dX9_lay_99 : decode cX9_lay 99 = .ok (.istore 6, 2) := by decide +kernel
theorem dX9_lay_101 : decode cX9_lay 101 = .ok (.iconst 0, 1) := by decide +kernel
theorem dX9_lay_102 : decode cX9_lay 102 = .ok (.istore 7, 2) := by decide +kernel
theorem dX9_lay_104 : decode cX9_lay 104 = .ok (.iload 7, 2) := by decide +kernel
theorem dX9_lay_106 : decode cX9_lay 106 = .ok (.sipush 256, 3) := by decide +kernel
theorem dX9_lay_109 : decode cX9_lay 109 = .ok (.if_icmp .ge 57, 3) := by decide +kernel
theorem dX9_lay_112 : decode cX9_lay 112 = .ok (.iconst 0, 1) := by decide +kernel
theorem dX9_lay_113 : decode cX9_lay 113 = .ok (.istore 8, 2) := by decide +kernel
theorem dX9_lay_115 : decode cX9_lay 115 = .ok (.iload 8, 2) := by decide +kernel
theorem dX9_lay_117 : decode cX9_lay 117 = .ok (.aload_n 0, 1) := by decide +kernel
theorem dX9_lay_118 : decode cX9_lay 118 = .ok (.getfield 19, 3) := by decide +kernel
theorem dX9_lay_121 : decode cX9_lay 121 = .ok (.sipush 256, 3) := by decide +kernel
theorem dX9_lay_124 : decode cX9_lay 124 = .ok (.iload_n 1, 1) := by decide +kernel
theorem dX9_lay_125 : decode cX9_lay 125 = .ok (.imul, 1) := by decide +kernel
theorem dX9_lay_126 : decode cX9_lay 126 = .ok (.iload 7, 2) := by decide +kernel
theorem dX9_lay_128 : decode cX9_lay 128 = .ok (.iadd, 1) := by decide +kernel
theorem dX9_lay_129 : decode cX9_lay 129 = .ok (.iaload, 1) := by decide +kernel
theorem dX9_lay_130 : decode cX9_lay 130 = .ok (.if_icmp .ge 30, 3) := by decide +kernel
theorem dX9_lay_133 : decode cX9_lay 133 = .ok (.aload_n 0, 1) := by decide +kernel
theorem dX9_lay_134 : decode cX9_lay 134 = .ok (.getfield 30, 3) := by decide +kernel
theorem dX9_lay_137 : decode cX9_lay 137 = .ok (.iload_n 3, 1) := by decide +kernel
theorem dX9_lay_138 : decode cX9_lay 138 = .ok (.iload 6, 2) := by decide +kernel
theorem dX9_lay_140 : decode cX9_lay 140 = .ok (.iadd, 1) := by decide +kernel
theorem dX9_lay_141 : decode cX9_lay 141 = .ok (.iload 7, 2) := by decide +kernel
theorem dX9_lay_143 : decode cX9_lay 143 = .ok (.iastore, 1) := by decide +kernel
theorem dX9_lay_144 : decode cX9_lay 144 = .ok (.iload 6, 2) := by decide +kernel
theorem dX9_lay_146 : decode cX9_lay 146 = .ok (.iload 5, 2) := by decide +kernel
theorem dX9_lay_148 : decode cX9_lay 148 = .ok (.iadd, 1) := by decide +kernel
theorem dX9_lay_149 : decode cX9_lay 149 = .ok (.iload 4, 2) := by decide +kernel
theorem dX9_lay_151 : decode cX9_lay 151 = .ok (.irem, 1) := by decide +kernel
theorem dX9_lay_152 : decode cX9_lay 152 = .ok (.istore 6, 2) := by decide +kernel
theorem dX9_lay_154 : decode cX9_lay 154 = .ok (.iinc 8 1, 3) := by decide +kernel
theorem dX9_lay_157 : decode cX9_lay 157 = .ok (.goto (-42), 3) := by decide +kernel
theorem dX9_lay_160 : decode cX9_lay 160 = .ok (.iinc 7 1, 3) := by decide +kernel
theorem dX9_lay_163 : decode cX9_lay 163 = .ok (.goto (-59), 3) := by decide +kernel
theorem dX9_lay_166 : decode cX9_lay 166 = .ok (.iconst 0, 1) := by decide +kernel
theorem dX9_lay_167 : decode cX9_lay 167 = .ok (.istore 5, 2) := by decide +kernel
theorem dX9_lay_169 : decode cX9_lay 169 = .ok (.iload 5, 2) := by decide +kernel
theorem dX9_lay_171 : decode cX9_lay 171 = .ok (.sipush 256, 3) := by decide +kernel
theorem dX9_lay_174 : decode cX9_lay 174 = .ok (.if_icmp .ge 17, 3) := by decide +kernel
theorem dX9_lay_177 : decode cX9_lay 177 = .ok (.aload_n 0, 1) := by decide +kernel
theorem dX9_lay_178 : decode cX9_lay 178 = .ok (.getfield 45, 3) := by decide +kernel
theorem dX9_lay_181 : decode cX9_lay 181 = .ok (.iload 5, 2) := by decide +kernel
theorem dX9_lay_183 : decode cX9_lay 183 = .ok (.iconst 0, 1) := by decide +kernel
theorem dX9_lay_184 : decode cX9_lay 184 = .ok (.iastore, 1) := by decide +kernel
theorem dX9_lay_185 : decode cX9_lay 185 = .ok (.iinc 5 1, 3) := by decide +kernel
theorem dX9_lay_188 : decode cX9_lay 188 = .ok (.goto (-19), 3) := by decide +kernel
theorem dX9_lay_191 : decode cX9_lay 191 = .ok (.iconst 0, 1) := by decide +kernel
theorem dX9_lay_192 : decode cX9_lay 192 = .ok (.istore 5, 2) := by decide +kernel
theorem dX9_lay_194 : decode cX9_lay 194 = .ok (.iload 5, 2) := by decide +kernel
theorem dX9_lay_196 : decode cX9_lay 196 = .ok (.iload 4, 2) := by decide +kernel
theorem dX9_lay_198 : decode cX9_lay 198 = .ok (.if_icmp .ge 91, 3) := by decide +kernel
theorem dX9_lay_201 : decode cX9_lay 201 = .ok (.aload_n 0, 1) := by decide +kernel
theorem dX9_lay_202 : decode cX9_lay 202 = .ok (.getfield 30, 3) := by decide +kernel
theorem dX9_lay_205 : decode cX9_lay 205 = .ok (.iload_n 3, 1) := by decide +kernel
theorem dX9_lay_206 : decode cX9_lay 206 = .ok (.iload 5, 2) := by decide +kernel
theorem dX9_lay_208 : decode cX9_lay 208 = .ok (.iadd, 1) := by decide +kernel
theorem dX9_lay_209 : decode cX9_lay 209 = .ok (.iaload, 1) := by decide +kernel
theorem dX9_lay_210 : decode cX9_lay 210 = .ok (.istore 6, 2) := by decide +kernel
theorem dX9_lay_212 : decode cX9_lay 212 = .ok (.aload_n 0, 1) := by decide +kernel
theorem dX9_lay_213 : decode cX9_lay 213 = .ok (.getfield 33, 3) := by decide +kernel
theorem dX9_lay_216 : decode cX9_lay 216 = .ok (.iload_n 3, 1) := by decide +kernel
theorem dX9_lay_217 : decode cX9_lay 217 = .ok (.iload 5, 2) := by decide +kernel
theorem dX9_lay_219 : decode cX9_lay 219 = .ok (.iadd, 1) := by decide +kernel
theorem dX9_lay_220 : decode cX9_lay 220 = .ok (.aload_n 0, 1) := by decide +kernel
theorem dX9_lay_221 : decode cX9_lay 221 = .ok (.getfield 19, 3) := by decide +kernel
theorem dX9_lay_224 : decode cX9_lay 224 = .ok (.sipush 256, 3) := by decide +kernel
theorem dX9_lay_227 : decode cX9_lay 227 = .ok (.iload_n 1, 1) := by decide +kernel
theorem dX9_lay_228 : decode cX9_lay 228 = .ok (.imul, 1) := by decide +kernel
theorem dX9_lay_229 : decode cX9_lay 229 = .ok (.iload 6, 2) := by decide +kernel
theorem dX9_lay_231 : decode cX9_lay 231 = .ok (.iadd, 1) := by decide +kernel
theorem dX9_lay_232 : decode cX9_lay 232 = .ok (.iaload, 1) := by decide +kernel
theorem dX9_lay_233 : decode cX9_lay 233 = .ok (.aload_n 0, 1) := by decide +kernel
theorem dX9_lay_234 : decode cX9_lay 234 = .ok (.getfield 45, 3) := by decide +kernel
theorem dX9_lay_237 : decode cX9_lay 237 = .ok (.iload 6, 2) := by decide +kernel
theorem dX9_lay_239 : decode cX9_lay 239 = .ok (.iaload, 1) := by decide +kernel
theorem dX9_lay_240 : decode cX9_lay 240 = .ok (.iadd, 1) := by decide +kernel
theorem dX9_lay_241 : decode cX9_lay 241 = .ok (.iastore, 1) := by decide +kernel
theorem dX9_lay_242 : decode cX9_lay 242 = .ok (.aload_n 0, 1) := by decide +kernel
theorem dX9_lay_243 : decode cX9_lay 243 = .ok (.getfield 36, 3) := by decide +kernel
theorem dX9_lay_246 : decode cX9_lay 246 = .ok (.iload_n 3, 1) := by decide +kernel
theorem dX9_lay_247 : decode cX9_lay 247 = .ok (.aload_n 0, 1) := by decide +kernel
theorem dX9_lay_248 : decode cX9_lay 248 = .ok (.getfield 22, 3) := by decide +kernel
theorem dX9_lay_251 : decode cX9_lay 251 = .ok (.sipush 256, 3) := by decide +kernel
theorem dX9_lay_254 : decode cX9_lay 254 = .ok (.iload_n 1, 1) := by decide +kernel
theorem dX9_lay_255 : decode cX9_lay 255 = .ok (.imul, 1) := by decide +kernel
theorem dX9_lay_256 : decode cX9_lay 256 = .ok (.iload 6, 2) := by decide +kernel
theorem dX9_lay_258 : decode cX9_lay 258 = .ok (.iadd, 1) := by decide +kernel
theorem dX9_lay_259 : decode cX9_lay 259 = .ok (.iaload, 1) := by decide +kernel
theorem dX9_lay_260 : decode cX9_lay 260 = .ok (.iadd, 1) := by decide +kernel
theorem dX9_lay_261 : decode cX9_lay 261 = .ok (.aload_n 0, 1) := by decide +kernel
theorem dX9_lay_262 : decode cX9_lay 262 = .ok (.getfield 45, 3) := by decide +kernel
theorem dX9_lay_265 : decode cX9_lay 265 = .ok (.iload 6, 2) := by decide +kernel
theorem dX9_lay_267 : decode cX9_lay 267 = .ok (.iaload, 1) := by decide +kernel
theorem dX9_lay_268 : decode cX9_lay 268 = .ok (.iadd, 1) := by decide +kernel
theorem dX9_lay_269 : decode cX9_lay 269 = .ok (.iload 5, 2) := by decide +kernel
theorem dX9_lay_271 : decode cX9_lay 271 = .ok (.iastore, 1) := by decide +kernel
theorem dX9_lay_272 : decode cX9_lay 272 = .ok (.aload_n 0, 1) := by decide +kernel
theorem dX9_lay_273 : decode cX9_lay 273 = .ok (.getfield 45, 3) := by decide +kernel
theorem dX9_lay_276 : decode cX9_lay 276 = .ok (.iload 6, 2) := by decide +kernel
theorem dX9_lay_278 : decode cX9_lay 278 = .ok (.dup2, 1) := by decide +kernel
theorem dX9_lay_279 : decode cX9_lay 279 = .ok (.iaload, 1) := by decide +kernel
theorem dX9_lay_280 : decode cX9_lay 280 = .ok (.iconst 1, 1) := by decide +kernel
theorem dX9_lay_281 : decode cX9_lay 281 = .ok (.iadd, 1) := by decide +kernel
theorem dX9_lay_282 : decode cX9_lay 282 = .ok (.iastore, 1) := by decide +kernel
theorem dX9_lay_283 : decode cX9_lay 283 = .ok (.iinc 5 1, 3) := by decide +kernel
theorem dX9_lay_286 : decode cX9_lay 286 = .ok (.goto (-92), 3) := by decide +kernel
theorem dX9_lay_289 : decode cX9_lay 289 = .ok (.return_, 1) := by decide +kernel
theorem dX9_isAhead_0 : decode cX9_isAhead 0 = .ok (.iconst 2, 1) := by decide +kernel
theorem dX9_isAhead_1 : decode cX9_isAhead 1 = .ok (.aload_n 0, 1) := by decide +kernel
theorem dX9_isAhead_2 : decode cX9_isAhead 2 = .ok (.getfield 45, 3) := by decide +kernel
theorem dX9_isAhead_5 : decode cX9_isAhead 5 = .ok (.iload_n 2, 1) := by decide +kernel
theorem dX9_isAhead_6 : decode cX9_isAhead 6 = .ok (.iaload, 1) := by decide +kernel
theorem dX9_isAhead_7 : decode cX9_isAhead 7 = .ok (.imul, 1) := by decide +kernel
theorem dX9_isAhead_8 : decode cX9_isAhead 8 = .ok (.iconst 1, 1) := by decide +kernel
theorem dX9_isAhead_9 : decode cX9_isAhead 9 = .ok (.iadd, 1) := by decide +kernel
theorem dX9_isAhead_10 : decode cX9_isAhead 10 = .ok (.aload_n 0, 1) := by decide +kernel
theorem dX9_isAhead_11 : decode cX9_isAhead 11 = .ok (.getfield 19, 3) := by decide +kernel
theorem dX9_isAhead_14 : decode cX9_isAhead 14 = .ok (.sipush 256, 3) := by decide +kernel
theorem dX9_isAhead_17 : decode cX9_isAhead 17 = .ok (.iload_n 1, 1) := by decide +kernel
theorem dX9_isAhead_18 : decode cX9_isAhead 18 = .ok (.imul, 1) := by decide +kernel
theorem dX9_isAhead_19 : decode cX9_isAhead 19 = .ok (.iload_n 3, 1) := by decide +kernel
theorem dX9_isAhead_20 : decode cX9_isAhead 20 = .ok (.iadd, 1) := by decide +kernel
theorem dX9_isAhead_21 : decode cX9_isAhead 21 = .ok (.iaload, 1) := by decide +kernel
theorem dX9_isAhead_22 : decode cX9_isAhead 22 = .ok (.imul, 1) := by decide +kernel
theorem dX9_isAhead_23 : decode cX9_isAhead 23 = .ok (.istore 4, 2) := by decide +kernel
theorem dX9_isAhead_25 : decode cX9_isAhead 25 = .ok (.iconst 2, 1) := by decide +kernel
theorem dX9_isAhead_26 : decode cX9_isAhead 26 = .ok (.aload_n 0, 1) := by decide +kernel
theorem dX9_isAhead_27 : decode cX9_isAhead 27 = .ok (.getfield 45, 3) := by decide +kernel
theorem dX9_isAhead_30 : decode cX9_isAhead 30 = .ok (.iload_n 3, 1) := by decide +kernel
theorem dX9_isAhead_31 : decode cX9_isAhead 31 = .ok (.iaload, 1) := by decide +kernel
theorem dX9_isAhead_32 : decode cX9_isAhead 32 = .ok (.imul, 1) := by decide +kernel
theorem dX9_isAhead_33 : decode cX9_isAhead 33 = .ok (.iconst 1, 1) := by decide +kernel
theorem dX9_isAhead_34 : decode cX9_isAhead 34 = .ok (.iadd, 1) := by decide +kernel
theorem dX9_isAhead_35 : decode cX9_isAhead 35 = .ok (.aload_n 0, 1) := by decide +kernel
theorem dX9_isAhead_36 : decode cX9_isAhead 36 = .ok (.getfield 19, 3) := by decide +kernel
theorem dX9_isAhead_39 : decode cX9_isAhead 39 = .ok (.sipush 256, 3) := by decide +kernel
theorem dX9_isAhead_42 : decode cX9_isAhead 42 = .ok (.iload_n 1, 1) := by decide +kernel
theorem dX9_isAhead_43 : decode cX9_isAhead 43 = .ok (.imul, 1) := by decide +kernel
theorem dX9_isAhead_44 : decode cX9_isAhead 44 = .ok (.iload_n 2, 1) := by decide +kernel
theorem dX9_isAhead_45 : decode cX9_isAhead 45 = .ok (.iadd, 1) := by decide +kernel
theorem dX9_isAhead_46 : decode cX9_isAhead 46 = .ok (.iaload, 1) := by decide +kernel
theorem dX9_isAhead_47 : decode cX9_isAhead 47 = .ok (.imul, 1) := by decide +kernel
theorem dX9_isAhead_48 : decode cX9_isAhead 48 = .ok (.istore 5, 2) := by decide +kernel
theorem dX9_isAhead_50 : decode cX9_isAhead 50 = .ok (.iload 4, 2) := by decide +kernel
theorem dX9_isAhead_52 : decode cX9_isAhead 52 = .ok (.iload 5, 2) := by decide +kernel
theorem dX9_isAhead_54 : decode cX9_isAhead 54 = .ok (.if_icmp .lt 15, 3) := by decide +kernel
theorem dX9_isAhead_57 : decode cX9_isAhead 57 = .ok (.iload 4, 2) := by decide +kernel
theorem dX9_isAhead_59 : decode cX9_isAhead 59 = .ok (.iload 5, 2) := by decide +kernel
theorem dX9_isAhead_61 : decode cX9_isAhead 61 = .ok (.if_icmp .ne 12, 3) := by decide +kernel
theorem dX9_isAhead_64 : decode cX9_isAhead 64 = .ok (.iload_n 2, 1) := by decide +kernel
theorem dX9_isAhead_65 : decode cX9_isAhead 65 = .ok (.iload_n 3, 1) := by decide +kernel
theorem dX9_isAhead_66 : decode cX9_isAhead 66 = .ok (.if_icmp .ge 7, 3) := by decide +kernel
theorem dX9_isAhead_69 : decode cX9_isAhead 69 = .ok (.iconst 1, 1) := by decide +kernel
theorem dX9_isAhead_70 : decode cX9_isAhead 70 = .ok (.goto 4, 3) := by decide +kernel
theorem dX9_isAhead_73 : decode cX9_isAhead 73 = .ok (.iconst 0, 1) := by decide +kernel
theorem dX9_isAhead_74 : decode cX9_isAhead 74 = .ok (.ireturn, 1) := by decide +kernel
theorem dX9_sink_0 : decode cX9_sink 0 = .ok (.iload_n 2, 1) := by decide +kernel
theorem dX9_sink_1 : decode cX9_sink 1 = .ok (.istore_n 3, 1) := by decide +kernel
theorem dX9_sink_2 : decode cX9_sink 2 = .ok (.iconst 2, 1) := by decide +kernel
theorem dX9_sink_3 : decode cX9_sink 3 = .ok (.iload_n 3, 1) := by decide +kernel
theorem dX9_sink_4 : decode cX9_sink 4 = .ok (.imul, 1) := by decide +kernel
theorem dX9_sink_5 : decode cX9_sink 5 = .ok (.iconst 1, 1) := by decide +kernel
theorem dX9_sink_6 : decode cX9_sink 6 = .ok (.iadd, 1) := by decide +kernel
theorem dX9_sink_7 : decode cX9_sink 7 = .ok (.aload_n 0, 1) := by decide +kernel
theorem dX9_sink_8 : decode cX9_sink 8 = .ok (.getfield 92, 3) := by decide +kernel
theorem dX9_sink_11 : decode cX9_sink 11 = .ok (.if_icmp .ge 106, 3) := by decide +kernel
theorem dX9_sink_14 : decode cX9_sink 14 = .ok (.iconst 2, 1) := by decide +kernel
theorem dX9_sink_15 : decode cX9_sink 15 = .ok (.iload_n 3, 1) := by decide +kernel
theorem dX9_sink_16 : decode cX9_sink 16 = .ok (.imul, 1) := by decide +kernel
theorem dX9_sink_17 : decode cX9_sink 17 = .ok (.iconst 1, 1) := by decide +kernel
theorem dX9_sink_18 : decode cX9_sink 18 = .ok (.iadd, 1) := by decide +kernel
theorem dX9_sink_19 : decode cX9_sink 19 = .ok (.istore 4, 2) := by decide +kernel
theorem dX9_sink_21 : decode cX9_sink 21 = .ok (.iload 4, 2) := by decide +kernel
theorem dX9_sink_23 : decode cX9_sink 23 = .ok (.iconst 1, 1) := by decide +kernel
theorem dX9_sink_24 : decode cX9_sink 24 = .ok (.iadd, 1) := by decide +kernel
theorem dX9_sink_25 : decode cX9_sink 25 = .ok (.aload_n 0, 1) := by decide +kernel
theorem dX9_sink_26 : decode cX9_sink 26 = .ok (.getfield 92, 3) := by decide +kernel
theorem dX9_sink_29 : decode cX9_sink 29 = .ok (.if_icmp .ge 30, 3) := by decide +kernel
theorem dX9_sink_32 : decode cX9_sink 32 = .ok (.aload_n 0, 1) := by decide +kernel
theorem dX9_sink_33 : decode cX9_sink 33 = .ok (.iload_n 1, 1) := by decide +kernel
theorem dX9_sink_34 : decode cX9_sink 34 = .ok (.aload_n 0, 1) := by decide +kernel
theorem dX9_sink_35 : decode cX9_sink 35 = .ok (.getfield 42, 3) := by decide +kernel
theorem dX9_sink_38 : decode cX9_sink 38 = .ok (.iload 4, 2) := by decide +kernel
theorem dX9_sink_40 : decode cX9_sink 40 = .ok (.iconst 1, 1) := by decide +kernel
theorem dX9_sink_41 : decode cX9_sink 41 = .ok (.iadd, 1) := by decide +kernel
theorem dX9_sink_42 : decode cX9_sink 42 = .ok (.iaload, 1) := by decide +kernel
theorem dX9_sink_43 : decode cX9_sink 43 = .ok (.aload_n 0, 1) := by decide +kernel
theorem dX9_sink_44 : decode cX9_sink 44 = .ok (.getfield 42, 3) := by decide +kernel
theorem dX9_sink_47 : decode cX9_sink 47 = .ok (.iload 4, 2) := by decide +kernel
theorem dX9_sink_49 : decode cX9_sink 49 = .ok (.iaload, 1) := by decide +kernel
theorem dX9_sink_50 : decode cX9_sink 50 = .ok (.invokevirtual 95, 3) := by decide +kernel
theorem dX9_sink_53 : decode cX9_sink 53 = .ok (.ifCond .eq 6, 3) := by decide +kernel
theorem dX9_sink_56 : decode cX9_sink 56 = .ok (.iinc 4 1, 3) := by decide +kernel
theorem dX9_sink_59 : decode cX9_sink 59 = .ok (.aload_n 0, 1) := by decide +kernel
theorem dX9_sink_60 : decode cX9_sink 60 = .ok (.iload_n 1, 1) := by decide +kernel
theorem dX9_sink_61 : decode cX9_sink 61 = .ok (.aload_n 0, 1) := by decide +kernel
theorem dX9_sink_62 : decode cX9_sink 62 = .ok (.getfield 42, 3) := by decide +kernel
theorem dX9_sink_65 : decode cX9_sink 65 = .ok (.iload 4, 2) := by decide +kernel
theorem dX9_sink_67 : decode cX9_sink 67 = .ok (.iaload, 1) := by decide +kernel
theorem dX9_sink_68 : decode cX9_sink 68 = .ok (.aload_n 0, 1) := by decide +kernel
theorem dX9_sink_69 : decode cX9_sink 69 = .ok (.getfield 42, 3) := by decide +kernel
theorem dX9_sink_72 : decode cX9_sink 72 = .ok (.iload_n 3, 1) := by decide +kernel
theorem dX9_sink_73 : decode cX9_sink 73 = .ok (.iaload, 1) := by decide +kernel
theorem dX9_sink_74 : decode cX9_sink 74 = .ok (.invokevirtual 95, 3) := by decide +kernel
theorem dX9_sink_77 : decode cX9_sink 77 = .ok (.ifCond .ne 4, 3) := by decide +kernel
theorem dX9_sink_80 : decode cX9_sink 80 = .ok (.return_, 1) := by decide +kernel
theorem dX9_sink_81 : decode cX9_sink 81 = .ok (.aload_n 0, 1) := by decide +kernel
theorem dX9_sink_82 : decode cX9_sink 82 = .ok (.getfield 42, 3) := by decide +kernel
theorem dX9_sink_85 : decode cX9_sink 85 = .ok (.iload 4, 2) := by decide +kernel
theorem dX9_sink_87 : decode cX9_sink 87 = .ok (.iaload, 1) := by decide +kernel
theorem dX9_sink_88 : decode cX9_sink 88 = .ok (.istore 5, 2) := by decide +kernel
theorem dX9_sink_90 : decode cX9_sink 90 = .ok (.aload_n 0, 1) := by decide +kernel
theorem dX9_sink_91 : decode cX9_sink 91 = .ok (.getfield 42, 3) := by decide +kernel
theorem dX9_sink_94 : decode cX9_sink 94 = .ok (.iload 4, 2) := by decide +kernel
theorem dX9_sink_96 : decode cX9_sink 96 = .ok (.aload_n 0, 1) := by decide +kernel
theorem dX9_sink_97 : decode cX9_sink 97 = .ok (.getfield 42, 3) := by decide +kernel
theorem dX9_sink_100 : decode cX9_sink 100 = .ok (.iload_n 3, 1) := by decide +kernel
theorem dX9_sink_101 : decode cX9_sink 101 = .ok (.iaload, 1) := by decide +kernel
theorem dX9_sink_102 : decode cX9_sink 102 = .ok (.iastore, 1) := by decide +kernel
theorem dX9_sink_103 : decode cX9_sink 103 = .ok (.aload_n 0, 1) := by decide +kernel
theorem dX9_sink_104 : decode cX9_sink 104 = .ok (.getfield 42, 3) := by decide +kernel
theorem dX9_sink_107 : decode cX9_sink 107 = .ok (.iload_n 3, 1) := by decide +kernel
theorem dX9_sink_108 : decode cX9_sink 108 = .ok (.iload 5, 2) := by decide +kernel
theorem dX9_sink_110 : decode cX9_sink 110 = .ok (.iastore, 1) := by decide +kernel
theorem dX9_sink_111 : decode cX9_sink 111 = .ok (.iload 4, 2) := by decide +kernel
theorem dX9_sink_113 : decode cX9_sink 113 = .ok (.istore_n 3, 1) := by decide +kernel
theorem dX9_sink_114 : decode cX9_sink 114 = .ok (.goto (-112), 3) := by decide +kernel
theorem dX9_sink_117 : decode cX9_sink 117 = .ok (.return_, 1) := by decide +kernel
theorem dX9_even_0 : decode cX9_even 0 = .ok (.aload_n 0, 1) := by decide +kernel
theorem dX9_even_1 : decode cX9_even 1 = .ok (.iconst 0, 1) := by decide +kernel
theorem dX9_even_2 : decode cX9_even 2 = .ok (.putfield 92, 3) := by decide +kernel
theorem dX9_even_5 : decode cX9_even 5 = .ok (.iconst 0, 1) := by decide +kernel
theorem dX9_even_6 : decode cX9_even 6 = .ok (.istore 4, 2) := by decide +kernel
theorem dX9_even_8 : decode cX9_even 8 = .ok (.iload 4, 2) := by decide +kernel
theorem dX9_even_10 : decode cX9_even 10 = .ok (.sipush 256, 3) := by decide +kernel
theorem dX9_even_13 : decode cX9_even 13 = .ok (.if_icmp .ge 54, 3) := by decide +kernel
theorem dX9_even_16 : decode cX9_even 16 = .ok (.aload_n 0, 1) := by decide +kernel
theorem dX9_even_17 : decode cX9_even 17 = .ok (.getfield 45, 3) := by decide +kernel
theorem dX9_even_20 : decode cX9_even 20 = .ok (.iload 4, 2) := by decide +kernel
theorem dX9_even_22 : decode cX9_even 22 = .ok (.iconst 0, 1) := by decide +kernel
theorem dX9_even_23 : decode cX9_even 23 = .ok (.iastore, 1) := by decide +kernel
theorem dX9_even_24 : decode cX9_even 24 = .ok (.aload_n 0, 1) := by decide +kernel
theorem dX9_even_25 : decode cX9_even 25 = .ok (.getfield 19, 3) := by decide +kernel
theorem dX9_even_28 : decode cX9_even 28 = .ok (.sipush 256, 3) := by decide +kernel
theorem dX9_even_31 : decode cX9_even 31 = .ok (.iload_n 1, 1) := by decide +kernel
theorem dX9_even_32 : decode cX9_even 32 = .ok (.imul, 1) := by decide +kernel
theorem dX9_even_33 : decode cX9_even 33 = .ok (.iload 4, 2) := by decide +kernel
theorem dX9_even_35 : decode cX9_even 35 = .ok (.iadd, 1) := by decide +kernel
theorem dX9_even_36 : decode cX9_even 36 = .ok (.iaload, 1) := by decide +kernel
theorem dX9_even_37 : decode cX9_even 37 = .ok (.ifCond .le 24, 3) := by decide +kernel
theorem dX9_even_40 : decode cX9_even 40 = .ok (.aload_n 0, 1) := by decide +kernel
theorem dX9_even_41 : decode cX9_even 41 = .ok (.getfield 42, 3) := by decide +kernel
theorem dX9_even_44 : decode cX9_even 44 = .ok (.aload_n 0, 1) := by decide +kernel
theorem dX9_even_45 : decode cX9_even 45 = .ok (.getfield 92, 3) := by decide +kernel
theorem dX9_even_48 : decode cX9_even 48 = .ok (.iload 4, 2) := by decide +kernel
theorem dX9_even_50 : decode cX9_even 50 = .ok (.iastore, 1) := by decide +kernel
theorem dX9_even_51 : decode cX9_even 51 = .ok (.aload_n 0, 1) := by decide +kernel
theorem dX9_even_52 : decode cX9_even 52 = .ok (.dup, 1) := by decide +kernel
theorem dX9_even_53 : decode cX9_even 53 = .ok (.getfield 92, 3) := by decide +kernel
theorem dX9_even_56 : decode cX9_even 56 = .ok (.iconst 1, 1) := by decide +kernel
theorem dX9_even_57 : decode cX9_even 57 = .ok (.iadd, 1) := by decide +kernel
theorem dX9_even_58 : decode cX9_even 58 = .ok (.putfield 92, 3) := by decide +kernel
theorem dX9_even_61 : decode cX9_even 61 = .ok (.iinc 4 1, 3) := by decide +kernel
theorem dX9_even_64 : decode cX9_even 64 = .ok (.goto (-56), 3) := by decide +kernel
theorem dX9_even_67 : decode cX9_even 67 = .ok (.aload_n 0, 1) := by decide +kernel
theorem dX9_even_68 : decode cX9_even 68 = .ok (.getfield 92, 3) := by decide +kernel
theorem dX9_even_71 : decode cX9_even 71 = .ok (.iconst 2, 1) := by decide +kernel
theorem dX9_even_72 : decode cX9_even 72 = .ok (.idiv, 1) := by decide +kernel
theorem dX9_even_73 : decode cX9_even 73 = .ok (.istore 4, 2) := by decide +kernel
theorem dX9_even_75 : decode cX9_even 75 = .ok (.iload 4, 2) := by decide +kernel
theorem dX9_even_77 : decode cX9_even 77 = .ok (.ifCond .lt 16, 3) := by decide +kernel
theorem dX9_even_80 : decode cX9_even 80 = .ok (.aload_n 0, 1) := by decide +kernel
theorem dX9_even_81 : decode cX9_even 81 = .ok (.iload_n 1, 1) := by decide +kernel
theorem dX9_even_82 : decode cX9_even 82 = .ok (.iload 4, 2) := by decide +kernel
theorem dX9_even_84 : decode cX9_even 84 = .ok (.invokevirtual 99, 3) := by decide +kernel
theorem dX9_even_87 : decode cX9_even 87 = .ok (.iinc 4 (-1), 3) := by decide +kernel
theorem dX9_even_90 : decode cX9_even 90 = .ok (.goto (-15), 3) := by decide +kernel
theorem dX9_even_93 : decode cX9_even 93 = .ok (.iconst 0, 1) := by decide +kernel
theorem dX9_even_94 : decode cX9_even 94 = .ok (.istore 4, 2) := by decide +kernel
theorem dX9_even_96 : decode cX9_even 96 = .ok (.iload 4, 2) := by decide +kernel
theorem dX9_even_98 : decode cX9_even 98 = .ok (.iload_n 3, 1) := by decide +kernel
theorem dX9_even_99 : decode cX9_even 99 = .ok (.if_icmp .ge 93, 3) := by decide +kernel
theorem dX9_even_102 : decode cX9_even 102 = .ok (.aload_n 0, 1) := by decide +kernel
theorem dX9_even_103 : decode cX9_even 103 = .ok (.getfield 42, 3) := by decide +kernel
theorem dX9_even_106 : decode cX9_even 106 = .ok (.iconst 0, 1) := by decide +kernel
theorem dX9_even_107 : decode cX9_even 107 = .ok (.iaload, 1) := by decide +kernel
theorem dX9_even_108 : decode cX9_even 108 = .ok (.istore 5, 2) := by decide +kernel
theorem dX9_even_110 : decode cX9_even 110 = .ok (.aload_n 0, 1) := by decide +kernel
theorem dX9_even_111 : decode cX9_even 111 = .ok (.getfield 30, 3) := by decide +kernel
theorem dX9_even_114 : decode cX9_even 114 = .ok (.iload_n 2, 1) := by decide +kernel
theorem dX9_even_115 : decode cX9_even 115 = .ok (.iload 4, 2) := by decide +kernel
theorem dX9_even_117 : decode cX9_even 117 = .ok (.iadd, 1) := by decide +kernel
theorem dX9_even_118 : decode cX9_even 118 = .ok (.iload 5, 2) := by decide +kernel
theorem dX9_even_120 : decode cX9_even 120 = .ok (.iastore, 1) := by decide +kernel
theorem dX9_even_121 : decode cX9_even 121 = .ok (.aload_n 0, 1) := by decide +kernel
theorem dX9_even_122 : decode cX9_even 122 = .ok (.getfield 45, 3) := by decide +kernel
theorem dX9_even_125 : decode cX9_even 125 = .ok (.iload 5, 2) := by decide +kernel
theorem dX9_even_127 : decode cX9_even 127 = .ok (.dup2, 1) := by decide +kernel
theorem dX9_even_128 : decode cX9_even 128 = .ok (.iaload, 1) := by decide +kernel
theorem dX9_even_129 : decode cX9_even 129 = .ok (.iconst 1, 1) := by decide +kernel
theorem dX9_even_130 : decode cX9_even 130 = .ok (.iadd, 1) := by decide +kernel
theorem dX9_even_131 : decode cX9_even 131 = .ok (.iastore, 1) := by decide +kernel
theorem dX9_even_132 : decode cX9_even 132 = .ok (.aload_n 0, 1) := by decide +kernel
theorem dX9_even_133 : decode cX9_even 133 = .ok (.getfield 45, 3) := by decide +kernel
theorem dX9_even_136 : decode cX9_even 136 = .ok (.iload 5, 2) := by decide +kernel
theorem dX9_even_138 : decode cX9_even 138 = .ok (.iaload, 1) := by decide +kernel
theorem dX9_even_139 : decode cX9_even 139 = .ok (.aload_n 0, 1) := by decide +kernel
theorem dX9_even_140 : decode cX9_even 140 = .ok (.getfield 19, 3) := by decide +kernel
theorem dX9_even_143 : decode cX9_even 143 = .ok (.sipush 256, 3) := by decide +kernel
theorem dX9_even_146 : decode cX9_even 146 = .ok (.iload_n 1, 1) := by decide +kernel
theorem dX9_even_147 : decode cX9_even 147 = .ok (.imul, 1) := by decide +kernel
theorem dX9_even_148 : decode cX9_even 148 = .ok (.iload 5, 2) := by decide +kernel
theorem dX9_even_150 : decode cX9_even 150 = .ok (.iadd, 1) := by decide +kernel
theorem dX9_even_151 : decode cX9_even 151 = .ok (.iaload, 1) := by decide +kernel
theorem dX9_even_152 : decode cX9_even 152 = .ok (.if_icmp .ne 28, 3) := by decide +kernel
theorem dX9_even_155 : decode cX9_even 155 = .ok (.aload_n 0, 1) := by decide +kernel
theorem dX9_even_156 : decode cX9_even 156 = .ok (.dup, 1) := by decide +kernel
theorem dX9_even_157 : decode cX9_even 157 = .ok (.getfield 92, 3) := by decide +kernel
theorem dX9_even_160 : decode cX9_even 160 = .ok (.iconst 1, 1) := by decide +kernel
theorem dX9_even_161 : decode cX9_even 161 = .ok (.isub, 1) := by decide +kernel
theorem dX9_even_162 : decode cX9_even 162 = .ok (.putfield 92, 3) := by decide +kernel
theorem dX9_even_165 : decode cX9_even 165 = .ok (.aload_n 0, 1) := by decide +kernel
theorem dX9_even_166 : decode cX9_even 166 = .ok (.getfield 42, 3) := by decide +kernel
theorem dX9_even_169 : decode cX9_even 169 = .ok (.iconst 0, 1) := by decide +kernel
theorem dX9_even_170 : decode cX9_even 170 = .ok (.aload_n 0, 1) := by decide +kernel
theorem dX9_even_171 : decode cX9_even 171 = .ok (.getfield 42, 3) := by decide +kernel
theorem dX9_even_174 : decode cX9_even 174 = .ok (.aload_n 0, 1) := by decide +kernel
theorem dX9_even_175 : decode cX9_even 175 = .ok (.getfield 92, 3) := by decide +kernel
theorem dX9_even_178 : decode cX9_even 178 = .ok (.iaload, 1) := by decide +kernel
theorem dX9_even_179 : decode cX9_even 179 = .ok (.iastore, 1) := by decide +kernel
theorem dX9_even_180 : decode cX9_even 180 = .ok (.aload_n 0, 1) := by decide +kernel
theorem dX9_even_181 : decode cX9_even 181 = .ok (.iload_n 1, 1) := by decide +kernel
theorem dX9_even_182 : decode cX9_even 182 = .ok (.iconst 0, 1) := by decide +kernel
theorem dX9_even_183 : decode cX9_even 183 = .ok (.invokevirtual 99, 3) := by decide +kernel
theorem dX9_even_186 : decode cX9_even 186 = .ok (.iinc 4 1, 3) := by decide +kernel
theorem dX9_even_189 : decode cX9_even 189 = .ok (.goto (-93), 3) := by decide +kernel
theorem dX9_even_192 : decode cX9_even 192 = .ok (.return_, 1) := by decide +kernel
theorem dX9_isPlace_0 : decode cX9_isPlace 0 = .ok (.aload_n 0, 1) := by decide +kernel
theorem dX9_isPlace_1 : decode cX9_isPlace 1 = .ok (.iload_n 1, 1) := by decide +kernel
theorem dX9_isPlace_2 : decode cX9_isPlace 2 = .ok (.invokevirtual 84, 3) := by decide +kernel
theorem dX9_isPlace_5 : decode cX9_isPlace 5 = .ok (.ifCond .eq 32, 3) := by decide +kernel
theorem dX9_isPlace_8 : decode cX9_isPlace 8 = .ok (.iload_n 2, 1) := by decide +kernel
theorem dX9_isPlace_9 : decode cX9_isPlace 9 = .ok (.ifCond .lt 28, 3) := by decide +kernel
theorem dX9_isPlace_12 : decode cX9_isPlace 12 = .ok (.iload_n 2, 1) := by decide +kernel
theorem dX9_isPlace_13 : decode cX9_isPlace 13 = .ok (.iconst 3, 1) := by decide +kernel
theorem dX9_isPlace_14 : decode cX9_isPlace 14 = .ok (.if_icmp .ge 23, 3) := by decide +kernel
theorem dX9_isPlace_17 : decode cX9_isPlace 17 = .ok (.iload_n 3, 1) := by decide +kernel
theorem dX9_isPlace_18 : decode cX9_isPlace 18 = .ok (.ifCond .lt 19, 3) := by decide +kernel
theorem dX9_isPlace_21 : decode cX9_isPlace 21 = .ok (.iload_n 3, 1) := by decide +kernel
theorem dX9_isPlace_22 : decode cX9_isPlace 22 = .ok (.iconst 1, 1) := by decide +kernel
theorem dX9_isPlace_23 : decode cX9_isPlace 23 = .ok (.aload_n 0, 1) := by decide +kernel
theorem dX9_isPlace_24 : decode cX9_isPlace 24 = .ok (.getfield 16, 3) := by decide +kernel
theorem dX9_isPlace_27 : decode cX9_isPlace 27 = .ok (.iload_n 1, 1) := by decide +kernel
theorem dX9_isPlace_28 : decode cX9_isPlace 28 = .ok (.iaload, 1) := by decide +kernel
theorem dX9_isPlace_29 : decode cX9_isPlace 29 = .ok (.ishl, 1) := by decide +kernel
theorem dX9_isPlace_30 : decode cX9_isPlace 30 = .ok (.if_icmp .ge 7, 3) := by decide +kernel
theorem dX9_isPlace_33 : decode cX9_isPlace 33 = .ok (.iconst 1, 1) := by decide +kernel
theorem dX9_isPlace_34 : decode cX9_isPlace 34 = .ok (.goto 4, 3) := by decide +kernel
theorem dX9_isPlace_37 : decode cX9_isPlace 37 = .ok (.iconst 0, 1) := by decide +kernel
theorem dX9_isPlace_38 : decode cX9_isPlace 38 = .ok (.ireturn, 1) := by decide +kernel
theorem dX9_place_0 : decode cX9_place 0 = .ok (.aload_n 0, 1) := by decide +kernel
theorem dX9_place_1 : decode cX9_place 1 = .ok (.iload_n 1, 1) := by decide +kernel
theorem dX9_place_2 : decode cX9_place 2 = .ok (.iload_n 2, 1) := by decide +kernel
theorem dX9_place_3 : decode cX9_place 3 = .ok (.iload_n 3, 1) := by decide +kernel
theorem dX9_place_4 : decode cX9_place 4 = .ok (.invokevirtual 103, 3) := by decide +kernel
theorem dX9_place_7 : decode cX9_place 7 = .ok (.ifCond .ne 5, 3) := by decide +kernel
theorem dX9_place_10 : decode cX9_place 10 = .ok (.iconst (-1), 1) := by decide +kernel
theorem dX9_place_11 : decode cX9_place 11 = .ok (.ireturn, 1) := by decide +kernel
theorem dX9_place_12 : decode cX9_place 12 = .ok (.aload_n 0, 1) := by decide +kernel
theorem dX9_place_13 : decode cX9_place 13 = .ok (.iload_n 1, 1) := by decide +kernel
theorem dX9_place_14 : decode cX9_place 14 = .ok (.iload_n 2, 1) := by decide +kernel
theorem dX9_place_15 : decode cX9_place 15 = .ok (.invokevirtual 106, 3) := by decide +kernel
theorem dX9_place_18 : decode cX9_place 18 = .ok (.aload_n 0, 1) := by decide +kernel
theorem dX9_place_19 : decode cX9_place 19 = .ok (.getfield 30, 3) := by decide +kernel
theorem dX9_place_22 : decode cX9_place 22 = .ok (.sipush 4096, 3) := by decide +kernel
theorem dX9_place_25 : decode cX9_place 25 = .ok (.iconst 3, 1) := by decide +kernel
theorem dX9_place_26 : decode cX9_place 26 = .ok (.iload_n 1, 1) := by decide +kernel
theorem dX9_place_27 : decode cX9_place 27 = .ok (.imul, 1) := by decide +kernel
theorem dX9_place_28 : decode cX9_place 28 = .ok (.iload_n 2, 1) := by decide +kernel
theorem dX9_place_29 : decode cX9_place 29 = .ok (.iadd, 1) := by decide +kernel
theorem dX9_place_30 : decode cX9_place 30 = .ok (.imul, 1) := by decide +kernel
theorem dX9_place_31 : decode cX9_place 31 = .ok (.iload_n 3, 1) := by decide +kernel
theorem dX9_place_32 : decode cX9_place 32 = .ok (.iadd, 1) := by decide +kernel
theorem dX9_place_33 : decode cX9_place 33 = .ok (.iaload, 1) := by decide +kernel
theorem dX9_place_34 : decode cX9_place 34 = .ok (.ireturn, 1) := by decide +kernel
theorem dX9_rank_0 : decode cX9_rank 0 = .ok (.aload_n 0, 1) := by decide +kernel
theorem dX9_rank_1 : decode cX9_rank 1 = .ok (.iload_n 1, 1) := by decide +kernel
theorem dX9_rank_2 : decode cX9_rank 2 = .ok (.iload_n 2, 1) := by decide +kernel
theorem dX9_rank_3 : decode cX9_rank 3 = .ok (.iload_n 3, 1) := by decide +kernel
theorem dX9_rank_4 : decode cX9_rank 4 = .ok (.invokevirtual 103, 3) := by decide +kernel
theorem dX9_rank_7 : decode cX9_rank 7 = .ok (.ifCond .ne 5, 3) := by decide +kernel
theorem dX9_rank_10 : decode cX9_rank 10 = .ok (.iconst (-1), 1) := by decide +kernel
theorem dX9_rank_11 : decode cX9_rank 11 = .ok (.ireturn, 1) := by decide +kernel
theorem dX9_rank_12 : decode cX9_rank 12 = .ok (.aload_n 0, 1) := by decide +kernel
theorem dX9_rank_13 : decode cX9_rank 13 = .ok (.iload_n 1, 1) := by decide +kernel
theorem dX9_rank_14 : decode cX9_rank 14 = .ok (.iload_n 2, 1) := by decide +kernel
theorem dX9_rank_15 : decode cX9_rank 15 = .ok (.invokevirtual 106, 3) := by decide +kernel
theorem dX9_rank_18 : decode cX9_rank 18 = .ok (.aload_n 0, 1) := by decide +kernel
theorem dX9_rank_19 : decode cX9_rank 19 = .ok (.getfield 33, 3) := by decide +kernel
theorem dX9_rank_22 : decode cX9_rank 22 = .ok (.sipush 4096, 3) := by decide +kernel
theorem dX9_rank_25 : decode cX9_rank 25 = .ok (.iconst 3, 1) := by decide +kernel
theorem dX9_rank_26 : decode cX9_rank 26 = .ok (.iload_n 1, 1) := by decide +kernel
theorem dX9_rank_27 : decode cX9_rank 27 = .ok (.imul, 1) := by decide +kernel
theorem dX9_rank_28 : decode cX9_rank 28 = .ok (.iload_n 2, 1) := by decide +kernel
theorem dX9_rank_29 : decode cX9_rank 29 = .ok (.iadd, 1) := by decide +kernel
theorem dX9_rank_30 : decode cX9_rank 30 = .ok (.imul, 1) := by decide +kernel
theorem dX9_rank_31 : decode cX9_rank 31 = .ok (.iload_n 3, 1) := by decide +kernel
theorem dX9_rank_32 : decode cX9_rank 32 = .ok (.iadd, 1) := by decide +kernel
theorem dX9_rank_33 : decode cX9_rank 33 = .ok (.iaload, 1) := by decide +kernel
theorem dX9_rank_34 : decode cX9_rank 34 = .ok (.ireturn, 1) := by decide +kernel
theorem dX9_isWay_0 : decode cX9_isWay 0 = .ok (.iload_n 0, 1) := by decide +kernel
theorem dX9_isWay_1 : decode cX9_isWay 1 = .ok (.ifCond .ne 20, 3) := by decide +kernel
theorem dX9_isWay_4 : decode cX9_isWay 4 = .ok (.iload_n 1, 1) := by decide +kernel
theorem dX9_isWay_5 : decode cX9_isWay 5 = .ok (.ifCond .lt 12, 3) := by decide +kernel
theorem dX9_isWay_8 : decode cX9_isWay 8 = .ok (.iload_n 1, 1) := by decide +kernel
theorem dX9_isWay_9 : decode cX9_isWay 9 = .ok (.iconst 3, 1) := by decide +kernel
theorem dX9_isWay_10 : decode cX9_isWay 10 = .ok (.if_icmp .ge 7, 3) := by decide +kernel
theorem dX9_isWay_13 : decode cX9_isWay 13 = .ok (.iconst 1, 1) := by decide +kernel
theorem dX9_isWay_14 : decode cX9_isWay 14 = .ok (.goto 26, 3) := by decide +kernel
theorem dX9_isWay_17 : decode cX9_isWay 17 = .ok (.iconst 0, 1) := by decide +kernel
theorem dX9_isWay_18 : decode cX9_isWay 18 = .ok (.goto 22, 3) := by decide +kernel
theorem dX9_isWay_21 : decode cX9_isWay 21 = .ok (.iload_n 0, 1) := by decide +kernel
theorem dX9_isWay_22 : decode cX9_isWay 22 = .ok (.iconst 1, 1) := by decide +kernel
theorem dX9_isWay_23 : decode cX9_isWay 23 = .ok (.if_icmp .eq 8, 3) := by decide +kernel
theorem dX9_isWay_26 : decode cX9_isWay 26 = .ok (.iload_n 0, 1) := by decide +kernel
theorem dX9_isWay_27 : decode cX9_isWay 27 = .ok (.iconst 2, 1) := by decide +kernel
theorem dX9_isWay_28 : decode cX9_isWay 28 = .ok (.if_icmp .ne 11, 3) := by decide +kernel
theorem dX9_isWay_31 : decode cX9_isWay 31 = .ok (.iload_n 1, 1) := by decide +kernel
theorem dX9_isWay_32 : decode cX9_isWay 32 = .ok (.ifCond .ne 7, 3) := by decide +kernel
theorem dX9_isWay_35 : decode cX9_isWay 35 = .ok (.iconst 1, 1) := by decide +kernel
theorem dX9_isWay_36 : decode cX9_isWay 36 = .ok (.goto 4, 3) := by decide +kernel
theorem dX9_isWay_39 : decode cX9_isWay 39 = .ok (.iconst 0, 1) := by decide +kernel
theorem dX9_isWay_40 : decode cX9_isWay 40 = .ok (.ireturn, 1) := by decide +kernel
theorem dX9_step_0 : decode cX9_step 0 = .ok (.aload_n 0, 1) := by decide +kernel
theorem dX9_step_1 : decode cX9_step 1 = .ok (.getfield 19, 3) := by decide +kernel
theorem dX9_step_4 : decode cX9_step 4 = .ok (.sipush 256, 3) := by decide +kernel
theorem dX9_step_7 : decode cX9_step 7 = .ok (.iload_n 1, 1) := by decide +kernel
theorem dX9_step_8 : decode cX9_step 8 = .ok (.imul, 1) := by decide +kernel
theorem dX9_step_9 : decode cX9_step 9 = .ok (.iload 5, 2) := by decide +kernel
theorem dX9_step_11 : decode cX9_step 11 = .ok (.iadd, 1) := by decide +kernel
theorem dX9_step_12 : decode cX9_step 12 = .ok (.iaload, 1) := by decide +kernel
theorem dX9_step_13 : decode cX9_step 13 = .ok (.istore 6, 2) := by decide +kernel
theorem dX9_step_15 : decode cX9_step 15 = .ok (.aload_n 0, 1) := by decide +kernel
theorem dX9_step_16 : decode cX9_step 16 = .ok (.getfield 16, 3) := by decide +kernel
theorem dX9_step_19 : decode cX9_step 19 = .ok (.iload_n 1, 1) := by decide +kernel
theorem dX9_step_20 : decode cX9_step 20 = .ok (.iaload, 1) := by decide +kernel
theorem dX9_step_21 : decode cX9_step 21 = .ok (.istore 7, 2) := by decide +kernel
theorem dX9_step_23 : decode cX9_step 23 = .ok (.aload_n 0, 1) := by decide +kernel
theorem dX9_step_24 : decode cX9_step 24 = .ok (.iconst 0, 1) := by decide +kernel
theorem dX9_step_25 : decode cX9_step 25 = .ok (.putfield 109, 3) := by decide +kernel
theorem dX9_step_28 : decode cX9_step 28 = .ok (.iload_n 2, 1) := by decide +kernel
theorem dX9_step_29 : decode cX9_step 29 = .ok (.ifCond .ne 98, 3) := by decide +kernel
theorem dX9_step_32 : decode cX9_step 32 = .ok (.iload 4, 2) := by decide +kernel
theorem dX9_step_34 : decode cX9_step 34 = .ok (.aload_n 0, 1) := by decide +kernel
theorem dX9_step_35 : decode cX9_step 35 = .ok (.getfield 109, 3) := by decide +kernel
theorem dX9_step_38 : decode cX9_step 38 = .ok (.ishr, 1) := by decide +kernel
theorem dX9_step_39 : decode cX9_step 39 = .ok (.iconst 2, 1) := by decide +kernel
theorem dX9_step_40 : decode cX9_step 40 = .ok (.iload 6, 2) := by decide +kernel
theorem dX9_step_42 : decode cX9_step 42 = .ok (.imul, 1) := by decide +kernel
theorem dX9_step_43 : decode cX9_step 43 = .ok (.if_icmp .lt 16, 3) := by decide +kernel
theorem dX9_step_46 : decode cX9_step 46 = .ok (.aload_n 0, 1) := by decide +kernel
theorem dX9_step_47 : decode cX9_step 47 = .ok (.dup, 1) := by decide +kernel
theorem dX9_step_48 : decode cX9_step 48 = .ok (.getfield 109, 3) := by decide +kernel
theorem dX9_step_51 : decode cX9_step 51 = .ok (.iconst 1, 1) := by decide +kernel
theorem dX9_step_52 : decode cX9_step 52 = .ok (.iadd, 1) := by decide +kernel
theorem dX9_step_53 : decode cX9_step 53 = .ok (.putfield 109, 3) := by decide +kernel
theorem dX9_step_56 : decode cX9_step 56 = .ok (.goto (-24), 3) := by decide +kernel
theorem dX9_step_59 : decode cX9_step 59 = .ok (.aload_n 0, 1) := by decide +kernel
theorem dX9_step_60 : decode cX9_step 60 = .ok (.iload 4, 2) := by decide +kernel
theorem dX9_step_62 : decode cX9_step 62 = .ok (.iconst 1, 1) := by decide +kernel
theorem dX9_step_63 : decode cX9_step 63 = .ok (.aload_n 0, 1) := by decide +kernel
theorem dX9_step_64 : decode cX9_step 64 = .ok (.getfield 109, 3) := by decide +kernel
theorem dX9_step_67 : decode cX9_step 67 = .ok (.ishl, 1) := by decide +kernel
theorem dX9_step_68 : decode cX9_step 68 = .ok (.iconst 1, 1) := by decide +kernel
theorem dX9_step_69 : decode cX9_step 69 = .ok (.isub, 1) := by decide +kernel
theorem dX9_step_70 : decode cX9_step 70 = .ok (.iand, 1) := by decide +kernel
theorem dX9_step_71 : decode cX9_step 71 = .ok (.putfield 112, 3) := by decide +kernel
theorem dX9_step_74 : decode cX9_step 74 = .ok (.iload 4, 2) := by decide +kernel
theorem dX9_step_76 : decode cX9_step 76 = .ok (.aload_n 0, 1) := by decide +kernel
theorem dX9_step_77 : decode cX9_step 77 = .ok (.getfield 109, 3) := by decide +kernel
theorem dX9_step_80 : decode cX9_step 80 = .ok (.ishr, 1) := by decide +kernel
theorem dX9_step_81 : decode cX9_step 81 = .ok (.istore 8, 2) := by decide +kernel
theorem dX9_step_83 : decode cX9_step 83 = .ok (.aload_n 0, 1) := by decide +kernel
theorem dX9_step_84 : decode cX9_step 84 = .ok (.iconst 1, 1) := by decide +kernel
theorem dX9_step_85 : decode cX9_step 85 = .ok (.iload 7, 2) := by decide +kernel
theorem dX9_step_87 : decode cX9_step 87 = .ok (.ishl, 1) := by decide +kernel
theorem dX9_step_88 : decode cX9_step 88 = .ok (.aload_n 0, 1) := by decide +kernel
theorem dX9_step_89 : decode cX9_step 89 = .ok (.getfield 36, 3) := by decide +kernel
theorem dX9_step_92 : decode cX9_step 92 = .ok (.sipush 4096, 3) := by decide +kernel
theorem dX9_step_95 : decode cX9_step 95 = .ok (.iconst 3, 1) := by decide +kernel
theorem dX9_step_96 : decode cX9_step 96 = .ok (.iload_n 1, 1) := by decide +kernel
theorem dX9_step_97 : decode cX9_step 97 = .ok (.imul, 1) := by decide +kernel
theorem dX9_step_98 : decode cX9_step 98 = .ok (.iload_n 3, 1) := by decide +kernel
theorem dX9_step_99 : decode cX9_step 99 = .ok (.iadd, 1) := by decide +kernel
theorem dX9_step_100 : decode cX9_step 100 = .ok (.imul, 1) := by decide +kernel
theorem dX9_step_101 : decode cX9_step 101 = .ok (.aload_n 0, 1) := by decide +kernel
theorem dX9_step_102 : decode cX9_step 102 = .ok (.getfield 22, 3) := by decide +kernel
theorem dX9_step_105 : decode cX9_step 105 = .ok (.sipush 256, 3) := by decide +kernel
theorem dX9_step_108 : decode cX9_step 108 = .ok (.iload_n 1, 1) := by decide +kernel
theorem dX9_step_109 : decode cX9_step 109 = .ok (.imul, 1) := by decide +kernel
theorem dX9_step_110 : decode cX9_step 110 = .ok (.iload 5, 2) := by decide +kernel
theorem dX9_step_112 : decode cX9_step 112 = .ok (.iadd, 1) := by decide +kernel
theorem dX9_step_113 : decode cX9_step 113 = .ok (.iaload, 1) := by decide +kernel
theorem dX9_step_114 : decode cX9_step 114 = .ok (.iadd, 1) := by decide +kernel
theorem dX9_step_115 : decode cX9_step 115 = .ok (.iload 8, 2) := by decide +kernel
theorem dX9_step_117 : decode cX9_step 117 = .ok (.iadd, 1) := by decide +kernel
theorem dX9_step_118 : decode cX9_step 118 = .ok (.iload 6, 2) := by decide +kernel
theorem dX9_step_120 : decode cX9_step 120 = .ok (.isub, 1) := by decide +kernel
theorem dX9_step_121 : decode cX9_step 121 = .ok (.iaload, 1) := by decide +kernel
theorem dX9_step_122 : decode cX9_step 122 = .ok (.iadd, 1) := by decide +kernel
theorem dX9_step_123 : decode cX9_step 123 = .ok (.putfield 115, 3) := by decide +kernel
theorem dX9_step_126 : decode cX9_step 126 = .ok (.return_, 1) := by decide +kernel
theorem dX9_step_127 : decode cX9_step 127 = .ok (.iload 6, 2) := by decide +kernel
theorem dX9_step_129 : decode cX9_step 129 = .ok (.i2l, 1) := by decide +kernel
theorem dX9_step_130 : decode cX9_step 130 = .ok (.bipush 31, 2) := by decide +kernel
theorem dX9_step_132 : decode cX9_step 132 = .ok (.iload 7, 2) := by decide +kernel
theorem dX9_step_134 : decode cX9_step 134 = .ok (.isub, 1) := by decide +kernel
theorem dX9_step_135 : decode cX9_step 135 = .ok (.lshl, 1) := by decide +kernel
theorem dX9_step_136 : decode cX9_step 136 = .ok (.lstore 8, 2) := by decide +kernel
theorem dX9_step_138 : decode cX9_step 138 = .ok (.iload 4, 2) := by decide +kernel
theorem dX9_step_140 : decode cX9_step 140 = .ok (.istore 10, 2) := by decide +kernel
theorem dX9_step_142 : decode cX9_step 142 = .ok (.iload 10, 2) := by decide +kernel
theorem dX9_step_144 : decode cX9_step 144 = .ok (.i2l, 1) := by decide +kernel
theorem dX9_step_145 : decode cX9_step 145 = .ok (.lload 8, 2) := by decide +kernel
theorem dX9_step_147 : decode cX9_step 147 = .ok (.lcmp, 1) := by decide +kernel
theorem dX9_step_148 : decode cX9_step 148 = .ok (.ifCond .lt 23, 3) := by decide +kernel
theorem dX9_step_151 : decode cX9_step 151 = .ok (.iload 10, 2) := by decide +kernel
theorem dX9_step_153 : decode cX9_step 153 = .ok (.bipush 8, 2) := by decide +kernel
theorem dX9_step_155 : decode cX9_step 155 = .ok (.ishr, 1) := by decide +kernel
theorem dX9_step_156 : decode cX9_step 156 = .ok (.istore 10, 2) := by decide +kernel
theorem dX9_step_158 : decode cX9_step 158 = .ok (.aload_n 0, 1) := by decide +kernel
theorem dX9_step_159 : decode cX9_step 159 = .ok (.dup, 1) := by decide +kernel
theorem dX9_step_160 : decode cX9_step 160 = .ok (.getfield 109, 3) := by decide +kernel
theorem dX9_step_163 : decode cX9_step 163 = .ok (.iconst 1, 1) := by decide +kernel
theorem dX9_step_164 : decode cX9_step 164 = .ok (.iadd, 1) := by decide +kernel
theorem dX9_step_165 : decode cX9_step 165 = .ok (.putfield 109, 3) := by decide +kernel
theorem dX9_step_168 : decode cX9_step 168 = .ok (.goto (-26), 3) := by decide +kernel
theorem dX9_step_171 : decode cX9_step 171 = .ok (.aload_n 0, 1) := by decide +kernel
theorem dX9_step_172 : decode cX9_step 172 = .ok (.iload 4, 2) := by decide +kernel
theorem dX9_step_174 : decode cX9_step 174 = .ok (.iconst 1, 1) := by decide +kernel
theorem dX9_step_175 : decode cX9_step 175 = .ok (.bipush 8, 2) := by decide +kernel
theorem dX9_step_177 : decode cX9_step 177 = .ok (.aload_n 0, 1) := by decide +kernel
theorem dX9_step_178 : decode cX9_step 178 = .ok (.getfield 109, 3) := by decide +kernel
theorem dX9_step_181 : decode cX9_step 181 = .ok (.imul, 1) := by decide +kernel
theorem dX9_step_182 : decode cX9_step 182 = .ok (.ishl, 1) := by decide +kernel
theorem dX9_step_183 : decode cX9_step 183 = .ok (.iconst 1, 1) := by decide +kernel
theorem dX9_step_184 : decode cX9_step 184 = .ok (.isub, 1) := by decide +kernel
theorem dX9_step_185 : decode cX9_step 185 = .ok (.iand, 1) := by decide +kernel
theorem dX9_step_186 : decode cX9_step 186 = .ok (.putfield 112, 3) := by decide +kernel
theorem dX9_step_189 : decode cX9_step 189 = .ok (.aload_n 0, 1) := by decide +kernel
theorem dX9_step_190 : decode cX9_step 190 = .ok (.iload 10, 2) := by decide +kernel
theorem dX9_step_192 : decode cX9_step 192 = .ok (.iload 6, 2) := by decide +kernel
theorem dX9_step_194 : decode cX9_step 194 = .ok (.idiv, 1) := by decide +kernel
theorem dX9_step_195 : decode cX9_step 195 = .ok (.iload 7, 2) := by decide +kernel
theorem dX9_step_197 : decode cX9_step 197 = .ok (.ishl, 1) := by decide +kernel
theorem dX9_step_198 : decode cX9_step 198 = .ok (.iload 10, 2) := by decide +kernel
theorem dX9_step_200 : decode cX9_step 200 = .ok (.iload 6, 2) := by decide +kernel
theorem dX9_step_202 : decode cX9_step 202 = .ok (.irem, 1) := by decide +kernel
theorem dX9_step_203 : decode cX9_step 203 = .ok (.iadd, 1) := by decide +kernel
theorem dX9_step_204 : decode cX9_step 204 = .ok (.aload_n 0, 1) := by decide +kernel
theorem dX9_step_205 : decode cX9_step 205 = .ok (.getfield 22, 3) := by decide +kernel
theorem dX9_step_208 : decode cX9_step 208 = .ok (.sipush 256, 3) := by decide +kernel
theorem dX9_step_211 : decode cX9_step 211 = .ok (.iload_n 1, 1) := by decide +kernel
theorem dX9_step_212 : decode cX9_step 212 = .ok (.imul, 1) := by decide +kernel
theorem dX9_step_213 : decode cX9_step 213 = .ok (.iload 5, 2) := by decide +kernel
theorem dX9_step_215 : decode cX9_step 215 = .ok (.iadd, 1) := by decide +kernel
theorem dX9_step_216 : decode cX9_step 216 = .ok (.iaload, 1) := by decide +kernel
theorem dX9_step_217 : decode cX9_step 217 = .ok (.iadd, 1) := by decide +kernel
theorem dX9_step_218 : decode cX9_step 218 = .ok (.putfield 115, 3) := by decide +kernel
theorem dX9_step_221 : decode cX9_step 221 = .ok (.return_, 1) := by decide +kernel
theorem dX9_told_0 : decode cX9_told 0 = .ok (.iconst 1, 1) := by decide +kernel
theorem dX9_told_1 : decode cX9_told 1 = .ok (.aload_n 0, 1) := by decide +kernel
theorem dX9_told_2 : decode cX9_told 2 = .ok (.getfield 16, 3) := by decide +kernel
theorem dX9_told_5 : decode cX9_told 5 = .ok (.iload_n 1, 1) := by decide +kernel
theorem dX9_told_6 : decode cX9_told 6 = .ok (.iaload, 1) := by decide +kernel
theorem dX9_told_7 : decode cX9_told 7 = .ok (.ishl, 1) := by decide +kernel
theorem dX9_told_8 : decode cX9_told 8 = .ok (.istore 5, 2) := by decide +kernel
theorem dX9_told_10 : decode cX9_told 10 = .ok (.iload_n 2, 1) := by decide +kernel
theorem dX9_told_11 : decode cX9_told 11 = .ok (.ifCond .ne 24, 3) := by decide +kernel
theorem dX9_told_14 : decode cX9_told 14 = .ok (.aload_n 0, 1) := by decide +kernel
theorem dX9_told_15 : decode cX9_told 15 = .ok (.getfield 30, 3) := by decide +kernel
theorem dX9_told_18 : decode cX9_told 18 = .ok (.sipush 4096, 3) := by decide +kernel
theorem dX9_told_21 : decode cX9_told 21 = .ok (.iconst 3, 1) := by decide +kernel
theorem dX9_told_22 : decode cX9_told 22 = .ok (.iload_n 1, 1) := by decide +kernel
theorem dX9_told_23 : decode cX9_told 23 = .ok (.imul, 1) := by decide +kernel
theorem dX9_told_24 : decode cX9_told 24 = .ok (.iload_n 3, 1) := by decide +kernel
theorem dX9_told_25 : decode cX9_told 25 = .ok (.iadd, 1) := by decide +kernel
theorem dX9_told_26 : decode cX9_told 26 = .ok (.imul, 1) := by decide +kernel
theorem dX9_told_27 : decode cX9_told 27 = .ok (.iload 4, 2) := by decide +kernel
theorem dX9_told_29 : decode cX9_told 29 = .ok (.iadd, 1) := by decide +kernel
theorem dX9_told_30 : decode cX9_told 30 = .ok (.iload 5, 2) := by decide +kernel
theorem dX9_told_32 : decode cX9_told 32 = .ok (.isub, 1) := by decide +kernel
theorem dX9_told_33 : decode cX9_told 33 = .ok (.iaload, 1) := by decide +kernel
theorem dX9_told_34 : decode cX9_told 34 = .ok (.ireturn, 1) := by decide +kernel
theorem dX9_told_35 : decode cX9_told 35 = .ok (.iload 4, 2) := by decide +kernel
theorem dX9_told_37 : decode cX9_told 37 = .ok (.iload 5, 2) := by decide +kernel
theorem dX9_told_39 : decode cX9_told 39 = .ok (.iconst 1, 1) := by decide +kernel
theorem dX9_told_40 : decode cX9_told 40 = .ok (.isub, 1) := by decide +kernel
theorem dX9_told_41 : decode cX9_told 41 = .ok (.iand, 1) := by decide +kernel
theorem dX9_told_42 : decode cX9_told 42 = .ok (.istore 6, 2) := by decide +kernel
theorem dX9_told_44 : decode cX9_told 44 = .ok (.iconst 0, 1) := by decide +kernel
theorem dX9_told_45 : decode cX9_told 45 = .ok (.istore 7, 2) := by decide +kernel
theorem dX9_told_47 : decode cX9_told 47 = .ok (.sipush 255, 3) := by decide +kernel
theorem dX9_told_50 : decode cX9_told 50 = .ok (.istore 8, 2) := by decide +kernel
theorem dX9_told_52 : decode cX9_told 52 = .ok (.iload 7, 2) := by decide +kernel
theorem dX9_told_54 : decode cX9_told 54 = .ok (.iload 8, 2) := by decide +kernel
theorem dX9_told_56 : decode cX9_told 56 = .ok (.if_icmp .ge 48, 3) := by decide +kernel
theorem dX9_told_59 : decode cX9_told 59 = .ok (.iload 7, 2) := by decide +kernel
theorem dX9_told_61 : decode cX9_told 61 = .ok (.iload 8, 2) := by decide +kernel
theorem dX9_told_63 : decode cX9_told 63 = .ok (.iadd, 1) := by decide +kernel
theorem dX9_told_64 : decode cX9_told 64 = .ok (.iconst 1, 1) := by decide +kernel
theorem dX9_told_65 : decode cX9_told 65 = .ok (.iadd, 1) := by decide +kernel
theorem dX9_told_66 : decode cX9_told 66 = .ok (.iconst 2, 1) := by decide +kernel
theorem dX9_told_67 : decode cX9_told 67 = .ok (.idiv, 1) := by decide +kernel
theorem dX9_told_68 : decode cX9_told 68 = .ok (.istore 9, 2) := by decide +kernel
theorem dX9_told_70 : decode cX9_told 70 = .ok (.aload_n 0, 1) := by decide +kernel
theorem dX9_told_71 : decode cX9_told 71 = .ok (.getfield 22, 3) := by decide +kernel
theorem dX9_told_74 : decode cX9_told 74 = .ok (.sipush 256, 3) := by decide +kernel
theorem dX9_told_77 : decode cX9_told 77 = .ok (.iload_n 1, 1) := by decide +kernel
theorem dX9_told_78 : decode cX9_told 78 = .ok (.imul, 1) := by decide +kernel
theorem dX9_told_79 : decode cX9_told 79 = .ok (.iload 9, 2) := by decide +kernel
theorem dX9_told_81 : decode cX9_told 81 = .ok (.iadd, 1) := by decide +kernel
theorem dX9_told_82 : decode cX9_told 82 = .ok (.iaload, 1) := by decide +kernel
theorem dX9_told_83 : decode cX9_told 83 = .ok (.iload 6, 2) := by decide +kernel
theorem dX9_told_85 : decode cX9_told 85 = .ok (.if_icmp .gt 10, 3) := by decide +kernel
theorem dX9_told_88 : decode cX9_told 88 = .ok (.iload 9, 2) := by decide +kernel
theorem dX9_told_90 : decode cX9_told 90 = .ok (.istore 7, 2) := by decide +kernel
theorem dX9_told_92 : decode cX9_told 92 = .ok (.goto 9, 3) := by decide +kernel
theorem dX9_told_95 : decode cX9_told 95 = .ok (.iload 9, 2) := by decide +kernel
theorem dX9_told_97 : decode cX9_told 97 = .ok (.iconst 1, 1) := by decide +kernel
theorem dX9_told_98 : decode cX9_told 98 = .ok (.isub, 1) := by decide +kernel
theorem dX9_told_99 : decode cX9_told 99 = .ok (.istore 8, 2) := by decide +kernel
theorem dX9_told_101 : decode cX9_told 101 = .ok (.goto (-49), 3) := by decide +kernel
theorem dX9_told_104 : decode cX9_told 104 = .ok (.aload_n 0, 1) := by decide +kernel
theorem dX9_told_105 : decode cX9_told 105 = .ok (.getfield 19, 3) := by decide +kernel
theorem dX9_told_108 : decode cX9_told 108 = .ok (.sipush 256, 3) := by decide +kernel
theorem dX9_told_111 : decode cX9_told 111 = .ok (.iload_n 1, 1) := by decide +kernel
theorem dX9_told_112 : decode cX9_told 112 = .ok (.imul, 1) := by decide +kernel
theorem dX9_told_113 : decode cX9_told 113 = .ok (.iload 7, 2) := by decide +kernel
theorem dX9_told_115 : decode cX9_told 115 = .ok (.iadd, 1) := by decide +kernel
theorem dX9_told_116 : decode cX9_told 116 = .ok (.iaload, 1) := by decide +kernel
theorem dX9_told_117 : decode cX9_told 117 = .ok (.ifCond .ne 9, 3) := by decide +kernel
theorem dX9_told_120 : decode cX9_told 120 = .ok (.iinc 7 (-1), 3) := by decide +kernel
theorem dX9_told_123 : decode cX9_told 123 = .ok (.goto (-19), 3) := by decide +kernel
theorem dX9_told_126 : decode cX9_told 126 = .ok (.iload 7, 2) := by decide +kernel
theorem dX9_told_128 : decode cX9_told 128 = .ok (.ireturn, 1) := by decide +kernel
theorem dX9_behind_0 : decode cX9_behind 0 = .ok (.iconst 1, 1) := by decide +kernel
theorem dX9_behind_1 : decode cX9_behind 1 = .ok (.aload_n 0, 1) := by decide +kernel
theorem dX9_behind_2 : decode cX9_behind 2 = .ok (.getfield 16, 3) := by decide +kernel
theorem dX9_behind_5 : decode cX9_behind 5 = .ok (.iload_n 1, 1) := by decide +kernel
theorem dX9_behind_6 : decode cX9_behind 6 = .ok (.iaload, 1) := by decide +kernel
theorem dX9_behind_7 : decode cX9_behind 7 = .ok (.ishl, 1) := by decide +kernel
theorem dX9_behind_8 : decode cX9_behind 8 = .ok (.istore 6, 2) := by decide +kernel
theorem dX9_behind_10 : decode cX9_behind 10 = .ok (.iload_n 2, 1) := by decide +kernel
theorem dX9_behind_11 : decode cX9_behind 11 = .ok (.ifCond .ne 24, 3) := by decide +kernel
theorem dX9_behind_14 : decode cX9_behind 14 = .ok (.aload_n 0, 1) := by decide +kernel
theorem dX9_behind_15 : decode cX9_behind 15 = .ok (.getfield 33, 3) := by decide +kernel
theorem dX9_behind_18 : decode cX9_behind 18 = .ok (.sipush 4096, 3) := by decide +kernel
theorem dX9_behind_21 : decode cX9_behind 21 = .ok (.iconst 3, 1) := by decide +kernel
theorem dX9_behind_22 : decode cX9_behind 22 = .ok (.iload_n 1, 1) := by decide +kernel
theorem dX9_behind_23 : decode cX9_behind 23 = .ok (.imul, 1) := by decide +kernel
theorem dX9_behind_24 : decode cX9_behind 24 = .ok (.iload_n 3, 1) := by decide +kernel
theorem dX9_behind_25 : decode cX9_behind 25 = .ok (.iadd, 1) := by decide +kernel
theorem dX9_behind_26 : decode cX9_behind 26 = .ok (.imul, 1) := by decide +kernel
theorem dX9_behind_27 : decode cX9_behind 27 = .ok (.iload 4, 2) := by decide +kernel
theorem dX9_behind_29 : decode cX9_behind 29 = .ok (.iadd, 1) := by decide +kernel
theorem dX9_behind_30 : decode cX9_behind 30 = .ok (.iload 6, 2) := by decide +kernel
theorem dX9_behind_32 : decode cX9_behind 32 = .ok (.isub, 1) := by decide +kernel
theorem dX9_behind_33 : decode cX9_behind 33 = .ok (.iaload, 1) := by decide +kernel
theorem dX9_behind_34 : decode cX9_behind 34 = .ok (.ireturn, 1) := by decide +kernel
theorem dX9_behind_35 : decode cX9_behind 35 = .ok (.aload_n 0, 1) := by decide +kernel
theorem dX9_behind_36 : decode cX9_behind 36 = .ok (.getfield 19, 3) := by decide +kernel
theorem dX9_behind_39 : decode cX9_behind 39 = .ok (.sipush 256, 3) := by decide +kernel
theorem dX9_behind_42 : decode cX9_behind 42 = .ok (.iload_n 1, 1) := by decide +kernel
theorem dX9_behind_43 : decode cX9_behind 43 = .ok (.imul, 1) := by decide +kernel
theorem dX9_behind_44 : decode cX9_behind 44 = .ok (.iload 5, 2) := by decide +kernel
theorem dX9_behind_46 : decode cX9_behind 46 = .ok (.iadd, 1) := by decide +kernel
theorem dX9_behind_47 : decode cX9_behind 47 = .ok (.iaload, 1) := by decide +kernel
theorem dX9_behind_48 : decode cX9_behind 48 = .ok (.iload 4, 2) := by decide +kernel
theorem dX9_behind_50 : decode cX9_behind 50 = .ok (.aload_n 0, 1) := by decide +kernel
theorem dX9_behind_51 : decode cX9_behind 51 = .ok (.getfield 16, 3) := by decide +kernel
theorem dX9_behind_54 : decode cX9_behind 54 = .ok (.iload_n 1, 1) := by decide +kernel
theorem dX9_behind_55 : decode cX9_behind 55 = .ok (.iaload, 1) := by decide +kernel
theorem dX9_behind_56 : decode cX9_behind 56 = .ok (.ishr, 1) := by decide +kernel
theorem dX9_behind_57 : decode cX9_behind 57 = .ok (.imul, 1) := by decide +kernel
theorem dX9_behind_58 : decode cX9_behind 58 = .ok (.iload 4, 2) := by decide +kernel
theorem dX9_behind_60 : decode cX9_behind 60 = .ok (.iload 6, 2) := by decide +kernel
theorem dX9_behind_62 : decode cX9_behind 62 = .ok (.iconst 1, 1) := by decide +kernel
theorem dX9_behind_63 : decode cX9_behind 63 = .ok (.isub, 1) := by decide +kernel
theorem dX9_behind_64 : decode cX9_behind 64 = .ok (.iand, 1) := by decide +kernel
theorem dX9_behind_65 : decode cX9_behind 65 = .ok (.iadd, 1) := by decide +kernel
theorem dX9_behind_66 : decode cX9_behind 66 = .ok (.aload_n 0, 1) := by decide +kernel
theorem dX9_behind_67 : decode cX9_behind 67 = .ok (.getfield 22, 3) := by decide +kernel
theorem dX9_behind_70 : decode cX9_behind 70 = .ok (.sipush 256, 3) := by decide +kernel
theorem dX9_behind_73 : decode cX9_behind 73 = .ok (.iload_n 1, 1) := by decide +kernel
theorem dX9_behind_74 : decode cX9_behind 74 = .ok (.imul, 1) := by decide +kernel
theorem dX9_behind_75 : decode cX9_behind 75 = .ok (.iload 5, 2) := by decide +kernel
theorem dX9_behind_77 : decode cX9_behind 77 = .ok (.iadd, 1) := by decide +kernel
theorem dX9_behind_78 : decode cX9_behind 78 = .ok (.iaload, 1) := by decide +kernel
theorem dX9_behind_79 : decode cX9_behind 79 = .ok (.isub, 1) := by decide +kernel
theorem dX9_behind_80 : decode cX9_behind 80 = .ok (.ireturn, 1) := by decide +kernel
theorem dX9_isState_0 : decode cX9_isState 0 = .ok (.iload_n 2, 1) := by decide +kernel
theorem dX9_isState_1 : decode cX9_isState 1 = .ok (.ifCond .ne 35, 3) := by decide +kernel
theorem dX9_isState_4 : decode cX9_isState 4 = .ok (.iload_n 3, 1) := by decide +kernel
theorem dX9_isState_5 : decode cX9_isState 5 = .ok (.iconst 1, 1) := by decide +kernel
theorem dX9_isState_6 : decode cX9_isState 6 = .ok (.aload_n 0, 1) := by decide +kernel
theorem dX9_isState_7 : decode cX9_isState 7 = .ok (.getfield 16, 3) := by decide +kernel
theorem dX9_isState_10 : decode cX9_isState 10 = .ok (.iload_n 1, 1) := by decide +kernel
theorem dX9_isState_11 : decode cX9_isState 11 = .ok (.iaload, 1) := by decide +kernel
theorem dX9_isState_12 : decode cX9_isState 12 = .ok (.ishl, 1) := by decide +kernel
theorem dX9_isState_13 : decode cX9_isState 13 = .ok (.if_icmp .lt 19, 3) := by decide +kernel
theorem dX9_isState_16 : decode cX9_isState 16 = .ok (.iload_n 3, 1) := by decide +kernel
theorem dX9_isState_17 : decode cX9_isState 17 = .ok (.iconst 2, 1) := by decide +kernel
theorem dX9_isState_18 : decode cX9_isState 18 = .ok (.aload_n 0, 1) := by decide +kernel
theorem dX9_isState_19 : decode cX9_isState 19 = .ok (.getfield 16, 3) := by decide +kernel
theorem dX9_isState_22 : decode cX9_isState 22 = .ok (.iload_n 1, 1) := by decide +kernel
theorem dX9_isState_23 : decode cX9_isState 23 = .ok (.iaload, 1) := by decide +kernel
theorem dX9_isState_24 : decode cX9_isState 24 = .ok (.ishl, 1) := by decide +kernel
theorem dX9_isState_25 : decode cX9_isState 25 = .ok (.if_icmp .ge 7, 3) := by decide +kernel
theorem dX9_isState_28 : decode cX9_isState 28 = .ok (.iconst 1, 1) := by decide +kernel
theorem dX9_isState_29 : decode cX9_isState 29 = .ok (.goto 18, 3) := by decide +kernel
theorem dX9_isState_32 : decode cX9_isState 32 = .ok (.iconst 0, 1) := by decide +kernel
theorem dX9_isState_33 : decode cX9_isState 33 = .ok (.goto 14, 3) := by decide +kernel
theorem dX9_isState_36 : decode cX9_isState 36 = .ok (.iload_n 3, 1) := by decide +kernel
theorem dX9_isState_37 : decode cX9_isState 37 = .ok (.ldc 118, 2) := by decide +kernel
theorem dX9_isState_39 : decode cX9_isState 39 = .ok (.if_icmp .lt 7, 3) := by decide +kernel
theorem dX9_isState_42 : decode cX9_isState 42 = .ok (.iconst 1, 1) := by decide +kernel
theorem dX9_isState_43 : decode cX9_isState 43 = .ok (.goto 4, 3) := by decide +kernel
theorem dX9_isState_46 : decode cX9_isState 46 = .ok (.iconst 0, 1) := by decide +kernel
theorem dX9_isState_47 : decode cX9_isState 47 = .ok (.ireturn, 1) := by decide +kernel
theorem dX9_isAsked_0 : decode cX9_isAsked 0 = .ok (.aload_n 0, 1) := by decide +kernel
theorem dX9_isAsked_1 : decode cX9_isAsked 1 = .ok (.iload_n 1, 1) := by decide +kernel
theorem dX9_isAsked_2 : decode cX9_isAsked 2 = .ok (.invokevirtual 84, 3) := by decide +kernel
theorem dX9_isAsked_5 : decode cX9_isAsked 5 = .ok (.ifCond .eq 22, 3) := by decide +kernel
theorem dX9_isAsked_8 : decode cX9_isAsked 8 = .ok (.iload_n 2, 1) := by decide +kernel
theorem dX9_isAsked_9 : decode cX9_isAsked 9 = .ok (.iload_n 3, 1) := by decide +kernel
theorem dX9_isAsked_10 : decode cX9_isAsked 10 = .ok (.invokestatic 119, 3) := by decide +kernel
theorem dX9_isAsked_13 : decode cX9_isAsked 13 = .ok (.ifCond .eq 14, 3) := by decide +kernel
theorem dX9_isAsked_16 : decode cX9_isAsked 16 = .ok (.aload_n 0, 1) := by decide +kernel
theorem dX9_isAsked_17 : decode cX9_isAsked 17 = .ok (.iload_n 1, 1) := by decide +kernel
theorem dX9_isAsked_18 : decode cX9_isAsked 18 = .ok (.iload_n 2, 1) := by decide +kernel
theorem dX9_isAsked_19 : decode cX9_isAsked 19 = .ok (.iload 4, 2) := by decide +kernel
theorem dX9_isAsked_21 : decode cX9_isAsked 21 = .ok (.invokevirtual 123, 3) := by decide +kernel
theorem dX9_isAsked_24 : decode cX9_isAsked 24 = .ok (.ifCond .ne 5, 3) := by decide +kernel
theorem dX9_isAsked_27 : decode cX9_isAsked 27 = .ok (.iconst 0, 1) := by decide +kernel
theorem dX9_isAsked_28 : decode cX9_isAsked 28 = .ok (.ireturn, 1) := by decide +kernel
theorem dX9_isAsked_29 : decode cX9_isAsked 29 = .ok (.aload_n 0, 1) := by decide +kernel
theorem dX9_isAsked_30 : decode cX9_isAsked 30 = .ok (.iload_n 1, 1) := by decide +kernel
theorem dX9_isAsked_31 : decode cX9_isAsked 31 = .ok (.iload_n 3, 1) := by decide +kernel
theorem dX9_isAsked_32 : decode cX9_isAsked 32 = .ok (.invokevirtual 106, 3) := by decide +kernel
theorem dX9_isAsked_35 : decode cX9_isAsked 35 = .ok (.iconst 1, 1) := by decide +kernel
theorem dX9_isAsked_36 : decode cX9_isAsked 36 = .ok (.ireturn, 1) := by decide +kernel
theorem dX9_code_0 : decode cX9_code 0 = .ok (.aload_n 0, 1) := by decide +kernel
theorem dX9_code_1 : decode cX9_code 1 = .ok (.iload_n 1, 1) := by decide +kernel
theorem dX9_code_2 : decode cX9_code 2 = .ok (.iload_n 2, 1) := by decide +kernel
theorem dX9_code_3 : decode cX9_code 3 = .ok (.iload_n 3, 1) := by decide +kernel
theorem dX9_code_4 : decode cX9_code 4 = .ok (.iload 4, 2) := by decide +kernel
theorem dX9_code_6 : decode cX9_code 6 = .ok (.invokevirtual 126, 3) := by decide +kernel
theorem dX9_code_9 : decode cX9_code 9 = .ok (.ifCond .eq 32, 3) := by decide +kernel
theorem dX9_code_12 : decode cX9_code 12 = .ok (.iload 5, 2) := by decide +kernel
theorem dX9_code_14 : decode cX9_code 14 = .ok (.ifCond .lt 27, 3) := by decide +kernel
theorem dX9_code_17 : decode cX9_code 17 = .ok (.iload 5, 2) := by decide +kernel
theorem dX9_code_19 : decode cX9_code 19 = .ok (.sipush 255, 3) := by decide +kernel
theorem dX9_code_22 : decode cX9_code 22 = .ok (.if_icmp .gt 19, 3) := by decide +kernel
theorem dX9_code_25 : decode cX9_code 25 = .ok (.aload_n 0, 1) := by decide +kernel
theorem dX9_code_26 : decode cX9_code 26 = .ok (.getfield 19, 3) := by decide +kernel
theorem dX9_code_29 : decode cX9_code 29 = .ok (.sipush 256, 3) := by decide +kernel
theorem dX9_code_32 : decode cX9_code 32 = .ok (.iload_n 1, 1) := by decide +kernel
theorem dX9_code_33 : decode cX9_code 33 = .ok (.imul, 1) := by decide +kernel
theorem dX9_code_34 : decode cX9_code 34 = .ok (.iload 5, 2) := by decide +kernel
theorem dX9_code_36 : decode cX9_code 36 = .ok (.iadd, 1) := by decide +kernel
theorem dX9_code_37 : decode cX9_code 37 = .ok (.iaload, 1) := by decide +kernel
theorem dX9_code_38 : decode cX9_code 38 = .ok (.ifCond .ne 5, 3) := by decide +kernel
theorem dX9_code_41 : decode cX9_code 41 = .ok (.iconst (-1), 1) := by decide +kernel
theorem dX9_code_42 : decode cX9_code 42 = .ok (.ireturn, 1) := by decide +kernel
theorem dX9_code_43 : decode cX9_code 43 = .ok (.aload_n 0, 1) := by decide +kernel
theorem dX9_code_44 : decode cX9_code 44 = .ok (.iload_n 1, 1) := by decide +kernel
theorem dX9_code_45 : decode cX9_code 45 = .ok (.iload_n 2, 1) := by decide +kernel
theorem dX9_code_46 : decode cX9_code 46 = .ok (.iload_n 3, 1) := by decide +kernel
theorem dX9_code_47 : decode cX9_code 47 = .ok (.iload 4, 2) := by decide +kernel
theorem dX9_code_49 : decode cX9_code 49 = .ok (.iload 5, 2) := by decide +kernel
theorem dX9_code_51 : decode cX9_code 51 = .ok (.invokevirtual 130, 3) := by decide +kernel
theorem dX9_code_54 : decode cX9_code 54 = .ok (.aload_n 0, 1) := by decide +kernel
theorem dX9_code_55 : decode cX9_code 55 = .ok (.aload_n 0, 1) := by decide +kernel
theorem dX9_code_56 : decode cX9_code 56 = .ok (.getfield 109, 3) := by decide +kernel
theorem dX9_code_59 : decode cX9_code 59 = .ok (.putfield 134, 3) := by decide +kernel
theorem dX9_code_62 : decode cX9_code 62 = .ok (.aload_n 0, 1) := by decide +kernel
theorem dX9_code_63 : decode cX9_code 63 = .ok (.aload_n 0, 1) := by decide +kernel
theorem dX9_code_64 : decode cX9_code 64 = .ok (.getfield 112, 3) := by decide +kernel
theorem dX9_code_67 : decode cX9_code 67 = .ok (.putfield 137, 3) := by decide +kernel
theorem dX9_code_70 : decode cX9_code 70 = .ok (.aload_n 0, 1) := by decide +kernel
theorem dX9_code_71 : decode cX9_code 71 = .ok (.getfield 115, 3) := by decide +kernel
theorem dX9_code_74 : decode cX9_code 74 = .ok (.ireturn, 1) := by decide +kernel
theorem dX9_gone_0 : decode cX9_gone 0 = .ok (.iload_n 1, 1) := by decide +kernel
theorem dX9_gone_1 : decode cX9_gone 1 = .ok (.ifCond .ne 10, 3) := by decide +kernel
theorem dX9_gone_4 : decode cX9_gone 4 = .ok (.aload_n 0, 1) := by decide +kernel
theorem dX9_gone_5 : decode cX9_gone 5 = .ok (.getfield 134, 3) := by decide +kernel
theorem dX9_gone_8 : decode cX9_gone 8 = .ok (.goto 16, 3) := by decide +kernel
theorem dX9_gone_11 : decode cX9_gone 11 = .ok (.iload_n 1, 1) := by decide +kernel
theorem dX9_gone_12 : decode cX9_gone 12 = .ok (.iconst 1, 1) := by decide +kernel
theorem dX9_gone_13 : decode cX9_gone 13 = .ok (.if_icmp .ne 10, 3) := by decide +kernel
theorem dX9_gone_16 : decode cX9_gone 16 = .ok (.aload_n 0, 1) := by decide +kernel
theorem dX9_gone_17 : decode cX9_gone 17 = .ok (.getfield 137, 3) := by decide +kernel
theorem dX9_gone_20 : decode cX9_gone 20 = .ok (.goto 4, 3) := by decide +kernel
theorem dX9_gone_23 : decode cX9_gone 23 = .ok (.iconst (-1), 1) := by decide +kernel
theorem dX9_gone_24 : decode cX9_gone 24 = .ok (.ireturn, 1) := by decide +kernel
theorem dX9_symbol_0 : decode cX9_symbol 0 = .ok (.aload_n 0, 1) := by decide +kernel
theorem dX9_symbol_1 : decode cX9_symbol 1 = .ok (.iload_n 1, 1) := by decide +kernel
theorem dX9_symbol_2 : decode cX9_symbol 2 = .ok (.iload_n 2, 1) := by decide +kernel
theorem dX9_symbol_3 : decode cX9_symbol 3 = .ok (.iload_n 3, 1) := by decide +kernel
theorem dX9_symbol_4 : decode cX9_symbol 4 = .ok (.iload 4, 2) := by decide +kernel
theorem dX9_symbol_6 : decode cX9_symbol 6 = .ok (.invokevirtual 126, 3) := by decide +kernel
theorem dX9_symbol_9 : decode cX9_symbol 9 = .ok (.ifCond .eq 15, 3) := by decide +kernel
theorem dX9_symbol_12 : decode cX9_symbol 12 = .ok (.aload_n 0, 1) := by decide +kernel
theorem dX9_symbol_13 : decode cX9_symbol 13 = .ok (.iload_n 1, 1) := by decide +kernel
theorem dX9_symbol_14 : decode cX9_symbol 14 = .ok (.iload_n 2, 1) := by decide +kernel
theorem dX9_symbol_15 : decode cX9_symbol 15 = .ok (.iload_n 3, 1) := by decide +kernel
theorem dX9_symbol_16 : decode cX9_symbol 16 = .ok (.iload 4, 2) := by decide +kernel
theorem dX9_symbol_18 : decode cX9_symbol 18 = .ok (.invokevirtual 140, 3) := by decide +kernel
theorem dX9_symbol_21 : decode cX9_symbol 21 = .ok (.goto 4, 3) := by decide +kernel
theorem dX9_symbol_24 : decode cX9_symbol 24 = .ok (.iconst (-1), 1) := by decide +kernel
theorem dX9_symbol_25 : decode cX9_symbol 25 = .ok (.ireturn, 1) := by decide +kernel
theorem dX9_left_0 : decode cX9_left 0 = .ok (.aload_n 0, 1) := by decide +kernel
theorem dX9_left_1 : decode cX9_left 1 = .ok (.iload_n 1, 1) := by decide +kernel
theorem dX9_left_2 : decode cX9_left 2 = .ok (.iload_n 2, 1) := by decide +kernel
theorem dX9_left_3 : decode cX9_left 3 = .ok (.iload_n 3, 1) := by decide +kernel
theorem dX9_left_4 : decode cX9_left 4 = .ok (.iload 4, 2) := by decide +kernel
theorem dX9_left_6 : decode cX9_left 6 = .ok (.invokevirtual 126, 3) := by decide +kernel
theorem dX9_left_9 : decode cX9_left 9 = .ok (.ifCond .eq 24, 3) := by decide +kernel
theorem dX9_left_12 : decode cX9_left 12 = .ok (.aload_n 0, 1) := by decide +kernel
theorem dX9_left_13 : decode cX9_left 13 = .ok (.iload_n 1, 1) := by decide +kernel
theorem dX9_left_14 : decode cX9_left 14 = .ok (.iload_n 2, 1) := by decide +kernel
theorem dX9_left_15 : decode cX9_left 15 = .ok (.iload_n 3, 1) := by decide +kernel
theorem dX9_left_16 : decode cX9_left 16 = .ok (.iload 4, 2) := by decide +kernel
theorem dX9_left_18 : decode cX9_left 18 = .ok (.aload_n 0, 1) := by decide +kernel
theorem dX9_left_19 : decode cX9_left 19 = .ok (.iload_n 1, 1) := by decide +kernel
theorem dX9_left_20 : decode cX9_left 20 = .ok (.iload_n 2, 1) := by decide +kernel
theorem dX9_left_21 : decode cX9_left 21 = .ok (.iload_n 3, 1) := by decide +kernel
theorem dX9_left_22 : decode cX9_left 22 = .ok (.iload 4, 2) := by decide +kernel
theorem dX9_left_24 : decode cX9_left 24 = .ok (.invokevirtual 140, 3) := by decide +kernel
theorem dX9_left_27 : decode cX9_left 27 = .ok (.invokevirtual 144, 3) := by decide +kernel
theorem dX9_left_30 : decode cX9_left 30 = .ok (.goto 4, 3) := by decide +kernel
theorem dX9_left_33 : decode cX9_left 33 = .ok (.iconst (-1), 1) := by decide +kernel
theorem dX9_left_34 : decode cX9_left 34 = .ok (.ireturn, 1) := by decide +kernel
theorem dX9_refusal_0 : decode cX9_refusal 0 = .ok (.aload_n 0, 1) := by decide +kernel
theorem dX9_refusal_1 : decode cX9_refusal 1 = .ok (.getfield 70, 3) := by decide +kernel
theorem dX9_refusal_4 : decode cX9_refusal 4 = .ok (.sipush 1400, 3) := by decide +kernel
theorem dX9_refusal_7 : decode cX9_refusal 7 = .ok (.if_icmp .le 6, 3) := by decide +kernel
theorem dX9_refusal_10 : decode cX9_refusal 10 = .ok (.bipush (-2), 2) := by decide +kernel
theorem dX9_refusal_12 : decode cX9_refusal 12 = .ok (.ireturn, 1) := by decide +kernel
theorem dX9_refusal_13 : decode cX9_refusal 13 = .ok (.iconst 0, 1) := by decide +kernel
theorem dX9_refusal_14 : decode cX9_refusal 14 = .ok (.istore_n 2, 1) := by decide +kernel
theorem dX9_refusal_15 : decode cX9_refusal 15 = .ok (.iload_n 2, 1) := by decide +kernel
theorem dX9_refusal_16 : decode cX9_refusal 16 = .ok (.aload_n 0, 1) := by decide +kernel
theorem dX9_refusal_17 : decode cX9_refusal 17 = .ok (.getfield 70, 3) := by decide +kernel
theorem dX9_refusal_20 : decode cX9_refusal 20 = .ok (.if_icmp .ge 32, 3) := by decide +kernel
theorem dX9_refusal_23 : decode cX9_refusal 23 = .ok (.aload_n 0, 1) := by decide +kernel
theorem dX9_refusal_24 : decode cX9_refusal 24 = .ok (.getfield 19, 3) := by decide +kernel
theorem dX9_refusal_27 : decode cX9_refusal 27 = .ok (.sipush 256, 3) := by decide +kernel
theorem dX9_refusal_30 : decode cX9_refusal 30 = .ok (.iload_n 1, 1) := by decide +kernel
theorem dX9_refusal_31 : decode cX9_refusal 31 = .ok (.imul, 1) := by decide +kernel
theorem dX9_refusal_32 : decode cX9_refusal 32 = .ok (.aload_n 0, 1) := by decide +kernel
theorem dX9_refusal_33 : decode cX9_refusal 33 = .ok (.getfield 7, 3) := by decide +kernel
theorem dX9_refusal_36 : decode cX9_refusal 36 = .ok (.iload_n 2, 1) := by decide +kernel
theorem dX9_refusal_37 : decode cX9_refusal 37 = .ok (.iaload, 1) := by decide +kernel
theorem dX9_refusal_38 : decode cX9_refusal 38 = .ok (.iadd, 1) := by decide +kernel
theorem dX9_refusal_39 : decode cX9_refusal 39 = .ok (.iaload, 1) := by decide +kernel
theorem dX9_refusal_40 : decode cX9_refusal 40 = .ok (.ifCond .ne 6, 3) := by decide +kernel
theorem dX9_refusal_43 : decode cX9_refusal 43 = .ok (.bipush (-3), 2) := by decide +kernel
theorem dX9_refusal_45 : decode cX9_refusal 45 = .ok (.ireturn, 1) := by decide +kernel
theorem dX9_refusal_46 : decode cX9_refusal 46 = .ok (.iinc 2 1, 3) := by decide +kernel
theorem dX9_refusal_49 : decode cX9_refusal 49 = .ok (.goto (-34), 3) := by decide +kernel
theorem dX9_refusal_52 : decode cX9_refusal 52 = .ok (.iconst 0, 1) := by decide +kernel
theorem dX9_refusal_53 : decode cX9_refusal 53 = .ok (.ireturn, 1) := by decide +kernel
theorem dX9_meets_0 : decode cX9_meets 0 = .ok (.aload_n 0, 1) := by decide +kernel
theorem dX9_meets_1 : decode cX9_meets 1 = .ok (.getfield 61, 3) := by decide +kernel
theorem dX9_meets_4 : decode cX9_meets 4 = .ok (.iconst 0, 1) := by decide +kernel
theorem dX9_meets_5 : decode cX9_meets 5 = .ok (.iload_n 1, 1) := by decide +kernel
theorem dX9_meets_6 : decode cX9_meets 6 = .ok (.aload_n 0, 1) := by decide +kernel
theorem dX9_meets_7 : decode cX9_meets 7 = .ok (.getfield 61, 3) := by decide +kernel
theorem dX9_meets_10 : decode cX9_meets 10 = .ok (.iconst 0, 1) := by decide +kernel
theorem dX9_meets_11 : decode cX9_meets 11 = .ok (.iaload, 1) := by decide +kernel
theorem dX9_meets_12 : decode cX9_meets 12 = .ok (.if_icmp .ge 7, 3) := by decide +kernel
theorem dX9_meets_15 : decode cX9_meets 15 = .ok (.iload_n 1, 1) := by decide +kernel
theorem dX9_meets_16 : decode cX9_meets 16 = .ok (.goto 9, 3) := by decide +kernel
theorem dX9_meets_19 : decode cX9_meets 19 = .ok (.aload_n 0, 1) := by decide +kernel
theorem dX9_meets_20 : decode cX9_meets 20 = .ok (.getfield 61, 3) := by decide +kernel
theorem dX9_meets_23 : decode cX9_meets 23 = .ok (.iconst 0, 1) := by decide +kernel
theorem dX9_meets_24 : decode cX9_meets 24 = .ok (.iaload, 1) := by decide +kernel
theorem dX9_meets_25 : decode cX9_meets 25 = .ok (.iastore, 1) := by decide +kernel
theorem dX9_meets_26 : decode cX9_meets 26 = .ok (.aload_n 0, 1) := by decide +kernel
theorem dX9_meets_27 : decode cX9_meets 27 = .ok (.getfield 61, 3) := by decide +kernel
theorem dX9_meets_30 : decode cX9_meets 30 = .ok (.iconst 1, 1) := by decide +kernel
theorem dX9_meets_31 : decode cX9_meets 31 = .ok (.iload_n 1, 1) := by decide +kernel
theorem dX9_meets_32 : decode cX9_meets 32 = .ok (.aload_n 0, 1) := by decide +kernel
theorem dX9_meets_33 : decode cX9_meets 33 = .ok (.getfield 61, 3) := by decide +kernel
theorem dX9_meets_36 : decode cX9_meets 36 = .ok (.iconst 1, 1) := by decide +kernel
theorem dX9_meets_37 : decode cX9_meets 37 = .ok (.iaload, 1) := by decide +kernel
theorem dX9_meets_38 : decode cX9_meets 38 = .ok (.if_icmp .le 7, 3) := by decide +kernel
theorem dX9_meets_41 : decode cX9_meets 41 = .ok (.iload_n 1, 1) := by decide +kernel
theorem dX9_meets_42 : decode cX9_meets 42 = .ok (.goto 9, 3) := by decide +kernel
theorem dX9_meets_45 : decode cX9_meets 45 = .ok (.aload_n 0, 1) := by decide +kernel
theorem dX9_meets_46 : decode cX9_meets 46 = .ok (.getfield 61, 3) := by decide +kernel
theorem dX9_meets_49 : decode cX9_meets 49 = .ok (.iconst 1, 1) := by decide +kernel
theorem dX9_meets_50 : decode cX9_meets 50 = .ok (.iaload, 1) := by decide +kernel
theorem dX9_meets_51 : decode cX9_meets 51 = .ok (.iastore, 1) := by decide +kernel
theorem dX9_meets_52 : decode cX9_meets 52 = .ok (.return_, 1) := by decide +kernel
theorem dX9_meetsNone_0 : decode cX9_meetsNone 0 = .ok (.aload_n 0, 1) := by decide +kernel
theorem dX9_meetsNone_1 : decode cX9_meetsNone 1 = .ok (.getfield 61, 3) := by decide +kernel
theorem dX9_meetsNone_4 : decode cX9_meetsNone 4 = .ok (.iconst 0, 1) := by decide +kernel
theorem dX9_meetsNone_5 : decode cX9_meetsNone 5 = .ok (.ldc 148, 2) := by decide +kernel
theorem dX9_meetsNone_7 : decode cX9_meetsNone 7 = .ok (.iastore, 1) := by decide +kernel
theorem dX9_meetsNone_8 : decode cX9_meetsNone 8 = .ok (.aload_n 0, 1) := by decide +kernel
theorem dX9_meetsNone_9 : decode cX9_meetsNone 9 = .ok (.getfield 61, 3) := by decide +kernel
theorem dX9_meetsNone_12 : decode cX9_meetsNone 12 = .ok (.iconst 1, 1) := by decide +kernel
theorem dX9_meetsNone_13 : decode cX9_meetsNone 13 = .ok (.iconst 0, 1) := by decide +kernel
theorem dX9_meetsNone_14 : decode cX9_meetsNone 14 = .ok (.iastore, 1) := by decide +kernel
theorem dX9_meetsNone_15 : decode cX9_meetsNone 15 = .ok (.aload_n 0, 1) := by decide +kernel
theorem dX9_meetsNone_16 : decode cX9_meetsNone 16 = .ok (.getfield 61, 3) := by decide +kernel
theorem dX9_meetsNone_19 : decode cX9_meetsNone 19 = .ok (.iconst 2, 1) := by decide +kernel
theorem dX9_meetsNone_20 : decode cX9_meetsNone 20 = .ok (.iconst 0, 1) := by decide +kernel
theorem dX9_meetsNone_21 : decode cX9_meetsNone 21 = .ok (.iastore, 1) := by decide +kernel
theorem dX9_meetsNone_22 : decode cX9_meetsNone 22 = .ok (.aload_n 0, 1) := by decide +kernel
theorem dX9_meetsNone_23 : decode cX9_meetsNone 23 = .ok (.getfield 61, 3) := by decide +kernel
theorem dX9_meetsNone_26 : decode cX9_meetsNone 26 = .ok (.iconst 3, 1) := by decide +kernel
theorem dX9_meetsNone_27 : decode cX9_meetsNone 27 = .ok (.iconst 0, 1) := by decide +kernel
theorem dX9_meetsNone_28 : decode cX9_meetsNone 28 = .ok (.iastore, 1) := by decide +kernel
theorem dX9_meetsNone_29 : decode cX9_meetsNone 29 = .ok (.aload_n 0, 1) := by decide +kernel
theorem dX9_meetsNone_30 : decode cX9_meetsNone 30 = .ok (.getfield 61, 3) := by decide +kernel
theorem dX9_meetsNone_33 : decode cX9_meetsNone 33 = .ok (.iconst 4, 1) := by decide +kernel
theorem dX9_meetsNone_34 : decode cX9_meetsNone 34 = .ok (.iconst 0, 1) := by decide +kernel
theorem dX9_meetsNone_35 : decode cX9_meetsNone 35 = .ok (.iastore, 1) := by decide +kernel
theorem dX9_meetsNone_36 : decode cX9_meetsNone 36 = .ok (.aload_n 0, 1) := by decide +kernel
theorem dX9_meetsNone_37 : decode cX9_meetsNone 37 = .ok (.getfield 61, 3) := by decide +kernel
theorem dX9_meetsNone_40 : decode cX9_meetsNone 40 = .ok (.iconst 5, 1) := by decide +kernel
theorem dX9_meetsNone_41 : decode cX9_meetsNone 41 = .ok (.iconst 0, 1) := by decide +kernel
theorem dX9_meetsNone_42 : decode cX9_meetsNone 42 = .ok (.iastore, 1) := by decide +kernel
theorem dX9_meetsNone_43 : decode cX9_meetsNone 43 = .ok (.return_, 1) := by decide +kernel
theorem dX9_tells_0 : decode cX9_tells 0 = .ok (.iconst 0, 1) := by decide +kernel
theorem dX9_tells_1 : decode cX9_tells 1 = .ok (.istore_n 1, 1) := by decide +kernel
theorem dX9_tells_2 : decode cX9_tells 2 = .ok (.iload_n 1, 1) := by decide +kernel
theorem dX9_tells_3 : decode cX9_tells 3 = .ok (.bipush 6, 2) := by decide +kernel
theorem dX9_tells_5 : decode cX9_tells 5 = .ok (.if_icmp .ge 21, 3) := by decide +kernel
theorem dX9_tells_8 : decode cX9_tells 8 = .ok (.aload_n 0, 1) := by decide +kernel
theorem dX9_tells_9 : decode cX9_tells 9 = .ok (.getfield 48, 3) := by decide +kernel
theorem dX9_tells_12 : decode cX9_tells 12 = .ok (.iload_n 1, 1) := by decide +kernel
theorem dX9_tells_13 : decode cX9_tells 13 = .ok (.aload_n 0, 1) := by decide +kernel
theorem dX9_tells_14 : decode cX9_tells 14 = .ok (.getfield 61, 3) := by decide +kernel
theorem dX9_tells_17 : decode cX9_tells 17 = .ok (.iload_n 1, 1) := by decide +kernel
theorem dX9_tells_18 : decode cX9_tells 18 = .ok (.iaload, 1) := by decide +kernel
theorem dX9_tells_19 : decode cX9_tells 19 = .ok (.iastore, 1) := by decide +kernel
theorem dX9_tells_20 : decode cX9_tells 20 = .ok (.iinc 1 1, 3) := by decide +kernel
theorem dX9_tells_23 : decode cX9_tells 23 = .ok (.goto (-21), 3) := by decide +kernel
theorem dX9_tells_26 : decode cX9_tells 26 = .ok (.return_, 1) := by decide +kernel
theorem dX9_firstOf_0 : decode cX9_firstOf 0 = .ok (.iload_n 2, 1) := by decide +kernel
theorem dX9_firstOf_1 : decode cX9_firstOf 1 = .ok (.ifCond .ne 14, 3) := by decide +kernel
theorem dX9_firstOf_4 : decode cX9_firstOf 4 = .ok (.iconst 1, 1) := by decide +kernel
theorem dX9_firstOf_5 : decode cX9_firstOf 5 = .ok (.aload_n 0, 1) := by decide +kernel
theorem dX9_firstOf_6 : decode cX9_firstOf 6 = .ok (.getfield 16, 3) := by decide +kernel
theorem dX9_firstOf_9 : decode cX9_firstOf 9 = .ok (.iload_n 1, 1) := by decide +kernel
theorem dX9_firstOf_10 : decode cX9_firstOf 10 = .ok (.iaload, 1) := by decide +kernel
theorem dX9_firstOf_11 : decode cX9_firstOf 11 = .ok (.ishl, 1) := by decide +kernel
theorem dX9_firstOf_12 : decode cX9_firstOf 12 = .ok (.goto 5, 3) := by decide +kernel
theorem dX9_firstOf_15 : decode cX9_firstOf 15 = .ok (.ldc 118, 2) := by decide +kernel
theorem dX9_firstOf_17 : decode cX9_firstOf 17 = .ok (.ireturn, 1) := by decide +kernel
theorem dX9_pack_0 : decode cX9_pack 0 = .ok (.aload_n 0, 1) := by decide +kernel
theorem dX9_pack_1 : decode cX9_pack 1 = .ok (.iload_n 1, 1) := by decide +kernel
theorem dX9_pack_2 : decode cX9_pack 2 = .ok (.invokevirtual 84, 3) := by decide +kernel
theorem dX9_pack_5 : decode cX9_pack 5 = .ok (.ifCond .eq 11, 3) := by decide +kernel
theorem dX9_pack_8 : decode cX9_pack 8 = .ok (.iload_n 2, 1) := by decide +kernel
theorem dX9_pack_9 : decode cX9_pack 9 = .ok (.iload_n 3, 1) := by decide +kernel
theorem dX9_pack_10 : decode cX9_pack 10 = .ok (.invokestatic 119, 3) := by decide +kernel
theorem dX9_pack_13 : decode cX9_pack 13 = .ok (.ifCond .ne 5, 3) := by decide +kernel
theorem dX9_pack_16 : decode cX9_pack 16 = .ok (.iconst (-1), 1) := by decide +kernel
theorem dX9_pack_17 : decode cX9_pack 17 = .ok (.ireturn, 1) := by decide +kernel
theorem dX9_pack_18 : decode cX9_pack 18 = .ok (.aload_n 0, 1) := by decide +kernel
theorem dX9_pack_19 : decode cX9_pack 19 = .ok (.iload_n 1, 1) := by decide +kernel
theorem dX9_pack_20 : decode cX9_pack 20 = .ok (.invokevirtual 149, 3) := by decide +kernel
theorem dX9_pack_23 : decode cX9_pack 23 = .ok (.istore 4, 2) := by decide +kernel
theorem dX9_pack_25 : decode cX9_pack 25 = .ok (.iload 4, 2) := by decide +kernel
theorem dX9_pack_27 : decode cX9_pack 27 = .ok (.ifCond .ge 6, 3) := by decide +kernel
theorem dX9_pack_30 : decode cX9_pack 30 = .ok (.iload 4, 2) := by decide +kernel
theorem dX9_pack_32 : decode cX9_pack 32 = .ok (.ireturn, 1) := by decide +kernel
theorem dX9_pack_33 : decode cX9_pack 33 = .ok (.aload_n 0, 1) := by decide +kernel
theorem dX9_pack_34 : decode cX9_pack 34 = .ok (.iload_n 1, 1) := by decide +kernel
theorem dX9_pack_35 : decode cX9_pack 35 = .ok (.iload_n 3, 1) := by decide +kernel
theorem dX9_pack_36 : decode cX9_pack 36 = .ok (.invokevirtual 106, 3) := by decide +kernel
theorem dX9_pack_39 : decode cX9_pack 39 = .ok (.aload_n 0, 1) := by decide +kernel
theorem dX9_pack_40 : decode cX9_pack 40 = .ok (.invokevirtual 153, 3) := by decide +kernel
