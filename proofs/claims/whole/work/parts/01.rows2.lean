theorem dX7_addSymbol_41 : decode cX7_addSymbol 41 = .ok (.return_, 1) := by decide +kernel
theorem dX7_setBytes_0 : decode cX7_setBytes 0 = .ok (.aload_n 0, 1) := by decide +kernel
theorem dX7_setBytes_1 : decode cX7_setBytes 1 = .ok (.getfield 11, 3) := by decide +kernel
theorem dX7_setBytes_4 : decode cX7_setBytes 4 = .ok (.iconst 4, 1) := by decide +kernel
theorem dX7_setBytes_5 : decode cX7_setBytes 5 = .ok (.aload_n 0, 1) := by decide +kernel
theorem dX7_setBytes_6 : decode cX7_setBytes 6 = .ok (.getfield 11, 3) := by decide +kernel
theorem dX7_setBytes_9 : decode cX7_setBytes 9 = .ok (.iconst 3, 1) := by decide +kernel
theorem dX7_setBytes_10 : decode cX7_setBytes 10 = .ok (.iaload, 1) := by decide +kernel
theorem dX7_setBytes_11 : decode cX7_setBytes 11 = .ok (.iload_n 1, 1) := by decide +kernel
theorem dX7_setBytes_12 : decode cX7_setBytes 12 = .ok (.imul, 1) := by decide +kernel
theorem dX7_setBytes_13 : decode cX7_setBytes 13 = .ok (.bipush 7, 2) := by decide +kernel
theorem dX7_setBytes_15 : decode cX7_setBytes 15 = .ok (.iadd, 1) := by decide +kernel
theorem dX7_setBytes_16 : decode cX7_setBytes 16 = .ok (.bipush 8, 2) := by decide +kernel
theorem dX7_setBytes_18 : decode cX7_setBytes 18 = .ok (.idiv, 1) := by decide +kernel
theorem dX7_setBytes_19 : decode cX7_setBytes 19 = .ok (.iastore, 1) := by decide +kernel
theorem dX7_setBytes_20 : decode cX7_setBytes 20 = .ok (.return_, 1) := by decide +kernel
theorem dX7_copy_0 : decode cX7_copy 0 = .ok (.aload_n 1, 1) := by decide +kernel
theorem dX7_copy_1 : decode cX7_copy 1 = .ok (.getfield 11, 3) := by decide +kernel
theorem dX7_copy_4 : decode cX7_copy 4 = .ok (.iconst 0, 1) := by decide +kernel
theorem dX7_copy_5 : decode cX7_copy 5 = .ok (.aload_n 0, 1) := by decide +kernel
theorem dX7_copy_6 : decode cX7_copy 6 = .ok (.getfield 11, 3) := by decide +kernel
theorem dX7_copy_9 : decode cX7_copy 9 = .ok (.iconst 0, 1) := by decide +kernel
theorem dX7_copy_10 : decode cX7_copy 10 = .ok (.bipush 6, 2) := by decide +kernel
theorem dX7_copy_12 : decode cX7_copy 12 = .ok (.invokestatic 34, 3) := by decide +kernel
theorem dX7_copy_15 : decode cX7_copy 15 = .ok (.return_, 1) := by decide +kernel
theorem dX8_init_0 : decode cX8_init 0 = .ok (.aload_n 0, 1) := by decide +kernel
theorem dX8_init_1 : decode cX8_init 1 = .ok (.invokespecial 3, 3) := by decide +kernel
theorem dX8_init_4 : decode cX8_init 4 = .ok (.aload_n 0, 1) := by decide +kernel
theorem dX8_init_5 : decode cX8_init 5 = .ok (.new 9, 3) := by decide +kernel
theorem dX8_init_8 : decode cX8_init 8 = .ok (.dup, 1) := by decide +kernel
theorem dX8_init_9 : decode cX8_init 9 = .ok (.invokespecial 11, 3) := by decide +kernel
theorem dX8_init_12 : decode cX8_init 12 = .ok (.putfield 12, 3) := by decide +kernel
theorem dX8_init_15 : decode cX8_init 15 = .ok (.aload_n 0, 1) := by decide +kernel
theorem dX8_init_16 : decode cX8_init 16 = .ok (.new 9, 3) := by decide +kernel
theorem dX8_init_19 : decode cX8_init 19 = .ok (.dup, 1) := by decide +kernel
theorem dX8_init_20 : decode cX8_init 20 = .ok (.invokespecial 11, 3) := by decide +kernel
theorem dX8_init_23 : decode cX8_init 23 = .ok (.putfield 16, 3) := by decide +kernel
theorem dX8_init_26 : decode cX8_init 26 = .ok (.aload_n 0, 1) := by decide +kernel
theorem dX8_init_27 : decode cX8_init 27 = .ok (.bipush 6, 2) := by decide +kernel
theorem dX8_init_29 : decode cX8_init 29 = .ok (.anewarray 19, 3) := by decide +kernel
theorem dX8_init_32 : decode cX8_init 32 = .ok (.putfield 21, 3) := by decide +kernel
theorem dX8_init_35 : decode cX8_init 35 = .ok (.aload_n 0, 1) := by decide +kernel
theorem dX8_init_36 : decode cX8_init 36 = .ok (.sipush 256, 3) := by decide +kernel
theorem dX8_init_39 : decode cX8_init 39 = .ok (.newarray .int, 2) := by decide +kernel
theorem dX8_init_41 : decode cX8_init 41 = .ok (.putfield 25, 3) := by decide +kernel
theorem dX8_init_44 : decode cX8_init 44 = .ok (.aload_n 0, 1) := by decide +kernel
theorem dX8_init_45 : decode cX8_init 45 = .ok (.new 29, 3) := by decide +kernel
theorem dX8_init_48 : decode cX8_init 48 = .ok (.dup, 1) := by decide +kernel
theorem dX8_init_49 : decode cX8_init 49 = .ok (.invokespecial 31, 3) := by decide +kernel
theorem dX8_init_52 : decode cX8_init 52 = .ok (.putfield 32, 3) := by decide +kernel
theorem dX8_init_55 : decode cX8_init 55 = .ok (.aload_n 0, 1) := by decide +kernel
theorem dX8_init_56 : decode cX8_init 56 = .ok (.aload_n 0, 1) := by decide +kernel
theorem dX8_init_57 : decode cX8_init 57 = .ok (.getfield 32, 3) := by decide +kernel
theorem dX8_init_60 : decode cX8_init 60 = .ok (.getfield 36, 3) := by decide +kernel
theorem dX8_init_63 : decode cX8_init 63 = .ok (.putfield 40, 3) := by decide +kernel
theorem dX8_init_66 : decode cX8_init 66 = .ok (.aload_n 0, 1) := by decide +kernel
theorem dX8_init_67 : decode cX8_init 67 = .ok (.new 41, 3) := by decide +kernel
theorem dX8_init_70 : decode cX8_init 70 = .ok (.dup, 1) := by decide +kernel
theorem dX8_init_71 : decode cX8_init 71 = .ok (.invokespecial 43, 3) := by decide +kernel
theorem dX8_init_74 : decode cX8_init 74 = .ok (.putfield 44, 3) := by decide +kernel
theorem dX8_init_77 : decode cX8_init 77 = .ok (.aload_n 0, 1) := by decide +kernel
theorem dX8_init_78 : decode cX8_init 78 = .ok (.new 48, 3) := by decide +kernel
theorem dX8_init_81 : decode cX8_init 81 = .ok (.dup, 1) := by decide +kernel
theorem dX8_init_82 : decode cX8_init 82 = .ok (.invokespecial 50, 3) := by decide +kernel
theorem dX8_init_85 : decode cX8_init 85 = .ok (.putfield 51, 3) := by decide +kernel
theorem dX8_init_88 : decode cX8_init 88 = .ok (.aload_n 0, 1) := by decide +kernel
theorem dX8_init_89 : decode cX8_init 89 = .ok (.new 55, 3) := by decide +kernel
theorem dX8_init_92 : decode cX8_init 92 = .ok (.dup, 1) := by decide +kernel
theorem dX8_init_93 : decode cX8_init 93 = .ok (.invokespecial 57, 3) := by decide +kernel
theorem dX8_init_96 : decode cX8_init 96 = .ok (.putfield 58, 3) := by decide +kernel
theorem dX8_init_99 : decode cX8_init 99 = .ok (.aload_n 0, 1) := by decide +kernel
theorem dX8_init_100 : decode cX8_init 100 = .ok (.iconst 0, 1) := by decide +kernel
theorem dX8_init_101 : decode cX8_init 101 = .ok (.putfield 62, 3) := by decide +kernel
theorem dX8_init_104 : decode cX8_init 104 = .ok (.aload_n 0, 1) := by decide +kernel
theorem dX8_init_105 : decode cX8_init 105 = .ok (.iconst 0, 1) := by decide +kernel
theorem dX8_init_106 : decode cX8_init 106 = .ok (.putfield 66, 3) := by decide +kernel
theorem dX8_init_109 : decode cX8_init 109 = .ok (.iconst 0, 1) := by decide +kernel
theorem dX8_init_110 : decode cX8_init 110 = .ok (.istore_n 1, 1) := by decide +kernel
theorem dX8_init_111 : decode cX8_init 111 = .ok (.iload_n 1, 1) := by decide +kernel
theorem dX8_init_112 : decode cX8_init 112 = .ok (.bipush 6, 2) := by decide +kernel
theorem dX8_init_114 : decode cX8_init 114 = .ok (.if_icmp .ge 22, 3) := by decide +kernel
theorem dX8_init_117 : decode cX8_init 117 = .ok (.aload_n 0, 1) := by decide +kernel
theorem dX8_init_118 : decode cX8_init 118 = .ok (.getfield 21, 3) := by decide +kernel
theorem dX8_init_121 : decode cX8_init 121 = .ok (.iload_n 1, 1) := by decide +kernel
theorem dX8_init_122 : decode cX8_init 122 = .ok (.new 19, 3) := by decide +kernel
theorem dX8_init_125 : decode cX8_init 125 = .ok (.dup, 1) := by decide +kernel
theorem dX8_init_126 : decode cX8_init 126 = .ok (.invokespecial 69, 3) := by decide +kernel
theorem dX8_init_129 : decode cX8_init 129 = .ok (.aastore, 1) := by decide +kernel
theorem dX8_init_130 : decode cX8_init 130 = .ok (.iinc 1 1, 3) := by decide +kernel
theorem dX8_init_133 : decode cX8_init 133 = .ok (.goto (-22), 3) := by decide +kernel
theorem dX8_init_136 : decode cX8_init 136 = .ok (.return_, 1) := by decide +kernel
theorem dX8_feed_0 : decode cX8_feed 0 = .ok (.aload_n 0, 1) := by decide +kernel
theorem dX8_feed_1 : decode cX8_feed 1 = .ok (.getfield 12, 3) := by decide +kernel
theorem dX8_feed_4 : decode cX8_feed 4 = .ok (.getfield 70, 3) := by decide +kernel
theorem dX8_feed_7 : decode cX8_feed 7 = .ok (.bipush 20, 2) := by decide +kernel
theorem dX8_feed_9 : decode cX8_feed 9 = .ok (.iadd, 1) := by decide +kernel
theorem dX8_feed_10 : decode cX8_feed 10 = .ok (.sipush 4000, 3) := by decide +kernel
theorem dX8_feed_13 : decode cX8_feed 13 = .ok (.if_icmp .le 5, 3) := by decide +kernel
theorem dX8_feed_16 : decode cX8_feed 16 = .ok (.iconst (-1), 1) := by decide +kernel
theorem dX8_feed_17 : decode cX8_feed 17 = .ok (.ireturn, 1) := by decide +kernel
theorem dX8_feed_18 : decode cX8_feed 18 = .ok (.aload_n 0, 1) := by decide +kernel
theorem dX8_feed_19 : decode cX8_feed 19 = .ok (.getfield 12, 3) := by decide +kernel
theorem dX8_feed_22 : decode cX8_feed 22 = .ok (.iload_n 1, 1) := by decide +kernel
theorem dX8_feed_23 : decode cX8_feed 23 = .ok (.iconst 4, 1) := by decide +kernel
theorem dX8_feed_24 : decode cX8_feed 24 = .ok (.invokevirtual 73, 3) := by decide +kernel
theorem dX8_feed_27 : decode cX8_feed 27 = .ok (.aload_n 0, 1) := by decide +kernel
theorem dX8_feed_28 : decode cX8_feed 28 = .ok (.getfield 12, 3) := by decide +kernel
theorem dX8_feed_31 : decode cX8_feed 31 = .ok (.iload_n 2, 1) := by decide +kernel
theorem dX8_feed_32 : decode cX8_feed 32 = .ok (.iconst 4, 1) := by decide +kernel
theorem dX8_feed_33 : decode cX8_feed 33 = .ok (.invokevirtual 73, 3) := by decide +kernel
theorem dX8_feed_36 : decode cX8_feed 36 = .ok (.aload_n 0, 1) := by decide +kernel
theorem dX8_feed_37 : decode cX8_feed 37 = .ok (.getfield 12, 3) := by decide +kernel
theorem dX8_feed_40 : decode cX8_feed 40 = .ok (.iload_n 3, 1) := by decide +kernel
theorem dX8_feed_41 : decode cX8_feed 41 = .ok (.iconst 4, 1) := by decide +kernel
theorem dX8_feed_42 : decode cX8_feed 42 = .ok (.invokevirtual 73, 3) := by decide +kernel
theorem dX8_feed_45 : decode cX8_feed 45 = .ok (.aload_n 0, 1) := by decide +kernel
theorem dX8_feed_46 : decode cX8_feed 46 = .ok (.getfield 12, 3) := by decide +kernel
theorem dX8_feed_49 : decode cX8_feed 49 = .ok (.iload 4, 2) := by decide +kernel
theorem dX8_feed_51 : decode cX8_feed 51 = .ok (.iconst 4, 1) := by decide +kernel
theorem dX8_feed_52 : decode cX8_feed 52 = .ok (.invokevirtual 73, 3) := by decide +kernel
theorem dX8_feed_55 : decode cX8_feed 55 = .ok (.aload_n 0, 1) := by decide +kernel
theorem dX8_feed_56 : decode cX8_feed 56 = .ok (.getfield 12, 3) := by decide +kernel
theorem dX8_feed_59 : decode cX8_feed 59 = .ok (.iload 5, 2) := by decide +kernel
theorem dX8_feed_61 : decode cX8_feed 61 = .ok (.iconst 4, 1) := by decide +kernel
theorem dX8_feed_62 : decode cX8_feed 62 = .ok (.invokevirtual 73, 3) := by decide +kernel
theorem dX8_feed_65 : decode cX8_feed 65 = .ok (.aload_n 0, 1) := by decide +kernel
theorem dX8_feed_66 : decode cX8_feed 66 = .ok (.getfield 12, 3) := by decide +kernel
theorem dX8_feed_69 : decode cX8_feed 69 = .ok (.getfield 70, 3) := by decide +kernel
theorem dX8_feed_72 : decode cX8_feed 72 = .ok (.ireturn, 1) := by decide +kernel
theorem dX8_end_0 : decode cX8_end 0 = .ok (.iload_n 1, 1) := by decide +kernel
theorem dX8_end_1 : decode cX8_end 1 = .ok (.ifCond .lt 14, 3) := by decide +kernel
theorem dX8_end_4 : decode cX8_end 4 = .ok (.iload_n 1, 1) := by decide +kernel
theorem dX8_end_5 : decode cX8_end 5 = .ok (.aload_n 0, 1) := by decide +kernel
theorem dX8_end_6 : decode cX8_end 6 = .ok (.getfield 12, 3) := by decide +kernel
theorem dX8_end_9 : decode cX8_end 9 = .ok (.getfield 70, 3) := by decide +kernel
theorem dX8_end_12 : decode cX8_end 12 = .ok (.if_icmp .le 5, 3) := by decide +kernel
theorem dX8_end_15 : decode cX8_end 15 = .ok (.iconst (-1), 1) := by decide +kernel
theorem dX8_end_16 : decode cX8_end 16 = .ok (.ireturn, 1) := by decide +kernel
theorem dX8_end_17 : decode cX8_end 17 = .ok (.aload_n 0, 1) := by decide +kernel
theorem dX8_end_18 : decode cX8_end 18 = .ok (.getfield 12, 3) := by decide +kernel
theorem dX8_end_21 : decode cX8_end 21 = .ok (.iload_n 1, 1) := by decide +kernel
theorem dX8_end_22 : decode cX8_end 22 = .ok (.putfield 70, 3) := by decide +kernel
theorem dX8_end_25 : decode cX8_end 25 = .ok (.iload_n 1, 1) := by decide +kernel
theorem dX8_end_26 : decode cX8_end 26 = .ok (.ireturn, 1) := by decide +kernel
theorem dX8_learn_0 : decode cX8_learn 0 = .ok (.iload_n 1, 1) := by decide +kernel
theorem dX8_learn_1 : decode cX8_learn 1 = .ok (.invokestatic 77, 3) := by decide +kernel
theorem dX8_learn_4 : decode cX8_learn 4 = .ok (.ifCond .eq 10, 3) := by decide +kernel
theorem dX8_learn_7 : decode cX8_learn 7 = .ok (.iload_n 2, 1) := by decide +kernel
theorem dX8_learn_8 : decode cX8_learn 8 = .ok (.invokestatic 81, 3) := by decide +kernel
theorem dX8_learn_11 : decode cX8_learn 11 = .ok (.ifCond .ne 5, 3) := by decide +kernel
theorem dX8_learn_14 : decode cX8_learn 14 = .ok (.iconst (-1), 1) := by decide +kernel
theorem dX8_learn_15 : decode cX8_learn 15 = .ok (.ireturn, 1) := by decide +kernel
theorem dX8_learn_16 : decode cX8_learn 16 = .ok (.aload_n 0, 1) := by decide +kernel
theorem dX8_learn_17 : decode cX8_learn 17 = .ok (.getfield 12, 3) := by decide +kernel
theorem dX8_learn_20 : decode cX8_learn 20 = .ok (.getfield 70, 3) := by decide +kernel
theorem dX8_learn_23 : decode cX8_learn 23 = .ok (.ifCond .ne 6, 3) := by decide +kernel
theorem dX8_learn_26 : decode cX8_learn 26 = .ok (.bipush (-2), 2) := by decide +kernel
theorem dX8_learn_28 : decode cX8_learn 28 = .ok (.ireturn, 1) := by decide +kernel
theorem dX8_learn_29 : decode cX8_learn 29 = .ok (.aload_n 0, 1) := by decide +kernel
theorem dX8_learn_30 : decode cX8_learn 30 = .ok (.invokevirtual 84, 3) := by decide +kernel
theorem dX8_learn_33 : decode cX8_learn 33 = .ok (.istore_n 3, 1) := by decide +kernel
theorem dX8_learn_34 : decode cX8_learn 34 = .ok (.iload_n 3, 1) := by decide +kernel
theorem dX8_learn_35 : decode cX8_learn 35 = .ok (.iconst 1, 1) := by decide +kernel
theorem dX8_learn_36 : decode cX8_learn 36 = .ok (.iload_n 2, 1) := by decide +kernel
theorem dX8_learn_37 : decode cX8_learn 37 = .ok (.ishl, 1) := by decide +kernel
theorem dX8_learn_38 : decode cX8_learn 38 = .ok (.if_icmp .le 6, 3) := by decide +kernel
theorem dX8_learn_41 : decode cX8_learn 41 = .ok (.bipush (-3), 2) := by decide +kernel
theorem dX8_learn_43 : decode cX8_learn 43 = .ok (.ireturn, 1) := by decide +kernel
theorem dX8_learn_44 : decode cX8_learn 44 = .ok (.aload_n 0, 1) := by decide +kernel
theorem dX8_learn_45 : decode cX8_learn 45 = .ok (.getfield 21, 3) := by decide +kernel
theorem dX8_learn_48 : decode cX8_learn 48 = .ok (.iload_n 1, 1) := by decide +kernel
theorem dX8_learn_49 : decode cX8_learn 49 = .ok (.aaload, 1) := by decide +kernel
theorem dX8_learn_50 : decode cX8_learn 50 = .ok (.aload_n 0, 1) := by decide +kernel
theorem dX8_learn_51 : decode cX8_learn 51 = .ok (.getfield 25, 3) := by decide +kernel
theorem dX8_learn_54 : decode cX8_learn 54 = .ok (.aload_n 0, 1) := by decide +kernel
theorem dX8_learn_55 : decode cX8_learn 55 = .ok (.getfield 12, 3) := by decide +kernel
theorem dX8_learn_58 : decode cX8_learn 58 = .ok (.getfield 70, 3) := by decide +kernel
theorem dX8_learn_61 : decode cX8_learn 61 = .ok (.iload_n 2, 1) := by decide +kernel
theorem dX8_learn_62 : decode cX8_learn 62 = .ok (.invokevirtual 88, 3) := by decide +kernel
theorem dX8_learn_65 : decode cX8_learn 65 = .ok (.aload_n 0, 1) := by decide +kernel
theorem dX8_learn_66 : decode cX8_learn 66 = .ok (.getfield 40, 3) := by decide +kernel
theorem dX8_learn_69 : decode cX8_learn 69 = .ok (.getfield 92, 3) := by decide +kernel
theorem dX8_learn_72 : decode cX8_learn 72 = .ok (.invokevirtual 98, 3) := by decide +kernel
theorem dX8_learn_75 : decode cX8_learn 75 = .ok (.iload_n 3, 1) := by decide +kernel
theorem dX8_learn_76 : decode cX8_learn 76 = .ok (.ireturn, 1) := by decide +kernel
theorem dX8_log_0 : decode cX8_log 0 = .ok (.aload_n 0, 1) := by decide +kernel
theorem dX8_log_1 : decode cX8_log 1 = .ok (.iload_n 1, 1) := by decide +kernel
theorem dX8_log_2 : decode cX8_log 2 = .ok (.invokevirtual 103, 3) := by decide +kernel
theorem dX8_log_5 : decode cX8_log 5 = .ok (.astore_n 2, 1) := by decide +kernel
theorem dX8_log_6 : decode cX8_log 6 = .ok (.aload_n 2, 1) := by decide +kernel
theorem dX8_log_7 : decode cX8_log 7 = .ok (.ifnonnull 7, 3) := by decide +kernel
theorem dX8_log_10 : decode cX8_log 10 = .ok (.iconst (-1), 1) := by decide +kernel
theorem dX8_log_11 : decode cX8_log 11 = .ok (.goto 7, 3) := by decide +kernel
theorem dX8_log_14 : decode cX8_log 14 = .ok (.aload_n 2, 1) := by decide +kernel
theorem dX8_log_15 : decode cX8_log 15 = .ok (.getfield 107, 3) := by decide +kernel
theorem dX8_log_18 : decode cX8_log 18 = .ok (.ireturn, 1) := by decide +kernel
theorem dX8_share_0 : decode cX8_share 0 = .ok (.aload_n 0, 1) := by decide +kernel
theorem dX8_share_1 : decode cX8_share 1 = .ok (.iload_n 1, 1) := by decide +kernel
theorem dX8_share_2 : decode cX8_share 2 = .ok (.invokevirtual 103, 3) := by decide +kernel
theorem dX8_share_5 : decode cX8_share 5 = .ok (.astore_n 3, 1) := by decide +kernel
theorem dX8_share_6 : decode cX8_share 6 = .ok (.aload_n 3, 1) := by decide +kernel
theorem dX8_share_7 : decode cX8_share 7 = .ok (.ifnull 10, 3) := by decide +kernel
theorem dX8_share_10 : decode cX8_share 10 = .ok (.iload_n 2, 1) := by decide +kernel
theorem dX8_share_11 : decode cX8_share 11 = .ok (.invokestatic 110, 3) := by decide +kernel
theorem dX8_share_14 : decode cX8_share 14 = .ok (.ifCond .ne 7, 3) := by decide +kernel
theorem dX8_share_17 : decode cX8_share 17 = .ok (.iconst (-1), 1) := by decide +kernel
theorem dX8_share_18 : decode cX8_share 18 = .ok (.goto 8, 3) := by decide +kernel
theorem dX8_share_21 : decode cX8_share 21 = .ok (.aload_n 3, 1) := by decide +kernel
theorem dX8_share_22 : decode cX8_share 22 = .ok (.iload_n 2, 1) := by decide +kernel
theorem dX8_share_23 : decode cX8_share 23 = .ok (.invokevirtual 113, 3) := by decide +kernel
theorem dX8_share_26 : decode cX8_share 26 = .ok (.ireturn, 1) := by decide +kernel
theorem dX8_start_0 : decode cX8_start 0 = .ok (.aload_n 0, 1) := by decide +kernel
theorem dX8_start_1 : decode cX8_start 1 = .ok (.iload_n 1, 1) := by decide +kernel
theorem dX8_start_2 : decode cX8_start 2 = .ok (.invokevirtual 103, 3) := by decide +kernel
theorem dX8_start_5 : decode cX8_start 5 = .ok (.astore_n 3, 1) := by decide +kernel
theorem dX8_start_6 : decode cX8_start 6 = .ok (.aload_n 3, 1) := by decide +kernel
theorem dX8_start_7 : decode cX8_start 7 = .ok (.ifnull 10, 3) := by decide +kernel
theorem dX8_start_10 : decode cX8_start 10 = .ok (.iload_n 2, 1) := by decide +kernel
theorem dX8_start_11 : decode cX8_start 11 = .ok (.invokestatic 110, 3) := by decide +kernel
theorem dX8_start_14 : decode cX8_start 14 = .ok (.ifCond .ne 7, 3) := by decide +kernel
theorem dX8_start_17 : decode cX8_start 17 = .ok (.iconst (-1), 1) := by decide +kernel
theorem dX8_start_18 : decode cX8_start 18 = .ok (.goto 8, 3) := by decide +kernel
theorem dX8_start_21 : decode cX8_start 21 = .ok (.aload_n 3, 1) := by decide +kernel
theorem dX8_start_22 : decode cX8_start 22 = .ok (.iload_n 2, 1) := by decide +kernel
theorem dX8_start_23 : decode cX8_start 23 = .ok (.invokevirtual 117, 3) := by decide +kernel
theorem dX8_start_26 : decode cX8_start 26 = .ok (.ireturn, 1) := by decide +kernel
theorem dX8_place_0 : decode cX8_place 0 = .ok (.aload_n 0, 1) := by decide +kernel
theorem dX8_place_1 : decode cX8_place 1 = .ok (.iload_n 1, 1) := by decide +kernel
theorem dX8_place_2 : decode cX8_place 2 = .ok (.iload_n 2, 1) := by decide +kernel
theorem dX8_place_3 : decode cX8_place 3 = .ok (.iload_n 3, 1) := by decide +kernel
theorem dX8_place_4 : decode cX8_place 4 = .ok (.invokevirtual 120, 3) := by decide +kernel
theorem dX8_place_7 : decode cX8_place 7 = .ok (.ifCond .eq 17, 3) := by decide +kernel
theorem dX8_place_10 : decode cX8_place 10 = .ok (.aload_n 0, 1) := by decide +kernel
theorem dX8_place_11 : decode cX8_place 11 = .ok (.getfield 40, 3) := by decide +kernel
theorem dX8_place_14 : decode cX8_place 14 = .ok (.getfield 92, 3) := by decide +kernel
theorem dX8_place_17 : decode cX8_place 17 = .ok (.iload_n 3, 1) := by decide +kernel
theorem dX8_place_18 : decode cX8_place 18 = .ok (.invokevirtual 124, 3) := by decide +kernel
theorem dX8_place_21 : decode cX8_place 21 = .ok (.goto 4, 3) := by decide +kernel
theorem dX8_place_24 : decode cX8_place 24 = .ok (.iconst (-1), 1) := by decide +kernel
theorem dX8_place_25 : decode cX8_place 25 = .ok (.ireturn, 1) := by decide +kernel
theorem dX8_rank_0 : decode cX8_rank 0 = .ok (.aload_n 0, 1) := by decide +kernel
theorem dX8_rank_1 : decode cX8_rank 1 = .ok (.iload_n 1, 1) := by decide +kernel
theorem dX8_rank_2 : decode cX8_rank 2 = .ok (.iload_n 2, 1) := by decide +kernel
theorem dX8_rank_3 : decode cX8_rank 3 = .ok (.iload_n 3, 1) := by decide +kernel
theorem dX8_rank_4 : decode cX8_rank 4 = .ok (.invokevirtual 120, 3) := by decide +kernel
theorem dX8_rank_7 : decode cX8_rank 7 = .ok (.ifCond .eq 17, 3) := by decide +kernel
theorem dX8_rank_10 : decode cX8_rank 10 = .ok (.aload_n 0, 1) := by decide +kernel
theorem dX8_rank_11 : decode cX8_rank 11 = .ok (.getfield 40, 3) := by decide +kernel
theorem dX8_rank_14 : decode cX8_rank 14 = .ok (.getfield 92, 3) := by decide +kernel
theorem dX8_rank_17 : decode cX8_rank 17 = .ok (.iload_n 3, 1) := by decide +kernel
theorem dX8_rank_18 : decode cX8_rank 18 = .ok (.invokevirtual 127, 3) := by decide +kernel
theorem dX8_rank_21 : decode cX8_rank 21 = .ok (.goto 4, 3) := by decide +kernel
theorem dX8_rank_24 : decode cX8_rank 24 = .ok (.iconst (-1), 1) := by decide +kernel
theorem dX8_rank_25 : decode cX8_rank 25 = .ok (.ireturn, 1) := by decide +kernel
theorem dX8_pack_0 : decode cX8_pack 0 = .ok (.aload_n 0, 1) := by decide +kernel
theorem dX8_pack_1 : decode cX8_pack 1 = .ok (.iload_n 1, 1) := by decide +kernel
theorem dX8_pack_2 : decode cX8_pack 2 = .ok (.invokevirtual 103, 3) := by decide +kernel
theorem dX8_pack_5 : decode cX8_pack 5 = .ok (.astore 4, 2) := by decide +kernel
theorem dX8_pack_7 : decode cX8_pack 7 = .ok (.aload 4, 2) := by decide +kernel
theorem dX8_pack_9 : decode cX8_pack 9 = .ok (.ifnull 11, 3) := by decide +kernel
theorem dX8_pack_12 : decode cX8_pack 12 = .ok (.iload_n 2, 1) := by decide +kernel
theorem dX8_pack_13 : decode cX8_pack 13 = .ok (.iload_n 3, 1) := by decide +kernel
theorem dX8_pack_14 : decode cX8_pack 14 = .ok (.invokestatic 130, 3) := by decide +kernel
theorem dX8_pack_17 : decode cX8_pack 17 = .ok (.ifCond .ne 5, 3) := by decide +kernel
theorem dX8_pack_20 : decode cX8_pack 20 = .ok (.iconst (-1), 1) := by decide +kernel
theorem dX8_pack_21 : decode cX8_pack 21 = .ok (.ireturn, 1) := by decide +kernel
theorem dX8_pack_22 : decode cX8_pack 22 = .ok (.aload_n 0, 1) := by decide +kernel
theorem dX8_pack_23 : decode cX8_pack 23 = .ok (.aload 4, 2) := by decide +kernel
theorem dX8_pack_25 : decode cX8_pack 25 = .ok (.invokevirtual 134, 3) := by decide +kernel
theorem dX8_pack_28 : decode cX8_pack 28 = .ok (.istore 5, 2) := by decide +kernel
theorem dX8_pack_30 : decode cX8_pack 30 = .ok (.iload 5, 2) := by decide +kernel
theorem dX8_pack_32 : decode cX8_pack 32 = .ok (.ifCond .eq 6, 3) := by decide +kernel
theorem dX8_pack_35 : decode cX8_pack 35 = .ok (.iload 5, 2) := by decide +kernel
theorem dX8_pack_37 : decode cX8_pack 37 = .ok (.ireturn, 1) := by decide +kernel
theorem dX8_pack_38 : decode cX8_pack 38 = .ok (.aload_n 0, 1) := by decide +kernel
theorem dX8_pack_39 : decode cX8_pack 39 = .ok (.getfield 40, 3) := by decide +kernel
theorem dX8_pack_42 : decode cX8_pack 42 = .ok (.aload 4, 2) := by decide +kernel
theorem dX8_pack_44 : decode cX8_pack 44 = .ok (.iload_n 2, 1) := by decide +kernel
theorem dX8_pack_45 : decode cX8_pack 45 = .ok (.iload_n 3, 1) := by decide +kernel
theorem dX8_pack_46 : decode cX8_pack 46 = .ok (.invokevirtual 138, 3) := by decide +kernel
theorem dX8_pack_49 : decode cX8_pack 49 = .ok (.aload_n 0, 1) := by decide +kernel
theorem dX8_pack_50 : decode cX8_pack 50 = .ok (.getfield 44, 3) := by decide +kernel
theorem dX8_pack_53 : decode cX8_pack 53 = .ok (.aload_n 0, 1) := by decide +kernel
theorem dX8_pack_54 : decode cX8_pack 54 = .ok (.getfield 40, 3) := by decide +kernel
theorem dX8_pack_57 : decode cX8_pack 57 = .ok (.aload_n 0, 1) := by decide +kernel
theorem dX8_pack_58 : decode cX8_pack 58 = .ok (.getfield 12, 3) := by decide +kernel
theorem dX8_pack_61 : decode cX8_pack 61 = .ok (.invokevirtual 142, 3) := by decide +kernel
theorem dX8_pack_64 : decode cX8_pack 64 = .ok (.aload_n 0, 1) := by decide +kernel
theorem dX8_pack_65 : decode cX8_pack 65 = .ok (.getfield 44, 3) := by decide +kernel
theorem dX8_pack_68 : decode cX8_pack 68 = .ok (.aload_n 0, 1) := by decide +kernel
theorem dX8_pack_69 : decode cX8_pack 69 = .ok (.getfield 40, 3) := by decide +kernel
theorem dX8_pack_72 : decode cX8_pack 72 = .ok (.aload 4, 2) := by decide +kernel
theorem dX8_pack_74 : decode cX8_pack 74 = .ok (.aload_n 0, 1) := by decide +kernel
theorem dX8_pack_75 : decode cX8_pack 75 = .ok (.getfield 16, 3) := by decide +kernel
theorem dX8_pack_78 : decode cX8_pack 78 = .ok (.invokevirtual 146, 3) := by decide +kernel
theorem dX8_pack_81 : decode cX8_pack 81 = .ok (.aload_n 0, 1) := by decide +kernel
theorem dX8_pack_82 : decode cX8_pack 82 = .ok (.getfield 51, 3) := by decide +kernel
theorem dX8_pack_85 : decode cX8_pack 85 = .ok (.aload_n 0, 1) := by decide +kernel
theorem dX8_pack_86 : decode cX8_pack 86 = .ok (.getfield 44, 3) := by decide +kernel
theorem dX8_pack_89 : decode cX8_pack 89 = .ok (.getfield 150, 3) := by decide +kernel
theorem dX8_pack_92 : decode cX8_pack 92 = .ok (.invokevirtual 151, 3) := by decide +kernel
theorem dX8_pack_95 : decode cX8_pack 95 = .ok (.aload_n 0, 1) := by decide +kernel
theorem dX8_pack_96 : decode cX8_pack 96 = .ok (.getfield 16, 3) := by decide +kernel
theorem dX8_pack_99 : decode cX8_pack 99 = .ok (.getfield 70, 3) := by decide +kernel
theorem dX8_pack_102 : decode cX8_pack 102 = .ok (.ireturn, 1) := by decide +kernel
theorem dX8_unpack_0 : decode cX8_unpack 0 = .ok (.iload_n 1, 1) := by decide +kernel
theorem dX8_unpack_1 : decode cX8_unpack 1 = .ok (.invokestatic 77, 3) := by decide +kernel
theorem dX8_unpack_4 : decode cX8_unpack 4 = .ok (.ifCond .ne 5, 3) := by decide +kernel
theorem dX8_unpack_7 : decode cX8_unpack 7 = .ok (.iconst (-1), 1) := by decide +kernel
theorem dX8_unpack_8 : decode cX8_unpack 8 = .ok (.ireturn, 1) := by decide +kernel
theorem dX8_unpack_9 : decode cX8_unpack 9 = .ok (.aload_n 0, 1) := by decide +kernel
theorem dX8_unpack_10 : decode cX8_unpack 10 = .ok (.getfield 32, 3) := by decide +kernel
theorem dX8_unpack_13 : decode cX8_unpack 13 = .ok (.aload_n 0, 1) := by decide +kernel
theorem dX8_unpack_14 : decode cX8_unpack 14 = .ok (.getfield 12, 3) := by decide +kernel
theorem dX8_unpack_17 : decode cX8_unpack 17 = .ok (.invokevirtual 155, 3) := by decide +kernel
theorem dX8_unpack_20 : decode cX8_unpack 20 = .ok (.istore_n 2, 1) := by decide +kernel
theorem dX8_unpack_21 : decode cX8_unpack 21 = .ok (.aload_n 0, 1) := by decide +kernel
theorem dX8_unpack_22 : decode cX8_unpack 22 = .ok (.getfield 12, 3) := by decide +kernel
theorem dX8_unpack_25 : decode cX8_unpack 25 = .ok (.iconst 0, 1) := by decide +kernel
theorem dX8_unpack_26 : decode cX8_unpack 26 = .ok (.putfield 70, 3) := by decide +kernel
theorem dX8_unpack_29 : decode cX8_unpack 29 = .ok (.iload_n 2, 1) := by decide +kernel
theorem dX8_unpack_30 : decode cX8_unpack 30 = .ok (.ifCond .ne 5, 3) := by decide +kernel
theorem dX8_unpack_33 : decode cX8_unpack 33 = .ok (.iconst (-1), 1) := by decide +kernel
theorem dX8_unpack_34 : decode cX8_unpack 34 = .ok (.ireturn, 1) := by decide +kernel
theorem dX8_unpack_35 : decode cX8_unpack 35 = .ok (.aload_n 0, 1) := by decide +kernel
theorem dX8_unpack_36 : decode cX8_unpack 36 = .ok (.getfield 21, 3) := by decide +kernel
theorem dX8_unpack_39 : decode cX8_unpack 39 = .ok (.iload_n 1, 1) := by decide +kernel
theorem dX8_unpack_40 : decode cX8_unpack 40 = .ok (.aload_n 0, 1) := by decide +kernel
theorem dX8_unpack_41 : decode cX8_unpack 41 = .ok (.getfield 32, 3) := by decide +kernel
theorem dX8_unpack_44 : decode cX8_unpack 44 = .ok (.aload_n 0, 1) := by decide +kernel
theorem dX8_unpack_45 : decode cX8_unpack 45 = .ok (.getfield 21, 3) := by decide +kernel
theorem dX8_unpack_48 : decode cX8_unpack 48 = .ok (.iload_n 1, 1) := by decide +kernel
theorem dX8_unpack_49 : decode cX8_unpack 49 = .ok (.aaload, 1) := by decide +kernel
theorem dX8_unpack_50 : decode cX8_unpack 50 = .ok (.invokevirtual 159, 3) := by decide +kernel
theorem dX8_unpack_53 : decode cX8_unpack 53 = .ok (.aastore, 1) := by decide +kernel
theorem dX8_unpack_54 : decode cX8_unpack 54 = .ok (.aload_n 0, 1) := by decide +kernel
theorem dX8_unpack_55 : decode cX8_unpack 55 = .ok (.getfield 32, 3) := by decide +kernel
theorem dX8_unpack_58 : decode cX8_unpack 58 = .ok (.aload_n 0, 1) := by decide +kernel
theorem dX8_unpack_59 : decode cX8_unpack 59 = .ok (.getfield 16, 3) := by decide +kernel
theorem dX8_unpack_62 : decode cX8_unpack 62 = .ok (.invokevirtual 163, 3) := by decide +kernel
theorem dX8_unpack_65 : decode cX8_unpack 65 = .ok (.aload_n 0, 1) := by decide +kernel
theorem dX8_unpack_66 : decode cX8_unpack 66 = .ok (.getfield 51, 3) := by decide +kernel
theorem dX8_unpack_69 : decode cX8_unpack 69 = .ok (.aload_n 0, 1) := by decide +kernel
theorem dX8_unpack_70 : decode cX8_unpack 70 = .ok (.getfield 32, 3) := by decide +kernel
theorem dX8_unpack_73 : decode cX8_unpack 73 = .ok (.getfield 167, 3) := by decide +kernel
theorem dX8_unpack_76 : decode cX8_unpack 76 = .ok (.invokevirtual 151, 3) := by decide +kernel
theorem dX8_unpack_79 : decode cX8_unpack 79 = .ok (.aload_n 0, 1) := by decide +kernel
theorem dX8_unpack_80 : decode cX8_unpack 80 = .ok (.getfield 16, 3) := by decide +kernel
theorem dX8_unpack_83 : decode cX8_unpack 83 = .ok (.getfield 70, 3) := by decide +kernel
theorem dX8_unpack_86 : decode cX8_unpack 86 = .ok (.ireturn, 1) := by decide +kernel
theorem dX8_fault_0 : decode cX8_fault 0 = .ok (.iload_n 1, 1) := by decide +kernel
theorem dX8_fault_1 : decode cX8_fault 1 = .ok (.ifCond .ne 11, 3) := by decide +kernel
theorem dX8_fault_4 : decode cX8_fault 4 = .ok (.aload_n 0, 1) := by decide +kernel
theorem dX8_fault_5 : decode cX8_fault 5 = .ok (.getfield 32, 3) := by decide +kernel
theorem dX8_fault_8 : decode cX8_fault 8 = .ok (.getfield 168, 3) := by decide +kernel
theorem dX8_fault_11 : decode cX8_fault 11 = .ok (.ireturn, 1) := by decide +kernel
theorem dX8_fault_12 : decode cX8_fault 12 = .ok (.iload_n 1, 1) := by decide +kernel
theorem dX8_fault_13 : decode cX8_fault 13 = .ok (.iconst 1, 1) := by decide +kernel
theorem dX8_fault_14 : decode cX8_fault 14 = .ok (.if_icmp .ne 13, 3) := by decide +kernel
theorem dX8_fault_17 : decode cX8_fault 17 = .ok (.aload_n 0, 1) := by decide +kernel
theorem dX8_fault_18 : decode cX8_fault 18 = .ok (.getfield 32, 3) := by decide +kernel
theorem dX8_fault_21 : decode cX8_fault 21 = .ok (.getfield 171, 3) := by decide +kernel
theorem dX8_fault_24 : decode cX8_fault 24 = .ok (.goto 4, 3) := by decide +kernel
theorem dX8_fault_27 : decode cX8_fault 27 = .ok (.iconst (-1), 1) := by decide +kernel
theorem dX8_fault_28 : decode cX8_fault 28 = .ok (.ireturn, 1) := by decide +kernel
theorem dX8_written_0 : decode cX8_written 0 = .ok (.aload_n 0, 1) := by decide +kernel
theorem dX8_written_1 : decode cX8_written 1 = .ok (.getfield 16, 3) := by decide +kernel
theorem dX8_written_4 : decode cX8_written 4 = .ok (.iload_n 1, 1) := by decide +kernel
theorem dX8_written_5 : decode cX8_written 5 = .ok (.invokevirtual 174, 3) := by decide +kernel
theorem dX8_written_8 : decode cX8_written 8 = .ok (.ireturn, 1) := by decide +kernel
theorem dX8_take_0 : decode cX8_take 0 = .ok (.aload_n 0, 1) := by decide +kernel
theorem dX8_take_1 : decode cX8_take 1 = .ok (.getfield 12, 3) := by decide +kernel
theorem dX8_take_4 : decode cX8_take 4 = .ok (.aload_n 0, 1) := by decide +kernel
theorem dX8_take_5 : decode cX8_take 5 = .ok (.getfield 16, 3) := by decide +kernel
theorem dX8_take_8 : decode cX8_take 8 = .ok (.invokevirtual 177, 3) := by decide +kernel
theorem dX8_take_11 : decode cX8_take 11 = .ok (.aload_n 0, 1) := by decide +kernel
theorem dX8_take_12 : decode cX8_take 12 = .ok (.getfield 12, 3) := by decide +kernel
theorem dX8_take_15 : decode cX8_take 15 = .ok (.getfield 70, 3) := by decide +kernel
theorem dX8_take_18 : decode cX8_take 18 = .ok (.ireturn, 1) := by decide +kernel
theorem dX8_ideal_0 : decode cX8_ideal 0 = .ok (.aload_n 0, 1) := by decide +kernel
theorem dX8_ideal_1 : decode cX8_ideal 1 = .ok (.iload_n 1, 1) := by decide +kernel
theorem dX8_ideal_2 : decode cX8_ideal 2 = .ok (.invokevirtual 103, 3) := by decide +kernel
theorem dX8_ideal_5 : decode cX8_ideal 5 = .ok (.astore_n 2, 1) := by decide +kernel
theorem dX8_ideal_6 : decode cX8_ideal 6 = .ok (.aload_n 2, 1) := by decide +kernel
theorem dX8_ideal_7 : decode cX8_ideal 7 = .ok (.ifnonnull 5, 3) := by decide +kernel
theorem dX8_ideal_10 : decode cX8_ideal 10 = .ok (.iconst (-1), 1) := by decide +kernel
theorem dX8_ideal_11 : decode cX8_ideal 11 = .ok (.ireturn, 1) := by decide +kernel
theorem dX8_ideal_12 : decode cX8_ideal 12 = .ok (.aload_n 0, 1) := by decide +kernel
theorem dX8_ideal_13 : decode cX8_ideal 13 = .ok (.aload_n 2, 1) := by decide +kernel
theorem dX8_ideal_14 : decode cX8_ideal 14 = .ok (.invokevirtual 134, 3) := by decide +kernel
theorem dX8_ideal_17 : decode cX8_ideal 17 = .ok (.istore_n 3, 1) := by decide +kernel
theorem dX8_ideal_18 : decode cX8_ideal 18 = .ok (.iload_n 3, 1) := by decide +kernel
theorem dX8_ideal_19 : decode cX8_ideal 19 = .ok (.ifCond .eq 5, 3) := by decide +kernel
theorem dX8_ideal_22 : decode cX8_ideal 22 = .ok (.iload_n 3, 1) := by decide +kernel
theorem dX8_ideal_23 : decode cX8_ideal 23 = .ok (.ireturn, 1) := by decide +kernel
theorem dX8_ideal_24 : decode cX8_ideal 24 = .ok (.aload_n 0, 1) := by decide +kernel
theorem dX8_ideal_25 : decode cX8_ideal 25 = .ok (.getfield 58, 3) := by decide +kernel
theorem dX8_ideal_28 : decode cX8_ideal 28 = .ok (.invokevirtual 179, 3) := by decide +kernel
theorem dX8_ideal_31 : decode cX8_ideal 31 = .ok (.iconst 0, 1) := by decide +kernel
theorem dX8_ideal_32 : decode cX8_ideal 32 = .ok (.istore 4, 2) := by decide +kernel
theorem dX8_ideal_34 : decode cX8_ideal 34 = .ok (.iload 4, 2) := by decide +kernel
theorem dX8_ideal_36 : decode cX8_ideal 36 = .ok (.aload_n 0, 1) := by decide +kernel
theorem dX8_ideal_37 : decode cX8_ideal 37 = .ok (.getfield 12, 3) := by decide +kernel
theorem dX8_ideal_40 : decode cX8_ideal 40 = .ok (.getfield 70, 3) := by decide +kernel
theorem dX8_ideal_43 : decode cX8_ideal 43 = .ok (.if_icmp .ge 29, 3) := by decide +kernel
theorem dX8_ideal_46 : decode cX8_ideal 46 = .ok (.aload_n 0, 1) := by decide +kernel
theorem dX8_ideal_47 : decode cX8_ideal 47 = .ok (.getfield 58, 3) := by decide +kernel
theorem dX8_ideal_50 : decode cX8_ideal 50 = .ok (.aload_n 2, 1) := by decide +kernel
theorem dX8_ideal_51 : decode cX8_ideal 51 = .ok (.aload_n 0, 1) := by decide +kernel
theorem dX8_ideal_52 : decode cX8_ideal 52 = .ok (.getfield 12, 3) := by decide +kernel
theorem dX8_ideal_55 : decode cX8_ideal 55 = .ok (.iload 4, 2) := by decide +kernel
theorem dX8_ideal_57 : decode cX8_ideal 57 = .ok (.invokevirtual 174, 3) := by decide +kernel
theorem dX8_ideal_60 : decode cX8_ideal 60 = .ok (.invokevirtual 113, 3) := by decide +kernel
theorem dX8_ideal_63 : decode cX8_ideal 63 = .ok (.invokevirtual 182, 3) := by decide +kernel
theorem dX8_ideal_66 : decode cX8_ideal 66 = .ok (.iinc 4 1, 3) := by decide +kernel
theorem dX8_ideal_69 : decode cX8_ideal 69 = .ok (.goto (-35), 3) := by decide +kernel
theorem dX8_ideal_72 : decode cX8_ideal 72 = .ok (.aload_n 2, 1) := by decide +kernel
theorem dX8_ideal_73 : decode cX8_ideal 73 = .ok (.getfield 107, 3) := by decide +kernel
theorem dX8_ideal_76 : decode cX8_ideal 76 = .ok (.aload_n 0, 1) := by decide +kernel
theorem dX8_ideal_77 : decode cX8_ideal 77 = .ok (.getfield 12, 3) := by decide +kernel
theorem dX8_ideal_80 : decode cX8_ideal 80 = .ok (.getfield 70, 3) := by decide +kernel
theorem dX8_ideal_83 : decode cX8_ideal 83 = .ok (.imul, 1) := by decide +kernel
theorem dX8_ideal_84 : decode cX8_ideal 84 = .ok (.aload_n 0, 1) := by decide +kernel
theorem dX8_ideal_85 : decode cX8_ideal 85 = .ok (.getfield 58, 3) := by decide +kernel
theorem dX8_ideal_88 : decode cX8_ideal 88 = .ok (.invokevirtual 186, 3) := by decide +kernel
theorem dX8_ideal_91 : decode cX8_ideal 91 = .ok (.isub, 1) := by decide +kernel
theorem dX8_ideal_92 : decode cX8_ideal 92 = .ok (.ireturn, 1) := by decide +kernel
theorem dX8_code_0 : decode cX8_code 0 = .ok (.aload_n 0, 1) := by decide +kernel
theorem dX8_code_1 : decode cX8_code 1 = .ok (.iload_n 1, 1) := by decide +kernel
theorem dX8_code_2 : decode cX8_code 2 = .ok (.iload_n 2, 1) := by decide +kernel
theorem dX8_code_3 : decode cX8_code 3 = .ok (.iload_n 3, 1) := by decide +kernel
theorem dX8_code_4 : decode cX8_code 4 = .ok (.iload 4, 2) := by decide +kernel
theorem dX8_code_6 : decode cX8_code 6 = .ok (.invokevirtual 189, 3) := by decide +kernel
theorem dX8_code_9 : decode cX8_code 9 = .ok (.ifCond .eq 18, 3) := by decide +kernel
theorem dX8_code_12 : decode cX8_code 12 = .ok (.aload_n 0, 1) := by decide +kernel
theorem dX8_code_13 : decode cX8_code 13 = .ok (.getfield 40, 3) := by decide +kernel
theorem dX8_code_16 : decode cX8_code 16 = .ok (.getfield 92, 3) := by decide +kernel
theorem dX8_code_19 : decode cX8_code 19 = .ok (.iload 5, 2) := by decide +kernel
theorem dX8_code_21 : decode cX8_code 21 = .ok (.invokevirtual 193, 3) := by decide +kernel
theorem dX8_code_24 : decode cX8_code 24 = .ok (.ifCond .ne 5, 3) := by decide +kernel
theorem dX8_code_27 : decode cX8_code 27 = .ok (.iconst (-1), 1) := by decide +kernel
theorem dX8_code_28 : decode cX8_code 28 = .ok (.ireturn, 1) := by decide +kernel
theorem dX8_code_29 : decode cX8_code 29 = .ok (.aload_n 0, 1) := by decide +kernel
theorem dX8_code_30 : decode cX8_code 30 = .ok (.getfield 40, 3) := by decide +kernel
theorem dX8_code_33 : decode cX8_code 33 = .ok (.iload 4, 2) := by decide +kernel
theorem dX8_code_35 : decode cX8_code 35 = .ok (.iload 5, 2) := by decide +kernel
theorem dX8_code_37 : decode cX8_code 37 = .ok (.invokevirtual 194, 3) := by decide +kernel
theorem dX8_code_40 : decode cX8_code 40 = .ok (.aload_n 0, 1) := by decide +kernel
theorem dX8_code_41 : decode cX8_code 41 = .ok (.aload_n 0, 1) := by decide +kernel
theorem dX8_code_42 : decode cX8_code 42 = .ok (.getfield 40, 3) := by decide +kernel
theorem dX8_code_45 : decode cX8_code 45 = .ok (.getfield 197, 3) := by decide +kernel
theorem dX8_code_48 : decode cX8_code 48 = .ok (.putfield 62, 3) := by decide +kernel
theorem dX8_code_51 : decode cX8_code 51 = .ok (.aload_n 0, 1) := by decide +kernel
theorem dX8_code_52 : decode cX8_code 52 = .ok (.aload_n 0, 1) := by decide +kernel
theorem dX8_code_53 : decode cX8_code 53 = .ok (.getfield 40, 3) := by decide +kernel
theorem dX8_code_56 : decode cX8_code 56 = .ok (.getfield 200, 3) := by decide +kernel
theorem dX8_code_59 : decode cX8_code 59 = .ok (.putfield 66, 3) := by decide +kernel
theorem dX8_code_62 : decode cX8_code 62 = .ok (.aload_n 0, 1) := by decide +kernel
theorem dX8_code_63 : decode cX8_code 63 = .ok (.getfield 40, 3) := by decide +kernel
theorem dX8_code_66 : decode cX8_code 66 = .ok (.getfield 203, 3) := by decide +kernel
theorem dX8_code_69 : decode cX8_code 69 = .ok (.ireturn, 1) := by decide +kernel
theorem dX8_gone_0 : decode cX8_gone 0 = .ok (.iload_n 1, 1) := by decide +kernel
theorem dX8_gone_1 : decode cX8_gone 1 = .ok (.ifCond .ne 8, 3) := by decide +kernel
theorem dX8_gone_4 : decode cX8_gone 4 = .ok (.aload_n 0, 1) := by decide +kernel
theorem dX8_gone_5 : decode cX8_gone 5 = .ok (.getfield 62, 3) := by decide +kernel
theorem dX8_gone_8 : decode cX8_gone 8 = .ok (.ireturn, 1) := by decide +kernel
theorem dX8_gone_9 : decode cX8_gone 9 = .ok (.iload_n 1, 1) := by decide +kernel
theorem dX8_gone_10 : decode cX8_gone 10 = .ok (.iconst 1, 1) := by decide +kernel
theorem dX8_gone_11 : decode cX8_gone 11 = .ok (.if_icmp .ne 10, 3) := by decide +kernel
theorem dX8_gone_14 : decode cX8_gone 14 = .ok (.aload_n 0, 1) := by decide +kernel
theorem dX8_gone_15 : decode cX8_gone 15 = .ok (.getfield 66, 3) := by decide +kernel
theorem dX8_gone_18 : decode cX8_gone 18 = .ok (.goto 4, 3) := by decide +kernel
theorem dX8_gone_21 : decode cX8_gone 21 = .ok (.iconst (-1), 1) := by decide +kernel
theorem dX8_gone_22 : decode cX8_gone 22 = .ok (.ireturn, 1) := by decide +kernel
theorem dX8_symbol_0 : decode cX8_symbol 0 = .ok (.aload_n 0, 1) := by decide +kernel
theorem dX8_symbol_1 : decode cX8_symbol 1 = .ok (.iload_n 1, 1) := by decide +kernel
theorem dX8_symbol_2 : decode cX8_symbol 2 = .ok (.iload_n 2, 1) := by decide +kernel
theorem dX8_symbol_3 : decode cX8_symbol 3 = .ok (.iload_n 3, 1) := by decide +kernel
theorem dX8_symbol_4 : decode cX8_symbol 4 = .ok (.iload 4, 2) := by decide +kernel
theorem dX8_symbol_6 : decode cX8_symbol 6 = .ok (.invokevirtual 189, 3) := by decide +kernel
theorem dX8_symbol_9 : decode cX8_symbol 9 = .ok (.ifCond .eq 15, 3) := by decide +kernel
theorem dX8_symbol_12 : decode cX8_symbol 12 = .ok (.aload_n 0, 1) := by decide +kernel
theorem dX8_symbol_13 : decode cX8_symbol 13 = .ok (.getfield 40, 3) := by decide +kernel
theorem dX8_symbol_16 : decode cX8_symbol 16 = .ok (.iload 4, 2) := by decide +kernel
theorem dX8_symbol_18 : decode cX8_symbol 18 = .ok (.invokevirtual 206, 3) := by decide +kernel
theorem dX8_symbol_21 : decode cX8_symbol 21 = .ok (.goto 4, 3) := by decide +kernel
theorem dX8_symbol_24 : decode cX8_symbol 24 = .ok (.iconst (-1), 1) := by decide +kernel
theorem dX8_symbol_25 : decode cX8_symbol 25 = .ok (.ireturn, 1) := by decide +kernel
theorem dX8_left_0 : decode cX8_left 0 = .ok (.aload_n 0, 1) := by decide +kernel
theorem dX8_left_1 : decode cX8_left 1 = .ok (.iload_n 1, 1) := by decide +kernel
theorem dX8_left_2 : decode cX8_left 2 = .ok (.iload_n 2, 1) := by decide +kernel
theorem dX8_left_3 : decode cX8_left 3 = .ok (.iload_n 3, 1) := by decide +kernel
theorem dX8_left_4 : decode cX8_left 4 = .ok (.iload 4, 2) := by decide +kernel
theorem dX8_left_6 : decode cX8_left 6 = .ok (.invokevirtual 189, 3) := by decide +kernel
theorem dX8_left_9 : decode cX8_left 9 = .ok (.ifCond .eq 15, 3) := by decide +kernel
theorem dX8_left_12 : decode cX8_left 12 = .ok (.aload_n 0, 1) := by decide +kernel
theorem dX8_left_13 : decode cX8_left 13 = .ok (.getfield 40, 3) := by decide +kernel
theorem dX8_left_16 : decode cX8_left 16 = .ok (.iload 4, 2) := by decide +kernel
theorem dX8_left_18 : decode cX8_left 18 = .ok (.invokevirtual 209, 3) := by decide +kernel
theorem dX8_left_21 : decode cX8_left 21 = .ok (.goto 4, 3) := by decide +kernel
theorem dX8_left_24 : decode cX8_left 24 = .ok (.iconst (-1), 1) := by decide +kernel
theorem dX8_left_25 : decode cX8_left 25 = .ok (.ireturn, 1) := by decide +kernel
theorem dX8_look_0 : decode cX8_look 0 = .ok (.aload_n 0, 1) := by decide +kernel
theorem dX8_look_1 : decode cX8_look 1 = .ok (.getfield 51, 3) := by decide +kernel
theorem dX8_look_4 : decode cX8_look 4 = .ok (.iload_n 1, 1) := by decide +kernel
theorem dX8_look_5 : decode cX8_look 5 = .ok (.invokevirtual 212, 3) := by decide +kernel
theorem dX8_look_8 : decode cX8_look 8 = .ok (.ireturn, 1) := by decide +kernel
theorem dX8_isTableNumber_0 : decode cX8_isTableNumber 0 = .ok (.iload_n 0, 1) := by decide +kernel
theorem dX8_isTableNumber_1 : decode cX8_isTableNumber 1 = .ok (.ifCond .lt 13, 3) := by decide +kernel
theorem dX8_isTableNumber_4 : decode cX8_isTableNumber 4 = .ok (.iload_n 0, 1) := by decide +kernel
theorem dX8_isTableNumber_5 : decode cX8_isTableNumber 5 = .ok (.bipush 6, 2) := by decide +kernel
theorem dX8_isTableNumber_7 : decode cX8_isTableNumber 7 = .ok (.if_icmp .ge 7, 3) := by decide +kernel
theorem dX8_isTableNumber_10 : decode cX8_isTableNumber 10 = .ok (.iconst 1, 1) := by decide +kernel
theorem dX8_isTableNumber_11 : decode cX8_isTableNumber 11 = .ok (.goto 4, 3) := by decide +kernel
theorem dX8_isTableNumber_14 : decode cX8_isTableNumber 14 = .ok (.iconst 0, 1) := by decide +kernel
theorem dX8_isTableNumber_15 : decode cX8_isTableNumber 15 = .ok (.ireturn, 1) := by decide +kernel
theorem dX8_isLog_0 : decode cX8_isLog 0 = .ok (.iload_n 0, 1) := by decide +kernel
theorem dX8_isLog_1 : decode cX8_isLog 1 = .ok (.iconst 1, 1) := by decide +kernel
theorem dX8_isLog_2 : decode cX8_isLog 2 = .ok (.if_icmp .lt 13, 3) := by decide +kernel
theorem dX8_isLog_5 : decode cX8_isLog 5 = .ok (.iload_n 0, 1) := by decide +kernel
theorem dX8_isLog_6 : decode cX8_isLog 6 = .ok (.bipush 12, 2) := by decide +kernel
theorem dX8_isLog_8 : decode cX8_isLog 8 = .ok (.if_icmp .gt 7, 3) := by decide +kernel
theorem dX8_isLog_11 : decode cX8_isLog 11 = .ok (.iconst 1, 1) := by decide +kernel
theorem dX8_isLog_12 : decode cX8_isLog 12 = .ok (.goto 4, 3) := by decide +kernel
theorem dX8_isLog_15 : decode cX8_isLog 15 = .ok (.iconst 0, 1) := by decide +kernel
theorem dX8_isLog_16 : decode cX8_isLog 16 = .ok (.ireturn, 1) := by decide +kernel
theorem dX8_isSymbol_0 : decode cX8_isSymbol 0 = .ok (.iload_n 0, 1) := by decide +kernel
theorem dX8_isSymbol_1 : decode cX8_isSymbol 1 = .ok (.ifCond .lt 14, 3) := by decide +kernel
theorem dX8_isSymbol_4 : decode cX8_isSymbol 4 = .ok (.iload_n 0, 1) := by decide +kernel
theorem dX8_isSymbol_5 : decode cX8_isSymbol 5 = .ok (.sipush 256, 3) := by decide +kernel
theorem dX8_isSymbol_8 : decode cX8_isSymbol 8 = .ok (.if_icmp .ge 7, 3) := by decide +kernel
theorem dX8_isSymbol_11 : decode cX8_isSymbol 11 = .ok (.iconst 1, 1) := by decide +kernel
theorem dX8_isSymbol_12 : decode cX8_isSymbol 12 = .ok (.goto 4, 3) := by decide +kernel
theorem dX8_isSymbol_15 : decode cX8_isSymbol 15 = .ok (.iconst 0, 1) := by decide +kernel
theorem dX8_isSymbol_16 : decode cX8_isSymbol 16 = .ok (.ireturn, 1) := by decide +kernel
theorem dX8_isSpread_0 : decode cX8_isSpread 0 = .ok (.iload_n 0, 1) := by decide +kernel
theorem dX8_isSpread_1 : decode cX8_isSpread 1 = .ok (.ifCond .lt 12, 3) := by decide +kernel
theorem dX8_isSpread_4 : decode cX8_isSpread 4 = .ok (.iload_n 0, 1) := by decide +kernel
theorem dX8_isSpread_5 : decode cX8_isSpread 5 = .ok (.iconst 2, 1) := by decide +kernel
theorem dX8_isSpread_6 : decode cX8_isSpread 6 = .ok (.if_icmp .gt 7, 3) := by decide +kernel
theorem dX8_isSpread_9 : decode cX8_isSpread 9 = .ok (.iconst 1, 1) := by decide +kernel
theorem dX8_isSpread_10 : decode cX8_isSpread 10 = .ok (.goto 4, 3) := by decide +kernel
theorem dX8_isSpread_13 : decode cX8_isSpread 13 = .ok (.iconst 0, 1) := by decide +kernel
theorem dX8_isSpread_14 : decode cX8_isSpread 14 = .ok (.ireturn, 1) := by decide +kernel
theorem dX8_isCoding_0 : decode cX8_isCoding 0 = .ok (.iload_n 0, 1) := by decide +kernel
theorem dX8_isCoding_1 : decode cX8_isCoding 1 = .ok (.ifCond .ne 8, 3) := by decide +kernel
theorem dX8_isCoding_4 : decode cX8_isCoding 4 = .ok (.iload_n 1, 1) := by decide +kernel
theorem dX8_isCoding_5 : decode cX8_isCoding 5 = .ok (.invokestatic 215, 3) := by decide +kernel
theorem dX8_isCoding_8 : decode cX8_isCoding 8 = .ok (.ireturn, 1) := by decide +kernel
theorem dX8_isCoding_9 : decode cX8_isCoding 9 = .ok (.iload_n 0, 1) := by decide +kernel
theorem dX8_isCoding_10 : decode cX8_isCoding 10 = .ok (.iconst 1, 1) := by decide +kernel
theorem dX8_isCoding_11 : decode cX8_isCoding 11 = .ok (.if_icmp .eq 8, 3) := by decide +kernel
theorem dX8_isCoding_14 : decode cX8_isCoding 14 = .ok (.iload_n 0, 1) := by decide +kernel
theorem dX8_isCoding_15 : decode cX8_isCoding 15 = .ok (.iconst 2, 1) := by decide +kernel
theorem dX8_isCoding_16 : decode cX8_isCoding 16 = .ok (.if_icmp .ne 11, 3) := by decide +kernel
theorem dX8_isCoding_19 : decode cX8_isCoding 19 = .ok (.iload_n 1, 1) := by decide +kernel
theorem dX8_isCoding_20 : decode cX8_isCoding 20 = .ok (.ifCond .ne 7, 3) := by decide +kernel
theorem dX8_isCoding_23 : decode cX8_isCoding 23 = .ok (.iconst 1, 1) := by decide +kernel
theorem dX8_isCoding_24 : decode cX8_isCoding 24 = .ok (.goto 4, 3) := by decide +kernel
theorem dX8_isCoding_27 : decode cX8_isCoding 27 = .ok (.iconst 0, 1) := by decide +kernel
theorem dX8_isCoding_28 : decode cX8_isCoding 28 = .ok (.ireturn, 1) := by decide +kernel
theorem dX8_tableOrNull_0 : decode cX8_tableOrNull 0 = .ok (.iload_n 1, 1) := by decide +kernel
theorem dX8_tableOrNull_1 : decode cX8_tableOrNull 1 = .ok (.invokestatic 77, 3) := by decide +kernel
theorem dX8_tableOrNull_4 : decode cX8_tableOrNull 4 = .ok (.ifCond .ne 5, 3) := by decide +kernel
theorem dX8_tableOrNull_7 : decode cX8_tableOrNull 7 = .ok (.aconst_null, 1) := by decide +kernel
theorem dX8_tableOrNull_8 : decode cX8_tableOrNull 8 = .ok (.areturn, 1) := by decide +kernel
theorem dX8_tableOrNull_9 : decode cX8_tableOrNull 9 = .ok (.aload_n 0, 1) := by decide +kernel
theorem dX8_tableOrNull_10 : decode cX8_tableOrNull 10 = .ok (.getfield 21, 3) := by decide +kernel
theorem dX8_tableOrNull_13 : decode cX8_tableOrNull 13 = .ok (.iload_n 1, 1) := by decide +kernel
theorem dX8_tableOrNull_14 : decode cX8_tableOrNull 14 = .ok (.aaload, 1) := by decide +kernel
theorem dX8_tableOrNull_15 : decode cX8_tableOrNull 15 = .ok (.astore_n 2, 1) := by decide +kernel
theorem dX8_tableOrNull_16 : decode cX8_tableOrNull 16 = .ok (.aload_n 2, 1) := by decide +kernel
theorem dX8_tableOrNull_17 : decode cX8_tableOrNull 17 = .ok (.invokevirtual 218, 3) := by decide +kernel
theorem dX8_tableOrNull_20 : decode cX8_tableOrNull 20 = .ok (.ifCond .eq 7, 3) := by decide +kernel
theorem dX8_tableOrNull_23 : decode cX8_tableOrNull 23 = .ok (.aload_n 2, 1) := by decide +kernel
theorem dX8_tableOrNull_24 : decode cX8_tableOrNull 24 = .ok (.goto 4, 3) := by decide +kernel
theorem dX8_tableOrNull_27 : decode cX8_tableOrNull 27 = .ok (.aconst_null, 1) := by decide +kernel
theorem dX8_tableOrNull_28 : decode cX8_tableOrNull 28 = .ok (.areturn, 1) := by decide +kernel
theorem dX8_countTape_0 : decode cX8_countTape 0 = .ok (.aload_n 0, 1) := by decide +kernel
theorem dX8_countTape_1 : decode cX8_countTape 1 = .ok (.getfield 25, 3) := by decide +kernel
theorem dX8_countTape_4 : decode cX8_countTape 4 = .ok (.iconst 0, 1) := by decide +kernel
theorem dX8_countTape_5 : decode cX8_countTape 5 = .ok (.invokestatic 222, 3) := by decide +kernel
theorem dX8_countTape_8 : decode cX8_countTape 8 = .ok (.iconst 0, 1) := by decide +kernel
theorem dX8_countTape_9 : decode cX8_countTape 9 = .ok (.istore_n 1, 1) := by decide +kernel
theorem dX8_countTape_10 : decode cX8_countTape 10 = .ok (.iconst 0, 1) := by decide +kernel
theorem dX8_countTape_11 : decode cX8_countTape 11 = .ok (.istore_n 2, 1) := by decide +kernel
theorem dX8_countTape_12 : decode cX8_countTape 12 = .ok (.iload_n 2, 1) := by decide +kernel
theorem dX8_countTape_13 : decode cX8_countTape 13 = .ok (.aload_n 0, 1) := by decide +kernel
theorem dX8_countTape_14 : decode cX8_countTape 14 = .ok (.getfield 12, 3) := by decide +kernel
theorem dX8_countTape_17 : decode cX8_countTape 17 = .ok (.getfield 70, 3) := by decide +kernel
theorem dX8_countTape_20 : decode cX8_countTape 20 = .ok (.if_icmp .ge 47, 3) := by decide +kernel
theorem dX8_countTape_23 : decode cX8_countTape 23 = .ok (.aload_n 0, 1) := by decide +kernel
theorem dX8_countTape_24 : decode cX8_countTape 24 = .ok (.getfield 12, 3) := by decide +kernel
theorem dX8_countTape_27 : decode cX8_countTape 27 = .ok (.iload_n 2, 1) := by decide +kernel
theorem dX8_countTape_28 : decode cX8_countTape 28 = .ok (.invokevirtual 174, 3) := by decide +kernel
theorem dX8_countTape_31 : decode cX8_countTape 31 = .ok (.istore_n 3, 1) := by decide +kernel
theorem dX8_countTape_32 : decode cX8_countTape 32 = .ok (.iload_n 3, 1) := by decide +kernel
theorem dX8_countTape_33 : decode cX8_countTape 33 = .ok (.invokestatic 110, 3) := by decide +kernel
theorem dX8_countTape_36 : decode cX8_countTape 36 = .ok (.ifCond .eq 25, 3) := by decide +kernel
theorem dX8_countTape_39 : decode cX8_countTape 39 = .ok (.aload_n 0, 1) := by decide +kernel
theorem dX8_countTape_40 : decode cX8_countTape 40 = .ok (.getfield 25, 3) := by decide +kernel
theorem dX8_countTape_43 : decode cX8_countTape 43 = .ok (.iload_n 3, 1) := by decide +kernel
theorem dX8_countTape_44 : decode cX8_countTape 44 = .ok (.iaload, 1) := by decide +kernel
theorem dX8_countTape_45 : decode cX8_countTape 45 = .ok (.ifCond .ne 6, 3) := by decide +kernel
theorem dX8_countTape_48 : decode cX8_countTape 48 = .ok (.iinc 1 1, 3) := by decide +kernel
theorem dX8_countTape_51 : decode cX8_countTape 51 = .ok (.aload_n 0, 1) := by decide +kernel
theorem dX8_countTape_52 : decode cX8_countTape 52 = .ok (.getfield 25, 3) := by decide +kernel
theorem dX8_countTape_55 : decode cX8_countTape 55 = .ok (.iload_n 3, 1) := by decide +kernel
theorem dX8_countTape_56 : decode cX8_countTape 56 = .ok (.dup2, 1) := by decide +kernel
theorem dX8_countTape_57 : decode cX8_countTape 57 = .ok (.iaload, 1) := by decide +kernel
theorem dX8_countTape_58 : decode cX8_countTape 58 = .ok (.iconst 1, 1) := by decide +kernel
theorem dX8_countTape_59 : decode cX8_countTape 59 = .ok (.iadd, 1) := by decide +kernel
theorem dX8_countTape_60 : decode cX8_countTape 60 = .ok (.iastore, 1) := by decide +kernel
theorem dX8_countTape_61 : decode cX8_countTape 61 = .ok (.iinc 2 1, 3) := by decide +kernel
theorem dX8_countTape_64 : decode cX8_countTape 64 = .ok (.goto (-52), 3) := by decide +kernel
theorem dX8_countTape_67 : decode cX8_countTape 67 = .ok (.iload_n 1, 1) := by decide +kernel
theorem dX8_countTape_68 : decode cX8_countTape 68 = .ok (.ireturn, 1) := by decide +kernel
theorem dX8_refusalOfTape_0 : decode cX8_refusalOfTape 0 = .ok (.aload_n 0, 1) := by decide +kernel
theorem dX8_refusalOfTape_1 : decode cX8_refusalOfTape 1 = .ok (.getfield 12, 3) := by decide +kernel
theorem dX8_refusalOfTape_4 : decode cX8_refusalOfTape 4 = .ok (.getfield 70, 3) := by decide +kernel
theorem dX8_refusalOfTape_7 : decode cX8_refusalOfTape 7 = .ok (.sipush 1400, 3) := by decide +kernel
theorem dX8_refusalOfTape_10 : decode cX8_refusalOfTape 10 = .ok (.if_icmp .le 6, 3) := by decide +kernel
theorem dX8_refusalOfTape_13 : decode cX8_refusalOfTape 13 = .ok (.bipush (-2), 2) := by decide +kernel
theorem dX8_refusalOfTape_15 : decode cX8_refusalOfTape 15 = .ok (.ireturn, 1) := by decide +kernel
theorem dX8_refusalOfTape_16 : decode cX8_refusalOfTape 16 = .ok (.iconst 0, 1) := by decide +kernel
theorem dX8_refusalOfTape_17 : decode cX8_refusalOfTape 17 = .ok (.istore_n 2, 1) := by decide +kernel
theorem dX8_refusalOfTape_18 : decode cX8_refusalOfTape 18 = .ok (.iload_n 2, 1) := by decide +kernel
theorem dX8_refusalOfTape_19 : decode cX8_refusalOfTape 19 = .ok (.aload_n 0, 1) := by decide +kernel
theorem dX8_refusalOfTape_20 : decode cX8_refusalOfTape 20 = .ok (.getfield 12, 3) := by decide +kernel
theorem dX8_refusalOfTape_23 : decode cX8_refusalOfTape 23 = .ok (.getfield 70, 3) := by decide +kernel
theorem dX8_refusalOfTape_26 : decode cX8_refusalOfTape 26 = .ok (.if_icmp .ge 27, 3) := by decide +kernel
theorem dX8_refusalOfTape_29 : decode cX8_refusalOfTape 29 = .ok (.aload_n 1, 1) := by decide +kernel
theorem dX8_refusalOfTape_30 : decode cX8_refusalOfTape 30 = .ok (.aload_n 0, 1) := by decide +kernel
theorem dX8_refusalOfTape_31 : decode cX8_refusalOfTape 31 = .ok (.getfield 12, 3) := by decide +kernel
theorem dX8_refusalOfTape_34 : decode cX8_refusalOfTape 34 = .ok (.iload_n 2, 1) := by decide +kernel
theorem dX8_refusalOfTape_35 : decode cX8_refusalOfTape 35 = .ok (.invokevirtual 174, 3) := by decide +kernel
theorem dX8_refusalOfTape_38 : decode cX8_refusalOfTape 38 = .ok (.invokevirtual 113, 3) := by decide +kernel
theorem dX8_refusalOfTape_41 : decode cX8_refusalOfTape 41 = .ok (.ifCond .ne 6, 3) := by decide +kernel
theorem dX8_refusalOfTape_44 : decode cX8_refusalOfTape 44 = .ok (.bipush (-3), 2) := by decide +kernel
theorem dX8_refusalOfTape_46 : decode cX8_refusalOfTape 46 = .ok (.ireturn, 1) := by decide +kernel
theorem dX8_refusalOfTape_47 : decode cX8_refusalOfTape 47 = .ok (.iinc 2 1, 3) := by decide +kernel
theorem dX8_refusalOfTape_50 : decode cX8_refusalOfTape 50 = .ok (.goto (-32), 3) := by decide +kernel
theorem dX8_refusalOfTape_53 : decode cX8_refusalOfTape 53 = .ok (.iconst 0, 1) := by decide +kernel
theorem dX8_refusalOfTape_54 : decode cX8_refusalOfTape 54 = .ok (.ireturn, 1) := by decide +kernel
theorem dX8_layForPlace_0 : decode cX8_layForPlace 0 = .ok (.aload_n 0, 1) := by decide +kernel
theorem dX8_layForPlace_1 : decode cX8_layForPlace 1 = .ok (.iload_n 1, 1) := by decide +kernel
theorem dX8_layForPlace_2 : decode cX8_layForPlace 2 = .ok (.invokevirtual 103, 3) := by decide +kernel
theorem dX8_layForPlace_5 : decode cX8_layForPlace 5 = .ok (.astore 4, 2) := by decide +kernel
theorem dX8_layForPlace_7 : decode cX8_layForPlace 7 = .ok (.aload 4, 2) := by decide +kernel
theorem dX8_layForPlace_9 : decode cX8_layForPlace 9 = .ok (.ifnull 23, 3) := by decide +kernel
theorem dX8_layForPlace_12 : decode cX8_layForPlace 12 = .ok (.iload_n 2, 1) := by decide +kernel
theorem dX8_layForPlace_13 : decode cX8_layForPlace 13 = .ok (.invokestatic 215, 3) := by decide +kernel
theorem dX8_layForPlace_16 : decode cX8_layForPlace 16 = .ok (.ifCond .eq 16, 3) := by decide +kernel
theorem dX8_layForPlace_19 : decode cX8_layForPlace 19 = .ok (.iload_n 3, 1) := by decide +kernel
theorem dX8_layForPlace_20 : decode cX8_layForPlace 20 = .ok (.ifCond .lt 12, 3) := by decide +kernel
theorem dX8_layForPlace_23 : decode cX8_layForPlace 23 = .ok (.iload_n 3, 1) := by decide +kernel
theorem dX8_layForPlace_24 : decode cX8_layForPlace 24 = .ok (.aload 4, 2) := by decide +kernel
theorem dX8_layForPlace_26 : decode cX8_layForPlace 26 = .ok (.invokevirtual 228, 3) := by decide +kernel
theorem dX8_layForPlace_29 : decode cX8_layForPlace 29 = .ok (.if_icmp .lt 5, 3) := by decide +kernel
theorem dX8_layForPlace_32 : decode cX8_layForPlace 32 = .ok (.iconst 0, 1) := by decide +kernel
theorem dX8_layForPlace_33 : decode cX8_layForPlace 33 = .ok (.ireturn, 1) := by decide +kernel
theorem dX8_layForPlace_34 : decode cX8_layForPlace 34 = .ok (.aload_n 0, 1) := by decide +kernel
theorem dX8_layForPlace_35 : decode cX8_layForPlace 35 = .ok (.getfield 40, 3) := by decide +kernel
theorem dX8_layForPlace_38 : decode cX8_layForPlace 38 = .ok (.getfield 92, 3) := by decide +kernel
theorem dX8_layForPlace_41 : decode cX8_layForPlace 41 = .ok (.aload 4, 2) := by decide +kernel
theorem dX8_layForPlace_43 : decode cX8_layForPlace 43 = .ok (.iload_n 2, 1) := by decide +kernel
theorem dX8_layForPlace_44 : decode cX8_layForPlace 44 = .ok (.invokevirtual 231, 3) := by decide +kernel
theorem dX8_layForPlace_47 : decode cX8_layForPlace 47 = .ok (.iconst 1, 1) := by decide +kernel
theorem dX8_layForPlace_48 : decode cX8_layForPlace 48 = .ok (.ireturn, 1) := by decide +kernel
theorem dX8_prepareForState_0 : decode cX8_prepareForState 0 = .ok (.aload_n 0, 1) := by decide +kernel
theorem dX8_prepareForState_1 : decode cX8_prepareForState 1 = .ok (.iload_n 1, 1) := by decide +kernel
theorem dX8_prepareForState_2 : decode cX8_prepareForState 2 = .ok (.invokevirtual 103, 3) := by decide +kernel
theorem dX8_prepareForState_5 : decode cX8_prepareForState 5 = .ok (.astore 5, 2) := by decide +kernel
theorem dX8_prepareForState_7 : decode cX8_prepareForState 7 = .ok (.aload 5, 2) := by decide +kernel
theorem dX8_prepareForState_9 : decode cX8_prepareForState 9 = .ok (.ifnull 11, 3) := by decide +kernel
theorem dX8_prepareForState_12 : decode cX8_prepareForState 12 = .ok (.iload_n 2, 1) := by decide +kernel
theorem dX8_prepareForState_13 : decode cX8_prepareForState 13 = .ok (.iload_n 3, 1) := by decide +kernel
theorem dX8_prepareForState_14 : decode cX8_prepareForState 14 = .ok (.invokestatic 130, 3) := by decide +kernel
theorem dX8_prepareForState_17 : decode cX8_prepareForState 17 = .ok (.ifCond .ne 5, 3) := by decide +kernel
theorem dX8_prepareForState_20 : decode cX8_prepareForState 20 = .ok (.iconst 0, 1) := by decide +kernel
theorem dX8_prepareForState_21 : decode cX8_prepareForState 21 = .ok (.ireturn, 1) := by decide +kernel
theorem dX8_prepareForState_22 : decode cX8_prepareForState 22 = .ok (.aload_n 0, 1) := by decide +kernel
theorem dX8_prepareForState_23 : decode cX8_prepareForState 23 = .ok (.getfield 40, 3) := by decide +kernel
theorem dX8_prepareForState_26 : decode cX8_prepareForState 26 = .ok (.aload 5, 2) := by decide +kernel
theorem dX8_prepareForState_28 : decode cX8_prepareForState 28 = .ok (.iload_n 2, 1) := by decide +kernel
theorem dX8_prepareForState_29 : decode cX8_prepareForState 29 = .ok (.iload_n 3, 1) := by decide +kernel
theorem dX8_prepareForState_30 : decode cX8_prepareForState 30 = .ok (.invokevirtual 138, 3) := by decide +kernel
theorem dX8_prepareForState_33 : decode cX8_prepareForState 33 = .ok (.aload_n 0, 1) := by decide +kernel
theorem dX8_prepareForState_34 : decode cX8_prepareForState 34 = .ok (.getfield 40, 3) := by decide +kernel
theorem dX8_prepareForState_37 : decode cX8_prepareForState 37 = .ok (.iload 4, 2) := by decide +kernel
theorem dX8_prepareForState_39 : decode cX8_prepareForState 39 = .ok (.invokevirtual 235, 3) := by decide +kernel
theorem dX8_prepareForState_42 : decode cX8_prepareForState 42 = .ok (.ireturn, 1) := by decide +kernel
theorem dX9_init_0 : decode cX9_init 0 = .ok (.aload_n 0, 1) := by decide +kernel
theorem dX9_init_1 : decode cX9_init 1 = .ok (.invokespecial 1, 3) := by decide +kernel
theorem dX9_init_4 : decode cX9_init 4 = .ok (.aload_n 0, 1) := by decide +kernel
theorem dX9_init_5 : decode cX9_init 5 = .ok (.sipush 4000, 3) := by decide +kernel
theorem dX9_init_8 : decode cX9_init 8 = .ok (.newarray .int, 2) := by decide +kernel
theorem dX9_init_10 : decode cX9_init 10 = .ok (.putfield 7, 3) := by decide +kernel
theorem dX9_init_13 : decode cX9_init 13 = .ok (.aload_n 0, 1) := by decide +kernel
theorem dX9_init_14 : decode cX9_init 14 = .ok (.sipush 4000, 3) := by decide +kernel
theorem dX9_init_17 : decode cX9_init 17 = .ok (.newarray .int, 2) := by decide +kernel
theorem dX9_init_19 : decode cX9_init 19 = .ok (.putfield 13, 3) := by decide +kernel
theorem dX9_init_22 : decode cX9_init 22 = .ok (.aload_n 0, 1) := by decide +kernel
theorem dX9_init_23 : decode cX9_init 23 = .ok (.bipush 7, 2) := by decide +kernel
theorem dX9_init_25 : decode cX9_init 25 = .ok (.newarray .int, 2) := by decide +kernel
theorem dX9_init_27 : decode cX9_init 27 = .ok (.putfield 16, 3) := by decide +kernel
theorem dX9_init_30 : decode cX9_init 30 = .ok (.aload_n 0, 1) := by decide +kernel
theorem dX9_init_31 : decode cX9_init 31 = .ok (.sipush 1792, 3) := by decide +kernel
theorem dX9_init_34 : decode cX9_init 34 = .ok (.newarray .int, 2) := by decide +kernel
theorem dX9_init_36 : decode cX9_init 36 = .ok (.putfield 19, 3) := by decide +kernel
theorem dX9_init_39 : decode cX9_init 39 = .ok (.aload_n 0, 1) := by decide +kernel
theorem dX9_init_40 : decode cX9_init 40 = .ok (.sipush 1792, 3) := by decide +kernel
theorem dX9_init_43 : decode cX9_init 43 = .ok (.newarray .int, 2) := by decide +kernel
theorem dX9_init_45 : decode cX9_init 45 = .ok (.putfield 22, 3) := by decide +kernel
theorem dX9_init_48 : decode cX9_init 48 = .ok (.aload_n 0, 1) := by decide +kernel
theorem dX9_init_49 : decode cX9_init 49 = .ok (.bipush 21, 2) := by decide +kernel
theorem dX9_init_51 : decode cX9_init 51 = .ok (.newarray .boolean, 2) := by decide +kernel
theorem dX9_init_53 : decode cX9_init 53 = .ok (.putfield 25, 3) := by decide +kernel
theorem dX9_init_56 : decode cX9_init 56 = .ok (.aload_n 0, 1) := by decide +kernel
theorem dX9_init_57 : decode cX9_init 57 = .ok (.ldc 29, 2) := by decide +kernel
theorem dX9_init_59 : decode cX9_init 59 = .ok (.newarray .int, 2) := by decide +kernel
theorem dX9_init_61 : decode cX9_init 61 = .ok (.putfield 30, 3) := by decide +kernel
theorem dX9_init_64 : decode cX9_init 64 = .ok (.aload_n 0, 1) := by decide +kernel
theorem dX9_init_65 : decode cX9_init 65 = .ok (.ldc 29, 2) := by decide +kernel
theorem dX9_init_67 : decode cX9_init 67 = .ok (.newarray .int, 2) := by decide +kernel
theorem dX9_init_69 : decode cX9_init 69 = .ok (.putfield 33, 3) := by decide +kernel
theorem dX9_init_72 : decode cX9_init 72 = .ok (.aload_n 0, 1) := by decide +kernel
theorem dX9_init_73 : decode cX9_init 73 = .ok (.ldc 29, 2) := by decide +kernel
theorem dX9_init_75 : decode cX9_init 75 = .ok (.newarray .int, 2) := by decide +kernel
theorem dX9_init_77 : decode cX9_init 77 = .ok (.putfield 36, 3) := by decide +kernel
theorem dX9_init_80 : decode cX9_init 80 = .ok (.aload_n 0, 1) := by decide +kernel
theorem dX9_init_81 : decode cX9_init 81 = .ok (.sipush 256, 3) := by decide +kernel
theorem dX9_init_84 : decode cX9_init 84 = .ok (.newarray .int, 2) := by decide +kernel
theorem dX9_init_86 : decode cX9_init 86 = .ok (.putfield 39, 3) := by decide +kernel
theorem dX9_init_89 : decode cX9_init 89 = .ok (.aload_n 0, 1) := by decide +kernel
theorem dX9_init_90 : decode cX9_init 90 = .ok (.sipush 256, 3) := by decide +kernel
theorem dX9_init_93 : decode cX9_init 93 = .ok (.newarray .int, 2) := by decide +kernel
theorem dX9_init_95 : decode cX9_init 95 = .ok (.putfield 42, 3) := by decide +kernel
theorem dX9_init_98 : decode cX9_init 98 = .ok (.aload_n 0, 1) := by decide +kernel
theorem dX9_init_99 : decode cX9_init 99 = .ok (.sipush 256, 3) := by decide +kernel
theorem dX9_init_102 : decode cX9_init 102 = .ok (.newarray .int, 2) := by decide +kernel
theorem dX9_init_104 : decode cX9_init 104 = .ok (.putfield 45, 3) := by decide +kernel
theorem dX9_init_107 : decode cX9_init 107 = .ok (.aload_n 0, 1) := by decide +kernel
theorem dX9_init_108 : decode cX9_init 108 = .ok (.bipush 6, 2) := by decide +kernel
theorem dX9_init_110 : decode cX9_init 110 = .ok (.newarray .int, 2) := by decide +kernel
theorem dX9_init_112 : decode cX9_init 112 = .ok (.putfield 48, 3) := by decide +kernel
theorem dX9_init_115 : decode cX9_init 115 = .ok (.aload_n 0, 1) := by decide +kernel
theorem dX9_init_116 : decode cX9_init 116 = .ok (.iconst (-1), 1) := by decide +kernel
theorem dX9_init_117 : decode cX9_init 117 = .ok (.putfield 51, 3) := by decide +kernel
theorem dX9_init_120 : decode cX9_init 120 = .ok (.aload_n 0, 1) := by decide +kernel
theorem dX9_init_121 : decode cX9_init 121 = .ok (.sipush 17000, 3) := by decide +kernel
theorem dX9_init_124 : decode cX9_init 124 = .ok (.newarray .int, 2) := by decide +kernel
theorem dX9_init_126 : decode cX9_init 126 = .ok (.putfield 55, 3) := by decide +kernel
theorem dX9_init_129 : decode cX9_init 129 = .ok (.aload_n 0, 1) := by decide +kernel
theorem dX9_init_130 : decode cX9_init 130 = .ok (.iconst 2, 1) := by decide +kernel
theorem dX9_init_131 : decode cX9_init 131 = .ok (.newarray .int, 2) := by decide +kernel
theorem dX9_init_133 : decode cX9_init 133 = .ok (.putfield 58, 3) := by decide +kernel
theorem dX9_init_136 : decode cX9_init 136 = .ok (.aload_n 0, 1) := by decide +kernel
theorem dX9_init_137 : decode cX9_init 137 = .ok (.bipush 6, 2) := by decide +kernel
theorem dX9_init_139 : decode cX9_init 139 = .ok (.newarray .int, 2) := by decide +kernel
theorem dX9_init_141 : decode cX9_init 141 = .ok (.putfield 61, 3) := by decide +kernel
theorem dX9_init_144 : decode cX9_init 144 = .ok (.aload_n 0, 1) := by decide +kernel
theorem dX9_init_145 : decode cX9_init 145 = .ok (.sipush 1060, 3) := by decide +kernel
theorem dX9_init_148 : decode cX9_init 148 = .ok (.newarray .int, 2) := by decide +kernel
theorem dX9_init_150 : decode cX9_init 150 = .ok (.putfield 64, 3) := by decide +kernel
theorem dX9_init_153 : decode cX9_init 153 = .ok (.aload_n 0, 1) := by decide +kernel
theorem dX9_init_154 : decode cX9_init 154 = .ok (.sipush 1400, 3) := by decide +kernel
theorem dX9_init_157 : decode cX9_init 157 = .ok (.newarray .int, 2) := by decide +kernel
theorem dX9_init_159 : decode cX9_init 159 = .ok (.putfield 67, 3) := by decide +kernel
theorem dX9_init_162 : decode cX9_init 162 = .ok (.return_, 1) := by decide +kernel
theorem dX9_feed_0 : decode cX9_feed 0 = .ok (.aload_n 0, 1) := by decide +kernel
theorem dX9_feed_1 : decode cX9_feed 1 = .ok (.getfield 70, 3) := by decide +kernel
theorem dX9_feed_4 : decode cX9_feed 4 = .ok (.bipush 20, 2) := by decide +kernel
theorem dX9_feed_6 : decode cX9_feed 6 = .ok (.iadd, 1) := by decide +kernel
theorem dX9_feed_7 : decode cX9_feed 7 = .ok (.sipush 4000, 3) := by decide +kernel
theorem dX9_feed_10 : decode cX9_feed 10 = .ok (.if_icmp .le 5, 3) := by decide +kernel
theorem dX9_feed_13 : decode cX9_feed 13 = .ok (.iconst (-1), 1) := by decide +kernel
theorem dX9_feed_14 : decode cX9_feed 14 = .ok (.ireturn, 1) := by decide +kernel
theorem dX9_feed_15 : decode cX9_feed 15 = .ok (.iconst 0, 1) := by decide +kernel
theorem dX9_feed_16 : decode cX9_feed 16 = .ok (.istore 6, 2) := by decide +kernel
theorem dX9_feed_18 : decode cX9_feed 18 = .ok (.iload 6, 2) := by decide +kernel
theorem dX9_feed_20 : decode cX9_feed 20 = .ok (.bipush 20, 2) := by decide +kernel
theorem dX9_feed_22 : decode cX9_feed 22 = .ok (.if_icmp .ge 86, 3) := by decide +kernel
theorem dX9_feed_25 : decode cX9_feed 25 = .ok (.iload 6, 2) := by decide +kernel
theorem dX9_feed_27 : decode cX9_feed 27 = .ok (.iconst 4, 1) := by decide +kernel
theorem dX9_feed_28 : decode cX9_feed 28 = .ok (.if_icmp .ge 7, 3) := by decide +kernel
theorem dX9_feed_31 : decode cX9_feed 31 = .ok (.iload_n 1, 1) := by decide +kernel
theorem dX9_feed_32 : decode cX9_feed 32 = .ok (.goto 39, 3) := by decide +kernel
theorem dX9_feed_35 : decode cX9_feed 35 = .ok (.iload 6, 2) := by decide +kernel
theorem dX9_feed_37 : decode cX9_feed 37 = .ok (.bipush 8, 2) := by decide +kernel
theorem dX9_feed_39 : decode cX9_feed 39 = .ok (.if_icmp .ge 7, 3) := by decide +kernel
theorem dX9_feed_42 : decode cX9_feed 42 = .ok (.iload_n 2, 1) := by decide +kernel
theorem dX9_feed_43 : decode cX9_feed 43 = .ok (.goto 28, 3) := by decide +kernel
theorem dX9_feed_46 : decode cX9_feed 46 = .ok (.iload 6, 2) := by decide +kernel
theorem dX9_feed_48 : decode cX9_feed 48 = .ok (.bipush 12, 2) := by decide +kernel
theorem dX9_feed_50 : decode cX9_feed 50 = .ok (.if_icmp .ge 7, 3) := by decide +kernel
theorem dX9_feed_53 : decode cX9_feed 53 = .ok (.iload_n 3, 1) := by decide +kernel
theorem dX9_feed_54 : decode cX9_feed 54 = .ok (.goto 17, 3) := by decide +kernel
theorem dX9_feed_57 : decode cX9_feed 57 = .ok (.iload 6, 2) := by decide +kernel
theorem dX9_feed_59 : decode cX9_feed 59 = .ok (.bipush 16, 2) := by decide +kernel
theorem dX9_feed_61 : decode cX9_feed 61 = .ok (.if_icmp .ge 8, 3) := by decide +kernel
theorem dX9_feed_64 : decode cX9_feed 64 = .ok (.iload 4, 2) := by decide +kernel
theorem dX9_feed_66 : decode cX9_feed 66 = .ok (.goto 5, 3) := by decide +kernel
theorem dX9_feed_69 : decode cX9_feed 69 = .ok (.iload 5, 2) := by decide +kernel
theorem dX9_feed_71 : decode cX9_feed 71 = .ok (.istore 7, 2) := by decide +kernel
theorem dX9_feed_73 : decode cX9_feed 73 = .ok (.aload_n 0, 1) := by decide +kernel
theorem dX9_feed_74 : decode cX9_feed 74 = .ok (.getfield 7, 3) := by decide +kernel
theorem dX9_feed_77 : decode cX9_feed 77 = .ok (.aload_n 0, 1) := by decide +kernel
theorem dX9_feed_78 : decode cX9_feed 78 = .ok (.getfield 70, 3) := by decide +kernel
theorem dX9_feed_81 : decode cX9_feed 81 = .ok (.iload 6, 2) := by decide +kernel
theorem dX9_feed_83 : decode cX9_feed 83 = .ok (.iadd, 1) := by decide +kernel
theorem dX9_feed_84 : decode cX9_feed 84 = .ok (.iload 7, 2) := by decide +kernel
theorem dX9_feed_86 : decode cX9_feed 86 = .ok (.bipush 24, 2) := by decide +kernel
theorem dX9_feed_88 : decode cX9_feed 88 = .ok (.bipush 8, 2) := by decide +kernel
theorem dX9_feed_90 : decode cX9_feed 90 = .ok (.iload 6, 2) := by decide +kernel
theorem dX9_feed_92 : decode cX9_feed 92 = .ok (.iconst 4, 1) := by decide +kernel
theorem dX9_feed_93 : decode cX9_feed 93 = .ok (.irem, 1) := by decide +kernel
theorem dX9_feed_94 : decode cX9_feed 94 = .ok (.imul, 1) := by decide +kernel
theorem dX9_feed_95 : decode cX9_feed 95 = .ok (.isub, 1) := by decide +kernel
theorem dX9_feed_96 : decode cX9_feed 96 = .ok (.ishr, 1) := by decide +kernel
theorem dX9_feed_97 : decode cX9_feed 97 = .ok (.sipush 255, 3) := by decide +kernel
theorem dX9_feed_100 : decode cX9_feed 100 = .ok (.iand, 1) := by decide +kernel
theorem dX9_feed_101 : decode cX9_feed 101 = .ok (.iastore, 1) := by decide +kernel
theorem dX9_feed_102 : decode cX9_feed 102 = .ok (.iinc 6 1, 3) := by decide +kernel
theorem dX9_feed_105 : decode cX9_feed 105 = .ok (.goto (-87), 3) := by decide +kernel
theorem dX9_feed_108 : decode cX9_feed 108 = .ok (.aload_n 0, 1) := by decide +kernel
theorem dX9_feed_109 : decode cX9_feed 109 = .ok (.dup, 1) := by decide +kernel
theorem dX9_feed_110 : decode cX9_feed 110 = .ok (.getfield 70, 3) := by decide +kernel
theorem dX9_feed_113 : decode cX9_feed 113 = .ok (.bipush 20, 2) := by decide +kernel
theorem dX9_feed_115 : decode cX9_feed 115 = .ok (.iadd, 1) := by decide +kernel
theorem dX9_feed_116 : decode cX9_feed 116 = .ok (.putfield 70, 3) := by decide +kernel
theorem dX9_feed_119 : decode cX9_feed 119 = .ok (.aload_n 0, 1) := by decide +kernel
theorem dX9_feed_120 : decode cX9_feed 120 = .ok (.getfield 70, 3) := by decide +kernel
theorem dX9_feed_123 : decode cX9_feed 123 = .ok (.ireturn, 1) := by decide +kernel
theorem dX9_end_0 : decode cX9_end 0 = .ok (.iload_n 1, 1) := by decide +kernel
theorem dX9_end_1 : decode cX9_end 1 = .ok (.ifCond .lt 11, 3) := by decide +kernel
theorem dX9_end_4 : decode cX9_end 4 = .ok (.iload_n 1, 1) := by decide +kernel
theorem dX9_end_5 : decode cX9_end 5 = .ok (.aload_n 0, 1) := by decide +kernel
theorem dX9_end_6 : decode cX9_end 6 = .ok (.getfield 70, 3) := by decide +kernel
theorem dX9_end_9 : decode cX9_end 9 = .ok (.if_icmp .le 5, 3) := by decide +kernel
theorem dX9_end_12 : decode cX9_end 12 = .ok (.iconst (-1), 1) := by decide +kernel
theorem dX9_end_13 : decode cX9_end 13 = .ok (.ireturn, 1) := by decide +kernel
theorem dX9_end_14 : decode cX9_end 14 = .ok (.aload_n 0, 1) := by decide +kernel
theorem dX9_end_15 : decode cX9_end 15 = .ok (.iload_n 1, 1) := by decide +kernel
theorem dX9_end_16 : decode cX9_end 16 = .ok (.putfield 70, 3) := by decide +kernel
theorem dX9_end_19 : decode cX9_end 19 = .ok (.iload_n 1, 1) := by decide +kernel
theorem dX9_end_20 : decode cX9_end 20 = .ok (.ireturn, 1) := by decide +kernel
theorem dX9_take_0 : decode cX9_take 0 = .ok (.iconst 0, 1) := by decide +kernel
theorem dX9_take_1 : decode cX9_take 1 = .ok (.istore_n 1, 1) := by decide +kernel
theorem dX9_take_2 : decode cX9_take 2 = .ok (.iload_n 1, 1) := by decide +kernel
theorem dX9_take_3 : decode cX9_take 3 = .ok (.aload_n 0, 1) := by decide +kernel
theorem dX9_take_4 : decode cX9_take 4 = .ok (.getfield 73, 3) := by decide +kernel
theorem dX9_take_7 : decode cX9_take 7 = .ok (.if_icmp .ge 21, 3) := by decide +kernel
theorem dX9_take_10 : decode cX9_take 10 = .ok (.aload_n 0, 1) := by decide +kernel
theorem dX9_take_11 : decode cX9_take 11 = .ok (.getfield 7, 3) := by decide +kernel
theorem dX9_take_14 : decode cX9_take 14 = .ok (.iload_n 1, 1) := by decide +kernel
theorem dX9_take_15 : decode cX9_take 15 = .ok (.aload_n 0, 1) := by decide +kernel
theorem dX9_take_16 : decode cX9_take 16 = .ok (.getfield 13, 3) := by decide +kernel
theorem dX9_take_19 : decode cX9_take 19 = .ok (.iload_n 1, 1) := by decide +kernel
theorem dX9_take_20 : decode cX9_take 20 = .ok (.iaload, 1) := by decide +kernel
theorem dX9_take_21 : decode cX9_take 21 = .ok (.iastore, 1) := by decide +kernel
theorem dX9_take_22 : decode cX9_take 22 = .ok (.iinc 1 1, 3) := by decide +kernel
theorem dX9_take_25 : decode cX9_take 25 = .ok (.goto (-23), 3) := by decide +kernel
theorem dX9_take_28 : decode cX9_take 28 = .ok (.aload_n 0, 1) := by decide +kernel
theorem dX9_take_29 : decode cX9_take 29 = .ok (.aload_n 0, 1) := by decide +kernel
theorem dX9_take_30 : decode cX9_take 30 = .ok (.getfield 73, 3) := by decide +kernel
theorem dX9_take_33 : decode cX9_take 33 = .ok (.putfield 70, 3) := by decide +kernel
theorem dX9_take_36 : decode cX9_take 36 = .ok (.aload_n 0, 1) := by decide +kernel
theorem dX9_take_37 : decode cX9_take 37 = .ok (.getfield 70, 3) := by decide +kernel
theorem dX9_take_40 : decode cX9_take 40 = .ok (.ireturn, 1) := by decide +kernel
theorem dX9_written_0 : decode cX9_written 0 = .ok (.iload_n 1, 1) := by decide +kernel
theorem dX9_written_1 : decode cX9_written 1 = .ok (.ifCond .lt 11, 3) := by decide +kernel
theorem dX9_written_4 : decode cX9_written 4 = .ok (.iload_n 1, 1) := by decide +kernel
theorem dX9_written_5 : decode cX9_written 5 = .ok (.aload_n 0, 1) := by decide +kernel
theorem dX9_written_6 : decode cX9_written 6 = .ok (.getfield 73, 3) := by decide +kernel
theorem dX9_written_9 : decode cX9_written 9 = .ok (.if_icmp .lt 7, 3) := by decide +kernel
theorem dX9_written_12 : decode cX9_written 12 = .ok (.iconst (-1), 1) := by decide +kernel
theorem dX9_written_13 : decode cX9_written 13 = .ok (.goto 9, 3) := by decide +kernel
theorem dX9_written_16 : decode cX9_written 16 = .ok (.aload_n 0, 1) := by decide +kernel
theorem dX9_written_17 : decode cX9_written 17 = .ok (.getfield 13, 3) := by decide +kernel
theorem dX9_written_20 : decode cX9_written 20 = .ok (.iload_n 1, 1) := by decide +kernel
theorem dX9_written_21 : decode cX9_written 21 = .ok (.iaload, 1) := by decide +kernel
theorem dX9_written_22 : decode cX9_written 22 = .ok (.ireturn, 1) := by decide +kernel
theorem dX9_isTable_0 : decode cX9_isTable 0 = .ok (.iload_n 1, 1) := by decide +kernel
theorem dX9_isTable_1 : decode cX9_isTable 1 = .ok (.ifCond .lt 22, 3) := by decide +kernel
theorem dX9_isTable_4 : decode cX9_isTable 4 = .ok (.iload_n 1, 1) := by decide +kernel
theorem dX9_isTable_5 : decode cX9_isTable 5 = .ok (.bipush 6, 2) := by decide +kernel
theorem dX9_isTable_7 : decode cX9_isTable 7 = .ok (.if_icmp .ge 16, 3) := by decide +kernel
theorem dX9_isTable_10 : decode cX9_isTable 10 = .ok (.aload_n 0, 1) := by decide +kernel
theorem dX9_isTable_11 : decode cX9_isTable 11 = .ok (.getfield 16, 3) := by decide +kernel
theorem dX9_isTable_14 : decode cX9_isTable 14 = .ok (.iload_n 1, 1) := by decide +kernel
theorem dX9_isTable_15 : decode cX9_isTable 15 = .ok (.iaload, 1) := by decide +kernel
theorem dX9_isTable_16 : decode cX9_isTable 16 = .ok (.ifCond .le 7, 3) := by decide +kernel
theorem dX9_isTable_19 : decode cX9_isTable 19 = .ok (.iconst 1, 1) := by decide +kernel
theorem dX9_isTable_20 : decode cX9_isTable 20 = .ok (.goto 4, 3) := by decide +kernel
theorem dX9_isTable_23 : decode cX9_isTable 23 = .ok (.iconst 0, 1) := by decide +kernel
theorem dX9_isTable_24 : decode cX9_isTable 24 = .ok (.ireturn, 1) := by decide +kernel
theorem dX9_lack_0 : decode cX9_lack 0 = .ok (.aload_n 0, 1) := by decide +kernel
theorem dX9_lack_1 : decode cX9_lack 1 = .ok (.getfield 39, 3) := by decide +kernel
theorem dX9_lack_4 : decode cX9_lack 4 = .ok (.iload_n 2, 1) := by decide +kernel
theorem dX9_lack_5 : decode cX9_lack 5 = .ok (.iaload, 1) := by decide +kernel
theorem dX9_lack_6 : decode cX9_lack 6 = .ok (.aload_n 0, 1) := by decide +kernel
theorem dX9_lack_7 : decode cX9_lack 7 = .ok (.getfield 16, 3) := by decide +kernel
theorem dX9_lack_10 : decode cX9_lack 10 = .ok (.iload_n 1, 1) := by decide +kernel
theorem dX9_lack_11 : decode cX9_lack 11 = .ok (.iaload, 1) := by decide +kernel
theorem dX9_lack_12 : decode cX9_lack 12 = .ok (.ishl, 1) := by decide +kernel
theorem dX9_lack_13 : decode cX9_lack 13 = .ok (.aload_n 0, 1) := by decide +kernel
theorem dX9_lack_14 : decode cX9_lack 14 = .ok (.getfield 19, 3) := by decide +kernel
theorem dX9_lack_17 : decode cX9_lack 17 = .ok (.sipush 256, 3) := by decide +kernel
theorem dX9_lack_20 : decode cX9_lack 20 = .ok (.iload_n 1, 1) := by decide +kernel
theorem dX9_lack_21 : decode cX9_lack 21 = .ok (.imul, 1) := by decide +kernel
theorem dX9_lack_22 : decode cX9_lack 22 = .ok (.iload_n 2, 1) := by decide +kernel
theorem dX9_lack_23 : decode cX9_lack 23 = .ok (.iadd, 1) := by decide +kernel
theorem dX9_lack_24 : decode cX9_lack 24 = .ok (.iaload, 1) := by decide +kernel
theorem dX9_lack_25 : decode cX9_lack 25 = .ok (.iload_n 3, 1) := by decide +kernel
theorem dX9_lack_26 : decode cX9_lack 26 = .ok (.imul, 1) := by decide +kernel
theorem dX9_lack_27 : decode cX9_lack 27 = .ok (.isub, 1) := by decide +kernel
theorem dX9_lack_28 : decode cX9_lack 28 = .ok (.ireturn, 1) := by decide +kernel
theorem dX9_learn_0 : decode cX9_learn 0 = .ok (.iload_n 1, 1) := by decide +kernel
theorem dX9_learn_1 : decode cX9_learn 1 = .ok (.ifCond .lt 19, 3) := by decide +kernel
theorem dX9_learn_4 : decode cX9_learn 4 = .ok (.iload_n 1, 1) := by decide +kernel
theorem dX9_learn_5 : decode cX9_learn 5 = .ok (.iconst 5, 1) := by decide +kernel
theorem dX9_learn_6 : decode cX9_learn 6 = .ok (.if_icmp .gt 14, 3) := by decide +kernel
theorem dX9_learn_9 : decode cX9_learn 9 = .ok (.iload_n 2, 1) := by decide +kernel
theorem dX9_learn_10 : decode cX9_learn 10 = .ok (.iconst 1, 1) := by decide +kernel
theorem dX9_learn_11 : decode cX9_learn 11 = .ok (.if_icmp .lt 9, 3) := by decide +kernel
theorem dX9_learn_14 : decode cX9_learn 14 = .ok (.iload_n 2, 1) := by decide +kernel
theorem dX9_learn_15 : decode cX9_learn 15 = .ok (.bipush 12, 2) := by decide +kernel
theorem dX9_learn_17 : decode cX9_learn 17 = .ok (.if_icmp .le 5, 3) := by decide +kernel
theorem dX9_learn_20 : decode cX9_learn 20 = .ok (.iconst (-1), 1) := by decide +kernel
theorem dX9_learn_21 : decode cX9_learn 21 = .ok (.ireturn, 1) := by decide +kernel
theorem dX9_learn_22 : decode cX9_learn 22 = .ok (.aload_n 0, 1) := by decide +kernel
theorem dX9_learn_23 : decode cX9_learn 23 = .ok (.getfield 70, 3) := by decide +kernel
theorem dX9_learn_26 : decode cX9_learn 26 = .ok (.ifCond .ne 6, 3) := by decide +kernel
theorem dX9_learn_29 : decode cX9_learn 29 = .ok (.bipush (-2), 2) := by decide +kernel
theorem dX9_learn_31 : decode cX9_learn 31 = .ok (.ireturn, 1) := by decide +kernel
theorem dX9_learn_32 : decode cX9_learn 32 = .ok (.iconst 0, 1) := by decide +kernel
theorem dX9_learn_33 : decode cX9_learn 33 = .ok (.istore_n 3, 1) := by decide +kernel
theorem dX9_learn_34 : decode cX9_learn 34 = .ok (.iload_n 3, 1) := by decide +kernel
theorem dX9_learn_35 : decode cX9_learn 35 = .ok (.sipush 256, 3) := by decide +kernel
theorem dX9_learn_38 : decode cX9_learn 38 = .ok (.if_icmp .ge 16, 3) := by decide +kernel
theorem dX9_learn_41 : decode cX9_learn 41 = .ok (.aload_n 0, 1) := by decide +kernel
theorem dX9_learn_42 : decode cX9_learn 42 = .ok (.getfield 39, 3) := by decide +kernel
theorem dX9_learn_45 : decode cX9_learn 45 = .ok (.iload_n 3, 1) := by decide +kernel
theorem dX9_learn_46 : decode cX9_learn 46 = .ok (.iconst 0, 1) := by decide +kernel
theorem dX9_learn_47 : decode cX9_learn 47 = .ok (.iastore, 1) := by decide +kernel
theorem dX9_learn_48 : decode cX9_learn 48 = .ok (.iinc 3 1, 3) := by decide +kernel
theorem dX9_learn_51 : decode cX9_learn 51 = .ok (.goto (-17), 3) := by decide +kernel
theorem dX9_learn_54 : decode cX9_learn 54 = .ok (.iconst 0, 1) := by decide +kernel
theorem dX9_learn_55 : decode cX9_learn 55 = .ok (.istore_n 3, 1) := by decide +kernel
theorem dX9_learn_56 : decode cX9_learn 56 = .ok (.iload_n 3, 1) := by decide +kernel
theorem dX9_learn_57 : decode cX9_learn 57 = .ok (.aload_n 0, 1) := by decide +kernel
theorem dX9_learn_58 : decode cX9_learn 58 = .ok (.getfield 70, 3) := by decide +kernel
theorem dX9_learn_61 : decode cX9_learn 61 = .ok (.if_icmp .ge 24, 3) := by decide +kernel
theorem dX9_learn_64 : decode cX9_learn 64 = .ok (.aload_n 0, 1) := by decide +kernel
theorem dX9_learn_65 : decode cX9_learn 65 = .ok (.getfield 39, 3) := by decide +kernel
theorem dX9_learn_68 : decode cX9_learn 68 = .ok (.aload_n 0, 1) := by decide +kernel
theorem dX9_learn_69 : decode cX9_learn 69 = .ok (.getfield 7, 3) := by decide +kernel
theorem dX9_learn_72 : decode cX9_learn 72 = .ok (.iload_n 3, 1) := by decide +kernel
theorem dX9_learn_73 : decode cX9_learn 73 = .ok (.iaload, 1) := by decide +kernel
theorem dX9_learn_74 : decode cX9_learn 74 = .ok (.dup2, 1) := by decide +kernel
theorem dX9_learn_75 : decode cX9_learn 75 = .ok (.iaload, 1) := by decide +kernel
theorem dX9_learn_76 : decode cX9_learn 76 = .ok (.iconst 1, 1) := by decide +kernel
theorem dX9_learn_77 : decode cX9_learn 77 = .ok (.iadd, 1) := by decide +kernel
theorem dX9_learn_78 : decode cX9_learn 78 = .ok (.iastore, 1) := by decide +kernel
theorem dX9_learn_79 : decode cX9_learn 79 = .ok (.iinc 3 1, 3) := by decide +kernel
theorem dX9_learn_82 : decode cX9_learn 82 = .ok (.goto (-26), 3) := by decide +kernel
theorem dX9_learn_85 : decode cX9_learn 85 = .ok (.iconst 0, 1) := by decide +kernel
theorem dX9_learn_86 : decode cX9_learn 86 = .ok (.istore_n 3, 1) := by decide +kernel
theorem dX9_learn_87 : decode cX9_learn 87 = .ok (.iconst 0, 1) := by decide +kernel
theorem dX9_learn_88 : decode cX9_learn 88 = .ok (.istore 4, 2) := by decide +kernel
theorem dX9_learn_90 : decode cX9_learn 90 = .ok (.iload 4, 2) := by decide +kernel
theorem dX9_learn_92 : decode cX9_learn 92 = .ok (.sipush 256, 3) := by decide +kernel
theorem dX9_learn_95 : decode cX9_learn 95 = .ok (.if_icmp .ge 27, 3) := by decide +kernel
theorem dX9_learn_98 : decode cX9_learn 98 = .ok (.iload_n 3, 1) := by decide +kernel
theorem dX9_learn_99 : decode cX9_learn 99 = .ok (.aload_n 0, 1) := by decide +kernel
theorem dX9_learn_100 : decode cX9_learn 100 = .ok (.getfield 39, 3) := by decide +kernel
theorem dX9_learn_103 : decode cX9_learn 103 = .ok (.iload 4, 2) := by decide +kernel
theorem dX9_learn_105 : decode cX9_learn 105 = .ok (.iaload, 1) := by decide +kernel
theorem dX9_learn_106 : decode cX9_learn 106 = .ok (.ifCond .le 7, 3) := by decide +kernel
theorem dX9_learn_109 : decode cX9_learn 109 = .ok (.iconst 1, 1) := by decide +kernel
theorem dX9_learn_110 : decode cX9_learn 110 = .ok (.goto 4, 3) := by decide +kernel
theorem dX9_learn_113 : decode cX9_learn 113 = .ok (.iconst 0, 1) := by decide +kernel
theorem dX9_learn_114 : decode cX9_learn 114 = .ok (.iadd, 1) := by decide +kernel
theorem dX9_learn_115 : decode cX9_learn 115 = .ok (.istore_n 3, 1) := by decide +kernel
theorem dX9_learn_116 : decode cX9_learn 116 = .ok (.iinc 4 1, 3) := by decide +kernel
theorem dX9_learn_119 : decode cX9_learn 119 = .ok (.goto (-29), 3) := by decide +kernel
theorem dX9_learn_122 : decode cX9_learn 122 = .ok (.iconst 1, 1) := by decide +kernel
theorem dX9_learn_123 : decode cX9_learn 123 = .ok (.iload_n 2, 1) := by decide +kernel
theorem dX9_learn_124 : decode cX9_learn 124 = .ok (.ishl, 1) := by decide +kernel
theorem dX9_learn_125 : decode cX9_learn 125 = .ok (.istore 4, 2) := by decide +kernel
theorem dX9_learn_127 : decode cX9_learn 127 = .ok (.iload_n 3, 1) := by decide +kernel
theorem dX9_learn_128 : decode cX9_learn 128 = .ok (.iload 4, 2) := by decide +kernel
theorem dX9_learn_130 : decode cX9_learn 130 = .ok (.if_icmp .le 6, 3) := by decide +kernel
theorem dX9_learn_133 : decode cX9_learn 133 = .ok (.bipush (-3), 2) := by decide +kernel
theorem dX9_learn_135 : decode cX9_learn 135 = .ok (.ireturn, 1) := by decide +kernel
theorem dX9_learn_136 : decode cX9_learn 136 = .ok (.aload_n 0, 1) := by decide +kernel
theorem dX9_learn_137 : decode cX9_learn 137 = .ok (.getfield 16, 3) := by decide +kernel
theorem dX9_learn_140 : decode cX9_learn 140 = .ok (.iload_n 1, 1) := by decide +kernel
theorem dX9_learn_141 : decode cX9_learn 141 = .ok (.iload_n 2, 1) := by decide +kernel
theorem dX9_learn_142 : decode cX9_learn 142 = .ok (.iastore, 1) := by decide +kernel
theorem dX9_learn_143 : decode cX9_learn 143 = .ok (.iconst 0, 1) := by decide +kernel
theorem dX9_learn_144 : decode cX9_learn 144 = .ok (.istore 5, 2) := by decide +kernel
theorem dX9_learn_146 : decode cX9_learn 146 = .ok (.iconst 0, 1) := by decide +kernel
theorem dX9_learn_147 : decode cX9_learn 147 = .ok (.istore 6, 2) := by decide +kernel
theorem dX9_learn_149 : decode cX9_learn 149 = .ok (.iload 6, 2) := by decide +kernel
theorem dX9_learn_151 : decode cX9_learn 151 = .ok (.sipush 256, 3) := by decide +kernel
theorem dX9_learn_154 : decode cX9_learn 154 = .ok (.if_icmp .ge 66, 3) := by decide +kernel
theorem dX9_learn_157 : decode cX9_learn 157 = .ok (.aload_n 0, 1) := by decide +kernel
theorem dX9_learn_158 : decode cX9_learn 158 = .ok (.getfield 39, 3) := by decide +kernel
theorem dX9_learn_161 : decode cX9_learn 161 = .ok (.iload 6, 2) := by decide +kernel
theorem dX9_learn_163 : decode cX9_learn 163 = .ok (.iaload, 1) := by decide +kernel
theorem dX9_learn_164 : decode cX9_learn 164 = .ok (.iload 4, 2) := by decide +kernel
theorem dX9_learn_166 : decode cX9_learn 166 = .ok (.imul, 1) := by decide +kernel
theorem dX9_learn_167 : decode cX9_learn 167 = .ok (.aload_n 0, 1) := by decide +kernel
theorem dX9_learn_168 : decode cX9_learn 168 = .ok (.getfield 70, 3) := by decide +kernel
theorem dX9_learn_171 : decode cX9_learn 171 = .ok (.idiv, 1) := by decide +kernel
theorem dX9_learn_172 : decode cX9_learn 172 = .ok (.istore 7, 2) := by decide +kernel
theorem dX9_learn_174 : decode cX9_learn 174 = .ok (.aload_n 0, 1) := by decide +kernel
theorem dX9_learn_175 : decode cX9_learn 175 = .ok (.getfield 39, 3) := by decide +kernel
theorem dX9_learn_178 : decode cX9_learn 178 = .ok (.iload 6, 2) := by decide +kernel
theorem dX9_learn_180 : decode cX9_learn 180 = .ok (.iaload, 1) := by decide +kernel
theorem dX9_learn_181 : decode cX9_learn 181 = .ok (.ifCond .le 11, 3) := by decide +kernel
theorem dX9_learn_184 : decode cX9_learn 184 = .ok (.iload 7, 2) := by decide +kernel
theorem dX9_learn_186 : decode cX9_learn 186 = .ok (.ifCond .ne 6, 3) := by decide +kernel
theorem dX9_learn_189 : decode cX9_learn 189 = .ok (.iconst 1, 1) := by decide +kernel
theorem dX9_learn_190 : decode cX9_learn 190 = .ok (.istore 7, 2) := by decide +kernel
theorem dX9_learn_192 : decode cX9_learn 192 = .ok (.aload_n 0, 1) := by decide +kernel
theorem dX9_learn_193 : decode cX9_learn 193 = .ok (.getfield 19, 3) := by decide +kernel
theorem dX9_learn_196 : decode cX9_learn 196 = .ok (.sipush 256, 3) := by decide +kernel
theorem dX9_learn_199 : decode cX9_learn 199 = .ok (.iload_n 1, 1) := by decide +kernel
theorem dX9_learn_200 : decode cX9_learn 200 = .ok (.imul, 1) := by decide +kernel
theorem dX9_learn_201 : decode cX9_learn 201 = .ok (.iload 6, 2) := by decide +kernel
theorem dX9_learn_203 : decode cX9_learn 203 = .ok (.iadd, 1) := by decide +kernel
theorem dX9_learn_204 : decode cX9_learn 204 = .ok (.iload 7, 2) := by decide +kernel
theorem dX9_learn_206 : decode cX9_learn 206 = .ok (.iastore, 1) := by decide +kernel
theorem dX9_learn_207 : decode cX9_learn 207 = .ok (.iload 5, 2) := by decide +kernel
theorem dX9_learn_209 : decode cX9_learn 209 = .ok (.iload 7, 2) := by decide +kernel
theorem dX9_learn_211 : decode cX9_learn 211 = .ok (.iadd, 1) := by decide +kernel
theorem dX9_learn_212 : decode cX9_learn 212 = .ok (.istore 5, 2) := by decide +kernel
theorem dX9_learn_214 : decode cX9_learn 214 = .ok (.iinc 6 1, 3) := by decide +kernel
theorem dX9_learn_217 : decode cX9_learn 217 = .ok (.goto (-68), 3) := by decide +kernel
theorem dX9_learn_220 : decode cX9_learn 220 = .ok (.iload 5, 2) := by decide +kernel
theorem dX9_learn_222 : decode cX9_learn 222 = .ok (.iload 4, 2) := by decide +kernel
theorem dX9_learn_224 : decode cX9_learn 224 = .ok (.if_icmp .ge 90, 3) := by decide +kernel
theorem dX9_learn_227 : decode cX9_learn 227 = .ok (.iconst (-1), 1) := by decide +kernel
theorem dX9_learn_228 : decode cX9_learn 228 = .ok (.istore 6, 2) := by decide +kernel
theorem dX9_learn_230 : decode cX9_learn 230 = .ok (.iconst 0, 1) := by decide +kernel
theorem dX9_learn_231 : decode cX9_learn 231 = .ok (.istore 7, 2) := by decide +kernel
theorem dX9_learn_233 : decode cX9_learn 233 = .ok (.iload 7, 2) := by decide +kernel
theorem dX9_learn_235 : decode cX9_learn 235 = .ok (.sipush 256, 3) := by decide +kernel
theorem dX9_learn_238 : decode cX9_learn 238 = .ok (.if_icmp .ge 53, 3) := by decide +kernel
theorem dX9_learn_241 : decode cX9_learn 241 = .ok (.aload_n 0, 1) := by decide +kernel
theorem dX9_learn_242 : decode cX9_learn 242 = .ok (.getfield 39, 3) := by decide +kernel
theorem dX9_learn_245 : decode cX9_learn 245 = .ok (.iload 7, 2) := by decide +kernel
theorem dX9_learn_247 : decode cX9_learn 247 = .ok (.iaload, 1) := by decide +kernel
theorem dX9_learn_248 : decode cX9_learn 248 = .ok (.ifCond .le 37, 3) := by decide +kernel
theorem dX9_learn_251 : decode cX9_learn 251 = .ok (.iload 6, 2) := by decide +kernel
theorem dX9_learn_253 : decode cX9_learn 253 = .ok (.ifCond .lt 28, 3) := by decide +kernel
theorem dX9_learn_256 : decode cX9_learn 256 = .ok (.aload_n 0, 1) := by decide +kernel
theorem dX9_learn_257 : decode cX9_learn 257 = .ok (.iload_n 1, 1) := by decide +kernel
theorem dX9_learn_258 : decode cX9_learn 258 = .ok (.iload 7, 2) := by decide +kernel
theorem dX9_learn_260 : decode cX9_learn 260 = .ok (.aload_n 0, 1) := by decide +kernel
theorem dX9_learn_261 : decode cX9_learn 261 = .ok (.getfield 70, 3) := by decide +kernel
theorem dX9_learn_264 : decode cX9_learn 264 = .ok (.invokevirtual 76, 3) := by decide +kernel
theorem dX9_learn_267 : decode cX9_learn 267 = .ok (.aload_n 0, 1) := by decide +kernel
theorem dX9_learn_268 : decode cX9_learn 268 = .ok (.iload_n 1, 1) := by decide +kernel
theorem dX9_learn_269 : decode cX9_learn 269 = .ok (.iload 6, 2) := by decide +kernel
theorem dX9_learn_271 : decode cX9_learn 271 = .ok (.aload_n 0, 1) := by decide +kernel
theorem dX9_learn_272 : decode cX9_learn 272 = .ok (.getfield 70, 3) := by decide +kernel
theorem dX9_learn_275 : decode cX9_learn 275 = .ok (.invokevirtual 76, 3) := by decide +kernel
theorem dX9_learn_278 : decode cX9_learn 278 = .ok (.if_icmp .le 7, 3) := by decide +kernel
theorem dX9_learn_281 : decode cX9_learn 281 = .ok (.iload 7, 2) := by decide +kernel
theorem dX9_learn_283 : decode cX9_learn 283 = .ok (.istore 6, 2) := by decide +kernel
theorem dX9_learn_285 : decode cX9_learn 285 = .ok (.iinc 7 1, 3) := by decide +kernel
theorem dX9_learn_288 : decode cX9_learn 288 = .ok (.goto (-55), 3) := by decide +kernel
theorem dX9_learn_291 : decode cX9_learn 291 = .ok (.aload_n 0, 1) := by decide +kernel
theorem dX9_learn_292 : decode cX9_learn 292 = .ok (.getfield 19, 3) := by decide +kernel
theorem dX9_learn_295 : decode cX9_learn 295 = .ok (.sipush 256, 3) := by decide +kernel
theorem dX9_learn_298 : decode cX9_learn 298 = .ok (.iload_n 1, 1) := by decide +kernel
theorem dX9_learn_299 : decode cX9_learn 299 = .ok (.imul, 1) := by decide +kernel
theorem dX9_learn_300 : decode cX9_learn 300 = .ok (.iload 6, 2) := by decide +kernel
theorem dX9_learn_302 : decode cX9_learn 302 = .ok (.iadd, 1) := by decide +kernel
theorem dX9_learn_303 : decode cX9_learn 303 = .ok (.dup2, 1) := by decide +kernel
theorem dX9_learn_304 : decode cX9_learn 304 = .ok (.iaload, 1) := by decide +kernel
theorem dX9_learn_305 : decode cX9_learn 305 = .ok (.iconst 1, 1) := by decide +kernel
theorem dX9_learn_306 : decode cX9_learn 306 = .ok (.iadd, 1) := by decide +kernel
theorem dX9_learn_307 : decode cX9_learn 307 = .ok (.iastore, 1) := by decide +kernel
theorem dX9_learn_308 : decode cX9_learn 308 = .ok (.iinc 5 1, 3) := by decide +kernel
theorem dX9_learn_311 : decode cX9_learn 311 = .ok (.goto (-91), 3) := by decide +kernel
theorem dX9_learn_314 : decode cX9_learn 314 = .ok (.iload 5, 2) := by decide +kernel
theorem dX9_learn_316 : decode cX9_learn 316 = .ok (.iload 4, 2) := by decide +kernel
theorem dX9_learn_318 : decode cX9_learn 318 = .ok (.if_icmp .le 96, 3) := by decide +kernel
theorem dX9_learn_321 : decode cX9_learn 321 = .ok (.iconst (-1), 1) := by decide +kernel
theorem dX9_learn_322 : decode cX9_learn 322 = .ok (.istore 6, 2) := by decide +kernel
theorem dX9_learn_324 : decode cX9_learn 324 = .ok (.sipush 255, 3) := by decide +kernel
theorem dX9_learn_327 : decode cX9_learn 327 = .ok (.istore 7, 2) := by decide +kernel
theorem dX9_learn_329 : decode cX9_learn 329 = .ok (.iload 7, 2) := by decide +kernel
theorem dX9_learn_331 : decode cX9_learn 331 = .ok (.ifCond .lt 60, 3) := by decide +kernel
theorem dX9_learn_334 : decode cX9_learn 334 = .ok (.aload_n 0, 1) := by decide +kernel
theorem dX9_learn_335 : decode cX9_learn 335 = .ok (.getfield 19, 3) := by decide +kernel
theorem dX9_learn_338 : decode cX9_learn 338 = .ok (.sipush 256, 3) := by decide +kernel
theorem dX9_learn_341 : decode cX9_learn 341 = .ok (.iload_n 1, 1) := by decide +kernel
theorem dX9_learn_342 : decode cX9_learn 342 = .ok (.imul, 1) := by decide +kernel
theorem dX9_learn_343 : decode cX9_learn 343 = .ok (.iload 7, 2) := by decide +kernel
theorem dX9_learn_345 : decode cX9_learn 345 = .ok (.iadd, 1) := by decide +kernel
theorem dX9_learn_346 : decode cX9_learn 346 = .ok (.iaload, 1) := by decide +kernel
theorem dX9_learn_347 : decode cX9_learn 347 = .ok (.iconst 1, 1) := by decide +kernel
theorem dX9_learn_348 : decode cX9_learn 348 = .ok (.if_icmp .le 37, 3) := by decide +kernel
theorem dX9_learn_351 : decode cX9_learn 351 = .ok (.iload 6, 2) := by decide +kernel
theorem dX9_learn_353 : decode cX9_learn 353 = .ok (.ifCond .lt 28, 3) := by decide +kernel
theorem dX9_learn_356 : decode cX9_learn 356 = .ok (.aload_n 0, 1) := by decide +kernel
theorem dX9_learn_357 : decode cX9_learn 357 = .ok (.iload_n 1, 1) := by decide +kernel
theorem dX9_learn_358 : decode cX9_learn 358 = .ok (.iload 7, 2) := by decide +kernel
theorem dX9_learn_360 : decode cX9_learn 360 = .ok (.aload_n 0, 1) := by decide +kernel
theorem dX9_learn_361 : decode cX9_learn 361 = .ok (.getfield 70, 3) := by decide +kernel
theorem dX9_learn_364 : decode cX9_learn 364 = .ok (.invokevirtual 76, 3) := by decide +kernel
theorem dX9_learn_367 : decode cX9_learn 367 = .ok (.aload_n 0, 1) := by decide +kernel
theorem dX9_learn_368 : decode cX9_learn 368 = .ok (.iload_n 1, 1) := by decide +kernel
theorem dX9_learn_369 : decode cX9_learn 369 = .ok (.iload 6, 2) := by decide +kernel
theorem dX9_learn_371 : decode cX9_learn 371 = .ok (.aload_n 0, 1) := by decide +kernel
theorem dX9_learn_372 : decode cX9_learn 372 = .ok (.getfield 70, 3) := by decide +kernel
theorem dX9_learn_375 : decode cX9_learn 375 = .ok (.invokevirtual 76, 3) := by decide +kernel
theorem dX9_learn_378 : decode cX9_learn 378 = .ok (.if_icmp .ge 7, 3) := by decide +kernel
theorem dX9_learn_381 : decode cX9_learn 381 = .ok (.iload 7, 2) := by decide +kernel
theorem dX9_learn_383 : decode cX9_learn 383 = .ok (.istore 6, 2) := by decide +kernel
theorem dX9_learn_385 : decode cX9_learn 385 = .ok (.iinc 7 (-1), 3) := by decide +kernel
theorem dX9_learn_388 : decode cX9_learn 388 = .ok (.goto (-59), 3) := by decide +kernel
theorem dX9_learn_391 : decode cX9_learn 391 = .ok (.aload_n 0, 1) := by decide +kernel
theorem dX9_learn_392 : decode cX9_learn 392 = .ok (.getfield 19, 3) := by decide +kernel
theorem dX9_learn_395 : decode cX9_learn 395 = .ok (.sipush 256, 3) := by decide +kernel
theorem dX9_learn_398 : decode cX9_learn 398 = .ok (.iload_n 1, 1) := by decide +kernel
theorem dX9_learn_399 : decode cX9_learn 399 = .ok (.imul, 1) := by decide +kernel
theorem dX9_learn_400 : decode cX9_learn 400 = .ok (.iload 6, 2) := by decide +kernel
theorem dX9_learn_402 : decode cX9_learn 402 = .ok (.iadd, 1) := by decide +kernel
theorem dX9_learn_403 : decode cX9_learn 403 = .ok (.dup2, 1) := by decide +kernel
theorem dX9_learn_404 : decode cX9_learn 404 = .ok (.iaload, 1) := by decide +kernel
theorem dX9_learn_405 : decode cX9_learn 405 = .ok (.iconst 1, 1) := by decide +kernel
theorem dX9_learn_406 : decode cX9_learn 406 = .ok (.isub, 1) := by decide +kernel
theorem dX9_learn_407 : decode cX9_learn 407 = .ok (.iastore, 1) := by decide +kernel
theorem dX9_learn_408 : decode cX9_learn 408 = .ok (.iinc 5 (-1), 3) := by decide +kernel
theorem dX9_learn_411 : decode cX9_learn 411 = .ok (.goto (-97), 3) := by decide +kernel
theorem dX9_learn_414 : decode cX9_learn 414 = .ok (.aload_n 0, 1) := by decide +kernel
theorem dX9_learn_415 : decode cX9_learn 415 = .ok (.iload_n 1, 1) := by decide +kernel
theorem dX9_learn_416 : decode cX9_learn 416 = .ok (.invokevirtual 80, 3) := by decide +kernel
theorem dX9_learn_419 : decode cX9_learn 419 = .ok (.iload_n 3, 1) := by decide +kernel
theorem dX9_learn_420 : decode cX9_learn 420 = .ok (.ireturn, 1) := by decide +kernel
theorem dX9_begin_0 : decode cX9_begin 0 = .ok (.iconst 0, 1) := by decide +kernel
theorem dX9_begin_1 : decode cX9_begin 1 = .ok (.istore_n 2, 1) := by decide +kernel
theorem dX9_begin_2 : decode cX9_begin 2 = .ok (.iconst 0, 1) := by decide +kernel
