theorem dX0_init_0 : decode cX0_init 0 = .ok (.aload_n 0, 1) := by decide +kernel
theorem dX0_init_1 : decode cX0_init 1 = .ok (.invokespecial 3, 3) := by decide +kernel
theorem dX0_init_4 : decode cX0_init 4 = .ok (.aload_n 0, 1) := by decide +kernel
theorem dX0_init_5 : decode cX0_init 5 = .ok (.new 9, 3) := by decide +kernel
theorem dX0_init_8 : decode cX0_init 8 = .ok (.dup, 1) := by decide +kernel
theorem dX0_init_9 : decode cX0_init 9 = .ok (.invokespecial 11, 3) := by decide +kernel
theorem dX0_init_12 : decode cX0_init 12 = .ok (.putfield 12, 3) := by decide +kernel
theorem dX0_init_15 : decode cX0_init 15 = .ok (.aload_n 0, 1) := by decide +kernel
theorem dX0_init_16 : decode cX0_init 16 = .ok (.iconst 0, 1) := by decide +kernel
theorem dX0_init_17 : decode cX0_init 17 = .ok (.putfield 18, 3) := by decide +kernel
theorem dX0_init_20 : decode cX0_init 20 = .ok (.aload_n 0, 1) := by decide +kernel
theorem dX0_init_21 : decode cX0_init 21 = .ok (.iconst 0, 1) := by decide +kernel
theorem dX0_init_22 : decode cX0_init 22 = .ok (.putfield 22, 3) := by decide +kernel
theorem dX0_init_25 : decode cX0_init 25 = .ok (.aload_n 0, 1) := by decide +kernel
theorem dX0_init_26 : decode cX0_init 26 = .ok (.iconst 1, 1) := by decide +kernel
theorem dX0_init_27 : decode cX0_init 27 = .ok (.putfield 25, 3) := by decide +kernel
theorem dX0_init_30 : decode cX0_init 30 = .ok (.aload_n 0, 1) := by decide +kernel
theorem dX0_init_31 : decode cX0_init 31 = .ok (.iconst 1, 1) := by decide +kernel
theorem dX0_init_32 : decode cX0_init 32 = .ok (.putfield 28, 3) := by decide +kernel
theorem dX0_init_35 : decode cX0_init 35 = .ok (.aload_n 0, 1) := by decide +kernel
theorem dX0_init_36 : decode cX0_init 36 = .ok (.iconst 0, 1) := by decide +kernel
theorem dX0_init_37 : decode cX0_init 37 = .ok (.putfield 31, 3) := by decide +kernel
theorem dX0_init_40 : decode cX0_init 40 = .ok (.aload_n 0, 1) := by decide +kernel
theorem dX0_init_41 : decode cX0_init 41 = .ok (.iconst 0, 1) := by decide +kernel
theorem dX0_init_42 : decode cX0_init 42 = .ok (.putfield 34, 3) := by decide +kernel
theorem dX0_init_45 : decode cX0_init 45 = .ok (.aload_n 0, 1) := by decide +kernel
theorem dX0_init_46 : decode cX0_init 46 = .ok (.iconst 0, 1) := by decide +kernel
theorem dX0_init_47 : decode cX0_init 47 = .ok (.putfield 37, 3) := by decide +kernel
theorem dX0_init_50 : decode cX0_init 50 = .ok (.return_, 1) := by decide +kernel
theorem dX0_prepare_0 : decode cX0_prepare 0 = .ok (.aload_n 0, 1) := by decide +kernel
theorem dX0_prepare_1 : decode cX0_prepare 1 = .ok (.getfield 12, 3) := by decide +kernel
theorem dX0_prepare_4 : decode cX0_prepare 4 = .ok (.aload_n 1, 1) := by decide +kernel
theorem dX0_prepare_5 : decode cX0_prepare 5 = .ok (.iload_n 3, 1) := by decide +kernel
theorem dX0_prepare_6 : decode cX0_prepare 6 = .ok (.invokevirtual 40, 3) := by decide +kernel
theorem dX0_prepare_9 : decode cX0_prepare 9 = .ok (.aload_n 0, 1) := by decide +kernel
theorem dX0_prepare_10 : decode cX0_prepare 10 = .ok (.iload_n 2, 1) := by decide +kernel
theorem dX0_prepare_11 : decode cX0_prepare 11 = .ok (.putfield 18, 3) := by decide +kernel
theorem dX0_prepare_14 : decode cX0_prepare 14 = .ok (.aload_n 0, 1) := by decide +kernel
theorem dX0_prepare_15 : decode cX0_prepare 15 = .ok (.aload_n 1, 1) := by decide +kernel
theorem dX0_prepare_16 : decode cX0_prepare 16 = .ok (.getfield 44, 3) := by decide +kernel
theorem dX0_prepare_19 : decode cX0_prepare 19 = .ok (.putfield 22, 3) := by decide +kernel
theorem dX0_prepare_22 : decode cX0_prepare 22 = .ok (.aload_n 0, 1) := by decide +kernel
theorem dX0_prepare_23 : decode cX0_prepare 23 = .ok (.aload_n 0, 1) := by decide +kernel
theorem dX0_prepare_24 : decode cX0_prepare 24 = .ok (.invokevirtual 47, 3) := by decide +kernel
theorem dX0_prepare_27 : decode cX0_prepare 27 = .ok (.ifCond .eq 12, 3) := by decide +kernel
theorem dX0_prepare_30 : decode cX0_prepare 30 = .ok (.iconst 1, 1) := by decide +kernel
theorem dX0_prepare_31 : decode cX0_prepare 31 = .ok (.aload_n 0, 1) := by decide +kernel
theorem dX0_prepare_32 : decode cX0_prepare 32 = .ok (.getfield 22, 3) := by decide +kernel
theorem dX0_prepare_35 : decode cX0_prepare 35 = .ok (.ishl, 1) := by decide +kernel
theorem dX0_prepare_36 : decode cX0_prepare 36 = .ok (.goto 5, 3) := by decide +kernel
theorem dX0_prepare_39 : decode cX0_prepare 39 = .ok (.ldc 51, 2) := by decide +kernel
theorem dX0_prepare_41 : decode cX0_prepare 41 = .ok (.putfield 25, 3) := by decide +kernel
theorem dX0_prepare_44 : decode cX0_prepare 44 = .ok (.aload_n 0, 1) := by decide +kernel
theorem dX0_prepare_45 : decode cX0_prepare 45 = .ok (.aload_n 0, 1) := by decide +kernel
theorem dX0_prepare_46 : decode cX0_prepare 46 = .ok (.invokevirtual 47, 3) := by decide +kernel
theorem dX0_prepare_49 : decode cX0_prepare 49 = .ok (.ifCond .eq 7, 3) := by decide +kernel
theorem dX0_prepare_52 : decode cX0_prepare 52 = .ok (.iconst 1, 1) := by decide +kernel
theorem dX0_prepare_53 : decode cX0_prepare 53 = .ok (.goto 5, 3) := by decide +kernel
theorem dX0_prepare_56 : decode cX0_prepare 56 = .ok (.bipush 8, 2) := by decide +kernel
theorem dX0_prepare_58 : decode cX0_prepare 58 = .ok (.putfield 28, 3) := by decide +kernel
theorem dX0_prepare_61 : decode cX0_prepare 61 = .ok (.return_, 1) := by decide +kernel
theorem dX0_isByTable_0 : decode cX0_isByTable 0 = .ok (.aload_n 0, 1) := by decide +kernel
theorem dX0_isByTable_1 : decode cX0_isByTable 1 = .ok (.getfield 18, 3) := by decide +kernel
theorem dX0_isByTable_4 : decode cX0_isByTable 4 = .ok (.ifCond .ne 7, 3) := by decide +kernel
theorem dX0_isByTable_7 : decode cX0_isByTable 7 = .ok (.iconst 1, 1) := by decide +kernel
theorem dX0_isByTable_8 : decode cX0_isByTable 8 = .ok (.goto 4, 3) := by decide +kernel
theorem dX0_isByTable_11 : decode cX0_isByTable 11 = .ok (.iconst 0, 1) := by decide +kernel
theorem dX0_isByTable_12 : decode cX0_isByTable 12 = .ok (.ireturn, 1) := by decide +kernel
theorem dX0_stateCount_0 : decode cX0_stateCount 0 = .ok (.aload_n 0, 1) := by decide +kernel
theorem dX0_stateCount_1 : decode cX0_stateCount 1 = .ok (.getfield 18, 3) := by decide +kernel
theorem dX0_stateCount_4 : decode cX0_stateCount 4 = .ok (.iconst 2, 1) := by decide +kernel
theorem dX0_stateCount_5 : decode cX0_stateCount 5 = .ok (.if_icmp .ne 7, 3) := by decide +kernel
theorem dX0_stateCount_8 : decode cX0_stateCount 8 = .ok (.iconst 2, 1) := by decide +kernel
theorem dX0_stateCount_9 : decode cX0_stateCount 9 = .ok (.goto 4, 3) := by decide +kernel
theorem dX0_stateCount_12 : decode cX0_stateCount 12 = .ok (.iconst 1, 1) := by decide +kernel
theorem dX0_stateCount_13 : decode cX0_stateCount 13 = .ok (.ireturn, 1) := by decide +kernel
theorem dX0_stateBytes_0 : decode cX0_stateBytes 0 = .ok (.aload_n 0, 1) := by decide +kernel
theorem dX0_stateBytes_1 : decode cX0_stateBytes 1 = .ok (.invokevirtual 47, 3) := by decide +kernel
theorem dX0_stateBytes_4 : decode cX0_stateBytes 4 = .ok (.ifCond .eq 7, 3) := by decide +kernel
theorem dX0_stateBytes_7 : decode cX0_stateBytes 7 = .ok (.iconst 2, 1) := by decide +kernel
theorem dX0_stateBytes_8 : decode cX0_stateBytes 8 = .ok (.goto 4, 3) := by decide +kernel
theorem dX0_stateBytes_11 : decode cX0_stateBytes 11 = .ok (.iconst 4, 1) := by decide +kernel
theorem dX0_stateBytes_12 : decode cX0_stateBytes 12 = .ok (.ireturn, 1) := by decide +kernel
theorem dX0_stateBase_0 : decode cX0_stateBase 0 = .ok (.aload_n 0, 1) := by decide +kernel
theorem dX0_stateBase_1 : decode cX0_stateBase 1 = .ok (.invokevirtual 47, 3) := by decide +kernel
theorem dX0_stateBase_4 : decode cX0_stateBase 4 = .ok (.ifCond .eq 10, 3) := by decide +kernel
theorem dX0_stateBase_7 : decode cX0_stateBase 7 = .ok (.aload_n 0, 1) := by decide +kernel
theorem dX0_stateBase_8 : decode cX0_stateBase 8 = .ok (.getfield 25, 3) := by decide +kernel
theorem dX0_stateBase_11 : decode cX0_stateBase 11 = .ok (.goto 4, 3) := by decide +kernel
theorem dX0_stateBase_14 : decode cX0_stateBase 14 = .ok (.iconst 0, 1) := by decide +kernel
theorem dX0_stateBase_15 : decode cX0_stateBase 15 = .ok (.ireturn, 1) := by decide +kernel
theorem dX0_turnOf_0 : decode cX0_turnOf 0 = .ok (.aload_n 0, 1) := by decide +kernel
theorem dX0_turnOf_1 : decode cX0_turnOf 1 = .ok (.getfield 18, 3) := by decide +kernel
theorem dX0_turnOf_4 : decode cX0_turnOf 4 = .ok (.iconst 2, 1) := by decide +kernel
theorem dX0_turnOf_5 : decode cX0_turnOf 5 = .ok (.if_icmp .ne 9, 3) := by decide +kernel
theorem dX0_turnOf_8 : decode cX0_turnOf 8 = .ok (.iload_n 1, 1) := by decide +kernel
theorem dX0_turnOf_9 : decode cX0_turnOf 9 = .ok (.iconst 1, 1) := by decide +kernel
theorem dX0_turnOf_10 : decode cX0_turnOf 10 = .ok (.iand, 1) := by decide +kernel
theorem dX0_turnOf_11 : decode cX0_turnOf 11 = .ok (.goto 4, 3) := by decide +kernel
theorem dX0_turnOf_14 : decode cX0_turnOf 14 = .ok (.iconst 0, 1) := by decide +kernel
theorem dX0_turnOf_15 : decode cX0_turnOf 15 = .ok (.ireturn, 1) := by decide +kernel
theorem dX0_isState_0 : decode cX0_isState 0 = .ok (.iload_n 1, 1) := by decide +kernel
theorem dX0_isState_1 : decode cX0_isState 1 = .ok (.aload_n 0, 1) := by decide +kernel
theorem dX0_isState_2 : decode cX0_isState 2 = .ok (.getfield 25, 3) := by decide +kernel
theorem dX0_isState_5 : decode cX0_isState 5 = .ok (.if_icmp .lt 24, 3) := by decide +kernel
theorem dX0_isState_8 : decode cX0_isState 8 = .ok (.aload_n 0, 1) := by decide +kernel
theorem dX0_isState_9 : decode cX0_isState 9 = .ok (.invokevirtual 47, 3) := by decide +kernel
theorem dX0_isState_12 : decode cX0_isState 12 = .ok (.ifCond .eq 13, 3) := by decide +kernel
theorem dX0_isState_15 : decode cX0_isState 15 = .ok (.iload_n 1, 1) := by decide +kernel
theorem dX0_isState_16 : decode cX0_isState 16 = .ok (.iconst 2, 1) := by decide +kernel
theorem dX0_isState_17 : decode cX0_isState 17 = .ok (.aload_n 0, 1) := by decide +kernel
theorem dX0_isState_18 : decode cX0_isState 18 = .ok (.getfield 25, 3) := by decide +kernel
theorem dX0_isState_21 : decode cX0_isState 21 = .ok (.imul, 1) := by decide +kernel
theorem dX0_isState_22 : decode cX0_isState 22 = .ok (.if_icmp .ge 7, 3) := by decide +kernel
theorem dX0_isState_25 : decode cX0_isState 25 = .ok (.iconst 1, 1) := by decide +kernel
theorem dX0_isState_26 : decode cX0_isState 26 = .ok (.goto 4, 3) := by decide +kernel
theorem dX0_isState_29 : decode cX0_isState 29 = .ok (.iconst 0, 1) := by decide +kernel
theorem dX0_isState_30 : decode cX0_isState 30 = .ok (.ireturn, 1) := by decide +kernel
theorem dX0_advance_0 : decode cX0_advance 0 = .ok (.aload_n 0, 1) := by decide +kernel
theorem dX0_advance_1 : decode cX0_advance 1 = .ok (.getfield 12, 3) := by decide +kernel
theorem dX0_advance_4 : decode cX0_advance 4 = .ok (.iload_n 2, 1) := by decide +kernel
theorem dX0_advance_5 : decode cX0_advance 5 = .ok (.invokevirtual 52, 3) := by decide +kernel
theorem dX0_advance_8 : decode cX0_advance 8 = .ok (.i2l, 1) := by decide +kernel
theorem dX0_advance_9 : decode cX0_advance 9 = .ok (.lstore_n 3, 1) := by decide +kernel
theorem dX0_advance_10 : decode cX0_advance 10 = .ok (.aload_n 0, 1) := by decide +kernel
theorem dX0_advance_11 : decode cX0_advance 11 = .ok (.invokevirtual 47, 3) := by decide +kernel
theorem dX0_advance_14 : decode cX0_advance 14 = .ok (.ifCond .eq 11, 3) := by decide +kernel
theorem dX0_advance_17 : decode cX0_advance 17 = .ok (.ldc2_w 56, 3) := by decide +kernel
theorem dX0_advance_20 : decode cX0_advance 20 = .ok (.lload_n 3, 1) := by decide +kernel
theorem dX0_advance_21 : decode cX0_advance 21 = .ok (.lmul, 1) := by decide +kernel
theorem dX0_advance_22 : decode cX0_advance 22 = .ok (.goto 12, 3) := by decide +kernel
theorem dX0_advance_25 : decode cX0_advance 25 = .ok (.lload_n 3, 1) := by decide +kernel
theorem dX0_advance_26 : decode cX0_advance 26 = .ok (.bipush 31, 2) := by decide +kernel
theorem dX0_advance_28 : decode cX0_advance 28 = .ok (.aload_n 0, 1) := by decide +kernel
theorem dX0_advance_29 : decode cX0_advance 29 = .ok (.getfield 22, 3) := by decide +kernel
theorem dX0_advance_32 : decode cX0_advance 32 = .ok (.isub, 1) := by decide +kernel
theorem dX0_advance_33 : decode cX0_advance 33 = .ok (.lshl, 1) := by decide +kernel
theorem dX0_advance_34 : decode cX0_advance 34 = .ok (.lstore 5, 2) := by decide +kernel
theorem dX0_advance_36 : decode cX0_advance 36 = .ok (.iconst 0, 1) := by decide +kernel
theorem dX0_advance_37 : decode cX0_advance 37 = .ok (.istore 7, 2) := by decide +kernel
theorem dX0_advance_39 : decode cX0_advance 39 = .ok (.iconst 0, 1) := by decide +kernel
theorem dX0_advance_40 : decode cX0_advance 40 = .ok (.istore 8, 2) := by decide +kernel
theorem dX0_advance_42 : decode cX0_advance 42 = .ok (.iload 8, 2) := by decide +kernel
theorem dX0_advance_44 : decode cX0_advance 44 = .ok (.bipush 12, 2) := by decide +kernel
theorem dX0_advance_46 : decode cX0_advance 46 = .ok (.if_icmp .ge 28, 3) := by decide +kernel
theorem dX0_advance_49 : decode cX0_advance 49 = .ok (.iload_n 1, 1) := by decide +kernel
theorem dX0_advance_50 : decode cX0_advance 50 = .ok (.iload 7, 2) := by decide +kernel
theorem dX0_advance_52 : decode cX0_advance 52 = .ok (.aload_n 0, 1) := by decide +kernel
theorem dX0_advance_53 : decode cX0_advance 53 = .ok (.getfield 28, 3) := by decide +kernel
theorem dX0_advance_56 : decode cX0_advance 56 = .ok (.imul, 1) := by decide +kernel
theorem dX0_advance_57 : decode cX0_advance 57 = .ok (.ishr, 1) := by decide +kernel
theorem dX0_advance_58 : decode cX0_advance 58 = .ok (.i2l, 1) := by decide +kernel
theorem dX0_advance_59 : decode cX0_advance 59 = .ok (.lload 5, 2) := by decide +kernel
theorem dX0_advance_61 : decode cX0_advance 61 = .ok (.lcmp, 1) := by decide +kernel
theorem dX0_advance_62 : decode cX0_advance 62 = .ok (.ifCond .lt 12, 3) := by decide +kernel
theorem dX0_advance_65 : decode cX0_advance 65 = .ok (.iinc 7 1, 3) := by decide +kernel
theorem dX0_advance_68 : decode cX0_advance 68 = .ok (.iinc 8 1, 3) := by decide +kernel
theorem dX0_advance_71 : decode cX0_advance 71 = .ok (.goto (-29), 3) := by decide +kernel
theorem dX0_advance_74 : decode cX0_advance 74 = .ok (.aload_n 0, 1) := by decide +kernel
theorem dX0_advance_75 : decode cX0_advance 75 = .ok (.iload 7, 2) := by decide +kernel
theorem dX0_advance_77 : decode cX0_advance 77 = .ok (.putfield 34, 3) := by decide +kernel
theorem dX0_advance_80 : decode cX0_advance 80 = .ok (.aload_n 0, 1) := by decide +kernel
theorem dX0_advance_81 : decode cX0_advance 81 = .ok (.iload_n 1, 1) := by decide +kernel
theorem dX0_advance_82 : decode cX0_advance 82 = .ok (.iconst 1, 1) := by decide +kernel
theorem dX0_advance_83 : decode cX0_advance 83 = .ok (.iload 7, 2) := by decide +kernel
theorem dX0_advance_85 : decode cX0_advance 85 = .ok (.aload_n 0, 1) := by decide +kernel
theorem dX0_advance_86 : decode cX0_advance 86 = .ok (.getfield 28, 3) := by decide +kernel
theorem dX0_advance_89 : decode cX0_advance 89 = .ok (.imul, 1) := by decide +kernel
theorem dX0_advance_90 : decode cX0_advance 90 = .ok (.ishl, 1) := by decide +kernel
theorem dX0_advance_91 : decode cX0_advance 91 = .ok (.iconst 1, 1) := by decide +kernel
theorem dX0_advance_92 : decode cX0_advance 92 = .ok (.isub, 1) := by decide +kernel
theorem dX0_advance_93 : decode cX0_advance 93 = .ok (.iand, 1) := by decide +kernel
theorem dX0_advance_94 : decode cX0_advance 94 = .ok (.putfield 37, 3) := by decide +kernel
theorem dX0_advance_97 : decode cX0_advance 97 = .ok (.iload_n 1, 1) := by decide +kernel
theorem dX0_advance_98 : decode cX0_advance 98 = .ok (.iload 7, 2) := by decide +kernel
theorem dX0_advance_100 : decode cX0_advance 100 = .ok (.aload_n 0, 1) := by decide +kernel
theorem dX0_advance_101 : decode cX0_advance 101 = .ok (.getfield 28, 3) := by decide +kernel
theorem dX0_advance_104 : decode cX0_advance 104 = .ok (.imul, 1) := by decide +kernel
theorem dX0_advance_105 : decode cX0_advance 105 = .ok (.ishr, 1) := by decide +kernel
theorem dX0_advance_106 : decode cX0_advance 106 = .ok (.istore 8, 2) := by decide +kernel
theorem dX0_advance_108 : decode cX0_advance 108 = .ok (.aload_n 0, 1) := by decide +kernel
theorem dX0_advance_109 : decode cX0_advance 109 = .ok (.aload_n 0, 1) := by decide +kernel
theorem dX0_advance_110 : decode cX0_advance 110 = .ok (.invokevirtual 47, 3) := by decide +kernel
theorem dX0_advance_113 : decode cX0_advance 113 = .ok (.ifCond .eq 21, 3) := by decide +kernel
theorem dX0_advance_116 : decode cX0_advance 116 = .ok (.aload_n 0, 1) := by decide +kernel
theorem dX0_advance_117 : decode cX0_advance 117 = .ok (.getfield 25, 3) := by decide +kernel
theorem dX0_advance_120 : decode cX0_advance 120 = .ok (.aload_n 0, 1) := by decide +kernel
theorem dX0_advance_121 : decode cX0_advance 121 = .ok (.getfield 12, 3) := by decide +kernel
theorem dX0_advance_124 : decode cX0_advance 124 = .ok (.iload_n 2, 1) := by decide +kernel
theorem dX0_advance_125 : decode cX0_advance 125 = .ok (.iload 8, 2) := by decide +kernel
theorem dX0_advance_127 : decode cX0_advance 127 = .ok (.invokevirtual 58, 3) := by decide +kernel
theorem dX0_advance_130 : decode cX0_advance 130 = .ok (.iadd, 1) := by decide +kernel
theorem dX0_advance_131 : decode cX0_advance 131 = .ok (.goto 10, 3) := by decide +kernel
theorem dX0_advance_134 : decode cX0_advance 134 = .ok (.aload_n 0, 1) := by decide +kernel
theorem dX0_advance_135 : decode cX0_advance 135 = .ok (.iload 8, 2) := by decide +kernel
theorem dX0_advance_137 : decode cX0_advance 137 = .ok (.iload_n 2, 1) := by decide +kernel
theorem dX0_advance_138 : decode cX0_advance 138 = .ok (.invokevirtual 62, 3) := by decide +kernel
theorem dX0_advance_141 : decode cX0_advance 141 = .ok (.putfield 31, 3) := by decide +kernel
theorem dX0_advance_144 : decode cX0_advance 144 = .ok (.return_, 1) := by decide +kernel
theorem dX0_divided_0 : decode cX0_divided 0 = .ok (.aload_n 0, 1) := by decide +kernel
theorem dX0_divided_1 : decode cX0_divided 1 = .ok (.getfield 12, 3) := by decide +kernel
theorem dX0_divided_4 : decode cX0_divided 4 = .ok (.iload_n 2, 1) := by decide +kernel
theorem dX0_divided_5 : decode cX0_divided 5 = .ok (.invokevirtual 52, 3) := by decide +kernel
theorem dX0_divided_8 : decode cX0_divided 8 = .ok (.istore_n 3, 1) := by decide +kernel
theorem dX0_divided_9 : decode cX0_divided 9 = .ok (.iload_n 3, 1) := by decide +kernel
theorem dX0_divided_10 : decode cX0_divided 10 = .ok (.iconst 1, 1) := by decide +kernel
theorem dX0_divided_11 : decode cX0_divided 11 = .ok (.if_icmp .ge 8, 3) := by decide +kernel
theorem dX0_divided_14 : decode cX0_divided 14 = .ok (.aload_n 0, 1) := by decide +kernel
theorem dX0_divided_15 : decode cX0_divided 15 = .ok (.getfield 25, 3) := by decide +kernel
theorem dX0_divided_18 : decode cX0_divided 18 = .ok (.ireturn, 1) := by decide +kernel
theorem dX0_divided_19 : decode cX0_divided 19 = .ok (.iload_n 1, 1) := by decide +kernel
theorem dX0_divided_20 : decode cX0_divided 20 = .ok (.iload_n 3, 1) := by decide +kernel
theorem dX0_divided_21 : decode cX0_divided 21 = .ok (.idiv, 1) := by decide +kernel
theorem dX0_divided_22 : decode cX0_divided 22 = .ok (.aload_n 0, 1) := by decide +kernel
theorem dX0_divided_23 : decode cX0_divided 23 = .ok (.getfield 22, 3) := by decide +kernel
theorem dX0_divided_26 : decode cX0_divided 26 = .ok (.ishl, 1) := by decide +kernel
theorem dX0_divided_27 : decode cX0_divided 27 = .ok (.iload_n 1, 1) := by decide +kernel
theorem dX0_divided_28 : decode cX0_divided 28 = .ok (.iload_n 3, 1) := by decide +kernel
theorem dX0_divided_29 : decode cX0_divided 29 = .ok (.irem, 1) := by decide +kernel
theorem dX0_divided_30 : decode cX0_divided 30 = .ok (.iadd, 1) := by decide +kernel
theorem dX0_divided_31 : decode cX0_divided 31 = .ok (.aload_n 0, 1) := by decide +kernel
theorem dX0_divided_32 : decode cX0_divided 32 = .ok (.getfield 12, 3) := by decide +kernel
theorem dX0_divided_35 : decode cX0_divided 35 = .ok (.iload_n 2, 1) := by decide +kernel
theorem dX0_divided_36 : decode cX0_divided 36 = .ok (.invokevirtual 65, 3) := by decide +kernel
theorem dX0_divided_39 : decode cX0_divided 39 = .ok (.iadd, 1) := by decide +kernel
theorem dX0_divided_40 : decode cX0_divided 40 = .ok (.ireturn, 1) := by decide +kernel
theorem dX0_symbolOf_0 : decode cX0_symbolOf 0 = .ok (.aload_n 0, 1) := by decide +kernel
theorem dX0_symbolOf_1 : decode cX0_symbolOf 1 = .ok (.getfield 12, 3) := by decide +kernel
theorem dX0_symbolOf_4 : decode cX0_symbolOf 4 = .ok (.aload_n 0, 1) := by decide +kernel
theorem dX0_symbolOf_5 : decode cX0_symbolOf 5 = .ok (.iload_n 1, 1) := by decide +kernel
theorem dX0_symbolOf_6 : decode cX0_symbolOf 6 = .ok (.invokevirtual 68, 3) := by decide +kernel
theorem dX0_symbolOf_9 : decode cX0_symbolOf 9 = .ok (.invokevirtual 71, 3) := by decide +kernel
theorem dX0_symbolOf_12 : decode cX0_symbolOf 12 = .ok (.ireturn, 1) := by decide +kernel
theorem dX0_behindSymbol_0 : decode cX0_behindSymbol 0 = .ok (.aload_n 0, 1) := by decide +kernel
theorem dX0_behindSymbol_1 : decode cX0_behindSymbol 1 = .ok (.invokevirtual 47, 3) := by decide +kernel
theorem dX0_behindSymbol_4 : decode cX0_behindSymbol 4 = .ok (.ifCond .eq 17, 3) := by decide +kernel
theorem dX0_behindSymbol_7 : decode cX0_behindSymbol 7 = .ok (.aload_n 0, 1) := by decide +kernel
theorem dX0_behindSymbol_8 : decode cX0_behindSymbol 8 = .ok (.getfield 12, 3) := by decide +kernel
theorem dX0_behindSymbol_11 : decode cX0_behindSymbol 11 = .ok (.iload_n 1, 1) := by decide +kernel
theorem dX0_behindSymbol_12 : decode cX0_behindSymbol 12 = .ok (.aload_n 0, 1) := by decide +kernel
theorem dX0_behindSymbol_13 : decode cX0_behindSymbol 13 = .ok (.getfield 25, 3) := by decide +kernel
theorem dX0_behindSymbol_16 : decode cX0_behindSymbol 16 = .ok (.isub, 1) := by decide +kernel
theorem dX0_behindSymbol_17 : decode cX0_behindSymbol 17 = .ok (.invokevirtual 74, 3) := by decide +kernel
theorem dX0_behindSymbol_20 : decode cX0_behindSymbol 20 = .ok (.ireturn, 1) := by decide +kernel
theorem dX0_behindSymbol_21 : decode cX0_behindSymbol 21 = .ok (.aload_n 0, 1) := by decide +kernel
theorem dX0_behindSymbol_22 : decode cX0_behindSymbol 22 = .ok (.iload_n 1, 1) := by decide +kernel
theorem dX0_behindSymbol_23 : decode cX0_behindSymbol 23 = .ok (.invokevirtual 77, 3) := by decide +kernel
theorem dX0_behindSymbol_26 : decode cX0_behindSymbol 26 = .ok (.istore_n 2, 1) := by decide +kernel
theorem dX0_behindSymbol_27 : decode cX0_behindSymbol 27 = .ok (.aload_n 0, 1) := by decide +kernel
theorem dX0_behindSymbol_28 : decode cX0_behindSymbol 28 = .ok (.getfield 12, 3) := by decide +kernel
theorem dX0_behindSymbol_31 : decode cX0_behindSymbol 31 = .ok (.iload_n 2, 1) := by decide +kernel
theorem dX0_behindSymbol_32 : decode cX0_behindSymbol 32 = .ok (.invokevirtual 52, 3) := by decide +kernel
theorem dX0_behindSymbol_35 : decode cX0_behindSymbol 35 = .ok (.iload_n 1, 1) := by decide +kernel
theorem dX0_behindSymbol_36 : decode cX0_behindSymbol 36 = .ok (.aload_n 0, 1) := by decide +kernel
theorem dX0_behindSymbol_37 : decode cX0_behindSymbol 37 = .ok (.getfield 22, 3) := by decide +kernel
theorem dX0_behindSymbol_40 : decode cX0_behindSymbol 40 = .ok (.ishr, 1) := by decide +kernel
theorem dX0_behindSymbol_41 : decode cX0_behindSymbol 41 = .ok (.imul, 1) := by decide +kernel
theorem dX0_behindSymbol_42 : decode cX0_behindSymbol 42 = .ok (.aload_n 0, 1) := by decide +kernel
theorem dX0_behindSymbol_43 : decode cX0_behindSymbol 43 = .ok (.iload_n 1, 1) := by decide +kernel
theorem dX0_behindSymbol_44 : decode cX0_behindSymbol 44 = .ok (.invokevirtual 68, 3) := by decide +kernel
theorem dX0_behindSymbol_47 : decode cX0_behindSymbol 47 = .ok (.iadd, 1) := by decide +kernel
theorem dX0_behindSymbol_48 : decode cX0_behindSymbol 48 = .ok (.aload_n 0, 1) := by decide +kernel
theorem dX0_behindSymbol_49 : decode cX0_behindSymbol 49 = .ok (.getfield 12, 3) := by decide +kernel
theorem dX0_behindSymbol_52 : decode cX0_behindSymbol 52 = .ok (.iload_n 2, 1) := by decide +kernel
theorem dX0_behindSymbol_53 : decode cX0_behindSymbol 53 = .ok (.invokevirtual 65, 3) := by decide +kernel
theorem dX0_behindSymbol_56 : decode cX0_behindSymbol 56 = .ok (.isub, 1) := by decide +kernel
theorem dX0_behindSymbol_57 : decode cX0_behindSymbol 57 = .ok (.ireturn, 1) := by decide +kernel
theorem dX0_placeOfState_0 : decode cX0_placeOfState 0 = .ok (.aload_n 0, 1) := by decide +kernel
theorem dX0_placeOfState_1 : decode cX0_placeOfState 1 = .ok (.invokevirtual 47, 3) := by decide +kernel
theorem dX0_placeOfState_4 : decode cX0_placeOfState 4 = .ok (.ifCond .eq 12, 3) := by decide +kernel
theorem dX0_placeOfState_7 : decode cX0_placeOfState 7 = .ok (.iload_n 1, 1) := by decide +kernel
theorem dX0_placeOfState_8 : decode cX0_placeOfState 8 = .ok (.aload_n 0, 1) := by decide +kernel
theorem dX0_placeOfState_9 : decode cX0_placeOfState 9 = .ok (.getfield 25, 3) := by decide +kernel
theorem dX0_placeOfState_12 : decode cX0_placeOfState 12 = .ok (.isub, 1) := by decide +kernel
theorem dX0_placeOfState_13 : decode cX0_placeOfState 13 = .ok (.goto 13, 3) := by decide +kernel
theorem dX0_placeOfState_16 : decode cX0_placeOfState 16 = .ok (.iload_n 1, 1) := by decide +kernel
theorem dX0_placeOfState_17 : decode cX0_placeOfState 17 = .ok (.iconst 1, 1) := by decide +kernel
theorem dX0_placeOfState_18 : decode cX0_placeOfState 18 = .ok (.aload_n 0, 1) := by decide +kernel
theorem dX0_placeOfState_19 : decode cX0_placeOfState 19 = .ok (.getfield 22, 3) := by decide +kernel
theorem dX0_placeOfState_22 : decode cX0_placeOfState 22 = .ok (.ishl, 1) := by decide +kernel
theorem dX0_placeOfState_23 : decode cX0_placeOfState 23 = .ok (.iconst 1, 1) := by decide +kernel
theorem dX0_placeOfState_24 : decode cX0_placeOfState 24 = .ok (.isub, 1) := by decide +kernel
theorem dX0_placeOfState_25 : decode cX0_placeOfState 25 = .ok (.iand, 1) := by decide +kernel
theorem dX0_placeOfState_26 : decode cX0_placeOfState 26 = .ok (.ireturn, 1) := by decide +kernel
theorem dX1_init_0 : decode cX1_init 0 = .ok (.aload_n 0, 1) := by decide +kernel
theorem dX1_init_1 : decode cX1_init 1 = .ok (.invokespecial 3, 3) := by decide +kernel
theorem dX1_init_4 : decode cX1_init 4 = .ok (.aload_n 0, 1) := by decide +kernel
theorem dX1_init_5 : decode cX1_init 5 = .ok (.new 9, 3) := by decide +kernel
theorem dX1_init_8 : decode cX1_init 8 = .ok (.dup, 1) := by decide +kernel
theorem dX1_init_9 : decode cX1_init 9 = .ok (.invokespecial 11, 3) := by decide +kernel
theorem dX1_init_12 : decode cX1_init 12 = .ok (.putfield 12, 3) := by decide +kernel
theorem dX1_init_15 : decode cX1_init 15 = .ok (.aload_n 0, 1) := by decide +kernel
theorem dX1_init_16 : decode cX1_init 16 = .ok (.new 18, 3) := by decide +kernel
theorem dX1_init_19 : decode cX1_init 19 = .ok (.dup, 1) := by decide +kernel
theorem dX1_init_20 : decode cX1_init 20 = .ok (.invokespecial 20, 3) := by decide +kernel
theorem dX1_init_23 : decode cX1_init 23 = .ok (.putfield 21, 3) := by decide +kernel
theorem dX1_init_26 : decode cX1_init 26 = .ok (.aload_n 0, 1) := by decide +kernel
theorem dX1_init_27 : decode cX1_init 27 = .ok (.iconst 2, 1) := by decide +kernel
theorem dX1_init_28 : decode cX1_init 28 = .ok (.newarray .int, 2) := by decide +kernel
theorem dX1_init_30 : decode cX1_init 30 = .ok (.putfield 25, 3) := by decide +kernel
theorem dX1_init_33 : decode cX1_init 33 = .ok (.aload_n 0, 1) := by decide +kernel
theorem dX1_init_34 : decode cX1_init 34 = .ok (.sipush 1400, 3) := by decide +kernel
theorem dX1_init_37 : decode cX1_init 37 = .ok (.newarray .byte, 2) := by decide +kernel
theorem dX1_init_39 : decode cX1_init 39 = .ok (.putfield 29, 3) := by decide +kernel
theorem dX1_init_42 : decode cX1_init 42 = .ok (.aload_n 0, 1) := by decide +kernel
theorem dX1_init_43 : decode cX1_init 43 = .ok (.new 33, 3) := by decide +kernel
theorem dX1_init_46 : decode cX1_init 46 = .ok (.dup, 1) := by decide +kernel
theorem dX1_init_47 : decode cX1_init 47 = .ok (.invokespecial 35, 3) := by decide +kernel
theorem dX1_init_50 : decode cX1_init 50 = .ok (.putfield 36, 3) := by decide +kernel
theorem dX1_init_53 : decode cX1_init 53 = .ok (.aload_n 0, 1) := by decide +kernel
theorem dX1_init_54 : decode cX1_init 54 = .ok (.aconst_null, 1) := by decide +kernel
theorem dX1_init_55 : decode cX1_init 55 = .ok (.putfield 40, 3) := by decide +kernel
theorem dX1_init_58 : decode cX1_init 58 = .ok (.aload_n 0, 1) := by decide +kernel
theorem dX1_init_59 : decode cX1_init 59 = .ok (.iconst 0, 1) := by decide +kernel
theorem dX1_init_60 : decode cX1_init 60 = .ok (.putfield 44, 3) := by decide +kernel
theorem dX1_init_63 : decode cX1_init 63 = .ok (.aload_n 0, 1) := by decide +kernel
theorem dX1_init_64 : decode cX1_init 64 = .ok (.iconst (-1), 1) := by decide +kernel
theorem dX1_init_65 : decode cX1_init 65 = .ok (.putfield 48, 3) := by decide +kernel
theorem dX1_init_68 : decode cX1_init 68 = .ok (.aload_n 0, 1) := by decide +kernel
theorem dX1_init_69 : decode cX1_init 69 = .ok (.iconst 0, 1) := by decide +kernel
theorem dX1_init_70 : decode cX1_init 70 = .ok (.putfield 51, 3) := by decide +kernel
theorem dX1_init_73 : decode cX1_init 73 = .ok (.aload_n 0, 1) := by decide +kernel
theorem dX1_init_74 : decode cX1_init 74 = .ok (.iconst 0, 1) := by decide +kernel
theorem dX1_init_75 : decode cX1_init 75 = .ok (.putfield 54, 3) := by decide +kernel
theorem dX1_init_78 : decode cX1_init 78 = .ok (.aload_n 0, 1) := by decide +kernel
theorem dX1_init_79 : decode cX1_init 79 = .ok (.iconst 0, 1) := by decide +kernel
theorem dX1_init_80 : decode cX1_init 80 = .ok (.putfield 57, 3) := by decide +kernel
theorem dX1_init_83 : decode cX1_init 83 = .ok (.aload_n 0, 1) := by decide +kernel
theorem dX1_init_84 : decode cX1_init 84 = .ok (.iconst 0, 1) := by decide +kernel
theorem dX1_init_85 : decode cX1_init 85 = .ok (.putfield 60, 3) := by decide +kernel
theorem dX1_init_88 : decode cX1_init 88 = .ok (.aload_n 0, 1) := by decide +kernel
theorem dX1_init_89 : decode cX1_init 89 = .ok (.iconst 0, 1) := by decide +kernel
theorem dX1_init_90 : decode cX1_init 90 = .ok (.putfield 63, 3) := by decide +kernel
theorem dX1_init_93 : decode cX1_init 93 = .ok (.aload_n 0, 1) := by decide +kernel
theorem dX1_init_94 : decode cX1_init 94 = .ok (.iconst 0, 1) := by decide +kernel
theorem dX1_init_95 : decode cX1_init 95 = .ok (.putfield 66, 3) := by decide +kernel
theorem dX1_init_98 : decode cX1_init 98 = .ok (.aload_n 0, 1) := by decide +kernel
theorem dX1_init_99 : decode cX1_init 99 = .ok (.iconst 0, 1) := by decide +kernel
theorem dX1_init_100 : decode cX1_init 100 = .ok (.putfield 69, 3) := by decide +kernel
theorem dX1_init_103 : decode cX1_init 103 = .ok (.aload_n 0, 1) := by decide +kernel
theorem dX1_init_104 : decode cX1_init 104 = .ok (.iconst 0, 1) := by decide +kernel
theorem dX1_init_105 : decode cX1_init 105 = .ok (.putfield 72, 3) := by decide +kernel
theorem dX1_init_108 : decode cX1_init 108 = .ok (.return_, 1) := by decide +kernel
theorem dX1_readPacket_0 : decode cX1_readPacket 0 = .ok (.aload_n 0, 1) := by decide +kernel
theorem dX1_readPacket_1 : decode cX1_readPacket 1 = .ok (.aload_n 1, 1) := by decide +kernel
theorem dX1_readPacket_2 : decode cX1_readPacket 2 = .ok (.putfield 40, 3) := by decide +kernel
theorem dX1_readPacket_5 : decode cX1_readPacket 5 = .ok (.aload_n 0, 1) := by decide +kernel
theorem dX1_readPacket_6 : decode cX1_readPacket 6 = .ok (.iconst 0, 1) := by decide +kernel
theorem dX1_readPacket_7 : decode cX1_readPacket 7 = .ok (.putfield 44, 3) := by decide +kernel
theorem dX1_readPacket_10 : decode cX1_readPacket 10 = .ok (.aload_n 0, 1) := by decide +kernel
theorem dX1_readPacket_11 : decode cX1_readPacket 11 = .ok (.iconst (-1), 1) := by decide +kernel
theorem dX1_readPacket_12 : decode cX1_readPacket 12 = .ok (.putfield 48, 3) := by decide +kernel
theorem dX1_readPacket_15 : decode cX1_readPacket 15 = .ok (.aload_n 0, 1) := by decide +kernel
theorem dX1_readPacket_16 : decode cX1_readPacket 16 = .ok (.iconst 0, 1) := by decide +kernel
theorem dX1_readPacket_17 : decode cX1_readPacket 17 = .ok (.putfield 51, 3) := by decide +kernel
theorem dX1_readPacket_20 : decode cX1_readPacket 20 = .ok (.aload_n 0, 1) := by decide +kernel
theorem dX1_readPacket_21 : decode cX1_readPacket 21 = .ok (.invokevirtual 75, 3) := by decide +kernel
theorem dX1_readPacket_24 : decode cX1_readPacket 24 = .ok (.aload_n 0, 1) := by decide +kernel
theorem dX1_readPacket_25 : decode cX1_readPacket 25 = .ok (.invokevirtual 78, 3) := by decide +kernel
theorem dX1_readPacket_28 : decode cX1_readPacket 28 = .ok (.aload_n 0, 1) := by decide +kernel
theorem dX1_readPacket_29 : decode cX1_readPacket 29 = .ok (.invokevirtual 81, 3) := by decide +kernel
theorem dX1_readPacket_32 : decode cX1_readPacket 32 = .ok (.aload_n 0, 1) := by decide +kernel
theorem dX1_readPacket_33 : decode cX1_readPacket 33 = .ok (.invokevirtual 84, 3) := by decide +kernel
theorem dX1_readPacket_36 : decode cX1_readPacket 36 = .ok (.ifCond .eq 26, 3) := by decide +kernel
theorem dX1_readPacket_39 : decode cX1_readPacket 39 = .ok (.aload_n 0, 1) := by decide +kernel
theorem dX1_readPacket_40 : decode cX1_readPacket 40 = .ok (.getfield 12, 3) := by decide +kernel
theorem dX1_readPacket_43 : decode cX1_readPacket 43 = .ok (.aload_n 0, 1) := by decide +kernel
theorem dX1_readPacket_44 : decode cX1_readPacket 44 = .ok (.getfield 36, 3) := by decide +kernel
theorem dX1_readPacket_47 : decode cX1_readPacket 47 = .ok (.aload_n 0, 1) := by decide +kernel
theorem dX1_readPacket_48 : decode cX1_readPacket 48 = .ok (.getfield 54, 3) := by decide +kernel
theorem dX1_readPacket_51 : decode cX1_readPacket 51 = .ok (.aload_n 0, 1) := by decide +kernel
theorem dX1_readPacket_52 : decode cX1_readPacket 52 = .ok (.getfield 57, 3) := by decide +kernel
theorem dX1_readPacket_55 : decode cX1_readPacket 55 = .ok (.invokevirtual 88, 3) := by decide +kernel
theorem dX1_readPacket_58 : decode cX1_readPacket 58 = .ok (.aload_n 0, 1) := by decide +kernel
theorem dX1_readPacket_59 : decode cX1_readPacket 59 = .ok (.invokevirtual 92, 3) := by decide +kernel
theorem dX1_readPacket_62 : decode cX1_readPacket 62 = .ok (.aload_n 0, 1) := by decide +kernel
theorem dX1_readPacket_63 : decode cX1_readPacket 63 = .ok (.invokevirtual 95, 3) := by decide +kernel
theorem dX1_readPacket_66 : decode cX1_readPacket 66 = .ok (.aload_n 0, 1) := by decide +kernel
theorem dX1_readPacket_67 : decode cX1_readPacket 67 = .ok (.invokevirtual 98, 3) := by decide +kernel
theorem dX1_readPacket_70 : decode cX1_readPacket 70 = .ok (.aload_n 0, 1) := by decide +kernel
theorem dX1_readPacket_71 : decode cX1_readPacket 71 = .ok (.invokevirtual 101, 3) := by decide +kernel
theorem dX1_readPacket_74 : decode cX1_readPacket 74 = .ok (.aload_n 0, 1) := by decide +kernel
theorem dX1_readPacket_75 : decode cX1_readPacket 75 = .ok (.invokevirtual 104, 3) := by decide +kernel
theorem dX1_readPacket_78 : decode cX1_readPacket 78 = .ok (.aload_n 0, 1) := by decide +kernel
theorem dX1_readPacket_79 : decode cX1_readPacket 79 = .ok (.aconst_null, 1) := by decide +kernel
theorem dX1_readPacket_80 : decode cX1_readPacket 80 = .ok (.putfield 40, 3) := by decide +kernel
theorem dX1_readPacket_83 : decode cX1_readPacket 83 = .ok (.aload_n 0, 1) := by decide +kernel
theorem dX1_readPacket_84 : decode cX1_readPacket 84 = .ok (.invokevirtual 84, 3) := by decide +kernel
theorem dX1_readPacket_87 : decode cX1_readPacket 87 = .ok (.ireturn, 1) := by decide +kernel
theorem dX1_exchangeTable_0 : decode cX1_exchangeTable 0 = .ok (.aload_n 0, 1) := by decide +kernel
theorem dX1_exchangeTable_1 : decode cX1_exchangeTable 1 = .ok (.getfield 36, 3) := by decide +kernel
theorem dX1_exchangeTable_4 : decode cX1_exchangeTable 4 = .ok (.astore_n 2, 1) := by decide +kernel
theorem dX1_exchangeTable_5 : decode cX1_exchangeTable 5 = .ok (.aload_n 0, 1) := by decide +kernel
theorem dX1_exchangeTable_6 : decode cX1_exchangeTable 6 = .ok (.aload_n 1, 1) := by decide +kernel
theorem dX1_exchangeTable_7 : decode cX1_exchangeTable 7 = .ok (.putfield 36, 3) := by decide +kernel
theorem dX1_exchangeTable_10 : decode cX1_exchangeTable 10 = .ok (.aload_n 2, 1) := by decide +kernel
theorem dX1_exchangeTable_11 : decode cX1_exchangeTable 11 = .ok (.areturn, 1) := by decide +kernel
theorem dX1_writeMessage_0 : decode cX1_writeMessage 0 = .ok (.aload_n 1, 1) := by decide +kernel
theorem dX1_writeMessage_1 : decode cX1_writeMessage 1 = .ok (.iconst 0, 1) := by decide +kernel
theorem dX1_writeMessage_2 : decode cX1_writeMessage 2 = .ok (.putfield 107, 3) := by decide +kernel
theorem dX1_writeMessage_5 : decode cX1_writeMessage 5 = .ok (.iconst 0, 1) := by decide +kernel
theorem dX1_writeMessage_6 : decode cX1_writeMessage 6 = .ok (.istore_n 2, 1) := by decide +kernel
theorem dX1_writeMessage_7 : decode cX1_writeMessage 7 = .ok (.iload_n 2, 1) := by decide +kernel
theorem dX1_writeMessage_8 : decode cX1_writeMessage 8 = .ok (.aload_n 0, 1) := by decide +kernel
theorem dX1_writeMessage_9 : decode cX1_writeMessage 9 = .ok (.getfield 60, 3) := by decide +kernel
theorem dX1_writeMessage_12 : decode cX1_writeMessage 12 = .ok (.if_icmp .ge 26, 3) := by decide +kernel
theorem dX1_writeMessage_15 : decode cX1_writeMessage 15 = .ok (.iload_n 2, 1) := by decide +kernel
theorem dX1_writeMessage_16 : decode cX1_writeMessage 16 = .ok (.sipush 1400, 3) := by decide +kernel
theorem dX1_writeMessage_19 : decode cX1_writeMessage 19 = .ok (.if_icmp .ge 19, 3) := by decide +kernel
theorem dX1_writeMessage_22 : decode cX1_writeMessage 22 = .ok (.aload_n 1, 1) := by decide +kernel
theorem dX1_writeMessage_23 : decode cX1_writeMessage 23 = .ok (.aload_n 0, 1) := by decide +kernel
theorem dX1_writeMessage_24 : decode cX1_writeMessage 24 = .ok (.getfield 29, 3) := by decide +kernel
theorem dX1_writeMessage_27 : decode cX1_writeMessage 27 = .ok (.iload_n 2, 1) := by decide +kernel
theorem dX1_writeMessage_28 : decode cX1_writeMessage 28 = .ok (.baload, 1) := by decide +kernel
theorem dX1_writeMessage_29 : decode cX1_writeMessage 29 = .ok (.invokevirtual 112, 3) := by decide +kernel
theorem dX1_writeMessage_32 : decode cX1_writeMessage 32 = .ok (.iinc 2 1, 3) := by decide +kernel
theorem dX1_writeMessage_35 : decode cX1_writeMessage 35 = .ok (.goto (-28), 3) := by decide +kernel
theorem dX1_writeMessage_38 : decode cX1_writeMessage 38 = .ok (.return_, 1) := by decide +kernel
theorem dX1_isWhole_0 : decode cX1_isWhole 0 = .ok (.aload_n 0, 1) := by decide +kernel
theorem dX1_isWhole_1 : decode cX1_isWhole 1 = .ok (.getfield 44, 3) := by decide +kernel
theorem dX1_isWhole_4 : decode cX1_isWhole 4 = .ok (.ifCond .ne 7, 3) := by decide +kernel
theorem dX1_isWhole_7 : decode cX1_isWhole 7 = .ok (.iconst 1, 1) := by decide +kernel
theorem dX1_isWhole_8 : decode cX1_isWhole 8 = .ok (.goto 4, 3) := by decide +kernel
theorem dX1_isWhole_11 : decode cX1_isWhole 11 = .ok (.iconst 0, 1) := by decide +kernel
theorem dX1_isWhole_12 : decode cX1_isWhole 12 = .ok (.ireturn, 1) := by decide +kernel
theorem dX1_demand_0 : decode cX1_demand 0 = .ok (.iload_n 1, 1) := by decide +kernel
theorem dX1_demand_1 : decode cX1_demand 1 = .ok (.ifCond .ne 20, 3) := by decide +kernel
theorem dX1_demand_4 : decode cX1_demand 4 = .ok (.aload_n 0, 1) := by decide +kernel
theorem dX1_demand_5 : decode cX1_demand 5 = .ok (.invokevirtual 84, 3) := by decide +kernel
theorem dX1_demand_8 : decode cX1_demand 8 = .ok (.ifCond .eq 13, 3) := by decide +kernel
theorem dX1_demand_11 : decode cX1_demand 11 = .ok (.aload_n 0, 1) := by decide +kernel
theorem dX1_demand_12 : decode cX1_demand 12 = .ok (.iload_n 2, 1) := by decide +kernel
theorem dX1_demand_13 : decode cX1_demand 13 = .ok (.putfield 44, 3) := by decide +kernel
theorem dX1_demand_16 : decode cX1_demand 16 = .ok (.aload_n 0, 1) := by decide +kernel
theorem dX1_demand_17 : decode cX1_demand 17 = .ok (.iload_n 3, 1) := by decide +kernel
theorem dX1_demand_18 : decode cX1_demand 18 = .ok (.putfield 48, 3) := by decide +kernel
theorem dX1_demand_21 : decode cX1_demand 21 = .ok (.return_, 1) := by decide +kernel
theorem dX1_byteCount_0 : decode cX1_byteCount 0 = .ok (.aload_n 0, 1) := by decide +kernel
theorem dX1_byteCount_1 : decode cX1_byteCount 1 = .ok (.getfield 40, 3) := by decide +kernel
theorem dX1_byteCount_4 : decode cX1_byteCount 4 = .ok (.ifnonnull 7, 3) := by decide +kernel
theorem dX1_byteCount_7 : decode cX1_byteCount 7 = .ok (.iconst 0, 1) := by decide +kernel
theorem dX1_byteCount_8 : decode cX1_byteCount 8 = .ok (.goto 10, 3) := by decide +kernel
theorem dX1_byteCount_11 : decode cX1_byteCount 11 = .ok (.aload_n 0, 1) := by decide +kernel
theorem dX1_byteCount_12 : decode cX1_byteCount 12 = .ok (.getfield 40, 3) := by decide +kernel
theorem dX1_byteCount_15 : decode cX1_byteCount 15 = .ok (.getfield 107, 3) := by decide +kernel
theorem dX1_byteCount_18 : decode cX1_byteCount 18 = .ok (.ireturn, 1) := by decide +kernel
theorem dX1_byteAt_0 : decode cX1_byteAt 0 = .ok (.aload_n 0, 1) := by decide +kernel
theorem dX1_byteAt_1 : decode cX1_byteAt 1 = .ok (.getfield 40, 3) := by decide +kernel
theorem dX1_byteAt_4 : decode cX1_byteAt 4 = .ok (.ifnonnull 7, 3) := by decide +kernel
theorem dX1_byteAt_7 : decode cX1_byteAt 7 = .ok (.iconst (-1), 1) := by decide +kernel
theorem dX1_byteAt_8 : decode cX1_byteAt 8 = .ok (.goto 11, 3) := by decide +kernel
theorem dX1_byteAt_11 : decode cX1_byteAt 11 = .ok (.aload_n 0, 1) := by decide +kernel
theorem dX1_byteAt_12 : decode cX1_byteAt 12 = .ok (.getfield 40, 3) := by decide +kernel
theorem dX1_byteAt_15 : decode cX1_byteAt 15 = .ok (.iload_n 1, 1) := by decide +kernel
theorem dX1_byteAt_16 : decode cX1_byteAt 16 = .ok (.invokevirtual 116, 3) := by decide +kernel
theorem dX1_byteAt_19 : decode cX1_byteAt 19 = .ok (.ireturn, 1) := by decide +kernel
theorem dX1_readNumber_0 : decode cX1_readNumber 0 = .ok (.aload_n 0, 1) := by decide +kernel
theorem dX1_readNumber_1 : decode cX1_readNumber 1 = .ok (.aload_n 0, 1) := by decide +kernel
theorem dX1_readNumber_2 : decode cX1_readNumber 2 = .ok (.getfield 51, 3) := by decide +kernel
theorem dX1_readNumber_5 : decode cX1_readNumber 5 = .ok (.iload_n 1, 1) := by decide +kernel
theorem dX1_readNumber_6 : decode cX1_readNumber 6 = .ok (.iadd, 1) := by decide +kernel
theorem dX1_readNumber_7 : decode cX1_readNumber 7 = .ok (.aload_n 0, 1) := by decide +kernel
theorem dX1_readNumber_8 : decode cX1_readNumber 8 = .ok (.invokevirtual 120, 3) := by decide +kernel
theorem dX1_readNumber_11 : decode cX1_readNumber 11 = .ok (.if_icmp .gt 7, 3) := by decide +kernel
theorem dX1_readNumber_14 : decode cX1_readNumber 14 = .ok (.iconst 1, 1) := by decide +kernel
theorem dX1_readNumber_15 : decode cX1_readNumber 15 = .ok (.goto 4, 3) := by decide +kernel
theorem dX1_readNumber_18 : decode cX1_readNumber 18 = .ok (.iconst 0, 1) := by decide +kernel
theorem dX1_readNumber_19 : decode cX1_readNumber 19 = .ok (.iconst 1, 1) := by decide +kernel
theorem dX1_readNumber_20 : decode cX1_readNumber 20 = .ok (.aload_n 0, 1) := by decide +kernel
theorem dX1_readNumber_21 : decode cX1_readNumber 21 = .ok (.invokevirtual 120, 3) := by decide +kernel
theorem dX1_readNumber_24 : decode cX1_readNumber 24 = .ok (.invokevirtual 124, 3) := by decide +kernel
theorem dX1_readNumber_27 : decode cX1_readNumber 27 = .ok (.aload_n 0, 1) := by decide +kernel
theorem dX1_readNumber_28 : decode cX1_readNumber 28 = .ok (.invokevirtual 84, 3) := by decide +kernel
theorem dX1_readNumber_31 : decode cX1_readNumber 31 = .ok (.ifCond .ne 5, 3) := by decide +kernel
theorem dX1_readNumber_34 : decode cX1_readNumber 34 = .ok (.iconst 0, 1) := by decide +kernel
theorem dX1_readNumber_35 : decode cX1_readNumber 35 = .ok (.ireturn, 1) := by decide +kernel
theorem dX1_readNumber_36 : decode cX1_readNumber 36 = .ok (.iconst 0, 1) := by decide +kernel
theorem dX1_readNumber_37 : decode cX1_readNumber 37 = .ok (.istore_n 2, 1) := by decide +kernel
theorem dX1_readNumber_38 : decode cX1_readNumber 38 = .ok (.iconst 0, 1) := by decide +kernel
theorem dX1_readNumber_39 : decode cX1_readNumber 39 = .ok (.istore_n 3, 1) := by decide +kernel
theorem dX1_readNumber_40 : decode cX1_readNumber 40 = .ok (.iload_n 3, 1) := by decide +kernel
theorem dX1_readNumber_41 : decode cX1_readNumber 41 = .ok (.iload_n 1, 1) := by decide +kernel
theorem dX1_readNumber_42 : decode cX1_readNumber 42 = .ok (.if_icmp .ge 33, 3) := by decide +kernel
theorem dX1_readNumber_45 : decode cX1_readNumber 45 = .ok (.iload_n 2, 1) := by decide +kernel
theorem dX1_readNumber_46 : decode cX1_readNumber 46 = .ok (.bipush 8, 2) := by decide +kernel
theorem dX1_readNumber_48 : decode cX1_readNumber 48 = .ok (.ishl, 1) := by decide +kernel
theorem dX1_readNumber_49 : decode cX1_readNumber 49 = .ok (.aload_n 0, 1) := by decide +kernel
theorem dX1_readNumber_50 : decode cX1_readNumber 50 = .ok (.aload_n 0, 1) := by decide +kernel
theorem dX1_readNumber_51 : decode cX1_readNumber 51 = .ok (.getfield 51, 3) := by decide +kernel
theorem dX1_readNumber_54 : decode cX1_readNumber 54 = .ok (.invokevirtual 128, 3) := by decide +kernel
theorem dX1_readNumber_57 : decode cX1_readNumber 57 = .ok (.ior, 1) := by decide +kernel
theorem dX1_readNumber_58 : decode cX1_readNumber 58 = .ok (.istore_n 2, 1) := by decide +kernel
theorem dX1_readNumber_59 : decode cX1_readNumber 59 = .ok (.aload_n 0, 1) := by decide +kernel
theorem dX1_readNumber_60 : decode cX1_readNumber 60 = .ok (.dup, 1) := by decide +kernel
theorem dX1_readNumber_61 : decode cX1_readNumber 61 = .ok (.getfield 51, 3) := by decide +kernel
theorem dX1_readNumber_64 : decode cX1_readNumber 64 = .ok (.iconst 1, 1) := by decide +kernel
theorem dX1_readNumber_65 : decode cX1_readNumber 65 = .ok (.iadd, 1) := by decide +kernel
theorem dX1_readNumber_66 : decode cX1_readNumber 66 = .ok (.putfield 51, 3) := by decide +kernel
theorem dX1_readNumber_69 : decode cX1_readNumber 69 = .ok (.iinc 3 1, 3) := by decide +kernel
theorem dX1_readNumber_72 : decode cX1_readNumber 72 = .ok (.goto (-32), 3) := by decide +kernel
theorem dX1_readNumber_75 : decode cX1_readNumber 75 = .ok (.iload_n 2, 1) := by decide +kernel
theorem dX1_readNumber_76 : decode cX1_readNumber 76 = .ok (.ireturn, 1) := by decide +kernel
theorem dX1_readHead_0 : decode cX1_readHead 0 = .ok (.aload_n 0, 1) := by decide +kernel
theorem dX1_readHead_1 : decode cX1_readHead 1 = .ok (.aload_n 0, 1) := by decide +kernel
theorem dX1_readHead_2 : decode cX1_readHead 2 = .ok (.iconst 1, 1) := by decide +kernel
theorem dX1_readHead_3 : decode cX1_readHead 3 = .ok (.invokevirtual 129, 3) := by decide +kernel
theorem dX1_readHead_6 : decode cX1_readHead 6 = .ok (.bipush 83, 2) := by decide +kernel
theorem dX1_readHead_8 : decode cX1_readHead 8 = .ok (.if_icmp .ne 7, 3) := by decide +kernel
theorem dX1_readHead_11 : decode cX1_readHead 11 = .ok (.iconst 1, 1) := by decide +kernel
theorem dX1_readHead_12 : decode cX1_readHead 12 = .ok (.goto 4, 3) := by decide +kernel
theorem dX1_readHead_15 : decode cX1_readHead 15 = .ok (.iconst 0, 1) := by decide +kernel
theorem dX1_readHead_16 : decode cX1_readHead 16 = .ok (.iconst 2, 1) := by decide +kernel
theorem dX1_readHead_17 : decode cX1_readHead 17 = .ok (.iconst 0, 1) := by decide +kernel
theorem dX1_readHead_18 : decode cX1_readHead 18 = .ok (.invokevirtual 124, 3) := by decide +kernel
theorem dX1_readHead_21 : decode cX1_readHead 21 = .ok (.aload_n 0, 1) := by decide +kernel
theorem dX1_readHead_22 : decode cX1_readHead 22 = .ok (.iconst 1, 1) := by decide +kernel
theorem dX1_readHead_23 : decode cX1_readHead 23 = .ok (.invokevirtual 129, 3) := by decide +kernel
theorem dX1_readHead_26 : decode cX1_readHead 26 = .ok (.istore_n 1, 1) := by decide +kernel
theorem dX1_readHead_27 : decode cX1_readHead 27 = .ok (.aload_n 0, 1) := by decide +kernel
theorem dX1_readHead_28 : decode cX1_readHead 28 = .ok (.iload_n 1, 1) := by decide +kernel
theorem dX1_readHead_29 : decode cX1_readHead 29 = .ok (.iconst 2, 1) := by decide +kernel
theorem dX1_readHead_30 : decode cX1_readHead 30 = .ok (.ishr, 1) := by decide +kernel
theorem dX1_readHead_31 : decode cX1_readHead 31 = .ok (.putfield 54, 3) := by decide +kernel
theorem dX1_readHead_34 : decode cX1_readHead 34 = .ok (.aload_n 0, 1) := by decide +kernel
theorem dX1_readHead_35 : decode cX1_readHead 35 = .ok (.iload_n 1, 1) := by decide +kernel
theorem dX1_readHead_36 : decode cX1_readHead 36 = .ok (.iconst 3, 1) := by decide +kernel
theorem dX1_readHead_37 : decode cX1_readHead 37 = .ok (.iand, 1) := by decide +kernel
theorem dX1_readHead_38 : decode cX1_readHead 38 = .ok (.putfield 57, 3) := by decide +kernel
theorem dX1_readHead_41 : decode cX1_readHead 41 = .ok (.aload_n 0, 1) := by decide +kernel
theorem dX1_readHead_42 : decode cX1_readHead 42 = .ok (.aload_n 0, 1) := by decide +kernel
theorem dX1_readHead_43 : decode cX1_readHead 43 = .ok (.getfield 54, 3) := by decide +kernel
theorem dX1_readHead_46 : decode cX1_readHead 46 = .ok (.aload_n 0, 1) := by decide +kernel
theorem dX1_readHead_47 : decode cX1_readHead 47 = .ok (.getfield 57, 3) := by decide +kernel
theorem dX1_readHead_50 : decode cX1_readHead 50 = .ok (.invokestatic 132, 3) := by decide +kernel
theorem dX1_readHead_53 : decode cX1_readHead 53 = .ok (.iconst 2, 1) := by decide +kernel
theorem dX1_readHead_54 : decode cX1_readHead 54 = .ok (.iconst 1, 1) := by decide +kernel
theorem dX1_readHead_55 : decode cX1_readHead 55 = .ok (.invokevirtual 124, 3) := by decide +kernel
theorem dX1_readHead_58 : decode cX1_readHead 58 = .ok (.aload_n 0, 1) := by decide +kernel
theorem dX1_readHead_59 : decode cX1_readHead 59 = .ok (.iconst 1, 1) := by decide +kernel
theorem dX1_readHead_60 : decode cX1_readHead 60 = .ok (.invokevirtual 129, 3) := by decide +kernel
theorem dX1_readHead_63 : decode cX1_readHead 63 = .ok (.istore_n 2, 1) := by decide +kernel
theorem dX1_readHead_64 : decode cX1_readHead 64 = .ok (.aload_n 0, 1) := by decide +kernel
theorem dX1_readHead_65 : decode cX1_readHead 65 = .ok (.iload_n 2, 1) := by decide +kernel
theorem dX1_readHead_66 : decode cX1_readHead 66 = .ok (.invokestatic 136, 3) := by decide +kernel
theorem dX1_readHead_69 : decode cX1_readHead 69 = .ok (.iconst 2, 1) := by decide +kernel
theorem dX1_readHead_70 : decode cX1_readHead 70 = .ok (.iconst 2, 1) := by decide +kernel
theorem dX1_readHead_71 : decode cX1_readHead 71 = .ok (.invokevirtual 124, 3) := by decide +kernel
theorem dX1_readHead_74 : decode cX1_readHead 74 = .ok (.aload_n 0, 1) := by decide +kernel
theorem dX1_readHead_75 : decode cX1_readHead 75 = .ok (.getfield 12, 3) := by decide +kernel
theorem dX1_readHead_78 : decode cX1_readHead 78 = .ok (.getfield 140, 3) := by decide +kernel
theorem dX1_readHead_81 : decode cX1_readHead 81 = .ok (.invokevirtual 144, 3) := by decide +kernel
theorem dX1_readHead_84 : decode cX1_readHead 84 = .ok (.aload_n 0, 1) := by decide +kernel
theorem dX1_readHead_85 : decode cX1_readHead 85 = .ok (.getfield 36, 3) := by decide +kernel
theorem dX1_readHead_88 : decode cX1_readHead 88 = .ok (.iload_n 2, 1) := by decide +kernel
theorem dX1_readHead_89 : decode cX1_readHead 89 = .ok (.invokestatic 136, 3) := by decide +kernel
theorem dX1_readHead_92 : decode cX1_readHead 92 = .ok (.ifCond .eq 7, 3) := by decide +kernel
theorem dX1_readHead_95 : decode cX1_readHead 95 = .ok (.iload_n 2, 1) := by decide +kernel
theorem dX1_readHead_96 : decode cX1_readHead 96 = .ok (.goto 4, 3) := by decide +kernel
theorem dX1_readHead_99 : decode cX1_readHead 99 = .ok (.iconst 1, 1) := by decide +kernel
theorem dX1_readHead_100 : decode cX1_readHead 100 = .ok (.invokevirtual 149, 3) := by decide +kernel
theorem dX1_readHead_103 : decode cX1_readHead 103 = .ok (.return_, 1) := by decide +kernel
theorem dX1_readShares_0 : decode cX1_readShares 0 = .ok (.aload_n 0, 1) := by decide +kernel
theorem dX1_readShares_1 : decode cX1_readShares 1 = .ok (.iconst 1, 1) := by decide +kernel
theorem dX1_readShares_2 : decode cX1_readShares 2 = .ok (.invokevirtual 129, 3) := by decide +kernel
theorem dX1_readShares_5 : decode cX1_readShares 5 = .ok (.iconst 1, 1) := by decide +kernel
theorem dX1_readShares_6 : decode cX1_readShares 6 = .ok (.iadd, 1) := by decide +kernel
theorem dX1_readShares_7 : decode cX1_readShares 7 = .ok (.istore_n 1, 1) := by decide +kernel
theorem dX1_readShares_8 : decode cX1_readShares 8 = .ok (.iconst (-1), 1) := by decide +kernel
theorem dX1_readShares_9 : decode cX1_readShares 9 = .ok (.istore_n 2, 1) := by decide +kernel
theorem dX1_readShares_10 : decode cX1_readShares 10 = .ok (.iconst 0, 1) := by decide +kernel
theorem dX1_readShares_11 : decode cX1_readShares 11 = .ok (.istore_n 3, 1) := by decide +kernel
theorem dX1_readShares_12 : decode cX1_readShares 12 = .ok (.aload_n 0, 1) := by decide +kernel
theorem dX1_readShares_13 : decode cX1_readShares 13 = .ok (.getfield 51, 3) := by decide +kernel
theorem dX1_readShares_16 : decode cX1_readShares 16 = .ok (.istore 4, 2) := by decide +kernel
theorem dX1_readShares_18 : decode cX1_readShares 18 = .ok (.iconst 0, 1) := by decide +kernel
theorem dX1_readShares_19 : decode cX1_readShares 19 = .ok (.istore 5, 2) := by decide +kernel
theorem dX1_readShares_21 : decode cX1_readShares 21 = .ok (.iload 5, 2) := by decide +kernel
theorem dX1_readShares_23 : decode cX1_readShares 23 = .ok (.iload_n 1, 1) := by decide +kernel
theorem dX1_readShares_24 : decode cX1_readShares 24 = .ok (.if_icmp .ge 109, 3) := by decide +kernel
theorem dX1_readShares_27 : decode cX1_readShares 27 = .ok (.aload_n 0, 1) := by decide +kernel
theorem dX1_readShares_28 : decode cX1_readShares 28 = .ok (.invokevirtual 84, 3) := by decide +kernel
theorem dX1_readShares_31 : decode cX1_readShares 31 = .ok (.ifCond .eq 102, 3) := by decide +kernel
theorem dX1_readShares_34 : decode cX1_readShares 34 = .ok (.aload_n 0, 1) := by decide +kernel
theorem dX1_readShares_35 : decode cX1_readShares 35 = .ok (.getfield 51, 3) := by decide +kernel
theorem dX1_readShares_38 : decode cX1_readShares 38 = .ok (.istore 6, 2) := by decide +kernel
theorem dX1_readShares_40 : decode cX1_readShares 40 = .ok (.aload_n 0, 1) := by decide +kernel
theorem dX1_readShares_41 : decode cX1_readShares 41 = .ok (.iconst 1, 1) := by decide +kernel
theorem dX1_readShares_42 : decode cX1_readShares 42 = .ok (.invokevirtual 129, 3) := by decide +kernel
theorem dX1_readShares_45 : decode cX1_readShares 45 = .ok (.istore 7, 2) := by decide +kernel
theorem dX1_readShares_47 : decode cX1_readShares 47 = .ok (.aload_n 0, 1) := by decide +kernel
theorem dX1_readShares_48 : decode cX1_readShares 48 = .ok (.iload 7, 2) := by decide +kernel
theorem dX1_readShares_50 : decode cX1_readShares 50 = .ok (.iload_n 2, 1) := by decide +kernel
theorem dX1_readShares_51 : decode cX1_readShares 51 = .ok (.if_icmp .le 7, 3) := by decide +kernel
theorem dX1_readShares_54 : decode cX1_readShares 54 = .ok (.iconst 1, 1) := by decide +kernel
theorem dX1_readShares_55 : decode cX1_readShares 55 = .ok (.goto 4, 3) := by decide +kernel
theorem dX1_readShares_58 : decode cX1_readShares 58 = .ok (.iconst 0, 1) := by decide +kernel
theorem dX1_readShares_59 : decode cX1_readShares 59 = .ok (.iconst 2, 1) := by decide +kernel
theorem dX1_readShares_60 : decode cX1_readShares 60 = .ok (.iload 6, 2) := by decide +kernel
theorem dX1_readShares_62 : decode cX1_readShares 62 = .ok (.invokevirtual 124, 3) := by decide +kernel
theorem dX1_readShares_65 : decode cX1_readShares 65 = .ok (.aload_n 0, 1) := by decide +kernel
theorem dX1_readShares_66 : decode cX1_readShares 66 = .ok (.getfield 51, 3) := by decide +kernel
theorem dX1_readShares_69 : decode cX1_readShares 69 = .ok (.istore 4, 2) := by decide +kernel
theorem dX1_readShares_71 : decode cX1_readShares 71 = .ok (.aload_n 0, 1) := by decide +kernel
theorem dX1_readShares_72 : decode cX1_readShares 72 = .ok (.iconst 2, 1) := by decide +kernel
theorem dX1_readShares_73 : decode cX1_readShares 73 = .ok (.invokevirtual 129, 3) := by decide +kernel
theorem dX1_readShares_76 : decode cX1_readShares 76 = .ok (.istore 8, 2) := by decide +kernel
theorem dX1_readShares_78 : decode cX1_readShares 78 = .ok (.aload_n 0, 1) := by decide +kernel
theorem dX1_readShares_79 : decode cX1_readShares 79 = .ok (.iload 8, 2) := by decide +kernel
theorem dX1_readShares_81 : decode cX1_readShares 81 = .ok (.iconst 1, 1) := by decide +kernel
theorem dX1_readShares_82 : decode cX1_readShares 82 = .ok (.if_icmp .lt 19, 3) := by decide +kernel
theorem dX1_readShares_85 : decode cX1_readShares 85 = .ok (.iload 8, 2) := by decide +kernel
theorem dX1_readShares_87 : decode cX1_readShares 87 = .ok (.aload_n 0, 1) := by decide +kernel
theorem dX1_readShares_88 : decode cX1_readShares 88 = .ok (.getfield 36, 3) := by decide +kernel
theorem dX1_readShares_91 : decode cX1_readShares 91 = .ok (.invokevirtual 152, 3) := by decide +kernel
theorem dX1_readShares_94 : decode cX1_readShares 94 = .ok (.if_icmp .gt 7, 3) := by decide +kernel
theorem dX1_readShares_97 : decode cX1_readShares 97 = .ok (.iconst 1, 1) := by decide +kernel
theorem dX1_readShares_98 : decode cX1_readShares 98 = .ok (.goto 4, 3) := by decide +kernel
theorem dX1_readShares_101 : decode cX1_readShares 101 = .ok (.iconst 0, 1) := by decide +kernel
theorem dX1_readShares_102 : decode cX1_readShares 102 = .ok (.iconst 2, 1) := by decide +kernel
theorem dX1_readShares_103 : decode cX1_readShares 103 = .ok (.iload 4, 2) := by decide +kernel
theorem dX1_readShares_105 : decode cX1_readShares 105 = .ok (.invokevirtual 124, 3) := by decide +kernel
theorem dX1_readShares_108 : decode cX1_readShares 108 = .ok (.aload_n 0, 1) := by decide +kernel
theorem dX1_readShares_109 : decode cX1_readShares 109 = .ok (.getfield 36, 3) := by decide +kernel
theorem dX1_readShares_112 : decode cX1_readShares 112 = .ok (.iload 7, 2) := by decide +kernel
theorem dX1_readShares_114 : decode cX1_readShares 114 = .ok (.iload 8, 2) := by decide +kernel
theorem dX1_readShares_116 : decode cX1_readShares 116 = .ok (.invokevirtual 155, 3) := by decide +kernel
theorem dX1_readShares_119 : decode cX1_readShares 119 = .ok (.iload 7, 2) := by decide +kernel
theorem dX1_readShares_121 : decode cX1_readShares 121 = .ok (.istore_n 2, 1) := by decide +kernel
theorem dX1_readShares_122 : decode cX1_readShares 122 = .ok (.iload_n 3, 1) := by decide +kernel
theorem dX1_readShares_123 : decode cX1_readShares 123 = .ok (.iload 8, 2) := by decide +kernel
theorem dX1_readShares_125 : decode cX1_readShares 125 = .ok (.iadd, 1) := by decide +kernel
theorem dX1_readShares_126 : decode cX1_readShares 126 = .ok (.istore_n 3, 1) := by decide +kernel
theorem dX1_readShares_127 : decode cX1_readShares 127 = .ok (.iinc 5 1, 3) := by decide +kernel
theorem dX1_readShares_130 : decode cX1_readShares 130 = .ok (.goto (-109), 3) := by decide +kernel
theorem dX1_readShares_133 : decode cX1_readShares 133 = .ok (.aload_n 0, 1) := by decide +kernel
theorem dX1_readShares_134 : decode cX1_readShares 134 = .ok (.iload_n 3, 1) := by decide +kernel
theorem dX1_readShares_135 : decode cX1_readShares 135 = .ok (.aload_n 0, 1) := by decide +kernel
theorem dX1_readShares_136 : decode cX1_readShares 136 = .ok (.getfield 36, 3) := by decide +kernel
theorem dX1_readShares_139 : decode cX1_readShares 139 = .ok (.invokevirtual 152, 3) := by decide +kernel
theorem dX1_readShares_142 : decode cX1_readShares 142 = .ok (.if_icmp .ne 7, 3) := by decide +kernel
theorem dX1_readShares_145 : decode cX1_readShares 145 = .ok (.iconst 1, 1) := by decide +kernel
theorem dX1_readShares_146 : decode cX1_readShares 146 = .ok (.goto 4, 3) := by decide +kernel
theorem dX1_readShares_149 : decode cX1_readShares 149 = .ok (.iconst 0, 1) := by decide +kernel
theorem dX1_readShares_150 : decode cX1_readShares 150 = .ok (.iconst 3, 1) := by decide +kernel
theorem dX1_readShares_151 : decode cX1_readShares 151 = .ok (.iload 4, 2) := by decide +kernel
theorem dX1_readShares_153 : decode cX1_readShares 153 = .ok (.invokevirtual 124, 3) := by decide +kernel
theorem dX1_readShares_156 : decode cX1_readShares 156 = .ok (.return_, 1) := by decide +kernel
theorem dX1_readSizes_0 : decode cX1_readSizes 0 = .ok (.aload_n 0, 1) := by decide +kernel
theorem dX1_readSizes_1 : decode cX1_readSizes 1 = .ok (.getfield 51, 3) := by decide +kernel
theorem dX1_readSizes_4 : decode cX1_readSizes 4 = .ok (.istore_n 1, 1) := by decide +kernel
theorem dX1_readSizes_5 : decode cX1_readSizes 5 = .ok (.aload_n 0, 1) := by decide +kernel
theorem dX1_readSizes_6 : decode cX1_readSizes 6 = .ok (.aload_n 0, 1) := by decide +kernel
theorem dX1_readSizes_7 : decode cX1_readSizes 7 = .ok (.iconst 2, 1) := by decide +kernel
theorem dX1_readSizes_8 : decode cX1_readSizes 8 = .ok (.invokevirtual 129, 3) := by decide +kernel
theorem dX1_readSizes_11 : decode cX1_readSizes 11 = .ok (.putfield 60, 3) := by decide +kernel
theorem dX1_readSizes_14 : decode cX1_readSizes 14 = .ok (.aload_n 0, 1) := by decide +kernel
theorem dX1_readSizes_15 : decode cX1_readSizes 15 = .ok (.aload_n 0, 1) := by decide +kernel
theorem dX1_readSizes_16 : decode cX1_readSizes 16 = .ok (.getfield 60, 3) := by decide +kernel
theorem dX1_readSizes_19 : decode cX1_readSizes 19 = .ok (.sipush 1400, 3) := by decide +kernel
theorem dX1_readSizes_22 : decode cX1_readSizes 22 = .ok (.if_icmp .gt 7, 3) := by decide +kernel
theorem dX1_readSizes_25 : decode cX1_readSizes 25 = .ok (.iconst 1, 1) := by decide +kernel
theorem dX1_readSizes_26 : decode cX1_readSizes 26 = .ok (.goto 4, 3) := by decide +kernel
theorem dX1_readSizes_29 : decode cX1_readSizes 29 = .ok (.iconst 0, 1) := by decide +kernel
theorem dX1_readSizes_30 : decode cX1_readSizes 30 = .ok (.iconst 2, 1) := by decide +kernel
theorem dX1_readSizes_31 : decode cX1_readSizes 31 = .ok (.iload_n 1, 1) := by decide +kernel
theorem dX1_readSizes_32 : decode cX1_readSizes 32 = .ok (.invokevirtual 124, 3) := by decide +kernel
theorem dX1_readSizes_35 : decode cX1_readSizes 35 = .ok (.aload_n 0, 1) := by decide +kernel
theorem dX1_readSizes_36 : decode cX1_readSizes 36 = .ok (.aload_n 0, 1) := by decide +kernel
theorem dX1_readSizes_37 : decode cX1_readSizes 37 = .ok (.iconst 2, 1) := by decide +kernel
theorem dX1_readSizes_38 : decode cX1_readSizes 38 = .ok (.invokevirtual 129, 3) := by decide +kernel
theorem dX1_readSizes_41 : decode cX1_readSizes 41 = .ok (.putfield 69, 3) := by decide +kernel
theorem dX1_readSizes_44 : decode cX1_readSizes 44 = .ok (.return_, 1) := by decide +kernel
theorem dX1_readStates_0 : decode cX1_readStates 0 = .ok (.aload_n 0, 1) := by decide +kernel
theorem dX1_readStates_1 : decode cX1_readStates 1 = .ok (.aload_n 0, 1) := by decide +kernel
theorem dX1_readStates_2 : decode cX1_readStates 2 = .ok (.getfield 51, 3) := by decide +kernel
theorem dX1_readStates_5 : decode cX1_readStates 5 = .ok (.putfield 63, 3) := by decide +kernel
theorem dX1_readStates_8 : decode cX1_readStates 8 = .ok (.iconst 0, 1) := by decide +kernel
theorem dX1_readStates_9 : decode cX1_readStates 9 = .ok (.istore_n 1, 1) := by decide +kernel
theorem dX1_readStates_10 : decode cX1_readStates 10 = .ok (.iload_n 1, 1) := by decide +kernel
theorem dX1_readStates_11 : decode cX1_readStates 11 = .ok (.aload_n 0, 1) := by decide +kernel
theorem dX1_readStates_12 : decode cX1_readStates 12 = .ok (.getfield 12, 3) := by decide +kernel
theorem dX1_readStates_15 : decode cX1_readStates 15 = .ok (.invokevirtual 159, 3) := by decide +kernel
theorem dX1_readStates_18 : decode cX1_readStates 18 = .ok (.if_icmp .ge 58, 3) := by decide +kernel
theorem dX1_readStates_21 : decode cX1_readStates 21 = .ok (.aload_n 0, 1) := by decide +kernel
theorem dX1_readStates_22 : decode cX1_readStates 22 = .ok (.getfield 51, 3) := by decide +kernel
theorem dX1_readStates_25 : decode cX1_readStates 25 = .ok (.istore_n 2, 1) := by decide +kernel
theorem dX1_readStates_26 : decode cX1_readStates 26 = .ok (.aload_n 0, 1) := by decide +kernel
theorem dX1_readStates_27 : decode cX1_readStates 27 = .ok (.getfield 25, 3) := by decide +kernel
theorem dX1_readStates_30 : decode cX1_readStates 30 = .ok (.iload_n 1, 1) := by decide +kernel
theorem dX1_readStates_31 : decode cX1_readStates 31 = .ok (.aload_n 0, 1) := by decide +kernel
theorem dX1_readStates_32 : decode cX1_readStates 32 = .ok (.getfield 12, 3) := by decide +kernel
theorem dX1_readStates_35 : decode cX1_readStates 35 = .ok (.invokevirtual 162, 3) := by decide +kernel
theorem dX1_readStates_38 : decode cX1_readStates 38 = .ok (.aload_n 0, 1) := by decide +kernel
theorem dX1_readStates_39 : decode cX1_readStates 39 = .ok (.aload_n 0, 1) := by decide +kernel
theorem dX1_readStates_40 : decode cX1_readStates 40 = .ok (.getfield 12, 3) := by decide +kernel
theorem dX1_readStates_43 : decode cX1_readStates 43 = .ok (.invokevirtual 165, 3) := by decide +kernel
theorem dX1_readStates_46 : decode cX1_readStates 46 = .ok (.invokevirtual 129, 3) := by decide +kernel
theorem dX1_readStates_49 : decode cX1_readStates 49 = .ok (.iadd, 1) := by decide +kernel
theorem dX1_readStates_50 : decode cX1_readStates 50 = .ok (.iastore, 1) := by decide +kernel
theorem dX1_readStates_51 : decode cX1_readStates 51 = .ok (.aload_n 0, 1) := by decide +kernel
theorem dX1_readStates_52 : decode cX1_readStates 52 = .ok (.aload_n 0, 1) := by decide +kernel
theorem dX1_readStates_53 : decode cX1_readStates 53 = .ok (.getfield 12, 3) := by decide +kernel
theorem dX1_readStates_56 : decode cX1_readStates 56 = .ok (.aload_n 0, 1) := by decide +kernel
theorem dX1_readStates_57 : decode cX1_readStates 57 = .ok (.getfield 25, 3) := by decide +kernel
theorem dX1_readStates_60 : decode cX1_readStates 60 = .ok (.iload_n 1, 1) := by decide +kernel
theorem dX1_readStates_61 : decode cX1_readStates 61 = .ok (.iaload, 1) := by decide +kernel
theorem dX1_readStates_62 : decode cX1_readStates 62 = .ok (.invokevirtual 168, 3) := by decide +kernel
theorem dX1_readStates_65 : decode cX1_readStates 65 = .ok (.iconst 4, 1) := by decide +kernel
theorem dX1_readStates_66 : decode cX1_readStates 66 = .ok (.iload_n 2, 1) := by decide +kernel
theorem dX1_readStates_67 : decode cX1_readStates 67 = .ok (.invokevirtual 124, 3) := by decide +kernel
theorem dX1_readStates_70 : decode cX1_readStates 70 = .ok (.iinc 1 1, 3) := by decide +kernel
theorem dX1_readStates_73 : decode cX1_readStates 73 = .ok (.goto (-63), 3) := by decide +kernel
theorem dX1_readStates_76 : decode cX1_readStates 76 = .ok (.return_, 1) := by decide +kernel
theorem dX1_findPayload_0 : decode cX1_findPayload 0 = .ok (.aload_n 0, 1) := by decide +kernel
theorem dX1_findPayload_1 : decode cX1_findPayload 1 = .ok (.aload_n 0, 1) := by decide +kernel
theorem dX1_findPayload_2 : decode cX1_findPayload 2 = .ok (.getfield 51, 3) := by decide +kernel
theorem dX1_findPayload_5 : decode cX1_findPayload 5 = .ok (.putfield 66, 3) := by decide +kernel
theorem dX1_findPayload_8 : decode cX1_findPayload 8 = .ok (.aload_n 0, 1) := by decide +kernel
theorem dX1_findPayload_9 : decode cX1_findPayload 9 = .ok (.iconst 0, 1) := by decide +kernel
theorem dX1_findPayload_10 : decode cX1_findPayload 10 = .ok (.putfield 72, 3) := by decide +kernel
theorem dX1_findPayload_13 : decode cX1_findPayload 13 = .ok (.aload_n 0, 1) := by decide +kernel
theorem dX1_findPayload_14 : decode cX1_findPayload 14 = .ok (.aload_n 0, 1) := by decide +kernel
theorem dX1_findPayload_15 : decode cX1_findPayload 15 = .ok (.getfield 51, 3) := by decide +kernel
theorem dX1_findPayload_18 : decode cX1_findPayload 18 = .ok (.aload_n 0, 1) := by decide +kernel
theorem dX1_findPayload_19 : decode cX1_findPayload 19 = .ok (.getfield 69, 3) := by decide +kernel
theorem dX1_findPayload_22 : decode cX1_findPayload 22 = .ok (.iadd, 1) := by decide +kernel
theorem dX1_findPayload_23 : decode cX1_findPayload 23 = .ok (.aload_n 0, 1) := by decide +kernel
theorem dX1_findPayload_24 : decode cX1_findPayload 24 = .ok (.invokevirtual 120, 3) := by decide +kernel
theorem dX1_findPayload_27 : decode cX1_findPayload 27 = .ok (.if_icmp .gt 7, 3) := by decide +kernel
theorem dX1_findPayload_30 : decode cX1_findPayload 30 = .ok (.iconst 1, 1) := by decide +kernel
theorem dX1_findPayload_31 : decode cX1_findPayload 31 = .ok (.goto 4, 3) := by decide +kernel
theorem dX1_findPayload_34 : decode cX1_findPayload 34 = .ok (.iconst 0, 1) := by decide +kernel
theorem dX1_findPayload_35 : decode cX1_findPayload 35 = .ok (.iconst 1, 1) := by decide +kernel
theorem dX1_findPayload_36 : decode cX1_findPayload 36 = .ok (.aload_n 0, 1) := by decide +kernel
theorem dX1_findPayload_37 : decode cX1_findPayload 37 = .ok (.invokevirtual 120, 3) := by decide +kernel
theorem dX1_findPayload_40 : decode cX1_findPayload 40 = .ok (.invokevirtual 124, 3) := by decide +kernel
theorem dX1_findPayload_43 : decode cX1_findPayload 43 = .ok (.aload_n 0, 1) := by decide +kernel
theorem dX1_findPayload_44 : decode cX1_findPayload 44 = .ok (.aload_n 0, 1) := by decide +kernel
theorem dX1_findPayload_45 : decode cX1_findPayload 45 = .ok (.getfield 51, 3) := by decide +kernel
theorem dX1_findPayload_48 : decode cX1_findPayload 48 = .ok (.aload_n 0, 1) := by decide +kernel
theorem dX1_findPayload_49 : decode cX1_findPayload 49 = .ok (.getfield 69, 3) := by decide +kernel
theorem dX1_findPayload_52 : decode cX1_findPayload 52 = .ok (.iadd, 1) := by decide +kernel
theorem dX1_findPayload_53 : decode cX1_findPayload 53 = .ok (.aload_n 0, 1) := by decide +kernel
theorem dX1_findPayload_54 : decode cX1_findPayload 54 = .ok (.invokevirtual 120, 3) := by decide +kernel
theorem dX1_findPayload_57 : decode cX1_findPayload 57 = .ok (.if_icmp .ne 7, 3) := by decide +kernel
theorem dX1_findPayload_60 : decode cX1_findPayload 60 = .ok (.iconst 1, 1) := by decide +kernel
theorem dX1_findPayload_61 : decode cX1_findPayload 61 = .ok (.goto 4, 3) := by decide +kernel
theorem dX1_findPayload_64 : decode cX1_findPayload 64 = .ok (.iconst 0, 1) := by decide +kernel
theorem dX1_findPayload_65 : decode cX1_findPayload 65 = .ok (.bipush 8, 2) := by decide +kernel
theorem dX1_findPayload_67 : decode cX1_findPayload 67 = .ok (.aload_n 0, 1) := by decide +kernel
theorem dX1_findPayload_68 : decode cX1_findPayload 68 = .ok (.getfield 51, 3) := by decide +kernel
theorem dX1_findPayload_71 : decode cX1_findPayload 71 = .ok (.aload_n 0, 1) := by decide +kernel
theorem dX1_findPayload_72 : decode cX1_findPayload 72 = .ok (.getfield 69, 3) := by decide +kernel
theorem dX1_findPayload_75 : decode cX1_findPayload 75 = .ok (.iadd, 1) := by decide +kernel
theorem dX1_findPayload_76 : decode cX1_findPayload 76 = .ok (.invokevirtual 124, 3) := by decide +kernel
theorem dX1_findPayload_79 : decode cX1_findPayload 79 = .ok (.return_, 1) := by decide +kernel
theorem dX1_readMessage_0 : decode cX1_readMessage 0 = .ok (.aload_n 0, 1) := by decide +kernel
theorem dX1_readMessage_1 : decode cX1_readMessage 1 = .ok (.invokevirtual 84, 3) := by decide +kernel
theorem dX1_readMessage_4 : decode cX1_readMessage 4 = .ok (.ifCond .ne 4, 3) := by decide +kernel
theorem dX1_readMessage_7 : decode cX1_readMessage 7 = .ok (.return_, 1) := by decide +kernel
theorem dX1_readMessage_8 : decode cX1_readMessage 8 = .ok (.aload_n 0, 1) := by decide +kernel
theorem dX1_readMessage_9 : decode cX1_readMessage 9 = .ok (.getfield 21, 3) := by decide +kernel
theorem dX1_readMessage_12 : decode cX1_readMessage 12 = .ok (.aload_n 0, 1) := by decide +kernel
theorem dX1_readMessage_13 : decode cX1_readMessage 13 = .ok (.getfield 25, 3) := by decide +kernel
theorem dX1_readMessage_16 : decode cX1_readMessage 16 = .ok (.iconst 0, 1) := by decide +kernel
theorem dX1_readMessage_17 : decode cX1_readMessage 17 = .ok (.iaload, 1) := by decide +kernel
theorem dX1_readMessage_18 : decode cX1_readMessage 18 = .ok (.invokevirtual 171, 3) := by decide +kernel
theorem dX1_readMessage_21 : decode cX1_readMessage 21 = .ok (.aload_n 0, 1) := by decide +kernel
theorem dX1_readMessage_22 : decode cX1_readMessage 22 = .ok (.getfield 21, 3) := by decide +kernel
theorem dX1_readMessage_25 : decode cX1_readMessage 25 = .ok (.aload_n 0, 1) := by decide +kernel
theorem dX1_readMessage_26 : decode cX1_readMessage 26 = .ok (.getfield 25, 3) := by decide +kernel
theorem dX1_readMessage_29 : decode cX1_readMessage 29 = .ok (.aload_n 0, 1) := by decide +kernel
theorem dX1_readMessage_30 : decode cX1_readMessage 30 = .ok (.getfield 12, 3) := by decide +kernel
theorem dX1_readMessage_33 : decode cX1_readMessage 33 = .ok (.invokevirtual 159, 3) := by decide +kernel
theorem dX1_readMessage_36 : decode cX1_readMessage 36 = .ok (.iconst 1, 1) := by decide +kernel
theorem dX1_readMessage_37 : decode cX1_readMessage 37 = .ok (.isub, 1) := by decide +kernel
theorem dX1_readMessage_38 : decode cX1_readMessage 38 = .ok (.iaload, 1) := by decide +kernel
theorem dX1_readMessage_39 : decode cX1_readMessage 39 = .ok (.invokevirtual 174, 3) := by decide +kernel
theorem dX1_readMessage_42 : decode cX1_readMessage 42 = .ok (.iconst 0, 1) := by decide +kernel
theorem dX1_readMessage_43 : decode cX1_readMessage 43 = .ok (.istore_n 1, 1) := by decide +kernel
theorem dX1_readMessage_44 : decode cX1_readMessage 44 = .ok (.iload_n 1, 1) := by decide +kernel
theorem dX1_readMessage_45 : decode cX1_readMessage 45 = .ok (.aload_n 0, 1) := by decide +kernel
theorem dX1_readMessage_46 : decode cX1_readMessage 46 = .ok (.getfield 60, 3) := by decide +kernel
theorem dX1_readMessage_49 : decode cX1_readMessage 49 = .ok (.if_icmp .ge 28, 3) := by decide +kernel
theorem dX1_readMessage_52 : decode cX1_readMessage 52 = .ok (.iload_n 1, 1) := by decide +kernel
theorem dX1_readMessage_53 : decode cX1_readMessage 53 = .ok (.sipush 1400, 3) := by decide +kernel
theorem dX1_readMessage_56 : decode cX1_readMessage 56 = .ok (.if_icmp .ge 21, 3) := by decide +kernel
theorem dX1_readMessage_59 : decode cX1_readMessage 59 = .ok (.aload_n 0, 1) := by decide +kernel
theorem dX1_readMessage_60 : decode cX1_readMessage 60 = .ok (.invokevirtual 84, 3) := by decide +kernel
theorem dX1_readMessage_63 : decode cX1_readMessage 63 = .ok (.ifCond .eq 14, 3) := by decide +kernel
theorem dX1_readMessage_66 : decode cX1_readMessage 66 = .ok (.aload_n 0, 1) := by decide +kernel
theorem dX1_readMessage_67 : decode cX1_readMessage 67 = .ok (.iload_n 1, 1) := by decide +kernel
theorem dX1_readMessage_68 : decode cX1_readMessage 68 = .ok (.invokevirtual 177, 3) := by decide +kernel
theorem dX1_readMessage_71 : decode cX1_readMessage 71 = .ok (.iinc 1 1, 3) := by decide +kernel
theorem dX1_readMessage_74 : decode cX1_readMessage 74 = .ok (.goto (-30), 3) := by decide +kernel
theorem dX1_readMessage_77 : decode cX1_readMessage 77 = .ok (.aload_n 0, 1) := by decide +kernel
theorem dX1_readMessage_78 : decode cX1_readMessage 78 = .ok (.getfield 21, 3) := by decide +kernel
theorem dX1_readMessage_81 : decode cX1_readMessage 81 = .ok (.aload_n 0, 1) := by decide +kernel
theorem dX1_readMessage_82 : decode cX1_readMessage 82 = .ok (.getfield 12, 3) := by decide +kernel
theorem dX1_readMessage_85 : decode cX1_readMessage 85 = .ok (.getfield 180, 3) := by decide +kernel
theorem dX1_readMessage_88 : decode cX1_readMessage 88 = .ok (.invokevirtual 183, 3) := by decide +kernel
theorem dX1_readMessage_91 : decode cX1_readMessage 91 = .ok (.return_, 1) := by decide +kernel
theorem dX1_readSymbol_0 : decode cX1_readSymbol 0 = .ok (.aload_n 0, 1) := by decide +kernel
theorem dX1_readSymbol_1 : decode cX1_readSymbol 1 = .ok (.getfield 12, 3) := by decide +kernel
theorem dX1_readSymbol_4 : decode cX1_readSymbol 4 = .ok (.iload_n 1, 1) := by decide +kernel
theorem dX1_readSymbol_5 : decode cX1_readSymbol 5 = .ok (.invokevirtual 186, 3) := by decide +kernel
theorem dX1_readSymbol_8 : decode cX1_readSymbol 8 = .ok (.istore_n 2, 1) := by decide +kernel
theorem dX1_readSymbol_9 : decode cX1_readSymbol 9 = .ok (.aload_n 0, 1) := by decide +kernel
theorem dX1_readSymbol_10 : decode cX1_readSymbol 10 = .ok (.getfield 25, 3) := by decide +kernel
theorem dX1_readSymbol_13 : decode cX1_readSymbol 13 = .ok (.iload_n 2, 1) := by decide +kernel
theorem dX1_readSymbol_14 : decode cX1_readSymbol 14 = .ok (.iaload, 1) := by decide +kernel
theorem dX1_readSymbol_15 : decode cX1_readSymbol 15 = .ok (.istore_n 3, 1) := by decide +kernel
theorem dX1_readSymbol_16 : decode cX1_readSymbol 16 = .ok (.aload_n 0, 1) := by decide +kernel
theorem dX1_readSymbol_17 : decode cX1_readSymbol 17 = .ok (.getfield 29, 3) := by decide +kernel
theorem dX1_readSymbol_20 : decode cX1_readSymbol 20 = .ok (.iload_n 1, 1) := by decide +kernel
theorem dX1_readSymbol_21 : decode cX1_readSymbol 21 = .ok (.aload_n 0, 1) := by decide +kernel
theorem dX1_readSymbol_22 : decode cX1_readSymbol 22 = .ok (.getfield 12, 3) := by decide +kernel
theorem dX1_readSymbol_25 : decode cX1_readSymbol 25 = .ok (.iload_n 3, 1) := by decide +kernel
theorem dX1_readSymbol_26 : decode cX1_readSymbol 26 = .ok (.invokevirtual 189, 3) := by decide +kernel
theorem dX1_readSymbol_29 : decode cX1_readSymbol 29 = .ok (.i2b, 1) := by decide +kernel
theorem dX1_readSymbol_30 : decode cX1_readSymbol 30 = .ok (.bastore, 1) := by decide +kernel
theorem dX1_readSymbol_31 : decode cX1_readSymbol 31 = .ok (.aload_n 0, 1) := by decide +kernel
theorem dX1_readSymbol_32 : decode cX1_readSymbol 32 = .ok (.getfield 12, 3) := by decide +kernel
theorem dX1_readSymbol_35 : decode cX1_readSymbol 35 = .ok (.iload_n 3, 1) := by decide +kernel
theorem dX1_readSymbol_36 : decode cX1_readSymbol 36 = .ok (.invokevirtual 192, 3) := by decide +kernel
theorem dX1_readSymbol_39 : decode cX1_readSymbol 39 = .ok (.istore_n 3, 1) := by decide +kernel
theorem dX1_readSymbol_40 : decode cX1_readSymbol 40 = .ok (.iconst 0, 1) := by decide +kernel
theorem dX1_readSymbol_41 : decode cX1_readSymbol 41 = .ok (.istore 4, 2) := by decide +kernel
theorem dX1_readSymbol_43 : decode cX1_readSymbol 43 = .ok (.iconst 0, 1) := by decide +kernel
theorem dX1_readSymbol_44 : decode cX1_readSymbol 44 = .ok (.istore 5, 2) := by decide +kernel
theorem dX1_readSymbol_46 : decode cX1_readSymbol 46 = .ok (.iload 5, 2) := by decide +kernel
theorem dX1_readSymbol_48 : decode cX1_readSymbol 48 = .ok (.bipush 12, 2) := by decide +kernel
theorem dX1_readSymbol_50 : decode cX1_readSymbol 50 = .ok (.if_icmp .ge 38, 3) := by decide +kernel
theorem dX1_readSymbol_53 : decode cX1_readSymbol 53 = .ok (.iload_n 3, 1) := by decide +kernel
theorem dX1_readSymbol_54 : decode cX1_readSymbol 54 = .ok (.aload_n 0, 1) := by decide +kernel
theorem dX1_readSymbol_55 : decode cX1_readSymbol 55 = .ok (.getfield 12, 3) := by decide +kernel
theorem dX1_readSymbol_58 : decode cX1_readSymbol 58 = .ok (.getfield 195, 3) := by decide +kernel
theorem dX1_readSymbol_61 : decode cX1_readSymbol 61 = .ok (.if_icmp .ge 27, 3) := by decide +kernel
theorem dX1_readSymbol_64 : decode cX1_readSymbol 64 = .ok (.iload_n 3, 1) := by decide +kernel
theorem dX1_readSymbol_65 : decode cX1_readSymbol 65 = .ok (.aload_n 0, 1) := by decide +kernel
theorem dX1_readSymbol_66 : decode cX1_readSymbol 66 = .ok (.getfield 12, 3) := by decide +kernel
theorem dX1_readSymbol_69 : decode cX1_readSymbol 69 = .ok (.getfield 180, 3) := by decide +kernel
theorem dX1_readSymbol_72 : decode cX1_readSymbol 72 = .ok (.ishl, 1) := by decide +kernel
theorem dX1_readSymbol_73 : decode cX1_readSymbol 73 = .ok (.aload_n 0, 1) := by decide +kernel
theorem dX1_readSymbol_74 : decode cX1_readSymbol 74 = .ok (.invokevirtual 198, 3) := by decide +kernel
theorem dX1_readSymbol_77 : decode cX1_readSymbol 77 = .ok (.ior, 1) := by decide +kernel
theorem dX1_readSymbol_78 : decode cX1_readSymbol 78 = .ok (.istore_n 3, 1) := by decide +kernel
theorem dX1_readSymbol_79 : decode cX1_readSymbol 79 = .ok (.iinc 4 1, 3) := by decide +kernel
theorem dX1_readSymbol_82 : decode cX1_readSymbol 82 = .ok (.iinc 5 1, 3) := by decide +kernel
theorem dX1_readSymbol_85 : decode cX1_readSymbol 85 = .ok (.goto (-39), 3) := by decide +kernel
theorem dX1_readSymbol_88 : decode cX1_readSymbol 88 = .ok (.aload_n 0, 1) := by decide +kernel
theorem dX1_readSymbol_89 : decode cX1_readSymbol 89 = .ok (.getfield 25, 3) := by decide +kernel
theorem dX1_readSymbol_92 : decode cX1_readSymbol 92 = .ok (.iload_n 2, 1) := by decide +kernel
theorem dX1_readSymbol_93 : decode cX1_readSymbol 93 = .ok (.iload_n 3, 1) := by decide +kernel
theorem dX1_readSymbol_94 : decode cX1_readSymbol 94 = .ok (.iastore, 1) := by decide +kernel
theorem dX1_readSymbol_95 : decode cX1_readSymbol 95 = .ok (.aload_n 0, 1) := by decide +kernel
theorem dX1_readSymbol_96 : decode cX1_readSymbol 96 = .ok (.getfield 21, 3) := by decide +kernel
theorem dX1_readSymbol_99 : decode cX1_readSymbol 99 = .ok (.iload_n 3, 1) := by decide +kernel
theorem dX1_readSymbol_100 : decode cX1_readSymbol 100 = .ok (.iload 4, 2) := by decide +kernel
theorem dX1_readSymbol_102 : decode cX1_readSymbol 102 = .ok (.invokevirtual 201, 3) := by decide +kernel
theorem dX1_readSymbol_105 : decode cX1_readSymbol 105 = .ok (.return_, 1) := by decide +kernel
theorem dX1_readUnit_0 : decode cX1_readUnit 0 = .ok (.aload_n 0, 1) := by decide +kernel
theorem dX1_readUnit_1 : decode cX1_readUnit 1 = .ok (.getfield 12, 3) := by decide +kernel
theorem dX1_readUnit_4 : decode cX1_readUnit 4 = .ok (.getfield 180, 3) := by decide +kernel
theorem dX1_readUnit_7 : decode cX1_readUnit 7 = .ok (.istore_n 1, 1) := by decide +kernel
theorem dX1_readUnit_8 : decode cX1_readUnit 8 = .ok (.aload_n 0, 1) := by decide +kernel
theorem dX1_readUnit_9 : decode cX1_readUnit 9 = .ok (.aload_n 0, 1) := by decide +kernel
theorem dX1_readUnit_10 : decode cX1_readUnit 10 = .ok (.getfield 72, 3) := by decide +kernel
theorem dX1_readUnit_13 : decode cX1_readUnit 13 = .ok (.iload_n 1, 1) := by decide +kernel
theorem dX1_readUnit_14 : decode cX1_readUnit 14 = .ok (.iadd, 1) := by decide +kernel
theorem dX1_readUnit_15 : decode cX1_readUnit 15 = .ok (.bipush 8, 2) := by decide +kernel
theorem dX1_readUnit_17 : decode cX1_readUnit 17 = .ok (.aload_n 0, 1) := by decide +kernel
theorem dX1_readUnit_18 : decode cX1_readUnit 18 = .ok (.getfield 69, 3) := by decide +kernel
theorem dX1_readUnit_21 : decode cX1_readUnit 21 = .ok (.imul, 1) := by decide +kernel
theorem dX1_readUnit_22 : decode cX1_readUnit 22 = .ok (.if_icmp .gt 7, 3) := by decide +kernel
theorem dX1_readUnit_25 : decode cX1_readUnit 25 = .ok (.iconst 1, 1) := by decide +kernel
theorem dX1_readUnit_26 : decode cX1_readUnit 26 = .ok (.goto 4, 3) := by decide +kernel
theorem dX1_readUnit_29 : decode cX1_readUnit 29 = .ok (.iconst 0, 1) := by decide +kernel
theorem dX1_readUnit_30 : decode cX1_readUnit 30 = .ok (.iconst 5, 1) := by decide +kernel
theorem dX1_readUnit_31 : decode cX1_readUnit 31 = .ok (.aload_n 0, 1) := by decide +kernel
theorem dX1_readUnit_32 : decode cX1_readUnit 32 = .ok (.getfield 66, 3) := by decide +kernel
theorem dX1_readUnit_35 : decode cX1_readUnit 35 = .ok (.aload_n 0, 1) := by decide +kernel
theorem dX1_readUnit_36 : decode cX1_readUnit 36 = .ok (.getfield 69, 3) := by decide +kernel
theorem dX1_readUnit_39 : decode cX1_readUnit 39 = .ok (.iadd, 1) := by decide +kernel
theorem dX1_readUnit_40 : decode cX1_readUnit 40 = .ok (.invokevirtual 124, 3) := by decide +kernel
theorem dX1_readUnit_43 : decode cX1_readUnit 43 = .ok (.aload_n 0, 1) := by decide +kernel
theorem dX1_readUnit_44 : decode cX1_readUnit 44 = .ok (.invokevirtual 84, 3) := by decide +kernel
theorem dX1_readUnit_47 : decode cX1_readUnit 47 = .ok (.ifCond .ne 5, 3) := by decide +kernel
theorem dX1_readUnit_50 : decode cX1_readUnit 50 = .ok (.iconst 0, 1) := by decide +kernel
theorem dX1_readUnit_51 : decode cX1_readUnit 51 = .ok (.ireturn, 1) := by decide +kernel
theorem dX1_readUnit_52 : decode cX1_readUnit 52 = .ok (.bipush 8, 2) := by decide +kernel
theorem dX1_readUnit_54 : decode cX1_readUnit 54 = .ok (.iload_n 1, 1) := by decide +kernel
theorem dX1_readUnit_55 : decode cX1_readUnit 55 = .ok (.isub, 1) := by decide +kernel
theorem dX1_readUnit_56 : decode cX1_readUnit 56 = .ok (.aload_n 0, 1) := by decide +kernel
theorem dX1_readUnit_57 : decode cX1_readUnit 57 = .ok (.getfield 72, 3) := by decide +kernel
theorem dX1_readUnit_60 : decode cX1_readUnit 60 = .ok (.bipush 8, 2) := by decide +kernel
theorem dX1_readUnit_62 : decode cX1_readUnit 62 = .ok (.irem, 1) := by decide +kernel
theorem dX1_readUnit_63 : decode cX1_readUnit 63 = .ok (.isub, 1) := by decide +kernel
theorem dX1_readUnit_64 : decode cX1_readUnit 64 = .ok (.istore_n 2, 1) := by decide +kernel
theorem dX1_readUnit_65 : decode cX1_readUnit 65 = .ok (.aload_n 0, 1) := by decide +kernel
theorem dX1_readUnit_66 : decode cX1_readUnit 66 = .ok (.aload_n 0, 1) := by decide +kernel
theorem dX1_readUnit_67 : decode cX1_readUnit 67 = .ok (.getfield 66, 3) := by decide +kernel
theorem dX1_readUnit_70 : decode cX1_readUnit 70 = .ok (.aload_n 0, 1) := by decide +kernel
theorem dX1_readUnit_71 : decode cX1_readUnit 71 = .ok (.getfield 72, 3) := by decide +kernel
theorem dX1_readUnit_74 : decode cX1_readUnit 74 = .ok (.bipush 8, 2) := by decide +kernel
theorem dX1_readUnit_76 : decode cX1_readUnit 76 = .ok (.idiv, 1) := by decide +kernel
theorem dX1_readUnit_77 : decode cX1_readUnit 77 = .ok (.iadd, 1) := by decide +kernel
theorem dX1_readUnit_78 : decode cX1_readUnit 78 = .ok (.invokevirtual 128, 3) := by decide +kernel
theorem dX1_readUnit_81 : decode cX1_readUnit 81 = .ok (.iload_n 2, 1) := by decide +kernel
theorem dX1_readUnit_82 : decode cX1_readUnit 82 = .ok (.ishr, 1) := by decide +kernel
theorem dX1_readUnit_83 : decode cX1_readUnit 83 = .ok (.iconst 1, 1) := by decide +kernel
theorem dX1_readUnit_84 : decode cX1_readUnit 84 = .ok (.iload_n 1, 1) := by decide +kernel
theorem dX1_readUnit_85 : decode cX1_readUnit 85 = .ok (.ishl, 1) := by decide +kernel
theorem dX1_readUnit_86 : decode cX1_readUnit 86 = .ok (.iconst 1, 1) := by decide +kernel
theorem dX1_readUnit_87 : decode cX1_readUnit 87 = .ok (.isub, 1) := by decide +kernel
theorem dX1_readUnit_88 : decode cX1_readUnit 88 = .ok (.iand, 1) := by decide +kernel
theorem dX1_readUnit_89 : decode cX1_readUnit 89 = .ok (.istore_n 3, 1) := by decide +kernel
theorem dX1_readUnit_90 : decode cX1_readUnit 90 = .ok (.aload_n 0, 1) := by decide +kernel
theorem dX1_readUnit_91 : decode cX1_readUnit 91 = .ok (.dup, 1) := by decide +kernel
theorem dX1_readUnit_92 : decode cX1_readUnit 92 = .ok (.getfield 72, 3) := by decide +kernel
theorem dX1_readUnit_95 : decode cX1_readUnit 95 = .ok (.iload_n 1, 1) := by decide +kernel
theorem dX1_readUnit_96 : decode cX1_readUnit 96 = .ok (.iadd, 1) := by decide +kernel
theorem dX1_readUnit_97 : decode cX1_readUnit 97 = .ok (.putfield 72, 3) := by decide +kernel
theorem dX1_readUnit_100 : decode cX1_readUnit 100 = .ok (.iload_n 3, 1) := by decide +kernel
theorem dX1_readUnit_101 : decode cX1_readUnit 101 = .ok (.ireturn, 1) := by decide +kernel
theorem dX1_checkPayloadEnd_0 : decode cX1_checkPayloadEnd 0 = .ok (.aload_n 0, 1) := by decide +kernel
theorem dX1_checkPayloadEnd_1 : decode cX1_checkPayloadEnd 1 = .ok (.getfield 72, 3) := by decide +kernel
theorem dX1_checkPayloadEnd_4 : decode cX1_checkPayloadEnd 4 = .ok (.bipush 8, 2) := by decide +kernel
theorem dX1_checkPayloadEnd_6 : decode cX1_checkPayloadEnd 6 = .ok (.idiv, 1) := by decide +kernel
theorem dX1_checkPayloadEnd_7 : decode cX1_checkPayloadEnd 7 = .ok (.istore_n 1, 1) := by decide +kernel
theorem dX1_checkPayloadEnd_8 : decode cX1_checkPayloadEnd 8 = .ok (.aload_n 0, 1) := by decide +kernel
theorem dX1_checkPayloadEnd_9 : decode cX1_checkPayloadEnd 9 = .ok (.getfield 72, 3) := by decide +kernel
theorem dX1_checkPayloadEnd_12 : decode cX1_checkPayloadEnd 12 = .ok (.bipush 8, 2) := by decide +kernel
theorem dX1_checkPayloadEnd_14 : decode cX1_checkPayloadEnd 14 = .ok (.irem, 1) := by decide +kernel
theorem dX1_checkPayloadEnd_15 : decode cX1_checkPayloadEnd 15 = .ok (.istore_n 2, 1) := by decide +kernel
theorem dX1_checkPayloadEnd_16 : decode cX1_checkPayloadEnd 16 = .ok (.iload_n 2, 1) := by decide +kernel
theorem dX1_checkPayloadEnd_17 : decode cX1_checkPayloadEnd 17 = .ok (.ifCond .le 44, 3) := by decide +kernel
theorem dX1_checkPayloadEnd_20 : decode cX1_checkPayloadEnd 20 = .ok (.aload_n 0, 1) := by decide +kernel
theorem dX1_checkPayloadEnd_21 : decode cX1_checkPayloadEnd 21 = .ok (.aload_n 0, 1) := by decide +kernel
theorem dX1_checkPayloadEnd_22 : decode cX1_checkPayloadEnd 22 = .ok (.getfield 66, 3) := by decide +kernel
theorem dX1_checkPayloadEnd_25 : decode cX1_checkPayloadEnd 25 = .ok (.iload_n 1, 1) := by decide +kernel
theorem dX1_checkPayloadEnd_26 : decode cX1_checkPayloadEnd 26 = .ok (.iadd, 1) := by decide +kernel
theorem dX1_checkPayloadEnd_27 : decode cX1_checkPayloadEnd 27 = .ok (.invokevirtual 128, 3) := by decide +kernel
theorem dX1_checkPayloadEnd_30 : decode cX1_checkPayloadEnd 30 = .ok (.iload_n 2, 1) := by decide +kernel
theorem dX1_checkPayloadEnd_31 : decode cX1_checkPayloadEnd 31 = .ok (.ishl, 1) := by decide +kernel
theorem dX1_checkPayloadEnd_32 : decode cX1_checkPayloadEnd 32 = .ok (.sipush 255, 3) := by decide +kernel
theorem dX1_checkPayloadEnd_35 : decode cX1_checkPayloadEnd 35 = .ok (.iand, 1) := by decide +kernel
theorem dX1_checkPayloadEnd_36 : decode cX1_checkPayloadEnd 36 = .ok (.istore_n 3, 1) := by decide +kernel
theorem dX1_checkPayloadEnd_37 : decode cX1_checkPayloadEnd 37 = .ok (.aload_n 0, 1) := by decide +kernel
theorem dX1_checkPayloadEnd_38 : decode cX1_checkPayloadEnd 38 = .ok (.iload_n 3, 1) := by decide +kernel
theorem dX1_checkPayloadEnd_39 : decode cX1_checkPayloadEnd 39 = .ok (.ifCond .ne 7, 3) := by decide +kernel
theorem dX1_checkPayloadEnd_42 : decode cX1_checkPayloadEnd 42 = .ok (.iconst 1, 1) := by decide +kernel
theorem dX1_checkPayloadEnd_43 : decode cX1_checkPayloadEnd 43 = .ok (.goto 4, 3) := by decide +kernel
theorem dX1_checkPayloadEnd_46 : decode cX1_checkPayloadEnd 46 = .ok (.iconst 0, 1) := by decide +kernel
theorem dX1_checkPayloadEnd_47 : decode cX1_checkPayloadEnd 47 = .ok (.bipush 6, 2) := by decide +kernel
theorem dX1_checkPayloadEnd_49 : decode cX1_checkPayloadEnd 49 = .ok (.aload_n 0, 1) := by decide +kernel
theorem dX1_checkPayloadEnd_50 : decode cX1_checkPayloadEnd 50 = .ok (.getfield 66, 3) := by decide +kernel
theorem dX1_checkPayloadEnd_53 : decode cX1_checkPayloadEnd 53 = .ok (.iload_n 1, 1) := by decide +kernel
theorem dX1_checkPayloadEnd_54 : decode cX1_checkPayloadEnd 54 = .ok (.iadd, 1) := by decide +kernel
theorem dX1_checkPayloadEnd_55 : decode cX1_checkPayloadEnd 55 = .ok (.invokevirtual 124, 3) := by decide +kernel
theorem dX1_checkPayloadEnd_58 : decode cX1_checkPayloadEnd 58 = .ok (.iinc 1 1, 3) := by decide +kernel
theorem dX1_checkPayloadEnd_61 : decode cX1_checkPayloadEnd 61 = .ok (.aload_n 0, 1) := by decide +kernel
theorem dX1_checkPayloadEnd_62 : decode cX1_checkPayloadEnd 62 = .ok (.iload_n 1, 1) := by decide +kernel
theorem dX1_checkPayloadEnd_63 : decode cX1_checkPayloadEnd 63 = .ok (.aload_n 0, 1) := by decide +kernel
theorem dX1_checkPayloadEnd_64 : decode cX1_checkPayloadEnd 64 = .ok (.getfield 69, 3) := by decide +kernel
theorem dX1_checkPayloadEnd_67 : decode cX1_checkPayloadEnd 67 = .ok (.if_icmp .lt 7, 3) := by decide +kernel
theorem dX1_checkPayloadEnd_70 : decode cX1_checkPayloadEnd 70 = .ok (.iconst 1, 1) := by decide +kernel
theorem dX1_checkPayloadEnd_71 : decode cX1_checkPayloadEnd 71 = .ok (.goto 4, 3) := by decide +kernel
theorem dX1_checkPayloadEnd_74 : decode cX1_checkPayloadEnd 74 = .ok (.iconst 0, 1) := by decide +kernel
theorem dX1_checkPayloadEnd_75 : decode cX1_checkPayloadEnd 75 = .ok (.bipush 6, 2) := by decide +kernel
theorem dX1_checkPayloadEnd_77 : decode cX1_checkPayloadEnd 77 = .ok (.aload_n 0, 1) := by decide +kernel
theorem dX1_checkPayloadEnd_78 : decode cX1_checkPayloadEnd 78 = .ok (.getfield 66, 3) := by decide +kernel
theorem dX1_checkPayloadEnd_81 : decode cX1_checkPayloadEnd 81 = .ok (.iload_n 1, 1) := by decide +kernel
theorem dX1_checkPayloadEnd_82 : decode cX1_checkPayloadEnd 82 = .ok (.iadd, 1) := by decide +kernel
theorem dX1_checkPayloadEnd_83 : decode cX1_checkPayloadEnd 83 = .ok (.invokevirtual 124, 3) := by decide +kernel
theorem dX1_checkPayloadEnd_86 : decode cX1_checkPayloadEnd 86 = .ok (.return_, 1) := by decide +kernel
theorem dX1_checkStates_0 : decode cX1_checkStates 0 = .ok (.iconst 0, 1) := by decide +kernel
theorem dX1_checkStates_1 : decode cX1_checkStates 1 = .ok (.istore_n 1, 1) := by decide +kernel
theorem dX1_checkStates_2 : decode cX1_checkStates 2 = .ok (.iload_n 1, 1) := by decide +kernel
theorem dX1_checkStates_3 : decode cX1_checkStates 3 = .ok (.aload_n 0, 1) := by decide +kernel
theorem dX1_checkStates_4 : decode cX1_checkStates 4 = .ok (.getfield 12, 3) := by decide +kernel
theorem dX1_checkStates_7 : decode cX1_checkStates 7 = .ok (.invokevirtual 159, 3) := by decide +kernel
theorem dX1_checkStates_10 : decode cX1_checkStates 10 = .ok (.if_icmp .ge 50, 3) := by decide +kernel
theorem dX1_checkStates_13 : decode cX1_checkStates 13 = .ok (.aload_n 0, 1) := by decide +kernel
theorem dX1_checkStates_14 : decode cX1_checkStates 14 = .ok (.aload_n 0, 1) := by decide +kernel
theorem dX1_checkStates_15 : decode cX1_checkStates 15 = .ok (.getfield 25, 3) := by decide +kernel
theorem dX1_checkStates_18 : decode cX1_checkStates 18 = .ok (.iload_n 1, 1) := by decide +kernel
theorem dX1_checkStates_19 : decode cX1_checkStates 19 = .ok (.iaload, 1) := by decide +kernel
theorem dX1_checkStates_20 : decode cX1_checkStates 20 = .ok (.aload_n 0, 1) := by decide +kernel
theorem dX1_checkStates_21 : decode cX1_checkStates 21 = .ok (.getfield 12, 3) := by decide +kernel
theorem dX1_checkStates_24 : decode cX1_checkStates 24 = .ok (.getfield 195, 3) := by decide +kernel
theorem dX1_checkStates_27 : decode cX1_checkStates 27 = .ok (.if_icmp .ne 7, 3) := by decide +kernel
theorem dX1_checkStates_30 : decode cX1_checkStates 30 = .ok (.iconst 1, 1) := by decide +kernel
theorem dX1_checkStates_31 : decode cX1_checkStates 31 = .ok (.goto 4, 3) := by decide +kernel
theorem dX1_checkStates_34 : decode cX1_checkStates 34 = .ok (.iconst 0, 1) := by decide +kernel
theorem dX1_checkStates_35 : decode cX1_checkStates 35 = .ok (.bipush 7, 2) := by decide +kernel
theorem dX1_checkStates_37 : decode cX1_checkStates 37 = .ok (.aload_n 0, 1) := by decide +kernel
theorem dX1_checkStates_38 : decode cX1_checkStates 38 = .ok (.getfield 63, 3) := by decide +kernel
theorem dX1_checkStates_41 : decode cX1_checkStates 41 = .ok (.iload_n 1, 1) := by decide +kernel
theorem dX1_checkStates_42 : decode cX1_checkStates 42 = .ok (.aload_n 0, 1) := by decide +kernel
theorem dX1_checkStates_43 : decode cX1_checkStates 43 = .ok (.getfield 12, 3) := by decide +kernel
theorem dX1_checkStates_46 : decode cX1_checkStates 46 = .ok (.invokevirtual 165, 3) := by decide +kernel
theorem dX1_checkStates_49 : decode cX1_checkStates 49 = .ok (.imul, 1) := by decide +kernel
theorem dX1_checkStates_50 : decode cX1_checkStates 50 = .ok (.iadd, 1) := by decide +kernel
theorem dX1_checkStates_51 : decode cX1_checkStates 51 = .ok (.invokevirtual 124, 3) := by decide +kernel
theorem dX1_checkStates_54 : decode cX1_checkStates 54 = .ok (.iinc 1 1, 3) := by decide +kernel
theorem dX1_checkStates_57 : decode cX1_checkStates 57 = .ok (.goto (-55), 3) := by decide +kernel
theorem dX1_checkStates_60 : decode cX1_checkStates 60 = .ok (.return_, 1) := by decide +kernel
theorem dX2_init_0 : decode cX2_init 0 = .ok (.aload_n 0, 1) := by decide +kernel
theorem dX2_init_1 : decode cX2_init 1 = .ok (.invokespecial 3, 3) := by decide +kernel
theorem dX2_init_4 : decode cX2_init 4 = .ok (.aload_n 0, 1) := by decide +kernel
theorem dX2_init_5 : decode cX2_init 5 = .ok (.new 9, 3) := by decide +kernel
theorem dX2_init_8 : decode cX2_init 8 = .ok (.dup, 1) := by decide +kernel
theorem dX2_init_9 : decode cX2_init 9 = .ok (.invokespecial 11, 3) := by decide +kernel
theorem dX2_init_12 : decode cX2_init 12 = .ok (.putfield 12, 3) := by decide +kernel
theorem dX2_init_15 : decode cX2_init 15 = .ok (.aload_n 0, 1) := by decide +kernel
theorem dX2_init_16 : decode cX2_init 16 = .ok (.iconst 2, 1) := by decide +kernel
theorem dX2_init_17 : decode cX2_init 17 = .ok (.newarray .int, 2) := by decide +kernel
theorem dX2_init_19 : decode cX2_init 19 = .ok (.putfield 18, 3) := by decide +kernel
theorem dX2_init_22 : decode cX2_init 22 = .ok (.aload_n 0, 1) := by decide +kernel
theorem dX2_init_23 : decode cX2_init 23 = .ok (.sipush 1400, 3) := by decide +kernel
theorem dX2_init_26 : decode cX2_init 26 = .ok (.newarray .int, 2) := by decide +kernel
theorem dX2_init_28 : decode cX2_init 28 = .ok (.putfield 22, 3) := by decide +kernel
theorem dX2_init_31 : decode cX2_init 31 = .ok (.return_, 1) := by decide +kernel
theorem dX2_codeMessage_0 : decode cX2_codeMessage 0 = .ok (.aload_n 0, 1) := by decide +kernel
theorem dX2_codeMessage_1 : decode cX2_codeMessage 1 = .ok (.getfield 18, 3) := by decide +kernel
theorem dX2_codeMessage_4 : decode cX2_codeMessage 4 = .ok (.aload_n 1, 1) := by decide +kernel
theorem dX2_codeMessage_5 : decode cX2_codeMessage 5 = .ok (.getfield 25, 3) := by decide +kernel
theorem dX2_codeMessage_8 : decode cX2_codeMessage 8 = .ok (.invokestatic 31, 3) := by decide +kernel
theorem dX2_codeMessage_11 : decode cX2_codeMessage 11 = .ok (.aload_n 0, 1) := by decide +kernel
theorem dX2_codeMessage_12 : decode cX2_codeMessage 12 = .ok (.getfield 12, 3) := by decide +kernel
theorem dX2_codeMessage_15 : decode cX2_codeMessage 15 = .ok (.aload_n 1, 1) := by decide +kernel
theorem dX2_codeMessage_16 : decode cX2_codeMessage 16 = .ok (.getfield 25, 3) := by decide +kernel
theorem dX2_codeMessage_19 : decode cX2_codeMessage 19 = .ok (.invokevirtual 37, 3) := by decide +kernel
theorem dX2_codeMessage_22 : decode cX2_codeMessage 22 = .ok (.aload_n 2, 1) := by decide +kernel
theorem dX2_codeMessage_23 : decode cX2_codeMessage 23 = .ok (.getfield 41, 3) := by decide +kernel
theorem dX2_codeMessage_26 : decode cX2_codeMessage 26 = .ok (.sipush 1400, 3) := by decide +kernel
theorem dX2_codeMessage_29 : decode cX2_codeMessage 29 = .ok (.invokestatic 46, 3) := by decide +kernel
theorem dX2_codeMessage_32 : decode cX2_codeMessage 32 = .ok (.iconst 1, 1) := by decide +kernel
theorem dX2_codeMessage_33 : decode cX2_codeMessage 33 = .ok (.isub, 1) := by decide +kernel
theorem dX2_codeMessage_34 : decode cX2_codeMessage 34 = .ok (.istore_n 3, 1) := by decide +kernel
theorem dX2_codeMessage_35 : decode cX2_codeMessage 35 = .ok (.iload_n 3, 1) := by decide +kernel
theorem dX2_codeMessage_36 : decode cX2_codeMessage 36 = .ok (.ifCond .lt 76, 3) := by decide +kernel
theorem dX2_codeMessage_39 : decode cX2_codeMessage 39 = .ok (.aload_n 1, 1) := by decide +kernel
theorem dX2_codeMessage_40 : decode cX2_codeMessage 40 = .ok (.iload_n 3, 1) := by decide +kernel
theorem dX2_codeMessage_41 : decode cX2_codeMessage 41 = .ok (.invokevirtual 52, 3) := by decide +kernel
theorem dX2_codeMessage_44 : decode cX2_codeMessage 44 = .ok (.istore 4, 2) := by decide +kernel
theorem dX2_codeMessage_46 : decode cX2_codeMessage 46 = .ok (.aload_n 1, 1) := by decide +kernel
theorem dX2_codeMessage_47 : decode cX2_codeMessage 47 = .ok (.aload_n 0, 1) := by decide +kernel
theorem dX2_codeMessage_48 : decode cX2_codeMessage 48 = .ok (.getfield 18, 3) := by decide +kernel
theorem dX2_codeMessage_51 : decode cX2_codeMessage 51 = .ok (.iload 4, 2) := by decide +kernel
theorem dX2_codeMessage_53 : decode cX2_codeMessage 53 = .ok (.iaload, 1) := by decide +kernel
theorem dX2_codeMessage_54 : decode cX2_codeMessage 54 = .ok (.aload_n 2, 1) := by decide +kernel
theorem dX2_codeMessage_55 : decode cX2_codeMessage 55 = .ok (.iload_n 3, 1) := by decide +kernel
theorem dX2_codeMessage_56 : decode cX2_codeMessage 56 = .ok (.invokevirtual 56, 3) := by decide +kernel
theorem dX2_codeMessage_59 : decode cX2_codeMessage 59 = .ok (.invokevirtual 59, 3) := by decide +kernel
theorem dX2_codeMessage_62 : decode cX2_codeMessage 62 = .ok (.aload_n 0, 1) := by decide +kernel
theorem dX2_codeMessage_63 : decode cX2_codeMessage 63 = .ok (.getfield 18, 3) := by decide +kernel
theorem dX2_codeMessage_66 : decode cX2_codeMessage 66 = .ok (.iload 4, 2) := by decide +kernel
theorem dX2_codeMessage_68 : decode cX2_codeMessage 68 = .ok (.aload_n 1, 1) := by decide +kernel
theorem dX2_codeMessage_69 : decode cX2_codeMessage 69 = .ok (.getfield 63, 3) := by decide +kernel
theorem dX2_codeMessage_72 : decode cX2_codeMessage 72 = .ok (.iastore, 1) := by decide +kernel
theorem dX2_codeMessage_73 : decode cX2_codeMessage 73 = .ok (.aload_n 0, 1) := by decide +kernel
theorem dX2_codeMessage_74 : decode cX2_codeMessage 74 = .ok (.getfield 22, 3) := by decide +kernel
theorem dX2_codeMessage_77 : decode cX2_codeMessage 77 = .ok (.iload_n 3, 1) := by decide +kernel
theorem dX2_codeMessage_78 : decode cX2_codeMessage 78 = .ok (.aload_n 1, 1) := by decide +kernel
theorem dX2_codeMessage_79 : decode cX2_codeMessage 79 = .ok (.getfield 66, 3) := by decide +kernel
theorem dX2_codeMessage_82 : decode cX2_codeMessage 82 = .ok (.bipush 16, 2) := by decide +kernel
theorem dX2_codeMessage_84 : decode cX2_codeMessage 84 = .ok (.ishl, 1) := by decide +kernel
theorem dX2_codeMessage_85 : decode cX2_codeMessage 85 = .ok (.aload_n 1, 1) := by decide +kernel
theorem dX2_codeMessage_86 : decode cX2_codeMessage 86 = .ok (.getfield 69, 3) := by decide +kernel
theorem dX2_codeMessage_89 : decode cX2_codeMessage 89 = .ok (.ior, 1) := by decide +kernel
theorem dX2_codeMessage_90 : decode cX2_codeMessage 90 = .ok (.iastore, 1) := by decide +kernel
theorem dX2_codeMessage_91 : decode cX2_codeMessage 91 = .ok (.aload_n 0, 1) := by decide +kernel
theorem dX2_codeMessage_92 : decode cX2_codeMessage 92 = .ok (.getfield 12, 3) := by decide +kernel
theorem dX2_codeMessage_95 : decode cX2_codeMessage 95 = .ok (.aload_n 1, 1) := by decide +kernel
theorem dX2_codeMessage_96 : decode cX2_codeMessage 96 = .ok (.getfield 63, 3) := by decide +kernel
theorem dX2_codeMessage_99 : decode cX2_codeMessage 99 = .ok (.aload_n 1, 1) := by decide +kernel
theorem dX2_codeMessage_100 : decode cX2_codeMessage 100 = .ok (.getfield 66, 3) := by decide +kernel
theorem dX2_codeMessage_103 : decode cX2_codeMessage 103 = .ok (.invokevirtual 72, 3) := by decide +kernel
theorem dX2_codeMessage_106 : decode cX2_codeMessage 106 = .ok (.iinc 3 (-1), 3) := by decide +kernel
theorem dX2_codeMessage_109 : decode cX2_codeMessage 109 = .ok (.goto (-74), 3) := by decide +kernel
theorem dX2_codeMessage_112 : decode cX2_codeMessage 112 = .ok (.aload_n 0, 1) := by decide +kernel
theorem dX2_codeMessage_113 : decode cX2_codeMessage 113 = .ok (.getfield 12, 3) := by decide +kernel
theorem dX2_codeMessage_116 : decode cX2_codeMessage 116 = .ok (.aload_n 1, 1) := by decide +kernel
theorem dX2_codeMessage_117 : decode cX2_codeMessage 117 = .ok (.getfield 75, 3) := by decide +kernel
theorem dX2_codeMessage_120 : decode cX2_codeMessage 120 = .ok (.invokevirtual 78, 3) := by decide +kernel
theorem dX2_codeMessage_123 : decode cX2_codeMessage 123 = .ok (.return_, 1) := by decide +kernel
theorem dX2_writePacket_0 : decode cX2_writePacket 0 = .ok (.aload_n 3, 1) := by decide +kernel
theorem dX2_writePacket_1 : decode cX2_writePacket 1 = .ok (.iconst 0, 1) := by decide +kernel
theorem dX2_writePacket_2 : decode cX2_writePacket 2 = .ok (.putfield 41, 3) := by decide +kernel
theorem dX2_writePacket_5 : decode cX2_writePacket 5 = .ok (.aload_n 3, 1) := by decide +kernel
theorem dX2_writePacket_6 : decode cX2_writePacket 6 = .ok (.bipush 83, 2) := by decide +kernel
theorem dX2_writePacket_8 : decode cX2_writePacket 8 = .ok (.invokevirtual 81, 3) := by decide +kernel
theorem dX2_writePacket_11 : decode cX2_writePacket 11 = .ok (.aload_n 3, 1) := by decide +kernel
theorem dX2_writePacket_12 : decode cX2_writePacket 12 = .ok (.iconst 4, 1) := by decide +kernel
theorem dX2_writePacket_13 : decode cX2_writePacket 13 = .ok (.aload_n 1, 1) := by decide +kernel
theorem dX2_writePacket_14 : decode cX2_writePacket 14 = .ok (.getfield 84, 3) := by decide +kernel
theorem dX2_writePacket_17 : decode cX2_writePacket 17 = .ok (.imul, 1) := by decide +kernel
theorem dX2_writePacket_18 : decode cX2_writePacket 18 = .ok (.aload_n 1, 1) := by decide +kernel
theorem dX2_writePacket_19 : decode cX2_writePacket 19 = .ok (.getfield 87, 3) := by decide +kernel
theorem dX2_writePacket_22 : decode cX2_writePacket 22 = .ok (.getfield 91, 3) := by decide +kernel
theorem dX2_writePacket_25 : decode cX2_writePacket 25 = .ok (.iadd, 1) := by decide +kernel
theorem dX2_writePacket_26 : decode cX2_writePacket 26 = .ok (.invokevirtual 81, 3) := by decide +kernel
theorem dX2_writePacket_29 : decode cX2_writePacket 29 = .ok (.aload_n 3, 1) := by decide +kernel
theorem dX2_writePacket_30 : decode cX2_writePacket 30 = .ok (.aload_n 2, 1) := by decide +kernel
theorem dX2_writePacket_31 : decode cX2_writePacket 31 = .ok (.getfield 96, 3) := by decide +kernel
theorem dX2_writePacket_34 : decode cX2_writePacket 34 = .ok (.invokevirtual 81, 3) := by decide +kernel
theorem dX2_writePacket_37 : decode cX2_writePacket 37 = .ok (.aload_n 3, 1) := by decide +kernel
theorem dX2_writePacket_38 : decode cX2_writePacket 38 = .ok (.aload_n 2, 1) := by decide +kernel
theorem dX2_writePacket_39 : decode cX2_writePacket 39 = .ok (.invokevirtual 101, 3) := by decide +kernel
theorem dX2_writePacket_42 : decode cX2_writePacket 42 = .ok (.iconst 1, 1) := by decide +kernel
theorem dX2_writePacket_43 : decode cX2_writePacket 43 = .ok (.isub, 1) := by decide +kernel
theorem dX2_writePacket_44 : decode cX2_writePacket 44 = .ok (.invokevirtual 81, 3) := by decide +kernel
theorem dX2_writePacket_47 : decode cX2_writePacket 47 = .ok (.iconst 0, 1) := by decide +kernel
theorem dX2_writePacket_48 : decode cX2_writePacket 48 = .ok (.istore 4, 2) := by decide +kernel
theorem dX2_writePacket_50 : decode cX2_writePacket 50 = .ok (.iload 4, 2) := by decide +kernel
theorem dX2_writePacket_52 : decode cX2_writePacket 52 = .ok (.sipush 256, 3) := by decide +kernel
theorem dX2_writePacket_55 : decode cX2_writePacket 55 = .ok (.if_icmp .ge 35, 3) := by decide +kernel
theorem dX2_writePacket_58 : decode cX2_writePacket 58 = .ok (.aload_n 2, 1) := by decide +kernel
theorem dX2_writePacket_59 : decode cX2_writePacket 59 = .ok (.iload 4, 2) := by decide +kernel
theorem dX2_writePacket_61 : decode cX2_writePacket 61 = .ok (.invokevirtual 105, 3) := by decide +kernel
theorem dX2_writePacket_64 : decode cX2_writePacket 64 = .ok (.ifCond .le 20, 3) := by decide +kernel
theorem dX2_writePacket_67 : decode cX2_writePacket 67 = .ok (.aload_n 3, 1) := by decide +kernel
theorem dX2_writePacket_68 : decode cX2_writePacket 68 = .ok (.iload 4, 2) := by decide +kernel
theorem dX2_writePacket_70 : decode cX2_writePacket 70 = .ok (.invokevirtual 81, 3) := by decide +kernel
theorem dX2_writePacket_73 : decode cX2_writePacket 73 = .ok (.aload_n 3, 1) := by decide +kernel
theorem dX2_writePacket_74 : decode cX2_writePacket 74 = .ok (.aload_n 2, 1) := by decide +kernel
theorem dX2_writePacket_75 : decode cX2_writePacket 75 = .ok (.iload 4, 2) := by decide +kernel
theorem dX2_writePacket_77 : decode cX2_writePacket 77 = .ok (.invokevirtual 105, 3) := by decide +kernel
theorem dX2_writePacket_80 : decode cX2_writePacket 80 = .ok (.iconst 2, 1) := by decide +kernel
theorem dX2_writePacket_81 : decode cX2_writePacket 81 = .ok (.invokevirtual 108, 3) := by decide +kernel
theorem dX2_writePacket_84 : decode cX2_writePacket 84 = .ok (.iinc 4 1, 3) := by decide +kernel
theorem dX2_writePacket_87 : decode cX2_writePacket 87 = .ok (.goto (-37), 3) := by decide +kernel
theorem dX2_writePacket_90 : decode cX2_writePacket 90 = .ok (.aload_n 3, 1) := by decide +kernel
theorem dX2_writePacket_91 : decode cX2_writePacket 91 = .ok (.aload_n 0, 1) := by decide +kernel
theorem dX2_writePacket_92 : decode cX2_writePacket 92 = .ok (.getfield 12, 3) := by decide +kernel
theorem dX2_writePacket_95 : decode cX2_writePacket 95 = .ok (.getfield 111, 3) := by decide +kernel
theorem dX2_writePacket_98 : decode cX2_writePacket 98 = .ok (.iconst 2, 1) := by decide +kernel
theorem dX2_writePacket_99 : decode cX2_writePacket 99 = .ok (.iaload, 1) := by decide +kernel
theorem dX2_writePacket_100 : decode cX2_writePacket 100 = .ok (.iconst 2, 1) := by decide +kernel
theorem dX2_writePacket_101 : decode cX2_writePacket 101 = .ok (.invokevirtual 108, 3) := by decide +kernel
theorem dX2_writePacket_104 : decode cX2_writePacket 104 = .ok (.aload_n 3, 1) := by decide +kernel
theorem dX2_writePacket_105 : decode cX2_writePacket 105 = .ok (.aload_n 0, 1) := by decide +kernel
theorem dX2_writePacket_106 : decode cX2_writePacket 106 = .ok (.getfield 12, 3) := by decide +kernel
theorem dX2_writePacket_109 : decode cX2_writePacket 109 = .ok (.getfield 111, 3) := by decide +kernel
theorem dX2_writePacket_112 : decode cX2_writePacket 112 = .ok (.iconst 4, 1) := by decide +kernel
theorem dX2_writePacket_113 : decode cX2_writePacket 113 = .ok (.iaload, 1) := by decide +kernel
theorem dX2_writePacket_114 : decode cX2_writePacket 114 = .ok (.iconst 2, 1) := by decide +kernel
theorem dX2_writePacket_115 : decode cX2_writePacket 115 = .ok (.invokevirtual 108, 3) := by decide +kernel
