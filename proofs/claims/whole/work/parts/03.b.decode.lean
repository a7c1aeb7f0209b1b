theorem dX6_spread_12 : decode cX6_spread 12 = .ok (.aload_n 0, 1) := by decide +kernel
theorem dX6_spread_13 : decode cX6_spread 13 = .ok (.getfield 44, 3) := by decide +kernel
theorem dX6_spread_16 : decode cX6_spread 16 = .ok (.if_icmp .ge 101, 3) := by decide +kernel
theorem dX6_spread_19 : decode cX6_spread 19 = .ok (.aload_n 0, 1) := by decide +kernel
theorem dX6_spread_20 : decode cX6_spread 20 = .ok (.getfield 44, 3) := by decide +kernel
theorem dX6_spread_23 : decode cX6_spread 23 = .ok (.sipush 4000, 3) := by decide +kernel
theorem dX6_spread_26 : decode cX6_spread 26 = .ok (.invokestatic 100, 3) := by decide +kernel
theorem dX6_spread_29 : decode cX6_spread 29 = .ok (.istore_n 3, 1) := by decide +kernel
theorem dX6_spread_30 : decode cX6_spread 30 = .ok (.iload_n 1, 1) := by decide +kernel
theorem dX6_spread_31 : decode cX6_spread 31 = .ok (.iload_n 3, 1) := by decide +kernel
theorem dX6_spread_32 : decode cX6_spread 32 = .ok (.if_icmp .ge 79, 3) := by decide +kernel
theorem dX6_spread_35 : decode cX6_spread 35 = .ok (.aload_n 0, 1) := by decide +kernel
theorem dX6_spread_36 : decode cX6_spread 36 = .ok (.getfield 41, 3) := by decide +kernel
theorem dX6_spread_39 : decode cX6_spread 39 = .ok (.iload_n 1, 1) := by decide +kernel
theorem dX6_spread_40 : decode cX6_spread 40 = .ok (.iaload, 1) := by decide +kernel
theorem dX6_spread_41 : decode cX6_spread 41 = .ok (.sipush 16383, 3) := by decide +kernel
theorem dX6_spread_44 : decode cX6_spread 44 = .ok (.iand, 1) := by decide +kernel
theorem dX6_spread_45 : decode cX6_spread 45 = .ok (.istore 4, 2) := by decide +kernel
theorem dX6_spread_47 : decode cX6_spread 47 = .ok (.aload_n 0, 1) := by decide +kernel
theorem dX6_spread_48 : decode cX6_spread 48 = .ok (.getfield 41, 3) := by decide +kernel
theorem dX6_spread_51 : decode cX6_spread 51 = .ok (.iload_n 1, 1) := by decide +kernel
theorem dX6_spread_52 : decode cX6_spread 52 = .ok (.iaload, 1) := by decide +kernel
theorem dX6_spread_53 : decode cX6_spread 53 = .ok (.bipush 14, 2) := by decide +kernel
theorem dX6_spread_55 : decode cX6_spread 55 = .ok (.ishr, 1) := by decide +kernel
theorem dX6_spread_56 : decode cX6_spread 56 = .ok (.istore 5, 2) := by decide +kernel
theorem dX6_spread_58 : decode cX6_spread 58 = .ok (.aload_n 0, 1) := by decide +kernel
theorem dX6_spread_59 : decode cX6_spread 59 = .ok (.iload 4, 2) := by decide +kernel
theorem dX6_spread_61 : decode cX6_spread 61 = .ok (.invokevirtual 106, 3) := by decide +kernel
theorem dX6_spread_64 : decode cX6_spread 64 = .ok (.ifCond .eq 24, 3) := by decide +kernel
theorem dX6_spread_67 : decode cX6_spread 67 = .ok (.aload_n 0, 1) := by decide +kernel
theorem dX6_spread_68 : decode cX6_spread 68 = .ok (.iload_n 2, 1) := by decide +kernel
theorem dX6_spread_69 : decode cX6_spread 69 = .ok (.putfield 11, 3) := by decide +kernel
theorem dX6_spread_72 : decode cX6_spread 72 = .ok (.aload_n 0, 1) := by decide +kernel
theorem dX6_spread_73 : decode cX6_spread 73 = .ok (.iload_n 2, 1) := by decide +kernel
theorem dX6_spread_74 : decode cX6_spread 74 = .ok (.ifCond .ne 8, 3) := by decide +kernel
theorem dX6_spread_77 : decode cX6_spread 77 = .ok (.bipush (-4), 2) := by decide +kernel
theorem dX6_spread_79 : decode cX6_spread 79 = .ok (.goto 5, 3) := by decide +kernel
theorem dX6_spread_82 : decode cX6_spread 82 = .ok (.iload 5, 2) := by decide +kernel
theorem dX6_spread_84 : decode cX6_spread 84 = .ok (.putfield 15, 3) := by decide +kernel
theorem dX6_spread_87 : decode cX6_spread 87 = .ok (.return_, 1) := by decide +kernel
theorem dX6_spread_88 : decode cX6_spread 88 = .ok (.aload_n 0, 1) := by decide +kernel
theorem dX6_spread_89 : decode cX6_spread 89 = .ok (.iload 4, 2) := by decide +kernel
theorem dX6_spread_91 : decode cX6_spread 91 = .ok (.iload_n 2, 1) := by decide +kernel
theorem dX6_spread_92 : decode cX6_spread 92 = .ok (.ifCond .ne 7, 3) := by decide +kernel
theorem dX6_spread_95 : decode cX6_spread 95 = .ok (.iconst 1, 1) := by decide +kernel
theorem dX6_spread_96 : decode cX6_spread 96 = .ok (.goto 4, 3) := by decide +kernel
theorem dX6_spread_99 : decode cX6_spread 99 = .ok (.iconst 0, 1) := by decide +kernel
theorem dX6_spread_100 : decode cX6_spread 100 = .ok (.iload 5, 2) := by decide +kernel
theorem dX6_spread_102 : decode cX6_spread 102 = .ok (.invokevirtual 110, 3) := by decide +kernel
theorem dX6_spread_105 : decode cX6_spread 105 = .ok (.iinc 1 1, 3) := by decide +kernel
theorem dX6_spread_108 : decode cX6_spread 108 = .ok (.goto (-78), 3) := by decide +kernel
theorem dX6_spread_111 : decode cX6_spread 111 = .ok (.iinc 2 1, 3) := by decide +kernel
theorem dX6_spread_114 : decode cX6_spread 114 = .ok (.goto (-110), 3) := by decide +kernel
theorem dX6_spread_117 : decode cX6_spread 117 = .ok (.return_, 1) := by decide +kernel
set_option maxRecDepth 20000 in
theorem ggX6_enqueueNext_X6_courtIn : GoodIn wsX6_enqueueNext wsX6_courtIn := goodIn_r _ [8, 9, 10, 7, 11] (by decide +kernel) (by decide +kernel)
set_option maxRecDepth 20000 in
theorem gX6_enqueueNext_X6_courtIn : GoodIn wsX6_enqueueNext (va_wsS RX6 114 yX6_courtIn wsX6_courtIn) := goodIn_app (goodIn_of _ (by decide +kernel)) ggX6_enqueueNext_X6_courtIn
set_option maxRecDepth 20000 in
theorem ggX6_enqueueNext_X2_beyond : GoodIn wsX6_enqueueNext wsX2_beyond := goodIn_r _ [16, 17, 18, 19, 20, 21, 15, 22, 23, 42, 43, 44, 45, 46, 47, 48, 49] (by decide +kernel) (by decide +kernel)
set_option maxRecDepth 20000 in
theorem gX6_enqueueNext_X2_beyond : GoodIn wsX6_enqueueNext (wsV RX6 117 RX2 yX2_beyond wsX2_beyond) := goodIn_app (goodIn_of _ (by decide +kernel)) ggX6_enqueueNext_X2_beyond
set_option maxRecDepth 20000 in
theorem ggX6_enqueueNext_X6_courtShift : GoodIn wsX6_enqueueNext wsX6_courtShift := goodIn_r _ [11] (by decide +kernel) (by decide +kernel)
set_option maxRecDepth 20000 in
theorem gX6_enqueueNext_X6_courtShift : GoodIn wsX6_enqueueNext (va_wsS RX6 97 yX6_courtShift wsX6_courtShift) := goodIn_app (goodIn_of _ (by decide +kernel)) ggX6_enqueueNext_X6_courtShift
set_option maxRecDepth 20000 in
theorem ggX6_enqueueNext_X6_enqueue : GoodIn wsX6_enqueueNext wsX6_enqueue := goodIn_r _ [27, 28, 29, 30, 31, 32, 33, 34, 35, 36, 37, 38, 39, 40, 41] (by decide +kernel) (by decide +kernel)
set_option maxRecDepth 20000 in
theorem gX6_enqueueNext_X6_enqueue : GoodIn wsX6_enqueueNext (wsV RX6 68 RX6 yX6_enqueue wsX6_enqueue) := goodIn_app (goodIn_of _ (by decide +kernel)) ggX6_enqueueNext_X6_enqueue
theorem dX6_enqueueNext_0 : decode cX6_enqueueNext 0 = .ok (.iconst 0, 1) := by decide +kernel
theorem dX6_enqueueNext_1 : decode cX6_enqueueNext 1 = .ok (.istore 4, 2) := by decide +kernel
theorem dX6_enqueueNext_3 : decode cX6_enqueueNext 3 = .ok (.iload 4, 2) := by decide +kernel
theorem dX6_enqueueNext_5 : decode cX6_enqueueNext 5 = .ok (.iconst 3, 1) := by decide +kernel
theorem dX6_enqueueNext_6 : decode cX6_enqueueNext 6 = .ok (.if_icmp .ge 143, 3) := by decide +kernel
theorem dX6_enqueueNext_9 : decode cX6_enqueueNext 9 = .ok (.iload 4, 2) := by decide +kernel
theorem dX6_enqueueNext_11 : decode cX6_enqueueNext 11 = .ok (.aload_n 0, 1) := by decide +kernel
theorem dX6_enqueueNext_12 : decode cX6_enqueueNext 12 = .ok (.getfield 21, 3) := by decide +kernel
theorem dX6_enqueueNext_15 : decode cX6_enqueueNext 15 = .ok (.getfield 91, 3) := by decide +kernel
theorem dX6_enqueueNext_18 : decode cX6_enqueueNext 18 = .ok (.if_icmp .ge 131, 3) := by decide +kernel
theorem dX6_enqueueNext_21 : decode cX6_enqueueNext 21 = .ok (.iload_n 1, 1) := by decide +kernel
theorem dX6_enqueueNext_22 : decode cX6_enqueueNext 22 = .ok (.iload 4, 2) := by decide +kernel
theorem dX6_enqueueNext_24 : decode cX6_enqueueNext 24 = .ok (.invokestatic 114, 3) := by decide +kernel
theorem dX6_enqueueNext_27 : decode cX6_enqueueNext 27 = .ok (.istore 5, 2) := by decide +kernel
theorem dX6_enqueueNext_29 : decode cX6_enqueueNext 29 = .ok (.iload 5, 2) := by decide +kernel
theorem dX6_enqueueNext_31 : decode cX6_enqueueNext 31 = .ok (.iconst 5, 1) := by decide +kernel
theorem dX6_enqueueNext_32 : decode cX6_enqueueNext 32 = .ok (.if_icmp .ge 17, 3) := by decide +kernel
theorem dX6_enqueueNext_35 : decode cX6_enqueueNext 35 = .ok (.aload_n 0, 1) := by decide +kernel
theorem dX6_enqueueNext_36 : decode cX6_enqueueNext 36 = .ok (.getfield 34, 3) := by decide +kernel
theorem dX6_enqueueNext_39 : decode cX6_enqueueNext 39 = .ok (.iload 5, 2) := by decide +kernel
theorem dX6_enqueueNext_41 : decode cX6_enqueueNext 41 = .ok (.iaload, 1) := by decide +kernel
theorem dX6_enqueueNext_42 : decode cX6_enqueueNext 42 = .ok (.iload_n 1, 1) := by decide +kernel
theorem dX6_enqueueNext_43 : decode cX6_enqueueNext 43 = .ok (.iconst (-1), 1) := by decide +kernel
theorem dX6_enqueueNext_44 : decode cX6_enqueueNext 44 = .ok (.ixor, 1) := by decide +kernel
theorem dX6_enqueueNext_45 : decode cX6_enqueueNext 45 = .ok (.iand, 1) := by decide +kernel
theorem dX6_enqueueNext_46 : decode cX6_enqueueNext 46 = .ok (.goto 4, 3) := by decide +kernel
theorem dX6_enqueueNext_49 : decode cX6_enqueueNext 49 = .ok (.iconst 0, 1) := by decide +kernel
theorem dX6_enqueueNext_50 : decode cX6_enqueueNext 50 = .ok (.istore 6, 2) := by decide +kernel
theorem dX6_enqueueNext_52 : decode cX6_enqueueNext 52 = .ok (.iconst 0, 1) := by decide +kernel
theorem dX6_enqueueNext_53 : decode cX6_enqueueNext 53 = .ok (.istore 7, 2) := by decide +kernel
theorem dX6_enqueueNext_55 : decode cX6_enqueueNext 55 = .ok (.iload 7, 2) := by decide +kernel
theorem dX6_enqueueNext_57 : decode cX6_enqueueNext 57 = .ok (.iconst 5, 1) := by decide +kernel
theorem dX6_enqueueNext_58 : decode cX6_enqueueNext 58 = .ok (.if_icmp .ge 85, 3) := by decide +kernel
theorem dX6_enqueueNext_61 : decode cX6_enqueueNext 61 = .ok (.iload 6, 2) := by decide +kernel
theorem dX6_enqueueNext_63 : decode cX6_enqueueNext 63 = .ok (.iload 7, 2) := by decide +kernel
theorem dX6_enqueueNext_65 : decode cX6_enqueueNext 65 = .ok (.ishr, 1) := by decide +kernel
theorem dX6_enqueueNext_66 : decode cX6_enqueueNext 66 = .ok (.ifCond .eq 77, 3) := by decide +kernel
theorem dX6_enqueueNext_69 : decode cX6_enqueueNext 69 = .ok (.iload 6, 2) := by decide +kernel
theorem dX6_enqueueNext_71 : decode cX6_enqueueNext 71 = .ok (.iload 7, 2) := by decide +kernel
theorem dX6_enqueueNext_73 : decode cX6_enqueueNext 73 = .ok (.ishr, 1) := by decide +kernel
theorem dX6_enqueueNext_74 : decode cX6_enqueueNext 74 = .ok (.iconst 1, 1) := by decide +kernel
theorem dX6_enqueueNext_75 : decode cX6_enqueueNext 75 = .ok (.iand, 1) := by decide +kernel
theorem dX6_enqueueNext_76 : decode cX6_enqueueNext 76 = .ok (.ifCond .eq 61, 3) := by decide +kernel
theorem dX6_enqueueNext_79 : decode cX6_enqueueNext 79 = .ok (.iload_n 1, 1) := by decide +kernel
theorem dX6_enqueueNext_80 : decode cX6_enqueueNext 80 = .ok (.aload_n 0, 1) := by decide +kernel
theorem dX6_enqueueNext_81 : decode cX6_enqueueNext 81 = .ok (.getfield 38, 3) := by decide +kernel
theorem dX6_enqueueNext_84 : decode cX6_enqueueNext 84 = .ok (.iload 7, 2) := by decide +kernel
theorem dX6_enqueueNext_86 : decode cX6_enqueueNext 86 = .ok (.iaload, 1) := by decide +kernel
theorem dX6_enqueueNext_87 : decode cX6_enqueueNext 87 = .ok (.ior, 1) := by decide +kernel
theorem dX6_enqueueNext_88 : decode cX6_enqueueNext 88 = .ok (.istore 8, 2) := by decide +kernel
theorem dX6_enqueueNext_90 : decode cX6_enqueueNext 90 = .ok (.iload 8, 2) := by decide +kernel
theorem dX6_enqueueNext_92 : decode cX6_enqueueNext 92 = .ok (.iload 5, 2) := by decide +kernel
theorem dX6_enqueueNext_94 : decode cX6_enqueueNext 94 = .ok (.aload_n 0, 1) := by decide +kernel
theorem dX6_enqueueNext_95 : decode cX6_enqueueNext 95 = .ok (.getfield 21, 3) := by decide +kernel
theorem dX6_enqueueNext_98 : decode cX6_enqueueNext 98 = .ok (.iload 5, 2) := by decide +kernel
theorem dX6_enqueueNext_100 : decode cX6_enqueueNext 100 = .ok (.iload 7, 2) := by decide +kernel
theorem dX6_enqueueNext_102 : decode cX6_enqueueNext 102 = .ok (.invokevirtual 117, 3) := by decide +kernel
theorem dX6_enqueueNext_105 : decode cX6_enqueueNext 105 = .ok (.ixor, 1) := by decide +kernel
theorem dX6_enqueueNext_106 : decode cX6_enqueueNext 106 = .ok (.iload 4, 2) := by decide +kernel
theorem dX6_enqueueNext_108 : decode cX6_enqueueNext 108 = .ok (.invokestatic 97, 3) := by decide +kernel
theorem dX6_enqueueNext_111 : decode cX6_enqueueNext 111 = .ok (.ishl, 1) := by decide +kernel
theorem dX6_enqueueNext_112 : decode cX6_enqueueNext 112 = .ok (.ixor, 1) := by decide +kernel
theorem dX6_enqueueNext_113 : decode cX6_enqueueNext 113 = .ok (.istore 8, 2) := by decide +kernel
theorem dX6_enqueueNext_115 : decode cX6_enqueueNext 115 = .ok (.aload_n 0, 1) := by decide +kernel
theorem dX6_enqueueNext_116 : decode cX6_enqueueNext 116 = .ok (.iload 8, 2) := by decide +kernel
theorem dX6_enqueueNext_118 : decode cX6_enqueueNext 118 = .ok (.iload_n 2, 1) := by decide +kernel
theorem dX6_enqueueNext_119 : decode cX6_enqueueNext 119 = .ok (.ifCond .eq 14, 3) := by decide +kernel
theorem dX6_enqueueNext_122 : decode cX6_enqueueNext 122 = .ok (.bipush 10, 2) := by decide +kernel
theorem dX6_enqueueNext_124 : decode cX6_enqueueNext 124 = .ok (.iload 4, 2) := by decide +kernel
theorem dX6_enqueueNext_126 : decode cX6_enqueueNext 126 = .ok (.imul, 1) := by decide +kernel
theorem dX6_enqueueNext_127 : decode cX6_enqueueNext 127 = .ok (.iload 7, 2) := by decide +kernel
theorem dX6_enqueueNext_129 : decode cX6_enqueueNext 129 = .ok (.iadd, 1) := by decide +kernel
theorem dX6_enqueueNext_130 : decode cX6_enqueueNext 130 = .ok (.goto 4, 3) := by decide +kernel
theorem dX6_enqueueNext_133 : decode cX6_enqueueNext 133 = .ok (.iload_n 3, 1) := by decide +kernel
theorem dX6_enqueueNext_134 : decode cX6_enqueueNext 134 = .ok (.invokevirtual 68, 3) := by decide +kernel
theorem dX6_enqueueNext_137 : decode cX6_enqueueNext 137 = .ok (.iinc 7 1, 3) := by decide +kernel
theorem dX6_enqueueNext_140 : decode cX6_enqueueNext 140 = .ok (.goto (-85), 3) := by decide +kernel
theorem dX6_enqueueNext_143 : decode cX6_enqueueNext 143 = .ok (.iinc 4 1, 3) := by decide +kernel
theorem dX6_enqueueNext_146 : decode cX6_enqueueNext 146 = .ok (.goto (-143), 3) := by decide +kernel
theorem dX6_enqueueNext_149 : decode cX6_enqueueNext 149 = .ok (.return_, 1) := by decide +kernel
theorem dX6_enqueue_0 : decode cX6_enqueue 0 = .ok (.iload_n 1, 1) := by decide +kernel
theorem dX6_enqueue_1 : decode cX6_enqueue 1 = .ok (.bipush 6, 2) := by decide +kernel
theorem dX6_enqueue_3 : decode cX6_enqueue 3 = .ok (.ishr, 1) := by decide +kernel
theorem dX6_enqueue_4 : decode cX6_enqueue 4 = .ok (.istore_n 3, 1) := by decide +kernel
theorem dX6_enqueue_5 : decode cX6_enqueue 5 = .ok (.iload_n 3, 1) := by decide +kernel
theorem dX6_enqueue_6 : decode cX6_enqueue 6 = .ok (.ifCond .lt 22, 3) := by decide +kernel
theorem dX6_enqueue_9 : decode cX6_enqueue 9 = .ok (.iload_n 3, 1) := by decide +kernel
theorem dX6_enqueue_10 : decode cX6_enqueue 10 = .ok (.aload_n 0, 1) := by decide +kernel
theorem dX6_enqueue_11 : decode cX6_enqueue 11 = .ok (.getfield 47, 3) := by decide +kernel
theorem dX6_enqueue_14 : decode cX6_enqueue 14 = .ok (.arraylength, 1) := by decide +kernel
theorem dX6_enqueue_15 : decode cX6_enqueue 15 = .ok (.if_icmp .ge 13, 3) := by decide +kernel
theorem dX6_enqueue_18 : decode cX6_enqueue 18 = .ok (.aload_n 0, 1) := by decide +kernel
theorem dX6_enqueue_19 : decode cX6_enqueue 19 = .ok (.getfield 44, 3) := by decide +kernel
theorem dX6_enqueue_22 : decode cX6_enqueue 22 = .ok (.sipush 4000, 3) := by decide +kernel
theorem dX6_enqueue_25 : decode cX6_enqueue 25 = .ok (.if_icmp .lt 4, 3) := by decide +kernel
theorem dX6_enqueue_28 : decode cX6_enqueue 28 = .ok (.return_, 1) := by decide +kernel
theorem dX6_enqueue_29 : decode cX6_enqueue 29 = .ok (.lconst 1, 1) := by decide +kernel
theorem dX6_enqueue_30 : decode cX6_enqueue 30 = .ok (.iload_n 1, 1) := by decide +kernel
theorem dX6_enqueue_31 : decode cX6_enqueue 31 = .ok (.bipush 63, 2) := by decide +kernel
theorem dX6_enqueue_33 : decode cX6_enqueue 33 = .ok (.iand, 1) := by decide +kernel
theorem dX6_enqueue_34 : decode cX6_enqueue 34 = .ok (.lshl, 1) := by decide +kernel
theorem dX6_enqueue_35 : decode cX6_enqueue 35 = .ok (.lstore 4, 2) := by decide +kernel
theorem dX6_enqueue_37 : decode cX6_enqueue 37 = .ok (.aload_n 0, 1) := by decide +kernel
theorem dX6_enqueue_38 : decode cX6_enqueue 38 = .ok (.getfield 47, 3) := by decide +kernel
theorem dX6_enqueue_41 : decode cX6_enqueue 41 = .ok (.iload_n 3, 1) := by decide +kernel
theorem dX6_enqueue_42 : decode cX6_enqueue 42 = .ok (.laload, 1) := by decide +kernel
theorem dX6_enqueue_43 : decode cX6_enqueue 43 = .ok (.lload 4, 2) := by decide +kernel
theorem dX6_enqueue_45 : decode cX6_enqueue 45 = .ok (.land, 1) := by decide +kernel
theorem dX6_enqueue_46 : decode cX6_enqueue 46 = .ok (.lconst 0, 1) := by decide +kernel
theorem dX6_enqueue_47 : decode cX6_enqueue 47 = .ok (.lcmp, 1) := by decide +kernel
theorem dX6_enqueue_48 : decode cX6_enqueue 48 = .ok (.ifCond .ne 39, 3) := by decide +kernel
theorem dX6_enqueue_51 : decode cX6_enqueue 51 = .ok (.aload_n 0, 1) := by decide +kernel
theorem dX6_enqueue_52 : decode cX6_enqueue 52 = .ok (.getfield 47, 3) := by decide +kernel
theorem dX6_enqueue_55 : decode cX6_enqueue 55 = .ok (.iload_n 3, 1) := by decide +kernel
theorem dX6_enqueue_56 : decode cX6_enqueue 56 = .ok (.dup2, 1) := by decide +kernel
theorem dX6_enqueue_57 : decode cX6_enqueue 57 = .ok (.laload, 1) := by decide +kernel
theorem dX6_enqueue_58 : decode cX6_enqueue 58 = .ok (.lload 4, 2) := by decide +kernel
theorem dX6_enqueue_60 : decode cX6_enqueue 60 = .ok (.lor, 1) := by decide +kernel
theorem dX6_enqueue_61 : decode cX6_enqueue 61 = .ok (.lastore, 1) := by decide +kernel
theorem dX6_enqueue_62 : decode cX6_enqueue 62 = .ok (.aload_n 0, 1) := by decide +kernel
theorem dX6_enqueue_63 : decode cX6_enqueue 63 = .ok (.getfield 41, 3) := by decide +kernel
theorem dX6_enqueue_66 : decode cX6_enqueue 66 = .ok (.aload_n 0, 1) := by decide +kernel
theorem dX6_enqueue_67 : decode cX6_enqueue 67 = .ok (.getfield 44, 3) := by decide +kernel
theorem dX6_enqueue_70 : decode cX6_enqueue 70 = .ok (.iload_n 2, 1) := by decide +kernel
theorem dX6_enqueue_71 : decode cX6_enqueue 71 = .ok (.bipush 14, 2) := by decide +kernel
theorem dX6_enqueue_73 : decode cX6_enqueue 73 = .ok (.ishl, 1) := by decide +kernel
theorem dX6_enqueue_74 : decode cX6_enqueue 74 = .ok (.iload_n 1, 1) := by decide +kernel
theorem dX6_enqueue_75 : decode cX6_enqueue 75 = .ok (.ior, 1) := by decide +kernel
theorem dX6_enqueue_76 : decode cX6_enqueue 76 = .ok (.iastore, 1) := by decide +kernel
theorem dX6_enqueue_77 : decode cX6_enqueue 77 = .ok (.aload_n 0, 1) := by decide +kernel
theorem dX6_enqueue_78 : decode cX6_enqueue 78 = .ok (.dup, 1) := by decide +kernel
theorem dX6_enqueue_79 : decode cX6_enqueue 79 = .ok (.getfield 44, 3) := by decide +kernel
theorem dX6_enqueue_82 : decode cX6_enqueue 82 = .ok (.iconst 1, 1) := by decide +kernel
theorem dX6_enqueue_83 : decode cX6_enqueue 83 = .ok (.iadd, 1) := by decide +kernel
theorem dX6_enqueue_84 : decode cX6_enqueue 84 = .ok (.putfield 44, 3) := by decide +kernel
theorem dX6_enqueue_87 : decode cX6_enqueue 87 = .ok (.return_, 1) := by decide +kernel
set_option maxRecDepth 20000 in
theorem ggX6_isGoal_X6_courtIn : GoodIn wsX6_isGoal wsX6_courtIn := goodIn_r _ [9, 10, 11, 8, 12] (by decide +kernel) (by decide +kernel)
set_option maxRecDepth 20000 in
theorem gX6_isGoal_X6_courtIn : GoodIn wsX6_isGoal (va_wsS RX6 114 yX6_courtIn wsX6_courtIn) := goodIn_app (goodIn_of _ (by decide +kernel)) ggX6_isGoal_X6_courtIn
theorem dX6_isGoal_0 : decode cX6_isGoal 0 = .ok (.aload_n 0, 1) := by decide +kernel
theorem dX6_isGoal_1 : decode cX6_isGoal 1 = .ok (.getfield 28, 3) := by decide +kernel
theorem dX6_isGoal_4 : decode cX6_isGoal 4 = .ok (.iconst 2, 1) := by decide +kernel
theorem dX6_isGoal_5 : decode cX6_isGoal 5 = .ok (.if_icmp .ne 24, 3) := by decide +kernel
theorem dX6_isGoal_8 : decode cX6_isGoal 8 = .ok (.aload_n 0, 1) := by decide +kernel
theorem dX6_isGoal_9 : decode cX6_isGoal 9 = .ok (.getfield 25, 3) := by decide +kernel
theorem dX6_isGoal_12 : decode cX6_isGoal 12 = .ok (.iload_n 1, 1) := by decide +kernel
theorem dX6_isGoal_13 : decode cX6_isGoal 13 = .ok (.iconst (-1), 1) := by decide +kernel
theorem dX6_isGoal_14 : decode cX6_isGoal 14 = .ok (.ixor, 1) := by decide +kernel
theorem dX6_isGoal_15 : decode cX6_isGoal 15 = .ok (.iand, 1) := by decide +kernel
theorem dX6_isGoal_16 : decode cX6_isGoal 16 = .ok (.aload_n 0, 1) := by decide +kernel
theorem dX6_isGoal_17 : decode cX6_isGoal 17 = .ok (.getfield 31, 3) := by decide +kernel
theorem dX6_isGoal_20 : decode cX6_isGoal 20 = .ok (.if_icmp .ne 7, 3) := by decide +kernel
theorem dX6_isGoal_23 : decode cX6_isGoal 23 = .ok (.iconst 1, 1) := by decide +kernel
theorem dX6_isGoal_24 : decode cX6_isGoal 24 = .ok (.goto 4, 3) := by decide +kernel
theorem dX6_isGoal_27 : decode cX6_isGoal 27 = .ok (.iconst 0, 1) := by decide +kernel
theorem dX6_isGoal_28 : decode cX6_isGoal 28 = .ok (.ireturn, 1) := by decide +kernel
theorem dX6_isGoal_29 : decode cX6_isGoal 29 = .ok (.iconst 0, 1) := by decide +kernel
theorem dX6_isGoal_30 : decode cX6_isGoal 30 = .ok (.istore_n 2, 1) := by decide +kernel
theorem dX6_isGoal_31 : decode cX6_isGoal 31 = .ok (.iconst 0, 1) := by decide +kernel
theorem dX6_isGoal_32 : decode cX6_isGoal 32 = .ok (.istore_n 3, 1) := by decide +kernel
theorem dX6_isGoal_33 : decode cX6_isGoal 33 = .ok (.iload_n 3, 1) := by decide +kernel
theorem dX6_isGoal_34 : decode cX6_isGoal 34 = .ok (.iconst 3, 1) := by decide +kernel
theorem dX6_isGoal_35 : decode cX6_isGoal 35 = .ok (.if_icmp .ge 40, 3) := by decide +kernel
theorem dX6_isGoal_38 : decode cX6_isGoal 38 = .ok (.iload_n 3, 1) := by decide +kernel
theorem dX6_isGoal_39 : decode cX6_isGoal 39 = .ok (.aload_n 0, 1) := by decide +kernel
theorem dX6_isGoal_40 : decode cX6_isGoal 40 = .ok (.getfield 21, 3) := by decide +kernel
theorem dX6_isGoal_43 : decode cX6_isGoal 43 = .ok (.getfield 91, 3) := by decide +kernel
theorem dX6_isGoal_46 : decode cX6_isGoal 46 = .ok (.if_icmp .ge 29, 3) := by decide +kernel
theorem dX6_isGoal_49 : decode cX6_isGoal 49 = .ok (.iload_n 2, 1) := by decide +kernel
theorem dX6_isGoal_50 : decode cX6_isGoal 50 = .ok (.iload_n 1, 1) := by decide +kernel
theorem dX6_isGoal_51 : decode cX6_isGoal 51 = .ok (.iload_n 3, 1) := by decide +kernel
theorem dX6_isGoal_52 : decode cX6_isGoal 52 = .ok (.invokestatic 114, 3) := by decide +kernel
theorem dX6_isGoal_55 : decode cX6_isGoal 55 = .ok (.aload_n 0, 1) := by decide +kernel
theorem dX6_isGoal_56 : decode cX6_isGoal 56 = .ok (.getfield 31, 3) := by decide +kernel
theorem dX6_isGoal_59 : decode cX6_isGoal 59 = .ok (.if_icmp .ne 7, 3) := by decide +kernel
theorem dX6_isGoal_62 : decode cX6_isGoal 62 = .ok (.iconst 1, 1) := by decide +kernel
theorem dX6_isGoal_63 : decode cX6_isGoal 63 = .ok (.goto 4, 3) := by decide +kernel
theorem dX6_isGoal_66 : decode cX6_isGoal 66 = .ok (.iconst 0, 1) := by decide +kernel
theorem dX6_isGoal_67 : decode cX6_isGoal 67 = .ok (.iadd, 1) := by decide +kernel
theorem dX6_isGoal_68 : decode cX6_isGoal 68 = .ok (.istore_n 2, 1) := by decide +kernel
theorem dX6_isGoal_69 : decode cX6_isGoal 69 = .ok (.iinc 3 1, 3) := by decide +kernel
theorem dX6_isGoal_72 : decode cX6_isGoal 72 = .ok (.goto (-39), 3) := by decide +kernel
theorem dX6_isGoal_75 : decode cX6_isGoal 75 = .ok (.aload_n 0, 1) := by decide +kernel
theorem dX6_isGoal_76 : decode cX6_isGoal 76 = .ok (.getfield 28, 3) := by decide +kernel
theorem dX6_isGoal_79 : decode cX6_isGoal 79 = .ok (.iconst 1, 1) := by decide +kernel
theorem dX6_isGoal_80 : decode cX6_isGoal 80 = .ok (.if_icmp .ne 15, 3) := by decide +kernel
theorem dX6_isGoal_83 : decode cX6_isGoal 83 = .ok (.iload_n 2, 1) := by decide +kernel
theorem dX6_isGoal_84 : decode cX6_isGoal 84 = .ok (.ifCond .le 7, 3) := by decide +kernel
theorem dX6_isGoal_87 : decode cX6_isGoal 87 = .ok (.iconst 1, 1) := by decide +kernel
theorem dX6_isGoal_88 : decode cX6_isGoal 88 = .ok (.goto 23, 3) := by decide +kernel
theorem dX6_isGoal_91 : decode cX6_isGoal 91 = .ok (.iconst 0, 1) := by decide +kernel
theorem dX6_isGoal_92 : decode cX6_isGoal 92 = .ok (.goto 19, 3) := by decide +kernel
theorem dX6_isGoal_95 : decode cX6_isGoal 95 = .ok (.iload_n 2, 1) := by decide +kernel
theorem dX6_isGoal_96 : decode cX6_isGoal 96 = .ok (.aload_n 0, 1) := by decide +kernel
theorem dX6_isGoal_97 : decode cX6_isGoal 97 = .ok (.getfield 21, 3) := by decide +kernel
theorem dX6_isGoal_100 : decode cX6_isGoal 100 = .ok (.getfield 91, 3) := by decide +kernel
theorem dX6_isGoal_103 : decode cX6_isGoal 103 = .ok (.if_icmp .ne 7, 3) := by decide +kernel
theorem dX6_isGoal_106 : decode cX6_isGoal 106 = .ok (.iconst 1, 1) := by decide +kernel
theorem dX6_isGoal_107 : decode cX6_isGoal 107 = .ok (.goto 4, 3) := by decide +kernel
theorem dX6_isGoal_110 : decode cX6_isGoal 110 = .ok (.iconst 0, 1) := by decide +kernel
theorem dX6_isGoal_111 : decode cX6_isGoal 111 = .ok (.ireturn, 1) := by decide +kernel
set_option maxRecDepth 20000 in
theorem ggX6_courtIn_X6_courtShift : GoodIn wsX6_courtIn wsX6_courtShift := goodIn_r _ [4] (by decide +kernel) (by decide +kernel)
set_option maxRecDepth 20000 in
theorem gX6_courtIn_X6_courtShift : GoodIn wsX6_courtIn (va_wsS RX6 97 yX6_courtShift wsX6_courtShift) := goodIn_app (goodIn_of _ (by decide +kernel)) ggX6_courtIn_X6_courtShift
theorem dX6_courtIn_0 : decode cX6_courtIn 0 = .ok (.iload_n 0, 1) := by decide +kernel
theorem dX6_courtIn_1 : decode cX6_courtIn 1 = .ok (.iload_n 1, 1) := by decide +kernel
theorem dX6_courtIn_2 : decode cX6_courtIn 2 = .ok (.invokestatic 97, 3) := by decide +kernel
theorem dX6_courtIn_5 : decode cX6_courtIn 5 = .ok (.ishr, 1) := by decide +kernel
theorem dX6_courtIn_6 : decode cX6_courtIn 6 = .ok (.bipush 7, 2) := by decide +kernel
theorem dX6_courtIn_8 : decode cX6_courtIn 8 = .ok (.iand, 1) := by decide +kernel
theorem dX6_courtIn_9 : decode cX6_courtIn 9 = .ok (.ireturn, 1) := by decide +kernel
theorem dX6_courtShift_0 : decode cX6_courtShift 0 = .ok (.iconst 5, 1) := by decide +kernel
theorem dX6_courtShift_1 : decode cX6_courtShift 1 = .ok (.iconst 3, 1) := by decide +kernel
theorem dX6_courtShift_2 : decode cX6_courtShift 2 = .ok (.iload_n 0, 1) := by decide +kernel
theorem dX6_courtShift_3 : decode cX6_courtShift 3 = .ok (.imul, 1) := by decide +kernel
theorem dX6_courtShift_4 : decode cX6_courtShift 4 = .ok (.iadd, 1) := by decide +kernel
theorem dX6_courtShift_5 : decode cX6_courtShift 5 = .ok (.ireturn, 1) := by decide +kernel
set_option maxRecDepth 20000 in
theorem ggX7_init_X5_init : GoodIn wsX7_init wsX5_init := goodIn_r _ [37, 38, 2, 3, 39, 40, 41, 42, 103, 104, 105] (by decide +kernel) (by decide +kernel)
set_option maxRecDepth 20000 in
theorem gX7_init_X5_init_n9 : GoodIn wsX7_init (wsX5_init) := ggX7_init_X5_init
set_option maxRecDepth 20000 in
theorem ggX7_init_X2_init : GoodIn wsX7_init wsX2_init := goodIn_r _ [44, 45, 2, 3, 39, 46, 47, 48, 49, 50, 51, 52, 53, 117, 118, 119, 120, 121, 122, 123, 124] (by decide +kernel) (by decide +kernel)
set_option maxRecDepth 20000 in
theorem gX7_init_X2_init_n18 : GoodIn wsX7_init (wsX2_init) := ggX7_init_X2_init
set_option maxRecDepth 20000 in
theorem ggX7_init_X1_init : GoodIn wsX7_init wsX1_init := goodIn_r _ [55, 56, 2, 3, 39, 57, 58, 59, 60, 61, 125, 126, 127, 128, 129] (by decide +kernel) (by decide +kernel)
set_option maxRecDepth 20000 in
theorem gX7_init_X1_init_n38 : GoodIn wsX7_init (wsX1_init) := ggX7_init_X1_init
set_option maxRecDepth 20000 in
theorem ggX7_init_X4_init : GoodIn wsX7_init wsX4_init := goodIn_r _ [63, 64, 2, 3, 39, 65, 66, 67, 68, 130, 131, 132] (by decide +kernel) (by decide +kernel)
set_option maxRecDepth 20000 in
theorem gX7_init_X4_init_n45 : GoodIn wsX7_init (wsX4_init) := ggX7_init_X4_init
set_option maxRecDepth 20000 in
theorem ggX7_init_X3_init : GoodIn wsX7_init wsX3_init := goodIn_r _ [70, 71, 2, 3, 39, 72, 73, 133, 134] (by decide +kernel) (by decide +kernel)
set_option maxRecDepth 20000 in
theorem gX7_init_X3_init_n52 : GoodIn wsX7_init (wsX3_init) := ggX7_init_X3_init
set_option maxRecDepth 20000 in
theorem ggX7_init_X6_init : GoodIn wsX7_init wsX6_init := goodIn_r _ [75, 76, 2, 3, 77, 78, 79, 9, 10, 80, 81, 82, 83, 39, 84, 85, 86, 87, 88, 89, 43, 44, 45, 46, 47, 48, 49, 50, 51, 52, 53, 135, 136, 137, 138, 139, 140, 141, 142, 143, 144, 145, 117, 118, 119, 120, 121, 122, 123, 124] (by decide +kernel) (by decide +kernel)
set_option maxRecDepth 20000 in
theorem gX7_init_X6_init_n59 : GoodIn wsX7_init (wsX6_init) := ggX7_init_X6_init
set_option maxRecDepth 20000 in
theorem ggX7_init_X0_init : GoodIn wsX7_init wsX0_init := goodIn_r _ [91, 92, 2, 3, 39, 93, 94, 95, 146, 147, 148] (by decide +kernel) (by decide +kernel)
set_option maxRecDepth 20000 in
theorem gX7_init_X0_init_n66 : GoodIn wsX7_init (wsX0_init) := ggX7_init_X0_init
set_option maxRecDepth 20000 in
theorem ggX7_init_X2_addGate : GoodIn wsX7_init wsX2_addGate := goodIn_r _ [99, 50, 46, 47, 48, 49, 100, 101, 102, 117, 118, 119, 120, 121, 122, 123, 124] (by decide +kernel) (by decide +kernel)
set_option maxRecDepth 20000 in
theorem gX7_init_X2_addGate : GoodIn wsX7_init (wsV RX7 71 RX2 yX2_addGate wsX2_addGate) := goodIn_app (goodIn_of _ (by decide +kernel)) ggX7_init_X2_addGate
theorem dX7_init_0 : decode cX7_init 0 = .ok (.aload_n 0, 1) := by decide +kernel
theorem dX7_init_1 : decode cX7_init 1 = .ok (.invokespecial 1, 3) := by decide +kernel
theorem dX7_init_4 : decode cX7_init 4 = .ok (.aload_n 0, 1) := by decide +kernel
theorem dX7_init_5 : decode cX7_init 5 = .ok (.new 7, 3) := by decide +kernel
theorem dX7_init_8 : decode cX7_init 8 = .ok (.dup, 1) := by decide +kernel
theorem dX7_init_9 : decode cX7_init 9 = .ok (.invokespecial 9, 3) := by decide +kernel
theorem dX7_init_12 : decode cX7_init 12 = .ok (.putfield 10, 3) := by decide +kernel
theorem dX7_init_15 : decode cX7_init 15 = .ok (.aload_n 0, 1) := by decide +kernel
theorem dX7_init_16 : decode cX7_init 16 = .ok (.new 16, 3) := by decide +kernel
theorem dX7_init_19 : decode cX7_init 19 = .ok (.dup, 1) := by decide +kernel
theorem dX7_init_20 : decode cX7_init 20 = .ok (.invokespecial 18, 3) := by decide +kernel
theorem dX7_init_23 : decode cX7_init 23 = .ok (.putfield 19, 3) := by decide +kernel
theorem dX7_init_26 : decode cX7_init 26 = .ok (.aload_n 0, 1) := by decide +kernel
theorem dX7_init_27 : decode cX7_init 27 = .ok (.new 16, 3) := by decide +kernel
theorem dX7_init_30 : decode cX7_init 30 = .ok (.dup, 1) := by decide +kernel
theorem dX7_init_31 : decode cX7_init 31 = .ok (.invokespecial 18, 3) := by decide +kernel
theorem dX7_init_34 : decode cX7_init 34 = .ok (.putfield 23, 3) := by decide +kernel
theorem dX7_init_37 : decode cX7_init 37 = .ok (.aload_n 0, 1) := by decide +kernel
theorem dX7_init_38 : decode cX7_init 38 = .ok (.new 16, 3) := by decide +kernel
theorem dX7_init_41 : decode cX7_init 41 = .ok (.dup, 1) := by decide +kernel
theorem dX7_init_42 : decode cX7_init 42 = .ok (.invokespecial 18, 3) := by decide +kernel
theorem dX7_init_45 : decode cX7_init 45 = .ok (.putfield 26, 3) := by decide +kernel
theorem dX7_init_48 : decode cX7_init 48 = .ok (.aload_n 0, 1) := by decide +kernel
theorem dX7_init_49 : decode cX7_init 49 = .ok (.new 16, 3) := by decide +kernel
theorem dX7_init_52 : decode cX7_init 52 = .ok (.dup, 1) := by decide +kernel
theorem dX7_init_53 : decode cX7_init 53 = .ok (.invokespecial 18, 3) := by decide +kernel
theorem dX7_init_56 : decode cX7_init 56 = .ok (.putfield 29, 3) := by decide +kernel
theorem dX7_init_59 : decode cX7_init 59 = .ok (.aload_n 0, 1) := by decide +kernel
theorem dX7_init_60 : decode cX7_init 60 = .ok (.iconst 0, 1) := by decide +kernel
theorem dX7_init_61 : decode cX7_init 61 = .ok (.putfield 32, 3) := by decide +kernel
theorem dX7_init_64 : decode cX7_init 64 = .ok (.aload_n 0, 1) := by decide +kernel
theorem dX7_init_65 : decode cX7_init 65 = .ok (.new 36, 3) := by decide +kernel
theorem dX7_init_68 : decode cX7_init 68 = .ok (.dup, 1) := by decide +kernel
theorem dX7_init_69 : decode cX7_init 69 = .ok (.invokespecial 38, 3) := by decide +kernel
theorem dX7_init_72 : decode cX7_init 72 = .ok (.putfield 39, 3) := by decide +kernel
theorem dX7_init_75 : decode cX7_init 75 = .ok (.aload_n 0, 1) := by decide +kernel
theorem dX7_init_76 : decode cX7_init 76 = .ok (.new 43, 3) := by decide +kernel
theorem dX7_init_79 : decode cX7_init 79 = .ok (.dup, 1) := by decide +kernel
theorem dX7_init_80 : decode cX7_init 80 = .ok (.invokespecial 45, 3) := by decide +kernel
theorem dX7_init_83 : decode cX7_init 83 = .ok (.putfield 46, 3) := by decide +kernel
theorem dX7_init_86 : decode cX7_init 86 = .ok (.aload_n 0, 1) := by decide +kernel
theorem dX7_init_87 : decode cX7_init 87 = .ok (.new 50, 3) := by decide +kernel
theorem dX7_init_90 : decode cX7_init 90 = .ok (.dup, 1) := by decide +kernel
theorem dX7_init_91 : decode cX7_init 91 = .ok (.invokespecial 52, 3) := by decide +kernel
theorem dX7_init_94 : decode cX7_init 94 = .ok (.putfield 53, 3) := by decide +kernel
theorem dX7_init_97 : decode cX7_init 97 = .ok (.aload_n 0, 1) := by decide +kernel
theorem dX7_init_98 : decode cX7_init 98 = .ok (.new 57, 3) := by decide +kernel
theorem dX7_init_101 : decode cX7_init 101 = .ok (.dup, 1) := by decide +kernel
theorem dX7_init_102 : decode cX7_init 102 = .ok (.invokespecial 59, 3) := by decide +kernel
theorem dX7_init_105 : decode cX7_init 105 = .ok (.putfield 60, 3) := by decide +kernel
theorem dX7_init_108 : decode cX7_init 108 = .ok (.aload_n 0, 1) := by decide +kernel
theorem dX7_init_109 : decode cX7_init 109 = .ok (.new 64, 3) := by decide +kernel
theorem dX7_init_112 : decode cX7_init 112 = .ok (.dup, 1) := by decide +kernel
theorem dX7_init_113 : decode cX7_init 113 = .ok (.invokespecial 66, 3) := by decide +kernel
theorem dX7_init_116 : decode cX7_init 116 = .ok (.putfield 67, 3) := by decide +kernel
theorem dX7_init_119 : decode cX7_init 119 = .ok (.aload_n 0, 1) := by decide +kernel
theorem dX7_init_120 : decode cX7_init 120 = .ok (.getfield 19, 3) := by decide +kernel
theorem dX7_init_123 : decode cX7_init 123 = .ok (.iconst 0, 1) := by decide +kernel
theorem dX7_init_124 : decode cX7_init 124 = .ok (.iconst 1, 1) := by decide +kernel
theorem dX7_init_125 : decode cX7_init 125 = .ok (.iconst 0, 1) := by decide +kernel
theorem dX7_init_126 : decode cX7_init 126 = .ok (.iconst 0, 1) := by decide +kernel
theorem dX7_init_127 : decode cX7_init 127 = .ok (.invokevirtual 71, 3) := by decide +kernel
theorem dX7_init_130 : decode cX7_init 130 = .ok (.pop, 1) := by decide +kernel
theorem dX7_init_131 : decode cX7_init 131 = .ok (.aload_n 0, 1) := by decide +kernel
theorem dX7_init_132 : decode cX7_init 132 = .ok (.getfield 19, 3) := by decide +kernel
theorem dX7_init_135 : decode cX7_init 135 = .ok (.iconst 1, 1) := by decide +kernel
theorem dX7_init_136 : decode cX7_init 136 = .ok (.iconst 2, 1) := by decide +kernel
theorem dX7_init_137 : decode cX7_init 137 = .ok (.iconst 1, 1) := by decide +kernel
theorem dX7_init_138 : decode cX7_init 138 = .ok (.iconst 1, 1) := by decide +kernel
theorem dX7_init_139 : decode cX7_init 139 = .ok (.invokevirtual 71, 3) := by decide +kernel
theorem dX7_init_142 : decode cX7_init 142 = .ok (.pop, 1) := by decide +kernel
theorem dX7_init_143 : decode cX7_init 143 = .ok (.return_, 1) := by decide +kernel
set_option maxRecDepth 20000 in
theorem ggX7_write_X5_hasRoom : GoodIn wsX7_write wsX5_hasRoom := goodIn_r _ [7, 8, 25, 26, 27] (by decide +kernel) (by decide +kernel)
set_option maxRecDepth 20000 in
theorem gX7_write_X5_hasRoom : GoodIn wsX7_write (wsV RX7 75 RX5 yX5_hasRoom wsX5_hasRoom) := goodIn_app (goodIn_of _ (by decide +kernel)) ggX7_write_X5_hasRoom
set_option maxRecDepth 20000 in
theorem ggX7_write_X5_append : GoodIn wsX7_write wsX5_append := goodIn_r _ [12, 8, 13, 25, 26, 27] (by decide +kernel) (by decide +kernel)
set_option maxRecDepth 20000 in
theorem gX7_write_X5_append : GoodIn wsX7_write (wsV RX7 79 RX5 yX5_append wsX5_append) := goodIn_app (goodIn_of _ (by decide +kernel)) ggX7_write_X5_append
theorem dX7_write_0 : decode cX7_write 0 = .ok (.iload_n 1, 1) := by decide +kernel
theorem dX7_write_1 : decode cX7_write 1 = .ok (.iconst 1, 1) := by decide +kernel
theorem dX7_write_2 : decode cX7_write 2 = .ok (.if_icmp .lt 9, 3) := by decide +kernel
theorem dX7_write_5 : decode cX7_write 5 = .ok (.iload_n 1, 1) := by decide +kernel
theorem dX7_write_6 : decode cX7_write 6 = .ok (.bipush 8, 2) := by decide +kernel
theorem dX7_write_8 : decode cX7_write 8 = .ok (.if_icmp .le 5, 3) := by decide +kernel
theorem dX7_write_11 : decode cX7_write 11 = .ok (.iconst (-1), 1) := by decide +kernel
theorem dX7_write_12 : decode cX7_write 12 = .ok (.ireturn, 1) := by decide +kernel
theorem dX7_write_13 : decode cX7_write 13 = .ok (.aload_n 0, 1) := by decide +kernel
theorem dX7_write_14 : decode cX7_write 14 = .ok (.getfield 10, 3) := by decide +kernel
theorem dX7_write_17 : decode cX7_write 17 = .ok (.iload_n 1, 1) := by decide +kernel
theorem dX7_write_18 : decode cX7_write 18 = .ok (.invokevirtual 75, 3) := by decide +kernel
theorem dX7_write_21 : decode cX7_write 21 = .ok (.ifCond .ne 6, 3) := by decide +kernel
theorem dX7_write_24 : decode cX7_write 24 = .ok (.bipush (-3), 2) := by decide +kernel
theorem dX7_write_26 : decode cX7_write 26 = .ok (.ireturn, 1) := by decide +kernel
theorem dX7_write_27 : decode cX7_write 27 = .ok (.aload_n 0, 1) := by decide +kernel
theorem dX7_write_28 : decode cX7_write 28 = .ok (.getfield 10, 3) := by decide +kernel
theorem dX7_write_31 : decode cX7_write 31 = .ok (.iload_n 1, 1) := by decide +kernel
theorem dX7_write_32 : decode cX7_write 32 = .ok (.lload_n 2, 1) := by decide +kernel
theorem dX7_write_33 : decode cX7_write 33 = .ok (.invokevirtual 79, 3) := by decide +kernel
theorem dX7_write_36 : decode cX7_write 36 = .ok (.aload_n 0, 1) := by decide +kernel
theorem dX7_write_37 : decode cX7_write 37 = .ok (.getfield 10, 3) := by decide +kernel
theorem dX7_write_40 : decode cX7_write 40 = .ok (.getfield 83, 3) := by decide +kernel
theorem dX7_write_43 : decode cX7_write 43 = .ok (.ireturn, 1) := by decide +kernel
theorem dX7_wipe_0 : decode cX7_wipe 0 = .ok (.aload_n 0, 1) := by decide +kernel
theorem dX7_wipe_1 : decode cX7_wipe 1 = .ok (.getfield 10, 3) := by decide +kernel
theorem dX7_wipe_4 : decode cX7_wipe 4 = .ok (.getfield 83, 3) := by decide +kernel
theorem dX7_wipe_7 : decode cX7_wipe 7 = .ok (.istore_n 1, 1) := by decide +kernel
theorem dX7_wipe_8 : decode cX7_wipe 8 = .ok (.aload_n 0, 1) := by decide +kernel
theorem dX7_wipe_9 : decode cX7_wipe 9 = .ok (.getfield 10, 3) := by decide +kernel
theorem dX7_wipe_12 : decode cX7_wipe 12 = .ok (.iconst 0, 1) := by decide +kernel
theorem dX7_wipe_13 : decode cX7_wipe 13 = .ok (.putfield 83, 3) := by decide +kernel
theorem dX7_wipe_16 : decode cX7_wipe 16 = .ok (.iload_n 1, 1) := by decide +kernel
theorem dX7_wipe_17 : decode cX7_wipe 17 = .ok (.ireturn, 1) := by decide +kernel
set_option maxRecDepth 20000 in
theorem ggX7_fault_X5_readInto : GoodIn wsX7_fault wsX5_readInto := goodIn_r _ [7, 8, 9, 10, 11, 12, 13, 14, 15, 16, 17, 18, 19, 20, 21, 22, 23, 24, 25, 26, 27, 28, 29, 30, 31, 32, 33, 34, 35, 36, 6, 37, 38, 39, 40, 41, 42, 43, 44, 45, 46, 47, 48, 49, 50, 51, 52, 53, 54, 55, 56, 57, 58, 59, 60, 61, 62, 63, 64, 65, 66, 67, 68, 69, 70, 71, 72, 73, 74, 86, 87, 88, 89, 90, 91, 92, 93, 94, 95, 96] (by decide +kernel) (by decide +kernel)
set_option maxRecDepth 20000 in
theorem gX7_fault_X5_readInto : GoodIn wsX7_fault (wsV RX7 86 RX5 yX5_readInto wsX5_readInto) := goodIn_app (goodIn_of _ (by decide +kernel)) ggX7_fault_X5_readInto
theorem dX7_fault_0 : decode cX7_fault 0 = .ok (.aload_n 0, 1) := by decide +kernel
theorem dX7_fault_1 : decode cX7_fault 1 = .ok (.getfield 10, 3) := by decide +kernel
theorem dX7_fault_4 : decode cX7_fault 4 = .ok (.aload_n 0, 1) := by decide +kernel
theorem dX7_fault_5 : decode cX7_fault 5 = .ok (.getfield 23, 3) := by decide +kernel
theorem dX7_fault_8 : decode cX7_fault 8 = .ok (.invokevirtual 86, 3) := by decide +kernel
theorem dX7_fault_11 : decode cX7_fault 11 = .ok (.ireturn, 1) := by decide +kernel
set_option maxRecDepth 20000 in
theorem ggX7_lay_X5_readInto : GoodIn wsX7_lay wsX5_readInto := goodIn_r _ [16, 17, 18, 19, 20, 21, 22, 23, 24, 25, 26, 27, 28, 29, 30, 31, 32, 33, 34, 35, 36, 37, 38, 39, 40, 41, 42, 43, 44, 45, 15, 46, 47, 48, 49, 50, 51, 52, 53, 54, 55, 56, 57, 58, 59, 60, 61, 62, 63, 64, 65, 66, 67, 68, 69, 70, 71, 72, 73, 74, 75, 76, 77, 78, 79, 80, 81, 82, 83, 121, 122, 123, 103, 104, 105, 106, 107, 108, 109, 110] (by decide +kernel) (by decide +kernel)
set_option maxRecDepth 20000 in
theorem gX7_lay_X5_readInto : GoodIn wsX7_lay (wsV RX7 86 RX5 yX5_readInto wsX5_readInto) := goodIn_app (goodIn_of _ (by decide +kernel)) ggX7_lay_X5_readInto
set_option maxRecDepth 20000 in
theorem ggX7_lay_X2_copyFrom : GoodIn wsX7_lay wsX2_copyFrom := goodIn_r _ [87, 72, 88, 89, 90, 91, 73, 74, 75, 38, 24, 37, 25, 103, 104, 105, 106, 107, 108, 109, 110] (by decide +kernel) (by decide +kernel)
set_option maxRecDepth 20000 in
theorem gX7_lay_X2_copyFrom : GoodIn wsX7_lay (wsV RX7 93 RX2 yX2_copyFrom wsX2_copyFrom) := goodIn_app (goodIn_of _ (by decide +kernel)) ggX7_lay_X2_copyFrom
theorem dX7_lay_0 : decode cX7_lay 0 = .ok (.aload_n 0, 1) := by decide +kernel
theorem dX7_lay_1 : decode cX7_lay 1 = .ok (.getfield 10, 3) := by decide +kernel
theorem dX7_lay_4 : decode cX7_lay 4 = .ok (.aload_n 0, 1) := by decide +kernel
theorem dX7_lay_5 : decode cX7_lay 5 = .ok (.getfield 23, 3) := by decide +kernel
theorem dX7_lay_8 : decode cX7_lay 8 = .ok (.invokevirtual 86, 3) := by decide +kernel
theorem dX7_lay_11 : decode cX7_lay 11 = .ok (.bipush (-4), 2) := by decide +kernel
theorem dX7_lay_13 : decode cX7_lay 13 = .ok (.if_icmp .ne 13, 3) := by decide +kernel
theorem dX7_lay_16 : decode cX7_lay 16 = .ok (.aload_n 0, 1) := by decide +kernel
theorem dX7_lay_17 : decode cX7_lay 17 = .ok (.getfield 23, 3) := by decide +kernel
theorem dX7_lay_20 : decode cX7_lay 20 = .ok (.getfield 90, 3) := by decide +kernel
theorem dX7_lay_23 : decode cX7_lay 23 = .ok (.ifCond .ne 6, 3) := by decide +kernel
theorem dX7_lay_26 : decode cX7_lay 26 = .ok (.bipush (-2), 2) := by decide +kernel
theorem dX7_lay_28 : decode cX7_lay 28 = .ok (.ireturn, 1) := by decide +kernel
theorem dX7_lay_29 : decode cX7_lay 29 = .ok (.aload_n 0, 1) := by decide +kernel
theorem dX7_lay_30 : decode cX7_lay 30 = .ok (.getfield 19, 3) := by decide +kernel
theorem dX7_lay_33 : decode cX7_lay 33 = .ok (.aload_n 0, 1) := by decide +kernel
theorem dX7_lay_34 : decode cX7_lay 34 = .ok (.getfield 23, 3) := by decide +kernel
theorem dX7_lay_37 : decode cX7_lay 37 = .ok (.invokevirtual 93, 3) := by decide +kernel
theorem dX7_lay_40 : decode cX7_lay 40 = .ok (.aload_n 0, 1) := by decide +kernel
theorem dX7_lay_41 : decode cX7_lay 41 = .ok (.getfield 46, 3) := by decide +kernel
theorem dX7_lay_44 : decode cX7_lay 44 = .ok (.iconst 0, 1) := by decide +kernel
theorem dX7_lay_45 : decode cX7_lay 45 = .ok (.putfield 97, 3) := by decide +kernel
theorem dX7_lay_48 : decode cX7_lay 48 = .ok (.aload_n 0, 1) := by decide +kernel
theorem dX7_lay_49 : decode cX7_lay 49 = .ok (.getfield 53, 3) := by decide +kernel
theorem dX7_lay_52 : decode cX7_lay 52 = .ok (.iconst 0, 1) := by decide +kernel
theorem dX7_lay_53 : decode cX7_lay 53 = .ok (.putfield 100, 3) := by decide +kernel
theorem dX7_lay_56 : decode cX7_lay 56 = .ok (.aload_n 0, 1) := by decide +kernel
theorem dX7_lay_57 : decode cX7_lay 57 = .ok (.getfield 39, 3) := by decide +kernel
theorem dX7_lay_60 : decode cX7_lay 60 = .ok (.iconst 0, 1) := by decide +kernel
theorem dX7_lay_61 : decode cX7_lay 61 = .ok (.putfield 101, 3) := by decide +kernel
theorem dX7_lay_64 : decode cX7_lay 64 = .ok (.aload_n 0, 1) := by decide +kernel
theorem dX7_lay_65 : decode cX7_lay 65 = .ok (.iconst 0, 1) := by decide +kernel
theorem dX7_lay_66 : decode cX7_lay 66 = .ok (.putfield 32, 3) := by decide +kernel
theorem dX7_lay_69 : decode cX7_lay 69 = .ok (.aload_n 0, 1) := by decide +kernel
theorem dX7_lay_70 : decode cX7_lay 70 = .ok (.getfield 19, 3) := by decide +kernel
theorem dX7_lay_73 : decode cX7_lay 73 = .ok (.getfield 90, 3) := by decide +kernel
theorem dX7_lay_76 : decode cX7_lay 76 = .ok (.ireturn, 1) := by decide +kernel
set_option maxRecDepth 20000 in
theorem ggX7_gate_X2_hasGate : GoodIn wsX7_gate wsX2_hasGate := goodIn_r _ [10, 11, 34, 35, 36, 37, 38, 39, 40, 41] (by decide +kernel) (by decide +kernel)
set_option maxRecDepth 20000 in
theorem gX7_gate_X2_hasGate : GoodIn wsX7_gate (wsV RX7 102 RX2 yX2_hasGate wsX2_hasGate) := goodIn_app (goodIn_of _ (by decide +kernel)) ggX7_gate_X2_hasGate
set_option maxRecDepth 20000 in
theorem ggX7_gate_X2_isOpen : GoodIn wsX7_gate wsX2_isOpen := goodIn_r _ [15, 16, 17, 18, 19, 20, 9, 21, 22, 7, 8, 10, 11, 34, 35, 36, 37, 38, 39, 40, 41] (by decide +kernel) (by decide +kernel)
set_option maxRecDepth 20000 in
theorem gX7_gate_X2_isOpen : GoodIn wsX7_gate (wsV RX7 118 RX2 yX2_isOpen wsX2_isOpen) := goodIn_app (goodIn_of _ (by decide +kernel)) ggX7_gate_X2_isOpen
theorem dX7_gate_0 : decode cX7_gate 0 = .ok (.aload_n 0, 1) := by decide +kernel
theorem dX7_gate_1 : decode cX7_gate 1 = .ok (.getfield 19, 3) := by decide +kernel
theorem dX7_gate_4 : decode cX7_gate 4 = .ok (.iload_n 1, 1) := by decide +kernel
theorem dX7_gate_5 : decode cX7_gate 5 = .ok (.invokevirtual 102, 3) := by decide +kernel
theorem dX7_gate_8 : decode cX7_gate 8 = .ok (.ifCond .ne 5, 3) := by decide +kernel
theorem dX7_gate_11 : decode cX7_gate 11 = .ok (.iconst (-1), 1) := by decide +kernel
theorem dX7_gate_12 : decode cX7_gate 12 = .ok (.ireturn, 1) := by decide +kernel
theorem dX7_gate_13 : decode cX7_gate 13 = .ok (.iload_n 2, 1) := by decide +kernel
theorem dX7_gate_14 : decode cX7_gate 14 = .ok (.tableswitch 114 0 5 #[38, 48, 58, 68, 78, 96], 38) := by decide +kernel
theorem dX7_gate_52 : decode cX7_gate 52 = .ok (.aload_n 0, 1) := by decide +kernel
theorem dX7_gate_53 : decode cX7_gate 53 = .ok (.getfield 19, 3) := by decide +kernel
theorem dX7_gate_56 : decode cX7_gate 56 = .ok (.getfield 105, 3) := by decide +kernel
theorem dX7_gate_59 : decode cX7_gate 59 = .ok (.iload_n 1, 1) := by decide +kernel
theorem dX7_gate_60 : decode cX7_gate 60 = .ok (.iaload, 1) := by decide +kernel
theorem dX7_gate_61 : decode cX7_gate 61 = .ok (.ireturn, 1) := by decide +kernel
theorem dX7_gate_62 : decode cX7_gate 62 = .ok (.aload_n 0, 1) := by decide +kernel
theorem dX7_gate_63 : decode cX7_gate 63 = .ok (.getfield 19, 3) := by decide +kernel
theorem dX7_gate_66 : decode cX7_gate 66 = .ok (.getfield 109, 3) := by decide +kernel
theorem dX7_gate_69 : decode cX7_gate 69 = .ok (.iload_n 1, 1) := by decide +kernel
theorem dX7_gate_70 : decode cX7_gate 70 = .ok (.iaload, 1) := by decide +kernel
theorem dX7_gate_71 : decode cX7_gate 71 = .ok (.ireturn, 1) := by decide +kernel
theorem dX7_gate_72 : decode cX7_gate 72 = .ok (.aload_n 0, 1) := by decide +kernel
theorem dX7_gate_73 : decode cX7_gate 73 = .ok (.getfield 19, 3) := by decide +kernel
theorem dX7_gate_76 : decode cX7_gate 76 = .ok (.getfield 112, 3) := by decide +kernel
theorem dX7_gate_79 : decode cX7_gate 79 = .ok (.iload_n 1, 1) := by decide +kernel
theorem dX7_gate_80 : decode cX7_gate 80 = .ok (.iaload, 1) := by decide +kernel
theorem dX7_gate_81 : decode cX7_gate 81 = .ok (.ireturn, 1) := by decide +kernel
theorem dX7_gate_82 : decode cX7_gate 82 = .ok (.aload_n 0, 1) := by decide +kernel
theorem dX7_gate_83 : decode cX7_gate 83 = .ok (.getfield 19, 3) := by decide +kernel
theorem dX7_gate_86 : decode cX7_gate 86 = .ok (.getfield 115, 3) := by decide +kernel
theorem dX7_gate_89 : decode cX7_gate 89 = .ok (.iload_n 1, 1) := by decide +kernel
theorem dX7_gate_90 : decode cX7_gate 90 = .ok (.iaload, 1) := by decide +kernel
theorem dX7_gate_91 : decode cX7_gate 91 = .ok (.ireturn, 1) := by decide +kernel
theorem dX7_gate_92 : decode cX7_gate 92 = .ok (.aload_n 0, 1) := by decide +kernel
theorem dX7_gate_93 : decode cX7_gate 93 = .ok (.getfield 19, 3) := by decide +kernel
theorem dX7_gate_96 : decode cX7_gate 96 = .ok (.iload_n 1, 1) := by decide +kernel
theorem dX7_gate_97 : decode cX7_gate 97 = .ok (.iconst 0, 1) := by decide +kernel
theorem dX7_gate_98 : decode cX7_gate 98 = .ok (.invokevirtual 118, 3) := by decide +kernel
theorem dX7_gate_101 : decode cX7_gate 101 = .ok (.ifCond .eq 7, 3) := by decide +kernel
theorem dX7_gate_104 : decode cX7_gate 104 = .ok (.iconst 1, 1) := by decide +kernel
theorem dX7_gate_105 : decode cX7_gate 105 = .ok (.goto 4, 3) := by decide +kernel
theorem dX7_gate_108 : decode cX7_gate 108 = .ok (.iconst 0, 1) := by decide +kernel
theorem dX7_gate_109 : decode cX7_gate 109 = .ok (.ireturn, 1) := by decide +kernel
theorem dX7_gate_110 : decode cX7_gate 110 = .ok (.aload_n 0, 1) := by decide +kernel
theorem dX7_gate_111 : decode cX7_gate 111 = .ok (.getfield 19, 3) := by decide +kernel
theorem dX7_gate_114 : decode cX7_gate 114 = .ok (.iload_n 1, 1) := by decide +kernel
theorem dX7_gate_115 : decode cX7_gate 115 = .ok (.iconst 1, 1) := by decide +kernel
theorem dX7_gate_116 : decode cX7_gate 116 = .ok (.invokevirtual 118, 3) := by decide +kernel
theorem dX7_gate_119 : decode cX7_gate 119 = .ok (.ifCond .eq 7, 3) := by decide +kernel
theorem dX7_gate_122 : decode cX7_gate 122 = .ok (.iconst 1, 1) := by decide +kernel
theorem dX7_gate_123 : decode cX7_gate 123 = .ok (.goto 4, 3) := by decide +kernel
theorem dX7_gate_126 : decode cX7_gate 126 = .ok (.iconst 0, 1) := by decide +kernel
theorem dX7_gate_127 : decode cX7_gate 127 = .ok (.ireturn, 1) := by decide +kernel
theorem dX7_gate_128 : decode cX7_gate 128 = .ok (.iconst (-1), 1) := by decide +kernel
theorem dX7_gate_129 : decode cX7_gate 129 = .ok (.ireturn, 1) := by decide +kernel
set_option maxRecDepth 20000 in
theorem ggX7_where_X2_hasPerson : GoodIn wsX7_where wsX2_hasPerson := goodIn_r _ [7, 8, 20, 21, 22, 23, 24, 25, 26, 27] (by decide +kernel) (by decide +kernel)
set_option maxRecDepth 20000 in
theorem gX7_where_X2_hasPerson : GoodIn wsX7_where (wsV RX7 122 RX2 yX2_hasPerson wsX2_hasPerson) := goodIn_app (goodIn_of _ (by decide +kernel)) ggX7_where_X2_hasPerson
theorem dX7_where_0 : decode cX7_where 0 = .ok (.aload_n 0, 1) := by decide +kernel
theorem dX7_where_1 : decode cX7_where 1 = .ok (.getfield 19, 3) := by decide +kernel
theorem dX7_where_4 : decode cX7_where 4 = .ok (.iload_n 1, 1) := by decide +kernel
theorem dX7_where_5 : decode cX7_where 5 = .ok (.invokevirtual 122, 3) := by decide +kernel
theorem dX7_where_8 : decode cX7_where 8 = .ok (.ifCond .eq 15, 3) := by decide +kernel
theorem dX7_where_11 : decode cX7_where 11 = .ok (.aload_n 0, 1) := by decide +kernel
theorem dX7_where_12 : decode cX7_where 12 = .ok (.getfield 19, 3) := by decide +kernel
theorem dX7_where_15 : decode cX7_where 15 = .ok (.getfield 125, 3) := by decide +kernel
theorem dX7_where_18 : decode cX7_where 18 = .ok (.iload_n 1, 1) := by decide +kernel
theorem dX7_where_19 : decode cX7_where 19 = .ok (.iaload, 1) := by decide +kernel
theorem dX7_where_20 : decode cX7_where 20 = .ok (.goto 4, 3) := by decide +kernel
theorem dX7_where_23 : decode cX7_where 23 = .ok (.iconst (-1), 1) := by decide +kernel
theorem dX7_where_24 : decode cX7_where 24 = .ok (.ireturn, 1) := by decide +kernel
set_option maxRecDepth 20000 in
theorem ggX7_can_X2_hasPerson : GoodIn wsX7_can wsX2_hasPerson := goodIn_r _ [6, 7, 47, 48, 49, 50, 51, 52, 53, 54] (by decide +kernel) (by decide +kernel)
set_option maxRecDepth 20000 in
theorem gX7_can_X2_hasPerson : GoodIn wsX7_can (wsV RX7 122 RX2 yX2_hasPerson wsX2_hasPerson) := goodIn_app (goodIn_of _ (by decide +kernel)) ggX7_can_X2_hasPerson
set_option maxRecDepth 20000 in
theorem ggX7_can_X2_hasGate : GoodIn wsX7_can wsX2_hasGate := goodIn_r _ [11, 12, 47, 48, 49, 50, 51, 52, 53, 54] (by decide +kernel) (by decide +kernel)
set_option maxRecDepth 20000 in
theorem gX7_can_X2_hasGate : GoodIn wsX7_can (wsV RX7 102 RX2 yX2_hasGate wsX2_hasGate) := goodIn_app (goodIn_of _ (by decide +kernel)) ggX7_can_X2_hasGate
set_option maxRecDepth 20000 in
theorem ggX7_can_X2_letsIn : GoodIn wsX7_can wsX2_letsIn := goodIn_r _ [16, 17, 18, 3, 4, 5, 6, 7, 19, 20, 21, 22, 23, 24, 25, 9, 10, 11, 12, 26, 27, 28, 29, 30, 31, 32, 33, 34, 35, 47, 48, 49, 50, 51, 52, 53, 54] (by decide +kernel) (by decide +kernel)
set_option maxRecDepth 20000 in
theorem gX7_can_X2_letsIn : GoodIn wsX7_can (wsV RX7 128 RX2 yX2_letsIn wsX2_letsIn) := goodIn_app (goodIn_of _ (by decide +kernel)) ggX7_can_X2_letsIn
theorem dX7_can_0 : decode cX7_can 0 = .ok (.aload_n 0, 1) := by decide +kernel
theorem dX7_can_1 : decode cX7_can 1 = .ok (.getfield 19, 3) := by decide +kernel
theorem dX7_can_4 : decode cX7_can 4 = .ok (.iload_n 1, 1) := by decide +kernel
theorem dX7_can_5 : decode cX7_can 5 = .ok (.invokevirtual 122, 3) := by decide +kernel
theorem dX7_can_8 : decode cX7_can 8 = .ok (.ifCond .eq 14, 3) := by decide +kernel
theorem dX7_can_11 : decode cX7_can 11 = .ok (.aload_n 0, 1) := by decide +kernel
theorem dX7_can_12 : decode cX7_can 12 = .ok (.getfield 19, 3) := by decide +kernel
theorem dX7_can_15 : decode cX7_can 15 = .ok (.iload_n 2, 1) := by decide +kernel
theorem dX7_can_16 : decode cX7_can 16 = .ok (.invokevirtual 102, 3) := by decide +kernel
theorem dX7_can_19 : decode cX7_can 19 = .ok (.ifCond .ne 5, 3) := by decide +kernel
theorem dX7_can_22 : decode cX7_can 22 = .ok (.iconst (-1), 1) := by decide +kernel
theorem dX7_can_23 : decode cX7_can 23 = .ok (.ireturn, 1) := by decide +kernel
theorem dX7_can_24 : decode cX7_can 24 = .ok (.aload_n 0, 1) := by decide +kernel
theorem dX7_can_25 : decode cX7_can 25 = .ok (.getfield 19, 3) := by decide +kernel
theorem dX7_can_28 : decode cX7_can 28 = .ok (.iload_n 1, 1) := by decide +kernel
theorem dX7_can_29 : decode cX7_can 29 = .ok (.iload_n 2, 1) := by decide +kernel
theorem dX7_can_30 : decode cX7_can 30 = .ok (.invokevirtual 128, 3) := by decide +kernel
theorem dX7_can_33 : decode cX7_can 33 = .ok (.ifCond .eq 7, 3) := by decide +kernel
theorem dX7_can_36 : decode cX7_can 36 = .ok (.iconst 1, 1) := by decide +kernel
theorem dX7_can_37 : decode cX7_can 37 = .ok (.goto 4, 3) := by decide +kernel
theorem dX7_can_40 : decode cX7_can 40 = .ok (.iconst 0, 1) := by decide +kernel
theorem dX7_can_41 : decode cX7_can 41 = .ok (.ireturn, 1) := by decide +kernel
set_option maxRecDepth 20000 in
theorem ggX7_pass_X2_hasPerson : GoodIn wsX7_pass wsX2_hasPerson := goodIn_r _ [8, 9, 78, 79, 80, 81, 82, 83, 84, 85] (by decide +kernel) (by decide +kernel)
set_option maxRecDepth 20000 in
theorem gX7_pass_X2_hasPerson : GoodIn wsX7_pass (wsV RX7 122 RX2 yX2_hasPerson wsX2_hasPerson) := goodIn_app (goodIn_of _ (by decide +kernel)) ggX7_pass_X2_hasPerson
set_option maxRecDepth 20000 in
theorem ggX7_pass_X2_hasGate : GoodIn wsX7_pass wsX2_hasGate := goodIn_r _ [13, 14, 78, 79, 80, 81, 82, 83, 84, 85] (by decide +kernel) (by decide +kernel)
set_option maxRecDepth 20000 in
theorem gX7_pass_X2_hasGate : GoodIn wsX7_pass (wsV RX7 102 RX2 yX2_hasGate wsX2_hasGate) := goodIn_app (goodIn_of _ (by decide +kernel)) ggX7_pass_X2_hasGate
set_option maxRecDepth 20000 in
theorem ggX7_pass_X2_letsIn : GoodIn wsX7_pass wsX2_letsIn := goodIn_r _ [18, 19, 20, 5, 6, 7, 8, 9, 21, 22, 23, 24, 25, 26, 27, 11, 12, 13, 14, 28, 29, 30, 31, 32, 33, 34, 35, 36, 37, 78, 79, 80, 81, 82, 83, 84, 85] (by decide +kernel) (by decide +kernel)
set_option maxRecDepth 20000 in
theorem gX7_pass_X2_letsIn : GoodIn wsX7_pass (wsV RX7 128 RX2 yX2_letsIn wsX2_letsIn) := goodIn_app (goodIn_of _ (by decide +kernel)) ggX7_pass_X2_letsIn
set_option maxRecDepth 20000 in
theorem ggX7_pass_X1_note : GoodIn wsX7_pass wsX1_note := goodIn_r _ [42, 43, 44, 45, 46, 47, 48, 49, 50, 41, 51, 52, 53, 54, 55, 56, 57, 58, 86, 87, 88, 89, 90] (by decide +kernel) (by decide +kernel)
set_option maxRecDepth 20000 in
theorem gX7_pass_X1_note : GoodIn wsX7_pass (wsV RX7 131 RX1 yX1_note wsX1_note) := goodIn_app (goodIn_of _ (by decide +kernel)) ggX7_pass_X1_note
set_option maxRecDepth 20000 in
theorem ggX7_pass_X2_letThrough : GoodIn wsX7_pass wsX2_letThrough := goodIn_r _ [62, 19, 33, 20, 5, 6, 7, 8, 9, 27, 11, 12, 13, 14, 63, 64, 65, 66, 25, 26, 78, 79, 80, 81, 82, 83, 84, 85] (by decide +kernel) (by decide +kernel)
set_option maxRecDepth 20000 in
theorem gX7_pass_X2_letThrough : GoodIn wsX7_pass (wsV RX7 135 RX2 yX2_letThrough wsX2_letThrough) := goodIn_app (goodIn_of _ (by decide +kernel)) ggX7_pass_X2_letThrough
theorem dX7_pass_0 : decode cX7_pass 0 = .ok (.aload_n 0, 1) := by decide +kernel
theorem dX7_pass_1 : decode cX7_pass 1 = .ok (.getfield 19, 3) := by decide +kernel
theorem dX7_pass_4 : decode cX7_pass 4 = .ok (.iload_n 1, 1) := by decide +kernel
theorem dX7_pass_5 : decode cX7_pass 5 = .ok (.invokevirtual 122, 3) := by decide +kernel
theorem dX7_pass_8 : decode cX7_pass 8 = .ok (.ifCond .eq 14, 3) := by decide +kernel
theorem dX7_pass_11 : decode cX7_pass 11 = .ok (.aload_n 0, 1) := by decide +kernel
theorem dX7_pass_12 : decode cX7_pass 12 = .ok (.getfield 19, 3) := by decide +kernel
theorem dX7_pass_15 : decode cX7_pass 15 = .ok (.iload_n 2, 1) := by decide +kernel
theorem dX7_pass_16 : decode cX7_pass 16 = .ok (.invokevirtual 102, 3) := by decide +kernel
theorem dX7_pass_19 : decode cX7_pass 19 = .ok (.ifCond .ne 5, 3) := by decide +kernel
theorem dX7_pass_22 : decode cX7_pass 22 = .ok (.iconst (-1), 1) := by decide +kernel
theorem dX7_pass_23 : decode cX7_pass 23 = .ok (.ireturn, 1) := by decide +kernel
theorem dX7_pass_24 : decode cX7_pass 24 = .ok (.aload_n 0, 1) := by decide +kernel
theorem dX7_pass_25 : decode cX7_pass 25 = .ok (.getfield 19, 3) := by decide +kernel
theorem dX7_pass_28 : decode cX7_pass 28 = .ok (.iload_n 1, 1) := by decide +kernel
theorem dX7_pass_29 : decode cX7_pass 29 = .ok (.iload_n 2, 1) := by decide +kernel
theorem dX7_pass_30 : decode cX7_pass 30 = .ok (.invokevirtual 128, 3) := by decide +kernel
theorem dX7_pass_33 : decode cX7_pass 33 = .ok (.ifCond .ne 6, 3) := by decide +kernel
theorem dX7_pass_36 : decode cX7_pass 36 = .ok (.bipush (-2), 2) := by decide +kernel
theorem dX7_pass_38 : decode cX7_pass 38 = .ok (.ireturn, 1) := by decide +kernel
theorem dX7_pass_39 : decode cX7_pass 39 = .ok (.aload_n 0, 1) := by decide +kernel
theorem dX7_pass_40 : decode cX7_pass 40 = .ok (.getfield 39, 3) := by decide +kernel
theorem dX7_pass_43 : decode cX7_pass 43 = .ok (.iload_n 1, 1) := by decide +kernel
theorem dX7_pass_44 : decode cX7_pass 44 = .ok (.iload_n 2, 1) := by decide +kernel
theorem dX7_pass_45 : decode cX7_pass 45 = .ok (.aload_n 0, 1) := by decide +kernel
theorem dX7_pass_46 : decode cX7_pass 46 = .ok (.getfield 19, 3) := by decide +kernel
theorem dX7_pass_49 : decode cX7_pass 49 = .ok (.getfield 125, 3) := by decide +kernel
theorem dX7_pass_52 : decode cX7_pass 52 = .ok (.iload_n 1, 1) := by decide +kernel
theorem dX7_pass_53 : decode cX7_pass 53 = .ok (.iaload, 1) := by decide +kernel
theorem dX7_pass_54 : decode cX7_pass 54 = .ok (.iconst 0, 1) := by decide +kernel
theorem dX7_pass_55 : decode cX7_pass 55 = .ok (.invokevirtual 131, 3) := by decide +kernel
theorem dX7_pass_58 : decode cX7_pass 58 = .ok (.aload_n 0, 1) := by decide +kernel
theorem dX7_pass_59 : decode cX7_pass 59 = .ok (.getfield 19, 3) := by decide +kernel
theorem dX7_pass_62 : decode cX7_pass 62 = .ok (.iload_n 1, 1) := by decide +kernel
theorem dX7_pass_63 : decode cX7_pass 63 = .ok (.iload_n 2, 1) := by decide +kernel
theorem dX7_pass_64 : decode cX7_pass 64 = .ok (.invokevirtual 135, 3) := by decide +kernel
theorem dX7_pass_67 : decode cX7_pass 67 = .ok (.aload_n 0, 1) := by decide +kernel
theorem dX7_pass_68 : decode cX7_pass 68 = .ok (.getfield 19, 3) := by decide +kernel
theorem dX7_pass_71 : decode cX7_pass 71 = .ok (.getfield 125, 3) := by decide +kernel
theorem dX7_pass_74 : decode cX7_pass 74 = .ok (.iload_n 1, 1) := by decide +kernel
theorem dX7_pass_75 : decode cX7_pass 75 = .ok (.iaload, 1) := by decide +kernel
theorem dX7_pass_76 : decode cX7_pass 76 = .ok (.ireturn, 1) := by decide +kernel
set_option maxRecDepth 20000 in
theorem ggX7_linger_X2_hasPerson : GoodIn wsX7_linger wsX2_hasPerson := goodIn_r _ [10, 11, 72, 73, 74, 75, 76, 77, 78, 79] (by decide +kernel) (by decide +kernel)
set_option maxRecDepth 20000 in
theorem gX7_linger_X2_hasPerson : GoodIn wsX7_linger (wsV RX7 122 RX2 yX2_hasPerson wsX2_hasPerson) := goodIn_app (goodIn_of _ (by decide +kernel)) ggX7_linger_X2_hasPerson
set_option maxRecDepth 20000 in
theorem ggX7_linger_X2_hasGate : GoodIn wsX7_linger wsX2_hasGate := goodIn_r _ [15, 16, 72, 73, 74, 75, 76, 77, 78, 79] (by decide +kernel) (by decide +kernel)
set_option maxRecDepth 20000 in
theorem gX7_linger_X2_hasGate : GoodIn wsX7_linger (wsV RX7 102 RX2 yX2_hasGate wsX2_hasGate) := goodIn_app (goodIn_of _ (by decide +kernel)) ggX7_linger_X2_hasGate
set_option maxRecDepth 20000 in
theorem ggX7_linger_X2_letsIn : GoodIn wsX7_linger wsX2_letsIn := goodIn_r _ [20, 21, 22, 7, 8, 9, 10, 11, 23, 24, 25, 26, 27, 28, 29, 13, 14, 15, 16, 30, 31, 32, 33, 34, 35, 36, 37, 38, 39, 72, 73, 74, 75, 76, 77, 78, 79] (by decide +kernel) (by decide +kernel)
set_option maxRecDepth 20000 in
theorem gX7_linger_X2_letsIn : GoodIn wsX7_linger (wsV RX7 128 RX2 yX2_letsIn wsX2_letsIn) := goodIn_app (goodIn_of _ (by decide +kernel)) ggX7_linger_X2_letsIn
set_option maxRecDepth 20000 in
theorem ggX7_linger_X1_note : GoodIn wsX7_linger wsX1_note := goodIn_r _ [44, 45, 46, 47, 48, 49, 50, 51, 52, 43, 53, 54, 55, 56, 57, 58, 59, 60, 80, 81, 82, 83, 84] (by decide +kernel) (by decide +kernel)
set_option maxRecDepth 20000 in
theorem gX7_linger_X1_note : GoodIn wsX7_linger (wsV RX7 131 RX1 yX1_note wsX1_note) := goodIn_app (goodIn_of _ (by decide +kernel)) ggX7_linger_X1_note
theorem dX7_linger_0 : decode cX7_linger 0 = .ok (.aload_n 0, 1) := by decide +kernel
theorem dX7_linger_1 : decode cX7_linger 1 = .ok (.getfield 19, 3) := by decide +kernel
theorem dX7_linger_4 : decode cX7_linger 4 = .ok (.iload_n 1, 1) := by decide +kernel
theorem dX7_linger_5 : decode cX7_linger 5 = .ok (.invokevirtual 122, 3) := by decide +kernel
theorem dX7_linger_8 : decode cX7_linger 8 = .ok (.ifCond .eq 14, 3) := by decide +kernel
theorem dX7_linger_11 : decode cX7_linger 11 = .ok (.aload_n 0, 1) := by decide +kernel
theorem dX7_linger_12 : decode cX7_linger 12 = .ok (.getfield 19, 3) := by decide +kernel
theorem dX7_linger_15 : decode cX7_linger 15 = .ok (.iload_n 2, 1) := by decide +kernel
theorem dX7_linger_16 : decode cX7_linger 16 = .ok (.invokevirtual 102, 3) := by decide +kernel
theorem dX7_linger_19 : decode cX7_linger 19 = .ok (.ifCond .ne 5, 3) := by decide +kernel
theorem dX7_linger_22 : decode cX7_linger 22 = .ok (.iconst (-1), 1) := by decide +kernel
theorem dX7_linger_23 : decode cX7_linger 23 = .ok (.ireturn, 1) := by decide +kernel
theorem dX7_linger_24 : decode cX7_linger 24 = .ok (.aload_n 0, 1) := by decide +kernel
theorem dX7_linger_25 : decode cX7_linger 25 = .ok (.getfield 19, 3) := by decide +kernel
theorem dX7_linger_28 : decode cX7_linger 28 = .ok (.iload_n 1, 1) := by decide +kernel
theorem dX7_linger_29 : decode cX7_linger 29 = .ok (.iload_n 2, 1) := by decide +kernel
theorem dX7_linger_30 : decode cX7_linger 30 = .ok (.invokevirtual 128, 3) := by decide +kernel
theorem dX7_linger_33 : decode cX7_linger 33 = .ok (.ifCond .ne 6, 3) := by decide +kernel
theorem dX7_linger_36 : decode cX7_linger 36 = .ok (.bipush (-2), 2) := by decide +kernel
theorem dX7_linger_38 : decode cX7_linger 38 = .ok (.ireturn, 1) := by decide +kernel
theorem dX7_linger_39 : decode cX7_linger 39 = .ok (.aload_n 0, 1) := by decide +kernel
theorem dX7_linger_40 : decode cX7_linger 40 = .ok (.getfield 39, 3) := by decide +kernel
theorem dX7_linger_43 : decode cX7_linger 43 = .ok (.iload_n 1, 1) := by decide +kernel
theorem dX7_linger_44 : decode cX7_linger 44 = .ok (.iload_n 2, 1) := by decide +kernel
theorem dX7_linger_45 : decode cX7_linger 45 = .ok (.aload_n 0, 1) := by decide +kernel
theorem dX7_linger_46 : decode cX7_linger 46 = .ok (.getfield 19, 3) := by decide +kernel
theorem dX7_linger_49 : decode cX7_linger 49 = .ok (.getfield 125, 3) := by decide +kernel
theorem dX7_linger_52 : decode cX7_linger 52 = .ok (.iload_n 1, 1) := by decide +kernel
theorem dX7_linger_53 : decode cX7_linger 53 = .ok (.iaload, 1) := by decide +kernel
theorem dX7_linger_54 : decode cX7_linger 54 = .ok (.iconst 1, 1) := by decide +kernel
theorem dX7_linger_55 : decode cX7_linger 55 = .ok (.invokevirtual 131, 3) := by decide +kernel
theorem dX7_linger_58 : decode cX7_linger 58 = .ok (.aload_n 0, 1) := by decide +kernel
theorem dX7_linger_59 : decode cX7_linger 59 = .ok (.getfield 19, 3) := by decide +kernel
theorem dX7_linger_62 : decode cX7_linger 62 = .ok (.getfield 115, 3) := by decide +kernel
theorem dX7_linger_65 : decode cX7_linger 65 = .ok (.iload_n 2, 1) := by decide +kernel
theorem dX7_linger_66 : decode cX7_linger 66 = .ok (.dup2, 1) := by decide +kernel
theorem dX7_linger_67 : decode cX7_linger 67 = .ok (.iaload, 1) := by decide +kernel
theorem dX7_linger_68 : decode cX7_linger 68 = .ok (.iconst 1, 1) := by decide +kernel
theorem dX7_linger_69 : decode cX7_linger 69 = .ok (.iadd, 1) := by decide +kernel
theorem dX7_linger_70 : decode cX7_linger 70 = .ok (.iastore, 1) := by decide +kernel
theorem dX7_linger_71 : decode cX7_linger 71 = .ok (.aload_n 0, 1) := by decide +kernel
theorem dX7_linger_72 : decode cX7_linger 72 = .ok (.getfield 19, 3) := by decide +kernel
theorem dX7_linger_75 : decode cX7_linger 75 = .ok (.dup, 1) := by decide +kernel
theorem dX7_linger_76 : decode cX7_linger 76 = .ok (.getfield 139, 3) := by decide +kernel
theorem dX7_linger_79 : decode cX7_linger 79 = .ok (.iconst 1, 1) := by decide +kernel
theorem dX7_linger_80 : decode cX7_linger 80 = .ok (.iadd, 1) := by decide +kernel
theorem dX7_linger_81 : decode cX7_linger 81 = .ok (.putfield 139, 3) := by decide +kernel
theorem dX7_linger_84 : decode cX7_linger 84 = .ok (.aload_n 0, 1) := by decide +kernel
theorem dX7_linger_85 : decode cX7_linger 85 = .ok (.getfield 19, 3) := by decide +kernel
theorem dX7_linger_88 : decode cX7_linger 88 = .ok (.getfield 139, 3) := by decide +kernel
theorem dX7_linger_91 : decode cX7_linger 91 = .ok (.ireturn, 1) := by decide +kernel
set_option maxRecDepth 20000 in
theorem ggX7_undo_X1_takeBackIn : GoodIn wsX7_undo wsX1_takeBackIn := goodIn_r _ [8, 9, 10, 11, 12, 13, 14, 15, 16, 17, 18, 19, 20, 21, 22, 23, 24, 25, 26, 27, 39, 40, 41, 42, 43, 44, 45, 46, 47, 48, 49, 50, 51] (by decide +kernel) (by decide +kernel)
set_option maxRecDepth 20000 in
theorem gX7_undo_X1_takeBackIn : GoodIn wsX7_undo (wsV RX7 142 RX1 yX1_takeBackIn wsX1_takeBackIn) := goodIn_app (goodIn_of _ (by decide +kernel)) ggX7_undo_X1_takeBackIn
theorem dX7_undo_0 : decode cX7_undo 0 = .ok (.aload_n 0, 1) := by decide +kernel
theorem dX7_undo_1 : decode cX7_undo 1 = .ok (.getfield 39, 3) := by decide +kernel
theorem dX7_undo_4 : decode cX7_undo 4 = .ok (.getfield 101, 3) := by decide +kernel
theorem dX7_undo_7 : decode cX7_undo 7 = .ok (.ifCond .ne 6, 3) := by decide +kernel
theorem dX7_undo_10 : decode cX7_undo 10 = .ok (.bipush (-2), 2) := by decide +kernel
theorem dX7_undo_12 : decode cX7_undo 12 = .ok (.ireturn, 1) := by decide +kernel
theorem dX7_undo_13 : decode cX7_undo 13 = .ok (.aload_n 0, 1) := by decide +kernel
theorem dX7_undo_14 : decode cX7_undo 14 = .ok (.getfield 39, 3) := by decide +kernel
theorem dX7_undo_17 : decode cX7_undo 17 = .ok (.aload_n 0, 1) := by decide +kernel
theorem dX7_undo_18 : decode cX7_undo 18 = .ok (.getfield 19, 3) := by decide +kernel
theorem dX7_undo_21 : decode cX7_undo 21 = .ok (.invokevirtual 142, 3) := by decide +kernel
theorem dX7_undo_24 : decode cX7_undo 24 = .ok (.aload_n 0, 1) := by decide +kernel
theorem dX7_undo_25 : decode cX7_undo 25 = .ok (.getfield 39, 3) := by decide +kernel
theorem dX7_undo_28 : decode cX7_undo 28 = .ok (.getfield 101, 3) := by decide +kernel
theorem dX7_undo_31 : decode cX7_undo 31 = .ok (.ireturn, 1) := by decide +kernel
set_option maxRecDepth 20000 in
theorem ggX7_way_X7_isCourt : GoodIn wsX7_way wsX7_isCourt := goodIn_r _ [8] (by decide +kernel) (by decide +kernel)
set_option maxRecDepth 20000 in
theorem gX7_way_X7_isCourt : GoodIn wsX7_way (va_wsS RX7 145 yX7_isCourt wsX7_isCourt) := goodIn_app (goodIn_of _ (by decide +kernel)) ggX7_way_X7_isCourt
set_option maxRecDepth 20000 in
theorem ggX7_way_X7_isZeroOrOne : GoodIn wsX7_way wsX7_isZeroOrOne := goodIn_r _ [11] (by decide +kernel) (by decide +kernel)
set_option maxRecDepth 20000 in
theorem gX7_way_X7_isZeroOrOne : GoodIn wsX7_way (va_wsS RX7 148 yX7_isZeroOrOne wsX7_isZeroOrOne) := goodIn_app (goodIn_of _ (by decide +kernel)) ggX7_way_X7_isZeroOrOne
set_option maxRecDepth 20000 in
theorem ggX7_way_X6_search : GoodIn wsX7_way wsX6_search := goodIn_r _ [16, 17, 18, 19, 20, 21, 22, 23, 24, 25, 26, 27, 28, 29, 30, 31, 32, 33, 34, 35, 36, 37, 38, 39, 40, 41, 42, 43, 15, 44, 45, 46, 47, 48, 49, 50, 51, 52, 53, 54, 55, 56, 57, 58, 59, 60, 61, 62, 63, 64, 65, 66, 67, 68, 69, 70, 71, 72, 73, 74, 75, 76, 77, 78, 79, 80, 81, 82, 83, 84, 85, 86, 87, 88, 89, 90, 91, 92, 93, 94, 95, 96, 97, 98, 99, 100, 101, 102, 103, 104, 105, 106, 107, 108, 109, 110, 111, 112, 113, 125, 126, 127, 128, 129, 130, 131, 132, 133, 134, 135, 136, 137, 138, 139, 140, 141, 142, 143] (by decide +kernel) (by decide +kernel)
set_option maxRecDepth 20000 in
theorem gX7_way_X6_search : GoodIn wsX7_way (wsV RX7 151 RX6 yX6_search wsX6_search) := goodIn_app (goodIn_of _ (by decide +kernel)) ggX7_way_X6_search
theorem dX7_way_0 : decode cX7_way 0 = .ok (.iload_n 1, 1) := by decide +kernel
theorem dX7_way_1 : decode cX7_way 1 = .ok (.invokestatic 145, 3) := by decide +kernel
theorem dX7_way_4 : decode cX7_way 4 = .ok (.ifCond .eq 10, 3) := by decide +kernel
theorem dX7_way_7 : decode cX7_way 7 = .ok (.iload_n 3, 1) := by decide +kernel
theorem dX7_way_8 : decode cX7_way 8 = .ok (.invokestatic 148, 3) := by decide +kernel
theorem dX7_way_11 : decode cX7_way 11 = .ok (.ifCond .ne 5, 3) := by decide +kernel
theorem dX7_way_14 : decode cX7_way 14 = .ok (.iconst (-1), 1) := by decide +kernel
theorem dX7_way_15 : decode cX7_way 15 = .ok (.ireturn, 1) := by decide +kernel
theorem dX7_way_16 : decode cX7_way 16 = .ok (.aload_n 0, 1) := by decide +kernel
theorem dX7_way_17 : decode cX7_way 17 = .ok (.getfield 60, 3) := by decide +kernel
theorem dX7_way_20 : decode cX7_way 20 = .ok (.aload_n 0, 1) := by decide +kernel
theorem dX7_way_21 : decode cX7_way 21 = .ok (.getfield 19, 3) := by decide +kernel
theorem dX7_way_24 : decode cX7_way 24 = .ok (.iload_n 2, 1) := by decide +kernel
theorem dX7_way_25 : decode cX7_way 25 = .ok (.ifCond .eq 7, 3) := by decide +kernel
theorem dX7_way_28 : decode cX7_way 28 = .ok (.iconst 0, 1) := by decide +kernel
theorem dX7_way_29 : decode cX7_way 29 = .ok (.goto 4, 3) := by decide +kernel
theorem dX7_way_32 : decode cX7_way 32 = .ok (.iconst 1, 1) := by decide +kernel
theorem dX7_way_33 : decode cX7_way 33 = .ok (.iload_n 1, 1) := by decide +kernel
theorem dX7_way_34 : decode cX7_way 34 = .ok (.invokevirtual 151, 3) := by decide +kernel
theorem dX7_way_37 : decode cX7_way 37 = .ok (.iload_n 3, 1) := by decide +kernel
theorem dX7_way_38 : decode cX7_way 38 = .ok (.ifCond .ne 13, 3) := by decide +kernel
theorem dX7_way_41 : decode cX7_way 41 = .ok (.aload_n 0, 1) := by decide +kernel
theorem dX7_way_42 : decode cX7_way 42 = .ok (.getfield 60, 3) := by decide +kernel
theorem dX7_way_45 : decode cX7_way 45 = .ok (.getfield 155, 3) := by decide +kernel
theorem dX7_way_48 : decode cX7_way 48 = .ok (.goto 10, 3) := by decide +kernel
theorem dX7_way_51 : decode cX7_way 51 = .ok (.aload_n 0, 1) := by decide +kernel
theorem dX7_way_52 : decode cX7_way 52 = .ok (.getfield 60, 3) := by decide +kernel
theorem dX7_way_55 : decode cX7_way 55 = .ok (.getfield 158, 3) := by decide +kernel
theorem dX7_way_58 : decode cX7_way 58 = .ok (.ireturn, 1) := by decide +kernel
set_option maxRecDepth 20000 in
theorem ggX7_smallest_X7_isCourt : GoodIn wsX7_smallest wsX7_isCourt := goodIn_r _ [8] (by decide +kernel) (by decide +kernel)
set_option maxRecDepth 20000 in
theorem gX7_smallest_X7_isCourt : GoodIn wsX7_smallest (va_wsS RX7 145 yX7_isCourt wsX7_isCourt) := goodIn_app (goodIn_of _ (by decide +kernel)) ggX7_smallest_X7_isCourt
set_option maxRecDepth 20000 in
theorem ggX7_smallest_X2_copyFrom : GoodIn wsX7_smallest wsX2_copyFrom := goodIn_r _ [13, 14, 15, 16, 17, 18, 19, 20, 21, 22, 23, 24, 25, 143, 144, 145, 146, 147, 148, 149, 150] (by decide +kernel) (by decide +kernel)
set_option maxRecDepth 20000 in
theorem gX7_smallest_X2_copyFrom : GoodIn wsX7_smallest (wsV RX7 93 RX2 yX2_copyFrom wsX2_copyFrom) := goodIn_app (goodIn_of _ (by decide +kernel)) ggX7_smallest_X2_copyFrom
set_option maxRecDepth 20000 in
theorem ggX7_smallest_X2_gather : GoodIn wsX7_smallest wsX2_gather := goodIn_r _ [29, 30, 31, 32, 33, 34, 35, 36, 24, 22, 37, 38, 39, 40, 143, 144, 145, 146, 147, 148, 149, 150] (by decide +kernel) (by decide +kernel)
set_option maxRecDepth 20000 in
theorem gX7_smallest_X2_gather : GoodIn wsX7_smallest (wsV RX7 161 RX2 yX2_gather wsX2_gather) := goodIn_app (goodIn_of _ (by decide +kernel)) ggX7_smallest_X2_gather
set_option maxRecDepth 20000 in
theorem ggX7_smallest_X6_search : GoodIn wsX7_smallest wsX6_search := goodIn_r _ [45, 46, 47, 48, 49, 50, 51, 52, 53, 10, 11, 12, 13, 14, 15, 16, 17, 18, 19, 20, 21, 22, 23, 24, 25, 54, 55, 56, 44, 57, 58, 59, 60, 61, 62, 63, 64, 65, 66, 67, 68, 69, 70, 71, 72, 73, 74, 75, 76, 77, 78, 79, 80, 81, 82, 38, 39, 40, 83, 84, 85, 86, 87, 88, 89, 90, 91, 92, 93, 94, 95, 96, 97, 98, 99, 100, 101, 102, 103, 104, 105, 31, 32, 33, 106, 107, 108, 109, 110, 111, 112, 113, 114, 115, 116, 117, 118, 119, 120, 132, 133, 134, 135, 136, 137, 138, 139, 140, 141, 142, 143, 144, 145, 146, 147, 148, 149, 150] (by decide +kernel) (by decide +kernel)
set_option maxRecDepth 20000 in
theorem gX7_smallest_X6_search : GoodIn wsX7_smallest (wsV RX7 151 RX6 yX6_search wsX6_search) := goodIn_app (goodIn_of _ (by decide +kernel)) ggX7_smallest_X6_search
theorem dX7_smallest_0 : decode cX7_smallest 0 = .ok (.iload_n 1, 1) := by decide +kernel
theorem dX7_smallest_1 : decode cX7_smallest 1 = .ok (.invokestatic 145, 3) := by decide +kernel
theorem dX7_smallest_4 : decode cX7_smallest 4 = .ok (.ifCond .ne 5, 3) := by decide +kernel
theorem dX7_smallest_7 : decode cX7_smallest 7 = .ok (.iconst (-1), 1) := by decide +kernel
theorem dX7_smallest_8 : decode cX7_smallest 8 = .ok (.ireturn, 1) := by decide +kernel
theorem dX7_smallest_9 : decode cX7_smallest 9 = .ok (.aload_n 0, 1) := by decide +kernel
theorem dX7_smallest_10 : decode cX7_smallest 10 = .ok (.getfield 23, 3) := by decide +kernel
theorem dX7_smallest_13 : decode cX7_smallest 13 = .ok (.aload_n 0, 1) := by decide +kernel
theorem dX7_smallest_14 : decode cX7_smallest 14 = .ok (.getfield 19, 3) := by decide +kernel
theorem dX7_smallest_17 : decode cX7_smallest 17 = .ok (.invokevirtual 93, 3) := by decide +kernel
theorem dX7_smallest_20 : decode cX7_smallest 20 = .ok (.iconst 1, 1) := by decide +kernel
theorem dX7_smallest_21 : decode cX7_smallest 21 = .ok (.istore_n 2, 1) := by decide +kernel
theorem dX7_smallest_22 : decode cX7_smallest 22 = .ok (.iload_n 2, 1) := by decide +kernel
theorem dX7_smallest_23 : decode cX7_smallest 23 = .ok (.iconst 3, 1) := by decide +kernel
theorem dX7_smallest_24 : decode cX7_smallest 24 = .ok (.if_icmp .gt 44, 3) := by decide +kernel
theorem dX7_smallest_27 : decode cX7_smallest 27 = .ok (.aload_n 0, 1) := by decide +kernel
theorem dX7_smallest_28 : decode cX7_smallest 28 = .ok (.getfield 23, 3) := by decide +kernel
theorem dX7_smallest_31 : decode cX7_smallest 31 = .ok (.iload_n 2, 1) := by decide +kernel
theorem dX7_smallest_32 : decode cX7_smallest 32 = .ok (.invokevirtual 161, 3) := by decide +kernel
theorem dX7_smallest_35 : decode cX7_smallest 35 = .ok (.aload_n 0, 1) := by decide +kernel
theorem dX7_smallest_36 : decode cX7_smallest 36 = .ok (.getfield 60, 3) := by decide +kernel
theorem dX7_smallest_39 : decode cX7_smallest 39 = .ok (.aload_n 0, 1) := by decide +kernel
theorem dX7_smallest_40 : decode cX7_smallest 40 = .ok (.getfield 23, 3) := by decide +kernel
theorem dX7_smallest_43 : decode cX7_smallest 43 = .ok (.iconst 1, 1) := by decide +kernel
theorem dX7_smallest_44 : decode cX7_smallest 44 = .ok (.iload_n 1, 1) := by decide +kernel
theorem dX7_smallest_45 : decode cX7_smallest 45 = .ok (.invokevirtual 151, 3) := by decide +kernel
theorem dX7_smallest_48 : decode cX7_smallest 48 = .ok (.aload_n 0, 1) := by decide +kernel
theorem dX7_smallest_49 : decode cX7_smallest 49 = .ok (.getfield 60, 3) := by decide +kernel
theorem dX7_smallest_52 : decode cX7_smallest 52 = .ok (.getfield 155, 3) := by decide +kernel
theorem dX7_smallest_55 : decode cX7_smallest 55 = .ok (.bipush (-4), 2) := by decide +kernel
theorem dX7_smallest_57 : decode cX7_smallest 57 = .ok (.if_icmp .eq 5, 3) := by decide +kernel
theorem dX7_smallest_60 : decode cX7_smallest 60 = .ok (.iload_n 2, 1) := by decide +kernel
theorem dX7_smallest_61 : decode cX7_smallest 61 = .ok (.ireturn, 1) := by decide +kernel
theorem dX7_smallest_62 : decode cX7_smallest 62 = .ok (.iinc 2 1, 3) := by decide +kernel
theorem dX7_smallest_65 : decode cX7_smallest 65 = .ok (.goto (-43), 3) := by decide +kernel
theorem dX7_smallest_68 : decode cX7_smallest 68 = .ok (.bipush (-4), 2) := by decide +kernel
theorem dX7_smallest_70 : decode cX7_smallest 70 = .ok (.ireturn, 1) := by decide +kernel
set_option maxRecDepth 20000 in
theorem ggX7_mend_X2_hasSet : GoodIn wsX7_mend wsX2_hasSet := goodIn_r _ [10, 11, 148, 149, 150, 151, 152, 153, 154, 155] (by decide +kernel) (by decide +kernel)
set_option maxRecDepth 20000 in
theorem gX7_mend_X2_hasSet : GoodIn wsX7_mend (wsV RX7 165 RX2 yX2_hasSet wsX2_hasSet) := goodIn_app (goodIn_of _ (by decide +kernel)) ggX7_mend_X2_hasSet
set_option maxRecDepth 20000 in
theorem ggX7_mend_X7_isZeroOrOne : GoodIn wsX7_mend wsX7_isZeroOrOne := goodIn_r _ [15] (by decide +kernel) (by decide +kernel)
set_option maxRecDepth 20000 in
theorem gX7_mend_X7_isZeroOrOne : GoodIn wsX7_mend (va_wsS RX7 148 yX7_isZeroOrOne wsX7_isZeroOrOne) := goodIn_app (goodIn_of _ (by decide +kernel)) ggX7_mend_X7_isZeroOrOne
set_option maxRecDepth 20000 in
theorem ggX7_mend_X2_copyFrom : GoodIn wsX7_mend wsX2_copyFrom := goodIn_r _ [19, 20, 21, 22, 23, 24, 25, 26, 27, 28, 11, 29, 30, 148, 149, 150, 151, 152, 153, 154, 155] (by decide +kernel) (by decide +kernel)
set_option maxRecDepth 20000 in
theorem gX7_mend_X2_copyFrom : GoodIn wsX7_mend (wsV RX7 93 RX2 yX2_copyFrom wsX2_copyFrom) := goodIn_app (goodIn_of _ (by decide +kernel)) ggX7_mend_X2_copyFrom
set_option maxRecDepth 20000 in
theorem ggX7_mend_X2_gather : GoodIn wsX7_mend wsX2_gather := goodIn_r _ [34, 35, 36, 37, 38, 39, 40, 41, 29, 28, 42, 43, 44, 45, 148, 149, 150, 151, 152, 153, 154, 155] (by decide +kernel) (by decide +kernel)
set_option maxRecDepth 20000 in
theorem gX7_mend_X2_gather : GoodIn wsX7_mend (wsV RX7 161 RX2 yX2_gather wsX2_gather) := goodIn_app (goodIn_of _ (by decide +kernel)) ggX7_mend_X2_gather
set_option maxRecDepth 20000 in
theorem ggX7_mend_X6_search : GoodIn wsX7_mend wsX6_search := goodIn_r _ [50, 51, 52, 53, 54, 55, 56, 57, 58, 17, 18, 9, 19, 20, 21, 22, 23, 24, 25, 26, 27, 28, 11, 29, 30, 59, 60, 61, 49, 62, 63, 64, 65, 66, 67, 68, 69, 70, 71, 72, 73, 74, 75, 76, 77, 78, 79, 80, 81, 82, 83, 84, 85, 86, 87, 43, 44, 45, 88, 89, 90, 91, 92, 93, 94, 95, 96, 97, 98, 99, 100, 101, 102, 103, 104, 105, 106, 107, 108, 109, 110, 36, 37, 38, 111, 112, 113, 114, 115, 116, 117, 118, 119, 120, 121, 122, 123, 124, 125, 137, 138, 139, 140, 141, 142, 143, 144, 145, 146, 147, 148, 149, 150, 151, 152, 153, 154, 155] (by decide +kernel) (by decide +kernel)
set_option maxRecDepth 20000 in
theorem gX7_mend_X6_search : GoodIn wsX7_mend (wsV RX7 151 RX6 yX6_search wsX6_search) := goodIn_app (goodIn_of _ (by decide +kernel)) ggX7_mend_X6_search
theorem dX7_mend_0 : decode cX7_mend 0 = .ok (.aload_n 0, 1) := by decide +kernel
theorem dX7_mend_1 : decode cX7_mend 1 = .ok (.getfield 19, 3) := by decide +kernel
theorem dX7_mend_4 : decode cX7_mend 4 = .ok (.iload_n 1, 1) := by decide +kernel
theorem dX7_mend_5 : decode cX7_mend 5 = .ok (.invokevirtual 165, 3) := by decide +kernel
theorem dX7_mend_8 : decode cX7_mend 8 = .ok (.ifCond .eq 10, 3) := by decide +kernel
theorem dX7_mend_11 : decode cX7_mend 11 = .ok (.iload_n 2, 1) := by decide +kernel
theorem dX7_mend_12 : decode cX7_mend 12 = .ok (.invokestatic 148, 3) := by decide +kernel
theorem dX7_mend_15 : decode cX7_mend 15 = .ok (.ifCond .ne 5, 3) := by decide +kernel
theorem dX7_mend_18 : decode cX7_mend 18 = .ok (.iconst (-1), 1) := by decide +kernel
theorem dX7_mend_19 : decode cX7_mend 19 = .ok (.ireturn, 1) := by decide +kernel
theorem dX7_mend_20 : decode cX7_mend 20 = .ok (.aload_n 0, 1) := by decide +kernel
theorem dX7_mend_21 : decode cX7_mend 21 = .ok (.getfield 23, 3) := by decide +kernel
theorem dX7_mend_24 : decode cX7_mend 24 = .ok (.aload_n 0, 1) := by decide +kernel
theorem dX7_mend_25 : decode cX7_mend 25 = .ok (.getfield 19, 3) := by decide +kernel
theorem dX7_mend_28 : decode cX7_mend 28 = .ok (.invokevirtual 93, 3) := by decide +kernel
theorem dX7_mend_31 : decode cX7_mend 31 = .ok (.aload_n 0, 1) := by decide +kernel
theorem dX7_mend_32 : decode cX7_mend 32 = .ok (.getfield 23, 3) := by decide +kernel
theorem dX7_mend_35 : decode cX7_mend 35 = .ok (.iconst 1, 1) := by decide +kernel
theorem dX7_mend_36 : decode cX7_mend 36 = .ok (.invokevirtual 161, 3) := by decide +kernel
theorem dX7_mend_39 : decode cX7_mend 39 = .ok (.aload_n 0, 1) := by decide +kernel
theorem dX7_mend_40 : decode cX7_mend 40 = .ok (.getfield 60, 3) := by decide +kernel
theorem dX7_mend_43 : decode cX7_mend 43 = .ok (.aload_n 0, 1) := by decide +kernel
theorem dX7_mend_44 : decode cX7_mend 44 = .ok (.getfield 23, 3) := by decide +kernel
theorem dX7_mend_47 : decode cX7_mend 47 = .ok (.iconst 2, 1) := by decide +kernel
theorem dX7_mend_48 : decode cX7_mend 48 = .ok (.iload_n 1, 1) := by decide +kernel
theorem dX7_mend_49 : decode cX7_mend 49 = .ok (.invokevirtual 151, 3) := by decide +kernel
theorem dX7_mend_52 : decode cX7_mend 52 = .ok (.iload_n 2, 1) := by decide +kernel
theorem dX7_mend_53 : decode cX7_mend 53 = .ok (.ifCond .ne 13, 3) := by decide +kernel
theorem dX7_mend_56 : decode cX7_mend 56 = .ok (.aload_n 0, 1) := by decide +kernel
theorem dX7_mend_57 : decode cX7_mend 57 = .ok (.getfield 60, 3) := by decide +kernel
theorem dX7_mend_60 : decode cX7_mend 60 = .ok (.getfield 155, 3) := by decide +kernel
theorem dX7_mend_63 : decode cX7_mend 63 = .ok (.goto 10, 3) := by decide +kernel
theorem dX7_mend_66 : decode cX7_mend 66 = .ok (.aload_n 0, 1) := by decide +kernel
theorem dX7_mend_67 : decode cX7_mend 67 = .ok (.getfield 60, 3) := by decide +kernel
theorem dX7_mend_70 : decode cX7_mend 70 = .ok (.getfield 158, 3) := by decide +kernel
theorem dX7_mend_73 : decode cX7_mend 73 = .ok (.ireturn, 1) := by decide +kernel
set_option maxRecDepth 20000 in
theorem ggX7_seen_X2_hasGate : GoodIn wsX7_seen wsX2_hasGate := goodIn_r _ [8, 9, 36, 37, 38, 39, 40, 41, 42, 43] (by decide +kernel) (by decide +kernel)
set_option maxRecDepth 20000 in
theorem gX7_seen_X2_hasGate : GoodIn wsX7_seen (wsV RX7 102 RX2 yX2_hasGate wsX2_hasGate) := goodIn_app (goodIn_of _ (by decide +kernel)) ggX7_seen_X2_hasGate
set_option maxRecDepth 20000 in
theorem ggX7_seen_X4_hasRoom : GoodIn wsX7_seen wsX4_hasRoom := goodIn_r _ [14, 15, 33, 34, 35] (by decide +kernel) (by decide +kernel)
set_option maxRecDepth 20000 in
theorem gX7_seen_X4_hasRoom : GoodIn wsX7_seen (wsV RX7 168 RX4 yX4_hasRoom wsX4_hasRoom) := goodIn_app (goodIn_of _ (by decide +kernel)) ggX7_seen_X4_hasRoom
set_option maxRecDepth 20000 in
theorem ggX7_seen_X4_add : GoodIn wsX7_seen wsX4_add := goodIn_r _ [19, 15, 20, 21, 33, 34, 35] (by decide +kernel) (by decide +kernel)
set_option maxRecDepth 20000 in
theorem gX7_seen_X4_add : GoodIn wsX7_seen (wsV RX7 171 RX4 yX4_add wsX4_add) := goodIn_app (goodIn_of _ (by decide +kernel)) ggX7_seen_X4_add
theorem dX7_seen_0 : decode cX7_seen 0 = .ok (.aload_n 0, 1) := by decide +kernel
theorem dX7_seen_1 : decode cX7_seen 1 = .ok (.getfield 19, 3) := by decide +kernel
theorem dX7_seen_4 : decode cX7_seen 4 = .ok (.iload_n 1, 1) := by decide +kernel
theorem dX7_seen_5 : decode cX7_seen 5 = .ok (.invokevirtual 102, 3) := by decide +kernel
theorem dX7_seen_8 : decode cX7_seen 8 = .ok (.ifCond .ne 5, 3) := by decide +kernel
theorem dX7_seen_11 : decode cX7_seen 11 = .ok (.iconst (-1), 1) := by decide +kernel
theorem dX7_seen_12 : decode cX7_seen 12 = .ok (.ireturn, 1) := by decide +kernel
theorem dX7_seen_13 : decode cX7_seen 13 = .ok (.aload_n 0, 1) := by decide +kernel
theorem dX7_seen_14 : decode cX7_seen 14 = .ok (.getfield 46, 3) := by decide +kernel
theorem dX7_seen_17 : decode cX7_seen 17 = .ok (.invokevirtual 168, 3) := by decide +kernel
theorem dX7_seen_20 : decode cX7_seen 20 = .ok (.ifCond .ne 6, 3) := by decide +kernel
theorem dX7_seen_23 : decode cX7_seen 23 = .ok (.bipush (-3), 2) := by decide +kernel
theorem dX7_seen_25 : decode cX7_seen 25 = .ok (.ireturn, 1) := by decide +kernel
theorem dX7_seen_26 : decode cX7_seen 26 = .ok (.aload_n 0, 1) := by decide +kernel
theorem dX7_seen_27 : decode cX7_seen 27 = .ok (.getfield 46, 3) := by decide +kernel
theorem dX7_seen_30 : decode cX7_seen 30 = .ok (.iload_n 1, 1) := by decide +kernel
theorem dX7_seen_31 : decode cX7_seen 31 = .ok (.iload_n 2, 1) := by decide +kernel
theorem dX7_seen_32 : decode cX7_seen 32 = .ok (.invokevirtual 171, 3) := by decide +kernel
theorem dX7_seen_35 : decode cX7_seen 35 = .ok (.aload_n 0, 1) := by decide +kernel
theorem dX7_seen_36 : decode cX7_seen 36 = .ok (.getfield 46, 3) := by decide +kernel
theorem dX7_seen_39 : decode cX7_seen 39 = .ok (.getfield 97, 3) := by decide +kernel
theorem dX7_seen_42 : decode cX7_seen 42 = .ok (.ireturn, 1) := by decide +kernel
theorem dX7_forget_0 : decode cX7_forget 0 = .ok (.aload_n 0, 1) := by decide +kernel
theorem dX7_forget_1 : decode cX7_forget 1 = .ok (.getfield 46, 3) := by decide +kernel
theorem dX7_forget_4 : decode cX7_forget 4 = .ok (.getfield 97, 3) := by decide +kernel
theorem dX7_forget_7 : decode cX7_forget 7 = .ok (.istore_n 1, 1) := by decide +kernel
theorem dX7_forget_8 : decode cX7_forget 8 = .ok (.aload_n 0, 1) := by decide +kernel
theorem dX7_forget_9 : decode cX7_forget 9 = .ok (.getfield 46, 3) := by decide +kernel
theorem dX7_forget_12 : decode cX7_forget 12 = .ok (.iconst 0, 1) := by decide +kernel
theorem dX7_forget_13 : decode cX7_forget 13 = .ok (.putfield 97, 3) := by decide +kernel
theorem dX7_forget_16 : decode cX7_forget 16 = .ok (.iload_n 1, 1) := by decide +kernel
theorem dX7_forget_17 : decode cX7_forget 17 = .ok (.ireturn, 1) := by decide +kernel
set_option maxRecDepth 20000 in
theorem ggX7_wrong_X2_copyFrom : GoodIn wsX7_wrong wsX2_copyFrom := goodIn_r _ [10, 11, 12, 13, 14, 15, 16, 17, 18, 19, 20, 21, 22, 58, 59, 60, 61, 62, 63, 64, 65] (by decide +kernel) (by decide +kernel)
set_option maxRecDepth 20000 in
theorem gX7_wrong_X2_copyFrom : GoodIn wsX7_wrong (wsV RX7 93 RX2 yX2_copyFrom wsX2_copyFrom) := goodIn_app (goodIn_of _ (by decide +kernel)) ggX7_wrong_X2_copyFrom
set_option maxRecDepth 20000 in
theorem ggX7_wrong_X2_openFromA : GoodIn wsX7_wrong wsX2_openFromA := goodIn_r _ [26, 20, 27, 28, 29, 9, 30, 17, 18, 31, 32, 33, 34, 35, 36, 37, 38, 58, 59, 60, 61, 62, 63, 64, 65] (by decide +kernel) (by decide +kernel)
set_option maxRecDepth 20000 in
theorem gX7_wrong_X2_openFromA : GoodIn wsX7_wrong (wsV RX7 175 RX2 yX2_openFromA wsX2_openFromA) := goodIn_app (goodIn_of _ (by decide +kernel)) ggX7_wrong_X2_openFromA
set_option maxRecDepth 20000 in
theorem ggX7_wrong_X4_fit : GoodIn wsX7_wrong wsX4_fit := goodIn_r _ [43, 44, 45, 46, 66, 67, 68] (by decide +kernel) (by decide +kernel)
set_option maxRecDepth 20000 in
theorem gX7_wrong_X4_fit : GoodIn wsX7_wrong (wsV RX7 179 RX4 yX4_fit wsX4_fit) := goodIn_app (goodIn_of _ (by decide +kernel)) ggX7_wrong_X4_fit
theorem dX7_wrong_0 : decode cX7_wrong 0 = .ok (.aload_n 0, 1) := by decide +kernel
theorem dX7_wrong_1 : decode cX7_wrong 1 = .ok (.getfield 23, 3) := by decide +kernel
theorem dX7_wrong_4 : decode cX7_wrong 4 = .ok (.aload_n 0, 1) := by decide +kernel
theorem dX7_wrong_5 : decode cX7_wrong 5 = .ok (.getfield 19, 3) := by decide +kernel
theorem dX7_wrong_8 : decode cX7_wrong 8 = .ok (.invokevirtual 93, 3) := by decide +kernel
theorem dX7_wrong_11 : decode cX7_wrong 11 = .ok (.aload_n 0, 1) := by decide +kernel
theorem dX7_wrong_12 : decode cX7_wrong 12 = .ok (.getfield 46, 3) := by decide +kernel
theorem dX7_wrong_15 : decode cX7_wrong 15 = .ok (.aload_n 0, 1) := by decide +kernel
theorem dX7_wrong_16 : decode cX7_wrong 16 = .ok (.getfield 23, 3) := by decide +kernel
theorem dX7_wrong_19 : decode cX7_wrong 19 = .ok (.invokevirtual 175, 3) := by decide +kernel
theorem dX7_wrong_22 : decode cX7_wrong 22 = .ok (.invokevirtual 179, 3) := by decide +kernel
theorem dX7_wrong_25 : decode cX7_wrong 25 = .ok (.ifCond .eq 8, 3) := by decide +kernel
theorem dX7_wrong_28 : decode cX7_wrong 28 = .ok (.bipush 32, 2) := by decide +kernel
theorem dX7_wrong_30 : decode cX7_wrong 30 = .ok (.goto 4, 3) := by decide +kernel
theorem dX7_wrong_33 : decode cX7_wrong 33 = .ok (.iconst 0, 1) := by decide +kernel
theorem dX7_wrong_34 : decode cX7_wrong 34 = .ok (.istore_n 1, 1) := by decide +kernel
theorem dX7_wrong_35 : decode cX7_wrong 35 = .ok (.iconst 0, 1) := by decide +kernel
theorem dX7_wrong_36 : decode cX7_wrong 36 = .ok (.istore_n 2, 1) := by decide +kernel
theorem dX7_wrong_37 : decode cX7_wrong 37 = .ok (.iload_n 2, 1) := by decide +kernel
theorem dX7_wrong_38 : decode cX7_wrong 38 = .ok (.aload_n 0, 1) := by decide +kernel
theorem dX7_wrong_39 : decode cX7_wrong 39 = .ok (.getfield 23, 3) := by decide +kernel
theorem dX7_wrong_42 : decode cX7_wrong 42 = .ok (.getfield 90, 3) := by decide +kernel
theorem dX7_wrong_45 : decode cX7_wrong 45 = .ok (.if_icmp .ge 63, 3) := by decide +kernel
theorem dX7_wrong_48 : decode cX7_wrong 48 = .ok (.iload_n 2, 1) := by decide +kernel
theorem dX7_wrong_49 : decode cX7_wrong 49 = .ok (.iconst 5, 1) := by decide +kernel
theorem dX7_wrong_50 : decode cX7_wrong 50 = .ok (.if_icmp .ge 58, 3) := by decide +kernel
theorem dX7_wrong_53 : decode cX7_wrong 53 = .ok (.aload_n 0, 1) := by decide +kernel
theorem dX7_wrong_54 : decode cX7_wrong 54 = .ok (.getfield 23, 3) := by decide +kernel
theorem dX7_wrong_57 : decode cX7_wrong 57 = .ok (.getfield 115, 3) := by decide +kernel
theorem dX7_wrong_60 : decode cX7_wrong 60 = .ok (.iload_n 2, 1) := by decide +kernel
theorem dX7_wrong_61 : decode cX7_wrong 61 = .ok (.dup2, 1) := by decide +kernel
theorem dX7_wrong_62 : decode cX7_wrong 62 = .ok (.iaload, 1) := by decide +kernel
theorem dX7_wrong_63 : decode cX7_wrong 63 = .ok (.iconst 1, 1) := by decide +kernel
theorem dX7_wrong_64 : decode cX7_wrong 64 = .ok (.iadd, 1) := by decide +kernel
theorem dX7_wrong_65 : decode cX7_wrong 65 = .ok (.iastore, 1) := by decide +kernel
theorem dX7_wrong_66 : decode cX7_wrong 66 = .ok (.aload_n 0, 1) := by decide +kernel
theorem dX7_wrong_67 : decode cX7_wrong 67 = .ok (.getfield 46, 3) := by decide +kernel
theorem dX7_wrong_70 : decode cX7_wrong 70 = .ok (.aload_n 0, 1) := by decide +kernel
theorem dX7_wrong_71 : decode cX7_wrong 71 = .ok (.getfield 23, 3) := by decide +kernel
theorem dX7_wrong_74 : decode cX7_wrong 74 = .ok (.invokevirtual 175, 3) := by decide +kernel
theorem dX7_wrong_77 : decode cX7_wrong 77 = .ok (.invokevirtual 179, 3) := by decide +kernel
theorem dX7_wrong_80 : decode cX7_wrong 80 = .ok (.ifCond .eq 9, 3) := by decide +kernel
theorem dX7_wrong_83 : decode cX7_wrong 83 = .ok (.iload_n 1, 1) := by decide +kernel
theorem dX7_wrong_84 : decode cX7_wrong 84 = .ok (.iconst 1, 1) := by decide +kernel
theorem dX7_wrong_85 : decode cX7_wrong 85 = .ok (.iload_n 2, 1) := by decide +kernel
theorem dX7_wrong_86 : decode cX7_wrong 86 = .ok (.ishl, 1) := by decide +kernel
theorem dX7_wrong_87 : decode cX7_wrong 87 = .ok (.ior, 1) := by decide +kernel
theorem dX7_wrong_88 : decode cX7_wrong 88 = .ok (.istore_n 1, 1) := by decide +kernel
theorem dX7_wrong_89 : decode cX7_wrong 89 = .ok (.aload_n 0, 1) := by decide +kernel
theorem dX7_wrong_90 : decode cX7_wrong 90 = .ok (.getfield 23, 3) := by decide +kernel
theorem dX7_wrong_93 : decode cX7_wrong 93 = .ok (.getfield 115, 3) := by decide +kernel
theorem dX7_wrong_96 : decode cX7_wrong 96 = .ok (.iload_n 2, 1) := by decide +kernel
theorem dX7_wrong_97 : decode cX7_wrong 97 = .ok (.dup2, 1) := by decide +kernel
theorem dX7_wrong_98 : decode cX7_wrong 98 = .ok (.iaload, 1) := by decide +kernel
theorem dX7_wrong_99 : decode cX7_wrong 99 = .ok (.iconst 1, 1) := by decide +kernel
theorem dX7_wrong_100 : decode cX7_wrong 100 = .ok (.isub, 1) := by decide +kernel
theorem dX7_wrong_101 : decode cX7_wrong 101 = .ok (.iastore, 1) := by decide +kernel
theorem dX7_wrong_102 : decode cX7_wrong 102 = .ok (.iinc 2 1, 3) := by decide +kernel
theorem dX7_wrong_105 : decode cX7_wrong 105 = .ok (.goto (-68), 3) := by decide +kernel
theorem dX7_wrong_108 : decode cX7_wrong 108 = .ok (.iload_n 1, 1) := by decide +kernel
theorem dX7_wrong_109 : decode cX7_wrong 109 = .ok (.ireturn, 1) := by decide +kernel
set_option maxRecDepth 20000 in
theorem ggX7_path_X2_hasGate : GoodIn wsX7_path wsX2_hasGate := goodIn_r _ [8, 9, 34, 35, 36, 37, 38, 39, 40, 41] (by decide +kernel) (by decide +kernel)
set_option maxRecDepth 20000 in
theorem gX7_path_X2_hasGate : GoodIn wsX7_path (wsV RX7 102 RX2 yX2_hasGate wsX2_hasGate) := goodIn_app (goodIn_of _ (by decide +kernel)) ggX7_path_X2_hasGate
set_option maxRecDepth 20000 in
theorem ggX7_path_X3_hasRoom : GoodIn wsX7_path wsX3_hasRoom := goodIn_r _ [14, 15, 32, 33] (by decide +kernel) (by decide +kernel)
set_option maxRecDepth 20000 in
theorem gX7_path_X3_hasRoom : GoodIn wsX7_path (wsV RX7 182 RX3 yX3_hasRoom wsX3_hasRoom) := goodIn_app (goodIn_of _ (by decide +kernel)) ggX7_path_X3_hasRoom
set_option maxRecDepth 20000 in
theorem ggX7_path_X3_add : GoodIn wsX7_path wsX3_add := goodIn_r _ [19, 15, 20, 32, 33] (by decide +kernel) (by decide +kernel)
set_option maxRecDepth 20000 in
theorem gX7_path_X3_add : GoodIn wsX7_path (wsV RX7 183 RX3 yX3_add wsX3_add) := goodIn_app (goodIn_of _ (by decide +kernel)) ggX7_path_X3_add
theorem dX7_path_0 : decode cX7_path 0 = .ok (.aload_n 0, 1) := by decide +kernel
theorem dX7_path_1 : decode cX7_path 1 = .ok (.getfield 19, 3) := by decide +kernel
theorem dX7_path_4 : decode cX7_path 4 = .ok (.iload_n 1, 1) := by decide +kernel
theorem dX7_path_5 : decode cX7_path 5 = .ok (.invokevirtual 102, 3) := by decide +kernel
theorem dX7_path_8 : decode cX7_path 8 = .ok (.ifCond .ne 5, 3) := by decide +kernel
theorem dX7_path_11 : decode cX7_path 11 = .ok (.iconst (-1), 1) := by decide +kernel
theorem dX7_path_12 : decode cX7_path 12 = .ok (.ireturn, 1) := by decide +kernel
theorem dX7_path_13 : decode cX7_path 13 = .ok (.aload_n 0, 1) := by decide +kernel
theorem dX7_path_14 : decode cX7_path 14 = .ok (.getfield 53, 3) := by decide +kernel
theorem dX7_path_17 : decode cX7_path 17 = .ok (.invokevirtual 182, 3) := by decide +kernel
theorem dX7_path_20 : decode cX7_path 20 = .ok (.ifCond .ne 6, 3) := by decide +kernel
theorem dX7_path_23 : decode cX7_path 23 = .ok (.bipush (-3), 2) := by decide +kernel
theorem dX7_path_25 : decode cX7_path 25 = .ok (.ireturn, 1) := by decide +kernel
theorem dX7_path_26 : decode cX7_path 26 = .ok (.aload_n 0, 1) := by decide +kernel
theorem dX7_path_27 : decode cX7_path 27 = .ok (.getfield 53, 3) := by decide +kernel
theorem dX7_path_30 : decode cX7_path 30 = .ok (.iload_n 1, 1) := by decide +kernel
theorem dX7_path_31 : decode cX7_path 31 = .ok (.invokevirtual 183, 3) := by decide +kernel
theorem dX7_path_34 : decode cX7_path 34 = .ok (.aload_n 0, 1) := by decide +kernel
theorem dX7_path_35 : decode cX7_path 35 = .ok (.getfield 53, 3) := by decide +kernel
theorem dX7_path_38 : decode cX7_path 38 = .ok (.getfield 100, 3) := by decide +kernel
theorem dX7_path_41 : decode cX7_path 41 = .ok (.ireturn, 1) := by decide +kernel
theorem dX7_noPath_0 : decode cX7_noPath 0 = .ok (.aload_n 0, 1) := by decide +kernel
theorem dX7_noPath_1 : decode cX7_noPath 1 = .ok (.getfield 53, 3) := by decide +kernel
theorem dX7_noPath_4 : decode cX7_noPath 4 = .ok (.getfield 100, 3) := by decide +kernel
theorem dX7_noPath_7 : decode cX7_noPath 7 = .ok (.istore_n 1, 1) := by decide +kernel
theorem dX7_noPath_8 : decode cX7_noPath 8 = .ok (.aload_n 0, 1) := by decide +kernel
theorem dX7_noPath_9 : decode cX7_noPath 9 = .ok (.getfield 53, 3) := by decide +kernel
theorem dX7_noPath_12 : decode cX7_noPath 12 = .ok (.iconst 0, 1) := by decide +kernel
theorem dX7_noPath_13 : decode cX7_noPath 13 = .ok (.putfield 100, 3) := by decide +kernel
theorem dX7_noPath_16 : decode cX7_noPath 16 = .ok (.iload_n 1, 1) := by decide +kernel
theorem dX7_noPath_17 : decode cX7_noPath 17 = .ok (.ireturn, 1) := by decide +kernel
set_option maxRecDepth 20000 in
theorem ggX7_guests_X2_hasSet : GoodIn wsX7_guests wsX2_hasSet := goodIn_r _ [8, 9, 73, 74, 75, 76, 77, 78, 79, 80] (by decide +kernel) (by decide +kernel)
set_option maxRecDepth 20000 in
theorem gX7_guests_X2_hasSet : GoodIn wsX7_guests (wsV RX7 165 RX2 yX2_hasSet wsX2_hasSet) := goodIn_app (goodIn_of _ (by decide +kernel)) ggX7_guests_X2_hasSet
set_option maxRecDepth 20000 in
theorem ggX7_guests_X7_isZeroOrOne : GoodIn wsX7_guests wsX7_isZeroOrOne := goodIn_r _ [13] (by decide +kernel) (by decide +kernel)
set_option maxRecDepth 20000 in
theorem gX7_guests_X7_isZeroOrOne : GoodIn wsX7_guests (va_wsS RX7 148 yX7_isZeroOrOne wsX7_isZeroOrOne) := goodIn_app (goodIn_of _ (by decide +kernel)) ggX7_guests_X7_isZeroOrOne
set_option maxRecDepth 20000 in
theorem ggX7_guests_X2_copyFrom : GoodIn wsX7_guests wsX2_copyFrom := goodIn_r _ [17, 18, 19, 20, 21, 22, 23, 24, 25, 26, 9, 27, 28, 73, 74, 75, 76, 77, 78, 79, 80] (by decide +kernel) (by decide +kernel)
set_option maxRecDepth 20000 in
theorem gX7_guests_X2_copyFrom : GoodIn wsX7_guests (wsV RX7 93 RX2 yX2_copyFrom wsX2_copyFrom) := goodIn_app (goodIn_of _ (by decide +kernel)) ggX7_guests_X2_copyFrom
set_option maxRecDepth 20000 in
theorem ggX7_guests_X3_leadGuest : GoodIn wsX7_guests wsX3_leadGuest := goodIn_r _ [33, 34, 35, 36, 37, 38, 39, 7, 40, 9, 41, 42, 43, 44, 18, 23, 45, 46, 47, 48, 49, 24, 25, 50, 51, 52, 53, 54, 55, 56, 57, 81, 82, 73, 74, 75, 76, 77, 78, 79, 80] (by decide +kernel) (by decide +kernel)
set_option maxRecDepth 20000 in
theorem gX7_guests_X3_leadGuest : GoodIn wsX7_guests (wsV RX7 185 RX3 yX3_leadGuest wsX3_leadGuest) := goodIn_app (goodIn_of _ (by decide +kernel)) ggX7_guests_X3_leadGuest
set_option maxRecDepth 20000 in
theorem ggX7_guests_X2_openFromA : GoodIn wsX7_guests wsX2_openFromA := goodIn_r _ [61, 9, 46, 47, 48, 7, 49, 24, 25, 50, 51, 52, 53, 45, 38, 39, 40, 73, 74, 75, 76, 77, 78, 79, 80] (by decide +kernel) (by decide +kernel)
set_option maxRecDepth 20000 in
theorem gX7_guests_X2_openFromA : GoodIn wsX7_guests (wsV RX7 175 RX2 yX2_openFromA wsX2_openFromA) := goodIn_app (goodIn_of _ (by decide +kernel)) ggX7_guests_X2_openFromA
theorem dX7_guests_0 : decode cX7_guests 0 = .ok (.aload_n 0, 1) := by decide +kernel
theorem dX7_guests_1 : decode cX7_guests 1 = .ok (.getfield 19, 3) := by decide +kernel
theorem dX7_guests_4 : decode cX7_guests 4 = .ok (.iload_n 1, 1) := by decide +kernel
theorem dX7_guests_5 : decode cX7_guests 5 = .ok (.invokevirtual 165, 3) := by decide +kernel
theorem dX7_guests_8 : decode cX7_guests 8 = .ok (.ifCond .eq 10, 3) := by decide +kernel
theorem dX7_guests_11 : decode cX7_guests 11 = .ok (.iload_n 2, 1) := by decide +kernel
theorem dX7_guests_12 : decode cX7_guests 12 = .ok (.invokestatic 148, 3) := by decide +kernel
theorem dX7_guests_15 : decode cX7_guests 15 = .ok (.ifCond .ne 5, 3) := by decide +kernel
theorem dX7_guests_18 : decode cX7_guests 18 = .ok (.iconst (-1), 1) := by decide +kernel
theorem dX7_guests_19 : decode cX7_guests 19 = .ok (.ireturn, 1) := by decide +kernel
theorem dX7_guests_20 : decode cX7_guests 20 = .ok (.aload_n 0, 1) := by decide +kernel
theorem dX7_guests_21 : decode cX7_guests 21 = .ok (.getfield 23, 3) := by decide +kernel
theorem dX7_guests_24 : decode cX7_guests 24 = .ok (.aload_n 0, 1) := by decide +kernel
theorem dX7_guests_25 : decode cX7_guests 25 = .ok (.getfield 19, 3) := by decide +kernel
theorem dX7_guests_28 : decode cX7_guests 28 = .ok (.invokevirtual 93, 3) := by decide +kernel
theorem dX7_guests_31 : decode cX7_guests 31 = .ok (.iconst 0, 1) := by decide +kernel
theorem dX7_guests_32 : decode cX7_guests 32 = .ok (.istore_n 3, 1) := by decide +kernel
theorem dX7_guests_33 : decode cX7_guests 33 = .ok (.bipush (-4), 2) := by decide +kernel
theorem dX7_guests_35 : decode cX7_guests 35 = .ok (.istore 4, 2) := by decide +kernel
theorem dX7_guests_37 : decode cX7_guests 37 = .ok (.iconst 1, 1) := by decide +kernel
theorem dX7_guests_38 : decode cX7_guests 38 = .ok (.istore 5, 2) := by decide +kernel
theorem dX7_guests_40 : decode cX7_guests 40 = .ok (.iload 5, 2) := by decide +kernel
theorem dX7_guests_42 : decode cX7_guests 42 = .ok (.bipush 60, 2) := by decide +kernel
theorem dX7_guests_44 : decode cX7_guests 44 = .ok (.if_icmp .gt 50, 3) := by decide +kernel
theorem dX7_guests_47 : decode cX7_guests 47 = .ok (.aload_n 0, 1) := by decide +kernel
theorem dX7_guests_48 : decode cX7_guests 48 = .ok (.getfield 53, 3) := by decide +kernel
theorem dX7_guests_51 : decode cX7_guests 51 = .ok (.aload_n 0, 1) := by decide +kernel
theorem dX7_guests_52 : decode cX7_guests 52 = .ok (.getfield 23, 3) := by decide +kernel
theorem dX7_guests_55 : decode cX7_guests 55 = .ok (.invokevirtual 185, 3) := by decide +kernel
theorem dX7_guests_58 : decode cX7_guests 58 = .ok (.aload_n 0, 1) := by decide +kernel
theorem dX7_guests_59 : decode cX7_guests 59 = .ok (.getfield 23, 3) := by decide +kernel
theorem dX7_guests_62 : decode cX7_guests 62 = .ok (.invokevirtual 175, 3) := by decide +kernel
theorem dX7_guests_65 : decode cX7_guests 65 = .ok (.iload_n 1, 1) := by decide +kernel
theorem dX7_guests_66 : decode cX7_guests 66 = .ok (.if_icmp .ne 22, 3) := by decide +kernel
theorem dX7_guests_69 : decode cX7_guests 69 = .ok (.iinc 3 1, 3) := by decide +kernel
theorem dX7_guests_72 : decode cX7_guests 72 = .ok (.iload 4, 2) := by decide +kernel
theorem dX7_guests_74 : decode cX7_guests 74 = .ok (.bipush (-4), 2) := by decide +kernel
theorem dX7_guests_76 : decode cX7_guests 76 = .ok (.if_icmp .ne 8, 3) := by decide +kernel
theorem dX7_guests_79 : decode cX7_guests 79 = .ok (.iload 5, 2) := by decide +kernel
theorem dX7_guests_81 : decode cX7_guests 81 = .ok (.goto 5, 3) := by decide +kernel
theorem dX7_guests_84 : decode cX7_guests 84 = .ok (.iload 4, 2) := by decide +kernel
theorem dX7_guests_86 : decode cX7_guests 86 = .ok (.istore 4, 2) := by decide +kernel
theorem dX7_guests_88 : decode cX7_guests 88 = .ok (.iinc 5 1, 3) := by decide +kernel
theorem dX7_guests_91 : decode cX7_guests 91 = .ok (.goto (-51), 3) := by decide +kernel
theorem dX7_guests_94 : decode cX7_guests 94 = .ok (.iload_n 2, 1) := by decide +kernel
theorem dX7_guests_95 : decode cX7_guests 95 = .ok (.ifCond .ne 7, 3) := by decide +kernel
theorem dX7_guests_98 : decode cX7_guests 98 = .ok (.iload_n 3, 1) := by decide +kernel
theorem dX7_guests_99 : decode cX7_guests 99 = .ok (.goto 5, 3) := by decide +kernel
theorem dX7_guests_102 : decode cX7_guests 102 = .ok (.iload 4, 2) := by decide +kernel
theorem dX7_guests_104 : decode cX7_guests 104 = .ok (.ireturn, 1) := by decide +kernel
set_option maxRecDepth 20000 in
theorem ggX7_odds_X2_hasGate : GoodIn wsX7_odds wsX2_hasGate := goodIn_r _ [10, 11, 83, 84, 85, 86, 87, 88, 89, 90] (by decide +kernel) (by decide +kernel)
set_option maxRecDepth 20000 in
theorem gX7_odds_X2_hasGate : GoodIn wsX7_odds (wsV RX7 102 RX2 yX2_hasGate wsX2_hasGate) := goodIn_app (goodIn_of _ (by decide +kernel)) ggX7_odds_X2_hasGate
set_option maxRecDepth 20000 in
theorem ggX7_odds_X7_isZeroOrOne : GoodIn wsX7_odds wsX7_isZeroOrOne := goodIn_r _ [15] (by decide +kernel) (by decide +kernel)
set_option maxRecDepth 20000 in
theorem gX7_odds_X7_isZeroOrOne : GoodIn wsX7_odds (va_wsS RX7 148 yX7_isZeroOrOne wsX7_isZeroOrOne) := goodIn_app (goodIn_of _ (by decide +kernel)) ggX7_odds_X7_isZeroOrOne
set_option maxRecDepth 20000 in
theorem ggX7_odds_X2_copyFrom : GoodIn wsX7_odds wsX2_copyFrom := goodIn_r _ [19, 20, 21, 22, 23, 24, 25, 26, 27, 28, 11, 29, 30, 83, 84, 85, 86, 87, 88, 89, 90] (by decide +kernel) (by decide +kernel)
set_option maxRecDepth 20000 in
theorem gX7_odds_X2_copyFrom : GoodIn wsX7_odds (wsV RX7 93 RX2 yX2_copyFrom wsX2_copyFrom) := goodIn_app (goodIn_of _ (by decide +kernel)) ggX7_odds_X2_copyFrom
set_option maxRecDepth 20000 in
theorem ggX7_odds_X0_reckon : GoodIn wsX7_odds wsX0_reckon := goodIn_r _ [35, 36, 37, 38, 39, 40, 41, 34, 42, 43, 44, 7, 8, 9, 10, 11, 45, 46, 47, 48, 26, 27, 49, 50, 51, 52, 53, 54, 55, 56, 57, 58, 59, 60, 61, 62, 63, 64, 65, 66, 67, 68, 80, 81, 82, 83, 84, 85, 86, 87, 88, 89, 90] (by decide +kernel) (by decide +kernel)
set_option maxRecDepth 20000 in
theorem gX7_odds_X0_reckon : GoodIn wsX7_odds (wsV RX7 188 RX0 yX0_reckon wsX0_reckon) := goodIn_app (goodIn_of _ (by decide +kernel)) ggX7_odds_X0_reckon
theorem dX7_odds_0 : decode cX7_odds 0 = .ok (.aload_n 0, 1) := by decide +kernel
theorem dX7_odds_1 : decode cX7_odds 1 = .ok (.getfield 19, 3) := by decide +kernel
theorem dX7_odds_4 : decode cX7_odds 4 = .ok (.iload_n 1, 1) := by decide +kernel
theorem dX7_odds_5 : decode cX7_odds 5 = .ok (.invokevirtual 102, 3) := by decide +kernel
theorem dX7_odds_8 : decode cX7_odds 8 = .ok (.ifCond .eq 14, 3) := by decide +kernel
theorem dX7_odds_11 : decode cX7_odds 11 = .ok (.iload_n 2, 1) := by decide +kernel
theorem dX7_odds_12 : decode cX7_odds 12 = .ok (.iconst 1, 1) := by decide +kernel
theorem dX7_odds_13 : decode cX7_odds 13 = .ok (.if_icmp .lt 9, 3) := by decide +kernel
theorem dX7_odds_16 : decode cX7_odds 16 = .ok (.iload_n 2, 1) := by decide +kernel
theorem dX7_odds_17 : decode cX7_odds 17 = .ok (.bipush 8, 2) := by decide +kernel
theorem dX7_odds_19 : decode cX7_odds 19 = .ok (.if_icmp .le 5, 3) := by decide +kernel
theorem dX7_odds_22 : decode cX7_odds 22 = .ok (.iconst (-1), 1) := by decide +kernel
theorem dX7_odds_23 : decode cX7_odds 23 = .ok (.ireturn, 1) := by decide +kernel
theorem dX7_odds_24 : decode cX7_odds 24 = .ok (.iload_n 3, 1) := by decide +kernel
theorem dX7_odds_25 : decode cX7_odds 25 = .ok (.ifCond .lt 17, 3) := by decide +kernel
theorem dX7_odds_28 : decode cX7_odds 28 = .ok (.iload_n 3, 1) := by decide +kernel
theorem dX7_odds_29 : decode cX7_odds 29 = .ok (.bipush 10, 2) := by decide +kernel
theorem dX7_odds_31 : decode cX7_odds 31 = .ok (.if_icmp .gt 11, 3) := by decide +kernel
theorem dX7_odds_34 : decode cX7_odds 34 = .ok (.iload 4, 2) := by decide +kernel
theorem dX7_odds_36 : decode cX7_odds 36 = .ok (.invokestatic 148, 3) := by decide +kernel
theorem dX7_odds_39 : decode cX7_odds 39 = .ok (.ifCond .ne 5, 3) := by decide +kernel
theorem dX7_odds_42 : decode cX7_odds 42 = .ok (.iconst (-1), 1) := by decide +kernel
theorem dX7_odds_43 : decode cX7_odds 43 = .ok (.ireturn, 1) := by decide +kernel
theorem dX7_odds_44 : decode cX7_odds 44 = .ok (.aload_n 0, 1) := by decide +kernel
theorem dX7_odds_45 : decode cX7_odds 45 = .ok (.getfield 23, 3) := by decide +kernel
theorem dX7_odds_48 : decode cX7_odds 48 = .ok (.aload_n 0, 1) := by decide +kernel
theorem dX7_odds_49 : decode cX7_odds 49 = .ok (.getfield 19, 3) := by decide +kernel
theorem dX7_odds_52 : decode cX7_odds 52 = .ok (.invokevirtual 93, 3) := by decide +kernel
theorem dX7_odds_55 : decode cX7_odds 55 = .ok (.aload_n 0, 1) := by decide +kernel
theorem dX7_odds_56 : decode cX7_odds 56 = .ok (.getfield 67, 3) := by decide +kernel
theorem dX7_odds_59 : decode cX7_odds 59 = .ok (.aload_n 0, 1) := by decide +kernel
theorem dX7_odds_60 : decode cX7_odds 60 = .ok (.getfield 23, 3) := by decide +kernel
theorem dX7_odds_63 : decode cX7_odds 63 = .ok (.iload_n 1, 1) := by decide +kernel
theorem dX7_odds_64 : decode cX7_odds 64 = .ok (.iload_n 2, 1) := by decide +kernel
theorem dX7_odds_65 : decode cX7_odds 65 = .ok (.iload_n 3, 1) := by decide +kernel
theorem dX7_odds_66 : decode cX7_odds 66 = .ok (.invokevirtual 188, 3) := by decide +kernel
theorem dX7_odds_69 : decode cX7_odds 69 = .ok (.iload 4, 2) := by decide +kernel
theorem dX7_odds_71 : decode cX7_odds 71 = .ok (.ifCond .ne 13, 3) := by decide +kernel
theorem dX7_odds_74 : decode cX7_odds 74 = .ok (.aload_n 0, 1) := by decide +kernel
theorem dX7_odds_75 : decode cX7_odds 75 = .ok (.getfield 67, 3) := by decide +kernel
theorem dX7_odds_78 : decode cX7_odds 78 = .ok (.getfield 192, 3) := by decide +kernel
theorem dX7_odds_81 : decode cX7_odds 81 = .ok (.goto 10, 3) := by decide +kernel
theorem dX7_odds_84 : decode cX7_odds 84 = .ok (.aload_n 0, 1) := by decide +kernel
theorem dX7_odds_85 : decode cX7_odds 85 = .ok (.getfield 67, 3) := by decide +kernel
theorem dX7_odds_88 : decode cX7_odds 88 = .ok (.getfield 195, 3) := by decide +kernel
theorem dX7_odds_91 : decode cX7_odds 91 = .ok (.ireturn, 1) := by decide +kernel
set_option maxRecDepth 20000 in
theorem ggX7_day_X2_hasPerson : GoodIn wsX7_day wsX2_hasPerson := goodIn_r _ [8, 9, 72, 73, 74, 75, 76, 77, 78, 79] (by decide +kernel) (by decide +kernel)
set_option maxRecDepth 20000 in
theorem gX7_day_X2_hasPerson : GoodIn wsX7_day (wsV RX7 122 RX2 yX2_hasPerson wsX2_hasPerson) := goodIn_app (goodIn_of _ (by decide +kernel)) ggX7_day_X2_hasPerson
set_option maxRecDepth 20000 in
theorem ggX7_day_X2_copyFrom : GoodIn wsX7_day wsX2_copyFrom := goodIn_r _ [13, 14, 15, 16, 17, 18, 19, 20, 21, 22, 23, 9, 24, 72, 73, 74, 75, 76, 77, 78, 79] (by decide +kernel) (by decide +kernel)
set_option maxRecDepth 20000 in
theorem gX7_day_X2_copyFrom : GoodIn wsX7_day (wsV RX7 93 RX2 yX2_copyFrom wsX2_copyFrom) := goodIn_app (goodIn_of _ (by decide +kernel)) ggX7_day_X2_copyFrom
set_option maxRecDepth 20000 in
theorem ggX7_day_X2_stepByDraw : GoodIn wsX7_day wsX2_stepByDraw := goodIn_r _ [28, 9, 23, 29, 30, 31, 32, 33, 34, 7, 35, 22, 36, 5, 6, 8, 37, 38, 39, 40, 14, 19, 41, 42, 43, 44, 45, 46, 47, 48, 20, 21, 49, 50, 51, 52, 53, 54, 55, 56, 57, 58, 59, 60, 72, 73, 74, 75, 76, 77, 78, 79] (by decide +kernel) (by decide +kernel)
set_option maxRecDepth 20000 in
theorem gX7_day_X2_stepByDraw : GoodIn wsX7_day (wsV RX7 198 RX2 yX2_stepByDraw wsX2_stepByDraw) := goodIn_app (goodIn_of _ (by decide +kernel)) ggX7_day_X2_stepByDraw
theorem dX7_day_0 : decode cX7_day 0 = .ok (.iload_n 1, 1) := by decide +kernel
theorem dX7_day_1 : decode cX7_day 1 = .ok (.ifCond .lt 21, 3) := by decide +kernel
theorem dX7_day_4 : decode cX7_day 4 = .ok (.iload_n 1, 1) := by decide +kernel
theorem dX7_day_5 : decode cX7_day 5 = .ok (.sipush 9999, 3) := by decide +kernel
theorem dX7_day_8 : decode cX7_day 8 = .ok (.if_icmp .gt 14, 3) := by decide +kernel
theorem dX7_day_11 : decode cX7_day 11 = .ok (.iload_n 2, 1) := by decide +kernel
theorem dX7_day_12 : decode cX7_day 12 = .ok (.iconst 1, 1) := by decide +kernel
theorem dX7_day_13 : decode cX7_day 13 = .ok (.if_icmp .lt 9, 3) := by decide +kernel
theorem dX7_day_16 : decode cX7_day 16 = .ok (.iload_n 2, 1) := by decide +kernel
theorem dX7_day_17 : decode cX7_day 17 = .ok (.bipush 99, 2) := by decide +kernel
theorem dX7_day_19 : decode cX7_day 19 = .ok (.if_icmp .le 5, 3) := by decide +kernel
theorem dX7_day_22 : decode cX7_day 22 = .ok (.iconst (-1), 1) := by decide +kernel
theorem dX7_day_23 : decode cX7_day 23 = .ok (.ireturn, 1) := by decide +kernel
theorem dX7_day_24 : decode cX7_day 24 = .ok (.iload_n 3, 1) := by decide +kernel
theorem dX7_day_25 : decode cX7_day 25 = .ok (.iconst (-1), 1) := by decide +kernel
theorem dX7_day_26 : decode cX7_day 26 = .ok (.if_icmp .eq 16, 3) := by decide +kernel
theorem dX7_day_29 : decode cX7_day 29 = .ok (.aload_n 0, 1) := by decide +kernel
theorem dX7_day_30 : decode cX7_day 30 = .ok (.getfield 19, 3) := by decide +kernel
theorem dX7_day_33 : decode cX7_day 33 = .ok (.iload_n 3, 1) := by decide +kernel
theorem dX7_day_34 : decode cX7_day 34 = .ok (.invokevirtual 122, 3) := by decide +kernel
theorem dX7_day_37 : decode cX7_day 37 = .ok (.ifCond .ne 5, 3) := by decide +kernel
theorem dX7_day_40 : decode cX7_day 40 = .ok (.iconst (-1), 1) := by decide +kernel
theorem dX7_day_41 : decode cX7_day 41 = .ok (.ireturn, 1) := by decide +kernel
theorem dX7_day_42 : decode cX7_day 42 = .ok (.aload_n 0, 1) := by decide +kernel
theorem dX7_day_43 : decode cX7_day 43 = .ok (.getfield 23, 3) := by decide +kernel
theorem dX7_day_46 : decode cX7_day 46 = .ok (.aload_n 0, 1) := by decide +kernel
theorem dX7_day_47 : decode cX7_day 47 = .ok (.getfield 19, 3) := by decide +kernel
theorem dX7_day_50 : decode cX7_day 50 = .ok (.invokevirtual 93, 3) := by decide +kernel
theorem dX7_day_53 : decode cX7_day 53 = .ok (.iconst 0, 1) := by decide +kernel
theorem dX7_day_54 : decode cX7_day 54 = .ok (.istore 4, 2) := by decide +kernel
theorem dX7_day_56 : decode cX7_day 56 = .ok (.iconst 0, 1) := by decide +kernel
theorem dX7_day_57 : decode cX7_day 57 = .ok (.istore 5, 2) := by decide +kernel
theorem dX7_day_59 : decode cX7_day 59 = .ok (.iload 5, 2) := by decide +kernel
theorem dX7_day_61 : decode cX7_day 61 = .ok (.iload_n 2, 1) := by decide +kernel
theorem dX7_day_62 : decode cX7_day 62 = .ok (.if_icmp .ge 32, 3) := by decide +kernel
theorem dX7_day_65 : decode cX7_day 65 = .ok (.iload 4, 2) := by decide +kernel
theorem dX7_day_67 : decode cX7_day 67 = .ok (.aload_n 0, 1) := by decide +kernel
theorem dX7_day_68 : decode cX7_day 68 = .ok (.getfield 23, 3) := by decide +kernel
theorem dX7_day_71 : decode cX7_day 71 = .ok (.iload_n 1, 1) := by decide +kernel
theorem dX7_day_72 : decode cX7_day 72 = .ok (.iload 5, 2) := by decide +kernel
theorem dX7_day_74 : decode cX7_day 74 = .ok (.invokevirtual 198, 3) := by decide +kernel
theorem dX7_day_77 : decode cX7_day 77 = .ok (.ifCond .eq 7, 3) := by decide +kernel
theorem dX7_day_80 : decode cX7_day 80 = .ok (.iconst 1, 1) := by decide +kernel
theorem dX7_day_81 : decode cX7_day 81 = .ok (.goto 4, 3) := by decide +kernel
theorem dX7_day_84 : decode cX7_day 84 = .ok (.iconst 0, 1) := by decide +kernel
theorem dX7_day_85 : decode cX7_day 85 = .ok (.iadd, 1) := by decide +kernel
theorem dX7_day_86 : decode cX7_day 86 = .ok (.istore 4, 2) := by decide +kernel
theorem dX7_day_88 : decode cX7_day 88 = .ok (.iinc 5 1, 3) := by decide +kernel
theorem dX7_day_91 : decode cX7_day 91 = .ok (.goto (-32), 3) := by decide +kernel
theorem dX7_day_94 : decode cX7_day 94 = .ok (.iload_n 3, 1) := by decide +kernel
theorem dX7_day_95 : decode cX7_day 95 = .ok (.iconst (-1), 1) := by decide +kernel
theorem dX7_day_96 : decode cX7_day 96 = .ok (.if_icmp .ne 8, 3) := by decide +kernel
theorem dX7_day_99 : decode cX7_day 99 = .ok (.iload 4, 2) := by decide +kernel
theorem dX7_day_101 : decode cX7_day 101 = .ok (.goto 12, 3) := by decide +kernel
theorem dX7_day_104 : decode cX7_day 104 = .ok (.aload_n 0, 1) := by decide +kernel
theorem dX7_day_105 : decode cX7_day 105 = .ok (.getfield 23, 3) := by decide +kernel
theorem dX7_day_108 : decode cX7_day 108 = .ok (.getfield 125, 3) := by decide +kernel
theorem dX7_day_111 : decode cX7_day 111 = .ok (.iload_n 3, 1) := by decide +kernel
theorem dX7_day_112 : decode cX7_day 112 = .ok (.iaload, 1) := by decide +kernel
theorem dX7_day_113 : decode cX7_day 113 = .ok (.ireturn, 1) := by decide +kernel
set_option maxRecDepth 20000 in
theorem ggX7_keep_X7_keptAt : GoodIn wsX7_keep wsX7_keptAt := goodIn_r _ [7, 8, 9, 27, 28, 29, 30, 31, 32, 33, 34, 35, 36, 37] (by decide +kernel) (by decide +kernel)
set_option maxRecDepth 20000 in
theorem gX7_keep_X7_keptAt : GoodIn wsX7_keep (wsV RX7 201 RX7 yX7_keptAt wsX7_keptAt) := goodIn_app (goodIn_of _ (by decide +kernel)) ggX7_keep_X7_keptAt
set_option maxRecDepth 20000 in
theorem ggX7_keep_X2_copyFrom : GoodIn wsX7_keep wsX2_copyFrom := goodIn_r _ [14, 15, 16, 17, 18, 19, 20, 21, 22, 23, 24, 25, 26, 38, 39, 40, 41, 42, 43, 44, 45] (by decide +kernel) (by decide +kernel)
set_option maxRecDepth 20000 in
theorem gX7_keep_X2_copyFrom : GoodIn wsX7_keep (wsV RX7 93 RX2 yX2_copyFrom wsX2_copyFrom) := goodIn_app (goodIn_of _ (by decide +kernel)) ggX7_keep_X2_copyFrom
theorem dX7_keep_0 : decode cX7_keep 0 = .ok (.aload_n 0, 1) := by decide +kernel
theorem dX7_keep_1 : decode cX7_keep 1 = .ok (.getfield 32, 3) := by decide +kernel
theorem dX7_keep_4 : decode cX7_keep 4 = .ok (.iconst 2, 1) := by decide +kernel
theorem dX7_keep_5 : decode cX7_keep 5 = .ok (.if_icmp .lt 6, 3) := by decide +kernel
theorem dX7_keep_8 : decode cX7_keep 8 = .ok (.bipush (-3), 2) := by decide +kernel
theorem dX7_keep_10 : decode cX7_keep 10 = .ok (.ireturn, 1) := by decide +kernel
theorem dX7_keep_11 : decode cX7_keep 11 = .ok (.aload_n 0, 1) := by decide +kernel
theorem dX7_keep_12 : decode cX7_keep 12 = .ok (.aload_n 0, 1) := by decide +kernel
theorem dX7_keep_13 : decode cX7_keep 13 = .ok (.getfield 32, 3) := by decide +kernel
theorem dX7_keep_16 : decode cX7_keep 16 = .ok (.invokevirtual 201, 3) := by decide +kernel
theorem dX7_keep_19 : decode cX7_keep 19 = .ok (.aload_n 0, 1) := by decide +kernel
theorem dX7_keep_20 : decode cX7_keep 20 = .ok (.getfield 19, 3) := by decide +kernel
theorem dX7_keep_23 : decode cX7_keep 23 = .ok (.invokevirtual 93, 3) := by decide +kernel
theorem dX7_keep_26 : decode cX7_keep 26 = .ok (.aload_n 0, 1) := by decide +kernel
theorem dX7_keep_27 : decode cX7_keep 27 = .ok (.dup, 1) := by decide +kernel
theorem dX7_keep_28 : decode cX7_keep 28 = .ok (.getfield 32, 3) := by decide +kernel
theorem dX7_keep_31 : decode cX7_keep 31 = .ok (.iconst 1, 1) := by decide +kernel
theorem dX7_keep_32 : decode cX7_keep 32 = .ok (.iadd, 1) := by decide +kernel
theorem dX7_keep_33 : decode cX7_keep 33 = .ok (.putfield 32, 3) := by decide +kernel
theorem dX7_keep_36 : decode cX7_keep 36 = .ok (.aload_n 0, 1) := by decide +kernel
theorem dX7_keep_37 : decode cX7_keep 37 = .ok (.getfield 32, 3) := by decide +kernel
theorem dX7_keep_40 : decode cX7_keep 40 = .ok (.ireturn, 1) := by decide +kernel
set_option maxRecDepth 20000 in
theorem ggX7_back_X7_keptAt : GoodIn wsX7_back wsX7_keptAt := goodIn_r _ [9, 10, 11, 29, 30, 31, 32, 33, 34, 35, 36, 37, 38, 39] (by decide +kernel) (by decide +kernel)
set_option maxRecDepth 20000 in
theorem gX7_back_X7_keptAt : GoodIn wsX7_back (wsV RX7 201 RX7 yX7_keptAt wsX7_keptAt) := goodIn_app (goodIn_of _ (by decide +kernel)) ggX7_back_X7_keptAt
set_option maxRecDepth 20000 in
theorem ggX7_back_X2_copyFrom : GoodIn wsX7_back wsX2_copyFrom := goodIn_r _ [16, 17, 18, 19, 20, 21, 22, 23, 24, 25, 26, 27, 28, 45, 46, 47, 48, 49, 50, 51, 52] (by decide +kernel) (by decide +kernel)
set_option maxRecDepth 20000 in
theorem gX7_back_X2_copyFrom : GoodIn wsX7_back (wsV RX7 93 RX2 yX2_copyFrom wsX2_copyFrom) := goodIn_app (goodIn_of _ (by decide +kernel)) ggX7_back_X2_copyFrom
theorem dX7_back_0 : decode cX7_back 0 = .ok (.aload_n 0, 1) := by decide +kernel
theorem dX7_back_1 : decode cX7_back 1 = .ok (.getfield 32, 3) := by decide +kernel
theorem dX7_back_4 : decode cX7_back 4 = .ok (.ifCond .ne 6, 3) := by decide +kernel
theorem dX7_back_7 : decode cX7_back 7 = .ok (.bipush (-2), 2) := by decide +kernel
theorem dX7_back_9 : decode cX7_back 9 = .ok (.ireturn, 1) := by decide +kernel
theorem dX7_back_10 : decode cX7_back 10 = .ok (.aload_n 0, 1) := by decide +kernel
theorem dX7_back_11 : decode cX7_back 11 = .ok (.dup, 1) := by decide +kernel
theorem dX7_back_12 : decode cX7_back 12 = .ok (.getfield 32, 3) := by decide +kernel
theorem dX7_back_15 : decode cX7_back 15 = .ok (.iconst 1, 1) := by decide +kernel
theorem dX7_back_16 : decode cX7_back 16 = .ok (.isub, 1) := by decide +kernel
theorem dX7_back_17 : decode cX7_back 17 = .ok (.putfield 32, 3) := by decide +kernel
theorem dX7_back_20 : decode cX7_back 20 = .ok (.aload_n 0, 1) := by decide +kernel
theorem dX7_back_21 : decode cX7_back 21 = .ok (.getfield 19, 3) := by decide +kernel
theorem dX7_back_24 : decode cX7_back 24 = .ok (.aload_n 0, 1) := by decide +kernel
theorem dX7_back_25 : decode cX7_back 25 = .ok (.aload_n 0, 1) := by decide +kernel
theorem dX7_back_26 : decode cX7_back 26 = .ok (.getfield 32, 3) := by decide +kernel
theorem dX7_back_29 : decode cX7_back 29 = .ok (.invokevirtual 201, 3) := by decide +kernel
theorem dX7_back_32 : decode cX7_back 32 = .ok (.invokevirtual 93, 3) := by decide +kernel
theorem dX7_back_35 : decode cX7_back 35 = .ok (.aload_n 0, 1) := by decide +kernel
theorem dX7_back_36 : decode cX7_back 36 = .ok (.getfield 39, 3) := by decide +kernel
theorem dX7_back_39 : decode cX7_back 39 = .ok (.iconst 0, 1) := by decide +kernel
theorem dX7_back_40 : decode cX7_back 40 = .ok (.putfield 101, 3) := by decide +kernel
theorem dX7_back_43 : decode cX7_back 43 = .ok (.aload_n 0, 1) := by decide +kernel
theorem dX7_back_44 : decode cX7_back 44 = .ok (.getfield 32, 3) := by decide +kernel
theorem dX7_back_47 : decode cX7_back 47 = .ok (.ireturn, 1) := by decide +kernel
set_option maxRecDepth 20000 in
theorem ggX7_count_X2_openFromA : GoodIn wsX7_count wsX2_openFromA := goodIn_r _ [18, 19, 20, 21, 22, 17, 23, 24, 25, 26, 27, 28, 29, 30, 31, 32, 33, 52, 53, 54, 55, 56, 57, 58, 59] (by decide +kernel) (by decide +kernel)
set_option maxRecDepth 20000 in
theorem gX7_count_X2_openFromA : GoodIn wsX7_count (wsV RX7 175 RX2 yX2_openFromA wsX2_openFromA) := goodIn_app (goodIn_of _ (by decide +kernel)) ggX7_count_X2_openFromA
set_option maxRecDepth 20000 in
theorem ggX7_count_J6_bitCount_0f7a4 : GoodIn wsX7_count wsJ6_bitCount_0f7a4 := goodIn_r _ [37, 38, 39, 40] (by decide +kernel) (by decide +kernel)
set_option maxRecDepth 20000 in
theorem gX7_count_J6_bitCount_0f7a4 : GoodIn wsX7_count (va_wsS RX7 208 yJ6_bitCount_0f7a4 wsJ6_bitCount_0f7a4) := goodIn_app (goodIn_of _ (by decide +kernel)) ggX7_count_J6_bitCount_0f7a4
theorem dX7_count_0 : decode cX7_count 0 = .ok (.iload_n 1, 1) := by decide +kernel
theorem dX7_count_1 : decode cX7_count 1 = .ok (.tableswitch 123 0 8 #[51, 59, 67, 75, 86, 94, 102, 110, 115], 51) := by decide +kernel
theorem dX7_count_52 : decode cX7_count 52 = .ok (.aload_n 0, 1) := by decide +kernel
theorem dX7_count_53 : decode cX7_count 53 = .ok (.getfield 19, 3) := by decide +kernel
theorem dX7_count_56 : decode cX7_count 56 = .ok (.getfield 90, 3) := by decide +kernel
theorem dX7_count_59 : decode cX7_count 59 = .ok (.ireturn, 1) := by decide +kernel
theorem dX7_count_60 : decode cX7_count 60 = .ok (.aload_n 0, 1) := by decide +kernel
theorem dX7_count_61 : decode cX7_count 61 = .ok (.getfield 19, 3) := by decide +kernel
theorem dX7_count_64 : decode cX7_count 64 = .ok (.getfield 205, 3) := by decide +kernel
theorem dX7_count_67 : decode cX7_count 67 = .ok (.ireturn, 1) := by decide +kernel
theorem dX7_count_68 : decode cX7_count 68 = .ok (.aload_n 0, 1) := by decide +kernel
theorem dX7_count_69 : decode cX7_count 69 = .ok (.getfield 19, 3) := by decide +kernel
theorem dX7_count_72 : decode cX7_count 72 = .ok (.getfield 139, 3) := by decide +kernel
theorem dX7_count_75 : decode cX7_count 75 = .ok (.ireturn, 1) := by decide +kernel
theorem dX7_count_76 : decode cX7_count 76 = .ok (.aload_n 0, 1) := by decide +kernel
theorem dX7_count_77 : decode cX7_count 77 = .ok (.getfield 19, 3) := by decide +kernel
theorem dX7_count_80 : decode cX7_count 80 = .ok (.invokevirtual 175, 3) := by decide +kernel
theorem dX7_count_83 : decode cX7_count 83 = .ok (.invokestatic 208, 3) := by decide +kernel
theorem dX7_count_86 : decode cX7_count 86 = .ok (.ireturn, 1) := by decide +kernel
theorem dX7_count_87 : decode cX7_count 87 = .ok (.aload_n 0, 1) := by decide +kernel
theorem dX7_count_88 : decode cX7_count 88 = .ok (.getfield 46, 3) := by decide +kernel
theorem dX7_count_91 : decode cX7_count 91 = .ok (.getfield 97, 3) := by decide +kernel
theorem dX7_count_94 : decode cX7_count 94 = .ok (.ireturn, 1) := by decide +kernel
theorem dX7_count_95 : decode cX7_count 95 = .ok (.aload_n 0, 1) := by decide +kernel
theorem dX7_count_96 : decode cX7_count 96 = .ok (.getfield 53, 3) := by decide +kernel
theorem dX7_count_99 : decode cX7_count 99 = .ok (.getfield 100, 3) := by decide +kernel
theorem dX7_count_102 : decode cX7_count 102 = .ok (.ireturn, 1) := by decide +kernel
theorem dX7_count_103 : decode cX7_count 103 = .ok (.aload_n 0, 1) := by decide +kernel
theorem dX7_count_104 : decode cX7_count 104 = .ok (.getfield 39, 3) := by decide +kernel
theorem dX7_count_107 : decode cX7_count 107 = .ok (.getfield 101, 3) := by decide +kernel
theorem dX7_count_110 : decode cX7_count 110 = .ok (.ireturn, 1) := by decide +kernel
theorem dX7_count_111 : decode cX7_count 111 = .ok (.aload_n 0, 1) := by decide +kernel
theorem dX7_count_112 : decode cX7_count 112 = .ok (.getfield 32, 3) := by decide +kernel
theorem dX7_count_115 : decode cX7_count 115 = .ok (.ireturn, 1) := by decide +kernel
theorem dX7_count_116 : decode cX7_count 116 = .ok (.aload_n 0, 1) := by decide +kernel
theorem dX7_count_117 : decode cX7_count 117 = .ok (.getfield 10, 3) := by decide +kernel
theorem dX7_count_120 : decode cX7_count 120 = .ok (.getfield 83, 3) := by decide +kernel
theorem dX7_count_123 : decode cX7_count 123 = .ok (.ireturn, 1) := by decide +kernel
theorem dX7_count_124 : decode cX7_count 124 = .ok (.iconst (-1), 1) := by decide +kernel
theorem dX7_count_125 : decode cX7_count 125 = .ok (.ireturn, 1) := by decide +kernel
theorem dX7_keptAt_0 : decode cX7_keptAt 0 = .ok (.iload_n 1, 1) := by decide +kernel
theorem dX7_keptAt_1 : decode cX7_keptAt 1 = .ok (.ifCond .ne 10, 3) := by decide +kernel
theorem dX7_keptAt_4 : decode cX7_keptAt 4 = .ok (.aload_n 0, 1) := by decide +kernel
theorem dX7_keptAt_5 : decode cX7_keptAt 5 = .ok (.getfield 26, 3) := by decide +kernel
theorem dX7_keptAt_8 : decode cX7_keptAt 8 = .ok (.goto 7, 3) := by decide +kernel
theorem dX7_keptAt_11 : decode cX7_keptAt 11 = .ok (.aload_n 0, 1) := by decide +kernel
theorem dX7_keptAt_12 : decode cX7_keptAt 12 = .ok (.getfield 29, 3) := by decide +kernel
theorem dX7_keptAt_15 : decode cX7_keptAt 15 = .ok (.areturn, 1) := by decide +kernel
theorem dX7_isCourt_0 : decode cX7_isCourt 0 = .ok (.iload_n 0, 1) := by decide +kernel
theorem dX7_isCourt_1 : decode cX7_isCourt 1 = .ok (.ifCond .lt 12, 3) := by decide +kernel
theorem dX7_isCourt_4 : decode cX7_isCourt 4 = .ok (.iload_n 0, 1) := by decide +kernel
theorem dX7_isCourt_5 : decode cX7_isCourt 5 = .ok (.iconst 5, 1) := by decide +kernel
theorem dX7_isCourt_6 : decode cX7_isCourt 6 = .ok (.if_icmp .ge 7, 3) := by decide +kernel
theorem dX7_isCourt_9 : decode cX7_isCourt 9 = .ok (.iconst 1, 1) := by decide +kernel
theorem dX7_isCourt_10 : decode cX7_isCourt 10 = .ok (.goto 4, 3) := by decide +kernel
theorem dX7_isCourt_13 : decode cX7_isCourt 13 = .ok (.iconst 0, 1) := by decide +kernel
theorem dX7_isCourt_14 : decode cX7_isCourt 14 = .ok (.ireturn, 1) := by decide +kernel
theorem dX7_isZeroOrOne_0 : decode cX7_isZeroOrOne 0 = .ok (.iload_n 0, 1) := by decide +kernel
theorem dX7_isZeroOrOne_1 : decode cX7_isZeroOrOne 1 = .ok (.ifCond .eq 8, 3) := by decide +kernel
theorem dX7_isZeroOrOne_4 : decode cX7_isZeroOrOne 4 = .ok (.iload_n 0, 1) := by decide +kernel
theorem dX7_isZeroOrOne_5 : decode cX7_isZeroOrOne 5 = .ok (.iconst 1, 1) := by decide +kernel
theorem dX7_isZeroOrOne_6 : decode cX7_isZeroOrOne 6 = .ok (.if_icmp .ne 7, 3) := by decide +kernel
theorem dX7_isZeroOrOne_9 : decode cX7_isZeroOrOne 9 = .ok (.iconst 1, 1) := by decide +kernel
theorem dX7_isZeroOrOne_10 : decode cX7_isZeroOrOne 10 = .ok (.goto 4, 3) := by decide +kernel
theorem dX7_isZeroOrOne_13 : decode cX7_isZeroOrOne 13 = .ok (.iconst 0, 1) := by decide +kernel
theorem dX7_isZeroOrOne_14 : decode cX7_isZeroOrOne 14 = .ok (.ireturn, 1) := by decide +kernel
set_option maxRecDepth 20000 in
theorem ggX8_init_X8_begin : GoodIn wsX8_init wsX8_begin := goodIn_r _ [32, 12, 10, 13, 14, 33, 34, 35, 36, 37, 38, 39, 40, 41, 42, 43, 44, 45, 46, 47, 48, 49, 50, 51, 52, 53, 54, 55, 56, 57, 58, 59, 60, 61, 62, 63, 64, 65, 66] (by decide +kernel) (by decide +kernel)
set_option maxRecDepth 20000 in
theorem gX8_init_X8_begin : GoodIn wsX8_init (wsV RX8 77 RX8 yX8_begin wsX8_begin) := goodIn_app (goodIn_of _ (by decide +kernel)) ggX8_init_X8_begin
theorem dX8_init_0 : decode cX8_init 0 = .ok (.aload_n 0, 1) := by decide +kernel
theorem dX8_init_1 : decode cX8_init 1 = .ok (.invokespecial 1, 3) := by decide +kernel
theorem dX8_init_4 : decode cX8_init 4 = .ok (.aload_n 0, 1) := by decide +kernel
theorem dX8_init_5 : decode cX8_init 5 = .ok (.sipush 200, 3) := by decide +kernel
theorem dX8_init_8 : decode cX8_init 8 = .ok (.newarray .int, 2) := by decide +kernel
theorem dX8_init_10 : decode cX8_init 10 = .ok (.putfield 7, 3) := by decide +kernel
theorem dX8_init_13 : decode cX8_init 13 = .ok (.aload_n 0, 1) := by decide +kernel
theorem dX8_init_14 : decode cX8_init 14 = .ok (.iconst 2, 1) := by decide +kernel
theorem dX8_init_15 : decode cX8_init 15 = .ok (.newarray .int, 2) := by decide +kernel
theorem dX8_init_17 : decode cX8_init 17 = .ok (.putfield 13, 3) := by decide +kernel
theorem dX8_init_20 : decode cX8_init 20 = .ok (.aload_n 0, 1) := by decide +kernel
theorem dX8_init_21 : decode cX8_init 21 = .ok (.bipush 10, 2) := by decide +kernel
theorem dX8_init_23 : decode cX8_init 23 = .ok (.newarray .int, 2) := by decide +kernel
theorem dX8_init_25 : decode cX8_init 25 = .ok (.putfield 16, 3) := by decide +kernel
theorem dX8_init_28 : decode cX8_init 28 = .ok (.aload_n 0, 1) := by decide +kernel
theorem dX8_init_29 : decode cX8_init 29 = .ok (.bipush 10, 2) := by decide +kernel
theorem dX8_init_31 : decode cX8_init 31 = .ok (.newarray .int, 2) := by decide +kernel
theorem dX8_init_33 : decode cX8_init 33 = .ok (.putfield 19, 3) := by decide +kernel
theorem dX8_init_36 : decode cX8_init 36 = .ok (.aload_n 0, 1) := by decide +kernel
theorem dX8_init_37 : decode cX8_init 37 = .ok (.bipush 10, 2) := by decide +kernel
theorem dX8_init_39 : decode cX8_init 39 = .ok (.newarray .int, 2) := by decide +kernel
theorem dX8_init_41 : decode cX8_init 41 = .ok (.putfield 22, 3) := by decide +kernel
theorem dX8_init_44 : decode cX8_init 44 = .ok (.aload_n 0, 1) := by decide +kernel
theorem dX8_init_45 : decode cX8_init 45 = .ok (.bipush 10, 2) := by decide +kernel
theorem dX8_init_47 : decode cX8_init 47 = .ok (.newarray .int, 2) := by decide +kernel
theorem dX8_init_49 : decode cX8_init 49 = .ok (.putfield 25, 3) := by decide +kernel
theorem dX8_init_52 : decode cX8_init 52 = .ok (.aload_n 0, 1) := by decide +kernel
theorem dX8_init_53 : decode cX8_init 53 = .ok (.iconst 2, 1) := by decide +kernel
theorem dX8_init_54 : decode cX8_init 54 = .ok (.newarray .int, 2) := by decide +kernel
theorem dX8_init_56 : decode cX8_init 56 = .ok (.putfield 28, 3) := by decide +kernel
theorem dX8_init_59 : decode cX8_init 59 = .ok (.aload_n 0, 1) := by decide +kernel
theorem dX8_init_60 : decode cX8_init 60 = .ok (.bipush 15, 2) := by decide +kernel
theorem dX8_init_62 : decode cX8_init 62 = .ok (.newarray .int, 2) := by decide +kernel
theorem dX8_init_64 : decode cX8_init 64 = .ok (.putfield 31, 3) := by decide +kernel
theorem dX8_init_67 : decode cX8_init 67 = .ok (.aload_n 0, 1) := by decide +kernel
theorem dX8_init_68 : decode cX8_init 68 = .ok (.bipush 9, 2) := by decide +kernel
theorem dX8_init_70 : decode cX8_init 70 = .ok (.newarray .int, 2) := by decide +kernel
theorem dX8_init_72 : decode cX8_init 72 = .ok (.putfield 34, 3) := by decide +kernel
theorem dX8_init_75 : decode cX8_init 75 = .ok (.aload_n 0, 1) := by decide +kernel
theorem dX8_init_76 : decode cX8_init 76 = .ok (.iconst 3, 1) := by decide +kernel
theorem dX8_init_77 : decode cX8_init 77 = .ok (.newarray .int, 2) := by decide +kernel
theorem dX8_init_79 : decode cX8_init 79 = .ok (.putfield 37, 3) := by decide +kernel
theorem dX8_init_82 : decode cX8_init 82 = .ok (.aload_n 0, 1) := by decide +kernel
theorem dX8_init_83 : decode cX8_init 83 = .ok (.bipush 32, 2) := by decide +kernel
theorem dX8_init_85 : decode cX8_init 85 = .ok (.newarray .int, 2) := by decide +kernel
theorem dX8_init_87 : decode cX8_init 87 = .ok (.putfield 40, 3) := by decide +kernel
theorem dX8_init_90 : decode cX8_init 90 = .ok (.aload_n 0, 1) := by decide +kernel
theorem dX8_init_91 : decode cX8_init 91 = .ok (.bipush 10, 2) := by decide +kernel
theorem dX8_init_93 : decode cX8_init 93 = .ok (.newarray .int, 2) := by decide +kernel
theorem dX8_init_95 : decode cX8_init 95 = .ok (.putfield 43, 3) := by decide +kernel
theorem dX8_init_98 : decode cX8_init 98 = .ok (.aload_n 0, 1) := by decide +kernel
theorem dX8_init_99 : decode cX8_init 99 = .ok (.bipush 10, 2) := by decide +kernel
theorem dX8_init_101 : decode cX8_init 101 = .ok (.newarray .int, 2) := by decide +kernel
theorem dX8_init_103 : decode cX8_init 103 = .ok (.putfield 46, 3) := by decide +kernel
theorem dX8_init_106 : decode cX8_init 106 = .ok (.aload_n 0, 1) := by decide +kernel
theorem dX8_init_107 : decode cX8_init 107 = .ok (.bipush 8, 2) := by decide +kernel
theorem dX8_init_109 : decode cX8_init 109 = .ok (.newarray .int, 2) := by decide +kernel
theorem dX8_init_111 : decode cX8_init 111 = .ok (.putfield 49, 3) := by decide +kernel
theorem dX8_init_114 : decode cX8_init 114 = .ok (.aload_n 0, 1) := by decide +kernel
theorem dX8_init_115 : decode cX8_init 115 = .ok (.iconst 4, 1) := by decide +kernel
theorem dX8_init_116 : decode cX8_init 116 = .ok (.newarray .int, 2) := by decide +kernel
theorem dX8_init_118 : decode cX8_init 118 = .ok (.putfield 52, 3) := by decide +kernel
theorem dX8_init_121 : decode cX8_init 121 = .ok (.aload_n 0, 1) := by decide +kernel
theorem dX8_init_122 : decode cX8_init 122 = .ok (.iconst 5, 1) := by decide +kernel
theorem dX8_init_123 : decode cX8_init 123 = .ok (.newarray .int, 2) := by decide +kernel
theorem dX8_init_125 : decode cX8_init 125 = .ok (.putfield 55, 3) := by decide +kernel
theorem dX8_init_128 : decode cX8_init 128 = .ok (.aload_n 0, 1) := by decide +kernel
theorem dX8_init_129 : decode cX8_init 129 = .ok (.iconst 3, 1) := by decide +kernel
theorem dX8_init_130 : decode cX8_init 130 = .ok (.newarray .int, 2) := by decide +kernel
theorem dX8_init_132 : decode cX8_init 132 = .ok (.putfield 58, 3) := by decide +kernel
theorem dX8_init_135 : decode cX8_init 135 = .ok (.aload_n 0, 1) := by decide +kernel
theorem dX8_init_136 : decode cX8_init 136 = .ok (.sipush 30400, 3) := by decide +kernel
theorem dX8_init_139 : decode cX8_init 139 = .ok (.newarray .int, 2) := by decide +kernel
theorem dX8_init_141 : decode cX8_init 141 = .ok (.putfield 61, 3) := by decide +kernel
theorem dX8_init_144 : decode cX8_init 144 = .ok (.aload_n 0, 1) := by decide +kernel
theorem dX8_init_145 : decode cX8_init 145 = .ok (.sipush 30400, 3) := by decide +kernel
theorem dX8_init_148 : decode cX8_init 148 = .ok (.newarray .int, 2) := by decide +kernel
theorem dX8_init_150 : decode cX8_init 150 = .ok (.putfield 64, 3) := by decide +kernel
theorem dX8_init_153 : decode cX8_init 153 = .ok (.aload_n 0, 1) := by decide +kernel
theorem dX8_init_154 : decode cX8_init 154 = .ok (.sipush 30400, 3) := by decide +kernel
theorem dX8_init_157 : decode cX8_init 157 = .ok (.newarray .int, 2) := by decide +kernel
theorem dX8_init_159 : decode cX8_init 159 = .ok (.putfield 67, 3) := by decide +kernel
theorem dX8_init_162 : decode cX8_init 162 = .ok (.aload_n 0, 1) := by decide +kernel
theorem dX8_init_163 : decode cX8_init 163 = .ok (.bipush 6, 2) := by decide +kernel
theorem dX8_init_165 : decode cX8_init 165 = .ok (.newarray .long, 2) := by decide +kernel
theorem dX8_init_167 : decode cX8_init 167 = .ok (.putfield 70, 3) := by decide +kernel
theorem dX8_init_170 : decode cX8_init 170 = .ok (.aload_n 0, 1) := by decide +kernel
theorem dX8_init_171 : decode cX8_init 171 = .ok (.bipush 6, 2) := by decide +kernel
theorem dX8_init_173 : decode cX8_init 173 = .ok (.newarray .long, 2) := by decide +kernel
theorem dX8_init_175 : decode cX8_init 175 = .ok (.putfield 74, 3) := by decide +kernel
theorem dX8_init_178 : decode cX8_init 178 = .ok (.aload_n 0, 1) := by decide +kernel
theorem dX8_init_179 : decode cX8_init 179 = .ok (.getfield 13, 3) := by decide +kernel
theorem dX8_init_182 : decode cX8_init 182 = .ok (.iconst 0, 1) := by decide +kernel
theorem dX8_init_183 : decode cX8_init 183 = .ok (.iconst 2, 1) := by decide +kernel
theorem dX8_init_184 : decode cX8_init 184 = .ok (.iastore, 1) := by decide +kernel
theorem dX8_init_185 : decode cX8_init 185 = .ok (.aload_n 0, 1) := by decide +kernel
theorem dX8_init_186 : decode cX8_init 186 = .ok (.getfield 19, 3) := by decide +kernel
theorem dX8_init_189 : decode cX8_init 189 = .ok (.iconst 0, 1) := by decide +kernel
theorem dX8_init_190 : decode cX8_init 190 = .ok (.iconst 1, 1) := by decide +kernel
theorem dX8_init_191 : decode cX8_init 191 = .ok (.iastore, 1) := by decide +kernel
theorem dX8_init_192 : decode cX8_init 192 = .ok (.aload_n 0, 1) := by decide +kernel
theorem dX8_init_193 : decode cX8_init 193 = .ok (.getfield 16, 3) := by decide +kernel
theorem dX8_init_196 : decode cX8_init 196 = .ok (.iconst 1, 1) := by decide +kernel
theorem dX8_init_197 : decode cX8_init 197 = .ok (.iconst 1, 1) := by decide +kernel
theorem dX8_init_198 : decode cX8_init 198 = .ok (.iastore, 1) := by decide +kernel
theorem dX8_init_199 : decode cX8_init 199 = .ok (.aload_n 0, 1) := by decide +kernel
theorem dX8_init_200 : decode cX8_init 200 = .ok (.getfield 19, 3) := by decide +kernel
theorem dX8_init_203 : decode cX8_init 203 = .ok (.iconst 1, 1) := by decide +kernel
theorem dX8_init_204 : decode cX8_init 204 = .ok (.iconst 2, 1) := by decide +kernel
theorem dX8_init_205 : decode cX8_init 205 = .ok (.iastore, 1) := by decide +kernel
theorem dX8_init_206 : decode cX8_init 206 = .ok (.aload_n 0, 1) := by decide +kernel
theorem dX8_init_207 : decode cX8_init 207 = .ok (.getfield 22, 3) := by decide +kernel
theorem dX8_init_210 : decode cX8_init 210 = .ok (.iconst 1, 1) := by decide +kernel
theorem dX8_init_211 : decode cX8_init 211 = .ok (.iconst 1, 1) := by decide +kernel
theorem dX8_init_212 : decode cX8_init 212 = .ok (.iastore, 1) := by decide +kernel
theorem dX8_init_213 : decode cX8_init 213 = .ok (.aload_n 0, 1) := by decide +kernel
theorem dX8_init_214 : decode cX8_init 214 = .ok (.getfield 25, 3) := by decide +kernel
theorem dX8_init_217 : decode cX8_init 217 = .ok (.iconst 1, 1) := by decide +kernel
theorem dX8_init_218 : decode cX8_init 218 = .ok (.iconst 1, 1) := by decide +kernel
theorem dX8_init_219 : decode cX8_init 219 = .ok (.iastore, 1) := by decide +kernel
theorem dX8_init_220 : decode cX8_init 220 = .ok (.aload_n 0, 1) := by decide +kernel
theorem dX8_init_221 : decode cX8_init 221 = .ok (.getfield 28, 3) := by decide +kernel
theorem dX8_init_224 : decode cX8_init 224 = .ok (.iconst 0, 1) := by decide +kernel
theorem dX8_init_225 : decode cX8_init 225 = .ok (.iconst 2, 1) := by decide +kernel
theorem dX8_init_226 : decode cX8_init 226 = .ok (.iastore, 1) := by decide +kernel
theorem dX8_init_227 : decode cX8_init 227 = .ok (.aload_n 0, 1) := by decide +kernel
theorem dX8_init_228 : decode cX8_init 228 = .ok (.invokevirtual 77, 3) := by decide +kernel
theorem dX8_init_231 : decode cX8_init 231 = .ok (.return_, 1) := by decide +kernel
theorem dX8_in_0 : decode cX8_in 0 = .ok (.lload_n 0, 1) := by decide +kernel
theorem dX8_in_1 : decode cX8_in 1 = .ok (.lload_n 2, 1) := by decide +kernel
theorem dX8_in_2 : decode cX8_in 2 = .ok (.lcmp, 1) := by decide +kernel
theorem dX8_in_3 : decode cX8_in 3 = .ok (.ifCond .lt 14, 3) := by decide +kernel
theorem dX8_in_6 : decode cX8_in 6 = .ok (.lload_n 0, 1) := by decide +kernel
theorem dX8_in_7 : decode cX8_in 7 = .ok (.lload 4, 2) := by decide +kernel
theorem dX8_in_9 : decode cX8_in 9 = .ok (.lcmp, 1) := by decide +kernel
theorem dX8_in_10 : decode cX8_in 10 = .ok (.ifCond .gt 7, 3) := by decide +kernel
theorem dX8_in_13 : decode cX8_in 13 = .ok (.iconst 1, 1) := by decide +kernel
theorem dX8_in_14 : decode cX8_in 14 = .ok (.goto 4, 3) := by decide +kernel
theorem dX8_in_17 : decode cX8_in 17 = .ok (.iconst 0, 1) := by decide +kernel
theorem dX8_in_18 : decode cX8_in 18 = .ok (.ireturn, 1) := by decide +kernel
set_option maxRecDepth 20000 in
theorem ggX8_write_X8_in : GoodIn wsX8_write wsX8_in := goodIn_r _ [8] (by decide +kernel) (by decide +kernel)
set_option maxRecDepth 20000 in
theorem gX8_write_X8_in : GoodIn wsX8_write (va_wsS RX8 82 yX8_in wsX8_in) := goodIn_app (goodIn_of _ (by decide +kernel)) ggX8_write_X8_in
theorem dX8_write_0 : decode cX8_write 0 = .ok (.iload_n 1, 1) := by decide +kernel
theorem dX8_write_1 : decode cX8_write 1 = .ok (.i2l, 1) := by decide +kernel
theorem dX8_write_2 : decode cX8_write 2 = .ok (.lconst 1, 1) := by decide +kernel
theorem dX8_write_3 : decode cX8_write 3 = .ok (.ldc2_w 80, 3) := by decide +kernel
theorem dX8_write_6 : decode cX8_write 6 = .ok (.invokestatic 82, 3) := by decide +kernel
theorem dX8_write_9 : decode cX8_write 9 = .ok (.ifCond .ne 5, 3) := by decide +kernel
theorem dX8_write_12 : decode cX8_write 12 = .ok (.iconst (-1), 1) := by decide +kernel
theorem dX8_write_13 : decode cX8_write 13 = .ok (.ireturn, 1) := by decide +kernel
theorem dX8_write_14 : decode cX8_write 14 = .ok (.aload_n 0, 1) := by decide +kernel
theorem dX8_write_15 : decode cX8_write 15 = .ok (.getfield 86, 3) := by decide +kernel
theorem dX8_write_18 : decode cX8_write 18 = .ok (.iload_n 1, 1) := by decide +kernel
theorem dX8_write_19 : decode cX8_write 19 = .ok (.iadd, 1) := by decide +kernel
theorem dX8_write_20 : decode cX8_write 20 = .ok (.sipush 200, 3) := by decide +kernel
theorem dX8_write_23 : decode cX8_write 23 = .ok (.if_icmp .le 6, 3) := by decide +kernel
theorem dX8_write_26 : decode cX8_write 26 = .ok (.bipush (-3), 2) := by decide +kernel
theorem dX8_write_28 : decode cX8_write 28 = .ok (.ireturn, 1) := by decide +kernel
theorem dX8_write_29 : decode cX8_write 29 = .ok (.iload_n 1, 1) := by decide +kernel
theorem dX8_write_30 : decode cX8_write 30 = .ok (.iconst 1, 1) := by decide +kernel
theorem dX8_write_31 : decode cX8_write 31 = .ok (.isub, 1) := by decide +kernel
theorem dX8_write_32 : decode cX8_write 32 = .ok (.istore 4, 2) := by decide +kernel
theorem dX8_write_34 : decode cX8_write 34 = .ok (.iload 4, 2) := by decide +kernel
theorem dX8_write_36 : decode cX8_write 36 = .ok (.ifCond .lt 40, 3) := by decide +kernel
theorem dX8_write_39 : decode cX8_write 39 = .ok (.aload_n 0, 1) := by decide +kernel
theorem dX8_write_40 : decode cX8_write 40 = .ok (.getfield 7, 3) := by decide +kernel
theorem dX8_write_43 : decode cX8_write 43 = .ok (.aload_n 0, 1) := by decide +kernel
theorem dX8_write_44 : decode cX8_write 44 = .ok (.getfield 86, 3) := by decide +kernel
theorem dX8_write_47 : decode cX8_write 47 = .ok (.lload_n 2, 1) := by decide +kernel
theorem dX8_write_48 : decode cX8_write 48 = .ok (.bipush 8, 2) := by decide +kernel
theorem dX8_write_50 : decode cX8_write 50 = .ok (.iload 4, 2) := by decide +kernel
theorem dX8_write_52 : decode cX8_write 52 = .ok (.imul, 1) := by decide +kernel
theorem dX8_write_53 : decode cX8_write 53 = .ok (.lshr, 1) := by decide +kernel
theorem dX8_write_54 : decode cX8_write 54 = .ok (.ldc2_w 90, 3) := by decide +kernel
theorem dX8_write_57 : decode cX8_write 57 = .ok (.land, 1) := by decide +kernel
theorem dX8_write_58 : decode cX8_write 58 = .ok (.l2i, 1) := by decide +kernel
theorem dX8_write_59 : decode cX8_write 59 = .ok (.iastore, 1) := by decide +kernel
theorem dX8_write_60 : decode cX8_write 60 = .ok (.aload_n 0, 1) := by decide +kernel
theorem dX8_write_61 : decode cX8_write 61 = .ok (.dup, 1) := by decide +kernel
theorem dX8_write_62 : decode cX8_write 62 = .ok (.getfield 86, 3) := by decide +kernel
theorem dX8_write_65 : decode cX8_write 65 = .ok (.iconst 1, 1) := by decide +kernel
theorem dX8_write_66 : decode cX8_write 66 = .ok (.iadd, 1) := by decide +kernel
theorem dX8_write_67 : decode cX8_write 67 = .ok (.putfield 86, 3) := by decide +kernel
theorem dX8_write_70 : decode cX8_write 70 = .ok (.iinc 4 (-1), 3) := by decide +kernel
theorem dX8_write_73 : decode cX8_write 73 = .ok (.goto (-39), 3) := by decide +kernel
theorem dX8_write_76 : decode cX8_write 76 = .ok (.aload_n 0, 1) := by decide +kernel
theorem dX8_write_77 : decode cX8_write 77 = .ok (.getfield 86, 3) := by decide +kernel
theorem dX8_write_80 : decode cX8_write 80 = .ok (.ireturn, 1) := by decide +kernel
theorem dX8_wipe_0 : decode cX8_wipe 0 = .ok (.aload_n 0, 1) := by decide +kernel
theorem dX8_wipe_1 : decode cX8_wipe 1 = .ok (.getfield 86, 3) := by decide +kernel
theorem dX8_wipe_4 : decode cX8_wipe 4 = .ok (.istore_n 1, 1) := by decide +kernel
theorem dX8_wipe_5 : decode cX8_wipe 5 = .ok (.aload_n 0, 1) := by decide +kernel
theorem dX8_wipe_6 : decode cX8_wipe 6 = .ok (.iconst 0, 1) := by decide +kernel
theorem dX8_wipe_7 : decode cX8_wipe 7 = .ok (.putfield 86, 3) := by decide +kernel
theorem dX8_wipe_10 : decode cX8_wipe 10 = .ok (.iload_n 1, 1) := by decide +kernel
theorem dX8_wipe_11 : decode cX8_wipe 11 = .ok (.ireturn, 1) := by decide +kernel
theorem dX8_byteAt_0 : decode cX8_byteAt 0 = .ok (.iload_n 1, 1) := by decide +kernel
theorem dX8_byteAt_1 : decode cX8_byteAt 1 = .ok (.aload_n 0, 1) := by decide +kernel
theorem dX8_byteAt_2 : decode cX8_byteAt 2 = .ok (.getfield 86, 3) := by decide +kernel
theorem dX8_byteAt_5 : decode cX8_byteAt 5 = .ok (.if_icmp .ge 12, 3) := by decide +kernel
theorem dX8_byteAt_8 : decode cX8_byteAt 8 = .ok (.aload_n 0, 1) := by decide +kernel
theorem dX8_byteAt_9 : decode cX8_byteAt 9 = .ok (.getfield 7, 3) := by decide +kernel
theorem dX8_byteAt_12 : decode cX8_byteAt 12 = .ok (.iload_n 1, 1) := by decide +kernel
theorem dX8_byteAt_13 : decode cX8_byteAt 13 = .ok (.iaload, 1) := by decide +kernel
theorem dX8_byteAt_14 : decode cX8_byteAt 14 = .ok (.goto 4, 3) := by decide +kernel
theorem dX8_byteAt_17 : decode cX8_byteAt 17 = .ok (.iconst 0, 1) := by decide +kernel
theorem dX8_byteAt_18 : decode cX8_byteAt 18 = .ok (.ireturn, 1) := by decide +kernel
set_option maxRecDepth 20000 in
theorem ggX8_figures_X8_byteAt : GoodIn wsX8_figures wsX8_byteAt := goodIn_r _ [10, 11, 12, 16, 17, 18, 19, 20, 21, 22, 23, 24, 25, 26, 27, 28, 29, 30, 31, 32, 33, 34, 35, 36, 37, 38, 39, 40, 41, 42, 43, 44, 45] (by decide +kernel) (by decide +kernel)
set_option maxRecDepth 20000 in
theorem gX8_figures_X8_byteAt : GoodIn wsX8_figures (wsV RX8 95 RX8 yX8_byteAt wsX8_byteAt) := goodIn_app (goodIn_of _ (by decide +kernel)) ggX8_figures_X8_byteAt
set_option maxRecDepth 20000 in
theorem ggX8_figures_X8_in : GoodIn wsX8_figures wsX8_in := goodIn_r _ [15] (by decide +kernel) (by decide +kernel)
set_option maxRecDepth 20000 in
theorem gX8_figures_X8_in : GoodIn wsX8_figures (va_wsS RX8 82 yX8_in wsX8_in) := goodIn_app (goodIn_of _ (by decide +kernel)) ggX8_figures_X8_in
theorem dX8_figures_0 : decode cX8_figures 0 = .ok (.iconst 0, 1) := by decide +kernel
theorem dX8_figures_1 : decode cX8_figures 1 = .ok (.istore_n 2, 1) := by decide +kernel
theorem dX8_figures_2 : decode cX8_figures 2 = .ok (.iload_n 2, 1) := by decide +kernel
theorem dX8_figures_3 : decode cX8_figures 3 = .ok (.iload_n 1, 1) := by decide +kernel
theorem dX8_figures_4 : decode cX8_figures 4 = .ok (.if_icmp .ge 132, 3) := by decide +kernel
theorem dX8_figures_7 : decode cX8_figures 7 = .ok (.iconst 0, 1) := by decide +kernel
theorem dX8_figures_8 : decode cX8_figures 8 = .ok (.istore_n 3, 1) := by decide +kernel
theorem dX8_figures_9 : decode cX8_figures 9 = .ok (.iconst 0, 1) := by decide +kernel
theorem dX8_figures_10 : decode cX8_figures 10 = .ok (.istore 4, 2) := by decide +kernel
theorem dX8_figures_12 : decode cX8_figures 12 = .ok (.aload_n 0, 1) := by decide +kernel
theorem dX8_figures_13 : decode cX8_figures 13 = .ok (.aload_n 0, 1) := by decide +kernel
theorem dX8_figures_14 : decode cX8_figures 14 = .ok (.getfield 92, 3) := by decide +kernel
theorem dX8_figures_17 : decode cX8_figures 17 = .ok (.invokevirtual 95, 3) := by decide +kernel
theorem dX8_figures_20 : decode cX8_figures 20 = .ok (.i2l, 1) := by decide +kernel
theorem dX8_figures_21 : decode cX8_figures 21 = .ok (.ldc2_w 99, 3) := by decide +kernel
theorem dX8_figures_24 : decode cX8_figures 24 = .ok (.ldc2_w 101, 3) := by decide +kernel
theorem dX8_figures_27 : decode cX8_figures 27 = .ok (.invokestatic 82, 3) := by decide +kernel
theorem dX8_figures_30 : decode cX8_figures 30 = .ok (.ifCond .eq 43, 3) := by decide +kernel
theorem dX8_figures_33 : decode cX8_figures 33 = .ok (.iload_n 3, 1) := by decide +kernel
theorem dX8_figures_34 : decode cX8_figures 34 = .ok (.iconst 3, 1) := by decide +kernel
theorem dX8_figures_35 : decode cX8_figures 35 = .ok (.if_icmp .ge 38, 3) := by decide +kernel
theorem dX8_figures_38 : decode cX8_figures 38 = .ok (.bipush 10, 2) := by decide +kernel
theorem dX8_figures_40 : decode cX8_figures 40 = .ok (.iload 4, 2) := by decide +kernel
theorem dX8_figures_42 : decode cX8_figures 42 = .ok (.imul, 1) := by decide +kernel
theorem dX8_figures_43 : decode cX8_figures 43 = .ok (.aload_n 0, 1) := by decide +kernel
theorem dX8_figures_44 : decode cX8_figures 44 = .ok (.aload_n 0, 1) := by decide +kernel
