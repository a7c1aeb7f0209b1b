theorem dX0_init_0 : decode cX0_init 0 = .ok (.aload_n 0, 1) := by decide +kernel
theorem dX0_init_1 : decode cX0_init 1 = .ok (.invokespecial 3, 3) := by decide +kernel
theorem dX0_init_4 : decode cX0_init 4 = .ok (.aload_n 0, 1) := by decide +kernel
theorem dX0_init_5 : decode cX0_init 5 = .ok (.bipush 9, 2) := by decide +kernel
theorem dX0_init_7 : decode cX0_init 7 = .ok (.newarray .int, 2) := by decide +kernel
theorem dX0_init_9 : decode cX0_init 9 = .ok (.putfield 9, 3) := by decide +kernel
theorem dX0_init_12 : decode cX0_init 12 = .ok (.aload_n 0, 1) := by decide +kernel
theorem dX0_init_13 : decode cX0_init 13 = .ok (.iconst 0, 1) := by decide +kernel
theorem dX0_init_14 : decode cX0_init 14 = .ok (.putfield 15, 3) := by decide +kernel
theorem dX0_init_17 : decode cX0_init 17 = .ok (.aload_n 0, 1) := by decide +kernel
theorem dX0_init_18 : decode cX0_init 18 = .ok (.iconst 1, 1) := by decide +kernel
theorem dX0_init_19 : decode cX0_init 19 = .ok (.putfield 19, 3) := by decide +kernel
theorem dX0_init_22 : decode cX0_init 22 = .ok (.return_, 1) := by decide +kernel
set_option maxRecDepth 20000 in
theorem ggX0_reckon_X0_openByMoreGone : GoodIn wsX0_reckon wsX0_openByMoreGone := goodIn_r _ [8, 9, 10, 11, 12, 13, 14, 15, 16, 17, 18, 19, 20, 21, 22, 23, 24, 25, 26, 45, 46, 47, 48, 49, 50, 51, 52] (by decide +kernel) (by decide +kernel)
set_option maxRecDepth 20000 in
theorem gX0_reckon_X0_openByMoreGone : GoodIn wsX0_reckon (wsV RX0 22 RX0 yX0_openByMoreGone wsX0_openByMoreGone) := goodIn_app (goodIn_of _ (by decide +kernel)) ggX0_reckon_X0_openByMoreGone
set_option maxRecDepth 20000 in
theorem ggX0_reckon_J7_fill_53178 : GoodIn wsX0_reckon wsJ7_fill_53178 := goodIn_r _ [30] (by decide +kernel) (by decide +kernel)
set_option maxRecDepth 20000 in
theorem gX0_reckon_J7_fill_53178 : GoodIn wsX0_reckon (va_wsS RX0 26 yJ7_fill_53178 wsJ7_fill_53178) := goodIn_app (goodIn_of _ (by decide +kernel)) ggX0_reckon_J7_fill_53178
set_option maxRecDepth 20000 in
theorem ggX0_reckon_X0_comeOne : GoodIn wsX0_reckon wsX0_comeOne := goodIn_r _ [34, 1, 42, 43, 44] (by decide +kernel) (by decide +kernel)
set_option maxRecDepth 20000 in
theorem gX0_reckon_X0_comeOne : GoodIn wsX0_reckon (wsV RX0 32 RX0 yX0_comeOne wsX0_comeOne) := goodIn_app (goodIn_of _ (by decide +kernel)) ggX0_reckon_X0_comeOne
set_option maxRecDepth 20000 in
theorem ggX0_reckon_X0_reduce : GoodIn wsX0_reckon wsX0_reduce := goodIn_r _ [38, 3, 2, 39, 40, 7, 41, 42, 43, 44] (by decide +kernel) (by decide +kernel)
set_option maxRecDepth 20000 in
theorem gX0_reckon_X0_reduce : GoodIn wsX0_reckon (wsV RX0 36 RX0 yX0_reduce wsX0_reduce) := goodIn_app (goodIn_of _ (by decide +kernel)) ggX0_reckon_X0_reduce
theorem dX0_reckon_0 : decode cX0_reckon 0 = .ok (.aload_n 0, 1) := by decide +kernel
theorem dX0_reckon_1 : decode cX0_reckon 1 = .ok (.aload_n 1, 1) := by decide +kernel
theorem dX0_reckon_2 : decode cX0_reckon 2 = .ok (.iload_n 2, 1) := by decide +kernel
theorem dX0_reckon_3 : decode cX0_reckon 3 = .ok (.invokevirtual 22, 3) := by decide +kernel
theorem dX0_reckon_6 : decode cX0_reckon 6 = .ok (.istore 5, 2) := by decide +kernel
theorem dX0_reckon_8 : decode cX0_reckon 8 = .ok (.aload_n 0, 1) := by decide +kernel
theorem dX0_reckon_9 : decode cX0_reckon 9 = .ok (.getfield 9, 3) := by decide +kernel
theorem dX0_reckon_12 : decode cX0_reckon 12 = .ok (.iconst 0, 1) := by decide +kernel
theorem dX0_reckon_13 : decode cX0_reckon 13 = .ok (.invokestatic 26, 3) := by decide +kernel
theorem dX0_reckon_16 : decode cX0_reckon 16 = .ok (.aload_n 0, 1) := by decide +kernel
theorem dX0_reckon_17 : decode cX0_reckon 17 = .ok (.getfield 9, 3) := by decide +kernel
theorem dX0_reckon_20 : decode cX0_reckon 20 = .ok (.iconst 0, 1) := by decide +kernel
theorem dX0_reckon_21 : decode cX0_reckon 21 = .ok (.iconst 1, 1) := by decide +kernel
theorem dX0_reckon_22 : decode cX0_reckon 22 = .ok (.iastore, 1) := by decide +kernel
theorem dX0_reckon_23 : decode cX0_reckon 23 = .ok (.aload_n 0, 1) := by decide +kernel
theorem dX0_reckon_24 : decode cX0_reckon 24 = .ok (.iconst 0, 1) := by decide +kernel
theorem dX0_reckon_25 : decode cX0_reckon 25 = .ok (.putfield 15, 3) := by decide +kernel
theorem dX0_reckon_28 : decode cX0_reckon 28 = .ok (.aload_n 0, 1) := by decide +kernel
theorem dX0_reckon_29 : decode cX0_reckon 29 = .ok (.iconst 1, 1) := by decide +kernel
theorem dX0_reckon_30 : decode cX0_reckon 30 = .ok (.putfield 19, 3) := by decide +kernel
theorem dX0_reckon_33 : decode cX0_reckon 33 = .ok (.iconst 0, 1) := by decide +kernel
theorem dX0_reckon_34 : decode cX0_reckon 34 = .ok (.istore 6, 2) := by decide +kernel
theorem dX0_reckon_36 : decode cX0_reckon 36 = .ok (.iload 6, 2) := by decide +kernel
theorem dX0_reckon_38 : decode cX0_reckon 38 = .ok (.iload_n 3, 1) := by decide +kernel
theorem dX0_reckon_39 : decode cX0_reckon 39 = .ok (.if_icmp .ge 35, 3) := by decide +kernel
theorem dX0_reckon_42 : decode cX0_reckon 42 = .ok (.iload 6, 2) := by decide +kernel
theorem dX0_reckon_44 : decode cX0_reckon 44 = .ok (.bipush 8, 2) := by decide +kernel
theorem dX0_reckon_46 : decode cX0_reckon 46 = .ok (.if_icmp .ge 28, 3) := by decide +kernel
theorem dX0_reckon_49 : decode cX0_reckon 49 = .ok (.aload_n 0, 1) := by decide +kernel
theorem dX0_reckon_50 : decode cX0_reckon 50 = .ok (.iload 5, 2) := by decide +kernel
theorem dX0_reckon_52 : decode cX0_reckon 52 = .ok (.iload 4, 2) := by decide +kernel
theorem dX0_reckon_54 : decode cX0_reckon 54 = .ok (.invokevirtual 32, 3) := by decide +kernel
theorem dX0_reckon_57 : decode cX0_reckon 57 = .ok (.aload_n 0, 1) := by decide +kernel
theorem dX0_reckon_58 : decode cX0_reckon 58 = .ok (.dup, 1) := by decide +kernel
theorem dX0_reckon_59 : decode cX0_reckon 59 = .ok (.getfield 19, 3) := by decide +kernel
theorem dX0_reckon_62 : decode cX0_reckon 62 = .ok (.bipush 10, 2) := by decide +kernel
theorem dX0_reckon_64 : decode cX0_reckon 64 = .ok (.imul, 1) := by decide +kernel
theorem dX0_reckon_65 : decode cX0_reckon 65 = .ok (.putfield 19, 3) := by decide +kernel
theorem dX0_reckon_68 : decode cX0_reckon 68 = .ok (.iinc 6 1, 3) := by decide +kernel
theorem dX0_reckon_71 : decode cX0_reckon 71 = .ok (.goto (-35), 3) := by decide +kernel
theorem dX0_reckon_74 : decode cX0_reckon 74 = .ok (.iconst 0, 1) := by decide +kernel
theorem dX0_reckon_75 : decode cX0_reckon 75 = .ok (.istore 6, 2) := by decide +kernel
theorem dX0_reckon_77 : decode cX0_reckon 77 = .ok (.iload 6, 2) := by decide +kernel
theorem dX0_reckon_79 : decode cX0_reckon 79 = .ok (.bipush 8, 2) := by decide +kernel
theorem dX0_reckon_81 : decode cX0_reckon 81 = .ok (.if_icmp .gt 33, 3) := by decide +kernel
theorem dX0_reckon_84 : decode cX0_reckon 84 = .ok (.aload_n 0, 1) := by decide +kernel
theorem dX0_reckon_85 : decode cX0_reckon 85 = .ok (.dup, 1) := by decide +kernel
theorem dX0_reckon_86 : decode cX0_reckon 86 = .ok (.getfield 15, 3) := by decide +kernel
theorem dX0_reckon_89 : decode cX0_reckon 89 = .ok (.iload 5, 2) := by decide +kernel
theorem dX0_reckon_91 : decode cX0_reckon 91 = .ok (.iload 6, 2) := by decide +kernel
theorem dX0_reckon_93 : decode cX0_reckon 93 = .ok (.ishr, 1) := by decide +kernel
theorem dX0_reckon_94 : decode cX0_reckon 94 = .ok (.iconst 1, 1) := by decide +kernel
theorem dX0_reckon_95 : decode cX0_reckon 95 = .ok (.iand, 1) := by decide +kernel
theorem dX0_reckon_96 : decode cX0_reckon 96 = .ok (.aload_n 0, 1) := by decide +kernel
theorem dX0_reckon_97 : decode cX0_reckon 97 = .ok (.getfield 9, 3) := by decide +kernel
theorem dX0_reckon_100 : decode cX0_reckon 100 = .ok (.iload 6, 2) := by decide +kernel
theorem dX0_reckon_102 : decode cX0_reckon 102 = .ok (.iaload, 1) := by decide +kernel
theorem dX0_reckon_103 : decode cX0_reckon 103 = .ok (.imul, 1) := by decide +kernel
theorem dX0_reckon_104 : decode cX0_reckon 104 = .ok (.iadd, 1) := by decide +kernel
theorem dX0_reckon_105 : decode cX0_reckon 105 = .ok (.putfield 15, 3) := by decide +kernel
theorem dX0_reckon_108 : decode cX0_reckon 108 = .ok (.iinc 6 1, 3) := by decide +kernel
theorem dX0_reckon_111 : decode cX0_reckon 111 = .ok (.goto (-34), 3) := by decide +kernel
theorem dX0_reckon_114 : decode cX0_reckon 114 = .ok (.aload_n 0, 1) := by decide +kernel
theorem dX0_reckon_115 : decode cX0_reckon 115 = .ok (.invokevirtual 36, 3) := by decide +kernel
theorem dX0_reckon_118 : decode cX0_reckon 118 = .ok (.return_, 1) := by decide +kernel
set_option maxRecDepth 20000 in
theorem ggX0_openByMoreGone_X2_hasGate : GoodIn wsX0_openByMoreGone wsX2_hasGate := goodIn_r _ [6, 7, 19, 20, 21, 22, 23, 24, 25, 26] (by decide +kernel) (by decide +kernel)
set_option maxRecDepth 20000 in
theorem gX0_openByMoreGone_X2_hasGate : GoodIn wsX0_openByMoreGone (wsV RX0 39 RX2 yX2_hasGate wsX2_hasGate) := goodIn_app (goodIn_of _ (by decide +kernel)) ggX0_openByMoreGone_X2_hasGate
set_option maxRecDepth 20000 in
theorem ggX0_openByMoreGone_X2_isOpen : GoodIn wsX0_openByMoreGone wsX2_isOpen := goodIn_r _ [11, 12, 13, 14, 15, 16, 5, 17, 18, 3, 4, 6, 7, 19, 20, 21, 22, 23, 24, 25, 26] (by decide +kernel) (by decide +kernel)
set_option maxRecDepth 20000 in
theorem gX0_openByMoreGone_X2_isOpen : GoodIn wsX0_openByMoreGone (wsV RX0 45 RX2 yX2_isOpen wsX2_isOpen) := goodIn_app (goodIn_of _ (by decide +kernel)) ggX0_openByMoreGone_X2_isOpen
theorem dX0_openByMoreGone_0 : decode cX0_openByMoreGone 0 = .ok (.iconst 0, 1) := by decide +kernel
theorem dX0_openByMoreGone_1 : decode cX0_openByMoreGone 1 = .ok (.istore_n 3, 1) := by decide +kernel
theorem dX0_openByMoreGone_2 : decode cX0_openByMoreGone 2 = .ok (.iconst 0, 1) := by decide +kernel
theorem dX0_openByMoreGone_3 : decode cX0_openByMoreGone 3 = .ok (.istore 4, 2) := by decide +kernel
theorem dX0_openByMoreGone_5 : decode cX0_openByMoreGone 5 = .ok (.iload 4, 2) := by decide +kernel
theorem dX0_openByMoreGone_7 : decode cX0_openByMoreGone 7 = .ok (.bipush 8, 2) := by decide +kernel
theorem dX0_openByMoreGone_9 : decode cX0_openByMoreGone 9 = .ok (.if_icmp .gt 47, 3) := by decide +kernel
theorem dX0_openByMoreGone_12 : decode cX0_openByMoreGone 12 = .ok (.aload_n 1, 1) := by decide +kernel
theorem dX0_openByMoreGone_13 : decode cX0_openByMoreGone 13 = .ok (.iload_n 2, 1) := by decide +kernel
theorem dX0_openByMoreGone_14 : decode cX0_openByMoreGone 14 = .ok (.invokevirtual 39, 3) := by decide +kernel
theorem dX0_openByMoreGone_17 : decode cX0_openByMoreGone 17 = .ok (.ifCond .eq 39, 3) := by decide +kernel
theorem dX0_openByMoreGone_20 : decode cX0_openByMoreGone 20 = .ok (.iload_n 3, 1) := by decide +kernel
theorem dX0_openByMoreGone_21 : decode cX0_openByMoreGone 21 = .ok (.aload_n 1, 1) := by decide +kernel
theorem dX0_openByMoreGone_22 : decode cX0_openByMoreGone 22 = .ok (.iload_n 2, 1) := by decide +kernel
theorem dX0_openByMoreGone_23 : decode cX0_openByMoreGone 23 = .ok (.iconst 0, 1) := by decide +kernel
theorem dX0_openByMoreGone_24 : decode cX0_openByMoreGone 24 = .ok (.invokevirtual 45, 3) := by decide +kernel
theorem dX0_openByMoreGone_27 : decode cX0_openByMoreGone 27 = .ok (.ifCond .eq 10, 3) := by decide +kernel
theorem dX0_openByMoreGone_30 : decode cX0_openByMoreGone 30 = .ok (.iconst 1, 1) := by decide +kernel
theorem dX0_openByMoreGone_31 : decode cX0_openByMoreGone 31 = .ok (.iload 4, 2) := by decide +kernel
theorem dX0_openByMoreGone_33 : decode cX0_openByMoreGone 33 = .ok (.ishl, 1) := by decide +kernel
theorem dX0_openByMoreGone_34 : decode cX0_openByMoreGone 34 = .ok (.goto 4, 3) := by decide +kernel
theorem dX0_openByMoreGone_37 : decode cX0_openByMoreGone 37 = .ok (.iconst 0, 1) := by decide +kernel
theorem dX0_openByMoreGone_38 : decode cX0_openByMoreGone 38 = .ok (.ior, 1) := by decide +kernel
theorem dX0_openByMoreGone_39 : decode cX0_openByMoreGone 39 = .ok (.istore_n 3, 1) := by decide +kernel
theorem dX0_openByMoreGone_40 : decode cX0_openByMoreGone 40 = .ok (.aload_n 1, 1) := by decide +kernel
theorem dX0_openByMoreGone_41 : decode cX0_openByMoreGone 41 = .ok (.getfield 49, 3) := by decide +kernel
theorem dX0_openByMoreGone_44 : decode cX0_openByMoreGone 44 = .ok (.iload_n 2, 1) := by decide +kernel
theorem dX0_openByMoreGone_45 : decode cX0_openByMoreGone 45 = .ok (.dup2, 1) := by decide +kernel
theorem dX0_openByMoreGone_46 : decode cX0_openByMoreGone 46 = .ok (.iaload, 1) := by decide +kernel
theorem dX0_openByMoreGone_47 : decode cX0_openByMoreGone 47 = .ok (.iconst 1, 1) := by decide +kernel
theorem dX0_openByMoreGone_48 : decode cX0_openByMoreGone 48 = .ok (.iadd, 1) := by decide +kernel
theorem dX0_openByMoreGone_49 : decode cX0_openByMoreGone 49 = .ok (.iastore, 1) := by decide +kernel
theorem dX0_openByMoreGone_50 : decode cX0_openByMoreGone 50 = .ok (.iinc 4 1, 3) := by decide +kernel
theorem dX0_openByMoreGone_53 : decode cX0_openByMoreGone 53 = .ok (.goto (-48), 3) := by decide +kernel
theorem dX0_openByMoreGone_56 : decode cX0_openByMoreGone 56 = .ok (.iload_n 3, 1) := by decide +kernel
theorem dX0_openByMoreGone_57 : decode cX0_openByMoreGone 57 = .ok (.ireturn, 1) := by decide +kernel
theorem dX0_comeOne_0 : decode cX0_comeOne 0 = .ok (.bipush 8, 2) := by decide +kernel
theorem dX0_comeOne_2 : decode cX0_comeOne 2 = .ok (.istore_n 3, 1) := by decide +kernel
theorem dX0_comeOne_3 : decode cX0_comeOne 3 = .ok (.iload_n 3, 1) := by decide +kernel
theorem dX0_comeOne_4 : decode cX0_comeOne 4 = .ok (.ifCond .lt 76, 3) := by decide +kernel
theorem dX0_comeOne_7 : decode cX0_comeOne 7 = .ok (.iload_n 1, 1) := by decide +kernel
theorem dX0_comeOne_8 : decode cX0_comeOne 8 = .ok (.iload_n 3, 1) := by decide +kernel
theorem dX0_comeOne_9 : decode cX0_comeOne 9 = .ok (.ishr, 1) := by decide +kernel
theorem dX0_comeOne_10 : decode cX0_comeOne 10 = .ok (.iconst 1, 1) := by decide +kernel
theorem dX0_comeOne_11 : decode cX0_comeOne 11 = .ok (.iand, 1) := by decide +kernel
theorem dX0_comeOne_12 : decode cX0_comeOne 12 = .ok (.ifCond .eq 7, 3) := by decide +kernel
theorem dX0_comeOne_15 : decode cX0_comeOne 15 = .ok (.iconst 1, 1) := by decide +kernel
theorem dX0_comeOne_16 : decode cX0_comeOne 16 = .ok (.goto 4, 3) := by decide +kernel
theorem dX0_comeOne_19 : decode cX0_comeOne 19 = .ok (.iconst 0, 1) := by decide +kernel
theorem dX0_comeOne_20 : decode cX0_comeOne 20 = .ok (.istore 4, 2) := by decide +kernel
theorem dX0_comeOne_22 : decode cX0_comeOne 22 = .ok (.iload 4, 2) := by decide +kernel
theorem dX0_comeOne_24 : decode cX0_comeOne 24 = .ok (.ifCond .eq 7, 3) := by decide +kernel
theorem dX0_comeOne_27 : decode cX0_comeOne 27 = .ok (.iload_n 2, 1) := by decide +kernel
theorem dX0_comeOne_28 : decode cX0_comeOne 28 = .ok (.goto 4, 3) := by decide +kernel
theorem dX0_comeOne_31 : decode cX0_comeOne 31 = .ok (.iconst 0, 1) := by decide +kernel
theorem dX0_comeOne_32 : decode cX0_comeOne 32 = .ok (.istore 5, 2) := by decide +kernel
theorem dX0_comeOne_34 : decode cX0_comeOne 34 = .ok (.iload_n 3, 1) := by decide +kernel
theorem dX0_comeOne_35 : decode cX0_comeOne 35 = .ok (.bipush 8, 2) := by decide +kernel
theorem dX0_comeOne_37 : decode cX0_comeOne 37 = .ok (.if_icmp .ge 23, 3) := by decide +kernel
theorem dX0_comeOne_40 : decode cX0_comeOne 40 = .ok (.aload_n 0, 1) := by decide +kernel
theorem dX0_comeOne_41 : decode cX0_comeOne 41 = .ok (.getfield 9, 3) := by decide +kernel
theorem dX0_comeOne_44 : decode cX0_comeOne 44 = .ok (.iload_n 3, 1) := by decide +kernel
theorem dX0_comeOne_45 : decode cX0_comeOne 45 = .ok (.iconst 1, 1) := by decide +kernel
theorem dX0_comeOne_46 : decode cX0_comeOne 46 = .ok (.iadd, 1) := by decide +kernel
theorem dX0_comeOne_47 : decode cX0_comeOne 47 = .ok (.dup2, 1) := by decide +kernel
theorem dX0_comeOne_48 : decode cX0_comeOne 48 = .ok (.iaload, 1) := by decide +kernel
theorem dX0_comeOne_49 : decode cX0_comeOne 49 = .ok (.aload_n 0, 1) := by decide +kernel
theorem dX0_comeOne_50 : decode cX0_comeOne 50 = .ok (.getfield 9, 3) := by decide +kernel
theorem dX0_comeOne_53 : decode cX0_comeOne 53 = .ok (.iload_n 3, 1) := by decide +kernel
theorem dX0_comeOne_54 : decode cX0_comeOne 54 = .ok (.iaload, 1) := by decide +kernel
theorem dX0_comeOne_55 : decode cX0_comeOne 55 = .ok (.iload 5, 2) := by decide +kernel
theorem dX0_comeOne_57 : decode cX0_comeOne 57 = .ok (.imul, 1) := by decide +kernel
theorem dX0_comeOne_58 : decode cX0_comeOne 58 = .ok (.iadd, 1) := by decide +kernel
theorem dX0_comeOne_59 : decode cX0_comeOne 59 = .ok (.iastore, 1) := by decide +kernel
theorem dX0_comeOne_60 : decode cX0_comeOne 60 = .ok (.aload_n 0, 1) := by decide +kernel
theorem dX0_comeOne_61 : decode cX0_comeOne 61 = .ok (.getfield 9, 3) := by decide +kernel
theorem dX0_comeOne_64 : decode cX0_comeOne 64 = .ok (.iload_n 3, 1) := by decide +kernel
theorem dX0_comeOne_65 : decode cX0_comeOne 65 = .ok (.dup2, 1) := by decide +kernel
theorem dX0_comeOne_66 : decode cX0_comeOne 66 = .ok (.iaload, 1) := by decide +kernel
theorem dX0_comeOne_67 : decode cX0_comeOne 67 = .ok (.bipush 10, 2) := by decide +kernel
theorem dX0_comeOne_69 : decode cX0_comeOne 69 = .ok (.iload 5, 2) := by decide +kernel
theorem dX0_comeOne_71 : decode cX0_comeOne 71 = .ok (.isub, 1) := by decide +kernel
theorem dX0_comeOne_72 : decode cX0_comeOne 72 = .ok (.imul, 1) := by decide +kernel
theorem dX0_comeOne_73 : decode cX0_comeOne 73 = .ok (.iastore, 1) := by decide +kernel
theorem dX0_comeOne_74 : decode cX0_comeOne 74 = .ok (.iinc 3 (-1), 3) := by decide +kernel
theorem dX0_comeOne_77 : decode cX0_comeOne 77 = .ok (.goto (-74), 3) := by decide +kernel
theorem dX0_comeOne_80 : decode cX0_comeOne 80 = .ok (.return_, 1) := by decide +kernel
set_option maxRecDepth 20000 in
theorem ggX0_reduce_X0_commonDivisor : GoodIn wsX0_reduce wsX0_commonDivisor := goodIn_r _ [6] (by decide +kernel) (by decide +kernel)
set_option maxRecDepth 20000 in
theorem gX0_reduce_X0_commonDivisor : GoodIn wsX0_reduce (va_wsS RX0 52 yX0_commonDivisor wsX0_commonDivisor) := goodIn_app (goodIn_of _ (by decide +kernel)) ggX0_reduce_X0_commonDivisor
theorem dX0_reduce_0 : decode cX0_reduce 0 = .ok (.aload_n 0, 1) := by decide +kernel
theorem dX0_reduce_1 : decode cX0_reduce 1 = .ok (.getfield 19, 3) := by decide +kernel
theorem dX0_reduce_4 : decode cX0_reduce 4 = .ok (.aload_n 0, 1) := by decide +kernel
theorem dX0_reduce_5 : decode cX0_reduce 5 = .ok (.getfield 15, 3) := by decide +kernel
theorem dX0_reduce_8 : decode cX0_reduce 8 = .ok (.invokestatic 52, 3) := by decide +kernel
theorem dX0_reduce_11 : decode cX0_reduce 11 = .ok (.istore_n 1, 1) := by decide +kernel
theorem dX0_reduce_12 : decode cX0_reduce 12 = .ok (.iload_n 1, 1) := by decide +kernel
theorem dX0_reduce_13 : decode cX0_reduce 13 = .ok (.ifCond .le 23, 3) := by decide +kernel
theorem dX0_reduce_16 : decode cX0_reduce 16 = .ok (.aload_n 0, 1) := by decide +kernel
theorem dX0_reduce_17 : decode cX0_reduce 17 = .ok (.dup, 1) := by decide +kernel
theorem dX0_reduce_18 : decode cX0_reduce 18 = .ok (.getfield 15, 3) := by decide +kernel
theorem dX0_reduce_21 : decode cX0_reduce 21 = .ok (.iload_n 1, 1) := by decide +kernel
theorem dX0_reduce_22 : decode cX0_reduce 22 = .ok (.idiv, 1) := by decide +kernel
theorem dX0_reduce_23 : decode cX0_reduce 23 = .ok (.putfield 15, 3) := by decide +kernel
theorem dX0_reduce_26 : decode cX0_reduce 26 = .ok (.aload_n 0, 1) := by decide +kernel
theorem dX0_reduce_27 : decode cX0_reduce 27 = .ok (.dup, 1) := by decide +kernel
theorem dX0_reduce_28 : decode cX0_reduce 28 = .ok (.getfield 19, 3) := by decide +kernel
theorem dX0_reduce_31 : decode cX0_reduce 31 = .ok (.iload_n 1, 1) := by decide +kernel
theorem dX0_reduce_32 : decode cX0_reduce 32 = .ok (.idiv, 1) := by decide +kernel
theorem dX0_reduce_33 : decode cX0_reduce 33 = .ok (.putfield 19, 3) := by decide +kernel
theorem dX0_reduce_36 : decode cX0_reduce 36 = .ok (.return_, 1) := by decide +kernel
theorem dX0_commonDivisor_0 : decode cX0_commonDivisor 0 = .ok (.iload_n 0, 1) := by decide +kernel
theorem dX0_commonDivisor_1 : decode cX0_commonDivisor 1 = .ok (.istore_n 2, 1) := by decide +kernel
theorem dX0_commonDivisor_2 : decode cX0_commonDivisor 2 = .ok (.iload_n 1, 1) := by decide +kernel
theorem dX0_commonDivisor_3 : decode cX0_commonDivisor 3 = .ok (.istore_n 3, 1) := by decide +kernel
theorem dX0_commonDivisor_4 : decode cX0_commonDivisor 4 = .ok (.iconst 0, 1) := by decide +kernel
theorem dX0_commonDivisor_5 : decode cX0_commonDivisor 5 = .ok (.istore 4, 2) := by decide +kernel
theorem dX0_commonDivisor_7 : decode cX0_commonDivisor 7 = .ok (.iload 4, 2) := by decide +kernel
theorem dX0_commonDivisor_9 : decode cX0_commonDivisor 9 = .ok (.bipush 100, 2) := by decide +kernel
theorem dX0_commonDivisor_11 : decode cX0_commonDivisor 11 = .ok (.if_icmp .ge 23, 3) := by decide +kernel
theorem dX0_commonDivisor_14 : decode cX0_commonDivisor 14 = .ok (.iload_n 3, 1) := by decide +kernel
theorem dX0_commonDivisor_15 : decode cX0_commonDivisor 15 = .ok (.ifCond .eq 19, 3) := by decide +kernel
theorem dX0_commonDivisor_18 : decode cX0_commonDivisor 18 = .ok (.iload_n 2, 1) := by decide +kernel
theorem dX0_commonDivisor_19 : decode cX0_commonDivisor 19 = .ok (.iload_n 3, 1) := by decide +kernel
theorem dX0_commonDivisor_20 : decode cX0_commonDivisor 20 = .ok (.irem, 1) := by decide +kernel
theorem dX0_commonDivisor_21 : decode cX0_commonDivisor 21 = .ok (.istore 5, 2) := by decide +kernel
theorem dX0_commonDivisor_23 : decode cX0_commonDivisor 23 = .ok (.iload_n 3, 1) := by decide +kernel
theorem dX0_commonDivisor_24 : decode cX0_commonDivisor 24 = .ok (.istore_n 2, 1) := by decide +kernel
theorem dX0_commonDivisor_25 : decode cX0_commonDivisor 25 = .ok (.iload 5, 2) := by decide +kernel
theorem dX0_commonDivisor_27 : decode cX0_commonDivisor 27 = .ok (.istore_n 3, 1) := by decide +kernel
theorem dX0_commonDivisor_28 : decode cX0_commonDivisor 28 = .ok (.iinc 4 1, 3) := by decide +kernel
theorem dX0_commonDivisor_31 : decode cX0_commonDivisor 31 = .ok (.goto (-24), 3) := by decide +kernel
theorem dX0_commonDivisor_34 : decode cX0_commonDivisor 34 = .ok (.iload_n 2, 1) := by decide +kernel
theorem dX0_commonDivisor_35 : decode cX0_commonDivisor 35 = .ok (.ireturn, 1) := by decide +kernel
theorem dX1_init_0 : decode cX1_init 0 = .ok (.aload_n 0, 1) := by decide +kernel
theorem dX1_init_1 : decode cX1_init 1 = .ok (.invokespecial 1, 3) := by decide +kernel
theorem dX1_init_4 : decode cX1_init 4 = .ok (.aload_n 0, 1) := by decide +kernel
theorem dX1_init_5 : decode cX1_init 5 = .ok (.bipush 8, 2) := by decide +kernel
theorem dX1_init_7 : decode cX1_init 7 = .ok (.newarray .int, 2) := by decide +kernel
theorem dX1_init_9 : decode cX1_init 9 = .ok (.putfield 9, 3) := by decide +kernel
theorem dX1_init_12 : decode cX1_init 12 = .ok (.aload_n 0, 1) := by decide +kernel
theorem dX1_init_13 : decode cX1_init 13 = .ok (.bipush 8, 2) := by decide +kernel
theorem dX1_init_15 : decode cX1_init 15 = .ok (.newarray .int, 2) := by decide +kernel
theorem dX1_init_17 : decode cX1_init 17 = .ok (.putfield 13, 3) := by decide +kernel
theorem dX1_init_20 : decode cX1_init 20 = .ok (.aload_n 0, 1) := by decide +kernel
theorem dX1_init_21 : decode cX1_init 21 = .ok (.bipush 8, 2) := by decide +kernel
theorem dX1_init_23 : decode cX1_init 23 = .ok (.newarray .int, 2) := by decide +kernel
theorem dX1_init_25 : decode cX1_init 25 = .ok (.putfield 16, 3) := by decide +kernel
theorem dX1_init_28 : decode cX1_init 28 = .ok (.aload_n 0, 1) := by decide +kernel
theorem dX1_init_29 : decode cX1_init 29 = .ok (.bipush 8, 2) := by decide +kernel
theorem dX1_init_31 : decode cX1_init 31 = .ok (.newarray .int, 2) := by decide +kernel
theorem dX1_init_33 : decode cX1_init 33 = .ok (.putfield 19, 3) := by decide +kernel
theorem dX1_init_36 : decode cX1_init 36 = .ok (.aload_n 0, 1) := by decide +kernel
theorem dX1_init_37 : decode cX1_init 37 = .ok (.iconst 0, 1) := by decide +kernel
theorem dX1_init_38 : decode cX1_init 38 = .ok (.putfield 22, 3) := by decide +kernel
theorem dX1_init_41 : decode cX1_init 41 = .ok (.return_, 1) := by decide +kernel
set_option maxRecDepth 20000 in
theorem ggX1_note_X1_dropOldest : GoodIn wsX1_note wsX1_dropOldest := goodIn_r _ [10, 2, 3, 4, 5, 1, 11, 12, 9, 13, 14, 15, 16, 17, 18, 19, 20, 21, 22] (by decide +kernel) (by decide +kernel)
set_option maxRecDepth 20000 in
theorem gX1_note_X1_dropOldest : GoodIn wsX1_note (wsV RX1 26 RX1 yX1_dropOldest wsX1_dropOldest) := goodIn_app (goodIn_of _ (by decide +kernel)) ggX1_note_X1_dropOldest
theorem dX1_note_0 : decode cX1_note 0 = .ok (.aload_n 0, 1) := by decide +kernel
theorem dX1_note_1 : decode cX1_note 1 = .ok (.getfield 22, 3) := by decide +kernel
theorem dX1_note_4 : decode cX1_note 4 = .ok (.bipush 8, 2) := by decide +kernel
theorem dX1_note_6 : decode cX1_note 6 = .ok (.if_icmp .lt 7, 3) := by decide +kernel
theorem dX1_note_9 : decode cX1_note 9 = .ok (.aload_n 0, 1) := by decide +kernel
theorem dX1_note_10 : decode cX1_note 10 = .ok (.invokevirtual 26, 3) := by decide +kernel
theorem dX1_note_13 : decode cX1_note 13 = .ok (.aload_n 0, 1) := by decide +kernel
theorem dX1_note_14 : decode cX1_note 14 = .ok (.getfield 22, 3) := by decide +kernel
theorem dX1_note_17 : decode cX1_note 17 = .ok (.ifCond .lt 12, 3) := by decide +kernel
theorem dX1_note_20 : decode cX1_note 20 = .ok (.aload_n 0, 1) := by decide +kernel
theorem dX1_note_21 : decode cX1_note 21 = .ok (.getfield 22, 3) := by decide +kernel
theorem dX1_note_24 : decode cX1_note 24 = .ok (.bipush 8, 2) := by decide +kernel
theorem dX1_note_26 : decode cX1_note 26 = .ok (.if_icmp .lt 4, 3) := by decide +kernel
theorem dX1_note_29 : decode cX1_note 29 = .ok (.return_, 1) := by decide +kernel
theorem dX1_note_30 : decode cX1_note 30 = .ok (.aload_n 0, 1) := by decide +kernel
theorem dX1_note_31 : decode cX1_note 31 = .ok (.getfield 9, 3) := by decide +kernel
theorem dX1_note_34 : decode cX1_note 34 = .ok (.aload_n 0, 1) := by decide +kernel
theorem dX1_note_35 : decode cX1_note 35 = .ok (.getfield 22, 3) := by decide +kernel
theorem dX1_note_38 : decode cX1_note 38 = .ok (.iload_n 1, 1) := by decide +kernel
theorem dX1_note_39 : decode cX1_note 39 = .ok (.iastore, 1) := by decide +kernel
theorem dX1_note_40 : decode cX1_note 40 = .ok (.aload_n 0, 1) := by decide +kernel
theorem dX1_note_41 : decode cX1_note 41 = .ok (.getfield 13, 3) := by decide +kernel
theorem dX1_note_44 : decode cX1_note 44 = .ok (.aload_n 0, 1) := by decide +kernel
theorem dX1_note_45 : decode cX1_note 45 = .ok (.getfield 22, 3) := by decide +kernel
theorem dX1_note_48 : decode cX1_note 48 = .ok (.iload_n 2, 1) := by decide +kernel
theorem dX1_note_49 : decode cX1_note 49 = .ok (.iastore, 1) := by decide +kernel
theorem dX1_note_50 : decode cX1_note 50 = .ok (.aload_n 0, 1) := by decide +kernel
theorem dX1_note_51 : decode cX1_note 51 = .ok (.getfield 16, 3) := by decide +kernel
theorem dX1_note_54 : decode cX1_note 54 = .ok (.aload_n 0, 1) := by decide +kernel
theorem dX1_note_55 : decode cX1_note 55 = .ok (.getfield 22, 3) := by decide +kernel
theorem dX1_note_58 : decode cX1_note 58 = .ok (.iload_n 3, 1) := by decide +kernel
theorem dX1_note_59 : decode cX1_note 59 = .ok (.iastore, 1) := by decide +kernel
theorem dX1_note_60 : decode cX1_note 60 = .ok (.aload_n 0, 1) := by decide +kernel
theorem dX1_note_61 : decode cX1_note 61 = .ok (.getfield 19, 3) := by decide +kernel
theorem dX1_note_64 : decode cX1_note 64 = .ok (.aload_n 0, 1) := by decide +kernel
theorem dX1_note_65 : decode cX1_note 65 = .ok (.getfield 22, 3) := by decide +kernel
theorem dX1_note_68 : decode cX1_note 68 = .ok (.iload 4, 2) := by decide +kernel
theorem dX1_note_70 : decode cX1_note 70 = .ok (.iastore, 1) := by decide +kernel
theorem dX1_note_71 : decode cX1_note 71 = .ok (.aload_n 0, 1) := by decide +kernel
theorem dX1_note_72 : decode cX1_note 72 = .ok (.dup, 1) := by decide +kernel
theorem dX1_note_73 : decode cX1_note 73 = .ok (.getfield 22, 3) := by decide +kernel
theorem dX1_note_76 : decode cX1_note 76 = .ok (.iconst 1, 1) := by decide +kernel
theorem dX1_note_77 : decode cX1_note 77 = .ok (.iadd, 1) := by decide +kernel
theorem dX1_note_78 : decode cX1_note 78 = .ok (.putfield 22, 3) := by decide +kernel
theorem dX1_note_81 : decode cX1_note 81 = .ok (.return_, 1) := by decide +kernel
set_option maxRecDepth 20000 in
theorem ggX1_takeBackIn_X2_hasPerson : GoodIn wsX1_takeBackIn wsX2_hasPerson := goodIn_r _ [13, 14, 25, 26, 27, 28, 29, 30, 31, 32] (by decide +kernel) (by decide +kernel)
set_option maxRecDepth 20000 in
theorem gX1_takeBackIn_X2_hasPerson : GoodIn wsX1_takeBackIn (wsV RX1 29 RX2 yX2_hasPerson wsX2_hasPerson) := goodIn_app (goodIn_of _ (by decide +kernel)) ggX1_takeBackIn_X2_hasPerson
set_option maxRecDepth 20000 in
theorem ggX1_takeBackIn_X2_hasGate : GoodIn wsX1_takeBackIn wsX2_hasGate := goodIn_r _ [18, 19, 25, 26, 27, 28, 29, 30, 31, 32] (by decide +kernel) (by decide +kernel)
set_option maxRecDepth 20000 in
theorem gX1_takeBackIn_X2_hasGate : GoodIn wsX1_takeBackIn (wsV RX1 35 RX2 yX2_hasGate wsX2_hasGate) := goodIn_app (goodIn_of _ (by decide +kernel)) ggX1_takeBackIn_X2_hasGate
theorem dX1_takeBackIn_0 : decode cX1_takeBackIn 0 = .ok (.aload_n 0, 1) := by decide +kernel
theorem dX1_takeBackIn_1 : decode cX1_takeBackIn 1 = .ok (.getfield 22, 3) := by decide +kernel
theorem dX1_takeBackIn_4 : decode cX1_takeBackIn 4 = .ok (.iconst 1, 1) := by decide +kernel
theorem dX1_takeBackIn_5 : decode cX1_takeBackIn 5 = .ok (.if_icmp .lt 12, 3) := by decide +kernel
theorem dX1_takeBackIn_8 : decode cX1_takeBackIn 8 = .ok (.aload_n 0, 1) := by decide +kernel
theorem dX1_takeBackIn_9 : decode cX1_takeBackIn 9 = .ok (.getfield 22, 3) := by decide +kernel
theorem dX1_takeBackIn_12 : decode cX1_takeBackIn 12 = .ok (.bipush 8, 2) := by decide +kernel
theorem dX1_takeBackIn_14 : decode cX1_takeBackIn 14 = .ok (.if_icmp .le 4, 3) := by decide +kernel
theorem dX1_takeBackIn_17 : decode cX1_takeBackIn 17 = .ok (.return_, 1) := by decide +kernel
theorem dX1_takeBackIn_18 : decode cX1_takeBackIn 18 = .ok (.aload_n 0, 1) := by decide +kernel
theorem dX1_takeBackIn_19 : decode cX1_takeBackIn 19 = .ok (.dup, 1) := by decide +kernel
theorem dX1_takeBackIn_20 : decode cX1_takeBackIn 20 = .ok (.getfield 22, 3) := by decide +kernel
theorem dX1_takeBackIn_23 : decode cX1_takeBackIn 23 = .ok (.iconst 1, 1) := by decide +kernel
theorem dX1_takeBackIn_24 : decode cX1_takeBackIn 24 = .ok (.isub, 1) := by decide +kernel
theorem dX1_takeBackIn_25 : decode cX1_takeBackIn 25 = .ok (.putfield 22, 3) := by decide +kernel
theorem dX1_takeBackIn_28 : decode cX1_takeBackIn 28 = .ok (.aload_n 0, 1) := by decide +kernel
theorem dX1_takeBackIn_29 : decode cX1_takeBackIn 29 = .ok (.getfield 9, 3) := by decide +kernel
theorem dX1_takeBackIn_32 : decode cX1_takeBackIn 32 = .ok (.aload_n 0, 1) := by decide +kernel
theorem dX1_takeBackIn_33 : decode cX1_takeBackIn 33 = .ok (.getfield 22, 3) := by decide +kernel
theorem dX1_takeBackIn_36 : decode cX1_takeBackIn 36 = .ok (.iaload, 1) := by decide +kernel
theorem dX1_takeBackIn_37 : decode cX1_takeBackIn 37 = .ok (.istore_n 2, 1) := by decide +kernel
theorem dX1_takeBackIn_38 : decode cX1_takeBackIn 38 = .ok (.aload_n 0, 1) := by decide +kernel
theorem dX1_takeBackIn_39 : decode cX1_takeBackIn 39 = .ok (.getfield 13, 3) := by decide +kernel
theorem dX1_takeBackIn_42 : decode cX1_takeBackIn 42 = .ok (.aload_n 0, 1) := by decide +kernel
theorem dX1_takeBackIn_43 : decode cX1_takeBackIn 43 = .ok (.getfield 22, 3) := by decide +kernel
theorem dX1_takeBackIn_46 : decode cX1_takeBackIn 46 = .ok (.iaload, 1) := by decide +kernel
theorem dX1_takeBackIn_47 : decode cX1_takeBackIn 47 = .ok (.istore_n 3, 1) := by decide +kernel
theorem dX1_takeBackIn_48 : decode cX1_takeBackIn 48 = .ok (.aload_n 1, 1) := by decide +kernel
theorem dX1_takeBackIn_49 : decode cX1_takeBackIn 49 = .ok (.iload_n 2, 1) := by decide +kernel
theorem dX1_takeBackIn_50 : decode cX1_takeBackIn 50 = .ok (.invokevirtual 29, 3) := by decide +kernel
theorem dX1_takeBackIn_53 : decode cX1_takeBackIn 53 = .ok (.ifCond .eq 54, 3) := by decide +kernel
theorem dX1_takeBackIn_56 : decode cX1_takeBackIn 56 = .ok (.aload_n 1, 1) := by decide +kernel
theorem dX1_takeBackIn_57 : decode cX1_takeBackIn 57 = .ok (.iload_n 3, 1) := by decide +kernel
theorem dX1_takeBackIn_58 : decode cX1_takeBackIn 58 = .ok (.invokevirtual 35, 3) := by decide +kernel
theorem dX1_takeBackIn_61 : decode cX1_takeBackIn 61 = .ok (.ifCond .eq 46, 3) := by decide +kernel
theorem dX1_takeBackIn_64 : decode cX1_takeBackIn 64 = .ok (.aload_n 1, 1) := by decide +kernel
theorem dX1_takeBackIn_65 : decode cX1_takeBackIn 65 = .ok (.getfield 38, 3) := by decide +kernel
theorem dX1_takeBackIn_68 : decode cX1_takeBackIn 68 = .ok (.iload_n 2, 1) := by decide +kernel
theorem dX1_takeBackIn_69 : decode cX1_takeBackIn 69 = .ok (.aload_n 0, 1) := by decide +kernel
theorem dX1_takeBackIn_70 : decode cX1_takeBackIn 70 = .ok (.getfield 16, 3) := by decide +kernel
theorem dX1_takeBackIn_73 : decode cX1_takeBackIn 73 = .ok (.aload_n 0, 1) := by decide +kernel
theorem dX1_takeBackIn_74 : decode cX1_takeBackIn 74 = .ok (.getfield 22, 3) := by decide +kernel
theorem dX1_takeBackIn_77 : decode cX1_takeBackIn 77 = .ok (.iaload, 1) := by decide +kernel
theorem dX1_takeBackIn_78 : decode cX1_takeBackIn 78 = .ok (.iastore, 1) := by decide +kernel
theorem dX1_takeBackIn_79 : decode cX1_takeBackIn 79 = .ok (.aload_n 1, 1) := by decide +kernel
theorem dX1_takeBackIn_80 : decode cX1_takeBackIn 80 = .ok (.getfield 41, 3) := by decide +kernel
theorem dX1_takeBackIn_83 : decode cX1_takeBackIn 83 = .ok (.iload_n 3, 1) := by decide +kernel
theorem dX1_takeBackIn_84 : decode cX1_takeBackIn 84 = .ok (.dup2, 1) := by decide +kernel
theorem dX1_takeBackIn_85 : decode cX1_takeBackIn 85 = .ok (.iaload, 1) := by decide +kernel
theorem dX1_takeBackIn_86 : decode cX1_takeBackIn 86 = .ok (.iconst 1, 1) := by decide +kernel
theorem dX1_takeBackIn_87 : decode cX1_takeBackIn 87 = .ok (.isub, 1) := by decide +kernel
theorem dX1_takeBackIn_88 : decode cX1_takeBackIn 88 = .ok (.iastore, 1) := by decide +kernel
theorem dX1_takeBackIn_89 : decode cX1_takeBackIn 89 = .ok (.aload_n 1, 1) := by decide +kernel
theorem dX1_takeBackIn_90 : decode cX1_takeBackIn 90 = .ok (.dup, 1) := by decide +kernel
theorem dX1_takeBackIn_91 : decode cX1_takeBackIn 91 = .ok (.getfield 44, 3) := by decide +kernel
theorem dX1_takeBackIn_94 : decode cX1_takeBackIn 94 = .ok (.aload_n 0, 1) := by decide +kernel
theorem dX1_takeBackIn_95 : decode cX1_takeBackIn 95 = .ok (.getfield 19, 3) := by decide +kernel
theorem dX1_takeBackIn_98 : decode cX1_takeBackIn 98 = .ok (.aload_n 0, 1) := by decide +kernel
theorem dX1_takeBackIn_99 : decode cX1_takeBackIn 99 = .ok (.getfield 22, 3) := by decide +kernel
theorem dX1_takeBackIn_102 : decode cX1_takeBackIn 102 = .ok (.iaload, 1) := by decide +kernel
theorem dX1_takeBackIn_103 : decode cX1_takeBackIn 103 = .ok (.isub, 1) := by decide +kernel
theorem dX1_takeBackIn_104 : decode cX1_takeBackIn 104 = .ok (.putfield 44, 3) := by decide +kernel
theorem dX1_takeBackIn_107 : decode cX1_takeBackIn 107 = .ok (.return_, 1) := by decide +kernel
set_option maxRecDepth 20000 in
theorem ggX1_dropOldest_X1_shiftDown : GoodIn wsX1_dropOldest wsX1_shiftDown := goodIn_r _ [9, 10, 11, 12, 13] (by decide +kernel) (by decide +kernel)
set_option maxRecDepth 20000 in
theorem gX1_dropOldest_X1_shiftDown : GoodIn wsX1_dropOldest (va_wsS RX1 47 yX1_shiftDown wsX1_shiftDown) := goodIn_app (goodIn_of _ (by decide +kernel)) ggX1_dropOldest_X1_shiftDown
theorem dX1_dropOldest_0 : decode cX1_dropOldest 0 = .ok (.aload_n 0, 1) := by decide +kernel
theorem dX1_dropOldest_1 : decode cX1_dropOldest 1 = .ok (.getfield 9, 3) := by decide +kernel
theorem dX1_dropOldest_4 : decode cX1_dropOldest 4 = .ok (.invokestatic 47, 3) := by decide +kernel
theorem dX1_dropOldest_7 : decode cX1_dropOldest 7 = .ok (.aload_n 0, 1) := by decide +kernel
theorem dX1_dropOldest_8 : decode cX1_dropOldest 8 = .ok (.getfield 13, 3) := by decide +kernel
theorem dX1_dropOldest_11 : decode cX1_dropOldest 11 = .ok (.invokestatic 47, 3) := by decide +kernel
theorem dX1_dropOldest_14 : decode cX1_dropOldest 14 = .ok (.aload_n 0, 1) := by decide +kernel
theorem dX1_dropOldest_15 : decode cX1_dropOldest 15 = .ok (.getfield 16, 3) := by decide +kernel
theorem dX1_dropOldest_18 : decode cX1_dropOldest 18 = .ok (.invokestatic 47, 3) := by decide +kernel
theorem dX1_dropOldest_21 : decode cX1_dropOldest 21 = .ok (.aload_n 0, 1) := by decide +kernel
theorem dX1_dropOldest_22 : decode cX1_dropOldest 22 = .ok (.getfield 19, 3) := by decide +kernel
theorem dX1_dropOldest_25 : decode cX1_dropOldest 25 = .ok (.invokestatic 47, 3) := by decide +kernel
theorem dX1_dropOldest_28 : decode cX1_dropOldest 28 = .ok (.aload_n 0, 1) := by decide +kernel
theorem dX1_dropOldest_29 : decode cX1_dropOldest 29 = .ok (.bipush 7, 2) := by decide +kernel
theorem dX1_dropOldest_31 : decode cX1_dropOldest 31 = .ok (.putfield 22, 3) := by decide +kernel
theorem dX1_dropOldest_34 : decode cX1_dropOldest 34 = .ok (.return_, 1) := by decide +kernel
theorem dX1_shiftDown_0 : decode cX1_shiftDown 0 = .ok (.aload_n 0, 1) := by decide +kernel
theorem dX1_shiftDown_1 : decode cX1_shiftDown 1 = .ok (.iconst 1, 1) := by decide +kernel
theorem dX1_shiftDown_2 : decode cX1_shiftDown 2 = .ok (.aload_n 0, 1) := by decide +kernel
theorem dX1_shiftDown_3 : decode cX1_shiftDown 3 = .ok (.iconst 0, 1) := by decide +kernel
theorem dX1_shiftDown_4 : decode cX1_shiftDown 4 = .ok (.bipush 7, 2) := by decide +kernel
theorem dX1_shiftDown_6 : decode cX1_shiftDown 6 = .ok (.invokestatic 51, 3) := by decide +kernel
theorem dX1_shiftDown_9 : decode cX1_shiftDown 9 = .ok (.return_, 1) := by decide +kernel
theorem dX2_init_0 : decode cX2_init 0 = .ok (.aload_n 0, 1) := by decide +kernel
theorem dX2_init_1 : decode cX2_init 1 = .ok (.invokespecial 3, 3) := by decide +kernel
theorem dX2_init_4 : decode cX2_init 4 = .ok (.aload_n 0, 1) := by decide +kernel
theorem dX2_init_5 : decode cX2_init 5 = .ok (.iconst 5, 1) := by decide +kernel
theorem dX2_init_6 : decode cX2_init 6 = .ok (.newarray .int, 2) := by decide +kernel
theorem dX2_init_8 : decode cX2_init 8 = .ok (.putfield 9, 3) := by decide +kernel
theorem dX2_init_11 : decode cX2_init 11 = .ok (.aload_n 0, 1) := by decide +kernel
theorem dX2_init_12 : decode cX2_init 12 = .ok (.iconst 5, 1) := by decide +kernel
theorem dX2_init_13 : decode cX2_init 13 = .ok (.newarray .int, 2) := by decide +kernel
theorem dX2_init_15 : decode cX2_init 15 = .ok (.putfield 15, 3) := by decide +kernel
theorem dX2_init_18 : decode cX2_init 18 = .ok (.aload_n 0, 1) := by decide +kernel
theorem dX2_init_19 : decode cX2_init 19 = .ok (.iconst 5, 1) := by decide +kernel
theorem dX2_init_20 : decode cX2_init 20 = .ok (.newarray .int, 2) := by decide +kernel
theorem dX2_init_22 : decode cX2_init 22 = .ok (.putfield 18, 3) := by decide +kernel
theorem dX2_init_25 : decode cX2_init 25 = .ok (.aload_n 0, 1) := by decide +kernel
theorem dX2_init_26 : decode cX2_init 26 = .ok (.iconst 5, 1) := by decide +kernel
theorem dX2_init_27 : decode cX2_init 27 = .ok (.newarray .int, 2) := by decide +kernel
theorem dX2_init_29 : decode cX2_init 29 = .ok (.putfield 21, 3) := by decide +kernel
theorem dX2_init_32 : decode cX2_init 32 = .ok (.aload_n 0, 1) := by decide +kernel
theorem dX2_init_33 : decode cX2_init 33 = .ok (.iconst 0, 1) := by decide +kernel
theorem dX2_init_34 : decode cX2_init 34 = .ok (.putfield 24, 3) := by decide +kernel
theorem dX2_init_37 : decode cX2_init 37 = .ok (.aload_n 0, 1) := by decide +kernel
theorem dX2_init_38 : decode cX2_init 38 = .ok (.iconst 3, 1) := by decide +kernel
theorem dX2_init_39 : decode cX2_init 39 = .ok (.newarray .int, 2) := by decide +kernel
theorem dX2_init_41 : decode cX2_init 41 = .ok (.putfield 28, 3) := by decide +kernel
theorem dX2_init_44 : decode cX2_init 44 = .ok (.aload_n 0, 1) := by decide +kernel
theorem dX2_init_45 : decode cX2_init 45 = .ok (.iconst 2, 1) := by decide +kernel
theorem dX2_init_46 : decode cX2_init 46 = .ok (.putfield 31, 3) := by decide +kernel
theorem dX2_init_49 : decode cX2_init 49 = .ok (.aload_n 0, 1) := by decide +kernel
theorem dX2_init_50 : decode cX2_init 50 = .ok (.iconst 0, 1) := by decide +kernel
theorem dX2_init_51 : decode cX2_init 51 = .ok (.putfield 34, 3) := by decide +kernel
theorem dX2_init_54 : decode cX2_init 54 = .ok (.return_, 1) := by decide +kernel
set_option maxRecDepth 20000 in
theorem ggX2_clear_X2_gather : GoodIn wsX2_clear wsX2_gather := goodIn_r _ [7, 8, 9, 10, 11, 12, 13, 14, 15, 16, 17, 18, 19, 20, 21, 22, 23, 24, 25, 26, 27, 28] (by decide +kernel) (by decide +kernel)
set_option maxRecDepth 20000 in
theorem gX2_clear_X2_gather : GoodIn wsX2_clear (wsV RX2 37 RX2 yX2_gather wsX2_gather) := goodIn_app (goodIn_of _ (by decide +kernel)) ggX2_clear_X2_gather
theorem dX2_clear_0 : decode cX2_clear 0 = .ok (.aload_n 0, 1) := by decide +kernel
theorem dX2_clear_1 : decode cX2_clear 1 = .ok (.iconst 0, 1) := by decide +kernel
theorem dX2_clear_2 : decode cX2_clear 2 = .ok (.putfield 24, 3) := by decide +kernel
theorem dX2_clear_5 : decode cX2_clear 5 = .ok (.aload_n 0, 1) := by decide +kernel
theorem dX2_clear_6 : decode cX2_clear 6 = .ok (.iconst 0, 1) := by decide +kernel
theorem dX2_clear_7 : decode cX2_clear 7 = .ok (.putfield 34, 3) := by decide +kernel
theorem dX2_clear_10 : decode cX2_clear 10 = .ok (.aload_n 0, 1) := by decide +kernel
theorem dX2_clear_11 : decode cX2_clear 11 = .ok (.iconst 2, 1) := by decide +kernel
theorem dX2_clear_12 : decode cX2_clear 12 = .ok (.invokevirtual 37, 3) := by decide +kernel
theorem dX2_clear_15 : decode cX2_clear 15 = .ok (.return_, 1) := by decide +kernel
set_option maxRecDepth 20000 in
theorem ggX2_gather_J7_fill_53178 : GoodIn wsX2_gather wsJ7_fill_53178 := goodIn_r _ [13] (by decide +kernel) (by decide +kernel)
set_option maxRecDepth 20000 in
theorem gX2_gather_J7_fill_53178 : GoodIn wsX2_gather (va_wsS RX2 50 yJ7_fill_53178 wsJ7_fill_53178) := goodIn_app (goodIn_of _ (by decide +kernel)) ggX2_gather_J7_fill_53178
theorem dX2_gather_0 : decode cX2_gather 0 = .ok (.aload_n 0, 1) := by decide +kernel
theorem dX2_gather_1 : decode cX2_gather 1 = .ok (.iconst 1, 1) := by decide +kernel
theorem dX2_gather_2 : decode cX2_gather 2 = .ok (.iload_n 1, 1) := by decide +kernel
theorem dX2_gather_3 : decode cX2_gather 3 = .ok (.iconst 3, 1) := by decide +kernel
theorem dX2_gather_4 : decode cX2_gather 4 = .ok (.invokestatic 41, 3) := by decide +kernel
theorem dX2_gather_7 : decode cX2_gather 7 = .ok (.invokestatic 47, 3) := by decide +kernel
theorem dX2_gather_10 : decode cX2_gather 10 = .ok (.putfield 31, 3) := by decide +kernel
theorem dX2_gather_13 : decode cX2_gather 13 = .ok (.aload_n 0, 1) := by decide +kernel
theorem dX2_gather_14 : decode cX2_gather 14 = .ok (.getfield 28, 3) := by decide +kernel
theorem dX2_gather_17 : decode cX2_gather 17 = .ok (.iconst 0, 1) := by decide +kernel
theorem dX2_gather_18 : decode cX2_gather 18 = .ok (.invokestatic 50, 3) := by decide +kernel
theorem dX2_gather_21 : decode cX2_gather 21 = .ok (.return_, 1) := by decide +kernel
set_option maxRecDepth 20000 in
theorem ggX2_addGate_X7_isCourt : GoodIn wsX2_addGate wsX7_isCourt := goodIn_r _ [8] (by decide +kernel) (by decide +kernel)
set_option maxRecDepth 20000 in
theorem gX2_addGate_X7_isCourt_n56 : GoodIn wsX2_addGate (wsX7_isCourt) := ggX2_addGate_X7_isCourt
theorem dX2_addGate_0 : decode cX2_addGate 0 = .ok (.aload_n 0, 1) := by decide +kernel
theorem dX2_addGate_1 : decode cX2_addGate 1 = .ok (.getfield 24, 3) := by decide +kernel
theorem dX2_addGate_4 : decode cX2_addGate 4 = .ok (.iconst 5, 1) := by decide +kernel
theorem dX2_addGate_5 : decode cX2_addGate 5 = .ok (.if_icmp .ge 22, 3) := by decide +kernel
theorem dX2_addGate_8 : decode cX2_addGate 8 = .ok (.iload_n 1, 1) := by decide +kernel
theorem dX2_addGate_9 : decode cX2_addGate 9 = .ok (.invokestatic 56, 3) := by decide +kernel
theorem dX2_addGate_12 : decode cX2_addGate 12 = .ok (.ifCond .eq 15, 3) := by decide +kernel
theorem dX2_addGate_15 : decode cX2_addGate 15 = .ok (.iload_n 2, 1) := by decide +kernel
theorem dX2_addGate_16 : decode cX2_addGate 16 = .ok (.invokestatic 56, 3) := by decide +kernel
theorem dX2_addGate_19 : decode cX2_addGate 19 = .ok (.ifCond .eq 8, 3) := by decide +kernel
theorem dX2_addGate_22 : decode cX2_addGate 22 = .ok (.iload_n 1, 1) := by decide +kernel
theorem dX2_addGate_23 : decode cX2_addGate 23 = .ok (.iload_n 2, 1) := by decide +kernel
theorem dX2_addGate_24 : decode cX2_addGate 24 = .ok (.if_icmp .ne 5, 3) := by decide +kernel
theorem dX2_addGate_27 : decode cX2_addGate 27 = .ok (.iconst 0, 1) := by decide +kernel
theorem dX2_addGate_28 : decode cX2_addGate 28 = .ok (.ireturn, 1) := by decide +kernel
theorem dX2_addGate_29 : decode cX2_addGate 29 = .ok (.iload_n 3, 1) := by decide +kernel
theorem dX2_addGate_30 : decode cX2_addGate 30 = .ok (.ifCond .lt 25, 3) := by decide +kernel
theorem dX2_addGate_33 : decode cX2_addGate 33 = .ok (.iload_n 3, 1) := by decide +kernel
theorem dX2_addGate_34 : decode cX2_addGate 34 = .ok (.iconst 5, 1) := by decide +kernel
theorem dX2_addGate_35 : decode cX2_addGate 35 = .ok (.if_icmp .ge 20, 3) := by decide +kernel
theorem dX2_addGate_38 : decode cX2_addGate 38 = .ok (.iload_n 3, 1) := by decide +kernel
theorem dX2_addGate_39 : decode cX2_addGate 39 = .ok (.iconst 3, 1) := by decide +kernel
theorem dX2_addGate_40 : decode cX2_addGate 40 = .ok (.if_icmp .ne 10, 3) := by decide +kernel
theorem dX2_addGate_43 : decode cX2_addGate 43 = .ok (.aload_n 0, 1) := by decide +kernel
theorem dX2_addGate_44 : decode cX2_addGate 44 = .ok (.getfield 24, 3) := by decide +kernel
theorem dX2_addGate_47 : decode cX2_addGate 47 = .ok (.ifCond .eq 8, 3) := by decide +kernel
theorem dX2_addGate_50 : decode cX2_addGate 50 = .ok (.iload 4, 2) := by decide +kernel
theorem dX2_addGate_52 : decode cX2_addGate 52 = .ok (.ifCond .ge 5, 3) := by decide +kernel
theorem dX2_addGate_55 : decode cX2_addGate 55 = .ok (.iconst 0, 1) := by decide +kernel
theorem dX2_addGate_56 : decode cX2_addGate 56 = .ok (.ireturn, 1) := by decide +kernel
theorem dX2_addGate_57 : decode cX2_addGate 57 = .ok (.aload_n 0, 1) := by decide +kernel
theorem dX2_addGate_58 : decode cX2_addGate 58 = .ok (.getfield 9, 3) := by decide +kernel
theorem dX2_addGate_61 : decode cX2_addGate 61 = .ok (.aload_n 0, 1) := by decide +kernel
theorem dX2_addGate_62 : decode cX2_addGate 62 = .ok (.getfield 24, 3) := by decide +kernel
theorem dX2_addGate_65 : decode cX2_addGate 65 = .ok (.iload_n 1, 1) := by decide +kernel
theorem dX2_addGate_66 : decode cX2_addGate 66 = .ok (.iastore, 1) := by decide +kernel
theorem dX2_addGate_67 : decode cX2_addGate 67 = .ok (.aload_n 0, 1) := by decide +kernel
theorem dX2_addGate_68 : decode cX2_addGate 68 = .ok (.getfield 15, 3) := by decide +kernel
theorem dX2_addGate_71 : decode cX2_addGate 71 = .ok (.aload_n 0, 1) := by decide +kernel
theorem dX2_addGate_72 : decode cX2_addGate 72 = .ok (.getfield 24, 3) := by decide +kernel
theorem dX2_addGate_75 : decode cX2_addGate 75 = .ok (.iload_n 2, 1) := by decide +kernel
theorem dX2_addGate_76 : decode cX2_addGate 76 = .ok (.iastore, 1) := by decide +kernel
theorem dX2_addGate_77 : decode cX2_addGate 77 = .ok (.aload_n 0, 1) := by decide +kernel
theorem dX2_addGate_78 : decode cX2_addGate 78 = .ok (.getfield 18, 3) := by decide +kernel
theorem dX2_addGate_81 : decode cX2_addGate 81 = .ok (.aload_n 0, 1) := by decide +kernel
theorem dX2_addGate_82 : decode cX2_addGate 82 = .ok (.getfield 24, 3) := by decide +kernel
theorem dX2_addGate_85 : decode cX2_addGate 85 = .ok (.iload_n 3, 1) := by decide +kernel
theorem dX2_addGate_86 : decode cX2_addGate 86 = .ok (.iastore, 1) := by decide +kernel
theorem dX2_addGate_87 : decode cX2_addGate 87 = .ok (.aload_n 0, 1) := by decide +kernel
theorem dX2_addGate_88 : decode cX2_addGate 88 = .ok (.getfield 21, 3) := by decide +kernel
theorem dX2_addGate_91 : decode cX2_addGate 91 = .ok (.aload_n 0, 1) := by decide +kernel
theorem dX2_addGate_92 : decode cX2_addGate 92 = .ok (.getfield 24, 3) := by decide +kernel
theorem dX2_addGate_95 : decode cX2_addGate 95 = .ok (.iload 4, 2) := by decide +kernel
theorem dX2_addGate_97 : decode cX2_addGate 97 = .ok (.iastore, 1) := by decide +kernel
theorem dX2_addGate_98 : decode cX2_addGate 98 = .ok (.aload_n 0, 1) := by decide +kernel
theorem dX2_addGate_99 : decode cX2_addGate 99 = .ok (.dup, 1) := by decide +kernel
theorem dX2_addGate_100 : decode cX2_addGate 100 = .ok (.getfield 24, 3) := by decide +kernel
theorem dX2_addGate_103 : decode cX2_addGate 103 = .ok (.iconst 1, 1) := by decide +kernel
theorem dX2_addGate_104 : decode cX2_addGate 104 = .ok (.iadd, 1) := by decide +kernel
theorem dX2_addGate_105 : decode cX2_addGate 105 = .ok (.putfield 24, 3) := by decide +kernel
theorem dX2_addGate_108 : decode cX2_addGate 108 = .ok (.iconst 1, 1) := by decide +kernel
theorem dX2_addGate_109 : decode cX2_addGate 109 = .ok (.ireturn, 1) := by decide +kernel
theorem dX2_copyFrom_0 : decode cX2_copyFrom 0 = .ok (.aload_n 1, 1) := by decide +kernel
theorem dX2_copyFrom_1 : decode cX2_copyFrom 1 = .ok (.getfield 9, 3) := by decide +kernel
theorem dX2_copyFrom_4 : decode cX2_copyFrom 4 = .ok (.iconst 0, 1) := by decide +kernel
theorem dX2_copyFrom_5 : decode cX2_copyFrom 5 = .ok (.aload_n 0, 1) := by decide +kernel
theorem dX2_copyFrom_6 : decode cX2_copyFrom 6 = .ok (.getfield 9, 3) := by decide +kernel
theorem dX2_copyFrom_9 : decode cX2_copyFrom 9 = .ok (.iconst 0, 1) := by decide +kernel
theorem dX2_copyFrom_10 : decode cX2_copyFrom 10 = .ok (.iconst 5, 1) := by decide +kernel
theorem dX2_copyFrom_11 : decode cX2_copyFrom 11 = .ok (.invokestatic 60, 3) := by decide +kernel
theorem dX2_copyFrom_14 : decode cX2_copyFrom 14 = .ok (.aload_n 1, 1) := by decide +kernel
theorem dX2_copyFrom_15 : decode cX2_copyFrom 15 = .ok (.getfield 15, 3) := by decide +kernel
theorem dX2_copyFrom_18 : decode cX2_copyFrom 18 = .ok (.iconst 0, 1) := by decide +kernel
theorem dX2_copyFrom_19 : decode cX2_copyFrom 19 = .ok (.aload_n 0, 1) := by decide +kernel
theorem dX2_copyFrom_20 : decode cX2_copyFrom 20 = .ok (.getfield 15, 3) := by decide +kernel
theorem dX2_copyFrom_23 : decode cX2_copyFrom 23 = .ok (.iconst 0, 1) := by decide +kernel
theorem dX2_copyFrom_24 : decode cX2_copyFrom 24 = .ok (.iconst 5, 1) := by decide +kernel
theorem dX2_copyFrom_25 : decode cX2_copyFrom 25 = .ok (.invokestatic 60, 3) := by decide +kernel
theorem dX2_copyFrom_28 : decode cX2_copyFrom 28 = .ok (.aload_n 1, 1) := by decide +kernel
theorem dX2_copyFrom_29 : decode cX2_copyFrom 29 = .ok (.getfield 18, 3) := by decide +kernel
theorem dX2_copyFrom_32 : decode cX2_copyFrom 32 = .ok (.iconst 0, 1) := by decide +kernel
theorem dX2_copyFrom_33 : decode cX2_copyFrom 33 = .ok (.aload_n 0, 1) := by decide +kernel
theorem dX2_copyFrom_34 : decode cX2_copyFrom 34 = .ok (.getfield 18, 3) := by decide +kernel
theorem dX2_copyFrom_37 : decode cX2_copyFrom 37 = .ok (.iconst 0, 1) := by decide +kernel
theorem dX2_copyFrom_38 : decode cX2_copyFrom 38 = .ok (.iconst 5, 1) := by decide +kernel
theorem dX2_copyFrom_39 : decode cX2_copyFrom 39 = .ok (.invokestatic 60, 3) := by decide +kernel
theorem dX2_copyFrom_42 : decode cX2_copyFrom 42 = .ok (.aload_n 1, 1) := by decide +kernel
theorem dX2_copyFrom_43 : decode cX2_copyFrom 43 = .ok (.getfield 21, 3) := by decide +kernel
theorem dX2_copyFrom_46 : decode cX2_copyFrom 46 = .ok (.iconst 0, 1) := by decide +kernel
theorem dX2_copyFrom_47 : decode cX2_copyFrom 47 = .ok (.aload_n 0, 1) := by decide +kernel
theorem dX2_copyFrom_48 : decode cX2_copyFrom 48 = .ok (.getfield 21, 3) := by decide +kernel
theorem dX2_copyFrom_51 : decode cX2_copyFrom 51 = .ok (.iconst 0, 1) := by decide +kernel
theorem dX2_copyFrom_52 : decode cX2_copyFrom 52 = .ok (.iconst 5, 1) := by decide +kernel
theorem dX2_copyFrom_53 : decode cX2_copyFrom 53 = .ok (.invokestatic 60, 3) := by decide +kernel
theorem dX2_copyFrom_56 : decode cX2_copyFrom 56 = .ok (.aload_n 1, 1) := by decide +kernel
theorem dX2_copyFrom_57 : decode cX2_copyFrom 57 = .ok (.getfield 28, 3) := by decide +kernel
theorem dX2_copyFrom_60 : decode cX2_copyFrom 60 = .ok (.iconst 0, 1) := by decide +kernel
theorem dX2_copyFrom_61 : decode cX2_copyFrom 61 = .ok (.aload_n 0, 1) := by decide +kernel
theorem dX2_copyFrom_62 : decode cX2_copyFrom 62 = .ok (.getfield 28, 3) := by decide +kernel
theorem dX2_copyFrom_65 : decode cX2_copyFrom 65 = .ok (.iconst 0, 1) := by decide +kernel
theorem dX2_copyFrom_66 : decode cX2_copyFrom 66 = .ok (.iconst 3, 1) := by decide +kernel
theorem dX2_copyFrom_67 : decode cX2_copyFrom 67 = .ok (.invokestatic 60, 3) := by decide +kernel
theorem dX2_copyFrom_70 : decode cX2_copyFrom 70 = .ok (.aload_n 0, 1) := by decide +kernel
theorem dX2_copyFrom_71 : decode cX2_copyFrom 71 = .ok (.aload_n 1, 1) := by decide +kernel
theorem dX2_copyFrom_72 : decode cX2_copyFrom 72 = .ok (.getfield 24, 3) := by decide +kernel
theorem dX2_copyFrom_75 : decode cX2_copyFrom 75 = .ok (.putfield 24, 3) := by decide +kernel
theorem dX2_copyFrom_78 : decode cX2_copyFrom 78 = .ok (.aload_n 0, 1) := by decide +kernel
theorem dX2_copyFrom_79 : decode cX2_copyFrom 79 = .ok (.aload_n 1, 1) := by decide +kernel
theorem dX2_copyFrom_80 : decode cX2_copyFrom 80 = .ok (.getfield 31, 3) := by decide +kernel
theorem dX2_copyFrom_83 : decode cX2_copyFrom 83 = .ok (.putfield 31, 3) := by decide +kernel
theorem dX2_copyFrom_86 : decode cX2_copyFrom 86 = .ok (.aload_n 0, 1) := by decide +kernel
theorem dX2_copyFrom_87 : decode cX2_copyFrom 87 = .ok (.aload_n 1, 1) := by decide +kernel
theorem dX2_copyFrom_88 : decode cX2_copyFrom 88 = .ok (.getfield 34, 3) := by decide +kernel
theorem dX2_copyFrom_91 : decode cX2_copyFrom 91 = .ok (.putfield 34, 3) := by decide +kernel
theorem dX2_copyFrom_94 : decode cX2_copyFrom 94 = .ok (.return_, 1) := by decide +kernel
theorem dX2_hasGate_0 : decode cX2_hasGate 0 = .ok (.iload_n 1, 1) := by decide +kernel
theorem dX2_hasGate_1 : decode cX2_hasGate 1 = .ok (.ifCond .lt 20, 3) := by decide +kernel
theorem dX2_hasGate_4 : decode cX2_hasGate 4 = .ok (.iload_n 1, 1) := by decide +kernel
theorem dX2_hasGate_5 : decode cX2_hasGate 5 = .ok (.aload_n 0, 1) := by decide +kernel
theorem dX2_hasGate_6 : decode cX2_hasGate 6 = .ok (.getfield 24, 3) := by decide +kernel
theorem dX2_hasGate_9 : decode cX2_hasGate 9 = .ok (.if_icmp .ge 12, 3) := by decide +kernel
theorem dX2_hasGate_12 : decode cX2_hasGate 12 = .ok (.iload_n 1, 1) := by decide +kernel
theorem dX2_hasGate_13 : decode cX2_hasGate 13 = .ok (.iconst 5, 1) := by decide +kernel
theorem dX2_hasGate_14 : decode cX2_hasGate 14 = .ok (.if_icmp .ge 7, 3) := by decide +kernel
theorem dX2_hasGate_17 : decode cX2_hasGate 17 = .ok (.iconst 1, 1) := by decide +kernel
theorem dX2_hasGate_18 : decode cX2_hasGate 18 = .ok (.goto 4, 3) := by decide +kernel
theorem dX2_hasGate_21 : decode cX2_hasGate 21 = .ok (.iconst 0, 1) := by decide +kernel
theorem dX2_hasGate_22 : decode cX2_hasGate 22 = .ok (.ireturn, 1) := by decide +kernel
theorem dX2_hasPerson_0 : decode cX2_hasPerson 0 = .ok (.iload_n 1, 1) := by decide +kernel
theorem dX2_hasPerson_1 : decode cX2_hasPerson 1 = .ok (.ifCond .lt 20, 3) := by decide +kernel
theorem dX2_hasPerson_4 : decode cX2_hasPerson 4 = .ok (.iload_n 1, 1) := by decide +kernel
theorem dX2_hasPerson_5 : decode cX2_hasPerson 5 = .ok (.aload_n 0, 1) := by decide +kernel
theorem dX2_hasPerson_6 : decode cX2_hasPerson 6 = .ok (.getfield 31, 3) := by decide +kernel
theorem dX2_hasPerson_9 : decode cX2_hasPerson 9 = .ok (.if_icmp .ge 12, 3) := by decide +kernel
theorem dX2_hasPerson_12 : decode cX2_hasPerson 12 = .ok (.iload_n 1, 1) := by decide +kernel
theorem dX2_hasPerson_13 : decode cX2_hasPerson 13 = .ok (.iconst 3, 1) := by decide +kernel
theorem dX2_hasPerson_14 : decode cX2_hasPerson 14 = .ok (.if_icmp .ge 7, 3) := by decide +kernel
theorem dX2_hasPerson_17 : decode cX2_hasPerson 17 = .ok (.iconst 1, 1) := by decide +kernel
theorem dX2_hasPerson_18 : decode cX2_hasPerson 18 = .ok (.goto 4, 3) := by decide +kernel
theorem dX2_hasPerson_21 : decode cX2_hasPerson 21 = .ok (.iconst 0, 1) := by decide +kernel
theorem dX2_hasPerson_22 : decode cX2_hasPerson 22 = .ok (.ireturn, 1) := by decide +kernel
theorem dX2_hasSet_0 : decode cX2_hasSet 0 = .ok (.iload_n 1, 1) := by decide +kernel
theorem dX2_hasSet_1 : decode cX2_hasSet 1 = .ok (.ifCond .lt 17, 3) := by decide +kernel
theorem dX2_hasSet_4 : decode cX2_hasSet 4 = .ok (.iload_n 1, 1) := by decide +kernel
theorem dX2_hasSet_5 : decode cX2_hasSet 5 = .ok (.iconst 1, 1) := by decide +kernel
theorem dX2_hasSet_6 : decode cX2_hasSet 6 = .ok (.aload_n 0, 1) := by decide +kernel
theorem dX2_hasSet_7 : decode cX2_hasSet 7 = .ok (.getfield 24, 3) := by decide +kernel
theorem dX2_hasSet_10 : decode cX2_hasSet 10 = .ok (.ishl, 1) := by decide +kernel
theorem dX2_hasSet_11 : decode cX2_hasSet 11 = .ok (.if_icmp .ge 7, 3) := by decide +kernel
theorem dX2_hasSet_14 : decode cX2_hasSet 14 = .ok (.iconst 1, 1) := by decide +kernel
theorem dX2_hasSet_15 : decode cX2_hasSet 15 = .ok (.goto 4, 3) := by decide +kernel
theorem dX2_hasSet_18 : decode cX2_hasSet 18 = .ok (.iconst 0, 1) := by decide +kernel
theorem dX2_hasSet_19 : decode cX2_hasSet 19 = .ok (.ireturn, 1) := by decide +kernel
set_option maxRecDepth 20000 in
theorem ggX2_ruler_X2_hasGate : GoodIn wsX2_ruler wsX2_hasGate := goodIn_r _ [6, 7, 8, 9, 10, 11, 12, 13, 14, 15] (by decide +kernel) (by decide +kernel)
set_option maxRecDepth 20000 in
theorem gX2_ruler_X2_hasGate : GoodIn wsX2_ruler (wsV RX2 66 RX2 yX2_hasGate wsX2_hasGate) := goodIn_app (goodIn_of _ (by decide +kernel)) ggX2_ruler_X2_hasGate
theorem dX2_ruler_0 : decode cX2_ruler 0 = .ok (.iload_n 1, 1) := by decide +kernel
theorem dX2_ruler_1 : decode cX2_ruler 1 = .ok (.istore_n 2, 1) := by decide +kernel
theorem dX2_ruler_2 : decode cX2_ruler 2 = .ok (.iconst 0, 1) := by decide +kernel
theorem dX2_ruler_3 : decode cX2_ruler 3 = .ok (.istore_n 3, 1) := by decide +kernel
theorem dX2_ruler_4 : decode cX2_ruler 4 = .ok (.iload_n 3, 1) := by decide +kernel
theorem dX2_ruler_5 : decode cX2_ruler 5 = .ok (.iconst 5, 1) := by decide +kernel
theorem dX2_ruler_6 : decode cX2_ruler 6 = .ok (.if_icmp .ge 30, 3) := by decide +kernel
theorem dX2_ruler_9 : decode cX2_ruler 9 = .ok (.aload_n 0, 1) := by decide +kernel
theorem dX2_ruler_10 : decode cX2_ruler 10 = .ok (.iload_n 2, 1) := by decide +kernel
theorem dX2_ruler_11 : decode cX2_ruler 11 = .ok (.invokevirtual 66, 3) := by decide +kernel
theorem dX2_ruler_14 : decode cX2_ruler 14 = .ok (.ifCond .eq 22, 3) := by decide +kernel
theorem dX2_ruler_17 : decode cX2_ruler 17 = .ok (.aload_n 0, 1) := by decide +kernel
theorem dX2_ruler_18 : decode cX2_ruler 18 = .ok (.getfield 18, 3) := by decide +kernel
theorem dX2_ruler_21 : decode cX2_ruler 21 = .ok (.iload_n 2, 1) := by decide +kernel
theorem dX2_ruler_22 : decode cX2_ruler 22 = .ok (.iaload, 1) := by decide +kernel
theorem dX2_ruler_23 : decode cX2_ruler 23 = .ok (.iconst 3, 1) := by decide +kernel
theorem dX2_ruler_24 : decode cX2_ruler 24 = .ok (.if_icmp .ne 12, 3) := by decide +kernel
theorem dX2_ruler_27 : decode cX2_ruler 27 = .ok (.iinc 2 (-1), 3) := by decide +kernel
theorem dX2_ruler_30 : decode cX2_ruler 30 = .ok (.iinc 3 1, 3) := by decide +kernel
theorem dX2_ruler_33 : decode cX2_ruler 33 = .ok (.goto (-29), 3) := by decide +kernel
theorem dX2_ruler_36 : decode cX2_ruler 36 = .ok (.iload_n 2, 1) := by decide +kernel
theorem dX2_ruler_37 : decode cX2_ruler 37 = .ok (.ireturn, 1) := by decide +kernel
set_option maxRecDepth 20000 in
theorem ggX2_isOpen_X2_ruler : GoodIn wsX2_isOpen wsX2_ruler := goodIn_r _ [7, 1, 8, 9, 10, 6, 11, 12, 13, 14, 15, 16, 17, 18, 19, 20] (by decide +kernel) (by decide +kernel)
set_option maxRecDepth 20000 in
theorem gX2_isOpen_X2_ruler : GoodIn wsX2_isOpen (wsV RX2 69 RX2 yX2_ruler wsX2_ruler) := goodIn_app (goodIn_of _ (by decide +kernel)) ggX2_isOpen_X2_ruler
set_option maxRecDepth 20000 in
theorem ggX2_isOpen_X2_hasGate : GoodIn wsX2_isOpen wsX2_hasGate := goodIn_r _ [11, 12, 13, 14, 15, 16, 17, 18, 19, 20] (by decide +kernel) (by decide +kernel)
set_option maxRecDepth 20000 in
theorem gX2_isOpen_X2_hasGate : GoodIn wsX2_isOpen (wsV RX2 66 RX2 yX2_hasGate wsX2_hasGate) := goodIn_app (goodIn_of _ (by decide +kernel)) ggX2_isOpen_X2_hasGate
theorem dX2_isOpen_0 : decode cX2_isOpen 0 = .ok (.aload_n 0, 1) := by decide +kernel
theorem dX2_isOpen_1 : decode cX2_isOpen 1 = .ok (.iload_n 1, 1) := by decide +kernel
theorem dX2_isOpen_2 : decode cX2_isOpen 2 = .ok (.invokevirtual 69, 3) := by decide +kernel
theorem dX2_isOpen_5 : decode cX2_isOpen 5 = .ok (.istore_n 3, 1) := by decide +kernel
theorem dX2_isOpen_6 : decode cX2_isOpen 6 = .ok (.aload_n 0, 1) := by decide +kernel
theorem dX2_isOpen_7 : decode cX2_isOpen 7 = .ok (.iload_n 3, 1) := by decide +kernel
theorem dX2_isOpen_8 : decode cX2_isOpen 8 = .ok (.invokevirtual 66, 3) := by decide +kernel
theorem dX2_isOpen_11 : decode cX2_isOpen 11 = .ok (.ifCond .ne 5, 3) := by decide +kernel
theorem dX2_isOpen_14 : decode cX2_isOpen 14 = .ok (.iconst 0, 1) := by decide +kernel
theorem dX2_isOpen_15 : decode cX2_isOpen 15 = .ok (.ireturn, 1) := by decide +kernel
theorem dX2_isOpen_16 : decode cX2_isOpen 16 = .ok (.aload_n 0, 1) := by decide +kernel
theorem dX2_isOpen_17 : decode cX2_isOpen 17 = .ok (.getfield 18, 3) := by decide +kernel
theorem dX2_isOpen_20 : decode cX2_isOpen 20 = .ok (.iload_n 3, 1) := by decide +kernel
theorem dX2_isOpen_21 : decode cX2_isOpen 21 = .ok (.iaload, 1) := by decide +kernel
theorem dX2_isOpen_22 : decode cX2_isOpen 22 = .ok (.tableswitch 106 0 4 #[34, 51, 68, 106, 85], 34) := by decide +kernel
theorem dX2_isOpen_56 : decode cX2_isOpen 56 = .ok (.aload_n 0, 1) := by decide +kernel
theorem dX2_isOpen_57 : decode cX2_isOpen 57 = .ok (.getfield 21, 3) := by decide +kernel
theorem dX2_isOpen_60 : decode cX2_isOpen 60 = .ok (.iload_n 3, 1) := by decide +kernel
theorem dX2_isOpen_61 : decode cX2_isOpen 61 = .ok (.iaload, 1) := by decide +kernel
theorem dX2_isOpen_62 : decode cX2_isOpen 62 = .ok (.iconst 2, 1) := by decide +kernel
theorem dX2_isOpen_63 : decode cX2_isOpen 63 = .ok (.irem, 1) := by decide +kernel
theorem dX2_isOpen_64 : decode cX2_isOpen 64 = .ok (.ifCond .ne 7, 3) := by decide +kernel
theorem dX2_isOpen_67 : decode cX2_isOpen 67 = .ok (.iconst 1, 1) := by decide +kernel
theorem dX2_isOpen_68 : decode cX2_isOpen 68 = .ok (.goto 4, 3) := by decide +kernel
theorem dX2_isOpen_71 : decode cX2_isOpen 71 = .ok (.iconst 0, 1) := by decide +kernel
theorem dX2_isOpen_72 : decode cX2_isOpen 72 = .ok (.ireturn, 1) := by decide +kernel
theorem dX2_isOpen_73 : decode cX2_isOpen 73 = .ok (.aload_n 0, 1) := by decide +kernel
theorem dX2_isOpen_74 : decode cX2_isOpen 74 = .ok (.getfield 21, 3) := by decide +kernel
theorem dX2_isOpen_77 : decode cX2_isOpen 77 = .ok (.iload_n 3, 1) := by decide +kernel
theorem dX2_isOpen_78 : decode cX2_isOpen 78 = .ok (.iaload, 1) := by decide +kernel
theorem dX2_isOpen_79 : decode cX2_isOpen 79 = .ok (.iconst 2, 1) := by decide +kernel
theorem dX2_isOpen_80 : decode cX2_isOpen 80 = .ok (.irem, 1) := by decide +kernel
theorem dX2_isOpen_81 : decode cX2_isOpen 81 = .ok (.ifCond .eq 7, 3) := by decide +kernel
theorem dX2_isOpen_84 : decode cX2_isOpen 84 = .ok (.iconst 1, 1) := by decide +kernel
theorem dX2_isOpen_85 : decode cX2_isOpen 85 = .ok (.goto 4, 3) := by decide +kernel
theorem dX2_isOpen_88 : decode cX2_isOpen 88 = .ok (.iconst 0, 1) := by decide +kernel
theorem dX2_isOpen_89 : decode cX2_isOpen 89 = .ok (.ireturn, 1) := by decide +kernel
theorem dX2_isOpen_90 : decode cX2_isOpen 90 = .ok (.aload_n 0, 1) := by decide +kernel
theorem dX2_isOpen_91 : decode cX2_isOpen 91 = .ok (.getfield 21, 3) := by decide +kernel
theorem dX2_isOpen_94 : decode cX2_isOpen 94 = .ok (.iload_n 3, 1) := by decide +kernel
theorem dX2_isOpen_95 : decode cX2_isOpen 95 = .ok (.iaload, 1) := by decide +kernel
theorem dX2_isOpen_96 : decode cX2_isOpen 96 = .ok (.iconst 3, 1) := by decide +kernel
theorem dX2_isOpen_97 : decode cX2_isOpen 97 = .ok (.irem, 1) := by decide +kernel
theorem dX2_isOpen_98 : decode cX2_isOpen 98 = .ok (.ifCond .ne 7, 3) := by decide +kernel
theorem dX2_isOpen_101 : decode cX2_isOpen 101 = .ok (.iconst 1, 1) := by decide +kernel
theorem dX2_isOpen_102 : decode cX2_isOpen 102 = .ok (.goto 4, 3) := by decide +kernel
theorem dX2_isOpen_105 : decode cX2_isOpen 105 = .ok (.iconst 0, 1) := by decide +kernel
theorem dX2_isOpen_106 : decode cX2_isOpen 106 = .ok (.ireturn, 1) := by decide +kernel
theorem dX2_isOpen_107 : decode cX2_isOpen 107 = .ok (.iload_n 2, 1) := by decide +kernel
theorem dX2_isOpen_108 : decode cX2_isOpen 108 = .ok (.ifCond .ne 18, 3) := by decide +kernel
theorem dX2_isOpen_111 : decode cX2_isOpen 111 = .ok (.aload_n 0, 1) := by decide +kernel
theorem dX2_isOpen_112 : decode cX2_isOpen 112 = .ok (.getfield 21, 3) := by decide +kernel
theorem dX2_isOpen_115 : decode cX2_isOpen 115 = .ok (.iload_n 3, 1) := by decide +kernel
theorem dX2_isOpen_116 : decode cX2_isOpen 116 = .ok (.iaload, 1) := by decide +kernel
theorem dX2_isOpen_117 : decode cX2_isOpen 117 = .ok (.iconst 2, 1) := by decide +kernel
theorem dX2_isOpen_118 : decode cX2_isOpen 118 = .ok (.irem, 1) := by decide +kernel
theorem dX2_isOpen_119 : decode cX2_isOpen 119 = .ok (.ifCond .ne 7, 3) := by decide +kernel
theorem dX2_isOpen_122 : decode cX2_isOpen 122 = .ok (.iconst 1, 1) := by decide +kernel
theorem dX2_isOpen_123 : decode cX2_isOpen 123 = .ok (.goto 4, 3) := by decide +kernel
theorem dX2_isOpen_126 : decode cX2_isOpen 126 = .ok (.iconst 0, 1) := by decide +kernel
theorem dX2_isOpen_127 : decode cX2_isOpen 127 = .ok (.ireturn, 1) := by decide +kernel
theorem dX2_isOpen_128 : decode cX2_isOpen 128 = .ok (.iconst 0, 1) := by decide +kernel
theorem dX2_isOpen_129 : decode cX2_isOpen 129 = .ok (.ireturn, 1) := by decide +kernel
set_option maxRecDepth 20000 in
theorem ggX2_openFromA_X2_isOpen : GoodIn wsX2_openFromA wsX2_isOpen := goodIn_r _ [6, 7, 8, 9, 10, 11, 5, 12, 13, 14, 15, 16, 1, 17, 18, 19, 20, 21, 22, 23, 24] (by decide +kernel) (by decide +kernel)
set_option maxRecDepth 20000 in
theorem gX2_openFromA_X2_isOpen : GoodIn wsX2_openFromA (wsV RX2 73 RX2 yX2_isOpen wsX2_isOpen) := goodIn_app (goodIn_of _ (by decide +kernel)) ggX2_openFromA_X2_isOpen
theorem dX2_openFromA_0 : decode cX2_openFromA 0 = .ok (.iconst 0, 1) := by decide +kernel
theorem dX2_openFromA_1 : decode cX2_openFromA 1 = .ok (.istore_n 1, 1) := by decide +kernel
theorem dX2_openFromA_2 : decode cX2_openFromA 2 = .ok (.iconst 0, 1) := by decide +kernel
theorem dX2_openFromA_3 : decode cX2_openFromA 3 = .ok (.istore_n 2, 1) := by decide +kernel
theorem dX2_openFromA_4 : decode cX2_openFromA 4 = .ok (.iload_n 2, 1) := by decide +kernel
theorem dX2_openFromA_5 : decode cX2_openFromA 5 = .ok (.aload_n 0, 1) := by decide +kernel
theorem dX2_openFromA_6 : decode cX2_openFromA 6 = .ok (.getfield 24, 3) := by decide +kernel
theorem dX2_openFromA_9 : decode cX2_openFromA 9 = .ok (.if_icmp .ge 33, 3) := by decide +kernel
theorem dX2_openFromA_12 : decode cX2_openFromA 12 = .ok (.iload_n 2, 1) := by decide +kernel
theorem dX2_openFromA_13 : decode cX2_openFromA 13 = .ok (.iconst 5, 1) := by decide +kernel
theorem dX2_openFromA_14 : decode cX2_openFromA 14 = .ok (.if_icmp .ge 28, 3) := by decide +kernel
theorem dX2_openFromA_17 : decode cX2_openFromA 17 = .ok (.iload_n 1, 1) := by decide +kernel
theorem dX2_openFromA_18 : decode cX2_openFromA 18 = .ok (.aload_n 0, 1) := by decide +kernel
theorem dX2_openFromA_19 : decode cX2_openFromA 19 = .ok (.iload_n 2, 1) := by decide +kernel
theorem dX2_openFromA_20 : decode cX2_openFromA 20 = .ok (.iconst 0, 1) := by decide +kernel
theorem dX2_openFromA_21 : decode cX2_openFromA 21 = .ok (.invokevirtual 73, 3) := by decide +kernel
theorem dX2_openFromA_24 : decode cX2_openFromA 24 = .ok (.ifCond .eq 9, 3) := by decide +kernel
theorem dX2_openFromA_27 : decode cX2_openFromA 27 = .ok (.iconst 1, 1) := by decide +kernel
theorem dX2_openFromA_28 : decode cX2_openFromA 28 = .ok (.iload_n 2, 1) := by decide +kernel
theorem dX2_openFromA_29 : decode cX2_openFromA 29 = .ok (.ishl, 1) := by decide +kernel
theorem dX2_openFromA_30 : decode cX2_openFromA 30 = .ok (.goto 4, 3) := by decide +kernel
theorem dX2_openFromA_33 : decode cX2_openFromA 33 = .ok (.iconst 0, 1) := by decide +kernel
theorem dX2_openFromA_34 : decode cX2_openFromA 34 = .ok (.ior, 1) := by decide +kernel
theorem dX2_openFromA_35 : decode cX2_openFromA 35 = .ok (.istore_n 1, 1) := by decide +kernel
theorem dX2_openFromA_36 : decode cX2_openFromA 36 = .ok (.iinc 2 1, 3) := by decide +kernel
theorem dX2_openFromA_39 : decode cX2_openFromA 39 = .ok (.goto (-35), 3) := by decide +kernel
theorem dX2_openFromA_42 : decode cX2_openFromA 42 = .ok (.iload_n 1, 1) := by decide +kernel
theorem dX2_openFromA_43 : decode cX2_openFromA 43 = .ok (.ireturn, 1) := by decide +kernel
set_option maxRecDepth 20000 in
theorem ggX2_isOpenFrom_X2_hasGate : GoodIn wsX2_isOpenFrom wsX2_hasGate := goodIn_r _ [7, 8, 19, 20, 21, 22, 23, 24, 25, 26] (by decide +kernel) (by decide +kernel)
set_option maxRecDepth 20000 in
theorem gX2_isOpenFrom_X2_hasGate : GoodIn wsX2_isOpenFrom (wsV RX2 66 RX2 yX2_hasGate wsX2_hasGate) := goodIn_app (goodIn_of _ (by decide +kernel)) ggX2_isOpenFrom_X2_hasGate
set_option maxRecDepth 20000 in
theorem ggX2_isOpenFrom_X2_isOpen : GoodIn wsX2_isOpenFrom wsX2_isOpen := goodIn_r _ [12, 13, 14, 15, 16, 17, 6, 18, 3, 4, 5, 7, 8, 19, 20, 21, 22, 23, 24, 25, 26] (by decide +kernel) (by decide +kernel)
set_option maxRecDepth 20000 in
theorem gX2_isOpenFrom_X2_isOpen : GoodIn wsX2_isOpenFrom (wsV RX2 73 RX2 yX2_isOpen wsX2_isOpen) := goodIn_app (goodIn_of _ (by decide +kernel)) ggX2_isOpenFrom_X2_isOpen
theorem dX2_isOpenFrom_0 : decode cX2_isOpenFrom 0 = .ok (.aload_n 0, 1) := by decide +kernel
theorem dX2_isOpenFrom_1 : decode cX2_isOpenFrom 1 = .ok (.iload_n 2, 1) := by decide +kernel
theorem dX2_isOpenFrom_2 : decode cX2_isOpenFrom 2 = .ok (.invokevirtual 66, 3) := by decide +kernel
theorem dX2_isOpenFrom_5 : decode cX2_isOpenFrom 5 = .ok (.ifCond .ne 5, 3) := by decide +kernel
theorem dX2_isOpenFrom_8 : decode cX2_isOpenFrom 8 = .ok (.iconst 0, 1) := by decide +kernel
theorem dX2_isOpenFrom_9 : decode cX2_isOpenFrom 9 = .ok (.ireturn, 1) := by decide +kernel
theorem dX2_isOpenFrom_10 : decode cX2_isOpenFrom 10 = .ok (.iload_n 1, 1) := by decide +kernel
theorem dX2_isOpenFrom_11 : decode cX2_isOpenFrom 11 = .ok (.aload_n 0, 1) := by decide +kernel
theorem dX2_isOpenFrom_12 : decode cX2_isOpenFrom 12 = .ok (.getfield 9, 3) := by decide +kernel
theorem dX2_isOpenFrom_15 : decode cX2_isOpenFrom 15 = .ok (.iload_n 2, 1) := by decide +kernel
theorem dX2_isOpenFrom_16 : decode cX2_isOpenFrom 16 = .ok (.iaload, 1) := by decide +kernel
theorem dX2_isOpenFrom_17 : decode cX2_isOpenFrom 17 = .ok (.if_icmp .ne 10, 3) := by decide +kernel
theorem dX2_isOpenFrom_20 : decode cX2_isOpenFrom 20 = .ok (.aload_n 0, 1) := by decide +kernel
theorem dX2_isOpenFrom_21 : decode cX2_isOpenFrom 21 = .ok (.iload_n 2, 1) := by decide +kernel
theorem dX2_isOpenFrom_22 : decode cX2_isOpenFrom 22 = .ok (.iconst 0, 1) := by decide +kernel
theorem dX2_isOpenFrom_23 : decode cX2_isOpenFrom 23 = .ok (.invokevirtual 73, 3) := by decide +kernel
theorem dX2_isOpenFrom_26 : decode cX2_isOpenFrom 26 = .ok (.ireturn, 1) := by decide +kernel
theorem dX2_isOpenFrom_27 : decode cX2_isOpenFrom 27 = .ok (.iload_n 1, 1) := by decide +kernel
theorem dX2_isOpenFrom_28 : decode cX2_isOpenFrom 28 = .ok (.aload_n 0, 1) := by decide +kernel
theorem dX2_isOpenFrom_29 : decode cX2_isOpenFrom 29 = .ok (.getfield 15, 3) := by decide +kernel
theorem dX2_isOpenFrom_32 : decode cX2_isOpenFrom 32 = .ok (.iload_n 2, 1) := by decide +kernel
theorem dX2_isOpenFrom_33 : decode cX2_isOpenFrom 33 = .ok (.iaload, 1) := by decide +kernel
theorem dX2_isOpenFrom_34 : decode cX2_isOpenFrom 34 = .ok (.if_icmp .ne 16, 3) := by decide +kernel
theorem dX2_isOpenFrom_37 : decode cX2_isOpenFrom 37 = .ok (.aload_n 0, 1) := by decide +kernel
theorem dX2_isOpenFrom_38 : decode cX2_isOpenFrom 38 = .ok (.iload_n 2, 1) := by decide +kernel
theorem dX2_isOpenFrom_39 : decode cX2_isOpenFrom 39 = .ok (.iconst 1, 1) := by decide +kernel
theorem dX2_isOpenFrom_40 : decode cX2_isOpenFrom 40 = .ok (.invokevirtual 73, 3) := by decide +kernel
theorem dX2_isOpenFrom_43 : decode cX2_isOpenFrom 43 = .ok (.ifCond .eq 7, 3) := by decide +kernel
theorem dX2_isOpenFrom_46 : decode cX2_isOpenFrom 46 = .ok (.iconst 1, 1) := by decide +kernel
theorem dX2_isOpenFrom_47 : decode cX2_isOpenFrom 47 = .ok (.goto 4, 3) := by decide +kernel
theorem dX2_isOpenFrom_50 : decode cX2_isOpenFrom 50 = .ok (.iconst 0, 1) := by decide +kernel
theorem dX2_isOpenFrom_51 : decode cX2_isOpenFrom 51 = .ok (.ireturn, 1) := by decide +kernel
set_option maxRecDepth 20000 in
theorem ggX2_beyond_X2_hasGate : GoodIn wsX2_beyond wsX2_hasGate := goodIn_r _ [7, 8, 9, 10, 11, 12, 13, 14, 15, 16] (by decide +kernel) (by decide +kernel)
set_option maxRecDepth 20000 in
theorem gX2_beyond_X2_hasGate : GoodIn wsX2_beyond (wsV RX2 66 RX2 yX2_hasGate wsX2_hasGate) := goodIn_app (goodIn_of _ (by decide +kernel)) ggX2_beyond_X2_hasGate
theorem dX2_beyond_0 : decode cX2_beyond 0 = .ok (.aload_n 0, 1) := by decide +kernel
theorem dX2_beyond_1 : decode cX2_beyond 1 = .ok (.iload_n 2, 1) := by decide +kernel
theorem dX2_beyond_2 : decode cX2_beyond 2 = .ok (.invokevirtual 66, 3) := by decide +kernel
theorem dX2_beyond_5 : decode cX2_beyond 5 = .ok (.ifCond .ne 5, 3) := by decide +kernel
theorem dX2_beyond_8 : decode cX2_beyond 8 = .ok (.iload_n 1, 1) := by decide +kernel
theorem dX2_beyond_9 : decode cX2_beyond 9 = .ok (.ireturn, 1) := by decide +kernel
theorem dX2_beyond_10 : decode cX2_beyond 10 = .ok (.iload_n 1, 1) := by decide +kernel
theorem dX2_beyond_11 : decode cX2_beyond 11 = .ok (.aload_n 0, 1) := by decide +kernel
theorem dX2_beyond_12 : decode cX2_beyond 12 = .ok (.getfield 9, 3) := by decide +kernel
theorem dX2_beyond_15 : decode cX2_beyond 15 = .ok (.iload_n 2, 1) := by decide +kernel
theorem dX2_beyond_16 : decode cX2_beyond 16 = .ok (.iaload, 1) := by decide +kernel
theorem dX2_beyond_17 : decode cX2_beyond 17 = .ok (.if_icmp .ne 10, 3) := by decide +kernel
theorem dX2_beyond_20 : decode cX2_beyond 20 = .ok (.aload_n 0, 1) := by decide +kernel
theorem dX2_beyond_21 : decode cX2_beyond 21 = .ok (.getfield 15, 3) := by decide +kernel
theorem dX2_beyond_24 : decode cX2_beyond 24 = .ok (.iload_n 2, 1) := by decide +kernel
theorem dX2_beyond_25 : decode cX2_beyond 25 = .ok (.iaload, 1) := by decide +kernel
theorem dX2_beyond_26 : decode cX2_beyond 26 = .ok (.ireturn, 1) := by decide +kernel
theorem dX2_beyond_27 : decode cX2_beyond 27 = .ok (.iload_n 1, 1) := by decide +kernel
theorem dX2_beyond_28 : decode cX2_beyond 28 = .ok (.aload_n 0, 1) := by decide +kernel
theorem dX2_beyond_29 : decode cX2_beyond 29 = .ok (.getfield 15, 3) := by decide +kernel
theorem dX2_beyond_32 : decode cX2_beyond 32 = .ok (.iload_n 2, 1) := by decide +kernel
theorem dX2_beyond_33 : decode cX2_beyond 33 = .ok (.iaload, 1) := by decide +kernel
theorem dX2_beyond_34 : decode cX2_beyond 34 = .ok (.if_icmp .ne 12, 3) := by decide +kernel
theorem dX2_beyond_37 : decode cX2_beyond 37 = .ok (.aload_n 0, 1) := by decide +kernel
theorem dX2_beyond_38 : decode cX2_beyond 38 = .ok (.getfield 9, 3) := by decide +kernel
theorem dX2_beyond_41 : decode cX2_beyond 41 = .ok (.iload_n 2, 1) := by decide +kernel
theorem dX2_beyond_42 : decode cX2_beyond 42 = .ok (.iaload, 1) := by decide +kernel
theorem dX2_beyond_43 : decode cX2_beyond 43 = .ok (.goto 4, 3) := by decide +kernel
theorem dX2_beyond_46 : decode cX2_beyond 46 = .ok (.iload_n 1, 1) := by decide +kernel
theorem dX2_beyond_47 : decode cX2_beyond 47 = .ok (.ireturn, 1) := by decide +kernel
set_option maxRecDepth 20000 in
theorem ggX2_letsIn_X2_hasPerson : GoodIn wsX2_letsIn wsX2_hasPerson := goodIn_r _ [6, 7, 29, 30, 31, 32, 33, 34, 35, 36] (by decide +kernel) (by decide +kernel)
set_option maxRecDepth 20000 in
theorem gX2_letsIn_X2_hasPerson : GoodIn wsX2_letsIn (wsV RX2 77 RX2 yX2_hasPerson wsX2_hasPerson) := goodIn_app (goodIn_of _ (by decide +kernel)) ggX2_letsIn_X2_hasPerson
set_option maxRecDepth 20000 in
theorem ggX2_letsIn_X2_isOpenFrom : GoodIn wsX2_letsIn wsX2_isOpenFrom := goodIn_r _ [11, 12, 13, 14, 15, 16, 5, 17, 18, 19, 20, 21, 22, 23, 24, 25, 26, 27, 28, 29, 30, 31, 32, 33, 34, 35, 36] (by decide +kernel) (by decide +kernel)
set_option maxRecDepth 20000 in
theorem gX2_letsIn_X2_isOpenFrom : GoodIn wsX2_letsIn (wsV RX2 80 RX2 yX2_isOpenFrom wsX2_isOpenFrom) := goodIn_app (goodIn_of _ (by decide +kernel)) ggX2_letsIn_X2_isOpenFrom
theorem dX2_letsIn_0 : decode cX2_letsIn 0 = .ok (.aload_n 0, 1) := by decide +kernel
theorem dX2_letsIn_1 : decode cX2_letsIn 1 = .ok (.iload_n 1, 1) := by decide +kernel
theorem dX2_letsIn_2 : decode cX2_letsIn 2 = .ok (.invokevirtual 77, 3) := by decide +kernel
theorem dX2_letsIn_5 : decode cX2_letsIn 5 = .ok (.ifCond .eq 21, 3) := by decide +kernel
theorem dX2_letsIn_8 : decode cX2_letsIn 8 = .ok (.aload_n 0, 1) := by decide +kernel
theorem dX2_letsIn_9 : decode cX2_letsIn 9 = .ok (.aload_n 0, 1) := by decide +kernel
theorem dX2_letsIn_10 : decode cX2_letsIn 10 = .ok (.getfield 28, 3) := by decide +kernel
theorem dX2_letsIn_13 : decode cX2_letsIn 13 = .ok (.iload_n 1, 1) := by decide +kernel
theorem dX2_letsIn_14 : decode cX2_letsIn 14 = .ok (.iaload, 1) := by decide +kernel
theorem dX2_letsIn_15 : decode cX2_letsIn 15 = .ok (.iload_n 2, 1) := by decide +kernel
theorem dX2_letsIn_16 : decode cX2_letsIn 16 = .ok (.invokevirtual 80, 3) := by decide +kernel
theorem dX2_letsIn_19 : decode cX2_letsIn 19 = .ok (.ifCond .eq 7, 3) := by decide +kernel
theorem dX2_letsIn_22 : decode cX2_letsIn 22 = .ok (.iconst 1, 1) := by decide +kernel
theorem dX2_letsIn_23 : decode cX2_letsIn 23 = .ok (.goto 4, 3) := by decide +kernel
theorem dX2_letsIn_26 : decode cX2_letsIn 26 = .ok (.iconst 0, 1) := by decide +kernel
theorem dX2_letsIn_27 : decode cX2_letsIn 27 = .ok (.ireturn, 1) := by decide +kernel
set_option maxRecDepth 20000 in
theorem ggX2_letThrough_X2_hasPerson : GoodIn wsX2_letThrough wsX2_hasPerson := goodIn_r _ [7, 8, 20, 21, 22, 23, 24, 25, 26, 27] (by decide +kernel) (by decide +kernel)
set_option maxRecDepth 20000 in
theorem gX2_letThrough_X2_hasPerson : GoodIn wsX2_letThrough (wsV RX2 77 RX2 yX2_hasPerson wsX2_hasPerson) := goodIn_app (goodIn_of _ (by decide +kernel)) ggX2_letThrough_X2_hasPerson
set_option maxRecDepth 20000 in
theorem ggX2_letThrough_X2_hasGate : GoodIn wsX2_letThrough wsX2_hasGate := goodIn_r _ [12, 13, 20, 21, 22, 23, 24, 25, 26, 27] (by decide +kernel) (by decide +kernel)
set_option maxRecDepth 20000 in
theorem gX2_letThrough_X2_hasGate : GoodIn wsX2_letThrough (wsV RX2 66 RX2 yX2_hasGate wsX2_hasGate) := goodIn_app (goodIn_of _ (by decide +kernel)) ggX2_letThrough_X2_hasGate
set_option maxRecDepth 20000 in
theorem ggX2_letThrough_X2_beyond : GoodIn wsX2_letThrough wsX2_beyond := goodIn_r _ [17, 18, 19, 9, 10, 11, 6, 12, 13, 20, 21, 22, 23, 24, 25, 26, 27] (by decide +kernel) (by decide +kernel)
set_option maxRecDepth 20000 in
theorem gX2_letThrough_X2_beyond : GoodIn wsX2_letThrough (wsV RX2 83 RX2 yX2_beyond wsX2_beyond) := goodIn_app (goodIn_of _ (by decide +kernel)) ggX2_letThrough_X2_beyond
theorem dX2_letThrough_0 : decode cX2_letThrough 0 = .ok (.aload_n 0, 1) := by decide +kernel
theorem dX2_letThrough_1 : decode cX2_letThrough 1 = .ok (.iload_n 1, 1) := by decide +kernel
theorem dX2_letThrough_2 : decode cX2_letThrough 2 = .ok (.invokevirtual 77, 3) := by decide +kernel
theorem dX2_letThrough_5 : decode cX2_letThrough 5 = .ok (.ifCond .eq 38, 3) := by decide +kernel
theorem dX2_letThrough_8 : decode cX2_letThrough 8 = .ok (.aload_n 0, 1) := by decide +kernel
theorem dX2_letThrough_9 : decode cX2_letThrough 9 = .ok (.iload_n 2, 1) := by decide +kernel
theorem dX2_letThrough_10 : decode cX2_letThrough 10 = .ok (.invokevirtual 66, 3) := by decide +kernel
theorem dX2_letThrough_13 : decode cX2_letThrough 13 = .ok (.ifCond .eq 30, 3) := by decide +kernel
theorem dX2_letThrough_16 : decode cX2_letThrough 16 = .ok (.aload_n 0, 1) := by decide +kernel
theorem dX2_letThrough_17 : decode cX2_letThrough 17 = .ok (.getfield 28, 3) := by decide +kernel
theorem dX2_letThrough_20 : decode cX2_letThrough 20 = .ok (.iload_n 1, 1) := by decide +kernel
theorem dX2_letThrough_21 : decode cX2_letThrough 21 = .ok (.aload_n 0, 1) := by decide +kernel
theorem dX2_letThrough_22 : decode cX2_letThrough 22 = .ok (.aload_n 0, 1) := by decide +kernel
theorem dX2_letThrough_23 : decode cX2_letThrough 23 = .ok (.getfield 28, 3) := by decide +kernel
theorem dX2_letThrough_26 : decode cX2_letThrough 26 = .ok (.iload_n 1, 1) := by decide +kernel
theorem dX2_letThrough_27 : decode cX2_letThrough 27 = .ok (.iaload, 1) := by decide +kernel
theorem dX2_letThrough_28 : decode cX2_letThrough 28 = .ok (.iload_n 2, 1) := by decide +kernel
theorem dX2_letThrough_29 : decode cX2_letThrough 29 = .ok (.invokevirtual 83, 3) := by decide +kernel
theorem dX2_letThrough_32 : decode cX2_letThrough 32 = .ok (.iastore, 1) := by decide +kernel
theorem dX2_letThrough_33 : decode cX2_letThrough 33 = .ok (.aload_n 0, 1) := by decide +kernel
theorem dX2_letThrough_34 : decode cX2_letThrough 34 = .ok (.getfield 21, 3) := by decide +kernel
theorem dX2_letThrough_37 : decode cX2_letThrough 37 = .ok (.iload_n 2, 1) := by decide +kernel
theorem dX2_letThrough_38 : decode cX2_letThrough 38 = .ok (.dup2, 1) := by decide +kernel
theorem dX2_letThrough_39 : decode cX2_letThrough 39 = .ok (.iaload, 1) := by decide +kernel
theorem dX2_letThrough_40 : decode cX2_letThrough 40 = .ok (.iconst 1, 1) := by decide +kernel
theorem dX2_letThrough_41 : decode cX2_letThrough 41 = .ok (.iadd, 1) := by decide +kernel
theorem dX2_letThrough_42 : decode cX2_letThrough 42 = .ok (.iastore, 1) := by decide +kernel
theorem dX2_letThrough_43 : decode cX2_letThrough 43 = .ok (.return_, 1) := by decide +kernel
set_option maxRecDepth 20000 in
theorem ggX2_stepByDraw_X2_letsIn : GoodIn wsX2_stepByDraw wsX2_letsIn := goodIn_r _ [10, 11, 12, 13, 14, 9, 15, 1, 16, 17, 18, 19, 20, 21, 22, 23, 24, 25, 2, 26, 27, 28, 29, 30, 31, 32, 33, 34, 35, 44, 45, 46, 47, 48, 49, 50, 51] (by decide +kernel) (by decide +kernel)
set_option maxRecDepth 20000 in
theorem gX2_stepByDraw_X2_letsIn : GoodIn wsX2_stepByDraw (wsV RX2 92 RX2 yX2_letsIn wsX2_letsIn) := goodIn_app (goodIn_of _ (by decide +kernel)) ggX2_stepByDraw_X2_letsIn
set_option maxRecDepth 20000 in
theorem ggX2_stepByDraw_X2_letThrough : GoodIn wsX2_stepByDraw wsX2_letThrough := goodIn_r _ [39, 11, 31, 12, 13, 14, 9, 15, 1, 22, 23, 24, 25, 2, 40, 41, 42, 43, 20, 21, 44, 45, 46, 47, 48, 49, 50, 51] (by decide +kernel) (by decide +kernel)
set_option maxRecDepth 20000 in
theorem gX2_stepByDraw_X2_letThrough : GoodIn wsX2_stepByDraw (wsV RX2 95 RX2 yX2_letThrough wsX2_letThrough) := goodIn_app (goodIn_of _ (by decide +kernel)) ggX2_stepByDraw_X2_letThrough
theorem dX2_stepByDraw_0 : decode cX2_stepByDraw 0 = .ok (.aload_n 0, 1) := by decide +kernel
theorem dX2_stepByDraw_1 : decode cX2_stepByDraw 1 = .ok (.getfield 31, 3) := by decide +kernel
theorem dX2_stepByDraw_4 : decode cX2_stepByDraw 4 = .ok (.iconst 1, 1) := by decide +kernel
theorem dX2_stepByDraw_5 : decode cX2_stepByDraw 5 = .ok (.if_icmp .lt 11, 3) := by decide +kernel
theorem dX2_stepByDraw_8 : decode cX2_stepByDraw 8 = .ok (.aload_n 0, 1) := by decide +kernel
theorem dX2_stepByDraw_9 : decode cX2_stepByDraw 9 = .ok (.getfield 24, 3) := by decide +kernel
theorem dX2_stepByDraw_12 : decode cX2_stepByDraw 12 = .ok (.iconst 1, 1) := by decide +kernel
theorem dX2_stepByDraw_13 : decode cX2_stepByDraw 13 = .ok (.if_icmp .ge 5, 3) := by decide +kernel
theorem dX2_stepByDraw_16 : decode cX2_stepByDraw 16 = .ok (.iconst 0, 1) := by decide +kernel
theorem dX2_stepByDraw_17 : decode cX2_stepByDraw 17 = .ok (.ireturn, 1) := by decide +kernel
theorem dX2_stepByDraw_18 : decode cX2_stepByDraw 18 = .ok (.ldc2_w 86, 3) := by decide +kernel
theorem dX2_stepByDraw_21 : decode cX2_stepByDraw 21 = .ok (.iload_n 1, 1) := by decide +kernel
theorem dX2_stepByDraw_22 : decode cX2_stepByDraw 22 = .ok (.i2l, 1) := by decide +kernel
theorem dX2_stepByDraw_23 : decode cX2_stepByDraw 23 = .ok (.lmul, 1) := by decide +kernel
theorem dX2_stepByDraw_24 : decode cX2_stepByDraw 24 = .ok (.ldc2_w 88, 3) := by decide +kernel
theorem dX2_stepByDraw_27 : decode cX2_stepByDraw 27 = .ok (.iload_n 2, 1) := by decide +kernel
theorem dX2_stepByDraw_28 : decode cX2_stepByDraw 28 = .ok (.i2l, 1) := by decide +kernel
theorem dX2_stepByDraw_29 : decode cX2_stepByDraw 29 = .ok (.lmul, 1) := by decide +kernel
theorem dX2_stepByDraw_30 : decode cX2_stepByDraw 30 = .ok (.ladd, 1) := by decide +kernel
theorem dX2_stepByDraw_31 : decode cX2_stepByDraw 31 = .ok (.lconst 1, 1) := by decide +kernel
theorem dX2_stepByDraw_32 : decode cX2_stepByDraw 32 = .ok (.ladd, 1) := by decide +kernel
theorem dX2_stepByDraw_33 : decode cX2_stepByDraw 33 = .ok (.lstore_n 3, 1) := by decide +kernel
theorem dX2_stepByDraw_34 : decode cX2_stepByDraw 34 = .ok (.lload_n 3, 1) := by decide +kernel
theorem dX2_stepByDraw_35 : decode cX2_stepByDraw 35 = .ok (.lload_n 3, 1) := by decide +kernel
theorem dX2_stepByDraw_36 : decode cX2_stepByDraw 36 = .ok (.lmul, 1) := by decide +kernel
theorem dX2_stepByDraw_37 : decode cX2_stepByDraw 37 = .ok (.ldc2_w 90, 3) := by decide +kernel
theorem dX2_stepByDraw_40 : decode cX2_stepByDraw 40 = .ok (.lrem, 1) := by decide +kernel
theorem dX2_stepByDraw_41 : decode cX2_stepByDraw 41 = .ok (.l2i, 1) := by decide +kernel
theorem dX2_stepByDraw_42 : decode cX2_stepByDraw 42 = .ok (.istore 5, 2) := by decide +kernel
theorem dX2_stepByDraw_44 : decode cX2_stepByDraw 44 = .ok (.iload 5, 2) := by decide +kernel
theorem dX2_stepByDraw_46 : decode cX2_stepByDraw 46 = .ok (.aload_n 0, 1) := by decide +kernel
theorem dX2_stepByDraw_47 : decode cX2_stepByDraw 47 = .ok (.getfield 31, 3) := by decide +kernel
theorem dX2_stepByDraw_50 : decode cX2_stepByDraw 50 = .ok (.irem, 1) := by decide +kernel
theorem dX2_stepByDraw_51 : decode cX2_stepByDraw 51 = .ok (.istore 6, 2) := by decide +kernel
theorem dX2_stepByDraw_53 : decode cX2_stepByDraw 53 = .ok (.iload 5, 2) := by decide +kernel
theorem dX2_stepByDraw_55 : decode cX2_stepByDraw 55 = .ok (.bipush 8, 2) := by decide +kernel
theorem dX2_stepByDraw_57 : decode cX2_stepByDraw 57 = .ok (.idiv, 1) := by decide +kernel
theorem dX2_stepByDraw_58 : decode cX2_stepByDraw 58 = .ok (.aload_n 0, 1) := by decide +kernel
theorem dX2_stepByDraw_59 : decode cX2_stepByDraw 59 = .ok (.getfield 24, 3) := by decide +kernel
theorem dX2_stepByDraw_62 : decode cX2_stepByDraw 62 = .ok (.irem, 1) := by decide +kernel
theorem dX2_stepByDraw_63 : decode cX2_stepByDraw 63 = .ok (.istore 7, 2) := by decide +kernel
theorem dX2_stepByDraw_65 : decode cX2_stepByDraw 65 = .ok (.aload_n 0, 1) := by decide +kernel
theorem dX2_stepByDraw_66 : decode cX2_stepByDraw 66 = .ok (.iload 6, 2) := by decide +kernel
theorem dX2_stepByDraw_68 : decode cX2_stepByDraw 68 = .ok (.iload 7, 2) := by decide +kernel
theorem dX2_stepByDraw_70 : decode cX2_stepByDraw 70 = .ok (.invokevirtual 92, 3) := by decide +kernel
theorem dX2_stepByDraw_73 : decode cX2_stepByDraw 73 = .ok (.ifCond .ne 5, 3) := by decide +kernel
theorem dX2_stepByDraw_76 : decode cX2_stepByDraw 76 = .ok (.iconst 0, 1) := by decide +kernel
theorem dX2_stepByDraw_77 : decode cX2_stepByDraw 77 = .ok (.ireturn, 1) := by decide +kernel
theorem dX2_stepByDraw_78 : decode cX2_stepByDraw 78 = .ok (.aload_n 0, 1) := by decide +kernel
theorem dX2_stepByDraw_79 : decode cX2_stepByDraw 79 = .ok (.iload 6, 2) := by decide +kernel
theorem dX2_stepByDraw_81 : decode cX2_stepByDraw 81 = .ok (.iload 7, 2) := by decide +kernel
theorem dX2_stepByDraw_83 : decode cX2_stepByDraw 83 = .ok (.invokevirtual 95, 3) := by decide +kernel
theorem dX2_stepByDraw_86 : decode cX2_stepByDraw 86 = .ok (.iconst 1, 1) := by decide +kernel
theorem dX2_stepByDraw_87 : decode cX2_stepByDraw 87 = .ok (.ireturn, 1) := by decide +kernel
theorem dX3_init_0 : decode cX3_init 0 = .ok (.aload_n 0, 1) := by decide +kernel
theorem dX3_init_1 : decode cX3_init 1 = .ok (.invokespecial 1, 3) := by decide +kernel
theorem dX3_init_4 : decode cX3_init 4 = .ok (.aload_n 0, 1) := by decide +kernel
theorem dX3_init_5 : decode cX3_init 5 = .ok (.bipush 8, 2) := by decide +kernel
theorem dX3_init_7 : decode cX3_init 7 = .ok (.newarray .int, 2) := by decide +kernel
theorem dX3_init_9 : decode cX3_init 9 = .ok (.putfield 9, 3) := by decide +kernel
theorem dX3_init_12 : decode cX3_init 12 = .ok (.aload_n 0, 1) := by decide +kernel
theorem dX3_init_13 : decode cX3_init 13 = .ok (.iconst 0, 1) := by decide +kernel
theorem dX3_init_14 : decode cX3_init 14 = .ok (.putfield 13, 3) := by decide +kernel
theorem dX3_init_17 : decode cX3_init 17 = .ok (.return_, 1) := by decide +kernel
theorem dX3_hasRoom_0 : decode cX3_hasRoom 0 = .ok (.aload_n 0, 1) := by decide +kernel
theorem dX3_hasRoom_1 : decode cX3_hasRoom 1 = .ok (.getfield 13, 3) := by decide +kernel
theorem dX3_hasRoom_4 : decode cX3_hasRoom 4 = .ok (.bipush 8, 2) := by decide +kernel
theorem dX3_hasRoom_6 : decode cX3_hasRoom 6 = .ok (.if_icmp .ge 7, 3) := by decide +kernel
theorem dX3_hasRoom_9 : decode cX3_hasRoom 9 = .ok (.iconst 1, 1) := by decide +kernel
theorem dX3_hasRoom_10 : decode cX3_hasRoom 10 = .ok (.goto 4, 3) := by decide +kernel
theorem dX3_hasRoom_13 : decode cX3_hasRoom 13 = .ok (.iconst 0, 1) := by decide +kernel
theorem dX3_hasRoom_14 : decode cX3_hasRoom 14 = .ok (.ireturn, 1) := by decide +kernel
theorem dX3_add_0 : decode cX3_add 0 = .ok (.aload_n 0, 1) := by decide +kernel
theorem dX3_add_1 : decode cX3_add 1 = .ok (.getfield 13, 3) := by decide +kernel
theorem dX3_add_4 : decode cX3_add 4 = .ok (.ifCond .lt 32, 3) := by decide +kernel
theorem dX3_add_7 : decode cX3_add 7 = .ok (.aload_n 0, 1) := by decide +kernel
theorem dX3_add_8 : decode cX3_add 8 = .ok (.getfield 13, 3) := by decide +kernel
theorem dX3_add_11 : decode cX3_add 11 = .ok (.bipush 8, 2) := by decide +kernel
theorem dX3_add_13 : decode cX3_add 13 = .ok (.if_icmp .ge 23, 3) := by decide +kernel
theorem dX3_add_16 : decode cX3_add 16 = .ok (.aload_n 0, 1) := by decide +kernel
theorem dX3_add_17 : decode cX3_add 17 = .ok (.getfield 9, 3) := by decide +kernel
theorem dX3_add_20 : decode cX3_add 20 = .ok (.aload_n 0, 1) := by decide +kernel
theorem dX3_add_21 : decode cX3_add 21 = .ok (.getfield 13, 3) := by decide +kernel
theorem dX3_add_24 : decode cX3_add 24 = .ok (.iload_n 1, 1) := by decide +kernel
theorem dX3_add_25 : decode cX3_add 25 = .ok (.iastore, 1) := by decide +kernel
theorem dX3_add_26 : decode cX3_add 26 = .ok (.aload_n 0, 1) := by decide +kernel
theorem dX3_add_27 : decode cX3_add 27 = .ok (.dup, 1) := by decide +kernel
theorem dX3_add_28 : decode cX3_add 28 = .ok (.getfield 13, 3) := by decide +kernel
theorem dX3_add_31 : decode cX3_add 31 = .ok (.iconst 1, 1) := by decide +kernel
theorem dX3_add_32 : decode cX3_add 32 = .ok (.iadd, 1) := by decide +kernel
theorem dX3_add_33 : decode cX3_add 33 = .ok (.putfield 13, 3) := by decide +kernel
theorem dX3_add_36 : decode cX3_add 36 = .ok (.return_, 1) := by decide +kernel
set_option maxRecDepth 20000 in
theorem ggX3_leadGuest_X2_hasGate : GoodIn wsX3_leadGuest wsX2_hasGate := goodIn_r _ [8, 9, 33, 34, 35, 36, 37, 38, 39, 40] (by decide +kernel) (by decide +kernel)
set_option maxRecDepth 20000 in
theorem gX3_leadGuest_X2_hasGate : GoodIn wsX3_leadGuest (wsV RX3 17 RX2 yX2_hasGate wsX2_hasGate) := goodIn_app (goodIn_of _ (by decide +kernel)) ggX3_leadGuest_X2_hasGate
set_option maxRecDepth 20000 in
theorem ggX3_leadGuest_X2_isOpenFrom : GoodIn wsX3_leadGuest wsX2_isOpenFrom := goodIn_r _ [13, 14, 15, 16, 5, 6, 7, 8, 9, 17, 18, 19, 20, 21, 22, 23, 24, 25, 26, 33, 34, 35, 36, 37, 38, 39, 40] (by decide +kernel) (by decide +kernel)
set_option maxRecDepth 20000 in
theorem gX3_leadGuest_X2_isOpenFrom : GoodIn wsX3_leadGuest (wsV RX3 23 RX2 yX2_isOpenFrom wsX2_isOpenFrom) := goodIn_app (goodIn_of _ (by decide +kernel)) ggX3_leadGuest_X2_isOpenFrom
set_option maxRecDepth 20000 in
theorem ggX3_leadGuest_X2_beyond : GoodIn wsX3_leadGuest wsX2_beyond := goodIn_r _ [30, 14, 15, 16, 5, 6, 7, 8, 9, 33, 34, 35, 36, 37, 38, 39, 40] (by decide +kernel) (by decide +kernel)
set_option maxRecDepth 20000 in
theorem gX3_leadGuest_X2_beyond : GoodIn wsX3_leadGuest (wsV RX3 30 RX2 yX2_beyond wsX2_beyond) := goodIn_app (goodIn_of _ (by decide +kernel)) ggX3_leadGuest_X2_beyond
theorem dX3_leadGuest_0 : decode cX3_leadGuest 0 = .ok (.iconst 0, 1) := by decide +kernel
theorem dX3_leadGuest_1 : decode cX3_leadGuest 1 = .ok (.istore_n 2, 1) := by decide +kernel
theorem dX3_leadGuest_2 : decode cX3_leadGuest 2 = .ok (.iconst 0, 1) := by decide +kernel
theorem dX3_leadGuest_3 : decode cX3_leadGuest 3 = .ok (.istore_n 3, 1) := by decide +kernel
theorem dX3_leadGuest_4 : decode cX3_leadGuest 4 = .ok (.iload_n 3, 1) := by decide +kernel
theorem dX3_leadGuest_5 : decode cX3_leadGuest 5 = .ok (.aload_n 0, 1) := by decide +kernel
theorem dX3_leadGuest_6 : decode cX3_leadGuest 6 = .ok (.getfield 13, 3) := by decide +kernel
theorem dX3_leadGuest_9 : decode cX3_leadGuest 9 = .ok (.if_icmp .ge 62, 3) := by decide +kernel
theorem dX3_leadGuest_12 : decode cX3_leadGuest 12 = .ok (.iload_n 3, 1) := by decide +kernel
theorem dX3_leadGuest_13 : decode cX3_leadGuest 13 = .ok (.bipush 8, 2) := by decide +kernel
theorem dX3_leadGuest_15 : decode cX3_leadGuest 15 = .ok (.if_icmp .ge 56, 3) := by decide +kernel
theorem dX3_leadGuest_18 : decode cX3_leadGuest 18 = .ok (.aload_n 0, 1) := by decide +kernel
theorem dX3_leadGuest_19 : decode cX3_leadGuest 19 = .ok (.getfield 9, 3) := by decide +kernel
theorem dX3_leadGuest_22 : decode cX3_leadGuest 22 = .ok (.iload_n 3, 1) := by decide +kernel
theorem dX3_leadGuest_23 : decode cX3_leadGuest 23 = .ok (.iaload, 1) := by decide +kernel
theorem dX3_leadGuest_24 : decode cX3_leadGuest 24 = .ok (.istore 4, 2) := by decide +kernel
theorem dX3_leadGuest_26 : decode cX3_leadGuest 26 = .ok (.aload_n 1, 1) := by decide +kernel
theorem dX3_leadGuest_27 : decode cX3_leadGuest 27 = .ok (.iload 4, 2) := by decide +kernel
theorem dX3_leadGuest_29 : decode cX3_leadGuest 29 = .ok (.invokevirtual 17, 3) := by decide +kernel
theorem dX3_leadGuest_32 : decode cX3_leadGuest 32 = .ok (.ifCond .eq 13, 3) := by decide +kernel
theorem dX3_leadGuest_35 : decode cX3_leadGuest 35 = .ok (.aload_n 1, 1) := by decide +kernel
theorem dX3_leadGuest_36 : decode cX3_leadGuest 36 = .ok (.iload_n 2, 1) := by decide +kernel
theorem dX3_leadGuest_37 : decode cX3_leadGuest 37 = .ok (.iload 4, 2) := by decide +kernel
theorem dX3_leadGuest_39 : decode cX3_leadGuest 39 = .ok (.invokevirtual 23, 3) := by decide +kernel
theorem dX3_leadGuest_42 : decode cX3_leadGuest 42 = .ok (.ifCond .ne 4, 3) := by decide +kernel
theorem dX3_leadGuest_45 : decode cX3_leadGuest 45 = .ok (.return_, 1) := by decide +kernel
theorem dX3_leadGuest_46 : decode cX3_leadGuest 46 = .ok (.aload_n 1, 1) := by decide +kernel
theorem dX3_leadGuest_47 : decode cX3_leadGuest 47 = .ok (.getfield 27, 3) := by decide +kernel
theorem dX3_leadGuest_50 : decode cX3_leadGuest 50 = .ok (.iload 4, 2) := by decide +kernel
theorem dX3_leadGuest_52 : decode cX3_leadGuest 52 = .ok (.dup2, 1) := by decide +kernel
theorem dX3_leadGuest_53 : decode cX3_leadGuest 53 = .ok (.iaload, 1) := by decide +kernel
theorem dX3_leadGuest_54 : decode cX3_leadGuest 54 = .ok (.iconst 1, 1) := by decide +kernel
theorem dX3_leadGuest_55 : decode cX3_leadGuest 55 = .ok (.iadd, 1) := by decide +kernel
theorem dX3_leadGuest_56 : decode cX3_leadGuest 56 = .ok (.iastore, 1) := by decide +kernel
theorem dX3_leadGuest_57 : decode cX3_leadGuest 57 = .ok (.aload_n 1, 1) := by decide +kernel
theorem dX3_leadGuest_58 : decode cX3_leadGuest 58 = .ok (.iload_n 2, 1) := by decide +kernel
theorem dX3_leadGuest_59 : decode cX3_leadGuest 59 = .ok (.iload 4, 2) := by decide +kernel
theorem dX3_leadGuest_61 : decode cX3_leadGuest 61 = .ok (.invokevirtual 30, 3) := by decide +kernel
theorem dX3_leadGuest_64 : decode cX3_leadGuest 64 = .ok (.istore_n 2, 1) := by decide +kernel
theorem dX3_leadGuest_65 : decode cX3_leadGuest 65 = .ok (.iinc 3 1, 3) := by decide +kernel
theorem dX3_leadGuest_68 : decode cX3_leadGuest 68 = .ok (.goto (-64), 3) := by decide +kernel
theorem dX3_leadGuest_71 : decode cX3_leadGuest 71 = .ok (.return_, 1) := by decide +kernel
theorem dX4_init_0 : decode cX4_init 0 = .ok (.aload_n 0, 1) := by decide +kernel
theorem dX4_init_1 : decode cX4_init 1 = .ok (.invokespecial 1, 3) := by decide +kernel
theorem dX4_init_4 : decode cX4_init 4 = .ok (.aload_n 0, 1) := by decide +kernel
theorem dX4_init_5 : decode cX4_init 5 = .ok (.bipush 10, 2) := by decide +kernel
theorem dX4_init_7 : decode cX4_init 7 = .ok (.newarray .int, 2) := by decide +kernel
theorem dX4_init_9 : decode cX4_init 9 = .ok (.putfield 9, 3) := by decide +kernel
theorem dX4_init_12 : decode cX4_init 12 = .ok (.aload_n 0, 1) := by decide +kernel
theorem dX4_init_13 : decode cX4_init 13 = .ok (.bipush 10, 2) := by decide +kernel
theorem dX4_init_15 : decode cX4_init 15 = .ok (.newarray .boolean, 2) := by decide +kernel
theorem dX4_init_17 : decode cX4_init 17 = .ok (.putfield 13, 3) := by decide +kernel
theorem dX4_init_20 : decode cX4_init 20 = .ok (.aload_n 0, 1) := by decide +kernel
theorem dX4_init_21 : decode cX4_init 21 = .ok (.iconst 0, 1) := by decide +kernel
theorem dX4_init_22 : decode cX4_init 22 = .ok (.putfield 17, 3) := by decide +kernel
theorem dX4_init_25 : decode cX4_init 25 = .ok (.return_, 1) := by decide +kernel
theorem dX4_hasRoom_0 : decode cX4_hasRoom 0 = .ok (.aload_n 0, 1) := by decide +kernel
theorem dX4_hasRoom_1 : decode cX4_hasRoom 1 = .ok (.getfield 17, 3) := by decide +kernel
theorem dX4_hasRoom_4 : decode cX4_hasRoom 4 = .ok (.bipush 10, 2) := by decide +kernel
theorem dX4_hasRoom_6 : decode cX4_hasRoom 6 = .ok (.if_icmp .ge 7, 3) := by decide +kernel
theorem dX4_hasRoom_9 : decode cX4_hasRoom 9 = .ok (.iconst 1, 1) := by decide +kernel
theorem dX4_hasRoom_10 : decode cX4_hasRoom 10 = .ok (.goto 4, 3) := by decide +kernel
theorem dX4_hasRoom_13 : decode cX4_hasRoom 13 = .ok (.iconst 0, 1) := by decide +kernel
theorem dX4_hasRoom_14 : decode cX4_hasRoom 14 = .ok (.ireturn, 1) := by decide +kernel
theorem dX4_add_0 : decode cX4_add 0 = .ok (.aload_n 0, 1) := by decide +kernel
theorem dX4_add_1 : decode cX4_add 1 = .ok (.getfield 17, 3) := by decide +kernel
theorem dX4_add_4 : decode cX4_add 4 = .ok (.ifCond .lt 42, 3) := by decide +kernel
theorem dX4_add_7 : decode cX4_add 7 = .ok (.aload_n 0, 1) := by decide +kernel
theorem dX4_add_8 : decode cX4_add 8 = .ok (.getfield 17, 3) := by decide +kernel
theorem dX4_add_11 : decode cX4_add 11 = .ok (.bipush 10, 2) := by decide +kernel
theorem dX4_add_13 : decode cX4_add 13 = .ok (.if_icmp .ge 33, 3) := by decide +kernel
theorem dX4_add_16 : decode cX4_add 16 = .ok (.aload_n 0, 1) := by decide +kernel
theorem dX4_add_17 : decode cX4_add 17 = .ok (.getfield 9, 3) := by decide +kernel
theorem dX4_add_20 : decode cX4_add 20 = .ok (.aload_n 0, 1) := by decide +kernel
theorem dX4_add_21 : decode cX4_add 21 = .ok (.getfield 17, 3) := by decide +kernel
theorem dX4_add_24 : decode cX4_add 24 = .ok (.iload_n 1, 1) := by decide +kernel
theorem dX4_add_25 : decode cX4_add 25 = .ok (.iastore, 1) := by decide +kernel
theorem dX4_add_26 : decode cX4_add 26 = .ok (.aload_n 0, 1) := by decide +kernel
theorem dX4_add_27 : decode cX4_add 27 = .ok (.getfield 13, 3) := by decide +kernel
theorem dX4_add_30 : decode cX4_add 30 = .ok (.aload_n 0, 1) := by decide +kernel
theorem dX4_add_31 : decode cX4_add 31 = .ok (.getfield 17, 3) := by decide +kernel
theorem dX4_add_34 : decode cX4_add 34 = .ok (.iload_n 2, 1) := by decide +kernel
theorem dX4_add_35 : decode cX4_add 35 = .ok (.bastore, 1) := by decide +kernel
theorem dX4_add_36 : decode cX4_add 36 = .ok (.aload_n 0, 1) := by decide +kernel
theorem dX4_add_37 : decode cX4_add 37 = .ok (.dup, 1) := by decide +kernel
theorem dX4_add_38 : decode cX4_add 38 = .ok (.getfield 17, 3) := by decide +kernel
theorem dX4_add_41 : decode cX4_add 41 = .ok (.iconst 1, 1) := by decide +kernel
theorem dX4_add_42 : decode cX4_add 42 = .ok (.iadd, 1) := by decide +kernel
theorem dX4_add_43 : decode cX4_add 43 = .ok (.putfield 17, 3) := by decide +kernel
theorem dX4_add_46 : decode cX4_add 46 = .ok (.return_, 1) := by decide +kernel
theorem dX4_fit_0 : decode cX4_fit 0 = .ok (.iconst 0, 1) := by decide +kernel
theorem dX4_fit_1 : decode cX4_fit 1 = .ok (.istore_n 2, 1) := by decide +kernel
theorem dX4_fit_2 : decode cX4_fit 2 = .ok (.iload_n 2, 1) := by decide +kernel
theorem dX4_fit_3 : decode cX4_fit 3 = .ok (.aload_n 0, 1) := by decide +kernel
theorem dX4_fit_4 : decode cX4_fit 4 = .ok (.getfield 17, 3) := by decide +kernel
theorem dX4_fit_7 : decode cX4_fit 7 = .ok (.if_icmp .ge 46, 3) := by decide +kernel
theorem dX4_fit_10 : decode cX4_fit 10 = .ok (.iload_n 2, 1) := by decide +kernel
theorem dX4_fit_11 : decode cX4_fit 11 = .ok (.bipush 10, 2) := by decide +kernel
theorem dX4_fit_13 : decode cX4_fit 13 = .ok (.if_icmp .ge 40, 3) := by decide +kernel
theorem dX4_fit_16 : decode cX4_fit 16 = .ok (.iload_n 1, 1) := by decide +kernel
theorem dX4_fit_17 : decode cX4_fit 17 = .ok (.aload_n 0, 1) := by decide +kernel
theorem dX4_fit_18 : decode cX4_fit 18 = .ok (.getfield 9, 3) := by decide +kernel
theorem dX4_fit_21 : decode cX4_fit 21 = .ok (.iload_n 2, 1) := by decide +kernel
theorem dX4_fit_22 : decode cX4_fit 22 = .ok (.iaload, 1) := by decide +kernel
theorem dX4_fit_23 : decode cX4_fit 23 = .ok (.ishr, 1) := by decide +kernel
theorem dX4_fit_24 : decode cX4_fit 24 = .ok (.iconst 1, 1) := by decide +kernel
theorem dX4_fit_25 : decode cX4_fit 25 = .ok (.iand, 1) := by decide +kernel
theorem dX4_fit_26 : decode cX4_fit 26 = .ok (.ifCond .eq 7, 3) := by decide +kernel
theorem dX4_fit_29 : decode cX4_fit 29 = .ok (.iconst 1, 1) := by decide +kernel
theorem dX4_fit_30 : decode cX4_fit 30 = .ok (.goto 4, 3) := by decide +kernel
theorem dX4_fit_33 : decode cX4_fit 33 = .ok (.iconst 0, 1) := by decide +kernel
theorem dX4_fit_34 : decode cX4_fit 34 = .ok (.istore_n 3, 1) := by decide +kernel
theorem dX4_fit_35 : decode cX4_fit 35 = .ok (.iload_n 3, 1) := by decide +kernel
theorem dX4_fit_36 : decode cX4_fit 36 = .ok (.aload_n 0, 1) := by decide +kernel
theorem dX4_fit_37 : decode cX4_fit 37 = .ok (.getfield 13, 3) := by decide +kernel
theorem dX4_fit_40 : decode cX4_fit 40 = .ok (.iload_n 2, 1) := by decide +kernel
theorem dX4_fit_41 : decode cX4_fit 41 = .ok (.baload, 1) := by decide +kernel
theorem dX4_fit_42 : decode cX4_fit 42 = .ok (.if_icmp .eq 5, 3) := by decide +kernel
theorem dX4_fit_45 : decode cX4_fit 45 = .ok (.iconst 0, 1) := by decide +kernel
theorem dX4_fit_46 : decode cX4_fit 46 = .ok (.ireturn, 1) := by decide +kernel
theorem dX4_fit_47 : decode cX4_fit 47 = .ok (.iinc 2 1, 3) := by decide +kernel
theorem dX4_fit_50 : decode cX4_fit 50 = .ok (.goto (-48), 3) := by decide +kernel
theorem dX4_fit_53 : decode cX4_fit 53 = .ok (.iconst 1, 1) := by decide +kernel
theorem dX4_fit_54 : decode cX4_fit 54 = .ok (.ireturn, 1) := by decide +kernel
theorem dX5_init_0 : decode cX5_init 0 = .ok (.aload_n 0, 1) := by decide +kernel
theorem dX5_init_1 : decode cX5_init 1 = .ok (.invokespecial 3, 3) := by decide +kernel
theorem dX5_init_4 : decode cX5_init 4 = .ok (.aload_n 0, 1) := by decide +kernel
theorem dX5_init_5 : decode cX5_init 5 = .ok (.sipush 200, 3) := by decide +kernel
theorem dX5_init_8 : decode cX5_init 8 = .ok (.newarray .int, 2) := by decide +kernel
theorem dX5_init_10 : decode cX5_init 10 = .ok (.putfield 11, 3) := by decide +kernel
theorem dX5_init_13 : decode cX5_init 13 = .ok (.aload_n 0, 1) := by decide +kernel
theorem dX5_init_14 : decode cX5_init 14 = .ok (.iconst 0, 1) := by decide +kernel
theorem dX5_init_15 : decode cX5_init 15 = .ok (.putfield 15, 3) := by decide +kernel
theorem dX5_init_18 : decode cX5_init 18 = .ok (.aload_n 0, 1) := by decide +kernel
theorem dX5_init_19 : decode cX5_init 19 = .ok (.iconst 0, 1) := by decide +kernel
theorem dX5_init_20 : decode cX5_init 20 = .ok (.putfield 19, 3) := by decide +kernel
theorem dX5_init_23 : decode cX5_init 23 = .ok (.return_, 1) := by decide +kernel
theorem dX5_hasRoom_0 : decode cX5_hasRoom 0 = .ok (.iload_n 1, 1) := by decide +kernel
theorem dX5_hasRoom_1 : decode cX5_hasRoom 1 = .ok (.sipush 200, 3) := by decide +kernel
theorem dX5_hasRoom_4 : decode cX5_hasRoom 4 = .ok (.aload_n 0, 1) := by decide +kernel
theorem dX5_hasRoom_5 : decode cX5_hasRoom 5 = .ok (.getfield 15, 3) := by decide +kernel
theorem dX5_hasRoom_8 : decode cX5_hasRoom 8 = .ok (.isub, 1) := by decide +kernel
theorem dX5_hasRoom_9 : decode cX5_hasRoom 9 = .ok (.if_icmp .gt 7, 3) := by decide +kernel
theorem dX5_hasRoom_12 : decode cX5_hasRoom 12 = .ok (.iconst 1, 1) := by decide +kernel
theorem dX5_hasRoom_13 : decode cX5_hasRoom 13 = .ok (.goto 4, 3) := by decide +kernel
theorem dX5_hasRoom_16 : decode cX5_hasRoom 16 = .ok (.iconst 0, 1) := by decide +kernel
theorem dX5_hasRoom_17 : decode cX5_hasRoom 17 = .ok (.ireturn, 1) := by decide +kernel
theorem dX5_append_0 : decode cX5_append 0 = .ok (.iload_n 1, 1) := by decide +kernel
theorem dX5_append_1 : decode cX5_append 1 = .ok (.iconst 1, 1) := by decide +kernel
theorem dX5_append_2 : decode cX5_append 2 = .ok (.isub, 1) := by decide +kernel
theorem dX5_append_3 : decode cX5_append 3 = .ok (.istore 4, 2) := by decide +kernel
theorem dX5_append_5 : decode cX5_append 5 = .ok (.iload 4, 2) := by decide +kernel
theorem dX5_append_7 : decode cX5_append 7 = .ok (.ifCond .lt 50, 3) := by decide +kernel
theorem dX5_append_10 : decode cX5_append 10 = .ok (.aload_n 0, 1) := by decide +kernel
theorem dX5_append_11 : decode cX5_append 11 = .ok (.getfield 15, 3) := by decide +kernel
theorem dX5_append_14 : decode cX5_append 14 = .ok (.sipush 200, 3) := by decide +kernel
theorem dX5_append_17 : decode cX5_append 17 = .ok (.if_icmp .ge 40, 3) := by decide +kernel
theorem dX5_append_20 : decode cX5_append 20 = .ok (.aload_n 0, 1) := by decide +kernel
theorem dX5_append_21 : decode cX5_append 21 = .ok (.getfield 11, 3) := by decide +kernel
theorem dX5_append_24 : decode cX5_append 24 = .ok (.aload_n 0, 1) := by decide +kernel
theorem dX5_append_25 : decode cX5_append 25 = .ok (.getfield 15, 3) := by decide +kernel
theorem dX5_append_28 : decode cX5_append 28 = .ok (.lload_n 2, 1) := by decide +kernel
theorem dX5_append_29 : decode cX5_append 29 = .ok (.bipush 8, 2) := by decide +kernel
theorem dX5_append_31 : decode cX5_append 31 = .ok (.iload 4, 2) := by decide +kernel
theorem dX5_append_33 : decode cX5_append 33 = .ok (.imul, 1) := by decide +kernel
theorem dX5_append_34 : decode cX5_append 34 = .ok (.lushr, 1) := by decide +kernel
theorem dX5_append_35 : decode cX5_append 35 = .ok (.l2i, 1) := by decide +kernel
theorem dX5_append_36 : decode cX5_append 36 = .ok (.sipush 255, 3) := by decide +kernel
theorem dX5_append_39 : decode cX5_append 39 = .ok (.iand, 1) := by decide +kernel
theorem dX5_append_40 : decode cX5_append 40 = .ok (.iastore, 1) := by decide +kernel
theorem dX5_append_41 : decode cX5_append 41 = .ok (.aload_n 0, 1) := by decide +kernel
theorem dX5_append_42 : decode cX5_append 42 = .ok (.dup, 1) := by decide +kernel
theorem dX5_append_43 : decode cX5_append 43 = .ok (.getfield 15, 3) := by decide +kernel
theorem dX5_append_46 : decode cX5_append 46 = .ok (.iconst 1, 1) := by decide +kernel
theorem dX5_append_47 : decode cX5_append 47 = .ok (.iadd, 1) := by decide +kernel
theorem dX5_append_48 : decode cX5_append 48 = .ok (.putfield 15, 3) := by decide +kernel
theorem dX5_append_51 : decode cX5_append 51 = .ok (.iinc 4 (-1), 3) := by decide +kernel
theorem dX5_append_54 : decode cX5_append 54 = .ok (.goto (-49), 3) := by decide +kernel
theorem dX5_append_57 : decode cX5_append 57 = .ok (.return_, 1) := by decide +kernel
set_option maxRecDepth 20000 in
theorem ggX5_readInto_X2_clear : GoodIn wsX5_readInto wsX2_clear := goodIn_r _ [7, 8, 9, 10, 11, 12, 6, 13, 14, 15, 16, 17, 18, 19, 20, 21, 22, 23, 24, 25, 26, 72, 73, 74, 75, 76, 77, 78, 79] (by decide +kernel) (by decide +kernel)
set_option maxRecDepth 20000 in
theorem gX5_readInto_X2_clear : GoodIn wsX5_readInto (wsV RX5 22 RX2 yX2_clear wsX2_clear) := goodIn_app (goodIn_of _ (by decide +kernel)) ggX5_readInto_X2_clear
set_option maxRecDepth 20000 in
theorem ggX5_readInto_X5_readItem : GoodIn wsX5_readInto wsX5_readItem := goodIn_r _ [31, 32, 33, 34, 30, 35, 1, 36, 37, 38, 39, 2, 40, 41, 42, 43, 44, 45, 46, 47, 48, 49, 50, 51, 52, 53, 54, 55, 6, 56, 8, 57, 58, 59, 60, 61, 62, 63, 64, 65, 66, 67, 68, 11, 12, 13, 14, 15, 16, 17, 18, 19, 20, 21, 22, 23, 24, 25, 26, 69, 70, 71, 72, 73, 74, 75, 76, 77, 78, 79] (by decide +kernel) (by decide +kernel)
set_option maxRecDepth 20000 in
theorem gX5_readInto_X5_readItem : GoodIn wsX5_readInto (wsV RX5 27 RX5 yX5_readItem wsX5_readItem) := goodIn_app (goodIn_of _ (by decide +kernel)) ggX5_readInto_X5_readItem
theorem dX5_readInto_0 : decode cX5_readInto 0 = .ok (.aload_n 1, 1) := by decide +kernel
theorem dX5_readInto_1 : decode cX5_readInto 1 = .ok (.invokevirtual 22, 3) := by decide +kernel
theorem dX5_readInto_4 : decode cX5_readInto 4 = .ok (.aload_n 0, 1) := by decide +kernel
theorem dX5_readInto_5 : decode cX5_readInto 5 = .ok (.iconst 0, 1) := by decide +kernel
theorem dX5_readInto_6 : decode cX5_readInto 6 = .ok (.putfield 19, 3) := by decide +kernel
theorem dX5_readInto_9 : decode cX5_readInto 9 = .ok (.iconst 0, 1) := by decide +kernel
theorem dX5_readInto_10 : decode cX5_readInto 10 = .ok (.istore_n 2, 1) := by decide +kernel
theorem dX5_readInto_11 : decode cX5_readInto 11 = .ok (.iload_n 2, 1) := by decide +kernel
theorem dX5_readInto_12 : decode cX5_readInto 12 = .ok (.sipush 200, 3) := by decide +kernel
theorem dX5_readInto_15 : decode cX5_readInto 15 = .ok (.if_icmp .ge 35, 3) := by decide +kernel
theorem dX5_readInto_18 : decode cX5_readInto 18 = .ok (.aload_n 0, 1) := by decide +kernel
theorem dX5_readInto_19 : decode cX5_readInto 19 = .ok (.getfield 19, 3) := by decide +kernel
theorem dX5_readInto_22 : decode cX5_readInto 22 = .ok (.aload_n 0, 1) := by decide +kernel
theorem dX5_readInto_23 : decode cX5_readInto 23 = .ok (.getfield 15, 3) := by decide +kernel
theorem dX5_readInto_26 : decode cX5_readInto 26 = .ok (.if_icmp .ge 24, 3) := by decide +kernel
theorem dX5_readInto_29 : decode cX5_readInto 29 = .ok (.aload_n 0, 1) := by decide +kernel
theorem dX5_readInto_30 : decode cX5_readInto 30 = .ok (.getfield 19, 3) := by decide +kernel
theorem dX5_readInto_33 : decode cX5_readInto 33 = .ok (.istore_n 3, 1) := by decide +kernel
theorem dX5_readInto_34 : decode cX5_readInto 34 = .ok (.aload_n 0, 1) := by decide +kernel
theorem dX5_readInto_35 : decode cX5_readInto 35 = .ok (.aload_n 1, 1) := by decide +kernel
theorem dX5_readInto_36 : decode cX5_readInto 36 = .ok (.invokevirtual 27, 3) := by decide +kernel
theorem dX5_readInto_39 : decode cX5_readInto 39 = .ok (.ifCond .ne 5, 3) := by decide +kernel
theorem dX5_readInto_42 : decode cX5_readInto 42 = .ok (.iload_n 3, 1) := by decide +kernel
theorem dX5_readInto_43 : decode cX5_readInto 43 = .ok (.ireturn, 1) := by decide +kernel
theorem dX5_readInto_44 : decode cX5_readInto 44 = .ok (.iinc 2 1, 3) := by decide +kernel
theorem dX5_readInto_47 : decode cX5_readInto 47 = .ok (.goto (-36), 3) := by decide +kernel
theorem dX5_readInto_50 : decode cX5_readInto 50 = .ok (.bipush (-4), 2) := by decide +kernel
theorem dX5_readInto_52 : decode cX5_readInto 52 = .ok (.ireturn, 1) := by decide +kernel
set_option maxRecDepth 20000 in
theorem ggX5_readItem_X5_takes : GoodIn wsX5_readItem wsX5_takes := goodIn_r _ [5, 6, 7, 8, 9, 4, 10, 11, 12, 59, 60, 61] (by decide +kernel) (by decide +kernel)
set_option maxRecDepth 20000 in
theorem gX5_readItem_X5_takes : GoodIn wsX5_readItem (wsV RX5 31 RX5 yX5_takes wsX5_takes) := goodIn_app (goodIn_of _ (by decide +kernel)) ggX5_readItem_X5_takes
set_option maxRecDepth 20000 in
theorem ggX5_readItem_X5_readGate : GoodIn wsX5_readItem wsX5_readGate := goodIn_r _ [16, 17, 18, 19, 4, 20, 21, 22, 23, 24, 6, 7, 8, 9, 10, 11, 12, 1, 2, 3, 5, 25, 26, 27, 28, 29, 30, 31, 32, 33, 34, 35, 36, 37, 59, 60, 61, 62, 63, 64, 65, 66, 67, 68, 69] (by decide +kernel) (by decide +kernel)
set_option maxRecDepth 20000 in
theorem gX5_readItem_X5_readGate : GoodIn wsX5_readItem (wsV RX5 35 RX5 yX5_readGate wsX5_readGate) := goodIn_app (goodIn_of _ (by decide +kernel)) ggX5_readItem_X5_readGate
set_option maxRecDepth 20000 in
theorem ggX5_readItem_X5_readPersons : GoodIn wsX5_readItem wsX5_readPersons := goodIn_r _ [41, 17, 18, 19, 4, 20, 21, 22, 23, 24, 6, 7, 8, 9, 10, 11, 12, 1, 2, 3, 5, 42, 43, 44, 28, 45, 46, 47, 48, 49, 50, 51, 52, 53, 54, 55, 56, 57, 58, 59, 60, 61, 62, 63, 64, 65, 66, 67, 68, 69] (by decide +kernel) (by decide +kernel)
set_option maxRecDepth 20000 in
theorem gX5_readItem_X5_readPersons : GoodIn wsX5_readItem (wsV RX5 38 RX5 yX5_readPersons wsX5_readPersons) := goodIn_app (goodIn_of _ (by decide +kernel)) ggX5_readItem_X5_readPersons
theorem dX5_readItem_0 : decode cX5_readItem 0 = .ok (.aload_n 0, 1) := by decide +kernel
theorem dX5_readItem_1 : decode cX5_readItem 1 = .ok (.bipush 103, 2) := by decide +kernel
theorem dX5_readItem_3 : decode cX5_readItem 3 = .ok (.invokevirtual 31, 3) := by decide +kernel
theorem dX5_readItem_6 : decode cX5_readItem 6 = .ok (.ifCond .eq 9, 3) := by decide +kernel
theorem dX5_readItem_9 : decode cX5_readItem 9 = .ok (.aload_n 0, 1) := by decide +kernel
theorem dX5_readItem_10 : decode cX5_readItem 10 = .ok (.aload_n 1, 1) := by decide +kernel
theorem dX5_readItem_11 : decode cX5_readItem 11 = .ok (.invokevirtual 35, 3) := by decide +kernel
theorem dX5_readItem_14 : decode cX5_readItem 14 = .ok (.ireturn, 1) := by decide +kernel
theorem dX5_readItem_15 : decode cX5_readItem 15 = .ok (.aload_n 0, 1) := by decide +kernel
theorem dX5_readItem_16 : decode cX5_readItem 16 = .ok (.bipush 110, 2) := by decide +kernel
theorem dX5_readItem_18 : decode cX5_readItem 18 = .ok (.invokevirtual 31, 3) := by decide +kernel
theorem dX5_readItem_21 : decode cX5_readItem 21 = .ok (.ifCond .eq 15, 3) := by decide +kernel
theorem dX5_readItem_24 : decode cX5_readItem 24 = .ok (.aload_n 0, 1) := by decide +kernel
theorem dX5_readItem_25 : decode cX5_readItem 25 = .ok (.aload_n 1, 1) := by decide +kernel
theorem dX5_readItem_26 : decode cX5_readItem 26 = .ok (.invokevirtual 38, 3) := by decide +kernel
theorem dX5_readItem_29 : decode cX5_readItem 29 = .ok (.ifCond .eq 7, 3) := by decide +kernel
theorem dX5_readItem_32 : decode cX5_readItem 32 = .ok (.iconst 1, 1) := by decide +kernel
theorem dX5_readItem_33 : decode cX5_readItem 33 = .ok (.goto 4, 3) := by decide +kernel
theorem dX5_readItem_36 : decode cX5_readItem 36 = .ok (.iconst 0, 1) := by decide +kernel
theorem dX5_readItem_37 : decode cX5_readItem 37 = .ok (.ireturn, 1) := by decide +kernel
set_option maxRecDepth 20000 in
theorem ggX5_readGate_X5_number : GoodIn wsX5_readGate wsX5_number := goodIn_r _ [5, 6, 7, 8, 4, 9, 10, 11, 12, 13, 14, 15, 16, 17, 18, 19, 20, 34, 35, 36] (by decide +kernel) (by decide +kernel)
set_option maxRecDepth 20000 in
theorem gX5_readGate_X5_number : GoodIn wsX5_readGate (wsV RX5 41 RX5 yX5_number wsX5_number) := goodIn_app (goodIn_of _ (by decide +kernel)) ggX5_readGate_X5_number
set_option maxRecDepth 20000 in
theorem ggX5_readGate_X2_addGate : GoodIn wsX5_readGate wsX2_addGate := goodIn_r _ [25, 26, 27, 28, 29, 30, 31, 32, 33, 37, 38, 39, 40, 41, 42, 43, 44] (by decide +kernel) (by decide +kernel)
set_option maxRecDepth 20000 in
theorem gX5_readGate_X2_addGate : GoodIn wsX5_readGate (wsV RX5 45 RX2 yX2_addGate wsX2_addGate) := goodIn_app (goodIn_of _ (by decide +kernel)) ggX5_readGate_X2_addGate
theorem dX5_readGate_0 : decode cX5_readGate 0 = .ok (.aload_n 0, 1) := by decide +kernel
theorem dX5_readGate_1 : decode cX5_readGate 1 = .ok (.bipush 44, 2) := by decide +kernel
theorem dX5_readGate_3 : decode cX5_readGate 3 = .ok (.invokevirtual 41, 3) := by decide +kernel
theorem dX5_readGate_6 : decode cX5_readGate 6 = .ok (.istore_n 2, 1) := by decide +kernel
theorem dX5_readGate_7 : decode cX5_readGate 7 = .ok (.aload_n 0, 1) := by decide +kernel
theorem dX5_readGate_8 : decode cX5_readGate 8 = .ok (.bipush 44, 2) := by decide +kernel
theorem dX5_readGate_10 : decode cX5_readGate 10 = .ok (.invokevirtual 41, 3) := by decide +kernel
theorem dX5_readGate_13 : decode cX5_readGate 13 = .ok (.istore_n 3, 1) := by decide +kernel
theorem dX5_readGate_14 : decode cX5_readGate 14 = .ok (.aload_n 0, 1) := by decide +kernel
theorem dX5_readGate_15 : decode cX5_readGate 15 = .ok (.bipush 44, 2) := by decide +kernel
theorem dX5_readGate_17 : decode cX5_readGate 17 = .ok (.invokevirtual 41, 3) := by decide +kernel
theorem dX5_readGate_20 : decode cX5_readGate 20 = .ok (.istore 4, 2) := by decide +kernel
theorem dX5_readGate_22 : decode cX5_readGate 22 = .ok (.aload_n 0, 1) := by decide +kernel
theorem dX5_readGate_23 : decode cX5_readGate 23 = .ok (.bipush 59, 2) := by decide +kernel
theorem dX5_readGate_25 : decode cX5_readGate 25 = .ok (.invokevirtual 41, 3) := by decide +kernel
theorem dX5_readGate_28 : decode cX5_readGate 28 = .ok (.istore 5, 2) := by decide +kernel
theorem dX5_readGate_30 : decode cX5_readGate 30 = .ok (.aload_n 1, 1) := by decide +kernel
theorem dX5_readGate_31 : decode cX5_readGate 31 = .ok (.iload_n 2, 1) := by decide +kernel
theorem dX5_readGate_32 : decode cX5_readGate 32 = .ok (.iload_n 3, 1) := by decide +kernel
theorem dX5_readGate_33 : decode cX5_readGate 33 = .ok (.iload 4, 2) := by decide +kernel
theorem dX5_readGate_35 : decode cX5_readGate 35 = .ok (.iload 5, 2) := by decide +kernel
theorem dX5_readGate_37 : decode cX5_readGate 37 = .ok (.invokevirtual 45, 3) := by decide +kernel
theorem dX5_readGate_40 : decode cX5_readGate 40 = .ok (.ireturn, 1) := by decide +kernel
set_option maxRecDepth 20000 in
theorem ggX5_readPersons_X5_number : GoodIn wsX5_readPersons wsX5_number := goodIn_r _ [5, 6, 7, 8, 4, 9, 10, 11, 12, 13, 14, 15, 16, 17, 18, 19, 20, 39, 40, 41] (by decide +kernel) (by decide +kernel)
set_option maxRecDepth 20000 in
theorem gX5_readPersons_X5_number : GoodIn wsX5_readPersons (wsV RX5 41 RX5 yX5_number wsX5_number) := goodIn_app (goodIn_of _ (by decide +kernel)) ggX5_readPersons_X5_number
set_option maxRecDepth 20000 in
theorem ggX5_readPersons_X2_gather : GoodIn wsX5_readPersons wsX2_gather := goodIn_r _ [25, 26, 27, 28, 29, 30, 31, 32, 33, 34, 35, 36, 37, 38, 42, 43, 44, 45, 46, 47, 48, 49] (by decide +kernel) (by decide +kernel)
set_option maxRecDepth 20000 in
theorem gX5_readPersons_X2_gather : GoodIn wsX5_readPersons (wsV RX5 49 RX2 yX2_gather wsX2_gather) := goodIn_app (goodIn_of _ (by decide +kernel)) ggX5_readPersons_X2_gather
theorem dX5_readPersons_0 : decode cX5_readPersons 0 = .ok (.aload_n 0, 1) := by decide +kernel
theorem dX5_readPersons_1 : decode cX5_readPersons 1 = .ok (.bipush 59, 2) := by decide +kernel
theorem dX5_readPersons_3 : decode cX5_readPersons 3 = .ok (.invokevirtual 41, 3) := by decide +kernel
theorem dX5_readPersons_6 : decode cX5_readPersons 6 = .ok (.istore_n 2, 1) := by decide +kernel
theorem dX5_readPersons_7 : decode cX5_readPersons 7 = .ok (.iload_n 2, 1) := by decide +kernel
theorem dX5_readPersons_8 : decode cX5_readPersons 8 = .ok (.iconst 1, 1) := by decide +kernel
theorem dX5_readPersons_9 : decode cX5_readPersons 9 = .ok (.if_icmp .lt 8, 3) := by decide +kernel
theorem dX5_readPersons_12 : decode cX5_readPersons 12 = .ok (.iload_n 2, 1) := by decide +kernel
theorem dX5_readPersons_13 : decode cX5_readPersons 13 = .ok (.iconst 3, 1) := by decide +kernel
theorem dX5_readPersons_14 : decode cX5_readPersons 14 = .ok (.if_icmp .le 5, 3) := by decide +kernel
theorem dX5_readPersons_17 : decode cX5_readPersons 17 = .ok (.iconst 0, 1) := by decide +kernel
theorem dX5_readPersons_18 : decode cX5_readPersons 18 = .ok (.ireturn, 1) := by decide +kernel
theorem dX5_readPersons_19 : decode cX5_readPersons 19 = .ok (.aload_n 1, 1) := by decide +kernel
theorem dX5_readPersons_20 : decode cX5_readPersons 20 = .ok (.iload_n 2, 1) := by decide +kernel
theorem dX5_readPersons_21 : decode cX5_readPersons 21 = .ok (.invokevirtual 49, 3) := by decide +kernel
theorem dX5_readPersons_24 : decode cX5_readPersons 24 = .ok (.iconst 1, 1) := by decide +kernel
theorem dX5_readPersons_25 : decode cX5_readPersons 25 = .ok (.ireturn, 1) := by decide +kernel
set_option maxRecDepth 20000 in
theorem ggX5_number_X5_figure : GoodIn wsX5_number wsX5_figure := goodIn_r _ [5, 6, 7, 8, 9, 4, 10, 11, 12, 17, 18, 19] (by decide +kernel) (by decide +kernel)
set_option maxRecDepth 20000 in
theorem gX5_number_X5_figure : GoodIn wsX5_number (wsV RX5 53 RX5 yX5_figure wsX5_figure) := goodIn_app (goodIn_of _ (by decide +kernel)) ggX5_number_X5_figure
set_option maxRecDepth 20000 in
theorem ggX5_number_X5_takes : GoodIn wsX5_number wsX5_takes := goodIn_r _ [16, 6, 7, 8, 9, 4, 10, 11, 12, 17, 18, 19] (by decide +kernel) (by decide +kernel)
set_option maxRecDepth 20000 in
theorem gX5_number_X5_takes : GoodIn wsX5_number (wsV RX5 31 RX5 yX5_takes wsX5_takes) := goodIn_app (goodIn_of _ (by decide +kernel)) ggX5_number_X5_takes
theorem dX5_number_0 : decode cX5_number 0 = .ok (.aload_n 0, 1) := by decide +kernel
theorem dX5_number_1 : decode cX5_number 1 = .ok (.invokevirtual 53, 3) := by decide +kernel
theorem dX5_number_4 : decode cX5_number 4 = .ok (.istore_n 2, 1) := by decide +kernel
theorem dX5_number_5 : decode cX5_number 5 = .ok (.iload_n 2, 1) := by decide +kernel
theorem dX5_number_6 : decode cX5_number 6 = .ok (.iconst (-1), 1) := by decide +kernel
theorem dX5_number_7 : decode cX5_number 7 = .ok (.if_icmp .ne 5, 3) := by decide +kernel
theorem dX5_number_10 : decode cX5_number 10 = .ok (.iconst (-1), 1) := by decide +kernel
theorem dX5_number_11 : decode cX5_number 11 = .ok (.ireturn, 1) := by decide +kernel
theorem dX5_number_12 : decode cX5_number 12 = .ok (.aload_n 0, 1) := by decide +kernel
theorem dX5_number_13 : decode cX5_number 13 = .ok (.invokevirtual 53, 3) := by decide +kernel
theorem dX5_number_16 : decode cX5_number 16 = .ok (.istore_n 3, 1) := by decide +kernel
theorem dX5_number_17 : decode cX5_number 17 = .ok (.iload_n 3, 1) := by decide +kernel
theorem dX5_number_18 : decode cX5_number 18 = .ok (.iconst (-1), 1) := by decide +kernel
theorem dX5_number_19 : decode cX5_number 19 = .ok (.if_icmp .eq 10, 3) := by decide +kernel
theorem dX5_number_22 : decode cX5_number 22 = .ok (.bipush 10, 2) := by decide +kernel
theorem dX5_number_24 : decode cX5_number 24 = .ok (.iload_n 2, 1) := by decide +kernel
theorem dX5_number_25 : decode cX5_number 25 = .ok (.imul, 1) := by decide +kernel
theorem dX5_number_26 : decode cX5_number 26 = .ok (.iload_n 3, 1) := by decide +kernel
theorem dX5_number_27 : decode cX5_number 27 = .ok (.iadd, 1) := by decide +kernel
theorem dX5_number_28 : decode cX5_number 28 = .ok (.istore_n 2, 1) := by decide +kernel
theorem dX5_number_29 : decode cX5_number 29 = .ok (.aload_n 0, 1) := by decide +kernel
theorem dX5_number_30 : decode cX5_number 30 = .ok (.iload_n 1, 1) := by decide +kernel
theorem dX5_number_31 : decode cX5_number 31 = .ok (.invokevirtual 31, 3) := by decide +kernel
theorem dX5_number_34 : decode cX5_number 34 = .ok (.ifCond .eq 7, 3) := by decide +kernel
theorem dX5_number_37 : decode cX5_number 37 = .ok (.iload_n 2, 1) := by decide +kernel
theorem dX5_number_38 : decode cX5_number 38 = .ok (.goto 4, 3) := by decide +kernel
theorem dX5_number_41 : decode cX5_number 41 = .ok (.iconst (-1), 1) := by decide +kernel
theorem dX5_number_42 : decode cX5_number 42 = .ok (.ireturn, 1) := by decide +kernel
set_option maxRecDepth 20000 in
theorem ggX5_figure_X5_signHere : GoodIn wsX5_figure wsX5_signHere := goodIn_r _ [6, 1, 7, 8, 9, 10, 11] (by decide +kernel) (by decide +kernel)
set_option maxRecDepth 20000 in
theorem gX5_figure_X5_signHere : GoodIn wsX5_figure (wsV RX5 57 RX5 yX5_signHere wsX5_signHere) := goodIn_app (goodIn_of _ (by decide +kernel)) ggX5_figure_X5_signHere
theorem dX5_figure_0 : decode cX5_figure 0 = .ok (.aload_n 0, 1) := by decide +kernel
theorem dX5_figure_1 : decode cX5_figure 1 = .ok (.invokevirtual 57, 3) := by decide +kernel
theorem dX5_figure_4 : decode cX5_figure 4 = .ok (.istore_n 1, 1) := by decide +kernel
theorem dX5_figure_5 : decode cX5_figure 5 = .ok (.iload_n 1, 1) := by decide +kernel
theorem dX5_figure_6 : decode cX5_figure 6 = .ok (.bipush 48, 2) := by decide +kernel
theorem dX5_figure_8 : decode cX5_figure 8 = .ok (.if_icmp .lt 9, 3) := by decide +kernel
theorem dX5_figure_11 : decode cX5_figure 11 = .ok (.iload_n 1, 1) := by decide +kernel
theorem dX5_figure_12 : decode cX5_figure 12 = .ok (.bipush 57, 2) := by decide +kernel
theorem dX5_figure_14 : decode cX5_figure 14 = .ok (.if_icmp .le 5, 3) := by decide +kernel
theorem dX5_figure_17 : decode cX5_figure 17 = .ok (.iconst (-1), 1) := by decide +kernel
theorem dX5_figure_18 : decode cX5_figure 18 = .ok (.ireturn, 1) := by decide +kernel
theorem dX5_figure_19 : decode cX5_figure 19 = .ok (.aload_n 0, 1) := by decide +kernel
theorem dX5_figure_20 : decode cX5_figure 20 = .ok (.dup, 1) := by decide +kernel
theorem dX5_figure_21 : decode cX5_figure 21 = .ok (.getfield 19, 3) := by decide +kernel
theorem dX5_figure_24 : decode cX5_figure 24 = .ok (.iconst 1, 1) := by decide +kernel
theorem dX5_figure_25 : decode cX5_figure 25 = .ok (.iadd, 1) := by decide +kernel
theorem dX5_figure_26 : decode cX5_figure 26 = .ok (.putfield 19, 3) := by decide +kernel
theorem dX5_figure_29 : decode cX5_figure 29 = .ok (.iload_n 1, 1) := by decide +kernel
theorem dX5_figure_30 : decode cX5_figure 30 = .ok (.bipush 48, 2) := by decide +kernel
theorem dX5_figure_32 : decode cX5_figure 32 = .ok (.isub, 1) := by decide +kernel
theorem dX5_figure_33 : decode cX5_figure 33 = .ok (.ireturn, 1) := by decide +kernel
set_option maxRecDepth 20000 in
theorem ggX5_takes_X5_signHere : GoodIn wsX5_takes wsX5_signHere := goodIn_r _ [6, 1, 7, 8, 9, 10, 11] (by decide +kernel) (by decide +kernel)
set_option maxRecDepth 20000 in
theorem gX5_takes_X5_signHere : GoodIn wsX5_takes (wsV RX5 57 RX5 yX5_signHere wsX5_signHere) := goodIn_app (goodIn_of _ (by decide +kernel)) ggX5_takes_X5_signHere
theorem dX5_takes_0 : decode cX5_takes 0 = .ok (.aload_n 0, 1) := by decide +kernel
theorem dX5_takes_1 : decode cX5_takes 1 = .ok (.invokevirtual 57, 3) := by decide +kernel
theorem dX5_takes_4 : decode cX5_takes 4 = .ok (.iload_n 1, 1) := by decide +kernel
theorem dX5_takes_5 : decode cX5_takes 5 = .ok (.if_icmp .eq 5, 3) := by decide +kernel
theorem dX5_takes_8 : decode cX5_takes 8 = .ok (.iconst 0, 1) := by decide +kernel
theorem dX5_takes_9 : decode cX5_takes 9 = .ok (.ireturn, 1) := by decide +kernel
theorem dX5_takes_10 : decode cX5_takes 10 = .ok (.aload_n 0, 1) := by decide +kernel
theorem dX5_takes_11 : decode cX5_takes 11 = .ok (.dup, 1) := by decide +kernel
theorem dX5_takes_12 : decode cX5_takes 12 = .ok (.getfield 19, 3) := by decide +kernel
theorem dX5_takes_15 : decode cX5_takes 15 = .ok (.iconst 1, 1) := by decide +kernel
theorem dX5_takes_16 : decode cX5_takes 16 = .ok (.iadd, 1) := by decide +kernel
theorem dX5_takes_17 : decode cX5_takes 17 = .ok (.putfield 19, 3) := by decide +kernel
theorem dX5_takes_20 : decode cX5_takes 20 = .ok (.iconst 1, 1) := by decide +kernel
theorem dX5_takes_21 : decode cX5_takes 21 = .ok (.ireturn, 1) := by decide +kernel
theorem dX5_signHere_0 : decode cX5_signHere 0 = .ok (.aload_n 0, 1) := by decide +kernel
theorem dX5_signHere_1 : decode cX5_signHere 1 = .ok (.getfield 19, 3) := by decide +kernel
theorem dX5_signHere_4 : decode cX5_signHere 4 = .ok (.ifCond .lt 36, 3) := by decide +kernel
theorem dX5_signHere_7 : decode cX5_signHere 7 = .ok (.aload_n 0, 1) := by decide +kernel
theorem dX5_signHere_8 : decode cX5_signHere 8 = .ok (.getfield 19, 3) := by decide +kernel
theorem dX5_signHere_11 : decode cX5_signHere 11 = .ok (.aload_n 0, 1) := by decide +kernel
theorem dX5_signHere_12 : decode cX5_signHere 12 = .ok (.getfield 15, 3) := by decide +kernel
theorem dX5_signHere_15 : decode cX5_signHere 15 = .ok (.if_icmp .ge 25, 3) := by decide +kernel
theorem dX5_signHere_18 : decode cX5_signHere 18 = .ok (.aload_n 0, 1) := by decide +kernel
theorem dX5_signHere_19 : decode cX5_signHere 19 = .ok (.getfield 19, 3) := by decide +kernel
theorem dX5_signHere_22 : decode cX5_signHere 22 = .ok (.sipush 200, 3) := by decide +kernel
theorem dX5_signHere_25 : decode cX5_signHere 25 = .ok (.if_icmp .ge 15, 3) := by decide +kernel
theorem dX5_signHere_28 : decode cX5_signHere 28 = .ok (.aload_n 0, 1) := by decide +kernel
theorem dX5_signHere_29 : decode cX5_signHere 29 = .ok (.getfield 11, 3) := by decide +kernel
theorem dX5_signHere_32 : decode cX5_signHere 32 = .ok (.aload_n 0, 1) := by decide +kernel
theorem dX5_signHere_33 : decode cX5_signHere 33 = .ok (.getfield 19, 3) := by decide +kernel
theorem dX5_signHere_36 : decode cX5_signHere 36 = .ok (.iaload, 1) := by decide +kernel
theorem dX5_signHere_37 : decode cX5_signHere 37 = .ok (.goto 4, 3) := by decide +kernel
theorem dX5_signHere_40 : decode cX5_signHere 40 = .ok (.iconst (-1), 1) := by decide +kernel
theorem dX5_signHere_41 : decode cX5_signHere 41 = .ok (.ireturn, 1) := by decide +kernel
set_option maxRecDepth 20000 in
theorem ggX6_init_X2_init : GoodIn wsX6_init wsX2_init := goodIn_r _ [21, 22, 2, 3, 13, 23, 24, 25, 26, 27, 28, 29, 30, 42, 43, 44, 45, 46, 47, 48, 49] (by decide +kernel) (by decide +kernel)
set_option maxRecDepth 20000 in
theorem gX6_init_X2_init_n20 : GoodIn wsX6_init (wsX2_init) := ggX6_init_X2_init
theorem dX6_init_0 : decode cX6_init 0 = .ok (.aload_n 0, 1) := by decide +kernel
theorem dX6_init_1 : decode cX6_init 1 = .ok (.invokespecial 5, 3) := by decide +kernel
theorem dX6_init_4 : decode cX6_init 4 = .ok (.aload_n 0, 1) := by decide +kernel
theorem dX6_init_5 : decode cX6_init 5 = .ok (.bipush (-4), 2) := by decide +kernel
theorem dX6_init_7 : decode cX6_init 7 = .ok (.putfield 11, 3) := by decide +kernel
theorem dX6_init_10 : decode cX6_init 10 = .ok (.aload_n 0, 1) := by decide +kernel
theorem dX6_init_11 : decode cX6_init 11 = .ok (.bipush (-4), 2) := by decide +kernel
theorem dX6_init_13 : decode cX6_init 13 = .ok (.putfield 15, 3) := by decide +kernel
theorem dX6_init_16 : decode cX6_init 16 = .ok (.aload_n 0, 1) := by decide +kernel
theorem dX6_init_17 : decode cX6_init 17 = .ok (.new 18, 3) := by decide +kernel
theorem dX6_init_20 : decode cX6_init 20 = .ok (.dup, 1) := by decide +kernel
theorem dX6_init_21 : decode cX6_init 21 = .ok (.invokespecial 20, 3) := by decide +kernel
theorem dX6_init_24 : decode cX6_init 24 = .ok (.putfield 21, 3) := by decide +kernel
theorem dX6_init_27 : decode cX6_init 27 = .ok (.aload_n 0, 1) := by decide +kernel
theorem dX6_init_28 : decode cX6_init 28 = .ok (.iconst 0, 1) := by decide +kernel
theorem dX6_init_29 : decode cX6_init 29 = .ok (.putfield 25, 3) := by decide +kernel
theorem dX6_init_32 : decode cX6_init 32 = .ok (.aload_n 0, 1) := by decide +kernel
theorem dX6_init_33 : decode cX6_init 33 = .ok (.iconst 0, 1) := by decide +kernel
theorem dX6_init_34 : decode cX6_init 34 = .ok (.putfield 28, 3) := by decide +kernel
theorem dX6_init_37 : decode cX6_init 37 = .ok (.aload_n 0, 1) := by decide +kernel
theorem dX6_init_38 : decode cX6_init 38 = .ok (.iconst 0, 1) := by decide +kernel
theorem dX6_init_39 : decode cX6_init 39 = .ok (.putfield 31, 3) := by decide +kernel
theorem dX6_init_42 : decode cX6_init 42 = .ok (.aload_n 0, 1) := by decide +kernel
theorem dX6_init_43 : decode cX6_init 43 = .ok (.iconst 5, 1) := by decide +kernel
theorem dX6_init_44 : decode cX6_init 44 = .ok (.newarray .int, 2) := by decide +kernel
theorem dX6_init_46 : decode cX6_init 46 = .ok (.putfield 34, 3) := by decide +kernel
theorem dX6_init_49 : decode cX6_init 49 = .ok (.aload_n 0, 1) := by decide +kernel
theorem dX6_init_50 : decode cX6_init 50 = .ok (.iconst 5, 1) := by decide +kernel
theorem dX6_init_51 : decode cX6_init 51 = .ok (.newarray .int, 2) := by decide +kernel
theorem dX6_init_53 : decode cX6_init 53 = .ok (.putfield 38, 3) := by decide +kernel
theorem dX6_init_56 : decode cX6_init 56 = .ok (.aload_n 0, 1) := by decide +kernel
theorem dX6_init_57 : decode cX6_init 57 = .ok (.sipush 4000, 3) := by decide +kernel
theorem dX6_init_60 : decode cX6_init 60 = .ok (.newarray .int, 2) := by decide +kernel
theorem dX6_init_62 : decode cX6_init 62 = .ok (.putfield 41, 3) := by decide +kernel
theorem dX6_init_65 : decode cX6_init 65 = .ok (.aload_n 0, 1) := by decide +kernel
theorem dX6_init_66 : decode cX6_init 66 = .ok (.iconst 0, 1) := by decide +kernel
theorem dX6_init_67 : decode cX6_init 67 = .ok (.putfield 44, 3) := by decide +kernel
theorem dX6_init_70 : decode cX6_init 70 = .ok (.aload_n 0, 1) := by decide +kernel
theorem dX6_init_71 : decode cX6_init 71 = .ok (.sipush 256, 3) := by decide +kernel
theorem dX6_init_74 : decode cX6_init 74 = .ok (.newarray .long, 2) := by decide +kernel
theorem dX6_init_76 : decode cX6_init 76 = .ok (.putfield 47, 3) := by decide +kernel
theorem dX6_init_79 : decode cX6_init 79 = .ok (.return_, 1) := by decide +kernel
set_option maxRecDepth 20000 in
theorem ggX6_search_X2_copyFrom : GoodIn wsX6_search wsX2_copyFrom := goodIn_r _ [12, 13, 14, 15, 16, 17, 18, 19, 20, 21, 22, 23, 24, 110, 111, 112, 113, 114, 115, 116, 117] (by decide +kernel) (by decide +kernel)
set_option maxRecDepth 20000 in
theorem gX6_search_X2_copyFrom : GoodIn wsX6_search (wsV RX6 51 RX2 yX2_copyFrom wsX2_copyFrom) := goodIn_app (goodIn_of _ (by decide +kernel)) ggX6_search_X2_copyFrom
set_option maxRecDepth 20000 in
theorem ggX6_search_X6_prepareGates : GoodIn wsX6_search wsX6_prepareGates := goodIn_r _ [29, 1, 30, 31, 32, 33, 34, 35, 36, 11, 37, 22, 38, 39, 40, 41, 19, 20, 42, 43, 44, 45, 46, 47, 48, 49, 50, 51, 52, 53, 13, 18, 54, 55, 56, 57, 58, 99, 100, 101, 102, 103, 104, 105, 106, 107, 108, 109, 110, 111, 112, 113, 114, 115, 116, 117] (by decide +kernel) (by decide +kernel)
set_option maxRecDepth 20000 in
theorem gX6_search_X6_prepareGates : GoodIn wsX6_search (wsV RX6 55 RX6 yX6_prepareGates wsX6_prepareGates) := goodIn_app (goodIn_of _ (by decide +kernel)) ggX6_search_X6_prepareGates
set_option maxRecDepth 20000 in
theorem ggX6_search_J7_fill_d0a16 : GoodIn wsX6_search wsJ7_fill_d0a16 := goodIn_r _ [61] (by decide +kernel) (by decide +kernel)
set_option maxRecDepth 20000 in
theorem gX6_search_J7_fill_d0a16 : GoodIn wsX6_search (va_wsS RX6 58 yJ7_fill_d0a16 wsJ7_fill_d0a16) := goodIn_app (goodIn_of _ (by decide +kernel)) ggX6_search_J7_fill_d0a16
set_option maxRecDepth 20000 in
theorem ggX6_search_X6_startState : GoodIn wsX6_search wsX6_startState := goodIn_r _ [65, 1, 66, 67, 68, 69, 28, 70, 99, 100, 101, 102, 103, 104, 105, 106, 107, 108, 109, 110, 111, 112, 113, 114, 115, 116, 117] (by decide +kernel) (by decide +kernel)
set_option maxRecDepth 20000 in
theorem gX6_search_X6_startState : GoodIn wsX6_search (wsV RX6 64 RX6 yX6_startState wsX6_startState) := goodIn_app (goodIn_of _ (by decide +kernel)) ggX6_search_X6_startState
set_option maxRecDepth 20000 in
theorem ggX6_search_X6_enqueue : GoodIn wsX6_search wsX6_enqueue := goodIn_r _ [74, 6, 7, 75, 99, 100, 101, 102, 103, 104, 105, 106, 107, 108, 109] (by decide +kernel) (by decide +kernel)
set_option maxRecDepth 20000 in
theorem gX6_search_X6_enqueue : GoodIn wsX6_search (wsV RX6 68 RX6 yX6_enqueue wsX6_enqueue) := goodIn_app (goodIn_of _ (by decide +kernel)) ggX6_search_X6_enqueue
set_option maxRecDepth 20000 in
theorem ggX6_search_X6_spread : GoodIn wsX6_search wsX6_spread := goodIn_r _ [79, 7, 80, 81, 82, 83, 75, 4, 5, 84, 85, 86, 28, 87, 2, 30, 3, 1, 66, 88, 89, 90, 68, 69, 70, 91, 92, 93, 94, 31, 33, 95, 96, 97, 11, 98, 13, 18, 46, 47, 48, 49, 22, 71, 72, 73, 74, 6, 99, 100, 101, 102, 103, 104, 105, 106, 107, 108, 109, 110, 111, 112, 113, 114, 115, 116, 117] (by decide +kernel) (by decide +kernel)
set_option maxRecDepth 20000 in
theorem gX6_search_X6_spread : GoodIn wsX6_search (wsV RX6 72 RX6 yX6_spread wsX6_spread) := goodIn_app (goodIn_of _ (by decide +kernel)) ggX6_search_X6_spread
theorem dX6_search_0 : decode cX6_search 0 = .ok (.aload_n 0, 1) := by decide +kernel
theorem dX6_search_1 : decode cX6_search 1 = .ok (.getfield 21, 3) := by decide +kernel
theorem dX6_search_4 : decode cX6_search 4 = .ok (.aload_n 1, 1) := by decide +kernel
theorem dX6_search_5 : decode cX6_search 5 = .ok (.invokevirtual 51, 3) := by decide +kernel
theorem dX6_search_8 : decode cX6_search 8 = .ok (.aload_n 0, 1) := by decide +kernel
theorem dX6_search_9 : decode cX6_search 9 = .ok (.iload_n 2, 1) := by decide +kernel
theorem dX6_search_10 : decode cX6_search 10 = .ok (.putfield 28, 3) := by decide +kernel
theorem dX6_search_13 : decode cX6_search 13 = .ok (.aload_n 0, 1) := by decide +kernel
theorem dX6_search_14 : decode cX6_search 14 = .ok (.iload_n 3, 1) := by decide +kernel
theorem dX6_search_15 : decode cX6_search 15 = .ok (.putfield 31, 3) := by decide +kernel
theorem dX6_search_18 : decode cX6_search 18 = .ok (.aload_n 0, 1) := by decide +kernel
theorem dX6_search_19 : decode cX6_search 19 = .ok (.bipush (-4), 2) := by decide +kernel
theorem dX6_search_21 : decode cX6_search 21 = .ok (.putfield 11, 3) := by decide +kernel
theorem dX6_search_24 : decode cX6_search 24 = .ok (.aload_n 0, 1) := by decide +kernel
theorem dX6_search_25 : decode cX6_search 25 = .ok (.bipush (-4), 2) := by decide +kernel
theorem dX6_search_27 : decode cX6_search 27 = .ok (.putfield 15, 3) := by decide +kernel
theorem dX6_search_30 : decode cX6_search 30 = .ok (.aload_n 0, 1) := by decide +kernel
theorem dX6_search_31 : decode cX6_search 31 = .ok (.invokevirtual 55, 3) := by decide +kernel
theorem dX6_search_34 : decode cX6_search 34 = .ok (.aload_n 0, 1) := by decide +kernel
theorem dX6_search_35 : decode cX6_search 35 = .ok (.getfield 47, 3) := by decide +kernel
theorem dX6_search_38 : decode cX6_search 38 = .ok (.lconst 0, 1) := by decide +kernel
theorem dX6_search_39 : decode cX6_search 39 = .ok (.invokestatic 58, 3) := by decide +kernel
theorem dX6_search_42 : decode cX6_search 42 = .ok (.aload_n 0, 1) := by decide +kernel
theorem dX6_search_43 : decode cX6_search 43 = .ok (.iconst 0, 1) := by decide +kernel
theorem dX6_search_44 : decode cX6_search 44 = .ok (.putfield 44, 3) := by decide +kernel
theorem dX6_search_47 : decode cX6_search 47 = .ok (.aload_n 0, 1) := by decide +kernel
theorem dX6_search_48 : decode cX6_search 48 = .ok (.aload_n 0, 1) := by decide +kernel
theorem dX6_search_49 : decode cX6_search 49 = .ok (.invokevirtual 64, 3) := by decide +kernel
theorem dX6_search_52 : decode cX6_search 52 = .ok (.iconst 0, 1) := by decide +kernel
theorem dX6_search_53 : decode cX6_search 53 = .ok (.invokevirtual 68, 3) := by decide +kernel
theorem dX6_search_56 : decode cX6_search 56 = .ok (.aload_n 0, 1) := by decide +kernel
theorem dX6_search_57 : decode cX6_search 57 = .ok (.invokevirtual 72, 3) := by decide +kernel
theorem dX6_search_60 : decode cX6_search 60 = .ok (.return_, 1) := by decide +kernel
set_option maxRecDepth 20000 in
theorem ggX6_prepareGates_X2_openFromA : GoodIn wsX6_prepareGates wsX2_openFromA := goodIn_r _ [10, 11, 12, 13, 14, 9, 15, 16, 17, 18, 19, 20, 21, 22, 23, 24, 25, 48, 49, 50, 51, 52, 53, 54, 55] (by decide +kernel) (by decide +kernel)
set_option maxRecDepth 20000 in
theorem gX6_prepareGates_X2_openFromA : GoodIn wsX6_prepareGates (wsV RX6 75 RX2 yX2_openFromA wsX2_openFromA) := goodIn_app (goodIn_of _ (by decide +kernel)) ggX6_prepareGates_X2_openFromA
set_option maxRecDepth 20000 in
theorem ggX6_prepareGates_X2_isOpenFrom : GoodIn wsX6_prepareGates wsX2_isOpenFrom := goodIn_r _ [29, 30, 31, 22, 23, 24, 9, 25, 11, 12, 13, 14, 15, 16, 17, 18, 19, 20, 21, 48, 49, 50, 51, 52, 53, 54, 55] (by decide +kernel) (by decide +kernel)
set_option maxRecDepth 20000 in
theorem gX6_prepareGates_X2_isOpenFrom : GoodIn wsX6_prepareGates (wsV RX6 80 RX2 yX2_isOpenFrom wsX2_isOpenFrom) := goodIn_app (goodIn_of _ (by decide +kernel)) ggX6_prepareGates_X2_isOpenFrom
set_option maxRecDepth 20000 in
theorem ggX6_prepareGates_J7_fill_53178 : GoodIn wsX6_prepareGates wsJ7_fill_53178 := goodIn_r _ [35] (by decide +kernel) (by decide +kernel)
set_option maxRecDepth 20000 in
theorem gX6_prepareGates_J7_fill_53178 : GoodIn wsX6_prepareGates (va_wsS RX6 84 yJ7_fill_53178 wsJ7_fill_53178) := goodIn_app (goodIn_of _ (by decide +kernel)) ggX6_prepareGates_J7_fill_53178
set_option maxRecDepth 20000 in
theorem ggX6_prepareGates_X2_ruler : GoodIn wsX6_prepareGates wsX2_ruler := goodIn_r _ [21, 16, 22, 23, 24, 9, 25, 11, 48, 49, 50, 51, 52, 53, 54, 55] (by decide +kernel) (by decide +kernel)
set_option maxRecDepth 20000 in
theorem gX6_prepareGates_X2_ruler : GoodIn wsX6_prepareGates (wsV RX6 87 RX2 yX2_ruler wsX2_ruler) := goodIn_app (goodIn_of _ (by decide +kernel)) ggX6_prepareGates_X2_ruler
theorem dX6_prepareGates_0 : decode cX6_prepareGates 0 = .ok (.aload_n 0, 1) := by decide +kernel
theorem dX6_prepareGates_1 : decode cX6_prepareGates 1 = .ok (.aload_n 0, 1) := by decide +kernel
theorem dX6_prepareGates_2 : decode cX6_prepareGates 2 = .ok (.getfield 21, 3) := by decide +kernel
theorem dX6_prepareGates_5 : decode cX6_prepareGates 5 = .ok (.invokevirtual 75, 3) := by decide +kernel
theorem dX6_prepareGates_8 : decode cX6_prepareGates 8 = .ok (.putfield 25, 3) := by decide +kernel
theorem dX6_prepareGates_11 : decode cX6_prepareGates 11 = .ok (.iconst 0, 1) := by decide +kernel
theorem dX6_prepareGates_12 : decode cX6_prepareGates 12 = .ok (.istore_n 1, 1) := by decide +kernel
theorem dX6_prepareGates_13 : decode cX6_prepareGates 13 = .ok (.iload_n 1, 1) := by decide +kernel
theorem dX6_prepareGates_14 : decode cX6_prepareGates 14 = .ok (.iconst 5, 1) := by decide +kernel
theorem dX6_prepareGates_15 : decode cX6_prepareGates 15 = .ok (.if_icmp .ge 63, 3) := by decide +kernel
theorem dX6_prepareGates_18 : decode cX6_prepareGates 18 = .ok (.aload_n 0, 1) := by decide +kernel
theorem dX6_prepareGates_19 : decode cX6_prepareGates 19 = .ok (.getfield 34, 3) := by decide +kernel
theorem dX6_prepareGates_22 : decode cX6_prepareGates 22 = .ok (.iload_n 1, 1) := by decide +kernel
theorem dX6_prepareGates_23 : decode cX6_prepareGates 23 = .ok (.iconst 0, 1) := by decide +kernel
theorem dX6_prepareGates_24 : decode cX6_prepareGates 24 = .ok (.iastore, 1) := by decide +kernel
theorem dX6_prepareGates_25 : decode cX6_prepareGates 25 = .ok (.iconst 0, 1) := by decide +kernel
theorem dX6_prepareGates_26 : decode cX6_prepareGates 26 = .ok (.istore_n 2, 1) := by decide +kernel
theorem dX6_prepareGates_27 : decode cX6_prepareGates 27 = .ok (.iload_n 2, 1) := by decide +kernel
theorem dX6_prepareGates_28 : decode cX6_prepareGates 28 = .ok (.aload_n 0, 1) := by decide +kernel
theorem dX6_prepareGates_29 : decode cX6_prepareGates 29 = .ok (.getfield 21, 3) := by decide +kernel
theorem dX6_prepareGates_32 : decode cX6_prepareGates 32 = .ok (.getfield 77, 3) := by decide +kernel
theorem dX6_prepareGates_35 : decode cX6_prepareGates 35 = .ok (.if_icmp .ge 37, 3) := by decide +kernel
theorem dX6_prepareGates_38 : decode cX6_prepareGates 38 = .ok (.aload_n 0, 1) := by decide +kernel
theorem dX6_prepareGates_39 : decode cX6_prepareGates 39 = .ok (.getfield 34, 3) := by decide +kernel
theorem dX6_prepareGates_42 : decode cX6_prepareGates 42 = .ok (.iload_n 1, 1) := by decide +kernel
theorem dX6_prepareGates_43 : decode cX6_prepareGates 43 = .ok (.dup2, 1) := by decide +kernel
theorem dX6_prepareGates_44 : decode cX6_prepareGates 44 = .ok (.iaload, 1) := by decide +kernel
theorem dX6_prepareGates_45 : decode cX6_prepareGates 45 = .ok (.aload_n 0, 1) := by decide +kernel
theorem dX6_prepareGates_46 : decode cX6_prepareGates 46 = .ok (.getfield 21, 3) := by decide +kernel
theorem dX6_prepareGates_49 : decode cX6_prepareGates 49 = .ok (.iload_n 1, 1) := by decide +kernel
theorem dX6_prepareGates_50 : decode cX6_prepareGates 50 = .ok (.iload_n 2, 1) := by decide +kernel
theorem dX6_prepareGates_51 : decode cX6_prepareGates 51 = .ok (.invokevirtual 80, 3) := by decide +kernel
theorem dX6_prepareGates_54 : decode cX6_prepareGates 54 = .ok (.ifCond .eq 9, 3) := by decide +kernel
theorem dX6_prepareGates_57 : decode cX6_prepareGates 57 = .ok (.iconst 1, 1) := by decide +kernel
theorem dX6_prepareGates_58 : decode cX6_prepareGates 58 = .ok (.iload_n 2, 1) := by decide +kernel
theorem dX6_prepareGates_59 : decode cX6_prepareGates 59 = .ok (.ishl, 1) := by decide +kernel
theorem dX6_prepareGates_60 : decode cX6_prepareGates 60 = .ok (.goto 4, 3) := by decide +kernel
theorem dX6_prepareGates_63 : decode cX6_prepareGates 63 = .ok (.iconst 0, 1) := by decide +kernel
theorem dX6_prepareGates_64 : decode cX6_prepareGates 64 = .ok (.ior, 1) := by decide +kernel
theorem dX6_prepareGates_65 : decode cX6_prepareGates 65 = .ok (.iastore, 1) := by decide +kernel
theorem dX6_prepareGates_66 : decode cX6_prepareGates 66 = .ok (.iinc 2 1, 3) := by decide +kernel
theorem dX6_prepareGates_69 : decode cX6_prepareGates 69 = .ok (.goto (-42), 3) := by decide +kernel
theorem dX6_prepareGates_72 : decode cX6_prepareGates 72 = .ok (.iinc 1 1, 3) := by decide +kernel
theorem dX6_prepareGates_75 : decode cX6_prepareGates 75 = .ok (.goto (-62), 3) := by decide +kernel
theorem dX6_prepareGates_78 : decode cX6_prepareGates 78 = .ok (.aload_n 0, 1) := by decide +kernel
theorem dX6_prepareGates_79 : decode cX6_prepareGates 79 = .ok (.getfield 38, 3) := by decide +kernel
theorem dX6_prepareGates_82 : decode cX6_prepareGates 82 = .ok (.iconst 0, 1) := by decide +kernel
theorem dX6_prepareGates_83 : decode cX6_prepareGates 83 = .ok (.invokestatic 84, 3) := by decide +kernel
theorem dX6_prepareGates_86 : decode cX6_prepareGates 86 = .ok (.iconst 0, 1) := by decide +kernel
theorem dX6_prepareGates_87 : decode cX6_prepareGates 87 = .ok (.istore_n 1, 1) := by decide +kernel
theorem dX6_prepareGates_88 : decode cX6_prepareGates 88 = .ok (.iload_n 1, 1) := by decide +kernel
theorem dX6_prepareGates_89 : decode cX6_prepareGates 89 = .ok (.aload_n 0, 1) := by decide +kernel
theorem dX6_prepareGates_90 : decode cX6_prepareGates 90 = .ok (.getfield 21, 3) := by decide +kernel
theorem dX6_prepareGates_93 : decode cX6_prepareGates 93 = .ok (.getfield 77, 3) := by decide +kernel
theorem dX6_prepareGates_96 : decode cX6_prepareGates 96 = .ok (.if_icmp .ge 39, 3) := by decide +kernel
theorem dX6_prepareGates_99 : decode cX6_prepareGates 99 = .ok (.aload_n 0, 1) := by decide +kernel
theorem dX6_prepareGates_100 : decode cX6_prepareGates 100 = .ok (.getfield 21, 3) := by decide +kernel
theorem dX6_prepareGates_103 : decode cX6_prepareGates 103 = .ok (.iload_n 1, 1) := by decide +kernel
theorem dX6_prepareGates_104 : decode cX6_prepareGates 104 = .ok (.invokevirtual 87, 3) := by decide +kernel
theorem dX6_prepareGates_107 : decode cX6_prepareGates 107 = .ok (.istore_n 2, 1) := by decide +kernel
theorem dX6_prepareGates_108 : decode cX6_prepareGates 108 = .ok (.iload_n 2, 1) := by decide +kernel
theorem dX6_prepareGates_109 : decode cX6_prepareGates 109 = .ok (.ifCond .lt 20, 3) := by decide +kernel
theorem dX6_prepareGates_112 : decode cX6_prepareGates 112 = .ok (.iload_n 2, 1) := by decide +kernel
theorem dX6_prepareGates_113 : decode cX6_prepareGates 113 = .ok (.iconst 5, 1) := by decide +kernel
theorem dX6_prepareGates_114 : decode cX6_prepareGates 114 = .ok (.if_icmp .ge 15, 3) := by decide +kernel
theorem dX6_prepareGates_117 : decode cX6_prepareGates 117 = .ok (.aload_n 0, 1) := by decide +kernel
theorem dX6_prepareGates_118 : decode cX6_prepareGates 118 = .ok (.getfield 38, 3) := by decide +kernel
theorem dX6_prepareGates_121 : decode cX6_prepareGates 121 = .ok (.iload_n 2, 1) := by decide +kernel
theorem dX6_prepareGates_122 : decode cX6_prepareGates 122 = .ok (.dup2, 1) := by decide +kernel
theorem dX6_prepareGates_123 : decode cX6_prepareGates 123 = .ok (.iaload, 1) := by decide +kernel
theorem dX6_prepareGates_124 : decode cX6_prepareGates 124 = .ok (.iconst 1, 1) := by decide +kernel
theorem dX6_prepareGates_125 : decode cX6_prepareGates 125 = .ok (.iload_n 1, 1) := by decide +kernel
theorem dX6_prepareGates_126 : decode cX6_prepareGates 126 = .ok (.ishl, 1) := by decide +kernel
theorem dX6_prepareGates_127 : decode cX6_prepareGates 127 = .ok (.ior, 1) := by decide +kernel
theorem dX6_prepareGates_128 : decode cX6_prepareGates 128 = .ok (.iastore, 1) := by decide +kernel
theorem dX6_prepareGates_129 : decode cX6_prepareGates 129 = .ok (.iinc 1 1, 3) := by decide +kernel
theorem dX6_prepareGates_132 : decode cX6_prepareGates 132 = .ok (.goto (-44), 3) := by decide +kernel
theorem dX6_prepareGates_135 : decode cX6_prepareGates 135 = .ok (.return_, 1) := by decide +kernel
set_option maxRecDepth 20000 in
theorem ggX6_startState_X6_courtShift : GoodIn wsX6_startState wsX6_courtShift := goodIn_r _ [7] (by decide +kernel) (by decide +kernel)
set_option maxRecDepth 20000 in
theorem gX6_startState_X6_courtShift : GoodIn wsX6_startState (va_wsS RX6 97 yX6_courtShift wsX6_courtShift) := goodIn_app (goodIn_of _ (by decide +kernel)) ggX6_startState_X6_courtShift
theorem dX6_startState_0 : decode cX6_startState 0 = .ok (.iconst 0, 1) := by decide +kernel
theorem dX6_startState_1 : decode cX6_startState 1 = .ok (.istore_n 1, 1) := by decide +kernel
theorem dX6_startState_2 : decode cX6_startState 2 = .ok (.iconst 0, 1) := by decide +kernel
theorem dX6_startState_3 : decode cX6_startState 3 = .ok (.istore_n 2, 1) := by decide +kernel
theorem dX6_startState_4 : decode cX6_startState 4 = .ok (.iload_n 2, 1) := by decide +kernel
theorem dX6_startState_5 : decode cX6_startState 5 = .ok (.iconst 3, 1) := by decide +kernel
theorem dX6_startState_6 : decode cX6_startState 6 = .ok (.if_icmp .ge 37, 3) := by decide +kernel
theorem dX6_startState_9 : decode cX6_startState 9 = .ok (.iload_n 2, 1) := by decide +kernel
theorem dX6_startState_10 : decode cX6_startState 10 = .ok (.aload_n 0, 1) := by decide +kernel
theorem dX6_startState_11 : decode cX6_startState 11 = .ok (.getfield 21, 3) := by decide +kernel
theorem dX6_startState_14 : decode cX6_startState 14 = .ok (.getfield 91, 3) := by decide +kernel
theorem dX6_startState_17 : decode cX6_startState 17 = .ok (.if_icmp .ge 26, 3) := by decide +kernel
theorem dX6_startState_20 : decode cX6_startState 20 = .ok (.iload_n 1, 1) := by decide +kernel
theorem dX6_startState_21 : decode cX6_startState 21 = .ok (.aload_n 0, 1) := by decide +kernel
theorem dX6_startState_22 : decode cX6_startState 22 = .ok (.getfield 21, 3) := by decide +kernel
theorem dX6_startState_25 : decode cX6_startState 25 = .ok (.getfield 94, 3) := by decide +kernel
theorem dX6_startState_28 : decode cX6_startState 28 = .ok (.iload_n 2, 1) := by decide +kernel
theorem dX6_startState_29 : decode cX6_startState 29 = .ok (.iaload, 1) := by decide +kernel
theorem dX6_startState_30 : decode cX6_startState 30 = .ok (.iload_n 2, 1) := by decide +kernel
theorem dX6_startState_31 : decode cX6_startState 31 = .ok (.invokestatic 97, 3) := by decide +kernel
theorem dX6_startState_34 : decode cX6_startState 34 = .ok (.ishl, 1) := by decide +kernel
theorem dX6_startState_35 : decode cX6_startState 35 = .ok (.ior, 1) := by decide +kernel
theorem dX6_startState_36 : decode cX6_startState 36 = .ok (.istore_n 1, 1) := by decide +kernel
theorem dX6_startState_37 : decode cX6_startState 37 = .ok (.iinc 2 1, 3) := by decide +kernel
theorem dX6_startState_40 : decode cX6_startState 40 = .ok (.goto (-36), 3) := by decide +kernel
theorem dX6_startState_43 : decode cX6_startState 43 = .ok (.iload_n 1, 1) := by decide +kernel
theorem dX6_startState_44 : decode cX6_startState 44 = .ok (.ireturn, 1) := by decide +kernel
set_option maxRecDepth 20000 in
theorem ggX6_spread_X6_isGoal : GoodIn wsX6_spread wsX6_isGoal := goodIn_r _ [13, 14, 15, 16, 17, 18, 19, 20, 12, 21, 22, 23, 24, 48, 49, 50, 51, 52, 53, 54, 55, 56, 57, 58, 59, 60, 61, 62, 63, 64, 65, 66] (by decide +kernel) (by decide +kernel)
set_option maxRecDepth 20000 in
theorem gX6_spread_X6_isGoal : GoodIn wsX6_spread (wsV RX6 106 RX6 yX6_isGoal wsX6_isGoal) := goodIn_app (goodIn_of _ (by decide +kernel)) ggX6_spread_X6_isGoal
set_option maxRecDepth 20000 in
theorem ggX6_spread_X6_enqueueNext : GoodIn wsX6_spread wsX6_enqueueNext := goodIn_r _ [28, 17, 18, 29, 30, 19, 20, 12, 21, 22, 23, 24, 31, 32, 33, 34, 35, 36, 37, 38, 39, 40, 41, 42, 43, 44, 45, 46, 47, 1, 6, 48, 49, 50, 51, 52, 53, 54, 55, 56, 57, 58, 59, 60, 61, 62, 63, 64, 65, 66] (by decide +kernel) (by decide +kernel)
set_option maxRecDepth 20000 in
theorem gX6_spread_X6_enqueueNext : GoodIn wsX6_spread (wsV RX6 110 RX6 yX6_enqueueNext wsX6_enqueueNext) := goodIn_app (goodIn_of _ (by decide +kernel)) ggX6_spread_X6_enqueueNext
theorem dX6_spread_0 : decode cX6_spread 0 = .ok (.iconst 0, 1) := by decide +kernel
theorem dX6_spread_1 : decode cX6_spread 1 = .ok (.istore_n 1, 1) := by decide +kernel
theorem dX6_spread_2 : decode cX6_spread 2 = .ok (.iconst 0, 1) := by decide +kernel
theorem dX6_spread_3 : decode cX6_spread 3 = .ok (.istore_n 2, 1) := by decide +kernel
theorem dX6_spread_4 : decode cX6_spread 4 = .ok (.iload_n 2, 1) := by decide +kernel
theorem dX6_spread_5 : decode cX6_spread 5 = .ok (.sipush 4000, 3) := by decide +kernel
theorem dX6_spread_8 : decode cX6_spread 8 = .ok (.if_icmp .ge 109, 3) := by decide +kernel
theorem dX6_spread_11 : decode cX6_spread 11 = .ok (.iload_n 1, 1) := by decide +kernel
