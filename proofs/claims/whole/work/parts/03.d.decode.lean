theorem dX8_isSeenSo_0 : decode cX8_isSeenSo 0 = .ok (.aload_n 0, 1) := by decide +kernel
theorem dX8_isSeenSo_1 : decode cX8_isSeenSo 1 = .ok (.invokevirtual 200, 3) := by decide +kernel
theorem dX8_isSeenSo_4 : decode cX8_isSeenSo 4 = .ok (.istore_n 1, 1) := by decide +kernel
theorem dX8_isSeenSo_5 : decode cX8_isSeenSo 5 = .ok (.iconst 1, 1) := by decide +kernel
theorem dX8_isSeenSo_6 : decode cX8_isSeenSo 6 = .ok (.istore_n 2, 1) := by decide +kernel
theorem dX8_isSeenSo_7 : decode cX8_isSeenSo 7 = .ok (.iconst 0, 1) := by decide +kernel
theorem dX8_isSeenSo_8 : decode cX8_isSeenSo 8 = .ok (.istore_n 3, 1) := by decide +kernel
theorem dX8_isSeenSo_9 : decode cX8_isSeenSo 9 = .ok (.iload_n 3, 1) := by decide +kernel
theorem dX8_isSeenSo_10 : decode cX8_isSeenSo 10 = .ok (.aload_n 0, 1) := by decide +kernel
theorem dX8_isSeenSo_11 : decode cX8_isSeenSo 11 = .ok (.getfield 125, 3) := by decide +kernel
theorem dX8_isSeenSo_14 : decode cX8_isSeenSo 14 = .ok (.if_icmp .ge 38, 3) := by decide +kernel
theorem dX8_isSeenSo_17 : decode cX8_isSeenSo 17 = .ok (.iload_n 2, 1) := by decide +kernel
theorem dX8_isSeenSo_18 : decode cX8_isSeenSo 18 = .ok (.ifCond .eq 26, 3) := by decide +kernel
theorem dX8_isSeenSo_21 : decode cX8_isSeenSo 21 = .ok (.iload_n 1, 1) := by decide +kernel
theorem dX8_isSeenSo_22 : decode cX8_isSeenSo 22 = .ok (.aload_n 0, 1) := by decide +kernel
theorem dX8_isSeenSo_23 : decode cX8_isSeenSo 23 = .ok (.getfield 43, 3) := by decide +kernel
theorem dX8_isSeenSo_26 : decode cX8_isSeenSo 26 = .ok (.iload_n 3, 1) := by decide +kernel
theorem dX8_isSeenSo_27 : decode cX8_isSeenSo 27 = .ok (.iaload, 1) := by decide +kernel
theorem dX8_isSeenSo_28 : decode cX8_isSeenSo 28 = .ok (.ishr, 1) := by decide +kernel
theorem dX8_isSeenSo_29 : decode cX8_isSeenSo 29 = .ok (.iconst 1, 1) := by decide +kernel
theorem dX8_isSeenSo_30 : decode cX8_isSeenSo 30 = .ok (.iand, 1) := by decide +kernel
theorem dX8_isSeenSo_31 : decode cX8_isSeenSo 31 = .ok (.aload_n 0, 1) := by decide +kernel
theorem dX8_isSeenSo_32 : decode cX8_isSeenSo 32 = .ok (.getfield 46, 3) := by decide +kernel
theorem dX8_isSeenSo_35 : decode cX8_isSeenSo 35 = .ok (.iload_n 3, 1) := by decide +kernel
theorem dX8_isSeenSo_36 : decode cX8_isSeenSo 36 = .ok (.iaload, 1) := by decide +kernel
theorem dX8_isSeenSo_37 : decode cX8_isSeenSo 37 = .ok (.if_icmp .ne 7, 3) := by decide +kernel
theorem dX8_isSeenSo_40 : decode cX8_isSeenSo 40 = .ok (.iconst 1, 1) := by decide +kernel
theorem dX8_isSeenSo_41 : decode cX8_isSeenSo 41 = .ok (.goto 4, 3) := by decide +kernel
theorem dX8_isSeenSo_44 : decode cX8_isSeenSo 44 = .ok (.iconst 0, 1) := by decide +kernel
theorem dX8_isSeenSo_45 : decode cX8_isSeenSo 45 = .ok (.istore_n 2, 1) := by decide +kernel
theorem dX8_isSeenSo_46 : decode cX8_isSeenSo 46 = .ok (.iinc 3 1, 3) := by decide +kernel
theorem dX8_isSeenSo_49 : decode cX8_isSeenSo 49 = .ok (.goto (-40), 3) := by decide +kernel
theorem dX8_isSeenSo_52 : decode cX8_isSeenSo 52 = .ok (.iload_n 2, 1) := by decide +kernel
theorem dX8_isSeenSo_53 : decode cX8_isSeenSo 53 = .ok (.ireturn, 1) := by decide +kernel
set_option maxRecDepth 20000 in
theorem ggX8_wrong_X8_layNow : GoodIn wsX8_wrong wsX8_layNow := goodIn_r _ [7, 8, 9, 10, 11, 12, 6, 13, 2, 14, 31, 32, 33, 34, 35, 36, 37, 38, 39, 40, 41, 42, 43, 44, 45, 46, 47, 48, 49, 50, 51, 52, 53, 54, 55, 56, 57, 58, 59, 60] (by decide +kernel) (by decide +kernel)
set_option maxRecDepth 20000 in
theorem gX8_wrong_X8_layNow : GoodIn wsX8_wrong (wsV RX8 147 RX8 yX8_layNow wsX8_layNow) := goodIn_app (goodIn_of _ (by decide +kernel)) ggX8_wrong_X8_layNow
set_option maxRecDepth 20000 in
theorem ggX8_wrong_X8_isSeenSo : GoodIn wsX8_wrong wsX8_isSeenSo := goodIn_r _ [18, 19, 20, 21, 22, 23, 24, 6, 25, 1, 26, 27, 28, 29, 30, 2, 31, 32, 33, 34, 35, 36, 37, 38, 39, 40, 41, 42, 43, 44, 45, 46, 47, 48, 49, 50, 51, 52, 53, 54, 55, 56, 57, 58, 59, 60] (by decide +kernel) (by decide +kernel)
set_option maxRecDepth 20000 in
theorem gX8_wrong_X8_isSeenSo : GoodIn wsX8_wrong (wsV RX8 203 RX8 yX8_isSeenSo wsX8_isSeenSo) := goodIn_app (goodIn_of _ (by decide +kernel)) ggX8_wrong_X8_isSeenSo
theorem dX8_wrong_0 : decode cX8_wrong 0 = .ok (.aload_n 0, 1) := by decide +kernel
theorem dX8_wrong_1 : decode cX8_wrong 1 = .ok (.invokevirtual 147, 3) := by decide +kernel
theorem dX8_wrong_4 : decode cX8_wrong 4 = .ok (.aload_n 0, 1) := by decide +kernel
theorem dX8_wrong_5 : decode cX8_wrong 5 = .ok (.invokevirtual 203, 3) := by decide +kernel
theorem dX8_wrong_8 : decode cX8_wrong 8 = .ok (.ifCond .eq 8, 3) := by decide +kernel
theorem dX8_wrong_11 : decode cX8_wrong 11 = .ok (.bipush 32, 2) := by decide +kernel
theorem dX8_wrong_13 : decode cX8_wrong 13 = .ok (.goto 4, 3) := by decide +kernel
theorem dX8_wrong_16 : decode cX8_wrong 16 = .ok (.iconst 0, 1) := by decide +kernel
theorem dX8_wrong_17 : decode cX8_wrong 17 = .ok (.istore_n 1, 1) := by decide +kernel
theorem dX8_wrong_18 : decode cX8_wrong 18 = .ok (.iconst 0, 1) := by decide +kernel
theorem dX8_wrong_19 : decode cX8_wrong 19 = .ok (.istore_n 2, 1) := by decide +kernel
theorem dX8_wrong_20 : decode cX8_wrong 20 = .ok (.iload_n 2, 1) := by decide +kernel
theorem dX8_wrong_21 : decode cX8_wrong 21 = .ok (.aload_n 0, 1) := by decide +kernel
theorem dX8_wrong_22 : decode cX8_wrong 22 = .ok (.getfield 13, 3) := by decide +kernel
theorem dX8_wrong_25 : decode cX8_wrong 25 = .ok (.iconst 0, 1) := by decide +kernel
theorem dX8_wrong_26 : decode cX8_wrong 26 = .ok (.iaload, 1) := by decide +kernel
theorem dX8_wrong_27 : decode cX8_wrong 27 = .ok (.if_icmp .ge 46, 3) := by decide +kernel
theorem dX8_wrong_30 : decode cX8_wrong 30 = .ok (.aload_n 0, 1) := by decide +kernel
theorem dX8_wrong_31 : decode cX8_wrong 31 = .ok (.getfield 55, 3) := by decide +kernel
theorem dX8_wrong_34 : decode cX8_wrong 34 = .ok (.iload_n 2, 1) := by decide +kernel
theorem dX8_wrong_35 : decode cX8_wrong 35 = .ok (.dup2, 1) := by decide +kernel
theorem dX8_wrong_36 : decode cX8_wrong 36 = .ok (.iaload, 1) := by decide +kernel
theorem dX8_wrong_37 : decode cX8_wrong 37 = .ok (.iconst 1, 1) := by decide +kernel
theorem dX8_wrong_38 : decode cX8_wrong 38 = .ok (.iadd, 1) := by decide +kernel
theorem dX8_wrong_39 : decode cX8_wrong 39 = .ok (.iastore, 1) := by decide +kernel
theorem dX8_wrong_40 : decode cX8_wrong 40 = .ok (.iload_n 1, 1) := by decide +kernel
theorem dX8_wrong_41 : decode cX8_wrong 41 = .ok (.aload_n 0, 1) := by decide +kernel
theorem dX8_wrong_42 : decode cX8_wrong 42 = .ok (.invokevirtual 203, 3) := by decide +kernel
theorem dX8_wrong_45 : decode cX8_wrong 45 = .ok (.ifCond .eq 9, 3) := by decide +kernel
theorem dX8_wrong_48 : decode cX8_wrong 48 = .ok (.iconst 1, 1) := by decide +kernel
theorem dX8_wrong_49 : decode cX8_wrong 49 = .ok (.iload_n 2, 1) := by decide +kernel
theorem dX8_wrong_50 : decode cX8_wrong 50 = .ok (.ishl, 1) := by decide +kernel
theorem dX8_wrong_51 : decode cX8_wrong 51 = .ok (.goto 4, 3) := by decide +kernel
theorem dX8_wrong_54 : decode cX8_wrong 54 = .ok (.iconst 0, 1) := by decide +kernel
theorem dX8_wrong_55 : decode cX8_wrong 55 = .ok (.ior, 1) := by decide +kernel
theorem dX8_wrong_56 : decode cX8_wrong 56 = .ok (.istore_n 1, 1) := by decide +kernel
theorem dX8_wrong_57 : decode cX8_wrong 57 = .ok (.aload_n 0, 1) := by decide +kernel
theorem dX8_wrong_58 : decode cX8_wrong 58 = .ok (.getfield 55, 3) := by decide +kernel
theorem dX8_wrong_61 : decode cX8_wrong 61 = .ok (.iload_n 2, 1) := by decide +kernel
theorem dX8_wrong_62 : decode cX8_wrong 62 = .ok (.dup2, 1) := by decide +kernel
theorem dX8_wrong_63 : decode cX8_wrong 63 = .ok (.iaload, 1) := by decide +kernel
theorem dX8_wrong_64 : decode cX8_wrong 64 = .ok (.iconst 1, 1) := by decide +kernel
theorem dX8_wrong_65 : decode cX8_wrong 65 = .ok (.isub, 1) := by decide +kernel
theorem dX8_wrong_66 : decode cX8_wrong 66 = .ok (.iastore, 1) := by decide +kernel
theorem dX8_wrong_67 : decode cX8_wrong 67 = .ok (.iinc 2 1, 3) := by decide +kernel
theorem dX8_wrong_70 : decode cX8_wrong 70 = .ok (.goto (-50), 3) := by decide +kernel
theorem dX8_wrong_73 : decode cX8_wrong 73 = .ok (.iload_n 1, 1) := by decide +kernel
theorem dX8_wrong_74 : decode cX8_wrong 74 = .ok (.ireturn, 1) := by decide +kernel
set_option maxRecDepth 20000 in
theorem ggX8_path_X8_isGate : GoodIn wsX8_path wsX8_isGate := goodIn_r _ [7, 8, 9, 10, 6, 11, 12, 13, 14, 15, 16, 17, 18, 19, 20, 21, 22, 23, 24, 25, 26, 27, 28, 29, 30, 31, 32, 33, 34, 35, 36, 37, 38, 39, 40, 41] (by decide +kernel) (by decide +kernel)
set_option maxRecDepth 20000 in
theorem gX8_path_X8_isGate : GoodIn wsX8_path (wsV RX8 142 RX8 yX8_isGate wsX8_isGate) := goodIn_app (goodIn_of _ (by decide +kernel)) ggX8_path_X8_isGate
theorem dX8_path_0 : decode cX8_path 0 = .ok (.aload_n 0, 1) := by decide +kernel
theorem dX8_path_1 : decode cX8_path 1 = .ok (.iload_n 1, 1) := by decide +kernel
theorem dX8_path_2 : decode cX8_path 2 = .ok (.invokevirtual 142, 3) := by decide +kernel
theorem dX8_path_5 : decode cX8_path 5 = .ok (.ifCond .ne 5, 3) := by decide +kernel
theorem dX8_path_8 : decode cX8_path 8 = .ok (.iconst (-1), 1) := by decide +kernel
theorem dX8_path_9 : decode cX8_path 9 = .ok (.ireturn, 1) := by decide +kernel
theorem dX8_path_10 : decode cX8_path 10 = .ok (.aload_n 0, 1) := by decide +kernel
theorem dX8_path_11 : decode cX8_path 11 = .ok (.getfield 128, 3) := by decide +kernel
theorem dX8_path_14 : decode cX8_path 14 = .ok (.bipush 8, 2) := by decide +kernel
theorem dX8_path_16 : decode cX8_path 16 = .ok (.if_icmp .ne 6, 3) := by decide +kernel
theorem dX8_path_19 : decode cX8_path 19 = .ok (.bipush (-3), 2) := by decide +kernel
theorem dX8_path_21 : decode cX8_path 21 = .ok (.ireturn, 1) := by decide +kernel
theorem dX8_path_22 : decode cX8_path 22 = .ok (.aload_n 0, 1) := by decide +kernel
theorem dX8_path_23 : decode cX8_path 23 = .ok (.getfield 49, 3) := by decide +kernel
theorem dX8_path_26 : decode cX8_path 26 = .ok (.aload_n 0, 1) := by decide +kernel
theorem dX8_path_27 : decode cX8_path 27 = .ok (.getfield 128, 3) := by decide +kernel
theorem dX8_path_30 : decode cX8_path 30 = .ok (.iload_n 1, 1) := by decide +kernel
theorem dX8_path_31 : decode cX8_path 31 = .ok (.iastore, 1) := by decide +kernel
theorem dX8_path_32 : decode cX8_path 32 = .ok (.aload_n 0, 1) := by decide +kernel
theorem dX8_path_33 : decode cX8_path 33 = .ok (.dup, 1) := by decide +kernel
theorem dX8_path_34 : decode cX8_path 34 = .ok (.getfield 128, 3) := by decide +kernel
theorem dX8_path_37 : decode cX8_path 37 = .ok (.iconst 1, 1) := by decide +kernel
theorem dX8_path_38 : decode cX8_path 38 = .ok (.iadd, 1) := by decide +kernel
theorem dX8_path_39 : decode cX8_path 39 = .ok (.putfield 128, 3) := by decide +kernel
theorem dX8_path_42 : decode cX8_path 42 = .ok (.aload_n 0, 1) := by decide +kernel
theorem dX8_path_43 : decode cX8_path 43 = .ok (.getfield 128, 3) := by decide +kernel
theorem dX8_path_46 : decode cX8_path 46 = .ok (.ireturn, 1) := by decide +kernel
theorem dX8_noPath_0 : decode cX8_noPath 0 = .ok (.aload_n 0, 1) := by decide +kernel
theorem dX8_noPath_1 : decode cX8_noPath 1 = .ok (.getfield 128, 3) := by decide +kernel
theorem dX8_noPath_4 : decode cX8_noPath 4 = .ok (.istore_n 1, 1) := by decide +kernel
theorem dX8_noPath_5 : decode cX8_noPath 5 = .ok (.aload_n 0, 1) := by decide +kernel
theorem dX8_noPath_6 : decode cX8_noPath 6 = .ok (.iconst 0, 1) := by decide +kernel
theorem dX8_noPath_7 : decode cX8_noPath 7 = .ok (.putfield 128, 3) := by decide +kernel
theorem dX8_noPath_10 : decode cX8_noPath 10 = .ok (.iload_n 1, 1) := by decide +kernel
theorem dX8_noPath_11 : decode cX8_noPath 11 = .ok (.ireturn, 1) := by decide +kernel
set_option maxRecDepth 20000 in
theorem ggX8_goGuest_X8_canPass : GoodIn wsX8_goGuest wsX8_canPass := goodIn_r _ [8, 9, 10, 11, 7, 12, 13, 14, 15, 16, 17, 18, 19, 3, 24, 25, 26, 27, 28, 29, 30, 31, 32, 33, 34, 35, 36, 37, 38, 39, 40, 41, 42, 43, 44, 45, 46, 47, 48, 49, 50, 51, 52, 53] (by decide +kernel) (by decide +kernel)
set_option maxRecDepth 20000 in
theorem gX8_goGuest_X8_canPass : GoodIn wsX8_goGuest (wsV RX8 153 RX8 yX8_canPass wsX8_canPass) := goodIn_app (goodIn_of _ (by decide +kernel)) ggX8_goGuest_X8_canPass
set_option maxRecDepth 20000 in
theorem ggX8_goGuest_X8_beyond : GoodIn wsX8_goGuest wsX8_beyond := goodIn_r _ [23, 13, 14, 24, 25, 26, 27, 28, 29, 30, 31, 32, 33, 34, 35, 36, 37, 38, 39, 40, 41, 42, 43, 44, 45, 46, 47, 48, 49, 50, 51, 52, 53] (by decide +kernel) (by decide +kernel)
set_option maxRecDepth 20000 in
theorem gX8_goGuest_X8_beyond : GoodIn wsX8_goGuest (wsV RX8 163 RX8 yX8_beyond wsX8_beyond) := goodIn_app (goodIn_of _ (by decide +kernel)) ggX8_goGuest_X8_beyond
theorem dX8_goGuest_0 : decode cX8_goGuest 0 = .ok (.iconst 0, 1) := by decide +kernel
theorem dX8_goGuest_1 : decode cX8_goGuest 1 = .ok (.istore_n 1, 1) := by decide +kernel
theorem dX8_goGuest_2 : decode cX8_goGuest 2 = .ok (.iconst 0, 1) := by decide +kernel
theorem dX8_goGuest_3 : decode cX8_goGuest 3 = .ok (.istore_n 2, 1) := by decide +kernel
theorem dX8_goGuest_4 : decode cX8_goGuest 4 = .ok (.iload_n 2, 1) := by decide +kernel
theorem dX8_goGuest_5 : decode cX8_goGuest 5 = .ok (.aload_n 0, 1) := by decide +kernel
theorem dX8_goGuest_6 : decode cX8_goGuest 6 = .ok (.getfield 128, 3) := by decide +kernel
theorem dX8_goGuest_9 : decode cX8_goGuest 9 = .ok (.if_icmp .ge 43, 3) := by decide +kernel
theorem dX8_goGuest_12 : decode cX8_goGuest 12 = .ok (.aload_n 0, 1) := by decide +kernel
theorem dX8_goGuest_13 : decode cX8_goGuest 13 = .ok (.getfield 49, 3) := by decide +kernel
theorem dX8_goGuest_16 : decode cX8_goGuest 16 = .ok (.iload_n 2, 1) := by decide +kernel
theorem dX8_goGuest_17 : decode cX8_goGuest 17 = .ok (.iaload, 1) := by decide +kernel
theorem dX8_goGuest_18 : decode cX8_goGuest 18 = .ok (.istore_n 3, 1) := by decide +kernel
theorem dX8_goGuest_19 : decode cX8_goGuest 19 = .ok (.aload_n 0, 1) := by decide +kernel
theorem dX8_goGuest_20 : decode cX8_goGuest 20 = .ok (.iload_n 1, 1) := by decide +kernel
theorem dX8_goGuest_21 : decode cX8_goGuest 21 = .ok (.iload_n 3, 1) := by decide +kernel
theorem dX8_goGuest_22 : decode cX8_goGuest 22 = .ok (.invokevirtual 153, 3) := by decide +kernel
theorem dX8_goGuest_25 : decode cX8_goGuest 25 = .ok (.ifCond .ne 4, 3) := by decide +kernel
theorem dX8_goGuest_28 : decode cX8_goGuest 28 = .ok (.return_, 1) := by decide +kernel
theorem dX8_goGuest_29 : decode cX8_goGuest 29 = .ok (.aload_n 0, 1) := by decide +kernel
theorem dX8_goGuest_30 : decode cX8_goGuest 30 = .ok (.getfield 55, 3) := by decide +kernel
theorem dX8_goGuest_33 : decode cX8_goGuest 33 = .ok (.iload_n 3, 1) := by decide +kernel
theorem dX8_goGuest_34 : decode cX8_goGuest 34 = .ok (.dup2, 1) := by decide +kernel
theorem dX8_goGuest_35 : decode cX8_goGuest 35 = .ok (.iaload, 1) := by decide +kernel
theorem dX8_goGuest_36 : decode cX8_goGuest 36 = .ok (.iconst 1, 1) := by decide +kernel
theorem dX8_goGuest_37 : decode cX8_goGuest 37 = .ok (.iadd, 1) := by decide +kernel
theorem dX8_goGuest_38 : decode cX8_goGuest 38 = .ok (.iastore, 1) := by decide +kernel
theorem dX8_goGuest_39 : decode cX8_goGuest 39 = .ok (.aload_n 0, 1) := by decide +kernel
theorem dX8_goGuest_40 : decode cX8_goGuest 40 = .ok (.iload_n 3, 1) := by decide +kernel
theorem dX8_goGuest_41 : decode cX8_goGuest 41 = .ok (.iload_n 1, 1) := by decide +kernel
theorem dX8_goGuest_42 : decode cX8_goGuest 42 = .ok (.invokevirtual 163, 3) := by decide +kernel
theorem dX8_goGuest_45 : decode cX8_goGuest 45 = .ok (.istore_n 1, 1) := by decide +kernel
theorem dX8_goGuest_46 : decode cX8_goGuest 46 = .ok (.iinc 2 1, 3) := by decide +kernel
theorem dX8_goGuest_49 : decode cX8_goGuest 49 = .ok (.goto (-45), 3) := by decide +kernel
theorem dX8_goGuest_52 : decode cX8_goGuest 52 = .ok (.return_, 1) := by decide +kernel
set_option maxRecDepth 20000 in
theorem ggX8_guests_X8_isSet : GoodIn wsX8_guests wsX8_isSet := goodIn_r _ [5, 6, 7, 8, 4, 9, 51, 52, 53, 54, 55, 56, 57, 58, 59, 60, 61, 62, 63, 64, 65, 66, 67, 68, 69, 70, 71, 72, 73, 74, 75, 76, 77, 78, 79, 80] (by decide +kernel) (by decide +kernel)
set_option maxRecDepth 20000 in
theorem gX8_guests_X8_isSet : GoodIn wsX8_guests (wsV RX8 197 RX8 yX8_isSet wsX8_isSet) := goodIn_app (goodIn_of _ (by decide +kernel)) ggX8_guests_X8_isSet
set_option maxRecDepth 20000 in
theorem ggX8_guests_X8_in : GoodIn wsX8_guests wsX8_in := goodIn_r _ [9] (by decide +kernel) (by decide +kernel)
set_option maxRecDepth 20000 in
theorem gX8_guests_X8_in : GoodIn wsX8_guests (va_wsS RX8 82 yX8_in wsX8_in) := goodIn_app (goodIn_of _ (by decide +kernel)) ggX8_guests_X8_in
set_option maxRecDepth 20000 in
theorem ggX8_guests_X8_layNow : GoodIn wsX8_guests wsX8_layNow := goodIn_r _ [13, 14, 15, 16, 17, 18, 4, 19, 20, 21, 51, 52, 53, 54, 55, 56, 57, 58, 59, 60, 61, 62, 63, 64, 65, 66, 67, 68, 69, 70, 71, 72, 73, 74, 75, 76, 77, 78, 79, 80] (by decide +kernel) (by decide +kernel)
set_option maxRecDepth 20000 in
theorem gX8_guests_X8_layNow : GoodIn wsX8_guests (wsV RX8 147 RX8 yX8_layNow wsX8_layNow) := goodIn_app (goodIn_of _ (by decide +kernel)) ggX8_guests_X8_layNow
set_option maxRecDepth 20000 in
theorem ggX8_guests_X8_goGuest : GoodIn wsX8_guests wsX8_goGuest := goodIn_r _ [25, 26, 27, 20, 28, 29, 30, 4, 31, 32, 33, 34, 35, 36, 37, 38, 39, 40, 41, 42, 43, 44, 45, 46, 51, 52, 53, 54, 55, 56, 57, 58, 59, 60, 61, 62, 63, 64, 65, 66, 67, 68, 69, 70, 71, 72, 73, 74, 75, 76, 77, 78, 79, 80] (by decide +kernel) (by decide +kernel)
set_option maxRecDepth 20000 in
theorem gX8_guests_X8_goGuest : GoodIn wsX8_guests (wsV RX8 206 RX8 yX8_goGuest wsX8_goGuest) := goodIn_app (goodIn_of _ (by decide +kernel)) ggX8_guests_X8_goGuest
set_option maxRecDepth 20000 in
theorem ggX8_guests_X8_openSet : GoodIn wsX8_guests wsX8_openSet := goodIn_r _ [50, 6, 38, 39, 40, 4, 41, 42, 20, 51, 52, 53, 54, 55, 56, 57, 58, 59, 60, 61, 62, 63, 64, 65, 66, 67, 68, 69, 70, 71, 72, 73, 74, 75, 76, 77, 78, 79, 80] (by decide +kernel) (by decide +kernel)
set_option maxRecDepth 20000 in
theorem gX8_guests_X8_openSet : GoodIn wsX8_guests (wsV RX8 200 RX8 yX8_openSet wsX8_openSet) := goodIn_app (goodIn_of _ (by decide +kernel)) ggX8_guests_X8_openSet
theorem dX8_guests_0 : decode cX8_guests 0 = .ok (.aload_n 0, 1) := by decide +kernel
theorem dX8_guests_1 : decode cX8_guests 1 = .ok (.iload_n 1, 1) := by decide +kernel
theorem dX8_guests_2 : decode cX8_guests 2 = .ok (.invokevirtual 197, 3) := by decide +kernel
theorem dX8_guests_5 : decode cX8_guests 5 = .ok (.ifCond .eq 13, 3) := by decide +kernel
theorem dX8_guests_8 : decode cX8_guests 8 = .ok (.iload_n 2, 1) := by decide +kernel
theorem dX8_guests_9 : decode cX8_guests 9 = .ok (.i2l, 1) := by decide +kernel
theorem dX8_guests_10 : decode cX8_guests 10 = .ok (.lconst 0, 1) := by decide +kernel
theorem dX8_guests_11 : decode cX8_guests 11 = .ok (.lconst 1, 1) := by decide +kernel
theorem dX8_guests_12 : decode cX8_guests 12 = .ok (.invokestatic 82, 3) := by decide +kernel
theorem dX8_guests_15 : decode cX8_guests 15 = .ok (.ifCond .ne 5, 3) := by decide +kernel
theorem dX8_guests_18 : decode cX8_guests 18 = .ok (.iconst (-1), 1) := by decide +kernel
theorem dX8_guests_19 : decode cX8_guests 19 = .ok (.ireturn, 1) := by decide +kernel
theorem dX8_guests_20 : decode cX8_guests 20 = .ok (.aload_n 0, 1) := by decide +kernel
theorem dX8_guests_21 : decode cX8_guests 21 = .ok (.invokevirtual 147, 3) := by decide +kernel
theorem dX8_guests_24 : decode cX8_guests 24 = .ok (.iconst 0, 1) := by decide +kernel
theorem dX8_guests_25 : decode cX8_guests 25 = .ok (.istore_n 3, 1) := by decide +kernel
theorem dX8_guests_26 : decode cX8_guests 26 = .ok (.bipush (-4), 2) := by decide +kernel
theorem dX8_guests_28 : decode cX8_guests 28 = .ok (.istore 4, 2) := by decide +kernel
theorem dX8_guests_30 : decode cX8_guests 30 = .ok (.iconst 1, 1) := by decide +kernel
theorem dX8_guests_31 : decode cX8_guests 31 = .ok (.istore 5, 2) := by decide +kernel
theorem dX8_guests_33 : decode cX8_guests 33 = .ok (.iload 5, 2) := by decide +kernel
theorem dX8_guests_35 : decode cX8_guests 35 = .ok (.bipush 60, 2) := by decide +kernel
theorem dX8_guests_37 : decode cX8_guests 37 = .ok (.if_icmp .gt 37, 3) := by decide +kernel
theorem dX8_guests_40 : decode cX8_guests 40 = .ok (.aload_n 0, 1) := by decide +kernel
theorem dX8_guests_41 : decode cX8_guests 41 = .ok (.invokevirtual 206, 3) := by decide +kernel
theorem dX8_guests_44 : decode cX8_guests 44 = .ok (.aload_n 0, 1) := by decide +kernel
theorem dX8_guests_45 : decode cX8_guests 45 = .ok (.invokevirtual 200, 3) := by decide +kernel
theorem dX8_guests_48 : decode cX8_guests 48 = .ok (.iload_n 1, 1) := by decide +kernel
theorem dX8_guests_49 : decode cX8_guests 49 = .ok (.if_icmp .ne 19, 3) := by decide +kernel
theorem dX8_guests_52 : decode cX8_guests 52 = .ok (.iload_n 3, 1) := by decide +kernel
theorem dX8_guests_53 : decode cX8_guests 53 = .ok (.ifCond .ne 8, 3) := by decide +kernel
theorem dX8_guests_56 : decode cX8_guests 56 = .ok (.iload 5, 2) := by decide +kernel
theorem dX8_guests_58 : decode cX8_guests 58 = .ok (.goto 5, 3) := by decide +kernel
theorem dX8_guests_61 : decode cX8_guests 61 = .ok (.iload 4, 2) := by decide +kernel
theorem dX8_guests_63 : decode cX8_guests 63 = .ok (.istore 4, 2) := by decide +kernel
theorem dX8_guests_65 : decode cX8_guests 65 = .ok (.iinc 3 1, 3) := by decide +kernel
theorem dX8_guests_68 : decode cX8_guests 68 = .ok (.iinc 5 1, 3) := by decide +kernel
theorem dX8_guests_71 : decode cX8_guests 71 = .ok (.goto (-38), 3) := by decide +kernel
theorem dX8_guests_74 : decode cX8_guests 74 = .ok (.iload_n 2, 1) := by decide +kernel
theorem dX8_guests_75 : decode cX8_guests 75 = .ok (.ifCond .ne 7, 3) := by decide +kernel
theorem dX8_guests_78 : decode cX8_guests 78 = .ok (.iload_n 3, 1) := by decide +kernel
theorem dX8_guests_79 : decode cX8_guests 79 = .ok (.goto 5, 3) := by decide +kernel
theorem dX8_guests_82 : decode cX8_guests 82 = .ok (.iload 4, 2) := by decide +kernel
theorem dX8_guests_84 : decode cX8_guests 84 = .ok (.ireturn, 1) := by decide +kernel
set_option maxRecDepth 20000 in
theorem ggX8_odds_X8_isGate : GoodIn wsX8_odds wsX8_isGate := goodIn_r _ [11, 12, 13, 14, 10, 15, 31, 32, 33, 34, 35, 36, 37, 38, 39, 40, 41, 42, 43, 44, 45, 46, 47, 48, 49, 50, 51, 52, 53, 54, 55, 56, 57, 58, 59, 60] (by decide +kernel) (by decide +kernel)
set_option maxRecDepth 20000 in
theorem gX8_odds_X8_isGate : GoodIn wsX8_odds (wsV RX8 142 RX8 yX8_isGate wsX8_isGate) := goodIn_app (goodIn_of _ (by decide +kernel)) ggX8_odds_X8_isGate
set_option maxRecDepth 20000 in
theorem ggX8_odds_X8_in : GoodIn wsX8_odds wsX8_in := goodIn_r _ [15] (by decide +kernel) (by decide +kernel)
set_option maxRecDepth 20000 in
theorem gX8_odds_X8_in : GoodIn wsX8_odds (va_wsS RX8 82 yX8_in wsX8_in) := goodIn_app (goodIn_of _ (by decide +kernel)) ggX8_odds_X8_in
set_option maxRecDepth 20000 in
theorem ggX8_odds_X8_layNow : GoodIn wsX8_odds wsX8_layNow := goodIn_r _ [19, 20, 21, 22, 23, 24, 10, 25, 6, 4, 31, 32, 33, 34, 35, 36, 37, 38, 39, 40, 41, 42, 43, 44, 45, 46, 47, 48, 49, 50, 51, 52, 53, 54, 55, 56, 57, 58, 59, 60] (by decide +kernel) (by decide +kernel)
set_option maxRecDepth 20000 in
theorem gX8_odds_X8_layNow : GoodIn wsX8_odds (wsV RX8 147 RX8 yX8_layNow wsX8_layNow) := goodIn_app (goodIn_of _ (by decide +kernel)) ggX8_odds_X8_layNow
set_option maxRecDepth 20000 in
theorem ggX8_odds_X8_isOpen : GoodIn wsX8_odds wsX8_isOpen := goodIn_r _ [29, 30, 6, 31, 32, 33, 34, 35, 36, 37, 38, 39, 40, 41, 42, 43, 44, 45, 46, 47, 48, 49, 50, 51, 52, 53, 54, 55, 56, 57, 58, 59, 60] (by decide +kernel) (by decide +kernel)
set_option maxRecDepth 20000 in
theorem gX8_odds_X8_isOpen : GoodIn wsX8_odds (wsV RX8 138 RX8 yX8_isOpen wsX8_isOpen) := goodIn_app (goodIn_of _ (by decide +kernel)) ggX8_odds_X8_isOpen
theorem dX8_odds_0 : decode cX8_odds 0 = .ok (.aload_n 0, 1) := by decide +kernel
theorem dX8_odds_1 : decode cX8_odds 1 = .ok (.iload_n 1, 1) := by decide +kernel
theorem dX8_odds_2 : decode cX8_odds 2 = .ok (.invokevirtual 142, 3) := by decide +kernel
theorem dX8_odds_5 : decode cX8_odds 5 = .ok (.ifCond .eq 38, 3) := by decide +kernel
theorem dX8_odds_8 : decode cX8_odds 8 = .ok (.iload_n 2, 1) := by decide +kernel
theorem dX8_odds_9 : decode cX8_odds 9 = .ok (.i2l, 1) := by decide +kernel
theorem dX8_odds_10 : decode cX8_odds 10 = .ok (.lconst 1, 1) := by decide +kernel
theorem dX8_odds_11 : decode cX8_odds 11 = .ok (.ldc2_w 80, 3) := by decide +kernel
theorem dX8_odds_14 : decode cX8_odds 14 = .ok (.invokestatic 82, 3) := by decide +kernel
theorem dX8_odds_17 : decode cX8_odds 17 = .ok (.ifCond .eq 26, 3) := by decide +kernel
theorem dX8_odds_20 : decode cX8_odds 20 = .ok (.iload_n 3, 1) := by decide +kernel
theorem dX8_odds_21 : decode cX8_odds 21 = .ok (.i2l, 1) := by decide +kernel
theorem dX8_odds_22 : decode cX8_odds 22 = .ok (.lconst 0, 1) := by decide +kernel
theorem dX8_odds_23 : decode cX8_odds 23 = .ok (.ldc2_w 209, 3) := by decide +kernel
theorem dX8_odds_26 : decode cX8_odds 26 = .ok (.invokestatic 82, 3) := by decide +kernel
theorem dX8_odds_29 : decode cX8_odds 29 = .ok (.ifCond .eq 14, 3) := by decide +kernel
theorem dX8_odds_32 : decode cX8_odds 32 = .ok (.iload 4, 2) := by decide +kernel
theorem dX8_odds_34 : decode cX8_odds 34 = .ok (.i2l, 1) := by decide +kernel
theorem dX8_odds_35 : decode cX8_odds 35 = .ok (.lconst 0, 1) := by decide +kernel
theorem dX8_odds_36 : decode cX8_odds 36 = .ok (.lconst 1, 1) := by decide +kernel
theorem dX8_odds_37 : decode cX8_odds 37 = .ok (.invokestatic 82, 3) := by decide +kernel
theorem dX8_odds_40 : decode cX8_odds 40 = .ok (.ifCond .ne 5, 3) := by decide +kernel
theorem dX8_odds_43 : decode cX8_odds 43 = .ok (.iconst (-1), 1) := by decide +kernel
theorem dX8_odds_44 : decode cX8_odds 44 = .ok (.ireturn, 1) := by decide +kernel
theorem dX8_odds_45 : decode cX8_odds 45 = .ok (.aload_n 0, 1) := by decide +kernel
theorem dX8_odds_46 : decode cX8_odds 46 = .ok (.invokevirtual 147, 3) := by decide +kernel
theorem dX8_odds_49 : decode cX8_odds 49 = .ok (.iconst 0, 1) := by decide +kernel
theorem dX8_odds_50 : decode cX8_odds 50 = .ok (.istore 5, 2) := by decide +kernel
theorem dX8_odds_52 : decode cX8_odds 52 = .ok (.iload 5, 2) := by decide +kernel
theorem dX8_odds_54 : decode cX8_odds 54 = .ok (.bipush 6, 2) := by decide +kernel
theorem dX8_odds_56 : decode cX8_odds 56 = .ok (.if_icmp .ge 35, 3) := by decide +kernel
theorem dX8_odds_59 : decode cX8_odds 59 = .ok (.aload_n 0, 1) := by decide +kernel
theorem dX8_odds_60 : decode cX8_odds 60 = .ok (.getfield 70, 3) := by decide +kernel
theorem dX8_odds_63 : decode cX8_odds 63 = .ok (.iload 5, 2) := by decide +kernel
theorem dX8_odds_65 : decode cX8_odds 65 = .ok (.iload 5, 2) := by decide +kernel
theorem dX8_odds_67 : decode cX8_odds 67 = .ok (.aload_n 0, 1) := by decide +kernel
theorem dX8_odds_68 : decode cX8_odds 68 = .ok (.getfield 31, 3) := by decide +kernel
theorem dX8_odds_71 : decode cX8_odds 71 = .ok (.iload_n 1, 1) := by decide +kernel
theorem dX8_odds_72 : decode cX8_odds 72 = .ok (.iaload, 1) := by decide +kernel
theorem dX8_odds_73 : decode cX8_odds 73 = .ok (.bipush 6, 2) := by decide +kernel
theorem dX8_odds_75 : decode cX8_odds 75 = .ok (.irem, 1) := by decide +kernel
theorem dX8_odds_76 : decode cX8_odds 76 = .ok (.if_icmp .ne 7, 3) := by decide +kernel
theorem dX8_odds_79 : decode cX8_odds 79 = .ok (.lconst 1, 1) := by decide +kernel
theorem dX8_odds_80 : decode cX8_odds 80 = .ok (.goto 4, 3) := by decide +kernel
theorem dX8_odds_83 : decode cX8_odds 83 = .ok (.lconst 0, 1) := by decide +kernel
theorem dX8_odds_84 : decode cX8_odds 84 = .ok (.lastore, 1) := by decide +kernel
theorem dX8_odds_85 : decode cX8_odds 85 = .ok (.iinc 5 1, 3) := by decide +kernel
theorem dX8_odds_88 : decode cX8_odds 88 = .ok (.goto (-36), 3) := by decide +kernel
theorem dX8_odds_91 : decode cX8_odds 91 = .ok (.lconst 1, 1) := by decide +kernel
theorem dX8_odds_92 : decode cX8_odds 92 = .ok (.lstore 5, 2) := by decide +kernel
theorem dX8_odds_94 : decode cX8_odds 94 = .ok (.iconst 0, 1) := by decide +kernel
theorem dX8_odds_95 : decode cX8_odds 95 = .ok (.istore 7, 2) := by decide +kernel
theorem dX8_odds_97 : decode cX8_odds 97 = .ok (.iload 7, 2) := by decide +kernel
theorem dX8_odds_99 : decode cX8_odds 99 = .ok (.iload_n 2, 1) := by decide +kernel
theorem dX8_odds_100 : decode cX8_odds 100 = .ok (.if_icmp .ge 157, 3) := by decide +kernel
theorem dX8_odds_103 : decode cX8_odds 103 = .ok (.iconst 0, 1) := by decide +kernel
theorem dX8_odds_104 : decode cX8_odds 104 = .ok (.istore 8, 2) := by decide +kernel
theorem dX8_odds_106 : decode cX8_odds 106 = .ok (.iload 8, 2) := by decide +kernel
theorem dX8_odds_108 : decode cX8_odds 108 = .ok (.bipush 6, 2) := by decide +kernel
theorem dX8_odds_110 : decode cX8_odds 110 = .ok (.if_icmp .ge 17, 3) := by decide +kernel
theorem dX8_odds_113 : decode cX8_odds 113 = .ok (.aload_n 0, 1) := by decide +kernel
theorem dX8_odds_114 : decode cX8_odds 114 = .ok (.getfield 74, 3) := by decide +kernel
theorem dX8_odds_117 : decode cX8_odds 117 = .ok (.iload 8, 2) := by decide +kernel
theorem dX8_odds_119 : decode cX8_odds 119 = .ok (.lconst 0, 1) := by decide +kernel
theorem dX8_odds_120 : decode cX8_odds 120 = .ok (.lastore, 1) := by decide +kernel
theorem dX8_odds_121 : decode cX8_odds 121 = .ok (.iinc 8 1, 3) := by decide +kernel
theorem dX8_odds_124 : decode cX8_odds 124 = .ok (.goto (-18), 3) := by decide +kernel
theorem dX8_odds_127 : decode cX8_odds 127 = .ok (.iconst 0, 1) := by decide +kernel
theorem dX8_odds_128 : decode cX8_odds 128 = .ok (.istore 8, 2) := by decide +kernel
theorem dX8_odds_130 : decode cX8_odds 130 = .ok (.iload 8, 2) := by decide +kernel
theorem dX8_odds_132 : decode cX8_odds 132 = .ok (.bipush 6, 2) := by decide +kernel
theorem dX8_odds_134 : decode cX8_odds 134 = .ok (.if_icmp .ge 79, 3) := by decide +kernel
theorem dX8_odds_137 : decode cX8_odds 137 = .ok (.aload_n 0, 1) := by decide +kernel
theorem dX8_odds_138 : decode cX8_odds 138 = .ok (.getfield 55, 3) := by decide +kernel
theorem dX8_odds_141 : decode cX8_odds 141 = .ok (.iload_n 1, 1) := by decide +kernel
theorem dX8_odds_142 : decode cX8_odds 142 = .ok (.iload 8, 2) := by decide +kernel
theorem dX8_odds_144 : decode cX8_odds 144 = .ok (.iastore, 1) := by decide +kernel
theorem dX8_odds_145 : decode cX8_odds 145 = .ok (.aload_n 0, 1) := by decide +kernel
theorem dX8_odds_146 : decode cX8_odds 146 = .ok (.getfield 74, 3) := by decide +kernel
theorem dX8_odds_149 : decode cX8_odds 149 = .ok (.iload 8, 2) := by decide +kernel
theorem dX8_odds_151 : decode cX8_odds 151 = .ok (.dup2, 1) := by decide +kernel
theorem dX8_odds_152 : decode cX8_odds 152 = .ok (.laload, 1) := by decide +kernel
theorem dX8_odds_153 : decode cX8_odds 153 = .ok (.aload_n 0, 1) := by decide +kernel
theorem dX8_odds_154 : decode cX8_odds 154 = .ok (.getfield 70, 3) := by decide +kernel
theorem dX8_odds_157 : decode cX8_odds 157 = .ok (.iload 8, 2) := by decide +kernel
theorem dX8_odds_159 : decode cX8_odds 159 = .ok (.laload, 1) := by decide +kernel
theorem dX8_odds_160 : decode cX8_odds 160 = .ok (.bipush 10, 2) := by decide +kernel
theorem dX8_odds_162 : decode cX8_odds 162 = .ok (.iload_n 3, 1) := by decide +kernel
theorem dX8_odds_163 : decode cX8_odds 163 = .ok (.isub, 1) := by decide +kernel
theorem dX8_odds_164 : decode cX8_odds 164 = .ok (.i2l, 1) := by decide +kernel
theorem dX8_odds_165 : decode cX8_odds 165 = .ok (.lmul, 1) := by decide +kernel
theorem dX8_odds_166 : decode cX8_odds 166 = .ok (.ladd, 1) := by decide +kernel
theorem dX8_odds_167 : decode cX8_odds 167 = .ok (.lastore, 1) := by decide +kernel
theorem dX8_odds_168 : decode cX8_odds 168 = .ok (.aload_n 0, 1) := by decide +kernel
theorem dX8_odds_169 : decode cX8_odds 169 = .ok (.getfield 74, 3) := by decide +kernel
theorem dX8_odds_172 : decode cX8_odds 172 = .ok (.aload_n 0, 1) := by decide +kernel
theorem dX8_odds_173 : decode cX8_odds 173 = .ok (.iload_n 1, 1) := by decide +kernel
theorem dX8_odds_174 : decode cX8_odds 174 = .ok (.iconst 0, 1) := by decide +kernel
theorem dX8_odds_175 : decode cX8_odds 175 = .ok (.invokevirtual 138, 3) := by decide +kernel
theorem dX8_odds_178 : decode cX8_odds 178 = .ok (.ifCond .eq 13, 3) := by decide +kernel
theorem dX8_odds_181 : decode cX8_odds 181 = .ok (.iload 8, 2) := by decide +kernel
theorem dX8_odds_183 : decode cX8_odds 183 = .ok (.iconst 1, 1) := by decide +kernel
theorem dX8_odds_184 : decode cX8_odds 184 = .ok (.iadd, 1) := by decide +kernel
theorem dX8_odds_185 : decode cX8_odds 185 = .ok (.bipush 6, 2) := by decide +kernel
theorem dX8_odds_187 : decode cX8_odds 187 = .ok (.irem, 1) := by decide +kernel
theorem dX8_odds_188 : decode cX8_odds 188 = .ok (.goto 5, 3) := by decide +kernel
theorem dX8_odds_191 : decode cX8_odds 191 = .ok (.iload 8, 2) := by decide +kernel
theorem dX8_odds_193 : decode cX8_odds 193 = .ok (.dup2, 1) := by decide +kernel
theorem dX8_odds_194 : decode cX8_odds 194 = .ok (.laload, 1) := by decide +kernel
theorem dX8_odds_195 : decode cX8_odds 195 = .ok (.aload_n 0, 1) := by decide +kernel
theorem dX8_odds_196 : decode cX8_odds 196 = .ok (.getfield 70, 3) := by decide +kernel
theorem dX8_odds_199 : decode cX8_odds 199 = .ok (.iload 8, 2) := by decide +kernel
theorem dX8_odds_201 : decode cX8_odds 201 = .ok (.laload, 1) := by decide +kernel
theorem dX8_odds_202 : decode cX8_odds 202 = .ok (.iload_n 3, 1) := by decide +kernel
theorem dX8_odds_203 : decode cX8_odds 203 = .ok (.i2l, 1) := by decide +kernel
theorem dX8_odds_204 : decode cX8_odds 204 = .ok (.lmul, 1) := by decide +kernel
theorem dX8_odds_205 : decode cX8_odds 205 = .ok (.ladd, 1) := by decide +kernel
theorem dX8_odds_206 : decode cX8_odds 206 = .ok (.lastore, 1) := by decide +kernel
theorem dX8_odds_207 : decode cX8_odds 207 = .ok (.iinc 8 1, 3) := by decide +kernel
theorem dX8_odds_210 : decode cX8_odds 210 = .ok (.goto (-80), 3) := by decide +kernel
theorem dX8_odds_213 : decode cX8_odds 213 = .ok (.iconst 0, 1) := by decide +kernel
theorem dX8_odds_214 : decode cX8_odds 214 = .ok (.istore 8, 2) := by decide +kernel
theorem dX8_odds_216 : decode cX8_odds 216 = .ok (.iload 8, 2) := by decide +kernel
theorem dX8_odds_218 : decode cX8_odds 218 = .ok (.bipush 6, 2) := by decide +kernel
theorem dX8_odds_220 : decode cX8_odds 220 = .ok (.if_icmp .ge 23, 3) := by decide +kernel
theorem dX8_odds_223 : decode cX8_odds 223 = .ok (.aload_n 0, 1) := by decide +kernel
theorem dX8_odds_224 : decode cX8_odds 224 = .ok (.getfield 70, 3) := by decide +kernel
theorem dX8_odds_227 : decode cX8_odds 227 = .ok (.iload 8, 2) := by decide +kernel
theorem dX8_odds_229 : decode cX8_odds 229 = .ok (.aload_n 0, 1) := by decide +kernel
theorem dX8_odds_230 : decode cX8_odds 230 = .ok (.getfield 74, 3) := by decide +kernel
theorem dX8_odds_233 : decode cX8_odds 233 = .ok (.iload 8, 2) := by decide +kernel
theorem dX8_odds_235 : decode cX8_odds 235 = .ok (.laload, 1) := by decide +kernel
theorem dX8_odds_236 : decode cX8_odds 236 = .ok (.lastore, 1) := by decide +kernel
theorem dX8_odds_237 : decode cX8_odds 237 = .ok (.iinc 8 1, 3) := by decide +kernel
theorem dX8_odds_240 : decode cX8_odds 240 = .ok (.goto (-24), 3) := by decide +kernel
theorem dX8_odds_243 : decode cX8_odds 243 = .ok (.lload 5, 2) := by decide +kernel
theorem dX8_odds_245 : decode cX8_odds 245 = .ok (.ldc2_w 209, 3) := by decide +kernel
theorem dX8_odds_248 : decode cX8_odds 248 = .ok (.lmul, 1) := by decide +kernel
theorem dX8_odds_249 : decode cX8_odds 249 = .ok (.lstore 5, 2) := by decide +kernel
theorem dX8_odds_251 : decode cX8_odds 251 = .ok (.iinc 7 1, 3) := by decide +kernel
theorem dX8_odds_254 : decode cX8_odds 254 = .ok (.goto (-157), 3) := by decide +kernel
theorem dX8_odds_257 : decode cX8_odds 257 = .ok (.lconst 0, 1) := by decide +kernel
theorem dX8_odds_258 : decode cX8_odds 258 = .ok (.lstore 7, 2) := by decide +kernel
theorem dX8_odds_260 : decode cX8_odds 260 = .ok (.iconst 0, 1) := by decide +kernel
theorem dX8_odds_261 : decode cX8_odds 261 = .ok (.istore 9, 2) := by decide +kernel
theorem dX8_odds_263 : decode cX8_odds 263 = .ok (.iload 9, 2) := by decide +kernel
theorem dX8_odds_265 : decode cX8_odds 265 = .ok (.bipush 6, 2) := by decide +kernel
theorem dX8_odds_267 : decode cX8_odds 267 = .ok (.if_icmp .ge 42, 3) := by decide +kernel
theorem dX8_odds_270 : decode cX8_odds 270 = .ok (.aload_n 0, 1) := by decide +kernel
theorem dX8_odds_271 : decode cX8_odds 271 = .ok (.getfield 55, 3) := by decide +kernel
theorem dX8_odds_274 : decode cX8_odds 274 = .ok (.iload_n 1, 1) := by decide +kernel
theorem dX8_odds_275 : decode cX8_odds 275 = .ok (.iload 9, 2) := by decide +kernel
theorem dX8_odds_277 : decode cX8_odds 277 = .ok (.iastore, 1) := by decide +kernel
theorem dX8_odds_278 : decode cX8_odds 278 = .ok (.lload 7, 2) := by decide +kernel
theorem dX8_odds_280 : decode cX8_odds 280 = .ok (.aload_n 0, 1) := by decide +kernel
theorem dX8_odds_281 : decode cX8_odds 281 = .ok (.iload_n 1, 1) := by decide +kernel
theorem dX8_odds_282 : decode cX8_odds 282 = .ok (.iconst 0, 1) := by decide +kernel
theorem dX8_odds_283 : decode cX8_odds 283 = .ok (.invokevirtual 138, 3) := by decide +kernel
theorem dX8_odds_286 : decode cX8_odds 286 = .ok (.ifCond .eq 13, 3) := by decide +kernel
theorem dX8_odds_289 : decode cX8_odds 289 = .ok (.aload_n 0, 1) := by decide +kernel
theorem dX8_odds_290 : decode cX8_odds 290 = .ok (.getfield 70, 3) := by decide +kernel
theorem dX8_odds_293 : decode cX8_odds 293 = .ok (.iload 9, 2) := by decide +kernel
theorem dX8_odds_295 : decode cX8_odds 295 = .ok (.laload, 1) := by decide +kernel
theorem dX8_odds_296 : decode cX8_odds 296 = .ok (.goto 4, 3) := by decide +kernel
theorem dX8_odds_299 : decode cX8_odds 299 = .ok (.lconst 0, 1) := by decide +kernel
theorem dX8_odds_300 : decode cX8_odds 300 = .ok (.ladd, 1) := by decide +kernel
theorem dX8_odds_301 : decode cX8_odds 301 = .ok (.lstore 7, 2) := by decide +kernel
theorem dX8_odds_303 : decode cX8_odds 303 = .ok (.iinc 9 1, 3) := by decide +kernel
theorem dX8_odds_306 : decode cX8_odds 306 = .ok (.goto (-43), 3) := by decide +kernel
theorem dX8_odds_309 : decode cX8_odds 309 = .ok (.lload 7, 2) := by decide +kernel
theorem dX8_odds_311 : decode cX8_odds 311 = .ok (.lstore 9, 2) := by decide +kernel
theorem dX8_odds_313 : decode cX8_odds 313 = .ok (.lload 5, 2) := by decide +kernel
theorem dX8_odds_315 : decode cX8_odds 315 = .ok (.lstore 11, 2) := by decide +kernel
theorem dX8_odds_317 : decode cX8_odds 317 = .ok (.lload 11, 2) := by decide +kernel
theorem dX8_odds_319 : decode cX8_odds 319 = .ok (.lconst 0, 1) := by decide +kernel
theorem dX8_odds_320 : decode cX8_odds 320 = .ok (.lcmp, 1) := by decide +kernel
theorem dX8_odds_321 : decode cX8_odds 321 = .ok (.ifCond .eq 21, 3) := by decide +kernel
theorem dX8_odds_324 : decode cX8_odds 324 = .ok (.lload 9, 2) := by decide +kernel
theorem dX8_odds_326 : decode cX8_odds 326 = .ok (.lload 11, 2) := by decide +kernel
theorem dX8_odds_328 : decode cX8_odds 328 = .ok (.lrem, 1) := by decide +kernel
theorem dX8_odds_329 : decode cX8_odds 329 = .ok (.lstore 13, 2) := by decide +kernel
theorem dX8_odds_331 : decode cX8_odds 331 = .ok (.lload 11, 2) := by decide +kernel
theorem dX8_odds_333 : decode cX8_odds 333 = .ok (.lstore 9, 2) := by decide +kernel
theorem dX8_odds_335 : decode cX8_odds 335 = .ok (.lload 13, 2) := by decide +kernel
theorem dX8_odds_337 : decode cX8_odds 337 = .ok (.lstore 11, 2) := by decide +kernel
theorem dX8_odds_339 : decode cX8_odds 339 = .ok (.goto (-22), 3) := by decide +kernel
theorem dX8_odds_342 : decode cX8_odds 342 = .ok (.iload 4, 2) := by decide +kernel
theorem dX8_odds_344 : decode cX8_odds 344 = .ok (.ifCond .ne 11, 3) := by decide +kernel
theorem dX8_odds_347 : decode cX8_odds 347 = .ok (.lload 7, 2) := by decide +kernel
theorem dX8_odds_349 : decode cX8_odds 349 = .ok (.lload 9, 2) := by decide +kernel
theorem dX8_odds_351 : decode cX8_odds 351 = .ok (.ldiv, 1) := by decide +kernel
theorem dX8_odds_352 : decode cX8_odds 352 = .ok (.goto 8, 3) := by decide +kernel
theorem dX8_odds_355 : decode cX8_odds 355 = .ok (.lload 5, 2) := by decide +kernel
theorem dX8_odds_357 : decode cX8_odds 357 = .ok (.lload 9, 2) := by decide +kernel
theorem dX8_odds_359 : decode cX8_odds 359 = .ok (.ldiv, 1) := by decide +kernel
theorem dX8_odds_360 : decode cX8_odds 360 = .ok (.l2i, 1) := by decide +kernel
theorem dX8_odds_361 : decode cX8_odds 361 = .ok (.ireturn, 1) := by decide +kernel
set_option maxRecDepth 20000 in
theorem ggX8_day_X8_in : GoodIn wsX8_day wsX8_in := goodIn_r _ [13] (by decide +kernel) (by decide +kernel)
set_option maxRecDepth 20000 in
theorem gX8_day_X8_in : GoodIn wsX8_day (va_wsS RX8 82 yX8_in wsX8_in) := goodIn_app (goodIn_of _ (by decide +kernel)) ggX8_day_X8_in
set_option maxRecDepth 20000 in
theorem ggX8_day_X8_isPerson : GoodIn wsX8_day wsX8_isPerson := goodIn_r _ [17, 6, 10, 11, 12, 13, 47, 48, 49, 50, 51, 52, 53, 54, 55, 56, 57, 58, 59, 60, 61, 62, 63, 64, 65, 66, 67, 68, 69, 70, 71, 72, 73, 74, 75, 76] (by decide +kernel) (by decide +kernel)
set_option maxRecDepth 20000 in
theorem gX8_day_X8_isPerson : GoodIn wsX8_day (wsV RX8 150 RX8 yX8_isPerson wsX8_isPerson) := goodIn_app (goodIn_of _ (by decide +kernel)) ggX8_day_X8_isPerson
set_option maxRecDepth 20000 in
theorem ggX8_day_X8_layNow : GoodIn wsX8_day wsX8_layNow := goodIn_r _ [21, 8, 22, 23, 24, 25, 12, 26, 9, 27, 47, 48, 49, 50, 51, 52, 53, 54, 55, 56, 57, 58, 59, 60, 61, 62, 63, 64, 65, 66, 67, 68, 69, 70, 71, 72, 73, 74, 75, 76] (by decide +kernel) (by decide +kernel)
set_option maxRecDepth 20000 in
theorem gX8_day_X8_layNow : GoodIn wsX8_day (wsV RX8 147 RX8 yX8_layNow wsX8_layNow) := goodIn_app (goodIn_of _ (by decide +kernel)) ggX8_day_X8_layNow
set_option maxRecDepth 20000 in
theorem ggX8_day_X8_canPass : GoodIn wsX8_day wsX8_canPass := goodIn_r _ [31, 32, 33, 34, 12, 35, 36, 37, 38, 39, 40, 41, 42, 9, 47, 48, 49, 50, 51, 52, 53, 54, 55, 56, 57, 58, 59, 60, 61, 62, 63, 64, 65, 66, 67, 68, 69, 70, 71, 72, 73, 74, 75, 76] (by decide +kernel) (by decide +kernel)
set_option maxRecDepth 20000 in
theorem gX8_day_X8_canPass : GoodIn wsX8_day (wsV RX8 153 RX8 yX8_canPass wsX8_canPass) := goodIn_app (goodIn_of _ (by decide +kernel)) ggX8_day_X8_canPass
set_option maxRecDepth 20000 in
theorem ggX8_day_X8_beyond : GoodIn wsX8_day wsX8_beyond := goodIn_r _ [46, 36, 37, 47, 48, 49, 50, 51, 52, 53, 54, 55, 56, 57, 58, 59, 60, 61, 62, 63, 64, 65, 66, 67, 68, 69, 70, 71, 72, 73, 74, 75, 76] (by decide +kernel) (by decide +kernel)
set_option maxRecDepth 20000 in
theorem gX8_day_X8_beyond : GoodIn wsX8_day (wsV RX8 163 RX8 yX8_beyond wsX8_beyond) := goodIn_app (goodIn_of _ (by decide +kernel)) ggX8_day_X8_beyond
theorem dX8_day_0 : decode cX8_day 0 = .ok (.iload_n 1, 1) := by decide +kernel
theorem dX8_day_1 : decode cX8_day 1 = .ok (.i2l, 1) := by decide +kernel
theorem dX8_day_2 : decode cX8_day 2 = .ok (.lconst 0, 1) := by decide +kernel
theorem dX8_day_3 : decode cX8_day 3 = .ok (.ldc2_w 211, 3) := by decide +kernel
theorem dX8_day_6 : decode cX8_day 6 = .ok (.invokestatic 82, 3) := by decide +kernel
theorem dX8_day_9 : decode cX8_day 9 = .ok (.ifCond .eq 28, 3) := by decide +kernel
theorem dX8_day_12 : decode cX8_day 12 = .ok (.iload_n 2, 1) := by decide +kernel
theorem dX8_day_13 : decode cX8_day 13 = .ok (.i2l, 1) := by decide +kernel
theorem dX8_day_14 : decode cX8_day 14 = .ok (.lconst 1, 1) := by decide +kernel
theorem dX8_day_15 : decode cX8_day 15 = .ok (.ldc2_w 213, 3) := by decide +kernel
theorem dX8_day_18 : decode cX8_day 18 = .ok (.invokestatic 82, 3) := by decide +kernel
theorem dX8_day_21 : decode cX8_day 21 = .ok (.ifCond .eq 16, 3) := by decide +kernel
theorem dX8_day_24 : decode cX8_day 24 = .ok (.iload_n 3, 1) := by decide +kernel
theorem dX8_day_25 : decode cX8_day 25 = .ok (.iconst (-1), 1) := by decide +kernel
theorem dX8_day_26 : decode cX8_day 26 = .ok (.if_icmp .eq 13, 3) := by decide +kernel
theorem dX8_day_29 : decode cX8_day 29 = .ok (.aload_n 0, 1) := by decide +kernel
theorem dX8_day_30 : decode cX8_day 30 = .ok (.iload_n 3, 1) := by decide +kernel
theorem dX8_day_31 : decode cX8_day 31 = .ok (.invokevirtual 150, 3) := by decide +kernel
theorem dX8_day_34 : decode cX8_day 34 = .ok (.ifCond .ne 5, 3) := by decide +kernel
theorem dX8_day_37 : decode cX8_day 37 = .ok (.iconst (-1), 1) := by decide +kernel
theorem dX8_day_38 : decode cX8_day 38 = .ok (.ireturn, 1) := by decide +kernel
theorem dX8_day_39 : decode cX8_day 39 = .ok (.aload_n 0, 1) := by decide +kernel
theorem dX8_day_40 : decode cX8_day 40 = .ok (.invokevirtual 147, 3) := by decide +kernel
theorem dX8_day_43 : decode cX8_day 43 = .ok (.iconst 0, 1) := by decide +kernel
theorem dX8_day_44 : decode cX8_day 44 = .ok (.istore 4, 2) := by decide +kernel
theorem dX8_day_46 : decode cX8_day 46 = .ok (.iconst 0, 1) := by decide +kernel
theorem dX8_day_47 : decode cX8_day 47 = .ok (.istore 5, 2) := by decide +kernel
theorem dX8_day_49 : decode cX8_day 49 = .ok (.iload 5, 2) := by decide +kernel
theorem dX8_day_51 : decode cX8_day 51 = .ok (.iload_n 2, 1) := by decide +kernel
theorem dX8_day_52 : decode cX8_day 52 = .ok (.if_icmp .ge 114, 3) := by decide +kernel
theorem dX8_day_55 : decode cX8_day 55 = .ok (.ldc2_w 215, 3) := by decide +kernel
theorem dX8_day_58 : decode cX8_day 58 = .ok (.iload_n 1, 1) := by decide +kernel
theorem dX8_day_59 : decode cX8_day 59 = .ok (.i2l, 1) := by decide +kernel
theorem dX8_day_60 : decode cX8_day 60 = .ok (.lmul, 1) := by decide +kernel
theorem dX8_day_61 : decode cX8_day 61 = .ok (.ldc2_w 217, 3) := by decide +kernel
theorem dX8_day_64 : decode cX8_day 64 = .ok (.iload 5, 2) := by decide +kernel
theorem dX8_day_66 : decode cX8_day 66 = .ok (.i2l, 1) := by decide +kernel
theorem dX8_day_67 : decode cX8_day 67 = .ok (.lmul, 1) := by decide +kernel
theorem dX8_day_68 : decode cX8_day 68 = .ok (.ladd, 1) := by decide +kernel
theorem dX8_day_69 : decode cX8_day 69 = .ok (.lconst 1, 1) := by decide +kernel
theorem dX8_day_70 : decode cX8_day 70 = .ok (.ladd, 1) := by decide +kernel
theorem dX8_day_71 : decode cX8_day 71 = .ok (.lstore 6, 2) := by decide +kernel
theorem dX8_day_73 : decode cX8_day 73 = .ok (.lload 6, 2) := by decide +kernel
theorem dX8_day_75 : decode cX8_day 75 = .ok (.lload 6, 2) := by decide +kernel
theorem dX8_day_77 : decode cX8_day 77 = .ok (.lmul, 1) := by decide +kernel
theorem dX8_day_78 : decode cX8_day 78 = .ok (.ldc2_w 219, 3) := by decide +kernel
theorem dX8_day_81 : decode cX8_day 81 = .ok (.lrem, 1) := by decide +kernel
theorem dX8_day_82 : decode cX8_day 82 = .ok (.l2i, 1) := by decide +kernel
theorem dX8_day_83 : decode cX8_day 83 = .ok (.istore 8, 2) := by decide +kernel
theorem dX8_day_85 : decode cX8_day 85 = .ok (.iload 8, 2) := by decide +kernel
theorem dX8_day_87 : decode cX8_day 87 = .ok (.aload_n 0, 1) := by decide +kernel
theorem dX8_day_88 : decode cX8_day 88 = .ok (.getfield 28, 3) := by decide +kernel
theorem dX8_day_91 : decode cX8_day 91 = .ok (.iconst 0, 1) := by decide +kernel
theorem dX8_day_92 : decode cX8_day 92 = .ok (.iaload, 1) := by decide +kernel
theorem dX8_day_93 : decode cX8_day 93 = .ok (.irem, 1) := by decide +kernel
theorem dX8_day_94 : decode cX8_day 94 = .ok (.istore 9, 2) := by decide +kernel
theorem dX8_day_96 : decode cX8_day 96 = .ok (.iload 8, 2) := by decide +kernel
theorem dX8_day_98 : decode cX8_day 98 = .ok (.bipush 8, 2) := by decide +kernel
theorem dX8_day_100 : decode cX8_day 100 = .ok (.idiv, 1) := by decide +kernel
theorem dX8_day_101 : decode cX8_day 101 = .ok (.aload_n 0, 1) := by decide +kernel
theorem dX8_day_102 : decode cX8_day 102 = .ok (.getfield 13, 3) := by decide +kernel
theorem dX8_day_105 : decode cX8_day 105 = .ok (.iconst 0, 1) := by decide +kernel
theorem dX8_day_106 : decode cX8_day 106 = .ok (.iaload, 1) := by decide +kernel
theorem dX8_day_107 : decode cX8_day 107 = .ok (.irem, 1) := by decide +kernel
theorem dX8_day_108 : decode cX8_day 108 = .ok (.istore 10, 2) := by decide +kernel
theorem dX8_day_110 : decode cX8_day 110 = .ok (.aload_n 0, 1) := by decide +kernel
theorem dX8_day_111 : decode cX8_day 111 = .ok (.aload_n 0, 1) := by decide +kernel
theorem dX8_day_112 : decode cX8_day 112 = .ok (.getfield 58, 3) := by decide +kernel
theorem dX8_day_115 : decode cX8_day 115 = .ok (.iload 9, 2) := by decide +kernel
theorem dX8_day_117 : decode cX8_day 117 = .ok (.iaload, 1) := by decide +kernel
theorem dX8_day_118 : decode cX8_day 118 = .ok (.iload 10, 2) := by decide +kernel
theorem dX8_day_120 : decode cX8_day 120 = .ok (.invokevirtual 153, 3) := by decide +kernel
theorem dX8_day_123 : decode cX8_day 123 = .ok (.ifCond .eq 37, 3) := by decide +kernel
theorem dX8_day_126 : decode cX8_day 126 = .ok (.aload_n 0, 1) := by decide +kernel
theorem dX8_day_127 : decode cX8_day 127 = .ok (.getfield 55, 3) := by decide +kernel
theorem dX8_day_130 : decode cX8_day 130 = .ok (.iload 10, 2) := by decide +kernel
theorem dX8_day_132 : decode cX8_day 132 = .ok (.dup2, 1) := by decide +kernel
theorem dX8_day_133 : decode cX8_day 133 = .ok (.iaload, 1) := by decide +kernel
theorem dX8_day_134 : decode cX8_day 134 = .ok (.iconst 1, 1) := by decide +kernel
theorem dX8_day_135 : decode cX8_day 135 = .ok (.iadd, 1) := by decide +kernel
theorem dX8_day_136 : decode cX8_day 136 = .ok (.iastore, 1) := by decide +kernel
theorem dX8_day_137 : decode cX8_day 137 = .ok (.aload_n 0, 1) := by decide +kernel
theorem dX8_day_138 : decode cX8_day 138 = .ok (.getfield 58, 3) := by decide +kernel
theorem dX8_day_141 : decode cX8_day 141 = .ok (.iload 9, 2) := by decide +kernel
theorem dX8_day_143 : decode cX8_day 143 = .ok (.aload_n 0, 1) := by decide +kernel
theorem dX8_day_144 : decode cX8_day 144 = .ok (.iload 10, 2) := by decide +kernel
theorem dX8_day_146 : decode cX8_day 146 = .ok (.aload_n 0, 1) := by decide +kernel
theorem dX8_day_147 : decode cX8_day 147 = .ok (.getfield 58, 3) := by decide +kernel
theorem dX8_day_150 : decode cX8_day 150 = .ok (.iload 9, 2) := by decide +kernel
theorem dX8_day_152 : decode cX8_day 152 = .ok (.iaload, 1) := by decide +kernel
theorem dX8_day_153 : decode cX8_day 153 = .ok (.invokevirtual 163, 3) := by decide +kernel
theorem dX8_day_156 : decode cX8_day 156 = .ok (.iastore, 1) := by decide +kernel
theorem dX8_day_157 : decode cX8_day 157 = .ok (.iinc 4 1, 3) := by decide +kernel
theorem dX8_day_160 : decode cX8_day 160 = .ok (.iinc 5 1, 3) := by decide +kernel
theorem dX8_day_163 : decode cX8_day 163 = .ok (.goto (-114), 3) := by decide +kernel
theorem dX8_day_166 : decode cX8_day 166 = .ok (.iload_n 3, 1) := by decide +kernel
theorem dX8_day_167 : decode cX8_day 167 = .ok (.ifCond .ge 8, 3) := by decide +kernel
theorem dX8_day_170 : decode cX8_day 170 = .ok (.iload 4, 2) := by decide +kernel
theorem dX8_day_172 : decode cX8_day 172 = .ok (.goto 9, 3) := by decide +kernel
theorem dX8_day_175 : decode cX8_day 175 = .ok (.aload_n 0, 1) := by decide +kernel
theorem dX8_day_176 : decode cX8_day 176 = .ok (.getfield 58, 3) := by decide +kernel
theorem dX8_day_179 : decode cX8_day 179 = .ok (.iload_n 3, 1) := by decide +kernel
theorem dX8_day_180 : decode cX8_day 180 = .ok (.iaload, 1) := by decide +kernel
theorem dX8_day_181 : decode cX8_day 181 = .ok (.ireturn, 1) := by decide +kernel
theorem dX8_copy_0 : decode cX8_copy 0 = .ok (.iconst 0, 1) := by decide +kernel
theorem dX8_copy_1 : decode cX8_copy 1 = .ok (.istore_n 3, 1) := by decide +kernel
theorem dX8_copy_2 : decode cX8_copy 2 = .ok (.iload_n 3, 1) := by decide +kernel
theorem dX8_copy_3 : decode cX8_copy 3 = .ok (.iconst 5, 1) := by decide +kernel
theorem dX8_copy_4 : decode cX8_copy 4 = .ok (.if_icmp .ge 29, 3) := by decide +kernel
theorem dX8_copy_7 : decode cX8_copy 7 = .ok (.aload_n 0, 1) := by decide +kernel
theorem dX8_copy_8 : decode cX8_copy 8 = .ok (.getfield 31, 3) := by decide +kernel
theorem dX8_copy_11 : decode cX8_copy 11 = .ok (.iconst 5, 1) := by decide +kernel
theorem dX8_copy_12 : decode cX8_copy 12 = .ok (.iload_n 2, 1) := by decide +kernel
theorem dX8_copy_13 : decode cX8_copy 13 = .ok (.imul, 1) := by decide +kernel
theorem dX8_copy_14 : decode cX8_copy 14 = .ok (.iload_n 3, 1) := by decide +kernel
theorem dX8_copy_15 : decode cX8_copy 15 = .ok (.iadd, 1) := by decide +kernel
theorem dX8_copy_16 : decode cX8_copy 16 = .ok (.aload_n 0, 1) := by decide +kernel
theorem dX8_copy_17 : decode cX8_copy 17 = .ok (.getfield 31, 3) := by decide +kernel
theorem dX8_copy_20 : decode cX8_copy 20 = .ok (.iconst 5, 1) := by decide +kernel
theorem dX8_copy_21 : decode cX8_copy 21 = .ok (.iload_n 1, 1) := by decide +kernel
theorem dX8_copy_22 : decode cX8_copy 22 = .ok (.imul, 1) := by decide +kernel
theorem dX8_copy_23 : decode cX8_copy 23 = .ok (.iload_n 3, 1) := by decide +kernel
theorem dX8_copy_24 : decode cX8_copy 24 = .ok (.iadd, 1) := by decide +kernel
theorem dX8_copy_25 : decode cX8_copy 25 = .ok (.iaload, 1) := by decide +kernel
theorem dX8_copy_26 : decode cX8_copy 26 = .ok (.iastore, 1) := by decide +kernel
theorem dX8_copy_27 : decode cX8_copy 27 = .ok (.iinc 3 1, 3) := by decide +kernel
theorem dX8_copy_30 : decode cX8_copy 30 = .ok (.goto (-28), 3) := by decide +kernel
theorem dX8_copy_33 : decode cX8_copy 33 = .ok (.iconst 0, 1) := by decide +kernel
theorem dX8_copy_34 : decode cX8_copy 34 = .ok (.istore_n 3, 1) := by decide +kernel
theorem dX8_copy_35 : decode cX8_copy 35 = .ok (.iload_n 3, 1) := by decide +kernel
theorem dX8_copy_36 : decode cX8_copy 36 = .ok (.iconst 3, 1) := by decide +kernel
theorem dX8_copy_37 : decode cX8_copy 37 = .ok (.if_icmp .ge 29, 3) := by decide +kernel
theorem dX8_copy_40 : decode cX8_copy 40 = .ok (.aload_n 0, 1) := by decide +kernel
theorem dX8_copy_41 : decode cX8_copy 41 = .ok (.getfield 34, 3) := by decide +kernel
theorem dX8_copy_44 : decode cX8_copy 44 = .ok (.iconst 3, 1) := by decide +kernel
theorem dX8_copy_45 : decode cX8_copy 45 = .ok (.iload_n 2, 1) := by decide +kernel
theorem dX8_copy_46 : decode cX8_copy 46 = .ok (.imul, 1) := by decide +kernel
theorem dX8_copy_47 : decode cX8_copy 47 = .ok (.iload_n 3, 1) := by decide +kernel
theorem dX8_copy_48 : decode cX8_copy 48 = .ok (.iadd, 1) := by decide +kernel
theorem dX8_copy_49 : decode cX8_copy 49 = .ok (.aload_n 0, 1) := by decide +kernel
theorem dX8_copy_50 : decode cX8_copy 50 = .ok (.getfield 34, 3) := by decide +kernel
theorem dX8_copy_53 : decode cX8_copy 53 = .ok (.iconst 3, 1) := by decide +kernel
theorem dX8_copy_54 : decode cX8_copy 54 = .ok (.iload_n 1, 1) := by decide +kernel
theorem dX8_copy_55 : decode cX8_copy 55 = .ok (.imul, 1) := by decide +kernel
theorem dX8_copy_56 : decode cX8_copy 56 = .ok (.iload_n 3, 1) := by decide +kernel
theorem dX8_copy_57 : decode cX8_copy 57 = .ok (.iadd, 1) := by decide +kernel
theorem dX8_copy_58 : decode cX8_copy 58 = .ok (.iaload, 1) := by decide +kernel
theorem dX8_copy_59 : decode cX8_copy 59 = .ok (.iastore, 1) := by decide +kernel
theorem dX8_copy_60 : decode cX8_copy 60 = .ok (.iinc 3 1, 3) := by decide +kernel
theorem dX8_copy_63 : decode cX8_copy 63 = .ok (.goto (-28), 3) := by decide +kernel
theorem dX8_copy_66 : decode cX8_copy 66 = .ok (.aload_n 0, 1) := by decide +kernel
theorem dX8_copy_67 : decode cX8_copy 67 = .ok (.getfield 37, 3) := by decide +kernel
theorem dX8_copy_70 : decode cX8_copy 70 = .ok (.iload_n 2, 1) := by decide +kernel
theorem dX8_copy_71 : decode cX8_copy 71 = .ok (.aload_n 0, 1) := by decide +kernel
theorem dX8_copy_72 : decode cX8_copy 72 = .ok (.getfield 37, 3) := by decide +kernel
theorem dX8_copy_75 : decode cX8_copy 75 = .ok (.iload_n 1, 1) := by decide +kernel
theorem dX8_copy_76 : decode cX8_copy 76 = .ok (.iaload, 1) := by decide +kernel
theorem dX8_copy_77 : decode cX8_copy 77 = .ok (.iastore, 1) := by decide +kernel
theorem dX8_copy_78 : decode cX8_copy 78 = .ok (.return_, 1) := by decide +kernel
set_option maxRecDepth 20000 in
theorem ggX8_keep_X8_copy : GoodIn wsX8_keep wsX8_copy := goodIn_r _ [6, 7, 8, 9, 10, 11, 12, 13, 14, 15, 16, 17, 18, 19, 20, 21, 22, 23, 24, 25, 26, 27, 28, 29, 30, 31, 32, 33, 34, 35, 36, 37, 38, 39] (by decide +kernel) (by decide +kernel)
set_option maxRecDepth 20000 in
theorem gX8_keep_X8_copy : GoodIn wsX8_keep (wsV RX8 221 RX8 yX8_copy wsX8_copy) := goodIn_app (goodIn_of _ (by decide +kernel)) ggX8_keep_X8_copy
theorem dX8_keep_0 : decode cX8_keep 0 = .ok (.aload_n 0, 1) := by decide +kernel
theorem dX8_keep_1 : decode cX8_keep 1 = .ok (.getfield 119, 3) := by decide +kernel
theorem dX8_keep_4 : decode cX8_keep 4 = .ok (.iconst 2, 1) := by decide +kernel
theorem dX8_keep_5 : decode cX8_keep 5 = .ok (.if_icmp .ne 6, 3) := by decide +kernel
theorem dX8_keep_8 : decode cX8_keep 8 = .ok (.bipush (-3), 2) := by decide +kernel
theorem dX8_keep_10 : decode cX8_keep 10 = .ok (.ireturn, 1) := by decide +kernel
theorem dX8_keep_11 : decode cX8_keep 11 = .ok (.aload_n 0, 1) := by decide +kernel
theorem dX8_keep_12 : decode cX8_keep 12 = .ok (.dup, 1) := by decide +kernel
theorem dX8_keep_13 : decode cX8_keep 13 = .ok (.getfield 119, 3) := by decide +kernel
theorem dX8_keep_16 : decode cX8_keep 16 = .ok (.iconst 1, 1) := by decide +kernel
theorem dX8_keep_17 : decode cX8_keep 17 = .ok (.iadd, 1) := by decide +kernel
theorem dX8_keep_18 : decode cX8_keep 18 = .ok (.putfield 119, 3) := by decide +kernel
theorem dX8_keep_21 : decode cX8_keep 21 = .ok (.aload_n 0, 1) := by decide +kernel
theorem dX8_keep_22 : decode cX8_keep 22 = .ok (.iconst 0, 1) := by decide +kernel
theorem dX8_keep_23 : decode cX8_keep 23 = .ok (.aload_n 0, 1) := by decide +kernel
theorem dX8_keep_24 : decode cX8_keep 24 = .ok (.getfield 119, 3) := by decide +kernel
theorem dX8_keep_27 : decode cX8_keep 27 = .ok (.invokevirtual 221, 3) := by decide +kernel
theorem dX8_keep_30 : decode cX8_keep 30 = .ok (.aload_n 0, 1) := by decide +kernel
theorem dX8_keep_31 : decode cX8_keep 31 = .ok (.getfield 119, 3) := by decide +kernel
theorem dX8_keep_34 : decode cX8_keep 34 = .ok (.ireturn, 1) := by decide +kernel
set_option maxRecDepth 20000 in
theorem ggX8_back_X8_copy : GoodIn wsX8_back wsX8_copy := goodIn_r _ [7, 8, 9, 10, 11, 12, 13, 14, 15, 16, 17, 18, 19, 20, 21, 22, 23, 24, 25, 26, 27, 28, 29, 30, 31, 32, 33, 34, 35, 36, 37, 38, 39, 40] (by decide +kernel) (by decide +kernel)
set_option maxRecDepth 20000 in
theorem gX8_back_X8_copy : GoodIn wsX8_back (wsV RX8 221 RX8 yX8_copy wsX8_copy) := goodIn_app (goodIn_of _ (by decide +kernel)) ggX8_back_X8_copy
theorem dX8_back_0 : decode cX8_back 0 = .ok (.aload_n 0, 1) := by decide +kernel
theorem dX8_back_1 : decode cX8_back 1 = .ok (.getfield 119, 3) := by decide +kernel
theorem dX8_back_4 : decode cX8_back 4 = .ok (.ifCond .ne 6, 3) := by decide +kernel
theorem dX8_back_7 : decode cX8_back 7 = .ok (.bipush (-2), 2) := by decide +kernel
theorem dX8_back_9 : decode cX8_back 9 = .ok (.ireturn, 1) := by decide +kernel
theorem dX8_back_10 : decode cX8_back 10 = .ok (.aload_n 0, 1) := by decide +kernel
theorem dX8_back_11 : decode cX8_back 11 = .ok (.aload_n 0, 1) := by decide +kernel
theorem dX8_back_12 : decode cX8_back 12 = .ok (.getfield 119, 3) := by decide +kernel
theorem dX8_back_15 : decode cX8_back 15 = .ok (.iconst 0, 1) := by decide +kernel
theorem dX8_back_16 : decode cX8_back 16 = .ok (.invokevirtual 221, 3) := by decide +kernel
theorem dX8_back_19 : decode cX8_back 19 = .ok (.aload_n 0, 1) := by decide +kernel
theorem dX8_back_20 : decode cX8_back 20 = .ok (.dup, 1) := by decide +kernel
theorem dX8_back_21 : decode cX8_back 21 = .ok (.getfield 119, 3) := by decide +kernel
theorem dX8_back_24 : decode cX8_back 24 = .ok (.iconst 1, 1) := by decide +kernel
theorem dX8_back_25 : decode cX8_back 25 = .ok (.isub, 1) := by decide +kernel
theorem dX8_back_26 : decode cX8_back 26 = .ok (.putfield 119, 3) := by decide +kernel
theorem dX8_back_29 : decode cX8_back 29 = .ok (.aload_n 0, 1) := by decide +kernel
theorem dX8_back_30 : decode cX8_back 30 = .ok (.iconst 0, 1) := by decide +kernel
theorem dX8_back_31 : decode cX8_back 31 = .ok (.putfield 122, 3) := by decide +kernel
theorem dX8_back_34 : decode cX8_back 34 = .ok (.aload_n 0, 1) := by decide +kernel
theorem dX8_back_35 : decode cX8_back 35 = .ok (.getfield 119, 3) := by decide +kernel
theorem dX8_back_38 : decode cX8_back 38 = .ok (.ireturn, 1) := by decide +kernel
set_option maxRecDepth 20000 in
theorem ggX8_openMany_X8_layNow : GoodIn wsX8_openMany wsX8_layNow := goodIn_r _ [5, 6, 7, 8, 9, 10, 4, 11, 12, 13, 24, 25, 26, 27, 28, 29, 30, 31, 32, 33, 34, 35, 36, 37, 38, 39, 40, 41, 42, 43, 44, 45, 46, 47, 48, 49, 50, 51, 52, 53] (by decide +kernel) (by decide +kernel)
set_option maxRecDepth 20000 in
theorem gX8_openMany_X8_layNow : GoodIn wsX8_openMany (wsV RX8 147 RX8 yX8_layNow wsX8_layNow) := goodIn_app (goodIn_of _ (by decide +kernel)) ggX8_openMany_X8_layNow
set_option maxRecDepth 20000 in
theorem ggX8_openMany_X8_openSet : GoodIn wsX8_openMany wsX8_openSet := goodIn_r _ [17, 18, 19, 20, 21, 4, 22, 23, 12, 24, 25, 26, 27, 28, 29, 30, 31, 32, 33, 34, 35, 36, 37, 38, 39, 40, 41, 42, 43, 44, 45, 46, 47, 48, 49, 50, 51, 52, 53] (by decide +kernel) (by decide +kernel)
set_option maxRecDepth 20000 in
theorem gX8_openMany_X8_openSet : GoodIn wsX8_openMany (wsV RX8 200 RX8 yX8_openSet wsX8_openSet) := goodIn_app (goodIn_of _ (by decide +kernel)) ggX8_openMany_X8_openSet
theorem dX8_openMany_0 : decode cX8_openMany 0 = .ok (.aload_n 0, 1) := by decide +kernel
theorem dX8_openMany_1 : decode cX8_openMany 1 = .ok (.invokevirtual 147, 3) := by decide +kernel
theorem dX8_openMany_4 : decode cX8_openMany 4 = .ok (.iconst 0, 1) := by decide +kernel
theorem dX8_openMany_5 : decode cX8_openMany 5 = .ok (.istore_n 1, 1) := by decide +kernel
theorem dX8_openMany_6 : decode cX8_openMany 6 = .ok (.aload_n 0, 1) := by decide +kernel
theorem dX8_openMany_7 : decode cX8_openMany 7 = .ok (.invokevirtual 200, 3) := by decide +kernel
theorem dX8_openMany_10 : decode cX8_openMany 10 = .ok (.istore_n 2, 1) := by decide +kernel
theorem dX8_openMany_11 : decode cX8_openMany 11 = .ok (.iload_n 2, 1) := by decide +kernel
theorem dX8_openMany_12 : decode cX8_openMany 12 = .ok (.ifCond .eq 15, 3) := by decide +kernel
theorem dX8_openMany_15 : decode cX8_openMany 15 = .ok (.iinc 1 1, 3) := by decide +kernel
theorem dX8_openMany_18 : decode cX8_openMany 18 = .ok (.iload_n 2, 1) := by decide +kernel
theorem dX8_openMany_19 : decode cX8_openMany 19 = .ok (.iload_n 2, 1) := by decide +kernel
theorem dX8_openMany_20 : decode cX8_openMany 20 = .ok (.iconst 1, 1) := by decide +kernel
theorem dX8_openMany_21 : decode cX8_openMany 21 = .ok (.isub, 1) := by decide +kernel
theorem dX8_openMany_22 : decode cX8_openMany 22 = .ok (.iand, 1) := by decide +kernel
theorem dX8_openMany_23 : decode cX8_openMany 23 = .ok (.istore_n 2, 1) := by decide +kernel
theorem dX8_openMany_24 : decode cX8_openMany 24 = .ok (.goto (-13), 3) := by decide +kernel
theorem dX8_openMany_27 : decode cX8_openMany 27 = .ok (.iload_n 1, 1) := by decide +kernel
theorem dX8_openMany_28 : decode cX8_openMany 28 = .ok (.ireturn, 1) := by decide +kernel
set_option maxRecDepth 20000 in
theorem ggX8_count_X8_openMany : GoodIn wsX8_count wsX8_openMany := goodIn_r _ [13, 14, 15, 16, 12, 17, 18, 19, 20, 21, 22, 23, 24, 25, 26, 27, 28, 29, 1, 30, 31, 32, 33, 34, 35, 36, 37, 38, 39, 40, 41, 42, 43, 44, 45, 46, 47, 48, 49, 50, 51, 52, 53, 54, 55, 56, 57, 58, 59, 60, 61, 62, 63, 64] (by decide +kernel) (by decide +kernel)
set_option maxRecDepth 20000 in
theorem gX8_count_X8_openMany : GoodIn wsX8_count (wsV RX8 225 RX8 yX8_openMany wsX8_openMany) := goodIn_app (goodIn_of _ (by decide +kernel)) ggX8_count_X8_openMany
theorem dX8_count_0 : decode cX8_count 0 = .ok (.iload_n 1, 1) := by decide +kernel
theorem dX8_count_1 : decode cX8_count 1 = .ok (.tableswitch 102 0 8 #[51, 58, 65, 72, 77, 82, 87, 92, 97], 51) := by decide +kernel
theorem dX8_count_52 : decode cX8_count 52 = .ok (.aload_n 0, 1) := by decide +kernel
theorem dX8_count_53 : decode cX8_count 53 = .ok (.getfield 13, 3) := by decide +kernel
theorem dX8_count_56 : decode cX8_count 56 = .ok (.iconst 0, 1) := by decide +kernel
theorem dX8_count_57 : decode cX8_count 57 = .ok (.iaload, 1) := by decide +kernel
theorem dX8_count_58 : decode cX8_count 58 = .ok (.ireturn, 1) := by decide +kernel
theorem dX8_count_59 : decode cX8_count 59 = .ok (.aload_n 0, 1) := by decide +kernel
theorem dX8_count_60 : decode cX8_count 60 = .ok (.getfield 28, 3) := by decide +kernel
theorem dX8_count_63 : decode cX8_count 63 = .ok (.iconst 0, 1) := by decide +kernel
theorem dX8_count_64 : decode cX8_count 64 = .ok (.iaload, 1) := by decide +kernel
theorem dX8_count_65 : decode cX8_count 65 = .ok (.ireturn, 1) := by decide +kernel
theorem dX8_count_66 : decode cX8_count 66 = .ok (.aload_n 0, 1) := by decide +kernel
theorem dX8_count_67 : decode cX8_count 67 = .ok (.getfield 37, 3) := by decide +kernel
theorem dX8_count_70 : decode cX8_count 70 = .ok (.iconst 0, 1) := by decide +kernel
theorem dX8_count_71 : decode cX8_count 71 = .ok (.iaload, 1) := by decide +kernel
theorem dX8_count_72 : decode cX8_count 72 = .ok (.ireturn, 1) := by decide +kernel
theorem dX8_count_73 : decode cX8_count 73 = .ok (.aload_n 0, 1) := by decide +kernel
theorem dX8_count_74 : decode cX8_count 74 = .ok (.invokevirtual 225, 3) := by decide +kernel
theorem dX8_count_77 : decode cX8_count 77 = .ok (.ireturn, 1) := by decide +kernel
theorem dX8_count_78 : decode cX8_count 78 = .ok (.aload_n 0, 1) := by decide +kernel
theorem dX8_count_79 : decode cX8_count 79 = .ok (.getfield 125, 3) := by decide +kernel
theorem dX8_count_82 : decode cX8_count 82 = .ok (.ireturn, 1) := by decide +kernel
theorem dX8_count_83 : decode cX8_count 83 = .ok (.aload_n 0, 1) := by decide +kernel
theorem dX8_count_84 : decode cX8_count 84 = .ok (.getfield 128, 3) := by decide +kernel
theorem dX8_count_87 : decode cX8_count 87 = .ok (.ireturn, 1) := by decide +kernel
theorem dX8_count_88 : decode cX8_count 88 = .ok (.aload_n 0, 1) := by decide +kernel
theorem dX8_count_89 : decode cX8_count 89 = .ok (.getfield 122, 3) := by decide +kernel
theorem dX8_count_92 : decode cX8_count 92 = .ok (.ireturn, 1) := by decide +kernel
theorem dX8_count_93 : decode cX8_count 93 = .ok (.aload_n 0, 1) := by decide +kernel
theorem dX8_count_94 : decode cX8_count 94 = .ok (.getfield 119, 3) := by decide +kernel
theorem dX8_count_97 : decode cX8_count 97 = .ok (.ireturn, 1) := by decide +kernel
theorem dX8_count_98 : decode cX8_count 98 = .ok (.aload_n 0, 1) := by decide +kernel
theorem dX8_count_99 : decode cX8_count 99 = .ok (.getfield 86, 3) := by decide +kernel
theorem dX8_count_102 : decode cX8_count 102 = .ok (.ireturn, 1) := by decide +kernel
theorem dX8_count_103 : decode cX8_count 103 = .ok (.iconst (-1), 1) := by decide +kernel
theorem dX8_count_104 : decode cX8_count 104 = .ok (.ireturn, 1) := by decide +kernel
theorem dJ6_bitCount_0f7a4_0 : decode cJ6_bitCount_0f7a4 0 = .ok (.iload_n 0, 1) := by decide +kernel
theorem dJ6_bitCount_0f7a4_1 : decode cJ6_bitCount_0f7a4 1 = .ok (.iload_n 0, 1) := by decide +kernel
theorem dJ6_bitCount_0f7a4_2 : decode cJ6_bitCount_0f7a4 2 = .ok (.iconst 1, 1) := by decide +kernel
theorem dJ6_bitCount_0f7a4_3 : decode cJ6_bitCount_0f7a4 3 = .ok (.iushr, 1) := by decide +kernel
theorem dJ6_bitCount_0f7a4_4 : decode cJ6_bitCount_0f7a4 4 = .ok (.ldc_w 265, 3) := by decide +kernel
theorem dJ6_bitCount_0f7a4_7 : decode cJ6_bitCount_0f7a4 7 = .ok (.iand, 1) := by decide +kernel
theorem dJ6_bitCount_0f7a4_8 : decode cJ6_bitCount_0f7a4 8 = .ok (.isub, 1) := by decide +kernel
theorem dJ6_bitCount_0f7a4_9 : decode cJ6_bitCount_0f7a4 9 = .ok (.istore_n 0, 1) := by decide +kernel
theorem dJ6_bitCount_0f7a4_10 : decode cJ6_bitCount_0f7a4 10 = .ok (.iload_n 0, 1) := by decide +kernel
theorem dJ6_bitCount_0f7a4_11 : decode cJ6_bitCount_0f7a4 11 = .ok (.ldc_w 266, 3) := by decide +kernel
theorem dJ6_bitCount_0f7a4_14 : decode cJ6_bitCount_0f7a4 14 = .ok (.iand, 1) := by decide +kernel
theorem dJ6_bitCount_0f7a4_15 : decode cJ6_bitCount_0f7a4 15 = .ok (.iload_n 0, 1) := by decide +kernel
theorem dJ6_bitCount_0f7a4_16 : decode cJ6_bitCount_0f7a4 16 = .ok (.iconst 2, 1) := by decide +kernel
theorem dJ6_bitCount_0f7a4_17 : decode cJ6_bitCount_0f7a4 17 = .ok (.iushr, 1) := by decide +kernel
theorem dJ6_bitCount_0f7a4_18 : decode cJ6_bitCount_0f7a4 18 = .ok (.ldc_w 266, 3) := by decide +kernel
theorem dJ6_bitCount_0f7a4_21 : decode cJ6_bitCount_0f7a4 21 = .ok (.iand, 1) := by decide +kernel
theorem dJ6_bitCount_0f7a4_22 : decode cJ6_bitCount_0f7a4 22 = .ok (.iadd, 1) := by decide +kernel
theorem dJ6_bitCount_0f7a4_23 : decode cJ6_bitCount_0f7a4 23 = .ok (.istore_n 0, 1) := by decide +kernel
theorem dJ6_bitCount_0f7a4_24 : decode cJ6_bitCount_0f7a4 24 = .ok (.iload_n 0, 1) := by decide +kernel
theorem dJ6_bitCount_0f7a4_25 : decode cJ6_bitCount_0f7a4 25 = .ok (.iload_n 0, 1) := by decide +kernel
theorem dJ6_bitCount_0f7a4_26 : decode cJ6_bitCount_0f7a4 26 = .ok (.iconst 4, 1) := by decide +kernel
theorem dJ6_bitCount_0f7a4_27 : decode cJ6_bitCount_0f7a4 27 = .ok (.iushr, 1) := by decide +kernel
theorem dJ6_bitCount_0f7a4_28 : decode cJ6_bitCount_0f7a4 28 = .ok (.iadd, 1) := by decide +kernel
theorem dJ6_bitCount_0f7a4_29 : decode cJ6_bitCount_0f7a4 29 = .ok (.ldc_w 267, 3) := by decide +kernel
theorem dJ6_bitCount_0f7a4_32 : decode cJ6_bitCount_0f7a4 32 = .ok (.iand, 1) := by decide +kernel
theorem dJ6_bitCount_0f7a4_33 : decode cJ6_bitCount_0f7a4 33 = .ok (.istore_n 0, 1) := by decide +kernel
theorem dJ6_bitCount_0f7a4_34 : decode cJ6_bitCount_0f7a4 34 = .ok (.iload_n 0, 1) := by decide +kernel
theorem dJ6_bitCount_0f7a4_35 : decode cJ6_bitCount_0f7a4 35 = .ok (.iload_n 0, 1) := by decide +kernel
theorem dJ6_bitCount_0f7a4_36 : decode cJ6_bitCount_0f7a4 36 = .ok (.bipush 8, 2) := by decide +kernel
theorem dJ6_bitCount_0f7a4_38 : decode cJ6_bitCount_0f7a4 38 = .ok (.iushr, 1) := by decide +kernel
theorem dJ6_bitCount_0f7a4_39 : decode cJ6_bitCount_0f7a4 39 = .ok (.iadd, 1) := by decide +kernel
theorem dJ6_bitCount_0f7a4_40 : decode cJ6_bitCount_0f7a4 40 = .ok (.istore_n 0, 1) := by decide +kernel
theorem dJ6_bitCount_0f7a4_41 : decode cJ6_bitCount_0f7a4 41 = .ok (.iload_n 0, 1) := by decide +kernel
theorem dJ6_bitCount_0f7a4_42 : decode cJ6_bitCount_0f7a4 42 = .ok (.iload_n 0, 1) := by decide +kernel
theorem dJ6_bitCount_0f7a4_43 : decode cJ6_bitCount_0f7a4 43 = .ok (.bipush 16, 2) := by decide +kernel
theorem dJ6_bitCount_0f7a4_45 : decode cJ6_bitCount_0f7a4 45 = .ok (.iushr, 1) := by decide +kernel
theorem dJ6_bitCount_0f7a4_46 : decode cJ6_bitCount_0f7a4 46 = .ok (.iadd, 1) := by decide +kernel
theorem dJ6_bitCount_0f7a4_47 : decode cJ6_bitCount_0f7a4 47 = .ok (.istore_n 0, 1) := by decide +kernel
theorem dJ6_bitCount_0f7a4_48 : decode cJ6_bitCount_0f7a4 48 = .ok (.iload_n 0, 1) := by decide +kernel
theorem dJ6_bitCount_0f7a4_49 : decode cJ6_bitCount_0f7a4 49 = .ok (.bipush 63, 2) := by decide +kernel
theorem dJ6_bitCount_0f7a4_51 : decode cJ6_bitCount_0f7a4 51 = .ok (.iand, 1) := by decide +kernel
theorem dJ6_bitCount_0f7a4_52 : decode cJ6_bitCount_0f7a4 52 = .ok (.ireturn, 1) := by decide +kernel
theorem dJ9_max_7cf53_0 : decode cJ9_max_7cf53 0 = .ok (.iload_n 0, 1) := by decide +kernel
theorem dJ9_max_7cf53_1 : decode cJ9_max_7cf53 1 = .ok (.iload_n 1, 1) := by decide +kernel
theorem dJ9_max_7cf53_2 : decode cJ9_max_7cf53 2 = .ok (.if_icmp .lt 7, 3) := by decide +kernel
theorem dJ9_max_7cf53_5 : decode cJ9_max_7cf53 5 = .ok (.iload_n 0, 1) := by decide +kernel
theorem dJ9_max_7cf53_6 : decode cJ9_max_7cf53 6 = .ok (.goto 4, 3) := by decide +kernel
theorem dJ9_max_7cf53_9 : decode cJ9_max_7cf53 9 = .ok (.iload_n 1, 1) := by decide +kernel
theorem dJ9_max_7cf53_10 : decode cJ9_max_7cf53 10 = .ok (.ireturn, 1) := by decide +kernel
theorem dJ9_min_7cf53_0 : decode cJ9_min_7cf53 0 = .ok (.iload_n 0, 1) := by decide +kernel
theorem dJ9_min_7cf53_1 : decode cJ9_min_7cf53 1 = .ok (.iload_n 1, 1) := by decide +kernel
theorem dJ9_min_7cf53_2 : decode cJ9_min_7cf53 2 = .ok (.if_icmp .gt 7, 3) := by decide +kernel
theorem dJ9_min_7cf53_5 : decode cJ9_min_7cf53 5 = .ok (.iload_n 0, 1) := by decide +kernel
theorem dJ9_min_7cf53_6 : decode cJ9_min_7cf53 6 = .ok (.goto 4, 3) := by decide +kernel
theorem dJ9_min_7cf53_9 : decode cJ9_min_7cf53 9 = .ok (.iload_n 1, 1) := by decide +kernel
theorem dJ9_min_7cf53_10 : decode cJ9_min_7cf53 10 = .ok (.ireturn, 1) := by decide +kernel
theorem dJ7_fill_d0a16_0 : decode cJ7_fill_d0a16 0 = .ok (.iconst 0, 1) := by decide +kernel
theorem dJ7_fill_d0a16_1 : decode cJ7_fill_d0a16 1 = .ok (.istore_n 3, 1) := by decide +kernel
theorem dJ7_fill_d0a16_2 : decode cJ7_fill_d0a16 2 = .ok (.aload_n 0, 1) := by decide +kernel
theorem dJ7_fill_d0a16_3 : decode cJ7_fill_d0a16 3 = .ok (.arraylength, 1) := by decide +kernel
theorem dJ7_fill_d0a16_4 : decode cJ7_fill_d0a16 4 = .ok (.istore 4, 2) := by decide +kernel
theorem dJ7_fill_d0a16_6 : decode cJ7_fill_d0a16 6 = .ok (.iload_n 3, 1) := by decide +kernel
theorem dJ7_fill_d0a16_7 : decode cJ7_fill_d0a16 7 = .ok (.iload 4, 2) := by decide +kernel
theorem dJ7_fill_d0a16_9 : decode cJ7_fill_d0a16 9 = .ok (.if_icmp .ge 13, 3) := by decide +kernel
theorem dJ7_fill_d0a16_12 : decode cJ7_fill_d0a16 12 = .ok (.aload_n 0, 1) := by decide +kernel
theorem dJ7_fill_d0a16_13 : decode cJ7_fill_d0a16 13 = .ok (.iload_n 3, 1) := by decide +kernel
theorem dJ7_fill_d0a16_14 : decode cJ7_fill_d0a16 14 = .ok (.lload_n 1, 1) := by decide +kernel
theorem dJ7_fill_d0a16_15 : decode cJ7_fill_d0a16 15 = .ok (.lastore, 1) := by decide +kernel
theorem dJ7_fill_d0a16_16 : decode cJ7_fill_d0a16 16 = .ok (.iinc 3 1, 3) := by decide +kernel
theorem dJ7_fill_d0a16_19 : decode cJ7_fill_d0a16 19 = .ok (.goto (-13), 3) := by decide +kernel
theorem dJ7_fill_d0a16_22 : decode cJ7_fill_d0a16 22 = .ok (.return_, 1) := by decide +kernel
theorem dJ7_fill_53178_0 : decode cJ7_fill_53178 0 = .ok (.iconst 0, 1) := by decide +kernel
theorem dJ7_fill_53178_1 : decode cJ7_fill_53178 1 = .ok (.istore_n 2, 1) := by decide +kernel
theorem dJ7_fill_53178_2 : decode cJ7_fill_53178 2 = .ok (.aload_n 0, 1) := by decide +kernel
theorem dJ7_fill_53178_3 : decode cJ7_fill_53178 3 = .ok (.arraylength, 1) := by decide +kernel
theorem dJ7_fill_53178_4 : decode cJ7_fill_53178 4 = .ok (.istore_n 3, 1) := by decide +kernel
theorem dJ7_fill_53178_5 : decode cJ7_fill_53178 5 = .ok (.iload_n 2, 1) := by decide +kernel
theorem dJ7_fill_53178_6 : decode cJ7_fill_53178 6 = .ok (.iload_n 3, 1) := by decide +kernel
theorem dJ7_fill_53178_7 : decode cJ7_fill_53178 7 = .ok (.if_icmp .ge 13, 3) := by decide +kernel
theorem dJ7_fill_53178_10 : decode cJ7_fill_53178 10 = .ok (.aload_n 0, 1) := by decide +kernel
theorem dJ7_fill_53178_11 : decode cJ7_fill_53178 11 = .ok (.iload_n 2, 1) := by decide +kernel
theorem dJ7_fill_53178_12 : decode cJ7_fill_53178 12 = .ok (.iload_n 1, 1) := by decide +kernel
theorem dJ7_fill_53178_13 : decode cJ7_fill_53178 13 = .ok (.iastore, 1) := by decide +kernel
theorem dJ7_fill_53178_14 : decode cJ7_fill_53178 14 = .ok (.iinc 2 1, 3) := by decide +kernel
theorem dJ7_fill_53178_17 : decode cJ7_fill_53178 17 = .ok (.goto (-12), 3) := by decide +kernel
theorem dJ7_fill_53178_20 : decode cJ7_fill_53178 20 = .ok (.return_, 1) := by decide +kernel
set_option maxRecDepth 20000 in
theorem ggL_law_X7_init : GoodIn wsL_law wsX7_init := goodIn_r _ [9, 10, 11, 12, 13, 14, 15, 16, 17, 18, 19, 20, 21, 22, 23, 24, 25, 26, 27, 28, 29, 30, 31, 32, 33, 34, 35, 36, 37, 38, 39, 40, 41, 42, 43, 44, 45, 46, 47, 48, 49, 50, 51, 52, 53, 54, 55, 56, 57, 58, 59, 60, 61, 62, 63, 64, 65, 66, 67, 68, 69, 70, 71, 72, 73, 74, 75, 76, 77, 78, 79, 80, 81, 82, 83, 84, 85, 86, 87, 88, 89, 90, 91, 92, 93, 94, 95, 96, 97, 98, 99, 100, 101, 102, 103, 104, 105, 106, 107, 108, 109, 2, 110, 777, 778, 779, 736, 737, 738, 739, 740, 741, 742, 743, 744, 745, 746, 780, 781, 782, 783, 784, 785, 786, 787, 788, 789, 790, 791, 792, 793, 794, 795, 796, 797, 798, 799, 800, 801, 802, 803, 804, 805, 806, 807, 808, 809, 810, 811] (by decide +kernel) (by decide +kernel)
set_option maxRecDepth 20000 in
theorem gL_law_X7_init : GoodIn wsL_law (wsX7_init) := ggL_law_X7_init
set_option maxRecDepth 20000 in
theorem ggL_law_X8_init : GoodIn wsL_law wsX8_init := goodIn_r _ [113, 114, 11, 12, 48, 115, 116, 117, 118, 119, 120, 121, 122, 123, 124, 125, 126, 127, 128, 129, 130, 131, 132, 133, 134, 97, 135, 136, 137, 138, 139, 5, 140, 141, 142, 143, 144, 747, 748, 749, 750, 751, 752, 753, 754, 755, 756, 757, 758, 759, 760, 761, 762, 763, 764, 765, 766, 767, 768, 769, 770, 771, 772, 773, 774, 775, 776] (by decide +kernel) (by decide +kernel)
set_option maxRecDepth 20000 in
theorem gL_law_X8_init : GoodIn wsL_law (wsX8_init) := ggL_law_X8_init
set_option maxRecDepth 20000 in
theorem ggL_law_X7_write : GoodIn wsL_law wsX7_write := goodIn_r _ [148, 16, 149, 150, 151, 152, 15, 153, 50, 154, 155, 156, 157, 49, 736, 737, 738, 739, 740, 741, 742, 743, 744, 745, 746, 777, 778, 779] (by decide +kernel) (by decide +kernel)
set_option maxRecDepth 20000 in
theorem gL_law_X7_write : GoodIn wsL_law (wsV RL 15 RX7 yX7_write wsX7_write) := goodIn_app (goodIn_of _ (by decide +kernel)) ggL_law_X7_write
set_option maxRecDepth 20000 in
theorem ggL_law_X8_write : GoodIn wsL_law wsX8_write := goodIn_r _ [161, 162, 163, 115, 164, 165, 166, 5, 167, 747, 748, 749, 750, 751, 752, 753, 754, 755, 756, 757, 758, 759, 760, 761, 762, 763, 764, 765, 766, 767, 768, 769, 770, 771, 772, 773, 774, 775, 776] (by decide +kernel) (by decide +kernel)
set_option maxRecDepth 20000 in
theorem gL_law_X8_write : GoodIn wsL_law (wsV RL 19 RX8 yX8_write wsX8_write) := goodIn_app (goodIn_of _ (by decide +kernel)) ggL_law_X8_write
set_option maxRecDepth 20000 in
theorem ggL_law_X7_wipe : GoodIn wsL_law wsX7_wipe := goodIn_r _ [171, 16, 149, 736, 737, 738, 739, 740, 741, 742, 743, 744, 745, 746, 777, 778, 779] (by decide +kernel) (by decide +kernel)
set_option maxRecDepth 20000 in
theorem gL_law_X7_wipe : GoodIn wsL_law (wsV RL 20 RX7 yX7_wipe wsX7_wipe) := goodIn_app (goodIn_of _ (by decide +kernel)) ggL_law_X7_wipe
set_option maxRecDepth 20000 in
theorem ggL_law_X8_wipe : GoodIn wsL_law wsX8_wipe := goodIn_r _ [175, 163, 747, 748, 749, 750, 751, 752, 753, 754, 755, 756, 757, 758, 759, 760, 761, 762, 763, 764, 765, 766, 767, 768, 769, 770, 771, 772, 773, 774, 775, 776] (by decide +kernel) (by decide +kernel)
set_option maxRecDepth 20000 in
theorem gL_law_X8_wipe : GoodIn wsL_law (wsV RL 24 RX8 yX8_wipe wsX8_wipe) := goodIn_app (goodIn_of _ (by decide +kernel)) ggL_law_X8_wipe
set_option maxRecDepth 20000 in
theorem ggL_law_X7_fault : GoodIn wsL_law wsX7_fault := goodIn_r _ [179, 16, 21, 180, 181, 182, 15, 183, 51, 50, 184, 185, 186, 19, 187, 59, 62, 188, 189, 190, 191, 192, 193, 194, 195, 196, 197, 198, 61, 60, 199, 200, 201, 202, 203, 204, 205, 206, 207, 208, 209, 210, 211, 212, 213, 214, 49, 215, 216, 217, 218, 219, 220, 221, 222, 223, 224, 225, 226, 227, 106, 107, 108, 55, 56, 57, 58, 109, 2, 110, 228, 229, 230, 231, 232, 736, 737, 738, 739, 740, 741, 742, 743, 744, 745, 746, 777, 778, 779, 780, 781, 782, 783, 784, 785, 786, 787] (by decide +kernel) (by decide +kernel)
set_option maxRecDepth 20000 in
theorem gL_law_X7_fault : GoodIn wsL_law (wsV RL 25 RX7 yX7_fault wsX7_fault) := goodIn_app (goodIn_of _ (by decide +kernel)) ggL_law_X7_fault
set_option maxRecDepth 20000 in
theorem ggL_law_X8_fault : GoodIn wsL_law wsX8_fault := goodIn_r _ [236, 237, 238, 239, 5, 240, 116, 121, 241, 163, 242, 243, 244, 245, 129, 117, 118, 119, 120, 246, 247, 248, 249, 250, 115, 251, 252, 253, 254, 255, 256, 257, 165, 166, 167, 747, 748, 749, 750, 751, 752, 753, 754, 755, 756, 757, 758, 759, 760, 761, 762, 763, 764, 765, 766, 767, 768, 769, 770, 771, 772, 773, 774, 775, 776] (by decide +kernel) (by decide +kernel)
set_option maxRecDepth 20000 in
theorem gL_law_X8_fault : GoodIn wsL_law (wsV RL 28 RX8 yX8_fault wsX8_fault) := goodIn_app (goodIn_of _ (by decide +kernel)) ggL_law_X8_fault
set_option maxRecDepth 20000 in
theorem ggL_law_X7_lay : GoodIn wsL_law wsX7_lay := goodIn_r _ [261, 16, 21, 262, 20, 32, 263, 36, 264, 28, 265, 24, 180, 181, 182, 15, 183, 51, 50, 184, 185, 186, 19, 187, 59, 62, 188, 189, 190, 191, 192, 193, 194, 195, 196, 197, 198, 61, 60, 199, 200, 201, 202, 203, 204, 205, 206, 207, 208, 209, 210, 211, 212, 213, 214, 49, 215, 216, 217, 218, 219, 220, 221, 222, 223, 224, 225, 226, 227, 106, 107, 108, 55, 56, 57, 58, 109, 2, 110, 228, 229, 230, 231, 232, 266, 267, 268, 269, 270, 271, 272, 273, 736, 737, 738, 739, 740, 741, 742, 743, 744, 745, 746, 780, 781, 782, 783, 784, 785, 786, 787, 793, 794, 795, 796, 797, 788, 789, 790, 791, 792, 777, 778, 779] (by decide +kernel) (by decide +kernel)
set_option maxRecDepth 20000 in
theorem gL_law_X7_lay : GoodIn wsL_law (wsV RL 29 RX7 yX7_lay wsX7_lay) := goodIn_app (goodIn_of _ (by decide +kernel)) ggL_law_X7_lay
set_option maxRecDepth 20000 in
theorem ggL_law_X8_lay : GoodIn wsL_law wsX8_lay := goodIn_r _ [277, 116, 121, 117, 118, 119, 120, 237, 238, 239, 5, 240, 241, 163, 242, 243, 244, 245, 129, 246, 247, 248, 249, 250, 115, 251, 252, 253, 254, 255, 256, 257, 165, 166, 167, 137, 138, 139, 140, 122, 123, 124, 141, 142, 143, 144, 747, 748, 749, 750, 751, 752, 753, 754, 755, 756, 757, 758, 759, 760, 761, 762, 763, 764, 765, 766, 767, 768, 769, 770, 771, 772, 773, 774, 775, 776] (by decide +kernel) (by decide +kernel)
set_option maxRecDepth 20000 in
theorem gL_law_X8_lay : GoodIn wsL_law (wsV RL 32 RX8 yX8_lay wsX8_lay) := goodIn_app (goodIn_of _ (by decide +kernel)) ggL_law_X8_lay
set_option maxRecDepth 20000 in
theorem ggL_law_X7_gate : GoodIn wsL_law wsX7_gate := goodIn_r _ [281, 20, 282, 283, 284, 285, 286, 287, 288, 19, 289, 59, 290, 291, 292, 293, 57, 58, 294, 295, 296, 297, 298, 736, 737, 738, 739, 740, 741, 742, 743, 744, 745, 746, 780, 781, 782, 783, 784, 785, 786, 787] (by decide +kernel) (by decide +kernel)
set_option maxRecDepth 20000 in
theorem gL_law_X7_gate : GoodIn wsL_law (wsV RL 33 RX7 yX7_gate wsX7_gate) := goodIn_app (goodIn_of _ (by decide +kernel)) ggL_law_X7_gate
set_option maxRecDepth 20000 in
theorem ggL_law_X8_gate : GoodIn wsL_law wsX8_gate := goodIn_r _ [302, 303, 117, 118, 119, 122, 304, 305, 306, 5, 307, 116, 165, 166, 167, 308, 309, 310, 311, 131, 123, 312, 313, 314, 315, 130, 316, 317, 318, 319, 747, 748, 749, 750, 751, 752, 753, 754, 755, 756, 757, 758, 759, 760, 761, 762, 763, 764, 765, 766, 767, 768, 769, 770, 771, 772, 773, 774, 775, 776] (by decide +kernel) (by decide +kernel)
set_option maxRecDepth 20000 in
theorem gL_law_X8_gate : GoodIn wsL_law (wsV RL 37 RX8 yX8_gate wsX8_gate) := goodIn_app (goodIn_of _ (by decide +kernel)) ggL_law_X8_gate
set_option maxRecDepth 20000 in
theorem ggL_law_X7_where : GoodIn wsL_law wsX7_where := goodIn_r _ [323, 20, 324, 325, 326, 327, 19, 328, 61, 736, 737, 738, 739, 740, 741, 742, 743, 744, 745, 746, 780, 781, 782, 783, 784, 785, 786, 787] (by decide +kernel) (by decide +kernel)
set_option maxRecDepth 20000 in
theorem gL_law_X7_where : GoodIn wsL_law (wsV RL 38 RX7 yX7_where wsX7_where) := goodIn_app (goodIn_of _ (by decide +kernel)) ggL_law_X7_where
set_option maxRecDepth 20000 in
theorem ggL_law_X8_where : GoodIn wsL_law wsX8_where := goodIn_r _ [332, 123, 333, 334, 335, 5, 336, 121, 165, 166, 167, 747, 748, 749, 750, 751, 752, 753, 754, 755, 756, 757, 758, 759, 760, 761, 762, 763, 764, 765, 766, 767, 768, 769, 770, 771, 772, 773, 774, 775, 776] (by decide +kernel) (by decide +kernel)
set_option maxRecDepth 20000 in
theorem gL_law_X8_where : GoodIn wsL_law (wsV RL 42 RX8 yX8_where wsX8_where) := goodIn_app (goodIn_of _ (by decide +kernel)) ggL_law_X8_where
set_option maxRecDepth 20000 in
theorem ggL_law_X7_can : GoodIn wsL_law wsX7_can := goodIn_r _ [340, 20, 325, 326, 327, 19, 328, 61, 286, 287, 288, 289, 59, 341, 342, 343, 344, 60, 345, 346, 347, 348, 349, 55, 56, 298, 350, 291, 292, 293, 57, 58, 294, 295, 296, 297, 736, 737, 738, 739, 740, 741, 742, 743, 744, 745, 746, 780, 781, 782, 783, 784, 785, 786, 787] (by decide +kernel) (by decide +kernel)
set_option maxRecDepth 20000 in
theorem gL_law_X7_can : GoodIn wsL_law (wsV RL 43 RX7 yX7_can wsX7_can) := goodIn_app (goodIn_of _ (by decide +kernel)) ggL_law_X7_can
set_option maxRecDepth 20000 in
theorem ggL_law_X8_can : GoodIn wsL_law wsX8_can := goodIn_r _ [354, 333, 334, 335, 5, 336, 121, 165, 166, 167, 304, 305, 306, 307, 116, 355, 356, 357, 358, 123, 308, 309, 310, 311, 131, 312, 313, 314, 315, 130, 122, 359, 360, 361, 362, 363, 364, 365, 366, 117, 118, 316, 317, 318, 319, 119, 747, 748, 749, 750, 751, 752, 753, 754, 755, 756, 757, 758, 759, 760, 761, 762, 763, 764, 765, 766, 767, 768, 769, 770, 771, 772, 773, 774, 775, 776] (by decide +kernel) (by decide +kernel)
set_option maxRecDepth 20000 in
theorem gL_law_X8_can : GoodIn wsL_law (wsV RL 46 RX8 yX8_can wsX8_can) := goodIn_app (goodIn_of _ (by decide +kernel)) ggL_law_X8_can
set_option maxRecDepth 20000 in
theorem ggL_law_X7_pass : GoodIn wsL_law wsX7_pass := goodIn_r _ [370, 20, 28, 324, 325, 326, 327, 19, 328, 61, 286, 287, 288, 289, 59, 341, 342, 343, 344, 60, 345, 346, 347, 348, 349, 55, 56, 298, 350, 291, 292, 293, 57, 58, 294, 295, 296, 297, 371, 372, 373, 27, 374, 70, 66, 67, 68, 69, 375, 376, 377, 378, 379, 380, 381, 382, 271, 272, 273, 383, 384, 385, 386, 387, 388, 389, 390, 736, 737, 738, 739, 740, 741, 742, 743, 744, 745, 746, 780, 781, 782, 783, 784, 785, 786, 787, 788, 789, 790, 791, 792] (by decide +kernel) (by decide +kernel)
set_option maxRecDepth 20000 in
theorem gL_law_X7_pass : GoodIn wsL_law (wsV RL 47 RX7 yX7_pass wsX7_pass) := goodIn_app (goodIn_of _ (by decide +kernel)) ggL_law_X7_pass
set_option maxRecDepth 20000 in
theorem ggL_law_X8_pass : GoodIn wsL_law wsX8_pass := goodIn_r _ [394, 123, 333, 334, 335, 5, 336, 121, 165, 166, 167, 304, 305, 306, 307, 116, 355, 356, 357, 358, 308, 309, 310, 311, 131, 312, 313, 314, 315, 130, 122, 359, 360, 361, 362, 363, 364, 365, 366, 117, 118, 316, 317, 318, 319, 119, 395, 396, 397, 398, 142, 125, 399, 400, 401, 402, 747, 748, 749, 750, 751, 752, 753, 754, 755, 756, 757, 758, 759, 760, 761, 762, 763, 764, 765, 766, 767, 768, 769, 770, 771, 772, 773, 774, 775, 776] (by decide +kernel) (by decide +kernel)
set_option maxRecDepth 20000 in
theorem gL_law_X8_pass : GoodIn wsL_law (wsV RL 50 RX8 yX8_pass wsX8_pass) := goodIn_app (goodIn_of _ (by decide +kernel)) ggL_law_X8_pass
set_option maxRecDepth 20000 in
theorem ggL_law_X7_linger : GoodIn wsL_law wsX7_linger := goodIn_r _ [406, 20, 28, 324, 285, 407, 325, 326, 327, 19, 328, 61, 286, 287, 288, 289, 59, 341, 342, 343, 344, 60, 345, 346, 347, 348, 349, 55, 56, 298, 350, 291, 292, 293, 57, 58, 294, 295, 296, 297, 371, 372, 373, 27, 374, 70, 66, 67, 68, 69, 375, 376, 377, 378, 379, 380, 381, 382, 271, 272, 273, 736, 737, 738, 739, 740, 741, 742, 743, 744, 745, 746, 780, 781, 782, 783, 784, 785, 786, 787, 788, 789, 790, 791, 792] (by decide +kernel) (by decide +kernel)
set_option maxRecDepth 20000 in
theorem gL_law_X7_linger : GoodIn wsL_law (wsV RL 51 RX7 yX7_linger wsX7_linger) := goodIn_app (goodIn_of _ (by decide +kernel)) ggL_law_X7_linger
set_option maxRecDepth 20000 in
theorem ggL_law_X8_linger : GoodIn wsL_law wsX8_linger := goodIn_r _ [411, 124, 333, 334, 335, 5, 336, 121, 165, 166, 167, 304, 305, 306, 307, 116, 355, 356, 357, 358, 123, 308, 309, 310, 311, 131, 312, 313, 314, 315, 130, 122, 359, 360, 361, 362, 363, 364, 365, 366, 117, 118, 316, 317, 318, 319, 119, 395, 396, 397, 398, 142, 125, 747, 748, 749, 750, 751, 752, 753, 754, 755, 756, 757, 758, 759, 760, 761, 762, 763, 764, 765, 766, 767, 768, 769, 770, 771, 772, 773, 774, 775, 776] (by decide +kernel) (by decide +kernel)
set_option maxRecDepth 20000 in
theorem gL_law_X8_linger : GoodIn wsL_law (wsV RL 54 RX8 yX8_linger wsX8_linger) := goodIn_app (goodIn_of _ (by decide +kernel)) ggL_law_X8_linger
set_option maxRecDepth 20000 in
theorem ggL_law_X7_undo : GoodIn wsL_law wsX7_undo := goodIn_r _ [415, 28, 265, 20, 416, 417, 418, 27, 419, 70, 66, 67, 420, 68, 421, 422, 69, 423, 326, 327, 19, 328, 61, 424, 287, 288, 289, 59, 736, 737, 738, 739, 740, 741, 742, 743, 744, 745, 746, 788, 789, 790, 791, 792, 780, 781, 782, 783, 784, 785, 786, 787] (by decide +kernel) (by decide +kernel)
set_option maxRecDepth 20000 in
theorem gL_law_X7_undo : GoodIn wsL_law (wsV RL 55 RX7 yX7_undo wsX7_undo) := goodIn_app (goodIn_of _ (by decide +kernel)) ggL_law_X7_undo
set_option maxRecDepth 20000 in
theorem ggL_law_X8_undo : GoodIn wsL_law wsX8_undo := goodIn_r _ [428, 142, 122, 125, 123, 124, 747, 748, 749, 750, 751, 752, 753, 754, 755, 756, 757, 758, 759, 760, 761, 762, 763, 764, 765, 766, 767, 768, 769, 770, 771, 772, 773, 774, 775, 776] (by decide +kernel) (by decide +kernel)
set_option maxRecDepth 20000 in
theorem gL_law_X8_undo : GoodIn wsL_law (wsV RL 58 RX8 yX8_undo wsX8_undo) := goodIn_app (goodIn_of _ (by decide +kernel)) ggL_law_X8_undo
set_option maxRecDepth 20000 in
theorem ggL_law_X7_way : GoodIn wsL_law wsX7_way := goodIn_r _ [432, 40, 20, 433, 434, 435, 109, 2, 110, 436, 437, 438, 439, 440, 441, 39, 442, 89, 91, 92, 86, 87, 98, 96, 443, 267, 268, 19, 269, 55, 270, 271, 272, 273, 56, 57, 58, 60, 59, 61, 62, 444, 445, 446, 447, 90, 93, 448, 94, 449, 450, 451, 452, 350, 291, 292, 293, 294, 295, 296, 297, 298, 287, 288, 289, 453, 347, 348, 349, 454, 200, 201, 202, 455, 456, 457, 458, 459, 460, 461, 462, 463, 464, 465, 466, 467, 468, 469, 470, 471, 95, 472, 473, 474, 475, 476, 193, 194, 195, 477, 478, 479, 480, 481, 482, 483, 484, 485, 486, 487, 488, 388, 389, 390, 736, 737, 738, 739, 740, 741, 742, 743, 744, 745, 746, 798, 799, 800, 801, 802, 803, 804, 805, 806, 807, 808, 780, 781, 782, 783, 784, 785, 786, 787] (by decide +kernel) (by decide +kernel)
set_option maxRecDepth 20000 in
theorem gL_law_X7_way : GoodIn wsL_law (wsV RL 59 RX7 yX7_way wsX7_way) := goodIn_app (goodIn_of _ (by decide +kernel)) ggL_law_X7_way
set_option maxRecDepth 20000 in
theorem ggL_law_X8_way : GoodIn wsL_law wsX8_way := goodIn_r _ [492, 121, 493, 133, 132, 134, 494, 495, 5, 496, 497, 165, 166, 167, 308, 309, 310, 311, 131, 123, 312, 313, 314, 315, 130, 122, 498, 499, 500, 501, 502, 116, 503, 504, 505, 506, 119, 507, 508, 509, 510, 511, 512, 513, 359, 360, 361, 362, 363, 364, 365, 366, 117, 118, 316, 317, 318, 319, 399, 400, 401, 402, 514, 515, 516, 517, 747, 748, 749, 750, 751, 752, 753, 754, 755, 756, 757, 758, 759, 760, 761, 762, 763, 764, 765, 766, 767, 768, 769, 770, 771, 772, 773, 774, 775, 776] (by decide +kernel) (by decide +kernel)
set_option maxRecDepth 20000 in
theorem gL_law_X8_way : GoodIn wsL_law (wsV RL 63 RX8 yX8_way wsX8_way) := goodIn_app (goodIn_of _ (by decide +kernel)) ggL_law_X8_way
set_option maxRecDepth 20000 in
theorem ggL_law_X7_smallest : GoodIn wsL_law wsX7_smallest := goodIn_r _ [521, 21, 20, 40, 433, 435, 109, 2, 110, 266, 267, 268, 19, 269, 55, 270, 271, 272, 273, 56, 57, 58, 60, 59, 61, 62, 522, 189, 190, 191, 192, 193, 194, 195, 196, 197, 198, 199, 200, 201, 202, 439, 440, 441, 39, 442, 89, 91, 92, 86, 87, 98, 96, 443, 444, 445, 446, 447, 90, 93, 448, 94, 449, 450, 451, 452, 350, 291, 292, 293, 294, 295, 296, 297, 298, 287, 288, 289, 453, 347, 348, 349, 454, 455, 456, 457, 458, 459, 460, 461, 462, 463, 464, 465, 466, 467, 468, 469, 470, 471, 95, 472, 473, 474, 475, 476, 477, 478, 479, 480, 481, 482, 483, 484, 485, 486, 487, 488, 388, 389, 390, 736, 737, 738, 739, 740, 741, 742, 743, 744, 745, 746, 798, 799, 800, 801, 802, 803, 804, 805, 806, 807, 808, 780, 781, 782, 783, 784, 785, 786, 787] (by decide +kernel) (by decide +kernel)
set_option maxRecDepth 20000 in
theorem gL_law_X7_smallest : GoodIn wsL_law (wsV RL 64 RX7 yX7_smallest wsX7_smallest) := goodIn_app (goodIn_of _ (by decide +kernel)) ggL_law_X7_smallest
set_option maxRecDepth 20000 in
theorem ggL_law_X8_smallest : GoodIn wsL_law wsX8_smallest := goodIn_r _ [526, 493, 133, 494, 495, 5, 496, 497, 165, 166, 167, 527, 528, 529, 530, 131, 312, 313, 314, 315, 130, 122, 498, 499, 500, 501, 502, 132, 134, 116, 503, 504, 505, 506, 119, 507, 508, 509, 510, 511, 512, 513, 359, 360, 361, 362, 363, 364, 365, 366, 117, 118, 316, 317, 318, 319, 399, 400, 401, 402, 514, 515, 516, 517, 747, 748, 749, 750, 751, 752, 753, 754, 755, 756, 757, 758, 759, 760, 761, 762, 763, 764, 765, 766, 767, 768, 769, 770, 771, 772, 773, 774, 775, 776] (by decide +kernel) (by decide +kernel)
set_option maxRecDepth 20000 in
theorem gL_law_X8_smallest : GoodIn wsL_law (wsV RL 67 RX8 yX8_smallest wsX8_smallest) := goodIn_app (goodIn_of _ (by decide +kernel)) ggL_law_X8_smallest
set_option maxRecDepth 20000 in
theorem ggL_law_X7_mend : GoodIn wsL_law wsX7_mend := goodIn_r _ [534, 20, 21, 40, 433, 434, 535, 536, 537, 19, 538, 59, 436, 437, 2, 438, 266, 267, 268, 269, 55, 270, 271, 272, 273, 56, 57, 58, 60, 61, 62, 522, 189, 190, 191, 192, 193, 194, 195, 196, 197, 198, 199, 200, 201, 202, 439, 440, 441, 39, 442, 89, 91, 92, 86, 87, 98, 96, 443, 444, 445, 446, 447, 90, 93, 448, 94, 449, 450, 451, 452, 350, 291, 292, 293, 294, 295, 296, 297, 298, 287, 288, 289, 453, 347, 348, 349, 454, 455, 456, 457, 458, 459, 460, 461, 462, 463, 464, 465, 466, 467, 468, 469, 470, 471, 95, 472, 473, 474, 475, 476, 477, 478, 479, 480, 481, 482, 483, 484, 485, 486, 487, 488, 388, 389, 390, 736, 737, 738, 739, 740, 741, 742, 743, 744, 745, 746, 798, 799, 800, 801, 802, 803, 804, 805, 806, 807, 808, 780, 781, 782, 783, 784, 785, 786, 787] (by decide +kernel) (by decide +kernel)
set_option maxRecDepth 20000 in
theorem gL_law_X7_mend : GoodIn wsL_law (wsV RL 68 RX7 yX7_mend wsX7_mend) := goodIn_app (goodIn_of _ (by decide +kernel)) ggL_law_X7_mend
set_option maxRecDepth 20000 in
theorem ggL_law_X8_mend : GoodIn wsL_law wsX8_mend := goodIn_r _ [542, 493, 133, 132, 134, 543, 544, 545, 5, 546, 116, 165, 166, 167, 527, 528, 529, 530, 131, 312, 313, 314, 315, 130, 122, 498, 499, 500, 501, 502, 503, 504, 505, 506, 119, 507, 508, 509, 510, 511, 512, 513, 359, 360, 361, 362, 363, 364, 365, 366, 117, 118, 316, 317, 318, 319, 399, 400, 401, 402, 547, 548, 549, 550, 747, 748, 749, 750, 751, 752, 753, 754, 755, 756, 757, 758, 759, 760, 761, 762, 763, 764, 765, 766, 767, 768, 769, 770, 771, 772, 773, 774, 775, 776] (by decide +kernel) (by decide +kernel)
set_option maxRecDepth 20000 in
theorem gL_law_X8_mend : GoodIn wsL_law (wsV RL 71 RX8 yX8_mend wsX8_mend) := goodIn_app (goodIn_of _ (by decide +kernel)) ggL_law_X8_mend
set_option maxRecDepth 20000 in
theorem ggL_law_X7_seen : GoodIn wsL_law wsX7_seen := goodIn_r _ [554, 20, 32, 263, 286, 287, 288, 19, 289, 59, 555, 556, 557, 31, 558, 77, 559, 560, 561, 562, 74, 76, 736, 737, 738, 739, 740, 741, 742, 743, 744, 745, 746, 793, 794, 795, 780, 781, 782, 783, 784, 785, 786, 787] (by decide +kernel) (by decide +kernel)
set_option maxRecDepth 20000 in
theorem gL_law_X7_seen : GoodIn wsL_law (wsV RL 72 RX7 yX7_seen wsX7_seen) := goodIn_app (goodIn_of _ (by decide +kernel)) ggL_law_X7_seen
set_option maxRecDepth 20000 in
theorem ggL_law_X8_seen : GoodIn wsL_law wsX8_seen := goodIn_r _ [566, 143, 126, 127, 304, 305, 306, 5, 307, 116, 165, 166, 167, 747, 748, 749, 750, 751, 752, 753, 754, 755, 756, 757, 758, 759, 760, 761, 762, 763, 764, 765, 766, 767, 768, 769, 770, 771, 772, 773, 774, 775, 776] (by decide +kernel) (by decide +kernel)
set_option maxRecDepth 20000 in
theorem gL_law_X8_seen : GoodIn wsL_law (wsV RL 76 RX8 yX8_seen wsX8_seen) := goodIn_app (goodIn_of _ (by decide +kernel)) ggL_law_X8_seen
set_option maxRecDepth 20000 in
theorem ggL_law_X7_forget : GoodIn wsL_law wsX7_forget := goodIn_r _ [570, 32, 263, 736, 737, 738, 739, 740, 741, 742, 743, 744, 745, 746, 793, 794, 795] (by decide +kernel) (by decide +kernel)
set_option maxRecDepth 20000 in
theorem gL_law_X7_forget : GoodIn wsL_law (wsV RL 77 RX7 yX7_forget wsX7_forget) := goodIn_app (goodIn_of _ (by decide +kernel)) ggL_law_X7_forget
set_option maxRecDepth 20000 in
theorem ggL_law_X8_forget : GoodIn wsL_law wsX8_forget := goodIn_r _ [574, 143, 747, 748, 749, 750, 751, 752, 753, 754, 755, 756, 757, 758, 759, 760, 761, 762, 763, 764, 765, 766, 767, 768, 769, 770, 771, 772, 773, 774, 775, 776] (by decide +kernel) (by decide +kernel)
set_option maxRecDepth 20000 in
theorem gL_law_X8_forget : GoodIn wsL_law (wsV RL 80 RX8 yX8_forget wsX8_forget) := goodIn_app (goodIn_of _ (by decide +kernel)) ggL_law_X8_forget
set_option maxRecDepth 20000 in
theorem ggL_law_X7_wrong : GoodIn wsL_law wsX7_wrong := goodIn_r _ [578, 21, 20, 32, 262, 285, 266, 267, 268, 19, 269, 55, 270, 271, 272, 273, 56, 57, 58, 60, 59, 61, 62, 579, 450, 451, 452, 350, 291, 292, 293, 294, 295, 296, 297, 298, 287, 288, 289, 580, 581, 582, 31, 583, 77, 74, 76, 736, 737, 738, 739, 740, 741, 742, 743, 744, 745, 746, 780, 781, 782, 783, 784, 785, 786, 787, 793, 794, 795] (by decide +kernel) (by decide +kernel)
set_option maxRecDepth 20000 in
theorem gL_law_X7_wrong : GoodIn wsL_law (wsV RL 81 RX7 yX7_wrong wsX7_wrong) := goodIn_app (goodIn_of _ (by decide +kernel)) ggL_law_X7_wrong
set_option maxRecDepth 20000 in
theorem ggL_law_X8_wrong : GoodIn wsL_law wsX8_wrong := goodIn_r _ [587, 116, 130, 308, 309, 310, 5, 311, 131, 123, 312, 313, 314, 315, 122, 588, 589, 590, 591, 143, 126, 127, 547, 548, 549, 550, 316, 317, 318, 319, 119, 747, 748, 749, 750, 751, 752, 753, 754, 755, 756, 757, 758, 759, 760, 761, 762, 763, 764, 765, 766, 767, 768, 769, 770, 771, 772, 773, 774, 775, 776] (by decide +kernel) (by decide +kernel)
set_option maxRecDepth 20000 in
theorem gL_law_X8_wrong : GoodIn wsL_law (wsV RL 84 RX8 yX8_wrong wsX8_wrong) := goodIn_app (goodIn_of _ (by decide +kernel)) ggL_law_X8_wrong
set_option maxRecDepth 20000 in
theorem ggL_law_X7_path : GoodIn wsL_law wsX7_path := goodIn_r _ [595, 20, 36, 264, 286, 287, 288, 19, 289, 59, 596, 597, 598, 35, 599, 82, 600, 601, 602, 603, 81, 736, 737, 738, 739, 740, 741, 742, 743, 744, 745, 746, 796, 797, 780, 781, 782, 783, 784, 785, 786, 787] (by decide +kernel) (by decide +kernel)
set_option maxRecDepth 20000 in
theorem gL_law_X7_path : GoodIn wsL_law (wsV RL 85 RX7 yX7_path wsX7_path) := goodIn_app (goodIn_of _ (by decide +kernel)) ggL_law_X7_path
set_option maxRecDepth 20000 in
theorem ggL_law_X8_path : GoodIn wsL_law wsX8_path := goodIn_r _ [607, 144, 128, 304, 305, 306, 5, 307, 116, 165, 166, 167, 747, 748, 749, 750, 751, 752, 753, 754, 755, 756, 757, 758, 759, 760, 761, 762, 763, 764, 765, 766, 767, 768, 769, 770, 771, 772, 773, 774, 775, 776] (by decide +kernel) (by decide +kernel)
set_option maxRecDepth 20000 in
theorem gL_law_X8_path : GoodIn wsL_law (wsV RL 88 RX8 yX8_path wsX8_path) := goodIn_app (goodIn_of _ (by decide +kernel)) ggL_law_X8_path
set_option maxRecDepth 20000 in
theorem ggL_law_X7_noPath : GoodIn wsL_law wsX7_noPath := goodIn_r _ [611, 36, 264, 736, 737, 738, 739, 740, 741, 742, 743, 744, 745, 746, 796, 797] (by decide +kernel) (by decide +kernel)
set_option maxRecDepth 20000 in
theorem gL_law_X7_noPath : GoodIn wsL_law (wsV RL 89 RX7 yX7_noPath wsX7_noPath) := goodIn_app (goodIn_of _ (by decide +kernel)) ggL_law_X7_noPath
set_option maxRecDepth 20000 in
theorem ggL_law_X8_noPath : GoodIn wsL_law wsX8_noPath := goodIn_r _ [615, 144, 747, 748, 749, 750, 751, 752, 753, 754, 755, 756, 757, 758, 759, 760, 761, 762, 763, 764, 765, 766, 767, 768, 769, 770, 771, 772, 773, 774, 775, 776] (by decide +kernel) (by decide +kernel)
set_option maxRecDepth 20000 in
theorem gL_law_X8_noPath : GoodIn wsL_law (wsV RL 92 RX8 yX8_noPath wsX8_noPath) := goodIn_app (goodIn_of _ (by decide +kernel)) ggL_law_X8_noPath
set_option maxRecDepth 20000 in
theorem ggL_law_X7_guests : GoodIn wsL_law wsX7_guests := goodIn_r _ [619, 20, 21, 36, 535, 536, 537, 19, 538, 59, 436, 437, 2, 438, 266, 267, 268, 269, 55, 270, 271, 272, 273, 56, 57, 58, 60, 61, 62, 620, 621, 622, 35, 623, 82, 81, 624, 625, 287, 288, 289, 626, 347, 348, 349, 298, 350, 291, 292, 293, 294, 295, 296, 297, 627, 388, 389, 390, 579, 450, 451, 452, 736, 737, 738, 739, 740, 741, 742, 743, 744, 745, 746, 780, 781, 782, 783, 784, 785, 786, 787, 796, 797] (by decide +kernel) (by decide +kernel)
set_option maxRecDepth 20000 in
theorem gL_law_X7_guests : GoodIn wsL_law (wsV RL 93 RX7 yX7_guests wsX7_guests) := goodIn_app (goodIn_of _ (by decide +kernel)) ggL_law_X7_guests
set_option maxRecDepth 20000 in
theorem ggL_law_X8_guests : GoodIn wsL_law wsX8_guests := goodIn_r _ [631, 543, 544, 545, 5, 546, 116, 165, 166, 167, 308, 309, 310, 311, 131, 123, 312, 313, 314, 315, 130, 122, 632, 633, 634, 635, 144, 128, 359, 360, 361, 362, 363, 364, 365, 366, 117, 118, 316, 317, 318, 319, 119, 399, 400, 401, 402, 547, 548, 549, 550, 747, 748, 749, 750, 751, 752, 753, 754, 755, 756, 757, 758, 759, 760, 761, 762, 763, 764, 765, 766, 767, 768, 769, 770, 771, 772, 773, 774, 775, 776] (by decide +kernel) (by decide +kernel)
set_option maxRecDepth 20000 in
theorem gL_law_X8_guests : GoodIn wsL_law (wsV RL 96 RX8 yX8_guests wsX8_guests) := goodIn_app (goodIn_of _ (by decide +kernel)) ggL_law_X8_guests
set_option maxRecDepth 20000 in
theorem ggL_law_X7_odds : GoodIn wsL_law wsX7_odds := goodIn_r _ [639, 20, 21, 44, 640, 641, 286, 287, 288, 19, 289, 59, 436, 437, 2, 438, 266, 267, 268, 269, 55, 270, 271, 272, 273, 56, 57, 58, 60, 61, 62, 642, 643, 644, 43, 645, 102, 103, 104, 646, 647, 648, 649, 650, 651, 652, 291, 292, 293, 294, 295, 296, 297, 298, 653, 200, 201, 202, 654, 655, 656, 657, 658, 659, 660, 661, 662, 663, 664, 736, 737, 738, 739, 740, 741, 742, 743, 744, 745, 746, 809, 810, 811, 780, 781, 782, 783, 784, 785, 786, 787] (by decide +kernel) (by decide +kernel)
set_option maxRecDepth 20000 in
theorem gL_law_X7_odds : GoodIn wsL_law (wsV RL 97 RX7 yX7_odds wsX7_odds) := goodIn_app (goodIn_of _ (by decide +kernel)) ggL_law_X7_odds
set_option maxRecDepth 20000 in
theorem ggL_law_X8_odds : GoodIn wsL_law wsX8_odds := goodIn_r _ [668, 162, 669, 135, 122, 136, 130, 304, 305, 306, 5, 307, 116, 165, 166, 167, 308, 309, 310, 311, 131, 123, 312, 313, 314, 315, 316, 317, 318, 319, 119, 747, 748, 749, 750, 751, 752, 753, 754, 755, 756, 757, 758, 759, 760, 761, 762, 763, 764, 765, 766, 767, 768, 769, 770, 771, 772, 773, 774, 775, 776] (by decide +kernel) (by decide +kernel)
set_option maxRecDepth 20000 in
theorem gL_law_X8_odds : GoodIn wsL_law (wsV RL 101 RX8 yX8_odds wsX8_odds) := goodIn_app (goodIn_of _ (by decide +kernel)) ggL_law_X8_odds
set_option maxRecDepth 20000 in
theorem ggL_law_X7_day : GoodIn wsL_law wsX7_day := goodIn_r _ [673, 20, 21, 324, 325, 326, 327, 19, 328, 61, 266, 267, 268, 269, 55, 270, 271, 272, 273, 56, 57, 58, 60, 59, 62, 674, 675, 676, 677, 678, 679, 680, 681, 342, 343, 344, 345, 346, 347, 348, 349, 298, 287, 288, 289, 350, 291, 292, 293, 294, 295, 296, 297, 682, 384, 385, 386, 387, 388, 389, 390, 736, 737, 738, 739, 740, 741, 742, 743, 744, 745, 746, 780, 781, 782, 783, 784, 785, 786, 787] (by decide +kernel) (by decide +kernel)
set_option maxRecDepth 20000 in
theorem gL_law_X7_day : GoodIn wsL_law (wsV RL 102 RX7 yX7_day wsX7_day) := goodIn_app (goodIn_of _ (by decide +kernel)) ggL_law_X7_day
set_option maxRecDepth 20000 in
theorem ggL_law_X8_day : GoodIn wsL_law wsX8_day := goodIn_r _ [686, 687, 688, 689, 690, 691, 121, 116, 131, 130, 165, 166, 5, 167, 333, 334, 335, 336, 308, 309, 310, 311, 123, 312, 313, 314, 315, 122, 359, 360, 361, 362, 363, 364, 365, 366, 117, 118, 316, 317, 318, 319, 119, 399, 400, 401, 402, 747, 748, 749, 750, 751, 752, 753, 754, 755, 756, 757, 758, 759, 760, 761, 762, 763, 764, 765, 766, 767, 768, 769, 770, 771, 772, 773, 774, 775, 776] (by decide +kernel) (by decide +kernel)
set_option maxRecDepth 20000 in
theorem gL_law_X8_day : GoodIn wsL_law (wsV RL 106 RX8 yX8_day wsX8_day) := goodIn_app (goodIn_of _ (by decide +kernel)) ggL_law_X8_day
set_option maxRecDepth 20000 in
theorem ggL_law_X7_keep : GoodIn wsL_law wsX7_keep := goodIn_r _ [695, 24, 20, 696, 697, 698, 2, 699, 22, 23, 266, 267, 268, 19, 269, 55, 270, 271, 272, 273, 56, 57, 58, 60, 59, 61, 62, 736, 737, 738, 739, 740, 741, 742, 743, 744, 745, 746, 780, 781, 782, 783, 784, 785, 786, 787] (by decide +kernel) (by decide +kernel)
set_option maxRecDepth 20000 in
theorem gL_law_X7_keep : GoodIn wsL_law (wsV RL 107 RX7 yX7_keep wsX7_keep) := goodIn_app (goodIn_of _ (by decide +kernel)) ggL_law_X7_keep
set_option maxRecDepth 20000 in
theorem ggL_law_X8_keep : GoodIn wsL_law wsX8_keep := goodIn_r _ [703, 141, 704, 705, 706, 5, 707, 122, 123, 124, 747, 748, 749, 750, 751, 752, 753, 754, 755, 756, 757, 758, 759, 760, 761, 762, 763, 764, 765, 766, 767, 768, 769, 770, 771, 772, 773, 774, 775, 776] (by decide +kernel) (by decide +kernel)
set_option maxRecDepth 20000 in
theorem gL_law_X8_keep : GoodIn wsL_law (wsV RL 110 RX8 yX8_keep wsX8_keep) := goodIn_app (goodIn_of _ (by decide +kernel)) ggL_law_X8_keep
set_option maxRecDepth 20000 in
theorem ggL_law_X7_back : GoodIn wsL_law wsX7_back := goodIn_r _ [711, 24, 20, 28, 265, 696, 697, 698, 2, 699, 22, 23, 266, 267, 268, 19, 269, 55, 270, 271, 272, 273, 56, 57, 58, 60, 59, 61, 62, 736, 737, 738, 739, 740, 741, 742, 743, 744, 745, 746, 788, 789, 790, 791, 792, 780, 781, 782, 783, 784, 785, 786, 787] (by decide +kernel) (by decide +kernel)
set_option maxRecDepth 20000 in
theorem gL_law_X7_back : GoodIn wsL_law (wsV RL 111 RX7 yX7_back wsX7_back) := goodIn_app (goodIn_of _ (by decide +kernel)) ggL_law_X7_back
set_option maxRecDepth 20000 in
theorem ggL_law_X8_back : GoodIn wsL_law wsX8_back := goodIn_r _ [715, 141, 142, 704, 705, 706, 5, 707, 122, 123, 124, 747, 748, 749, 750, 751, 752, 753, 754, 755, 756, 757, 758, 759, 760, 761, 762, 763, 764, 765, 766, 767, 768, 769, 770, 771, 772, 773, 774, 775, 776] (by decide +kernel) (by decide +kernel)
set_option maxRecDepth 20000 in
theorem gL_law_X8_back : GoodIn wsL_law (wsV RL 114 RX8 yX8_back wsX8_back) := goodIn_app (goodIn_of _ (by decide +kernel)) ggL_law_X8_back
set_option maxRecDepth 20000 in
theorem ggL_law_X7_count : GoodIn wsL_law wsX7_count := goodIn_r _ [719, 20, 262, 720, 407, 32, 263, 36, 264, 28, 265, 24, 16, 149, 579, 450, 451, 19, 452, 59, 350, 291, 292, 293, 57, 58, 294, 295, 296, 297, 298, 287, 288, 289, 721, 722, 723, 724, 725, 726, 727, 736, 737, 738, 739, 740, 741, 742, 743, 744, 745, 746, 780, 781, 782, 783, 784, 785, 786, 787, 793, 794, 795, 796, 797, 788, 789, 790, 791, 792, 777, 778, 779] (by decide +kernel) (by decide +kernel)
set_option maxRecDepth 20000 in
theorem gL_law_X7_count : GoodIn wsL_law (wsV RL 115 RX7 yX7_count wsX7_count) := goodIn_app (goodIn_of _ (by decide +kernel)) ggL_law_X7_count
set_option maxRecDepth 20000 in
theorem ggL_law_X8_count : GoodIn wsL_law wsX8_count := goodIn_r _ [731, 116, 121, 124, 143, 144, 142, 141, 163, 732, 733, 734, 5, 735, 308, 309, 310, 311, 131, 123, 312, 313, 314, 315, 130, 122, 547, 548, 549, 550, 316, 317, 318, 319, 119, 747, 748, 749, 750, 751, 752, 753, 754, 755, 756, 757, 758, 759, 760, 761, 762, 763, 764, 765, 766, 767, 768, 769, 770, 771, 772, 773, 774, 775, 776] (by decide +kernel) (by decide +kernel)
set_option maxRecDepth 20000 in
theorem gL_law_X8_count : GoodIn wsL_law (wsV RL 118 RX8 yX8_count wsX8_count) := goodIn_app (goodIn_of _ (by decide +kernel)) ggL_law_X8_count
theorem dL_law_0 : decode cL_law 0 = .ok (.new 7, 3) := by decide +kernel
theorem dL_law_3 : decode cL_law 3 = .ok (.dup, 1) := by decide +kernel
theorem dL_law_4 : decode cL_law 4 = .ok (.invokespecial 9, 3) := by decide +kernel
theorem dL_law_7 : decode cL_law 7 = .ok (.astore_n 1, 1) := by decide +kernel
theorem dL_law_8 : decode cL_law 8 = .ok (.new 10, 3) := by decide +kernel
theorem dL_law_11 : decode cL_law 11 = .ok (.dup, 1) := by decide +kernel
theorem dL_law_12 : decode cL_law 12 = .ok (.invokespecial 12, 3) := by decide +kernel
theorem dL_law_15 : decode cL_law 15 = .ok (.astore_n 2, 1) := by decide +kernel
theorem dL_law_16 : decode cL_law 16 = .ok (.iconst 0, 1) := by decide +kernel
theorem dL_law_17 : decode cL_law 17 = .ok (.istore_n 3, 1) := by decide +kernel
theorem dL_law_18 : decode cL_law 18 = .ok (.iload_n 3, 1) := by decide +kernel
theorem dL_law_19 : decode cL_law 19 = .ok (.aload_n 0, 1) := by decide +kernel
theorem dL_law_20 : decode cL_law 20 = .ok (.arraylength, 1) := by decide +kernel
theorem dL_law_21 : decode cL_law 21 = .ok (.iconst 5, 1) := by decide +kernel
theorem dL_law_22 : decode cL_law 22 = .ok (.isub, 1) := by decide +kernel
theorem dL_law_23 : decode cL_law 23 = .ok (.if_icmp .gt 801, 3) := by decide +kernel
theorem dL_law_26 : decode cL_law 26 = .ok (.aload_n 0, 1) := by decide +kernel
theorem dL_law_27 : decode cL_law 27 = .ok (.iload_n 3, 1) := by decide +kernel
theorem dL_law_28 : decode cL_law 28 = .ok (.iaload, 1) := by decide +kernel
theorem dL_law_29 : decode cL_law 29 = .ok (.bipush 31, 2) := by decide +kernel
theorem dL_law_31 : decode cL_law 31 = .ok (.iand, 1) := by decide +kernel
theorem dL_law_32 : decode cL_law 32 = .ok (.tableswitch 786 0 23 #[112, 175, 188, 201, 214, 247, 270, 303, 336, 369, 382, 441, 464, 497, 546, 559, 572, 595, 608, 641, 694, 737, 750, 763], 112) := by decide +kernel
theorem dL_law_144 : decode cL_law 144 = .ok (.aload_n 1, 1) := by decide +kernel
theorem dL_law_145 : decode cL_law 145 = .ok (.aload_n 0, 1) := by decide +kernel
theorem dL_law_146 : decode cL_law 146 = .ok (.iload_n 3, 1) := by decide +kernel
theorem dL_law_147 : decode cL_law 147 = .ok (.iconst 1, 1) := by decide +kernel
theorem dL_law_148 : decode cL_law 148 = .ok (.iadd, 1) := by decide +kernel
theorem dL_law_149 : decode cL_law 149 = .ok (.iaload, 1) := by decide +kernel
theorem dL_law_150 : decode cL_law 150 = .ok (.aload_n 0, 1) := by decide +kernel
theorem dL_law_151 : decode cL_law 151 = .ok (.iload_n 3, 1) := by decide +kernel
theorem dL_law_152 : decode cL_law 152 = .ok (.iconst 2, 1) := by decide +kernel
theorem dL_law_153 : decode cL_law 153 = .ok (.iadd, 1) := by decide +kernel
theorem dL_law_154 : decode cL_law 154 = .ok (.iaload, 1) := by decide +kernel
theorem dL_law_155 : decode cL_law 155 = .ok (.i2l, 1) := by decide +kernel
theorem dL_law_156 : decode cL_law 156 = .ok (.bipush 32, 2) := by decide +kernel
theorem dL_law_158 : decode cL_law 158 = .ok (.lshl, 1) := by decide +kernel
theorem dL_law_159 : decode cL_law 159 = .ok (.aload_n 0, 1) := by decide +kernel
theorem dL_law_160 : decode cL_law 160 = .ok (.iload_n 3, 1) := by decide +kernel
theorem dL_law_161 : decode cL_law 161 = .ok (.iconst 3, 1) := by decide +kernel
theorem dL_law_162 : decode cL_law 162 = .ok (.iadd, 1) := by decide +kernel
theorem dL_law_163 : decode cL_law 163 = .ok (.iaload, 1) := by decide +kernel
theorem dL_law_164 : decode cL_law 164 = .ok (.i2l, 1) := by decide +kernel
theorem dL_law_165 : decode cL_law 165 = .ok (.ldc2_w 13, 3) := by decide +kernel
theorem dL_law_168 : decode cL_law 168 = .ok (.land, 1) := by decide +kernel
theorem dL_law_169 : decode cL_law 169 = .ok (.lor, 1) := by decide +kernel
theorem dL_law_170 : decode cL_law 170 = .ok (.invokevirtual 15, 3) := by decide +kernel
theorem dL_law_173 : decode cL_law 173 = .ok (.aload_n 2, 1) := by decide +kernel
theorem dL_law_174 : decode cL_law 174 = .ok (.aload_n 0, 1) := by decide +kernel
theorem dL_law_175 : decode cL_law 175 = .ok (.iload_n 3, 1) := by decide +kernel
theorem dL_law_176 : decode cL_law 176 = .ok (.iconst 1, 1) := by decide +kernel
theorem dL_law_177 : decode cL_law 177 = .ok (.iadd, 1) := by decide +kernel
theorem dL_law_178 : decode cL_law 178 = .ok (.iaload, 1) := by decide +kernel
theorem dL_law_179 : decode cL_law 179 = .ok (.aload_n 0, 1) := by decide +kernel
theorem dL_law_180 : decode cL_law 180 = .ok (.iload_n 3, 1) := by decide +kernel
theorem dL_law_181 : decode cL_law 181 = .ok (.iconst 2, 1) := by decide +kernel
theorem dL_law_182 : decode cL_law 182 = .ok (.iadd, 1) := by decide +kernel
theorem dL_law_183 : decode cL_law 183 = .ok (.iaload, 1) := by decide +kernel
theorem dL_law_184 : decode cL_law 184 = .ok (.i2l, 1) := by decide +kernel
theorem dL_law_185 : decode cL_law 185 = .ok (.bipush 32, 2) := by decide +kernel
theorem dL_law_187 : decode cL_law 187 = .ok (.lshl, 1) := by decide +kernel
theorem dL_law_188 : decode cL_law 188 = .ok (.aload_n 0, 1) := by decide +kernel
theorem dL_law_189 : decode cL_law 189 = .ok (.iload_n 3, 1) := by decide +kernel
theorem dL_law_190 : decode cL_law 190 = .ok (.iconst 3, 1) := by decide +kernel
theorem dL_law_191 : decode cL_law 191 = .ok (.iadd, 1) := by decide +kernel
theorem dL_law_192 : decode cL_law 192 = .ok (.iaload, 1) := by decide +kernel
theorem dL_law_193 : decode cL_law 193 = .ok (.i2l, 1) := by decide +kernel
theorem dL_law_194 : decode cL_law 194 = .ok (.ldc2_w 13, 3) := by decide +kernel
theorem dL_law_197 : decode cL_law 197 = .ok (.land, 1) := by decide +kernel
theorem dL_law_198 : decode cL_law 198 = .ok (.lor, 1) := by decide +kernel
theorem dL_law_199 : decode cL_law 199 = .ok (.invokevirtual 19, 3) := by decide +kernel
theorem dL_law_202 : decode cL_law 202 = .ok (.if_icmp .eq 616, 3) := by decide +kernel
theorem dL_law_205 : decode cL_law 205 = .ok (.iconst 0, 1) := by decide +kernel
theorem dL_law_206 : decode cL_law 206 = .ok (.ireturn, 1) := by decide +kernel
theorem dL_law_207 : decode cL_law 207 = .ok (.aload_n 1, 1) := by decide +kernel
theorem dL_law_208 : decode cL_law 208 = .ok (.invokevirtual 20, 3) := by decide +kernel
theorem dL_law_211 : decode cL_law 211 = .ok (.aload_n 2, 1) := by decide +kernel
theorem dL_law_212 : decode cL_law 212 = .ok (.invokevirtual 24, 3) := by decide +kernel
theorem dL_law_215 : decode cL_law 215 = .ok (.if_icmp .eq 603, 3) := by decide +kernel
theorem dL_law_218 : decode cL_law 218 = .ok (.iconst 0, 1) := by decide +kernel
theorem dL_law_219 : decode cL_law 219 = .ok (.ireturn, 1) := by decide +kernel
theorem dL_law_220 : decode cL_law 220 = .ok (.aload_n 1, 1) := by decide +kernel
theorem dL_law_221 : decode cL_law 221 = .ok (.invokevirtual 25, 3) := by decide +kernel
theorem dL_law_224 : decode cL_law 224 = .ok (.aload_n 2, 1) := by decide +kernel
theorem dL_law_225 : decode cL_law 225 = .ok (.invokevirtual 28, 3) := by decide +kernel
theorem dL_law_228 : decode cL_law 228 = .ok (.if_icmp .eq 590, 3) := by decide +kernel
theorem dL_law_231 : decode cL_law 231 = .ok (.iconst 0, 1) := by decide +kernel
theorem dL_law_232 : decode cL_law 232 = .ok (.ireturn, 1) := by decide +kernel
theorem dL_law_233 : decode cL_law 233 = .ok (.aload_n 1, 1) := by decide +kernel
theorem dL_law_234 : decode cL_law 234 = .ok (.invokevirtual 29, 3) := by decide +kernel
theorem dL_law_237 : decode cL_law 237 = .ok (.aload_n 2, 1) := by decide +kernel
theorem dL_law_238 : decode cL_law 238 = .ok (.invokevirtual 32, 3) := by decide +kernel
theorem dL_law_241 : decode cL_law 241 = .ok (.if_icmp .eq 577, 3) := by decide +kernel
theorem dL_law_244 : decode cL_law 244 = .ok (.iconst 0, 1) := by decide +kernel
theorem dL_law_245 : decode cL_law 245 = .ok (.ireturn, 1) := by decide +kernel
theorem dL_law_246 : decode cL_law 246 = .ok (.aload_n 1, 1) := by decide +kernel
theorem dL_law_247 : decode cL_law 247 = .ok (.aload_n 0, 1) := by decide +kernel
theorem dL_law_248 : decode cL_law 248 = .ok (.iload_n 3, 1) := by decide +kernel
theorem dL_law_249 : decode cL_law 249 = .ok (.iconst 1, 1) := by decide +kernel
theorem dL_law_250 : decode cL_law 250 = .ok (.iadd, 1) := by decide +kernel
theorem dL_law_251 : decode cL_law 251 = .ok (.iaload, 1) := by decide +kernel
theorem dL_law_252 : decode cL_law 252 = .ok (.aload_n 0, 1) := by decide +kernel
theorem dL_law_253 : decode cL_law 253 = .ok (.iload_n 3, 1) := by decide +kernel
theorem dL_law_254 : decode cL_law 254 = .ok (.iconst 2, 1) := by decide +kernel
theorem dL_law_255 : decode cL_law 255 = .ok (.iadd, 1) := by decide +kernel
theorem dL_law_256 : decode cL_law 256 = .ok (.iaload, 1) := by decide +kernel
theorem dL_law_257 : decode cL_law 257 = .ok (.invokevirtual 33, 3) := by decide +kernel
theorem dL_law_260 : decode cL_law 260 = .ok (.aload_n 2, 1) := by decide +kernel
theorem dL_law_261 : decode cL_law 261 = .ok (.aload_n 0, 1) := by decide +kernel
theorem dL_law_262 : decode cL_law 262 = .ok (.iload_n 3, 1) := by decide +kernel
theorem dL_law_263 : decode cL_law 263 = .ok (.iconst 1, 1) := by decide +kernel
theorem dL_law_264 : decode cL_law 264 = .ok (.iadd, 1) := by decide +kernel
theorem dL_law_265 : decode cL_law 265 = .ok (.iaload, 1) := by decide +kernel
theorem dL_law_266 : decode cL_law 266 = .ok (.aload_n 0, 1) := by decide +kernel
theorem dL_law_267 : decode cL_law 267 = .ok (.iload_n 3, 1) := by decide +kernel
theorem dL_law_268 : decode cL_law 268 = .ok (.iconst 2, 1) := by decide +kernel
theorem dL_law_269 : decode cL_law 269 = .ok (.iadd, 1) := by decide +kernel
theorem dL_law_270 : decode cL_law 270 = .ok (.iaload, 1) := by decide +kernel
theorem dL_law_271 : decode cL_law 271 = .ok (.invokevirtual 37, 3) := by decide +kernel
theorem dL_law_274 : decode cL_law 274 = .ok (.if_icmp .eq 544, 3) := by decide +kernel
theorem dL_law_277 : decode cL_law 277 = .ok (.iconst 0, 1) := by decide +kernel
theorem dL_law_278 : decode cL_law 278 = .ok (.ireturn, 1) := by decide +kernel
theorem dL_law_279 : decode cL_law 279 = .ok (.aload_n 1, 1) := by decide +kernel
theorem dL_law_280 : decode cL_law 280 = .ok (.aload_n 0, 1) := by decide +kernel
theorem dL_law_281 : decode cL_law 281 = .ok (.iload_n 3, 1) := by decide +kernel
theorem dL_law_282 : decode cL_law 282 = .ok (.iconst 1, 1) := by decide +kernel
theorem dL_law_283 : decode cL_law 283 = .ok (.iadd, 1) := by decide +kernel
theorem dL_law_284 : decode cL_law 284 = .ok (.iaload, 1) := by decide +kernel
theorem dL_law_285 : decode cL_law 285 = .ok (.invokevirtual 38, 3) := by decide +kernel
theorem dL_law_288 : decode cL_law 288 = .ok (.aload_n 2, 1) := by decide +kernel
theorem dL_law_289 : decode cL_law 289 = .ok (.aload_n 0, 1) := by decide +kernel
theorem dL_law_290 : decode cL_law 290 = .ok (.iload_n 3, 1) := by decide +kernel
theorem dL_law_291 : decode cL_law 291 = .ok (.iconst 1, 1) := by decide +kernel
theorem dL_law_292 : decode cL_law 292 = .ok (.iadd, 1) := by decide +kernel
theorem dL_law_293 : decode cL_law 293 = .ok (.iaload, 1) := by decide +kernel
theorem dL_law_294 : decode cL_law 294 = .ok (.invokevirtual 42, 3) := by decide +kernel
theorem dL_law_297 : decode cL_law 297 = .ok (.if_icmp .eq 521, 3) := by decide +kernel
theorem dL_law_300 : decode cL_law 300 = .ok (.iconst 0, 1) := by decide +kernel
theorem dL_law_301 : decode cL_law 301 = .ok (.ireturn, 1) := by decide +kernel
theorem dL_law_302 : decode cL_law 302 = .ok (.aload_n 1, 1) := by decide +kernel
theorem dL_law_303 : decode cL_law 303 = .ok (.aload_n 0, 1) := by decide +kernel
theorem dL_law_304 : decode cL_law 304 = .ok (.iload_n 3, 1) := by decide +kernel
theorem dL_law_305 : decode cL_law 305 = .ok (.iconst 1, 1) := by decide +kernel
theorem dL_law_306 : decode cL_law 306 = .ok (.iadd, 1) := by decide +kernel
theorem dL_law_307 : decode cL_law 307 = .ok (.iaload, 1) := by decide +kernel
theorem dL_law_308 : decode cL_law 308 = .ok (.aload_n 0, 1) := by decide +kernel
theorem dL_law_309 : decode cL_law 309 = .ok (.iload_n 3, 1) := by decide +kernel
theorem dL_law_310 : decode cL_law 310 = .ok (.iconst 2, 1) := by decide +kernel
theorem dL_law_311 : decode cL_law 311 = .ok (.iadd, 1) := by decide +kernel
theorem dL_law_312 : decode cL_law 312 = .ok (.iaload, 1) := by decide +kernel
theorem dL_law_313 : decode cL_law 313 = .ok (.invokevirtual 43, 3) := by decide +kernel
theorem dL_law_316 : decode cL_law 316 = .ok (.aload_n 2, 1) := by decide +kernel
theorem dL_law_317 : decode cL_law 317 = .ok (.aload_n 0, 1) := by decide +kernel
theorem dL_law_318 : decode cL_law 318 = .ok (.iload_n 3, 1) := by decide +kernel
theorem dL_law_319 : decode cL_law 319 = .ok (.iconst 1, 1) := by decide +kernel
theorem dL_law_320 : decode cL_law 320 = .ok (.iadd, 1) := by decide +kernel
theorem dL_law_321 : decode cL_law 321 = .ok (.iaload, 1) := by decide +kernel
theorem dL_law_322 : decode cL_law 322 = .ok (.aload_n 0, 1) := by decide +kernel
theorem dL_law_323 : decode cL_law 323 = .ok (.iload_n 3, 1) := by decide +kernel
theorem dL_law_324 : decode cL_law 324 = .ok (.iconst 2, 1) := by decide +kernel
theorem dL_law_325 : decode cL_law 325 = .ok (.iadd, 1) := by decide +kernel
theorem dL_law_326 : decode cL_law 326 = .ok (.iaload, 1) := by decide +kernel
theorem dL_law_327 : decode cL_law 327 = .ok (.invokevirtual 46, 3) := by decide +kernel
theorem dL_law_330 : decode cL_law 330 = .ok (.if_icmp .eq 488, 3) := by decide +kernel
theorem dL_law_333 : decode cL_law 333 = .ok (.iconst 0, 1) := by decide +kernel
theorem dL_law_334 : decode cL_law 334 = .ok (.ireturn, 1) := by decide +kernel
theorem dL_law_335 : decode cL_law 335 = .ok (.aload_n 1, 1) := by decide +kernel
theorem dL_law_336 : decode cL_law 336 = .ok (.aload_n 0, 1) := by decide +kernel
theorem dL_law_337 : decode cL_law 337 = .ok (.iload_n 3, 1) := by decide +kernel
theorem dL_law_338 : decode cL_law 338 = .ok (.iconst 1, 1) := by decide +kernel
theorem dL_law_339 : decode cL_law 339 = .ok (.iadd, 1) := by decide +kernel
theorem dL_law_340 : decode cL_law 340 = .ok (.iaload, 1) := by decide +kernel
theorem dL_law_341 : decode cL_law 341 = .ok (.aload_n 0, 1) := by decide +kernel
theorem dL_law_342 : decode cL_law 342 = .ok (.iload_n 3, 1) := by decide +kernel
theorem dL_law_343 : decode cL_law 343 = .ok (.iconst 2, 1) := by decide +kernel
theorem dL_law_344 : decode cL_law 344 = .ok (.iadd, 1) := by decide +kernel
theorem dL_law_345 : decode cL_law 345 = .ok (.iaload, 1) := by decide +kernel
theorem dL_law_346 : decode cL_law 346 = .ok (.invokevirtual 47, 3) := by decide +kernel
theorem dL_law_349 : decode cL_law 349 = .ok (.aload_n 2, 1) := by decide +kernel
theorem dL_law_350 : decode cL_law 350 = .ok (.aload_n 0, 1) := by decide +kernel
theorem dL_law_351 : decode cL_law 351 = .ok (.iload_n 3, 1) := by decide +kernel
theorem dL_law_352 : decode cL_law 352 = .ok (.iconst 1, 1) := by decide +kernel
theorem dL_law_353 : decode cL_law 353 = .ok (.iadd, 1) := by decide +kernel
theorem dL_law_354 : decode cL_law 354 = .ok (.iaload, 1) := by decide +kernel
theorem dL_law_355 : decode cL_law 355 = .ok (.aload_n 0, 1) := by decide +kernel
theorem dL_law_356 : decode cL_law 356 = .ok (.iload_n 3, 1) := by decide +kernel
theorem dL_law_357 : decode cL_law 357 = .ok (.iconst 2, 1) := by decide +kernel
theorem dL_law_358 : decode cL_law 358 = .ok (.iadd, 1) := by decide +kernel
theorem dL_law_359 : decode cL_law 359 = .ok (.iaload, 1) := by decide +kernel
theorem dL_law_360 : decode cL_law 360 = .ok (.invokevirtual 50, 3) := by decide +kernel
theorem dL_law_363 : decode cL_law 363 = .ok (.if_icmp .eq 455, 3) := by decide +kernel
theorem dL_law_366 : decode cL_law 366 = .ok (.iconst 0, 1) := by decide +kernel
theorem dL_law_367 : decode cL_law 367 = .ok (.ireturn, 1) := by decide +kernel
theorem dL_law_368 : decode cL_law 368 = .ok (.aload_n 1, 1) := by decide +kernel
theorem dL_law_369 : decode cL_law 369 = .ok (.aload_n 0, 1) := by decide +kernel
theorem dL_law_370 : decode cL_law 370 = .ok (.iload_n 3, 1) := by decide +kernel
theorem dL_law_371 : decode cL_law 371 = .ok (.iconst 1, 1) := by decide +kernel
theorem dL_law_372 : decode cL_law 372 = .ok (.iadd, 1) := by decide +kernel
theorem dL_law_373 : decode cL_law 373 = .ok (.iaload, 1) := by decide +kernel
theorem dL_law_374 : decode cL_law 374 = .ok (.aload_n 0, 1) := by decide +kernel
theorem dL_law_375 : decode cL_law 375 = .ok (.iload_n 3, 1) := by decide +kernel
theorem dL_law_376 : decode cL_law 376 = .ok (.iconst 2, 1) := by decide +kernel
theorem dL_law_377 : decode cL_law 377 = .ok (.iadd, 1) := by decide +kernel
theorem dL_law_378 : decode cL_law 378 = .ok (.iaload, 1) := by decide +kernel
theorem dL_law_379 : decode cL_law 379 = .ok (.invokevirtual 51, 3) := by decide +kernel
theorem dL_law_382 : decode cL_law 382 = .ok (.aload_n 2, 1) := by decide +kernel
theorem dL_law_383 : decode cL_law 383 = .ok (.aload_n 0, 1) := by decide +kernel
theorem dL_law_384 : decode cL_law 384 = .ok (.iload_n 3, 1) := by decide +kernel
theorem dL_law_385 : decode cL_law 385 = .ok (.iconst 1, 1) := by decide +kernel
theorem dL_law_386 : decode cL_law 386 = .ok (.iadd, 1) := by decide +kernel
theorem dL_law_387 : decode cL_law 387 = .ok (.iaload, 1) := by decide +kernel
theorem dL_law_388 : decode cL_law 388 = .ok (.aload_n 0, 1) := by decide +kernel
theorem dL_law_389 : decode cL_law 389 = .ok (.iload_n 3, 1) := by decide +kernel
theorem dL_law_390 : decode cL_law 390 = .ok (.iconst 2, 1) := by decide +kernel
theorem dL_law_391 : decode cL_law 391 = .ok (.iadd, 1) := by decide +kernel
theorem dL_law_392 : decode cL_law 392 = .ok (.iaload, 1) := by decide +kernel
theorem dL_law_393 : decode cL_law 393 = .ok (.invokevirtual 54, 3) := by decide +kernel
theorem dL_law_396 : decode cL_law 396 = .ok (.if_icmp .eq 422, 3) := by decide +kernel
theorem dL_law_399 : decode cL_law 399 = .ok (.iconst 0, 1) := by decide +kernel
theorem dL_law_400 : decode cL_law 400 = .ok (.ireturn, 1) := by decide +kernel
theorem dL_law_401 : decode cL_law 401 = .ok (.aload_n 1, 1) := by decide +kernel
theorem dL_law_402 : decode cL_law 402 = .ok (.invokevirtual 55, 3) := by decide +kernel
theorem dL_law_405 : decode cL_law 405 = .ok (.aload_n 2, 1) := by decide +kernel
theorem dL_law_406 : decode cL_law 406 = .ok (.invokevirtual 58, 3) := by decide +kernel
theorem dL_law_409 : decode cL_law 409 = .ok (.if_icmp .eq 409, 3) := by decide +kernel
theorem dL_law_412 : decode cL_law 412 = .ok (.iconst 0, 1) := by decide +kernel
theorem dL_law_413 : decode cL_law 413 = .ok (.ireturn, 1) := by decide +kernel
theorem dL_law_414 : decode cL_law 414 = .ok (.aload_n 1, 1) := by decide +kernel
theorem dL_law_415 : decode cL_law 415 = .ok (.aload_n 0, 1) := by decide +kernel
theorem dL_law_416 : decode cL_law 416 = .ok (.iload_n 3, 1) := by decide +kernel
theorem dL_law_417 : decode cL_law 417 = .ok (.iconst 1, 1) := by decide +kernel
theorem dL_law_418 : decode cL_law 418 = .ok (.iadd, 1) := by decide +kernel
theorem dL_law_419 : decode cL_law 419 = .ok (.iaload, 1) := by decide +kernel
theorem dL_law_420 : decode cL_law 420 = .ok (.aload_n 0, 1) := by decide +kernel
theorem dL_law_421 : decode cL_law 421 = .ok (.iload_n 3, 1) := by decide +kernel
theorem dL_law_422 : decode cL_law 422 = .ok (.iconst 2, 1) := by decide +kernel
theorem dL_law_423 : decode cL_law 423 = .ok (.iadd, 1) := by decide +kernel
theorem dL_law_424 : decode cL_law 424 = .ok (.iaload, 1) := by decide +kernel
theorem dL_law_425 : decode cL_law 425 = .ok (.ifCond .eq 7, 3) := by decide +kernel
theorem dL_law_428 : decode cL_law 428 = .ok (.iconst 1, 1) := by decide +kernel
theorem dL_law_429 : decode cL_law 429 = .ok (.goto 4, 3) := by decide +kernel
theorem dL_law_432 : decode cL_law 432 = .ok (.iconst 0, 1) := by decide +kernel
theorem dL_law_433 : decode cL_law 433 = .ok (.aload_n 0, 1) := by decide +kernel
theorem dL_law_434 : decode cL_law 434 = .ok (.iload_n 3, 1) := by decide +kernel
theorem dL_law_435 : decode cL_law 435 = .ok (.iconst 3, 1) := by decide +kernel
theorem dL_law_436 : decode cL_law 436 = .ok (.iadd, 1) := by decide +kernel
theorem dL_law_437 : decode cL_law 437 = .ok (.iaload, 1) := by decide +kernel
theorem dL_law_438 : decode cL_law 438 = .ok (.invokevirtual 59, 3) := by decide +kernel
theorem dL_law_441 : decode cL_law 441 = .ok (.aload_n 2, 1) := by decide +kernel
theorem dL_law_442 : decode cL_law 442 = .ok (.aload_n 0, 1) := by decide +kernel
theorem dL_law_443 : decode cL_law 443 = .ok (.iload_n 3, 1) := by decide +kernel
theorem dL_law_444 : decode cL_law 444 = .ok (.iconst 1, 1) := by decide +kernel
theorem dL_law_445 : decode cL_law 445 = .ok (.iadd, 1) := by decide +kernel
theorem dL_law_446 : decode cL_law 446 = .ok (.iaload, 1) := by decide +kernel
theorem dL_law_447 : decode cL_law 447 = .ok (.aload_n 0, 1) := by decide +kernel
theorem dL_law_448 : decode cL_law 448 = .ok (.iload_n 3, 1) := by decide +kernel
theorem dL_law_449 : decode cL_law 449 = .ok (.iconst 2, 1) := by decide +kernel
theorem dL_law_450 : decode cL_law 450 = .ok (.iadd, 1) := by decide +kernel
theorem dL_law_451 : decode cL_law 451 = .ok (.iaload, 1) := by decide +kernel
theorem dL_law_452 : decode cL_law 452 = .ok (.ifCond .eq 7, 3) := by decide +kernel
theorem dL_law_455 : decode cL_law 455 = .ok (.iconst 1, 1) := by decide +kernel
theorem dL_law_456 : decode cL_law 456 = .ok (.goto 4, 3) := by decide +kernel
theorem dL_law_459 : decode cL_law 459 = .ok (.iconst 0, 1) := by decide +kernel
theorem dL_law_460 : decode cL_law 460 = .ok (.aload_n 0, 1) := by decide +kernel
theorem dL_law_461 : decode cL_law 461 = .ok (.iload_n 3, 1) := by decide +kernel
theorem dL_law_462 : decode cL_law 462 = .ok (.iconst 3, 1) := by decide +kernel
theorem dL_law_463 : decode cL_law 463 = .ok (.iadd, 1) := by decide +kernel
theorem dL_law_464 : decode cL_law 464 = .ok (.iaload, 1) := by decide +kernel
theorem dL_law_465 : decode cL_law 465 = .ok (.invokevirtual 63, 3) := by decide +kernel
theorem dL_law_468 : decode cL_law 468 = .ok (.if_icmp .eq 350, 3) := by decide +kernel
theorem dL_law_471 : decode cL_law 471 = .ok (.iconst 0, 1) := by decide +kernel
theorem dL_law_472 : decode cL_law 472 = .ok (.ireturn, 1) := by decide +kernel
theorem dL_law_473 : decode cL_law 473 = .ok (.aload_n 1, 1) := by decide +kernel
theorem dL_law_474 : decode cL_law 474 = .ok (.aload_n 0, 1) := by decide +kernel
theorem dL_law_475 : decode cL_law 475 = .ok (.iload_n 3, 1) := by decide +kernel
theorem dL_law_476 : decode cL_law 476 = .ok (.iconst 1, 1) := by decide +kernel
theorem dL_law_477 : decode cL_law 477 = .ok (.iadd, 1) := by decide +kernel
theorem dL_law_478 : decode cL_law 478 = .ok (.iaload, 1) := by decide +kernel
theorem dL_law_479 : decode cL_law 479 = .ok (.invokevirtual 64, 3) := by decide +kernel
theorem dL_law_482 : decode cL_law 482 = .ok (.aload_n 2, 1) := by decide +kernel
theorem dL_law_483 : decode cL_law 483 = .ok (.aload_n 0, 1) := by decide +kernel
theorem dL_law_484 : decode cL_law 484 = .ok (.iload_n 3, 1) := by decide +kernel
theorem dL_law_485 : decode cL_law 485 = .ok (.iconst 1, 1) := by decide +kernel
theorem dL_law_486 : decode cL_law 486 = .ok (.iadd, 1) := by decide +kernel
theorem dL_law_487 : decode cL_law 487 = .ok (.iaload, 1) := by decide +kernel
theorem dL_law_488 : decode cL_law 488 = .ok (.invokevirtual 67, 3) := by decide +kernel
theorem dL_law_491 : decode cL_law 491 = .ok (.if_icmp .eq 327, 3) := by decide +kernel
theorem dL_law_494 : decode cL_law 494 = .ok (.iconst 0, 1) := by decide +kernel
theorem dL_law_495 : decode cL_law 495 = .ok (.ireturn, 1) := by decide +kernel
theorem dL_law_496 : decode cL_law 496 = .ok (.aload_n 1, 1) := by decide +kernel
theorem dL_law_497 : decode cL_law 497 = .ok (.aload_n 0, 1) := by decide +kernel
theorem dL_law_498 : decode cL_law 498 = .ok (.iload_n 3, 1) := by decide +kernel
theorem dL_law_499 : decode cL_law 499 = .ok (.iconst 1, 1) := by decide +kernel
theorem dL_law_500 : decode cL_law 500 = .ok (.iadd, 1) := by decide +kernel
theorem dL_law_501 : decode cL_law 501 = .ok (.iaload, 1) := by decide +kernel
theorem dL_law_502 : decode cL_law 502 = .ok (.aload_n 0, 1) := by decide +kernel
theorem dL_law_503 : decode cL_law 503 = .ok (.iload_n 3, 1) := by decide +kernel
theorem dL_law_504 : decode cL_law 504 = .ok (.iconst 2, 1) := by decide +kernel
theorem dL_law_505 : decode cL_law 505 = .ok (.iadd, 1) := by decide +kernel
theorem dL_law_506 : decode cL_law 506 = .ok (.iaload, 1) := by decide +kernel
theorem dL_law_507 : decode cL_law 507 = .ok (.invokevirtual 68, 3) := by decide +kernel
theorem dL_law_510 : decode cL_law 510 = .ok (.aload_n 2, 1) := by decide +kernel
theorem dL_law_511 : decode cL_law 511 = .ok (.aload_n 0, 1) := by decide +kernel
theorem dL_law_512 : decode cL_law 512 = .ok (.iload_n 3, 1) := by decide +kernel
theorem dL_law_513 : decode cL_law 513 = .ok (.iconst 1, 1) := by decide +kernel
theorem dL_law_514 : decode cL_law 514 = .ok (.iadd, 1) := by decide +kernel
theorem dL_law_515 : decode cL_law 515 = .ok (.iaload, 1) := by decide +kernel
theorem dL_law_516 : decode cL_law 516 = .ok (.aload_n 0, 1) := by decide +kernel
theorem dL_law_517 : decode cL_law 517 = .ok (.iload_n 3, 1) := by decide +kernel
theorem dL_law_518 : decode cL_law 518 = .ok (.iconst 2, 1) := by decide +kernel
theorem dL_law_519 : decode cL_law 519 = .ok (.iadd, 1) := by decide +kernel
theorem dL_law_520 : decode cL_law 520 = .ok (.iaload, 1) := by decide +kernel
theorem dL_law_521 : decode cL_law 521 = .ok (.invokevirtual 71, 3) := by decide +kernel
theorem dL_law_524 : decode cL_law 524 = .ok (.if_icmp .eq 294, 3) := by decide +kernel
theorem dL_law_527 : decode cL_law 527 = .ok (.iconst 0, 1) := by decide +kernel
theorem dL_law_528 : decode cL_law 528 = .ok (.ireturn, 1) := by decide +kernel
theorem dL_law_529 : decode cL_law 529 = .ok (.aload_n 1, 1) := by decide +kernel
theorem dL_law_530 : decode cL_law 530 = .ok (.aload_n 0, 1) := by decide +kernel
theorem dL_law_531 : decode cL_law 531 = .ok (.iload_n 3, 1) := by decide +kernel
theorem dL_law_532 : decode cL_law 532 = .ok (.iconst 1, 1) := by decide +kernel
theorem dL_law_533 : decode cL_law 533 = .ok (.iadd, 1) := by decide +kernel
theorem dL_law_534 : decode cL_law 534 = .ok (.iaload, 1) := by decide +kernel
theorem dL_law_535 : decode cL_law 535 = .ok (.aload_n 0, 1) := by decide +kernel
theorem dL_law_536 : decode cL_law 536 = .ok (.iload_n 3, 1) := by decide +kernel
theorem dL_law_537 : decode cL_law 537 = .ok (.iconst 2, 1) := by decide +kernel
theorem dL_law_538 : decode cL_law 538 = .ok (.iadd, 1) := by decide +kernel
theorem dL_law_539 : decode cL_law 539 = .ok (.iaload, 1) := by decide +kernel
theorem dL_law_540 : decode cL_law 540 = .ok (.ifCond .eq 7, 3) := by decide +kernel
theorem dL_law_543 : decode cL_law 543 = .ok (.iconst 1, 1) := by decide +kernel
theorem dL_law_544 : decode cL_law 544 = .ok (.goto 4, 3) := by decide +kernel
theorem dL_law_547 : decode cL_law 547 = .ok (.iconst 0, 1) := by decide +kernel
theorem dL_law_548 : decode cL_law 548 = .ok (.invokevirtual 72, 3) := by decide +kernel
theorem dL_law_551 : decode cL_law 551 = .ok (.aload_n 2, 1) := by decide +kernel
theorem dL_law_552 : decode cL_law 552 = .ok (.aload_n 0, 1) := by decide +kernel
theorem dL_law_553 : decode cL_law 553 = .ok (.iload_n 3, 1) := by decide +kernel
theorem dL_law_554 : decode cL_law 554 = .ok (.iconst 1, 1) := by decide +kernel
theorem dL_law_555 : decode cL_law 555 = .ok (.iadd, 1) := by decide +kernel
theorem dL_law_556 : decode cL_law 556 = .ok (.iaload, 1) := by decide +kernel
theorem dL_law_557 : decode cL_law 557 = .ok (.aload_n 0, 1) := by decide +kernel
theorem dL_law_558 : decode cL_law 558 = .ok (.iload_n 3, 1) := by decide +kernel
theorem dL_law_559 : decode cL_law 559 = .ok (.iconst 2, 1) := by decide +kernel
theorem dL_law_560 : decode cL_law 560 = .ok (.iadd, 1) := by decide +kernel
theorem dL_law_561 : decode cL_law 561 = .ok (.iaload, 1) := by decide +kernel
theorem dL_law_562 : decode cL_law 562 = .ok (.ifCond .eq 7, 3) := by decide +kernel
theorem dL_law_565 : decode cL_law 565 = .ok (.iconst 1, 1) := by decide +kernel
theorem dL_law_566 : decode cL_law 566 = .ok (.goto 4, 3) := by decide +kernel
theorem dL_law_569 : decode cL_law 569 = .ok (.iconst 0, 1) := by decide +kernel
theorem dL_law_570 : decode cL_law 570 = .ok (.invokevirtual 76, 3) := by decide +kernel
theorem dL_law_573 : decode cL_law 573 = .ok (.if_icmp .eq 245, 3) := by decide +kernel
theorem dL_law_576 : decode cL_law 576 = .ok (.iconst 0, 1) := by decide +kernel
theorem dL_law_577 : decode cL_law 577 = .ok (.ireturn, 1) := by decide +kernel
theorem dL_law_578 : decode cL_law 578 = .ok (.aload_n 1, 1) := by decide +kernel
theorem dL_law_579 : decode cL_law 579 = .ok (.invokevirtual 77, 3) := by decide +kernel
theorem dL_law_582 : decode cL_law 582 = .ok (.aload_n 2, 1) := by decide +kernel
theorem dL_law_583 : decode cL_law 583 = .ok (.invokevirtual 80, 3) := by decide +kernel
theorem dL_law_586 : decode cL_law 586 = .ok (.if_icmp .eq 232, 3) := by decide +kernel
theorem dL_law_589 : decode cL_law 589 = .ok (.iconst 0, 1) := by decide +kernel
theorem dL_law_590 : decode cL_law 590 = .ok (.ireturn, 1) := by decide +kernel
theorem dL_law_591 : decode cL_law 591 = .ok (.aload_n 1, 1) := by decide +kernel
theorem dL_law_592 : decode cL_law 592 = .ok (.invokevirtual 81, 3) := by decide +kernel
theorem dL_law_595 : decode cL_law 595 = .ok (.aload_n 2, 1) := by decide +kernel
theorem dL_law_596 : decode cL_law 596 = .ok (.invokevirtual 84, 3) := by decide +kernel
theorem dL_law_599 : decode cL_law 599 = .ok (.if_icmp .eq 219, 3) := by decide +kernel
theorem dL_law_602 : decode cL_law 602 = .ok (.iconst 0, 1) := by decide +kernel
theorem dL_law_603 : decode cL_law 603 = .ok (.ireturn, 1) := by decide +kernel
theorem dL_law_604 : decode cL_law 604 = .ok (.aload_n 1, 1) := by decide +kernel
theorem dL_law_605 : decode cL_law 605 = .ok (.aload_n 0, 1) := by decide +kernel
theorem dL_law_606 : decode cL_law 606 = .ok (.iload_n 3, 1) := by decide +kernel
theorem dL_law_607 : decode cL_law 607 = .ok (.iconst 1, 1) := by decide +kernel
theorem dL_law_608 : decode cL_law 608 = .ok (.iadd, 1) := by decide +kernel
theorem dL_law_609 : decode cL_law 609 = .ok (.iaload, 1) := by decide +kernel
theorem dL_law_610 : decode cL_law 610 = .ok (.invokevirtual 85, 3) := by decide +kernel
theorem dL_law_613 : decode cL_law 613 = .ok (.aload_n 2, 1) := by decide +kernel
theorem dL_law_614 : decode cL_law 614 = .ok (.aload_n 0, 1) := by decide +kernel
theorem dL_law_615 : decode cL_law 615 = .ok (.iload_n 3, 1) := by decide +kernel
theorem dL_law_616 : decode cL_law 616 = .ok (.iconst 1, 1) := by decide +kernel
theorem dL_law_617 : decode cL_law 617 = .ok (.iadd, 1) := by decide +kernel
theorem dL_law_618 : decode cL_law 618 = .ok (.iaload, 1) := by decide +kernel
theorem dL_law_619 : decode cL_law 619 = .ok (.invokevirtual 88, 3) := by decide +kernel
theorem dL_law_622 : decode cL_law 622 = .ok (.if_icmp .eq 196, 3) := by decide +kernel
theorem dL_law_625 : decode cL_law 625 = .ok (.iconst 0, 1) := by decide +kernel
theorem dL_law_626 : decode cL_law 626 = .ok (.ireturn, 1) := by decide +kernel
theorem dL_law_627 : decode cL_law 627 = .ok (.aload_n 1, 1) := by decide +kernel
theorem dL_law_628 : decode cL_law 628 = .ok (.invokevirtual 89, 3) := by decide +kernel
theorem dL_law_631 : decode cL_law 631 = .ok (.aload_n 2, 1) := by decide +kernel
theorem dL_law_632 : decode cL_law 632 = .ok (.invokevirtual 92, 3) := by decide +kernel
theorem dL_law_635 : decode cL_law 635 = .ok (.if_icmp .eq 183, 3) := by decide +kernel
theorem dL_law_638 : decode cL_law 638 = .ok (.iconst 0, 1) := by decide +kernel
theorem dL_law_639 : decode cL_law 639 = .ok (.ireturn, 1) := by decide +kernel
theorem dL_law_640 : decode cL_law 640 = .ok (.aload_n 1, 1) := by decide +kernel
theorem dL_law_641 : decode cL_law 641 = .ok (.aload_n 0, 1) := by decide +kernel
theorem dL_law_642 : decode cL_law 642 = .ok (.iload_n 3, 1) := by decide +kernel
theorem dL_law_643 : decode cL_law 643 = .ok (.iconst 1, 1) := by decide +kernel
theorem dL_law_644 : decode cL_law 644 = .ok (.iadd, 1) := by decide +kernel
theorem dL_law_645 : decode cL_law 645 = .ok (.iaload, 1) := by decide +kernel
theorem dL_law_646 : decode cL_law 646 = .ok (.aload_n 0, 1) := by decide +kernel
theorem dL_law_647 : decode cL_law 647 = .ok (.iload_n 3, 1) := by decide +kernel
theorem dL_law_648 : decode cL_law 648 = .ok (.iconst 2, 1) := by decide +kernel
theorem dL_law_649 : decode cL_law 649 = .ok (.iadd, 1) := by decide +kernel
theorem dL_law_650 : decode cL_law 650 = .ok (.iaload, 1) := by decide +kernel
theorem dL_law_651 : decode cL_law 651 = .ok (.invokevirtual 93, 3) := by decide +kernel
theorem dL_law_654 : decode cL_law 654 = .ok (.aload_n 2, 1) := by decide +kernel
theorem dL_law_655 : decode cL_law 655 = .ok (.aload_n 0, 1) := by decide +kernel
theorem dL_law_656 : decode cL_law 656 = .ok (.iload_n 3, 1) := by decide +kernel
theorem dL_law_657 : decode cL_law 657 = .ok (.iconst 1, 1) := by decide +kernel
theorem dL_law_658 : decode cL_law 658 = .ok (.iadd, 1) := by decide +kernel
theorem dL_law_659 : decode cL_law 659 = .ok (.iaload, 1) := by decide +kernel
theorem dL_law_660 : decode cL_law 660 = .ok (.aload_n 0, 1) := by decide +kernel
theorem dL_law_661 : decode cL_law 661 = .ok (.iload_n 3, 1) := by decide +kernel
theorem dL_law_662 : decode cL_law 662 = .ok (.iconst 2, 1) := by decide +kernel
theorem dL_law_663 : decode cL_law 663 = .ok (.iadd, 1) := by decide +kernel
theorem dL_law_664 : decode cL_law 664 = .ok (.iaload, 1) := by decide +kernel
theorem dL_law_665 : decode cL_law 665 = .ok (.invokevirtual 96, 3) := by decide +kernel
theorem dL_law_668 : decode cL_law 668 = .ok (.if_icmp .eq 150, 3) := by decide +kernel
theorem dL_law_671 : decode cL_law 671 = .ok (.iconst 0, 1) := by decide +kernel
theorem dL_law_672 : decode cL_law 672 = .ok (.ireturn, 1) := by decide +kernel
theorem dL_law_673 : decode cL_law 673 = .ok (.aload_n 1, 1) := by decide +kernel
theorem dL_law_674 : decode cL_law 674 = .ok (.aload_n 0, 1) := by decide +kernel
theorem dL_law_675 : decode cL_law 675 = .ok (.iload_n 3, 1) := by decide +kernel
theorem dL_law_676 : decode cL_law 676 = .ok (.iconst 1, 1) := by decide +kernel
theorem dL_law_677 : decode cL_law 677 = .ok (.iadd, 1) := by decide +kernel
theorem dL_law_678 : decode cL_law 678 = .ok (.iaload, 1) := by decide +kernel
theorem dL_law_679 : decode cL_law 679 = .ok (.aload_n 0, 1) := by decide +kernel
theorem dL_law_680 : decode cL_law 680 = .ok (.iload_n 3, 1) := by decide +kernel
theorem dL_law_681 : decode cL_law 681 = .ok (.iconst 2, 1) := by decide +kernel
theorem dL_law_682 : decode cL_law 682 = .ok (.iadd, 1) := by decide +kernel
theorem dL_law_683 : decode cL_law 683 = .ok (.iaload, 1) := by decide +kernel
theorem dL_law_684 : decode cL_law 684 = .ok (.aload_n 0, 1) := by decide +kernel
theorem dL_law_685 : decode cL_law 685 = .ok (.iload_n 3, 1) := by decide +kernel
theorem dL_law_686 : decode cL_law 686 = .ok (.iconst 3, 1) := by decide +kernel
theorem dL_law_687 : decode cL_law 687 = .ok (.iadd, 1) := by decide +kernel
theorem dL_law_688 : decode cL_law 688 = .ok (.iaload, 1) := by decide +kernel
theorem dL_law_689 : decode cL_law 689 = .ok (.aload_n 0, 1) := by decide +kernel
theorem dL_law_690 : decode cL_law 690 = .ok (.iload_n 3, 1) := by decide +kernel
theorem dL_law_691 : decode cL_law 691 = .ok (.iconst 4, 1) := by decide +kernel
theorem dL_law_692 : decode cL_law 692 = .ok (.iadd, 1) := by decide +kernel
theorem dL_law_693 : decode cL_law 693 = .ok (.iaload, 1) := by decide +kernel
theorem dL_law_694 : decode cL_law 694 = .ok (.invokevirtual 97, 3) := by decide +kernel
theorem dL_law_697 : decode cL_law 697 = .ok (.aload_n 2, 1) := by decide +kernel
theorem dL_law_698 : decode cL_law 698 = .ok (.aload_n 0, 1) := by decide +kernel
theorem dL_law_699 : decode cL_law 699 = .ok (.iload_n 3, 1) := by decide +kernel
theorem dL_law_700 : decode cL_law 700 = .ok (.iconst 1, 1) := by decide +kernel
theorem dL_law_701 : decode cL_law 701 = .ok (.iadd, 1) := by decide +kernel
theorem dL_law_702 : decode cL_law 702 = .ok (.iaload, 1) := by decide +kernel
theorem dL_law_703 : decode cL_law 703 = .ok (.aload_n 0, 1) := by decide +kernel
theorem dL_law_704 : decode cL_law 704 = .ok (.iload_n 3, 1) := by decide +kernel
theorem dL_law_705 : decode cL_law 705 = .ok (.iconst 2, 1) := by decide +kernel
theorem dL_law_706 : decode cL_law 706 = .ok (.iadd, 1) := by decide +kernel
theorem dL_law_707 : decode cL_law 707 = .ok (.iaload, 1) := by decide +kernel
theorem dL_law_708 : decode cL_law 708 = .ok (.aload_n 0, 1) := by decide +kernel
theorem dL_law_709 : decode cL_law 709 = .ok (.iload_n 3, 1) := by decide +kernel
theorem dL_law_710 : decode cL_law 710 = .ok (.iconst 3, 1) := by decide +kernel
theorem dL_law_711 : decode cL_law 711 = .ok (.iadd, 1) := by decide +kernel
theorem dL_law_712 : decode cL_law 712 = .ok (.iaload, 1) := by decide +kernel
theorem dL_law_713 : decode cL_law 713 = .ok (.aload_n 0, 1) := by decide +kernel
theorem dL_law_714 : decode cL_law 714 = .ok (.iload_n 3, 1) := by decide +kernel
theorem dL_law_715 : decode cL_law 715 = .ok (.iconst 4, 1) := by decide +kernel
theorem dL_law_716 : decode cL_law 716 = .ok (.iadd, 1) := by decide +kernel
theorem dL_law_717 : decode cL_law 717 = .ok (.iaload, 1) := by decide +kernel
theorem dL_law_718 : decode cL_law 718 = .ok (.invokevirtual 101, 3) := by decide +kernel
theorem dL_law_721 : decode cL_law 721 = .ok (.if_icmp .eq 97, 3) := by decide +kernel
theorem dL_law_724 : decode cL_law 724 = .ok (.iconst 0, 1) := by decide +kernel
theorem dL_law_725 : decode cL_law 725 = .ok (.ireturn, 1) := by decide +kernel
theorem dL_law_726 : decode cL_law 726 = .ok (.aload_n 1, 1) := by decide +kernel
theorem dL_law_727 : decode cL_law 727 = .ok (.aload_n 0, 1) := by decide +kernel
theorem dL_law_728 : decode cL_law 728 = .ok (.iload_n 3, 1) := by decide +kernel
theorem dL_law_729 : decode cL_law 729 = .ok (.iconst 1, 1) := by decide +kernel
theorem dL_law_730 : decode cL_law 730 = .ok (.iadd, 1) := by decide +kernel
theorem dL_law_731 : decode cL_law 731 = .ok (.iaload, 1) := by decide +kernel
theorem dL_law_732 : decode cL_law 732 = .ok (.aload_n 0, 1) := by decide +kernel
theorem dL_law_733 : decode cL_law 733 = .ok (.iload_n 3, 1) := by decide +kernel
theorem dL_law_734 : decode cL_law 734 = .ok (.iconst 2, 1) := by decide +kernel
theorem dL_law_735 : decode cL_law 735 = .ok (.iadd, 1) := by decide +kernel
theorem dL_law_736 : decode cL_law 736 = .ok (.iaload, 1) := by decide +kernel
theorem dL_law_737 : decode cL_law 737 = .ok (.aload_n 0, 1) := by decide +kernel
theorem dL_law_738 : decode cL_law 738 = .ok (.iload_n 3, 1) := by decide +kernel
theorem dL_law_739 : decode cL_law 739 = .ok (.iconst 3, 1) := by decide +kernel
theorem dL_law_740 : decode cL_law 740 = .ok (.iadd, 1) := by decide +kernel
theorem dL_law_741 : decode cL_law 741 = .ok (.iaload, 1) := by decide +kernel
theorem dL_law_742 : decode cL_law 742 = .ok (.invokevirtual 102, 3) := by decide +kernel
theorem dL_law_745 : decode cL_law 745 = .ok (.aload_n 2, 1) := by decide +kernel
theorem dL_law_746 : decode cL_law 746 = .ok (.aload_n 0, 1) := by decide +kernel
theorem dL_law_747 : decode cL_law 747 = .ok (.iload_n 3, 1) := by decide +kernel
theorem dL_law_748 : decode cL_law 748 = .ok (.iconst 1, 1) := by decide +kernel
theorem dL_law_749 : decode cL_law 749 = .ok (.iadd, 1) := by decide +kernel
theorem dL_law_750 : decode cL_law 750 = .ok (.iaload, 1) := by decide +kernel
theorem dL_law_751 : decode cL_law 751 = .ok (.aload_n 0, 1) := by decide +kernel
theorem dL_law_752 : decode cL_law 752 = .ok (.iload_n 3, 1) := by decide +kernel
theorem dL_law_753 : decode cL_law 753 = .ok (.iconst 2, 1) := by decide +kernel
theorem dL_law_754 : decode cL_law 754 = .ok (.iadd, 1) := by decide +kernel
theorem dL_law_755 : decode cL_law 755 = .ok (.iaload, 1) := by decide +kernel
theorem dL_law_756 : decode cL_law 756 = .ok (.aload_n 0, 1) := by decide +kernel
theorem dL_law_757 : decode cL_law 757 = .ok (.iload_n 3, 1) := by decide +kernel
theorem dL_law_758 : decode cL_law 758 = .ok (.iconst 3, 1) := by decide +kernel
theorem dL_law_759 : decode cL_law 759 = .ok (.iadd, 1) := by decide +kernel
theorem dL_law_760 : decode cL_law 760 = .ok (.iaload, 1) := by decide +kernel
theorem dL_law_761 : decode cL_law 761 = .ok (.invokevirtual 106, 3) := by decide +kernel
theorem dL_law_764 : decode cL_law 764 = .ok (.if_icmp .eq 54, 3) := by decide +kernel
theorem dL_law_767 : decode cL_law 767 = .ok (.iconst 0, 1) := by decide +kernel
theorem dL_law_768 : decode cL_law 768 = .ok (.ireturn, 1) := by decide +kernel
theorem dL_law_769 : decode cL_law 769 = .ok (.aload_n 1, 1) := by decide +kernel
theorem dL_law_770 : decode cL_law 770 = .ok (.invokevirtual 107, 3) := by decide +kernel
theorem dL_law_773 : decode cL_law 773 = .ok (.aload_n 2, 1) := by decide +kernel
theorem dL_law_774 : decode cL_law 774 = .ok (.invokevirtual 110, 3) := by decide +kernel
theorem dL_law_777 : decode cL_law 777 = .ok (.if_icmp .eq 41, 3) := by decide +kernel
theorem dL_law_780 : decode cL_law 780 = .ok (.iconst 0, 1) := by decide +kernel
theorem dL_law_781 : decode cL_law 781 = .ok (.ireturn, 1) := by decide +kernel
theorem dL_law_782 : decode cL_law 782 = .ok (.aload_n 1, 1) := by decide +kernel
theorem dL_law_783 : decode cL_law 783 = .ok (.invokevirtual 111, 3) := by decide +kernel
theorem dL_law_786 : decode cL_law 786 = .ok (.aload_n 2, 1) := by decide +kernel
theorem dL_law_787 : decode cL_law 787 = .ok (.invokevirtual 114, 3) := by decide +kernel
theorem dL_law_790 : decode cL_law 790 = .ok (.if_icmp .eq 28, 3) := by decide +kernel
theorem dL_law_793 : decode cL_law 793 = .ok (.iconst 0, 1) := by decide +kernel
theorem dL_law_794 : decode cL_law 794 = .ok (.ireturn, 1) := by decide +kernel
theorem dL_law_795 : decode cL_law 795 = .ok (.aload_n 1, 1) := by decide +kernel
theorem dL_law_796 : decode cL_law 796 = .ok (.aload_n 0, 1) := by decide +kernel
theorem dL_law_797 : decode cL_law 797 = .ok (.iload_n 3, 1) := by decide +kernel
theorem dL_law_798 : decode cL_law 798 = .ok (.iconst 1, 1) := by decide +kernel
theorem dL_law_799 : decode cL_law 799 = .ok (.iadd, 1) := by decide +kernel
theorem dL_law_800 : decode cL_law 800 = .ok (.iaload, 1) := by decide +kernel
theorem dL_law_801 : decode cL_law 801 = .ok (.invokevirtual 115, 3) := by decide +kernel
theorem dL_law_804 : decode cL_law 804 = .ok (.aload_n 2, 1) := by decide +kernel
theorem dL_law_805 : decode cL_law 805 = .ok (.aload_n 0, 1) := by decide +kernel
theorem dL_law_806 : decode cL_law 806 = .ok (.iload_n 3, 1) := by decide +kernel
theorem dL_law_807 : decode cL_law 807 = .ok (.iconst 1, 1) := by decide +kernel
theorem dL_law_808 : decode cL_law 808 = .ok (.iadd, 1) := by decide +kernel
theorem dL_law_809 : decode cL_law 809 = .ok (.iaload, 1) := by decide +kernel
theorem dL_law_810 : decode cL_law 810 = .ok (.invokevirtual 118, 3) := by decide +kernel
theorem dL_law_813 : decode cL_law 813 = .ok (.if_icmp .eq 5, 3) := by decide +kernel
theorem dL_law_816 : decode cL_law 816 = .ok (.iconst 0, 1) := by decide +kernel
theorem dL_law_817 : decode cL_law 817 = .ok (.ireturn, 1) := by decide +kernel
theorem dL_law_818 : decode cL_law 818 = .ok (.iinc 3 5, 3) := by decide +kernel
theorem dL_law_821 : decode cL_law 821 = .ok (.goto (-803), 3) := by decide +kernel
theorem dL_law_824 : decode cL_law 824 = .ok (.iconst 1, 1) := by decide +kernel
theorem dL_law_825 : decode cL_law 825 = .ok (.ireturn, 1) := by decide +kernel
