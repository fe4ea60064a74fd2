set_option maxRecDepth 20000 in
theorem ggX0_init_X3_init : GoodIn wsX0_init wsX3_init := goodIn_r _ [12, 13, 2, 3, 8, 14, 15, 16, 17, 18, 19, 20] (by decide +kernel) (by decide +kernel)
set_option maxRecDepth 20000 in
theorem gX0_init_X3_init : GoodIn wsX0_init (wsX3_init) := ggX0_init_X3_init
theorem dX0_init_0 : decode cX0_init 0 = .ok (.aload_n 0, 1) := by decide +kernel
theorem dX0_init_1 : decode cX0_init 1 = .ok (.invokespecial 5, 3) := by decide +kernel
theorem dX0_init_4 : decode cX0_init 4 = .ok (.aload_n 0, 1) := by decide +kernel
theorem dX0_init_5 : decode cX0_init 5 = .ok (.new 11, 3) := by decide +kernel
theorem dX0_init_8 : decode cX0_init 8 = .ok (.dup, 1) := by decide +kernel
theorem dX0_init_9 : decode cX0_init 9 = .ok (.sipush 3500, 3) := by decide +kernel
theorem dX0_init_12 : decode cX0_init 12 = .ok (.invokespecial 13, 3) := by decide +kernel
theorem dX0_init_15 : decode cX0_init 15 = .ok (.putfield 16, 3) := by decide +kernel
theorem dX0_init_18 : decode cX0_init 18 = .ok (.aload_n 0, 1) := by decide +kernel
theorem dX0_init_19 : decode cX0_init 19 = .ok (.sipush 3500, 3) := by decide +kernel
theorem dX0_init_22 : decode cX0_init 22 = .ok (.newarray .int, 2) := by decide +kernel
theorem dX0_init_24 : decode cX0_init 24 = .ok (.putfield 20, 3) := by decide +kernel
theorem dX0_init_27 : decode cX0_init 27 = .ok (.return_, 1) := by decide +kernel
set_option maxRecDepth 20000 in
theorem ggX0_start_X3_clear : GoodIn wsX0_start wsX3_clear := goodIn_r _ [6, 7, 8, 9, 10, 11, 12, 13, 14, 45, 46, 47, 48] (by decide +kernel) (by decide +kernel)
set_option maxRecDepth 20000 in
theorem gX0_start_X3_clear : GoodIn wsX0_start (wsV RX0 24 RX3 yX3_clear wsX3_clear) := goodIn_app (goodIn_of _ (by decide +kernel)) ggX0_start_X3_clear
set_option maxRecDepth 20000 in
theorem ggX0_start_X0_offer : GoodIn wsX0_start wsX0_offer := goodIn_r _ [19, 20, 1, 21, 22, 18, 23, 24, 25, 26, 27, 28, 29, 30, 31, 32, 33, 34, 35, 36, 5, 37, 7, 9, 10, 38, 39, 40, 41, 42, 43, 44, 45, 46, 47, 48] (by decide +kernel) (by decide +kernel)
set_option maxRecDepth 20000 in
theorem gX0_start_X0_offer : GoodIn wsX0_start (wsV RX0 27 RX0 yX0_offer wsX0_offer) := goodIn_app (goodIn_of _ (by decide +kernel)) ggX0_start_X0_offer
theorem dX0_start_0 : decode cX0_start 0 = .ok (.aload_n 0, 1) := by decide +kernel
theorem dX0_start_1 : decode cX0_start 1 = .ok (.getfield 16, 3) := by decide +kernel
theorem dX0_start_4 : decode cX0_start 4 = .ok (.invokevirtual 24, 3) := by decide +kernel
theorem dX0_start_7 : decode cX0_start 7 = .ok (.aload_n 0, 1) := by decide +kernel
theorem dX0_start_8 : decode cX0_start 8 = .ok (.iload_n 1, 1) := by decide +kernel
theorem dX0_start_9 : decode cX0_start 9 = .ok (.iload_n 2, 1) := by decide +kernel
theorem dX0_start_10 : decode cX0_start 10 = .ok (.iconst 0, 1) := by decide +kernel
theorem dX0_start_11 : decode cX0_start 11 = .ok (.invokevirtual 27, 3) := by decide +kernel
theorem dX0_start_14 : decode cX0_start 14 = .ok (.return_, 1) := by decide +kernel
set_option maxRecDepth 20000 in
theorem ggX0_leastTo_X3_take : GoodIn wsX0_leastTo wsX3_take := goodIn_r _ [7, 8, 9, 10, 11, 12, 13, 6, 14, 15, 16, 17, 18, 19, 84, 85, 86, 87] (by decide +kernel) (by decide +kernel)
set_option maxRecDepth 20000 in
theorem gX0_leastTo_X3_take : GoodIn wsX0_leastTo (wsV RX0 31 RX3 yX3_take wsX3_take) := goodIn_app (goodIn_of _ (by decide +kernel)) ggX0_leastTo_X3_take
set_option maxRecDepth 20000 in
theorem ggX0_leastTo_X7_placeOf : GoodIn wsX0_leastTo wsX7_placeOf := goodIn_r _ [23] (by decide +kernel) (by decide +kernel)
set_option maxRecDepth 20000 in
theorem gX0_leastTo_X7_placeOf : GoodIn wsX0_leastTo (va_wsS RX0 37 yX7_placeOf wsX7_placeOf) := goodIn_app (goodIn_of _ (by decide +kernel)) ggX0_leastTo_X7_placeOf
set_option maxRecDepth 20000 in
theorem ggX0_leastTo_X3_costOf : GoodIn wsX0_leastTo wsX3_costOf := goodIn_r _ [27, 15, 84, 85, 86, 87] (by decide +kernel) (by decide +kernel)
set_option maxRecDepth 20000 in
theorem gX0_leastTo_X3_costOf : GoodIn wsX0_leastTo (wsV RX0 41 RX3 yX3_costOf wsX3_costOf) := goodIn_app (goodIn_of _ (by decide +kernel)) ggX0_leastTo_X3_costOf
set_option maxRecDepth 20000 in
theorem ggX0_leastTo_X0_offerNext : GoodIn wsX0_leastTo wsX0_offerNext := goodIn_r _ [32, 2, 33, 34, 1, 35, 36, 37, 38, 39, 40, 41, 42, 43, 44, 21, 22, 23, 45, 46, 47, 48, 49, 50, 51, 52, 53, 54, 55, 56, 57, 58, 59, 60, 61, 62, 63, 64, 65, 66, 67, 68, 24, 25, 26, 6, 27, 15, 69, 70, 71, 31, 72, 73, 74, 75, 20, 76, 77, 78, 79, 80, 81, 10, 8, 9, 16, 17, 18, 19, 82, 83, 88, 89, 90, 91, 92, 93, 94, 95, 96, 97, 84, 85, 86, 87] (by decide +kernel) (by decide +kernel)
set_option maxRecDepth 20000 in
theorem gX0_leastTo_X0_offerNext : GoodIn wsX0_leastTo (wsV RX0 44 RX0 yX0_offerNext wsX0_offerNext) := goodIn_app (goodIn_of _ (by decide +kernel)) ggX0_leastTo_X0_offerNext
theorem dX0_leastTo_0 : decode cX0_leastTo 0 = .ok (.iconst 0, 1) := by decide +kernel
theorem dX0_leastTo_1 : decode cX0_leastTo 1 = .ok (.istore 5, 2) := by decide +kernel
theorem dX0_leastTo_3 : decode cX0_leastTo 3 = .ok (.iload 5, 2) := by decide +kernel
theorem dX0_leastTo_5 : decode cX0_leastTo 5 = .ok (.sipush 3500, 3) := by decide +kernel
theorem dX0_leastTo_8 : decode cX0_leastTo 8 = .ok (.if_icmp .ge 64, 3) := by decide +kernel
theorem dX0_leastTo_11 : decode cX0_leastTo 11 = .ok (.aload_n 0, 1) := by decide +kernel
theorem dX0_leastTo_12 : decode cX0_leastTo 12 = .ok (.getfield 16, 3) := by decide +kernel
theorem dX0_leastTo_15 : decode cX0_leastTo 15 = .ok (.invokevirtual 31, 3) := by decide +kernel
theorem dX0_leastTo_18 : decode cX0_leastTo 18 = .ok (.istore 6, 2) := by decide +kernel
theorem dX0_leastTo_20 : decode cX0_leastTo 20 = .ok (.iload 6, 2) := by decide +kernel
theorem dX0_leastTo_22 : decode cX0_leastTo 22 = .ok (.iconst (-1), 1) := by decide +kernel
theorem dX0_leastTo_23 : decode cX0_leastTo 23 = .ok (.if_icmp .ne 5, 3) := by decide +kernel
theorem dX0_leastTo_26 : decode cX0_leastTo 26 = .ok (.iconst (-1), 1) := by decide +kernel
theorem dX0_leastTo_27 : decode cX0_leastTo 27 = .ok (.ireturn, 1) := by decide +kernel
theorem dX0_leastTo_28 : decode cX0_leastTo 28 = .ok (.aload_n 0, 1) := by decide +kernel
theorem dX0_leastTo_29 : decode cX0_leastTo 29 = .ok (.getfield 20, 3) := by decide +kernel
theorem dX0_leastTo_32 : decode cX0_leastTo 32 = .ok (.iload 6, 2) := by decide +kernel
theorem dX0_leastTo_34 : decode cX0_leastTo 34 = .ok (.iaload, 1) := by decide +kernel
theorem dX0_leastTo_35 : decode cX0_leastTo 35 = .ok (.sipush 896, 3) := by decide +kernel
theorem dX0_leastTo_38 : decode cX0_leastTo 38 = .ok (.idiv, 1) := by decide +kernel
theorem dX0_leastTo_39 : decode cX0_leastTo 39 = .ok (.invokestatic 37, 3) := by decide +kernel
theorem dX0_leastTo_42 : decode cX0_leastTo 42 = .ok (.iload 4, 2) := by decide +kernel
theorem dX0_leastTo_44 : decode cX0_leastTo 44 = .ok (.if_icmp .ne 13, 3) := by decide +kernel
theorem dX0_leastTo_47 : decode cX0_leastTo 47 = .ok (.aload_n 0, 1) := by decide +kernel
theorem dX0_leastTo_48 : decode cX0_leastTo 48 = .ok (.getfield 16, 3) := by decide +kernel
theorem dX0_leastTo_51 : decode cX0_leastTo 51 = .ok (.iload 6, 2) := by decide +kernel
theorem dX0_leastTo_53 : decode cX0_leastTo 53 = .ok (.invokevirtual 41, 3) := by decide +kernel
theorem dX0_leastTo_56 : decode cX0_leastTo 56 = .ok (.ireturn, 1) := by decide +kernel
theorem dX0_leastTo_57 : decode cX0_leastTo 57 = .ok (.aload_n 0, 1) := by decide +kernel
theorem dX0_leastTo_58 : decode cX0_leastTo 58 = .ok (.aload_n 1, 1) := by decide +kernel
theorem dX0_leastTo_59 : decode cX0_leastTo 59 = .ok (.aload_n 2, 1) := by decide +kernel
theorem dX0_leastTo_60 : decode cX0_leastTo 60 = .ok (.aload_n 3, 1) := by decide +kernel
theorem dX0_leastTo_61 : decode cX0_leastTo 61 = .ok (.iload 6, 2) := by decide +kernel
theorem dX0_leastTo_63 : decode cX0_leastTo 63 = .ok (.invokevirtual 44, 3) := by decide +kernel
theorem dX0_leastTo_66 : decode cX0_leastTo 66 = .ok (.iinc 5 1, 3) := by decide +kernel
theorem dX0_leastTo_69 : decode cX0_leastTo 69 = .ok (.goto (-66), 3) := by decide +kernel
theorem dX0_leastTo_72 : decode cX0_leastTo 72 = .ok (.iconst (-1), 1) := by decide +kernel
theorem dX0_leastTo_73 : decode cX0_leastTo 73 = .ok (.ireturn, 1) := by decide +kernel
set_option maxRecDepth 20000 in
theorem ggX0_offerNext_X8_behind : GoodIn wsX0_offerNext wsX8_behind := goodIn_r _ [10, 11, 12, 13, 14, 15, 16, 17, 18, 19, 20, 9, 21, 22, 23, 24, 25, 26, 27, 28, 29, 30, 31, 32, 33, 34, 35, 36, 37, 38, 39, 40, 41, 72, 73, 74, 75, 76, 77, 78, 79] (by decide +kernel) (by decide +kernel)
set_option maxRecDepth 20000 in
theorem gX0_offerNext_X8_behind : GoodIn wsX0_offerNext (wsV RX0 59 RX8 yX8_behind wsX8_behind) := goodIn_app (goodIn_of _ (by decide +kernel)) ggX0_offerNext_X8_behind
set_option maxRecDepth 20000 in
theorem ggX0_offerNext_X3_costOf : GoodIn wsX0_offerNext wsX3_costOf := goodIn_r _ [46, 47, 82, 83, 84, 85] (by decide +kernel) (by decide +kernel)
set_option maxRecDepth 20000 in
theorem gX0_offerNext_X3_costOf : GoodIn wsX0_offerNext (wsV RX0 41 RX3 yX3_costOf wsX3_costOf) := goodIn_app (goodIn_of _ (by decide +kernel)) ggX0_offerNext_X3_costOf
set_option maxRecDepth 20000 in
theorem ggX0_offerNext_X0_offer : GoodIn wsX0_offerNext wsX0_offer := goodIn_r _ [52, 1, 4, 53, 54, 51, 55, 56, 15, 16, 17, 57, 23, 24, 58, 35, 36, 59, 60, 61, 45, 62, 47, 63, 64, 65, 66, 67, 68, 69, 70, 71, 82, 83, 84, 85] (by decide +kernel) (by decide +kernel)
set_option maxRecDepth 20000 in
theorem gX0_offerNext_X0_offer : GoodIn wsX0_offerNext (wsV RX0 27 RX0 yX0_offer wsX0_offer) := goodIn_app (goodIn_of _ (by decide +kernel)) ggX0_offerNext_X0_offer
theorem dX0_offerNext_0 : decode cX0_offerNext 0 = .ok (.aload_n 0, 1) := by decide +kernel
theorem dX0_offerNext_1 : decode cX0_offerNext 1 = .ok (.getfield 20, 3) := by decide +kernel
theorem dX0_offerNext_4 : decode cX0_offerNext 4 = .ok (.iload 4, 2) := by decide +kernel
theorem dX0_offerNext_6 : decode cX0_offerNext 6 = .ok (.iaload, 1) := by decide +kernel
theorem dX0_offerNext_7 : decode cX0_offerNext 7 = .ok (.sipush 896, 3) := by decide +kernel
theorem dX0_offerNext_10 : decode cX0_offerNext 10 = .ok (.idiv, 1) := by decide +kernel
theorem dX0_offerNext_11 : decode cX0_offerNext 11 = .ok (.istore 5, 2) := by decide +kernel
theorem dX0_offerNext_13 : decode cX0_offerNext 13 = .ok (.aload_n 0, 1) := by decide +kernel
theorem dX0_offerNext_14 : decode cX0_offerNext 14 = .ok (.getfield 20, 3) := by decide +kernel
theorem dX0_offerNext_17 : decode cX0_offerNext 17 = .ok (.iload 4, 2) := by decide +kernel
theorem dX0_offerNext_19 : decode cX0_offerNext 19 = .ok (.iaload, 1) := by decide +kernel
theorem dX0_offerNext_20 : decode cX0_offerNext 20 = .ok (.sipush 896, 3) := by decide +kernel
theorem dX0_offerNext_23 : decode cX0_offerNext 23 = .ok (.irem, 1) := by decide +kernel
theorem dX0_offerNext_24 : decode cX0_offerNext 24 = .ok (.istore 6, 2) := by decide +kernel
theorem dX0_offerNext_26 : decode cX0_offerNext 26 = .ok (.iconst 0, 1) := by decide +kernel
theorem dX0_offerNext_27 : decode cX0_offerNext 27 = .ok (.istore 7, 2) := by decide +kernel
theorem dX0_offerNext_29 : decode cX0_offerNext 29 = .ok (.iload 7, 2) := by decide +kernel
theorem dX0_offerNext_31 : decode cX0_offerNext 31 = .ok (.aload_n 1, 1) := by decide +kernel
theorem dX0_offerNext_32 : decode cX0_offerNext 32 = .ok (.getfield 48, 3) := by decide +kernel
theorem dX0_offerNext_35 : decode cX0_offerNext 35 = .ok (.if_icmp .ge 92, 3) := by decide +kernel
theorem dX0_offerNext_38 : decode cX0_offerNext 38 = .ok (.aload_n 1, 1) := by decide +kernel
theorem dX0_offerNext_39 : decode cX0_offerNext 39 = .ok (.iload 5, 2) := by decide +kernel
theorem dX0_offerNext_41 : decode cX0_offerNext 41 = .ok (.iload 7, 2) := by decide +kernel
theorem dX0_offerNext_43 : decode cX0_offerNext 43 = .ok (.aload_n 2, 1) := by decide +kernel
theorem dX0_offerNext_44 : decode cX0_offerNext 44 = .ok (.getfield 54, 3) := by decide +kernel
theorem dX0_offerNext_47 : decode cX0_offerNext 47 = .ok (.iload 7, 2) := by decide +kernel
theorem dX0_offerNext_49 : decode cX0_offerNext 49 = .ok (.iaload, 1) := by decide +kernel
theorem dX0_offerNext_50 : decode cX0_offerNext 50 = .ok (.invokevirtual 59, 3) := by decide +kernel
theorem dX0_offerNext_53 : decode cX0_offerNext 53 = .ok (.istore 8, 2) := by decide +kernel
theorem dX0_offerNext_55 : decode cX0_offerNext 55 = .ok (.iload 8, 2) := by decide +kernel
theorem dX0_offerNext_57 : decode cX0_offerNext 57 = .ok (.iconst (-1), 1) := by decide +kernel
theorem dX0_offerNext_58 : decode cX0_offerNext 58 = .ok (.if_icmp .ne 7, 3) := by decide +kernel
theorem dX0_offerNext_61 : decode cX0_offerNext 61 = .ok (.iconst (-1), 1) := by decide +kernel
theorem dX0_offerNext_62 : decode cX0_offerNext 62 = .ok (.goto 18, 3) := by decide +kernel
theorem dX0_offerNext_65 : decode cX0_offerNext 65 = .ok (.aload_n 1, 1) := by decide +kernel
theorem dX0_offerNext_66 : decode cX0_offerNext 66 = .ok (.iload 6, 2) := by decide +kernel
theorem dX0_offerNext_68 : decode cX0_offerNext 68 = .ok (.iload 7, 2) := by decide +kernel
theorem dX0_offerNext_70 : decode cX0_offerNext 70 = .ok (.aload_n 3, 1) := by decide +kernel
theorem dX0_offerNext_71 : decode cX0_offerNext 71 = .ok (.getfield 54, 3) := by decide +kernel
theorem dX0_offerNext_74 : decode cX0_offerNext 74 = .ok (.iload 7, 2) := by decide +kernel
theorem dX0_offerNext_76 : decode cX0_offerNext 76 = .ok (.iaload, 1) := by decide +kernel
theorem dX0_offerNext_77 : decode cX0_offerNext 77 = .ok (.invokevirtual 59, 3) := by decide +kernel
theorem dX0_offerNext_80 : decode cX0_offerNext 80 = .ok (.istore 9, 2) := by decide +kernel
theorem dX0_offerNext_82 : decode cX0_offerNext 82 = .ok (.iload 9, 2) := by decide +kernel
theorem dX0_offerNext_84 : decode cX0_offerNext 84 = .ok (.iconst (-1), 1) := by decide +kernel
theorem dX0_offerNext_85 : decode cX0_offerNext 85 = .ok (.if_icmp .eq 36, 3) := by decide +kernel
theorem dX0_offerNext_88 : decode cX0_offerNext 88 = .ok (.aload_n 0, 1) := by decide +kernel
theorem dX0_offerNext_89 : decode cX0_offerNext 89 = .ok (.iload 8, 2) := by decide +kernel
theorem dX0_offerNext_91 : decode cX0_offerNext 91 = .ok (.iload 9, 2) := by decide +kernel
theorem dX0_offerNext_93 : decode cX0_offerNext 93 = .ok (.aload_n 0, 1) := by decide +kernel
theorem dX0_offerNext_94 : decode cX0_offerNext 94 = .ok (.getfield 16, 3) := by decide +kernel
theorem dX0_offerNext_97 : decode cX0_offerNext 97 = .ok (.iload 4, 2) := by decide +kernel
theorem dX0_offerNext_99 : decode cX0_offerNext 99 = .ok (.invokevirtual 41, 3) := by decide +kernel
theorem dX0_offerNext_102 : decode cX0_offerNext 102 = .ok (.aload_n 2, 1) := by decide +kernel
theorem dX0_offerNext_103 : decode cX0_offerNext 103 = .ok (.getfield 63, 3) := by decide +kernel
theorem dX0_offerNext_106 : decode cX0_offerNext 106 = .ok (.iload 7, 2) := by decide +kernel
theorem dX0_offerNext_108 : decode cX0_offerNext 108 = .ok (.iaload, 1) := by decide +kernel
theorem dX0_offerNext_109 : decode cX0_offerNext 109 = .ok (.iadd, 1) := by decide +kernel
theorem dX0_offerNext_110 : decode cX0_offerNext 110 = .ok (.aload_n 3, 1) := by decide +kernel
theorem dX0_offerNext_111 : decode cX0_offerNext 111 = .ok (.getfield 63, 3) := by decide +kernel
theorem dX0_offerNext_114 : decode cX0_offerNext 114 = .ok (.iload 7, 2) := by decide +kernel
theorem dX0_offerNext_116 : decode cX0_offerNext 116 = .ok (.iaload, 1) := by decide +kernel
theorem dX0_offerNext_117 : decode cX0_offerNext 117 = .ok (.iadd, 1) := by decide +kernel
theorem dX0_offerNext_118 : decode cX0_offerNext 118 = .ok (.invokevirtual 27, 3) := by decide +kernel
theorem dX0_offerNext_121 : decode cX0_offerNext 121 = .ok (.iinc 7 1, 3) := by decide +kernel
theorem dX0_offerNext_124 : decode cX0_offerNext 124 = .ok (.goto (-95), 3) := by decide +kernel
theorem dX0_offerNext_127 : decode cX0_offerNext 127 = .ok (.return_, 1) := by decide +kernel
set_option maxRecDepth 20000 in
theorem ggX0_offer_X0_numberOf : GoodIn wsX0_offer wsX0_numberOf := goodIn_r _ [6, 7, 8, 9, 10, 11, 12, 13, 14, 15, 16] (by decide +kernel) (by decide +kernel)
set_option maxRecDepth 20000 in
theorem gX0_offer_X0_numberOf : GoodIn wsX0_offer (va_wsS RX0 66 yX0_numberOf wsX0_numberOf) := goodIn_app (goodIn_of _ (by decide +kernel)) ggX0_offer_X0_numberOf
set_option maxRecDepth 20000 in
theorem ggX0_offer_X3_offer : GoodIn wsX0_offer wsX3_offer := goodIn_r _ [21, 22, 23, 24, 25, 26, 27, 28, 20, 29, 32, 33, 34, 35] (by decide +kernel) (by decide +kernel)
set_option maxRecDepth 20000 in
theorem gX0_offer_X3_offer : GoodIn wsX0_offer (wsV RX0 70 RX3 yX3_offer wsX3_offer) := goodIn_app (goodIn_of _ (by decide +kernel)) ggX0_offer_X3_offer
theorem dX0_offer_0 : decode cX0_offer 0 = .ok (.iload_n 1, 1) := by decide +kernel
theorem dX0_offer_1 : decode cX0_offer 1 = .ok (.iload_n 2, 1) := by decide +kernel
theorem dX0_offer_2 : decode cX0_offer 2 = .ok (.invokestatic 66, 3) := by decide +kernel
theorem dX0_offer_5 : decode cX0_offer 5 = .ok (.istore 4, 2) := by decide +kernel
theorem dX0_offer_7 : decode cX0_offer 7 = .ok (.aload_n 0, 1) := by decide +kernel
theorem dX0_offer_8 : decode cX0_offer 8 = .ok (.getfield 20, 3) := by decide +kernel
theorem dX0_offer_11 : decode cX0_offer 11 = .ok (.iload 4, 2) := by decide +kernel
theorem dX0_offer_13 : decode cX0_offer 13 = .ok (.iload_n 1, 1) := by decide +kernel
theorem dX0_offer_14 : decode cX0_offer 14 = .ok (.sipush 896, 3) := by decide +kernel
theorem dX0_offer_17 : decode cX0_offer 17 = .ok (.imul, 1) := by decide +kernel
theorem dX0_offer_18 : decode cX0_offer 18 = .ok (.iload_n 2, 1) := by decide +kernel
theorem dX0_offer_19 : decode cX0_offer 19 = .ok (.iadd, 1) := by decide +kernel
theorem dX0_offer_20 : decode cX0_offer 20 = .ok (.iastore, 1) := by decide +kernel
theorem dX0_offer_21 : decode cX0_offer 21 = .ok (.aload_n 0, 1) := by decide +kernel
theorem dX0_offer_22 : decode cX0_offer 22 = .ok (.getfield 16, 3) := by decide +kernel
theorem dX0_offer_25 : decode cX0_offer 25 = .ok (.iload 4, 2) := by decide +kernel
theorem dX0_offer_27 : decode cX0_offer 27 = .ok (.iload_n 3, 1) := by decide +kernel
theorem dX0_offer_28 : decode cX0_offer 28 = .ok (.invokevirtual 70, 3) := by decide +kernel
theorem dX0_offer_31 : decode cX0_offer 31 = .ok (.return_, 1) := by decide +kernel
set_option maxRecDepth 20000 in
theorem ggX0_numberOf_X7_placeOf : GoodIn wsX0_numberOf wsX7_placeOf := goodIn_r _ [4] (by decide +kernel) (by decide +kernel)
set_option maxRecDepth 20000 in
theorem gX0_numberOf_X7_placeOf : GoodIn wsX0_numberOf (va_wsS RX0 37 yX7_placeOf wsX7_placeOf) := goodIn_app (goodIn_of _ (by decide +kernel)) ggX0_numberOf_X7_placeOf
set_option maxRecDepth 20000 in
theorem ggX0_numberOf_X7_footOf : GoodIn wsX0_numberOf wsX7_footOf := goodIn_r _ [7] (by decide +kernel) (by decide +kernel)
set_option maxRecDepth 20000 in
theorem gX0_numberOf_X7_footOf : GoodIn wsX0_numberOf (va_wsS RX0 73 yX7_footOf wsX7_footOf) := goodIn_app (goodIn_of _ (by decide +kernel)) ggX0_numberOf_X7_footOf
set_option maxRecDepth 20000 in
theorem ggX0_numberOf_X7_markOf : GoodIn wsX0_numberOf wsX7_markOf := goodIn_r _ [10] (by decide +kernel) (by decide +kernel)
set_option maxRecDepth 20000 in
theorem gX0_numberOf_X7_markOf : GoodIn wsX0_numberOf (va_wsS RX0 76 yX7_markOf wsX7_markOf) := goodIn_app (goodIn_of _ (by decide +kernel)) ggX0_numberOf_X7_markOf
theorem dX0_numberOf_0 : decode cX0_numberOf 0 = .ok (.iload_n 0, 1) := by decide +kernel
theorem dX0_numberOf_1 : decode cX0_numberOf 1 = .ok (.invokestatic 37, 3) := by decide +kernel
theorem dX0_numberOf_4 : decode cX0_numberOf 4 = .ok (.iconst 4, 1) := by decide +kernel
theorem dX0_numberOf_5 : decode cX0_numberOf 5 = .ok (.imul, 1) := by decide +kernel
theorem dX0_numberOf_6 : decode cX0_numberOf 6 = .ok (.iload_n 0, 1) := by decide +kernel
theorem dX0_numberOf_7 : decode cX0_numberOf 7 = .ok (.invokestatic 73, 3) := by decide +kernel
theorem dX0_numberOf_10 : decode cX0_numberOf 10 = .ok (.iconst 2, 1) := by decide +kernel
theorem dX0_numberOf_11 : decode cX0_numberOf 11 = .ok (.imul, 1) := by decide +kernel
theorem dX0_numberOf_12 : decode cX0_numberOf 12 = .ok (.iadd, 1) := by decide +kernel
theorem dX0_numberOf_13 : decode cX0_numberOf 13 = .ok (.iload_n 1, 1) := by decide +kernel
theorem dX0_numberOf_14 : decode cX0_numberOf 14 = .ok (.invokestatic 73, 3) := by decide +kernel
theorem dX0_numberOf_17 : decode cX0_numberOf 17 = .ok (.iadd, 1) := by decide +kernel
theorem dX0_numberOf_18 : decode cX0_numberOf 18 = .ok (.istore_n 2, 1) := by decide +kernel
theorem dX0_numberOf_19 : decode cX0_numberOf 19 = .ok (.iconst 0, 1) := by decide +kernel
theorem dX0_numberOf_20 : decode cX0_numberOf 20 = .ok (.istore_n 3, 1) := by decide +kernel
theorem dX0_numberOf_21 : decode cX0_numberOf 21 = .ok (.iload_n 3, 1) := by decide +kernel
theorem dX0_numberOf_22 : decode cX0_numberOf 22 = .ok (.iconst 3, 1) := by decide +kernel
theorem dX0_numberOf_23 : decode cX0_numberOf 23 = .ok (.if_icmp .ge 65, 3) := by decide +kernel
theorem dX0_numberOf_26 : decode cX0_numberOf 26 = .ok (.iload_n 0, 1) := by decide +kernel
theorem dX0_numberOf_27 : decode cX0_numberOf 27 = .ok (.iload_n 3, 1) := by decide +kernel
theorem dX0_numberOf_28 : decode cX0_numberOf 28 = .ok (.invokestatic 76, 3) := by decide +kernel
theorem dX0_numberOf_31 : decode cX0_numberOf 31 = .ok (.istore 4, 2) := by decide +kernel
theorem dX0_numberOf_33 : decode cX0_numberOf 33 = .ok (.iload_n 1, 1) := by decide +kernel
theorem dX0_numberOf_34 : decode cX0_numberOf 34 = .ok (.iload_n 3, 1) := by decide +kernel
theorem dX0_numberOf_35 : decode cX0_numberOf 35 = .ok (.invokestatic 76, 3) := by decide +kernel
theorem dX0_numberOf_38 : decode cX0_numberOf 38 = .ok (.istore 5, 2) := by decide +kernel
theorem dX0_numberOf_40 : decode cX0_numberOf 40 = .ok (.iload 4, 2) := by decide +kernel
theorem dX0_numberOf_42 : decode cX0_numberOf 42 = .ok (.iconst (-1), 1) := by decide +kernel
theorem dX0_numberOf_43 : decode cX0_numberOf 43 = .ok (.if_icmp .eq 9, 3) := by decide +kernel
theorem dX0_numberOf_46 : decode cX0_numberOf 46 = .ok (.iload 5, 2) := by decide +kernel
theorem dX0_numberOf_48 : decode cX0_numberOf 48 = .ok (.iconst (-1), 1) := by decide +kernel
theorem dX0_numberOf_49 : decode cX0_numberOf 49 = .ok (.if_icmp .ne 7, 3) := by decide +kernel
theorem dX0_numberOf_52 : decode cX0_numberOf 52 = .ok (.iconst 1, 1) := by decide +kernel
theorem dX0_numberOf_53 : decode cX0_numberOf 53 = .ok (.goto 4, 3) := by decide +kernel
theorem dX0_numberOf_56 : decode cX0_numberOf 56 = .ok (.iconst 0, 1) := by decide +kernel
theorem dX0_numberOf_57 : decode cX0_numberOf 57 = .ok (.istore 6, 2) := by decide +kernel
theorem dX0_numberOf_59 : decode cX0_numberOf 59 = .ok (.iload_n 2, 1) := by decide +kernel
theorem dX0_numberOf_60 : decode cX0_numberOf 60 = .ok (.iconst 5, 1) := by decide +kernel
theorem dX0_numberOf_61 : decode cX0_numberOf 61 = .ok (.imul, 1) := by decide +kernel
theorem dX0_numberOf_62 : decode cX0_numberOf 62 = .ok (.iload 6, 2) := by decide +kernel
theorem dX0_numberOf_64 : decode cX0_numberOf 64 = .ok (.ifCond .eq 7, 3) := by decide +kernel
theorem dX0_numberOf_67 : decode cX0_numberOf 67 = .ok (.iconst 0, 1) := by decide +kernel
theorem dX0_numberOf_68 : decode cX0_numberOf 68 = .ok (.goto 12, 3) := by decide +kernel
theorem dX0_numberOf_71 : decode cX0_numberOf 71 = .ok (.iconst 1, 1) := by decide +kernel
theorem dX0_numberOf_72 : decode cX0_numberOf 72 = .ok (.iload 4, 2) := by decide +kernel
theorem dX0_numberOf_74 : decode cX0_numberOf 74 = .ok (.iadd, 1) := by decide +kernel
theorem dX0_numberOf_75 : decode cX0_numberOf 75 = .ok (.iconst 2, 1) := by decide +kernel
theorem dX0_numberOf_76 : decode cX0_numberOf 76 = .ok (.iload 5, 2) := by decide +kernel
theorem dX0_numberOf_78 : decode cX0_numberOf 78 = .ok (.imul, 1) := by decide +kernel
theorem dX0_numberOf_79 : decode cX0_numberOf 79 = .ok (.iadd, 1) := by decide +kernel
theorem dX0_numberOf_80 : decode cX0_numberOf 80 = .ok (.iadd, 1) := by decide +kernel
theorem dX0_numberOf_81 : decode cX0_numberOf 81 = .ok (.istore_n 2, 1) := by decide +kernel
theorem dX0_numberOf_82 : decode cX0_numberOf 82 = .ok (.iinc 3 1, 3) := by decide +kernel
theorem dX0_numberOf_85 : decode cX0_numberOf 85 = .ok (.goto (-64), 3) := by decide +kernel
theorem dX0_numberOf_88 : decode cX0_numberOf 88 = .ok (.iload_n 2, 1) := by decide +kernel
theorem dX0_numberOf_89 : decode cX0_numberOf 89 = .ok (.ireturn, 1) := by decide +kernel
theorem dX1_init_0 : decode cX1_init 0 = .ok (.aload_n 0, 1) := by decide +kernel
theorem dX1_init_1 : decode cX1_init 1 = .ok (.invokespecial 3, 3) := by decide +kernel
theorem dX1_init_4 : decode cX1_init 4 = .ok (.aload_n 0, 1) := by decide +kernel
theorem dX1_init_5 : decode cX1_init 5 = .ok (.sipush 1024, 3) := by decide +kernel
theorem dX1_init_8 : decode cX1_init 8 = .ok (.newarray .int, 2) := by decide +kernel
theorem dX1_init_10 : decode cX1_init 10 = .ok (.putfield 9, 3) := by decide +kernel
theorem dX1_init_13 : decode cX1_init 13 = .ok (.return_, 1) := by decide +kernel
set_option maxRecDepth 20000 in
theorem ggX1_firstStreet_J7_fill_53178 : GoodIn wsX1_firstStreet wsJ7_fill_53178 := goodIn_r _ [7] (by decide +kernel) (by decide +kernel)
set_option maxRecDepth 20000 in
theorem gX1_firstStreet_J7_fill_53178 : GoodIn wsX1_firstStreet (va_wsS RX1 15 yJ7_fill_53178 wsJ7_fill_53178) := goodIn_app (goodIn_of _ (by decide +kernel)) ggX1_firstStreet_J7_fill_53178
set_option maxRecDepth 20000 in
theorem ggX1_firstStreet_X8_behind : GoodIn wsX1_firstStreet wsX8_behind := goodIn_r _ [12, 13, 14, 15, 16, 17, 18, 19, 20, 21, 22, 11, 23, 24, 25, 26, 27, 28, 29, 30, 31, 32, 33, 34, 35, 36, 37, 38, 39, 40, 41, 42, 43, 51, 52, 53, 54, 55, 56, 57, 58] (by decide +kernel) (by decide +kernel)
set_option maxRecDepth 20000 in
theorem gX1_firstStreet_X8_behind : GoodIn wsX1_firstStreet (wsV RX1 32 RX8 yX8_behind wsX8_behind) := goodIn_app (goodIn_of _ (by decide +kernel)) ggX1_firstStreet_X8_behind
set_option maxRecDepth 20000 in
theorem ggX1_firstStreet_X7_placeOf : GoodIn wsX1_firstStreet wsX7_placeOf := goodIn_r _ [19] (by decide +kernel) (by decide +kernel)
set_option maxRecDepth 20000 in
theorem gX1_firstStreet_X7_placeOf : GoodIn wsX1_firstStreet (va_wsS RX1 36 yX7_placeOf wsX7_placeOf) := goodIn_app (goodIn_of _ (by decide +kernel)) ggX1_firstStreet_X7_placeOf
set_option maxRecDepth 20000 in
theorem ggX1_firstStreet_X1_leadsHome : GoodIn wsX1_firstStreet wsX1_leadsHome := goodIn_r _ [49, 1, 2, 3, 44, 17, 18, 19, 8, 9, 10, 11, 12, 13, 14, 15, 16, 20, 21, 22, 23, 24, 25, 26, 27, 28, 29, 30, 31, 32, 33, 34, 35, 36, 37, 38, 39, 40, 41, 42, 43, 45, 46, 47, 48, 50, 51, 52, 53, 54, 55, 56, 57, 58, 59, 60] (by decide +kernel) (by decide +kernel)
set_option maxRecDepth 20000 in
theorem gX1_firstStreet_X1_leadsHome : GoodIn wsX1_firstStreet (wsV RX1 42 RX1 yX1_leadsHome wsX1_leadsHome) := goodIn_app (goodIn_of _ (by decide +kernel)) ggX1_firstStreet_X1_leadsHome
theorem dX1_firstStreet_0 : decode cX1_firstStreet 0 = .ok (.aload_n 0, 1) := by decide +kernel
theorem dX1_firstStreet_1 : decode cX1_firstStreet 1 = .ok (.getfield 9, 3) := by decide +kernel
theorem dX1_firstStreet_4 : decode cX1_firstStreet 4 = .ok (.iconst 0, 1) := by decide +kernel
theorem dX1_firstStreet_5 : decode cX1_firstStreet 5 = .ok (.invokestatic 15, 3) := by decide +kernel
theorem dX1_firstStreet_8 : decode cX1_firstStreet 8 = .ok (.iconst 1, 1) := by decide +kernel
theorem dX1_firstStreet_9 : decode cX1_firstStreet 9 = .ok (.aload_n 1, 1) := by decide +kernel
theorem dX1_firstStreet_10 : decode cX1_firstStreet 10 = .ok (.getfield 21, 3) := by decide +kernel
theorem dX1_firstStreet_13 : decode cX1_firstStreet 13 = .ok (.ishl, 1) := by decide +kernel
theorem dX1_firstStreet_14 : decode cX1_firstStreet 14 = .ok (.iconst 1, 1) := by decide +kernel
theorem dX1_firstStreet_15 : decode cX1_firstStreet 15 = .ok (.isub, 1) := by decide +kernel
theorem dX1_firstStreet_16 : decode cX1_firstStreet 16 = .ok (.istore 4, 2) := by decide +kernel
theorem dX1_firstStreet_18 : decode cX1_firstStreet 18 = .ok (.iconst 0, 1) := by decide +kernel
theorem dX1_firstStreet_19 : decode cX1_firstStreet 19 = .ok (.istore 5, 2) := by decide +kernel
theorem dX1_firstStreet_21 : decode cX1_firstStreet 21 = .ok (.iload 5, 2) := by decide +kernel
theorem dX1_firstStreet_23 : decode cX1_firstStreet 23 = .ok (.aload_n 1, 1) := by decide +kernel
theorem dX1_firstStreet_24 : decode cX1_firstStreet 24 = .ok (.getfield 21, 3) := by decide +kernel
theorem dX1_firstStreet_27 : decode cX1_firstStreet 27 = .ok (.if_icmp .ge 56, 3) := by decide +kernel
theorem dX1_firstStreet_30 : decode cX1_firstStreet 30 = .ok (.aload_n 1, 1) := by decide +kernel
theorem dX1_firstStreet_31 : decode cX1_firstStreet 31 = .ok (.iload_n 3, 1) := by decide +kernel
theorem dX1_firstStreet_32 : decode cX1_firstStreet 32 = .ok (.iload 5, 2) := by decide +kernel
theorem dX1_firstStreet_34 : decode cX1_firstStreet 34 = .ok (.aload_n 2, 1) := by decide +kernel
theorem dX1_firstStreet_35 : decode cX1_firstStreet 35 = .ok (.getfield 27, 3) := by decide +kernel
theorem dX1_firstStreet_38 : decode cX1_firstStreet 38 = .ok (.iload 5, 2) := by decide +kernel
theorem dX1_firstStreet_40 : decode cX1_firstStreet 40 = .ok (.iaload, 1) := by decide +kernel
theorem dX1_firstStreet_41 : decode cX1_firstStreet 41 = .ok (.invokevirtual 32, 3) := by decide +kernel
theorem dX1_firstStreet_44 : decode cX1_firstStreet 44 = .ok (.istore 6, 2) := by decide +kernel
theorem dX1_firstStreet_46 : decode cX1_firstStreet 46 = .ok (.iload 6, 2) := by decide +kernel
theorem dX1_firstStreet_48 : decode cX1_firstStreet 48 = .ok (.iconst (-1), 1) := by decide +kernel
theorem dX1_firstStreet_49 : decode cX1_firstStreet 49 = .ok (.if_icmp .eq 28, 3) := by decide +kernel
theorem dX1_firstStreet_52 : decode cX1_firstStreet 52 = .ok (.aload_n 0, 1) := by decide +kernel
theorem dX1_firstStreet_53 : decode cX1_firstStreet 53 = .ok (.aload_n 1, 1) := by decide +kernel
theorem dX1_firstStreet_54 : decode cX1_firstStreet 54 = .ok (.aload_n 2, 1) := by decide +kernel
theorem dX1_firstStreet_55 : decode cX1_firstStreet 55 = .ok (.iload 6, 2) := by decide +kernel
theorem dX1_firstStreet_57 : decode cX1_firstStreet 57 = .ok (.iload 4, 2) := by decide +kernel
theorem dX1_firstStreet_59 : decode cX1_firstStreet 59 = .ok (.iconst 1, 1) := by decide +kernel
theorem dX1_firstStreet_60 : decode cX1_firstStreet 60 = .ok (.iload 5, 2) := by decide +kernel
theorem dX1_firstStreet_62 : decode cX1_firstStreet 62 = .ok (.ishl, 1) := by decide +kernel
theorem dX1_firstStreet_63 : decode cX1_firstStreet 63 = .ok (.ixor, 1) := by decide +kernel
theorem dX1_firstStreet_64 : decode cX1_firstStreet 64 = .ok (.iload_n 3, 1) := by decide +kernel
theorem dX1_firstStreet_65 : decode cX1_firstStreet 65 = .ok (.invokestatic 36, 3) := by decide +kernel
theorem dX1_firstStreet_68 : decode cX1_firstStreet 68 = .ok (.invokevirtual 42, 3) := by decide +kernel
theorem dX1_firstStreet_71 : decode cX1_firstStreet 71 = .ok (.ifCond .eq 6, 3) := by decide +kernel
theorem dX1_firstStreet_74 : decode cX1_firstStreet 74 = .ok (.iload 5, 2) := by decide +kernel
theorem dX1_firstStreet_76 : decode cX1_firstStreet 76 = .ok (.ireturn, 1) := by decide +kernel
theorem dX1_firstStreet_77 : decode cX1_firstStreet 77 = .ok (.iinc 5 1, 3) := by decide +kernel
theorem dX1_firstStreet_80 : decode cX1_firstStreet 80 = .ok (.goto (-59), 3) := by decide +kernel
theorem dX1_firstStreet_83 : decode cX1_firstStreet 83 = .ok (.iconst (-1), 1) := by decide +kernel
theorem dX1_firstStreet_84 : decode cX1_firstStreet 84 = .ok (.ireturn, 1) := by decide +kernel
set_option maxRecDepth 20000 in
theorem ggX1_leadsHome_X7_placeOf : GoodIn wsX1_leadsHome wsX7_placeOf := goodIn_r _ [7] (by decide +kernel) (by decide +kernel)
set_option maxRecDepth 20000 in
theorem gX1_leadsHome_X7_placeOf : GoodIn wsX1_leadsHome (va_wsS RX1 36 yX7_placeOf wsX7_placeOf) := goodIn_app (goodIn_of _ (by decide +kernel)) ggX1_leadsHome_X7_placeOf
set_option maxRecDepth 20000 in
theorem ggX1_leadsHome_X8_behind : GoodIn wsX1_leadsHome wsX8_behind := goodIn_r _ [12, 13, 14, 15, 16, 5, 6, 7, 17, 18, 19, 11, 20, 21, 22, 23, 24, 25, 26, 27, 28, 29, 30, 31, 32, 33, 34, 35, 36, 37, 38, 39, 40, 46, 47, 48, 49, 50, 51, 52, 53] (by decide +kernel) (by decide +kernel)
set_option maxRecDepth 20000 in
theorem gX1_leadsHome_X8_behind : GoodIn wsX1_leadsHome (wsV RX1 32 RX8 yX8_behind wsX8_behind) := goodIn_app (goodIn_of _ (by decide +kernel)) ggX1_leadsHome_X8_behind
set_option maxRecDepth 20000 in
theorem ggX1_leadsHome_X1_leadsHome : GoodIn wsX1_leadsHome wsX1_leadsHome := goodIn_r _ [0, 1, 2, 3, 4, 5, 6, 7, 8, 9, 10, 11, 12, 13, 14, 15, 16, 17, 18, 19, 20, 21, 22, 23, 24, 25, 26, 27, 28, 29, 30, 31, 32, 33, 34, 35, 36, 37, 38, 39, 40, 41, 42, 43, 44, 45, 46, 47, 48, 49, 50, 51, 52, 53, 54, 55] (by decide +kernel) (by decide +kernel)
set_option maxRecDepth 20000 in
theorem gX1_leadsHome_X1_leadsHome : GoodIn wsX1_leadsHome (wsV RX1 42 RX1 yX1_leadsHome wsX1_leadsHome) := goodIn_app (goodIn_of _ (by decide +kernel)) ggX1_leadsHome_X1_leadsHome
theorem dX1_leadsHome_0 : decode cX1_leadsHome 0 = .ok (.iload 4, 2) := by decide +kernel
theorem dX1_leadsHome_2 : decode cX1_leadsHome 2 = .ok (.ifCond .ne 18, 3) := by decide +kernel
theorem dX1_leadsHome_5 : decode cX1_leadsHome 5 = .ok (.iload_n 3, 1) := by decide +kernel
theorem dX1_leadsHome_6 : decode cX1_leadsHome 6 = .ok (.invokestatic 36, 3) := by decide +kernel
theorem dX1_leadsHome_9 : decode cX1_leadsHome 9 = .ok (.iload 5, 2) := by decide +kernel
theorem dX1_leadsHome_11 : decode cX1_leadsHome 11 = .ok (.if_icmp .ne 7, 3) := by decide +kernel
theorem dX1_leadsHome_14 : decode cX1_leadsHome 14 = .ok (.iconst 1, 1) := by decide +kernel
theorem dX1_leadsHome_15 : decode cX1_leadsHome 15 = .ok (.goto 4, 3) := by decide +kernel
theorem dX1_leadsHome_18 : decode cX1_leadsHome 18 = .ok (.iconst 0, 1) := by decide +kernel
theorem dX1_leadsHome_19 : decode cX1_leadsHome 19 = .ok (.ireturn, 1) := by decide +kernel
theorem dX1_leadsHome_20 : decode cX1_leadsHome 20 = .ok (.aload_n 0, 1) := by decide +kernel
theorem dX1_leadsHome_21 : decode cX1_leadsHome 21 = .ok (.getfield 9, 3) := by decide +kernel
theorem dX1_leadsHome_24 : decode cX1_leadsHome 24 = .ok (.iload 4, 2) := by decide +kernel
theorem dX1_leadsHome_26 : decode cX1_leadsHome 26 = .ok (.iaload, 1) := by decide +kernel
theorem dX1_leadsHome_27 : decode cX1_leadsHome 27 = .ok (.ifCond .eq 5, 3) := by decide +kernel
theorem dX1_leadsHome_30 : decode cX1_leadsHome 30 = .ok (.iconst 0, 1) := by decide +kernel
theorem dX1_leadsHome_31 : decode cX1_leadsHome 31 = .ok (.ireturn, 1) := by decide +kernel
theorem dX1_leadsHome_32 : decode cX1_leadsHome 32 = .ok (.aload_n 0, 1) := by decide +kernel
theorem dX1_leadsHome_33 : decode cX1_leadsHome 33 = .ok (.getfield 9, 3) := by decide +kernel
theorem dX1_leadsHome_36 : decode cX1_leadsHome 36 = .ok (.iload 4, 2) := by decide +kernel
theorem dX1_leadsHome_38 : decode cX1_leadsHome 38 = .ok (.iconst 1, 1) := by decide +kernel
theorem dX1_leadsHome_39 : decode cX1_leadsHome 39 = .ok (.iastore, 1) := by decide +kernel
theorem dX1_leadsHome_40 : decode cX1_leadsHome 40 = .ok (.iconst 0, 1) := by decide +kernel
theorem dX1_leadsHome_41 : decode cX1_leadsHome 41 = .ok (.istore 6, 2) := by decide +kernel
theorem dX1_leadsHome_43 : decode cX1_leadsHome 43 = .ok (.iload 6, 2) := by decide +kernel
theorem dX1_leadsHome_45 : decode cX1_leadsHome 45 = .ok (.aload_n 1, 1) := by decide +kernel
theorem dX1_leadsHome_46 : decode cX1_leadsHome 46 = .ok (.getfield 21, 3) := by decide +kernel
theorem dX1_leadsHome_49 : decode cX1_leadsHome 49 = .ok (.if_icmp .ge 63, 3) := by decide +kernel
theorem dX1_leadsHome_52 : decode cX1_leadsHome 52 = .ok (.iload 4, 2) := by decide +kernel
theorem dX1_leadsHome_54 : decode cX1_leadsHome 54 = .ok (.iload 6, 2) := by decide +kernel
theorem dX1_leadsHome_56 : decode cX1_leadsHome 56 = .ok (.ishr, 1) := by decide +kernel
theorem dX1_leadsHome_57 : decode cX1_leadsHome 57 = .ok (.iconst 1, 1) := by decide +kernel
theorem dX1_leadsHome_58 : decode cX1_leadsHome 58 = .ok (.iand, 1) := by decide +kernel
theorem dX1_leadsHome_59 : decode cX1_leadsHome 59 = .ok (.ifCond .eq 47, 3) := by decide +kernel
theorem dX1_leadsHome_62 : decode cX1_leadsHome 62 = .ok (.aload_n 1, 1) := by decide +kernel
theorem dX1_leadsHome_63 : decode cX1_leadsHome 63 = .ok (.iload_n 3, 1) := by decide +kernel
theorem dX1_leadsHome_64 : decode cX1_leadsHome 64 = .ok (.iload 6, 2) := by decide +kernel
theorem dX1_leadsHome_66 : decode cX1_leadsHome 66 = .ok (.aload_n 2, 1) := by decide +kernel
theorem dX1_leadsHome_67 : decode cX1_leadsHome 67 = .ok (.getfield 27, 3) := by decide +kernel
theorem dX1_leadsHome_70 : decode cX1_leadsHome 70 = .ok (.iload 6, 2) := by decide +kernel
theorem dX1_leadsHome_72 : decode cX1_leadsHome 72 = .ok (.iaload, 1) := by decide +kernel
theorem dX1_leadsHome_73 : decode cX1_leadsHome 73 = .ok (.invokevirtual 32, 3) := by decide +kernel
theorem dX1_leadsHome_76 : decode cX1_leadsHome 76 = .ok (.istore 7, 2) := by decide +kernel
theorem dX1_leadsHome_78 : decode cX1_leadsHome 78 = .ok (.iload 7, 2) := by decide +kernel
theorem dX1_leadsHome_80 : decode cX1_leadsHome 80 = .ok (.iconst (-1), 1) := by decide +kernel
theorem dX1_leadsHome_81 : decode cX1_leadsHome 81 = .ok (.if_icmp .eq 25, 3) := by decide +kernel
theorem dX1_leadsHome_84 : decode cX1_leadsHome 84 = .ok (.aload_n 0, 1) := by decide +kernel
theorem dX1_leadsHome_85 : decode cX1_leadsHome 85 = .ok (.aload_n 1, 1) := by decide +kernel
theorem dX1_leadsHome_86 : decode cX1_leadsHome 86 = .ok (.aload_n 2, 1) := by decide +kernel
theorem dX1_leadsHome_87 : decode cX1_leadsHome 87 = .ok (.iload 7, 2) := by decide +kernel
theorem dX1_leadsHome_89 : decode cX1_leadsHome 89 = .ok (.iload 4, 2) := by decide +kernel
theorem dX1_leadsHome_91 : decode cX1_leadsHome 91 = .ok (.iconst 1, 1) := by decide +kernel
theorem dX1_leadsHome_92 : decode cX1_leadsHome 92 = .ok (.iload 6, 2) := by decide +kernel
theorem dX1_leadsHome_94 : decode cX1_leadsHome 94 = .ok (.ishl, 1) := by decide +kernel
theorem dX1_leadsHome_95 : decode cX1_leadsHome 95 = .ok (.ixor, 1) := by decide +kernel
theorem dX1_leadsHome_96 : decode cX1_leadsHome 96 = .ok (.iload 5, 2) := by decide +kernel
theorem dX1_leadsHome_98 : decode cX1_leadsHome 98 = .ok (.invokevirtual 42, 3) := by decide +kernel
theorem dX1_leadsHome_101 : decode cX1_leadsHome 101 = .ok (.ifCond .eq 5, 3) := by decide +kernel
theorem dX1_leadsHome_104 : decode cX1_leadsHome 104 = .ok (.iconst 1, 1) := by decide +kernel
theorem dX1_leadsHome_105 : decode cX1_leadsHome 105 = .ok (.ireturn, 1) := by decide +kernel
theorem dX1_leadsHome_106 : decode cX1_leadsHome 106 = .ok (.iinc 6 1, 3) := by decide +kernel
theorem dX1_leadsHome_109 : decode cX1_leadsHome 109 = .ok (.goto (-66), 3) := by decide +kernel
theorem dX1_leadsHome_112 : decode cX1_leadsHome 112 = .ok (.iconst 0, 1) := by decide +kernel
theorem dX1_leadsHome_113 : decode cX1_leadsHome 113 = .ok (.ireturn, 1) := by decide +kernel
theorem dX2_init_0 : decode cX2_init 0 = .ok (.aload_n 0, 1) := by decide +kernel
theorem dX2_init_1 : decode cX2_init 1 = .ok (.invokespecial 3, 3) := by decide +kernel
theorem dX2_init_4 : decode cX2_init 4 = .ok (.aload_n 0, 1) := by decide +kernel
theorem dX2_init_5 : decode cX2_init 5 = .ok (.bipush 10, 2) := by decide +kernel
theorem dX2_init_7 : decode cX2_init 7 = .ok (.newarray .int, 2) := by decide +kernel
theorem dX2_init_9 : decode cX2_init 9 = .ok (.putfield 9, 3) := by decide +kernel
theorem dX2_init_12 : decode cX2_init 12 = .ok (.aload_n 0, 1) := by decide +kernel
theorem dX2_init_13 : decode cX2_init 13 = .ok (.bipush 10, 2) := by decide +kernel
theorem dX2_init_15 : decode cX2_init 15 = .ok (.newarray .int, 2) := by decide +kernel
theorem dX2_init_17 : decode cX2_init 17 = .ok (.putfield 15, 3) := by decide +kernel
theorem dX2_init_20 : decode cX2_init 20 = .ok (.return_, 1) := by decide +kernel
set_option maxRecDepth 20000 in
theorem ggX2_take_X2_pave : GoodIn wsX2_take wsX2_pave := goodIn_r _ [7, 8, 9, 10, 11, 12, 13, 14, 15, 16, 17, 26, 27] (by decide +kernel) (by decide +kernel)
set_option maxRecDepth 20000 in
theorem gX2_take_X2_pave : GoodIn wsX2_take (wsV RX2 27 RX2 yX2_pave wsX2_pave) := goodIn_app (goodIn_of _ (by decide +kernel)) ggX2_take_X2_pave
theorem dX2_take_0 : decode cX2_take 0 = .ok (.iconst 0, 1) := by decide +kernel
theorem dX2_take_1 : decode cX2_take 1 = .ok (.istore_n 3, 1) := by decide +kernel
theorem dX2_take_2 : decode cX2_take 2 = .ok (.iload_n 3, 1) := by decide +kernel
theorem dX2_take_3 : decode cX2_take 3 = .ok (.aload_n 2, 1) := by decide +kernel
theorem dX2_take_4 : decode cX2_take 4 = .ok (.getfield 18, 3) := by decide +kernel
theorem dX2_take_7 : decode cX2_take 7 = .ok (.if_icmp .ge 21, 3) := by decide +kernel
theorem dX2_take_10 : decode cX2_take 10 = .ok (.aload_n 0, 1) := by decide +kernel
theorem dX2_take_11 : decode cX2_take 11 = .ok (.iload_n 1, 1) := by decide +kernel
theorem dX2_take_12 : decode cX2_take 12 = .ok (.iload_n 3, 1) := by decide +kernel
theorem dX2_take_13 : decode cX2_take 13 = .ok (.aload_n 2, 1) := by decide +kernel
theorem dX2_take_14 : decode cX2_take 14 = .ok (.getfield 24, 3) := by decide +kernel
theorem dX2_take_17 : decode cX2_take 17 = .ok (.iload_n 3, 1) := by decide +kernel
theorem dX2_take_18 : decode cX2_take 18 = .ok (.iaload, 1) := by decide +kernel
theorem dX2_take_19 : decode cX2_take 19 = .ok (.invokevirtual 27, 3) := by decide +kernel
theorem dX2_take_22 : decode cX2_take 22 = .ok (.iinc 3 1, 3) := by decide +kernel
theorem dX2_take_25 : decode cX2_take 25 = .ok (.goto (-23), 3) := by decide +kernel
theorem dX2_take_28 : decode cX2_take 28 = .ok (.return_, 1) := by decide +kernel
set_option maxRecDepth 20000 in
theorem ggX2_pave_X9_stepsOf : GoodIn wsX2_pave wsX9_stepsOf := goodIn_r _ [6] (by decide +kernel) (by decide +kernel)
set_option maxRecDepth 20000 in
theorem gX2_pave_X9_stepsOf : GoodIn wsX2_pave (va_wsS RX2 31 yX9_stepsOf wsX9_stepsOf) := goodIn_app (goodIn_of _ (by decide +kernel)) ggX2_pave_X9_stepsOf
set_option maxRecDepth 20000 in
theorem ggX2_pave_X9_turnOf : GoodIn wsX2_pave wsX9_turnOf := goodIn_r _ [9, 10, 4, 5, 6] (by decide +kernel) (by decide +kernel)
set_option maxRecDepth 20000 in
theorem gX2_pave_X9_turnOf : GoodIn wsX2_pave (va_wsS RX2 37 yX9_turnOf wsX9_turnOf) := goodIn_app (goodIn_of _ (by decide +kernel)) ggX2_pave_X9_turnOf
theorem dX2_pave_0 : decode cX2_pave 0 = .ok (.aload_n 0, 1) := by decide +kernel
theorem dX2_pave_1 : decode cX2_pave 1 = .ok (.getfield 9, 3) := by decide +kernel
theorem dX2_pave_4 : decode cX2_pave 4 = .ok (.iload_n 2, 1) := by decide +kernel
theorem dX2_pave_5 : decode cX2_pave 5 = .ok (.iload_n 1, 1) := by decide +kernel
theorem dX2_pave_6 : decode cX2_pave 6 = .ok (.iload_n 3, 1) := by decide +kernel
theorem dX2_pave_7 : decode cX2_pave 7 = .ok (.invokestatic 31, 3) := by decide +kernel
theorem dX2_pave_10 : decode cX2_pave 10 = .ok (.iastore, 1) := by decide +kernel
theorem dX2_pave_11 : decode cX2_pave 11 = .ok (.aload_n 0, 1) := by decide +kernel
theorem dX2_pave_12 : decode cX2_pave 12 = .ok (.getfield 15, 3) := by decide +kernel
theorem dX2_pave_15 : decode cX2_pave 15 = .ok (.iload_n 2, 1) := by decide +kernel
theorem dX2_pave_16 : decode cX2_pave 16 = .ok (.iload_n 1, 1) := by decide +kernel
theorem dX2_pave_17 : decode cX2_pave 17 = .ok (.iload_n 3, 1) := by decide +kernel
theorem dX2_pave_18 : decode cX2_pave 18 = .ok (.invokestatic 37, 3) := by decide +kernel
theorem dX2_pave_21 : decode cX2_pave 21 = .ok (.iastore, 1) := by decide +kernel
theorem dX2_pave_22 : decode cX2_pave 22 = .ok (.return_, 1) := by decide +kernel
theorem dX3_init_0 : decode cX3_init 0 = .ok (.aload_n 0, 1) := by decide +kernel
theorem dX3_init_1 : decode cX3_init 1 = .ok (.invokespecial 3, 3) := by decide +kernel
theorem dX3_init_4 : decode cX3_init 4 = .ok (.aload_n 0, 1) := by decide +kernel
theorem dX3_init_5 : decode cX3_init 5 = .ok (.iload_n 1, 1) := by decide +kernel
theorem dX3_init_6 : decode cX3_init 6 = .ok (.newarray .int, 2) := by decide +kernel
theorem dX3_init_8 : decode cX3_init 8 = .ok (.putfield 9, 3) := by decide +kernel
theorem dX3_init_11 : decode cX3_init 11 = .ok (.aload_n 0, 1) := by decide +kernel
theorem dX3_init_12 : decode cX3_init 12 = .ok (.iload_n 1, 1) := by decide +kernel
theorem dX3_init_13 : decode cX3_init 13 = .ok (.newarray .int, 2) := by decide +kernel
theorem dX3_init_15 : decode cX3_init 15 = .ok (.putfield 15, 3) := by decide +kernel
theorem dX3_init_18 : decode cX3_init 18 = .ok (.aload_n 0, 1) := by decide +kernel
theorem dX3_init_19 : decode cX3_init 19 = .ok (.iload_n 1, 1) := by decide +kernel
theorem dX3_init_20 : decode cX3_init 20 = .ok (.newarray .int, 2) := by decide +kernel
theorem dX3_init_22 : decode cX3_init 22 = .ok (.putfield 18, 3) := by decide +kernel
theorem dX3_init_25 : decode cX3_init 25 = .ok (.return_, 1) := by decide +kernel
set_option maxRecDepth 20000 in
theorem ggX3_clear_J7_fill_53178 : GoodIn wsX3_clear wsJ7_fill_53178 := goodIn_r _ [8] (by decide +kernel) (by decide +kernel)
set_option maxRecDepth 20000 in
theorem gX3_clear_J7_fill_53178 : GoodIn wsX3_clear (va_wsS RX3 22 yJ7_fill_53178 wsJ7_fill_53178) := goodIn_app (goodIn_of _ (by decide +kernel)) ggX3_clear_J7_fill_53178
theorem dX3_clear_0 : decode cX3_clear 0 = .ok (.aload_n 0, 1) := by decide +kernel
theorem dX3_clear_1 : decode cX3_clear 1 = .ok (.getfield 9, 3) := by decide +kernel
theorem dX3_clear_4 : decode cX3_clear 4 = .ok (.ldc 21, 2) := by decide +kernel
theorem dX3_clear_6 : decode cX3_clear 6 = .ok (.invokestatic 22, 3) := by decide +kernel
theorem dX3_clear_9 : decode cX3_clear 9 = .ok (.aload_n 0, 1) := by decide +kernel
theorem dX3_clear_10 : decode cX3_clear 10 = .ok (.getfield 18, 3) := by decide +kernel
theorem dX3_clear_13 : decode cX3_clear 13 = .ok (.iconst (-1), 1) := by decide +kernel
theorem dX3_clear_14 : decode cX3_clear 14 = .ok (.invokestatic 22, 3) := by decide +kernel
theorem dX3_clear_17 : decode cX3_clear 17 = .ok (.aload_n 0, 1) := by decide +kernel
theorem dX3_clear_18 : decode cX3_clear 18 = .ok (.iconst 0, 1) := by decide +kernel
theorem dX3_clear_19 : decode cX3_clear 19 = .ok (.putfield 28, 3) := by decide +kernel
theorem dX3_clear_22 : decode cX3_clear 22 = .ok (.return_, 1) := by decide +kernel
theorem dX3_costOf_0 : decode cX3_costOf 0 = .ok (.aload_n 0, 1) := by decide +kernel
theorem dX3_costOf_1 : decode cX3_costOf 1 = .ok (.getfield 9, 3) := by decide +kernel
theorem dX3_costOf_4 : decode cX3_costOf 4 = .ok (.iload_n 1, 1) := by decide +kernel
theorem dX3_costOf_5 : decode cX3_costOf 5 = .ok (.iaload, 1) := by decide +kernel
theorem dX3_costOf_6 : decode cX3_costOf 6 = .ok (.ireturn, 1) := by decide +kernel
set_option maxRecDepth 20000 in
theorem ggX3_offer_X3_sit : GoodIn wsX3_offer wsX3_sit := goodIn_r _ [9, 4, 2, 10, 11, 12, 13] (by decide +kernel) (by decide +kernel)
set_option maxRecDepth 20000 in
theorem gX3_offer_X3_sit : GoodIn wsX3_offer (wsV RX3 32 RX3 yX3_sit wsX3_sit) := goodIn_app (goodIn_of _ (by decide +kernel)) ggX3_offer_X3_sit
theorem dX3_offer_0 : decode cX3_offer 0 = .ok (.iload_n 2, 1) := by decide +kernel
theorem dX3_offer_1 : decode cX3_offer 1 = .ok (.aload_n 0, 1) := by decide +kernel
theorem dX3_offer_2 : decode cX3_offer 2 = .ok (.getfield 9, 3) := by decide +kernel
theorem dX3_offer_5 : decode cX3_offer 5 = .ok (.iload_n 1, 1) := by decide +kernel
theorem dX3_offer_6 : decode cX3_offer 6 = .ok (.iaload, 1) := by decide +kernel
theorem dX3_offer_7 : decode cX3_offer 7 = .ok (.if_icmp .lt 4, 3) := by decide +kernel
theorem dX3_offer_10 : decode cX3_offer 10 = .ok (.return_, 1) := by decide +kernel
theorem dX3_offer_11 : decode cX3_offer 11 = .ok (.aload_n 0, 1) := by decide +kernel
theorem dX3_offer_12 : decode cX3_offer 12 = .ok (.getfield 9, 3) := by decide +kernel
theorem dX3_offer_15 : decode cX3_offer 15 = .ok (.iload_n 1, 1) := by decide +kernel
theorem dX3_offer_16 : decode cX3_offer 16 = .ok (.iload_n 2, 1) := by decide +kernel
theorem dX3_offer_17 : decode cX3_offer 17 = .ok (.iastore, 1) := by decide +kernel
theorem dX3_offer_18 : decode cX3_offer 18 = .ok (.aload_n 0, 1) := by decide +kernel
theorem dX3_offer_19 : decode cX3_offer 19 = .ok (.getfield 18, 3) := by decide +kernel
theorem dX3_offer_22 : decode cX3_offer 22 = .ok (.iload_n 1, 1) := by decide +kernel
theorem dX3_offer_23 : decode cX3_offer 23 = .ok (.iaload, 1) := by decide +kernel
theorem dX3_offer_24 : decode cX3_offer 24 = .ok (.istore_n 3, 1) := by decide +kernel
theorem dX3_offer_25 : decode cX3_offer 25 = .ok (.iload_n 3, 1) := by decide +kernel
theorem dX3_offer_26 : decode cX3_offer 26 = .ok (.iconst (-1), 1) := by decide +kernel
theorem dX3_offer_27 : decode cX3_offer 27 = .ok (.if_icmp .ne 18, 3) := by decide +kernel
theorem dX3_offer_30 : decode cX3_offer 30 = .ok (.aload_n 0, 1) := by decide +kernel
theorem dX3_offer_31 : decode cX3_offer 31 = .ok (.getfield 28, 3) := by decide +kernel
theorem dX3_offer_34 : decode cX3_offer 34 = .ok (.istore_n 3, 1) := by decide +kernel
theorem dX3_offer_35 : decode cX3_offer 35 = .ok (.aload_n 0, 1) := by decide +kernel
theorem dX3_offer_36 : decode cX3_offer 36 = .ok (.dup, 1) := by decide +kernel
theorem dX3_offer_37 : decode cX3_offer 37 = .ok (.getfield 28, 3) := by decide +kernel
theorem dX3_offer_40 : decode cX3_offer 40 = .ok (.iconst 1, 1) := by decide +kernel
theorem dX3_offer_41 : decode cX3_offer 41 = .ok (.iadd, 1) := by decide +kernel
theorem dX3_offer_42 : decode cX3_offer 42 = .ok (.putfield 28, 3) := by decide +kernel
theorem dX3_offer_45 : decode cX3_offer 45 = .ok (.iload_n 3, 1) := by decide +kernel
theorem dX3_offer_46 : decode cX3_offer 46 = .ok (.ifCond .le 46, 3) := by decide +kernel
theorem dX3_offer_49 : decode cX3_offer 49 = .ok (.aload_n 0, 1) := by decide +kernel
theorem dX3_offer_50 : decode cX3_offer 50 = .ok (.getfield 9, 3) := by decide +kernel
theorem dX3_offer_53 : decode cX3_offer 53 = .ok (.aload_n 0, 1) := by decide +kernel
theorem dX3_offer_54 : decode cX3_offer 54 = .ok (.getfield 15, 3) := by decide +kernel
theorem dX3_offer_57 : decode cX3_offer 57 = .ok (.iload_n 3, 1) := by decide +kernel
theorem dX3_offer_58 : decode cX3_offer 58 = .ok (.iconst 1, 1) := by decide +kernel
theorem dX3_offer_59 : decode cX3_offer 59 = .ok (.isub, 1) := by decide +kernel
theorem dX3_offer_60 : decode cX3_offer 60 = .ok (.iconst 2, 1) := by decide +kernel
theorem dX3_offer_61 : decode cX3_offer 61 = .ok (.idiv, 1) := by decide +kernel
theorem dX3_offer_62 : decode cX3_offer 62 = .ok (.iaload, 1) := by decide +kernel
theorem dX3_offer_63 : decode cX3_offer 63 = .ok (.iaload, 1) := by decide +kernel
theorem dX3_offer_64 : decode cX3_offer 64 = .ok (.iload_n 2, 1) := by decide +kernel
theorem dX3_offer_65 : decode cX3_offer 65 = .ok (.if_icmp .le 27, 3) := by decide +kernel
theorem dX3_offer_68 : decode cX3_offer 68 = .ok (.aload_n 0, 1) := by decide +kernel
theorem dX3_offer_69 : decode cX3_offer 69 = .ok (.aload_n 0, 1) := by decide +kernel
theorem dX3_offer_70 : decode cX3_offer 70 = .ok (.getfield 15, 3) := by decide +kernel
theorem dX3_offer_73 : decode cX3_offer 73 = .ok (.iload_n 3, 1) := by decide +kernel
theorem dX3_offer_74 : decode cX3_offer 74 = .ok (.iconst 1, 1) := by decide +kernel
theorem dX3_offer_75 : decode cX3_offer 75 = .ok (.isub, 1) := by decide +kernel
theorem dX3_offer_76 : decode cX3_offer 76 = .ok (.iconst 2, 1) := by decide +kernel
theorem dX3_offer_77 : decode cX3_offer 77 = .ok (.idiv, 1) := by decide +kernel
theorem dX3_offer_78 : decode cX3_offer 78 = .ok (.iaload, 1) := by decide +kernel
theorem dX3_offer_79 : decode cX3_offer 79 = .ok (.iload_n 3, 1) := by decide +kernel
theorem dX3_offer_80 : decode cX3_offer 80 = .ok (.invokevirtual 32, 3) := by decide +kernel
theorem dX3_offer_83 : decode cX3_offer 83 = .ok (.iload_n 3, 1) := by decide +kernel
theorem dX3_offer_84 : decode cX3_offer 84 = .ok (.iconst 1, 1) := by decide +kernel
theorem dX3_offer_85 : decode cX3_offer 85 = .ok (.isub, 1) := by decide +kernel
theorem dX3_offer_86 : decode cX3_offer 86 = .ok (.iconst 2, 1) := by decide +kernel
theorem dX3_offer_87 : decode cX3_offer 87 = .ok (.idiv, 1) := by decide +kernel
theorem dX3_offer_88 : decode cX3_offer 88 = .ok (.istore_n 3, 1) := by decide +kernel
theorem dX3_offer_89 : decode cX3_offer 89 = .ok (.goto (-44), 3) := by decide +kernel
theorem dX3_offer_92 : decode cX3_offer 92 = .ok (.aload_n 0, 1) := by decide +kernel
theorem dX3_offer_93 : decode cX3_offer 93 = .ok (.iload_n 1, 1) := by decide +kernel
theorem dX3_offer_94 : decode cX3_offer 94 = .ok (.iload_n 3, 1) := by decide +kernel
theorem dX3_offer_95 : decode cX3_offer 95 = .ok (.invokevirtual 32, 3) := by decide +kernel
theorem dX3_offer_98 : decode cX3_offer 98 = .ok (.return_, 1) := by decide +kernel
set_option maxRecDepth 20000 in
theorem ggX3_take_X3_sink : GoodIn wsX3_take wsX3_sink := goodIn_r _ [8, 1, 9, 2, 10, 11, 12, 7, 13, 3, 14, 15, 16, 17] (by decide +kernel) (by decide +kernel)
set_option maxRecDepth 20000 in
theorem gX3_take_X3_sink : GoodIn wsX3_take (wsV RX3 36 RX3 yX3_sink wsX3_sink) := goodIn_app (goodIn_of _ (by decide +kernel)) ggX3_take_X3_sink
theorem dX3_take_0 : decode cX3_take 0 = .ok (.aload_n 0, 1) := by decide +kernel
theorem dX3_take_1 : decode cX3_take 1 = .ok (.getfield 28, 3) := by decide +kernel
theorem dX3_take_4 : decode cX3_take 4 = .ok (.ifCond .ne 5, 3) := by decide +kernel
theorem dX3_take_7 : decode cX3_take 7 = .ok (.iconst (-1), 1) := by decide +kernel
theorem dX3_take_8 : decode cX3_take 8 = .ok (.ireturn, 1) := by decide +kernel
theorem dX3_take_9 : decode cX3_take 9 = .ok (.aload_n 0, 1) := by decide +kernel
theorem dX3_take_10 : decode cX3_take 10 = .ok (.getfield 15, 3) := by decide +kernel
theorem dX3_take_13 : decode cX3_take 13 = .ok (.iconst 0, 1) := by decide +kernel
theorem dX3_take_14 : decode cX3_take 14 = .ok (.iaload, 1) := by decide +kernel
theorem dX3_take_15 : decode cX3_take 15 = .ok (.istore_n 1, 1) := by decide +kernel
theorem dX3_take_16 : decode cX3_take 16 = .ok (.aload_n 0, 1) := by decide +kernel
theorem dX3_take_17 : decode cX3_take 17 = .ok (.getfield 18, 3) := by decide +kernel
theorem dX3_take_20 : decode cX3_take 20 = .ok (.iload_n 1, 1) := by decide +kernel
theorem dX3_take_21 : decode cX3_take 21 = .ok (.iconst (-1), 1) := by decide +kernel
theorem dX3_take_22 : decode cX3_take 22 = .ok (.iastore, 1) := by decide +kernel
theorem dX3_take_23 : decode cX3_take 23 = .ok (.aload_n 0, 1) := by decide +kernel
theorem dX3_take_24 : decode cX3_take 24 = .ok (.dup, 1) := by decide +kernel
theorem dX3_take_25 : decode cX3_take 25 = .ok (.getfield 28, 3) := by decide +kernel
theorem dX3_take_28 : decode cX3_take 28 = .ok (.iconst 1, 1) := by decide +kernel
theorem dX3_take_29 : decode cX3_take 29 = .ok (.isub, 1) := by decide +kernel
theorem dX3_take_30 : decode cX3_take 30 = .ok (.putfield 28, 3) := by decide +kernel
theorem dX3_take_33 : decode cX3_take 33 = .ok (.aload_n 0, 1) := by decide +kernel
theorem dX3_take_34 : decode cX3_take 34 = .ok (.getfield 28, 3) := by decide +kernel
theorem dX3_take_37 : decode cX3_take 37 = .ok (.ifCond .le 16, 3) := by decide +kernel
theorem dX3_take_40 : decode cX3_take 40 = .ok (.aload_n 0, 1) := by decide +kernel
theorem dX3_take_41 : decode cX3_take 41 = .ok (.aload_n 0, 1) := by decide +kernel
theorem dX3_take_42 : decode cX3_take 42 = .ok (.getfield 15, 3) := by decide +kernel
theorem dX3_take_45 : decode cX3_take 45 = .ok (.aload_n 0, 1) := by decide +kernel
theorem dX3_take_46 : decode cX3_take 46 = .ok (.getfield 28, 3) := by decide +kernel
theorem dX3_take_49 : decode cX3_take 49 = .ok (.iaload, 1) := by decide +kernel
theorem dX3_take_50 : decode cX3_take 50 = .ok (.invokevirtual 36, 3) := by decide +kernel
theorem dX3_take_53 : decode cX3_take 53 = .ok (.iload_n 1, 1) := by decide +kernel
theorem dX3_take_54 : decode cX3_take 54 = .ok (.ireturn, 1) := by decide +kernel
set_option maxRecDepth 20000 in
theorem ggX3_sink_X3_sit : GoodIn wsX3_sink wsX3_sit := goodIn_r _ [8, 3, 9, 10, 11, 12, 13] (by decide +kernel) (by decide +kernel)
set_option maxRecDepth 20000 in
theorem gX3_sink_X3_sit : GoodIn wsX3_sink (wsV RX3 32 RX3 yX3_sit wsX3_sit) := goodIn_app (goodIn_of _ (by decide +kernel)) ggX3_sink_X3_sit
theorem dX3_sink_0 : decode cX3_sink 0 = .ok (.iconst 0, 1) := by decide +kernel
theorem dX3_sink_1 : decode cX3_sink 1 = .ok (.istore_n 2, 1) := by decide +kernel
theorem dX3_sink_2 : decode cX3_sink 2 = .ok (.iconst 1, 1) := by decide +kernel
theorem dX3_sink_3 : decode cX3_sink 3 = .ok (.istore_n 3, 1) := by decide +kernel
theorem dX3_sink_4 : decode cX3_sink 4 = .ok (.iload_n 3, 1) := by decide +kernel
theorem dX3_sink_5 : decode cX3_sink 5 = .ok (.aload_n 0, 1) := by decide +kernel
theorem dX3_sink_6 : decode cX3_sink 6 = .ok (.getfield 28, 3) := by decide +kernel
theorem dX3_sink_9 : decode cX3_sink 9 = .ok (.if_icmp .ge 88, 3) := by decide +kernel
theorem dX3_sink_12 : decode cX3_sink 12 = .ok (.iload_n 3, 1) := by decide +kernel
theorem dX3_sink_13 : decode cX3_sink 13 = .ok (.iconst 1, 1) := by decide +kernel
theorem dX3_sink_14 : decode cX3_sink 14 = .ok (.iadd, 1) := by decide +kernel
theorem dX3_sink_15 : decode cX3_sink 15 = .ok (.aload_n 0, 1) := by decide +kernel
theorem dX3_sink_16 : decode cX3_sink 16 = .ok (.getfield 28, 3) := by decide +kernel
theorem dX3_sink_19 : decode cX3_sink 19 = .ok (.if_icmp .ge 33, 3) := by decide +kernel
theorem dX3_sink_22 : decode cX3_sink 22 = .ok (.aload_n 0, 1) := by decide +kernel
theorem dX3_sink_23 : decode cX3_sink 23 = .ok (.getfield 9, 3) := by decide +kernel
theorem dX3_sink_26 : decode cX3_sink 26 = .ok (.aload_n 0, 1) := by decide +kernel
theorem dX3_sink_27 : decode cX3_sink 27 = .ok (.getfield 15, 3) := by decide +kernel
theorem dX3_sink_30 : decode cX3_sink 30 = .ok (.iload_n 3, 1) := by decide +kernel
theorem dX3_sink_31 : decode cX3_sink 31 = .ok (.iconst 1, 1) := by decide +kernel
theorem dX3_sink_32 : decode cX3_sink 32 = .ok (.iadd, 1) := by decide +kernel
theorem dX3_sink_33 : decode cX3_sink 33 = .ok (.iaload, 1) := by decide +kernel
theorem dX3_sink_34 : decode cX3_sink 34 = .ok (.iaload, 1) := by decide +kernel
theorem dX3_sink_35 : decode cX3_sink 35 = .ok (.aload_n 0, 1) := by decide +kernel
theorem dX3_sink_36 : decode cX3_sink 36 = .ok (.getfield 9, 3) := by decide +kernel
theorem dX3_sink_39 : decode cX3_sink 39 = .ok (.aload_n 0, 1) := by decide +kernel
theorem dX3_sink_40 : decode cX3_sink 40 = .ok (.getfield 15, 3) := by decide +kernel
theorem dX3_sink_43 : decode cX3_sink 43 = .ok (.iload_n 3, 1) := by decide +kernel
theorem dX3_sink_44 : decode cX3_sink 44 = .ok (.iaload, 1) := by decide +kernel
theorem dX3_sink_45 : decode cX3_sink 45 = .ok (.iaload, 1) := by decide +kernel
theorem dX3_sink_46 : decode cX3_sink 46 = .ok (.if_icmp .ge 6, 3) := by decide +kernel
theorem dX3_sink_49 : decode cX3_sink 49 = .ok (.iinc 3 1, 3) := by decide +kernel
theorem dX3_sink_52 : decode cX3_sink 52 = .ok (.aload_n 0, 1) := by decide +kernel
theorem dX3_sink_53 : decode cX3_sink 53 = .ok (.getfield 9, 3) := by decide +kernel
theorem dX3_sink_56 : decode cX3_sink 56 = .ok (.aload_n 0, 1) := by decide +kernel
theorem dX3_sink_57 : decode cX3_sink 57 = .ok (.getfield 15, 3) := by decide +kernel
theorem dX3_sink_60 : decode cX3_sink 60 = .ok (.iload_n 3, 1) := by decide +kernel
theorem dX3_sink_61 : decode cX3_sink 61 = .ok (.iaload, 1) := by decide +kernel
theorem dX3_sink_62 : decode cX3_sink 62 = .ok (.iaload, 1) := by decide +kernel
theorem dX3_sink_63 : decode cX3_sink 63 = .ok (.aload_n 0, 1) := by decide +kernel
theorem dX3_sink_64 : decode cX3_sink 64 = .ok (.getfield 9, 3) := by decide +kernel
theorem dX3_sink_67 : decode cX3_sink 67 = .ok (.iload_n 1, 1) := by decide +kernel
theorem dX3_sink_68 : decode cX3_sink 68 = .ok (.iaload, 1) := by decide +kernel
theorem dX3_sink_69 : decode cX3_sink 69 = .ok (.if_icmp .lt 6, 3) := by decide +kernel
theorem dX3_sink_72 : decode cX3_sink 72 = .ok (.goto 25, 3) := by decide +kernel
theorem dX3_sink_75 : decode cX3_sink 75 = .ok (.aload_n 0, 1) := by decide +kernel
theorem dX3_sink_76 : decode cX3_sink 76 = .ok (.aload_n 0, 1) := by decide +kernel
theorem dX3_sink_77 : decode cX3_sink 77 = .ok (.getfield 15, 3) := by decide +kernel
theorem dX3_sink_80 : decode cX3_sink 80 = .ok (.iload_n 3, 1) := by decide +kernel
theorem dX3_sink_81 : decode cX3_sink 81 = .ok (.iaload, 1) := by decide +kernel
theorem dX3_sink_82 : decode cX3_sink 82 = .ok (.iload_n 2, 1) := by decide +kernel
theorem dX3_sink_83 : decode cX3_sink 83 = .ok (.invokevirtual 32, 3) := by decide +kernel
theorem dX3_sink_86 : decode cX3_sink 86 = .ok (.iload_n 3, 1) := by decide +kernel
theorem dX3_sink_87 : decode cX3_sink 87 = .ok (.istore_n 2, 1) := by decide +kernel
theorem dX3_sink_88 : decode cX3_sink 88 = .ok (.iconst 2, 1) := by decide +kernel
theorem dX3_sink_89 : decode cX3_sink 89 = .ok (.iload_n 2, 1) := by decide +kernel
theorem dX3_sink_90 : decode cX3_sink 90 = .ok (.imul, 1) := by decide +kernel
theorem dX3_sink_91 : decode cX3_sink 91 = .ok (.iconst 1, 1) := by decide +kernel
theorem dX3_sink_92 : decode cX3_sink 92 = .ok (.iadd, 1) := by decide +kernel
theorem dX3_sink_93 : decode cX3_sink 93 = .ok (.istore_n 3, 1) := by decide +kernel
theorem dX3_sink_94 : decode cX3_sink 94 = .ok (.goto (-90), 3) := by decide +kernel
theorem dX3_sink_97 : decode cX3_sink 97 = .ok (.aload_n 0, 1) := by decide +kernel
theorem dX3_sink_98 : decode cX3_sink 98 = .ok (.iload_n 1, 1) := by decide +kernel
theorem dX3_sink_99 : decode cX3_sink 99 = .ok (.iload_n 2, 1) := by decide +kernel
theorem dX3_sink_100 : decode cX3_sink 100 = .ok (.invokevirtual 32, 3) := by decide +kernel
theorem dX3_sink_103 : decode cX3_sink 103 = .ok (.return_, 1) := by decide +kernel
theorem dX3_sit_0 : decode cX3_sit 0 = .ok (.aload_n 0, 1) := by decide +kernel
theorem dX3_sit_1 : decode cX3_sit 1 = .ok (.getfield 15, 3) := by decide +kernel
theorem dX3_sit_4 : decode cX3_sit 4 = .ok (.iload_n 2, 1) := by decide +kernel
theorem dX3_sit_5 : decode cX3_sit 5 = .ok (.iload_n 1, 1) := by decide +kernel
theorem dX3_sit_6 : decode cX3_sit 6 = .ok (.iastore, 1) := by decide +kernel
theorem dX3_sit_7 : decode cX3_sit 7 = .ok (.aload_n 0, 1) := by decide +kernel
theorem dX3_sit_8 : decode cX3_sit 8 = .ok (.getfield 18, 3) := by decide +kernel
theorem dX3_sit_11 : decode cX3_sit 11 = .ok (.iload_n 1, 1) := by decide +kernel
theorem dX3_sit_12 : decode cX3_sit 12 = .ok (.iload_n 2, 1) := by decide +kernel
theorem dX3_sit_13 : decode cX3_sit 13 = .ok (.iastore, 1) := by decide +kernel
theorem dX3_sit_14 : decode cX3_sit 14 = .ok (.return_, 1) := by decide +kernel
theorem dX4_init_0 : decode cX4_init 0 = .ok (.aload_n 0, 1) := by decide +kernel
theorem dX4_init_1 : decode cX4_init 1 = .ok (.invokespecial 3, 3) := by decide +kernel
theorem dX4_init_4 : decode cX4_init 4 = .ok (.aload_n 0, 1) := by decide +kernel
theorem dX4_init_5 : decode cX4_init 5 = .ok (.iconst 5, 1) := by decide +kernel
theorem dX4_init_6 : decode cX4_init 6 = .ok (.newarray .int, 2) := by decide +kernel
theorem dX4_init_8 : decode cX4_init 8 = .ok (.putfield 9, 3) := by decide +kernel
theorem dX4_init_11 : decode cX4_init 11 = .ok (.aload_n 0, 1) := by decide +kernel
theorem dX4_init_12 : decode cX4_init 12 = .ok (.iconst 5, 1) := by decide +kernel
theorem dX4_init_13 : decode cX4_init 13 = .ok (.newarray .int, 2) := by decide +kernel
theorem dX4_init_15 : decode cX4_init 15 = .ok (.putfield 15, 3) := by decide +kernel
theorem dX4_init_18 : decode cX4_init 18 = .ok (.aload_n 0, 1) := by decide +kernel
theorem dX4_init_19 : decode cX4_init 19 = .ok (.bipush 6, 2) := by decide +kernel
theorem dX4_init_21 : decode cX4_init 21 = .ok (.newarray .int, 2) := by decide +kernel
theorem dX4_init_23 : decode cX4_init 23 = .ok (.putfield 18, 3) := by decide +kernel
theorem dX4_init_26 : decode cX4_init 26 = .ok (.aload_n 0, 1) := by decide +kernel
theorem dX4_init_27 : decode cX4_init 27 = .ok (.bipush 10, 2) := by decide +kernel
theorem dX4_init_29 : decode cX4_init 29 = .ok (.newarray .int, 2) := by decide +kernel
theorem dX4_init_31 : decode cX4_init 31 = .ok (.putfield 21, 3) := by decide +kernel
theorem dX4_init_34 : decode cX4_init 34 = .ok (.return_, 1) := by decide +kernel
theorem dX4_isOf_0 : decode cX4_isOf 0 = .ok (.aload_n 0, 1) := by decide +kernel
theorem dX4_isOf_1 : decode cX4_isOf 1 = .ok (.getfield 24, 3) := by decide +kernel
theorem dX4_isOf_4 : decode cX4_isOf 4 = .ok (.ifCond .eq 15, 3) := by decide +kernel
theorem dX4_isOf_7 : decode cX4_isOf 7 = .ok (.aload_n 0, 1) := by decide +kernel
theorem dX4_isOf_8 : decode cX4_isOf 8 = .ok (.getfield 24, 3) := by decide +kernel
theorem dX4_isOf_11 : decode cX4_isOf 11 = .ok (.iload_n 1, 1) := by decide +kernel
theorem dX4_isOf_12 : decode cX4_isOf 12 = .ok (.if_icmp .ne 7, 3) := by decide +kernel
theorem dX4_isOf_15 : decode cX4_isOf 15 = .ok (.iconst 1, 1) := by decide +kernel
theorem dX4_isOf_16 : decode cX4_isOf 16 = .ok (.goto 4, 3) := by decide +kernel
theorem dX4_isOf_19 : decode cX4_isOf 19 = .ok (.iconst 0, 1) := by decide +kernel
theorem dX4_isOf_20 : decode cX4_isOf 20 = .ok (.ireturn, 1) := by decide +kernel
theorem dX4_keepWalkers_0 : decode cX4_keepWalkers 0 = .ok (.aload_n 0, 1) := by decide +kernel
theorem dX4_keepWalkers_1 : decode cX4_keepWalkers 1 = .ok (.iload_n 2, 1) := by decide +kernel
theorem dX4_keepWalkers_2 : decode cX4_keepWalkers 2 = .ok (.putfield 28, 3) := by decide +kernel
theorem dX4_keepWalkers_5 : decode cX4_keepWalkers 5 = .ok (.iconst 0, 1) := by decide +kernel
theorem dX4_keepWalkers_6 : decode cX4_keepWalkers 6 = .ok (.istore_n 3, 1) := by decide +kernel
theorem dX4_keepWalkers_7 : decode cX4_keepWalkers 7 = .ok (.iload_n 3, 1) := by decide +kernel
theorem dX4_keepWalkers_8 : decode cX4_keepWalkers 8 = .ok (.iload_n 2, 1) := by decide +kernel
theorem dX4_keepWalkers_9 : decode cX4_keepWalkers 9 = .ok (.if_icmp .ge 33, 3) := by decide +kernel
theorem dX4_keepWalkers_12 : decode cX4_keepWalkers 12 = .ok (.aload_n 0, 1) := by decide +kernel
theorem dX4_keepWalkers_13 : decode cX4_keepWalkers 13 = .ok (.getfield 9, 3) := by decide +kernel
theorem dX4_keepWalkers_16 : decode cX4_keepWalkers 16 = .ok (.iload_n 3, 1) := by decide +kernel
theorem dX4_keepWalkers_17 : decode cX4_keepWalkers 17 = .ok (.aload_n 1, 1) := by decide +kernel
theorem dX4_keepWalkers_18 : decode cX4_keepWalkers 18 = .ok (.iload_n 3, 1) := by decide +kernel
theorem dX4_keepWalkers_19 : decode cX4_keepWalkers 19 = .ok (.aaload, 1) := by decide +kernel
theorem dX4_keepWalkers_20 : decode cX4_keepWalkers 20 = .ok (.getfield 31, 3) := by decide +kernel
theorem dX4_keepWalkers_23 : decode cX4_keepWalkers 23 = .ok (.iastore, 1) := by decide +kernel
theorem dX4_keepWalkers_24 : decode cX4_keepWalkers 24 = .ok (.aload_n 0, 1) := by decide +kernel
theorem dX4_keepWalkers_25 : decode cX4_keepWalkers 25 = .ok (.getfield 15, 3) := by decide +kernel
theorem dX4_keepWalkers_28 : decode cX4_keepWalkers 28 = .ok (.iload_n 3, 1) := by decide +kernel
theorem dX4_keepWalkers_29 : decode cX4_keepWalkers 29 = .ok (.aload_n 1, 1) := by decide +kernel
theorem dX4_keepWalkers_30 : decode cX4_keepWalkers 30 = .ok (.iload_n 3, 1) := by decide +kernel
theorem dX4_keepWalkers_31 : decode cX4_keepWalkers 31 = .ok (.aaload, 1) := by decide +kernel
theorem dX4_keepWalkers_32 : decode cX4_keepWalkers 32 = .ok (.getfield 36, 3) := by decide +kernel
theorem dX4_keepWalkers_35 : decode cX4_keepWalkers 35 = .ok (.iastore, 1) := by decide +kernel
theorem dX4_keepWalkers_36 : decode cX4_keepWalkers 36 = .ok (.iinc 3 1, 3) := by decide +kernel
theorem dX4_keepWalkers_39 : decode cX4_keepWalkers 39 = .ok (.goto (-32), 3) := by decide +kernel
theorem dX4_keepWalkers_42 : decode cX4_keepWalkers 42 = .ok (.return_, 1) := by decide +kernel
theorem dX4_keepPrints_0 : decode cX4_keepPrints 0 = .ok (.aload_n 0, 1) := by decide +kernel
theorem dX4_keepPrints_1 : decode cX4_keepPrints 1 = .ok (.iload_n 2, 1) := by decide +kernel
theorem dX4_keepPrints_2 : decode cX4_keepPrints 2 = .ok (.putfield 38, 3) := by decide +kernel
theorem dX4_keepPrints_5 : decode cX4_keepPrints 5 = .ok (.aload_n 1, 1) := by decide +kernel
theorem dX4_keepPrints_6 : decode cX4_keepPrints 6 = .ok (.iconst 0, 1) := by decide +kernel
theorem dX4_keepPrints_7 : decode cX4_keepPrints 7 = .ok (.aload_n 0, 1) := by decide +kernel
theorem dX4_keepPrints_8 : decode cX4_keepPrints 8 = .ok (.getfield 18, 3) := by decide +kernel
theorem dX4_keepPrints_11 : decode cX4_keepPrints 11 = .ok (.iconst 0, 1) := by decide +kernel
theorem dX4_keepPrints_12 : decode cX4_keepPrints 12 = .ok (.iload_n 2, 1) := by decide +kernel
theorem dX4_keepPrints_13 : decode cX4_keepPrints 13 = .ok (.invokestatic 41, 3) := by decide +kernel
theorem dX4_keepPrints_16 : decode cX4_keepPrints 16 = .ok (.return_, 1) := by decide +kernel
theorem dX4_keepPaces_0 : decode cX4_keepPaces 0 = .ok (.aload_n 0, 1) := by decide +kernel
theorem dX4_keepPaces_1 : decode cX4_keepPaces 1 = .ok (.iload_n 2, 1) := by decide +kernel
theorem dX4_keepPaces_2 : decode cX4_keepPaces 2 = .ok (.putfield 24, 3) := by decide +kernel
theorem dX4_keepPaces_5 : decode cX4_keepPaces 5 = .ok (.aload_n 1, 1) := by decide +kernel
theorem dX4_keepPaces_6 : decode cX4_keepPaces 6 = .ok (.getfield 47, 3) := by decide +kernel
theorem dX4_keepPaces_9 : decode cX4_keepPaces 9 = .ok (.iconst 0, 1) := by decide +kernel
theorem dX4_keepPaces_10 : decode cX4_keepPaces 10 = .ok (.aload_n 0, 1) := by decide +kernel
theorem dX4_keepPaces_11 : decode cX4_keepPaces 11 = .ok (.getfield 21, 3) := by decide +kernel
theorem dX4_keepPaces_14 : decode cX4_keepPaces 14 = .ok (.iconst 0, 1) := by decide +kernel
theorem dX4_keepPaces_15 : decode cX4_keepPaces 15 = .ok (.bipush 10, 2) := by decide +kernel
theorem dX4_keepPaces_17 : decode cX4_keepPaces 17 = .ok (.invokestatic 41, 3) := by decide +kernel
theorem dX4_keepPaces_20 : decode cX4_keepPaces 20 = .ok (.return_, 1) := by decide +kernel
theorem dX4_bringWalkers_0 : decode cX4_bringWalkers 0 = .ok (.iconst 0, 1) := by decide +kernel
theorem dX4_bringWalkers_1 : decode cX4_bringWalkers 1 = .ok (.istore_n 2, 1) := by decide +kernel
theorem dX4_bringWalkers_2 : decode cX4_bringWalkers 2 = .ok (.iload_n 2, 1) := by decide +kernel
theorem dX4_bringWalkers_3 : decode cX4_bringWalkers 3 = .ok (.aload_n 0, 1) := by decide +kernel
theorem dX4_bringWalkers_4 : decode cX4_bringWalkers 4 = .ok (.getfield 28, 3) := by decide +kernel
theorem dX4_bringWalkers_7 : decode cX4_bringWalkers 7 = .ok (.if_icmp .ge 33, 3) := by decide +kernel
theorem dX4_bringWalkers_10 : decode cX4_bringWalkers 10 = .ok (.aload_n 1, 1) := by decide +kernel
theorem dX4_bringWalkers_11 : decode cX4_bringWalkers 11 = .ok (.iload_n 2, 1) := by decide +kernel
theorem dX4_bringWalkers_12 : decode cX4_bringWalkers 12 = .ok (.aaload, 1) := by decide +kernel
theorem dX4_bringWalkers_13 : decode cX4_bringWalkers 13 = .ok (.aload_n 0, 1) := by decide +kernel
theorem dX4_bringWalkers_14 : decode cX4_bringWalkers 14 = .ok (.getfield 9, 3) := by decide +kernel
theorem dX4_bringWalkers_17 : decode cX4_bringWalkers 17 = .ok (.iload_n 2, 1) := by decide +kernel
theorem dX4_bringWalkers_18 : decode cX4_bringWalkers 18 = .ok (.iaload, 1) := by decide +kernel
theorem dX4_bringWalkers_19 : decode cX4_bringWalkers 19 = .ok (.putfield 31, 3) := by decide +kernel
theorem dX4_bringWalkers_22 : decode cX4_bringWalkers 22 = .ok (.aload_n 1, 1) := by decide +kernel
theorem dX4_bringWalkers_23 : decode cX4_bringWalkers 23 = .ok (.iload_n 2, 1) := by decide +kernel
theorem dX4_bringWalkers_24 : decode cX4_bringWalkers 24 = .ok (.aaload, 1) := by decide +kernel
theorem dX4_bringWalkers_25 : decode cX4_bringWalkers 25 = .ok (.aload_n 0, 1) := by decide +kernel
theorem dX4_bringWalkers_26 : decode cX4_bringWalkers 26 = .ok (.getfield 15, 3) := by decide +kernel
theorem dX4_bringWalkers_29 : decode cX4_bringWalkers 29 = .ok (.iload_n 2, 1) := by decide +kernel
theorem dX4_bringWalkers_30 : decode cX4_bringWalkers 30 = .ok (.iaload, 1) := by decide +kernel
theorem dX4_bringWalkers_31 : decode cX4_bringWalkers 31 = .ok (.putfield 36, 3) := by decide +kernel
theorem dX4_bringWalkers_34 : decode cX4_bringWalkers 34 = .ok (.iinc 2 1, 3) := by decide +kernel
theorem dX4_bringWalkers_37 : decode cX4_bringWalkers 37 = .ok (.goto (-35), 3) := by decide +kernel
theorem dX4_bringWalkers_40 : decode cX4_bringWalkers 40 = .ok (.aload_n 0, 1) := by decide +kernel
theorem dX4_bringWalkers_41 : decode cX4_bringWalkers 41 = .ok (.getfield 28, 3) := by decide +kernel
theorem dX4_bringWalkers_44 : decode cX4_bringWalkers 44 = .ok (.ireturn, 1) := by decide +kernel
theorem dX4_bringPrints_0 : decode cX4_bringPrints 0 = .ok (.aload_n 0, 1) := by decide +kernel
theorem dX4_bringPrints_1 : decode cX4_bringPrints 1 = .ok (.getfield 18, 3) := by decide +kernel
theorem dX4_bringPrints_4 : decode cX4_bringPrints 4 = .ok (.iconst 0, 1) := by decide +kernel
theorem dX4_bringPrints_5 : decode cX4_bringPrints 5 = .ok (.aload_n 1, 1) := by decide +kernel
theorem dX4_bringPrints_6 : decode cX4_bringPrints 6 = .ok (.iconst 0, 1) := by decide +kernel
theorem dX4_bringPrints_7 : decode cX4_bringPrints 7 = .ok (.aload_n 0, 1) := by decide +kernel
theorem dX4_bringPrints_8 : decode cX4_bringPrints 8 = .ok (.getfield 38, 3) := by decide +kernel
theorem dX4_bringPrints_11 : decode cX4_bringPrints 11 = .ok (.invokestatic 41, 3) := by decide +kernel
theorem dX4_bringPrints_14 : decode cX4_bringPrints 14 = .ok (.aload_n 0, 1) := by decide +kernel
theorem dX4_bringPrints_15 : decode cX4_bringPrints 15 = .ok (.getfield 38, 3) := by decide +kernel
theorem dX4_bringPrints_18 : decode cX4_bringPrints 18 = .ok (.ireturn, 1) := by decide +kernel
theorem dX4_bringPaces_0 : decode cX4_bringPaces 0 = .ok (.aload_n 0, 1) := by decide +kernel
theorem dX4_bringPaces_1 : decode cX4_bringPaces 1 = .ok (.getfield 21, 3) := by decide +kernel
theorem dX4_bringPaces_4 : decode cX4_bringPaces 4 = .ok (.iconst 0, 1) := by decide +kernel
theorem dX4_bringPaces_5 : decode cX4_bringPaces 5 = .ok (.aload_n 1, 1) := by decide +kernel
theorem dX4_bringPaces_6 : decode cX4_bringPaces 6 = .ok (.getfield 47, 3) := by decide +kernel
theorem dX4_bringPaces_9 : decode cX4_bringPaces 9 = .ok (.iconst 0, 1) := by decide +kernel
theorem dX4_bringPaces_10 : decode cX4_bringPaces 10 = .ok (.bipush 10, 2) := by decide +kernel
theorem dX4_bringPaces_12 : decode cX4_bringPaces 12 = .ok (.invokestatic 41, 3) := by decide +kernel
theorem dX4_bringPaces_15 : decode cX4_bringPaces 15 = .ok (.return_, 1) := by decide +kernel
theorem dX5_init_0 : decode cX5_init 0 = .ok (.aload_n 0, 1) := by decide +kernel
theorem dX5_init_1 : decode cX5_init 1 = .ok (.invokespecial 3, 3) := by decide +kernel
theorem dX5_init_4 : decode cX5_init 4 = .ok (.aload_n 0, 1) := by decide +kernel
theorem dX5_init_5 : decode cX5_init 5 = .ok (.bipush 50, 2) := by decide +kernel
theorem dX5_init_7 : decode cX5_init 7 = .ok (.newarray .int, 2) := by decide +kernel
theorem dX5_init_9 : decode cX5_init 9 = .ok (.putfield 11, 3) := by decide +kernel
theorem dX5_init_12 : decode cX5_init 12 = .ok (.return_, 1) := by decide +kernel
set_option maxRecDepth 20000 in
theorem ggX5_lettersIn_X5_codeIn : GoodIn wsX5_lettersIn wsX5_codeIn := goodIn_r _ [4, 5] (by decide +kernel) (by decide +kernel)
set_option maxRecDepth 20000 in
theorem gX5_lettersIn_X5_codeIn : GoodIn wsX5_lettersIn (va_wsS RX5 15 yX5_codeIn wsX5_codeIn) := goodIn_app (goodIn_of _ (by decide +kernel)) ggX5_lettersIn_X5_codeIn
theorem dX5_lettersIn_0 : decode cX5_lettersIn 0 = .ok (.iconst 0, 1) := by decide +kernel
theorem dX5_lettersIn_1 : decode cX5_lettersIn 1 = .ok (.istore_n 2, 1) := by decide +kernel
theorem dX5_lettersIn_2 : decode cX5_lettersIn 2 = .ok (.iconst 0, 1) := by decide +kernel
theorem dX5_lettersIn_3 : decode cX5_lettersIn 3 = .ok (.istore_n 3, 1) := by decide +kernel
theorem dX5_lettersIn_4 : decode cX5_lettersIn 4 = .ok (.iload_n 3, 1) := by decide +kernel
theorem dX5_lettersIn_5 : decode cX5_lettersIn 5 = .ok (.bipush 8, 2) := by decide +kernel
theorem dX5_lettersIn_7 : decode cX5_lettersIn 7 = .ok (.if_icmp .ge 43, 3) := by decide +kernel
theorem dX5_lettersIn_10 : decode cX5_lettersIn 10 = .ok (.lload_n 0, 1) := by decide +kernel
theorem dX5_lettersIn_11 : decode cX5_lettersIn 11 = .ok (.iload_n 3, 1) := by decide +kernel
theorem dX5_lettersIn_12 : decode cX5_lettersIn 12 = .ok (.invokestatic 15, 3) := by decide +kernel
theorem dX5_lettersIn_15 : decode cX5_lettersIn 15 = .ok (.istore 4, 2) := by decide +kernel
theorem dX5_lettersIn_17 : decode cX5_lettersIn 17 = .ok (.iload 4, 2) := by decide +kernel
theorem dX5_lettersIn_19 : decode cX5_lettersIn 19 = .ok (.bipush 126, 2) := by decide +kernel
theorem dX5_lettersIn_21 : decode cX5_lettersIn 21 = .ok (.if_icmp .gt 13, 3) := by decide +kernel
theorem dX5_lettersIn_24 : decode cX5_lettersIn 24 = .ok (.iload 4, 2) := by decide +kernel
theorem dX5_lettersIn_26 : decode cX5_lettersIn 26 = .ok (.ifCond .eq 10, 3) := by decide +kernel
theorem dX5_lettersIn_29 : decode cX5_lettersIn 29 = .ok (.iload_n 2, 1) := by decide +kernel
theorem dX5_lettersIn_30 : decode cX5_lettersIn 30 = .ok (.iload_n 3, 1) := by decide +kernel
theorem dX5_lettersIn_31 : decode cX5_lettersIn 31 = .ok (.if_icmp .ge 5, 3) := by decide +kernel
theorem dX5_lettersIn_34 : decode cX5_lettersIn 34 = .ok (.iconst (-1), 1) := by decide +kernel
theorem dX5_lettersIn_35 : decode cX5_lettersIn 35 = .ok (.ireturn, 1) := by decide +kernel
theorem dX5_lettersIn_36 : decode cX5_lettersIn 36 = .ok (.iload 4, 2) := by decide +kernel
theorem dX5_lettersIn_38 : decode cX5_lettersIn 38 = .ok (.ifCond .eq 6, 3) := by decide +kernel
theorem dX5_lettersIn_41 : decode cX5_lettersIn 41 = .ok (.iinc 2 1, 3) := by decide +kernel
theorem dX5_lettersIn_44 : decode cX5_lettersIn 44 = .ok (.iinc 3 1, 3) := by decide +kernel
theorem dX5_lettersIn_47 : decode cX5_lettersIn 47 = .ok (.goto (-43), 3) := by decide +kernel
theorem dX5_lettersIn_50 : decode cX5_lettersIn 50 = .ok (.iload_n 2, 1) := by decide +kernel
theorem dX5_lettersIn_51 : decode cX5_lettersIn 51 = .ok (.ireturn, 1) := by decide +kernel
theorem dX5_codeIn_0 : decode cX5_codeIn 0 = .ok (.lload_n 0, 1) := by decide +kernel
theorem dX5_codeIn_1 : decode cX5_codeIn 1 = .ok (.bipush 8, 2) := by decide +kernel
theorem dX5_codeIn_3 : decode cX5_codeIn 3 = .ok (.iload_n 2, 1) := by decide +kernel
theorem dX5_codeIn_4 : decode cX5_codeIn 4 = .ok (.imul, 1) := by decide +kernel
theorem dX5_codeIn_5 : decode cX5_codeIn 5 = .ok (.lushr, 1) := by decide +kernel
theorem dX5_codeIn_6 : decode cX5_codeIn 6 = .ok (.ldc2_w 19, 3) := by decide +kernel
theorem dX5_codeIn_9 : decode cX5_codeIn 9 = .ok (.land, 1) := by decide +kernel
theorem dX5_codeIn_10 : decode cX5_codeIn 10 = .ok (.l2i, 1) := by decide +kernel
theorem dX5_codeIn_11 : decode cX5_codeIn 11 = .ok (.ireturn, 1) := by decide +kernel
set_option maxRecDepth 20000 in
theorem ggX5_append_X5_codeIn : GoodIn wsX5_append wsX5_codeIn := goodIn_r _ [6, 7] (by decide +kernel) (by decide +kernel)
set_option maxRecDepth 20000 in
theorem gX5_append_X5_codeIn : GoodIn wsX5_append (va_wsS RX5 15 yX5_codeIn wsX5_codeIn) := goodIn_app (goodIn_of _ (by decide +kernel)) ggX5_append_X5_codeIn
theorem dX5_append_0 : decode cX5_append 0 = .ok (.iconst 0, 1) := by decide +kernel
theorem dX5_append_1 : decode cX5_append 1 = .ok (.istore 4, 2) := by decide +kernel
theorem dX5_append_3 : decode cX5_append 3 = .ok (.iload 4, 2) := by decide +kernel
theorem dX5_append_5 : decode cX5_append 5 = .ok (.iload_n 3, 1) := by decide +kernel
theorem dX5_append_6 : decode cX5_append 6 = .ok (.if_icmp .ge 43, 3) := by decide +kernel
theorem dX5_append_9 : decode cX5_append 9 = .ok (.aload_n 0, 1) := by decide +kernel
theorem dX5_append_10 : decode cX5_append 10 = .ok (.getfield 21, 3) := by decide +kernel
theorem dX5_append_13 : decode cX5_append 13 = .ok (.bipush 50, 2) := by decide +kernel
theorem dX5_append_15 : decode cX5_append 15 = .ok (.if_icmp .ge 34, 3) := by decide +kernel
theorem dX5_append_18 : decode cX5_append 18 = .ok (.aload_n 0, 1) := by decide +kernel
theorem dX5_append_19 : decode cX5_append 19 = .ok (.getfield 11, 3) := by decide +kernel
theorem dX5_append_22 : decode cX5_append 22 = .ok (.aload_n 0, 1) := by decide +kernel
theorem dX5_append_23 : decode cX5_append 23 = .ok (.getfield 21, 3) := by decide +kernel
theorem dX5_append_26 : decode cX5_append 26 = .ok (.lload_n 1, 1) := by decide +kernel
theorem dX5_append_27 : decode cX5_append 27 = .ok (.iload 4, 2) := by decide +kernel
theorem dX5_append_29 : decode cX5_append 29 = .ok (.invokestatic 15, 3) := by decide +kernel
theorem dX5_append_32 : decode cX5_append 32 = .ok (.iastore, 1) := by decide +kernel
theorem dX5_append_33 : decode cX5_append 33 = .ok (.aload_n 0, 1) := by decide +kernel
theorem dX5_append_34 : decode cX5_append 34 = .ok (.dup, 1) := by decide +kernel
theorem dX5_append_35 : decode cX5_append 35 = .ok (.getfield 21, 3) := by decide +kernel
theorem dX5_append_38 : decode cX5_append 38 = .ok (.iconst 1, 1) := by decide +kernel
theorem dX5_append_39 : decode cX5_append 39 = .ok (.iadd, 1) := by decide +kernel
theorem dX5_append_40 : decode cX5_append 40 = .ok (.putfield 21, 3) := by decide +kernel
theorem dX5_append_43 : decode cX5_append 43 = .ok (.iinc 4 1, 3) := by decide +kernel
theorem dX5_append_46 : decode cX5_append 46 = .ok (.goto (-43), 3) := by decide +kernel
theorem dX5_append_49 : decode cX5_append 49 = .ok (.return_, 1) := by decide +kernel
set_option maxRecDepth 20000 in
theorem ggX5_readable_X5_phaseBehind : GoodIn wsX5_readable wsX5_phaseBehind := goodIn_r _ [9, 10, 1, 2, 11, 12, 8, 13, 14, 15, 16, 17, 3, 18, 19, 20, 21, 22, 23, 24, 25, 26] (by decide +kernel) (by decide +kernel)
set_option maxRecDepth 20000 in
theorem gX5_readable_X5_phaseBehind : GoodIn wsX5_readable (wsV RX5 34 RX5 yX5_phaseBehind wsX5_phaseBehind) := goodIn_app (goodIn_of _ (by decide +kernel)) ggX5_readable_X5_phaseBehind
theorem dX5_readable_0 : decode cX5_readable 0 = .ok (.aload_n 0, 1) := by decide +kernel
theorem dX5_readable_1 : decode cX5_readable 1 = .ok (.iconst 0, 1) := by decide +kernel
theorem dX5_readable_2 : decode cX5_readable 2 = .ok (.putfield 25, 3) := by decide +kernel
theorem dX5_readable_5 : decode cX5_readable 5 = .ok (.aload_n 0, 1) := by decide +kernel
theorem dX5_readable_6 : decode cX5_readable 6 = .ok (.iconst 0, 1) := by decide +kernel
theorem dX5_readable_7 : decode cX5_readable 7 = .ok (.putfield 28, 3) := by decide +kernel
theorem dX5_readable_10 : decode cX5_readable 10 = .ok (.aload_n 0, 1) := by decide +kernel
theorem dX5_readable_11 : decode cX5_readable 11 = .ok (.iconst 0, 1) := by decide +kernel
theorem dX5_readable_12 : decode cX5_readable 12 = .ok (.putfield 31, 3) := by decide +kernel
theorem dX5_readable_15 : decode cX5_readable 15 = .ok (.iconst 0, 1) := by decide +kernel
theorem dX5_readable_16 : decode cX5_readable 16 = .ok (.istore_n 1, 1) := by decide +kernel
theorem dX5_readable_17 : decode cX5_readable 17 = .ok (.iload_n 1, 1) := by decide +kernel
theorem dX5_readable_18 : decode cX5_readable 18 = .ok (.aload_n 0, 1) := by decide +kernel
theorem dX5_readable_19 : decode cX5_readable 19 = .ok (.getfield 21, 3) := by decide +kernel
theorem dX5_readable_22 : decode cX5_readable 22 = .ok (.if_icmp .ge 29, 3) := by decide +kernel
theorem dX5_readable_25 : decode cX5_readable 25 = .ok (.aload_n 0, 1) := by decide +kernel
theorem dX5_readable_26 : decode cX5_readable 26 = .ok (.aload_n 0, 1) := by decide +kernel
theorem dX5_readable_27 : decode cX5_readable 27 = .ok (.iload_n 1, 1) := by decide +kernel
theorem dX5_readable_28 : decode cX5_readable 28 = .ok (.invokevirtual 34, 3) := by decide +kernel
theorem dX5_readable_31 : decode cX5_readable 31 = .ok (.putfield 25, 3) := by decide +kernel
theorem dX5_readable_34 : decode cX5_readable 34 = .ok (.aload_n 0, 1) := by decide +kernel
theorem dX5_readable_35 : decode cX5_readable 35 = .ok (.getfield 25, 3) := by decide +kernel
theorem dX5_readable_38 : decode cX5_readable 38 = .ok (.bipush 7, 2) := by decide +kernel
theorem dX5_readable_40 : decode cX5_readable 40 = .ok (.if_icmp .ne 5, 3) := by decide +kernel
theorem dX5_readable_43 : decode cX5_readable 43 = .ok (.iload_n 1, 1) := by decide +kernel
theorem dX5_readable_44 : decode cX5_readable 44 = .ok (.ireturn, 1) := by decide +kernel
theorem dX5_readable_45 : decode cX5_readable 45 = .ok (.iinc 1 1, 3) := by decide +kernel
theorem dX5_readable_48 : decode cX5_readable 48 = .ok (.goto (-31), 3) := by decide +kernel
theorem dX5_readable_51 : decode cX5_readable 51 = .ok (.aload_n 0, 1) := by decide +kernel
theorem dX5_readable_52 : decode cX5_readable 52 = .ok (.getfield 21, 3) := by decide +kernel
theorem dX5_readable_55 : decode cX5_readable 55 = .ok (.ireturn, 1) := by decide +kernel
set_option maxRecDepth 20000 in
theorem ggX5_isTown_X5_readable : GoodIn wsX5_isTown wsX5_readable := goodIn_r _ [7, 2, 8, 9, 1, 10, 11, 12, 6, 13, 14, 15, 16, 17, 18, 19, 20, 21, 22, 23, 24, 25, 26, 27, 28, 29, 30] (by decide +kernel) (by decide +kernel)
set_option maxRecDepth 20000 in
theorem gX5_isTown_X5_readable : GoodIn wsX5_isTown (wsV RX5 38 RX5 yX5_readable wsX5_readable) := goodIn_app (goodIn_of _ (by decide +kernel)) ggX5_isTown_X5_readable
theorem dX5_isTown_0 : decode cX5_isTown 0 = .ok (.aload_n 0, 1) := by decide +kernel
theorem dX5_isTown_1 : decode cX5_isTown 1 = .ok (.invokevirtual 38, 3) := by decide +kernel
theorem dX5_isTown_4 : decode cX5_isTown 4 = .ok (.aload_n 0, 1) := by decide +kernel
theorem dX5_isTown_5 : decode cX5_isTown 5 = .ok (.getfield 21, 3) := by decide +kernel
theorem dX5_isTown_8 : decode cX5_isTown 8 = .ok (.if_icmp .ne 32, 3) := by decide +kernel
theorem dX5_isTown_11 : decode cX5_isTown 11 = .ok (.aload_n 0, 1) := by decide +kernel
theorem dX5_isTown_12 : decode cX5_isTown 12 = .ok (.getfield 25, 3) := by decide +kernel
theorem dX5_isTown_15 : decode cX5_isTown 15 = .ok (.iconst 3, 1) := by decide +kernel
theorem dX5_isTown_16 : decode cX5_isTown 16 = .ok (.if_icmp .eq 20, 3) := by decide +kernel
theorem dX5_isTown_19 : decode cX5_isTown 19 = .ok (.aload_n 0, 1) := by decide +kernel
theorem dX5_isTown_20 : decode cX5_isTown 20 = .ok (.getfield 25, 3) := by decide +kernel
theorem dX5_isTown_23 : decode cX5_isTown 23 = .ok (.iconst 4, 1) := by decide +kernel
theorem dX5_isTown_24 : decode cX5_isTown 24 = .ok (.if_icmp .eq 12, 3) := by decide +kernel
theorem dX5_isTown_27 : decode cX5_isTown 27 = .ok (.aload_n 0, 1) := by decide +kernel
theorem dX5_isTown_28 : decode cX5_isTown 28 = .ok (.getfield 25, 3) := by decide +kernel
theorem dX5_isTown_31 : decode cX5_isTown 31 = .ok (.bipush 6, 2) := by decide +kernel
theorem dX5_isTown_33 : decode cX5_isTown 33 = .ok (.if_icmp .ne 7, 3) := by decide +kernel
theorem dX5_isTown_36 : decode cX5_isTown 36 = .ok (.iconst 1, 1) := by decide +kernel
theorem dX5_isTown_37 : decode cX5_isTown 37 = .ok (.goto 4, 3) := by decide +kernel
theorem dX5_isTown_40 : decode cX5_isTown 40 = .ok (.iconst 0, 1) := by decide +kernel
theorem dX5_isTown_41 : decode cX5_isTown 41 = .ok (.ireturn, 1) := by decide +kernel
set_option maxRecDepth 20000 in
theorem ggX5_phaseBehind_X5_isPlaceSign : GoodIn wsX5_phaseBehind wsX5_isPlaceSign := goodIn_r _ [7] (by decide +kernel) (by decide +kernel)
set_option maxRecDepth 20000 in
theorem gX5_phaseBehind_X5_isPlaceSign : GoodIn wsX5_phaseBehind (va_wsS RX5 42 yX5_isPlaceSign wsX5_isPlaceSign) := goodIn_app (goodIn_of _ (by decide +kernel)) ggX5_phaseBehind_X5_isPlaceSign
set_option maxRecDepth 20000 in
theorem ggX5_phaseBehind_X5_phaseBehindGate : GoodIn wsX5_phaseBehind wsX5_phaseBehindGate := goodIn_r _ [11, 12, 17, 18, 19, 20, 21] (by decide +kernel) (by decide +kernel)
set_option maxRecDepth 20000 in
theorem gX5_phaseBehind_X5_phaseBehindGate : GoodIn wsX5_phaseBehind (wsV RX5 46 RX5 yX5_phaseBehindGate wsX5_phaseBehindGate) := goodIn_app (goodIn_of _ (by decide +kernel)) ggX5_phaseBehind_X5_phaseBehindGate
set_option maxRecDepth 20000 in
theorem ggX5_phaseBehind_X5_phaseBehindStreet : GoodIn wsX5_phaseBehind wsX5_phaseBehindStreet := goodIn_r _ [16, 3, 17, 18, 19, 20, 21] (by decide +kernel) (by decide +kernel)
set_option maxRecDepth 20000 in
theorem gX5_phaseBehind_X5_phaseBehindStreet : GoodIn wsX5_phaseBehind (wsV RX5 49 RX5 yX5_phaseBehindStreet wsX5_phaseBehindStreet) := goodIn_app (goodIn_of _ (by decide +kernel)) ggX5_phaseBehind_X5_phaseBehindStreet
theorem dX5_phaseBehind_0 : decode cX5_phaseBehind 0 = .ok (.aload_n 0, 1) := by decide +kernel
theorem dX5_phaseBehind_1 : decode cX5_phaseBehind 1 = .ok (.getfield 11, 3) := by decide +kernel
theorem dX5_phaseBehind_4 : decode cX5_phaseBehind 4 = .ok (.iload_n 1, 1) := by decide +kernel
theorem dX5_phaseBehind_5 : decode cX5_phaseBehind 5 = .ok (.iaload, 1) := by decide +kernel
theorem dX5_phaseBehind_6 : decode cX5_phaseBehind 6 = .ok (.istore_n 2, 1) := by decide +kernel
theorem dX5_phaseBehind_7 : decode cX5_phaseBehind 7 = .ok (.aload_n 0, 1) := by decide +kernel
theorem dX5_phaseBehind_8 : decode cX5_phaseBehind 8 = .ok (.getfield 25, 3) := by decide +kernel
theorem dX5_phaseBehind_11 : decode cX5_phaseBehind 11 = .ok (.tableswitch 149 0 5 #[37, 51, 81, 110, 129, 135], 37) := by decide +kernel
theorem dX5_phaseBehind_48 : decode cX5_phaseBehind 48 = .ok (.iload_n 2, 1) := by decide +kernel
theorem dX5_phaseBehind_49 : decode cX5_phaseBehind 49 = .ok (.invokestatic 42, 3) := by decide +kernel
theorem dX5_phaseBehind_52 : decode cX5_phaseBehind 52 = .ok (.ifCond .eq 7, 3) := by decide +kernel
theorem dX5_phaseBehind_55 : decode cX5_phaseBehind 55 = .ok (.iconst 1, 1) := by decide +kernel
theorem dX5_phaseBehind_56 : decode cX5_phaseBehind 56 = .ok (.goto 5, 3) := by decide +kernel
theorem dX5_phaseBehind_59 : decode cX5_phaseBehind 59 = .ok (.bipush 7, 2) := by decide +kernel
theorem dX5_phaseBehind_61 : decode cX5_phaseBehind 61 = .ok (.ireturn, 1) := by decide +kernel
theorem dX5_phaseBehind_62 : decode cX5_phaseBehind 62 = .ok (.iload_n 1, 1) := by decide +kernel
theorem dX5_phaseBehind_63 : decode cX5_phaseBehind 63 = .ok (.ifCond .le 26, 3) := by decide +kernel
theorem dX5_phaseBehind_66 : decode cX5_phaseBehind 66 = .ok (.iload_n 2, 1) := by decide +kernel
theorem dX5_phaseBehind_67 : decode cX5_phaseBehind 67 = .ok (.invokestatic 42, 3) := by decide +kernel
theorem dX5_phaseBehind_70 : decode cX5_phaseBehind 70 = .ok (.ifCond .eq 19, 3) := by decide +kernel
theorem dX5_phaseBehind_73 : decode cX5_phaseBehind 73 = .ok (.iload_n 2, 1) := by decide +kernel
theorem dX5_phaseBehind_74 : decode cX5_phaseBehind 74 = .ok (.aload_n 0, 1) := by decide +kernel
theorem dX5_phaseBehind_75 : decode cX5_phaseBehind 75 = .ok (.getfield 11, 3) := by decide +kernel
theorem dX5_phaseBehind_78 : decode cX5_phaseBehind 78 = .ok (.iload_n 1, 1) := by decide +kernel
theorem dX5_phaseBehind_79 : decode cX5_phaseBehind 79 = .ok (.iconst 1, 1) := by decide +kernel
theorem dX5_phaseBehind_80 : decode cX5_phaseBehind 80 = .ok (.isub, 1) := by decide +kernel
theorem dX5_phaseBehind_81 : decode cX5_phaseBehind 81 = .ok (.iaload, 1) := by decide +kernel
theorem dX5_phaseBehind_82 : decode cX5_phaseBehind 82 = .ok (.if_icmp .eq 7, 3) := by decide +kernel
theorem dX5_phaseBehind_85 : decode cX5_phaseBehind 85 = .ok (.iconst 2, 1) := by decide +kernel
theorem dX5_phaseBehind_86 : decode cX5_phaseBehind 86 = .ok (.goto 5, 3) := by decide +kernel
theorem dX5_phaseBehind_89 : decode cX5_phaseBehind 89 = .ok (.bipush 7, 2) := by decide +kernel
theorem dX5_phaseBehind_91 : decode cX5_phaseBehind 91 = .ok (.ireturn, 1) := by decide +kernel
theorem dX5_phaseBehind_92 : decode cX5_phaseBehind 92 = .ok (.aload_n 0, 1) := by decide +kernel
theorem dX5_phaseBehind_93 : decode cX5_phaseBehind 93 = .ok (.dup, 1) := by decide +kernel
theorem dX5_phaseBehind_94 : decode cX5_phaseBehind 94 = .ok (.getfield 28, 3) := by decide +kernel
theorem dX5_phaseBehind_97 : decode cX5_phaseBehind 97 = .ok (.iconst 1, 1) := by decide +kernel
theorem dX5_phaseBehind_98 : decode cX5_phaseBehind 98 = .ok (.iadd, 1) := by decide +kernel
theorem dX5_phaseBehind_99 : decode cX5_phaseBehind 99 = .ok (.putfield 28, 3) := by decide +kernel
theorem dX5_phaseBehind_102 : decode cX5_phaseBehind 102 = .ok (.iload_n 2, 1) := by decide +kernel
theorem dX5_phaseBehind_103 : decode cX5_phaseBehind 103 = .ok (.bipush 48, 2) := by decide +kernel
theorem dX5_phaseBehind_105 : decode cX5_phaseBehind 105 = .ok (.if_icmp .lt 13, 3) := by decide +kernel
theorem dX5_phaseBehind_108 : decode cX5_phaseBehind 108 = .ok (.iload_n 2, 1) := by decide +kernel
theorem dX5_phaseBehind_109 : decode cX5_phaseBehind 109 = .ok (.bipush 57, 2) := by decide +kernel
theorem dX5_phaseBehind_111 : decode cX5_phaseBehind 111 = .ok (.if_icmp .gt 7, 3) := by decide +kernel
theorem dX5_phaseBehind_114 : decode cX5_phaseBehind 114 = .ok (.iconst 3, 1) := by decide +kernel
theorem dX5_phaseBehind_115 : decode cX5_phaseBehind 115 = .ok (.goto 5, 3) := by decide +kernel
theorem dX5_phaseBehind_118 : decode cX5_phaseBehind 118 = .ok (.bipush 7, 2) := by decide +kernel
theorem dX5_phaseBehind_120 : decode cX5_phaseBehind 120 = .ok (.ireturn, 1) := by decide +kernel
theorem dX5_phaseBehind_121 : decode cX5_phaseBehind 121 = .ok (.iload_n 2, 1) := by decide +kernel
theorem dX5_phaseBehind_122 : decode cX5_phaseBehind 122 = .ok (.bipush 33, 2) := by decide +kernel
theorem dX5_phaseBehind_124 : decode cX5_phaseBehind 124 = .ok (.if_icmp .ne 10, 3) := by decide +kernel
theorem dX5_phaseBehind_127 : decode cX5_phaseBehind 127 = .ok (.aload_n 0, 1) := by decide +kernel
theorem dX5_phaseBehind_128 : decode cX5_phaseBehind 128 = .ok (.invokevirtual 46, 3) := by decide +kernel
theorem dX5_phaseBehind_131 : decode cX5_phaseBehind 131 = .ok (.goto 8, 3) := by decide +kernel
theorem dX5_phaseBehind_134 : decode cX5_phaseBehind 134 = .ok (.aload_n 0, 1) := by decide +kernel
theorem dX5_phaseBehind_135 : decode cX5_phaseBehind 135 = .ok (.iload_n 2, 1) := by decide +kernel
theorem dX5_phaseBehind_136 : decode cX5_phaseBehind 136 = .ok (.invokevirtual 49, 3) := by decide +kernel
theorem dX5_phaseBehind_139 : decode cX5_phaseBehind 139 = .ok (.ireturn, 1) := by decide +kernel
theorem dX5_phaseBehind_140 : decode cX5_phaseBehind 140 = .ok (.aload_n 0, 1) := by decide +kernel
theorem dX5_phaseBehind_141 : decode cX5_phaseBehind 141 = .ok (.iload_n 2, 1) := by decide +kernel
theorem dX5_phaseBehind_142 : decode cX5_phaseBehind 142 = .ok (.invokevirtual 49, 3) := by decide +kernel
theorem dX5_phaseBehind_145 : decode cX5_phaseBehind 145 = .ok (.ireturn, 1) := by decide +kernel
theorem dX5_phaseBehind_146 : decode cX5_phaseBehind 146 = .ok (.iload_n 2, 1) := by decide +kernel
theorem dX5_phaseBehind_147 : decode cX5_phaseBehind 147 = .ok (.bipush 102, 2) := by decide +kernel
theorem dX5_phaseBehind_149 : decode cX5_phaseBehind 149 = .ok (.if_icmp .ne 8, 3) := by decide +kernel
theorem dX5_phaseBehind_152 : decode cX5_phaseBehind 152 = .ok (.bipush 6, 2) := by decide +kernel
theorem dX5_phaseBehind_154 : decode cX5_phaseBehind 154 = .ok (.goto 5, 3) := by decide +kernel
theorem dX5_phaseBehind_157 : decode cX5_phaseBehind 157 = .ok (.bipush 7, 2) := by decide +kernel
theorem dX5_phaseBehind_159 : decode cX5_phaseBehind 159 = .ok (.ireturn, 1) := by decide +kernel
theorem dX5_phaseBehind_160 : decode cX5_phaseBehind 160 = .ok (.bipush 7, 2) := by decide +kernel
theorem dX5_phaseBehind_162 : decode cX5_phaseBehind 162 = .ok (.ireturn, 1) := by decide +kernel
theorem dX5_phaseBehindGate_0 : decode cX5_phaseBehindGate 0 = .ok (.aload_n 0, 1) := by decide +kernel
theorem dX5_phaseBehindGate_1 : decode cX5_phaseBehindGate 1 = .ok (.dup, 1) := by decide +kernel
theorem dX5_phaseBehindGate_2 : decode cX5_phaseBehindGate 2 = .ok (.getfield 31, 3) := by decide +kernel
theorem dX5_phaseBehindGate_5 : decode cX5_phaseBehindGate 5 = .ok (.iconst 1, 1) := by decide +kernel
theorem dX5_phaseBehindGate_6 : decode cX5_phaseBehindGate 6 = .ok (.iadd, 1) := by decide +kernel
theorem dX5_phaseBehindGate_7 : decode cX5_phaseBehindGate 7 = .ok (.putfield 31, 3) := by decide +kernel
theorem dX5_phaseBehindGate_10 : decode cX5_phaseBehindGate 10 = .ok (.aload_n 0, 1) := by decide +kernel
theorem dX5_phaseBehindGate_11 : decode cX5_phaseBehindGate 11 = .ok (.getfield 31, 3) := by decide +kernel
theorem dX5_phaseBehindGate_14 : decode cX5_phaseBehindGate 14 = .ok (.iconst 3, 1) := by decide +kernel
theorem dX5_phaseBehindGate_15 : decode cX5_phaseBehindGate 15 = .ok (.if_icmp .gt 7, 3) := by decide +kernel
theorem dX5_phaseBehindGate_18 : decode cX5_phaseBehindGate 18 = .ok (.iconst 4, 1) := by decide +kernel
theorem dX5_phaseBehindGate_19 : decode cX5_phaseBehindGate 19 = .ok (.goto 5, 3) := by decide +kernel
theorem dX5_phaseBehindGate_22 : decode cX5_phaseBehindGate 22 = .ok (.bipush 7, 2) := by decide +kernel
theorem dX5_phaseBehindGate_24 : decode cX5_phaseBehindGate 24 = .ok (.ireturn, 1) := by decide +kernel
theorem dX5_phaseBehindStreet_0 : decode cX5_phaseBehindStreet 0 = .ok (.iload_n 1, 1) := by decide +kernel
theorem dX5_phaseBehindStreet_1 : decode cX5_phaseBehindStreet 1 = .ok (.bipush 44, 2) := by decide +kernel
theorem dX5_phaseBehindStreet_3 : decode cX5_phaseBehindStreet 3 = .ok (.if_icmp .ne 14, 3) := by decide +kernel
theorem dX5_phaseBehindStreet_6 : decode cX5_phaseBehindStreet 6 = .ok (.aload_n 0, 1) := by decide +kernel
theorem dX5_phaseBehindStreet_7 : decode cX5_phaseBehindStreet 7 = .ok (.getfield 28, 3) := by decide +kernel
theorem dX5_phaseBehindStreet_10 : decode cX5_phaseBehindStreet 10 = .ok (.bipush 10, 2) := by decide +kernel
theorem dX5_phaseBehindStreet_12 : decode cX5_phaseBehindStreet 12 = .ok (.if_icmp .ge 5, 3) := by decide +kernel
theorem dX5_phaseBehindStreet_15 : decode cX5_phaseBehindStreet 15 = .ok (.iconst 0, 1) := by decide +kernel
theorem dX5_phaseBehindStreet_16 : decode cX5_phaseBehindStreet 16 = .ok (.ireturn, 1) := by decide +kernel
theorem dX5_phaseBehindStreet_17 : decode cX5_phaseBehindStreet 17 = .ok (.iload_n 1, 1) := by decide +kernel
theorem dX5_phaseBehindStreet_18 : decode cX5_phaseBehindStreet 18 = .ok (.bipush 59, 2) := by decide +kernel
theorem dX5_phaseBehindStreet_20 : decode cX5_phaseBehindStreet 20 = .ok (.if_icmp .ne 7, 3) := by decide +kernel
theorem dX5_phaseBehindStreet_23 : decode cX5_phaseBehindStreet 23 = .ok (.iconst 5, 1) := by decide +kernel
theorem dX5_phaseBehindStreet_24 : decode cX5_phaseBehindStreet 24 = .ok (.goto 5, 3) := by decide +kernel
theorem dX5_phaseBehindStreet_27 : decode cX5_phaseBehindStreet 27 = .ok (.bipush 7, 2) := by decide +kernel
theorem dX5_phaseBehindStreet_29 : decode cX5_phaseBehindStreet 29 = .ok (.ireturn, 1) := by decide +kernel
theorem dX5_isPlaceSign_0 : decode cX5_isPlaceSign 0 = .ok (.iload_n 0, 1) := by decide +kernel
theorem dX5_isPlaceSign_1 : decode cX5_isPlaceSign 1 = .ok (.bipush 48, 2) := by decide +kernel
theorem dX5_isPlaceSign_3 : decode cX5_isPlaceSign 3 = .ok (.if_icmp .lt 13, 3) := by decide +kernel
theorem dX5_isPlaceSign_6 : decode cX5_isPlaceSign 6 = .ok (.iload_n 0, 1) := by decide +kernel
theorem dX5_isPlaceSign_7 : decode cX5_isPlaceSign 7 = .ok (.bipush 55, 2) := by decide +kernel
theorem dX5_isPlaceSign_9 : decode cX5_isPlaceSign 9 = .ok (.if_icmp .ge 7, 3) := by decide +kernel
theorem dX5_isPlaceSign_12 : decode cX5_isPlaceSign 12 = .ok (.iconst 1, 1) := by decide +kernel
theorem dX5_isPlaceSign_13 : decode cX5_isPlaceSign 13 = .ok (.goto 4, 3) := by decide +kernel
theorem dX5_isPlaceSign_16 : decode cX5_isPlaceSign 16 = .ok (.iconst 0, 1) := by decide +kernel
theorem dX5_isPlaceSign_17 : decode cX5_isPlaceSign 17 = .ok (.ireturn, 1) := by decide +kernel
theorem dX5_digitAt_0 : decode cX5_digitAt 0 = .ok (.aload_n 0, 1) := by decide +kernel
theorem dX5_digitAt_1 : decode cX5_digitAt 1 = .ok (.getfield 11, 3) := by decide +kernel
theorem dX5_digitAt_4 : decode cX5_digitAt 4 = .ok (.iload_n 1, 1) := by decide +kernel
theorem dX5_digitAt_5 : decode cX5_digitAt 5 = .ok (.iaload, 1) := by decide +kernel
theorem dX5_digitAt_6 : decode cX5_digitAt 6 = .ok (.bipush 48, 2) := by decide +kernel
theorem dX5_digitAt_8 : decode cX5_digitAt 8 = .ok (.isub, 1) := by decide +kernel
theorem dX5_digitAt_9 : decode cX5_digitAt 9 = .ok (.ireturn, 1) := by decide +kernel
theorem dX5_hasAt_0 : decode cX5_hasAt 0 = .ok (.iload_n 1, 1) := by decide +kernel
theorem dX5_hasAt_1 : decode cX5_hasAt 1 = .ok (.ifCond .lt 25, 3) := by decide +kernel
theorem dX5_hasAt_4 : decode cX5_hasAt 4 = .ok (.iload_n 1, 1) := by decide +kernel
theorem dX5_hasAt_5 : decode cX5_hasAt 5 = .ok (.aload_n 0, 1) := by decide +kernel
theorem dX5_hasAt_6 : decode cX5_hasAt 6 = .ok (.getfield 21, 3) := by decide +kernel
theorem dX5_hasAt_9 : decode cX5_hasAt 9 = .ok (.if_icmp .ge 17, 3) := by decide +kernel
theorem dX5_hasAt_12 : decode cX5_hasAt 12 = .ok (.aload_n 0, 1) := by decide +kernel
theorem dX5_hasAt_13 : decode cX5_hasAt 13 = .ok (.getfield 11, 3) := by decide +kernel
theorem dX5_hasAt_16 : decode cX5_hasAt 16 = .ok (.iload_n 1, 1) := by decide +kernel
theorem dX5_hasAt_17 : decode cX5_hasAt 17 = .ok (.iaload, 1) := by decide +kernel
theorem dX5_hasAt_18 : decode cX5_hasAt 18 = .ok (.iload_n 2, 1) := by decide +kernel
theorem dX5_hasAt_19 : decode cX5_hasAt 19 = .ok (.if_icmp .ne 7, 3) := by decide +kernel
theorem dX5_hasAt_22 : decode cX5_hasAt 22 = .ok (.iconst 1, 1) := by decide +kernel
theorem dX5_hasAt_23 : decode cX5_hasAt 23 = .ok (.goto 4, 3) := by decide +kernel
theorem dX5_hasAt_26 : decode cX5_hasAt 26 = .ok (.iconst 0, 1) := by decide +kernel
theorem dX5_hasAt_27 : decode cX5_hasAt 27 = .ok (.ireturn, 1) := by decide +kernel
theorem dX6_init_0 : decode cX6_init 0 = .ok (.aload_n 0, 1) := by decide +kernel
theorem dX6_init_1 : decode cX6_init 1 = .ok (.invokespecial 3, 3) := by decide +kernel
theorem dX6_init_4 : decode cX6_init 4 = .ok (.aload_n 0, 1) := by decide +kernel
theorem dX6_init_5 : decode cX6_init 5 = .ok (.bipush 14, 2) := by decide +kernel
theorem dX6_init_7 : decode cX6_init 7 = .ok (.newarray .long, 2) := by decide +kernel
theorem dX6_init_9 : decode cX6_init 9 = .ok (.putfield 9, 3) := by decide +kernel
theorem dX6_init_12 : decode cX6_init 12 = .ok (.aload_n 0, 1) := by decide +kernel
theorem dX6_init_13 : decode cX6_init 13 = .ok (.bipush 10, 2) := by decide +kernel
theorem dX6_init_15 : decode cX6_init 15 = .ok (.newarray .int, 2) := by decide +kernel
theorem dX6_init_17 : decode cX6_init 17 = .ok (.putfield 15, 3) := by decide +kernel
theorem dX6_init_20 : decode cX6_init 20 = .ok (.return_, 1) := by decide +kernel
theorem dX6_take_0 : decode cX6_take 0 = .ok (.iconst 0, 1) := by decide +kernel
theorem dX6_take_1 : decode cX6_take 1 = .ok (.istore_n 3, 1) := by decide +kernel
theorem dX6_take_2 : decode cX6_take 2 = .ok (.iload_n 3, 1) := by decide +kernel
theorem dX6_take_3 : decode cX6_take 3 = .ok (.iload_n 2, 1) := by decide +kernel
theorem dX6_take_4 : decode cX6_take 4 = .ok (.if_icmp .ge 23, 3) := by decide +kernel
theorem dX6_take_7 : decode cX6_take 7 = .ok (.aload_n 0, 1) := by decide +kernel
theorem dX6_take_8 : decode cX6_take 8 = .ok (.getfield 15, 3) := by decide +kernel
theorem dX6_take_11 : decode cX6_take 11 = .ok (.iload_n 3, 1) := by decide +kernel
theorem dX6_take_12 : decode cX6_take 12 = .ok (.iconst 1, 1) := by decide +kernel
theorem dX6_take_13 : decode cX6_take 13 = .ok (.aload_n 1, 1) := by decide +kernel
theorem dX6_take_14 : decode cX6_take 14 = .ok (.getfield 19, 3) := by decide +kernel
theorem dX6_take_17 : decode cX6_take 17 = .ok (.iload_n 3, 1) := by decide +kernel
theorem dX6_take_18 : decode cX6_take 18 = .ok (.iaload, 1) := by decide +kernel
theorem dX6_take_19 : decode cX6_take 19 = .ok (.ishl, 1) := by decide +kernel
theorem dX6_take_20 : decode cX6_take 20 = .ok (.iastore, 1) := by decide +kernel
theorem dX6_take_21 : decode cX6_take 21 = .ok (.iinc 3 1, 3) := by decide +kernel
theorem dX6_take_24 : decode cX6_take 24 = .ok (.goto (-22), 3) := by decide +kernel
theorem dX6_take_27 : decode cX6_take 27 = .ok (.return_, 1) := by decide +kernel
theorem dX6_loosen_0 : decode cX6_loosen 0 = .ok (.iconst 0, 1) := by decide +kernel
theorem dX6_loosen_1 : decode cX6_loosen 1 = .ok (.istore_n 2, 1) := by decide +kernel
theorem dX6_loosen_2 : decode cX6_loosen 2 = .ok (.iload_n 2, 1) := by decide +kernel
theorem dX6_loosen_3 : decode cX6_loosen 3 = .ok (.bipush 10, 2) := by decide +kernel
theorem dX6_loosen_5 : decode cX6_loosen 5 = .ok (.if_icmp .ge 24, 3) := by decide +kernel
theorem dX6_loosen_8 : decode cX6_loosen 8 = .ok (.iload_n 1, 1) := by decide +kernel
theorem dX6_loosen_9 : decode cX6_loosen 9 = .ok (.iload_n 2, 1) := by decide +kernel
theorem dX6_loosen_10 : decode cX6_loosen 10 = .ok (.ishr, 1) := by decide +kernel
theorem dX6_loosen_11 : decode cX6_loosen 11 = .ok (.iconst 1, 1) := by decide +kernel
theorem dX6_loosen_12 : decode cX6_loosen 12 = .ok (.iand, 1) := by decide +kernel
theorem dX6_loosen_13 : decode cX6_loosen 13 = .ok (.ifCond .eq 10, 3) := by decide +kernel
theorem dX6_loosen_16 : decode cX6_loosen 16 = .ok (.aload_n 0, 1) := by decide +kernel
theorem dX6_loosen_17 : decode cX6_loosen 17 = .ok (.getfield 15, 3) := by decide +kernel
theorem dX6_loosen_20 : decode cX6_loosen 20 = .ok (.iload_n 2, 1) := by decide +kernel
theorem dX6_loosen_21 : decode cX6_loosen 21 = .ok (.iconst 3, 1) := by decide +kernel
theorem dX6_loosen_22 : decode cX6_loosen 22 = .ok (.iastore, 1) := by decide +kernel
theorem dX6_loosen_23 : decode cX6_loosen 23 = .ok (.iinc 2 1, 3) := by decide +kernel
theorem dX6_loosen_26 : decode cX6_loosen 26 = .ok (.goto (-24), 3) := by decide +kernel
theorem dX6_loosen_29 : decode cX6_loosen 29 = .ok (.return_, 1) := by decide +kernel
theorem dX6_turnAt_0 : decode cX6_turnAt 0 = .ok (.iconst 0, 1) := by decide +kernel
theorem dX6_turnAt_1 : decode cX6_turnAt 1 = .ok (.istore_n 2, 1) := by decide +kernel
theorem dX6_turnAt_2 : decode cX6_turnAt 2 = .ok (.iload_n 2, 1) := by decide +kernel
theorem dX6_turnAt_3 : decode cX6_turnAt 3 = .ok (.bipush 10, 2) := by decide +kernel
theorem dX6_turnAt_5 : decode cX6_turnAt 5 = .ok (.if_icmp .ge 27, 3) := by decide +kernel
theorem dX6_turnAt_8 : decode cX6_turnAt 8 = .ok (.iload_n 1, 1) := by decide +kernel
theorem dX6_turnAt_9 : decode cX6_turnAt 9 = .ok (.iload_n 2, 1) := by decide +kernel
theorem dX6_turnAt_10 : decode cX6_turnAt 10 = .ok (.ishr, 1) := by decide +kernel
theorem dX6_turnAt_11 : decode cX6_turnAt 11 = .ok (.iconst 1, 1) := by decide +kernel
theorem dX6_turnAt_12 : decode cX6_turnAt 12 = .ok (.iand, 1) := by decide +kernel
theorem dX6_turnAt_13 : decode cX6_turnAt 13 = .ok (.ifCond .eq 13, 3) := by decide +kernel
theorem dX6_turnAt_16 : decode cX6_turnAt 16 = .ok (.aload_n 0, 1) := by decide +kernel
theorem dX6_turnAt_17 : decode cX6_turnAt 17 = .ok (.getfield 15, 3) := by decide +kernel
theorem dX6_turnAt_20 : decode cX6_turnAt 20 = .ok (.iload_n 2, 1) := by decide +kernel
theorem dX6_turnAt_21 : decode cX6_turnAt 21 = .ok (.dup2, 1) := by decide +kernel
theorem dX6_turnAt_22 : decode cX6_turnAt 22 = .ok (.iaload, 1) := by decide +kernel
theorem dX6_turnAt_23 : decode cX6_turnAt 23 = .ok (.iconst 3, 1) := by decide +kernel
theorem dX6_turnAt_24 : decode cX6_turnAt 24 = .ok (.ixor, 1) := by decide +kernel
theorem dX6_turnAt_25 : decode cX6_turnAt 25 = .ok (.iastore, 1) := by decide +kernel
theorem dX6_turnAt_26 : decode cX6_turnAt 26 = .ok (.iinc 2 1, 3) := by decide +kernel
theorem dX6_turnAt_29 : decode cX6_turnAt 29 = .ok (.goto (-27), 3) := by decide +kernel
theorem dX6_turnAt_32 : decode cX6_turnAt 32 = .ok (.return_, 1) := by decide +kernel
set_option maxRecDepth 20000 in
theorem ggX6_spread_J7_fill_d0a16 : GoodIn wsX6_spread wsJ7_fill_d0a16 := goodIn_r _ [7] (by decide +kernel) (by decide +kernel)
set_option maxRecDepth 20000 in
theorem gX6_spread_J7_fill_d0a16 : GoodIn wsX6_spread (va_wsS RX6 24 yJ7_fill_d0a16 wsJ7_fill_d0a16) := goodIn_app (goodIn_of _ (by decide +kernel)) ggX6_spread_J7_fill_d0a16
set_option maxRecDepth 20000 in
theorem ggX6_spread_X7_marksOf : GoodIn wsX6_spread wsX7_marksOf := goodIn_r _ [11] (by decide +kernel) (by decide +kernel)
set_option maxRecDepth 20000 in
theorem gX6_spread_X7_marksOf : GoodIn wsX6_spread (va_wsS RX6 32 yX7_marksOf wsX7_marksOf) := goodIn_app (goodIn_of _ (by decide +kernel)) ggX6_spread_X7_marksOf
set_option maxRecDepth 20000 in
theorem ggX6_spread_X6_pass : GoodIn wsX6_spread wsX6_pass := goodIn_r _ [16, 17, 18, 3, 19, 1, 20, 21, 22, 15, 23, 24, 25, 26, 27, 28, 29, 30, 31, 34, 35, 36, 37, 38, 39, 40, 41, 32, 33] (by decide +kernel) (by decide +kernel)
set_option maxRecDepth 20000 in
theorem gX6_spread_X6_pass : GoodIn wsX6_spread (wsV RX6 45 RX6 yX6_pass wsX6_pass) := goodIn_app (goodIn_of _ (by decide +kernel)) ggX6_spread_X6_pass
theorem dX6_spread_0 : decode cX6_spread 0 = .ok (.aload_n 0, 1) := by decide +kernel
theorem dX6_spread_1 : decode cX6_spread 1 = .ok (.getfield 9, 3) := by decide +kernel
theorem dX6_spread_4 : decode cX6_spread 4 = .ok (.lconst 0, 1) := by decide +kernel
theorem dX6_spread_5 : decode cX6_spread 5 = .ok (.invokestatic 24, 3) := by decide +kernel
theorem dX6_spread_8 : decode cX6_spread 8 = .ok (.aload_n 0, 1) := by decide +kernel
theorem dX6_spread_9 : decode cX6_spread 9 = .ok (.getfield 9, 3) := by decide +kernel
theorem dX6_spread_12 : decode cX6_spread 12 = .ok (.iload_n 2, 1) := by decide +kernel
theorem dX6_spread_13 : decode cX6_spread 13 = .ok (.bipush 64, 2) := by decide +kernel
theorem dX6_spread_15 : decode cX6_spread 15 = .ok (.idiv, 1) := by decide +kernel
theorem dX6_spread_16 : decode cX6_spread 16 = .ok (.lconst 1, 1) := by decide +kernel
theorem dX6_spread_17 : decode cX6_spread 17 = .ok (.iload_n 2, 1) := by decide +kernel
theorem dX6_spread_18 : decode cX6_spread 18 = .ok (.invokestatic 32, 3) := by decide +kernel
theorem dX6_spread_21 : decode cX6_spread 21 = .ok (.lshl, 1) := by decide +kernel
theorem dX6_spread_22 : decode cX6_spread 22 = .ok (.lastore, 1) := by decide +kernel
theorem dX6_spread_23 : decode cX6_spread 23 = .ok (.iconst 1, 1) := by decide +kernel
theorem dX6_spread_24 : decode cX6_spread 24 = .ok (.istore 4, 2) := by decide +kernel
theorem dX6_spread_26 : decode cX6_spread 26 = .ok (.iconst 0, 1) := by decide +kernel
theorem dX6_spread_27 : decode cX6_spread 27 = .ok (.istore 5, 2) := by decide +kernel
theorem dX6_spread_29 : decode cX6_spread 29 = .ok (.iload 4, 2) := by decide +kernel
theorem dX6_spread_31 : decode cX6_spread 31 = .ok (.ifCond .eq 79, 3) := by decide +kernel
theorem dX6_spread_34 : decode cX6_spread 34 = .ok (.iload 5, 2) := by decide +kernel
theorem dX6_spread_36 : decode cX6_spread 36 = .ok (.sipush 896, 3) := by decide +kernel
theorem dX6_spread_39 : decode cX6_spread 39 = .ok (.if_icmp .gt 71, 3) := by decide +kernel
theorem dX6_spread_42 : decode cX6_spread 42 = .ok (.iconst 0, 1) := by decide +kernel
theorem dX6_spread_43 : decode cX6_spread 43 = .ok (.istore 4, 2) := by decide +kernel
theorem dX6_spread_45 : decode cX6_spread 45 = .ok (.iconst 0, 1) := by decide +kernel
theorem dX6_spread_46 : decode cX6_spread 46 = .ok (.istore 6, 2) := by decide +kernel
theorem dX6_spread_48 : decode cX6_spread 48 = .ok (.iload 6, 2) := by decide +kernel
theorem dX6_spread_50 : decode cX6_spread 50 = .ok (.aload_n 1, 1) := by decide +kernel
theorem dX6_spread_51 : decode cX6_spread 51 = .ok (.getfield 36, 3) := by decide +kernel
theorem dX6_spread_54 : decode cX6_spread 54 = .ok (.if_icmp .ge 50, 3) := by decide +kernel
theorem dX6_spread_57 : decode cX6_spread 57 = .ok (.iload_n 3, 1) := by decide +kernel
theorem dX6_spread_58 : decode cX6_spread 58 = .ok (.ifCond .ne 14, 3) := by decide +kernel
theorem dX6_spread_61 : decode cX6_spread 61 = .ok (.aload_n 1, 1) := by decide +kernel
theorem dX6_spread_62 : decode cX6_spread 62 = .ok (.getfield 42, 3) := by decide +kernel
theorem dX6_spread_65 : decode cX6_spread 65 = .ok (.iload 6, 2) := by decide +kernel
theorem dX6_spread_67 : decode cX6_spread 67 = .ok (.iaload, 1) := by decide +kernel
theorem dX6_spread_68 : decode cX6_spread 68 = .ok (.iconst (-1), 1) := by decide +kernel
theorem dX6_spread_69 : decode cX6_spread 69 = .ok (.if_icmp .ne 29, 3) := by decide +kernel
theorem dX6_spread_72 : decode cX6_spread 72 = .ok (.iload 4, 2) := by decide +kernel
theorem dX6_spread_74 : decode cX6_spread 74 = .ok (.aload_n 0, 1) := by decide +kernel
theorem dX6_spread_75 : decode cX6_spread 75 = .ok (.aload_n 1, 1) := by decide +kernel
theorem dX6_spread_76 : decode cX6_spread 76 = .ok (.iload 6, 2) := by decide +kernel
theorem dX6_spread_78 : decode cX6_spread 78 = .ok (.iconst 0, 1) := by decide +kernel
theorem dX6_spread_79 : decode cX6_spread 79 = .ok (.invokevirtual 45, 3) := by decide +kernel
theorem dX6_spread_82 : decode cX6_spread 82 = .ok (.ior, 1) := by decide +kernel
theorem dX6_spread_83 : decode cX6_spread 83 = .ok (.istore 4, 2) := by decide +kernel
theorem dX6_spread_85 : decode cX6_spread 85 = .ok (.iload 4, 2) := by decide +kernel
theorem dX6_spread_87 : decode cX6_spread 87 = .ok (.aload_n 0, 1) := by decide +kernel
theorem dX6_spread_88 : decode cX6_spread 88 = .ok (.aload_n 1, 1) := by decide +kernel
theorem dX6_spread_89 : decode cX6_spread 89 = .ok (.iload 6, 2) := by decide +kernel
theorem dX6_spread_91 : decode cX6_spread 91 = .ok (.iconst 1, 1) := by decide +kernel
theorem dX6_spread_92 : decode cX6_spread 92 = .ok (.invokevirtual 45, 3) := by decide +kernel
theorem dX6_spread_95 : decode cX6_spread 95 = .ok (.ior, 1) := by decide +kernel
theorem dX6_spread_96 : decode cX6_spread 96 = .ok (.istore 4, 2) := by decide +kernel
theorem dX6_spread_98 : decode cX6_spread 98 = .ok (.iinc 6 1, 3) := by decide +kernel
theorem dX6_spread_101 : decode cX6_spread 101 = .ok (.goto (-53), 3) := by decide +kernel
theorem dX6_spread_104 : decode cX6_spread 104 = .ok (.iinc 5 1, 3) := by decide +kernel
theorem dX6_spread_107 : decode cX6_spread 107 = .ok (.goto (-78), 3) := by decide +kernel
theorem dX6_spread_110 : decode cX6_spread 110 = .ok (.return_, 1) := by decide +kernel
theorem dX6_hasStand_0 : decode cX6_hasStand 0 = .ok (.aload_n 0, 1) := by decide +kernel
theorem dX6_hasStand_1 : decode cX6_hasStand 1 = .ok (.getfield 9, 3) := by decide +kernel
theorem dX6_hasStand_4 : decode cX6_hasStand 4 = .ok (.iload_n 1, 1) := by decide +kernel
theorem dX6_hasStand_5 : decode cX6_hasStand 5 = .ok (.iconst 2, 1) := by decide +kernel
theorem dX6_hasStand_6 : decode cX6_hasStand 6 = .ok (.imul, 1) := by decide +kernel
theorem dX6_hasStand_7 : decode cX6_hasStand 7 = .ok (.iload_n 2, 1) := by decide +kernel
theorem dX6_hasStand_8 : decode cX6_hasStand 8 = .ok (.iadd, 1) := by decide +kernel
theorem dX6_hasStand_9 : decode cX6_hasStand 9 = .ok (.laload, 1) := by decide +kernel
theorem dX6_hasStand_10 : decode cX6_hasStand 10 = .ok (.lconst 0, 1) := by decide +kernel
theorem dX6_hasStand_11 : decode cX6_hasStand 11 = .ok (.lcmp, 1) := by decide +kernel
theorem dX6_hasStand_12 : decode cX6_hasStand 12 = .ok (.ifCond .eq 7, 3) := by decide +kernel
theorem dX6_hasStand_15 : decode cX6_hasStand 15 = .ok (.iconst 1, 1) := by decide +kernel
theorem dX6_hasStand_16 : decode cX6_hasStand 16 = .ok (.goto 4, 3) := by decide +kernel
theorem dX6_hasStand_19 : decode cX6_hasStand 19 = .ok (.iconst 0, 1) := by decide +kernel
theorem dX6_hasStand_20 : decode cX6_hasStand 20 = .ok (.ireturn, 1) := by decide +kernel
set_option maxRecDepth 20000 in
theorem ggX6_hasPlace_X6_hasStand : GoodIn wsX6_hasPlace wsX6_hasStand := goodIn_r _ [5, 6, 7, 8] (by decide +kernel) (by decide +kernel)
set_option maxRecDepth 20000 in
theorem gX6_hasPlace_X6_hasStand : GoodIn wsX6_hasPlace (wsV RX6 49 RX6 yX6_hasStand wsX6_hasStand) := goodIn_app (goodIn_of _ (by decide +kernel)) ggX6_hasPlace_X6_hasStand
theorem dX6_hasPlace_0 : decode cX6_hasPlace 0 = .ok (.aload_n 0, 1) := by decide +kernel
theorem dX6_hasPlace_1 : decode cX6_hasPlace 1 = .ok (.iload_n 1, 1) := by decide +kernel
theorem dX6_hasPlace_2 : decode cX6_hasPlace 2 = .ok (.iconst 0, 1) := by decide +kernel
theorem dX6_hasPlace_3 : decode cX6_hasPlace 3 = .ok (.invokevirtual 49, 3) := by decide +kernel
theorem dX6_hasPlace_6 : decode cX6_hasPlace 6 = .ok (.ifCond .ne 12, 3) := by decide +kernel
theorem dX6_hasPlace_9 : decode cX6_hasPlace 9 = .ok (.aload_n 0, 1) := by decide +kernel
theorem dX6_hasPlace_10 : decode cX6_hasPlace 10 = .ok (.iload_n 1, 1) := by decide +kernel
theorem dX6_hasPlace_11 : decode cX6_hasPlace 11 = .ok (.iconst 1, 1) := by decide +kernel
theorem dX6_hasPlace_12 : decode cX6_hasPlace 12 = .ok (.invokevirtual 49, 3) := by decide +kernel
theorem dX6_hasPlace_15 : decode cX6_hasPlace 15 = .ok (.ifCond .eq 7, 3) := by decide +kernel
theorem dX6_hasPlace_18 : decode cX6_hasPlace 18 = .ok (.iconst 1, 1) := by decide +kernel
theorem dX6_hasPlace_19 : decode cX6_hasPlace 19 = .ok (.goto 4, 3) := by decide +kernel
theorem dX6_hasPlace_22 : decode cX6_hasPlace 22 = .ok (.iconst 0, 1) := by decide +kernel
theorem dX6_hasPlace_23 : decode cX6_hasPlace 23 = .ok (.ireturn, 1) := by decide +kernel
set_option maxRecDepth 20000 in
theorem ggX6_placesMissed_X6_hasPlace : GoodIn wsX6_placesMissed wsX6_hasPlace := goodIn_r _ [5, 6, 7, 8, 4, 9, 10, 11, 12] (by decide +kernel) (by decide +kernel)
set_option maxRecDepth 20000 in
theorem gX6_placesMissed_X6_hasPlace : GoodIn wsX6_placesMissed (wsV RX6 53 RX6 yX6_hasPlace wsX6_hasPlace) := goodIn_app (goodIn_of _ (by decide +kernel)) ggX6_placesMissed_X6_hasPlace
theorem dX6_placesMissed_0 : decode cX6_placesMissed 0 = .ok (.iconst 0, 1) := by decide +kernel
theorem dX6_placesMissed_1 : decode cX6_placesMissed 1 = .ok (.istore_n 1, 1) := by decide +kernel
theorem dX6_placesMissed_2 : decode cX6_placesMissed 2 = .ok (.iconst 0, 1) := by decide +kernel
theorem dX6_placesMissed_3 : decode cX6_placesMissed 3 = .ok (.istore_n 2, 1) := by decide +kernel
theorem dX6_placesMissed_4 : decode cX6_placesMissed 4 = .ok (.iload_n 2, 1) := by decide +kernel
theorem dX6_placesMissed_5 : decode cX6_placesMissed 5 = .ok (.bipush 7, 2) := by decide +kernel
theorem dX6_placesMissed_7 : decode cX6_placesMissed 7 = .ok (.if_icmp .ge 23, 3) := by decide +kernel
theorem dX6_placesMissed_10 : decode cX6_placesMissed 10 = .ok (.aload_n 0, 1) := by decide +kernel
theorem dX6_placesMissed_11 : decode cX6_placesMissed 11 = .ok (.iload_n 2, 1) := by decide +kernel
theorem dX6_placesMissed_12 : decode cX6_placesMissed 12 = .ok (.invokevirtual 53, 3) := by decide +kernel
theorem dX6_placesMissed_15 : decode cX6_placesMissed 15 = .ok (.ifCond .ne 9, 3) := by decide +kernel
theorem dX6_placesMissed_18 : decode cX6_placesMissed 18 = .ok (.iload_n 1, 1) := by decide +kernel
theorem dX6_placesMissed_19 : decode cX6_placesMissed 19 = .ok (.iconst 1, 1) := by decide +kernel
theorem dX6_placesMissed_20 : decode cX6_placesMissed 20 = .ok (.iload_n 2, 1) := by decide +kernel
theorem dX6_placesMissed_21 : decode cX6_placesMissed 21 = .ok (.ishl, 1) := by decide +kernel
theorem dX6_placesMissed_22 : decode cX6_placesMissed 22 = .ok (.ior, 1) := by decide +kernel
theorem dX6_placesMissed_23 : decode cX6_placesMissed 23 = .ok (.istore_n 1, 1) := by decide +kernel
theorem dX6_placesMissed_24 : decode cX6_placesMissed 24 = .ok (.iinc 2 1, 3) := by decide +kernel
theorem dX6_placesMissed_27 : decode cX6_placesMissed 27 = .ok (.goto (-23), 3) := by decide +kernel
theorem dX6_placesMissed_30 : decode cX6_placesMissed 30 = .ok (.iload_n 1, 1) := by decide +kernel
theorem dX6_placesMissed_31 : decode cX6_placesMissed 31 = .ok (.ireturn, 1) := by decide +kernel
set_option maxRecDepth 20000 in
theorem ggX6_pass_X6_cameIn : GoodIn wsX6_pass wsX6_cameIn := goodIn_r _ [10, 11] (by decide +kernel) (by decide +kernel)
set_option maxRecDepth 20000 in
theorem gX6_pass_X6_cameIn : GoodIn wsX6_pass (va_wsS RX6 63 yX6_cameIn wsX6_cameIn) := goodIn_app (goodIn_of _ (by decide +kernel)) ggX6_pass_X6_cameIn
set_option maxRecDepth 20000 in
theorem ggX6_pass_X6_join : GoodIn wsX6_pass wsX6_join := goodIn_r _ [15, 5, 27, 28] (by decide +kernel) (by decide +kernel)
set_option maxRecDepth 20000 in
theorem gX6_pass_X6_join : GoodIn wsX6_pass (wsV RX6 67 RX6 yX6_join wsX6_join) := goodIn_app (goodIn_of _ (by decide +kernel)) ggX6_pass_X6_join
set_option maxRecDepth 20000 in
theorem ggX6_pass_X6_letOut : GoodIn wsX6_pass wsX6_letOut := goodIn_r _ [18, 11] (by decide +kernel) (by decide +kernel)
set_option maxRecDepth 20000 in
theorem gX6_pass_X6_letOut : GoodIn wsX6_pass (va_wsS RX6 75 yX6_letOut wsX6_letOut) := goodIn_app (goodIn_of _ (by decide +kernel)) ggX6_pass_X6_letOut
theorem dX6_pass_0 : decode cX6_pass 0 = .ok (.aload_n 1, 1) := by decide +kernel
theorem dX6_pass_1 : decode cX6_pass 1 = .ok (.getfield 57, 3) := by decide +kernel
theorem dX6_pass_4 : decode cX6_pass 4 = .ok (.iload_n 2, 1) := by decide +kernel
theorem dX6_pass_5 : decode cX6_pass 5 = .ok (.iaload, 1) := by decide +kernel
theorem dX6_pass_6 : decode cX6_pass 6 = .ok (.iconst 2, 1) := by decide +kernel
theorem dX6_pass_7 : decode cX6_pass 7 = .ok (.imul, 1) := by decide +kernel
theorem dX6_pass_8 : decode cX6_pass 8 = .ok (.istore 4, 2) := by decide +kernel
theorem dX6_pass_10 : decode cX6_pass 10 = .ok (.aload_n 1, 1) := by decide +kernel
theorem dX6_pass_11 : decode cX6_pass 11 = .ok (.getfield 60, 3) := by decide +kernel
theorem dX6_pass_14 : decode cX6_pass 14 = .ok (.iload_n 2, 1) := by decide +kernel
theorem dX6_pass_15 : decode cX6_pass 15 = .ok (.iaload, 1) := by decide +kernel
theorem dX6_pass_16 : decode cX6_pass 16 = .ok (.iconst 2, 1) := by decide +kernel
theorem dX6_pass_17 : decode cX6_pass 17 = .ok (.imul, 1) := by decide +kernel
theorem dX6_pass_18 : decode cX6_pass 18 = .ok (.istore 5, 2) := by decide +kernel
theorem dX6_pass_20 : decode cX6_pass 20 = .ok (.aload_n 1, 1) := by decide +kernel
theorem dX6_pass_21 : decode cX6_pass 21 = .ok (.getfield 42, 3) := by decide +kernel
theorem dX6_pass_24 : decode cX6_pass 24 = .ok (.iload_n 2, 1) := by decide +kernel
theorem dX6_pass_25 : decode cX6_pass 25 = .ok (.iaload, 1) := by decide +kernel
theorem dX6_pass_26 : decode cX6_pass 26 = .ok (.istore 6, 2) := by decide +kernel
theorem dX6_pass_28 : decode cX6_pass 28 = .ok (.iconst 0, 1) := by decide +kernel
theorem dX6_pass_29 : decode cX6_pass 29 = .ok (.istore 7, 2) := by decide +kernel
theorem dX6_pass_31 : decode cX6_pass 31 = .ok (.iconst 0, 1) := by decide +kernel
theorem dX6_pass_32 : decode cX6_pass 32 = .ok (.istore 8, 2) := by decide +kernel
theorem dX6_pass_34 : decode cX6_pass 34 = .ok (.iload 8, 2) := by decide +kernel
theorem dX6_pass_36 : decode cX6_pass 36 = .ok (.iconst 1, 1) := by decide +kernel
theorem dX6_pass_37 : decode cX6_pass 37 = .ok (.if_icmp .gt 93, 3) := by decide +kernel
theorem dX6_pass_40 : decode cX6_pass 40 = .ok (.aload_n 0, 1) := by decide +kernel
theorem dX6_pass_41 : decode cX6_pass 41 = .ok (.getfield 15, 3) := by decide +kernel
theorem dX6_pass_44 : decode cX6_pass 44 = .ok (.iload_n 2, 1) := by decide +kernel
theorem dX6_pass_45 : decode cX6_pass 45 = .ok (.iaload, 1) := by decide +kernel
theorem dX6_pass_46 : decode cX6_pass 46 = .ok (.iload 8, 2) := by decide +kernel
theorem dX6_pass_48 : decode cX6_pass 48 = .ok (.ishr, 1) := by decide +kernel
theorem dX6_pass_49 : decode cX6_pass 49 = .ok (.iconst 1, 1) := by decide +kernel
theorem dX6_pass_50 : decode cX6_pass 50 = .ok (.iand, 1) := by decide +kernel
theorem dX6_pass_51 : decode cX6_pass 51 = .ok (.ifCond .eq 73, 3) := by decide +kernel
theorem dX6_pass_54 : decode cX6_pass 54 = .ok (.iload_n 3, 1) := by decide +kernel
theorem dX6_pass_55 : decode cX6_pass 55 = .ok (.iload 8, 2) := by decide +kernel
theorem dX6_pass_57 : decode cX6_pass 57 = .ok (.ixor, 1) := by decide +kernel
theorem dX6_pass_58 : decode cX6_pass 58 = .ok (.istore 9, 2) := by decide +kernel
theorem dX6_pass_60 : decode cX6_pass 60 = .ok (.iload 7, 2) := by decide +kernel
theorem dX6_pass_62 : decode cX6_pass 62 = .ok (.aload_n 0, 1) := by decide +kernel
theorem dX6_pass_63 : decode cX6_pass 63 = .ok (.iload 5, 2) := by decide +kernel
theorem dX6_pass_65 : decode cX6_pass 65 = .ok (.iload 9, 2) := by decide +kernel
theorem dX6_pass_67 : decode cX6_pass 67 = .ok (.iadd, 1) := by decide +kernel
theorem dX6_pass_68 : decode cX6_pass 68 = .ok (.aload_n 0, 1) := by decide +kernel
theorem dX6_pass_69 : decode cX6_pass 69 = .ok (.getfield 9, 3) := by decide +kernel
theorem dX6_pass_72 : decode cX6_pass 72 = .ok (.iload 4, 2) := by decide +kernel
theorem dX6_pass_74 : decode cX6_pass 74 = .ok (.iload_n 3, 1) := by decide +kernel
theorem dX6_pass_75 : decode cX6_pass 75 = .ok (.iadd, 1) := by decide +kernel
theorem dX6_pass_76 : decode cX6_pass 76 = .ok (.laload, 1) := by decide +kernel
theorem dX6_pass_77 : decode cX6_pass 77 = .ok (.iload 6, 2) := by decide +kernel
theorem dX6_pass_79 : decode cX6_pass 79 = .ok (.iload 9, 2) := by decide +kernel
theorem dX6_pass_81 : decode cX6_pass 81 = .ok (.invokestatic 63, 3) := by decide +kernel
theorem dX6_pass_84 : decode cX6_pass 84 = .ok (.invokevirtual 67, 3) := by decide +kernel
theorem dX6_pass_87 : decode cX6_pass 87 = .ok (.ior, 1) := by decide +kernel
theorem dX6_pass_88 : decode cX6_pass 88 = .ok (.istore 7, 2) := by decide +kernel
theorem dX6_pass_90 : decode cX6_pass 90 = .ok (.iload 7, 2) := by decide +kernel
theorem dX6_pass_92 : decode cX6_pass 92 = .ok (.aload_n 0, 1) := by decide +kernel
theorem dX6_pass_93 : decode cX6_pass 93 = .ok (.iload 4, 2) := by decide +kernel
theorem dX6_pass_95 : decode cX6_pass 95 = .ok (.iload 9, 2) := by decide +kernel
theorem dX6_pass_97 : decode cX6_pass 97 = .ok (.iadd, 1) := by decide +kernel
theorem dX6_pass_98 : decode cX6_pass 98 = .ok (.aload_n 0, 1) := by decide +kernel
theorem dX6_pass_99 : decode cX6_pass 99 = .ok (.getfield 9, 3) := by decide +kernel
theorem dX6_pass_102 : decode cX6_pass 102 = .ok (.iload 5, 2) := by decide +kernel
theorem dX6_pass_104 : decode cX6_pass 104 = .ok (.iload_n 3, 1) := by decide +kernel
theorem dX6_pass_105 : decode cX6_pass 105 = .ok (.iadd, 1) := by decide +kernel
theorem dX6_pass_106 : decode cX6_pass 106 = .ok (.laload, 1) := by decide +kernel
theorem dX6_pass_107 : decode cX6_pass 107 = .ok (.iload 6, 2) := by decide +kernel
theorem dX6_pass_109 : decode cX6_pass 109 = .ok (.iload 9, 2) := by decide +kernel
theorem dX6_pass_111 : decode cX6_pass 111 = .ok (.aload_n 1, 1) := by decide +kernel
theorem dX6_pass_112 : decode cX6_pass 112 = .ok (.getfield 71, 3) := by decide +kernel
theorem dX6_pass_115 : decode cX6_pass 115 = .ok (.invokestatic 75, 3) := by decide +kernel
theorem dX6_pass_118 : decode cX6_pass 118 = .ok (.invokevirtual 67, 3) := by decide +kernel
theorem dX6_pass_121 : decode cX6_pass 121 = .ok (.ior, 1) := by decide +kernel
theorem dX6_pass_122 : decode cX6_pass 122 = .ok (.istore 7, 2) := by decide +kernel
theorem dX6_pass_124 : decode cX6_pass 124 = .ok (.iinc 8 1, 3) := by decide +kernel
theorem dX6_pass_127 : decode cX6_pass 127 = .ok (.goto (-93), 3) := by decide +kernel
theorem dX6_pass_130 : decode cX6_pass 130 = .ok (.iload 7, 2) := by decide +kernel
theorem dX6_pass_132 : decode cX6_pass 132 = .ok (.ireturn, 1) := by decide +kernel
theorem dX6_join_0 : decode cX6_join 0 = .ok (.aload_n 0, 1) := by decide +kernel
theorem dX6_join_1 : decode cX6_join 1 = .ok (.getfield 9, 3) := by decide +kernel
theorem dX6_join_4 : decode cX6_join 4 = .ok (.iload_n 1, 1) := by decide +kernel
theorem dX6_join_5 : decode cX6_join 5 = .ok (.laload, 1) := by decide +kernel
theorem dX6_join_6 : decode cX6_join 6 = .ok (.lstore 4, 2) := by decide +kernel
theorem dX6_join_8 : decode cX6_join 8 = .ok (.aload_n 0, 1) := by decide +kernel
theorem dX6_join_9 : decode cX6_join 9 = .ok (.getfield 9, 3) := by decide +kernel
theorem dX6_join_12 : decode cX6_join 12 = .ok (.iload_n 1, 1) := by decide +kernel
theorem dX6_join_13 : decode cX6_join 13 = .ok (.lload 4, 2) := by decide +kernel
theorem dX6_join_15 : decode cX6_join 15 = .ok (.lload_n 2, 1) := by decide +kernel
theorem dX6_join_16 : decode cX6_join 16 = .ok (.lor, 1) := by decide +kernel
theorem dX6_join_17 : decode cX6_join 17 = .ok (.lastore, 1) := by decide +kernel
theorem dX6_join_18 : decode cX6_join 18 = .ok (.aload_n 0, 1) := by decide +kernel
theorem dX6_join_19 : decode cX6_join 19 = .ok (.getfield 9, 3) := by decide +kernel
theorem dX6_join_22 : decode cX6_join 22 = .ok (.iload_n 1, 1) := by decide +kernel
theorem dX6_join_23 : decode cX6_join 23 = .ok (.laload, 1) := by decide +kernel
theorem dX6_join_24 : decode cX6_join 24 = .ok (.lload 4, 2) := by decide +kernel
theorem dX6_join_26 : decode cX6_join 26 = .ok (.lcmp, 1) := by decide +kernel
theorem dX6_join_27 : decode cX6_join 27 = .ok (.ifCond .eq 7, 3) := by decide +kernel
theorem dX6_join_30 : decode cX6_join 30 = .ok (.iconst 1, 1) := by decide +kernel
theorem dX6_join_31 : decode cX6_join 31 = .ok (.goto 4, 3) := by decide +kernel
theorem dX6_join_34 : decode cX6_join 34 = .ok (.iconst 0, 1) := by decide +kernel
theorem dX6_join_35 : decode cX6_join 35 = .ok (.ireturn, 1) := by decide +kernel
theorem dX6_cameIn_0 : decode cX6_cameIn 0 = .ok (.iload_n 2, 1) := by decide +kernel
theorem dX6_cameIn_1 : decode cX6_cameIn 1 = .ok (.iconst (-1), 1) := by decide +kernel
theorem dX6_cameIn_2 : decode cX6_cameIn 2 = .ok (.if_icmp .ne 5, 3) := by decide +kernel
theorem dX6_cameIn_5 : decode cX6_cameIn 5 = .ok (.lload_n 0, 1) := by decide +kernel
theorem dX6_cameIn_6 : decode cX6_cameIn 6 = .ok (.lreturn, 1) := by decide +kernel
theorem dX6_cameIn_7 : decode cX6_cameIn 7 = .ok (.iconst 1, 1) := by decide +kernel
theorem dX6_cameIn_8 : decode cX6_cameIn 8 = .ok (.iconst 2, 1) := by decide +kernel
theorem dX6_cameIn_9 : decode cX6_cameIn 9 = .ok (.iload_n 2, 1) := by decide +kernel
theorem dX6_cameIn_10 : decode cX6_cameIn 10 = .ok (.imul, 1) := by decide +kernel
theorem dX6_cameIn_11 : decode cX6_cameIn 11 = .ok (.ishl, 1) := by decide +kernel
theorem dX6_cameIn_12 : decode cX6_cameIn 12 = .ok (.istore 4, 2) := by decide +kernel
theorem dX6_cameIn_14 : decode cX6_cameIn 14 = .ok (.lload_n 0, 1) := by decide +kernel
theorem dX6_cameIn_15 : decode cX6_cameIn 15 = .ok (.lload_n 0, 1) := by decide +kernel
theorem dX6_cameIn_16 : decode cX6_cameIn 16 = .ok (.iload 4, 2) := by decide +kernel
theorem dX6_cameIn_18 : decode cX6_cameIn 18 = .ok (.lushr, 1) := by decide +kernel
theorem dX6_cameIn_19 : decode cX6_cameIn 19 = .ok (.lor, 1) := by decide +kernel
theorem dX6_cameIn_20 : decode cX6_cameIn 20 = .ok (.lload_n 0, 1) := by decide +kernel
theorem dX6_cameIn_21 : decode cX6_cameIn 21 = .ok (.iconst 2, 1) := by decide +kernel
theorem dX6_cameIn_22 : decode cX6_cameIn 22 = .ok (.iload 4, 2) := by decide +kernel
theorem dX6_cameIn_24 : decode cX6_cameIn 24 = .ok (.imul, 1) := by decide +kernel
theorem dX6_cameIn_25 : decode cX6_cameIn 25 = .ok (.lushr, 1) := by decide +kernel
theorem dX6_cameIn_26 : decode cX6_cameIn 26 = .ok (.lor, 1) := by decide +kernel
theorem dX6_cameIn_27 : decode cX6_cameIn 27 = .ok (.getstatic 79, 3) := by decide +kernel
theorem dX6_cameIn_30 : decode cX6_cameIn 30 = .ok (.iload_n 2, 1) := by decide +kernel
theorem dX6_cameIn_31 : decode cX6_cameIn 31 = .ok (.laload, 1) := by decide +kernel
theorem dX6_cameIn_32 : decode cX6_cameIn 32 = .ok (.land, 1) := by decide +kernel
theorem dX6_cameIn_33 : decode cX6_cameIn 33 = .ok (.lstore 5, 2) := by decide +kernel
theorem dX6_cameIn_35 : decode cX6_cameIn 35 = .ok (.lload 5, 2) := by decide +kernel
theorem dX6_cameIn_37 : decode cX6_cameIn 37 = .ok (.iload 4, 2) := by decide +kernel
theorem dX6_cameIn_39 : decode cX6_cameIn 39 = .ok (.iload_n 3, 1) := by decide +kernel
theorem dX6_cameIn_40 : decode cX6_cameIn 40 = .ok (.iconst 1, 1) := by decide +kernel
theorem dX6_cameIn_41 : decode cX6_cameIn 41 = .ok (.iadd, 1) := by decide +kernel
theorem dX6_cameIn_42 : decode cX6_cameIn 42 = .ok (.imul, 1) := by decide +kernel
theorem dX6_cameIn_43 : decode cX6_cameIn 43 = .ok (.lshl, 1) := by decide +kernel
theorem dX6_cameIn_44 : decode cX6_cameIn 44 = .ok (.lreturn, 1) := by decide +kernel
theorem dX6_letOut_0 : decode cX6_letOut 0 = .ok (.iload_n 2, 1) := by decide +kernel
theorem dX6_letOut_1 : decode cX6_letOut 1 = .ok (.iconst (-1), 1) := by decide +kernel
theorem dX6_letOut_2 : decode cX6_letOut 2 = .ok (.if_icmp .ne 5, 3) := by decide +kernel
theorem dX6_letOut_5 : decode cX6_letOut 5 = .ok (.lload_n 0, 1) := by decide +kernel
theorem dX6_letOut_6 : decode cX6_letOut 6 = .ok (.lreturn, 1) := by decide +kernel
theorem dX6_letOut_7 : decode cX6_letOut 7 = .ok (.iconst 1, 1) := by decide +kernel
theorem dX6_letOut_8 : decode cX6_letOut 8 = .ok (.iconst 2, 1) := by decide +kernel
theorem dX6_letOut_9 : decode cX6_letOut 9 = .ok (.iload_n 2, 1) := by decide +kernel
theorem dX6_letOut_10 : decode cX6_letOut 10 = .ok (.imul, 1) := by decide +kernel
theorem dX6_letOut_11 : decode cX6_letOut 11 = .ok (.ishl, 1) := by decide +kernel
theorem dX6_letOut_12 : decode cX6_letOut 12 = .ok (.istore 5, 2) := by decide +kernel
theorem dX6_letOut_14 : decode cX6_letOut 14 = .ok (.getstatic 79, 3) := by decide +kernel
theorem dX6_letOut_17 : decode cX6_letOut 17 = .ok (.iload_n 2, 1) := by decide +kernel
theorem dX6_letOut_18 : decode cX6_letOut 18 = .ok (.laload, 1) := by decide +kernel
theorem dX6_letOut_19 : decode cX6_letOut 19 = .ok (.iload 5, 2) := by decide +kernel
theorem dX6_letOut_21 : decode cX6_letOut 21 = .ok (.iload_n 3, 1) := by decide +kernel
theorem dX6_letOut_22 : decode cX6_letOut 22 = .ok (.iconst 1, 1) := by decide +kernel
theorem dX6_letOut_23 : decode cX6_letOut 23 = .ok (.iadd, 1) := by decide +kernel
theorem dX6_letOut_24 : decode cX6_letOut 24 = .ok (.imul, 1) := by decide +kernel
theorem dX6_letOut_25 : decode cX6_letOut 25 = .ok (.lshl, 1) := by decide +kernel
theorem dX6_letOut_26 : decode cX6_letOut 26 = .ok (.lstore 6, 2) := by decide +kernel
theorem dX6_letOut_28 : decode cX6_letOut 28 = .ok (.lload_n 0, 1) := by decide +kernel
theorem dX6_letOut_29 : decode cX6_letOut 29 = .ok (.iload 4, 2) := by decide +kernel
theorem dX6_letOut_31 : decode cX6_letOut 31 = .ok (.ifCond .eq 14, 3) := by decide +kernel
theorem dX6_letOut_34 : decode cX6_letOut 34 = .ok (.lload 6, 2) := by decide +kernel
theorem dX6_letOut_36 : decode cX6_letOut 36 = .ok (.getstatic 79, 3) := by decide +kernel
theorem dX6_letOut_39 : decode cX6_letOut 39 = .ok (.iload_n 2, 1) := by decide +kernel
theorem dX6_letOut_40 : decode cX6_letOut 40 = .ok (.laload, 1) := by decide +kernel
theorem dX6_letOut_41 : decode cX6_letOut 41 = .ok (.lor, 1) := by decide +kernel
theorem dX6_letOut_42 : decode cX6_letOut 42 = .ok (.goto 5, 3) := by decide +kernel
theorem dX6_letOut_45 : decode cX6_letOut 45 = .ok (.lload 6, 2) := by decide +kernel
theorem dX6_letOut_47 : decode cX6_letOut 47 = .ok (.land, 1) := by decide +kernel
theorem dX6_letOut_48 : decode cX6_letOut 48 = .ok (.lreturn, 1) := by decide +kernel
theorem dX7_of_0 : decode cX7_of 0 = .ok (.iload_n 0, 1) := by decide +kernel
theorem dX7_of_1 : decode cX7_of 1 = .ok (.iconst 2, 1) := by decide +kernel
theorem dX7_of_2 : decode cX7_of 2 = .ok (.imul, 1) := by decide +kernel
theorem dX7_of_3 : decode cX7_of 3 = .ok (.iload_n 1, 1) := by decide +kernel
theorem dX7_of_4 : decode cX7_of 4 = .ok (.iadd, 1) := by decide +kernel
theorem dX7_of_5 : decode cX7_of 5 = .ok (.bipush 64, 2) := by decide +kernel
theorem dX7_of_7 : decode cX7_of 7 = .ok (.imul, 1) := by decide +kernel
theorem dX7_of_8 : decode cX7_of 8 = .ok (.iload_n 2, 1) := by decide +kernel
theorem dX7_of_9 : decode cX7_of 9 = .ok (.iadd, 1) := by decide +kernel
theorem dX7_of_10 : decode cX7_of 10 = .ok (.ireturn, 1) := by decide +kernel
theorem dX7_placeOf_0 : decode cX7_placeOf 0 = .ok (.iload_n 0, 1) := by decide +kernel
theorem dX7_placeOf_1 : decode cX7_placeOf 1 = .ok (.sipush 128, 3) := by decide +kernel
theorem dX7_placeOf_4 : decode cX7_placeOf 4 = .ok (.idiv, 1) := by decide +kernel
theorem dX7_placeOf_5 : decode cX7_placeOf 5 = .ok (.ireturn, 1) := by decide +kernel
theorem dX7_footOf_0 : decode cX7_footOf 0 = .ok (.iload_n 0, 1) := by decide +kernel
theorem dX7_footOf_1 : decode cX7_footOf 1 = .ok (.bipush 64, 2) := by decide +kernel
theorem dX7_footOf_3 : decode cX7_footOf 3 = .ok (.idiv, 1) := by decide +kernel
theorem dX7_footOf_4 : decode cX7_footOf 4 = .ok (.iconst 1, 1) := by decide +kernel
theorem dX7_footOf_5 : decode cX7_footOf 5 = .ok (.iand, 1) := by decide +kernel
theorem dX7_footOf_6 : decode cX7_footOf 6 = .ok (.ireturn, 1) := by decide +kernel
theorem dX7_marksOf_0 : decode cX7_marksOf 0 = .ok (.iload_n 0, 1) := by decide +kernel
theorem dX7_marksOf_1 : decode cX7_marksOf 1 = .ok (.bipush 63, 2) := by decide +kernel
theorem dX7_marksOf_3 : decode cX7_marksOf 3 = .ok (.iand, 1) := by decide +kernel
theorem dX7_marksOf_4 : decode cX7_marksOf 4 = .ok (.ireturn, 1) := by decide +kernel
theorem dX7_markOf_0 : decode cX7_markOf 0 = .ok (.iload_n 0, 1) := by decide +kernel
theorem dX7_markOf_1 : decode cX7_markOf 1 = .ok (.iconst 2, 1) := by decide +kernel
theorem dX7_markOf_2 : decode cX7_markOf 2 = .ok (.iload_n 1, 1) := by decide +kernel
theorem dX7_markOf_3 : decode cX7_markOf 3 = .ok (.imul, 1) := by decide +kernel
theorem dX7_markOf_4 : decode cX7_markOf 4 = .ok (.ishr, 1) := by decide +kernel
theorem dX7_markOf_5 : decode cX7_markOf 5 = .ok (.iconst 3, 1) := by decide +kernel
theorem dX7_markOf_6 : decode cX7_markOf 6 = .ok (.iand, 1) := by decide +kernel
theorem dX7_markOf_7 : decode cX7_markOf 7 = .ok (.iconst 1, 1) := by decide +kernel
theorem dX7_markOf_8 : decode cX7_markOf 8 = .ok (.isub, 1) := by decide +kernel
theorem dX7_markOf_9 : decode cX7_markOf 9 = .ok (.ireturn, 1) := by decide +kernel
theorem dX7_marked_0 : decode cX7_marked 0 = .ok (.iload_n 0, 1) := by decide +kernel
theorem dX7_marked_1 : decode cX7_marked 1 = .ok (.iconst 3, 1) := by decide +kernel
theorem dX7_marked_2 : decode cX7_marked 2 = .ok (.iconst 2, 1) := by decide +kernel
theorem dX7_marked_3 : decode cX7_marked 3 = .ok (.iload_n 1, 1) := by decide +kernel
theorem dX7_marked_4 : decode cX7_marked 4 = .ok (.imul, 1) := by decide +kernel
theorem dX7_marked_5 : decode cX7_marked 5 = .ok (.ishl, 1) := by decide +kernel
theorem dX7_marked_6 : decode cX7_marked 6 = .ok (.iconst (-1), 1) := by decide +kernel
theorem dX7_marked_7 : decode cX7_marked 7 = .ok (.ixor, 1) := by decide +kernel
theorem dX7_marked_8 : decode cX7_marked 8 = .ok (.iand, 1) := by decide +kernel
theorem dX7_marked_9 : decode cX7_marked 9 = .ok (.iload_n 2, 1) := by decide +kernel
theorem dX7_marked_10 : decode cX7_marked 10 = .ok (.iconst 1, 1) := by decide +kernel
theorem dX7_marked_11 : decode cX7_marked 11 = .ok (.iadd, 1) := by decide +kernel
theorem dX7_marked_12 : decode cX7_marked 12 = .ok (.iconst 2, 1) := by decide +kernel
theorem dX7_marked_13 : decode cX7_marked 13 = .ok (.iload_n 1, 1) := by decide +kernel
theorem dX7_marked_14 : decode cX7_marked 14 = .ok (.imul, 1) := by decide +kernel
theorem dX7_marked_15 : decode cX7_marked 15 = .ok (.ishl, 1) := by decide +kernel
theorem dX7_marked_16 : decode cX7_marked 16 = .ok (.ior, 1) := by decide +kernel
theorem dX7_marked_17 : decode cX7_marked 17 = .ok (.ireturn, 1) := by decide +kernel
theorem dX7_skipped_0 : decode cX7_skipped 0 = .ok (.iload_n 0, 1) := by decide +kernel
theorem dX7_skipped_1 : decode cX7_skipped 1 = .ok (.bipush 64, 2) := by decide +kernel
theorem dX7_skipped_3 : decode cX7_skipped 3 = .ok (.ixor, 1) := by decide +kernel
theorem dX7_skipped_4 : decode cX7_skipped 4 = .ok (.ireturn, 1) := by decide +kernel
theorem dX8_init_0 : decode cX8_init 0 = .ok (.aload_n 0, 1) := by decide +kernel
theorem dX8_init_1 : decode cX8_init 1 = .ok (.invokespecial 3, 3) := by decide +kernel
theorem dX8_init_4 : decode cX8_init 4 = .ok (.aload_n 0, 1) := by decide +kernel
theorem dX8_init_5 : decode cX8_init 5 = .ok (.bipush 10, 2) := by decide +kernel
theorem dX8_init_7 : decode cX8_init 7 = .ok (.newarray .int, 2) := by decide +kernel
theorem dX8_init_9 : decode cX8_init 9 = .ok (.putfield 9, 3) := by decide +kernel
theorem dX8_init_12 : decode cX8_init 12 = .ok (.aload_n 0, 1) := by decide +kernel
theorem dX8_init_13 : decode cX8_init 13 = .ok (.bipush 10, 2) := by decide +kernel
theorem dX8_init_15 : decode cX8_init 15 = .ok (.newarray .int, 2) := by decide +kernel
theorem dX8_init_17 : decode cX8_init 17 = .ok (.putfield 15, 3) := by decide +kernel
theorem dX8_init_20 : decode cX8_init 20 = .ok (.aload_n 0, 1) := by decide +kernel
theorem dX8_init_21 : decode cX8_init 21 = .ok (.bipush 10, 2) := by decide +kernel
theorem dX8_init_23 : decode cX8_init 23 = .ok (.newarray .int, 2) := by decide +kernel
theorem dX8_init_25 : decode cX8_init 25 = .ok (.putfield 18, 3) := by decide +kernel
theorem dX8_init_28 : decode cX8_init 28 = .ok (.aload_n 0, 1) := by decide +kernel
theorem dX8_init_29 : decode cX8_init 29 = .ok (.bipush 10, 2) := by decide +kernel
theorem dX8_init_31 : decode cX8_init 31 = .ok (.newarray .int, 2) := by decide +kernel
theorem dX8_init_33 : decode cX8_init 33 = .ok (.putfield 21, 3) := by decide +kernel
theorem dX8_init_36 : decode cX8_init 36 = .ok (.aload_n 0, 1) := by decide +kernel
theorem dX8_init_37 : decode cX8_init 37 = .ok (.iconst 3, 1) := by decide +kernel
theorem dX8_init_38 : decode cX8_init 38 = .ok (.newarray .int, 2) := by decide +kernel
theorem dX8_init_40 : decode cX8_init 40 = .ok (.putfield 24, 3) := by decide +kernel
theorem dX8_init_43 : decode cX8_init 43 = .ok (.return_, 1) := by decide +kernel
set_option maxRecDepth 20000 in
theorem ggX8_read_X5_digitAt : GoodIn wsX8_read wsX5_digitAt := goodIn_r _ [14, 15, 29, 30, 31, 32, 33] (by decide +kernel) (by decide +kernel)
set_option maxRecDepth 20000 in
theorem gX8_read_X5_digitAt : GoodIn wsX8_read (wsV RX8 39 RX5 yX5_digitAt wsX5_digitAt) := goodIn_app (goodIn_of _ (by decide +kernel)) ggX8_read_X5_digitAt
set_option maxRecDepth 20000 in
theorem ggX8_read_X5_hasAt : GoodIn wsX8_read wsX5_hasAt := goodIn_r _ [19, 20, 15, 29, 30, 31, 32, 33] (by decide +kernel) (by decide +kernel)
set_option maxRecDepth 20000 in
theorem gX8_read_X5_hasAt : GoodIn wsX8_read (wsV RX8 43 RX5 yX5_hasAt wsX5_hasAt) := goodIn_app (goodIn_of _ (by decide +kernel)) ggX8_read_X5_hasAt
theorem dX8_read_0 : decode cX8_read 0 = .ok (.aload_n 0, 1) := by decide +kernel
theorem dX8_read_1 : decode cX8_read 1 = .ok (.iconst 0, 1) := by decide +kernel
theorem dX8_read_2 : decode cX8_read 2 = .ok (.putfield 27, 3) := by decide +kernel
theorem dX8_read_5 : decode cX8_read 5 = .ok (.aload_n 0, 1) := by decide +kernel
theorem dX8_read_6 : decode cX8_read 6 = .ok (.iconst 0, 1) := by decide +kernel
theorem dX8_read_7 : decode cX8_read 7 = .ok (.putfield 31, 3) := by decide +kernel
theorem dX8_read_10 : decode cX8_read 10 = .ok (.iconst 0, 1) := by decide +kernel
theorem dX8_read_11 : decode cX8_read 11 = .ok (.istore_n 2, 1) := by decide +kernel
theorem dX8_read_12 : decode cX8_read 12 = .ok (.aload_n 0, 1) := by decide +kernel
theorem dX8_read_13 : decode cX8_read 13 = .ok (.getfield 27, 3) := by decide +kernel
theorem dX8_read_16 : decode cX8_read 16 = .ok (.bipush 10, 2) := by decide +kernel
theorem dX8_read_18 : decode cX8_read 18 = .ok (.if_icmp .ge 145, 3) := by decide +kernel
theorem dX8_read_21 : decode cX8_read 21 = .ok (.iload_n 2, 1) := by decide +kernel
theorem dX8_read_22 : decode cX8_read 22 = .ok (.iconst 2, 1) := by decide +kernel
theorem dX8_read_23 : decode cX8_read 23 = .ok (.iadd, 1) := by decide +kernel
theorem dX8_read_24 : decode cX8_read 24 = .ok (.aload_n 1, 1) := by decide +kernel
theorem dX8_read_25 : decode cX8_read 25 = .ok (.getfield 34, 3) := by decide +kernel
theorem dX8_read_28 : decode cX8_read 28 = .ok (.if_icmp .ge 135, 3) := by decide +kernel
theorem dX8_read_31 : decode cX8_read 31 = .ok (.aload_n 0, 1) := by decide +kernel
theorem dX8_read_32 : decode cX8_read 32 = .ok (.getfield 9, 3) := by decide +kernel
theorem dX8_read_35 : decode cX8_read 35 = .ok (.aload_n 0, 1) := by decide +kernel
theorem dX8_read_36 : decode cX8_read 36 = .ok (.getfield 27, 3) := by decide +kernel
theorem dX8_read_39 : decode cX8_read 39 = .ok (.aload_n 1, 1) := by decide +kernel
theorem dX8_read_40 : decode cX8_read 40 = .ok (.iload_n 2, 1) := by decide +kernel
theorem dX8_read_41 : decode cX8_read 41 = .ok (.invokevirtual 39, 3) := by decide +kernel
theorem dX8_read_44 : decode cX8_read 44 = .ok (.iastore, 1) := by decide +kernel
theorem dX8_read_45 : decode cX8_read 45 = .ok (.aload_n 0, 1) := by decide +kernel
theorem dX8_read_46 : decode cX8_read 46 = .ok (.getfield 15, 3) := by decide +kernel
theorem dX8_read_49 : decode cX8_read 49 = .ok (.aload_n 0, 1) := by decide +kernel
theorem dX8_read_50 : decode cX8_read 50 = .ok (.getfield 27, 3) := by decide +kernel
theorem dX8_read_53 : decode cX8_read 53 = .ok (.aload_n 1, 1) := by decide +kernel
theorem dX8_read_54 : decode cX8_read 54 = .ok (.iload_n 2, 1) := by decide +kernel
theorem dX8_read_55 : decode cX8_read 55 = .ok (.iconst 1, 1) := by decide +kernel
theorem dX8_read_56 : decode cX8_read 56 = .ok (.iadd, 1) := by decide +kernel
theorem dX8_read_57 : decode cX8_read 57 = .ok (.invokevirtual 39, 3) := by decide +kernel
theorem dX8_read_60 : decode cX8_read 60 = .ok (.iastore, 1) := by decide +kernel
theorem dX8_read_61 : decode cX8_read 61 = .ok (.aload_n 0, 1) := by decide +kernel
theorem dX8_read_62 : decode cX8_read 62 = .ok (.getfield 18, 3) := by decide +kernel
theorem dX8_read_65 : decode cX8_read 65 = .ok (.aload_n 0, 1) := by decide +kernel
theorem dX8_read_66 : decode cX8_read 66 = .ok (.getfield 27, 3) := by decide +kernel
theorem dX8_read_69 : decode cX8_read 69 = .ok (.aload_n 1, 1) := by decide +kernel
theorem dX8_read_70 : decode cX8_read 70 = .ok (.iload_n 2, 1) := by decide +kernel
theorem dX8_read_71 : decode cX8_read 71 = .ok (.iconst 2, 1) := by decide +kernel
theorem dX8_read_72 : decode cX8_read 72 = .ok (.iadd, 1) := by decide +kernel
theorem dX8_read_73 : decode cX8_read 73 = .ok (.invokevirtual 39, 3) := by decide +kernel
theorem dX8_read_76 : decode cX8_read 76 = .ok (.iastore, 1) := by decide +kernel
theorem dX8_read_77 : decode cX8_read 77 = .ok (.aload_n 0, 1) := by decide +kernel
theorem dX8_read_78 : decode cX8_read 78 = .ok (.getfield 21, 3) := by decide +kernel
theorem dX8_read_81 : decode cX8_read 81 = .ok (.aload_n 0, 1) := by decide +kernel
theorem dX8_read_82 : decode cX8_read 82 = .ok (.getfield 27, 3) := by decide +kernel
theorem dX8_read_85 : decode cX8_read 85 = .ok (.iconst (-1), 1) := by decide +kernel
theorem dX8_read_86 : decode cX8_read 86 = .ok (.iastore, 1) := by decide +kernel
theorem dX8_read_87 : decode cX8_read 87 = .ok (.iinc 2 3, 3) := by decide +kernel
theorem dX8_read_90 : decode cX8_read 90 = .ok (.aload_n 0, 1) := by decide +kernel
theorem dX8_read_91 : decode cX8_read 91 = .ok (.getfield 31, 3) := by decide +kernel
theorem dX8_read_94 : decode cX8_read 94 = .ok (.iconst 3, 1) := by decide +kernel
theorem dX8_read_95 : decode cX8_read 95 = .ok (.if_icmp .ge 52, 3) := by decide +kernel
theorem dX8_read_98 : decode cX8_read 98 = .ok (.aload_n 1, 1) := by decide +kernel
theorem dX8_read_99 : decode cX8_read 99 = .ok (.iload_n 2, 1) := by decide +kernel
theorem dX8_read_100 : decode cX8_read 100 = .ok (.bipush 33, 2) := by decide +kernel
theorem dX8_read_102 : decode cX8_read 102 = .ok (.invokevirtual 43, 3) := by decide +kernel
theorem dX8_read_105 : decode cX8_read 105 = .ok (.ifCond .eq 42, 3) := by decide +kernel
theorem dX8_read_108 : decode cX8_read 108 = .ok (.aload_n 0, 1) := by decide +kernel
theorem dX8_read_109 : decode cX8_read 109 = .ok (.getfield 21, 3) := by decide +kernel
theorem dX8_read_112 : decode cX8_read 112 = .ok (.aload_n 0, 1) := by decide +kernel
theorem dX8_read_113 : decode cX8_read 113 = .ok (.getfield 27, 3) := by decide +kernel
theorem dX8_read_116 : decode cX8_read 116 = .ok (.aload_n 0, 1) := by decide +kernel
theorem dX8_read_117 : decode cX8_read 117 = .ok (.getfield 31, 3) := by decide +kernel
theorem dX8_read_120 : decode cX8_read 120 = .ok (.iastore, 1) := by decide +kernel
theorem dX8_read_121 : decode cX8_read 121 = .ok (.aload_n 0, 1) := by decide +kernel
theorem dX8_read_122 : decode cX8_read 122 = .ok (.getfield 24, 3) := by decide +kernel
theorem dX8_read_125 : decode cX8_read 125 = .ok (.aload_n 0, 1) := by decide +kernel
theorem dX8_read_126 : decode cX8_read 126 = .ok (.getfield 31, 3) := by decide +kernel
theorem dX8_read_129 : decode cX8_read 129 = .ok (.aload_n 0, 1) := by decide +kernel
theorem dX8_read_130 : decode cX8_read 130 = .ok (.getfield 27, 3) := by decide +kernel
theorem dX8_read_133 : decode cX8_read 133 = .ok (.iastore, 1) := by decide +kernel
theorem dX8_read_134 : decode cX8_read 134 = .ok (.aload_n 0, 1) := by decide +kernel
theorem dX8_read_135 : decode cX8_read 135 = .ok (.dup, 1) := by decide +kernel
theorem dX8_read_136 : decode cX8_read 136 = .ok (.getfield 31, 3) := by decide +kernel
theorem dX8_read_139 : decode cX8_read 139 = .ok (.iconst 1, 1) := by decide +kernel
theorem dX8_read_140 : decode cX8_read 140 = .ok (.iadd, 1) := by decide +kernel
theorem dX8_read_141 : decode cX8_read 141 = .ok (.putfield 31, 3) := by decide +kernel
theorem dX8_read_144 : decode cX8_read 144 = .ok (.iinc 2 1, 3) := by decide +kernel
theorem dX8_read_147 : decode cX8_read 147 = .ok (.aload_n 0, 1) := by decide +kernel
theorem dX8_read_148 : decode cX8_read 148 = .ok (.dup, 1) := by decide +kernel
theorem dX8_read_149 : decode cX8_read 149 = .ok (.getfield 27, 3) := by decide +kernel
theorem dX8_read_152 : decode cX8_read 152 = .ok (.iconst 1, 1) := by decide +kernel
theorem dX8_read_153 : decode cX8_read 153 = .ok (.iadd, 1) := by decide +kernel
theorem dX8_read_154 : decode cX8_read 154 = .ok (.putfield 27, 3) := by decide +kernel
theorem dX8_read_157 : decode cX8_read 157 = .ok (.iinc 2 1, 3) := by decide +kernel
theorem dX8_read_160 : decode cX8_read 160 = .ok (.goto (-148), 3) := by decide +kernel
theorem dX8_read_163 : decode cX8_read 163 = .ok (.aload_n 0, 1) := by decide +kernel
theorem dX8_read_164 : decode cX8_read 164 = .ok (.aload_n 1, 1) := by decide +kernel
theorem dX8_read_165 : decode cX8_read 165 = .ok (.aload_n 1, 1) := by decide +kernel
theorem dX8_read_166 : decode cX8_read 166 = .ok (.getfield 34, 3) := by decide +kernel
theorem dX8_read_169 : decode cX8_read 169 = .ok (.iconst 1, 1) := by decide +kernel
theorem dX8_read_170 : decode cX8_read 170 = .ok (.isub, 1) := by decide +kernel
theorem dX8_read_171 : decode cX8_read 171 = .ok (.bipush 102, 2) := by decide +kernel
theorem dX8_read_173 : decode cX8_read 173 = .ok (.invokevirtual 43, 3) := by decide +kernel
theorem dX8_read_176 : decode cX8_read 176 = .ok (.putfield 47, 3) := by decide +kernel
theorem dX8_read_179 : decode cX8_read 179 = .ok (.return_, 1) := by decide +kernel
theorem dX8_isAt_0 : decode cX8_isAt 0 = .ok (.aload_n 0, 1) := by decide +kernel
theorem dX8_isAt_1 : decode cX8_isAt 1 = .ok (.getfield 9, 3) := by decide +kernel
theorem dX8_isAt_4 : decode cX8_isAt 4 = .ok (.iload_n 1, 1) := by decide +kernel
theorem dX8_isAt_5 : decode cX8_isAt 5 = .ok (.iaload, 1) := by decide +kernel
theorem dX8_isAt_6 : decode cX8_isAt 6 = .ok (.iload_n 2, 1) := by decide +kernel
theorem dX8_isAt_7 : decode cX8_isAt 7 = .ok (.if_icmp .eq 13, 3) := by decide +kernel
theorem dX8_isAt_10 : decode cX8_isAt 10 = .ok (.aload_n 0, 1) := by decide +kernel
theorem dX8_isAt_11 : decode cX8_isAt 11 = .ok (.getfield 15, 3) := by decide +kernel
theorem dX8_isAt_14 : decode cX8_isAt 14 = .ok (.iload_n 1, 1) := by decide +kernel
theorem dX8_isAt_15 : decode cX8_isAt 15 = .ok (.iaload, 1) := by decide +kernel
theorem dX8_isAt_16 : decode cX8_isAt 16 = .ok (.iload_n 2, 1) := by decide +kernel
theorem dX8_isAt_17 : decode cX8_isAt 17 = .ok (.if_icmp .ne 7, 3) := by decide +kernel
theorem dX8_isAt_20 : decode cX8_isAt 20 = .ok (.iconst 1, 1) := by decide +kernel
theorem dX8_isAt_21 : decode cX8_isAt 21 = .ok (.goto 4, 3) := by decide +kernel
theorem dX8_isAt_24 : decode cX8_isAt 24 = .ok (.iconst 0, 1) := by decide +kernel
theorem dX8_isAt_25 : decode cX8_isAt 25 = .ok (.ireturn, 1) := by decide +kernel
set_option maxRecDepth 20000 in
theorem ggX8_streetsAt_X8_isAt : GoodIn wsX8_streetsAt wsX8_isAt := goodIn_r _ [6, 7, 8, 9, 10, 11, 12, 13, 14, 15, 16] (by decide +kernel) (by decide +kernel)
set_option maxRecDepth 20000 in
theorem gX8_streetsAt_X8_isAt : GoodIn wsX8_streetsAt (wsV RX8 51 RX8 yX8_isAt wsX8_isAt) := goodIn_app (goodIn_of _ (by decide +kernel)) ggX8_streetsAt_X8_isAt
theorem dX8_streetsAt_0 : decode cX8_streetsAt 0 = .ok (.iconst 0, 1) := by decide +kernel
theorem dX8_streetsAt_1 : decode cX8_streetsAt 1 = .ok (.istore_n 2, 1) := by decide +kernel
theorem dX8_streetsAt_2 : decode cX8_streetsAt 2 = .ok (.iconst 0, 1) := by decide +kernel
theorem dX8_streetsAt_3 : decode cX8_streetsAt 3 = .ok (.istore_n 3, 1) := by decide +kernel
theorem dX8_streetsAt_4 : decode cX8_streetsAt 4 = .ok (.iload_n 3, 1) := by decide +kernel
theorem dX8_streetsAt_5 : decode cX8_streetsAt 5 = .ok (.aload_n 0, 1) := by decide +kernel
theorem dX8_streetsAt_6 : decode cX8_streetsAt 6 = .ok (.getfield 27, 3) := by decide +kernel
theorem dX8_streetsAt_9 : decode cX8_streetsAt 9 = .ok (.if_icmp .ge 21, 3) := by decide +kernel
theorem dX8_streetsAt_12 : decode cX8_streetsAt 12 = .ok (.aload_n 0, 1) := by decide +kernel
theorem dX8_streetsAt_13 : decode cX8_streetsAt 13 = .ok (.iload_n 3, 1) := by decide +kernel
theorem dX8_streetsAt_14 : decode cX8_streetsAt 14 = .ok (.iload_n 1, 1) := by decide +kernel
theorem dX8_streetsAt_15 : decode cX8_streetsAt 15 = .ok (.invokevirtual 51, 3) := by decide +kernel
theorem dX8_streetsAt_18 : decode cX8_streetsAt 18 = .ok (.ifCond .eq 6, 3) := by decide +kernel
theorem dX8_streetsAt_21 : decode cX8_streetsAt 21 = .ok (.iinc 2 1, 3) := by decide +kernel
theorem dX8_streetsAt_24 : decode cX8_streetsAt 24 = .ok (.iinc 3 1, 3) := by decide +kernel
theorem dX8_streetsAt_27 : decode cX8_streetsAt 27 = .ok (.goto (-23), 3) := by decide +kernel
theorem dX8_streetsAt_30 : decode cX8_streetsAt 30 = .ok (.iload_n 2, 1) := by decide +kernel
theorem dX8_streetsAt_31 : decode cX8_streetsAt 31 = .ok (.ireturn, 1) := by decide +kernel
set_option maxRecDepth 20000 in
theorem ggX8_streetAt_X8_isAt : GoodIn wsX8_streetAt wsX8_isAt := goodIn_r _ [6, 7, 8, 9, 10, 11, 12, 13, 14, 15, 16] (by decide +kernel) (by decide +kernel)
set_option maxRecDepth 20000 in
theorem gX8_streetAt_X8_isAt : GoodIn wsX8_streetAt (wsV RX8 51 RX8 yX8_isAt wsX8_isAt) := goodIn_app (goodIn_of _ (by decide +kernel)) ggX8_streetAt_X8_isAt
theorem dX8_streetAt_0 : decode cX8_streetAt 0 = .ok (.iload_n 2, 1) := by decide +kernel
theorem dX8_streetAt_1 : decode cX8_streetAt 1 = .ok (.istore_n 3, 1) := by decide +kernel
theorem dX8_streetAt_2 : decode cX8_streetAt 2 = .ok (.iconst 0, 1) := by decide +kernel
theorem dX8_streetAt_3 : decode cX8_streetAt 3 = .ok (.istore 4, 2) := by decide +kernel
theorem dX8_streetAt_5 : decode cX8_streetAt 5 = .ok (.iload 4, 2) := by decide +kernel
theorem dX8_streetAt_7 : decode cX8_streetAt 7 = .ok (.aload_n 0, 1) := by decide +kernel
theorem dX8_streetAt_8 : decode cX8_streetAt 8 = .ok (.getfield 27, 3) := by decide +kernel
theorem dX8_streetAt_11 : decode cX8_streetAt 11 = .ok (.if_icmp .ge 29, 3) := by decide +kernel
theorem dX8_streetAt_14 : decode cX8_streetAt 14 = .ok (.aload_n 0, 1) := by decide +kernel
theorem dX8_streetAt_15 : decode cX8_streetAt 15 = .ok (.iload 4, 2) := by decide +kernel
theorem dX8_streetAt_17 : decode cX8_streetAt 17 = .ok (.iload_n 1, 1) := by decide +kernel
theorem dX8_streetAt_18 : decode cX8_streetAt 18 = .ok (.invokevirtual 51, 3) := by decide +kernel
theorem dX8_streetAt_21 : decode cX8_streetAt 21 = .ok (.ifCond .eq 13, 3) := by decide +kernel
theorem dX8_streetAt_24 : decode cX8_streetAt 24 = .ok (.iload_n 3, 1) := by decide +kernel
theorem dX8_streetAt_25 : decode cX8_streetAt 25 = .ok (.ifCond .ne 6, 3) := by decide +kernel
theorem dX8_streetAt_28 : decode cX8_streetAt 28 = .ok (.iload 4, 2) := by decide +kernel
theorem dX8_streetAt_30 : decode cX8_streetAt 30 = .ok (.ireturn, 1) := by decide +kernel
theorem dX8_streetAt_31 : decode cX8_streetAt 31 = .ok (.iinc 3 (-1), 3) := by decide +kernel
theorem dX8_streetAt_34 : decode cX8_streetAt 34 = .ok (.iinc 4 1, 3) := by decide +kernel
theorem dX8_streetAt_37 : decode cX8_streetAt 37 = .ok (.goto (-32), 3) := by decide +kernel
theorem dX8_streetAt_40 : decode cX8_streetAt 40 = .ok (.iconst 0, 1) := by decide +kernel
theorem dX8_streetAt_41 : decode cX8_streetAt 41 = .ok (.ireturn, 1) := by decide +kernel
set_option maxRecDepth 20000 in
theorem ggX8_behind_X7_placeOf : GoodIn wsX8_behind wsX7_placeOf := goodIn_r _ [7] (by decide +kernel) (by decide +kernel)
set_option maxRecDepth 20000 in
theorem gX8_behind_X7_placeOf : GoodIn wsX8_behind (va_wsS RX8 55 yX7_placeOf wsX7_placeOf) := goodIn_app (goodIn_of _ (by decide +kernel)) ggX8_behind_X7_placeOf
set_option maxRecDepth 20000 in
theorem ggX8_behind_X8_isAt : GoodIn wsX8_behind wsX8_isAt := goodIn_r _ [12, 2, 3, 33, 34, 35, 36, 37, 38, 39, 40] (by decide +kernel) (by decide +kernel)
set_option maxRecDepth 20000 in
theorem gX8_behind_X8_isAt : GoodIn wsX8_behind (wsV RX8 51 RX8 yX8_isAt wsX8_isAt) := goodIn_app (goodIn_of _ (by decide +kernel)) ggX8_behind_X8_isAt
set_option maxRecDepth 20000 in
theorem ggX8_behind_X7_footOf : GoodIn wsX8_behind wsX7_footOf := goodIn_r _ [15] (by decide +kernel) (by decide +kernel)
set_option maxRecDepth 20000 in
theorem gX8_behind_X7_footOf : GoodIn wsX8_behind (va_wsS RX8 60 yX7_footOf wsX7_footOf) := goodIn_app (goodIn_of _ (by decide +kernel)) ggX8_behind_X7_footOf
set_option maxRecDepth 20000 in
theorem ggX8_behind_X7_marksOf : GoodIn wsX8_behind wsX7_marksOf := goodIn_r _ [18] (by decide +kernel) (by decide +kernel)
set_option maxRecDepth 20000 in
theorem gX8_behind_X7_marksOf : GoodIn wsX8_behind (va_wsS RX8 63 yX7_marksOf wsX7_marksOf) := goodIn_app (goodIn_of _ (by decide +kernel)) ggX8_behind_X7_marksOf
set_option maxRecDepth 20000 in
theorem ggX8_behind_X7_marked : GoodIn wsX8_behind wsX7_marked := goodIn_r _ [21] (by decide +kernel) (by decide +kernel)
set_option maxRecDepth 20000 in
theorem gX8_behind_X7_marked : GoodIn wsX8_behind (va_wsS RX8 66 yX7_marked wsX7_marked) := goodIn_app (goodIn_of _ (by decide +kernel)) ggX8_behind_X7_marked
set_option maxRecDepth 20000 in
theorem ggX8_behind_X7_of : GoodIn wsX8_behind wsX7_of := goodIn_r _ [24] (by decide +kernel) (by decide +kernel)
set_option maxRecDepth 20000 in
theorem gX8_behind_X7_of : GoodIn wsX8_behind (va_wsS RX8 70 yX7_of wsX7_of) := goodIn_app (goodIn_of _ (by decide +kernel)) ggX8_behind_X7_of
set_option maxRecDepth 20000 in
theorem ggX8_behind_X7_markOf : GoodIn wsX8_behind wsX7_markOf := goodIn_r _ [27] (by decide +kernel) (by decide +kernel)
set_option maxRecDepth 20000 in
theorem gX8_behind_X7_markOf : GoodIn wsX8_behind (va_wsS RX8 73 yX7_markOf wsX7_markOf) := goodIn_app (goodIn_of _ (by decide +kernel)) ggX8_behind_X7_markOf
set_option maxRecDepth 20000 in
theorem ggX8_behind_X8_isLetOut : GoodIn wsX8_behind wsX8_isLetOut := goodIn_r _ [31, 32, 33, 34, 35, 36, 37, 38, 39, 40] (by decide +kernel) (by decide +kernel)
set_option maxRecDepth 20000 in
theorem gX8_behind_X8_isLetOut : GoodIn wsX8_behind (wsV RX8 77 RX8 yX8_isLetOut wsX8_isLetOut) := goodIn_app (goodIn_of _ (by decide +kernel)) ggX8_behind_X8_isLetOut
theorem dX8_behind_0 : decode cX8_behind 0 = .ok (.iload_n 1, 1) := by decide +kernel
theorem dX8_behind_1 : decode cX8_behind 1 = .ok (.invokestatic 55, 3) := by decide +kernel
theorem dX8_behind_4 : decode cX8_behind 4 = .ok (.istore 4, 2) := by decide +kernel
theorem dX8_behind_6 : decode cX8_behind 6 = .ok (.aload_n 0, 1) := by decide +kernel
theorem dX8_behind_7 : decode cX8_behind 7 = .ok (.iload_n 2, 1) := by decide +kernel
theorem dX8_behind_8 : decode cX8_behind 8 = .ok (.iload 4, 2) := by decide +kernel
theorem dX8_behind_10 : decode cX8_behind 10 = .ok (.invokevirtual 51, 3) := by decide +kernel
theorem dX8_behind_13 : decode cX8_behind 13 = .ok (.ifCond .ne 5, 3) := by decide +kernel
theorem dX8_behind_16 : decode cX8_behind 16 = .ok (.iconst (-1), 1) := by decide +kernel
theorem dX8_behind_17 : decode cX8_behind 17 = .ok (.ireturn, 1) := by decide +kernel
theorem dX8_behind_18 : decode cX8_behind 18 = .ok (.iload_n 1, 1) := by decide +kernel
theorem dX8_behind_19 : decode cX8_behind 19 = .ok (.invokestatic 60, 3) := by decide +kernel
theorem dX8_behind_22 : decode cX8_behind 22 = .ok (.iload_n 3, 1) := by decide +kernel
theorem dX8_behind_23 : decode cX8_behind 23 = .ok (.ixor, 1) := by decide +kernel
theorem dX8_behind_24 : decode cX8_behind 24 = .ok (.istore 5, 2) := by decide +kernel
theorem dX8_behind_26 : decode cX8_behind 26 = .ok (.iload_n 1, 1) := by decide +kernel
theorem dX8_behind_27 : decode cX8_behind 27 = .ok (.invokestatic 63, 3) := by decide +kernel
theorem dX8_behind_30 : decode cX8_behind 30 = .ok (.istore 6, 2) := by decide +kernel
theorem dX8_behind_32 : decode cX8_behind 32 = .ok (.aload_n 0, 1) := by decide +kernel
theorem dX8_behind_33 : decode cX8_behind 33 = .ok (.getfield 21, 3) := by decide +kernel
theorem dX8_behind_36 : decode cX8_behind 36 = .ok (.iload_n 2, 1) := by decide +kernel
theorem dX8_behind_37 : decode cX8_behind 37 = .ok (.iaload, 1) := by decide +kernel
theorem dX8_behind_38 : decode cX8_behind 38 = .ok (.istore 7, 2) := by decide +kernel
theorem dX8_behind_40 : decode cX8_behind 40 = .ok (.iload 4, 2) := by decide +kernel
theorem dX8_behind_42 : decode cX8_behind 42 = .ok (.aload_n 0, 1) := by decide +kernel
theorem dX8_behind_43 : decode cX8_behind 43 = .ok (.getfield 9, 3) := by decide +kernel
theorem dX8_behind_46 : decode cX8_behind 46 = .ok (.iload_n 2, 1) := by decide +kernel
theorem dX8_behind_47 : decode cX8_behind 47 = .ok (.iaload, 1) := by decide +kernel
theorem dX8_behind_48 : decode cX8_behind 48 = .ok (.if_icmp .ne 35, 3) := by decide +kernel
theorem dX8_behind_51 : decode cX8_behind 51 = .ok (.aload_n 0, 1) := by decide +kernel
theorem dX8_behind_52 : decode cX8_behind 52 = .ok (.getfield 15, 3) := by decide +kernel
theorem dX8_behind_55 : decode cX8_behind 55 = .ok (.iload_n 2, 1) := by decide +kernel
theorem dX8_behind_56 : decode cX8_behind 56 = .ok (.iaload, 1) := by decide +kernel
theorem dX8_behind_57 : decode cX8_behind 57 = .ok (.iload 5, 2) := by decide +kernel
theorem dX8_behind_59 : decode cX8_behind 59 = .ok (.iload 7, 2) := by decide +kernel
theorem dX8_behind_61 : decode cX8_behind 61 = .ok (.iconst (-1), 1) := by decide +kernel
theorem dX8_behind_62 : decode cX8_behind 62 = .ok (.if_icmp .ne 8, 3) := by decide +kernel
theorem dX8_behind_65 : decode cX8_behind 65 = .ok (.iload 6, 2) := by decide +kernel
theorem dX8_behind_67 : decode cX8_behind 67 = .ok (.goto 12, 3) := by decide +kernel
theorem dX8_behind_70 : decode cX8_behind 70 = .ok (.iload 6, 2) := by decide +kernel
theorem dX8_behind_72 : decode cX8_behind 72 = .ok (.iload 7, 2) := by decide +kernel
theorem dX8_behind_74 : decode cX8_behind 74 = .ok (.iload 5, 2) := by decide +kernel
theorem dX8_behind_76 : decode cX8_behind 76 = .ok (.invokestatic 66, 3) := by decide +kernel
theorem dX8_behind_79 : decode cX8_behind 79 = .ok (.invokestatic 70, 3) := by decide +kernel
theorem dX8_behind_82 : decode cX8_behind 82 = .ok (.ireturn, 1) := by decide +kernel
theorem dX8_behind_83 : decode cX8_behind 83 = .ok (.iload 7, 2) := by decide +kernel
theorem dX8_behind_85 : decode cX8_behind 85 = .ok (.iconst (-1), 1) := by decide +kernel
theorem dX8_behind_86 : decode cX8_behind 86 = .ok (.if_icmp .eq 20, 3) := by decide +kernel
theorem dX8_behind_89 : decode cX8_behind 89 = .ok (.aload_n 0, 1) := by decide +kernel
theorem dX8_behind_90 : decode cX8_behind 90 = .ok (.iload_n 1, 1) := by decide +kernel
theorem dX8_behind_91 : decode cX8_behind 91 = .ok (.iload 7, 2) := by decide +kernel
theorem dX8_behind_93 : decode cX8_behind 93 = .ok (.invokestatic 73, 3) := by decide +kernel
theorem dX8_behind_96 : decode cX8_behind 96 = .ok (.iload 5, 2) := by decide +kernel
theorem dX8_behind_98 : decode cX8_behind 98 = .ok (.invokevirtual 77, 3) := by decide +kernel
theorem dX8_behind_101 : decode cX8_behind 101 = .ok (.ifCond .ne 5, 3) := by decide +kernel
theorem dX8_behind_104 : decode cX8_behind 104 = .ok (.iconst (-1), 1) := by decide +kernel
theorem dX8_behind_105 : decode cX8_behind 105 = .ok (.ireturn, 1) := by decide +kernel
theorem dX8_behind_106 : decode cX8_behind 106 = .ok (.aload_n 0, 1) := by decide +kernel
theorem dX8_behind_107 : decode cX8_behind 107 = .ok (.getfield 9, 3) := by decide +kernel
theorem dX8_behind_110 : decode cX8_behind 110 = .ok (.iload_n 2, 1) := by decide +kernel
theorem dX8_behind_111 : decode cX8_behind 111 = .ok (.iaload, 1) := by decide +kernel
theorem dX8_behind_112 : decode cX8_behind 112 = .ok (.iload 5, 2) := by decide +kernel
theorem dX8_behind_114 : decode cX8_behind 114 = .ok (.iload 6, 2) := by decide +kernel
theorem dX8_behind_116 : decode cX8_behind 116 = .ok (.invokestatic 70, 3) := by decide +kernel
theorem dX8_behind_119 : decode cX8_behind 119 = .ok (.ireturn, 1) := by decide +kernel
theorem dX8_isLetOut_0 : decode cX8_isLetOut 0 = .ok (.iload_n 1, 1) := by decide +kernel
theorem dX8_isLetOut_1 : decode cX8_isLetOut 1 = .ok (.iconst (-1), 1) := by decide +kernel
theorem dX8_isLetOut_2 : decode cX8_isLetOut 2 = .ok (.if_icmp .ne 10, 3) := by decide +kernel
theorem dX8_isLetOut_5 : decode cX8_isLetOut 5 = .ok (.aload_n 0, 1) := by decide +kernel
theorem dX8_isLetOut_6 : decode cX8_isLetOut 6 = .ok (.getfield 47, 3) := by decide +kernel
theorem dX8_isLetOut_9 : decode cX8_isLetOut 9 = .ok (.goto 13, 3) := by decide +kernel
theorem dX8_isLetOut_12 : decode cX8_isLetOut 12 = .ok (.iload_n 1, 1) := by decide +kernel
theorem dX8_isLetOut_13 : decode cX8_isLetOut 13 = .ok (.iload_n 2, 1) := by decide +kernel
theorem dX8_isLetOut_14 : decode cX8_isLetOut 14 = .ok (.if_icmp .ne 7, 3) := by decide +kernel
theorem dX8_isLetOut_17 : decode cX8_isLetOut 17 = .ok (.iconst 1, 1) := by decide +kernel
theorem dX8_isLetOut_18 : decode cX8_isLetOut 18 = .ok (.goto 4, 3) := by decide +kernel
theorem dX8_isLetOut_21 : decode cX8_isLetOut 21 = .ok (.iconst 0, 1) := by decide +kernel
theorem dX8_isLetOut_22 : decode cX8_isLetOut 22 = .ok (.ireturn, 1) := by decide +kernel
theorem dX9_init_0 : decode cX9_init 0 = .ok (.aload_n 0, 1) := by decide +kernel
theorem dX9_init_1 : decode cX9_init 1 = .ok (.invokespecial 3, 3) := by decide +kernel
theorem dX9_init_4 : decode cX9_init 4 = .ok (.return_, 1) := by decide +kernel
theorem dX9_isOf_0 : decode cX9_isOf 0 = .ok (.iload_n 1, 1) := by decide +kernel
theorem dX9_isOf_1 : decode cX9_isOf 1 = .ok (.ifCond .eq 24, 3) := by decide +kernel
theorem dX9_isOf_4 : decode cX9_isOf 4 = .ok (.iload_n 1, 1) := by decide +kernel
theorem dX9_isOf_5 : decode cX9_isOf 5 = .ok (.aload_n 0, 1) := by decide +kernel
theorem dX9_isOf_6 : decode cX9_isOf 6 = .ok (.getfield 9, 3) := by decide +kernel
theorem dX9_isOf_9 : decode cX9_isOf 9 = .ok (.if_icmp .eq 16, 3) := by decide +kernel
theorem dX9_isOf_12 : decode cX9_isOf 12 = .ok (.iload_n 1, 1) := by decide +kernel
theorem dX9_isOf_13 : decode cX9_isOf 13 = .ok (.iconst 2, 1) := by decide +kernel
theorem dX9_isOf_14 : decode cX9_isOf 14 = .ok (.if_icmp .ne 15, 3) := by decide +kernel
theorem dX9_isOf_17 : decode cX9_isOf 17 = .ok (.aload_n 0, 1) := by decide +kernel
theorem dX9_isOf_18 : decode cX9_isOf 18 = .ok (.getfield 9, 3) := by decide +kernel
theorem dX9_isOf_21 : decode cX9_isOf 21 = .ok (.iconst 4, 1) := by decide +kernel
theorem dX9_isOf_22 : decode cX9_isOf 22 = .ok (.if_icmp .ne 7, 3) := by decide +kernel
theorem dX9_isOf_25 : decode cX9_isOf 25 = .ok (.iconst 1, 1) := by decide +kernel
theorem dX9_isOf_26 : decode cX9_isOf 26 = .ok (.goto 4, 3) := by decide +kernel
theorem dX9_isOf_29 : decode cX9_isOf 29 = .ok (.iconst 0, 1) := by decide +kernel
theorem dX9_isOf_30 : decode cX9_isOf 30 = .ok (.ireturn, 1) := by decide +kernel
theorem dX9_stepsOf_0 : decode cX9_stepsOf 0 = .ok (.iload_n 0, 1) := by decide +kernel
theorem dX9_stepsOf_1 : decode cX9_stepsOf 1 = .ok (.tableswitch 51 1 4 #[31, 37, 51, 43], 31) := by decide +kernel
theorem dX9_stepsOf_32 : decode cX9_stepsOf 32 = .ok (.iload_n 1, 1) := by decide +kernel
theorem dX9_stepsOf_33 : decode cX9_stepsOf 33 = .ok (.iload_n 1, 1) := by decide +kernel
theorem dX9_stepsOf_34 : decode cX9_stepsOf 34 = .ok (.iconst 2, 1) := by decide +kernel
theorem dX9_stepsOf_35 : decode cX9_stepsOf 35 = .ok (.idiv, 1) := by decide +kernel
theorem dX9_stepsOf_36 : decode cX9_stepsOf 36 = .ok (.iadd, 1) := by decide +kernel
theorem dX9_stepsOf_37 : decode cX9_stepsOf 37 = .ok (.ireturn, 1) := by decide +kernel
theorem dX9_stepsOf_38 : decode cX9_stepsOf 38 = .ok (.iload_n 1, 1) := by decide +kernel
theorem dX9_stepsOf_39 : decode cX9_stepsOf 39 = .ok (.iconst 1, 1) := by decide +kernel
theorem dX9_stepsOf_40 : decode cX9_stepsOf 40 = .ok (.iadd, 1) := by decide +kernel
theorem dX9_stepsOf_41 : decode cX9_stepsOf 41 = .ok (.iconst 2, 1) := by decide +kernel
theorem dX9_stepsOf_42 : decode cX9_stepsOf 42 = .ok (.idiv, 1) := by decide +kernel
theorem dX9_stepsOf_43 : decode cX9_stepsOf 43 = .ok (.ireturn, 1) := by decide +kernel
theorem dX9_stepsOf_44 : decode cX9_stepsOf 44 = .ok (.iload_n 1, 1) := by decide +kernel
theorem dX9_stepsOf_45 : decode cX9_stepsOf 45 = .ok (.iconst 1, 1) := by decide +kernel
theorem dX9_stepsOf_46 : decode cX9_stepsOf 46 = .ok (.iadd, 1) := by decide +kernel
theorem dX9_stepsOf_47 : decode cX9_stepsOf 47 = .ok (.iconst 2, 1) := by decide +kernel
theorem dX9_stepsOf_48 : decode cX9_stepsOf 48 = .ok (.idiv, 1) := by decide +kernel
theorem dX9_stepsOf_49 : decode cX9_stepsOf 49 = .ok (.iconst 1, 1) := by decide +kernel
theorem dX9_stepsOf_50 : decode cX9_stepsOf 50 = .ok (.iadd, 1) := by decide +kernel
theorem dX9_stepsOf_51 : decode cX9_stepsOf 51 = .ok (.ireturn, 1) := by decide +kernel
theorem dX9_stepsOf_52 : decode cX9_stepsOf 52 = .ok (.iload_n 1, 1) := by decide +kernel
theorem dX9_stepsOf_53 : decode cX9_stepsOf 53 = .ok (.ireturn, 1) := by decide +kernel
set_option maxRecDepth 20000 in
theorem ggX9_turnOf_X9_stepsOf : GoodIn wsX9_turnOf wsX9_stepsOf := goodIn_r _ [4] (by decide +kernel) (by decide +kernel)
set_option maxRecDepth 20000 in
theorem gX9_turnOf_X9_stepsOf : GoodIn wsX9_turnOf (va_wsS RX9 15 yX9_stepsOf wsX9_stepsOf) := goodIn_app (goodIn_of _ (by decide +kernel)) ggX9_turnOf_X9_stepsOf
theorem dX9_turnOf_0 : decode cX9_turnOf 0 = .ok (.iload_n 0, 1) := by decide +kernel
theorem dX9_turnOf_1 : decode cX9_turnOf 1 = .ok (.iconst 3, 1) := by decide +kernel
theorem dX9_turnOf_2 : decode cX9_turnOf 2 = .ok (.if_icmp .ne 7, 3) := by decide +kernel
theorem dX9_turnOf_5 : decode cX9_turnOf 5 = .ok (.iconst 0, 1) := by decide +kernel
theorem dX9_turnOf_6 : decode cX9_turnOf 6 = .ok (.goto 10, 3) := by decide +kernel
theorem dX9_turnOf_9 : decode cX9_turnOf 9 = .ok (.iload_n 0, 1) := by decide +kernel
theorem dX9_turnOf_10 : decode cX9_turnOf 10 = .ok (.iload_n 1, 1) := by decide +kernel
theorem dX9_turnOf_11 : decode cX9_turnOf 11 = .ok (.invokestatic 15, 3) := by decide +kernel
theorem dX9_turnOf_14 : decode cX9_turnOf 14 = .ok (.iconst 1, 1) := by decide +kernel
theorem dX9_turnOf_15 : decode cX9_turnOf 15 = .ok (.iand, 1) := by decide +kernel
theorem dX9_turnOf_16 : decode cX9_turnOf 16 = .ok (.ireturn, 1) := by decide +kernel
set_option maxRecDepth 20000 in
theorem ggX10_init_X3_init : GoodIn wsX10_init wsX3_init := goodIn_r _ [10, 11, 2, 3, 12, 13, 14, 15, 16, 17, 18, 19] (by decide +kernel) (by decide +kernel)
set_option maxRecDepth 20000 in
theorem gX10_init_X3_init : GoodIn wsX10_init (wsX3_init) := ggX10_init_X3_init
theorem dX10_init_0 : decode cX10_init 0 = .ok (.aload_n 0, 1) := by decide +kernel
theorem dX10_init_1 : decode cX10_init 1 = .ok (.invokespecial 3, 3) := by decide +kernel
theorem dX10_init_4 : decode cX10_init 4 = .ok (.aload_n 0, 1) := by decide +kernel
theorem dX10_init_5 : decode cX10_init 5 = .ok (.new 9, 3) := by decide +kernel
theorem dX10_init_8 : decode cX10_init 8 = .ok (.dup, 1) := by decide +kernel
theorem dX10_init_9 : decode cX10_init 9 = .ok (.sipush 896, 3) := by decide +kernel
theorem dX10_init_12 : decode cX10_init 12 = .ok (.invokespecial 13, 3) := by decide +kernel
theorem dX10_init_15 : decode cX10_init 15 = .ok (.putfield 16, 3) := by decide +kernel
theorem dX10_init_18 : decode cX10_init 18 = .ok (.return_, 1) := by decide +kernel
set_option maxRecDepth 20000 in
theorem ggX10_leastTo_X3_clear : GoodIn wsX10_leastTo wsX3_clear := goodIn_r _ [6, 7, 8, 9, 10, 11, 12, 13, 14, 85, 86, 87, 88] (by decide +kernel) (by decide +kernel)
set_option maxRecDepth 20000 in
theorem gX10_leastTo_X3_clear : GoodIn wsX10_leastTo (wsV RX10 22 RX3 yX3_clear wsX3_clear) := goodIn_app (goodIn_of _ (by decide +kernel)) ggX10_leastTo_X3_clear
set_option maxRecDepth 20000 in
theorem ggX10_leastTo_X3_offer : GoodIn wsX10_leastTo wsX3_offer := goodIn_r _ [18, 7, 9, 10, 19, 20, 21, 22, 5, 23, 85, 86, 87, 88] (by decide +kernel) (by decide +kernel)
set_option maxRecDepth 20000 in
theorem gX10_leastTo_X3_offer : GoodIn wsX10_leastTo (wsV RX10 25 RX3 yX3_offer wsX3_offer) := goodIn_app (goodIn_of _ (by decide +kernel)) ggX10_leastTo_X3_offer
set_option maxRecDepth 20000 in
theorem ggX10_leastTo_X3_take : GoodIn wsX10_leastTo wsX3_take := goodIn_r _ [27, 10, 19, 9, 28, 29, 30, 5, 31, 7, 20, 21, 22, 23, 85, 86, 87, 88] (by decide +kernel) (by decide +kernel)
set_option maxRecDepth 20000 in
theorem gX10_leastTo_X3_take : GoodIn wsX10_leastTo (wsV RX10 29 RX3 yX3_take wsX3_take) := goodIn_app (goodIn_of _ (by decide +kernel)) ggX10_leastTo_X3_take
set_option maxRecDepth 20000 in
theorem ggX10_leastTo_X3_costOf : GoodIn wsX10_leastTo wsX3_costOf := goodIn_r _ [35, 7, 85, 86, 87, 88] (by decide +kernel) (by decide +kernel)
set_option maxRecDepth 20000 in
theorem gX10_leastTo_X3_costOf : GoodIn wsX10_leastTo (wsV RX10 33 RX3 yX3_costOf wsX3_costOf) := goodIn_app (goodIn_of _ (by decide +kernel)) ggX10_leastTo_X3_costOf
set_option maxRecDepth 20000 in
theorem ggX10_leastTo_X7_placeOf : GoodIn wsX10_leastTo wsX7_placeOf := goodIn_r _ [39] (by decide +kernel) (by decide +kernel)
set_option maxRecDepth 20000 in
theorem gX10_leastTo_X7_placeOf : GoodIn wsX10_leastTo (va_wsS RX10 37 yX7_placeOf wsX7_placeOf) := goodIn_app (goodIn_of _ (by decide +kernel)) ggX10_leastTo_X7_placeOf
set_option maxRecDepth 20000 in
theorem ggX10_leastTo_X10_offerNext : GoodIn wsX10_leastTo wsX10_offerNext := goodIn_r _ [44, 45, 46, 1, 47, 48, 49, 50, 51, 52, 53, 54, 55, 56, 37, 38, 39, 57, 58, 59, 60, 61, 62, 63, 64, 65, 66, 67, 68, 69, 70, 71, 72, 73, 74, 75, 76, 77, 78, 79, 80, 32, 33, 34, 5, 35, 7, 15, 16, 17, 18, 9, 10, 19, 20, 21, 22, 23, 89, 90, 91, 92, 93, 94, 95, 96, 97, 98, 84, 85, 86, 87, 88] (by decide +kernel) (by decide +kernel)
set_option maxRecDepth 20000 in
theorem gX10_leastTo_X10_offerNext : GoodIn wsX10_leastTo (wsV RX10 40 RX10 yX10_offerNext wsX10_offerNext) := goodIn_app (goodIn_of _ (by decide +kernel)) ggX10_leastTo_X10_offerNext
set_option maxRecDepth 20000 in
theorem ggX10_leastTo_X7_skipped : GoodIn wsX10_leastTo wsX7_skipped := goodIn_r _ [83] (by decide +kernel) (by decide +kernel)
set_option maxRecDepth 20000 in
theorem gX10_leastTo_X7_skipped : GoodIn wsX10_leastTo (va_wsS RX10 44 yX7_skipped wsX7_skipped) := goodIn_app (goodIn_of _ (by decide +kernel)) ggX10_leastTo_X7_skipped
theorem dX10_leastTo_0 : decode cX10_leastTo 0 = .ok (.aload_n 0, 1) := by decide +kernel
theorem dX10_leastTo_1 : decode cX10_leastTo 1 = .ok (.getfield 16, 3) := by decide +kernel
theorem dX10_leastTo_4 : decode cX10_leastTo 4 = .ok (.invokevirtual 22, 3) := by decide +kernel
theorem dX10_leastTo_7 : decode cX10_leastTo 7 = .ok (.aload_n 0, 1) := by decide +kernel
theorem dX10_leastTo_8 : decode cX10_leastTo 8 = .ok (.getfield 16, 3) := by decide +kernel
theorem dX10_leastTo_11 : decode cX10_leastTo 11 = .ok (.iload_n 3, 1) := by decide +kernel
theorem dX10_leastTo_12 : decode cX10_leastTo 12 = .ok (.iconst 0, 1) := by decide +kernel
theorem dX10_leastTo_13 : decode cX10_leastTo 13 = .ok (.invokevirtual 25, 3) := by decide +kernel
theorem dX10_leastTo_16 : decode cX10_leastTo 16 = .ok (.iconst 0, 1) := by decide +kernel
theorem dX10_leastTo_17 : decode cX10_leastTo 17 = .ok (.istore 7, 2) := by decide +kernel
theorem dX10_leastTo_19 : decode cX10_leastTo 19 = .ok (.iload 7, 2) := by decide +kernel
theorem dX10_leastTo_21 : decode cX10_leastTo 21 = .ok (.sipush 896, 3) := by decide +kernel
theorem dX10_leastTo_24 : decode cX10_leastTo 24 = .ok (.if_icmp .ge 98, 3) := by decide +kernel
theorem dX10_leastTo_27 : decode cX10_leastTo 27 = .ok (.aload_n 0, 1) := by decide +kernel
theorem dX10_leastTo_28 : decode cX10_leastTo 28 = .ok (.getfield 16, 3) := by decide +kernel
theorem dX10_leastTo_31 : decode cX10_leastTo 31 = .ok (.invokevirtual 29, 3) := by decide +kernel
theorem dX10_leastTo_34 : decode cX10_leastTo 34 = .ok (.istore 8, 2) := by decide +kernel
theorem dX10_leastTo_36 : decode cX10_leastTo 36 = .ok (.iload 8, 2) := by decide +kernel
theorem dX10_leastTo_38 : decode cX10_leastTo 38 = .ok (.iconst (-1), 1) := by decide +kernel
theorem dX10_leastTo_39 : decode cX10_leastTo 39 = .ok (.if_icmp .eq 17, 3) := by decide +kernel
theorem dX10_leastTo_42 : decode cX10_leastTo 42 = .ok (.aload_n 0, 1) := by decide +kernel
theorem dX10_leastTo_43 : decode cX10_leastTo 43 = .ok (.getfield 16, 3) := by decide +kernel
theorem dX10_leastTo_46 : decode cX10_leastTo 46 = .ok (.iload 8, 2) := by decide +kernel
theorem dX10_leastTo_48 : decode cX10_leastTo 48 = .ok (.invokevirtual 33, 3) := by decide +kernel
theorem dX10_leastTo_51 : decode cX10_leastTo 51 = .ok (.iload 5, 2) := by decide +kernel
theorem dX10_leastTo_53 : decode cX10_leastTo 53 = .ok (.if_icmp .le 5, 3) := by decide +kernel
theorem dX10_leastTo_56 : decode cX10_leastTo 56 = .ok (.iconst (-1), 1) := by decide +kernel
theorem dX10_leastTo_57 : decode cX10_leastTo 57 = .ok (.ireturn, 1) := by decide +kernel
theorem dX10_leastTo_58 : decode cX10_leastTo 58 = .ok (.iload 8, 2) := by decide +kernel
theorem dX10_leastTo_60 : decode cX10_leastTo 60 = .ok (.invokestatic 37, 3) := by decide +kernel
theorem dX10_leastTo_63 : decode cX10_leastTo 63 = .ok (.iload 4, 2) := by decide +kernel
theorem dX10_leastTo_65 : decode cX10_leastTo 65 = .ok (.if_icmp .ne 13, 3) := by decide +kernel
theorem dX10_leastTo_68 : decode cX10_leastTo 68 = .ok (.aload_n 0, 1) := by decide +kernel
theorem dX10_leastTo_69 : decode cX10_leastTo 69 = .ok (.getfield 16, 3) := by decide +kernel
theorem dX10_leastTo_72 : decode cX10_leastTo 72 = .ok (.iload 8, 2) := by decide +kernel
theorem dX10_leastTo_74 : decode cX10_leastTo 74 = .ok (.invokevirtual 33, 3) := by decide +kernel
theorem dX10_leastTo_77 : decode cX10_leastTo 77 = .ok (.ireturn, 1) := by decide +kernel
theorem dX10_leastTo_78 : decode cX10_leastTo 78 = .ok (.aload_n 0, 1) := by decide +kernel
theorem dX10_leastTo_79 : decode cX10_leastTo 79 = .ok (.aload_n 1, 1) := by decide +kernel
theorem dX10_leastTo_80 : decode cX10_leastTo 80 = .ok (.aload_n 2, 1) := by decide +kernel
theorem dX10_leastTo_81 : decode cX10_leastTo 81 = .ok (.iload 8, 2) := by decide +kernel
theorem dX10_leastTo_83 : decode cX10_leastTo 83 = .ok (.invokevirtual 40, 3) := by decide +kernel
theorem dX10_leastTo_86 : decode cX10_leastTo 86 = .ok (.iload 6, 2) := by decide +kernel
theorem dX10_leastTo_88 : decode cX10_leastTo 88 = .ok (.ifCond .eq 28, 3) := by decide +kernel
theorem dX10_leastTo_91 : decode cX10_leastTo 91 = .ok (.aload_n 0, 1) := by decide +kernel
theorem dX10_leastTo_92 : decode cX10_leastTo 92 = .ok (.getfield 16, 3) := by decide +kernel
theorem dX10_leastTo_95 : decode cX10_leastTo 95 = .ok (.iload 8, 2) := by decide +kernel
theorem dX10_leastTo_97 : decode cX10_leastTo 97 = .ok (.invokestatic 44, 3) := by decide +kernel
theorem dX10_leastTo_100 : decode cX10_leastTo 100 = .ok (.aload_n 0, 1) := by decide +kernel
theorem dX10_leastTo_101 : decode cX10_leastTo 101 = .ok (.getfield 16, 3) := by decide +kernel
theorem dX10_leastTo_104 : decode cX10_leastTo 104 = .ok (.iload 8, 2) := by decide +kernel
theorem dX10_leastTo_106 : decode cX10_leastTo 106 = .ok (.invokevirtual 33, 3) := by decide +kernel
theorem dX10_leastTo_109 : decode cX10_leastTo 109 = .ok (.sipush 16384, 3) := by decide +kernel
theorem dX10_leastTo_112 : decode cX10_leastTo 112 = .ok (.iadd, 1) := by decide +kernel
theorem dX10_leastTo_113 : decode cX10_leastTo 113 = .ok (.invokevirtual 25, 3) := by decide +kernel
theorem dX10_leastTo_116 : decode cX10_leastTo 116 = .ok (.iinc 7 1, 3) := by decide +kernel
theorem dX10_leastTo_119 : decode cX10_leastTo 119 = .ok (.goto (-100), 3) := by decide +kernel
theorem dX10_leastTo_122 : decode cX10_leastTo 122 = .ok (.iconst (-1), 1) := by decide +kernel
theorem dX10_leastTo_123 : decode cX10_leastTo 123 = .ok (.ireturn, 1) := by decide +kernel
set_option maxRecDepth 20000 in
theorem ggX10_offerNext_X8_behind : GoodIn wsX10_offerNext wsX8_behind := goodIn_r _ [9, 10, 11, 12, 13, 14, 15, 16, 17, 18, 19, 8, 20, 21, 22, 23, 24, 25, 26, 27, 28, 29, 30, 31, 32, 33, 34, 35, 36, 37, 38, 39, 40, 58, 59, 60, 61, 62, 63, 64, 65] (by decide +kernel) (by decide +kernel)
set_option maxRecDepth 20000 in
theorem gX10_offerNext_X8_behind : GoodIn wsX10_offerNext (wsV RX10 59 RX8 yX8_behind wsX8_behind) := goodIn_app (goodIn_of _ (by decide +kernel)) ggX10_offerNext_X8_behind
set_option maxRecDepth 20000 in
theorem ggX10_offerNext_X3_costOf : GoodIn wsX10_offerNext wsX3_costOf := goodIn_r _ [45, 46, 69, 70, 71, 72] (by decide +kernel) (by decide +kernel)
set_option maxRecDepth 20000 in
theorem gX10_offerNext_X3_costOf : GoodIn wsX10_offerNext (wsV RX10 33 RX3 yX3_costOf wsX3_costOf) := goodIn_app (goodIn_of _ (by decide +kernel)) ggX10_offerNext_X3_costOf
set_option maxRecDepth 20000 in
theorem ggX10_offerNext_X3_offer : GoodIn wsX10_offerNext wsX3_offer := goodIn_r _ [50, 46, 51, 52, 53, 54, 55, 56, 44, 57, 69, 70, 71, 72] (by decide +kernel) (by decide +kernel)
set_option maxRecDepth 20000 in
theorem gX10_offerNext_X3_offer : GoodIn wsX10_offerNext (wsV RX10 25 RX3 yX3_offer wsX3_offer) := goodIn_app (goodIn_of _ (by decide +kernel)) ggX10_offerNext_X3_offer
theorem dX10_offerNext_0 : decode cX10_offerNext 0 = .ok (.iconst 0, 1) := by decide +kernel
theorem dX10_offerNext_1 : decode cX10_offerNext 1 = .ok (.istore 4, 2) := by decide +kernel
theorem dX10_offerNext_3 : decode cX10_offerNext 3 = .ok (.iload 4, 2) := by decide +kernel
theorem dX10_offerNext_5 : decode cX10_offerNext 5 = .ok (.aload_n 1, 1) := by decide +kernel
theorem dX10_offerNext_6 : decode cX10_offerNext 6 = .ok (.getfield 47, 3) := by decide +kernel
theorem dX10_offerNext_9 : decode cX10_offerNext 9 = .ok (.if_icmp .ge 56, 3) := by decide +kernel
theorem dX10_offerNext_12 : decode cX10_offerNext 12 = .ok (.aload_n 1, 1) := by decide +kernel
theorem dX10_offerNext_13 : decode cX10_offerNext 13 = .ok (.iload_n 3, 1) := by decide +kernel
theorem dX10_offerNext_14 : decode cX10_offerNext 14 = .ok (.iload 4, 2) := by decide +kernel
theorem dX10_offerNext_16 : decode cX10_offerNext 16 = .ok (.aload_n 2, 1) := by decide +kernel
theorem dX10_offerNext_17 : decode cX10_offerNext 17 = .ok (.getfield 53, 3) := by decide +kernel
theorem dX10_offerNext_20 : decode cX10_offerNext 20 = .ok (.iload 4, 2) := by decide +kernel
theorem dX10_offerNext_22 : decode cX10_offerNext 22 = .ok (.iaload, 1) := by decide +kernel
theorem dX10_offerNext_23 : decode cX10_offerNext 23 = .ok (.invokevirtual 59, 3) := by decide +kernel
theorem dX10_offerNext_26 : decode cX10_offerNext 26 = .ok (.istore 5, 2) := by decide +kernel
theorem dX10_offerNext_28 : decode cX10_offerNext 28 = .ok (.iload 5, 2) := by decide +kernel
theorem dX10_offerNext_30 : decode cX10_offerNext 30 = .ok (.iconst (-1), 1) := by decide +kernel
theorem dX10_offerNext_31 : decode cX10_offerNext 31 = .ok (.if_icmp .eq 28, 3) := by decide +kernel
theorem dX10_offerNext_34 : decode cX10_offerNext 34 = .ok (.aload_n 0, 1) := by decide +kernel
theorem dX10_offerNext_35 : decode cX10_offerNext 35 = .ok (.getfield 16, 3) := by decide +kernel
theorem dX10_offerNext_38 : decode cX10_offerNext 38 = .ok (.iload 5, 2) := by decide +kernel
theorem dX10_offerNext_40 : decode cX10_offerNext 40 = .ok (.aload_n 0, 1) := by decide +kernel
theorem dX10_offerNext_41 : decode cX10_offerNext 41 = .ok (.getfield 16, 3) := by decide +kernel
theorem dX10_offerNext_44 : decode cX10_offerNext 44 = .ok (.iload_n 3, 1) := by decide +kernel
theorem dX10_offerNext_45 : decode cX10_offerNext 45 = .ok (.invokevirtual 33, 3) := by decide +kernel
theorem dX10_offerNext_48 : decode cX10_offerNext 48 = .ok (.aload_n 2, 1) := by decide +kernel
theorem dX10_offerNext_49 : decode cX10_offerNext 49 = .ok (.getfield 63, 3) := by decide +kernel
theorem dX10_offerNext_52 : decode cX10_offerNext 52 = .ok (.iload 4, 2) := by decide +kernel
theorem dX10_offerNext_54 : decode cX10_offerNext 54 = .ok (.iaload, 1) := by decide +kernel
theorem dX10_offerNext_55 : decode cX10_offerNext 55 = .ok (.iadd, 1) := by decide +kernel
theorem dX10_offerNext_56 : decode cX10_offerNext 56 = .ok (.invokevirtual 25, 3) := by decide +kernel
theorem dX10_offerNext_59 : decode cX10_offerNext 59 = .ok (.iinc 4 1, 3) := by decide +kernel
theorem dX10_offerNext_62 : decode cX10_offerNext 62 = .ok (.goto (-59), 3) := by decide +kernel
theorem dX10_offerNext_65 : decode cX10_offerNext 65 = .ok (.return_, 1) := by decide +kernel
theorem dJ6_bitCount_0f7a4_0 : decode cJ6_bitCount_0f7a4 0 = .ok (.iload_n 0, 1) := by decide +kernel
theorem dJ6_bitCount_0f7a4_1 : decode cJ6_bitCount_0f7a4 1 = .ok (.iload_n 0, 1) := by decide +kernel
theorem dJ6_bitCount_0f7a4_2 : decode cJ6_bitCount_0f7a4 2 = .ok (.iconst 1, 1) := by decide +kernel
theorem dJ6_bitCount_0f7a4_3 : decode cJ6_bitCount_0f7a4 3 = .ok (.iushr, 1) := by decide +kernel
theorem dJ6_bitCount_0f7a4_4 : decode cJ6_bitCount_0f7a4 4 = .ok (.ldc_w 265, 3) := by decide +kernel
theorem dJ6_bitCount_0f7a4_7 : decode cJ6_bitCount_0f7a4 7 = .ok (.iand, 1) := by decide +kernel
theorem dJ6_bitCount_0f7a4_8 : decode cJ6_bitCount_0f7a4 8 = .ok (.isub, 1) := by decide +kernel
theorem dJ6_bitCount_0f7a4_9 : decode cJ6_bitCount_0f7a4 9 = .ok (.istore_n 0, 1) := by decide +kernel
theorem dJ6_bitCount_0f7a4_10 : decode cJ6_bitCount_0f7a4 10 = .ok (.iload_n 0, 1) := by decide +kernel
theorem dJ6_bitCount_0f7a4_11 : decode cJ6_bitCount_0f7a4 11 = .ok (.ldc_w 266, 3) := by decide +kernel
theorem dJ6_bitCount_0f7a4_14 : decode cJ6_bitCount_0f7a4 14 = .ok (.iand, 1) := by decide +kernel
theorem dJ6_bitCount_0f7a4_15 : decode cJ6_bitCount_0f7a4 15 = .ok (.iload_n 0, 1) := by decide +kernel
theorem dJ6_bitCount_0f7a4_16 : decode cJ6_bitCount_0f7a4 16 = .ok (.iconst 2, 1) := by decide +kernel
theorem dJ6_bitCount_0f7a4_17 : decode cJ6_bitCount_0f7a4 17 = .ok (.iushr, 1) := by decide +kernel
theorem dJ6_bitCount_0f7a4_18 : decode cJ6_bitCount_0f7a4 18 = .ok (.ldc_w 266, 3) := by decide +kernel
theorem dJ6_bitCount_0f7a4_21 : decode cJ6_bitCount_0f7a4 21 = .ok (.iand, 1) := by decide +kernel
theorem dJ6_bitCount_0f7a4_22 : decode cJ6_bitCount_0f7a4 22 = .ok (.iadd, 1) := by decide +kernel
theorem dJ6_bitCount_0f7a4_23 : decode cJ6_bitCount_0f7a4 23 = .ok (.istore_n 0, 1) := by decide +kernel
theorem dJ6_bitCount_0f7a4_24 : decode cJ6_bitCount_0f7a4 24 = .ok (.iload_n 0, 1) := by decide +kernel
theorem dJ6_bitCount_0f7a4_25 : decode cJ6_bitCount_0f7a4 25 = .ok (.iload_n 0, 1) := by decide +kernel
theorem dJ6_bitCount_0f7a4_26 : decode cJ6_bitCount_0f7a4 26 = .ok (.iconst 4, 1) := by decide +kernel
theorem dJ6_bitCount_0f7a4_27 : decode cJ6_bitCount_0f7a4 27 = .ok (.iushr, 1) := by decide +kernel
theorem dJ6_bitCount_0f7a4_28 : decode cJ6_bitCount_0f7a4 28 = .ok (.iadd, 1) := by decide +kernel
theorem dJ6_bitCount_0f7a4_29 : decode cJ6_bitCount_0f7a4 29 = .ok (.ldc_w 267, 3) := by decide +kernel
theorem dJ6_bitCount_0f7a4_32 : decode cJ6_bitCount_0f7a4 32 = .ok (.iand, 1) := by decide +kernel
theorem dJ6_bitCount_0f7a4_33 : decode cJ6_bitCount_0f7a4 33 = .ok (.istore_n 0, 1) := by decide +kernel
theorem dJ6_bitCount_0f7a4_34 : decode cJ6_bitCount_0f7a4 34 = .ok (.iload_n 0, 1) := by decide +kernel
theorem dJ6_bitCount_0f7a4_35 : decode cJ6_bitCount_0f7a4 35 = .ok (.iload_n 0, 1) := by decide +kernel
theorem dJ6_bitCount_0f7a4_36 : decode cJ6_bitCount_0f7a4 36 = .ok (.bipush 8, 2) := by decide +kernel
theorem dJ6_bitCount_0f7a4_38 : decode cJ6_bitCount_0f7a4 38 = .ok (.iushr, 1) := by decide +kernel
theorem dJ6_bitCount_0f7a4_39 : decode cJ6_bitCount_0f7a4 39 = .ok (.iadd, 1) := by decide +kernel
theorem dJ6_bitCount_0f7a4_40 : decode cJ6_bitCount_0f7a4 40 = .ok (.istore_n 0, 1) := by decide +kernel
theorem dJ6_bitCount_0f7a4_41 : decode cJ6_bitCount_0f7a4 41 = .ok (.iload_n 0, 1) := by decide +kernel
theorem dJ6_bitCount_0f7a4_42 : decode cJ6_bitCount_0f7a4 42 = .ok (.iload_n 0, 1) := by decide +kernel
theorem dJ6_bitCount_0f7a4_43 : decode cJ6_bitCount_0f7a4 43 = .ok (.bipush 16, 2) := by decide +kernel
theorem dJ6_bitCount_0f7a4_45 : decode cJ6_bitCount_0f7a4 45 = .ok (.iushr, 1) := by decide +kernel
theorem dJ6_bitCount_0f7a4_46 : decode cJ6_bitCount_0f7a4 46 = .ok (.iadd, 1) := by decide +kernel
theorem dJ6_bitCount_0f7a4_47 : decode cJ6_bitCount_0f7a4 47 = .ok (.istore_n 0, 1) := by decide +kernel
theorem dJ6_bitCount_0f7a4_48 : decode cJ6_bitCount_0f7a4 48 = .ok (.iload_n 0, 1) := by decide +kernel
theorem dJ6_bitCount_0f7a4_49 : decode cJ6_bitCount_0f7a4 49 = .ok (.bipush 63, 2) := by decide +kernel
theorem dJ6_bitCount_0f7a4_51 : decode cJ6_bitCount_0f7a4 51 = .ok (.iand, 1) := by decide +kernel
theorem dJ6_bitCount_0f7a4_52 : decode cJ6_bitCount_0f7a4 52 = .ok (.ireturn, 1) := by decide +kernel
theorem dJ7_fill_d0a16_0 : decode cJ7_fill_d0a16 0 = .ok (.iconst 0, 1) := by decide +kernel
theorem dJ7_fill_d0a16_1 : decode cJ7_fill_d0a16 1 = .ok (.istore_n 3, 1) := by decide +kernel
theorem dJ7_fill_d0a16_2 : decode cJ7_fill_d0a16 2 = .ok (.aload_n 0, 1) := by decide +kernel
theorem dJ7_fill_d0a16_3 : decode cJ7_fill_d0a16 3 = .ok (.arraylength, 1) := by decide +kernel
theorem dJ7_fill_d0a16_4 : decode cJ7_fill_d0a16 4 = .ok (.istore 4, 2) := by decide +kernel
theorem dJ7_fill_d0a16_6 : decode cJ7_fill_d0a16 6 = .ok (.iload_n 3, 1) := by decide +kernel
theorem dJ7_fill_d0a16_7 : decode cJ7_fill_d0a16 7 = .ok (.iload 4, 2) := by decide +kernel
theorem dJ7_fill_d0a16_9 : decode cJ7_fill_d0a16 9 = .ok (.if_icmp .ge 13, 3) := by decide +kernel
theorem dJ7_fill_d0a16_12 : decode cJ7_fill_d0a16 12 = .ok (.aload_n 0, 1) := by decide +kernel
theorem dJ7_fill_d0a16_13 : decode cJ7_fill_d0a16 13 = .ok (.iload_n 3, 1) := by decide +kernel
theorem dJ7_fill_d0a16_14 : decode cJ7_fill_d0a16 14 = .ok (.lload_n 1, 1) := by decide +kernel
theorem dJ7_fill_d0a16_15 : decode cJ7_fill_d0a16 15 = .ok (.lastore, 1) := by decide +kernel
theorem dJ7_fill_d0a16_16 : decode cJ7_fill_d0a16 16 = .ok (.iinc 3 1, 3) := by decide +kernel
theorem dJ7_fill_d0a16_19 : decode cJ7_fill_d0a16 19 = .ok (.goto (-13), 3) := by decide +kernel
theorem dJ7_fill_d0a16_22 : decode cJ7_fill_d0a16 22 = .ok (.return_, 1) := by decide +kernel
theorem dJ7_fill_53178_0 : decode cJ7_fill_53178 0 = .ok (.iconst 0, 1) := by decide +kernel
theorem dJ7_fill_53178_1 : decode cJ7_fill_53178 1 = .ok (.istore_n 2, 1) := by decide +kernel
theorem dJ7_fill_53178_2 : decode cJ7_fill_53178 2 = .ok (.aload_n 0, 1) := by decide +kernel
theorem dJ7_fill_53178_3 : decode cJ7_fill_53178 3 = .ok (.arraylength, 1) := by decide +kernel
theorem dJ7_fill_53178_4 : decode cJ7_fill_53178 4 = .ok (.istore_n 3, 1) := by decide +kernel
theorem dJ7_fill_53178_5 : decode cJ7_fill_53178 5 = .ok (.iload_n 2, 1) := by decide +kernel
theorem dJ7_fill_53178_6 : decode cJ7_fill_53178 6 = .ok (.iload_n 3, 1) := by decide +kernel
theorem dJ7_fill_53178_7 : decode cJ7_fill_53178 7 = .ok (.if_icmp .ge 13, 3) := by decide +kernel
theorem dJ7_fill_53178_10 : decode cJ7_fill_53178 10 = .ok (.aload_n 0, 1) := by decide +kernel
theorem dJ7_fill_53178_11 : decode cJ7_fill_53178 11 = .ok (.iload_n 2, 1) := by decide +kernel
theorem dJ7_fill_53178_12 : decode cJ7_fill_53178 12 = .ok (.iload_n 1, 1) := by decide +kernel
theorem dJ7_fill_53178_13 : decode cJ7_fill_53178 13 = .ok (.iastore, 1) := by decide +kernel
theorem dJ7_fill_53178_14 : decode cJ7_fill_53178 14 = .ok (.iinc 2 1, 3) := by decide +kernel
theorem dJ7_fill_53178_17 : decode cJ7_fill_53178 17 = .ok (.goto (-12), 3) := by decide +kernel
theorem dJ7_fill_53178_20 : decode cJ7_fill_53178 20 = .ok (.return_, 1) := by decide +kernel
