set_option maxRecDepth 20000 in
theorem ggX11_init_X5_init : GoodIn wsX11_init wsX5_init := goodIn_r _ [40, 41, 2, 3, 14, 42, 90, 91, 92, 93, 94] (by decide +kernel) (by decide +kernel)
set_option maxRecDepth 20000 in
theorem gX11_init_X5_init_n9 : GoodIn wsX11_init (wsX5_init) := ggX11_init_X5_init
set_option maxRecDepth 20000 in
theorem ggX11_init_X8_init : GoodIn wsX11_init wsX8_init := goodIn_r _ [44, 45, 2, 3, 14, 46, 47, 48, 49, 50, 110, 111, 112, 113, 114, 115, 116, 117] (by decide +kernel) (by decide +kernel)
set_option maxRecDepth 20000 in
theorem gX11_init_X8_init_n18 : GoodIn wsX11_init (wsX8_init) := ggX11_init_X8_init
set_option maxRecDepth 20000 in
theorem ggX11_init_X4_init : GoodIn wsX11_init wsX4_init := goodIn_r _ [52, 53, 2, 3, 14, 54, 55, 56, 57, 118, 119, 120, 121, 122, 123, 124] (by decide +kernel) (by decide +kernel)
set_option maxRecDepth 20000 in
theorem gX11_init_X4_init_n35 : GoodIn wsX11_init (wsX4_init) := ggX11_init_X4_init
set_option maxRecDepth 20000 in
theorem ggX11_init_X2_init : GoodIn wsX11_init wsX2_init := goodIn_r _ [59, 60, 2, 3, 14, 61, 62, 125, 126] (by decide +kernel) (by decide +kernel)
set_option maxRecDepth 20000 in
theorem gX11_init_X2_init_n42 : GoodIn wsX11_init (wsX2_init) := ggX11_init_X2_init
set_option maxRecDepth 20000 in
theorem ggX11_init_X10_init : GoodIn wsX11_init wsX10_init := goodIn_r _ [64, 65, 2, 3, 66, 67, 68, 69, 70, 71, 72, 73, 14, 74, 75, 76, 134, 135, 136, 137, 127] (by decide +kernel) (by decide +kernel)
set_option maxRecDepth 20000 in
theorem gX11_init_X10_init_n52 : GoodIn wsX11_init (wsX10_init) := ggX11_init_X10_init
set_option maxRecDepth 20000 in
theorem ggX11_init_X6_init : GoodIn wsX11_init wsX6_init := goodIn_r _ [78, 79, 2, 3, 80, 81, 14, 82, 128, 129] (by decide +kernel) (by decide +kernel)
set_option maxRecDepth 20000 in
theorem gX11_init_X6_init_n59 : GoodIn wsX11_init (wsX6_init) := ggX11_init_X6_init
set_option maxRecDepth 20000 in
theorem ggX11_init_X1_init : GoodIn wsX11_init wsX1_init := goodIn_r _ [84, 85, 2, 3, 14, 86, 130] (by decide +kernel) (by decide +kernel)
set_option maxRecDepth 20000 in
theorem gX11_init_X1_init_n66 : GoodIn wsX11_init (wsX1_init) := ggX11_init_X1_init
set_option maxRecDepth 20000 in
theorem ggX11_init_X9_init : GoodIn wsX11_init wsX9_init := goodIn_r _ [88, 89, 2, 3] (by decide +kernel) (by decide +kernel)
set_option maxRecDepth 20000 in
theorem gX11_init_X9_init_n71 : GoodIn wsX11_init (wsX9_init) := ggX11_init_X9_init
theorem dX11_init_0 : decode cX11_init 0 = .ok (.aload_n 0, 1) := by decide +kernel
theorem dX11_init_1 : decode cX11_init 1 = .ok (.invokespecial 1, 3) := by decide +kernel
theorem dX11_init_4 : decode cX11_init 4 = .ok (.aload_n 0, 1) := by decide +kernel
theorem dX11_init_5 : decode cX11_init 5 = .ok (.new 7, 3) := by decide +kernel
theorem dX11_init_8 : decode cX11_init 8 = .ok (.dup, 1) := by decide +kernel
theorem dX11_init_9 : decode cX11_init 9 = .ok (.invokespecial 9, 3) := by decide +kernel
theorem dX11_init_12 : decode cX11_init 12 = .ok (.putfield 10, 3) := by decide +kernel
theorem dX11_init_15 : decode cX11_init 15 = .ok (.aload_n 0, 1) := by decide +kernel
theorem dX11_init_16 : decode cX11_init 16 = .ok (.new 16, 3) := by decide +kernel
theorem dX11_init_19 : decode cX11_init 19 = .ok (.dup, 1) := by decide +kernel
theorem dX11_init_20 : decode cX11_init 20 = .ok (.invokespecial 18, 3) := by decide +kernel
theorem dX11_init_23 : decode cX11_init 23 = .ok (.putfield 19, 3) := by decide +kernel
theorem dX11_init_26 : decode cX11_init 26 = .ok (.aload_n 0, 1) := by decide +kernel
theorem dX11_init_27 : decode cX11_init 27 = .ok (.iconst 5, 1) := by decide +kernel
theorem dX11_init_28 : decode cX11_init 28 = .ok (.anewarray 23, 3) := by decide +kernel
theorem dX11_init_31 : decode cX11_init 31 = .ok (.putfield 25, 3) := by decide +kernel
theorem dX11_init_34 : decode cX11_init 34 = .ok (.aload_n 0, 1) := by decide +kernel
theorem dX11_init_35 : decode cX11_init 35 = .ok (.bipush 6, 2) := by decide +kernel
theorem dX11_init_37 : decode cX11_init 37 = .ok (.newarray .int, 2) := by decide +kernel
theorem dX11_init_39 : decode cX11_init 39 = .ok (.putfield 29, 3) := by decide +kernel
theorem dX11_init_42 : decode cX11_init 42 = .ok (.aload_n 0, 1) := by decide +kernel
theorem dX11_init_43 : decode cX11_init 43 = .ok (.new 33, 3) := by decide +kernel
theorem dX11_init_46 : decode cX11_init 46 = .ok (.dup, 1) := by decide +kernel
theorem dX11_init_47 : decode cX11_init 47 = .ok (.invokespecial 35, 3) := by decide +kernel
theorem dX11_init_50 : decode cX11_init 50 = .ok (.putfield 36, 3) := by decide +kernel
theorem dX11_init_53 : decode cX11_init 53 = .ok (.aload_n 0, 1) := by decide +kernel
theorem dX11_init_54 : decode cX11_init 54 = .ok (.new 40, 3) := by decide +kernel
theorem dX11_init_57 : decode cX11_init 57 = .ok (.dup, 1) := by decide +kernel
theorem dX11_init_58 : decode cX11_init 58 = .ok (.invokespecial 42, 3) := by decide +kernel
theorem dX11_init_61 : decode cX11_init 61 = .ok (.putfield 43, 3) := by decide +kernel
theorem dX11_init_64 : decode cX11_init 64 = .ok (.aload_n 0, 1) := by decide +kernel
theorem dX11_init_65 : decode cX11_init 65 = .ok (.new 40, 3) := by decide +kernel
theorem dX11_init_68 : decode cX11_init 68 = .ok (.dup, 1) := by decide +kernel
theorem dX11_init_69 : decode cX11_init 69 = .ok (.invokespecial 42, 3) := by decide +kernel
theorem dX11_init_72 : decode cX11_init 72 = .ok (.putfield 47, 3) := by decide +kernel
theorem dX11_init_75 : decode cX11_init 75 = .ok (.aload_n 0, 1) := by decide +kernel
theorem dX11_init_76 : decode cX11_init 76 = .ok (.new 50, 3) := by decide +kernel
theorem dX11_init_79 : decode cX11_init 79 = .ok (.dup, 1) := by decide +kernel
theorem dX11_init_80 : decode cX11_init 80 = .ok (.invokespecial 52, 3) := by decide +kernel
theorem dX11_init_83 : decode cX11_init 83 = .ok (.putfield 53, 3) := by decide +kernel
theorem dX11_init_86 : decode cX11_init 86 = .ok (.aload_n 0, 1) := by decide +kernel
theorem dX11_init_87 : decode cX11_init 87 = .ok (.new 57, 3) := by decide +kernel
theorem dX11_init_90 : decode cX11_init 90 = .ok (.dup, 1) := by decide +kernel
theorem dX11_init_91 : decode cX11_init 91 = .ok (.invokespecial 59, 3) := by decide +kernel
theorem dX11_init_94 : decode cX11_init 94 = .ok (.putfield 60, 3) := by decide +kernel
theorem dX11_init_97 : decode cX11_init 97 = .ok (.aload_n 0, 1) := by decide +kernel
theorem dX11_init_98 : decode cX11_init 98 = .ok (.new 64, 3) := by decide +kernel
theorem dX11_init_101 : decode cX11_init 101 = .ok (.dup, 1) := by decide +kernel
theorem dX11_init_102 : decode cX11_init 102 = .ok (.invokespecial 66, 3) := by decide +kernel
theorem dX11_init_105 : decode cX11_init 105 = .ok (.putfield 67, 3) := by decide +kernel
theorem dX11_init_108 : decode cX11_init 108 = .ok (.iconst 0, 1) := by decide +kernel
theorem dX11_init_109 : decode cX11_init 109 = .ok (.istore_n 1, 1) := by decide +kernel
theorem dX11_init_110 : decode cX11_init 110 = .ok (.iload_n 1, 1) := by decide +kernel
theorem dX11_init_111 : decode cX11_init 111 = .ok (.iconst 5, 1) := by decide +kernel
theorem dX11_init_112 : decode cX11_init 112 = .ok (.if_icmp .ge 22, 3) := by decide +kernel
theorem dX11_init_115 : decode cX11_init 115 = .ok (.aload_n 0, 1) := by decide +kernel
theorem dX11_init_116 : decode cX11_init 116 = .ok (.getfield 25, 3) := by decide +kernel
theorem dX11_init_119 : decode cX11_init 119 = .ok (.iload_n 1, 1) := by decide +kernel
theorem dX11_init_120 : decode cX11_init 120 = .ok (.new 23, 3) := by decide +kernel
theorem dX11_init_123 : decode cX11_init 123 = .ok (.dup, 1) := by decide +kernel
theorem dX11_init_124 : decode cX11_init 124 = .ok (.invokespecial 71, 3) := by decide +kernel
theorem dX11_init_127 : decode cX11_init 127 = .ok (.aastore, 1) := by decide +kernel
theorem dX11_init_128 : decode cX11_init 128 = .ok (.iinc 1 1, 3) := by decide +kernel
theorem dX11_init_131 : decode cX11_init 131 = .ok (.goto (-21), 3) := by decide +kernel
theorem dX11_init_134 : decode cX11_init 134 = .ok (.return_, 1) := by decide +kernel
set_option maxRecDepth 20000 in
theorem ggX11_letters_X5_lettersIn : GoodIn wsX11_letters wsX5_lettersIn := goodIn_r _ [6, 7, 8, 5, 9, 10] (by decide +kernel) (by decide +kernel)
set_option maxRecDepth 20000 in
theorem gX11_letters_X5_lettersIn : GoodIn wsX11_letters (va_wsS RX11 72 yX5_lettersIn wsX5_lettersIn) := goodIn_app (goodIn_of _ (by decide +kernel)) ggX11_letters_X5_lettersIn
set_option maxRecDepth 20000 in
theorem ggX11_letters_X5_append : GoodIn wsX11_letters wsX5_append := goodIn_r _ [14, 15, 16, 7, 8, 5, 9, 10, 32, 33, 34, 35, 36] (by decide +kernel) (by decide +kernel)
set_option maxRecDepth 20000 in
theorem gX11_letters_X5_append : GoodIn wsX11_letters (wsV RX11 80 RX5 yX5_append wsX5_append) := goodIn_app (goodIn_of _ (by decide +kernel)) ggX11_letters_X5_append
theorem dX11_letters_0 : decode cX11_letters 0 = .ok (.lload_n 1, 1) := by decide +kernel
theorem dX11_letters_1 : decode cX11_letters 1 = .ok (.invokestatic 72, 3) := by decide +kernel
theorem dX11_letters_4 : decode cX11_letters 4 = .ok (.istore_n 3, 1) := by decide +kernel
theorem dX11_letters_5 : decode cX11_letters 5 = .ok (.iload_n 3, 1) := by decide +kernel
theorem dX11_letters_6 : decode cX11_letters 6 = .ok (.iconst (-1), 1) := by decide +kernel
theorem dX11_letters_7 : decode cX11_letters 7 = .ok (.if_icmp .ne 6, 3) := by decide +kernel
theorem dX11_letters_10 : decode cX11_letters 10 = .ok (.bipush (-102), 2) := by decide +kernel
theorem dX11_letters_12 : decode cX11_letters 12 = .ok (.ireturn, 1) := by decide +kernel
theorem dX11_letters_13 : decode cX11_letters 13 = .ok (.aload_n 0, 1) := by decide +kernel
theorem dX11_letters_14 : decode cX11_letters 14 = .ok (.getfield 10, 3) := by decide +kernel
theorem dX11_letters_17 : decode cX11_letters 17 = .ok (.getfield 76, 3) := by decide +kernel
theorem dX11_letters_20 : decode cX11_letters 20 = .ok (.iload_n 3, 1) := by decide +kernel
theorem dX11_letters_21 : decode cX11_letters 21 = .ok (.iadd, 1) := by decide +kernel
theorem dX11_letters_22 : decode cX11_letters 22 = .ok (.bipush 50, 2) := by decide +kernel
theorem dX11_letters_24 : decode cX11_letters 24 = .ok (.if_icmp .le 6, 3) := by decide +kernel
theorem dX11_letters_27 : decode cX11_letters 27 = .ok (.bipush (-104), 2) := by decide +kernel
theorem dX11_letters_29 : decode cX11_letters 29 = .ok (.ireturn, 1) := by decide +kernel
theorem dX11_letters_30 : decode cX11_letters 30 = .ok (.aload_n 0, 1) := by decide +kernel
theorem dX11_letters_31 : decode cX11_letters 31 = .ok (.getfield 10, 3) := by decide +kernel
theorem dX11_letters_34 : decode cX11_letters 34 = .ok (.lload_n 1, 1) := by decide +kernel
theorem dX11_letters_35 : decode cX11_letters 35 = .ok (.iload_n 3, 1) := by decide +kernel
theorem dX11_letters_36 : decode cX11_letters 36 = .ok (.invokevirtual 80, 3) := by decide +kernel
theorem dX11_letters_39 : decode cX11_letters 39 = .ok (.aload_n 0, 1) := by decide +kernel
theorem dX11_letters_40 : decode cX11_letters 40 = .ok (.getfield 10, 3) := by decide +kernel
theorem dX11_letters_43 : decode cX11_letters 43 = .ok (.getfield 76, 3) := by decide +kernel
theorem dX11_letters_46 : decode cX11_letters 46 = .ok (.ireturn, 1) := by decide +kernel
theorem dX11_blank_0 : decode cX11_blank 0 = .ok (.aload_n 0, 1) := by decide +kernel
theorem dX11_blank_1 : decode cX11_blank 1 = .ok (.getfield 10, 3) := by decide +kernel
theorem dX11_blank_4 : decode cX11_blank 4 = .ok (.getfield 76, 3) := by decide +kernel
theorem dX11_blank_7 : decode cX11_blank 7 = .ok (.istore_n 1, 1) := by decide +kernel
theorem dX11_blank_8 : decode cX11_blank 8 = .ok (.aload_n 0, 1) := by decide +kernel
theorem dX11_blank_9 : decode cX11_blank 9 = .ok (.getfield 10, 3) := by decide +kernel
theorem dX11_blank_12 : decode cX11_blank 12 = .ok (.iconst 0, 1) := by decide +kernel
theorem dX11_blank_13 : decode cX11_blank 13 = .ok (.putfield 76, 3) := by decide +kernel
theorem dX11_blank_16 : decode cX11_blank 16 = .ok (.iload_n 1, 1) := by decide +kernel
theorem dX11_blank_17 : decode cX11_blank 17 = .ok (.ireturn, 1) := by decide +kernel
set_option maxRecDepth 20000 in
theorem ggX11_fault_X5_readable : GoodIn wsX11_fault wsX5_readable := goodIn_r _ [6, 7, 8, 9, 10, 11, 12, 13, 5, 14, 15, 16, 17, 18, 19, 20, 21, 22, 23, 24, 25, 26, 42, 43, 44, 45, 46] (by decide +kernel) (by decide +kernel)
set_option maxRecDepth 20000 in
theorem gX11_fault_X5_readable : GoodIn wsX11_fault (wsV RX11 84 RX5 yX5_readable wsX5_readable) := goodIn_app (goodIn_of _ (by decide +kernel)) ggX11_fault_X5_readable
theorem dX11_fault_0 : decode cX11_fault 0 = .ok (.aload_n 0, 1) := by decide +kernel
theorem dX11_fault_1 : decode cX11_fault 1 = .ok (.getfield 10, 3) := by decide +kernel
theorem dX11_fault_4 : decode cX11_fault 4 = .ok (.invokevirtual 84, 3) := by decide +kernel
theorem dX11_fault_7 : decode cX11_fault 7 = .ok (.ireturn, 1) := by decide +kernel
set_option maxRecDepth 20000 in
theorem ggX11_town_X5_isTown : GoodIn wsX11_town wsX5_isTown := goodIn_r _ [12, 13, 14, 15, 16, 17, 11, 18, 19, 20, 21, 22, 23, 24, 25, 26, 27, 28, 29, 30, 31, 32, 33, 34, 35, 36, 74, 75, 76, 77, 78] (by decide +kernel) (by decide +kernel)
set_option maxRecDepth 20000 in
theorem gX11_town_X5_isTown : GoodIn wsX11_town (wsV RX11 88 RX5 yX5_isTown wsX5_isTown) := goodIn_app (goodIn_of _ (by decide +kernel)) ggX11_town_X5_isTown
set_option maxRecDepth 20000 in
theorem ggX11_town_X8_read : GoodIn wsX11_town wsX8_read := goodIn_r _ [41, 42, 43, 44, 45, 46, 47, 48, 49, 50, 51, 52, 53, 11, 54, 25, 55, 56, 57, 58, 13, 79, 80, 81, 82, 83, 84, 85, 86, 74, 75, 76, 77, 78] (by decide +kernel) (by decide +kernel)
set_option maxRecDepth 20000 in
theorem gX11_town_X8_read : GoodIn wsX11_town (wsV RX11 92 RX8 yX8_read wsX8_read) := goodIn_app (goodIn_of _ (by decide +kernel)) ggX11_town_X8_read
theorem dX11_town_0 : decode cX11_town 0 = .ok (.aload_n 0, 1) := by decide +kernel
theorem dX11_town_1 : decode cX11_town 1 = .ok (.getfield 10, 3) := by decide +kernel
theorem dX11_town_4 : decode cX11_town 4 = .ok (.invokevirtual 88, 3) := by decide +kernel
theorem dX11_town_7 : decode cX11_town 7 = .ok (.ifCond .ne 6, 3) := by decide +kernel
theorem dX11_town_10 : decode cX11_town 10 = .ok (.bipush (-103), 2) := by decide +kernel
theorem dX11_town_12 : decode cX11_town 12 = .ok (.ireturn, 1) := by decide +kernel
theorem dX11_town_13 : decode cX11_town 13 = .ok (.aload_n 0, 1) := by decide +kernel
theorem dX11_town_14 : decode cX11_town 14 = .ok (.getfield 19, 3) := by decide +kernel
theorem dX11_town_17 : decode cX11_town 17 = .ok (.aload_n 0, 1) := by decide +kernel
theorem dX11_town_18 : decode cX11_town 18 = .ok (.getfield 10, 3) := by decide +kernel
theorem dX11_town_21 : decode cX11_town 21 = .ok (.invokevirtual 92, 3) := by decide +kernel
theorem dX11_town_24 : decode cX11_town 24 = .ok (.aload_n 0, 1) := by decide +kernel
theorem dX11_town_25 : decode cX11_town 25 = .ok (.getfield 10, 3) := by decide +kernel
theorem dX11_town_28 : decode cX11_town 28 = .ok (.iconst 0, 1) := by decide +kernel
theorem dX11_town_29 : decode cX11_town 29 = .ok (.putfield 76, 3) := by decide +kernel
theorem dX11_town_32 : decode cX11_town 32 = .ok (.aload_n 0, 1) := by decide +kernel
theorem dX11_town_33 : decode cX11_town 33 = .ok (.iconst 0, 1) := by decide +kernel
theorem dX11_town_34 : decode cX11_town 34 = .ok (.putfield 96, 3) := by decide +kernel
theorem dX11_town_37 : decode cX11_town 37 = .ok (.aload_n 0, 1) := by decide +kernel
theorem dX11_town_38 : decode cX11_town 38 = .ok (.iconst 0, 1) := by decide +kernel
theorem dX11_town_39 : decode cX11_town 39 = .ok (.putfield 99, 3) := by decide +kernel
theorem dX11_town_42 : decode cX11_town 42 = .ok (.aload_n 0, 1) := by decide +kernel
theorem dX11_town_43 : decode cX11_town 43 = .ok (.dup, 1) := by decide +kernel
theorem dX11_town_44 : decode cX11_town 44 = .ok (.getfield 102, 3) := by decide +kernel
theorem dX11_town_47 : decode cX11_town 47 = .ok (.iconst 1, 1) := by decide +kernel
theorem dX11_town_48 : decode cX11_town 48 = .ok (.iadd, 1) := by decide +kernel
theorem dX11_town_49 : decode cX11_town 49 = .ok (.putfield 102, 3) := by decide +kernel
theorem dX11_town_52 : decode cX11_town 52 = .ok (.aload_n 0, 1) := by decide +kernel
theorem dX11_town_53 : decode cX11_town 53 = .ok (.getfield 19, 3) := by decide +kernel
theorem dX11_town_56 : decode cX11_town 56 = .ok (.getfield 105, 3) := by decide +kernel
theorem dX11_town_59 : decode cX11_town 59 = .ok (.ireturn, 1) := by decide +kernel
set_option maxRecDepth 20000 in
theorem ggX11_street_X11_isStreet : GoodIn wsX11_street wsX11_isStreet := goodIn_r _ [10, 1, 11, 12, 13, 14, 15, 16, 17, 18, 19, 20, 21, 22, 23, 24, 25, 26, 27, 28, 29, 30, 31, 32, 33, 34] (by decide +kernel) (by decide +kernel)
set_option maxRecDepth 20000 in
theorem gX11_street_X11_isStreet : GoodIn wsX11_street (wsV RX11 108 RX11 yX11_isStreet wsX11_isStreet) := goodIn_app (goodIn_of _ (by decide +kernel)) ggX11_street_X11_isStreet
theorem dX11_street_0 : decode cX11_street 0 = .ok (.aload_n 0, 1) := by decide +kernel
theorem dX11_street_1 : decode cX11_street 1 = .ok (.iload_n 1, 1) := by decide +kernel
theorem dX11_street_2 : decode cX11_street 2 = .ok (.invokevirtual 108, 3) := by decide +kernel
theorem dX11_street_5 : decode cX11_street 5 = .ok (.ifCond .ne 6, 3) := by decide +kernel
theorem dX11_street_8 : decode cX11_street 8 = .ok (.bipush (-101), 2) := by decide +kernel
theorem dX11_street_10 : decode cX11_street 10 = .ok (.ireturn, 1) := by decide +kernel
theorem dX11_street_11 : decode cX11_street 11 = .ok (.iload_n 2, 1) := by decide +kernel
theorem dX11_street_12 : decode cX11_street 12 = .ok (.tableswitch 72 0 3 #[32, 42, 52, 62], 32) := by decide +kernel
theorem dX11_street_44 : decode cX11_street 44 = .ok (.aload_n 0, 1) := by decide +kernel
theorem dX11_street_45 : decode cX11_street 45 = .ok (.getfield 19, 3) := by decide +kernel
theorem dX11_street_48 : decode cX11_street 48 = .ok (.getfield 112, 3) := by decide +kernel
theorem dX11_street_51 : decode cX11_street 51 = .ok (.iload_n 1, 1) := by decide +kernel
theorem dX11_street_52 : decode cX11_street 52 = .ok (.iaload, 1) := by decide +kernel
theorem dX11_street_53 : decode cX11_street 53 = .ok (.ireturn, 1) := by decide +kernel
theorem dX11_street_54 : decode cX11_street 54 = .ok (.aload_n 0, 1) := by decide +kernel
theorem dX11_street_55 : decode cX11_street 55 = .ok (.getfield 19, 3) := by decide +kernel
theorem dX11_street_58 : decode cX11_street 58 = .ok (.getfield 115, 3) := by decide +kernel
theorem dX11_street_61 : decode cX11_street 61 = .ok (.iload_n 1, 1) := by decide +kernel
theorem dX11_street_62 : decode cX11_street 62 = .ok (.iaload, 1) := by decide +kernel
theorem dX11_street_63 : decode cX11_street 63 = .ok (.ireturn, 1) := by decide +kernel
theorem dX11_street_64 : decode cX11_street 64 = .ok (.aload_n 0, 1) := by decide +kernel
theorem dX11_street_65 : decode cX11_street 65 = .ok (.getfield 19, 3) := by decide +kernel
theorem dX11_street_68 : decode cX11_street 68 = .ok (.getfield 118, 3) := by decide +kernel
theorem dX11_street_71 : decode cX11_street 71 = .ok (.iload_n 1, 1) := by decide +kernel
theorem dX11_street_72 : decode cX11_street 72 = .ok (.iaload, 1) := by decide +kernel
theorem dX11_street_73 : decode cX11_street 73 = .ok (.ireturn, 1) := by decide +kernel
theorem dX11_street_74 : decode cX11_street 74 = .ok (.aload_n 0, 1) := by decide +kernel
theorem dX11_street_75 : decode cX11_street 75 = .ok (.getfield 19, 3) := by decide +kernel
theorem dX11_street_78 : decode cX11_street 78 = .ok (.getfield 121, 3) := by decide +kernel
theorem dX11_street_81 : decode cX11_street 81 = .ok (.iload_n 1, 1) := by decide +kernel
theorem dX11_street_82 : decode cX11_street 82 = .ok (.iaload, 1) := by decide +kernel
theorem dX11_street_83 : decode cX11_street 83 = .ok (.ireturn, 1) := by decide +kernel
theorem dX11_street_84 : decode cX11_street 84 = .ok (.bipush (-102), 2) := by decide +kernel
theorem dX11_street_86 : decode cX11_street 86 = .ok (.ireturn, 1) := by decide +kernel
set_option maxRecDepth 20000 in
theorem ggX11_repave_X11_isStreet : GoodIn wsX11_repave wsX11_isStreet := goodIn_r _ [7, 1, 8, 12, 13, 14, 15, 16, 17, 18, 19, 20, 21, 22, 23, 24, 25, 26, 27, 28, 29, 30, 31, 32, 33, 34] (by decide +kernel) (by decide +kernel)
set_option maxRecDepth 20000 in
theorem gX11_repave_X11_isStreet : GoodIn wsX11_repave (wsV RX11 108 RX11 yX11_isStreet wsX11_isStreet) := goodIn_app (goodIn_of _ (by decide +kernel)) ggX11_repave_X11_isStreet
set_option maxRecDepth 20000 in
theorem ggX11_repave_X11_isWithin : GoodIn wsX11_repave wsX11_isWithin := goodIn_r _ [11] (by decide +kernel) (by decide +kernel)
set_option maxRecDepth 20000 in
theorem gX11_repave_X11_isWithin : GoodIn wsX11_repave (va_wsS RX11 124 yX11_isWithin wsX11_isWithin) := goodIn_app (goodIn_of _ (by decide +kernel)) ggX11_repave_X11_isWithin
theorem dX11_repave_0 : decode cX11_repave 0 = .ok (.aload_n 0, 1) := by decide +kernel
theorem dX11_repave_1 : decode cX11_repave 1 = .ok (.iload_n 1, 1) := by decide +kernel
theorem dX11_repave_2 : decode cX11_repave 2 = .ok (.invokevirtual 108, 3) := by decide +kernel
theorem dX11_repave_5 : decode cX11_repave 5 = .ok (.ifCond .ne 6, 3) := by decide +kernel
theorem dX11_repave_8 : decode cX11_repave 8 = .ok (.bipush (-101), 2) := by decide +kernel
theorem dX11_repave_10 : decode cX11_repave 10 = .ok (.ireturn, 1) := by decide +kernel
theorem dX11_repave_11 : decode cX11_repave 11 = .ok (.iload_n 2, 1) := by decide +kernel
theorem dX11_repave_12 : decode cX11_repave 12 = .ok (.bipush 9, 2) := by decide +kernel
theorem dX11_repave_14 : decode cX11_repave 14 = .ok (.invokestatic 124, 3) := by decide +kernel
theorem dX11_repave_17 : decode cX11_repave 17 = .ok (.ifCond .ne 6, 3) := by decide +kernel
theorem dX11_repave_20 : decode cX11_repave 20 = .ok (.bipush (-102), 2) := by decide +kernel
theorem dX11_repave_22 : decode cX11_repave 22 = .ok (.ireturn, 1) := by decide +kernel
theorem dX11_repave_23 : decode cX11_repave 23 = .ok (.aload_n 0, 1) := by decide +kernel
theorem dX11_repave_24 : decode cX11_repave 24 = .ok (.getfield 19, 3) := by decide +kernel
theorem dX11_repave_27 : decode cX11_repave 27 = .ok (.getfield 118, 3) := by decide +kernel
theorem dX11_repave_30 : decode cX11_repave 30 = .ok (.iload_n 1, 1) := by decide +kernel
theorem dX11_repave_31 : decode cX11_repave 31 = .ok (.iaload, 1) := by decide +kernel
theorem dX11_repave_32 : decode cX11_repave 32 = .ok (.istore_n 3, 1) := by decide +kernel
theorem dX11_repave_33 : decode cX11_repave 33 = .ok (.aload_n 0, 1) := by decide +kernel
theorem dX11_repave_34 : decode cX11_repave 34 = .ok (.getfield 19, 3) := by decide +kernel
theorem dX11_repave_37 : decode cX11_repave 37 = .ok (.getfield 118, 3) := by decide +kernel
theorem dX11_repave_40 : decode cX11_repave 40 = .ok (.iload_n 1, 1) := by decide +kernel
theorem dX11_repave_41 : decode cX11_repave 41 = .ok (.iload_n 2, 1) := by decide +kernel
theorem dX11_repave_42 : decode cX11_repave 42 = .ok (.iastore, 1) := by decide +kernel
theorem dX11_repave_43 : decode cX11_repave 43 = .ok (.iload_n 3, 1) := by decide +kernel
theorem dX11_repave_44 : decode cX11_repave 44 = .ok (.ireturn, 1) := by decide +kernel
set_option maxRecDepth 20000 in
theorem ggX11_walker_X11_isPlace : GoodIn wsX11_walker wsX11_isPlace := goodIn_r _ [9, 10, 11, 8, 12] (by decide +kernel) (by decide +kernel)
set_option maxRecDepth 20000 in
theorem gX11_walker_X11_isPlace : GoodIn wsX11_walker (va_wsS RX11 128 yX11_isPlace wsX11_isPlace) := goodIn_app (goodIn_of _ (by decide +kernel)) ggX11_walker_X11_isPlace
set_option maxRecDepth 20000 in
theorem ggX11_walker_X11_isKind : GoodIn wsX11_walker wsX11_isKind := goodIn_r _ [15, 10, 11, 8, 12] (by decide +kernel) (by decide +kernel)
set_option maxRecDepth 20000 in
theorem gX11_walker_X11_isKind : GoodIn wsX11_walker (va_wsS RX11 131 yX11_isKind wsX11_isKind) := goodIn_app (goodIn_of _ (by decide +kernel)) ggX11_walker_X11_isKind
set_option maxRecDepth 20000 in
theorem ggX11_walker_X11_isWithin : GoodIn wsX11_walker wsX11_isWithin := goodIn_r _ [12] (by decide +kernel) (by decide +kernel)
set_option maxRecDepth 20000 in
theorem gX11_walker_X11_isWithin : GoodIn wsX11_walker (va_wsS RX11 124 yX11_isWithin wsX11_isWithin) := goodIn_app (goodIn_of _ (by decide +kernel)) ggX11_walker_X11_isWithin
set_option maxRecDepth 20000 in
theorem ggX11_walker_X11_hasTown : GoodIn wsX11_walker wsX11_hasTown := goodIn_r _ [19, 20, 21, 26, 27, 28, 29, 30, 31, 32, 33, 34, 35, 36, 37, 38, 39, 40, 44, 45, 46, 47, 48, 49, 50, 51] (by decide +kernel) (by decide +kernel)
set_option maxRecDepth 20000 in
theorem gX11_walker_X11_hasTown : GoodIn wsX11_walker (wsV RX11 134 RX11 yX11_hasTown wsX11_hasTown) := goodIn_app (goodIn_of _ (by decide +kernel)) ggX11_walker_X11_hasTown
set_option maxRecDepth 20000 in
theorem ggX11_walker_X7_of : GoodIn wsX11_walker wsX7_of := goodIn_r _ [25] (by decide +kernel) (by decide +kernel)
set_option maxRecDepth 20000 in
theorem gX11_walker_X7_of : GoodIn wsX11_walker (va_wsS RX11 140 yX7_of wsX7_of) := goodIn_app (goodIn_of _ (by decide +kernel)) ggX11_walker_X7_of
theorem dX11_walker_0 : decode cX11_walker 0 = .ok (.iload_n 2, 1) := by decide +kernel
theorem dX11_walker_1 : decode cX11_walker 1 = .ok (.invokestatic 128, 3) := by decide +kernel
theorem dX11_walker_4 : decode cX11_walker 4 = .ok (.ifCond .ne 6, 3) := by decide +kernel
theorem dX11_walker_7 : decode cX11_walker 7 = .ok (.bipush (-101), 2) := by decide +kernel
theorem dX11_walker_9 : decode cX11_walker 9 = .ok (.ireturn, 1) := by decide +kernel
theorem dX11_walker_10 : decode cX11_walker 10 = .ok (.iload_n 1, 1) := by decide +kernel
theorem dX11_walker_11 : decode cX11_walker 11 = .ok (.invokestatic 131, 3) := by decide +kernel
theorem dX11_walker_14 : decode cX11_walker 14 = .ok (.ifCond .eq 11, 3) := by decide +kernel
theorem dX11_walker_17 : decode cX11_walker 17 = .ok (.iload_n 3, 1) := by decide +kernel
theorem dX11_walker_18 : decode cX11_walker 18 = .ok (.iconst 1, 1) := by decide +kernel
theorem dX11_walker_19 : decode cX11_walker 19 = .ok (.invokestatic 124, 3) := by decide +kernel
theorem dX11_walker_22 : decode cX11_walker 22 = .ok (.ifCond .ne 6, 3) := by decide +kernel
theorem dX11_walker_25 : decode cX11_walker 25 = .ok (.bipush (-102), 2) := by decide +kernel
theorem dX11_walker_27 : decode cX11_walker 27 = .ok (.ireturn, 1) := by decide +kernel
theorem dX11_walker_28 : decode cX11_walker 28 = .ok (.aload_n 0, 1) := by decide +kernel
theorem dX11_walker_29 : decode cX11_walker 29 = .ok (.invokevirtual 134, 3) := by decide +kernel
theorem dX11_walker_32 : decode cX11_walker 32 = .ok (.ifCond .ne 6, 3) := by decide +kernel
theorem dX11_walker_35 : decode cX11_walker 35 = .ok (.bipush (-103), 2) := by decide +kernel
theorem dX11_walker_37 : decode cX11_walker 37 = .ok (.ireturn, 1) := by decide +kernel
theorem dX11_walker_38 : decode cX11_walker 38 = .ok (.aload_n 0, 1) := by decide +kernel
theorem dX11_walker_39 : decode cX11_walker 39 = .ok (.getfield 96, 3) := by decide +kernel
theorem dX11_walker_42 : decode cX11_walker 42 = .ok (.iconst 5, 1) := by decide +kernel
theorem dX11_walker_43 : decode cX11_walker 43 = .ok (.if_icmp .lt 6, 3) := by decide +kernel
theorem dX11_walker_46 : decode cX11_walker 46 = .ok (.bipush (-104), 2) := by decide +kernel
theorem dX11_walker_48 : decode cX11_walker 48 = .ok (.ireturn, 1) := by decide +kernel
theorem dX11_walker_49 : decode cX11_walker 49 = .ok (.aload_n 0, 1) := by decide +kernel
theorem dX11_walker_50 : decode cX11_walker 50 = .ok (.getfield 25, 3) := by decide +kernel
theorem dX11_walker_53 : decode cX11_walker 53 = .ok (.aload_n 0, 1) := by decide +kernel
theorem dX11_walker_54 : decode cX11_walker 54 = .ok (.getfield 96, 3) := by decide +kernel
theorem dX11_walker_57 : decode cX11_walker 57 = .ok (.aaload, 1) := by decide +kernel
theorem dX11_walker_58 : decode cX11_walker 58 = .ok (.astore 4, 2) := by decide +kernel
theorem dX11_walker_60 : decode cX11_walker 60 = .ok (.aload 4, 2) := by decide +kernel
theorem dX11_walker_62 : decode cX11_walker 62 = .ok (.iload_n 1, 1) := by decide +kernel
theorem dX11_walker_63 : decode cX11_walker 63 = .ok (.putfield 137, 3) := by decide +kernel
theorem dX11_walker_66 : decode cX11_walker 66 = .ok (.aload 4, 2) := by decide +kernel
theorem dX11_walker_68 : decode cX11_walker 68 = .ok (.iload_n 2, 1) := by decide +kernel
theorem dX11_walker_69 : decode cX11_walker 69 = .ok (.iload_n 3, 1) := by decide +kernel
theorem dX11_walker_70 : decode cX11_walker 70 = .ok (.iconst 0, 1) := by decide +kernel
theorem dX11_walker_71 : decode cX11_walker 71 = .ok (.invokestatic 140, 3) := by decide +kernel
theorem dX11_walker_74 : decode cX11_walker 74 = .ok (.putfield 146, 3) := by decide +kernel
theorem dX11_walker_77 : decode cX11_walker 77 = .ok (.aload 4, 2) := by decide +kernel
theorem dX11_walker_79 : decode cX11_walker 79 = .ok (.iconst 0, 1) := by decide +kernel
theorem dX11_walker_80 : decode cX11_walker 80 = .ok (.putfield 149, 3) := by decide +kernel
theorem dX11_walker_83 : decode cX11_walker 83 = .ok (.aload_n 0, 1) := by decide +kernel
theorem dX11_walker_84 : decode cX11_walker 84 = .ok (.dup, 1) := by decide +kernel
theorem dX11_walker_85 : decode cX11_walker 85 = .ok (.getfield 96, 3) := by decide +kernel
theorem dX11_walker_88 : decode cX11_walker 88 = .ok (.iconst 1, 1) := by decide +kernel
theorem dX11_walker_89 : decode cX11_walker 89 = .ok (.iadd, 1) := by decide +kernel
theorem dX11_walker_90 : decode cX11_walker 90 = .ok (.putfield 96, 3) := by decide +kernel
theorem dX11_walker_93 : decode cX11_walker 93 = .ok (.aload_n 0, 1) := by decide +kernel
theorem dX11_walker_94 : decode cX11_walker 94 = .ok (.getfield 96, 3) := by decide +kernel
theorem dX11_walker_97 : decode cX11_walker 97 = .ok (.iconst 1, 1) := by decide +kernel
theorem dX11_walker_98 : decode cX11_walker 98 = .ok (.isub, 1) := by decide +kernel
theorem dX11_walker_99 : decode cX11_walker 99 = .ok (.ireturn, 1) := by decide +kernel
set_option maxRecDepth 20000 in
theorem ggX11_about_X11_isWalker : GoodIn wsX11_about wsX11_isWalker := goodIn_r _ [9, 10, 21, 22, 23, 24, 25, 26, 27, 28, 29, 30, 31, 32, 33, 34, 35] (by decide +kernel) (by decide +kernel)
set_option maxRecDepth 20000 in
theorem gX11_about_X11_isWalker : GoodIn wsX11_about (wsV RX11 152 RX11 yX11_isWalker wsX11_isWalker) := goodIn_app (goodIn_of _ (by decide +kernel)) ggX11_about_X11_isWalker
set_option maxRecDepth 20000 in
theorem ggX11_about_X7_placeOf : GoodIn wsX11_about wsX7_placeOf := goodIn_r _ [14] (by decide +kernel) (by decide +kernel)
set_option maxRecDepth 20000 in
theorem gX11_about_X7_placeOf : GoodIn wsX11_about (va_wsS RX11 155 yX7_placeOf wsX7_placeOf) := goodIn_app (goodIn_of _ (by decide +kernel)) ggX11_about_X7_placeOf
set_option maxRecDepth 20000 in
theorem ggX11_about_X7_footOf : GoodIn wsX11_about wsX7_footOf := goodIn_r _ [17] (by decide +kernel) (by decide +kernel)
set_option maxRecDepth 20000 in
theorem gX11_about_X7_footOf : GoodIn wsX11_about (va_wsS RX11 159 yX7_footOf wsX7_footOf) := goodIn_app (goodIn_of _ (by decide +kernel)) ggX11_about_X7_footOf
set_option maxRecDepth 20000 in
theorem ggX11_about_X7_markOf : GoodIn wsX11_about wsX7_markOf := goodIn_r _ [20] (by decide +kernel) (by decide +kernel)
set_option maxRecDepth 20000 in
theorem gX11_about_X7_markOf : GoodIn wsX11_about (va_wsS RX11 162 yX7_markOf wsX7_markOf) := goodIn_app (goodIn_of _ (by decide +kernel)) ggX11_about_X7_markOf
theorem dX11_about_0 : decode cX11_about 0 = .ok (.aload_n 0, 1) := by decide +kernel
theorem dX11_about_1 : decode cX11_about 1 = .ok (.iload_n 1, 1) := by decide +kernel
theorem dX11_about_2 : decode cX11_about 2 = .ok (.invokevirtual 152, 3) := by decide +kernel
theorem dX11_about_5 : decode cX11_about 5 = .ok (.ifCond .ne 6, 3) := by decide +kernel
theorem dX11_about_8 : decode cX11_about 8 = .ok (.bipush (-101), 2) := by decide +kernel
theorem dX11_about_10 : decode cX11_about 10 = .ok (.ireturn, 1) := by decide +kernel
theorem dX11_about_11 : decode cX11_about 11 = .ok (.aload_n 0, 1) := by decide +kernel
theorem dX11_about_12 : decode cX11_about 12 = .ok (.getfield 25, 3) := by decide +kernel
theorem dX11_about_15 : decode cX11_about 15 = .ok (.iload_n 1, 1) := by decide +kernel
theorem dX11_about_16 : decode cX11_about 16 = .ok (.aaload, 1) := by decide +kernel
theorem dX11_about_17 : decode cX11_about 17 = .ok (.astore_n 3, 1) := by decide +kernel
theorem dX11_about_18 : decode cX11_about 18 = .ok (.iload_n 2, 1) := by decide +kernel
theorem dX11_about_19 : decode cX11_about 19 = .ok (.tableswitch 94 0 6 #[41, 46, 54, 62, 67, 76, 85], 41) := by decide +kernel
theorem dX11_about_60 : decode cX11_about 60 = .ok (.aload_n 3, 1) := by decide +kernel
theorem dX11_about_61 : decode cX11_about 61 = .ok (.getfield 137, 3) := by decide +kernel
theorem dX11_about_64 : decode cX11_about 64 = .ok (.ireturn, 1) := by decide +kernel
theorem dX11_about_65 : decode cX11_about 65 = .ok (.aload_n 3, 1) := by decide +kernel
theorem dX11_about_66 : decode cX11_about 66 = .ok (.getfield 146, 3) := by decide +kernel
theorem dX11_about_69 : decode cX11_about 69 = .ok (.invokestatic 155, 3) := by decide +kernel
theorem dX11_about_72 : decode cX11_about 72 = .ok (.ireturn, 1) := by decide +kernel
theorem dX11_about_73 : decode cX11_about 73 = .ok (.aload_n 3, 1) := by decide +kernel
theorem dX11_about_74 : decode cX11_about 74 = .ok (.getfield 146, 3) := by decide +kernel
theorem dX11_about_77 : decode cX11_about 77 = .ok (.invokestatic 159, 3) := by decide +kernel
theorem dX11_about_80 : decode cX11_about 80 = .ok (.ireturn, 1) := by decide +kernel
theorem dX11_about_81 : decode cX11_about 81 = .ok (.aload_n 3, 1) := by decide +kernel
theorem dX11_about_82 : decode cX11_about 82 = .ok (.getfield 149, 3) := by decide +kernel
theorem dX11_about_85 : decode cX11_about 85 = .ok (.ireturn, 1) := by decide +kernel
theorem dX11_about_86 : decode cX11_about 86 = .ok (.aload_n 3, 1) := by decide +kernel
theorem dX11_about_87 : decode cX11_about 87 = .ok (.getfield 146, 3) := by decide +kernel
theorem dX11_about_90 : decode cX11_about 90 = .ok (.iconst 0, 1) := by decide +kernel
theorem dX11_about_91 : decode cX11_about 91 = .ok (.invokestatic 162, 3) := by decide +kernel
theorem dX11_about_94 : decode cX11_about 94 = .ok (.ireturn, 1) := by decide +kernel
theorem dX11_about_95 : decode cX11_about 95 = .ok (.aload_n 3, 1) := by decide +kernel
theorem dX11_about_96 : decode cX11_about 96 = .ok (.getfield 146, 3) := by decide +kernel
theorem dX11_about_99 : decode cX11_about 99 = .ok (.iconst 1, 1) := by decide +kernel
theorem dX11_about_100 : decode cX11_about 100 = .ok (.invokestatic 162, 3) := by decide +kernel
theorem dX11_about_103 : decode cX11_about 103 = .ok (.ireturn, 1) := by decide +kernel
theorem dX11_about_104 : decode cX11_about 104 = .ok (.aload_n 3, 1) := by decide +kernel
theorem dX11_about_105 : decode cX11_about 105 = .ok (.getfield 146, 3) := by decide +kernel
theorem dX11_about_108 : decode cX11_about 108 = .ok (.iconst 2, 1) := by decide +kernel
theorem dX11_about_109 : decode cX11_about 109 = .ok (.invokestatic 162, 3) := by decide +kernel
theorem dX11_about_112 : decode cX11_about 112 = .ok (.ireturn, 1) := by decide +kernel
theorem dX11_about_113 : decode cX11_about 113 = .ok (.bipush (-102), 2) := by decide +kernel
theorem dX11_about_115 : decode cX11_about 115 = .ok (.ireturn, 1) := by decide +kernel
set_option maxRecDepth 20000 in
theorem ggX11_as_X11_isWalker : GoodIn wsX11_as wsX11_isWalker := goodIn_r _ [6, 7, 20, 21, 22, 23, 24, 25, 26, 27, 28, 29, 30, 31, 32, 33, 34] (by decide +kernel) (by decide +kernel)
set_option maxRecDepth 20000 in
theorem gX11_as_X11_isWalker : GoodIn wsX11_as (wsV RX11 152 RX11 yX11_isWalker wsX11_isWalker) := goodIn_app (goodIn_of _ (by decide +kernel)) ggX11_as_X11_isWalker
set_option maxRecDepth 20000 in
theorem ggX11_as_X11_isKind : GoodIn wsX11_as wsX11_isKind := goodIn_r _ [10, 11, 12, 5, 13] (by decide +kernel) (by decide +kernel)
set_option maxRecDepth 20000 in
theorem gX11_as_X11_isKind : GoodIn wsX11_as (va_wsS RX11 131 yX11_isKind wsX11_isKind) := goodIn_app (goodIn_of _ (by decide +kernel)) ggX11_as_X11_isKind
set_option maxRecDepth 20000 in
theorem ggX11_as_X9_isOf : GoodIn wsX11_as wsX9_isOf := goodIn_r _ [18, 19, 35, 36, 37] (by decide +kernel) (by decide +kernel)
set_option maxRecDepth 20000 in
theorem gX11_as_X9_isOf : GoodIn wsX11_as (wsV RX11 166 RX9 yX9_isOf wsX9_isOf) := goodIn_app (goodIn_of _ (by decide +kernel)) ggX11_as_X9_isOf
theorem dX11_as_0 : decode cX11_as 0 = .ok (.aload_n 0, 1) := by decide +kernel
theorem dX11_as_1 : decode cX11_as 1 = .ok (.iload_n 1, 1) := by decide +kernel
theorem dX11_as_2 : decode cX11_as 2 = .ok (.invokevirtual 152, 3) := by decide +kernel
theorem dX11_as_5 : decode cX11_as 5 = .ok (.ifCond .ne 6, 3) := by decide +kernel
theorem dX11_as_8 : decode cX11_as 8 = .ok (.bipush (-101), 2) := by decide +kernel
theorem dX11_as_10 : decode cX11_as 10 = .ok (.ireturn, 1) := by decide +kernel
theorem dX11_as_11 : decode cX11_as 11 = .ok (.iload_n 2, 1) := by decide +kernel
theorem dX11_as_12 : decode cX11_as 12 = .ok (.invokestatic 131, 3) := by decide +kernel
theorem dX11_as_15 : decode cX11_as 15 = .ok (.ifCond .ne 6, 3) := by decide +kernel
theorem dX11_as_18 : decode cX11_as 18 = .ok (.bipush (-102), 2) := by decide +kernel
theorem dX11_as_20 : decode cX11_as 20 = .ok (.ireturn, 1) := by decide +kernel
theorem dX11_as_21 : decode cX11_as 21 = .ok (.aload_n 0, 1) := by decide +kernel
theorem dX11_as_22 : decode cX11_as 22 = .ok (.getfield 25, 3) := by decide +kernel
theorem dX11_as_25 : decode cX11_as 25 = .ok (.iload_n 1, 1) := by decide +kernel
theorem dX11_as_26 : decode cX11_as 26 = .ok (.aaload, 1) := by decide +kernel
theorem dX11_as_27 : decode cX11_as 27 = .ok (.iload_n 2, 1) := by decide +kernel
theorem dX11_as_28 : decode cX11_as 28 = .ok (.invokevirtual 166, 3) := by decide +kernel
theorem dX11_as_31 : decode cX11_as 31 = .ok (.ifCond .eq 7, 3) := by decide +kernel
theorem dX11_as_34 : decode cX11_as 34 = .ok (.iload_n 1, 1) := by decide +kernel
theorem dX11_as_35 : decode cX11_as 35 = .ok (.goto 4, 3) := by decide +kernel
theorem dX11_as_38 : decode cX11_as 38 = .ok (.iconst (-1), 1) := by decide +kernel
theorem dX11_as_39 : decode cX11_as 39 = .ok (.ireturn, 1) := by decide +kernel
set_option maxRecDepth 20000 in
theorem ggX11_steps_X11_isWalker : GoodIn wsX11_steps wsX11_isWalker := goodIn_r _ [9, 10, 20, 21, 22, 23, 24, 25, 26, 27, 28, 29, 30, 31, 32, 33, 34] (by decide +kernel) (by decide +kernel)
set_option maxRecDepth 20000 in
theorem gX11_steps_X11_isWalker : GoodIn wsX11_steps (wsV RX11 152 RX11 yX11_isWalker wsX11_isWalker) := goodIn_app (goodIn_of _ (by decide +kernel)) ggX11_steps_X11_isWalker
set_option maxRecDepth 20000 in
theorem ggX11_steps_X11_isStreet : GoodIn wsX11_steps wsX11_isStreet := goodIn_r _ [14, 3, 15, 20, 21, 22, 23, 24, 25, 26, 27, 28, 29, 30, 31, 32, 33, 34, 38, 39, 40, 41, 42, 43, 44, 45] (by decide +kernel) (by decide +kernel)
set_option maxRecDepth 20000 in
theorem gX11_steps_X11_isStreet : GoodIn wsX11_steps (wsV RX11 108 RX11 yX11_isStreet wsX11_isStreet) := goodIn_app (goodIn_of _ (by decide +kernel)) ggX11_steps_X11_isStreet
set_option maxRecDepth 20000 in
theorem ggX11_steps_X9_stepsOf : GoodIn wsX11_steps wsX9_stepsOf := goodIn_r _ [19] (by decide +kernel) (by decide +kernel)
set_option maxRecDepth 20000 in
theorem gX11_steps_X9_stepsOf : GoodIn wsX11_steps (va_wsS RX11 169 yX9_stepsOf wsX9_stepsOf) := goodIn_app (goodIn_of _ (by decide +kernel)) ggX11_steps_X9_stepsOf
theorem dX11_steps_0 : decode cX11_steps 0 = .ok (.aload_n 0, 1) := by decide +kernel
theorem dX11_steps_1 : decode cX11_steps 1 = .ok (.iload_n 1, 1) := by decide +kernel
theorem dX11_steps_2 : decode cX11_steps 2 = .ok (.invokevirtual 152, 3) := by decide +kernel
theorem dX11_steps_5 : decode cX11_steps 5 = .ok (.ifCond .eq 11, 3) := by decide +kernel
theorem dX11_steps_8 : decode cX11_steps 8 = .ok (.aload_n 0, 1) := by decide +kernel
theorem dX11_steps_9 : decode cX11_steps 9 = .ok (.iload_n 2, 1) := by decide +kernel
theorem dX11_steps_10 : decode cX11_steps 10 = .ok (.invokevirtual 108, 3) := by decide +kernel
theorem dX11_steps_13 : decode cX11_steps 13 = .ok (.ifCond .ne 6, 3) := by decide +kernel
theorem dX11_steps_16 : decode cX11_steps 16 = .ok (.bipush (-101), 2) := by decide +kernel
theorem dX11_steps_18 : decode cX11_steps 18 = .ok (.ireturn, 1) := by decide +kernel
theorem dX11_steps_19 : decode cX11_steps 19 = .ok (.aload_n 0, 1) := by decide +kernel
theorem dX11_steps_20 : decode cX11_steps 20 = .ok (.getfield 25, 3) := by decide +kernel
theorem dX11_steps_23 : decode cX11_steps 23 = .ok (.iload_n 1, 1) := by decide +kernel
theorem dX11_steps_24 : decode cX11_steps 24 = .ok (.aaload, 1) := by decide +kernel
theorem dX11_steps_25 : decode cX11_steps 25 = .ok (.getfield 137, 3) := by decide +kernel
theorem dX11_steps_28 : decode cX11_steps 28 = .ok (.aload_n 0, 1) := by decide +kernel
theorem dX11_steps_29 : decode cX11_steps 29 = .ok (.getfield 19, 3) := by decide +kernel
theorem dX11_steps_32 : decode cX11_steps 32 = .ok (.getfield 118, 3) := by decide +kernel
theorem dX11_steps_35 : decode cX11_steps 35 = .ok (.iload_n 2, 1) := by decide +kernel
theorem dX11_steps_36 : decode cX11_steps 36 = .ok (.iaload, 1) := by decide +kernel
theorem dX11_steps_37 : decode cX11_steps 37 = .ok (.invokestatic 169, 3) := by decide +kernel
theorem dX11_steps_40 : decode cX11_steps 40 = .ok (.ireturn, 1) := by decide +kernel
set_option maxRecDepth 20000 in
theorem ggX11_may_X11_isWalker : GoodIn wsX11_may wsX11_isWalker := goodIn_r _ [8, 9, 66, 67, 68, 69, 70, 71, 72, 73, 74, 75, 76, 77, 78, 79, 80] (by decide +kernel) (by decide +kernel)
set_option maxRecDepth 20000 in
theorem gX11_may_X11_isWalker : GoodIn wsX11_may (wsV RX11 152 RX11 yX11_isWalker wsX11_isWalker) := goodIn_app (goodIn_of _ (by decide +kernel)) ggX11_may_X11_isWalker
set_option maxRecDepth 20000 in
theorem ggX11_may_X11_isStreet : GoodIn wsX11_may wsX11_isStreet := goodIn_r _ [13, 2, 14, 66, 67, 68, 69, 70, 71, 72, 73, 74, 75, 76, 77, 78, 79, 80, 84, 85, 86, 87, 88, 89, 90, 91] (by decide +kernel) (by decide +kernel)
set_option maxRecDepth 20000 in
theorem gX11_may_X11_isStreet : GoodIn wsX11_may (wsV RX11 108 RX11 yX11_isStreet wsX11_isStreet) := goodIn_app (goodIn_of _ (by decide +kernel)) ggX11_may_X11_isStreet
set_option maxRecDepth 20000 in
theorem ggX11_may_X7_placeOf : GoodIn wsX11_may wsX7_placeOf := goodIn_r _ [18] (by decide +kernel) (by decide +kernel)
set_option maxRecDepth 20000 in
theorem gX11_may_X7_placeOf : GoodIn wsX11_may (va_wsS RX11 155 yX7_placeOf wsX7_placeOf) := goodIn_app (goodIn_of _ (by decide +kernel)) ggX11_may_X7_placeOf
set_option maxRecDepth 20000 in
theorem ggX11_may_X8_isAt : GoodIn wsX11_may wsX8_isAt := goodIn_r _ [23, 24, 25, 84, 85, 86, 87, 88, 89, 90, 91] (by decide +kernel) (by decide +kernel)
set_option maxRecDepth 20000 in
theorem gX11_may_X8_isAt : GoodIn wsX11_may (wsV RX11 172 RX8 yX8_isAt wsX8_isAt) := goodIn_app (goodIn_of _ (by decide +kernel)) ggX11_may_X8_isAt
set_option maxRecDepth 20000 in
theorem ggX11_may_X11_standBehind : GoodIn wsX11_may wsX11_standBehind := goodIn_r _ [29, 2, 3, 30, 31, 32, 33, 34, 35, 36, 37, 38, 39, 40, 41, 22, 42, 43, 24, 25, 44, 16, 17, 18, 45, 20, 21, 23, 46, 47, 48, 49, 50, 51, 52, 53, 54, 55, 56, 57, 58, 59, 60, 61, 62, 63, 64, 65, 66, 67, 68, 69, 70, 71, 72, 73, 74, 75, 76, 77, 78, 79, 80, 81, 82, 83, 84, 85, 86, 87, 88, 89, 90, 91] (by decide +kernel) (by decide +kernel)
set_option maxRecDepth 20000 in
theorem gX11_may_X11_standBehind : GoodIn wsX11_may (wsV RX11 175 RX11 yX11_standBehind wsX11_standBehind) := goodIn_app (goodIn_of _ (by decide +kernel)) ggX11_may_X11_standBehind
theorem dX11_may_0 : decode cX11_may 0 = .ok (.aload_n 0, 1) := by decide +kernel
theorem dX11_may_1 : decode cX11_may 1 = .ok (.iload_n 1, 1) := by decide +kernel
theorem dX11_may_2 : decode cX11_may 2 = .ok (.invokevirtual 152, 3) := by decide +kernel
theorem dX11_may_5 : decode cX11_may 5 = .ok (.ifCond .eq 11, 3) := by decide +kernel
theorem dX11_may_8 : decode cX11_may 8 = .ok (.aload_n 0, 1) := by decide +kernel
theorem dX11_may_9 : decode cX11_may 9 = .ok (.iload_n 2, 1) := by decide +kernel
theorem dX11_may_10 : decode cX11_may 10 = .ok (.invokevirtual 108, 3) := by decide +kernel
theorem dX11_may_13 : decode cX11_may 13 = .ok (.ifCond .ne 6, 3) := by decide +kernel
theorem dX11_may_16 : decode cX11_may 16 = .ok (.bipush (-101), 2) := by decide +kernel
theorem dX11_may_18 : decode cX11_may 18 = .ok (.ireturn, 1) := by decide +kernel
theorem dX11_may_19 : decode cX11_may 19 = .ok (.aload_n 0, 1) := by decide +kernel
theorem dX11_may_20 : decode cX11_may 20 = .ok (.getfield 25, 3) := by decide +kernel
theorem dX11_may_23 : decode cX11_may 23 = .ok (.iload_n 1, 1) := by decide +kernel
theorem dX11_may_24 : decode cX11_may 24 = .ok (.aaload, 1) := by decide +kernel
theorem dX11_may_25 : decode cX11_may 25 = .ok (.astore_n 3, 1) := by decide +kernel
theorem dX11_may_26 : decode cX11_may 26 = .ok (.aload_n 0, 1) := by decide +kernel
theorem dX11_may_27 : decode cX11_may 27 = .ok (.getfield 19, 3) := by decide +kernel
theorem dX11_may_30 : decode cX11_may 30 = .ok (.iload_n 2, 1) := by decide +kernel
theorem dX11_may_31 : decode cX11_may 31 = .ok (.aload_n 3, 1) := by decide +kernel
theorem dX11_may_32 : decode cX11_may 32 = .ok (.getfield 146, 3) := by decide +kernel
theorem dX11_may_35 : decode cX11_may 35 = .ok (.invokestatic 155, 3) := by decide +kernel
theorem dX11_may_38 : decode cX11_may 38 = .ok (.invokevirtual 172, 3) := by decide +kernel
theorem dX11_may_41 : decode cX11_may 41 = .ok (.ifCond .ne 5, 3) := by decide +kernel
theorem dX11_may_44 : decode cX11_may 44 = .ok (.iconst (-1), 1) := by decide +kernel
theorem dX11_may_45 : decode cX11_may 45 = .ok (.ireturn, 1) := by decide +kernel
theorem dX11_may_46 : decode cX11_may 46 = .ok (.aload_n 0, 1) := by decide +kernel
theorem dX11_may_47 : decode cX11_may 47 = .ok (.aload_n 3, 1) := by decide +kernel
theorem dX11_may_48 : decode cX11_may 48 = .ok (.iload_n 2, 1) := by decide +kernel
theorem dX11_may_49 : decode cX11_may 49 = .ok (.invokevirtual 175, 3) := by decide +kernel
theorem dX11_may_52 : decode cX11_may 52 = .ok (.iconst (-1), 1) := by decide +kernel
theorem dX11_may_53 : decode cX11_may 53 = .ok (.if_icmp .ne 7, 3) := by decide +kernel
theorem dX11_may_56 : decode cX11_may 56 = .ok (.iconst 0, 1) := by decide +kernel
theorem dX11_may_57 : decode cX11_may 57 = .ok (.goto 4, 3) := by decide +kernel
theorem dX11_may_60 : decode cX11_may 60 = .ok (.iconst 1, 1) := by decide +kernel
theorem dX11_may_61 : decode cX11_may 61 = .ok (.ireturn, 1) := by decide +kernel
set_option maxRecDepth 20000 in
theorem ggX11_go_X11_isWalker : GoodIn wsX11_go wsX11_isWalker := goodIn_r _ [7, 8, 65, 66, 67, 68, 69, 70, 71, 72, 73, 74, 75, 76, 77, 78, 79] (by decide +kernel) (by decide +kernel)
set_option maxRecDepth 20000 in
theorem gX11_go_X11_isWalker : GoodIn wsX11_go (wsV RX11 152 RX11 yX11_isWalker wsX11_isWalker) := goodIn_app (goodIn_of _ (by decide +kernel)) ggX11_go_X11_isWalker
set_option maxRecDepth 20000 in
theorem ggX11_go_X11_isStreet : GoodIn wsX11_go wsX11_isStreet := goodIn_r _ [12, 13, 14, 65, 66, 67, 68, 69, 70, 71, 72, 73, 74, 75, 76, 77, 78, 79, 83, 84, 85, 86, 87, 88, 89, 90] (by decide +kernel) (by decide +kernel)
set_option maxRecDepth 20000 in
theorem gX11_go_X11_isStreet : GoodIn wsX11_go (wsV RX11 108 RX11 yX11_isStreet wsX11_isStreet) := goodIn_app (goodIn_of _ (by decide +kernel)) ggX11_go_X11_isStreet
set_option maxRecDepth 20000 in
theorem ggX11_go_X11_standBehind : GoodIn wsX11_go wsX11_standBehind := goodIn_r _ [18, 13, 2, 19, 20, 21, 22, 23, 24, 25, 26, 27, 28, 29, 30, 31, 32, 33, 34, 35, 36, 37, 38, 39, 40, 41, 42, 43, 44, 45, 46, 47, 48, 49, 50, 51, 52, 53, 54, 55, 56, 57, 58, 59, 60, 61, 62, 63, 65, 66, 67, 68, 69, 70, 71, 72, 73, 74, 75, 76, 77, 78, 79, 80, 81, 82, 83, 84, 85, 86, 87, 88, 89, 90] (by decide +kernel) (by decide +kernel)
set_option maxRecDepth 20000 in
theorem gX11_go_X11_standBehind : GoodIn wsX11_go (wsV RX11 175 RX11 yX11_standBehind wsX11_standBehind) := goodIn_app (goodIn_of _ (by decide +kernel)) ggX11_go_X11_standBehind
set_option maxRecDepth 20000 in
theorem ggX11_go_X7_placeOf : GoodIn wsX11_go wsX7_placeOf := goodIn_r _ [39] (by decide +kernel) (by decide +kernel)
set_option maxRecDepth 20000 in
theorem gX11_go_X7_placeOf : GoodIn wsX11_go (va_wsS RX11 155 yX7_placeOf wsX7_placeOf) := goodIn_app (goodIn_of _ (by decide +kernel)) ggX11_go_X7_placeOf
theorem dX11_go_0 : decode cX11_go 0 = .ok (.aload_n 0, 1) := by decide +kernel
theorem dX11_go_1 : decode cX11_go 1 = .ok (.iload_n 1, 1) := by decide +kernel
theorem dX11_go_2 : decode cX11_go 2 = .ok (.invokevirtual 152, 3) := by decide +kernel
theorem dX11_go_5 : decode cX11_go 5 = .ok (.ifCond .eq 11, 3) := by decide +kernel
theorem dX11_go_8 : decode cX11_go 8 = .ok (.aload_n 0, 1) := by decide +kernel
theorem dX11_go_9 : decode cX11_go 9 = .ok (.iload_n 2, 1) := by decide +kernel
theorem dX11_go_10 : decode cX11_go 10 = .ok (.invokevirtual 108, 3) := by decide +kernel
theorem dX11_go_13 : decode cX11_go 13 = .ok (.ifCond .ne 6, 3) := by decide +kernel
theorem dX11_go_16 : decode cX11_go 16 = .ok (.bipush (-101), 2) := by decide +kernel
theorem dX11_go_18 : decode cX11_go 18 = .ok (.ireturn, 1) := by decide +kernel
theorem dX11_go_19 : decode cX11_go 19 = .ok (.aload_n 0, 1) := by decide +kernel
theorem dX11_go_20 : decode cX11_go 20 = .ok (.getfield 25, 3) := by decide +kernel
theorem dX11_go_23 : decode cX11_go 23 = .ok (.iload_n 1, 1) := by decide +kernel
theorem dX11_go_24 : decode cX11_go 24 = .ok (.aaload, 1) := by decide +kernel
theorem dX11_go_25 : decode cX11_go 25 = .ok (.astore_n 3, 1) := by decide +kernel
theorem dX11_go_26 : decode cX11_go 26 = .ok (.aload_n 0, 1) := by decide +kernel
theorem dX11_go_27 : decode cX11_go 27 = .ok (.aload_n 3, 1) := by decide +kernel
theorem dX11_go_28 : decode cX11_go 28 = .ok (.iload_n 2, 1) := by decide +kernel
theorem dX11_go_29 : decode cX11_go 29 = .ok (.invokevirtual 175, 3) := by decide +kernel
theorem dX11_go_32 : decode cX11_go 32 = .ok (.istore 4, 2) := by decide +kernel
theorem dX11_go_34 : decode cX11_go 34 = .ok (.iload 4, 2) := by decide +kernel
theorem dX11_go_36 : decode cX11_go 36 = .ok (.iconst (-1), 1) := by decide +kernel
theorem dX11_go_37 : decode cX11_go 37 = .ok (.if_icmp .ne 6, 3) := by decide +kernel
theorem dX11_go_40 : decode cX11_go 40 = .ok (.bipush (-103), 2) := by decide +kernel
theorem dX11_go_42 : decode cX11_go 42 = .ok (.ireturn, 1) := by decide +kernel
theorem dX11_go_43 : decode cX11_go 43 = .ok (.aload_n 3, 1) := by decide +kernel
theorem dX11_go_44 : decode cX11_go 44 = .ok (.iload 4, 2) := by decide +kernel
theorem dX11_go_46 : decode cX11_go 46 = .ok (.putfield 146, 3) := by decide +kernel
theorem dX11_go_49 : decode cX11_go 49 = .ok (.iload 4, 2) := by decide +kernel
theorem dX11_go_51 : decode cX11_go 51 = .ok (.invokestatic 155, 3) := by decide +kernel
theorem dX11_go_54 : decode cX11_go 54 = .ok (.ireturn, 1) := by decide +kernel
set_option maxRecDepth 20000 in
theorem ggX11_skip_X11_isWalker : GoodIn wsX11_skip wsX11_isWalker := goodIn_r _ [9, 10, 18, 19, 20, 21, 22, 23, 24, 25, 26, 27, 28, 29, 30, 31, 32] (by decide +kernel) (by decide +kernel)
set_option maxRecDepth 20000 in
theorem gX11_skip_X11_isWalker : GoodIn wsX11_skip (wsV RX11 152 RX11 yX11_isWalker wsX11_isWalker) := goodIn_app (goodIn_of _ (by decide +kernel)) ggX11_skip_X11_isWalker
set_option maxRecDepth 20000 in
theorem ggX11_skip_X7_skipped : GoodIn wsX11_skip wsX7_skipped := goodIn_r _ [14] (by decide +kernel) (by decide +kernel)
set_option maxRecDepth 20000 in
theorem gX11_skip_X7_skipped : GoodIn wsX11_skip (va_wsS RX11 179 yX7_skipped wsX7_skipped) := goodIn_app (goodIn_of _ (by decide +kernel)) ggX11_skip_X7_skipped
set_option maxRecDepth 20000 in
theorem ggX11_skip_X7_footOf : GoodIn wsX11_skip wsX7_footOf := goodIn_r _ [17] (by decide +kernel) (by decide +kernel)
set_option maxRecDepth 20000 in
theorem gX11_skip_X7_footOf : GoodIn wsX11_skip (va_wsS RX11 159 yX7_footOf wsX7_footOf) := goodIn_app (goodIn_of _ (by decide +kernel)) ggX11_skip_X7_footOf
theorem dX11_skip_0 : decode cX11_skip 0 = .ok (.aload_n 0, 1) := by decide +kernel
theorem dX11_skip_1 : decode cX11_skip 1 = .ok (.iload_n 1, 1) := by decide +kernel
theorem dX11_skip_2 : decode cX11_skip 2 = .ok (.invokevirtual 152, 3) := by decide +kernel
theorem dX11_skip_5 : decode cX11_skip 5 = .ok (.ifCond .ne 6, 3) := by decide +kernel
theorem dX11_skip_8 : decode cX11_skip 8 = .ok (.bipush (-101), 2) := by decide +kernel
theorem dX11_skip_10 : decode cX11_skip 10 = .ok (.ireturn, 1) := by decide +kernel
theorem dX11_skip_11 : decode cX11_skip 11 = .ok (.aload_n 0, 1) := by decide +kernel
theorem dX11_skip_12 : decode cX11_skip 12 = .ok (.getfield 25, 3) := by decide +kernel
theorem dX11_skip_15 : decode cX11_skip 15 = .ok (.iload_n 1, 1) := by decide +kernel
theorem dX11_skip_16 : decode cX11_skip 16 = .ok (.aaload, 1) := by decide +kernel
theorem dX11_skip_17 : decode cX11_skip 17 = .ok (.astore_n 2, 1) := by decide +kernel
theorem dX11_skip_18 : decode cX11_skip 18 = .ok (.aload_n 2, 1) := by decide +kernel
theorem dX11_skip_19 : decode cX11_skip 19 = .ok (.getfield 137, 3) := by decide +kernel
theorem dX11_skip_22 : decode cX11_skip 22 = .ok (.iconst 3, 1) := by decide +kernel
theorem dX11_skip_23 : decode cX11_skip 23 = .ok (.if_icmp .ne 6, 3) := by decide +kernel
theorem dX11_skip_26 : decode cX11_skip 26 = .ok (.bipush (-103), 2) := by decide +kernel
theorem dX11_skip_28 : decode cX11_skip 28 = .ok (.ireturn, 1) := by decide +kernel
theorem dX11_skip_29 : decode cX11_skip 29 = .ok (.aload_n 2, 1) := by decide +kernel
theorem dX11_skip_30 : decode cX11_skip 30 = .ok (.aload_n 2, 1) := by decide +kernel
theorem dX11_skip_31 : decode cX11_skip 31 = .ok (.getfield 146, 3) := by decide +kernel
theorem dX11_skip_34 : decode cX11_skip 34 = .ok (.invokestatic 179, 3) := by decide +kernel
theorem dX11_skip_37 : decode cX11_skip 37 = .ok (.putfield 146, 3) := by decide +kernel
theorem dX11_skip_40 : decode cX11_skip 40 = .ok (.aload_n 2, 1) := by decide +kernel
theorem dX11_skip_41 : decode cX11_skip 41 = .ok (.dup, 1) := by decide +kernel
theorem dX11_skip_42 : decode cX11_skip 42 = .ok (.getfield 149, 3) := by decide +kernel
theorem dX11_skip_45 : decode cX11_skip 45 = .ok (.iconst 1, 1) := by decide +kernel
theorem dX11_skip_46 : decode cX11_skip 46 = .ok (.iadd, 1) := by decide +kernel
theorem dX11_skip_47 : decode cX11_skip 47 = .ok (.putfield 149, 3) := by decide +kernel
theorem dX11_skip_50 : decode cX11_skip 50 = .ok (.aload_n 2, 1) := by decide +kernel
theorem dX11_skip_51 : decode cX11_skip 51 = .ok (.getfield 146, 3) := by decide +kernel
theorem dX11_skip_54 : decode cX11_skip 54 = .ok (.invokestatic 159, 3) := by decide +kernel
theorem dX11_skip_57 : decode cX11_skip 57 = .ok (.ireturn, 1) := by decide +kernel
set_option maxRecDepth 20000 in
theorem ggX11_fewest_X11_isWalker : GoodIn wsX11_fewest wsX11_isWalker := goodIn_r _ [6, 7, 141, 142, 143, 144, 145, 146, 147, 148, 149, 150, 151, 152, 153, 154, 155] (by decide +kernel) (by decide +kernel)
set_option maxRecDepth 20000 in
theorem gX11_fewest_X11_isWalker : GoodIn wsX11_fewest (wsV RX11 152 RX11 yX11_isWalker wsX11_isWalker) := goodIn_app (goodIn_of _ (by decide +kernel)) ggX11_fewest_X11_isWalker
set_option maxRecDepth 20000 in
theorem ggX11_fewest_X11_isPlace : GoodIn wsX11_fewest wsX11_isPlace := goodIn_r _ [10, 11, 12, 5, 13] (by decide +kernel) (by decide +kernel)
set_option maxRecDepth 20000 in
theorem gX11_fewest_X11_isPlace : GoodIn wsX11_fewest (va_wsS RX11 128 yX11_isPlace wsX11_isPlace) := goodIn_app (goodIn_of _ (by decide +kernel)) ggX11_fewest_X11_isPlace
set_option maxRecDepth 20000 in
theorem ggX11_fewest_X11_isWithin : GoodIn wsX11_fewest wsX11_isWithin := goodIn_r _ [13] (by decide +kernel) (by decide +kernel)
set_option maxRecDepth 20000 in
theorem gX11_fewest_X11_isWithin : GoodIn wsX11_fewest (va_wsS RX11 124 yX11_isWithin wsX11_isWithin) := goodIn_app (goodIn_of _ (by decide +kernel)) ggX11_fewest_X11_isWithin
set_option maxRecDepth 20000 in
theorem ggX11_fewest_X11_fewestSteps : GoodIn wsX11_fewest wsX11_fewestSteps := goodIn_r _ [17, 18, 19, 20, 21, 22, 23, 24, 25, 26, 27, 28, 29, 30, 31, 32, 33, 34, 35, 36, 37, 38, 39, 40, 41, 42, 43, 44, 45, 46, 47, 48, 49, 50, 51, 52, 53, 54, 55, 56, 57, 58, 59, 60, 61, 62, 63, 64, 65, 66, 67, 68, 69, 70, 71, 72, 73, 74, 75, 76, 77, 78, 79, 80, 81, 82, 83, 84, 85, 86, 87, 88, 89, 90, 91, 92, 93, 94, 95, 96, 97, 98, 99, 100, 101, 102, 103, 104, 105, 106, 107, 108, 109, 110, 111, 112, 113, 114, 115, 116, 117, 118, 119, 120, 121, 122, 123, 124, 125, 126, 127, 128, 129, 130, 131, 141, 142, 143, 144, 145, 146, 147, 148, 149, 150, 151, 152, 153, 154, 155, 156, 157, 158, 159, 160, 161, 162, 163, 164, 165, 166, 167, 168, 169, 170, 171, 172, 173] (by decide +kernel) (by decide +kernel)
set_option maxRecDepth 20000 in
theorem gX11_fewest_X11_fewestSteps : GoodIn wsX11_fewest (wsV RX11 181 RX11 yX11_fewestSteps wsX11_fewestSteps) := goodIn_app (goodIn_of _ (by decide +kernel)) ggX11_fewest_X11_fewestSteps
set_option maxRecDepth 20000 in
theorem ggX11_fewest_X11_firstStreet : GoodIn wsX11_fewest wsX11_firstStreet := goodIn_r _ [135, 22, 18, 19, 20, 136, 137, 138, 21, 139, 86, 87, 88, 24, 25, 26, 27, 28, 29, 30, 31, 32, 33, 34, 35, 36, 37, 38, 39, 40, 41, 42, 43, 44, 140, 97, 98, 99, 100, 101, 102, 103, 104, 105, 106, 107, 108, 109, 110, 111, 112, 113, 114, 115, 116, 117, 118, 119, 120, 121, 122, 123, 124, 125, 126, 127, 128, 45, 46, 47, 48, 49, 50, 51, 52, 53, 54, 55, 56, 57, 58, 59, 60, 61, 62, 63, 64, 65, 66, 67, 68, 69, 70, 71, 72, 73, 74, 75, 76, 77, 78, 79, 80, 81, 82, 83, 84, 85, 89, 90, 91, 92, 93, 94, 95, 96, 129, 130, 131, 156, 157, 158, 141, 142, 143, 144, 145, 146, 147, 148, 149, 150, 151, 152, 153, 154, 155, 159, 160, 161, 162, 163, 164, 165, 166, 167, 168, 169, 170, 171, 172, 173] (by decide +kernel) (by decide +kernel)
set_option maxRecDepth 20000 in
theorem gX11_fewest_X11_firstStreet : GoodIn wsX11_fewest (wsV RX11 184 RX11 yX11_firstStreet wsX11_firstStreet) := goodIn_app (goodIn_of _ (by decide +kernel)) ggX11_fewest_X11_firstStreet
theorem dX11_fewest_0 : decode cX11_fewest 0 = .ok (.aload_n 0, 1) := by decide +kernel
theorem dX11_fewest_1 : decode cX11_fewest 1 = .ok (.iload_n 1, 1) := by decide +kernel
theorem dX11_fewest_2 : decode cX11_fewest 2 = .ok (.invokevirtual 152, 3) := by decide +kernel
theorem dX11_fewest_5 : decode cX11_fewest 5 = .ok (.ifCond .eq 10, 3) := by decide +kernel
theorem dX11_fewest_8 : decode cX11_fewest 8 = .ok (.iload_n 2, 1) := by decide +kernel
theorem dX11_fewest_9 : decode cX11_fewest 9 = .ok (.invokestatic 128, 3) := by decide +kernel
theorem dX11_fewest_12 : decode cX11_fewest 12 = .ok (.ifCond .ne 6, 3) := by decide +kernel
theorem dX11_fewest_15 : decode cX11_fewest 15 = .ok (.bipush (-101), 2) := by decide +kernel
theorem dX11_fewest_17 : decode cX11_fewest 17 = .ok (.ireturn, 1) := by decide +kernel
theorem dX11_fewest_18 : decode cX11_fewest 18 = .ok (.iload_n 3, 1) := by decide +kernel
theorem dX11_fewest_19 : decode cX11_fewest 19 = .ok (.iconst 1, 1) := by decide +kernel
theorem dX11_fewest_20 : decode cX11_fewest 20 = .ok (.invokestatic 124, 3) := by decide +kernel
theorem dX11_fewest_23 : decode cX11_fewest 23 = .ok (.ifCond .ne 6, 3) := by decide +kernel
theorem dX11_fewest_26 : decode cX11_fewest 26 = .ok (.bipush (-102), 2) := by decide +kernel
theorem dX11_fewest_28 : decode cX11_fewest 28 = .ok (.ireturn, 1) := by decide +kernel
theorem dX11_fewest_29 : decode cX11_fewest 29 = .ok (.aload_n 0, 1) := by decide +kernel
theorem dX11_fewest_30 : decode cX11_fewest 30 = .ok (.aload_n 0, 1) := by decide +kernel
theorem dX11_fewest_31 : decode cX11_fewest 31 = .ok (.getfield 25, 3) := by decide +kernel
theorem dX11_fewest_34 : decode cX11_fewest 34 = .ok (.iload_n 1, 1) := by decide +kernel
theorem dX11_fewest_35 : decode cX11_fewest 35 = .ok (.aaload, 1) := by decide +kernel
theorem dX11_fewest_36 : decode cX11_fewest 36 = .ok (.iload_n 2, 1) := by decide +kernel
theorem dX11_fewest_37 : decode cX11_fewest 37 = .ok (.invokevirtual 181, 3) := by decide +kernel
theorem dX11_fewest_40 : decode cX11_fewest 40 = .ok (.istore 4, 2) := by decide +kernel
theorem dX11_fewest_42 : decode cX11_fewest 42 = .ok (.iload_n 3, 1) := by decide +kernel
theorem dX11_fewest_43 : decode cX11_fewest 43 = .ok (.ifCond .ne 8, 3) := by decide +kernel
theorem dX11_fewest_46 : decode cX11_fewest 46 = .ok (.iload 4, 2) := by decide +kernel
theorem dX11_fewest_48 : decode cX11_fewest 48 = .ok (.goto 16, 3) := by decide +kernel
theorem dX11_fewest_51 : decode cX11_fewest 51 = .ok (.aload_n 0, 1) := by decide +kernel
theorem dX11_fewest_52 : decode cX11_fewest 52 = .ok (.aload_n 0, 1) := by decide +kernel
theorem dX11_fewest_53 : decode cX11_fewest 53 = .ok (.getfield 25, 3) := by decide +kernel
theorem dX11_fewest_56 : decode cX11_fewest 56 = .ok (.iload_n 1, 1) := by decide +kernel
theorem dX11_fewest_57 : decode cX11_fewest 57 = .ok (.aaload, 1) := by decide +kernel
theorem dX11_fewest_58 : decode cX11_fewest 58 = .ok (.iload_n 2, 1) := by decide +kernel
theorem dX11_fewest_59 : decode cX11_fewest 59 = .ok (.iload 4, 2) := by decide +kernel
theorem dX11_fewest_61 : decode cX11_fewest 61 = .ok (.invokevirtual 184, 3) := by decide +kernel
theorem dX11_fewest_64 : decode cX11_fewest 64 = .ok (.ireturn, 1) := by decide +kernel
set_option maxRecDepth 20000 in
theorem ggX11_skips_X11_isWalker : GoodIn wsX11_skips wsX11_isWalker := goodIn_r _ [6, 7, 135, 136, 137, 138, 139, 140, 141, 142, 143, 144, 145, 146, 147, 148, 149] (by decide +kernel) (by decide +kernel)
set_option maxRecDepth 20000 in
theorem gX11_skips_X11_isWalker : GoodIn wsX11_skips (wsV RX11 152 RX11 yX11_isWalker wsX11_isWalker) := goodIn_app (goodIn_of _ (by decide +kernel)) ggX11_skips_X11_isWalker
set_option maxRecDepth 20000 in
theorem ggX11_skips_X11_isPlace : GoodIn wsX11_skips wsX11_isPlace := goodIn_r _ [10, 11, 12, 5, 13] (by decide +kernel) (by decide +kernel)
set_option maxRecDepth 20000 in
theorem gX11_skips_X11_isPlace : GoodIn wsX11_skips (va_wsS RX11 128 yX11_isPlace wsX11_isPlace) := goodIn_app (goodIn_of _ (by decide +kernel)) ggX11_skips_X11_isPlace
set_option maxRecDepth 20000 in
theorem ggX11_skips_X11_isWithin : GoodIn wsX11_skips wsX11_isWithin := goodIn_r _ [13] (by decide +kernel) (by decide +kernel)
set_option maxRecDepth 20000 in
theorem gX11_skips_X11_isWithin : GoodIn wsX11_skips (va_wsS RX11 124 yX11_isWithin wsX11_isWithin) := goodIn_app (goodIn_of _ (by decide +kernel)) ggX11_skips_X11_isWithin
set_option maxRecDepth 20000 in
theorem ggX11_skips_X11_fewestSkips : GoodIn wsX11_skips wsX11_fewestSkips := goodIn_r _ [17, 18, 19, 20, 21, 22, 23, 24, 25, 26, 27, 28, 29, 30, 31, 32, 33, 34, 35, 36, 37, 38, 39, 40, 41, 42, 43, 44, 45, 46, 47, 48, 49, 50, 51, 52, 53, 54, 55, 56, 57, 58, 59, 60, 61, 62, 63, 64, 65, 66, 67, 68, 69, 70, 71, 72, 73, 74, 75, 76, 77, 78, 79, 80, 81, 82, 83, 84, 85, 86, 87, 88, 89, 90, 91, 92, 93, 94, 95, 96, 97, 98, 99, 100, 101, 102, 103, 104, 105, 106, 107, 108, 109, 110, 111, 112, 113, 114, 115, 116, 117, 118, 119, 120, 121, 122, 123, 124, 125, 126, 127, 128, 129, 130, 131, 135, 136, 137, 138, 139, 140, 141, 142, 143, 144, 145, 146, 147, 148, 149, 150, 151, 152, 153, 154, 155, 156, 157, 158, 159, 160, 161, 162, 163, 164, 165, 166, 167] (by decide +kernel) (by decide +kernel)
set_option maxRecDepth 20000 in
theorem gX11_skips_X11_fewestSkips : GoodIn wsX11_skips (wsV RX11 188 RX11 yX11_fewestSkips wsX11_fewestSkips) := goodIn_app (goodIn_of _ (by decide +kernel)) ggX11_skips_X11_fewestSkips
set_option maxRecDepth 20000 in
theorem ggX11_skips_X11_skipsTold : GoodIn wsX11_skips wsX11_skipsTold := goodIn_r _ [134] (by decide +kernel) (by decide +kernel)
set_option maxRecDepth 20000 in
theorem gX11_skips_X11_skipsTold : GoodIn wsX11_skips (va_wsS RX11 191 yX11_skipsTold wsX11_skipsTold) := goodIn_app (goodIn_of _ (by decide +kernel)) ggX11_skips_X11_skipsTold
theorem dX11_skips_0 : decode cX11_skips 0 = .ok (.aload_n 0, 1) := by decide +kernel
theorem dX11_skips_1 : decode cX11_skips 1 = .ok (.iload_n 1, 1) := by decide +kernel
theorem dX11_skips_2 : decode cX11_skips 2 = .ok (.invokevirtual 152, 3) := by decide +kernel
theorem dX11_skips_5 : decode cX11_skips 5 = .ok (.ifCond .eq 10, 3) := by decide +kernel
theorem dX11_skips_8 : decode cX11_skips 8 = .ok (.iload_n 2, 1) := by decide +kernel
theorem dX11_skips_9 : decode cX11_skips 9 = .ok (.invokestatic 128, 3) := by decide +kernel
theorem dX11_skips_12 : decode cX11_skips 12 = .ok (.ifCond .ne 6, 3) := by decide +kernel
theorem dX11_skips_15 : decode cX11_skips 15 = .ok (.bipush (-101), 2) := by decide +kernel
theorem dX11_skips_17 : decode cX11_skips 17 = .ok (.ireturn, 1) := by decide +kernel
theorem dX11_skips_18 : decode cX11_skips 18 = .ok (.iload_n 3, 1) := by decide +kernel
theorem dX11_skips_19 : decode cX11_skips 19 = .ok (.iconst 1, 1) := by decide +kernel
theorem dX11_skips_20 : decode cX11_skips 20 = .ok (.invokestatic 124, 3) := by decide +kernel
theorem dX11_skips_23 : decode cX11_skips 23 = .ok (.ifCond .ne 6, 3) := by decide +kernel
theorem dX11_skips_26 : decode cX11_skips 26 = .ok (.bipush (-102), 2) := by decide +kernel
theorem dX11_skips_28 : decode cX11_skips 28 = .ok (.ireturn, 1) := by decide +kernel
theorem dX11_skips_29 : decode cX11_skips 29 = .ok (.aload_n 0, 1) := by decide +kernel
theorem dX11_skips_30 : decode cX11_skips 30 = .ok (.aload_n 0, 1) := by decide +kernel
theorem dX11_skips_31 : decode cX11_skips 31 = .ok (.getfield 25, 3) := by decide +kernel
theorem dX11_skips_34 : decode cX11_skips 34 = .ok (.iload_n 1, 1) := by decide +kernel
theorem dX11_skips_35 : decode cX11_skips 35 = .ok (.aaload, 1) := by decide +kernel
theorem dX11_skips_36 : decode cX11_skips 36 = .ok (.iload_n 2, 1) := by decide +kernel
theorem dX11_skips_37 : decode cX11_skips 37 = .ok (.invokevirtual 188, 3) := by decide +kernel
theorem dX11_skips_40 : decode cX11_skips 40 = .ok (.iload_n 3, 1) := by decide +kernel
theorem dX11_skips_41 : decode cX11_skips 41 = .ok (.invokestatic 191, 3) := by decide +kernel
theorem dX11_skips_44 : decode cX11_skips 44 = .ok (.ireturn, 1) := by decide +kernel
set_option maxRecDepth 20000 in
theorem ggX11_shut_X11_isWalker : GoodIn wsX11_shut wsX11_isWalker := goodIn_r _ [9, 10, 91, 92, 93, 94, 95, 96, 97, 98, 99, 100, 101, 102, 103, 104, 105] (by decide +kernel) (by decide +kernel)
set_option maxRecDepth 20000 in
theorem gX11_shut_X11_isWalker : GoodIn wsX11_shut (wsV RX11 152 RX11 yX11_isWalker wsX11_isWalker) := goodIn_app (goodIn_of _ (by decide +kernel)) ggX11_shut_X11_isWalker
set_option maxRecDepth 20000 in
theorem ggX11_shut_X2_take : GoodIn wsX11_shut wsX2_take := goodIn_r _ [15, 16, 17, 18, 19, 20, 14, 21, 22, 23, 24, 25, 26, 27, 28, 29, 30, 31, 109, 110, 111, 112, 113, 114, 115, 116, 117, 118] (by decide +kernel) (by decide +kernel)
set_option maxRecDepth 20000 in
theorem gX11_shut_X2_take : GoodIn wsX11_shut (wsV RX11 194 RX2 yX2_take wsX2_take) := goodIn_app (goodIn_of _ (by decide +kernel)) ggX11_shut_X2_take
set_option maxRecDepth 20000 in
theorem ggX11_shut_X11_shutPlaces : GoodIn wsX11_shut wsX11_shutPlaces := goodIn_r _ [35, 36, 2, 4, 37, 38, 39, 40, 41, 42, 43, 44, 45, 46, 47, 48, 49, 50, 51, 52, 53, 54, 55, 56, 57, 58, 59, 60, 61, 62, 63, 64, 65, 66, 67, 68, 69, 70, 71, 72, 73, 74, 75, 76, 77, 78, 79, 80, 81, 82, 83, 84, 85, 86, 87, 88, 89, 90, 91, 92, 93, 94, 95, 96, 97, 98, 99, 100, 101, 102, 103, 104, 105, 109, 110, 111, 112, 113, 114, 115, 116, 106, 107, 108, 119, 120, 117, 118] (by decide +kernel) (by decide +kernel)
set_option maxRecDepth 20000 in
theorem gX11_shut_X11_shutPlaces : GoodIn wsX11_shut (wsV RX11 198 RX11 yX11_shutPlaces wsX11_shutPlaces) := goodIn_app (goodIn_of _ (by decide +kernel)) ggX11_shut_X11_shutPlaces
theorem dX11_shut_0 : decode cX11_shut 0 = .ok (.aload_n 0, 1) := by decide +kernel
theorem dX11_shut_1 : decode cX11_shut 1 = .ok (.iload_n 1, 1) := by decide +kernel
theorem dX11_shut_2 : decode cX11_shut 2 = .ok (.invokevirtual 152, 3) := by decide +kernel
theorem dX11_shut_5 : decode cX11_shut 5 = .ok (.ifCond .ne 6, 3) := by decide +kernel
theorem dX11_shut_8 : decode cX11_shut 8 = .ok (.bipush (-101), 2) := by decide +kernel
theorem dX11_shut_10 : decode cX11_shut 10 = .ok (.ireturn, 1) := by decide +kernel
theorem dX11_shut_11 : decode cX11_shut 11 = .ok (.aload_n 0, 1) := by decide +kernel
theorem dX11_shut_12 : decode cX11_shut 12 = .ok (.getfield 25, 3) := by decide +kernel
theorem dX11_shut_15 : decode cX11_shut 15 = .ok (.iload_n 1, 1) := by decide +kernel
theorem dX11_shut_16 : decode cX11_shut 16 = .ok (.aaload, 1) := by decide +kernel
theorem dX11_shut_17 : decode cX11_shut 17 = .ok (.astore_n 2, 1) := by decide +kernel
theorem dX11_shut_18 : decode cX11_shut 18 = .ok (.aload_n 0, 1) := by decide +kernel
theorem dX11_shut_19 : decode cX11_shut 19 = .ok (.getfield 43, 3) := by decide +kernel
theorem dX11_shut_22 : decode cX11_shut 22 = .ok (.aload_n 2, 1) := by decide +kernel
theorem dX11_shut_23 : decode cX11_shut 23 = .ok (.getfield 137, 3) := by decide +kernel
theorem dX11_shut_26 : decode cX11_shut 26 = .ok (.aload_n 0, 1) := by decide +kernel
theorem dX11_shut_27 : decode cX11_shut 27 = .ok (.getfield 19, 3) := by decide +kernel
theorem dX11_shut_30 : decode cX11_shut 30 = .ok (.invokevirtual 194, 3) := by decide +kernel
theorem dX11_shut_33 : decode cX11_shut 33 = .ok (.aload_n 0, 1) := by decide +kernel
theorem dX11_shut_34 : decode cX11_shut 34 = .ok (.aload_n 2, 1) := by decide +kernel
theorem dX11_shut_35 : decode cX11_shut 35 = .ok (.invokevirtual 198, 3) := by decide +kernel
theorem dX11_shut_38 : decode cX11_shut 38 = .ok (.ireturn, 1) := by decide +kernel
set_option maxRecDepth 20000 in
theorem ggX11_round_X11_isWalker : GoodIn wsX11_round wsX11_isWalker := goodIn_r _ [12, 13, 91, 92, 93, 94, 95, 96, 97, 98, 99, 100, 101, 102, 103, 104, 105] (by decide +kernel) (by decide +kernel)
set_option maxRecDepth 20000 in
theorem gX11_round_X11_isWalker : GoodIn wsX11_round (wsV RX11 152 RX11 yX11_isWalker wsX11_isWalker) := goodIn_app (goodIn_of _ (by decide +kernel)) ggX11_round_X11_isWalker
set_option maxRecDepth 20000 in
theorem ggX11_round_X11_isWithin : GoodIn wsX11_round wsX11_isWithin := goodIn_r _ [16] (by decide +kernel) (by decide +kernel)
set_option maxRecDepth 20000 in
theorem gX11_round_X11_isWithin : GoodIn wsX11_round (va_wsS RX11 124 yX11_isWithin wsX11_isWithin) := goodIn_app (goodIn_of _ (by decide +kernel)) ggX11_round_X11_isWithin
set_option maxRecDepth 20000 in
theorem ggX11_round_X2_take : GoodIn wsX11_round wsX2_take := goodIn_r _ [21, 22, 23, 24, 25, 26, 20, 27, 28, 29, 30, 31, 32, 33, 34, 35, 36, 37, 109, 110, 111, 112, 113, 114, 115, 116, 117, 118] (by decide +kernel) (by decide +kernel)
set_option maxRecDepth 20000 in
theorem gX11_round_X2_take : GoodIn wsX11_round (wsV RX11 194 RX2 yX2_take wsX2_take) := goodIn_app (goodIn_of _ (by decide +kernel)) ggX11_round_X2_take
set_option maxRecDepth 20000 in
theorem ggX11_round_X1_firstStreet : GoodIn wsX11_round wsX1_firstStreet := goodIn_r _ [42, 43, 44, 45, 46, 47, 48, 49, 50, 51, 52, 53, 54, 55, 56, 57, 58, 59, 60, 61, 62, 63, 64, 65, 66, 67, 68, 69, 70, 71, 72, 73, 74, 75, 76, 77, 78, 79, 80, 81, 82, 83, 84, 85, 86, 87, 88, 89, 41, 90, 119, 109, 110, 111, 112, 113, 114, 115, 116, 117, 118] (by decide +kernel) (by decide +kernel)
set_option maxRecDepth 20000 in
theorem gX11_round_X1_firstStreet : GoodIn wsX11_round (wsV RX11 205 RX1 yX1_firstStreet wsX1_firstStreet) := goodIn_app (goodIn_of _ (by decide +kernel)) ggX11_round_X1_firstStreet
theorem dX11_round_0 : decode cX11_round 0 = .ok (.aload_n 0, 1) := by decide +kernel
theorem dX11_round_1 : decode cX11_round 1 = .ok (.iload_n 1, 1) := by decide +kernel
theorem dX11_round_2 : decode cX11_round 2 = .ok (.invokevirtual 152, 3) := by decide +kernel
theorem dX11_round_5 : decode cX11_round 5 = .ok (.ifCond .ne 6, 3) := by decide +kernel
theorem dX11_round_8 : decode cX11_round 8 = .ok (.bipush (-101), 2) := by decide +kernel
theorem dX11_round_10 : decode cX11_round 10 = .ok (.ireturn, 1) := by decide +kernel
theorem dX11_round_11 : decode cX11_round 11 = .ok (.iload_n 2, 1) := by decide +kernel
theorem dX11_round_12 : decode cX11_round 12 = .ok (.iconst 1, 1) := by decide +kernel
theorem dX11_round_13 : decode cX11_round 13 = .ok (.invokestatic 124, 3) := by decide +kernel
theorem dX11_round_16 : decode cX11_round 16 = .ok (.ifCond .ne 6, 3) := by decide +kernel
theorem dX11_round_19 : decode cX11_round 19 = .ok (.bipush (-102), 2) := by decide +kernel
theorem dX11_round_21 : decode cX11_round 21 = .ok (.ireturn, 1) := by decide +kernel
theorem dX11_round_22 : decode cX11_round 22 = .ok (.aload_n 0, 1) := by decide +kernel
theorem dX11_round_23 : decode cX11_round 23 = .ok (.getfield 202, 3) := by decide +kernel
theorem dX11_round_26 : decode cX11_round 26 = .ok (.bipush 40, 2) := by decide +kernel
theorem dX11_round_28 : decode cX11_round 28 = .ok (.if_icmp .lt 6, 3) := by decide +kernel
theorem dX11_round_31 : decode cX11_round 31 = .ok (.bipush (-103), 2) := by decide +kernel
theorem dX11_round_33 : decode cX11_round 33 = .ok (.ireturn, 1) := by decide +kernel
theorem dX11_round_34 : decode cX11_round 34 = .ok (.aload_n 0, 1) := by decide +kernel
theorem dX11_round_35 : decode cX11_round 35 = .ok (.dup, 1) := by decide +kernel
theorem dX11_round_36 : decode cX11_round 36 = .ok (.getfield 202, 3) := by decide +kernel
theorem dX11_round_39 : decode cX11_round 39 = .ok (.iconst 1, 1) := by decide +kernel
theorem dX11_round_40 : decode cX11_round 40 = .ok (.iadd, 1) := by decide +kernel
theorem dX11_round_41 : decode cX11_round 41 = .ok (.putfield 202, 3) := by decide +kernel
theorem dX11_round_44 : decode cX11_round 44 = .ok (.aload_n 0, 1) := by decide +kernel
theorem dX11_round_45 : decode cX11_round 45 = .ok (.getfield 25, 3) := by decide +kernel
theorem dX11_round_48 : decode cX11_round 48 = .ok (.iload_n 1, 1) := by decide +kernel
theorem dX11_round_49 : decode cX11_round 49 = .ok (.aaload, 1) := by decide +kernel
theorem dX11_round_50 : decode cX11_round 50 = .ok (.astore_n 3, 1) := by decide +kernel
theorem dX11_round_51 : decode cX11_round 51 = .ok (.aload_n 0, 1) := by decide +kernel
theorem dX11_round_52 : decode cX11_round 52 = .ok (.getfield 43, 3) := by decide +kernel
theorem dX11_round_55 : decode cX11_round 55 = .ok (.aload_n 3, 1) := by decide +kernel
theorem dX11_round_56 : decode cX11_round 56 = .ok (.getfield 137, 3) := by decide +kernel
theorem dX11_round_59 : decode cX11_round 59 = .ok (.aload_n 0, 1) := by decide +kernel
theorem dX11_round_60 : decode cX11_round 60 = .ok (.getfield 19, 3) := by decide +kernel
theorem dX11_round_63 : decode cX11_round 63 = .ok (.invokevirtual 194, 3) := by decide +kernel
theorem dX11_round_66 : decode cX11_round 66 = .ok (.aload_n 0, 1) := by decide +kernel
theorem dX11_round_67 : decode cX11_round 67 = .ok (.getfield 67, 3) := by decide +kernel
theorem dX11_round_70 : decode cX11_round 70 = .ok (.aload_n 0, 1) := by decide +kernel
theorem dX11_round_71 : decode cX11_round 71 = .ok (.getfield 19, 3) := by decide +kernel
theorem dX11_round_74 : decode cX11_round 74 = .ok (.aload_n 0, 1) := by decide +kernel
theorem dX11_round_75 : decode cX11_round 75 = .ok (.getfield 43, 3) := by decide +kernel
theorem dX11_round_78 : decode cX11_round 78 = .ok (.aload_n 3, 1) := by decide +kernel
theorem dX11_round_79 : decode cX11_round 79 = .ok (.getfield 146, 3) := by decide +kernel
theorem dX11_round_82 : decode cX11_round 82 = .ok (.invokevirtual 205, 3) := by decide +kernel
theorem dX11_round_85 : decode cX11_round 85 = .ok (.istore 4, 2) := by decide +kernel
theorem dX11_round_87 : decode cX11_round 87 = .ok (.iload_n 2, 1) := by decide +kernel
theorem dX11_round_88 : decode cX11_round 88 = .ok (.iconst 1, 1) := by decide +kernel
theorem dX11_round_89 : decode cX11_round 89 = .ok (.if_icmp .ne 6, 3) := by decide +kernel
theorem dX11_round_92 : decode cX11_round 92 = .ok (.iload 4, 2) := by decide +kernel
theorem dX11_round_94 : decode cX11_round 94 = .ok (.ireturn, 1) := by decide +kernel
theorem dX11_round_95 : decode cX11_round 95 = .ok (.iload 4, 2) := by decide +kernel
theorem dX11_round_97 : decode cX11_round 97 = .ok (.iconst (-1), 1) := by decide +kernel
theorem dX11_round_98 : decode cX11_round 98 = .ok (.if_icmp .ne 7, 3) := by decide +kernel
theorem dX11_round_101 : decode cX11_round 101 = .ok (.iconst 0, 1) := by decide +kernel
theorem dX11_round_102 : decode cX11_round 102 = .ok (.goto 4, 3) := by decide +kernel
theorem dX11_round_105 : decode cX11_round 105 = .ok (.iconst 1, 1) := by decide +kernel
theorem dX11_round_106 : decode cX11_round 106 = .ok (.ireturn, 1) := by decide +kernel
set_option maxRecDepth 20000 in
theorem ggX11_stones_X11_isWalker : GoodIn wsX11_stones wsX11_isWalker := goodIn_r _ [7, 8, 122, 123, 124, 125, 126, 127, 128, 129, 130, 131, 132, 133, 134, 135, 136] (by decide +kernel) (by decide +kernel)
set_option maxRecDepth 20000 in
theorem gX11_stones_X11_isWalker : GoodIn wsX11_stones (wsV RX11 152 RX11 yX11_isWalker wsX11_isWalker) := goodIn_app (goodIn_of _ (by decide +kernel)) ggX11_stones_X11_isWalker
set_option maxRecDepth 20000 in
theorem ggX11_stones_X11_isPlace : GoodIn wsX11_stones wsX11_isPlace := goodIn_r _ [11, 12, 13, 6, 14] (by decide +kernel) (by decide +kernel)
set_option maxRecDepth 20000 in
theorem gX11_stones_X11_isPlace : GoodIn wsX11_stones (va_wsS RX11 128 yX11_isPlace wsX11_isPlace) := goodIn_app (goodIn_of _ (by decide +kernel)) ggX11_stones_X11_isPlace
set_option maxRecDepth 20000 in
theorem ggX11_stones_X11_isWithin : GoodIn wsX11_stones wsX11_isWithin := goodIn_r _ [14] (by decide +kernel) (by decide +kernel)
set_option maxRecDepth 20000 in
theorem gX11_stones_X11_isWithin : GoodIn wsX11_stones (va_wsS RX11 124 yX11_isWithin wsX11_isWithin) := goodIn_app (goodIn_of _ (by decide +kernel)) ggX11_stones_X11_isWithin
set_option maxRecDepth 20000 in
theorem ggX11_stones_X11_stonesTo : GoodIn wsX11_stones wsX11_stonesTo := goodIn_r _ [18, 19, 20, 21, 22, 23, 24, 25, 26, 27, 28, 29, 30, 31, 32, 33, 34, 35, 36, 37, 38, 39, 40, 41, 42, 43, 44, 45, 46, 47, 48, 6, 49, 50, 51, 52, 53, 54, 55, 56, 57, 58, 59, 60, 61, 62, 63, 64, 65, 66, 67, 68, 69, 70, 71, 72, 73, 74, 75, 76, 77, 78, 79, 80, 81, 82, 83, 84, 85, 86, 87, 88, 89, 90, 91, 92, 93, 94, 95, 96, 97, 98, 99, 100, 101, 102, 103, 104, 105, 106, 107, 108, 109, 110, 111, 112, 113, 114, 115, 116, 117, 118, 122, 123, 124, 125, 126, 127, 128, 129, 130, 131, 132, 133, 134, 135, 136, 137, 138, 139, 140, 141, 142, 143, 144, 145, 146, 147, 148, 149, 150, 151] (by decide +kernel) (by decide +kernel)
set_option maxRecDepth 20000 in
theorem gX11_stones_X11_stonesTo : GoodIn wsX11_stones (wsV RX11 208 RX11 yX11_stonesTo wsX11_stonesTo) := goodIn_app (goodIn_of _ (by decide +kernel)) ggX11_stones_X11_stonesTo
set_option maxRecDepth 20000 in
theorem ggX11_stones_X11_streetsTold : GoodIn wsX11_stones wsX11_streetsTold := goodIn_r _ [121, 104, 105, 106, 107, 108, 109, 110] (by decide +kernel) (by decide +kernel)
set_option maxRecDepth 20000 in
theorem gX11_stones_X11_streetsTold : GoodIn wsX11_stones (va_wsS RX11 211 yX11_streetsTold wsX11_streetsTold) := goodIn_app (goodIn_of _ (by decide +kernel)) ggX11_stones_X11_streetsTold
theorem dX11_stones_0 : decode cX11_stones 0 = .ok (.aload_n 0, 1) := by decide +kernel
theorem dX11_stones_1 : decode cX11_stones 1 = .ok (.iload_n 1, 1) := by decide +kernel
theorem dX11_stones_2 : decode cX11_stones 2 = .ok (.invokevirtual 152, 3) := by decide +kernel
theorem dX11_stones_5 : decode cX11_stones 5 = .ok (.ifCond .eq 10, 3) := by decide +kernel
theorem dX11_stones_8 : decode cX11_stones 8 = .ok (.iload_n 2, 1) := by decide +kernel
theorem dX11_stones_9 : decode cX11_stones 9 = .ok (.invokestatic 128, 3) := by decide +kernel
theorem dX11_stones_12 : decode cX11_stones 12 = .ok (.ifCond .ne 6, 3) := by decide +kernel
theorem dX11_stones_15 : decode cX11_stones 15 = .ok (.bipush (-101), 2) := by decide +kernel
theorem dX11_stones_17 : decode cX11_stones 17 = .ok (.ireturn, 1) := by decide +kernel
theorem dX11_stones_18 : decode cX11_stones 18 = .ok (.iload_n 3, 1) := by decide +kernel
theorem dX11_stones_19 : decode cX11_stones 19 = .ok (.iconst 1, 1) := by decide +kernel
theorem dX11_stones_20 : decode cX11_stones 20 = .ok (.invokestatic 124, 3) := by decide +kernel
theorem dX11_stones_23 : decode cX11_stones 23 = .ok (.ifCond .ne 6, 3) := by decide +kernel
theorem dX11_stones_26 : decode cX11_stones 26 = .ok (.bipush (-102), 2) := by decide +kernel
theorem dX11_stones_28 : decode cX11_stones 28 = .ok (.ireturn, 1) := by decide +kernel
theorem dX11_stones_29 : decode cX11_stones 29 = .ok (.aload_n 0, 1) := by decide +kernel
theorem dX11_stones_30 : decode cX11_stones 30 = .ok (.getfield 202, 3) := by decide +kernel
theorem dX11_stones_33 : decode cX11_stones 33 = .ok (.bipush 40, 2) := by decide +kernel
theorem dX11_stones_35 : decode cX11_stones 35 = .ok (.if_icmp .lt 6, 3) := by decide +kernel
theorem dX11_stones_38 : decode cX11_stones 38 = .ok (.bipush (-103), 2) := by decide +kernel
theorem dX11_stones_40 : decode cX11_stones 40 = .ok (.ireturn, 1) := by decide +kernel
theorem dX11_stones_41 : decode cX11_stones 41 = .ok (.aload_n 0, 1) := by decide +kernel
theorem dX11_stones_42 : decode cX11_stones 42 = .ok (.dup, 1) := by decide +kernel
theorem dX11_stones_43 : decode cX11_stones 43 = .ok (.getfield 202, 3) := by decide +kernel
theorem dX11_stones_46 : decode cX11_stones 46 = .ok (.iconst 1, 1) := by decide +kernel
theorem dX11_stones_47 : decode cX11_stones 47 = .ok (.iadd, 1) := by decide +kernel
theorem dX11_stones_48 : decode cX11_stones 48 = .ok (.putfield 202, 3) := by decide +kernel
theorem dX11_stones_51 : decode cX11_stones 51 = .ok (.aload_n 0, 1) := by decide +kernel
theorem dX11_stones_52 : decode cX11_stones 52 = .ok (.aload_n 0, 1) := by decide +kernel
theorem dX11_stones_53 : decode cX11_stones 53 = .ok (.getfield 25, 3) := by decide +kernel
theorem dX11_stones_56 : decode cX11_stones 56 = .ok (.iload_n 1, 1) := by decide +kernel
theorem dX11_stones_57 : decode cX11_stones 57 = .ok (.aaload, 1) := by decide +kernel
theorem dX11_stones_58 : decode cX11_stones 58 = .ok (.iload_n 2, 1) := by decide +kernel
theorem dX11_stones_59 : decode cX11_stones 59 = .ok (.invokevirtual 208, 3) := by decide +kernel
theorem dX11_stones_62 : decode cX11_stones 62 = .ok (.iload_n 3, 1) := by decide +kernel
theorem dX11_stones_63 : decode cX11_stones 63 = .ok (.invokestatic 211, 3) := by decide +kernel
theorem dX11_stones_66 : decode cX11_stones 66 = .ok (.ireturn, 1) := by decide +kernel
set_option maxRecDepth 20000 in
theorem ggX11_even_X11_isKind : GoodIn wsX11_even wsX11_isKind := goodIn_r _ [4, 5, 6, 3, 7] (by decide +kernel) (by decide +kernel)
set_option maxRecDepth 20000 in
theorem gX11_even_X11_isKind : GoodIn wsX11_even (va_wsS RX11 131 yX11_isKind wsX11_isKind) := goodIn_app (goodIn_of _ (by decide +kernel)) ggX11_even_X11_isKind
set_option maxRecDepth 20000 in
theorem ggX11_even_X11_isWithin : GoodIn wsX11_even wsX11_isWithin := goodIn_r _ [7] (by decide +kernel) (by decide +kernel)
set_option maxRecDepth 20000 in
theorem gX11_even_X11_isWithin : GoodIn wsX11_even (va_wsS RX11 124 yX11_isWithin wsX11_isWithin) := goodIn_app (goodIn_of _ (by decide +kernel)) ggX11_even_X11_isWithin
set_option maxRecDepth 20000 in
theorem ggX11_even_X11_hasTown : GoodIn wsX11_even wsX11_hasTown := goodIn_r _ [11, 12, 13, 49, 50, 51, 52, 53, 54, 55, 56, 57, 58, 59, 60, 61, 62, 63, 64, 65, 66, 67, 68, 69, 70, 71] (by decide +kernel) (by decide +kernel)
set_option maxRecDepth 20000 in
theorem gX11_even_X11_hasTown : GoodIn wsX11_even (wsV RX11 134 RX11 yX11_hasTown wsX11_hasTown) := goodIn_app (goodIn_of _ (by decide +kernel)) ggX11_even_X11_hasTown
set_option maxRecDepth 20000 in
theorem ggX11_even_X11_stonesForEven : GoodIn wsX11_even wsX11_stonesForEven := goodIn_r _ [17, 18, 19, 20, 3, 21, 12, 13, 22, 23, 24, 25, 26, 27, 28, 29, 30, 31, 32, 33, 34, 35, 36, 37, 38, 39, 40, 41, 42, 43, 44, 45, 49, 50, 51, 52, 53, 54, 55, 56, 57, 58, 59, 60, 61, 62, 63, 64, 65, 66, 67, 68, 69, 70, 71] (by decide +kernel) (by decide +kernel)
set_option maxRecDepth 20000 in
theorem gX11_even_X11_stonesForEven : GoodIn wsX11_even (wsV RX11 214 RX11 yX11_stonesForEven wsX11_stonesForEven) := goodIn_app (goodIn_of _ (by decide +kernel)) ggX11_even_X11_stonesForEven
set_option maxRecDepth 20000 in
theorem ggX11_even_X11_streetsTold : GoodIn wsX11_even wsX11_streetsTold := goodIn_r _ [48, 39, 40, 41, 42, 43, 44, 45] (by decide +kernel) (by decide +kernel)
set_option maxRecDepth 20000 in
theorem gX11_even_X11_streetsTold : GoodIn wsX11_even (va_wsS RX11 211 yX11_streetsTold wsX11_streetsTold) := goodIn_app (goodIn_of _ (by decide +kernel)) ggX11_even_X11_streetsTold
theorem dX11_even_0 : decode cX11_even 0 = .ok (.iload_n 1, 1) := by decide +kernel
theorem dX11_even_1 : decode cX11_even 1 = .ok (.invokestatic 131, 3) := by decide +kernel
theorem dX11_even_4 : decode cX11_even 4 = .ok (.ifCond .eq 11, 3) := by decide +kernel
theorem dX11_even_7 : decode cX11_even 7 = .ok (.iload_n 2, 1) := by decide +kernel
theorem dX11_even_8 : decode cX11_even 8 = .ok (.iconst 1, 1) := by decide +kernel
theorem dX11_even_9 : decode cX11_even 9 = .ok (.invokestatic 124, 3) := by decide +kernel
theorem dX11_even_12 : decode cX11_even 12 = .ok (.ifCond .ne 6, 3) := by decide +kernel
theorem dX11_even_15 : decode cX11_even 15 = .ok (.bipush (-102), 2) := by decide +kernel
theorem dX11_even_17 : decode cX11_even 17 = .ok (.ireturn, 1) := by decide +kernel
theorem dX11_even_18 : decode cX11_even 18 = .ok (.aload_n 0, 1) := by decide +kernel
theorem dX11_even_19 : decode cX11_even 19 = .ok (.invokevirtual 134, 3) := by decide +kernel
theorem dX11_even_22 : decode cX11_even 22 = .ok (.ifCond .ne 6, 3) := by decide +kernel
theorem dX11_even_25 : decode cX11_even 25 = .ok (.bipush (-103), 2) := by decide +kernel
theorem dX11_even_27 : decode cX11_even 27 = .ok (.ireturn, 1) := by decide +kernel
theorem dX11_even_28 : decode cX11_even 28 = .ok (.aload_n 0, 1) := by decide +kernel
theorem dX11_even_29 : decode cX11_even 29 = .ok (.iload_n 1, 1) := by decide +kernel
theorem dX11_even_30 : decode cX11_even 30 = .ok (.invokevirtual 214, 3) := by decide +kernel
theorem dX11_even_33 : decode cX11_even 33 = .ok (.iload_n 2, 1) := by decide +kernel
theorem dX11_even_34 : decode cX11_even 34 = .ok (.invokestatic 211, 3) := by decide +kernel
theorem dX11_even_37 : decode cX11_even 37 = .ok (.ireturn, 1) := by decide +kernel
set_option maxRecDepth 20000 in
theorem ggX11_both_X11_isWalker : GoodIn wsX11_both wsX11_isWalker := goodIn_r _ [15, 16, 154, 155, 156, 157, 158, 159, 160, 161, 162, 163, 164, 165, 166, 167, 168] (by decide +kernel) (by decide +kernel)
set_option maxRecDepth 20000 in
theorem gX11_both_X11_isWalker : GoodIn wsX11_both (wsV RX11 152 RX11 yX11_isWalker wsX11_isWalker) := goodIn_app (goodIn_of _ (by decide +kernel)) ggX11_both_X11_isWalker
set_option maxRecDepth 20000 in
theorem ggX11_both_X11_isPlace : GoodIn wsX11_both wsX11_isPlace := goodIn_r _ [19, 20, 21, 14, 22] (by decide +kernel) (by decide +kernel)
set_option maxRecDepth 20000 in
theorem gX11_both_X11_isPlace : GoodIn wsX11_both (va_wsS RX11 128 yX11_isPlace wsX11_isPlace) := goodIn_app (goodIn_of _ (by decide +kernel)) ggX11_both_X11_isPlace
set_option maxRecDepth 20000 in
theorem ggX11_both_X7_placeOf : GoodIn wsX11_both wsX7_placeOf := goodIn_r _ [26] (by decide +kernel) (by decide +kernel)
set_option maxRecDepth 20000 in
theorem gX11_both_X7_placeOf : GoodIn wsX11_both (va_wsS RX11 155 yX7_placeOf wsX7_placeOf) := goodIn_app (goodIn_of _ (by decide +kernel)) ggX11_both_X7_placeOf
set_option maxRecDepth 20000 in
theorem ggX11_both_X2_take : GoodIn wsX11_both wsX2_take := goodIn_r _ [31, 32, 33, 34, 35, 36, 30, 37, 38, 39, 40, 41, 42, 43, 44, 45, 46, 47, 174, 175, 176, 177, 178, 179, 180, 181, 182, 183] (by decide +kernel) (by decide +kernel)
set_option maxRecDepth 20000 in
theorem gX11_both_X2_take : GoodIn wsX11_both (wsV RX11 194 RX2 yX2_take wsX2_take) := goodIn_app (goodIn_of _ (by decide +kernel)) ggX11_both_X2_take
set_option maxRecDepth 20000 in
theorem ggX11_both_X0_init : GoodIn wsX11_both wsX0_init := goodIn_r _ [49, 50, 51, 52, 53, 54, 55, 56, 57, 58, 59, 60, 61, 62, 63, 64, 65, 184, 185, 186, 187, 172, 173] (by decide +kernel) (by decide +kernel)
set_option maxRecDepth 20000 in
theorem gX11_both_X0_init_n223 : GoodIn wsX11_both (wsX0_init) := ggX11_both_X0_init
set_option maxRecDepth 20000 in
theorem ggX11_both_X0_start : GoodIn wsX11_both wsX0_start := goodIn_r _ [69, 56, 70, 71, 72, 55, 73, 63, 74, 65, 75, 76, 77, 78, 79, 80, 81, 82, 10, 83, 58, 84, 85, 86, 87, 24, 25, 26, 88, 89, 90, 91, 92, 93, 94, 95, 96, 97, 64, 98, 99, 100, 101, 172, 173, 184, 185, 186, 187] (by decide +kernel) (by decide +kernel)
set_option maxRecDepth 20000 in
theorem gX11_both_X0_start : GoodIn wsX11_both (wsV RX11 224 RX0 yX0_start wsX0_start) := goodIn_app (goodIn_of _ (by decide +kernel)) ggX11_both_X0_start
set_option maxRecDepth 20000 in
theorem ggX11_both_X0_leastTo : GoodIn wsX11_both wsX0_leastTo := goodIn_r _ [105, 56, 58, 106, 107, 108, 55, 109, 75, 64, 65, 110, 111, 112, 113, 63, 98, 99, 100, 101, 87, 24, 25, 26, 114, 115, 116, 117, 118, 119, 120, 10, 121, 122, 123, 124, 125, 126, 127, 128, 129, 130, 131, 132, 133, 134, 135, 136, 137, 138, 89, 90, 139, 140, 141, 142, 143, 144, 145, 146, 147, 148, 92, 93, 149, 150, 151, 152, 153, 80, 81, 82, 83, 84, 85, 86, 88, 91, 94, 95, 96, 97, 172, 173, 184, 185, 186, 187, 174, 175, 176, 177, 178, 179, 180, 181, 182, 183] (by decide +kernel) (by decide +kernel)
set_option maxRecDepth 20000 in
theorem gX11_both_X0_leastTo : GoodIn wsX11_both (wsV RX11 228 RX0 yX0_leastTo wsX0_leastTo) := goodIn_app (goodIn_of _ (by decide +kernel)) ggX11_both_X0_leastTo
theorem dX11_both_0 : decode cX11_both 0 = .ok (.aload_n 0, 1) := by decide +kernel
theorem dX11_both_1 : decode cX11_both 1 = .ok (.iload_n 1, 1) := by decide +kernel
theorem dX11_both_2 : decode cX11_both 2 = .ok (.invokevirtual 152, 3) := by decide +kernel
theorem dX11_both_5 : decode cX11_both 5 = .ok (.ifCond .eq 23, 3) := by decide +kernel
theorem dX11_both_8 : decode cX11_both 8 = .ok (.aload_n 0, 1) := by decide +kernel
theorem dX11_both_9 : decode cX11_both 9 = .ok (.iload_n 2, 1) := by decide +kernel
theorem dX11_both_10 : decode cX11_both 10 = .ok (.invokevirtual 152, 3) := by decide +kernel
theorem dX11_both_13 : decode cX11_both 13 = .ok (.ifCond .eq 15, 3) := by decide +kernel
theorem dX11_both_16 : decode cX11_both 16 = .ok (.iload_n 1, 1) := by decide +kernel
theorem dX11_both_17 : decode cX11_both 17 = .ok (.iload_n 2, 1) := by decide +kernel
theorem dX11_both_18 : decode cX11_both 18 = .ok (.if_icmp .eq 10, 3) := by decide +kernel
theorem dX11_both_21 : decode cX11_both 21 = .ok (.iload_n 3, 1) := by decide +kernel
theorem dX11_both_22 : decode cX11_both 22 = .ok (.invokestatic 128, 3) := by decide +kernel
theorem dX11_both_25 : decode cX11_both 25 = .ok (.ifCond .ne 6, 3) := by decide +kernel
theorem dX11_both_28 : decode cX11_both 28 = .ok (.bipush (-101), 2) := by decide +kernel
theorem dX11_both_30 : decode cX11_both 30 = .ok (.ireturn, 1) := by decide +kernel
theorem dX11_both_31 : decode cX11_both 31 = .ok (.aload_n 0, 1) := by decide +kernel
theorem dX11_both_32 : decode cX11_both 32 = .ok (.getfield 25, 3) := by decide +kernel
theorem dX11_both_35 : decode cX11_both 35 = .ok (.iload_n 1, 1) := by decide +kernel
theorem dX11_both_36 : decode cX11_both 36 = .ok (.aaload, 1) := by decide +kernel
theorem dX11_both_37 : decode cX11_both 37 = .ok (.astore 4, 2) := by decide +kernel
theorem dX11_both_39 : decode cX11_both 39 = .ok (.aload_n 0, 1) := by decide +kernel
theorem dX11_both_40 : decode cX11_both 40 = .ok (.getfield 25, 3) := by decide +kernel
theorem dX11_both_43 : decode cX11_both 43 = .ok (.iload_n 2, 1) := by decide +kernel
theorem dX11_both_44 : decode cX11_both 44 = .ok (.aaload, 1) := by decide +kernel
theorem dX11_both_45 : decode cX11_both 45 = .ok (.astore 5, 2) := by decide +kernel
theorem dX11_both_47 : decode cX11_both 47 = .ok (.aload 4, 2) := by decide +kernel
theorem dX11_both_49 : decode cX11_both 49 = .ok (.getfield 146, 3) := by decide +kernel
theorem dX11_both_52 : decode cX11_both 52 = .ok (.invokestatic 155, 3) := by decide +kernel
theorem dX11_both_55 : decode cX11_both 55 = .ok (.aload 5, 2) := by decide +kernel
theorem dX11_both_57 : decode cX11_both 57 = .ok (.getfield 146, 3) := by decide +kernel
theorem dX11_both_60 : decode cX11_both 60 = .ok (.invokestatic 155, 3) := by decide +kernel
theorem dX11_both_63 : decode cX11_both 63 = .ok (.if_icmp .eq 6, 3) := by decide +kernel
theorem dX11_both_66 : decode cX11_both 66 = .ok (.bipush (-103), 2) := by decide +kernel
theorem dX11_both_68 : decode cX11_both 68 = .ok (.ireturn, 1) := by decide +kernel
theorem dX11_both_69 : decode cX11_both 69 = .ok (.aload_n 0, 1) := by decide +kernel
theorem dX11_both_70 : decode cX11_both 70 = .ok (.getfield 43, 3) := by decide +kernel
theorem dX11_both_73 : decode cX11_both 73 = .ok (.aload 4, 2) := by decide +kernel
theorem dX11_both_75 : decode cX11_both 75 = .ok (.getfield 137, 3) := by decide +kernel
theorem dX11_both_78 : decode cX11_both 78 = .ok (.aload_n 0, 1) := by decide +kernel
theorem dX11_both_79 : decode cX11_both 79 = .ok (.getfield 19, 3) := by decide +kernel
theorem dX11_both_82 : decode cX11_both 82 = .ok (.invokevirtual 194, 3) := by decide +kernel
theorem dX11_both_85 : decode cX11_both 85 = .ok (.aload_n 0, 1) := by decide +kernel
theorem dX11_both_86 : decode cX11_both 86 = .ok (.getfield 47, 3) := by decide +kernel
theorem dX11_both_89 : decode cX11_both 89 = .ok (.aload 5, 2) := by decide +kernel
theorem dX11_both_91 : decode cX11_both 91 = .ok (.getfield 137, 3) := by decide +kernel
theorem dX11_both_94 : decode cX11_both 94 = .ok (.aload_n 0, 1) := by decide +kernel
theorem dX11_both_95 : decode cX11_both 95 = .ok (.getfield 19, 3) := by decide +kernel
theorem dX11_both_98 : decode cX11_both 98 = .ok (.invokevirtual 194, 3) := by decide +kernel
theorem dX11_both_101 : decode cX11_both 101 = .ok (.aload_n 0, 1) := by decide +kernel
theorem dX11_both_102 : decode cX11_both 102 = .ok (.getfield 217, 3) := by decide +kernel
theorem dX11_both_105 : decode cX11_both 105 = .ok (.ifnonnull 14, 3) := by decide +kernel
theorem dX11_both_108 : decode cX11_both 108 = .ok (.aload_n 0, 1) := by decide +kernel
theorem dX11_both_109 : decode cX11_both 109 = .ok (.new 221, 3) := by decide +kernel
theorem dX11_both_112 : decode cX11_both 112 = .ok (.dup, 1) := by decide +kernel
theorem dX11_both_113 : decode cX11_both 113 = .ok (.invokespecial 223, 3) := by decide +kernel
theorem dX11_both_116 : decode cX11_both 116 = .ok (.putfield 217, 3) := by decide +kernel
theorem dX11_both_119 : decode cX11_both 119 = .ok (.aload_n 0, 1) := by decide +kernel
theorem dX11_both_120 : decode cX11_both 120 = .ok (.getfield 217, 3) := by decide +kernel
theorem dX11_both_123 : decode cX11_both 123 = .ok (.aload 4, 2) := by decide +kernel
theorem dX11_both_125 : decode cX11_both 125 = .ok (.getfield 146, 3) := by decide +kernel
theorem dX11_both_128 : decode cX11_both 128 = .ok (.aload 5, 2) := by decide +kernel
theorem dX11_both_130 : decode cX11_both 130 = .ok (.getfield 146, 3) := by decide +kernel
theorem dX11_both_133 : decode cX11_both 133 = .ok (.invokevirtual 224, 3) := by decide +kernel
theorem dX11_both_136 : decode cX11_both 136 = .ok (.aload_n 0, 1) := by decide +kernel
theorem dX11_both_137 : decode cX11_both 137 = .ok (.getfield 217, 3) := by decide +kernel
theorem dX11_both_140 : decode cX11_both 140 = .ok (.aload_n 0, 1) := by decide +kernel
theorem dX11_both_141 : decode cX11_both 141 = .ok (.getfield 19, 3) := by decide +kernel
theorem dX11_both_144 : decode cX11_both 144 = .ok (.aload_n 0, 1) := by decide +kernel
theorem dX11_both_145 : decode cX11_both 145 = .ok (.getfield 43, 3) := by decide +kernel
theorem dX11_both_148 : decode cX11_both 148 = .ok (.aload_n 0, 1) := by decide +kernel
theorem dX11_both_149 : decode cX11_both 149 = .ok (.getfield 47, 3) := by decide +kernel
theorem dX11_both_152 : decode cX11_both 152 = .ok (.iload_n 3, 1) := by decide +kernel
theorem dX11_both_153 : decode cX11_both 153 = .ok (.invokevirtual 228, 3) := by decide +kernel
theorem dX11_both_156 : decode cX11_both 156 = .ok (.ireturn, 1) := by decide +kernel
set_option maxRecDepth 20000 in
theorem ggX11_change_X11_isStreet : GoodIn wsX11_change wsX11_isStreet := goodIn_r _ [7, 8, 9, 99, 100, 101, 102, 103, 104, 105, 106, 107, 108, 109, 110, 111, 112, 113, 114, 115, 116, 117, 118, 119, 120, 121] (by decide +kernel) (by decide +kernel)
set_option maxRecDepth 20000 in
theorem gX11_change_X11_isStreet : GoodIn wsX11_change (wsV RX11 108 RX11 yX11_isStreet wsX11_isStreet) := goodIn_app (goodIn_of _ (by decide +kernel)) ggX11_change_X11_isStreet
set_option maxRecDepth 20000 in
theorem ggX11_change_X11_isWithin : GoodIn wsX11_change wsX11_isWithin := goodIn_r _ [12] (by decide +kernel) (by decide +kernel)
set_option maxRecDepth 20000 in
theorem gX11_change_X11_isWithin : GoodIn wsX11_change (va_wsS RX11 124 yX11_isWithin wsX11_isWithin) := goodIn_app (goodIn_of _ (by decide +kernel)) ggX11_change_X11_isWithin
set_option maxRecDepth 20000 in
theorem ggX11_change_X11_isShutOtherwise : GoodIn wsX11_change wsX11_isShutOtherwise := goodIn_r _ [16, 17, 18, 8, 19, 20, 21, 22, 23, 24, 25, 26, 27, 28, 29, 30, 31, 32, 33, 34, 35, 36, 37, 38, 39, 40, 41, 42, 6, 43, 44, 9, 45, 46, 47, 48, 49, 50, 51, 52, 53, 54, 55, 56, 57, 58, 59, 60, 61, 62, 63, 64, 65, 66, 67, 68, 69, 70, 71, 72, 73, 74, 75, 76, 77, 78, 79, 80, 81, 82, 83, 84, 85, 86, 87, 88, 89, 90, 91, 92, 93, 94, 95, 96, 97, 98, 99, 100, 101, 102, 103, 104, 105, 106, 107, 108, 109, 110, 111, 112, 113, 122, 123, 124, 114, 115, 116, 117, 118, 119, 120, 121, 125, 126, 127, 128] (by decide +kernel) (by decide +kernel)
set_option maxRecDepth 20000 in
theorem gX11_change_X11_isShutOtherwise : GoodIn wsX11_change (wsV RX11 232 RX11 yX11_isShutOtherwise wsX11_isShutOtherwise) := goodIn_app (goodIn_of _ (by decide +kernel)) ggX11_change_X11_isShutOtherwise
theorem dX11_change_0 : decode cX11_change 0 = .ok (.aload_n 0, 1) := by decide +kernel
theorem dX11_change_1 : decode cX11_change 1 = .ok (.iload_n 1, 1) := by decide +kernel
theorem dX11_change_2 : decode cX11_change 2 = .ok (.invokevirtual 108, 3) := by decide +kernel
theorem dX11_change_5 : decode cX11_change 5 = .ok (.ifCond .ne 6, 3) := by decide +kernel
theorem dX11_change_8 : decode cX11_change 8 = .ok (.bipush (-101), 2) := by decide +kernel
theorem dX11_change_10 : decode cX11_change 10 = .ok (.ireturn, 1) := by decide +kernel
theorem dX11_change_11 : decode cX11_change 11 = .ok (.iload_n 2, 1) := by decide +kernel
theorem dX11_change_12 : decode cX11_change 12 = .ok (.bipush 9, 2) := by decide +kernel
theorem dX11_change_14 : decode cX11_change 14 = .ok (.invokestatic 124, 3) := by decide +kernel
theorem dX11_change_17 : decode cX11_change 17 = .ok (.ifCond .ne 6, 3) := by decide +kernel
theorem dX11_change_20 : decode cX11_change 20 = .ok (.bipush (-102), 2) := by decide +kernel
theorem dX11_change_22 : decode cX11_change 22 = .ok (.ireturn, 1) := by decide +kernel
theorem dX11_change_23 : decode cX11_change 23 = .ok (.iconst 0, 1) := by decide +kernel
theorem dX11_change_24 : decode cX11_change 24 = .ok (.istore_n 3, 1) := by decide +kernel
theorem dX11_change_25 : decode cX11_change 25 = .ok (.iconst 0, 1) := by decide +kernel
theorem dX11_change_26 : decode cX11_change 26 = .ok (.istore 4, 2) := by decide +kernel
theorem dX11_change_28 : decode cX11_change 28 = .ok (.iload 4, 2) := by decide +kernel
theorem dX11_change_30 : decode cX11_change 30 = .ok (.aload_n 0, 1) := by decide +kernel
theorem dX11_change_31 : decode cX11_change 31 = .ok (.getfield 96, 3) := by decide +kernel
theorem dX11_change_34 : decode cX11_change 34 = .ok (.if_icmp .ge 32, 3) := by decide +kernel
theorem dX11_change_37 : decode cX11_change 37 = .ok (.aload_n 0, 1) := by decide +kernel
theorem dX11_change_38 : decode cX11_change 38 = .ok (.aload_n 0, 1) := by decide +kernel
theorem dX11_change_39 : decode cX11_change 39 = .ok (.getfield 25, 3) := by decide +kernel
theorem dX11_change_42 : decode cX11_change 42 = .ok (.iload 4, 2) := by decide +kernel
theorem dX11_change_44 : decode cX11_change 44 = .ok (.aaload, 1) := by decide +kernel
theorem dX11_change_45 : decode cX11_change 45 = .ok (.iload_n 1, 1) := by decide +kernel
theorem dX11_change_46 : decode cX11_change 46 = .ok (.iload_n 2, 1) := by decide +kernel
theorem dX11_change_47 : decode cX11_change 47 = .ok (.invokevirtual 232, 3) := by decide +kernel
theorem dX11_change_50 : decode cX11_change 50 = .ok (.ifCond .eq 10, 3) := by decide +kernel
theorem dX11_change_53 : decode cX11_change 53 = .ok (.iload_n 3, 1) := by decide +kernel
theorem dX11_change_54 : decode cX11_change 54 = .ok (.iconst 1, 1) := by decide +kernel
theorem dX11_change_55 : decode cX11_change 55 = .ok (.iload 4, 2) := by decide +kernel
theorem dX11_change_57 : decode cX11_change 57 = .ok (.ishl, 1) := by decide +kernel
theorem dX11_change_58 : decode cX11_change 58 = .ok (.ior, 1) := by decide +kernel
theorem dX11_change_59 : decode cX11_change 59 = .ok (.istore_n 3, 1) := by decide +kernel
theorem dX11_change_60 : decode cX11_change 60 = .ok (.iinc 4 1, 3) := by decide +kernel
theorem dX11_change_63 : decode cX11_change 63 = .ok (.goto (-35), 3) := by decide +kernel
theorem dX11_change_66 : decode cX11_change 66 = .ok (.iload_n 3, 1) := by decide +kernel
theorem dX11_change_67 : decode cX11_change 67 = .ok (.ireturn, 1) := by decide +kernel
set_option maxRecDepth 20000 in
theorem ggX11_print_X11_isWithin : GoodIn wsX11_print wsX11_isWithin := goodIn_r _ [8] (by decide +kernel) (by decide +kernel)
set_option maxRecDepth 20000 in
theorem gX11_print_X11_isWithin : GoodIn wsX11_print (va_wsS RX11 124 yX11_isWithin wsX11_isWithin) := goodIn_app (goodIn_of _ (by decide +kernel)) ggX11_print_X11_isWithin
set_option maxRecDepth 20000 in
theorem ggX11_print_X11_printNumber : GoodIn wsX11_print wsX11_printNumber := goodIn_r _ [11] (by decide +kernel) (by decide +kernel)
set_option maxRecDepth 20000 in
theorem gX11_print_X11_printNumber : GoodIn wsX11_print (va_wsS RX11 239 yX11_printNumber wsX11_printNumber) := goodIn_app (goodIn_of _ (by decide +kernel)) ggX11_print_X11_printNumber
theorem dX11_print_0 : decode cX11_print 0 = .ok (.iload_n 1, 1) := by decide +kernel
theorem dX11_print_1 : decode cX11_print 1 = .ok (.ifCond .lt 14, 3) := by decide +kernel
theorem dX11_print_4 : decode cX11_print 4 = .ok (.iload_n 1, 1) := by decide +kernel
theorem dX11_print_5 : decode cX11_print 5 = .ok (.aload_n 0, 1) := by decide +kernel
theorem dX11_print_6 : decode cX11_print 6 = .ok (.getfield 19, 3) := by decide +kernel
theorem dX11_print_9 : decode cX11_print 9 = .ok (.getfield 236, 3) := by decide +kernel
theorem dX11_print_12 : decode cX11_print 12 = .ok (.if_icmp .lt 6, 3) := by decide +kernel
theorem dX11_print_15 : decode cX11_print 15 = .ok (.bipush (-101), 2) := by decide +kernel
theorem dX11_print_17 : decode cX11_print 17 = .ok (.ireturn, 1) := by decide +kernel
theorem dX11_print_18 : decode cX11_print 18 = .ok (.iload_n 2, 1) := by decide +kernel
theorem dX11_print_19 : decode cX11_print 19 = .ok (.iconst 1, 1) := by decide +kernel
theorem dX11_print_20 : decode cX11_print 20 = .ok (.invokestatic 124, 3) := by decide +kernel
theorem dX11_print_23 : decode cX11_print 23 = .ok (.ifCond .eq 11, 3) := by decide +kernel
theorem dX11_print_26 : decode cX11_print 26 = .ok (.iload_n 3, 1) := by decide +kernel
theorem dX11_print_27 : decode cX11_print 27 = .ok (.iconst 1, 1) := by decide +kernel
theorem dX11_print_28 : decode cX11_print 28 = .ok (.invokestatic 124, 3) := by decide +kernel
theorem dX11_print_31 : decode cX11_print 31 = .ok (.ifCond .ne 6, 3) := by decide +kernel
theorem dX11_print_34 : decode cX11_print 34 = .ok (.bipush (-102), 2) := by decide +kernel
theorem dX11_print_36 : decode cX11_print 36 = .ok (.ireturn, 1) := by decide +kernel
theorem dX11_print_37 : decode cX11_print 37 = .ok (.aload_n 0, 1) := by decide +kernel
theorem dX11_print_38 : decode cX11_print 38 = .ok (.getfield 99, 3) := by decide +kernel
theorem dX11_print_41 : decode cX11_print 41 = .ok (.bipush 6, 2) := by decide +kernel
theorem dX11_print_43 : decode cX11_print 43 = .ok (.if_icmp .lt 6, 3) := by decide +kernel
theorem dX11_print_46 : decode cX11_print 46 = .ok (.bipush (-104), 2) := by decide +kernel
theorem dX11_print_48 : decode cX11_print 48 = .ok (.ireturn, 1) := by decide +kernel
theorem dX11_print_49 : decode cX11_print 49 = .ok (.aload_n 0, 1) := by decide +kernel
theorem dX11_print_50 : decode cX11_print 50 = .ok (.getfield 29, 3) := by decide +kernel
theorem dX11_print_53 : decode cX11_print 53 = .ok (.aload_n 0, 1) := by decide +kernel
theorem dX11_print_54 : decode cX11_print 54 = .ok (.getfield 99, 3) := by decide +kernel
theorem dX11_print_57 : decode cX11_print 57 = .ok (.iload_n 1, 1) := by decide +kernel
theorem dX11_print_58 : decode cX11_print 58 = .ok (.iload_n 2, 1) := by decide +kernel
theorem dX11_print_59 : decode cX11_print 59 = .ok (.iload_n 3, 1) := by decide +kernel
theorem dX11_print_60 : decode cX11_print 60 = .ok (.invokestatic 239, 3) := by decide +kernel
theorem dX11_print_63 : decode cX11_print 63 = .ok (.iastore, 1) := by decide +kernel
theorem dX11_print_64 : decode cX11_print 64 = .ok (.aload_n 0, 1) := by decide +kernel
theorem dX11_print_65 : decode cX11_print 65 = .ok (.dup, 1) := by decide +kernel
theorem dX11_print_66 : decode cX11_print 66 = .ok (.getfield 99, 3) := by decide +kernel
theorem dX11_print_69 : decode cX11_print 69 = .ok (.iconst 1, 1) := by decide +kernel
theorem dX11_print_70 : decode cX11_print 70 = .ok (.iadd, 1) := by decide +kernel
theorem dX11_print_71 : decode cX11_print 71 = .ok (.putfield 99, 3) := by decide +kernel
theorem dX11_print_74 : decode cX11_print 74 = .ok (.aload_n 0, 1) := by decide +kernel
theorem dX11_print_75 : decode cX11_print 75 = .ok (.getfield 99, 3) := by decide +kernel
theorem dX11_print_78 : decode cX11_print 78 = .ok (.ireturn, 1) := by decide +kernel
theorem dX11_wipe_0 : decode cX11_wipe 0 = .ok (.aload_n 0, 1) := by decide +kernel
theorem dX11_wipe_1 : decode cX11_wipe 1 = .ok (.getfield 99, 3) := by decide +kernel
theorem dX11_wipe_4 : decode cX11_wipe 4 = .ok (.istore_n 1, 1) := by decide +kernel
theorem dX11_wipe_5 : decode cX11_wipe 5 = .ok (.aload_n 0, 1) := by decide +kernel
theorem dX11_wipe_6 : decode cX11_wipe 6 = .ok (.iconst 0, 1) := by decide +kernel
theorem dX11_wipe_7 : decode cX11_wipe 7 = .ok (.putfield 99, 3) := by decide +kernel
theorem dX11_wipe_10 : decode cX11_wipe 10 = .ok (.iload_n 1, 1) := by decide +kernel
theorem dX11_wipe_11 : decode cX11_wipe 11 = .ok (.ireturn, 1) := by decide +kernel
set_option maxRecDepth 20000 in
theorem ggX11_who_X11_couldLeavePrints : GoodIn wsX11_who wsX11_couldLeavePrints := goodIn_r _ [7, 8, 9, 10, 11, 12, 13, 14, 15, 16, 17, 18, 19, 20, 21, 22, 23, 24, 25, 26, 27, 28, 29, 30, 31, 32, 33, 34, 35, 36, 37, 38, 39, 40, 41, 42, 43, 44, 45, 46, 47, 48, 49, 6, 50, 51, 52, 53, 54, 55, 56, 57, 58, 59, 60, 61, 62, 63, 64, 65, 66, 67, 68, 69, 70, 71, 72, 73, 74, 75, 76, 77, 78, 79, 80, 81, 82, 83, 84, 85, 86, 87, 88, 89, 90, 91, 92, 93, 94, 95, 96, 97, 98, 99, 100, 101, 102, 103, 104, 105, 106, 107, 108, 109, 110, 111, 112, 113, 114, 115, 116, 117, 118, 119, 120, 121, 122, 123, 124, 125, 126, 127, 128, 129, 130, 131, 132, 133, 134, 135, 136, 137, 138, 139, 140, 141, 142, 143, 144, 145, 146, 147, 148, 149, 150, 151, 152, 153, 154, 155, 156, 157, 158] (by decide +kernel) (by decide +kernel)
set_option maxRecDepth 20000 in
theorem gX11_who_X11_couldLeavePrints : GoodIn wsX11_who (wsV RX11 242 RX11 yX11_couldLeavePrints wsX11_couldLeavePrints) := goodIn_app (goodIn_of _ (by decide +kernel)) ggX11_who_X11_couldLeavePrints
theorem dX11_who_0 : decode cX11_who 0 = .ok (.iconst 0, 1) := by decide +kernel
theorem dX11_who_1 : decode cX11_who 1 = .ok (.istore_n 1, 1) := by decide +kernel
theorem dX11_who_2 : decode cX11_who 2 = .ok (.iconst 0, 1) := by decide +kernel
theorem dX11_who_3 : decode cX11_who 3 = .ok (.istore_n 2, 1) := by decide +kernel
theorem dX11_who_4 : decode cX11_who 4 = .ok (.iload_n 2, 1) := by decide +kernel
theorem dX11_who_5 : decode cX11_who 5 = .ok (.aload_n 0, 1) := by decide +kernel
theorem dX11_who_6 : decode cX11_who 6 = .ok (.getfield 96, 3) := by decide +kernel
theorem dX11_who_9 : decode cX11_who 9 = .ok (.if_icmp .ge 28, 3) := by decide +kernel
theorem dX11_who_12 : decode cX11_who 12 = .ok (.aload_n 0, 1) := by decide +kernel
theorem dX11_who_13 : decode cX11_who 13 = .ok (.aload_n 0, 1) := by decide +kernel
theorem dX11_who_14 : decode cX11_who 14 = .ok (.getfield 25, 3) := by decide +kernel
theorem dX11_who_17 : decode cX11_who 17 = .ok (.iload_n 2, 1) := by decide +kernel
theorem dX11_who_18 : decode cX11_who 18 = .ok (.aaload, 1) := by decide +kernel
theorem dX11_who_19 : decode cX11_who 19 = .ok (.invokevirtual 242, 3) := by decide +kernel
theorem dX11_who_22 : decode cX11_who 22 = .ok (.ifCond .eq 9, 3) := by decide +kernel
theorem dX11_who_25 : decode cX11_who 25 = .ok (.iload_n 1, 1) := by decide +kernel
theorem dX11_who_26 : decode cX11_who 26 = .ok (.iconst 1, 1) := by decide +kernel
theorem dX11_who_27 : decode cX11_who 27 = .ok (.iload_n 2, 1) := by decide +kernel
theorem dX11_who_28 : decode cX11_who 28 = .ok (.ishl, 1) := by decide +kernel
theorem dX11_who_29 : decode cX11_who 29 = .ok (.ior, 1) := by decide +kernel
theorem dX11_who_30 : decode cX11_who 30 = .ok (.istore_n 1, 1) := by decide +kernel
theorem dX11_who_31 : decode cX11_who 31 = .ok (.iinc 2 1, 3) := by decide +kernel
theorem dX11_who_34 : decode cX11_who 34 = .ok (.goto (-30), 3) := by decide +kernel
theorem dX11_who_37 : decode cX11_who 37 = .ok (.iload_n 1, 1) := by decide +kernel
theorem dX11_who_38 : decode cX11_who 38 = .ok (.ireturn, 1) := by decide +kernel
set_option maxRecDepth 20000 in
theorem ggX11_walk_X11_isWalker : GoodIn wsX11_walk wsX11_isWalker := goodIn_r _ [10, 11, 75, 76, 77, 78, 79, 80, 81, 82, 83, 84, 85, 86, 87, 88, 89] (by decide +kernel) (by decide +kernel)
set_option maxRecDepth 20000 in
theorem gX11_walk_X11_isWalker : GoodIn wsX11_walk (wsV RX11 152 RX11 yX11_isWalker wsX11_isWalker) := goodIn_app (goodIn_of _ (by decide +kernel)) ggX11_walk_X11_isWalker
set_option maxRecDepth 20000 in
theorem ggX11_walk_X11_isWithin : GoodIn wsX11_walk wsX11_isWithin := goodIn_r _ [14] (by decide +kernel) (by decide +kernel)
set_option maxRecDepth 20000 in
theorem gX11_walk_X11_isWithin : GoodIn wsX11_walk (va_wsS RX11 124 yX11_isWithin wsX11_isWithin) := goodIn_app (goodIn_of _ (by decide +kernel)) ggX11_walk_X11_isWithin
set_option maxRecDepth 20000 in
theorem ggX11_walk_X7_placeOf : GoodIn wsX11_walk wsX7_placeOf := goodIn_r _ [18] (by decide +kernel) (by decide +kernel)
set_option maxRecDepth 20000 in
theorem gX11_walk_X7_placeOf : GoodIn wsX11_walk (va_wsS RX11 155 yX7_placeOf wsX7_placeOf) := goodIn_app (goodIn_of _ (by decide +kernel)) ggX11_walk_X7_placeOf
set_option maxRecDepth 20000 in
theorem ggX11_walk_X8_streetsAt : GoodIn wsX11_walk wsX8_streetsAt := goodIn_r _ [23, 24, 25, 26, 27, 22, 28, 29, 30, 93, 94, 95, 96, 97, 98, 99, 100] (by decide +kernel) (by decide +kernel)
set_option maxRecDepth 20000 in
theorem gX11_walk_X8_streetsAt : GoodIn wsX11_walk (wsV RX11 246 RX8 yX8_streetsAt wsX8_streetsAt) := goodIn_app (goodIn_of _ (by decide +kernel)) ggX11_walk_X8_streetsAt
set_option maxRecDepth 20000 in
theorem ggX11_walk_X11_nextSeed : GoodIn wsX11_walk wsX11_nextSeed := goodIn_r _ [33, 34, 35, 36] (by decide +kernel) (by decide +kernel)
set_option maxRecDepth 20000 in
theorem gX11_walk_X11_nextSeed : GoodIn wsX11_walk (va_wsS RX11 249 yX11_nextSeed wsX11_nextSeed) := goodIn_app (goodIn_of _ (by decide +kernel)) ggX11_walk_X11_nextSeed
set_option maxRecDepth 20000 in
theorem ggX11_walk_X8_streetAt : GoodIn wsX11_walk wsX8_streetAt := goodIn_r _ [40, 24, 25, 26, 27, 22, 28, 29, 30, 93, 94, 95, 96, 97, 98, 99, 100] (by decide +kernel) (by decide +kernel)
set_option maxRecDepth 20000 in
theorem gX11_walk_X8_streetAt : GoodIn wsX11_walk (wsV RX11 252 RX8 yX8_streetAt wsX8_streetAt) := goodIn_app (goodIn_of _ (by decide +kernel)) ggX11_walk_X8_streetAt
set_option maxRecDepth 20000 in
theorem ggX11_walk_X9_turnOf : GoodIn wsX11_walk wsX9_turnOf := goodIn_r _ [44, 45, 46, 43, 47] (by decide +kernel) (by decide +kernel)
set_option maxRecDepth 20000 in
theorem gX11_walk_X9_turnOf : GoodIn wsX11_walk (va_wsS RX11 255 yX9_turnOf wsX9_turnOf) := goodIn_app (goodIn_of _ (by decide +kernel)) ggX11_walk_X9_turnOf
set_option maxRecDepth 20000 in
theorem ggX11_walk_X8_behind : GoodIn wsX11_walk wsX8_behind := goodIn_r _ [51, 52, 29, 30, 53, 16, 17, 18, 25, 26, 27, 22, 28, 54, 55, 56, 57, 58, 59, 60, 61, 62, 63, 64, 65, 66, 67, 68, 69, 70, 71, 72, 73, 93, 94, 95, 96, 97, 98, 99, 100] (by decide +kernel) (by decide +kernel)
set_option maxRecDepth 20000 in
theorem gX11_walk_X8_behind : GoodIn wsX11_walk (wsV RX11 258 RX8 yX8_behind wsX8_behind) := goodIn_app (goodIn_of _ (by decide +kernel)) ggX11_walk_X8_behind
set_option maxRecDepth 20000 in
theorem ggX11_walk_X7_footOf : GoodIn wsX11_walk wsX7_footOf := goodIn_r _ [56] (by decide +kernel) (by decide +kernel)
set_option maxRecDepth 20000 in
theorem gX11_walk_X7_footOf : GoodIn wsX11_walk (va_wsS RX11 159 yX7_footOf wsX7_footOf) := goodIn_app (goodIn_of _ (by decide +kernel)) ggX11_walk_X7_footOf
theorem dX11_walk_0 : decode cX11_walk 0 = .ok (.aload_n 0, 1) := by decide +kernel
theorem dX11_walk_1 : decode cX11_walk 1 = .ok (.iload_n 1, 1) := by decide +kernel
theorem dX11_walk_2 : decode cX11_walk 2 = .ok (.invokevirtual 152, 3) := by decide +kernel
theorem dX11_walk_5 : decode cX11_walk 5 = .ok (.ifCond .ne 6, 3) := by decide +kernel
theorem dX11_walk_8 : decode cX11_walk 8 = .ok (.bipush (-101), 2) := by decide +kernel
theorem dX11_walk_10 : decode cX11_walk 10 = .ok (.ireturn, 1) := by decide +kernel
theorem dX11_walk_11 : decode cX11_walk 11 = .ok (.iload_n 2, 1) := by decide +kernel
theorem dX11_walk_12 : decode cX11_walk 12 = .ok (.iconst 1, 1) := by decide +kernel
theorem dX11_walk_13 : decode cX11_walk 13 = .ok (.if_icmp .lt 22, 3) := by decide +kernel
theorem dX11_walk_16 : decode cX11_walk 16 = .ok (.iload_n 2, 1) := by decide +kernel
theorem dX11_walk_17 : decode cX11_walk 17 = .ok (.bipush 60, 2) := by decide +kernel
theorem dX11_walk_19 : decode cX11_walk 19 = .ok (.if_icmp .gt 16, 3) := by decide +kernel
theorem dX11_walk_22 : decode cX11_walk 22 = .ok (.iload_n 3, 1) := by decide +kernel
theorem dX11_walk_23 : decode cX11_walk 23 = .ok (.ifCond .lt 12, 3) := by decide +kernel
theorem dX11_walk_26 : decode cX11_walk 26 = .ok (.iload 4, 2) := by decide +kernel
theorem dX11_walk_28 : decode cX11_walk 28 = .ok (.iconst 3, 1) := by decide +kernel
theorem dX11_walk_29 : decode cX11_walk 29 = .ok (.invokestatic 124, 3) := by decide +kernel
theorem dX11_walk_32 : decode cX11_walk 32 = .ok (.ifCond .ne 6, 3) := by decide +kernel
theorem dX11_walk_35 : decode cX11_walk 35 = .ok (.bipush (-102), 2) := by decide +kernel
theorem dX11_walk_37 : decode cX11_walk 37 = .ok (.ireturn, 1) := by decide +kernel
theorem dX11_walk_38 : decode cX11_walk 38 = .ok (.aload_n 0, 1) := by decide +kernel
theorem dX11_walk_39 : decode cX11_walk 39 = .ok (.getfield 25, 3) := by decide +kernel
theorem dX11_walk_42 : decode cX11_walk 42 = .ok (.iload_n 1, 1) := by decide +kernel
theorem dX11_walk_43 : decode cX11_walk 43 = .ok (.aaload, 1) := by decide +kernel
theorem dX11_walk_44 : decode cX11_walk 44 = .ok (.astore 5, 2) := by decide +kernel
theorem dX11_walk_46 : decode cX11_walk 46 = .ok (.aload 5, 2) := by decide +kernel
theorem dX11_walk_48 : decode cX11_walk 48 = .ok (.getfield 146, 3) := by decide +kernel
theorem dX11_walk_51 : decode cX11_walk 51 = .ok (.istore 6, 2) := by decide +kernel
theorem dX11_walk_53 : decode cX11_walk 53 = .ok (.iload_n 3, 1) := by decide +kernel
theorem dX11_walk_54 : decode cX11_walk 54 = .ok (.istore 7, 2) := by decide +kernel
theorem dX11_walk_56 : decode cX11_walk 56 = .ok (.iconst 0, 1) := by decide +kernel
theorem dX11_walk_57 : decode cX11_walk 57 = .ok (.istore 8, 2) := by decide +kernel
theorem dX11_walk_59 : decode cX11_walk 59 = .ok (.iconst 0, 1) := by decide +kernel
theorem dX11_walk_60 : decode cX11_walk 60 = .ok (.istore 9, 2) := by decide +kernel
theorem dX11_walk_62 : decode cX11_walk 62 = .ok (.iload 9, 2) := by decide +kernel
theorem dX11_walk_64 : decode cX11_walk 64 = .ok (.iload_n 2, 1) := by decide +kernel
theorem dX11_walk_65 : decode cX11_walk 65 = .ok (.if_icmp .ge 107, 3) := by decide +kernel
theorem dX11_walk_68 : decode cX11_walk 68 = .ok (.aload_n 0, 1) := by decide +kernel
theorem dX11_walk_69 : decode cX11_walk 69 = .ok (.getfield 19, 3) := by decide +kernel
theorem dX11_walk_72 : decode cX11_walk 72 = .ok (.iload 6, 2) := by decide +kernel
theorem dX11_walk_74 : decode cX11_walk 74 = .ok (.invokestatic 155, 3) := by decide +kernel
theorem dX11_walk_77 : decode cX11_walk 77 = .ok (.invokevirtual 246, 3) := by decide +kernel
theorem dX11_walk_80 : decode cX11_walk 80 = .ok (.istore 10, 2) := by decide +kernel
theorem dX11_walk_82 : decode cX11_walk 82 = .ok (.iload 10, 2) := by decide +kernel
theorem dX11_walk_84 : decode cX11_walk 84 = .ok (.ifCond .ne 6, 3) := by decide +kernel
theorem dX11_walk_87 : decode cX11_walk 87 = .ok (.goto 85, 3) := by decide +kernel
theorem dX11_walk_90 : decode cX11_walk 90 = .ok (.iload 7, 2) := by decide +kernel
theorem dX11_walk_92 : decode cX11_walk 92 = .ok (.invokestatic 249, 3) := by decide +kernel
theorem dX11_walk_95 : decode cX11_walk 95 = .ok (.istore 7, 2) := by decide +kernel
theorem dX11_walk_97 : decode cX11_walk 97 = .ok (.aload_n 0, 1) := by decide +kernel
theorem dX11_walk_98 : decode cX11_walk 98 = .ok (.getfield 19, 3) := by decide +kernel
theorem dX11_walk_101 : decode cX11_walk 101 = .ok (.iload 6, 2) := by decide +kernel
theorem dX11_walk_103 : decode cX11_walk 103 = .ok (.invokestatic 155, 3) := by decide +kernel
theorem dX11_walk_106 : decode cX11_walk 106 = .ok (.iload 7, 2) := by decide +kernel
theorem dX11_walk_108 : decode cX11_walk 108 = .ok (.bipush 16, 2) := by decide +kernel
theorem dX11_walk_110 : decode cX11_walk 110 = .ok (.ishr, 1) := by decide +kernel
theorem dX11_walk_111 : decode cX11_walk 111 = .ok (.iload 10, 2) := by decide +kernel
theorem dX11_walk_113 : decode cX11_walk 113 = .ok (.irem, 1) := by decide +kernel
theorem dX11_walk_114 : decode cX11_walk 114 = .ok (.invokevirtual 252, 3) := by decide +kernel
theorem dX11_walk_117 : decode cX11_walk 117 = .ok (.istore 11, 2) := by decide +kernel
theorem dX11_walk_119 : decode cX11_walk 119 = .ok (.aload_n 0, 1) := by decide +kernel
theorem dX11_walk_120 : decode cX11_walk 120 = .ok (.getfield 19, 3) := by decide +kernel
theorem dX11_walk_123 : decode cX11_walk 123 = .ok (.iload 6, 2) := by decide +kernel
theorem dX11_walk_125 : decode cX11_walk 125 = .ok (.iload 11, 2) := by decide +kernel
theorem dX11_walk_127 : decode cX11_walk 127 = .ok (.aload 5, 2) := by decide +kernel
theorem dX11_walk_129 : decode cX11_walk 129 = .ok (.getfield 137, 3) := by decide +kernel
theorem dX11_walk_132 : decode cX11_walk 132 = .ok (.aload_n 0, 1) := by decide +kernel
theorem dX11_walk_133 : decode cX11_walk 133 = .ok (.getfield 19, 3) := by decide +kernel
theorem dX11_walk_136 : decode cX11_walk 136 = .ok (.getfield 118, 3) := by decide +kernel
theorem dX11_walk_139 : decode cX11_walk 139 = .ok (.iload 11, 2) := by decide +kernel
theorem dX11_walk_141 : decode cX11_walk 141 = .ok (.iaload, 1) := by decide +kernel
theorem dX11_walk_142 : decode cX11_walk 142 = .ok (.invokestatic 255, 3) := by decide +kernel
theorem dX11_walk_145 : decode cX11_walk 145 = .ok (.invokevirtual 258, 3) := by decide +kernel
theorem dX11_walk_148 : decode cX11_walk 148 = .ok (.istore 12, 2) := by decide +kernel
theorem dX11_walk_150 : decode cX11_walk 150 = .ok (.iload 12, 2) := by decide +kernel
theorem dX11_walk_152 : decode cX11_walk 152 = .ok (.iconst (-1), 1) := by decide +kernel
theorem dX11_walk_153 : decode cX11_walk 153 = .ok (.if_icmp .ne 9, 3) := by decide +kernel
theorem dX11_walk_156 : decode cX11_walk 156 = .ok (.iinc 8 1, 3) := by decide +kernel
theorem dX11_walk_159 : decode cX11_walk 159 = .ok (.goto 7, 3) := by decide +kernel
theorem dX11_walk_162 : decode cX11_walk 162 = .ok (.iload 12, 2) := by decide +kernel
theorem dX11_walk_164 : decode cX11_walk 164 = .ok (.istore 6, 2) := by decide +kernel
theorem dX11_walk_166 : decode cX11_walk 166 = .ok (.iinc 9 1, 3) := by decide +kernel
theorem dX11_walk_169 : decode cX11_walk 169 = .ok (.goto (-107), 3) := by decide +kernel
theorem dX11_walk_172 : decode cX11_walk 172 = .ok (.iload 4, 2) := by decide +kernel
theorem dX11_walk_174 : decode cX11_walk 174 = .ok (.tableswitch 41 0 2 #[26, 32, 38], 26) := by decide +kernel
theorem dX11_walk_200 : decode cX11_walk 200 = .ok (.iload 6, 2) := by decide +kernel
theorem dX11_walk_202 : decode cX11_walk 202 = .ok (.invokestatic 155, 3) := by decide +kernel
theorem dX11_walk_205 : decode cX11_walk 205 = .ok (.ireturn, 1) := by decide +kernel
theorem dX11_walk_206 : decode cX11_walk 206 = .ok (.iload 6, 2) := by decide +kernel
theorem dX11_walk_208 : decode cX11_walk 208 = .ok (.invokestatic 159, 3) := by decide +kernel
theorem dX11_walk_211 : decode cX11_walk 211 = .ok (.ireturn, 1) := by decide +kernel
theorem dX11_walk_212 : decode cX11_walk 212 = .ok (.iload 8, 2) := by decide +kernel
theorem dX11_walk_214 : decode cX11_walk 214 = .ok (.ireturn, 1) := by decide +kernel
theorem dX11_walk_215 : decode cX11_walk 215 = .ok (.iload 7, 2) := by decide +kernel
theorem dX11_walk_217 : decode cX11_walk 217 = .ok (.ireturn, 1) := by decide +kernel
set_option maxRecDepth 20000 in
theorem ggX11_image_X11_hasTown : GoodIn wsX11_image wsX11_hasTown := goodIn_r _ [12, 6, 13, 41, 42, 43, 44, 45, 46, 47, 48, 49, 50, 51, 52, 53, 54, 55, 56, 57, 58, 59, 60, 61, 62, 63] (by decide +kernel) (by decide +kernel)
set_option maxRecDepth 20000 in
theorem gX11_image_X11_hasTown : GoodIn wsX11_image (wsV RX11 134 RX11 yX11_hasTown wsX11_hasTown) := goodIn_app (goodIn_of _ (by decide +kernel)) ggX11_image_X11_hasTown
set_option maxRecDepth 20000 in
theorem ggX11_image_X4_keepWalkers : GoodIn wsX11_image wsX4_keepWalkers := goodIn_r _ [18, 19, 20, 21, 22, 23, 64, 65, 66, 67, 68, 69, 70, 71, 72, 73] (by decide +kernel) (by decide +kernel)
set_option maxRecDepth 20000 in
theorem gX11_image_X4_keepWalkers : GoodIn wsX11_image (wsV RX11 261 RX4 yX4_keepWalkers wsX4_keepWalkers) := goodIn_app (goodIn_of _ (by decide +kernel)) ggX11_image_X4_keepWalkers
set_option maxRecDepth 20000 in
theorem ggX11_image_X4_keepPrints : GoodIn wsX11_image wsX4_keepPrints := goodIn_r _ [27, 28, 29, 30, 31, 32, 33, 64, 65, 66, 67, 68, 69, 70] (by decide +kernel) (by decide +kernel)
set_option maxRecDepth 20000 in
theorem gX11_image_X4_keepPrints : GoodIn wsX11_image (wsV RX11 265 RX4 yX4_keepPrints wsX4_keepPrints) := goodIn_app (goodIn_of _ (by decide +kernel)) ggX11_image_X4_keepPrints
set_option maxRecDepth 20000 in
theorem ggX11_image_X4_keepPaces : GoodIn wsX11_image wsX4_keepPaces := goodIn_r _ [37, 38, 39, 40, 30, 31, 32, 33, 64, 65, 66, 67, 68, 69, 70, 56, 57, 58, 59, 60, 61, 62, 63] (by decide +kernel) (by decide +kernel)
set_option maxRecDepth 20000 in
theorem gX11_image_X4_keepPaces : GoodIn wsX11_image (wsV RX11 269 RX4 yX4_keepPaces wsX4_keepPaces) := goodIn_app (goodIn_of _ (by decide +kernel)) ggX11_image_X4_keepPaces
theorem dX11_image_0 : decode cX11_image 0 = .ok (.aload_n 0, 1) := by decide +kernel
theorem dX11_image_1 : decode cX11_image 1 = .ok (.invokevirtual 134, 3) := by decide +kernel
theorem dX11_image_4 : decode cX11_image 4 = .ok (.ifCond .ne 6, 3) := by decide +kernel
theorem dX11_image_7 : decode cX11_image 7 = .ok (.bipush (-103), 2) := by decide +kernel
theorem dX11_image_9 : decode cX11_image 9 = .ok (.ireturn, 1) := by decide +kernel
theorem dX11_image_10 : decode cX11_image 10 = .ok (.aload_n 0, 1) := by decide +kernel
theorem dX11_image_11 : decode cX11_image 11 = .ok (.getfield 36, 3) := by decide +kernel
theorem dX11_image_14 : decode cX11_image 14 = .ok (.aload_n 0, 1) := by decide +kernel
theorem dX11_image_15 : decode cX11_image 15 = .ok (.getfield 25, 3) := by decide +kernel
theorem dX11_image_18 : decode cX11_image 18 = .ok (.aload_n 0, 1) := by decide +kernel
theorem dX11_image_19 : decode cX11_image 19 = .ok (.getfield 96, 3) := by decide +kernel
theorem dX11_image_22 : decode cX11_image 22 = .ok (.invokevirtual 261, 3) := by decide +kernel
theorem dX11_image_25 : decode cX11_image 25 = .ok (.aload_n 0, 1) := by decide +kernel
theorem dX11_image_26 : decode cX11_image 26 = .ok (.getfield 36, 3) := by decide +kernel
theorem dX11_image_29 : decode cX11_image 29 = .ok (.aload_n 0, 1) := by decide +kernel
theorem dX11_image_30 : decode cX11_image 30 = .ok (.getfield 29, 3) := by decide +kernel
theorem dX11_image_33 : decode cX11_image 33 = .ok (.aload_n 0, 1) := by decide +kernel
theorem dX11_image_34 : decode cX11_image 34 = .ok (.getfield 99, 3) := by decide +kernel
theorem dX11_image_37 : decode cX11_image 37 = .ok (.invokevirtual 265, 3) := by decide +kernel
theorem dX11_image_40 : decode cX11_image 40 = .ok (.aload_n 0, 1) := by decide +kernel
theorem dX11_image_41 : decode cX11_image 41 = .ok (.getfield 36, 3) := by decide +kernel
theorem dX11_image_44 : decode cX11_image 44 = .ok (.aload_n 0, 1) := by decide +kernel
theorem dX11_image_45 : decode cX11_image 45 = .ok (.getfield 19, 3) := by decide +kernel
theorem dX11_image_48 : decode cX11_image 48 = .ok (.aload_n 0, 1) := by decide +kernel
theorem dX11_image_49 : decode cX11_image 49 = .ok (.getfield 102, 3) := by decide +kernel
theorem dX11_image_52 : decode cX11_image 52 = .ok (.invokevirtual 269, 3) := by decide +kernel
theorem dX11_image_55 : decode cX11_image 55 = .ok (.aload_n 0, 1) := by decide +kernel
theorem dX11_image_56 : decode cX11_image 56 = .ok (.getfield 96, 3) := by decide +kernel
theorem dX11_image_59 : decode cX11_image 59 = .ok (.ireturn, 1) := by decide +kernel
set_option maxRecDepth 20000 in
theorem ggX11_restore_X4_isOf : GoodIn wsX11_restore wsX4_isOf := goodIn_r _ [12, 13, 54, 55, 56, 57, 58, 59, 60] (by decide +kernel) (by decide +kernel)
set_option maxRecDepth 20000 in
theorem gX11_restore_X4_isOf : GoodIn wsX11_restore (wsV RX11 273 RX4 yX4_isOf wsX4_isOf) := goodIn_app (goodIn_of _ (by decide +kernel)) ggX11_restore_X4_isOf
set_option maxRecDepth 20000 in
theorem ggX11_restore_X4_bringWalkers : GoodIn wsX11_restore wsX4_bringWalkers := goodIn_r _ [17, 18, 19, 20, 21, 22, 54, 55, 56, 57, 58, 59, 60, 61, 62, 63] (by decide +kernel) (by decide +kernel)
set_option maxRecDepth 20000 in
theorem gX11_restore_X4_bringWalkers : GoodIn wsX11_restore (wsV RX11 274 RX4 yX4_bringWalkers wsX4_bringWalkers) := goodIn_app (goodIn_of _ (by decide +kernel)) ggX11_restore_X4_bringWalkers
set_option maxRecDepth 20000 in
theorem ggX11_restore_X4_bringPrints : GoodIn wsX11_restore wsX4_bringPrints := goodIn_r _ [26, 27, 28, 29, 30, 31, 32, 54, 55, 56, 57, 58, 59, 60] (by decide +kernel) (by decide +kernel)
set_option maxRecDepth 20000 in
theorem gX11_restore_X4_bringPrints : GoodIn wsX11_restore (wsV RX11 278 RX4 yX4_bringPrints wsX4_bringPrints) := goodIn_app (goodIn_of _ (by decide +kernel)) ggX11_restore_X4_bringPrints
set_option maxRecDepth 20000 in
theorem ggX11_restore_X4_bringPaces : GoodIn wsX11_restore wsX4_bringPaces := goodIn_r _ [36, 37, 38, 29, 30, 31, 32, 54, 55, 56, 57, 58, 59, 60, 64, 65, 66, 67, 68, 69, 70, 71] (by decide +kernel) (by decide +kernel)
set_option maxRecDepth 20000 in
theorem gX11_restore_X4_bringPaces : GoodIn wsX11_restore (wsV RX11 282 RX4 yX4_bringPaces wsX4_bringPaces) := goodIn_app (goodIn_of _ (by decide +kernel)) ggX11_restore_X4_bringPaces
theorem dX11_restore_0 : decode cX11_restore 0 = .ok (.aload_n 0, 1) := by decide +kernel
theorem dX11_restore_1 : decode cX11_restore 1 = .ok (.getfield 36, 3) := by decide +kernel
theorem dX11_restore_4 : decode cX11_restore 4 = .ok (.aload_n 0, 1) := by decide +kernel
theorem dX11_restore_5 : decode cX11_restore 5 = .ok (.getfield 102, 3) := by decide +kernel
theorem dX11_restore_8 : decode cX11_restore 8 = .ok (.invokevirtual 273, 3) := by decide +kernel
theorem dX11_restore_11 : decode cX11_restore 11 = .ok (.ifCond .ne 6, 3) := by decide +kernel
theorem dX11_restore_14 : decode cX11_restore 14 = .ok (.bipush (-103), 2) := by decide +kernel
theorem dX11_restore_16 : decode cX11_restore 16 = .ok (.ireturn, 1) := by decide +kernel
theorem dX11_restore_17 : decode cX11_restore 17 = .ok (.aload_n 0, 1) := by decide +kernel
theorem dX11_restore_18 : decode cX11_restore 18 = .ok (.aload_n 0, 1) := by decide +kernel
theorem dX11_restore_19 : decode cX11_restore 19 = .ok (.getfield 36, 3) := by decide +kernel
theorem dX11_restore_22 : decode cX11_restore 22 = .ok (.aload_n 0, 1) := by decide +kernel
theorem dX11_restore_23 : decode cX11_restore 23 = .ok (.getfield 25, 3) := by decide +kernel
theorem dX11_restore_26 : decode cX11_restore 26 = .ok (.invokevirtual 274, 3) := by decide +kernel
theorem dX11_restore_29 : decode cX11_restore 29 = .ok (.putfield 96, 3) := by decide +kernel
theorem dX11_restore_32 : decode cX11_restore 32 = .ok (.aload_n 0, 1) := by decide +kernel
theorem dX11_restore_33 : decode cX11_restore 33 = .ok (.aload_n 0, 1) := by decide +kernel
theorem dX11_restore_34 : decode cX11_restore 34 = .ok (.getfield 36, 3) := by decide +kernel
theorem dX11_restore_37 : decode cX11_restore 37 = .ok (.aload_n 0, 1) := by decide +kernel
theorem dX11_restore_38 : decode cX11_restore 38 = .ok (.getfield 29, 3) := by decide +kernel
theorem dX11_restore_41 : decode cX11_restore 41 = .ok (.invokevirtual 278, 3) := by decide +kernel
theorem dX11_restore_44 : decode cX11_restore 44 = .ok (.putfield 99, 3) := by decide +kernel
theorem dX11_restore_47 : decode cX11_restore 47 = .ok (.aload_n 0, 1) := by decide +kernel
theorem dX11_restore_48 : decode cX11_restore 48 = .ok (.getfield 36, 3) := by decide +kernel
theorem dX11_restore_51 : decode cX11_restore 51 = .ok (.aload_n 0, 1) := by decide +kernel
theorem dX11_restore_52 : decode cX11_restore 52 = .ok (.getfield 19, 3) := by decide +kernel
theorem dX11_restore_55 : decode cX11_restore 55 = .ok (.invokevirtual 282, 3) := by decide +kernel
theorem dX11_restore_58 : decode cX11_restore 58 = .ok (.aload_n 0, 1) := by decide +kernel
theorem dX11_restore_59 : decode cX11_restore 59 = .ok (.getfield 96, 3) := by decide +kernel
theorem dX11_restore_62 : decode cX11_restore 62 = .ok (.ireturn, 1) := by decide +kernel
theorem dX11_count_0 : decode cX11_count 0 = .ok (.iload_n 1, 1) := by decide +kernel
theorem dX11_count_1 : decode cX11_count 1 = .ok (.tableswitch 107 0 7 #[47, 55, 63, 68, 73, 89, 97, 102], 47) := by decide +kernel
theorem dX11_count_48 : decode cX11_count 48 = .ok (.aload_n 0, 1) := by decide +kernel
theorem dX11_count_49 : decode cX11_count 49 = .ok (.getfield 19, 3) := by decide +kernel
theorem dX11_count_52 : decode cX11_count 52 = .ok (.getfield 105, 3) := by decide +kernel
theorem dX11_count_55 : decode cX11_count 55 = .ok (.ireturn, 1) := by decide +kernel
theorem dX11_count_56 : decode cX11_count 56 = .ok (.aload_n 0, 1) := by decide +kernel
theorem dX11_count_57 : decode cX11_count 57 = .ok (.getfield 19, 3) := by decide +kernel
theorem dX11_count_60 : decode cX11_count 60 = .ok (.getfield 236, 3) := by decide +kernel
theorem dX11_count_63 : decode cX11_count 63 = .ok (.ireturn, 1) := by decide +kernel
theorem dX11_count_64 : decode cX11_count 64 = .ok (.aload_n 0, 1) := by decide +kernel
theorem dX11_count_65 : decode cX11_count 65 = .ok (.getfield 96, 3) := by decide +kernel
theorem dX11_count_68 : decode cX11_count 68 = .ok (.ireturn, 1) := by decide +kernel
theorem dX11_count_69 : decode cX11_count 69 = .ok (.aload_n 0, 1) := by decide +kernel
theorem dX11_count_70 : decode cX11_count 70 = .ok (.getfield 99, 3) := by decide +kernel
theorem dX11_count_73 : decode cX11_count 73 = .ok (.ireturn, 1) := by decide +kernel
theorem dX11_count_74 : decode cX11_count 74 = .ok (.aload_n 0, 1) := by decide +kernel
theorem dX11_count_75 : decode cX11_count 75 = .ok (.getfield 19, 3) := by decide +kernel
theorem dX11_count_78 : decode cX11_count 78 = .ok (.getfield 286, 3) := by decide +kernel
theorem dX11_count_81 : decode cX11_count 81 = .ok (.ifCond .eq 7, 3) := by decide +kernel
theorem dX11_count_84 : decode cX11_count 84 = .ok (.iconst 1, 1) := by decide +kernel
theorem dX11_count_85 : decode cX11_count 85 = .ok (.goto 4, 3) := by decide +kernel
theorem dX11_count_88 : decode cX11_count 88 = .ok (.iconst 0, 1) := by decide +kernel
theorem dX11_count_89 : decode cX11_count 89 = .ok (.ireturn, 1) := by decide +kernel
theorem dX11_count_90 : decode cX11_count 90 = .ok (.aload_n 0, 1) := by decide +kernel
theorem dX11_count_91 : decode cX11_count 91 = .ok (.getfield 10, 3) := by decide +kernel
theorem dX11_count_94 : decode cX11_count 94 = .ok (.getfield 76, 3) := by decide +kernel
theorem dX11_count_97 : decode cX11_count 97 = .ok (.ireturn, 1) := by decide +kernel
theorem dX11_count_98 : decode cX11_count 98 = .ok (.aload_n 0, 1) := by decide +kernel
theorem dX11_count_99 : decode cX11_count 99 = .ok (.getfield 102, 3) := by decide +kernel
theorem dX11_count_102 : decode cX11_count 102 = .ok (.ireturn, 1) := by decide +kernel
theorem dX11_count_103 : decode cX11_count 103 = .ok (.aload_n 0, 1) := by decide +kernel
theorem dX11_count_104 : decode cX11_count 104 = .ok (.getfield 202, 3) := by decide +kernel
theorem dX11_count_107 : decode cX11_count 107 = .ok (.ireturn, 1) := by decide +kernel
theorem dX11_count_108 : decode cX11_count 108 = .ok (.bipush (-102), 2) := by decide +kernel
theorem dX11_count_110 : decode cX11_count 110 = .ok (.ireturn, 1) := by decide +kernel
set_option maxRecDepth 20000 in
theorem ggX11_digest_X11_street : GoodIn wsX11_digest wsX11_street := goodIn_r _ [15, 2, 16, 17, 18, 19, 20, 21, 22, 14, 23, 3, 288, 289, 290, 291, 292, 293, 294, 295, 296, 297, 298, 299, 300, 301, 302, 303, 304, 305, 306, 307, 308, 309, 310] (by decide +kernel) (by decide +kernel)
set_option maxRecDepth 20000 in
theorem gX11_digest_X11_street : GoodIn wsX11_digest (wsV RX11 294 RX11 yX11_street wsX11_street) := goodIn_app (goodIn_of _ (by decide +kernel)) ggX11_digest_X11_street
set_option maxRecDepth 20000 in
theorem ggX11_digest_X11_withWalker : GoodIn wsX11_digest wsX11_withWalker := goodIn_r _ [27, 4, 28, 29, 30, 31, 14, 32, 33, 34, 35, 36, 37, 38, 39, 5, 40, 41, 42, 43, 44, 45, 46, 47, 48, 49, 50, 51, 52, 53, 54, 2, 55, 56, 57, 58, 59, 60, 61, 62, 63, 64, 65, 66, 67, 68, 69, 70, 71, 72, 73, 74, 75, 76, 77, 78, 79, 80, 3, 81, 82, 83, 84, 85, 86, 87, 88, 89, 90, 91, 92, 93, 94, 95, 96, 97, 98, 99, 100, 101, 102, 103, 104, 105, 106, 107, 108, 109, 110, 111, 112, 113, 114, 115, 116, 117, 118, 119, 120, 121, 122, 123, 124, 125, 126, 127, 128, 129, 130, 131, 132, 133, 134, 135, 136, 137, 138, 139, 140, 141, 142, 143, 144, 145, 146, 147, 148, 149, 150, 151, 152, 153, 154, 155, 156, 157, 158, 159, 160, 161, 162, 163, 164, 165, 166, 167, 168, 169, 170, 171, 172, 173, 174, 175, 176, 177, 178, 179, 180, 181, 182, 183, 184, 185, 186, 187, 188, 189, 190, 191, 192, 193, 194, 195, 196, 197, 198, 199, 200, 201, 202, 203, 204, 205, 206, 207, 208, 209, 210, 211, 212, 213, 214, 215, 216, 217, 218, 219, 220, 221, 222, 223, 224, 225, 226, 227, 228, 288, 289, 290, 291, 292, 293, 294, 295, 296, 297, 298, 299, 300, 301, 302, 316, 317, 318, 303, 304, 305, 306, 307, 308, 309, 310, 319, 320, 321, 322, 323, 324, 325, 326, 327] (by decide +kernel) (by decide +kernel)
set_option maxRecDepth 20000 in
theorem gX11_digest_X11_withWalker : GoodIn wsX11_digest (wsV RX11 297 RX11 yX11_withWalker wsX11_withWalker) := goodIn_app (goodIn_of _ (by decide +kernel)) ggX11_digest_X11_withWalker
set_option maxRecDepth 20000 in
theorem ggX11_digest_X11_hasTown : GoodIn wsX11_digest wsX11_hasTown := goodIn_r _ [232, 2, 3, 288, 289, 290, 291, 292, 293, 294, 295, 296, 297, 298, 299, 300, 301, 302, 303, 304, 305, 306, 307, 308, 309, 310] (by decide +kernel) (by decide +kernel)
set_option maxRecDepth 20000 in
theorem gX11_digest_X11_hasTown : GoodIn wsX11_digest (wsV RX11 134 RX11 yX11_hasTown wsX11_hasTown) := goodIn_app (goodIn_of _ (by decide +kernel)) ggX11_digest_X11_hasTown
set_option maxRecDepth 20000 in
theorem ggX11_digest_X11_stonesForEven : GoodIn wsX11_digest wsX11_stonesForEven := goodIn_r _ [236, 237, 238, 239, 14, 240, 2, 3, 18, 241, 73, 70, 74, 75, 69, 71, 242, 243, 244, 245, 16, 17, 246, 247, 248, 249, 250, 251, 252, 253, 254, 255, 288, 289, 290, 291, 292, 293, 294, 295, 296, 297, 298, 299, 300, 301, 302, 303, 304, 305, 306, 307, 308, 309, 310] (by decide +kernel) (by decide +kernel)
set_option maxRecDepth 20000 in
theorem gX11_digest_X11_stonesForEven : GoodIn wsX11_digest (wsV RX11 214 RX11 yX11_stonesForEven wsX11_stonesForEven) := goodIn_app (goodIn_of _ (by decide +kernel)) ggX11_digest_X11_stonesForEven
set_option maxRecDepth 20000 in
theorem ggX11_digest_X11_streetsTold : GoodIn wsX11_digest wsX11_streetsTold := goodIn_r _ [258, 249, 250, 251, 252, 253, 254, 255] (by decide +kernel) (by decide +kernel)
set_option maxRecDepth 20000 in
theorem gX11_digest_X11_streetsTold : GoodIn wsX11_digest (va_wsS RX11 211 yX11_streetsTold wsX11_streetsTold) := goodIn_app (goodIn_of _ (by decide +kernel)) ggX11_digest_X11_streetsTold
set_option maxRecDepth 20000 in
theorem ggX11_digest_X11_gateOfPrint : GoodIn wsX11_digest wsX11_gateOfPrint := goodIn_r _ [261] (by decide +kernel) (by decide +kernel)
set_option maxRecDepth 20000 in
theorem gX11_digest_X11_gateOfPrint : GoodIn wsX11_digest (va_wsS RX11 301 yX11_gateOfPrint wsX11_gateOfPrint) := goodIn_app (goodIn_of _ (by decide +kernel)) ggX11_digest_X11_gateOfPrint
set_option maxRecDepth 20000 in
theorem ggX11_digest_X11_wayOfPrint : GoodIn wsX11_digest wsX11_wayOfPrint := goodIn_r _ [264] (by decide +kernel) (by decide +kernel)
set_option maxRecDepth 20000 in
theorem gX11_digest_X11_wayOfPrint : GoodIn wsX11_digest (va_wsS RX11 304 yX11_wayOfPrint wsX11_wayOfPrint) := goodIn_app (goodIn_of _ (by decide +kernel)) ggX11_digest_X11_wayOfPrint
set_option maxRecDepth 20000 in
theorem ggX11_digest_X11_footOfPrint : GoodIn wsX11_digest wsX11_footOfPrint := goodIn_r _ [267] (by decide +kernel) (by decide +kernel)
set_option maxRecDepth 20000 in
theorem gX11_digest_X11_footOfPrint : GoodIn wsX11_digest (va_wsS RX11 307 yX11_footOfPrint wsX11_footOfPrint) := goodIn_app (goodIn_of _ (by decide +kernel)) ggX11_digest_X11_footOfPrint
set_option maxRecDepth 20000 in
theorem ggX11_digest_X11_who : GoodIn wsX11_digest wsX11_who := goodIn_r _ [271, 5, 28, 272, 273, 274, 14, 275, 54, 33, 2, 80, 3, 34, 6, 276, 7, 16, 17, 219, 55, 56, 57, 58, 59, 60, 61, 62, 63, 64, 65, 66, 67, 68, 69, 70, 71, 72, 73, 74, 75, 81, 82, 83, 84, 85, 86, 87, 259, 260, 261, 262, 263, 264, 265, 266, 267, 88, 89, 90, 91, 92, 93, 94, 95, 96, 97, 98, 99, 100, 42, 101, 102, 103, 104, 105, 106, 107, 108, 109, 110, 111, 112, 113, 114, 115, 116, 117, 118, 119, 277, 129, 130, 131, 278, 279, 204, 205, 221, 186, 187, 188, 189, 190, 191, 192, 193, 41, 43, 194, 195, 196, 197, 198, 45, 46, 199, 200, 201, 202, 203, 206, 48, 49, 207, 208, 209, 210, 211, 288, 289, 290, 291, 292, 293, 294, 295, 296, 297, 298, 299, 300, 301, 302, 316, 317, 318, 303, 304, 305, 306, 307, 308, 309, 310, 319, 320, 321, 322] (by decide +kernel) (by decide +kernel)
set_option maxRecDepth 20000 in
theorem gX11_digest_X11_who : GoodIn wsX11_digest (wsV RX11 310 RX11 yX11_who wsX11_who) := goodIn_app (goodIn_of _ (by decide +kernel)) ggX11_digest_X11_who
set_option maxRecDepth 20000 in
theorem ggX11_digest_X11_count : GoodIn wsX11_digest wsX11_count := goodIn_r _ [283, 2, 3, 284, 5, 6, 285, 8, 9, 286, 287, 288, 289, 290, 291, 292, 293, 294, 295, 296, 297, 298, 299, 300, 301, 302, 303, 304, 305, 306, 307, 308, 309, 310, 311, 312, 313, 314, 315] (by decide +kernel) (by decide +kernel)
set_option maxRecDepth 20000 in
theorem gX11_digest_X11_count : GoodIn wsX11_digest (wsV RX11 316 RX11 yX11_count wsX11_count) := goodIn_app (goodIn_of _ (by decide +kernel)) ggX11_digest_X11_count
theorem dX11_digest_0 : decode cX11_digest 0 = .ok (.ldc2_w 290, 3) := by decide +kernel
theorem dX11_digest_3 : decode cX11_digest 3 = .ok (.lstore_n 1, 1) := by decide +kernel
theorem dX11_digest_4 : decode cX11_digest 4 = .ok (.iconst 0, 1) := by decide +kernel
theorem dX11_digest_5 : decode cX11_digest 5 = .ok (.istore_n 3, 1) := by decide +kernel
theorem dX11_digest_6 : decode cX11_digest 6 = .ok (.iload_n 3, 1) := by decide +kernel
theorem dX11_digest_7 : decode cX11_digest 7 = .ok (.aload_n 0, 1) := by decide +kernel
theorem dX11_digest_8 : decode cX11_digest 8 = .ok (.getfield 19, 3) := by decide +kernel
theorem dX11_digest_11 : decode cX11_digest 11 = .ok (.getfield 105, 3) := by decide +kernel
theorem dX11_digest_14 : decode cX11_digest 14 = .ok (.if_icmp .ge 39, 3) := by decide +kernel
theorem dX11_digest_17 : decode cX11_digest 17 = .ok (.iconst 0, 1) := by decide +kernel
theorem dX11_digest_18 : decode cX11_digest 18 = .ok (.istore 4, 2) := by decide +kernel
theorem dX11_digest_20 : decode cX11_digest 20 = .ok (.iload 4, 2) := by decide +kernel
theorem dX11_digest_22 : decode cX11_digest 22 = .ok (.iconst 3, 1) := by decide +kernel
theorem dX11_digest_23 : decode cX11_digest 23 = .ok (.if_icmp .gt 24, 3) := by decide +kernel
theorem dX11_digest_26 : decode cX11_digest 26 = .ok (.ldc2_w 292, 3) := by decide +kernel
theorem dX11_digest_29 : decode cX11_digest 29 = .ok (.lload_n 1, 1) := by decide +kernel
theorem dX11_digest_30 : decode cX11_digest 30 = .ok (.lmul, 1) := by decide +kernel
theorem dX11_digest_31 : decode cX11_digest 31 = .ok (.aload_n 0, 1) := by decide +kernel
theorem dX11_digest_32 : decode cX11_digest 32 = .ok (.iload_n 3, 1) := by decide +kernel
theorem dX11_digest_33 : decode cX11_digest 33 = .ok (.iload 4, 2) := by decide +kernel
theorem dX11_digest_35 : decode cX11_digest 35 = .ok (.invokevirtual 294, 3) := by decide +kernel
theorem dX11_digest_38 : decode cX11_digest 38 = .ok (.i2l, 1) := by decide +kernel
theorem dX11_digest_39 : decode cX11_digest 39 = .ok (.ladd, 1) := by decide +kernel
theorem dX11_digest_40 : decode cX11_digest 40 = .ok (.lstore_n 1, 1) := by decide +kernel
theorem dX11_digest_41 : decode cX11_digest 41 = .ok (.iinc 4 1, 3) := by decide +kernel
theorem dX11_digest_44 : decode cX11_digest 44 = .ok (.goto (-24), 3) := by decide +kernel
theorem dX11_digest_47 : decode cX11_digest 47 = .ok (.iinc 3 1, 3) := by decide +kernel
theorem dX11_digest_50 : decode cX11_digest 50 = .ok (.goto (-44), 3) := by decide +kernel
theorem dX11_digest_53 : decode cX11_digest 53 = .ok (.iconst 0, 1) := by decide +kernel
theorem dX11_digest_54 : decode cX11_digest 54 = .ok (.istore_n 3, 1) := by decide +kernel
theorem dX11_digest_55 : decode cX11_digest 55 = .ok (.iload_n 3, 1) := by decide +kernel
theorem dX11_digest_56 : decode cX11_digest 56 = .ok (.aload_n 0, 1) := by decide +kernel
theorem dX11_digest_57 : decode cX11_digest 57 = .ok (.getfield 96, 3) := by decide +kernel
theorem dX11_digest_60 : decode cX11_digest 60 = .ok (.if_icmp .ge 16, 3) := by decide +kernel
theorem dX11_digest_63 : decode cX11_digest 63 = .ok (.aload_n 0, 1) := by decide +kernel
theorem dX11_digest_64 : decode cX11_digest 64 = .ok (.lload_n 1, 1) := by decide +kernel
theorem dX11_digest_65 : decode cX11_digest 65 = .ok (.iload_n 3, 1) := by decide +kernel
theorem dX11_digest_66 : decode cX11_digest 66 = .ok (.invokevirtual 297, 3) := by decide +kernel
theorem dX11_digest_69 : decode cX11_digest 69 = .ok (.lstore_n 1, 1) := by decide +kernel
theorem dX11_digest_70 : decode cX11_digest 70 = .ok (.iinc 3 1, 3) := by decide +kernel
theorem dX11_digest_73 : decode cX11_digest 73 = .ok (.goto (-18), 3) := by decide +kernel
theorem dX11_digest_76 : decode cX11_digest 76 = .ok (.aload_n 0, 1) := by decide +kernel
theorem dX11_digest_77 : decode cX11_digest 77 = .ok (.invokevirtual 134, 3) := by decide +kernel
theorem dX11_digest_80 : decode cX11_digest 80 = .ok (.ifCond .eq 35, 3) := by decide +kernel
theorem dX11_digest_83 : decode cX11_digest 83 = .ok (.aload_n 0, 1) := by decide +kernel
theorem dX11_digest_84 : decode cX11_digest 84 = .ok (.iconst 0, 1) := by decide +kernel
theorem dX11_digest_85 : decode cX11_digest 85 = .ok (.invokevirtual 214, 3) := by decide +kernel
theorem dX11_digest_88 : decode cX11_digest 88 = .ok (.istore_n 3, 1) := by decide +kernel
theorem dX11_digest_89 : decode cX11_digest 89 = .ok (.ldc2_w 292, 3) := by decide +kernel
theorem dX11_digest_92 : decode cX11_digest 92 = .ok (.lload_n 1, 1) := by decide +kernel
theorem dX11_digest_93 : decode cX11_digest 93 = .ok (.lmul, 1) := by decide +kernel
theorem dX11_digest_94 : decode cX11_digest 94 = .ok (.iload_n 3, 1) := by decide +kernel
theorem dX11_digest_95 : decode cX11_digest 95 = .ok (.iconst 0, 1) := by decide +kernel
theorem dX11_digest_96 : decode cX11_digest 96 = .ok (.invokestatic 211, 3) := by decide +kernel
theorem dX11_digest_99 : decode cX11_digest 99 = .ok (.i2l, 1) := by decide +kernel
theorem dX11_digest_100 : decode cX11_digest 100 = .ok (.ladd, 1) := by decide +kernel
theorem dX11_digest_101 : decode cX11_digest 101 = .ok (.lstore_n 1, 1) := by decide +kernel
theorem dX11_digest_102 : decode cX11_digest 102 = .ok (.ldc2_w 292, 3) := by decide +kernel
theorem dX11_digest_105 : decode cX11_digest 105 = .ok (.lload_n 1, 1) := by decide +kernel
theorem dX11_digest_106 : decode cX11_digest 106 = .ok (.lmul, 1) := by decide +kernel
theorem dX11_digest_107 : decode cX11_digest 107 = .ok (.iload_n 3, 1) := by decide +kernel
theorem dX11_digest_108 : decode cX11_digest 108 = .ok (.iconst 1, 1) := by decide +kernel
theorem dX11_digest_109 : decode cX11_digest 109 = .ok (.invokestatic 211, 3) := by decide +kernel
theorem dX11_digest_112 : decode cX11_digest 112 = .ok (.i2l, 1) := by decide +kernel
theorem dX11_digest_113 : decode cX11_digest 113 = .ok (.ladd, 1) := by decide +kernel
theorem dX11_digest_114 : decode cX11_digest 114 = .ok (.lstore_n 1, 1) := by decide +kernel
theorem dX11_digest_115 : decode cX11_digest 115 = .ok (.iconst 0, 1) := by decide +kernel
theorem dX11_digest_116 : decode cX11_digest 116 = .ok (.istore_n 3, 1) := by decide +kernel
theorem dX11_digest_117 : decode cX11_digest 117 = .ok (.iload_n 3, 1) := by decide +kernel
theorem dX11_digest_118 : decode cX11_digest 118 = .ok (.aload_n 0, 1) := by decide +kernel
theorem dX11_digest_119 : decode cX11_digest 119 = .ok (.getfield 99, 3) := by decide +kernel
theorem dX11_digest_122 : decode cX11_digest 122 = .ok (.if_icmp .ge 60, 3) := by decide +kernel
theorem dX11_digest_125 : decode cX11_digest 125 = .ok (.ldc2_w 292, 3) := by decide +kernel
theorem dX11_digest_128 : decode cX11_digest 128 = .ok (.lload_n 1, 1) := by decide +kernel
theorem dX11_digest_129 : decode cX11_digest 129 = .ok (.lmul, 1) := by decide +kernel
theorem dX11_digest_130 : decode cX11_digest 130 = .ok (.aload_n 0, 1) := by decide +kernel
theorem dX11_digest_131 : decode cX11_digest 131 = .ok (.getfield 29, 3) := by decide +kernel
theorem dX11_digest_134 : decode cX11_digest 134 = .ok (.iload_n 3, 1) := by decide +kernel
theorem dX11_digest_135 : decode cX11_digest 135 = .ok (.iaload, 1) := by decide +kernel
theorem dX11_digest_136 : decode cX11_digest 136 = .ok (.invokestatic 301, 3) := by decide +kernel
theorem dX11_digest_139 : decode cX11_digest 139 = .ok (.i2l, 1) := by decide +kernel
theorem dX11_digest_140 : decode cX11_digest 140 = .ok (.ladd, 1) := by decide +kernel
theorem dX11_digest_141 : decode cX11_digest 141 = .ok (.lstore_n 1, 1) := by decide +kernel
theorem dX11_digest_142 : decode cX11_digest 142 = .ok (.ldc2_w 292, 3) := by decide +kernel
theorem dX11_digest_145 : decode cX11_digest 145 = .ok (.lload_n 1, 1) := by decide +kernel
theorem dX11_digest_146 : decode cX11_digest 146 = .ok (.lmul, 1) := by decide +kernel
theorem dX11_digest_147 : decode cX11_digest 147 = .ok (.aload_n 0, 1) := by decide +kernel
theorem dX11_digest_148 : decode cX11_digest 148 = .ok (.getfield 29, 3) := by decide +kernel
theorem dX11_digest_151 : decode cX11_digest 151 = .ok (.iload_n 3, 1) := by decide +kernel
theorem dX11_digest_152 : decode cX11_digest 152 = .ok (.iaload, 1) := by decide +kernel
theorem dX11_digest_153 : decode cX11_digest 153 = .ok (.invokestatic 304, 3) := by decide +kernel
theorem dX11_digest_156 : decode cX11_digest 156 = .ok (.i2l, 1) := by decide +kernel
theorem dX11_digest_157 : decode cX11_digest 157 = .ok (.ladd, 1) := by decide +kernel
theorem dX11_digest_158 : decode cX11_digest 158 = .ok (.lstore_n 1, 1) := by decide +kernel
theorem dX11_digest_159 : decode cX11_digest 159 = .ok (.ldc2_w 292, 3) := by decide +kernel
theorem dX11_digest_162 : decode cX11_digest 162 = .ok (.lload_n 1, 1) := by decide +kernel
theorem dX11_digest_163 : decode cX11_digest 163 = .ok (.lmul, 1) := by decide +kernel
theorem dX11_digest_164 : decode cX11_digest 164 = .ok (.aload_n 0, 1) := by decide +kernel
theorem dX11_digest_165 : decode cX11_digest 165 = .ok (.getfield 29, 3) := by decide +kernel
theorem dX11_digest_168 : decode cX11_digest 168 = .ok (.iload_n 3, 1) := by decide +kernel
theorem dX11_digest_169 : decode cX11_digest 169 = .ok (.iaload, 1) := by decide +kernel
theorem dX11_digest_170 : decode cX11_digest 170 = .ok (.invokestatic 307, 3) := by decide +kernel
theorem dX11_digest_173 : decode cX11_digest 173 = .ok (.i2l, 1) := by decide +kernel
theorem dX11_digest_174 : decode cX11_digest 174 = .ok (.ladd, 1) := by decide +kernel
theorem dX11_digest_175 : decode cX11_digest 175 = .ok (.lstore_n 1, 1) := by decide +kernel
theorem dX11_digest_176 : decode cX11_digest 176 = .ok (.iinc 3 1, 3) := by decide +kernel
theorem dX11_digest_179 : decode cX11_digest 179 = .ok (.goto (-62), 3) := by decide +kernel
theorem dX11_digest_182 : decode cX11_digest 182 = .ok (.ldc2_w 292, 3) := by decide +kernel
theorem dX11_digest_185 : decode cX11_digest 185 = .ok (.lload_n 1, 1) := by decide +kernel
theorem dX11_digest_186 : decode cX11_digest 186 = .ok (.lmul, 1) := by decide +kernel
theorem dX11_digest_187 : decode cX11_digest 187 = .ok (.aload_n 0, 1) := by decide +kernel
theorem dX11_digest_188 : decode cX11_digest 188 = .ok (.invokevirtual 310, 3) := by decide +kernel
theorem dX11_digest_191 : decode cX11_digest 191 = .ok (.i2l, 1) := by decide +kernel
theorem dX11_digest_192 : decode cX11_digest 192 = .ok (.ladd, 1) := by decide +kernel
theorem dX11_digest_193 : decode cX11_digest 193 = .ok (.lstore_n 1, 1) := by decide +kernel
theorem dX11_digest_194 : decode cX11_digest 194 = .ok (.iconst 0, 1) := by decide +kernel
theorem dX11_digest_195 : decode cX11_digest 195 = .ok (.istore_n 3, 1) := by decide +kernel
theorem dX11_digest_196 : decode cX11_digest 196 = .ok (.iload_n 3, 1) := by decide +kernel
theorem dX11_digest_197 : decode cX11_digest 197 = .ok (.aload_n 0, 1) := by decide +kernel
theorem dX11_digest_198 : decode cX11_digest 198 = .ok (.getfield 10, 3) := by decide +kernel
theorem dX11_digest_201 : decode cX11_digest 201 = .ok (.getfield 76, 3) := by decide +kernel
theorem dX11_digest_204 : decode cX11_digest 204 = .ok (.if_icmp .ge 26, 3) := by decide +kernel
theorem dX11_digest_207 : decode cX11_digest 207 = .ok (.ldc2_w 292, 3) := by decide +kernel
theorem dX11_digest_210 : decode cX11_digest 210 = .ok (.lload_n 1, 1) := by decide +kernel
theorem dX11_digest_211 : decode cX11_digest 211 = .ok (.lmul, 1) := by decide +kernel
theorem dX11_digest_212 : decode cX11_digest 212 = .ok (.aload_n 0, 1) := by decide +kernel
theorem dX11_digest_213 : decode cX11_digest 213 = .ok (.getfield 10, 3) := by decide +kernel
theorem dX11_digest_216 : decode cX11_digest 216 = .ok (.getfield 313, 3) := by decide +kernel
theorem dX11_digest_219 : decode cX11_digest 219 = .ok (.iload_n 3, 1) := by decide +kernel
theorem dX11_digest_220 : decode cX11_digest 220 = .ok (.iaload, 1) := by decide +kernel
theorem dX11_digest_221 : decode cX11_digest 221 = .ok (.i2l, 1) := by decide +kernel
theorem dX11_digest_222 : decode cX11_digest 222 = .ok (.ladd, 1) := by decide +kernel
theorem dX11_digest_223 : decode cX11_digest 223 = .ok (.lstore_n 1, 1) := by decide +kernel
theorem dX11_digest_224 : decode cX11_digest 224 = .ok (.iinc 3 1, 3) := by decide +kernel
theorem dX11_digest_227 : decode cX11_digest 227 = .ok (.goto (-31), 3) := by decide +kernel
theorem dX11_digest_230 : decode cX11_digest 230 = .ok (.iconst 0, 1) := by decide +kernel
theorem dX11_digest_231 : decode cX11_digest 231 = .ok (.istore_n 3, 1) := by decide +kernel
theorem dX11_digest_232 : decode cX11_digest 232 = .ok (.iload_n 3, 1) := by decide +kernel
theorem dX11_digest_233 : decode cX11_digest 233 = .ok (.bipush 7, 2) := by decide +kernel
theorem dX11_digest_235 : decode cX11_digest 235 = .ok (.if_icmp .gt 22, 3) := by decide +kernel
theorem dX11_digest_238 : decode cX11_digest 238 = .ok (.ldc2_w 292, 3) := by decide +kernel
theorem dX11_digest_241 : decode cX11_digest 241 = .ok (.lload_n 1, 1) := by decide +kernel
theorem dX11_digest_242 : decode cX11_digest 242 = .ok (.lmul, 1) := by decide +kernel
theorem dX11_digest_243 : decode cX11_digest 243 = .ok (.aload_n 0, 1) := by decide +kernel
theorem dX11_digest_244 : decode cX11_digest 244 = .ok (.iload_n 3, 1) := by decide +kernel
theorem dX11_digest_245 : decode cX11_digest 245 = .ok (.invokevirtual 316, 3) := by decide +kernel
theorem dX11_digest_248 : decode cX11_digest 248 = .ok (.i2l, 1) := by decide +kernel
theorem dX11_digest_249 : decode cX11_digest 249 = .ok (.ladd, 1) := by decide +kernel
theorem dX11_digest_250 : decode cX11_digest 250 = .ok (.lstore_n 1, 1) := by decide +kernel
theorem dX11_digest_251 : decode cX11_digest 251 = .ok (.iinc 3 1, 3) := by decide +kernel
theorem dX11_digest_254 : decode cX11_digest 254 = .ok (.goto (-22), 3) := by decide +kernel
theorem dX11_digest_257 : decode cX11_digest 257 = .ok (.lload_n 1, 1) := by decide +kernel
theorem dX11_digest_258 : decode cX11_digest 258 = .ok (.lreturn, 1) := by decide +kernel
set_option maxRecDepth 20000 in
theorem ggX11_withWalker_X11_about : GoodIn wsX11_withWalker wsX11_about := goodIn_r _ [7, 2, 8, 9, 10, 11, 12, 13, 6, 14, 15, 16, 17, 18, 19, 20, 21, 22, 23, 24, 25, 207, 208, 209, 210, 211, 212, 213, 214, 215, 216, 217, 218, 219, 220, 221, 222, 223, 224] (by decide +kernel) (by decide +kernel)
set_option maxRecDepth 20000 in
theorem gX11_withWalker_X11_about : GoodIn wsX11_withWalker (wsV RX11 319 RX11 yX11_about wsX11_about) := goodIn_app (goodIn_of _ (by decide +kernel)) ggX11_withWalker_X11_about
set_option maxRecDepth 20000 in
theorem ggX11_withWalker_X11_shut : GoodIn wsX11_withWalker wsX11_shut := goodIn_r _ [29, 2, 30, 8, 31, 11, 12, 13, 6, 14, 15, 32, 33, 34, 35, 36, 37, 38, 39, 40, 41, 42, 43, 44, 45, 46, 47, 48, 49, 50, 51, 52, 53, 54, 55, 56, 57, 58, 9, 59, 60, 61, 62, 63, 64, 65, 66, 67, 68, 69, 70, 71, 72, 73, 74, 75, 76, 77, 78, 18, 79, 80, 81, 82, 83, 84, 85, 86, 87, 88, 89, 90, 91, 92, 93, 94, 95, 96, 97, 98, 99, 100, 101, 102, 103, 104, 105, 106, 107, 108, 109, 207, 208, 209, 210, 211, 212, 213, 214, 215, 216, 217, 218, 219, 220, 221, 222, 223, 224, 225, 226, 227, 228, 229, 230, 231, 232, 233, 234, 235, 236] (by decide +kernel) (by decide +kernel)
set_option maxRecDepth 20000 in
theorem gX11_withWalker_X11_shut : GoodIn wsX11_withWalker (wsV RX11 322 RX11 yX11_shut wsX11_shut) := goodIn_app (goodIn_of _ (by decide +kernel)) ggX11_withWalker_X11_shut
set_option maxRecDepth 20000 in
theorem ggX11_withWalker_X11_fewestSteps : GoodIn wsX11_withWalker wsX11_fewestSteps := goodIn_r _ [113, 30, 8, 31, 114, 9, 115, 32, 33, 34, 35, 36, 37, 38, 39, 40, 41, 42, 43, 44, 45, 46, 47, 48, 49, 50, 51, 52, 116, 117, 118, 119, 120, 121, 122, 123, 124, 125, 126, 127, 128, 129, 130, 131, 132, 75, 133, 134, 135, 136, 137, 138, 139, 140, 141, 142, 143, 144, 145, 146, 147, 148, 149, 150, 151, 152, 153, 154, 155, 17, 18, 19, 156, 157, 158, 159, 160, 161, 162, 163, 164, 165, 166, 167, 168, 169, 170, 171, 172, 173, 174, 175, 176, 21, 22, 177, 78, 79, 178, 179, 180, 181, 182, 183, 184, 24, 25, 185, 186, 187, 188, 189, 190, 191, 192, 207, 208, 209, 210, 211, 212, 213, 214, 215, 216, 217, 218, 219, 220, 221, 222, 223, 224, 225, 226, 227, 228, 229, 230, 231, 232, 233, 234, 237, 238, 239, 240, 241] (by decide +kernel) (by decide +kernel)
set_option maxRecDepth 20000 in
theorem gX11_withWalker_X11_fewestSteps : GoodIn wsX11_withWalker (wsV RX11 181 RX11 yX11_fewestSteps wsX11_fewestSteps) := goodIn_app (goodIn_of _ (by decide +kernel)) ggX11_withWalker_X11_fewestSteps
set_option maxRecDepth 20000 in
theorem ggX11_withWalker_X11_firstStreet : GoodIn wsX11_withWalker wsX11_firstStreet := goodIn_r _ [196, 9, 30, 8, 31, 58, 197, 198, 114, 16, 17, 18, 19, 32, 33, 34, 35, 36, 37, 38, 39, 40, 41, 42, 43, 44, 45, 46, 47, 48, 49, 50, 51, 52, 199, 164, 165, 166, 167, 168, 169, 170, 171, 172, 173, 174, 175, 176, 21, 22, 177, 78, 79, 178, 179, 180, 181, 182, 183, 184, 24, 25, 185, 186, 187, 188, 189, 116, 117, 118, 119, 120, 121, 122, 123, 124, 125, 126, 127, 128, 129, 130, 131, 132, 75, 133, 134, 135, 136, 137, 138, 139, 140, 141, 142, 143, 144, 145, 146, 147, 148, 149, 150, 151, 152, 153, 154, 155, 156, 157, 158, 159, 160, 161, 162, 163, 190, 191, 192, 222, 223, 224, 207, 208, 209, 210, 211, 212, 213, 214, 215, 216, 217, 218, 219, 220, 221, 225, 226, 227, 228, 229, 230, 231, 232, 233, 234, 237, 238, 239, 240, 241] (by decide +kernel) (by decide +kernel)
set_option maxRecDepth 20000 in
theorem gX11_withWalker_X11_firstStreet : GoodIn wsX11_withWalker (wsV RX11 184 RX11 yX11_firstStreet wsX11_firstStreet) := goodIn_app (goodIn_of _ (by decide +kernel)) ggX11_withWalker_X11_firstStreet
set_option maxRecDepth 20000 in
theorem ggX11_withWalker_X11_fewestSkips : GoodIn wsX11_withWalker wsX11_fewestSkips := goodIn_r _ [203, 30, 8, 31, 114, 9, 115, 32, 33, 34, 35, 36, 37, 38, 39, 40, 41, 42, 43, 44, 45, 46, 47, 48, 49, 50, 51, 52, 116, 117, 118, 119, 120, 121, 122, 123, 124, 125, 126, 127, 128, 129, 130, 131, 132, 75, 133, 134, 135, 136, 137, 138, 139, 140, 141, 142, 143, 144, 145, 146, 147, 148, 149, 150, 151, 152, 153, 154, 155, 17, 18, 19, 156, 157, 158, 159, 160, 161, 162, 163, 164, 165, 166, 167, 168, 169, 170, 171, 172, 173, 174, 175, 176, 21, 22, 177, 78, 79, 178, 179, 180, 181, 182, 183, 184, 24, 25, 185, 186, 187, 188, 189, 190, 191, 192, 207, 208, 209, 210, 211, 212, 213, 214, 215, 216, 217, 218, 219, 220, 221, 222, 223, 224, 225, 226, 227, 228, 229, 230, 231, 232, 233, 234, 237, 238, 239, 240, 241] (by decide +kernel) (by decide +kernel)
set_option maxRecDepth 20000 in
theorem gX11_withWalker_X11_fewestSkips : GoodIn wsX11_withWalker (wsV RX11 188 RX11 yX11_fewestSkips wsX11_fewestSkips) := goodIn_app (goodIn_of _ (by decide +kernel)) ggX11_withWalker_X11_fewestSkips
set_option maxRecDepth 20000 in
theorem ggX11_withWalker_X11_skipsTold : GoodIn wsX11_withWalker wsX11_skipsTold := goodIn_r _ [206] (by decide +kernel) (by decide +kernel)
set_option maxRecDepth 20000 in
theorem gX11_withWalker_X11_skipsTold : GoodIn wsX11_withWalker (va_wsS RX11 191 yX11_skipsTold wsX11_skipsTold) := goodIn_app (goodIn_of _ (by decide +kernel)) ggX11_withWalker_X11_skipsTold
theorem dX11_withWalker_0 : decode cX11_withWalker 0 = .ok (.lload_n 1, 1) := by decide +kernel
theorem dX11_withWalker_1 : decode cX11_withWalker 1 = .ok (.lstore 4, 2) := by decide +kernel
theorem dX11_withWalker_3 : decode cX11_withWalker 3 = .ok (.iconst 0, 1) := by decide +kernel
theorem dX11_withWalker_4 : decode cX11_withWalker 4 = .ok (.istore 6, 2) := by decide +kernel
theorem dX11_withWalker_6 : decode cX11_withWalker 6 = .ok (.iload 6, 2) := by decide +kernel
theorem dX11_withWalker_8 : decode cX11_withWalker 8 = .ok (.bipush 6, 2) := by decide +kernel
theorem dX11_withWalker_10 : decode cX11_withWalker 10 = .ok (.if_icmp .gt 26, 3) := by decide +kernel
theorem dX11_withWalker_13 : decode cX11_withWalker 13 = .ok (.ldc2_w 292, 3) := by decide +kernel
theorem dX11_withWalker_16 : decode cX11_withWalker 16 = .ok (.lload 4, 2) := by decide +kernel
theorem dX11_withWalker_18 : decode cX11_withWalker 18 = .ok (.lmul, 1) := by decide +kernel
theorem dX11_withWalker_19 : decode cX11_withWalker 19 = .ok (.aload_n 0, 1) := by decide +kernel
theorem dX11_withWalker_20 : decode cX11_withWalker 20 = .ok (.iload_n 3, 1) := by decide +kernel
theorem dX11_withWalker_21 : decode cX11_withWalker 21 = .ok (.iload 6, 2) := by decide +kernel
theorem dX11_withWalker_23 : decode cX11_withWalker 23 = .ok (.invokevirtual 319, 3) := by decide +kernel
theorem dX11_withWalker_26 : decode cX11_withWalker 26 = .ok (.i2l, 1) := by decide +kernel
theorem dX11_withWalker_27 : decode cX11_withWalker 27 = .ok (.ladd, 1) := by decide +kernel
theorem dX11_withWalker_28 : decode cX11_withWalker 28 = .ok (.lstore 4, 2) := by decide +kernel
theorem dX11_withWalker_30 : decode cX11_withWalker 30 = .ok (.iinc 6 1, 3) := by decide +kernel
theorem dX11_withWalker_33 : decode cX11_withWalker 33 = .ok (.goto (-27), 3) := by decide +kernel
theorem dX11_withWalker_36 : decode cX11_withWalker 36 = .ok (.ldc2_w 292, 3) := by decide +kernel
theorem dX11_withWalker_39 : decode cX11_withWalker 39 = .ok (.lload 4, 2) := by decide +kernel
theorem dX11_withWalker_41 : decode cX11_withWalker 41 = .ok (.lmul, 1) := by decide +kernel
theorem dX11_withWalker_42 : decode cX11_withWalker 42 = .ok (.aload_n 0, 1) := by decide +kernel
theorem dX11_withWalker_43 : decode cX11_withWalker 43 = .ok (.iload_n 3, 1) := by decide +kernel
theorem dX11_withWalker_44 : decode cX11_withWalker 44 = .ok (.invokevirtual 322, 3) := by decide +kernel
theorem dX11_withWalker_47 : decode cX11_withWalker 47 = .ok (.i2l, 1) := by decide +kernel
theorem dX11_withWalker_48 : decode cX11_withWalker 48 = .ok (.ladd, 1) := by decide +kernel
theorem dX11_withWalker_49 : decode cX11_withWalker 49 = .ok (.lstore 4, 2) := by decide +kernel
theorem dX11_withWalker_51 : decode cX11_withWalker 51 = .ok (.aload_n 0, 1) := by decide +kernel
theorem dX11_withWalker_52 : decode cX11_withWalker 52 = .ok (.aload_n 0, 1) := by decide +kernel
theorem dX11_withWalker_53 : decode cX11_withWalker 53 = .ok (.getfield 25, 3) := by decide +kernel
theorem dX11_withWalker_56 : decode cX11_withWalker 56 = .ok (.iload_n 3, 1) := by decide +kernel
theorem dX11_withWalker_57 : decode cX11_withWalker 57 = .ok (.aaload, 1) := by decide +kernel
theorem dX11_withWalker_58 : decode cX11_withWalker 58 = .ok (.bipush 6, 2) := by decide +kernel
theorem dX11_withWalker_60 : decode cX11_withWalker 60 = .ok (.invokevirtual 181, 3) := by decide +kernel
theorem dX11_withWalker_63 : decode cX11_withWalker 63 = .ok (.istore 6, 2) := by decide +kernel
theorem dX11_withWalker_65 : decode cX11_withWalker 65 = .ok (.ldc2_w 292, 3) := by decide +kernel
theorem dX11_withWalker_68 : decode cX11_withWalker 68 = .ok (.lload 4, 2) := by decide +kernel
theorem dX11_withWalker_70 : decode cX11_withWalker 70 = .ok (.lmul, 1) := by decide +kernel
theorem dX11_withWalker_71 : decode cX11_withWalker 71 = .ok (.iload 6, 2) := by decide +kernel
theorem dX11_withWalker_73 : decode cX11_withWalker 73 = .ok (.i2l, 1) := by decide +kernel
theorem dX11_withWalker_74 : decode cX11_withWalker 74 = .ok (.ladd, 1) := by decide +kernel
theorem dX11_withWalker_75 : decode cX11_withWalker 75 = .ok (.lstore 4, 2) := by decide +kernel
theorem dX11_withWalker_77 : decode cX11_withWalker 77 = .ok (.ldc2_w 292, 3) := by decide +kernel
theorem dX11_withWalker_80 : decode cX11_withWalker 80 = .ok (.lload 4, 2) := by decide +kernel
theorem dX11_withWalker_82 : decode cX11_withWalker 82 = .ok (.lmul, 1) := by decide +kernel
theorem dX11_withWalker_83 : decode cX11_withWalker 83 = .ok (.aload_n 0, 1) := by decide +kernel
theorem dX11_withWalker_84 : decode cX11_withWalker 84 = .ok (.aload_n 0, 1) := by decide +kernel
theorem dX11_withWalker_85 : decode cX11_withWalker 85 = .ok (.getfield 25, 3) := by decide +kernel
theorem dX11_withWalker_88 : decode cX11_withWalker 88 = .ok (.iload_n 3, 1) := by decide +kernel
theorem dX11_withWalker_89 : decode cX11_withWalker 89 = .ok (.aaload, 1) := by decide +kernel
theorem dX11_withWalker_90 : decode cX11_withWalker 90 = .ok (.bipush 6, 2) := by decide +kernel
theorem dX11_withWalker_92 : decode cX11_withWalker 92 = .ok (.iload 6, 2) := by decide +kernel
theorem dX11_withWalker_94 : decode cX11_withWalker 94 = .ok (.invokevirtual 184, 3) := by decide +kernel
theorem dX11_withWalker_97 : decode cX11_withWalker 97 = .ok (.i2l, 1) := by decide +kernel
theorem dX11_withWalker_98 : decode cX11_withWalker 98 = .ok (.ladd, 1) := by decide +kernel
theorem dX11_withWalker_99 : decode cX11_withWalker 99 = .ok (.lstore 4, 2) := by decide +kernel
theorem dX11_withWalker_101 : decode cX11_withWalker 101 = .ok (.aload_n 0, 1) := by decide +kernel
theorem dX11_withWalker_102 : decode cX11_withWalker 102 = .ok (.aload_n 0, 1) := by decide +kernel
theorem dX11_withWalker_103 : decode cX11_withWalker 103 = .ok (.getfield 25, 3) := by decide +kernel
theorem dX11_withWalker_106 : decode cX11_withWalker 106 = .ok (.iload_n 3, 1) := by decide +kernel
theorem dX11_withWalker_107 : decode cX11_withWalker 107 = .ok (.aaload, 1) := by decide +kernel
theorem dX11_withWalker_108 : decode cX11_withWalker 108 = .ok (.bipush 6, 2) := by decide +kernel
theorem dX11_withWalker_110 : decode cX11_withWalker 110 = .ok (.invokevirtual 188, 3) := by decide +kernel
theorem dX11_withWalker_113 : decode cX11_withWalker 113 = .ok (.istore 7, 2) := by decide +kernel
theorem dX11_withWalker_115 : decode cX11_withWalker 115 = .ok (.ldc2_w 292, 3) := by decide +kernel
theorem dX11_withWalker_118 : decode cX11_withWalker 118 = .ok (.lload 4, 2) := by decide +kernel
theorem dX11_withWalker_120 : decode cX11_withWalker 120 = .ok (.lmul, 1) := by decide +kernel
theorem dX11_withWalker_121 : decode cX11_withWalker 121 = .ok (.iload 7, 2) := by decide +kernel
theorem dX11_withWalker_123 : decode cX11_withWalker 123 = .ok (.iconst 0, 1) := by decide +kernel
theorem dX11_withWalker_124 : decode cX11_withWalker 124 = .ok (.invokestatic 191, 3) := by decide +kernel
theorem dX11_withWalker_127 : decode cX11_withWalker 127 = .ok (.i2l, 1) := by decide +kernel
theorem dX11_withWalker_128 : decode cX11_withWalker 128 = .ok (.ladd, 1) := by decide +kernel
theorem dX11_withWalker_129 : decode cX11_withWalker 129 = .ok (.lstore 4, 2) := by decide +kernel
theorem dX11_withWalker_131 : decode cX11_withWalker 131 = .ok (.ldc2_w 292, 3) := by decide +kernel
theorem dX11_withWalker_134 : decode cX11_withWalker 134 = .ok (.lload 4, 2) := by decide +kernel
theorem dX11_withWalker_136 : decode cX11_withWalker 136 = .ok (.lmul, 1) := by decide +kernel
theorem dX11_withWalker_137 : decode cX11_withWalker 137 = .ok (.iload 7, 2) := by decide +kernel
theorem dX11_withWalker_139 : decode cX11_withWalker 139 = .ok (.iconst 1, 1) := by decide +kernel
theorem dX11_withWalker_140 : decode cX11_withWalker 140 = .ok (.invokestatic 191, 3) := by decide +kernel
theorem dX11_withWalker_143 : decode cX11_withWalker 143 = .ok (.i2l, 1) := by decide +kernel
theorem dX11_withWalker_144 : decode cX11_withWalker 144 = .ok (.ladd, 1) := by decide +kernel
theorem dX11_withWalker_145 : decode cX11_withWalker 145 = .ok (.lstore 4, 2) := by decide +kernel
theorem dX11_withWalker_147 : decode cX11_withWalker 147 = .ok (.lload 4, 2) := by decide +kernel
theorem dX11_withWalker_149 : decode cX11_withWalker 149 = .ok (.lreturn, 1) := by decide +kernel
theorem dX11_hasTown_0 : decode cX11_hasTown 0 = .ok (.aload_n 0, 1) := by decide +kernel
theorem dX11_hasTown_1 : decode cX11_hasTown 1 = .ok (.getfield 19, 3) := by decide +kernel
theorem dX11_hasTown_4 : decode cX11_hasTown 4 = .ok (.getfield 105, 3) := by decide +kernel
theorem dX11_hasTown_7 : decode cX11_hasTown 7 = .ok (.ifCond .le 7, 3) := by decide +kernel
theorem dX11_hasTown_10 : decode cX11_hasTown 10 = .ok (.iconst 1, 1) := by decide +kernel
theorem dX11_hasTown_11 : decode cX11_hasTown 11 = .ok (.goto 4, 3) := by decide +kernel
theorem dX11_hasTown_14 : decode cX11_hasTown 14 = .ok (.iconst 0, 1) := by decide +kernel
theorem dX11_hasTown_15 : decode cX11_hasTown 15 = .ok (.ireturn, 1) := by decide +kernel
theorem dX11_isStreet_0 : decode cX11_isStreet 0 = .ok (.iload_n 1, 1) := by decide +kernel
theorem dX11_isStreet_1 : decode cX11_isStreet 1 = .ok (.ifCond .lt 18, 3) := by decide +kernel
theorem dX11_isStreet_4 : decode cX11_isStreet 4 = .ok (.iload_n 1, 1) := by decide +kernel
theorem dX11_isStreet_5 : decode cX11_isStreet 5 = .ok (.aload_n 0, 1) := by decide +kernel
theorem dX11_isStreet_6 : decode cX11_isStreet 6 = .ok (.getfield 19, 3) := by decide +kernel
theorem dX11_isStreet_9 : decode cX11_isStreet 9 = .ok (.getfield 105, 3) := by decide +kernel
theorem dX11_isStreet_12 : decode cX11_isStreet 12 = .ok (.if_icmp .ge 7, 3) := by decide +kernel
theorem dX11_isStreet_15 : decode cX11_isStreet 15 = .ok (.iconst 1, 1) := by decide +kernel
theorem dX11_isStreet_16 : decode cX11_isStreet 16 = .ok (.goto 4, 3) := by decide +kernel
theorem dX11_isStreet_19 : decode cX11_isStreet 19 = .ok (.iconst 0, 1) := by decide +kernel
theorem dX11_isStreet_20 : decode cX11_isStreet 20 = .ok (.ireturn, 1) := by decide +kernel
theorem dX11_isWalker_0 : decode cX11_isWalker 0 = .ok (.iload_n 1, 1) := by decide +kernel
theorem dX11_isWalker_1 : decode cX11_isWalker 1 = .ok (.ifCond .lt 15, 3) := by decide +kernel
theorem dX11_isWalker_4 : decode cX11_isWalker 4 = .ok (.iload_n 1, 1) := by decide +kernel
theorem dX11_isWalker_5 : decode cX11_isWalker 5 = .ok (.aload_n 0, 1) := by decide +kernel
theorem dX11_isWalker_6 : decode cX11_isWalker 6 = .ok (.getfield 96, 3) := by decide +kernel
theorem dX11_isWalker_9 : decode cX11_isWalker 9 = .ok (.if_icmp .ge 7, 3) := by decide +kernel
theorem dX11_isWalker_12 : decode cX11_isWalker 12 = .ok (.iconst 1, 1) := by decide +kernel
theorem dX11_isWalker_13 : decode cX11_isWalker 13 = .ok (.goto 4, 3) := by decide +kernel
theorem dX11_isWalker_16 : decode cX11_isWalker 16 = .ok (.iconst 0, 1) := by decide +kernel
theorem dX11_isWalker_17 : decode cX11_isWalker 17 = .ok (.ireturn, 1) := by decide +kernel
set_option maxRecDepth 20000 in
theorem ggX11_isPlace_X11_isWithin : GoodIn wsX11_isPlace wsX11_isWithin := goodIn_r _ [4] (by decide +kernel) (by decide +kernel)
set_option maxRecDepth 20000 in
theorem gX11_isPlace_X11_isWithin : GoodIn wsX11_isPlace (va_wsS RX11 124 yX11_isWithin wsX11_isWithin) := goodIn_app (goodIn_of _ (by decide +kernel)) ggX11_isPlace_X11_isWithin
theorem dX11_isPlace_0 : decode cX11_isPlace 0 = .ok (.iload_n 0, 1) := by decide +kernel
theorem dX11_isPlace_1 : decode cX11_isPlace 1 = .ok (.bipush 6, 2) := by decide +kernel
theorem dX11_isPlace_3 : decode cX11_isPlace 3 = .ok (.invokestatic 124, 3) := by decide +kernel
theorem dX11_isPlace_6 : decode cX11_isPlace 6 = .ok (.ireturn, 1) := by decide +kernel
set_option maxRecDepth 20000 in
theorem ggX11_isKind_X11_isWithin : GoodIn wsX11_isKind wsX11_isWithin := goodIn_r _ [4] (by decide +kernel) (by decide +kernel)
set_option maxRecDepth 20000 in
theorem gX11_isKind_X11_isWithin : GoodIn wsX11_isKind (va_wsS RX11 124 yX11_isWithin wsX11_isWithin) := goodIn_app (goodIn_of _ (by decide +kernel)) ggX11_isKind_X11_isWithin
theorem dX11_isKind_0 : decode cX11_isKind 0 = .ok (.iload_n 0, 1) := by decide +kernel
theorem dX11_isKind_1 : decode cX11_isKind 1 = .ok (.iconst 4, 1) := by decide +kernel
theorem dX11_isKind_2 : decode cX11_isKind 2 = .ok (.invokestatic 124, 3) := by decide +kernel
theorem dX11_isKind_5 : decode cX11_isKind 5 = .ok (.ireturn, 1) := by decide +kernel
theorem dX11_isWithin_0 : decode cX11_isWithin 0 = .ok (.iload_n 0, 1) := by decide +kernel
theorem dX11_isWithin_1 : decode cX11_isWithin 1 = .ok (.ifCond .lt 12, 3) := by decide +kernel
theorem dX11_isWithin_4 : decode cX11_isWithin 4 = .ok (.iload_n 0, 1) := by decide +kernel
theorem dX11_isWithin_5 : decode cX11_isWithin 5 = .ok (.iload_n 1, 1) := by decide +kernel
theorem dX11_isWithin_6 : decode cX11_isWithin 6 = .ok (.if_icmp .gt 7, 3) := by decide +kernel
theorem dX11_isWithin_9 : decode cX11_isWithin 9 = .ok (.iconst 1, 1) := by decide +kernel
theorem dX11_isWithin_10 : decode cX11_isWithin 10 = .ok (.goto 4, 3) := by decide +kernel
theorem dX11_isWithin_13 : decode cX11_isWithin 13 = .ok (.iconst 0, 1) := by decide +kernel
theorem dX11_isWithin_14 : decode cX11_isWithin 14 = .ok (.ireturn, 1) := by decide +kernel
set_option maxRecDepth 20000 in
theorem ggX11_standBehind_X9_turnOf : GoodIn wsX11_standBehind wsX9_turnOf := goodIn_r _ [8, 9, 10, 7, 11] (by decide +kernel) (by decide +kernel)
set_option maxRecDepth 20000 in
theorem gX11_standBehind_X9_turnOf : GoodIn wsX11_standBehind (va_wsS RX11 255 yX9_turnOf wsX9_turnOf) := goodIn_app (goodIn_of _ (by decide +kernel)) ggX11_standBehind_X9_turnOf
set_option maxRecDepth 20000 in
theorem ggX11_standBehind_X8_behind : GoodIn wsX11_standBehind wsX8_behind := goodIn_r _ [16, 17, 18, 19, 20, 21, 22, 23, 24, 25, 26, 15, 27, 28, 29, 30, 31, 32, 33, 34, 35, 36, 37, 38, 39, 40, 41, 42, 43, 44, 45, 46, 47, 66, 67, 68, 69, 70, 71, 72, 73] (by decide +kernel) (by decide +kernel)
set_option maxRecDepth 20000 in
theorem gX11_standBehind_X8_behind : GoodIn wsX11_standBehind (wsV RX11 258 RX8 yX8_behind wsX8_behind) := goodIn_app (goodIn_of _ (by decide +kernel)) ggX11_standBehind_X8_behind
theorem dX11_standBehind_0 : decode cX11_standBehind 0 = .ok (.aload_n 0, 1) := by decide +kernel
theorem dX11_standBehind_1 : decode cX11_standBehind 1 = .ok (.getfield 19, 3) := by decide +kernel
theorem dX11_standBehind_4 : decode cX11_standBehind 4 = .ok (.aload_n 1, 1) := by decide +kernel
theorem dX11_standBehind_5 : decode cX11_standBehind 5 = .ok (.getfield 146, 3) := by decide +kernel
theorem dX11_standBehind_8 : decode cX11_standBehind 8 = .ok (.iload_n 2, 1) := by decide +kernel
theorem dX11_standBehind_9 : decode cX11_standBehind 9 = .ok (.aload_n 1, 1) := by decide +kernel
theorem dX11_standBehind_10 : decode cX11_standBehind 10 = .ok (.getfield 137, 3) := by decide +kernel
theorem dX11_standBehind_13 : decode cX11_standBehind 13 = .ok (.aload_n 0, 1) := by decide +kernel
theorem dX11_standBehind_14 : decode cX11_standBehind 14 = .ok (.getfield 19, 3) := by decide +kernel
theorem dX11_standBehind_17 : decode cX11_standBehind 17 = .ok (.getfield 118, 3) := by decide +kernel
theorem dX11_standBehind_20 : decode cX11_standBehind 20 = .ok (.iload_n 2, 1) := by decide +kernel
theorem dX11_standBehind_21 : decode cX11_standBehind 21 = .ok (.iaload, 1) := by decide +kernel
theorem dX11_standBehind_22 : decode cX11_standBehind 22 = .ok (.invokestatic 255, 3) := by decide +kernel
theorem dX11_standBehind_25 : decode cX11_standBehind 25 = .ok (.invokevirtual 258, 3) := by decide +kernel
theorem dX11_standBehind_28 : decode cX11_standBehind 28 = .ok (.ireturn, 1) := by decide +kernel
set_option maxRecDepth 20000 in
theorem ggX11_fewestSteps_X2_take : GoodIn wsX11_fewestSteps wsX2_take := goodIn_r _ [11, 12, 13, 14, 15, 16, 10, 17, 18, 19, 20, 21, 22, 23, 24, 25, 26, 27, 133, 134, 135, 136, 137, 138, 139, 140, 141, 142] (by decide +kernel) (by decide +kernel)
set_option maxRecDepth 20000 in
theorem gX11_fewestSteps_X2_take : GoodIn wsX11_fewestSteps (wsV RX11 194 RX2 yX2_take wsX2_take) := goodIn_app (goodIn_of _ (by decide +kernel)) ggX11_fewestSteps_X2_take
set_option maxRecDepth 20000 in
theorem ggX11_fewestSteps_X10_leastTo : GoodIn wsX11_fewestSteps wsX10_leastTo := goodIn_r _ [32, 33, 34, 35, 36, 37, 38, 39, 40, 41, 42, 43, 44, 45, 46, 47, 48, 49, 50, 51, 52, 53, 54, 55, 56, 57, 58, 59, 60, 61, 62, 63, 64, 65, 66, 67, 68, 69, 70, 71, 72, 73, 74, 31, 75, 76, 77, 78, 79, 80, 81, 82, 83, 84, 85, 86, 87, 88, 89, 90, 91, 92, 93, 94, 95, 96, 97, 98, 99, 100, 101, 102, 103, 104, 105, 106, 107, 108, 109, 110, 111, 112, 113, 114, 143, 144, 145, 146, 147, 133, 134, 135, 136, 137, 138, 139, 140, 141, 142] (by decide +kernel) (by decide +kernel)
set_option maxRecDepth 20000 in
theorem gX11_fewestSteps_X10_leastTo : GoodIn wsX11_fewestSteps (wsV RX11 326 RX10 yX10_leastTo wsX10_leastTo) := goodIn_app (goodIn_of _ (by decide +kernel)) ggX11_fewestSteps_X10_leastTo
theorem dX11_fewestSteps_0 : decode cX11_fewestSteps 0 = .ok (.aload_n 0, 1) := by decide +kernel
theorem dX11_fewestSteps_1 : decode cX11_fewestSteps 1 = .ok (.getfield 43, 3) := by decide +kernel
theorem dX11_fewestSteps_4 : decode cX11_fewestSteps 4 = .ok (.aload_n 1, 1) := by decide +kernel
theorem dX11_fewestSteps_5 : decode cX11_fewestSteps 5 = .ok (.getfield 137, 3) := by decide +kernel
theorem dX11_fewestSteps_8 : decode cX11_fewestSteps 8 = .ok (.aload_n 0, 1) := by decide +kernel
theorem dX11_fewestSteps_9 : decode cX11_fewestSteps 9 = .ok (.getfield 19, 3) := by decide +kernel
theorem dX11_fewestSteps_12 : decode cX11_fewestSteps 12 = .ok (.invokevirtual 194, 3) := by decide +kernel
theorem dX11_fewestSteps_15 : decode cX11_fewestSteps 15 = .ok (.aload_n 0, 1) := by decide +kernel
theorem dX11_fewestSteps_16 : decode cX11_fewestSteps 16 = .ok (.getfield 53, 3) := by decide +kernel
theorem dX11_fewestSteps_19 : decode cX11_fewestSteps 19 = .ok (.aload_n 0, 1) := by decide +kernel
theorem dX11_fewestSteps_20 : decode cX11_fewestSteps 20 = .ok (.getfield 19, 3) := by decide +kernel
theorem dX11_fewestSteps_23 : decode cX11_fewestSteps 23 = .ok (.aload_n 0, 1) := by decide +kernel
theorem dX11_fewestSteps_24 : decode cX11_fewestSteps 24 = .ok (.getfield 43, 3) := by decide +kernel
theorem dX11_fewestSteps_27 : decode cX11_fewestSteps 27 = .ok (.aload_n 1, 1) := by decide +kernel
theorem dX11_fewestSteps_28 : decode cX11_fewestSteps 28 = .ok (.getfield 146, 3) := by decide +kernel
theorem dX11_fewestSteps_31 : decode cX11_fewestSteps 31 = .ok (.iload_n 2, 1) := by decide +kernel
theorem dX11_fewestSteps_32 : decode cX11_fewestSteps 32 = .ok (.ldc_w 325, 3) := by decide +kernel
theorem dX11_fewestSteps_35 : decode cX11_fewestSteps 35 = .ok (.iconst 0, 1) := by decide +kernel
theorem dX11_fewestSteps_36 : decode cX11_fewestSteps 36 = .ok (.invokevirtual 326, 3) := by decide +kernel
theorem dX11_fewestSteps_39 : decode cX11_fewestSteps 39 = .ok (.ireturn, 1) := by decide +kernel
set_option maxRecDepth 20000 in
theorem ggX11_firstStreet_X7_placeOf : GoodIn wsX11_firstStreet wsX7_placeOf := goodIn_r _ [12] (by decide +kernel) (by decide +kernel)
set_option maxRecDepth 20000 in
theorem gX11_firstStreet_X7_placeOf : GoodIn wsX11_firstStreet (va_wsS RX11 155 yX7_placeOf wsX7_placeOf) := goodIn_app (goodIn_of _ (by decide +kernel)) ggX11_firstStreet_X7_placeOf
set_option maxRecDepth 20000 in
theorem ggX11_firstStreet_X2_take : GoodIn wsX11_firstStreet wsX2_take := goodIn_r _ [17, 18, 19, 20, 21, 22, 16, 23, 24, 25, 26, 27, 28, 29, 30, 31, 32, 33, 137, 138, 139, 140, 141, 142, 143, 144, 145, 146] (by decide +kernel) (by decide +kernel)
set_option maxRecDepth 20000 in
theorem gX11_firstStreet_X2_take : GoodIn wsX11_firstStreet (wsV RX11 194 RX2 yX2_take wsX2_take) := goodIn_app (goodIn_of _ (by decide +kernel)) ggX11_firstStreet_X2_take
set_option maxRecDepth 20000 in
theorem ggX11_firstStreet_X8_behind : GoodIn wsX11_firstStreet wsX8_behind := goodIn_r _ [38, 39, 40, 41, 42, 10, 11, 12, 43, 44, 45, 37, 46, 47, 48, 49, 50, 51, 52, 53, 54, 55, 56, 57, 58, 59, 60, 61, 62, 63, 64, 65, 66, 137, 138, 139, 140, 141, 142, 143, 144] (by decide +kernel) (by decide +kernel)
set_option maxRecDepth 20000 in
theorem gX11_firstStreet_X8_behind : GoodIn wsX11_firstStreet (wsV RX11 258 RX8 yX8_behind wsX8_behind) := goodIn_app (goodIn_of _ (by decide +kernel)) ggX11_firstStreet_X8_behind
set_option maxRecDepth 20000 in
theorem ggX11_firstStreet_X10_leastTo : GoodIn wsX11_firstStreet wsX10_leastTo := goodIn_r _ [71, 72, 73, 74, 75, 76, 77, 78, 79, 80, 81, 82, 83, 84, 85, 86, 87, 88, 89, 90, 91, 92, 93, 94, 95, 96, 97, 98, 99, 100, 101, 102, 103, 104, 105, 106, 107, 10, 11, 12, 108, 109, 110, 70, 111, 112, 113, 114, 115, 35, 36, 37, 38, 39, 40, 41, 42, 43, 44, 45, 46, 47, 48, 49, 50, 51, 52, 53, 54, 55, 56, 57, 58, 59, 60, 61, 62, 63, 64, 65, 66, 116, 117, 118, 147, 148, 149, 150, 151, 137, 138, 139, 140, 141, 142, 143, 144, 145, 146] (by decide +kernel) (by decide +kernel)
set_option maxRecDepth 20000 in
theorem gX11_firstStreet_X10_leastTo : GoodIn wsX11_firstStreet (wsV RX11 326 RX10 yX10_leastTo wsX10_leastTo) := goodIn_app (goodIn_of _ (by decide +kernel)) ggX11_firstStreet_X10_leastTo
theorem dX11_firstStreet_0 : decode cX11_firstStreet 0 = .ok (.iload_n 3, 1) := by decide +kernel
theorem dX11_firstStreet_1 : decode cX11_firstStreet 1 = .ok (.iconst (-1), 1) := by decide +kernel
theorem dX11_firstStreet_2 : decode cX11_firstStreet 2 = .ok (.if_icmp .eq 14, 3) := by decide +kernel
theorem dX11_firstStreet_5 : decode cX11_firstStreet 5 = .ok (.aload_n 1, 1) := by decide +kernel
theorem dX11_firstStreet_6 : decode cX11_firstStreet 6 = .ok (.getfield 146, 3) := by decide +kernel
theorem dX11_firstStreet_9 : decode cX11_firstStreet 9 = .ok (.invokestatic 155, 3) := by decide +kernel
theorem dX11_firstStreet_12 : decode cX11_firstStreet 12 = .ok (.iload_n 2, 1) := by decide +kernel
theorem dX11_firstStreet_13 : decode cX11_firstStreet 13 = .ok (.if_icmp .ne 5, 3) := by decide +kernel
theorem dX11_firstStreet_16 : decode cX11_firstStreet 16 = .ok (.iconst (-1), 1) := by decide +kernel
theorem dX11_firstStreet_17 : decode cX11_firstStreet 17 = .ok (.ireturn, 1) := by decide +kernel
theorem dX11_firstStreet_18 : decode cX11_firstStreet 18 = .ok (.aload_n 0, 1) := by decide +kernel
theorem dX11_firstStreet_19 : decode cX11_firstStreet 19 = .ok (.getfield 43, 3) := by decide +kernel
theorem dX11_firstStreet_22 : decode cX11_firstStreet 22 = .ok (.aload_n 1, 1) := by decide +kernel
theorem dX11_firstStreet_23 : decode cX11_firstStreet 23 = .ok (.getfield 137, 3) := by decide +kernel
theorem dX11_firstStreet_26 : decode cX11_firstStreet 26 = .ok (.aload_n 0, 1) := by decide +kernel
theorem dX11_firstStreet_27 : decode cX11_firstStreet 27 = .ok (.getfield 19, 3) := by decide +kernel
theorem dX11_firstStreet_30 : decode cX11_firstStreet 30 = .ok (.invokevirtual 194, 3) := by decide +kernel
theorem dX11_firstStreet_33 : decode cX11_firstStreet 33 = .ok (.iconst 0, 1) := by decide +kernel
theorem dX11_firstStreet_34 : decode cX11_firstStreet 34 = .ok (.istore 4, 2) := by decide +kernel
theorem dX11_firstStreet_36 : decode cX11_firstStreet 36 = .ok (.iload 4, 2) := by decide +kernel
theorem dX11_firstStreet_38 : decode cX11_firstStreet 38 = .ok (.aload_n 0, 1) := by decide +kernel
theorem dX11_firstStreet_39 : decode cX11_firstStreet 39 = .ok (.getfield 19, 3) := by decide +kernel
theorem dX11_firstStreet_42 : decode cX11_firstStreet 42 = .ok (.getfield 105, 3) := by decide +kernel
theorem dX11_firstStreet_45 : decode cX11_firstStreet 45 = .ok (.if_icmp .ge 87, 3) := by decide +kernel
theorem dX11_firstStreet_48 : decode cX11_firstStreet 48 = .ok (.aload_n 0, 1) := by decide +kernel
theorem dX11_firstStreet_49 : decode cX11_firstStreet 49 = .ok (.getfield 19, 3) := by decide +kernel
theorem dX11_firstStreet_52 : decode cX11_firstStreet 52 = .ok (.aload_n 1, 1) := by decide +kernel
theorem dX11_firstStreet_53 : decode cX11_firstStreet 53 = .ok (.getfield 146, 3) := by decide +kernel
theorem dX11_firstStreet_56 : decode cX11_firstStreet 56 = .ok (.iload 4, 2) := by decide +kernel
theorem dX11_firstStreet_58 : decode cX11_firstStreet 58 = .ok (.aload_n 0, 1) := by decide +kernel
theorem dX11_firstStreet_59 : decode cX11_firstStreet 59 = .ok (.getfield 43, 3) := by decide +kernel
theorem dX11_firstStreet_62 : decode cX11_firstStreet 62 = .ok (.getfield 329, 3) := by decide +kernel
theorem dX11_firstStreet_65 : decode cX11_firstStreet 65 = .ok (.iload 4, 2) := by decide +kernel
theorem dX11_firstStreet_67 : decode cX11_firstStreet 67 = .ok (.iaload, 1) := by decide +kernel
theorem dX11_firstStreet_68 : decode cX11_firstStreet 68 = .ok (.invokevirtual 258, 3) := by decide +kernel
theorem dX11_firstStreet_71 : decode cX11_firstStreet 71 = .ok (.istore 5, 2) := by decide +kernel
theorem dX11_firstStreet_73 : decode cX11_firstStreet 73 = .ok (.iload_n 3, 1) := by decide +kernel
theorem dX11_firstStreet_74 : decode cX11_firstStreet 74 = .ok (.aload_n 0, 1) := by decide +kernel
theorem dX11_firstStreet_75 : decode cX11_firstStreet 75 = .ok (.getfield 43, 3) := by decide +kernel
theorem dX11_firstStreet_78 : decode cX11_firstStreet 78 = .ok (.getfield 332, 3) := by decide +kernel
theorem dX11_firstStreet_81 : decode cX11_firstStreet 81 = .ok (.iload 4, 2) := by decide +kernel
theorem dX11_firstStreet_83 : decode cX11_firstStreet 83 = .ok (.iaload, 1) := by decide +kernel
theorem dX11_firstStreet_84 : decode cX11_firstStreet 84 = .ok (.isub, 1) := by decide +kernel
theorem dX11_firstStreet_85 : decode cX11_firstStreet 85 = .ok (.istore 6, 2) := by decide +kernel
theorem dX11_firstStreet_87 : decode cX11_firstStreet 87 = .ok (.iload 5, 2) := by decide +kernel
theorem dX11_firstStreet_89 : decode cX11_firstStreet 89 = .ok (.iconst (-1), 1) := by decide +kernel
theorem dX11_firstStreet_90 : decode cX11_firstStreet 90 = .ok (.if_icmp .eq 36, 3) := by decide +kernel
theorem dX11_firstStreet_93 : decode cX11_firstStreet 93 = .ok (.iload 6, 2) := by decide +kernel
theorem dX11_firstStreet_95 : decode cX11_firstStreet 95 = .ok (.ifCond .lt 31, 3) := by decide +kernel
theorem dX11_firstStreet_98 : decode cX11_firstStreet 98 = .ok (.aload_n 0, 1) := by decide +kernel
theorem dX11_firstStreet_99 : decode cX11_firstStreet 99 = .ok (.getfield 53, 3) := by decide +kernel
theorem dX11_firstStreet_102 : decode cX11_firstStreet 102 = .ok (.aload_n 0, 1) := by decide +kernel
theorem dX11_firstStreet_103 : decode cX11_firstStreet 103 = .ok (.getfield 19, 3) := by decide +kernel
theorem dX11_firstStreet_106 : decode cX11_firstStreet 106 = .ok (.aload_n 0, 1) := by decide +kernel
theorem dX11_firstStreet_107 : decode cX11_firstStreet 107 = .ok (.getfield 43, 3) := by decide +kernel
theorem dX11_firstStreet_110 : decode cX11_firstStreet 110 = .ok (.iload 5, 2) := by decide +kernel
theorem dX11_firstStreet_112 : decode cX11_firstStreet 112 = .ok (.iload_n 2, 1) := by decide +kernel
theorem dX11_firstStreet_113 : decode cX11_firstStreet 113 = .ok (.iload 6, 2) := by decide +kernel
theorem dX11_firstStreet_115 : decode cX11_firstStreet 115 = .ok (.iconst 0, 1) := by decide +kernel
theorem dX11_firstStreet_116 : decode cX11_firstStreet 116 = .ok (.invokevirtual 326, 3) := by decide +kernel
theorem dX11_firstStreet_119 : decode cX11_firstStreet 119 = .ok (.iconst (-1), 1) := by decide +kernel
theorem dX11_firstStreet_120 : decode cX11_firstStreet 120 = .ok (.if_icmp .eq 6, 3) := by decide +kernel
theorem dX11_firstStreet_123 : decode cX11_firstStreet 123 = .ok (.iload 4, 2) := by decide +kernel
theorem dX11_firstStreet_125 : decode cX11_firstStreet 125 = .ok (.ireturn, 1) := by decide +kernel
theorem dX11_firstStreet_126 : decode cX11_firstStreet 126 = .ok (.iinc 4 1, 3) := by decide +kernel
theorem dX11_firstStreet_129 : decode cX11_firstStreet 129 = .ok (.goto (-93), 3) := by decide +kernel
theorem dX11_firstStreet_132 : decode cX11_firstStreet 132 = .ok (.iconst (-1), 1) := by decide +kernel
theorem dX11_firstStreet_133 : decode cX11_firstStreet 133 = .ok (.ireturn, 1) := by decide +kernel
set_option maxRecDepth 20000 in
theorem ggX11_fewestSkips_X2_take : GoodIn wsX11_fewestSkips wsX2_take := goodIn_r _ [11, 12, 13, 14, 15, 16, 10, 17, 18, 19, 20, 21, 22, 23, 24, 25, 26, 27, 133, 134, 135, 136, 137, 138, 139, 140, 141, 142] (by decide +kernel) (by decide +kernel)
set_option maxRecDepth 20000 in
theorem gX11_fewestSkips_X2_take : GoodIn wsX11_fewestSkips (wsV RX11 194 RX2 yX2_take wsX2_take) := goodIn_app (goodIn_of _ (by decide +kernel)) ggX11_fewestSkips_X2_take
set_option maxRecDepth 20000 in
theorem ggX11_fewestSkips_X10_leastTo : GoodIn wsX11_fewestSkips wsX10_leastTo := goodIn_r _ [32, 33, 34, 35, 36, 37, 38, 39, 40, 41, 42, 43, 44, 45, 46, 47, 48, 49, 50, 51, 52, 53, 54, 55, 56, 57, 58, 59, 60, 61, 62, 63, 64, 65, 66, 67, 68, 69, 70, 71, 72, 73, 74, 31, 75, 76, 77, 78, 79, 80, 81, 82, 83, 84, 85, 86, 87, 88, 89, 90, 91, 92, 93, 94, 95, 96, 97, 98, 99, 100, 101, 102, 103, 104, 105, 106, 107, 108, 109, 110, 111, 112, 113, 114, 143, 144, 145, 146, 147, 133, 134, 135, 136, 137, 138, 139, 140, 141, 142] (by decide +kernel) (by decide +kernel)
set_option maxRecDepth 20000 in
theorem gX11_fewestSkips_X10_leastTo : GoodIn wsX11_fewestSkips (wsV RX11 326 RX10 yX10_leastTo wsX10_leastTo) := goodIn_app (goodIn_of _ (by decide +kernel)) ggX11_fewestSkips_X10_leastTo
theorem dX11_fewestSkips_0 : decode cX11_fewestSkips 0 = .ok (.aload_n 0, 1) := by decide +kernel
theorem dX11_fewestSkips_1 : decode cX11_fewestSkips 1 = .ok (.getfield 43, 3) := by decide +kernel
theorem dX11_fewestSkips_4 : decode cX11_fewestSkips 4 = .ok (.aload_n 1, 1) := by decide +kernel
theorem dX11_fewestSkips_5 : decode cX11_fewestSkips 5 = .ok (.getfield 137, 3) := by decide +kernel
theorem dX11_fewestSkips_8 : decode cX11_fewestSkips 8 = .ok (.aload_n 0, 1) := by decide +kernel
theorem dX11_fewestSkips_9 : decode cX11_fewestSkips 9 = .ok (.getfield 19, 3) := by decide +kernel
theorem dX11_fewestSkips_12 : decode cX11_fewestSkips 12 = .ok (.invokevirtual 194, 3) := by decide +kernel
theorem dX11_fewestSkips_15 : decode cX11_fewestSkips 15 = .ok (.aload_n 0, 1) := by decide +kernel
theorem dX11_fewestSkips_16 : decode cX11_fewestSkips 16 = .ok (.getfield 53, 3) := by decide +kernel
theorem dX11_fewestSkips_19 : decode cX11_fewestSkips 19 = .ok (.aload_n 0, 1) := by decide +kernel
theorem dX11_fewestSkips_20 : decode cX11_fewestSkips 20 = .ok (.getfield 19, 3) := by decide +kernel
theorem dX11_fewestSkips_23 : decode cX11_fewestSkips 23 = .ok (.aload_n 0, 1) := by decide +kernel
theorem dX11_fewestSkips_24 : decode cX11_fewestSkips 24 = .ok (.getfield 43, 3) := by decide +kernel
theorem dX11_fewestSkips_27 : decode cX11_fewestSkips 27 = .ok (.aload_n 1, 1) := by decide +kernel
theorem dX11_fewestSkips_28 : decode cX11_fewestSkips 28 = .ok (.getfield 146, 3) := by decide +kernel
theorem dX11_fewestSkips_31 : decode cX11_fewestSkips 31 = .ok (.iload_n 2, 1) := by decide +kernel
theorem dX11_fewestSkips_32 : decode cX11_fewestSkips 32 = .ok (.ldc_w 325, 3) := by decide +kernel
theorem dX11_fewestSkips_35 : decode cX11_fewestSkips 35 = .ok (.aload_n 1, 1) := by decide +kernel
theorem dX11_fewestSkips_36 : decode cX11_fewestSkips 36 = .ok (.getfield 137, 3) := by decide +kernel
theorem dX11_fewestSkips_39 : decode cX11_fewestSkips 39 = .ok (.iconst 3, 1) := by decide +kernel
theorem dX11_fewestSkips_40 : decode cX11_fewestSkips 40 = .ok (.if_icmp .eq 7, 3) := by decide +kernel
theorem dX11_fewestSkips_43 : decode cX11_fewestSkips 43 = .ok (.iconst 1, 1) := by decide +kernel
theorem dX11_fewestSkips_44 : decode cX11_fewestSkips 44 = .ok (.goto 4, 3) := by decide +kernel
theorem dX11_fewestSkips_47 : decode cX11_fewestSkips 47 = .ok (.iconst 0, 1) := by decide +kernel
theorem dX11_fewestSkips_48 : decode cX11_fewestSkips 48 = .ok (.invokevirtual 326, 3) := by decide +kernel
theorem dX11_fewestSkips_51 : decode cX11_fewestSkips 51 = .ok (.ireturn, 1) := by decide +kernel
theorem dX11_skipsTold_0 : decode cX11_skipsTold 0 = .ok (.iload_n 0, 1) := by decide +kernel
theorem dX11_skipsTold_1 : decode cX11_skipsTold 1 = .ok (.iconst (-1), 1) := by decide +kernel
theorem dX11_skipsTold_2 : decode cX11_skipsTold 2 = .ok (.if_icmp .ne 5, 3) := by decide +kernel
theorem dX11_skipsTold_5 : decode cX11_skipsTold 5 = .ok (.iconst (-1), 1) := by decide +kernel
theorem dX11_skipsTold_6 : decode cX11_skipsTold 6 = .ok (.ireturn, 1) := by decide +kernel
theorem dX11_skipsTold_7 : decode cX11_skipsTold 7 = .ok (.iload_n 1, 1) := by decide +kernel
theorem dX11_skipsTold_8 : decode cX11_skipsTold 8 = .ok (.ifCond .ne 11, 3) := by decide +kernel
theorem dX11_skipsTold_11 : decode cX11_skipsTold 11 = .ok (.iload_n 0, 1) := by decide +kernel
theorem dX11_skipsTold_12 : decode cX11_skipsTold 12 = .ok (.sipush 16384, 3) := by decide +kernel
theorem dX11_skipsTold_15 : decode cX11_skipsTold 15 = .ok (.idiv, 1) := by decide +kernel
theorem dX11_skipsTold_16 : decode cX11_skipsTold 16 = .ok (.goto 8, 3) := by decide +kernel
theorem dX11_skipsTold_19 : decode cX11_skipsTold 19 = .ok (.iload_n 0, 1) := by decide +kernel
theorem dX11_skipsTold_20 : decode cX11_skipsTold 20 = .ok (.sipush 16384, 3) := by decide +kernel
theorem dX11_skipsTold_23 : decode cX11_skipsTold 23 = .ok (.irem, 1) := by decide +kernel
theorem dX11_skipsTold_24 : decode cX11_skipsTold 24 = .ok (.ireturn, 1) := by decide +kernel
set_option maxRecDepth 20000 in
theorem ggX11_streetsTold_J6_bitCount_0f7a4 : GoodIn wsX11_streetsTold wsJ6_bitCount_0f7a4 := goodIn_r _ [4, 5, 6, 7] (by decide +kernel) (by decide +kernel)
set_option maxRecDepth 20000 in
theorem gX11_streetsTold_J6_bitCount_0f7a4 : GoodIn wsX11_streetsTold (va_wsS RX11 335 yJ6_bitCount_0f7a4 wsJ6_bitCount_0f7a4) := goodIn_app (goodIn_of _ (by decide +kernel)) ggX11_streetsTold_J6_bitCount_0f7a4
theorem dX11_streetsTold_0 : decode cX11_streetsTold 0 = .ok (.iload_n 0, 1) := by decide +kernel
theorem dX11_streetsTold_1 : decode cX11_streetsTold 1 = .ok (.iconst (-1), 1) := by decide +kernel
theorem dX11_streetsTold_2 : decode cX11_streetsTold 2 = .ok (.if_icmp .eq 8, 3) := by decide +kernel
theorem dX11_streetsTold_5 : decode cX11_streetsTold 5 = .ok (.iload_n 1, 1) := by decide +kernel
theorem dX11_streetsTold_6 : decode cX11_streetsTold 6 = .ok (.iconst 1, 1) := by decide +kernel
theorem dX11_streetsTold_7 : decode cX11_streetsTold 7 = .ok (.if_icmp .ne 7, 3) := by decide +kernel
theorem dX11_streetsTold_10 : decode cX11_streetsTold 10 = .ok (.iload_n 0, 1) := by decide +kernel
theorem dX11_streetsTold_11 : decode cX11_streetsTold 11 = .ok (.goto 7, 3) := by decide +kernel
theorem dX11_streetsTold_14 : decode cX11_streetsTold 14 = .ok (.iload_n 0, 1) := by decide +kernel
theorem dX11_streetsTold_15 : decode cX11_streetsTold 15 = .ok (.invokestatic 335, 3) := by decide +kernel
theorem dX11_streetsTold_18 : decode cX11_streetsTold 18 = .ok (.ireturn, 1) := by decide +kernel
set_option maxRecDepth 20000 in
theorem ggX11_shutPlaces_X6_take : GoodIn wsX11_shutPlaces wsX6_take := goodIn_r _ [10, 11, 12, 84, 85, 86, 87] (by decide +kernel) (by decide +kernel)
set_option maxRecDepth 20000 in
theorem gX11_shutPlaces_X6_take : GoodIn wsX11_shutPlaces (wsV RX11 340 RX6 yX6_take wsX6_take) := goodIn_app (goodIn_of _ (by decide +kernel)) ggX11_shutPlaces_X6_take
set_option maxRecDepth 20000 in
theorem ggX11_shutPlaces_X6_spread : GoodIn wsX11_shutPlaces wsX6_spread := goodIn_r _ [16, 17, 18, 19, 20, 21, 22, 23, 24, 25, 26, 27, 28, 29, 30, 9, 31, 32, 33, 11, 34, 35, 36, 37, 38, 39, 40, 41, 42, 43, 44, 45, 84, 85, 73, 74, 75, 76, 77, 78, 79, 80] (by decide +kernel) (by decide +kernel)
set_option maxRecDepth 20000 in
theorem gX11_shutPlaces_X6_spread : GoodIn wsX11_shutPlaces (wsV RX11 343 RX6 yX6_spread wsX6_spread) := goodIn_app (goodIn_of _ (by decide +kernel)) ggX11_shutPlaces_X6_spread
set_option maxRecDepth 20000 in
theorem ggX11_shutPlaces_X6_placesMissed : GoodIn wsX11_shutPlaces wsX6_placesMissed := goodIn_r _ [49, 50, 51, 52, 9, 53, 54, 55, 56, 57, 17, 84, 85] (by decide +kernel) (by decide +kernel)
set_option maxRecDepth 20000 in
theorem gX11_shutPlaces_X6_placesMissed : GoodIn wsX11_shutPlaces (wsV RX11 347 RX6 yX6_placesMissed wsX6_placesMissed) := goodIn_app (goodIn_of _ (by decide +kernel)) ggX11_shutPlaces_X6_placesMissed
theorem dX11_shutPlaces_0 : decode cX11_shutPlaces 0 = .ok (.aload_n 0, 1) := by decide +kernel
theorem dX11_shutPlaces_1 : decode cX11_shutPlaces 1 = .ok (.getfield 60, 3) := by decide +kernel
theorem dX11_shutPlaces_4 : decode cX11_shutPlaces 4 = .ok (.aload_n 0, 1) := by decide +kernel
theorem dX11_shutPlaces_5 : decode cX11_shutPlaces 5 = .ok (.getfield 43, 3) := by decide +kernel
theorem dX11_shutPlaces_8 : decode cX11_shutPlaces 8 = .ok (.aload_n 0, 1) := by decide +kernel
theorem dX11_shutPlaces_9 : decode cX11_shutPlaces 9 = .ok (.getfield 19, 3) := by decide +kernel
theorem dX11_shutPlaces_12 : decode cX11_shutPlaces 12 = .ok (.getfield 105, 3) := by decide +kernel
theorem dX11_shutPlaces_15 : decode cX11_shutPlaces 15 = .ok (.invokevirtual 340, 3) := by decide +kernel
theorem dX11_shutPlaces_18 : decode cX11_shutPlaces 18 = .ok (.aload_n 0, 1) := by decide +kernel
theorem dX11_shutPlaces_19 : decode cX11_shutPlaces 19 = .ok (.getfield 60, 3) := by decide +kernel
theorem dX11_shutPlaces_22 : decode cX11_shutPlaces 22 = .ok (.aload_n 0, 1) := by decide +kernel
theorem dX11_shutPlaces_23 : decode cX11_shutPlaces 23 = .ok (.getfield 19, 3) := by decide +kernel
theorem dX11_shutPlaces_26 : decode cX11_shutPlaces 26 = .ok (.aload_n 1, 1) := by decide +kernel
theorem dX11_shutPlaces_27 : decode cX11_shutPlaces 27 = .ok (.getfield 146, 3) := by decide +kernel
theorem dX11_shutPlaces_30 : decode cX11_shutPlaces 30 = .ok (.iconst 1, 1) := by decide +kernel
theorem dX11_shutPlaces_31 : decode cX11_shutPlaces 31 = .ok (.invokevirtual 343, 3) := by decide +kernel
theorem dX11_shutPlaces_34 : decode cX11_shutPlaces 34 = .ok (.aload_n 0, 1) := by decide +kernel
theorem dX11_shutPlaces_35 : decode cX11_shutPlaces 35 = .ok (.getfield 60, 3) := by decide +kernel
theorem dX11_shutPlaces_38 : decode cX11_shutPlaces 38 = .ok (.invokevirtual 347, 3) := by decide +kernel
theorem dX11_shutPlaces_41 : decode cX11_shutPlaces 41 = .ok (.ireturn, 1) := by decide +kernel
set_option maxRecDepth 20000 in
theorem ggX11_isShutOtherwise_X2_take : GoodIn wsX11_isShutOtherwise wsX2_take := goodIn_r _ [8, 9, 10, 11, 12, 13, 7, 14, 15, 16, 17, 18, 19, 20, 21, 22, 23, 24, 104, 105, 106, 107, 108, 109, 110, 111, 112, 113] (by decide +kernel) (by decide +kernel)
set_option maxRecDepth 20000 in
theorem gX11_isShutOtherwise_X2_take : GoodIn wsX11_isShutOtherwise (wsV RX11 194 RX2 yX2_take wsX2_take) := goodIn_app (goodIn_of _ (by decide +kernel)) ggX11_isShutOtherwise_X2_take
set_option maxRecDepth 20000 in
theorem ggX11_isShutOtherwise_X11_shutPlaces : GoodIn wsX11_isShutOtherwise wsX11_shutPlaces := goodIn_r _ [29, 30, 1, 3, 31, 32, 33, 34, 35, 36, 37, 38, 39, 40, 41, 42, 43, 44, 45, 46, 47, 48, 49, 50, 51, 52, 53, 54, 55, 56, 57, 58, 59, 60, 61, 62, 63, 64, 65, 66, 67, 68, 69, 70, 71, 72, 73, 74, 75, 76, 77, 78, 79, 80, 81, 82, 83, 84, 86, 87, 88, 89, 90, 91, 92, 93, 94, 95, 96, 97, 98, 99, 100, 104, 105, 106, 107, 108, 109, 110, 111, 101, 102, 103, 114, 115, 112, 113] (by decide +kernel) (by decide +kernel)
set_option maxRecDepth 20000 in
theorem gX11_isShutOtherwise_X11_shutPlaces : GoodIn wsX11_isShutOtherwise (wsV RX11 198 RX11 yX11_shutPlaces wsX11_shutPlaces) := goodIn_app (goodIn_of _ (by decide +kernel)) ggX11_isShutOtherwise_X11_shutPlaces
set_option maxRecDepth 20000 in
theorem ggX11_isShutOtherwise_X2_pave : GoodIn wsX11_isShutOtherwise wsX2_pave := goodIn_r _ [14, 15, 16, 17, 18, 19, 20, 21, 22, 23, 24, 112, 113] (by decide +kernel) (by decide +kernel)
set_option maxRecDepth 20000 in
theorem gX11_isShutOtherwise_X2_pave : GoodIn wsX11_isShutOtherwise (wsV RX11 350 RX2 yX2_pave wsX2_pave) := goodIn_app (goodIn_of _ (by decide +kernel)) ggX11_isShutOtherwise_X2_pave
theorem dX11_isShutOtherwise_0 : decode cX11_isShutOtherwise 0 = .ok (.aload_n 0, 1) := by decide +kernel
theorem dX11_isShutOtherwise_1 : decode cX11_isShutOtherwise 1 = .ok (.getfield 43, 3) := by decide +kernel
theorem dX11_isShutOtherwise_4 : decode cX11_isShutOtherwise 4 = .ok (.aload_n 1, 1) := by decide +kernel
theorem dX11_isShutOtherwise_5 : decode cX11_isShutOtherwise 5 = .ok (.getfield 137, 3) := by decide +kernel
theorem dX11_isShutOtherwise_8 : decode cX11_isShutOtherwise 8 = .ok (.aload_n 0, 1) := by decide +kernel
theorem dX11_isShutOtherwise_9 : decode cX11_isShutOtherwise 9 = .ok (.getfield 19, 3) := by decide +kernel
theorem dX11_isShutOtherwise_12 : decode cX11_isShutOtherwise 12 = .ok (.invokevirtual 194, 3) := by decide +kernel
theorem dX11_isShutOtherwise_15 : decode cX11_isShutOtherwise 15 = .ok (.aload_n 0, 1) := by decide +kernel
theorem dX11_isShutOtherwise_16 : decode cX11_isShutOtherwise 16 = .ok (.aload_n 1, 1) := by decide +kernel
theorem dX11_isShutOtherwise_17 : decode cX11_isShutOtherwise 17 = .ok (.invokevirtual 198, 3) := by decide +kernel
theorem dX11_isShutOtherwise_20 : decode cX11_isShutOtherwise 20 = .ok (.istore 4, 2) := by decide +kernel
theorem dX11_isShutOtherwise_22 : decode cX11_isShutOtherwise 22 = .ok (.aload_n 0, 1) := by decide +kernel
theorem dX11_isShutOtherwise_23 : decode cX11_isShutOtherwise 23 = .ok (.getfield 43, 3) := by decide +kernel
theorem dX11_isShutOtherwise_26 : decode cX11_isShutOtherwise 26 = .ok (.aload_n 1, 1) := by decide +kernel
theorem dX11_isShutOtherwise_27 : decode cX11_isShutOtherwise 27 = .ok (.getfield 137, 3) := by decide +kernel
theorem dX11_isShutOtherwise_30 : decode cX11_isShutOtherwise 30 = .ok (.iload_n 2, 1) := by decide +kernel
theorem dX11_isShutOtherwise_31 : decode cX11_isShutOtherwise 31 = .ok (.iload_n 3, 1) := by decide +kernel
theorem dX11_isShutOtherwise_32 : decode cX11_isShutOtherwise 32 = .ok (.invokevirtual 350, 3) := by decide +kernel
theorem dX11_isShutOtherwise_35 : decode cX11_isShutOtherwise 35 = .ok (.aload_n 0, 1) := by decide +kernel
theorem dX11_isShutOtherwise_36 : decode cX11_isShutOtherwise 36 = .ok (.aload_n 1, 1) := by decide +kernel
theorem dX11_isShutOtherwise_37 : decode cX11_isShutOtherwise 37 = .ok (.invokevirtual 198, 3) := by decide +kernel
theorem dX11_isShutOtherwise_40 : decode cX11_isShutOtherwise 40 = .ok (.iload 4, 2) := by decide +kernel
theorem dX11_isShutOtherwise_42 : decode cX11_isShutOtherwise 42 = .ok (.if_icmp .eq 7, 3) := by decide +kernel
theorem dX11_isShutOtherwise_45 : decode cX11_isShutOtherwise 45 = .ok (.iconst 1, 1) := by decide +kernel
theorem dX11_isShutOtherwise_46 : decode cX11_isShutOtherwise 46 = .ok (.goto 4, 3) := by decide +kernel
theorem dX11_isShutOtherwise_49 : decode cX11_isShutOtherwise 49 = .ok (.iconst 0, 1) := by decide +kernel
theorem dX11_isShutOtherwise_50 : decode cX11_isShutOtherwise 50 = .ok (.ireturn, 1) := by decide +kernel
set_option maxRecDepth 20000 in
theorem ggX11_stonesTo_X2_take : GoodIn wsX11_stonesTo wsX2_take := goodIn_r _ [11, 12, 13, 14, 15, 16, 10, 17, 18, 19, 20, 21, 22, 23, 24, 25, 26, 27, 120, 121, 122, 123, 124, 125, 126, 127, 128, 129] (by decide +kernel) (by decide +kernel)
set_option maxRecDepth 20000 in
theorem gX11_stonesTo_X2_take : GoodIn wsX11_stonesTo (wsV RX11 194 RX2 yX2_take wsX2_take) := goodIn_app (goodIn_of _ (by decide +kernel)) ggX11_stonesTo_X2_take
set_option maxRecDepth 20000 in
theorem ggX11_stonesTo_X11_turnedByStone : GoodIn wsX11_stonesTo wsX11_turnedByStone := goodIn_r _ [32, 3, 5, 33, 34, 25, 22, 26, 27, 21, 23, 102, 103, 104, 105, 106, 107, 108, 109, 110, 111, 112, 113, 114, 115, 116, 120, 121, 122, 123, 124, 125, 126, 127] (by decide +kernel) (by decide +kernel)
set_option maxRecDepth 20000 in
theorem gX11_stonesTo_X11_turnedByStone : GoodIn wsX11_stonesTo (wsV RX11 354 RX11 yX11_turnedByStone wsX11_turnedByStone) := goodIn_app (goodIn_of _ (by decide +kernel)) ggX11_stonesTo_X11_turnedByStone
set_option maxRecDepth 20000 in
theorem ggX11_stonesTo_X6_take : GoodIn wsX11_stonesTo wsX6_take := goodIn_r _ [39, 40, 41, 130, 131, 128, 129] (by decide +kernel) (by decide +kernel)
set_option maxRecDepth 20000 in
theorem gX11_stonesTo_X6_take : GoodIn wsX11_stonesTo (wsV RX11 340 RX6 yX6_take wsX6_take) := goodIn_app (goodIn_of _ (by decide +kernel)) ggX11_stonesTo_X6_take
set_option maxRecDepth 20000 in
theorem ggX11_stonesTo_X6_loosen : GoodIn wsX11_stonesTo wsX6_loosen := goodIn_r _ [45, 40, 130, 131] (by decide +kernel) (by decide +kernel)
set_option maxRecDepth 20000 in
theorem gX11_stonesTo_X6_loosen : GoodIn wsX11_stonesTo (wsV RX11 357 RX6 yX6_loosen wsX6_loosen) := goodIn_app (goodIn_of _ (by decide +kernel)) ggX11_stonesTo_X6_loosen
set_option maxRecDepth 20000 in
theorem ggX11_stonesTo_X6_spread : GoodIn wsX11_stonesTo wsX6_spread := goodIn_r _ [49, 50, 51, 52, 53, 54, 55, 56, 57, 58, 59, 60, 61, 62, 63, 38, 64, 65, 66, 40, 67, 68, 69, 70, 71, 72, 73, 74, 75, 76, 77, 78, 130, 131, 120, 121, 122, 123, 124, 125, 126, 127] (by decide +kernel) (by decide +kernel)
set_option maxRecDepth 20000 in
theorem gX11_stonesTo_X6_spread : GoodIn wsX11_stonesTo (wsV RX11 343 RX6 yX6_spread wsX6_spread) := goodIn_app (goodIn_of _ (by decide +kernel)) ggX11_stonesTo_X6_spread
set_option maxRecDepth 20000 in
theorem ggX11_stonesTo_X6_hasPlace : GoodIn wsX11_stonesTo wsX6_hasPlace := goodIn_r _ [82, 83, 84, 85, 38, 86, 50, 130, 131] (by decide +kernel) (by decide +kernel)
set_option maxRecDepth 20000 in
theorem gX11_stonesTo_X6_hasPlace : GoodIn wsX11_stonesTo (wsV RX11 361 RX6 yX6_hasPlace wsX6_hasPlace) := goodIn_app (goodIn_of _ (by decide +kernel)) ggX11_stonesTo_X6_hasPlace
set_option maxRecDepth 20000 in
theorem ggX11_stonesTo_J6_bitCount_0f7a4 : GoodIn wsX11_stonesTo wsJ6_bitCount_0f7a4 := goodIn_r _ [90, 91, 92, 93] (by decide +kernel) (by decide +kernel)
set_option maxRecDepth 20000 in
theorem gX11_stonesTo_J6_bitCount_0f7a4 : GoodIn wsX11_stonesTo (va_wsS RX11 335 yJ6_bitCount_0f7a4 wsJ6_bitCount_0f7a4) := goodIn_app (goodIn_of _ (by decide +kernel)) ggX11_stonesTo_J6_bitCount_0f7a4
set_option maxRecDepth 20000 in
theorem ggX11_stonesTo_X11_comesByStones : GoodIn wsX11_stonesTo wsX11_comesByStones := goodIn_r _ [97, 4, 1, 3, 5, 6, 35, 36, 37, 38, 39, 40, 41, 98, 99, 100, 101, 46, 47, 48, 49, 50, 51, 52, 53, 54, 55, 56, 57, 58, 59, 60, 61, 62, 63, 64, 65, 66, 67, 68, 69, 70, 71, 72, 73, 74, 75, 76, 77, 78, 79, 80, 81, 82, 83, 84, 85, 86, 102, 103, 104, 105, 106, 107, 108, 109, 110, 111, 112, 113, 114, 115, 116, 120, 121, 122, 123, 124, 125, 126, 127, 117, 118, 119, 130, 131, 128, 129] (by decide +kernel) (by decide +kernel)
set_option maxRecDepth 20000 in
theorem gX11_stonesTo_X11_comesByStones : GoodIn wsX11_stonesTo (wsV RX11 364 RX11 yX11_comesByStones wsX11_comesByStones) := goodIn_app (goodIn_of _ (by decide +kernel)) ggX11_stonesTo_X11_comesByStones
theorem dX11_stonesTo_0 : decode cX11_stonesTo 0 = .ok (.aload_n 0, 1) := by decide +kernel
theorem dX11_stonesTo_1 : decode cX11_stonesTo 1 = .ok (.getfield 43, 3) := by decide +kernel
theorem dX11_stonesTo_4 : decode cX11_stonesTo 4 = .ok (.aload_n 1, 1) := by decide +kernel
theorem dX11_stonesTo_5 : decode cX11_stonesTo 5 = .ok (.getfield 137, 3) := by decide +kernel
theorem dX11_stonesTo_8 : decode cX11_stonesTo 8 = .ok (.aload_n 0, 1) := by decide +kernel
theorem dX11_stonesTo_9 : decode cX11_stonesTo 9 = .ok (.getfield 19, 3) := by decide +kernel
theorem dX11_stonesTo_12 : decode cX11_stonesTo 12 = .ok (.invokevirtual 194, 3) := by decide +kernel
theorem dX11_stonesTo_15 : decode cX11_stonesTo 15 = .ok (.aload_n 0, 1) := by decide +kernel
theorem dX11_stonesTo_16 : decode cX11_stonesTo 16 = .ok (.aload_n 1, 1) := by decide +kernel
theorem dX11_stonesTo_17 : decode cX11_stonesTo 17 = .ok (.getfield 137, 3) := by decide +kernel
theorem dX11_stonesTo_20 : decode cX11_stonesTo 20 = .ok (.invokevirtual 354, 3) := by decide +kernel
theorem dX11_stonesTo_23 : decode cX11_stonesTo 23 = .ok (.istore_n 3, 1) := by decide +kernel
theorem dX11_stonesTo_24 : decode cX11_stonesTo 24 = .ok (.aload_n 0, 1) := by decide +kernel
theorem dX11_stonesTo_25 : decode cX11_stonesTo 25 = .ok (.getfield 60, 3) := by decide +kernel
theorem dX11_stonesTo_28 : decode cX11_stonesTo 28 = .ok (.aload_n 0, 1) := by decide +kernel
theorem dX11_stonesTo_29 : decode cX11_stonesTo 29 = .ok (.getfield 43, 3) := by decide +kernel
theorem dX11_stonesTo_32 : decode cX11_stonesTo 32 = .ok (.aload_n 0, 1) := by decide +kernel
theorem dX11_stonesTo_33 : decode cX11_stonesTo 33 = .ok (.getfield 19, 3) := by decide +kernel
theorem dX11_stonesTo_36 : decode cX11_stonesTo 36 = .ok (.getfield 105, 3) := by decide +kernel
theorem dX11_stonesTo_39 : decode cX11_stonesTo 39 = .ok (.invokevirtual 340, 3) := by decide +kernel
theorem dX11_stonesTo_42 : decode cX11_stonesTo 42 = .ok (.aload_n 0, 1) := by decide +kernel
theorem dX11_stonesTo_43 : decode cX11_stonesTo 43 = .ok (.getfield 60, 3) := by decide +kernel
theorem dX11_stonesTo_46 : decode cX11_stonesTo 46 = .ok (.iload_n 3, 1) := by decide +kernel
theorem dX11_stonesTo_47 : decode cX11_stonesTo 47 = .ok (.invokevirtual 357, 3) := by decide +kernel
theorem dX11_stonesTo_50 : decode cX11_stonesTo 50 = .ok (.aload_n 0, 1) := by decide +kernel
theorem dX11_stonesTo_51 : decode cX11_stonesTo 51 = .ok (.getfield 60, 3) := by decide +kernel
theorem dX11_stonesTo_54 : decode cX11_stonesTo 54 = .ok (.aload_n 0, 1) := by decide +kernel
theorem dX11_stonesTo_55 : decode cX11_stonesTo 55 = .ok (.getfield 19, 3) := by decide +kernel
theorem dX11_stonesTo_58 : decode cX11_stonesTo 58 = .ok (.aload_n 1, 1) := by decide +kernel
theorem dX11_stonesTo_59 : decode cX11_stonesTo 59 = .ok (.getfield 146, 3) := by decide +kernel
theorem dX11_stonesTo_62 : decode cX11_stonesTo 62 = .ok (.iconst 1, 1) := by decide +kernel
theorem dX11_stonesTo_63 : decode cX11_stonesTo 63 = .ok (.invokevirtual 343, 3) := by decide +kernel
theorem dX11_stonesTo_66 : decode cX11_stonesTo 66 = .ok (.aload_n 0, 1) := by decide +kernel
theorem dX11_stonesTo_67 : decode cX11_stonesTo 67 = .ok (.getfield 60, 3) := by decide +kernel
theorem dX11_stonesTo_70 : decode cX11_stonesTo 70 = .ok (.iload_n 2, 1) := by decide +kernel
theorem dX11_stonesTo_71 : decode cX11_stonesTo 71 = .ok (.invokevirtual 361, 3) := by decide +kernel
theorem dX11_stonesTo_74 : decode cX11_stonesTo 74 = .ok (.ifCond .ne 5, 3) := by decide +kernel
theorem dX11_stonesTo_77 : decode cX11_stonesTo 77 = .ok (.iconst (-1), 1) := by decide +kernel
theorem dX11_stonesTo_78 : decode cX11_stonesTo 78 = .ok (.ireturn, 1) := by decide +kernel
theorem dX11_stonesTo_79 : decode cX11_stonesTo 79 = .ok (.iconst 0, 1) := by decide +kernel
theorem dX11_stonesTo_80 : decode cX11_stonesTo 80 = .ok (.istore 4, 2) := by decide +kernel
theorem dX11_stonesTo_82 : decode cX11_stonesTo 82 = .ok (.iload 4, 2) := by decide +kernel
theorem dX11_stonesTo_84 : decode cX11_stonesTo 84 = .ok (.aload_n 0, 1) := by decide +kernel
theorem dX11_stonesTo_85 : decode cX11_stonesTo 85 = .ok (.getfield 19, 3) := by decide +kernel
theorem dX11_stonesTo_88 : decode cX11_stonesTo 88 = .ok (.getfield 105, 3) := by decide +kernel
theorem dX11_stonesTo_91 : decode cX11_stonesTo 91 = .ok (.if_icmp .gt 65, 3) := by decide +kernel
theorem dX11_stonesTo_94 : decode cX11_stonesTo 94 = .ok (.iconst 0, 1) := by decide +kernel
theorem dX11_stonesTo_95 : decode cX11_stonesTo 95 = .ok (.istore 5, 2) := by decide +kernel
theorem dX11_stonesTo_97 : decode cX11_stonesTo 97 = .ok (.iload 5, 2) := by decide +kernel
theorem dX11_stonesTo_99 : decode cX11_stonesTo 99 = .ok (.iconst 1, 1) := by decide +kernel
theorem dX11_stonesTo_100 : decode cX11_stonesTo 100 = .ok (.aload_n 0, 1) := by decide +kernel
theorem dX11_stonesTo_101 : decode cX11_stonesTo 101 = .ok (.getfield 19, 3) := by decide +kernel
theorem dX11_stonesTo_104 : decode cX11_stonesTo 104 = .ok (.getfield 105, 3) := by decide +kernel
theorem dX11_stonesTo_107 : decode cX11_stonesTo 107 = .ok (.ishl, 1) := by decide +kernel
theorem dX11_stonesTo_108 : decode cX11_stonesTo 108 = .ok (.if_icmp .ge 42, 3) := by decide +kernel
theorem dX11_stonesTo_111 : decode cX11_stonesTo 111 = .ok (.iload 5, 2) := by decide +kernel
theorem dX11_stonesTo_113 : decode cX11_stonesTo 113 = .ok (.invokestatic 335, 3) := by decide +kernel
theorem dX11_stonesTo_116 : decode cX11_stonesTo 116 = .ok (.iload 4, 2) := by decide +kernel
theorem dX11_stonesTo_118 : decode cX11_stonesTo 118 = .ok (.if_icmp .ne 26, 3) := by decide +kernel
theorem dX11_stonesTo_121 : decode cX11_stonesTo 121 = .ok (.iload 5, 2) := by decide +kernel
theorem dX11_stonesTo_123 : decode cX11_stonesTo 123 = .ok (.iload_n 3, 1) := by decide +kernel
theorem dX11_stonesTo_124 : decode cX11_stonesTo 124 = .ok (.iconst (-1), 1) := by decide +kernel
theorem dX11_stonesTo_125 : decode cX11_stonesTo 125 = .ok (.ixor, 1) := by decide +kernel
theorem dX11_stonesTo_126 : decode cX11_stonesTo 126 = .ok (.iand, 1) := by decide +kernel
theorem dX11_stonesTo_127 : decode cX11_stonesTo 127 = .ok (.ifCond .ne 17, 3) := by decide +kernel
theorem dX11_stonesTo_130 : decode cX11_stonesTo 130 = .ok (.aload_n 0, 1) := by decide +kernel
theorem dX11_stonesTo_131 : decode cX11_stonesTo 131 = .ok (.aload_n 1, 1) := by decide +kernel
theorem dX11_stonesTo_132 : decode cX11_stonesTo 132 = .ok (.iload_n 2, 1) := by decide +kernel
theorem dX11_stonesTo_133 : decode cX11_stonesTo 133 = .ok (.iload 5, 2) := by decide +kernel
theorem dX11_stonesTo_135 : decode cX11_stonesTo 135 = .ok (.invokevirtual 364, 3) := by decide +kernel
theorem dX11_stonesTo_138 : decode cX11_stonesTo 138 = .ok (.ifCond .eq 6, 3) := by decide +kernel
theorem dX11_stonesTo_141 : decode cX11_stonesTo 141 = .ok (.iload 5, 2) := by decide +kernel
theorem dX11_stonesTo_143 : decode cX11_stonesTo 143 = .ok (.ireturn, 1) := by decide +kernel
theorem dX11_stonesTo_144 : decode cX11_stonesTo 144 = .ok (.iinc 5 1, 3) := by decide +kernel
theorem dX11_stonesTo_147 : decode cX11_stonesTo 147 = .ok (.goto (-50), 3) := by decide +kernel
theorem dX11_stonesTo_150 : decode cX11_stonesTo 150 = .ok (.iinc 4 1, 3) := by decide +kernel
theorem dX11_stonesTo_153 : decode cX11_stonesTo 153 = .ok (.goto (-71), 3) := by decide +kernel
theorem dX11_stonesTo_156 : decode cX11_stonesTo 156 = .ok (.iconst (-1), 1) := by decide +kernel
theorem dX11_stonesTo_157 : decode cX11_stonesTo 157 = .ok (.ireturn, 1) := by decide +kernel
set_option maxRecDepth 20000 in
theorem ggX11_comesByStones_X6_take : GoodIn wsX11_comesByStones wsX6_take := goodIn_r _ [10, 11, 12, 84, 85, 86, 87] (by decide +kernel) (by decide +kernel)
set_option maxRecDepth 20000 in
theorem gX11_comesByStones_X6_take : GoodIn wsX11_comesByStones (wsV RX11 340 RX6 yX6_take wsX6_take) := goodIn_app (goodIn_of _ (by decide +kernel)) ggX11_comesByStones_X6_take
set_option maxRecDepth 20000 in
theorem ggX11_comesByStones_X6_turnAt : GoodIn wsX11_comesByStones wsX6_turnAt := goodIn_r _ [16, 11, 84, 85] (by decide +kernel) (by decide +kernel)
set_option maxRecDepth 20000 in
theorem gX11_comesByStones_X6_turnAt : GoodIn wsX11_comesByStones (wsV RX11 367 RX6 yX6_turnAt wsX6_turnAt) := goodIn_app (goodIn_of _ (by decide +kernel)) ggX11_comesByStones_X6_turnAt
set_option maxRecDepth 20000 in
theorem ggX11_comesByStones_X6_spread : GoodIn wsX11_comesByStones wsX6_spread := goodIn_r _ [20, 21, 22, 23, 24, 25, 26, 27, 28, 29, 30, 31, 32, 33, 34, 9, 35, 36, 37, 11, 38, 39, 40, 41, 42, 43, 44, 45, 46, 47, 48, 49, 84, 85, 73, 74, 75, 76, 77, 78, 79, 80] (by decide +kernel) (by decide +kernel)
set_option maxRecDepth 20000 in
theorem gX11_comesByStones_X6_spread : GoodIn wsX11_comesByStones (wsV RX11 343 RX6 yX6_spread wsX6_spread) := goodIn_app (goodIn_of _ (by decide +kernel)) ggX11_comesByStones_X6_spread
set_option maxRecDepth 20000 in
theorem ggX11_comesByStones_X6_hasPlace : GoodIn wsX11_comesByStones wsX6_hasPlace := goodIn_r _ [53, 54, 55, 56, 9, 57, 21, 84, 85] (by decide +kernel) (by decide +kernel)
set_option maxRecDepth 20000 in
theorem gX11_comesByStones_X6_hasPlace : GoodIn wsX11_comesByStones (wsV RX11 361 RX6 yX6_hasPlace wsX6_hasPlace) := goodIn_app (goodIn_of _ (by decide +kernel)) ggX11_comesByStones_X6_hasPlace
theorem dX11_comesByStones_0 : decode cX11_comesByStones 0 = .ok (.aload_n 0, 1) := by decide +kernel
theorem dX11_comesByStones_1 : decode cX11_comesByStones 1 = .ok (.getfield 60, 3) := by decide +kernel
theorem dX11_comesByStones_4 : decode cX11_comesByStones 4 = .ok (.aload_n 0, 1) := by decide +kernel
theorem dX11_comesByStones_5 : decode cX11_comesByStones 5 = .ok (.getfield 43, 3) := by decide +kernel
theorem dX11_comesByStones_8 : decode cX11_comesByStones 8 = .ok (.aload_n 0, 1) := by decide +kernel
theorem dX11_comesByStones_9 : decode cX11_comesByStones 9 = .ok (.getfield 19, 3) := by decide +kernel
theorem dX11_comesByStones_12 : decode cX11_comesByStones 12 = .ok (.getfield 105, 3) := by decide +kernel
theorem dX11_comesByStones_15 : decode cX11_comesByStones 15 = .ok (.invokevirtual 340, 3) := by decide +kernel
theorem dX11_comesByStones_18 : decode cX11_comesByStones 18 = .ok (.aload_n 0, 1) := by decide +kernel
theorem dX11_comesByStones_19 : decode cX11_comesByStones 19 = .ok (.getfield 60, 3) := by decide +kernel
theorem dX11_comesByStones_22 : decode cX11_comesByStones 22 = .ok (.iload_n 3, 1) := by decide +kernel
theorem dX11_comesByStones_23 : decode cX11_comesByStones 23 = .ok (.invokevirtual 367, 3) := by decide +kernel
theorem dX11_comesByStones_26 : decode cX11_comesByStones 26 = .ok (.aload_n 0, 1) := by decide +kernel
theorem dX11_comesByStones_27 : decode cX11_comesByStones 27 = .ok (.getfield 60, 3) := by decide +kernel
theorem dX11_comesByStones_30 : decode cX11_comesByStones 30 = .ok (.aload_n 0, 1) := by decide +kernel
theorem dX11_comesByStones_31 : decode cX11_comesByStones 31 = .ok (.getfield 19, 3) := by decide +kernel
theorem dX11_comesByStones_34 : decode cX11_comesByStones 34 = .ok (.aload_n 1, 1) := by decide +kernel
theorem dX11_comesByStones_35 : decode cX11_comesByStones 35 = .ok (.getfield 146, 3) := by decide +kernel
theorem dX11_comesByStones_38 : decode cX11_comesByStones 38 = .ok (.iconst 1, 1) := by decide +kernel
theorem dX11_comesByStones_39 : decode cX11_comesByStones 39 = .ok (.invokevirtual 343, 3) := by decide +kernel
theorem dX11_comesByStones_42 : decode cX11_comesByStones 42 = .ok (.aload_n 0, 1) := by decide +kernel
theorem dX11_comesByStones_43 : decode cX11_comesByStones 43 = .ok (.getfield 60, 3) := by decide +kernel
theorem dX11_comesByStones_46 : decode cX11_comesByStones 46 = .ok (.iload_n 2, 1) := by decide +kernel
theorem dX11_comesByStones_47 : decode cX11_comesByStones 47 = .ok (.invokevirtual 361, 3) := by decide +kernel
theorem dX11_comesByStones_50 : decode cX11_comesByStones 50 = .ok (.ireturn, 1) := by decide +kernel
set_option maxRecDepth 20000 in
theorem ggX11_turnedByStone_X9_turnOf : GoodIn wsX11_turnedByStone wsX9_turnOf := goodIn_r _ [7, 8, 9, 6, 10] (by decide +kernel) (by decide +kernel)
set_option maxRecDepth 20000 in
theorem gX11_turnedByStone_X9_turnOf : GoodIn wsX11_turnedByStone (va_wsS RX11 255 yX9_turnOf wsX9_turnOf) := goodIn_app (goodIn_of _ (by decide +kernel)) ggX11_turnedByStone_X9_turnOf
theorem dX11_turnedByStone_0 : decode cX11_turnedByStone 0 = .ok (.iconst 0, 1) := by decide +kernel
theorem dX11_turnedByStone_1 : decode cX11_turnedByStone 1 = .ok (.istore_n 2, 1) := by decide +kernel
theorem dX11_turnedByStone_2 : decode cX11_turnedByStone 2 = .ok (.iconst 0, 1) := by decide +kernel
theorem dX11_turnedByStone_3 : decode cX11_turnedByStone 3 = .ok (.istore_n 3, 1) := by decide +kernel
theorem dX11_turnedByStone_4 : decode cX11_turnedByStone 4 = .ok (.iload_n 3, 1) := by decide +kernel
theorem dX11_turnedByStone_5 : decode cX11_turnedByStone 5 = .ok (.aload_n 0, 1) := by decide +kernel
theorem dX11_turnedByStone_6 : decode cX11_turnedByStone 6 = .ok (.getfield 19, 3) := by decide +kernel
theorem dX11_turnedByStone_9 : decode cX11_turnedByStone 9 = .ok (.getfield 105, 3) := by decide +kernel
theorem dX11_turnedByStone_12 : decode cX11_turnedByStone 12 = .ok (.if_icmp .ge 43, 3) := by decide +kernel
theorem dX11_turnedByStone_15 : decode cX11_turnedByStone 15 = .ok (.aload_n 0, 1) := by decide +kernel
theorem dX11_turnedByStone_16 : decode cX11_turnedByStone 16 = .ok (.getfield 19, 3) := by decide +kernel
theorem dX11_turnedByStone_19 : decode cX11_turnedByStone 19 = .ok (.getfield 118, 3) := by decide +kernel
theorem dX11_turnedByStone_22 : decode cX11_turnedByStone 22 = .ok (.iload_n 3, 1) := by decide +kernel
theorem dX11_turnedByStone_23 : decode cX11_turnedByStone 23 = .ok (.iaload, 1) := by decide +kernel
theorem dX11_turnedByStone_24 : decode cX11_turnedByStone 24 = .ok (.istore 4, 2) := by decide +kernel
theorem dX11_turnedByStone_26 : decode cX11_turnedByStone 26 = .ok (.iload_n 1, 1) := by decide +kernel
theorem dX11_turnedByStone_27 : decode cX11_turnedByStone 27 = .ok (.iload 4, 2) := by decide +kernel
theorem dX11_turnedByStone_29 : decode cX11_turnedByStone 29 = .ok (.invokestatic 255, 3) := by decide +kernel
theorem dX11_turnedByStone_32 : decode cX11_turnedByStone 32 = .ok (.iload_n 1, 1) := by decide +kernel
theorem dX11_turnedByStone_33 : decode cX11_turnedByStone 33 = .ok (.iload 4, 2) := by decide +kernel
theorem dX11_turnedByStone_35 : decode cX11_turnedByStone 35 = .ok (.iconst 1, 1) := by decide +kernel
theorem dX11_turnedByStone_36 : decode cX11_turnedByStone 36 = .ok (.iadd, 1) := by decide +kernel
theorem dX11_turnedByStone_37 : decode cX11_turnedByStone 37 = .ok (.invokestatic 255, 3) := by decide +kernel
theorem dX11_turnedByStone_40 : decode cX11_turnedByStone 40 = .ok (.if_icmp .eq 9, 3) := by decide +kernel
theorem dX11_turnedByStone_43 : decode cX11_turnedByStone 43 = .ok (.iload_n 2, 1) := by decide +kernel
theorem dX11_turnedByStone_44 : decode cX11_turnedByStone 44 = .ok (.iconst 1, 1) := by decide +kernel
theorem dX11_turnedByStone_45 : decode cX11_turnedByStone 45 = .ok (.iload_n 3, 1) := by decide +kernel
theorem dX11_turnedByStone_46 : decode cX11_turnedByStone 46 = .ok (.ishl, 1) := by decide +kernel
theorem dX11_turnedByStone_47 : decode cX11_turnedByStone 47 = .ok (.ior, 1) := by decide +kernel
theorem dX11_turnedByStone_48 : decode cX11_turnedByStone 48 = .ok (.istore_n 2, 1) := by decide +kernel
theorem dX11_turnedByStone_49 : decode cX11_turnedByStone 49 = .ok (.iinc 3 1, 3) := by decide +kernel
theorem dX11_turnedByStone_52 : decode cX11_turnedByStone 52 = .ok (.goto (-48), 3) := by decide +kernel
theorem dX11_turnedByStone_55 : decode cX11_turnedByStone 55 = .ok (.iload_n 2, 1) := by decide +kernel
theorem dX11_turnedByStone_56 : decode cX11_turnedByStone 56 = .ok (.ireturn, 1) := by decide +kernel
set_option maxRecDepth 20000 in
theorem ggX11_stonesForEven_X11_turnedByStone : GoodIn wsX11_stonesForEven wsX11_turnedByStone := goodIn_r _ [5, 6, 7, 8, 9, 10, 11, 12, 13, 14, 15, 32, 33, 34, 35, 36, 37, 38, 39, 40, 41, 42, 43, 44, 45, 46, 47, 48, 49, 50, 51, 52, 53, 54] (by decide +kernel) (by decide +kernel)
set_option maxRecDepth 20000 in
theorem gX11_stonesForEven_X11_turnedByStone : GoodIn wsX11_stonesForEven (wsV RX11 354 RX11 yX11_turnedByStone wsX11_turnedByStone) := goodIn_app (goodIn_of _ (by decide +kernel)) ggX11_stonesForEven_X11_turnedByStone
set_option maxRecDepth 20000 in
theorem ggX11_stonesForEven_X11_streetsAgainst : GoodIn wsX11_stonesForEven wsX11_streetsAgainst := goodIn_r _ [19, 6, 7, 20, 21, 8, 9, 10, 11, 12, 13, 14, 15, 32, 33, 34, 35, 36, 37, 38, 39, 40, 41, 42, 43, 44, 45, 46, 47, 48, 49, 50, 51, 52, 53, 54] (by decide +kernel) (by decide +kernel)
set_option maxRecDepth 20000 in
theorem gX11_stonesForEven_X11_streetsAgainst : GoodIn wsX11_stonesForEven (wsV RX11 370 RX11 yX11_streetsAgainst wsX11_streetsAgainst) := goodIn_app (goodIn_of _ (by decide +kernel)) ggX11_stonesForEven_X11_streetsAgainst
set_option maxRecDepth 20000 in
theorem ggX11_stonesForEven_X11_isBetter : GoodIn wsX11_stonesForEven wsX11_isBetter := goodIn_r _ [24, 25, 26, 27, 28, 29, 30, 31] (by decide +kernel) (by decide +kernel)
set_option maxRecDepth 20000 in
theorem gX11_stonesForEven_X11_isBetter : GoodIn wsX11_stonesForEven (va_wsS RX11 373 yX11_isBetter wsX11_isBetter) := goodIn_app (goodIn_of _ (by decide +kernel)) ggX11_stonesForEven_X11_isBetter
theorem dX11_stonesForEven_0 : decode cX11_stonesForEven 0 = .ok (.iload_n 1, 1) := by decide +kernel
theorem dX11_stonesForEven_1 : decode cX11_stonesForEven 1 = .ok (.iconst 3, 1) := by decide +kernel
theorem dX11_stonesForEven_2 : decode cX11_stonesForEven 2 = .ok (.if_icmp .ne 7, 3) := by decide +kernel
theorem dX11_stonesForEven_5 : decode cX11_stonesForEven 5 = .ok (.iconst 0, 1) := by decide +kernel
theorem dX11_stonesForEven_6 : decode cX11_stonesForEven 6 = .ok (.goto 4, 3) := by decide +kernel
theorem dX11_stonesForEven_9 : decode cX11_stonesForEven 9 = .ok (.iload_n 1, 1) := by decide +kernel
theorem dX11_stonesForEven_10 : decode cX11_stonesForEven 10 = .ok (.istore_n 2, 1) := by decide +kernel
theorem dX11_stonesForEven_11 : decode cX11_stonesForEven 11 = .ok (.aload_n 0, 1) := by decide +kernel
theorem dX11_stonesForEven_12 : decode cX11_stonesForEven 12 = .ok (.iload_n 2, 1) := by decide +kernel
theorem dX11_stonesForEven_13 : decode cX11_stonesForEven 13 = .ok (.invokevirtual 354, 3) := by decide +kernel
theorem dX11_stonesForEven_16 : decode cX11_stonesForEven 16 = .ok (.istore_n 3, 1) := by decide +kernel
theorem dX11_stonesForEven_17 : decode cX11_stonesForEven 17 = .ok (.iconst (-1), 1) := by decide +kernel
theorem dX11_stonesForEven_18 : decode cX11_stonesForEven 18 = .ok (.istore 4, 2) := by decide +kernel
theorem dX11_stonesForEven_20 : decode cX11_stonesForEven 20 = .ok (.iconst 0, 1) := by decide +kernel
theorem dX11_stonesForEven_21 : decode cX11_stonesForEven 21 = .ok (.istore 5, 2) := by decide +kernel
theorem dX11_stonesForEven_23 : decode cX11_stonesForEven 23 = .ok (.iload 5, 2) := by decide +kernel
theorem dX11_stonesForEven_25 : decode cX11_stonesForEven 25 = .ok (.sipush 128, 3) := by decide +kernel
theorem dX11_stonesForEven_28 : decode cX11_stonesForEven 28 = .ok (.if_icmp .ge 47, 3) := by decide +kernel
theorem dX11_stonesForEven_31 : decode cX11_stonesForEven 31 = .ok (.aload_n 0, 1) := by decide +kernel
theorem dX11_stonesForEven_32 : decode cX11_stonesForEven 32 = .ok (.iload 5, 2) := by decide +kernel
theorem dX11_stonesForEven_34 : decode cX11_stonesForEven 34 = .ok (.iload_n 2, 1) := by decide +kernel
theorem dX11_stonesForEven_35 : decode cX11_stonesForEven 35 = .ok (.invokevirtual 370, 3) := by decide +kernel
theorem dX11_stonesForEven_38 : decode cX11_stonesForEven 38 = .ok (.istore 6, 2) := by decide +kernel
theorem dX11_stonesForEven_40 : decode cX11_stonesForEven 40 = .ok (.iload 6, 2) := by decide +kernel
theorem dX11_stonesForEven_42 : decode cX11_stonesForEven 42 = .ok (.iload_n 3, 1) := by decide +kernel
theorem dX11_stonesForEven_43 : decode cX11_stonesForEven 43 = .ok (.iconst (-1), 1) := by decide +kernel
theorem dX11_stonesForEven_44 : decode cX11_stonesForEven 44 = .ok (.ixor, 1) := by decide +kernel
theorem dX11_stonesForEven_45 : decode cX11_stonesForEven 45 = .ok (.iand, 1) := by decide +kernel
theorem dX11_stonesForEven_46 : decode cX11_stonesForEven 46 = .ok (.ifCond .ne 23, 3) := by decide +kernel
theorem dX11_stonesForEven_49 : decode cX11_stonesForEven 49 = .ok (.iload 4, 2) := by decide +kernel
theorem dX11_stonesForEven_51 : decode cX11_stonesForEven 51 = .ok (.iconst (-1), 1) := by decide +kernel
theorem dX11_stonesForEven_52 : decode cX11_stonesForEven 52 = .ok (.if_icmp .eq 13, 3) := by decide +kernel
theorem dX11_stonesForEven_55 : decode cX11_stonesForEven 55 = .ok (.iload 6, 2) := by decide +kernel
theorem dX11_stonesForEven_57 : decode cX11_stonesForEven 57 = .ok (.iload 4, 2) := by decide +kernel
theorem dX11_stonesForEven_59 : decode cX11_stonesForEven 59 = .ok (.invokestatic 373, 3) := by decide +kernel
theorem dX11_stonesForEven_62 : decode cX11_stonesForEven 62 = .ok (.ifCond .eq 7, 3) := by decide +kernel
theorem dX11_stonesForEven_65 : decode cX11_stonesForEven 65 = .ok (.iload 6, 2) := by decide +kernel
theorem dX11_stonesForEven_67 : decode cX11_stonesForEven 67 = .ok (.istore 4, 2) := by decide +kernel
theorem dX11_stonesForEven_69 : decode cX11_stonesForEven 69 = .ok (.iinc 5 1, 3) := by decide +kernel
theorem dX11_stonesForEven_72 : decode cX11_stonesForEven 72 = .ok (.goto (-49), 3) := by decide +kernel
theorem dX11_stonesForEven_75 : decode cX11_stonesForEven 75 = .ok (.iload 4, 2) := by decide +kernel
theorem dX11_stonesForEven_77 : decode cX11_stonesForEven 77 = .ok (.ireturn, 1) := by decide +kernel
set_option maxRecDepth 20000 in
theorem ggX11_streetsAgainst_X9_turnOf : GoodIn wsX11_streetsAgainst wsX9_turnOf := goodIn_r _ [9, 10, 11, 8, 12] (by decide +kernel) (by decide +kernel)
set_option maxRecDepth 20000 in
theorem gX11_streetsAgainst_X9_turnOf : GoodIn wsX11_streetsAgainst (va_wsS RX11 255 yX9_turnOf wsX9_turnOf) := goodIn_app (goodIn_of _ (by decide +kernel)) ggX11_streetsAgainst_X9_turnOf
theorem dX11_streetsAgainst_0 : decode cX11_streetsAgainst 0 = .ok (.iconst 0, 1) := by decide +kernel
theorem dX11_streetsAgainst_1 : decode cX11_streetsAgainst 1 = .ok (.istore_n 3, 1) := by decide +kernel
theorem dX11_streetsAgainst_2 : decode cX11_streetsAgainst 2 = .ok (.iconst 0, 1) := by decide +kernel
theorem dX11_streetsAgainst_3 : decode cX11_streetsAgainst 3 = .ok (.istore 4, 2) := by decide +kernel
theorem dX11_streetsAgainst_5 : decode cX11_streetsAgainst 5 = .ok (.iload 4, 2) := by decide +kernel
theorem dX11_streetsAgainst_7 : decode cX11_streetsAgainst 7 = .ok (.aload_n 0, 1) := by decide +kernel
theorem dX11_streetsAgainst_8 : decode cX11_streetsAgainst 8 = .ok (.getfield 19, 3) := by decide +kernel
theorem dX11_streetsAgainst_11 : decode cX11_streetsAgainst 11 = .ok (.getfield 105, 3) := by decide +kernel
theorem dX11_streetsAgainst_14 : decode cX11_streetsAgainst 14 = .ok (.if_icmp .ge 64, 3) := by decide +kernel
theorem dX11_streetsAgainst_17 : decode cX11_streetsAgainst 17 = .ok (.iload_n 1, 1) := by decide +kernel
theorem dX11_streetsAgainst_18 : decode cX11_streetsAgainst 18 = .ok (.aload_n 0, 1) := by decide +kernel
theorem dX11_streetsAgainst_19 : decode cX11_streetsAgainst 19 = .ok (.getfield 19, 3) := by decide +kernel
theorem dX11_streetsAgainst_22 : decode cX11_streetsAgainst 22 = .ok (.getfield 112, 3) := by decide +kernel
theorem dX11_streetsAgainst_25 : decode cX11_streetsAgainst 25 = .ok (.iload 4, 2) := by decide +kernel
theorem dX11_streetsAgainst_27 : decode cX11_streetsAgainst 27 = .ok (.iaload, 1) := by decide +kernel
theorem dX11_streetsAgainst_28 : decode cX11_streetsAgainst 28 = .ok (.ishr, 1) := by decide +kernel
theorem dX11_streetsAgainst_29 : decode cX11_streetsAgainst 29 = .ok (.iload_n 1, 1) := by decide +kernel
theorem dX11_streetsAgainst_30 : decode cX11_streetsAgainst 30 = .ok (.aload_n 0, 1) := by decide +kernel
theorem dX11_streetsAgainst_31 : decode cX11_streetsAgainst 31 = .ok (.getfield 19, 3) := by decide +kernel
theorem dX11_streetsAgainst_34 : decode cX11_streetsAgainst 34 = .ok (.getfield 115, 3) := by decide +kernel
theorem dX11_streetsAgainst_37 : decode cX11_streetsAgainst 37 = .ok (.iload 4, 2) := by decide +kernel
theorem dX11_streetsAgainst_39 : decode cX11_streetsAgainst 39 = .ok (.iaload, 1) := by decide +kernel
theorem dX11_streetsAgainst_40 : decode cX11_streetsAgainst 40 = .ok (.ishr, 1) := by decide +kernel
theorem dX11_streetsAgainst_41 : decode cX11_streetsAgainst 41 = .ok (.ixor, 1) := by decide +kernel
theorem dX11_streetsAgainst_42 : decode cX11_streetsAgainst 42 = .ok (.iconst 1, 1) := by decide +kernel
theorem dX11_streetsAgainst_43 : decode cX11_streetsAgainst 43 = .ok (.iand, 1) := by decide +kernel
theorem dX11_streetsAgainst_44 : decode cX11_streetsAgainst 44 = .ok (.istore 5, 2) := by decide +kernel
theorem dX11_streetsAgainst_46 : decode cX11_streetsAgainst 46 = .ok (.iload 5, 2) := by decide +kernel
theorem dX11_streetsAgainst_48 : decode cX11_streetsAgainst 48 = .ok (.iload_n 2, 1) := by decide +kernel
theorem dX11_streetsAgainst_49 : decode cX11_streetsAgainst 49 = .ok (.aload_n 0, 1) := by decide +kernel
theorem dX11_streetsAgainst_50 : decode cX11_streetsAgainst 50 = .ok (.getfield 19, 3) := by decide +kernel
theorem dX11_streetsAgainst_53 : decode cX11_streetsAgainst 53 = .ok (.getfield 118, 3) := by decide +kernel
theorem dX11_streetsAgainst_56 : decode cX11_streetsAgainst 56 = .ok (.iload 4, 2) := by decide +kernel
theorem dX11_streetsAgainst_58 : decode cX11_streetsAgainst 58 = .ok (.iaload, 1) := by decide +kernel
theorem dX11_streetsAgainst_59 : decode cX11_streetsAgainst 59 = .ok (.invokestatic 255, 3) := by decide +kernel
theorem dX11_streetsAgainst_62 : decode cX11_streetsAgainst 62 = .ok (.if_icmp .eq 10, 3) := by decide +kernel
theorem dX11_streetsAgainst_65 : decode cX11_streetsAgainst 65 = .ok (.iload_n 3, 1) := by decide +kernel
theorem dX11_streetsAgainst_66 : decode cX11_streetsAgainst 66 = .ok (.iconst 1, 1) := by decide +kernel
theorem dX11_streetsAgainst_67 : decode cX11_streetsAgainst 67 = .ok (.iload 4, 2) := by decide +kernel
theorem dX11_streetsAgainst_69 : decode cX11_streetsAgainst 69 = .ok (.ishl, 1) := by decide +kernel
theorem dX11_streetsAgainst_70 : decode cX11_streetsAgainst 70 = .ok (.ior, 1) := by decide +kernel
theorem dX11_streetsAgainst_71 : decode cX11_streetsAgainst 71 = .ok (.istore_n 3, 1) := by decide +kernel
theorem dX11_streetsAgainst_72 : decode cX11_streetsAgainst 72 = .ok (.iinc 4 1, 3) := by decide +kernel
theorem dX11_streetsAgainst_75 : decode cX11_streetsAgainst 75 = .ok (.goto (-70), 3) := by decide +kernel
theorem dX11_streetsAgainst_78 : decode cX11_streetsAgainst 78 = .ok (.iload_n 3, 1) := by decide +kernel
theorem dX11_streetsAgainst_79 : decode cX11_streetsAgainst 79 = .ok (.ireturn, 1) := by decide +kernel
set_option maxRecDepth 20000 in
theorem ggX11_isBetter_J6_bitCount_0f7a4 : GoodIn wsX11_isBetter wsJ6_bitCount_0f7a4 := goodIn_r _ [4, 5, 6, 7] (by decide +kernel) (by decide +kernel)
set_option maxRecDepth 20000 in
theorem gX11_isBetter_J6_bitCount_0f7a4 : GoodIn wsX11_isBetter (va_wsS RX11 335 yJ6_bitCount_0f7a4 wsJ6_bitCount_0f7a4) := goodIn_app (goodIn_of _ (by decide +kernel)) ggX11_isBetter_J6_bitCount_0f7a4
theorem dX11_isBetter_0 : decode cX11_isBetter 0 = .ok (.iload_n 0, 1) := by decide +kernel
theorem dX11_isBetter_1 : decode cX11_isBetter 1 = .ok (.invokestatic 335, 3) := by decide +kernel
theorem dX11_isBetter_4 : decode cX11_isBetter 4 = .ok (.istore_n 2, 1) := by decide +kernel
theorem dX11_isBetter_5 : decode cX11_isBetter 5 = .ok (.iload_n 1, 1) := by decide +kernel
theorem dX11_isBetter_6 : decode cX11_isBetter 6 = .ok (.invokestatic 335, 3) := by decide +kernel
theorem dX11_isBetter_9 : decode cX11_isBetter 9 = .ok (.istore_n 3, 1) := by decide +kernel
theorem dX11_isBetter_10 : decode cX11_isBetter 10 = .ok (.iload_n 2, 1) := by decide +kernel
theorem dX11_isBetter_11 : decode cX11_isBetter 11 = .ok (.iload_n 3, 1) := by decide +kernel
theorem dX11_isBetter_12 : decode cX11_isBetter 12 = .ok (.if_icmp .lt 13, 3) := by decide +kernel
theorem dX11_isBetter_15 : decode cX11_isBetter 15 = .ok (.iload_n 2, 1) := by decide +kernel
theorem dX11_isBetter_16 : decode cX11_isBetter 16 = .ok (.iload_n 3, 1) := by decide +kernel
theorem dX11_isBetter_17 : decode cX11_isBetter 17 = .ok (.if_icmp .ne 12, 3) := by decide +kernel
theorem dX11_isBetter_20 : decode cX11_isBetter 20 = .ok (.iload_n 0, 1) := by decide +kernel
theorem dX11_isBetter_21 : decode cX11_isBetter 21 = .ok (.iload_n 1, 1) := by decide +kernel
theorem dX11_isBetter_22 : decode cX11_isBetter 22 = .ok (.if_icmp .ge 7, 3) := by decide +kernel
theorem dX11_isBetter_25 : decode cX11_isBetter 25 = .ok (.iconst 1, 1) := by decide +kernel
theorem dX11_isBetter_26 : decode cX11_isBetter 26 = .ok (.goto 4, 3) := by decide +kernel
theorem dX11_isBetter_29 : decode cX11_isBetter 29 = .ok (.iconst 0, 1) := by decide +kernel
theorem dX11_isBetter_30 : decode cX11_isBetter 30 = .ok (.ireturn, 1) := by decide +kernel
set_option maxRecDepth 20000 in
theorem ggX11_couldLeavePrints_X2_take : GoodIn wsX11_couldLeavePrints wsX2_take := goodIn_r _ [17, 18, 19, 20, 21, 22, 16, 23, 24, 25, 26, 27, 28, 29, 30, 31, 32, 33, 141, 142, 143, 144, 145, 146, 147, 148, 149, 150] (by decide +kernel) (by decide +kernel)
set_option maxRecDepth 20000 in
theorem gX11_couldLeavePrints_X2_take : GoodIn wsX11_couldLeavePrints (wsV RX11 194 RX2 yX2_take wsX2_take) := goodIn_app (goodIn_of _ (by decide +kernel)) ggX11_couldLeavePrints_X2_take
set_option maxRecDepth 20000 in
theorem ggX11_couldLeavePrints_X6_take : GoodIn wsX11_couldLeavePrints wsX6_take := goodIn_r _ [38, 39, 40, 151, 152, 149, 150] (by decide +kernel) (by decide +kernel)
set_option maxRecDepth 20000 in
theorem gX11_couldLeavePrints_X6_take : GoodIn wsX11_couldLeavePrints (wsV RX11 340 RX6 yX6_take wsX6_take) := goodIn_app (goodIn_of _ (by decide +kernel)) ggX11_couldLeavePrints_X6_take
set_option maxRecDepth 20000 in
theorem ggX11_couldLeavePrints_X11_gateOfPrint : GoodIn wsX11_couldLeavePrints wsX11_gateOfPrint := goodIn_r _ [44] (by decide +kernel) (by decide +kernel)
set_option maxRecDepth 20000 in
theorem gX11_couldLeavePrints_X11_gateOfPrint : GoodIn wsX11_couldLeavePrints (va_wsS RX11 301 yX11_gateOfPrint wsX11_gateOfPrint) := goodIn_app (goodIn_of _ (by decide +kernel)) ggX11_couldLeavePrints_X11_gateOfPrint
set_option maxRecDepth 20000 in
theorem ggX11_couldLeavePrints_X11_wayOfPrint : GoodIn wsX11_couldLeavePrints wsX11_wayOfPrint := goodIn_r _ [47] (by decide +kernel) (by decide +kernel)
set_option maxRecDepth 20000 in
theorem gX11_couldLeavePrints_X11_wayOfPrint : GoodIn wsX11_couldLeavePrints (va_wsS RX11 304 yX11_wayOfPrint wsX11_wayOfPrint) := goodIn_app (goodIn_of _ (by decide +kernel)) ggX11_couldLeavePrints_X11_wayOfPrint
set_option maxRecDepth 20000 in
theorem ggX11_couldLeavePrints_X11_footOfPrint : GoodIn wsX11_couldLeavePrints wsX11_footOfPrint := goodIn_r _ [50] (by decide +kernel) (by decide +kernel)
set_option maxRecDepth 20000 in
theorem gX11_couldLeavePrints_X11_footOfPrint : GoodIn wsX11_couldLeavePrints (va_wsS RX11 307 yX11_footOfPrint wsX11_footOfPrint) := goodIn_app (goodIn_of _ (by decide +kernel)) ggX11_couldLeavePrints_X11_footOfPrint
set_option maxRecDepth 20000 in
theorem ggX11_couldLeavePrints_X6_spread : GoodIn wsX11_couldLeavePrints wsX6_spread := goodIn_r _ [54, 55, 56, 57, 58, 59, 60, 61, 62, 63, 64, 65, 66, 67, 68, 37, 69, 70, 71, 39, 72, 73, 74, 75, 76, 77, 78, 79, 80, 81, 82, 83, 151, 152, 141, 142, 143, 144, 145, 146, 147, 148] (by decide +kernel) (by decide +kernel)
set_option maxRecDepth 20000 in
theorem gX11_couldLeavePrints_X6_spread : GoodIn wsX11_couldLeavePrints (wsV RX11 343 RX6 yX6_spread wsX6_spread) := goodIn_app (goodIn_of _ (by decide +kernel)) ggX11_couldLeavePrints_X6_spread
set_option maxRecDepth 20000 in
theorem ggX11_couldLeavePrints_X6_hasStand : GoodIn wsX11_couldLeavePrints wsX6_hasStand := goodIn_r _ [87, 55, 151, 152] (by decide +kernel) (by decide +kernel)
set_option maxRecDepth 20000 in
theorem gX11_couldLeavePrints_X6_hasStand : GoodIn wsX11_couldLeavePrints (wsV RX11 379 RX6 yX6_hasStand wsX6_hasStand) := goodIn_app (goodIn_of _ (by decide +kernel)) ggX11_couldLeavePrints_X6_hasStand
set_option maxRecDepth 20000 in
theorem ggX11_couldLeavePrints_X7_marksOf : GoodIn wsX11_couldLeavePrints wsX7_marksOf := goodIn_r _ [65] (by decide +kernel) (by decide +kernel)
set_option maxRecDepth 20000 in
theorem gX11_couldLeavePrints_X7_marksOf : GoodIn wsX11_couldLeavePrints (va_wsS RX11 382 yX7_marksOf wsX7_marksOf) := goodIn_app (goodIn_of _ (by decide +kernel)) ggX11_couldLeavePrints_X7_marksOf
set_option maxRecDepth 20000 in
theorem ggX11_couldLeavePrints_X7_of : GoodIn wsX11_couldLeavePrints wsX7_of := goodIn_r _ [91] (by decide +kernel) (by decide +kernel)
set_option maxRecDepth 20000 in
theorem gX11_couldLeavePrints_X7_of : GoodIn wsX11_couldLeavePrints (va_wsS RX11 140 yX7_of wsX7_of) := goodIn_app (goodIn_of _ (by decide +kernel)) ggX11_couldLeavePrints_X7_of
set_option maxRecDepth 20000 in
theorem ggX11_couldLeavePrints_X8_behind : GoodIn wsX11_couldLeavePrints wsX8_behind := goodIn_r _ [96, 97, 98, 99, 100, 101, 64, 102, 103, 104, 105, 95, 106, 107, 108, 109, 110, 63, 65, 111, 112, 113, 114, 90, 91, 115, 116, 117, 118, 119, 120, 121, 122, 141, 142, 143, 144, 145, 146, 147, 148] (by decide +kernel) (by decide +kernel)
set_option maxRecDepth 20000 in
theorem gX11_couldLeavePrints_X8_behind : GoodIn wsX11_couldLeavePrints (wsV RX11 258 RX8 yX8_behind wsX8_behind) := goodIn_app (goodIn_of _ (by decide +kernel)) ggX11_couldLeavePrints_X8_behind
theorem dX11_couldLeavePrints_0 : decode cX11_couldLeavePrints 0 = .ok (.aload_n 0, 1) := by decide +kernel
theorem dX11_couldLeavePrints_1 : decode cX11_couldLeavePrints 1 = .ok (.getfield 43, 3) := by decide +kernel
theorem dX11_couldLeavePrints_4 : decode cX11_couldLeavePrints 4 = .ok (.aload_n 1, 1) := by decide +kernel
theorem dX11_couldLeavePrints_5 : decode cX11_couldLeavePrints 5 = .ok (.getfield 137, 3) := by decide +kernel
theorem dX11_couldLeavePrints_8 : decode cX11_couldLeavePrints 8 = .ok (.aload_n 0, 1) := by decide +kernel
theorem dX11_couldLeavePrints_9 : decode cX11_couldLeavePrints 9 = .ok (.getfield 19, 3) := by decide +kernel
theorem dX11_couldLeavePrints_12 : decode cX11_couldLeavePrints 12 = .ok (.invokevirtual 194, 3) := by decide +kernel
theorem dX11_couldLeavePrints_15 : decode cX11_couldLeavePrints 15 = .ok (.aload_n 0, 1) := by decide +kernel
theorem dX11_couldLeavePrints_16 : decode cX11_couldLeavePrints 16 = .ok (.getfield 60, 3) := by decide +kernel
theorem dX11_couldLeavePrints_19 : decode cX11_couldLeavePrints 19 = .ok (.aload_n 0, 1) := by decide +kernel
theorem dX11_couldLeavePrints_20 : decode cX11_couldLeavePrints 20 = .ok (.getfield 43, 3) := by decide +kernel
theorem dX11_couldLeavePrints_23 : decode cX11_couldLeavePrints 23 = .ok (.aload_n 0, 1) := by decide +kernel
theorem dX11_couldLeavePrints_24 : decode cX11_couldLeavePrints 24 = .ok (.getfield 19, 3) := by decide +kernel
theorem dX11_couldLeavePrints_27 : decode cX11_couldLeavePrints 27 = .ok (.getfield 105, 3) := by decide +kernel
theorem dX11_couldLeavePrints_30 : decode cX11_couldLeavePrints 30 = .ok (.invokevirtual 340, 3) := by decide +kernel
theorem dX11_couldLeavePrints_33 : decode cX11_couldLeavePrints 33 = .ok (.aload_n 1, 1) := by decide +kernel
theorem dX11_couldLeavePrints_34 : decode cX11_couldLeavePrints 34 = .ok (.getfield 146, 3) := by decide +kernel
theorem dX11_couldLeavePrints_37 : decode cX11_couldLeavePrints 37 = .ok (.istore_n 2, 1) := by decide +kernel
theorem dX11_couldLeavePrints_38 : decode cX11_couldLeavePrints 38 = .ok (.iconst 0, 1) := by decide +kernel
theorem dX11_couldLeavePrints_39 : decode cX11_couldLeavePrints 39 = .ok (.istore_n 3, 1) := by decide +kernel
theorem dX11_couldLeavePrints_40 : decode cX11_couldLeavePrints 40 = .ok (.iload_n 3, 1) := by decide +kernel
theorem dX11_couldLeavePrints_41 : decode cX11_couldLeavePrints 41 = .ok (.aload_n 0, 1) := by decide +kernel
theorem dX11_couldLeavePrints_42 : decode cX11_couldLeavePrints 42 = .ok (.getfield 99, 3) := by decide +kernel
theorem dX11_couldLeavePrints_45 : decode cX11_couldLeavePrints 45 = .ok (.if_icmp .ge 154, 3) := by decide +kernel
theorem dX11_couldLeavePrints_48 : decode cX11_couldLeavePrints 48 = .ok (.aload_n 0, 1) := by decide +kernel
theorem dX11_couldLeavePrints_49 : decode cX11_couldLeavePrints 49 = .ok (.getfield 19, 3) := by decide +kernel
theorem dX11_couldLeavePrints_52 : decode cX11_couldLeavePrints 52 = .ok (.getfield 376, 3) := by decide +kernel
theorem dX11_couldLeavePrints_55 : decode cX11_couldLeavePrints 55 = .ok (.aload_n 0, 1) := by decide +kernel
theorem dX11_couldLeavePrints_56 : decode cX11_couldLeavePrints 56 = .ok (.getfield 29, 3) := by decide +kernel
theorem dX11_couldLeavePrints_59 : decode cX11_couldLeavePrints 59 = .ok (.iload_n 3, 1) := by decide +kernel
theorem dX11_couldLeavePrints_60 : decode cX11_couldLeavePrints 60 = .ok (.iaload, 1) := by decide +kernel
theorem dX11_couldLeavePrints_61 : decode cX11_couldLeavePrints 61 = .ok (.invokestatic 301, 3) := by decide +kernel
theorem dX11_couldLeavePrints_64 : decode cX11_couldLeavePrints 64 = .ok (.iaload, 1) := by decide +kernel
theorem dX11_couldLeavePrints_65 : decode cX11_couldLeavePrints 65 = .ok (.istore 4, 2) := by decide +kernel
theorem dX11_couldLeavePrints_67 : decode cX11_couldLeavePrints 67 = .ok (.aload_n 0, 1) := by decide +kernel
theorem dX11_couldLeavePrints_68 : decode cX11_couldLeavePrints 68 = .ok (.getfield 29, 3) := by decide +kernel
theorem dX11_couldLeavePrints_71 : decode cX11_couldLeavePrints 71 = .ok (.iload_n 3, 1) := by decide +kernel
theorem dX11_couldLeavePrints_72 : decode cX11_couldLeavePrints 72 = .ok (.iaload, 1) := by decide +kernel
theorem dX11_couldLeavePrints_73 : decode cX11_couldLeavePrints 73 = .ok (.invokestatic 304, 3) := by decide +kernel
theorem dX11_couldLeavePrints_76 : decode cX11_couldLeavePrints 76 = .ok (.ifCond .ne 16, 3) := by decide +kernel
theorem dX11_couldLeavePrints_79 : decode cX11_couldLeavePrints 79 = .ok (.aload_n 0, 1) := by decide +kernel
theorem dX11_couldLeavePrints_80 : decode cX11_couldLeavePrints 80 = .ok (.getfield 19, 3) := by decide +kernel
theorem dX11_couldLeavePrints_83 : decode cX11_couldLeavePrints 83 = .ok (.getfield 112, 3) := by decide +kernel
theorem dX11_couldLeavePrints_86 : decode cX11_couldLeavePrints 86 = .ok (.iload 4, 2) := by decide +kernel
theorem dX11_couldLeavePrints_88 : decode cX11_couldLeavePrints 88 = .ok (.iaload, 1) := by decide +kernel
theorem dX11_couldLeavePrints_89 : decode cX11_couldLeavePrints 89 = .ok (.goto 13, 3) := by decide +kernel
theorem dX11_couldLeavePrints_92 : decode cX11_couldLeavePrints 92 = .ok (.aload_n 0, 1) := by decide +kernel
theorem dX11_couldLeavePrints_93 : decode cX11_couldLeavePrints 93 = .ok (.getfield 19, 3) := by decide +kernel
theorem dX11_couldLeavePrints_96 : decode cX11_couldLeavePrints 96 = .ok (.getfield 115, 3) := by decide +kernel
theorem dX11_couldLeavePrints_99 : decode cX11_couldLeavePrints 99 = .ok (.iload 4, 2) := by decide +kernel
theorem dX11_couldLeavePrints_101 : decode cX11_couldLeavePrints 101 = .ok (.iaload, 1) := by decide +kernel
theorem dX11_couldLeavePrints_102 : decode cX11_couldLeavePrints 102 = .ok (.istore 5, 2) := by decide +kernel
theorem dX11_couldLeavePrints_104 : decode cX11_couldLeavePrints 104 = .ok (.aload_n 0, 1) := by decide +kernel
theorem dX11_couldLeavePrints_105 : decode cX11_couldLeavePrints 105 = .ok (.getfield 29, 3) := by decide +kernel
theorem dX11_couldLeavePrints_108 : decode cX11_couldLeavePrints 108 = .ok (.iload_n 3, 1) := by decide +kernel
theorem dX11_couldLeavePrints_109 : decode cX11_couldLeavePrints 109 = .ok (.iaload, 1) := by decide +kernel
theorem dX11_couldLeavePrints_110 : decode cX11_couldLeavePrints 110 = .ok (.invokestatic 307, 3) := by decide +kernel
theorem dX11_couldLeavePrints_113 : decode cX11_couldLeavePrints 113 = .ok (.aload_n 0, 1) := by decide +kernel
theorem dX11_couldLeavePrints_114 : decode cX11_couldLeavePrints 114 = .ok (.getfield 43, 3) := by decide +kernel
theorem dX11_couldLeavePrints_117 : decode cX11_couldLeavePrints 117 = .ok (.getfield 329, 3) := by decide +kernel
theorem dX11_couldLeavePrints_120 : decode cX11_couldLeavePrints 120 = .ok (.iload 4, 2) := by decide +kernel
theorem dX11_couldLeavePrints_122 : decode cX11_couldLeavePrints 122 = .ok (.iaload, 1) := by decide +kernel
theorem dX11_couldLeavePrints_123 : decode cX11_couldLeavePrints 123 = .ok (.ixor, 1) := by decide +kernel
theorem dX11_couldLeavePrints_124 : decode cX11_couldLeavePrints 124 = .ok (.istore 6, 2) := by decide +kernel
theorem dX11_couldLeavePrints_126 : decode cX11_couldLeavePrints 126 = .ok (.aload_n 0, 1) := by decide +kernel
theorem dX11_couldLeavePrints_127 : decode cX11_couldLeavePrints 127 = .ok (.getfield 60, 3) := by decide +kernel
theorem dX11_couldLeavePrints_130 : decode cX11_couldLeavePrints 130 = .ok (.aload_n 0, 1) := by decide +kernel
theorem dX11_couldLeavePrints_131 : decode cX11_couldLeavePrints 131 = .ok (.getfield 19, 3) := by decide +kernel
theorem dX11_couldLeavePrints_134 : decode cX11_couldLeavePrints 134 = .ok (.iload_n 2, 1) := by decide +kernel
theorem dX11_couldLeavePrints_135 : decode cX11_couldLeavePrints 135 = .ok (.iconst 0, 1) := by decide +kernel
theorem dX11_couldLeavePrints_136 : decode cX11_couldLeavePrints 136 = .ok (.invokevirtual 343, 3) := by decide +kernel
theorem dX11_couldLeavePrints_139 : decode cX11_couldLeavePrints 139 = .ok (.aload_n 0, 1) := by decide +kernel
theorem dX11_couldLeavePrints_140 : decode cX11_couldLeavePrints 140 = .ok (.getfield 60, 3) := by decide +kernel
theorem dX11_couldLeavePrints_143 : decode cX11_couldLeavePrints 143 = .ok (.iload 5, 2) := by decide +kernel
theorem dX11_couldLeavePrints_145 : decode cX11_couldLeavePrints 145 = .ok (.iload 6, 2) := by decide +kernel
theorem dX11_couldLeavePrints_147 : decode cX11_couldLeavePrints 147 = .ok (.invokevirtual 379, 3) := by decide +kernel
theorem dX11_couldLeavePrints_150 : decode cX11_couldLeavePrints 150 = .ok (.ifCond .ne 5, 3) := by decide +kernel
theorem dX11_couldLeavePrints_153 : decode cX11_couldLeavePrints 153 = .ok (.iconst 0, 1) := by decide +kernel
theorem dX11_couldLeavePrints_154 : decode cX11_couldLeavePrints 154 = .ok (.ireturn, 1) := by decide +kernel
theorem dX11_couldLeavePrints_155 : decode cX11_couldLeavePrints 155 = .ok (.aload_n 0, 1) := by decide +kernel
theorem dX11_couldLeavePrints_156 : decode cX11_couldLeavePrints 156 = .ok (.getfield 19, 3) := by decide +kernel
theorem dX11_couldLeavePrints_159 : decode cX11_couldLeavePrints 159 = .ok (.iload 5, 2) := by decide +kernel
theorem dX11_couldLeavePrints_161 : decode cX11_couldLeavePrints 161 = .ok (.iload 6, 2) := by decide +kernel
theorem dX11_couldLeavePrints_163 : decode cX11_couldLeavePrints 163 = .ok (.iload_n 2, 1) := by decide +kernel
theorem dX11_couldLeavePrints_164 : decode cX11_couldLeavePrints 164 = .ok (.invokestatic 382, 3) := by decide +kernel
theorem dX11_couldLeavePrints_167 : decode cX11_couldLeavePrints 167 = .ok (.invokestatic 140, 3) := by decide +kernel
theorem dX11_couldLeavePrints_170 : decode cX11_couldLeavePrints 170 = .ok (.iload 4, 2) := by decide +kernel
theorem dX11_couldLeavePrints_172 : decode cX11_couldLeavePrints 172 = .ok (.aload_n 0, 1) := by decide +kernel
theorem dX11_couldLeavePrints_173 : decode cX11_couldLeavePrints 173 = .ok (.getfield 43, 3) := by decide +kernel
theorem dX11_couldLeavePrints_176 : decode cX11_couldLeavePrints 176 = .ok (.getfield 329, 3) := by decide +kernel
theorem dX11_couldLeavePrints_179 : decode cX11_couldLeavePrints 179 = .ok (.iload 4, 2) := by decide +kernel
theorem dX11_couldLeavePrints_181 : decode cX11_couldLeavePrints 181 = .ok (.iaload, 1) := by decide +kernel
theorem dX11_couldLeavePrints_182 : decode cX11_couldLeavePrints 182 = .ok (.invokevirtual 258, 3) := by decide +kernel
theorem dX11_couldLeavePrints_185 : decode cX11_couldLeavePrints 185 = .ok (.istore_n 2, 1) := by decide +kernel
theorem dX11_couldLeavePrints_186 : decode cX11_couldLeavePrints 186 = .ok (.iload_n 2, 1) := by decide +kernel
theorem dX11_couldLeavePrints_187 : decode cX11_couldLeavePrints 187 = .ok (.iconst (-1), 1) := by decide +kernel
theorem dX11_couldLeavePrints_188 : decode cX11_couldLeavePrints 188 = .ok (.if_icmp .ne 5, 3) := by decide +kernel
theorem dX11_couldLeavePrints_191 : decode cX11_couldLeavePrints 191 = .ok (.iconst 0, 1) := by decide +kernel
theorem dX11_couldLeavePrints_192 : decode cX11_couldLeavePrints 192 = .ok (.ireturn, 1) := by decide +kernel
theorem dX11_couldLeavePrints_193 : decode cX11_couldLeavePrints 193 = .ok (.iinc 3 1, 3) := by decide +kernel
theorem dX11_couldLeavePrints_196 : decode cX11_couldLeavePrints 196 = .ok (.goto (-156), 3) := by decide +kernel
theorem dX11_couldLeavePrints_199 : decode cX11_couldLeavePrints 199 = .ok (.iconst 1, 1) := by decide +kernel
theorem dX11_couldLeavePrints_200 : decode cX11_couldLeavePrints 200 = .ok (.ireturn, 1) := by decide +kernel
theorem dX11_printNumber_0 : decode cX11_printNumber 0 = .ok (.iload_n 0, 1) := by decide +kernel
theorem dX11_printNumber_1 : decode cX11_printNumber 1 = .ok (.iconst 4, 1) := by decide +kernel
theorem dX11_printNumber_2 : decode cX11_printNumber 2 = .ok (.imul, 1) := by decide +kernel
theorem dX11_printNumber_3 : decode cX11_printNumber 3 = .ok (.iload_n 1, 1) := by decide +kernel
theorem dX11_printNumber_4 : decode cX11_printNumber 4 = .ok (.iconst 2, 1) := by decide +kernel
theorem dX11_printNumber_5 : decode cX11_printNumber 5 = .ok (.imul, 1) := by decide +kernel
theorem dX11_printNumber_6 : decode cX11_printNumber 6 = .ok (.iadd, 1) := by decide +kernel
theorem dX11_printNumber_7 : decode cX11_printNumber 7 = .ok (.iload_n 2, 1) := by decide +kernel
theorem dX11_printNumber_8 : decode cX11_printNumber 8 = .ok (.iadd, 1) := by decide +kernel
theorem dX11_printNumber_9 : decode cX11_printNumber 9 = .ok (.ireturn, 1) := by decide +kernel
theorem dX11_gateOfPrint_0 : decode cX11_gateOfPrint 0 = .ok (.iload_n 0, 1) := by decide +kernel
theorem dX11_gateOfPrint_1 : decode cX11_gateOfPrint 1 = .ok (.iconst 2, 1) := by decide +kernel
theorem dX11_gateOfPrint_2 : decode cX11_gateOfPrint 2 = .ok (.ishr, 1) := by decide +kernel
theorem dX11_gateOfPrint_3 : decode cX11_gateOfPrint 3 = .ok (.ireturn, 1) := by decide +kernel
theorem dX11_wayOfPrint_0 : decode cX11_wayOfPrint 0 = .ok (.iload_n 0, 1) := by decide +kernel
theorem dX11_wayOfPrint_1 : decode cX11_wayOfPrint 1 = .ok (.iconst 1, 1) := by decide +kernel
theorem dX11_wayOfPrint_2 : decode cX11_wayOfPrint 2 = .ok (.ishr, 1) := by decide +kernel
theorem dX11_wayOfPrint_3 : decode cX11_wayOfPrint 3 = .ok (.iconst 1, 1) := by decide +kernel
theorem dX11_wayOfPrint_4 : decode cX11_wayOfPrint 4 = .ok (.iand, 1) := by decide +kernel
theorem dX11_wayOfPrint_5 : decode cX11_wayOfPrint 5 = .ok (.ireturn, 1) := by decide +kernel
theorem dX11_footOfPrint_0 : decode cX11_footOfPrint 0 = .ok (.iload_n 0, 1) := by decide +kernel
theorem dX11_footOfPrint_1 : decode cX11_footOfPrint 1 = .ok (.iconst 1, 1) := by decide +kernel
theorem dX11_footOfPrint_2 : decode cX11_footOfPrint 2 = .ok (.iand, 1) := by decide +kernel
theorem dX11_footOfPrint_3 : decode cX11_footOfPrint 3 = .ok (.ireturn, 1) := by decide +kernel
theorem dX11_nextSeed_0 : decode cX11_nextSeed 0 = .ok (.ldc2_w 385, 3) := by decide +kernel
theorem dX11_nextSeed_3 : decode cX11_nextSeed 3 = .ok (.iload_n 0, 1) := by decide +kernel
theorem dX11_nextSeed_4 : decode cX11_nextSeed 4 = .ok (.i2l, 1) := by decide +kernel
theorem dX11_nextSeed_5 : decode cX11_nextSeed 5 = .ok (.lmul, 1) := by decide +kernel
theorem dX11_nextSeed_6 : decode cX11_nextSeed 6 = .ok (.ldc2_w 387, 3) := by decide +kernel
theorem dX11_nextSeed_9 : decode cX11_nextSeed 9 = .ok (.ladd, 1) := by decide +kernel
theorem dX11_nextSeed_10 : decode cX11_nextSeed 10 = .ok (.ldc2_w 389, 3) := by decide +kernel
theorem dX11_nextSeed_13 : decode cX11_nextSeed 13 = .ok (.land, 1) := by decide +kernel
theorem dX11_nextSeed_14 : decode cX11_nextSeed 14 = .ok (.l2i, 1) := by decide +kernel
theorem dX11_nextSeed_15 : decode cX11_nextSeed 15 = .ok (.ireturn, 1) := by decide +kernel
