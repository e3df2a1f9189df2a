theorem dX9_init_0 : decode cX9_init 0 = .ok (.aload_n 0, 1) := by decide +kernel
theorem dX9_init_1 : decode cX9_init 1 = .ok (.invokespecial 1, 3) := by decide +kernel
theorem dX9_init_4 : decode cX9_init 4 = .ok (.aload_n 0, 1) := by decide +kernel
theorem dX9_init_5 : decode cX9_init 5 = .ok (.sipush 300, 3) := by decide +kernel
theorem dX9_init_8 : decode cX9_init 8 = .ok (.newarray .int, 2) := by decide +kernel
theorem dX9_init_10 : decode cX9_init 10 = .ok (.putfield 7, 3) := by decide +kernel
theorem dX9_init_13 : decode cX9_init 13 = .ok (.aload_n 0, 1) := by decide +kernel
theorem dX9_init_14 : decode cX9_init 14 = .ok (.sipush 1500, 3) := by decide +kernel
theorem dX9_init_17 : decode cX9_init 17 = .ok (.newarray .boolean, 2) := by decide +kernel
theorem dX9_init_19 : decode cX9_init 19 = .ok (.putfield 13, 3) := by decide +kernel
theorem dX9_init_22 : decode cX9_init 22 = .ok (.aload_n 0, 1) := by decide +kernel
theorem dX9_init_23 : decode cX9_init 23 = .ok (.iconst (-1), 1) := by decide +kernel
theorem dX9_init_24 : decode cX9_init 24 = .ok (.putfield 17, 3) := by decide +kernel
theorem dX9_init_27 : decode cX9_init 27 = .ok (.aload_n 0, 1) := by decide +kernel
theorem dX9_init_28 : decode cX9_init 28 = .ok (.sipush 256, 3) := by decide +kernel
theorem dX9_init_31 : decode cX9_init 31 = .ok (.newarray .int, 2) := by decide +kernel
theorem dX9_init_33 : decode cX9_init 33 = .ok (.putfield 21, 3) := by decide +kernel
theorem dX9_init_36 : decode cX9_init 36 = .ok (.aload_n 0, 1) := by decide +kernel
theorem dX9_init_37 : decode cX9_init 37 = .ok (.sipush 300, 3) := by decide +kernel
theorem dX9_init_40 : decode cX9_init 40 = .ok (.newarray .int, 2) := by decide +kernel
theorem dX9_init_42 : decode cX9_init 42 = .ok (.putfield 24, 3) := by decide +kernel
theorem dX9_init_45 : decode cX9_init 45 = .ok (.aload_n 0, 1) := by decide +kernel
theorem dX9_init_46 : decode cX9_init 46 = .ok (.sipush 301, 3) := by decide +kernel
theorem dX9_init_49 : decode cX9_init 49 = .ok (.newarray .int, 2) := by decide +kernel
theorem dX9_init_51 : decode cX9_init 51 = .ok (.putfield 27, 3) := by decide +kernel
theorem dX9_init_54 : decode cX9_init 54 = .ok (.aload_n 0, 1) := by decide +kernel
theorem dX9_init_55 : decode cX9_init 55 = .ok (.sipush 3870, 3) := by decide +kernel
theorem dX9_init_58 : decode cX9_init 58 = .ok (.newarray .int, 2) := by decide +kernel
theorem dX9_init_60 : decode cX9_init 60 = .ok (.putfield 30, 3) := by decide +kernel
theorem dX9_init_63 : decode cX9_init 63 = .ok (.aload_n 0, 1) := by decide +kernel
theorem dX9_init_64 : decode cX9_init 64 = .ok (.sipush 155, 3) := by decide +kernel
theorem dX9_init_67 : decode cX9_init 67 = .ok (.newarray .int, 2) := by decide +kernel
theorem dX9_init_69 : decode cX9_init 69 = .ok (.putfield 33, 3) := by decide +kernel
theorem dX9_init_72 : decode cX9_init 72 = .ok (.aload_n 0, 1) := by decide +kernel
theorem dX9_init_73 : decode cX9_init 73 = .ok (.sipush 774, 3) := by decide +kernel
theorem dX9_init_76 : decode cX9_init 76 = .ok (.newarray .int, 2) := by decide +kernel
theorem dX9_init_78 : decode cX9_init 78 = .ok (.putfield 36, 3) := by decide +kernel
theorem dX9_init_81 : decode cX9_init 81 = .ok (.aload_n 0, 1) := by decide +kernel
theorem dX9_init_82 : decode cX9_init 82 = .ok (.sipush 256, 3) := by decide +kernel
theorem dX9_init_85 : decode cX9_init 85 = .ok (.newarray .int, 2) := by decide +kernel
theorem dX9_init_87 : decode cX9_init 87 = .ok (.putfield 39, 3) := by decide +kernel
theorem dX9_init_90 : decode cX9_init 90 = .ok (.aload_n 0, 1) := by decide +kernel
theorem dX9_init_91 : decode cX9_init 91 = .ok (.sipush 516, 3) := by decide +kernel
theorem dX9_init_94 : decode cX9_init 94 = .ok (.newarray .int, 2) := by decide +kernel
theorem dX9_init_96 : decode cX9_init 96 = .ok (.putfield 42, 3) := by decide +kernel
theorem dX9_init_99 : decode cX9_init 99 = .ok (.aload_n 0, 1) := by decide +kernel
theorem dX9_init_100 : decode cX9_init 100 = .ok (.sipush 516, 3) := by decide +kernel
theorem dX9_init_103 : decode cX9_init 103 = .ok (.newarray .int, 2) := by decide +kernel
theorem dX9_init_105 : decode cX9_init 105 = .ok (.putfield 45, 3) := by decide +kernel
theorem dX9_init_108 : decode cX9_init 108 = .ok (.aload_n 0, 1) := by decide +kernel
theorem dX9_init_109 : decode cX9_init 109 = .ok (.iconst 3, 1) := by decide +kernel
theorem dX9_init_110 : decode cX9_init 110 = .ok (.newarray .int, 2) := by decide +kernel
theorem dX9_init_112 : decode cX9_init 112 = .ok (.putfield 48, 3) := by decide +kernel
theorem dX9_init_115 : decode cX9_init 115 = .ok (.aload_n 0, 1) := by decide +kernel
theorem dX9_init_116 : decode cX9_init 116 = .ok (.sipush 256, 3) := by decide +kernel
theorem dX9_init_119 : decode cX9_init 119 = .ok (.newarray .int, 2) := by decide +kernel
theorem dX9_init_121 : decode cX9_init 121 = .ok (.putfield 51, 3) := by decide +kernel
theorem dX9_init_124 : decode cX9_init 124 = .ok (.aload_n 0, 1) := by decide +kernel
theorem dX9_init_125 : decode cX9_init 125 = .ok (.bipush 31, 2) := by decide +kernel
theorem dX9_init_127 : decode cX9_init 127 = .ok (.newarray .int, 2) := by decide +kernel
theorem dX9_init_129 : decode cX9_init 129 = .ok (.putfield 54, 3) := by decide +kernel
theorem dX9_init_132 : decode cX9_init 132 = .ok (.aload_n 0, 1) := by decide +kernel
theorem dX9_init_133 : decode cX9_init 133 = .ok (.sipush 774, 3) := by decide +kernel
theorem dX9_init_136 : decode cX9_init 136 = .ok (.newarray .int, 2) := by decide +kernel
theorem dX9_init_138 : decode cX9_init 138 = .ok (.putfield 57, 3) := by decide +kernel
theorem dX9_init_141 : decode cX9_init 141 = .ok (.aload_n 0, 1) := by decide +kernel
theorem dX9_init_142 : decode cX9_init 142 = .ok (.sipush 774, 3) := by decide +kernel
theorem dX9_init_145 : decode cX9_init 145 = .ok (.newarray .int, 2) := by decide +kernel
theorem dX9_init_147 : decode cX9_init 147 = .ok (.putfield 60, 3) := by decide +kernel
theorem dX9_init_150 : decode cX9_init 150 = .ok (.aload_n 0, 1) := by decide +kernel
theorem dX9_init_151 : decode cX9_init 151 = .ok (.sipush 300, 3) := by decide +kernel
theorem dX9_init_154 : decode cX9_init 154 = .ok (.newarray .int, 2) := by decide +kernel
theorem dX9_init_156 : decode cX9_init 156 = .ok (.putfield 63, 3) := by decide +kernel
theorem dX9_init_159 : decode cX9_init 159 = .ok (.return_, 1) := by decide +kernel
theorem dX9_within_0 : decode cX9_within 0 = .ok (.iload_n 0, 1) := by decide +kernel
theorem dX9_within_1 : decode cX9_within 1 = .ok (.iload_n 1, 1) := by decide +kernel
theorem dX9_within_2 : decode cX9_within 2 = .ok (.if_icmp .lt 12, 3) := by decide +kernel
theorem dX9_within_5 : decode cX9_within 5 = .ok (.iload_n 0, 1) := by decide +kernel
theorem dX9_within_6 : decode cX9_within 6 = .ok (.iload_n 2, 1) := by decide +kernel
theorem dX9_within_7 : decode cX9_within 7 = .ok (.if_icmp .gt 7, 3) := by decide +kernel
theorem dX9_within_10 : decode cX9_within 10 = .ok (.iconst 1, 1) := by decide +kernel
theorem dX9_within_11 : decode cX9_within 11 = .ok (.goto 4, 3) := by decide +kernel
theorem dX9_within_14 : decode cX9_within 14 = .ok (.iconst 0, 1) := by decide +kernel
theorem dX9_within_15 : decode cX9_within 15 = .ok (.ireturn, 1) := by decide +kernel
set_option maxRecDepth 20000 in
theorem ggX9_sign_X9_within : GoodIn wsX9_sign wsX9_within := goodIn_r _ [7] (by decide +kernel) (by decide +kernel)
set_option maxRecDepth 20000 in
theorem gX9_sign_X9_within : GoodIn wsX9_sign (va_wsS RX9 66 yX9_within wsX9_within) := goodIn_app (goodIn_of _ (by decide +kernel)) ggX9_sign_X9_within
theorem dX9_sign_0 : decode cX9_sign 0 = .ok (.iload_n 1, 1) := by decide +kernel
theorem dX9_sign_1 : decode cX9_sign 1 = .ok (.iconst 0, 1) := by decide +kernel
theorem dX9_sign_2 : decode cX9_sign 2 = .ok (.sipush 255, 3) := by decide +kernel
theorem dX9_sign_5 : decode cX9_sign 5 = .ok (.invokestatic 66, 3) := by decide +kernel
theorem dX9_sign_8 : decode cX9_sign 8 = .ok (.ifCond .ne 6, 3) := by decide +kernel
theorem dX9_sign_11 : decode cX9_sign 11 = .ok (.bipush (-2), 2) := by decide +kernel
theorem dX9_sign_13 : decode cX9_sign 13 = .ok (.ireturn, 1) := by decide +kernel
theorem dX9_sign_14 : decode cX9_sign 14 = .ok (.aload_n 0, 1) := by decide +kernel
theorem dX9_sign_15 : decode cX9_sign 15 = .ok (.getfield 70, 3) := by decide +kernel
theorem dX9_sign_18 : decode cX9_sign 18 = .ok (.sipush 300, 3) := by decide +kernel
theorem dX9_sign_21 : decode cX9_sign 21 = .ok (.if_icmp .ne 6, 3) := by decide +kernel
theorem dX9_sign_24 : decode cX9_sign 24 = .ok (.bipush (-4), 2) := by decide +kernel
theorem dX9_sign_26 : decode cX9_sign 26 = .ok (.ireturn, 1) := by decide +kernel
theorem dX9_sign_27 : decode cX9_sign 27 = .ok (.aload_n 0, 1) := by decide +kernel
theorem dX9_sign_28 : decode cX9_sign 28 = .ok (.getfield 7, 3) := by decide +kernel
theorem dX9_sign_31 : decode cX9_sign 31 = .ok (.aload_n 0, 1) := by decide +kernel
theorem dX9_sign_32 : decode cX9_sign 32 = .ok (.getfield 70, 3) := by decide +kernel
theorem dX9_sign_35 : decode cX9_sign 35 = .ok (.iload_n 1, 1) := by decide +kernel
theorem dX9_sign_36 : decode cX9_sign 36 = .ok (.iastore, 1) := by decide +kernel
theorem dX9_sign_37 : decode cX9_sign 37 = .ok (.aload_n 0, 1) := by decide +kernel
theorem dX9_sign_38 : decode cX9_sign 38 = .ok (.dup, 1) := by decide +kernel
theorem dX9_sign_39 : decode cX9_sign 39 = .ok (.getfield 70, 3) := by decide +kernel
theorem dX9_sign_42 : decode cX9_sign 42 = .ok (.iconst 1, 1) := by decide +kernel
theorem dX9_sign_43 : decode cX9_sign 43 = .ok (.iadd, 1) := by decide +kernel
theorem dX9_sign_44 : decode cX9_sign 44 = .ok (.putfield 70, 3) := by decide +kernel
theorem dX9_sign_47 : decode cX9_sign 47 = .ok (.aload_n 0, 1) := by decide +kernel
theorem dX9_sign_48 : decode cX9_sign 48 = .ok (.iconst 0, 1) := by decide +kernel
theorem dX9_sign_49 : decode cX9_sign 49 = .ok (.putfield 73, 3) := by decide +kernel
theorem dX9_sign_52 : decode cX9_sign 52 = .ok (.aload_n 0, 1) := by decide +kernel
theorem dX9_sign_53 : decode cX9_sign 53 = .ok (.getfield 70, 3) := by decide +kernel
theorem dX9_sign_56 : decode cX9_sign 56 = .ok (.ireturn, 1) := by decide +kernel
theorem dX9_empty_0 : decode cX9_empty 0 = .ok (.aload_n 0, 1) := by decide +kernel
theorem dX9_empty_1 : decode cX9_empty 1 = .ok (.getfield 70, 3) := by decide +kernel
theorem dX9_empty_4 : decode cX9_empty 4 = .ok (.istore_n 1, 1) := by decide +kernel
theorem dX9_empty_5 : decode cX9_empty 5 = .ok (.aload_n 0, 1) := by decide +kernel
theorem dX9_empty_6 : decode cX9_empty 6 = .ok (.iconst 0, 1) := by decide +kernel
theorem dX9_empty_7 : decode cX9_empty 7 = .ok (.putfield 70, 3) := by decide +kernel
theorem dX9_empty_10 : decode cX9_empty 10 = .ok (.aload_n 0, 1) := by decide +kernel
theorem dX9_empty_11 : decode cX9_empty 11 = .ok (.iconst 0, 1) := by decide +kernel
theorem dX9_empty_12 : decode cX9_empty 12 = .ok (.putfield 73, 3) := by decide +kernel
theorem dX9_empty_15 : decode cX9_empty 15 = .ok (.iload_n 1, 1) := by decide +kernel
theorem dX9_empty_16 : decode cX9_empty 16 = .ok (.ireturn, 1) := by decide +kernel
set_option maxRecDepth 20000 in
theorem ggX9_work_X9_findMap : GoodIn wsX9_work wsX9_findMap := goodIn_r _ [13, 8, 14, 15, 16, 17, 12, 18, 19, 20, 72, 73, 74, 75, 76, 77, 78, 79, 80, 81, 82, 83, 84, 85, 86, 87, 88, 89, 90, 91, 92, 93, 94, 95, 96, 97, 98, 99, 100, 101, 102, 103, 104] (by decide +kernel) (by decide +kernel)
set_option maxRecDepth 20000 in
theorem gX9_work_X9_findMap : GoodIn wsX9_work (wsV RX9 77 RX9 yX9_findMap wsX9_findMap) := goodIn_app (goodIn_of _ (by decide +kernel)) ggX9_work_X9_findMap
set_option maxRecDepth 20000 in
theorem ggX9_work_X9_findPlaces : GoodIn wsX9_work wsX9_findPlaces := goodIn_r _ [24, 8, 25, 14, 19, 20, 26, 27, 28, 29, 12, 30, 72, 73, 74, 75, 76, 77, 78, 79, 80, 81, 82, 83, 84, 85, 86, 87, 88, 89, 90, 91, 92, 93, 94, 95, 96, 97, 98, 99, 100, 101, 102, 103, 104] (by decide +kernel) (by decide +kernel)
set_option maxRecDepth 20000 in
theorem gX9_work_X9_findPlaces : GoodIn wsX9_work (wsV RX9 80 RX9 yX9_findPlaces wsX9_findPlaces) := goodIn_app (goodIn_of _ (by decide +kernel)) ggX9_work_X9_findPlaces
set_option maxRecDepth 20000 in
theorem ggX9_work_X9_findSymbols : GoodIn wsX9_work wsX9_findSymbols := goodIn_r _ [34, 2, 19, 26, 35, 8, 36, 37, 38, 12, 39, 72, 73, 74, 75, 76, 77, 78, 79, 80, 81, 82, 83, 84, 85, 86, 87, 88, 89, 90, 91, 92, 93, 94, 95, 96, 97, 98, 99, 100, 101, 102, 103, 104] (by decide +kernel) (by decide +kernel)
set_option maxRecDepth 20000 in
theorem gX9_work_X9_findSymbols : GoodIn wsX9_work (wsV RX9 83 RX9 yX9_findSymbols wsX9_findSymbols) := goodIn_app (goodIn_of _ (by decide +kernel)) ggX9_work_X9_findSymbols
set_option maxRecDepth 20000 in
theorem ggX9_work_X9_begin : GoodIn wsX9_work wsX9_begin := goodIn_r _ [43, 2, 4, 8, 6, 44, 45, 46, 12, 47, 35, 48, 49, 50, 72, 73, 74, 75, 76, 77, 78, 79, 80, 81, 82, 83, 84, 85, 86, 87, 88, 89, 90, 91, 92, 93, 94, 95, 96, 97, 98, 99, 100, 101, 102, 103, 104] (by decide +kernel) (by decide +kernel)
set_option maxRecDepth 20000 in
theorem gX9_work_X9_begin : GoodIn wsX9_work (wsV RX9 95 RX9 yX9_begin wsX9_begin) := goodIn_app (goodIn_of _ (by decide +kernel)) ggX9_work_X9_begin
set_option maxRecDepth 20000 in
theorem ggX9_work_X9_lightest : GoodIn wsX9_work wsX9_lightest := goodIn_r _ [54, 4, 6, 35, 55, 56, 57, 12, 58, 2, 72, 73, 74, 75, 76, 77, 78, 79, 80, 81, 82, 83, 84, 85, 86, 87, 88, 89, 90, 91, 92, 93, 94, 95, 96, 97, 98, 99, 100, 101, 102, 103, 104] (by decide +kernel) (by decide +kernel)
set_option maxRecDepth 20000 in
theorem gX9_work_X9_lightest : GoodIn wsX9_work (wsV RX9 98 RX9 yX9_lightest wsX9_lightest) := goodIn_app (goodIn_of _ (by decide +kernel)) ggX9_work_X9_lightest
set_option maxRecDepth 20000 in
theorem ggX9_work_X9_weigh : GoodIn wsX9_work wsX9_weigh := goodIn_r _ [62, 8, 63, 64, 3, 5, 35, 6, 55, 56, 57, 12, 58, 2, 65, 66, 67, 68, 72, 73, 74, 75, 76, 77, 78, 79, 80, 81, 82, 83, 84, 85, 86, 87, 88, 89, 90, 91, 92, 93, 94, 95, 96, 97, 98, 99, 100, 101, 102, 103, 104] (by decide +kernel) (by decide +kernel)
set_option maxRecDepth 20000 in
theorem gX9_work_X9_weigh : GoodIn wsX9_work (wsV RX9 102 RX9 yX9_weigh wsX9_weigh) := goodIn_app (goodIn_of _ (by decide +kernel)) ggX9_work_X9_weigh
set_option maxRecDepth 20000 in
theorem ggX9_work_X9_findCodes : GoodIn wsX9_work wsX9_findCodes := goodIn_r _ [71] (by decide +kernel) (by decide +kernel)
set_option maxRecDepth 20000 in
theorem gX9_work_X9_findCodes : GoodIn wsX9_work (va_wsS RX9 109 yX9_findCodes wsX9_findCodes) := goodIn_app (goodIn_of _ (by decide +kernel)) ggX9_work_X9_findCodes
theorem dX9_work_0 : decode cX9_work 0 = .ok (.aload_n 0, 1) := by decide +kernel
theorem dX9_work_1 : decode cX9_work 1 = .ok (.getfield 73, 3) := by decide +kernel
theorem dX9_work_4 : decode cX9_work 4 = .ok (.ifCond .eq 4, 3) := by decide +kernel
theorem dX9_work_7 : decode cX9_work 7 = .ok (.return_, 1) := by decide +kernel
theorem dX9_work_8 : decode cX9_work 8 = .ok (.aload_n 0, 1) := by decide +kernel
theorem dX9_work_9 : decode cX9_work 9 = .ok (.iconst 1, 1) := by decide +kernel
theorem dX9_work_10 : decode cX9_work 10 = .ok (.putfield 73, 3) := by decide +kernel
theorem dX9_work_13 : decode cX9_work 13 = .ok (.aload_n 0, 1) := by decide +kernel
theorem dX9_work_14 : decode cX9_work 14 = .ok (.invokevirtual 77, 3) := by decide +kernel
theorem dX9_work_17 : decode cX9_work 17 = .ok (.aload_n 0, 1) := by decide +kernel
theorem dX9_work_18 : decode cX9_work 18 = .ok (.invokevirtual 80, 3) := by decide +kernel
theorem dX9_work_21 : decode cX9_work 21 = .ok (.aload_n 0, 1) := by decide +kernel
theorem dX9_work_22 : decode cX9_work 22 = .ok (.invokevirtual 83, 3) := by decide +kernel
theorem dX9_work_25 : decode cX9_work 25 = .ok (.aload_n 0, 1) := by decide +kernel
theorem dX9_work_26 : decode cX9_work 26 = .ok (.aload_n 0, 1) := by decide +kernel
theorem dX9_work_27 : decode cX9_work 27 = .ok (.getfield 86, 3) := by decide +kernel
theorem dX9_work_30 : decode cX9_work 30 = .ok (.bipush 9, 2) := by decide +kernel
theorem dX9_work_32 : decode cX9_work 32 = .ok (.iadd, 1) := by decide +kernel
theorem dX9_work_33 : decode cX9_work 33 = .ok (.bipush 10, 2) := by decide +kernel
theorem dX9_work_35 : decode cX9_work 35 = .ok (.idiv, 1) := by decide +kernel
theorem dX9_work_36 : decode cX9_work 36 = .ok (.putfield 89, 3) := by decide +kernel
theorem dX9_work_39 : decode cX9_work 39 = .ok (.aload_n 0, 1) := by decide +kernel
theorem dX9_work_40 : decode cX9_work 40 = .ok (.aload_n 0, 1) := by decide +kernel
theorem dX9_work_41 : decode cX9_work 41 = .ok (.getfield 86, 3) := by decide +kernel
theorem dX9_work_44 : decode cX9_work 44 = .ok (.ifCond .ne 7, 3) := by decide +kernel
theorem dX9_work_47 : decode cX9_work 47 = .ok (.iconst 0, 1) := by decide +kernel
theorem dX9_work_48 : decode cX9_work 48 = .ok (.goto 30, 3) := by decide +kernel
theorem dX9_work_51 : decode cX9_work 51 = .ok (.aload_n 0, 1) := by decide +kernel
theorem dX9_work_52 : decode cX9_work 52 = .ok (.getfield 86, 3) := by decide +kernel
theorem dX9_work_55 : decode cX9_work 55 = .ok (.bipush 20, 2) := by decide +kernel
theorem dX9_work_57 : decode cX9_work 57 = .ok (.if_icmp .ge 7, 3) := by decide +kernel
theorem dX9_work_60 : decode cX9_work 60 = .ok (.iconst 1, 1) := by decide +kernel
theorem dX9_work_61 : decode cX9_work 61 = .ok (.goto 17, 3) := by decide +kernel
theorem dX9_work_64 : decode cX9_work 64 = .ok (.aload_n 0, 1) := by decide +kernel
theorem dX9_work_65 : decode cX9_work 65 = .ok (.getfield 86, 3) := by decide +kernel
theorem dX9_work_68 : decode cX9_work 68 = .ok (.bipush 60, 2) := by decide +kernel
theorem dX9_work_70 : decode cX9_work 70 = .ok (.if_icmp .ge 7, 3) := by decide +kernel
theorem dX9_work_73 : decode cX9_work 73 = .ok (.iconst 2, 1) := by decide +kernel
theorem dX9_work_74 : decode cX9_work 74 = .ok (.goto 4, 3) := by decide +kernel
theorem dX9_work_77 : decode cX9_work 77 = .ok (.iconst 3, 1) := by decide +kernel
theorem dX9_work_78 : decode cX9_work 78 = .ok (.putfield 92, 3) := by decide +kernel
theorem dX9_work_81 : decode cX9_work 81 = .ok (.aload_n 0, 1) := by decide +kernel
theorem dX9_work_82 : decode cX9_work 82 = .ok (.getfield 86, 3) := by decide +kernel
theorem dX9_work_85 : decode cX9_work 85 = .ok (.ifCond .ne 4, 3) := by decide +kernel
theorem dX9_work_88 : decode cX9_work 88 = .ok (.return_, 1) := by decide +kernel
theorem dX9_work_89 : decode cX9_work 89 = .ok (.aload_n 0, 1) := by decide +kernel
theorem dX9_work_90 : decode cX9_work 90 = .ok (.invokevirtual 95, 3) := by decide +kernel
theorem dX9_work_93 : decode cX9_work 93 = .ok (.iconst 1, 1) := by decide +kernel
theorem dX9_work_94 : decode cX9_work 94 = .ok (.istore_n 1, 1) := by decide +kernel
theorem dX9_work_95 : decode cX9_work 95 = .ok (.iload_n 1, 1) := by decide +kernel
theorem dX9_work_96 : decode cX9_work 96 = .ok (.iconst 5, 1) := by decide +kernel
theorem dX9_work_97 : decode cX9_work 97 = .ok (.if_icmp .ge 66, 3) := by decide +kernel
theorem dX9_work_100 : decode cX9_work 100 = .ok (.iconst 0, 1) := by decide +kernel
theorem dX9_work_101 : decode cX9_work 101 = .ok (.istore_n 2, 1) := by decide +kernel
theorem dX9_work_102 : decode cX9_work 102 = .ok (.iload_n 2, 1) := by decide +kernel
theorem dX9_work_103 : decode cX9_work 103 = .ok (.aload_n 0, 1) := by decide +kernel
theorem dX9_work_104 : decode cX9_work 104 = .ok (.getfield 89, 3) := by decide +kernel
theorem dX9_work_107 : decode cX9_work 107 = .ok (.if_icmp .ge 28, 3) := by decide +kernel
theorem dX9_work_110 : decode cX9_work 110 = .ok (.aload_n 0, 1) := by decide +kernel
theorem dX9_work_111 : decode cX9_work 111 = .ok (.getfield 33, 3) := by decide +kernel
theorem dX9_work_114 : decode cX9_work 114 = .ok (.bipush 31, 2) := by decide +kernel
theorem dX9_work_116 : decode cX9_work 116 = .ok (.iload_n 1, 1) := by decide +kernel
theorem dX9_work_117 : decode cX9_work 117 = .ok (.imul, 1) := by decide +kernel
theorem dX9_work_118 : decode cX9_work 118 = .ok (.iload_n 2, 1) := by decide +kernel
theorem dX9_work_119 : decode cX9_work 119 = .ok (.iadd, 1) := by decide +kernel
theorem dX9_work_120 : decode cX9_work 120 = .ok (.aload_n 0, 1) := by decide +kernel
theorem dX9_work_121 : decode cX9_work 121 = .ok (.iload_n 1, 1) := by decide +kernel
theorem dX9_work_122 : decode cX9_work 122 = .ok (.iconst 1, 1) := by decide +kernel
theorem dX9_work_123 : decode cX9_work 123 = .ok (.isub, 1) := by decide +kernel
theorem dX9_work_124 : decode cX9_work 124 = .ok (.iload_n 2, 1) := by decide +kernel
theorem dX9_work_125 : decode cX9_work 125 = .ok (.invokevirtual 98, 3) := by decide +kernel
theorem dX9_work_128 : decode cX9_work 128 = .ok (.iastore, 1) := by decide +kernel
theorem dX9_work_129 : decode cX9_work 129 = .ok (.iinc 2 1, 3) := by decide +kernel
theorem dX9_work_132 : decode cX9_work 132 = .ok (.goto (-30), 3) := by decide +kernel
theorem dX9_work_135 : decode cX9_work 135 = .ok (.iconst 0, 1) := by decide +kernel
theorem dX9_work_136 : decode cX9_work 136 = .ok (.istore_n 2, 1) := by decide +kernel
theorem dX9_work_137 : decode cX9_work 137 = .ok (.iload_n 2, 1) := by decide +kernel
theorem dX9_work_138 : decode cX9_work 138 = .ok (.aload_n 0, 1) := by decide +kernel
theorem dX9_work_139 : decode cX9_work 139 = .ok (.getfield 92, 3) := by decide +kernel
theorem dX9_work_142 : decode cX9_work 142 = .ok (.if_icmp .ge 15, 3) := by decide +kernel
theorem dX9_work_145 : decode cX9_work 145 = .ok (.aload_n 0, 1) := by decide +kernel
theorem dX9_work_146 : decode cX9_work 146 = .ok (.iload_n 1, 1) := by decide +kernel
theorem dX9_work_147 : decode cX9_work 147 = .ok (.iload_n 2, 1) := by decide +kernel
theorem dX9_work_148 : decode cX9_work 148 = .ok (.invokevirtual 102, 3) := by decide +kernel
theorem dX9_work_151 : decode cX9_work 151 = .ok (.iinc 2 1, 3) := by decide +kernel
theorem dX9_work_154 : decode cX9_work 154 = .ok (.goto (-17), 3) := by decide +kernel
theorem dX9_work_157 : decode cX9_work 157 = .ok (.iinc 1 1, 3) := by decide +kernel
theorem dX9_work_160 : decode cX9_work 160 = .ok (.goto (-65), 3) := by decide +kernel
theorem dX9_work_163 : decode cX9_work 163 = .ok (.iconst 0, 1) := by decide +kernel
theorem dX9_work_164 : decode cX9_work 164 = .ok (.istore_n 1, 1) := by decide +kernel
theorem dX9_work_165 : decode cX9_work 165 = .ok (.iload_n 1, 1) := by decide +kernel
theorem dX9_work_166 : decode cX9_work 166 = .ok (.aload_n 0, 1) := by decide +kernel
theorem dX9_work_167 : decode cX9_work 167 = .ok (.getfield 92, 3) := by decide +kernel
theorem dX9_work_170 : decode cX9_work 170 = .ok (.if_icmp .ge 39, 3) := by decide +kernel
theorem dX9_work_173 : decode cX9_work 173 = .ok (.aload_n 0, 1) := by decide +kernel
theorem dX9_work_174 : decode cX9_work 174 = .ok (.getfield 30, 3) := by decide +kernel
theorem dX9_work_177 : decode cX9_work 177 = .ok (.sipush 258, 3) := by decide +kernel
theorem dX9_work_180 : decode cX9_work 180 = .ok (.bipush 12, 2) := by decide +kernel
theorem dX9_work_182 : decode cX9_work 182 = .ok (.iload_n 1, 1) := by decide +kernel
theorem dX9_work_183 : decode cX9_work 183 = .ok (.iadd, 1) := by decide +kernel
theorem dX9_work_184 : decode cX9_work 184 = .ok (.imul, 1) := by decide +kernel
theorem dX9_work_185 : decode cX9_work 185 = .ok (.aload_n 0, 1) := by decide +kernel
theorem dX9_work_186 : decode cX9_work 186 = .ok (.getfield 36, 3) := by decide +kernel
theorem dX9_work_189 : decode cX9_work 189 = .ok (.sipush 258, 3) := by decide +kernel
theorem dX9_work_192 : decode cX9_work 192 = .ok (.iload_n 1, 1) := by decide +kernel
theorem dX9_work_193 : decode cX9_work 193 = .ok (.imul, 1) := by decide +kernel
theorem dX9_work_194 : decode cX9_work 194 = .ok (.aload_n 0, 1) := by decide +kernel
theorem dX9_work_195 : decode cX9_work 195 = .ok (.getfield 106, 3) := by decide +kernel
theorem dX9_work_198 : decode cX9_work 198 = .ok (.iconst 2, 1) := by decide +kernel
theorem dX9_work_199 : decode cX9_work 199 = .ok (.iadd, 1) := by decide +kernel
theorem dX9_work_200 : decode cX9_work 200 = .ok (.invokestatic 109, 3) := by decide +kernel
theorem dX9_work_203 : decode cX9_work 203 = .ok (.iinc 1 1, 3) := by decide +kernel
theorem dX9_work_206 : decode cX9_work 206 = .ok (.goto (-41), 3) := by decide +kernel
theorem dX9_work_209 : decode cX9_work 209 = .ok (.return_, 1) := by decide +kernel
theorem dX9_comes_0 : decode cX9_comes 0 = .ok (.iconst 0, 1) := by decide +kernel
theorem dX9_comes_1 : decode cX9_comes 1 = .ok (.istore_n 2, 1) := by decide +kernel
theorem dX9_comes_2 : decode cX9_comes 2 = .ok (.iconst 0, 1) := by decide +kernel
theorem dX9_comes_3 : decode cX9_comes 3 = .ok (.istore_n 3, 1) := by decide +kernel
theorem dX9_comes_4 : decode cX9_comes 4 = .ok (.iload_n 3, 1) := by decide +kernel
theorem dX9_comes_5 : decode cX9_comes 5 = .ok (.aload_n 0, 1) := by decide +kernel
theorem dX9_comes_6 : decode cX9_comes 6 = .ok (.getfield 70, 3) := by decide +kernel
theorem dX9_comes_9 : decode cX9_comes 9 = .ok (.if_icmp .ge 29, 3) := by decide +kernel
theorem dX9_comes_12 : decode cX9_comes 12 = .ok (.iload_n 2, 1) := by decide +kernel
theorem dX9_comes_13 : decode cX9_comes 13 = .ok (.ifCond .ne 13, 3) := by decide +kernel
theorem dX9_comes_16 : decode cX9_comes 16 = .ok (.aload_n 0, 1) := by decide +kernel
theorem dX9_comes_17 : decode cX9_comes 17 = .ok (.getfield 7, 3) := by decide +kernel
theorem dX9_comes_20 : decode cX9_comes 20 = .ok (.iload_n 3, 1) := by decide +kernel
theorem dX9_comes_21 : decode cX9_comes 21 = .ok (.iaload, 1) := by decide +kernel
theorem dX9_comes_22 : decode cX9_comes 22 = .ok (.iload_n 1, 1) := by decide +kernel
theorem dX9_comes_23 : decode cX9_comes 23 = .ok (.if_icmp .ne 7, 3) := by decide +kernel
theorem dX9_comes_26 : decode cX9_comes 26 = .ok (.iconst 1, 1) := by decide +kernel
theorem dX9_comes_27 : decode cX9_comes 27 = .ok (.goto 4, 3) := by decide +kernel
theorem dX9_comes_30 : decode cX9_comes 30 = .ok (.iconst 0, 1) := by decide +kernel
theorem dX9_comes_31 : decode cX9_comes 31 = .ok (.istore_n 2, 1) := by decide +kernel
theorem dX9_comes_32 : decode cX9_comes 32 = .ok (.iinc 3 1, 3) := by decide +kernel
theorem dX9_comes_35 : decode cX9_comes 35 = .ok (.goto (-31), 3) := by decide +kernel
theorem dX9_comes_38 : decode cX9_comes 38 = .ok (.iload_n 2, 1) := by decide +kernel
theorem dX9_comes_39 : decode cX9_comes 39 = .ok (.ireturn, 1) := by decide +kernel
set_option maxRecDepth 20000 in
theorem ggX9_findMap_X9_comes : GoodIn wsX9_findMap wsX9_comes := goodIn_r _ [7, 8, 9, 10, 11, 12, 13, 14, 15, 16, 17, 18, 19, 20, 21, 22, 23, 24, 25, 26, 27, 28, 29, 30, 31, 32, 33, 34, 35, 36, 37, 38, 39, 40, 41, 42] (by decide +kernel) (by decide +kernel)
set_option maxRecDepth 20000 in
theorem gX9_findMap_X9_comes : GoodIn wsX9_findMap (wsV RX9 113 RX9 yX9_comes wsX9_comes) := goodIn_app (goodIn_of _ (by decide +kernel)) ggX9_findMap_X9_comes
theorem dX9_findMap_0 : decode cX9_findMap 0 = .ok (.aload_n 0, 1) := by decide +kernel
theorem dX9_findMap_1 : decode cX9_findMap 1 = .ok (.iconst 0, 1) := by decide +kernel
theorem dX9_findMap_2 : decode cX9_findMap 2 = .ok (.putfield 106, 3) := by decide +kernel
theorem dX9_findMap_5 : decode cX9_findMap 5 = .ok (.iconst 0, 1) := by decide +kernel
theorem dX9_findMap_6 : decode cX9_findMap 6 = .ok (.istore_n 1, 1) := by decide +kernel
theorem dX9_findMap_7 : decode cX9_findMap 7 = .ok (.iload_n 1, 1) := by decide +kernel
theorem dX9_findMap_8 : decode cX9_findMap 8 = .ok (.sipush 256, 3) := by decide +kernel
theorem dX9_findMap_11 : decode cX9_findMap 11 = .ok (.if_icmp .ge 37, 3) := by decide +kernel
theorem dX9_findMap_14 : decode cX9_findMap 14 = .ok (.aload_n 0, 1) := by decide +kernel
theorem dX9_findMap_15 : decode cX9_findMap 15 = .ok (.iload_n 1, 1) := by decide +kernel
theorem dX9_findMap_16 : decode cX9_findMap 16 = .ok (.invokevirtual 113, 3) := by decide +kernel
theorem dX9_findMap_19 : decode cX9_findMap 19 = .ok (.ifCond .eq 23, 3) := by decide +kernel
theorem dX9_findMap_22 : decode cX9_findMap 22 = .ok (.aload_n 0, 1) := by decide +kernel
theorem dX9_findMap_23 : decode cX9_findMap 23 = .ok (.getfield 21, 3) := by decide +kernel
theorem dX9_findMap_26 : decode cX9_findMap 26 = .ok (.aload_n 0, 1) := by decide +kernel
theorem dX9_findMap_27 : decode cX9_findMap 27 = .ok (.getfield 106, 3) := by decide +kernel
theorem dX9_findMap_30 : decode cX9_findMap 30 = .ok (.iload_n 1, 1) := by decide +kernel
theorem dX9_findMap_31 : decode cX9_findMap 31 = .ok (.iastore, 1) := by decide +kernel
theorem dX9_findMap_32 : decode cX9_findMap 32 = .ok (.aload_n 0, 1) := by decide +kernel
theorem dX9_findMap_33 : decode cX9_findMap 33 = .ok (.dup, 1) := by decide +kernel
theorem dX9_findMap_34 : decode cX9_findMap 34 = .ok (.getfield 106, 3) := by decide +kernel
theorem dX9_findMap_37 : decode cX9_findMap 37 = .ok (.iconst 1, 1) := by decide +kernel
theorem dX9_findMap_38 : decode cX9_findMap 38 = .ok (.iadd, 1) := by decide +kernel
theorem dX9_findMap_39 : decode cX9_findMap 39 = .ok (.putfield 106, 3) := by decide +kernel
theorem dX9_findMap_42 : decode cX9_findMap 42 = .ok (.iinc 1 1, 3) := by decide +kernel
theorem dX9_findMap_45 : decode cX9_findMap 45 = .ok (.goto (-38), 3) := by decide +kernel
theorem dX9_findMap_48 : decode cX9_findMap 48 = .ok (.return_, 1) := by decide +kernel
theorem dX9_toFront_0 : decode cX9_toFront 0 = .ok (.aload_n 1, 1) := by decide +kernel
theorem dX9_toFront_1 : decode cX9_toFront 1 = .ok (.iload_n 2, 1) := by decide +kernel
theorem dX9_toFront_2 : decode cX9_toFront 2 = .ok (.iaload, 1) := by decide +kernel
theorem dX9_toFront_3 : decode cX9_toFront 3 = .ok (.istore_n 3, 1) := by decide +kernel
theorem dX9_toFront_4 : decode cX9_toFront 4 = .ok (.iload_n 2, 1) := by decide +kernel
theorem dX9_toFront_5 : decode cX9_toFront 5 = .ok (.istore 4, 2) := by decide +kernel
theorem dX9_toFront_7 : decode cX9_toFront 7 = .ok (.iload 4, 2) := by decide +kernel
theorem dX9_toFront_9 : decode cX9_toFront 9 = .ok (.ifCond .le 19, 3) := by decide +kernel
theorem dX9_toFront_12 : decode cX9_toFront 12 = .ok (.aload_n 1, 1) := by decide +kernel
theorem dX9_toFront_13 : decode cX9_toFront 13 = .ok (.iload 4, 2) := by decide +kernel
theorem dX9_toFront_15 : decode cX9_toFront 15 = .ok (.aload_n 1, 1) := by decide +kernel
theorem dX9_toFront_16 : decode cX9_toFront 16 = .ok (.iload 4, 2) := by decide +kernel
theorem dX9_toFront_18 : decode cX9_toFront 18 = .ok (.iconst 1, 1) := by decide +kernel
theorem dX9_toFront_19 : decode cX9_toFront 19 = .ok (.isub, 1) := by decide +kernel
theorem dX9_toFront_20 : decode cX9_toFront 20 = .ok (.iaload, 1) := by decide +kernel
theorem dX9_toFront_21 : decode cX9_toFront 21 = .ok (.iastore, 1) := by decide +kernel
theorem dX9_toFront_22 : decode cX9_toFront 22 = .ok (.iinc 4 (-1), 3) := by decide +kernel
theorem dX9_toFront_25 : decode cX9_toFront 25 = .ok (.goto (-18), 3) := by decide +kernel
theorem dX9_toFront_28 : decode cX9_toFront 28 = .ok (.aload_n 1, 1) := by decide +kernel
theorem dX9_toFront_29 : decode cX9_toFront 29 = .ok (.iconst 0, 1) := by decide +kernel
theorem dX9_toFront_30 : decode cX9_toFront 30 = .ok (.iload_n 3, 1) := by decide +kernel
theorem dX9_toFront_31 : decode cX9_toFront 31 = .ok (.iastore, 1) := by decide +kernel
theorem dX9_toFront_32 : decode cX9_toFront 32 = .ok (.iload_n 3, 1) := by decide +kernel
theorem dX9_toFront_33 : decode cX9_toFront 33 = .ok (.ireturn, 1) := by decide +kernel
set_option maxRecDepth 20000 in
theorem ggX9_findPlaces_X9_toFront : GoodIn wsX9_findPlaces wsX9_toFront := goodIn_r _ [11] (by decide +kernel) (by decide +kernel)
set_option maxRecDepth 20000 in
theorem gX9_findPlaces_X9_toFront : GoodIn wsX9_findPlaces (wsV RX9 117 RX9 yX9_toFront wsX9_toFront) := goodIn_app (goodIn_of _ (by decide +kernel)) ggX9_findPlaces_X9_toFront
theorem dX9_findPlaces_0 : decode cX9_findPlaces 0 = .ok (.iconst 0, 1) := by decide +kernel
theorem dX9_findPlaces_1 : decode cX9_findPlaces 1 = .ok (.istore_n 1, 1) := by decide +kernel
theorem dX9_findPlaces_2 : decode cX9_findPlaces 2 = .ok (.iload_n 1, 1) := by decide +kernel
theorem dX9_findPlaces_3 : decode cX9_findPlaces 3 = .ok (.aload_n 0, 1) := by decide +kernel
theorem dX9_findPlaces_4 : decode cX9_findPlaces 4 = .ok (.getfield 106, 3) := by decide +kernel
theorem dX9_findPlaces_7 : decode cX9_findPlaces 7 = .ok (.if_icmp .ge 21, 3) := by decide +kernel
theorem dX9_findPlaces_10 : decode cX9_findPlaces 10 = .ok (.aload_n 0, 1) := by decide +kernel
theorem dX9_findPlaces_11 : decode cX9_findPlaces 11 = .ok (.getfield 39, 3) := by decide +kernel
theorem dX9_findPlaces_14 : decode cX9_findPlaces 14 = .ok (.iload_n 1, 1) := by decide +kernel
theorem dX9_findPlaces_15 : decode cX9_findPlaces 15 = .ok (.aload_n 0, 1) := by decide +kernel
theorem dX9_findPlaces_16 : decode cX9_findPlaces 16 = .ok (.getfield 21, 3) := by decide +kernel
theorem dX9_findPlaces_19 : decode cX9_findPlaces 19 = .ok (.iload_n 1, 1) := by decide +kernel
theorem dX9_findPlaces_20 : decode cX9_findPlaces 20 = .ok (.iaload, 1) := by decide +kernel
theorem dX9_findPlaces_21 : decode cX9_findPlaces 21 = .ok (.iastore, 1) := by decide +kernel
theorem dX9_findPlaces_22 : decode cX9_findPlaces 22 = .ok (.iinc 1 1, 3) := by decide +kernel
theorem dX9_findPlaces_25 : decode cX9_findPlaces 25 = .ok (.goto (-23), 3) := by decide +kernel
theorem dX9_findPlaces_28 : decode cX9_findPlaces 28 = .ok (.iconst 0, 1) := by decide +kernel
theorem dX9_findPlaces_29 : decode cX9_findPlaces 29 = .ok (.istore_n 1, 1) := by decide +kernel
theorem dX9_findPlaces_30 : decode cX9_findPlaces 30 = .ok (.iload_n 1, 1) := by decide +kernel
theorem dX9_findPlaces_31 : decode cX9_findPlaces 31 = .ok (.aload_n 0, 1) := by decide +kernel
theorem dX9_findPlaces_32 : decode cX9_findPlaces 32 = .ok (.getfield 70, 3) := by decide +kernel
theorem dX9_findPlaces_35 : decode cX9_findPlaces 35 = .ok (.if_icmp .ge 49, 3) := by decide +kernel
theorem dX9_findPlaces_38 : decode cX9_findPlaces 38 = .ok (.iconst 0, 1) := by decide +kernel
theorem dX9_findPlaces_39 : decode cX9_findPlaces 39 = .ok (.istore_n 2, 1) := by decide +kernel
theorem dX9_findPlaces_40 : decode cX9_findPlaces 40 = .ok (.aload_n 0, 1) := by decide +kernel
theorem dX9_findPlaces_41 : decode cX9_findPlaces 41 = .ok (.getfield 39, 3) := by decide +kernel
theorem dX9_findPlaces_44 : decode cX9_findPlaces 44 = .ok (.iload_n 2, 1) := by decide +kernel
theorem dX9_findPlaces_45 : decode cX9_findPlaces 45 = .ok (.iaload, 1) := by decide +kernel
theorem dX9_findPlaces_46 : decode cX9_findPlaces 46 = .ok (.aload_n 0, 1) := by decide +kernel
theorem dX9_findPlaces_47 : decode cX9_findPlaces 47 = .ok (.getfield 7, 3) := by decide +kernel
theorem dX9_findPlaces_50 : decode cX9_findPlaces 50 = .ok (.iload_n 1, 1) := by decide +kernel
theorem dX9_findPlaces_51 : decode cX9_findPlaces 51 = .ok (.iaload, 1) := by decide +kernel
theorem dX9_findPlaces_52 : decode cX9_findPlaces 52 = .ok (.if_icmp .eq 9, 3) := by decide +kernel
theorem dX9_findPlaces_55 : decode cX9_findPlaces 55 = .ok (.iinc 2 1, 3) := by decide +kernel
theorem dX9_findPlaces_58 : decode cX9_findPlaces 58 = .ok (.goto (-18), 3) := by decide +kernel
theorem dX9_findPlaces_61 : decode cX9_findPlaces 61 = .ok (.aload_n 0, 1) := by decide +kernel
theorem dX9_findPlaces_62 : decode cX9_findPlaces 62 = .ok (.getfield 24, 3) := by decide +kernel
theorem dX9_findPlaces_65 : decode cX9_findPlaces 65 = .ok (.iload_n 1, 1) := by decide +kernel
theorem dX9_findPlaces_66 : decode cX9_findPlaces 66 = .ok (.iload_n 2, 1) := by decide +kernel
theorem dX9_findPlaces_67 : decode cX9_findPlaces 67 = .ok (.iastore, 1) := by decide +kernel
theorem dX9_findPlaces_68 : decode cX9_findPlaces 68 = .ok (.aload_n 0, 1) := by decide +kernel
theorem dX9_findPlaces_69 : decode cX9_findPlaces 69 = .ok (.aload_n 0, 1) := by decide +kernel
theorem dX9_findPlaces_70 : decode cX9_findPlaces 70 = .ok (.getfield 39, 3) := by decide +kernel
theorem dX9_findPlaces_73 : decode cX9_findPlaces 73 = .ok (.iload_n 2, 1) := by decide +kernel
theorem dX9_findPlaces_74 : decode cX9_findPlaces 74 = .ok (.invokevirtual 117, 3) := by decide +kernel
theorem dX9_findPlaces_77 : decode cX9_findPlaces 77 = .ok (.istore_n 3, 1) := by decide +kernel
theorem dX9_findPlaces_78 : decode cX9_findPlaces 78 = .ok (.iinc 1 1, 3) := by decide +kernel
theorem dX9_findPlaces_81 : decode cX9_findPlaces 81 = .ok (.goto (-51), 3) := by decide +kernel
theorem dX9_findPlaces_84 : decode cX9_findPlaces 84 = .ok (.return_, 1) := by decide +kernel
theorem dX9_tellRun_0 : decode cX9_tellRun 0 = .ok (.iload_n 1, 1) := by decide +kernel
theorem dX9_tellRun_1 : decode cX9_tellRun 1 = .ok (.istore_n 2, 1) := by decide +kernel
theorem dX9_tellRun_2 : decode cX9_tellRun 2 = .ok (.iload_n 2, 1) := by decide +kernel
theorem dX9_tellRun_3 : decode cX9_tellRun 3 = .ok (.ifCond .le 43, 3) := by decide +kernel
theorem dX9_tellRun_6 : decode cX9_tellRun 6 = .ok (.aload_n 0, 1) := by decide +kernel
theorem dX9_tellRun_7 : decode cX9_tellRun 7 = .ok (.getfield 27, 3) := by decide +kernel
theorem dX9_tellRun_10 : decode cX9_tellRun 10 = .ok (.aload_n 0, 1) := by decide +kernel
theorem dX9_tellRun_11 : decode cX9_tellRun 11 = .ok (.getfield 86, 3) := by decide +kernel
theorem dX9_tellRun_14 : decode cX9_tellRun 14 = .ok (.iload_n 2, 1) := by decide +kernel
theorem dX9_tellRun_15 : decode cX9_tellRun 15 = .ok (.iconst 2, 1) := by decide +kernel
theorem dX9_tellRun_16 : decode cX9_tellRun 16 = .ok (.irem, 1) := by decide +kernel
theorem dX9_tellRun_17 : decode cX9_tellRun 17 = .ok (.iconst 1, 1) := by decide +kernel
theorem dX9_tellRun_18 : decode cX9_tellRun 18 = .ok (.if_icmp .ne 7, 3) := by decide +kernel
theorem dX9_tellRun_21 : decode cX9_tellRun 21 = .ok (.iconst 0, 1) := by decide +kernel
theorem dX9_tellRun_22 : decode cX9_tellRun 22 = .ok (.goto 4, 3) := by decide +kernel
theorem dX9_tellRun_25 : decode cX9_tellRun 25 = .ok (.iconst 1, 1) := by decide +kernel
theorem dX9_tellRun_26 : decode cX9_tellRun 26 = .ok (.iastore, 1) := by decide +kernel
theorem dX9_tellRun_27 : decode cX9_tellRun 27 = .ok (.aload_n 0, 1) := by decide +kernel
theorem dX9_tellRun_28 : decode cX9_tellRun 28 = .ok (.dup, 1) := by decide +kernel
theorem dX9_tellRun_29 : decode cX9_tellRun 29 = .ok (.getfield 86, 3) := by decide +kernel
theorem dX9_tellRun_32 : decode cX9_tellRun 32 = .ok (.iconst 1, 1) := by decide +kernel
theorem dX9_tellRun_33 : decode cX9_tellRun 33 = .ok (.iadd, 1) := by decide +kernel
theorem dX9_tellRun_34 : decode cX9_tellRun 34 = .ok (.putfield 86, 3) := by decide +kernel
theorem dX9_tellRun_37 : decode cX9_tellRun 37 = .ok (.iload_n 2, 1) := by decide +kernel
theorem dX9_tellRun_38 : decode cX9_tellRun 38 = .ok (.iconst 1, 1) := by decide +kernel
theorem dX9_tellRun_39 : decode cX9_tellRun 39 = .ok (.isub, 1) := by decide +kernel
theorem dX9_tellRun_40 : decode cX9_tellRun 40 = .ok (.iconst 2, 1) := by decide +kernel
theorem dX9_tellRun_41 : decode cX9_tellRun 41 = .ok (.idiv, 1) := by decide +kernel
theorem dX9_tellRun_42 : decode cX9_tellRun 42 = .ok (.istore_n 2, 1) := by decide +kernel
theorem dX9_tellRun_43 : decode cX9_tellRun 43 = .ok (.goto (-41), 3) := by decide +kernel
theorem dX9_tellRun_46 : decode cX9_tellRun 46 = .ok (.return_, 1) := by decide +kernel
set_option maxRecDepth 20000 in
theorem ggX9_findSymbols_X9_tellRun : GoodIn wsX9_findSymbols wsX9_tellRun := goodIn_r _ [10, 4, 1, 11, 12, 13, 14, 15, 16, 17, 18, 19, 20, 21, 22, 23, 24, 25, 26, 27, 28, 29, 30, 31, 32, 33, 34, 35, 36, 37, 38, 39, 40, 41, 42, 43] (by decide +kernel) (by decide +kernel)
set_option maxRecDepth 20000 in
theorem gX9_findSymbols_X9_tellRun : GoodIn wsX9_findSymbols (wsV RX9 121 RX9 yX9_tellRun wsX9_tellRun) := goodIn_app (goodIn_of _ (by decide +kernel)) ggX9_findSymbols_X9_tellRun
theorem dX9_findSymbols_0 : decode cX9_findSymbols 0 = .ok (.aload_n 0, 1) := by decide +kernel
theorem dX9_findSymbols_1 : decode cX9_findSymbols 1 = .ok (.iconst 0, 1) := by decide +kernel
theorem dX9_findSymbols_2 : decode cX9_findSymbols 2 = .ok (.putfield 86, 3) := by decide +kernel
theorem dX9_findSymbols_5 : decode cX9_findSymbols 5 = .ok (.iconst 0, 1) := by decide +kernel
theorem dX9_findSymbols_6 : decode cX9_findSymbols 6 = .ok (.istore_n 1, 1) := by decide +kernel
theorem dX9_findSymbols_7 : decode cX9_findSymbols 7 = .ok (.iconst 0, 1) := by decide +kernel
theorem dX9_findSymbols_8 : decode cX9_findSymbols 8 = .ok (.istore_n 2, 1) := by decide +kernel
theorem dX9_findSymbols_9 : decode cX9_findSymbols 9 = .ok (.iload_n 2, 1) := by decide +kernel
theorem dX9_findSymbols_10 : decode cX9_findSymbols 10 = .ok (.aload_n 0, 1) := by decide +kernel
theorem dX9_findSymbols_11 : decode cX9_findSymbols 11 = .ok (.getfield 70, 3) := by decide +kernel
theorem dX9_findSymbols_14 : decode cX9_findSymbols 14 = .ok (.if_icmp .ge 58, 3) := by decide +kernel
theorem dX9_findSymbols_17 : decode cX9_findSymbols 17 = .ok (.aload_n 0, 1) := by decide +kernel
theorem dX9_findSymbols_18 : decode cX9_findSymbols 18 = .ok (.getfield 24, 3) := by decide +kernel
theorem dX9_findSymbols_21 : decode cX9_findSymbols 21 = .ok (.iload_n 2, 1) := by decide +kernel
theorem dX9_findSymbols_22 : decode cX9_findSymbols 22 = .ok (.iaload, 1) := by decide +kernel
theorem dX9_findSymbols_23 : decode cX9_findSymbols 23 = .ok (.ifCond .ne 9, 3) := by decide +kernel
theorem dX9_findSymbols_26 : decode cX9_findSymbols 26 = .ok (.iinc 1 1, 3) := by decide +kernel
theorem dX9_findSymbols_29 : decode cX9_findSymbols 29 = .ok (.goto 37, 3) := by decide +kernel
theorem dX9_findSymbols_32 : decode cX9_findSymbols 32 = .ok (.aload_n 0, 1) := by decide +kernel
theorem dX9_findSymbols_33 : decode cX9_findSymbols 33 = .ok (.iload_n 1, 1) := by decide +kernel
theorem dX9_findSymbols_34 : decode cX9_findSymbols 34 = .ok (.invokevirtual 121, 3) := by decide +kernel
theorem dX9_findSymbols_37 : decode cX9_findSymbols 37 = .ok (.iconst 0, 1) := by decide +kernel
theorem dX9_findSymbols_38 : decode cX9_findSymbols 38 = .ok (.istore_n 1, 1) := by decide +kernel
theorem dX9_findSymbols_39 : decode cX9_findSymbols 39 = .ok (.aload_n 0, 1) := by decide +kernel
theorem dX9_findSymbols_40 : decode cX9_findSymbols 40 = .ok (.getfield 27, 3) := by decide +kernel
theorem dX9_findSymbols_43 : decode cX9_findSymbols 43 = .ok (.aload_n 0, 1) := by decide +kernel
theorem dX9_findSymbols_44 : decode cX9_findSymbols 44 = .ok (.getfield 86, 3) := by decide +kernel
theorem dX9_findSymbols_47 : decode cX9_findSymbols 47 = .ok (.aload_n 0, 1) := by decide +kernel
theorem dX9_findSymbols_48 : decode cX9_findSymbols 48 = .ok (.getfield 24, 3) := by decide +kernel
theorem dX9_findSymbols_51 : decode cX9_findSymbols 51 = .ok (.iload_n 2, 1) := by decide +kernel
theorem dX9_findSymbols_52 : decode cX9_findSymbols 52 = .ok (.iaload, 1) := by decide +kernel
theorem dX9_findSymbols_53 : decode cX9_findSymbols 53 = .ok (.iconst 1, 1) := by decide +kernel
theorem dX9_findSymbols_54 : decode cX9_findSymbols 54 = .ok (.iadd, 1) := by decide +kernel
theorem dX9_findSymbols_55 : decode cX9_findSymbols 55 = .ok (.iastore, 1) := by decide +kernel
theorem dX9_findSymbols_56 : decode cX9_findSymbols 56 = .ok (.aload_n 0, 1) := by decide +kernel
theorem dX9_findSymbols_57 : decode cX9_findSymbols 57 = .ok (.dup, 1) := by decide +kernel
theorem dX9_findSymbols_58 : decode cX9_findSymbols 58 = .ok (.getfield 86, 3) := by decide +kernel
theorem dX9_findSymbols_61 : decode cX9_findSymbols 61 = .ok (.iconst 1, 1) := by decide +kernel
theorem dX9_findSymbols_62 : decode cX9_findSymbols 62 = .ok (.iadd, 1) := by decide +kernel
theorem dX9_findSymbols_63 : decode cX9_findSymbols 63 = .ok (.putfield 86, 3) := by decide +kernel
theorem dX9_findSymbols_66 : decode cX9_findSymbols 66 = .ok (.iinc 2 1, 3) := by decide +kernel
theorem dX9_findSymbols_69 : decode cX9_findSymbols 69 = .ok (.goto (-60), 3) := by decide +kernel
theorem dX9_findSymbols_72 : decode cX9_findSymbols 72 = .ok (.aload_n 0, 1) := by decide +kernel
theorem dX9_findSymbols_73 : decode cX9_findSymbols 73 = .ok (.iload_n 1, 1) := by decide +kernel
theorem dX9_findSymbols_74 : decode cX9_findSymbols 74 = .ok (.invokevirtual 121, 3) := by decide +kernel
theorem dX9_findSymbols_77 : decode cX9_findSymbols 77 = .ok (.aload_n 0, 1) := by decide +kernel
theorem dX9_findSymbols_78 : decode cX9_findSymbols 78 = .ok (.getfield 70, 3) := by decide +kernel
theorem dX9_findSymbols_81 : decode cX9_findSymbols 81 = .ok (.ifCond .le 28, 3) := by decide +kernel
theorem dX9_findSymbols_84 : decode cX9_findSymbols 84 = .ok (.aload_n 0, 1) := by decide +kernel
theorem dX9_findSymbols_85 : decode cX9_findSymbols 85 = .ok (.getfield 27, 3) := by decide +kernel
theorem dX9_findSymbols_88 : decode cX9_findSymbols 88 = .ok (.aload_n 0, 1) := by decide +kernel
theorem dX9_findSymbols_89 : decode cX9_findSymbols 89 = .ok (.getfield 86, 3) := by decide +kernel
theorem dX9_findSymbols_92 : decode cX9_findSymbols 92 = .ok (.aload_n 0, 1) := by decide +kernel
theorem dX9_findSymbols_93 : decode cX9_findSymbols 93 = .ok (.getfield 106, 3) := by decide +kernel
theorem dX9_findSymbols_96 : decode cX9_findSymbols 96 = .ok (.iconst 1, 1) := by decide +kernel
theorem dX9_findSymbols_97 : decode cX9_findSymbols 97 = .ok (.iadd, 1) := by decide +kernel
theorem dX9_findSymbols_98 : decode cX9_findSymbols 98 = .ok (.iastore, 1) := by decide +kernel
theorem dX9_findSymbols_99 : decode cX9_findSymbols 99 = .ok (.aload_n 0, 1) := by decide +kernel
theorem dX9_findSymbols_100 : decode cX9_findSymbols 100 = .ok (.dup, 1) := by decide +kernel
theorem dX9_findSymbols_101 : decode cX9_findSymbols 101 = .ok (.getfield 86, 3) := by decide +kernel
theorem dX9_findSymbols_104 : decode cX9_findSymbols 104 = .ok (.iconst 1, 1) := by decide +kernel
theorem dX9_findSymbols_105 : decode cX9_findSymbols 105 = .ok (.iadd, 1) := by decide +kernel
theorem dX9_findSymbols_106 : decode cX9_findSymbols 106 = .ok (.putfield 86, 3) := by decide +kernel
theorem dX9_findSymbols_109 : decode cX9_findSymbols 109 = .ok (.return_, 1) := by decide +kernel
theorem dX9_often_0 : decode cX9_often 0 = .ok (.iconst 0, 1) := by decide +kernel
theorem dX9_often_1 : decode cX9_often 1 = .ok (.istore_n 2, 1) := by decide +kernel
theorem dX9_often_2 : decode cX9_often 2 = .ok (.iconst 0, 1) := by decide +kernel
theorem dX9_often_3 : decode cX9_often 3 = .ok (.istore_n 3, 1) := by decide +kernel
theorem dX9_often_4 : decode cX9_often 4 = .ok (.iload_n 3, 1) := by decide +kernel
theorem dX9_often_5 : decode cX9_often 5 = .ok (.aload_n 0, 1) := by decide +kernel
theorem dX9_often_6 : decode cX9_often 6 = .ok (.getfield 86, 3) := by decide +kernel
theorem dX9_often_9 : decode cX9_often 9 = .ok (.if_icmp .ge 27, 3) := by decide +kernel
theorem dX9_often_12 : decode cX9_often 12 = .ok (.iload_n 2, 1) := by decide +kernel
theorem dX9_often_13 : decode cX9_often 13 = .ok (.aload_n 0, 1) := by decide +kernel
theorem dX9_often_14 : decode cX9_often 14 = .ok (.getfield 27, 3) := by decide +kernel
theorem dX9_often_17 : decode cX9_often 17 = .ok (.iload_n 3, 1) := by decide +kernel
theorem dX9_often_18 : decode cX9_often 18 = .ok (.iaload, 1) := by decide +kernel
theorem dX9_often_19 : decode cX9_often 19 = .ok (.iload_n 1, 1) := by decide +kernel
theorem dX9_often_20 : decode cX9_often 20 = .ok (.if_icmp .ne 7, 3) := by decide +kernel
theorem dX9_often_23 : decode cX9_often 23 = .ok (.iconst 1, 1) := by decide +kernel
theorem dX9_often_24 : decode cX9_often 24 = .ok (.goto 4, 3) := by decide +kernel
theorem dX9_often_27 : decode cX9_often 27 = .ok (.iconst 0, 1) := by decide +kernel
theorem dX9_often_28 : decode cX9_often 28 = .ok (.iadd, 1) := by decide +kernel
theorem dX9_often_29 : decode cX9_often 29 = .ok (.istore_n 2, 1) := by decide +kernel
theorem dX9_often_30 : decode cX9_often 30 = .ok (.iinc 3 1, 3) := by decide +kernel
theorem dX9_often_33 : decode cX9_often 33 = .ok (.goto (-29), 3) := by decide +kernel
theorem dX9_often_36 : decode cX9_often 36 = .ok (.iload_n 2, 1) := by decide +kernel
theorem dX9_often_37 : decode cX9_often 37 = .ok (.ireturn, 1) := by decide +kernel
set_option maxRecDepth 20000 in
theorem ggX9_begin_X9_often : GoodIn wsX9_begin wsX9_often := goodIn_r _ [9, 1, 10, 14, 15, 16, 17, 18, 19, 20, 21, 22, 23, 24, 25, 26, 27, 28, 29, 30, 31, 32, 33, 34, 35, 36, 37, 38, 39, 40, 41, 42, 43, 44, 45, 46] (by decide +kernel) (by decide +kernel)
set_option maxRecDepth 20000 in
theorem gX9_begin_X9_often : GoodIn wsX9_begin (wsV RX9 125 RX9 yX9_often wsX9_often) := goodIn_app (goodIn_of _ (by decide +kernel)) ggX9_begin_X9_often
set_option maxRecDepth 20000 in
theorem ggX9_begin_X9_within : GoodIn wsX9_begin wsX9_within := goodIn_r _ [13] (by decide +kernel) (by decide +kernel)
set_option maxRecDepth 20000 in
theorem gX9_begin_X9_within : GoodIn wsX9_begin (va_wsS RX9 66 yX9_within wsX9_within) := goodIn_app (goodIn_of _ (by decide +kernel)) ggX9_begin_X9_within
theorem dX9_begin_0 : decode cX9_begin 0 = .ok (.iconst 0, 1) := by decide +kernel
theorem dX9_begin_1 : decode cX9_begin 1 = .ok (.istore_n 1, 1) := by decide +kernel
theorem dX9_begin_2 : decode cX9_begin 2 = .ok (.aload_n 0, 1) := by decide +kernel
theorem dX9_begin_3 : decode cX9_begin 3 = .ok (.getfield 86, 3) := by decide +kernel
theorem dX9_begin_6 : decode cX9_begin 6 = .ok (.istore_n 2, 1) := by decide +kernel
theorem dX9_begin_7 : decode cX9_begin 7 = .ok (.iconst 0, 1) := by decide +kernel
theorem dX9_begin_8 : decode cX9_begin 8 = .ok (.istore_n 3, 1) := by decide +kernel
theorem dX9_begin_9 : decode cX9_begin 9 = .ok (.iload_n 3, 1) := by decide +kernel
theorem dX9_begin_10 : decode cX9_begin 10 = .ok (.aload_n 0, 1) := by decide +kernel
theorem dX9_begin_11 : decode cX9_begin 11 = .ok (.getfield 92, 3) := by decide +kernel
theorem dX9_begin_14 : decode cX9_begin 14 = .ok (.if_icmp .ge 115, 3) := by decide +kernel
theorem dX9_begin_17 : decode cX9_begin 17 = .ok (.iload_n 2, 1) := by decide +kernel
theorem dX9_begin_18 : decode cX9_begin 18 = .ok (.aload_n 0, 1) := by decide +kernel
theorem dX9_begin_19 : decode cX9_begin 19 = .ok (.getfield 92, 3) := by decide +kernel
theorem dX9_begin_22 : decode cX9_begin 22 = .ok (.iload_n 3, 1) := by decide +kernel
theorem dX9_begin_23 : decode cX9_begin 23 = .ok (.isub, 1) := by decide +kernel
theorem dX9_begin_24 : decode cX9_begin 24 = .ok (.idiv, 1) := by decide +kernel
theorem dX9_begin_25 : decode cX9_begin 25 = .ok (.istore 4, 2) := by decide +kernel
theorem dX9_begin_27 : decode cX9_begin 27 = .ok (.iload_n 1, 1) := by decide +kernel
theorem dX9_begin_28 : decode cX9_begin 28 = .ok (.istore 5, 2) := by decide +kernel
theorem dX9_begin_30 : decode cX9_begin 30 = .ok (.iconst 0, 1) := by decide +kernel
theorem dX9_begin_31 : decode cX9_begin 31 = .ok (.istore 6, 2) := by decide +kernel
theorem dX9_begin_33 : decode cX9_begin 33 = .ok (.iload 6, 2) := by decide +kernel
theorem dX9_begin_35 : decode cX9_begin 35 = .ok (.iload 4, 2) := by decide +kernel
theorem dX9_begin_37 : decode cX9_begin 37 = .ok (.if_icmp .ge 29, 3) := by decide +kernel
theorem dX9_begin_40 : decode cX9_begin 40 = .ok (.iload_n 1, 1) := by decide +kernel
theorem dX9_begin_41 : decode cX9_begin 41 = .ok (.aload_n 0, 1) := by decide +kernel
theorem dX9_begin_42 : decode cX9_begin 42 = .ok (.getfield 106, 3) := by decide +kernel
theorem dX9_begin_45 : decode cX9_begin 45 = .ok (.iconst 2, 1) := by decide +kernel
theorem dX9_begin_46 : decode cX9_begin 46 = .ok (.iadd, 1) := by decide +kernel
theorem dX9_begin_47 : decode cX9_begin 47 = .ok (.if_icmp .ge 19, 3) := by decide +kernel
theorem dX9_begin_50 : decode cX9_begin 50 = .ok (.iload 6, 2) := by decide +kernel
theorem dX9_begin_52 : decode cX9_begin 52 = .ok (.aload_n 0, 1) := by decide +kernel
theorem dX9_begin_53 : decode cX9_begin 53 = .ok (.iload_n 1, 1) := by decide +kernel
theorem dX9_begin_54 : decode cX9_begin 54 = .ok (.invokevirtual 125, 3) := by decide +kernel
theorem dX9_begin_57 : decode cX9_begin 57 = .ok (.iadd, 1) := by decide +kernel
theorem dX9_begin_58 : decode cX9_begin 58 = .ok (.istore 6, 2) := by decide +kernel
theorem dX9_begin_60 : decode cX9_begin 60 = .ok (.iinc 1 1, 3) := by decide +kernel
theorem dX9_begin_63 : decode cX9_begin 63 = .ok (.goto (-30), 3) := by decide +kernel
theorem dX9_begin_66 : decode cX9_begin 66 = .ok (.iload_n 2, 1) := by decide +kernel
theorem dX9_begin_67 : decode cX9_begin 67 = .ok (.iload 6, 2) := by decide +kernel
theorem dX9_begin_69 : decode cX9_begin 69 = .ok (.isub, 1) := by decide +kernel
theorem dX9_begin_70 : decode cX9_begin 70 = .ok (.istore_n 2, 1) := by decide +kernel
theorem dX9_begin_71 : decode cX9_begin 71 = .ok (.iconst 0, 1) := by decide +kernel
theorem dX9_begin_72 : decode cX9_begin 72 = .ok (.istore 7, 2) := by decide +kernel
theorem dX9_begin_74 : decode cX9_begin 74 = .ok (.iload 7, 2) := by decide +kernel
theorem dX9_begin_76 : decode cX9_begin 76 = .ok (.aload_n 0, 1) := by decide +kernel
theorem dX9_begin_77 : decode cX9_begin 77 = .ok (.getfield 106, 3) := by decide +kernel
theorem dX9_begin_80 : decode cX9_begin 80 = .ok (.iconst 2, 1) := by decide +kernel
theorem dX9_begin_81 : decode cX9_begin 81 = .ok (.iadd, 1) := by decide +kernel
theorem dX9_begin_82 : decode cX9_begin 82 = .ok (.if_icmp .ge 41, 3) := by decide +kernel
theorem dX9_begin_85 : decode cX9_begin 85 = .ok (.aload_n 0, 1) := by decide +kernel
theorem dX9_begin_86 : decode cX9_begin 86 = .ok (.getfield 30, 3) := by decide +kernel
theorem dX9_begin_89 : decode cX9_begin 89 = .ok (.sipush 258, 3) := by decide +kernel
theorem dX9_begin_92 : decode cX9_begin 92 = .ok (.iload_n 3, 1) := by decide +kernel
theorem dX9_begin_93 : decode cX9_begin 93 = .ok (.imul, 1) := by decide +kernel
theorem dX9_begin_94 : decode cX9_begin 94 = .ok (.iload 7, 2) := by decide +kernel
theorem dX9_begin_96 : decode cX9_begin 96 = .ok (.iadd, 1) := by decide +kernel
theorem dX9_begin_97 : decode cX9_begin 97 = .ok (.iload 7, 2) := by decide +kernel
theorem dX9_begin_99 : decode cX9_begin 99 = .ok (.iload 5, 2) := by decide +kernel
theorem dX9_begin_101 : decode cX9_begin 101 = .ok (.iload_n 1, 1) := by decide +kernel
theorem dX9_begin_102 : decode cX9_begin 102 = .ok (.iconst 1, 1) := by decide +kernel
theorem dX9_begin_103 : decode cX9_begin 103 = .ok (.isub, 1) := by decide +kernel
theorem dX9_begin_104 : decode cX9_begin 104 = .ok (.invokestatic 66, 3) := by decide +kernel
theorem dX9_begin_107 : decode cX9_begin 107 = .ok (.ifCond .eq 7, 3) := by decide +kernel
theorem dX9_begin_110 : decode cX9_begin 110 = .ok (.iconst 1, 1) := by decide +kernel
theorem dX9_begin_111 : decode cX9_begin 111 = .ok (.goto 5, 3) := by decide +kernel
theorem dX9_begin_114 : decode cX9_begin 114 = .ok (.bipush 9, 2) := by decide +kernel
theorem dX9_begin_116 : decode cX9_begin 116 = .ok (.iastore, 1) := by decide +kernel
theorem dX9_begin_117 : decode cX9_begin 117 = .ok (.iinc 7 1, 3) := by decide +kernel
theorem dX9_begin_120 : decode cX9_begin 120 = .ok (.goto (-46), 3) := by decide +kernel
theorem dX9_begin_123 : decode cX9_begin 123 = .ok (.iinc 3 1, 3) := by decide +kernel
theorem dX9_begin_126 : decode cX9_begin 126 = .ok (.goto (-117), 3) := by decide +kernel
theorem dX9_begin_129 : decode cX9_begin 129 = .ok (.return_, 1) := by decide +kernel
theorem dX9_groupEnd_0 : decode cX9_groupEnd 0 = .ok (.bipush 10, 2) := by decide +kernel
theorem dX9_groupEnd_2 : decode cX9_groupEnd 2 = .ok (.iload_n 1, 1) := by decide +kernel
theorem dX9_groupEnd_3 : decode cX9_groupEnd 3 = .ok (.imul, 1) := by decide +kernel
theorem dX9_groupEnd_4 : decode cX9_groupEnd 4 = .ok (.bipush 10, 2) := by decide +kernel
theorem dX9_groupEnd_6 : decode cX9_groupEnd 6 = .ok (.iadd, 1) := by decide +kernel
theorem dX9_groupEnd_7 : decode cX9_groupEnd 7 = .ok (.aload_n 0, 1) := by decide +kernel
theorem dX9_groupEnd_8 : decode cX9_groupEnd 8 = .ok (.getfield 86, 3) := by decide +kernel
theorem dX9_groupEnd_11 : decode cX9_groupEnd 11 = .ok (.if_icmp .ge 13, 3) := by decide +kernel
theorem dX9_groupEnd_14 : decode cX9_groupEnd 14 = .ok (.bipush 10, 2) := by decide +kernel
theorem dX9_groupEnd_16 : decode cX9_groupEnd 16 = .ok (.iload_n 1, 1) := by decide +kernel
theorem dX9_groupEnd_17 : decode cX9_groupEnd 17 = .ok (.imul, 1) := by decide +kernel
theorem dX9_groupEnd_18 : decode cX9_groupEnd 18 = .ok (.bipush 10, 2) := by decide +kernel
theorem dX9_groupEnd_20 : decode cX9_groupEnd 20 = .ok (.iadd, 1) := by decide +kernel
theorem dX9_groupEnd_21 : decode cX9_groupEnd 21 = .ok (.goto 7, 3) := by decide +kernel
theorem dX9_groupEnd_24 : decode cX9_groupEnd 24 = .ok (.aload_n 0, 1) := by decide +kernel
theorem dX9_groupEnd_25 : decode cX9_groupEnd 25 = .ok (.getfield 86, 3) := by decide +kernel
theorem dX9_groupEnd_28 : decode cX9_groupEnd 28 = .ok (.ireturn, 1) := by decide +kernel
set_option maxRecDepth 20000 in
theorem ggX9_lightest_X9_groupEnd : GoodIn wsX9_lightest wsX9_groupEnd := goodIn_r _ [8, 9, 10, 11, 12, 13, 14, 15, 16, 17, 18, 19, 20, 21, 22, 23, 24, 25, 26, 27, 28, 29, 30, 31, 32, 33, 34, 35, 36, 37, 38, 39, 40, 41, 42] (by decide +kernel) (by decide +kernel)
set_option maxRecDepth 20000 in
theorem gX9_lightest_X9_groupEnd : GoodIn wsX9_lightest (wsV RX9 129 RX9 yX9_groupEnd wsX9_groupEnd) := goodIn_app (goodIn_of _ (by decide +kernel)) ggX9_lightest_X9_groupEnd
theorem dX9_lightest_0 : decode cX9_lightest 0 = .ok (.iconst 0, 1) := by decide +kernel
theorem dX9_lightest_1 : decode cX9_lightest 1 = .ok (.istore_n 3, 1) := by decide +kernel
theorem dX9_lightest_2 : decode cX9_lightest 2 = .ok (.iconst 0, 1) := by decide +kernel
theorem dX9_lightest_3 : decode cX9_lightest 3 = .ok (.istore 4, 2) := by decide +kernel
theorem dX9_lightest_5 : decode cX9_lightest 5 = .ok (.iconst 0, 1) := by decide +kernel
theorem dX9_lightest_6 : decode cX9_lightest 6 = .ok (.istore 5, 2) := by decide +kernel
theorem dX9_lightest_8 : decode cX9_lightest 8 = .ok (.iload 5, 2) := by decide +kernel
theorem dX9_lightest_10 : decode cX9_lightest 10 = .ok (.aload_n 0, 1) := by decide +kernel
theorem dX9_lightest_11 : decode cX9_lightest 11 = .ok (.getfield 92, 3) := by decide +kernel
theorem dX9_lightest_14 : decode cX9_lightest 14 = .ok (.if_icmp .ge 102, 3) := by decide +kernel
theorem dX9_lightest_17 : decode cX9_lightest 17 = .ok (.iconst 0, 1) := by decide +kernel
theorem dX9_lightest_18 : decode cX9_lightest 18 = .ok (.istore 6, 2) := by decide +kernel
theorem dX9_lightest_20 : decode cX9_lightest 20 = .ok (.bipush 10, 2) := by decide +kernel
theorem dX9_lightest_22 : decode cX9_lightest 22 = .ok (.iload_n 2, 1) := by decide +kernel
theorem dX9_lightest_23 : decode cX9_lightest 23 = .ok (.imul, 1) := by decide +kernel
theorem dX9_lightest_24 : decode cX9_lightest 24 = .ok (.istore 7, 2) := by decide +kernel
theorem dX9_lightest_26 : decode cX9_lightest 26 = .ok (.iload 7, 2) := by decide +kernel
theorem dX9_lightest_28 : decode cX9_lightest 28 = .ok (.aload_n 0, 1) := by decide +kernel
theorem dX9_lightest_29 : decode cX9_lightest 29 = .ok (.iload_n 2, 1) := by decide +kernel
theorem dX9_lightest_30 : decode cX9_lightest 30 = .ok (.invokevirtual 129, 3) := by decide +kernel
theorem dX9_lightest_33 : decode cX9_lightest 33 = .ok (.if_icmp .ge 37, 3) := by decide +kernel
theorem dX9_lightest_36 : decode cX9_lightest 36 = .ok (.iload 6, 2) := by decide +kernel
theorem dX9_lightest_38 : decode cX9_lightest 38 = .ok (.aload_n 0, 1) := by decide +kernel
theorem dX9_lightest_39 : decode cX9_lightest 39 = .ok (.getfield 30, 3) := by decide +kernel
theorem dX9_lightest_42 : decode cX9_lightest 42 = .ok (.sipush 258, 3) := by decide +kernel
theorem dX9_lightest_45 : decode cX9_lightest 45 = .ok (.iconst 3, 1) := by decide +kernel
theorem dX9_lightest_46 : decode cX9_lightest 46 = .ok (.iload_n 1, 1) := by decide +kernel
theorem dX9_lightest_47 : decode cX9_lightest 47 = .ok (.imul, 1) := by decide +kernel
theorem dX9_lightest_48 : decode cX9_lightest 48 = .ok (.iload 5, 2) := by decide +kernel
theorem dX9_lightest_50 : decode cX9_lightest 50 = .ok (.iadd, 1) := by decide +kernel
theorem dX9_lightest_51 : decode cX9_lightest 51 = .ok (.imul, 1) := by decide +kernel
theorem dX9_lightest_52 : decode cX9_lightest 52 = .ok (.aload_n 0, 1) := by decide +kernel
theorem dX9_lightest_53 : decode cX9_lightest 53 = .ok (.getfield 27, 3) := by decide +kernel
theorem dX9_lightest_56 : decode cX9_lightest 56 = .ok (.iload 7, 2) := by decide +kernel
theorem dX9_lightest_58 : decode cX9_lightest 58 = .ok (.iaload, 1) := by decide +kernel
theorem dX9_lightest_59 : decode cX9_lightest 59 = .ok (.iadd, 1) := by decide +kernel
theorem dX9_lightest_60 : decode cX9_lightest 60 = .ok (.iaload, 1) := by decide +kernel
theorem dX9_lightest_61 : decode cX9_lightest 61 = .ok (.iadd, 1) := by decide +kernel
theorem dX9_lightest_62 : decode cX9_lightest 62 = .ok (.istore 6, 2) := by decide +kernel
theorem dX9_lightest_64 : decode cX9_lightest 64 = .ok (.iinc 7 1, 3) := by decide +kernel
theorem dX9_lightest_67 : decode cX9_lightest 67 = .ok (.goto (-41), 3) := by decide +kernel
theorem dX9_lightest_70 : decode cX9_lightest 70 = .ok (.iload 5, 2) := by decide +kernel
theorem dX9_lightest_72 : decode cX9_lightest 72 = .ok (.ifCond .eq 10, 3) := by decide +kernel
theorem dX9_lightest_75 : decode cX9_lightest 75 = .ok (.iload 6, 2) := by decide +kernel
theorem dX9_lightest_77 : decode cX9_lightest 77 = .ok (.iload 4, 2) := by decide +kernel
theorem dX9_lightest_79 : decode cX9_lightest 79 = .ok (.if_icmp .ge 8, 3) := by decide +kernel
theorem dX9_lightest_82 : decode cX9_lightest 82 = .ok (.iload 5, 2) := by decide +kernel
theorem dX9_lightest_84 : decode cX9_lightest 84 = .ok (.goto 4, 3) := by decide +kernel
theorem dX9_lightest_87 : decode cX9_lightest 87 = .ok (.iload_n 3, 1) := by decide +kernel
theorem dX9_lightest_88 : decode cX9_lightest 88 = .ok (.istore_n 3, 1) := by decide +kernel
theorem dX9_lightest_89 : decode cX9_lightest 89 = .ok (.iload 5, 2) := by decide +kernel
theorem dX9_lightest_91 : decode cX9_lightest 91 = .ok (.ifCond .eq 10, 3) := by decide +kernel
theorem dX9_lightest_94 : decode cX9_lightest 94 = .ok (.iload 6, 2) := by decide +kernel
theorem dX9_lightest_96 : decode cX9_lightest 96 = .ok (.iload 4, 2) := by decide +kernel
theorem dX9_lightest_98 : decode cX9_lightest 98 = .ok (.if_icmp .ge 8, 3) := by decide +kernel
theorem dX9_lightest_101 : decode cX9_lightest 101 = .ok (.iload 6, 2) := by decide +kernel
theorem dX9_lightest_103 : decode cX9_lightest 103 = .ok (.goto 5, 3) := by decide +kernel
theorem dX9_lightest_106 : decode cX9_lightest 106 = .ok (.iload 4, 2) := by decide +kernel
theorem dX9_lightest_108 : decode cX9_lightest 108 = .ok (.istore 4, 2) := by decide +kernel
theorem dX9_lightest_110 : decode cX9_lightest 110 = .ok (.iinc 5 1, 3) := by decide +kernel
theorem dX9_lightest_113 : decode cX9_lightest 113 = .ok (.goto (-105), 3) := by decide +kernel
theorem dX9_lightest_116 : decode cX9_lightest 116 = .ok (.iload_n 3, 1) := by decide +kernel
theorem dX9_lightest_117 : decode cX9_lightest 117 = .ok (.ireturn, 1) := by decide +kernel
set_option maxRecDepth 20000 in
theorem ggX9_weigh_X9_groupEnd : GoodIn wsX9_weigh wsX9_groupEnd := goodIn_r _ [12, 13, 18, 19, 20, 21, 22, 23, 24, 25, 26, 27, 28, 29, 30, 31, 32, 33, 34, 35, 36, 37, 38, 39, 40, 41, 42, 43, 44, 45, 46, 47, 48, 49, 50] (by decide +kernel) (by decide +kernel)
set_option maxRecDepth 20000 in
theorem gX9_weigh_X9_groupEnd : GoodIn wsX9_weigh (wsV RX9 129 RX9 yX9_groupEnd wsX9_groupEnd) := goodIn_app (goodIn_of _ (by decide +kernel)) ggX9_weigh_X9_groupEnd
set_option maxRecDepth 20000 in
theorem ggX9_weigh_X9_light : GoodIn wsX9_weigh wsX9_light := goodIn_r _ [17, 3, 2, 18, 19, 20, 21, 22, 23, 24, 25, 26, 27, 28, 29, 30, 31, 32, 33, 34, 35, 36, 37, 38, 39, 40, 41, 42, 43, 44, 45, 46, 47, 48, 49, 50] (by decide +kernel) (by decide +kernel)
set_option maxRecDepth 20000 in
theorem gX9_weigh_X9_light : GoodIn wsX9_weigh (wsV RX9 132 RX9 yX9_light wsX9_light) := goodIn_app (goodIn_of _ (by decide +kernel)) ggX9_weigh_X9_light
theorem dX9_weigh_0 : decode cX9_weigh 0 = .ok (.aload_n 0, 1) := by decide +kernel
theorem dX9_weigh_1 : decode cX9_weigh 1 = .ok (.getfield 106, 3) := by decide +kernel
theorem dX9_weigh_4 : decode cX9_weigh 4 = .ok (.iconst 2, 1) := by decide +kernel
theorem dX9_weigh_5 : decode cX9_weigh 5 = .ok (.iadd, 1) := by decide +kernel
theorem dX9_weigh_6 : decode cX9_weigh 6 = .ok (.istore_n 3, 1) := by decide +kernel
theorem dX9_weigh_7 : decode cX9_weigh 7 = .ok (.iconst 0, 1) := by decide +kernel
theorem dX9_weigh_8 : decode cX9_weigh 8 = .ok (.istore 4, 2) := by decide +kernel
theorem dX9_weigh_10 : decode cX9_weigh 10 = .ok (.iload 4, 2) := by decide +kernel
theorem dX9_weigh_12 : decode cX9_weigh 12 = .ok (.iload_n 3, 1) := by decide +kernel
theorem dX9_weigh_13 : decode cX9_weigh 13 = .ok (.if_icmp .ge 25, 3) := by decide +kernel
theorem dX9_weigh_16 : decode cX9_weigh 16 = .ok (.aload_n 0, 1) := by decide +kernel
theorem dX9_weigh_17 : decode cX9_weigh 17 = .ok (.getfield 42, 3) := by decide +kernel
theorem dX9_weigh_20 : decode cX9_weigh 20 = .ok (.iload 4, 2) := by decide +kernel
theorem dX9_weigh_22 : decode cX9_weigh 22 = .ok (.iconst 0, 1) := by decide +kernel
theorem dX9_weigh_23 : decode cX9_weigh 23 = .ok (.iastore, 1) := by decide +kernel
theorem dX9_weigh_24 : decode cX9_weigh 24 = .ok (.aload_n 0, 1) := by decide +kernel
theorem dX9_weigh_25 : decode cX9_weigh 25 = .ok (.getfield 45, 3) := by decide +kernel
theorem dX9_weigh_28 : decode cX9_weigh 28 = .ok (.iload 4, 2) := by decide +kernel
theorem dX9_weigh_30 : decode cX9_weigh 30 = .ok (.iconst (-1), 1) := by decide +kernel
theorem dX9_weigh_31 : decode cX9_weigh 31 = .ok (.iastore, 1) := by decide +kernel
theorem dX9_weigh_32 : decode cX9_weigh 32 = .ok (.iinc 4 1, 3) := by decide +kernel
theorem dX9_weigh_35 : decode cX9_weigh 35 = .ok (.goto (-25), 3) := by decide +kernel
theorem dX9_weigh_38 : decode cX9_weigh 38 = .ok (.iconst 0, 1) := by decide +kernel
theorem dX9_weigh_39 : decode cX9_weigh 39 = .ok (.istore 4, 2) := by decide +kernel
theorem dX9_weigh_41 : decode cX9_weigh 41 = .ok (.iload 4, 2) := by decide +kernel
theorem dX9_weigh_43 : decode cX9_weigh 43 = .ok (.aload_n 0, 1) := by decide +kernel
theorem dX9_weigh_44 : decode cX9_weigh 44 = .ok (.getfield 89, 3) := by decide +kernel
theorem dX9_weigh_47 : decode cX9_weigh 47 = .ok (.if_icmp .ge 65, 3) := by decide +kernel
theorem dX9_weigh_50 : decode cX9_weigh 50 = .ok (.bipush 10, 2) := by decide +kernel
theorem dX9_weigh_52 : decode cX9_weigh 52 = .ok (.iload 4, 2) := by decide +kernel
theorem dX9_weigh_54 : decode cX9_weigh 54 = .ok (.imul, 1) := by decide +kernel
theorem dX9_weigh_55 : decode cX9_weigh 55 = .ok (.istore 5, 2) := by decide +kernel
theorem dX9_weigh_57 : decode cX9_weigh 57 = .ok (.iload 5, 2) := by decide +kernel
theorem dX9_weigh_59 : decode cX9_weigh 59 = .ok (.aload_n 0, 1) := by decide +kernel
theorem dX9_weigh_60 : decode cX9_weigh 60 = .ok (.iload 4, 2) := by decide +kernel
theorem dX9_weigh_62 : decode cX9_weigh 62 = .ok (.invokevirtual 129, 3) := by decide +kernel
theorem dX9_weigh_65 : decode cX9_weigh 65 = .ok (.if_icmp .ge 41, 3) := by decide +kernel
theorem dX9_weigh_68 : decode cX9_weigh 68 = .ok (.aload_n 0, 1) := by decide +kernel
theorem dX9_weigh_69 : decode cX9_weigh 69 = .ok (.getfield 33, 3) := by decide +kernel
theorem dX9_weigh_72 : decode cX9_weigh 72 = .ok (.bipush 31, 2) := by decide +kernel
theorem dX9_weigh_74 : decode cX9_weigh 74 = .ok (.iload_n 1, 1) := by decide +kernel
theorem dX9_weigh_75 : decode cX9_weigh 75 = .ok (.imul, 1) := by decide +kernel
theorem dX9_weigh_76 : decode cX9_weigh 76 = .ok (.iload 4, 2) := by decide +kernel
theorem dX9_weigh_78 : decode cX9_weigh 78 = .ok (.iadd, 1) := by decide +kernel
theorem dX9_weigh_79 : decode cX9_weigh 79 = .ok (.iaload, 1) := by decide +kernel
theorem dX9_weigh_80 : decode cX9_weigh 80 = .ok (.iload_n 2, 1) := by decide +kernel
theorem dX9_weigh_81 : decode cX9_weigh 81 = .ok (.if_icmp .ne 25, 3) := by decide +kernel
theorem dX9_weigh_84 : decode cX9_weigh 84 = .ok (.aload_n 0, 1) := by decide +kernel
theorem dX9_weigh_85 : decode cX9_weigh 85 = .ok (.getfield 42, 3) := by decide +kernel
theorem dX9_weigh_88 : decode cX9_weigh 88 = .ok (.aload_n 0, 1) := by decide +kernel
theorem dX9_weigh_89 : decode cX9_weigh 89 = .ok (.getfield 27, 3) := by decide +kernel
theorem dX9_weigh_92 : decode cX9_weigh 92 = .ok (.iload 5, 2) := by decide +kernel
theorem dX9_weigh_94 : decode cX9_weigh 94 = .ok (.iaload, 1) := by decide +kernel
theorem dX9_weigh_95 : decode cX9_weigh 95 = .ok (.dup2, 1) := by decide +kernel
theorem dX9_weigh_96 : decode cX9_weigh 96 = .ok (.iaload, 1) := by decide +kernel
theorem dX9_weigh_97 : decode cX9_weigh 97 = .ok (.iconst 1, 1) := by decide +kernel
theorem dX9_weigh_98 : decode cX9_weigh 98 = .ok (.iadd, 1) := by decide +kernel
theorem dX9_weigh_99 : decode cX9_weigh 99 = .ok (.iastore, 1) := by decide +kernel
theorem dX9_weigh_100 : decode cX9_weigh 100 = .ok (.iinc 5 1, 3) := by decide +kernel
theorem dX9_weigh_103 : decode cX9_weigh 103 = .ok (.goto (-46), 3) := by decide +kernel
theorem dX9_weigh_106 : decode cX9_weigh 106 = .ok (.iinc 4 1, 3) := by decide +kernel
theorem dX9_weigh_109 : decode cX9_weigh 109 = .ok (.goto (-68), 3) := by decide +kernel
theorem dX9_weigh_112 : decode cX9_weigh 112 = .ok (.iconst 0, 1) := by decide +kernel
theorem dX9_weigh_113 : decode cX9_weigh 113 = .ok (.istore 4, 2) := by decide +kernel
theorem dX9_weigh_115 : decode cX9_weigh 115 = .ok (.iload 4, 2) := by decide +kernel
theorem dX9_weigh_117 : decode cX9_weigh 117 = .ok (.iload_n 3, 1) := by decide +kernel
theorem dX9_weigh_118 : decode cX9_weigh 118 = .ok (.if_icmp .ge 37, 3) := by decide +kernel
theorem dX9_weigh_121 : decode cX9_weigh 121 = .ok (.aload_n 0, 1) := by decide +kernel
theorem dX9_weigh_122 : decode cX9_weigh 122 = .ok (.getfield 42, 3) := by decide +kernel
theorem dX9_weigh_125 : decode cX9_weigh 125 = .ok (.iload 4, 2) := by decide +kernel
theorem dX9_weigh_127 : decode cX9_weigh 127 = .ok (.aload_n 0, 1) := by decide +kernel
theorem dX9_weigh_128 : decode cX9_weigh 128 = .ok (.getfield 42, 3) := by decide +kernel
theorem dX9_weigh_131 : decode cX9_weigh 131 = .ok (.iload 4, 2) := by decide +kernel
theorem dX9_weigh_133 : decode cX9_weigh 133 = .ok (.iaload, 1) := by decide +kernel
theorem dX9_weigh_134 : decode cX9_weigh 134 = .ok (.ifCond .ne 7, 3) := by decide +kernel
theorem dX9_weigh_137 : decode cX9_weigh 137 = .ok (.iconst 1, 1) := by decide +kernel
theorem dX9_weigh_138 : decode cX9_weigh 138 = .ok (.goto 10, 3) := by decide +kernel
theorem dX9_weigh_141 : decode cX9_weigh 141 = .ok (.aload_n 0, 1) := by decide +kernel
theorem dX9_weigh_142 : decode cX9_weigh 142 = .ok (.getfield 42, 3) := by decide +kernel
theorem dX9_weigh_145 : decode cX9_weigh 145 = .ok (.iload 4, 2) := by decide +kernel
theorem dX9_weigh_147 : decode cX9_weigh 147 = .ok (.iaload, 1) := by decide +kernel
theorem dX9_weigh_148 : decode cX9_weigh 148 = .ok (.iastore, 1) := by decide +kernel
theorem dX9_weigh_149 : decode cX9_weigh 149 = .ok (.iinc 4 1, 3) := by decide +kernel
theorem dX9_weigh_152 : decode cX9_weigh 152 = .ok (.goto (-37), 3) := by decide +kernel
theorem dX9_weigh_155 : decode cX9_weigh 155 = .ok (.iconst 1, 1) := by decide +kernel
theorem dX9_weigh_156 : decode cX9_weigh 156 = .ok (.istore 4, 2) := by decide +kernel
theorem dX9_weigh_158 : decode cX9_weigh 158 = .ok (.iload 4, 2) := by decide +kernel
theorem dX9_weigh_160 : decode cX9_weigh 160 = .ok (.aload_n 0, 1) := by decide +kernel
theorem dX9_weigh_161 : decode cX9_weigh 161 = .ok (.getfield 106, 3) := by decide +kernel
theorem dX9_weigh_164 : decode cX9_weigh 164 = .ok (.iconst 2, 1) := by decide +kernel
theorem dX9_weigh_165 : decode cX9_weigh 165 = .ok (.iadd, 1) := by decide +kernel
theorem dX9_weigh_166 : decode cX9_weigh 166 = .ok (.if_icmp .ge 70, 3) := by decide +kernel
theorem dX9_weigh_169 : decode cX9_weigh 169 = .ok (.aload_n 0, 1) := by decide +kernel
theorem dX9_weigh_170 : decode cX9_weigh 170 = .ok (.iload_n 3, 1) := by decide +kernel
theorem dX9_weigh_171 : decode cX9_weigh 171 = .ok (.invokevirtual 132, 3) := by decide +kernel
theorem dX9_weigh_174 : decode cX9_weigh 174 = .ok (.istore 5, 2) := by decide +kernel
theorem dX9_weigh_176 : decode cX9_weigh 176 = .ok (.aload_n 0, 1) := by decide +kernel
theorem dX9_weigh_177 : decode cX9_weigh 177 = .ok (.getfield 45, 3) := by decide +kernel
theorem dX9_weigh_180 : decode cX9_weigh 180 = .ok (.iload 5, 2) := by decide +kernel
theorem dX9_weigh_182 : decode cX9_weigh 182 = .ok (.iload_n 3, 1) := by decide +kernel
theorem dX9_weigh_183 : decode cX9_weigh 183 = .ok (.iastore, 1) := by decide +kernel
theorem dX9_weigh_184 : decode cX9_weigh 184 = .ok (.aload_n 0, 1) := by decide +kernel
theorem dX9_weigh_185 : decode cX9_weigh 185 = .ok (.iload_n 3, 1) := by decide +kernel
theorem dX9_weigh_186 : decode cX9_weigh 186 = .ok (.invokevirtual 132, 3) := by decide +kernel
theorem dX9_weigh_189 : decode cX9_weigh 189 = .ok (.istore 6, 2) := by decide +kernel
theorem dX9_weigh_191 : decode cX9_weigh 191 = .ok (.aload_n 0, 1) := by decide +kernel
theorem dX9_weigh_192 : decode cX9_weigh 192 = .ok (.getfield 45, 3) := by decide +kernel
theorem dX9_weigh_195 : decode cX9_weigh 195 = .ok (.iload 6, 2) := by decide +kernel
theorem dX9_weigh_197 : decode cX9_weigh 197 = .ok (.iload_n 3, 1) := by decide +kernel
theorem dX9_weigh_198 : decode cX9_weigh 198 = .ok (.iastore, 1) := by decide +kernel
theorem dX9_weigh_199 : decode cX9_weigh 199 = .ok (.aload_n 0, 1) := by decide +kernel
theorem dX9_weigh_200 : decode cX9_weigh 200 = .ok (.getfield 42, 3) := by decide +kernel
theorem dX9_weigh_203 : decode cX9_weigh 203 = .ok (.iload_n 3, 1) := by decide +kernel
theorem dX9_weigh_204 : decode cX9_weigh 204 = .ok (.aload_n 0, 1) := by decide +kernel
theorem dX9_weigh_205 : decode cX9_weigh 205 = .ok (.getfield 42, 3) := by decide +kernel
theorem dX9_weigh_208 : decode cX9_weigh 208 = .ok (.iload 5, 2) := by decide +kernel
theorem dX9_weigh_210 : decode cX9_weigh 210 = .ok (.iaload, 1) := by decide +kernel
theorem dX9_weigh_211 : decode cX9_weigh 211 = .ok (.aload_n 0, 1) := by decide +kernel
theorem dX9_weigh_212 : decode cX9_weigh 212 = .ok (.getfield 42, 3) := by decide +kernel
theorem dX9_weigh_215 : decode cX9_weigh 215 = .ok (.iload 6, 2) := by decide +kernel
theorem dX9_weigh_217 : decode cX9_weigh 217 = .ok (.iaload, 1) := by decide +kernel
theorem dX9_weigh_218 : decode cX9_weigh 218 = .ok (.iadd, 1) := by decide +kernel
theorem dX9_weigh_219 : decode cX9_weigh 219 = .ok (.iastore, 1) := by decide +kernel
theorem dX9_weigh_220 : decode cX9_weigh 220 = .ok (.aload_n 0, 1) := by decide +kernel
theorem dX9_weigh_221 : decode cX9_weigh 221 = .ok (.getfield 45, 3) := by decide +kernel
theorem dX9_weigh_224 : decode cX9_weigh 224 = .ok (.iload_n 3, 1) := by decide +kernel
theorem dX9_weigh_225 : decode cX9_weigh 225 = .ok (.iconst (-1), 1) := by decide +kernel
theorem dX9_weigh_226 : decode cX9_weigh 226 = .ok (.iastore, 1) := by decide +kernel
theorem dX9_weigh_227 : decode cX9_weigh 227 = .ok (.iinc 3 1, 3) := by decide +kernel
theorem dX9_weigh_230 : decode cX9_weigh 230 = .ok (.iinc 4 1, 3) := by decide +kernel
theorem dX9_weigh_233 : decode cX9_weigh 233 = .ok (.goto (-75), 3) := by decide +kernel
theorem dX9_weigh_236 : decode cX9_weigh 236 = .ok (.iconst 0, 1) := by decide +kernel
theorem dX9_weigh_237 : decode cX9_weigh 237 = .ok (.istore 4, 2) := by decide +kernel
theorem dX9_weigh_239 : decode cX9_weigh 239 = .ok (.iload 4, 2) := by decide +kernel
theorem dX9_weigh_241 : decode cX9_weigh 241 = .ok (.aload_n 0, 1) := by decide +kernel
theorem dX9_weigh_242 : decode cX9_weigh 242 = .ok (.getfield 106, 3) := by decide +kernel
theorem dX9_weigh_245 : decode cX9_weigh 245 = .ok (.iconst 2, 1) := by decide +kernel
theorem dX9_weigh_246 : decode cX9_weigh 246 = .ok (.iadd, 1) := by decide +kernel
theorem dX9_weigh_247 : decode cX9_weigh 247 = .ok (.if_icmp .ge 61, 3) := by decide +kernel
theorem dX9_weigh_250 : decode cX9_weigh 250 = .ok (.iconst 0, 1) := by decide +kernel
theorem dX9_weigh_251 : decode cX9_weigh 251 = .ok (.istore 5, 2) := by decide +kernel
theorem dX9_weigh_253 : decode cX9_weigh 253 = .ok (.aload_n 0, 1) := by decide +kernel
theorem dX9_weigh_254 : decode cX9_weigh 254 = .ok (.getfield 45, 3) := by decide +kernel
theorem dX9_weigh_257 : decode cX9_weigh 257 = .ok (.iload 4, 2) := by decide +kernel
theorem dX9_weigh_259 : decode cX9_weigh 259 = .ok (.iaload, 1) := by decide +kernel
theorem dX9_weigh_260 : decode cX9_weigh 260 = .ok (.istore 6, 2) := by decide +kernel
theorem dX9_weigh_262 : decode cX9_weigh 262 = .ok (.iload 6, 2) := by decide +kernel
theorem dX9_weigh_264 : decode cX9_weigh 264 = .ok (.iconst (-1), 1) := by decide +kernel
theorem dX9_weigh_265 : decode cX9_weigh 265 = .ok (.if_icmp .eq 18, 3) := by decide +kernel
theorem dX9_weigh_268 : decode cX9_weigh 268 = .ok (.iinc 5 1, 3) := by decide +kernel
theorem dX9_weigh_271 : decode cX9_weigh 271 = .ok (.aload_n 0, 1) := by decide +kernel
theorem dX9_weigh_272 : decode cX9_weigh 272 = .ok (.getfield 45, 3) := by decide +kernel
theorem dX9_weigh_275 : decode cX9_weigh 275 = .ok (.iload 6, 2) := by decide +kernel
theorem dX9_weigh_277 : decode cX9_weigh 277 = .ok (.iaload, 1) := by decide +kernel
theorem dX9_weigh_278 : decode cX9_weigh 278 = .ok (.istore 6, 2) := by decide +kernel
theorem dX9_weigh_280 : decode cX9_weigh 280 = .ok (.goto (-18), 3) := by decide +kernel
theorem dX9_weigh_283 : decode cX9_weigh 283 = .ok (.aload_n 0, 1) := by decide +kernel
theorem dX9_weigh_284 : decode cX9_weigh 284 = .ok (.getfield 30, 3) := by decide +kernel
theorem dX9_weigh_287 : decode cX9_weigh 287 = .ok (.sipush 258, 3) := by decide +kernel
theorem dX9_weigh_290 : decode cX9_weigh 290 = .ok (.iconst 3, 1) := by decide +kernel
theorem dX9_weigh_291 : decode cX9_weigh 291 = .ok (.iload_n 1, 1) := by decide +kernel
theorem dX9_weigh_292 : decode cX9_weigh 292 = .ok (.imul, 1) := by decide +kernel
theorem dX9_weigh_293 : decode cX9_weigh 293 = .ok (.iload_n 2, 1) := by decide +kernel
theorem dX9_weigh_294 : decode cX9_weigh 294 = .ok (.iadd, 1) := by decide +kernel
theorem dX9_weigh_295 : decode cX9_weigh 295 = .ok (.imul, 1) := by decide +kernel
theorem dX9_weigh_296 : decode cX9_weigh 296 = .ok (.iload 4, 2) := by decide +kernel
theorem dX9_weigh_298 : decode cX9_weigh 298 = .ok (.iadd, 1) := by decide +kernel
theorem dX9_weigh_299 : decode cX9_weigh 299 = .ok (.iload 5, 2) := by decide +kernel
theorem dX9_weigh_301 : decode cX9_weigh 301 = .ok (.iastore, 1) := by decide +kernel
theorem dX9_weigh_302 : decode cX9_weigh 302 = .ok (.iinc 4 1, 3) := by decide +kernel
theorem dX9_weigh_305 : decode cX9_weigh 305 = .ok (.goto (-66), 3) := by decide +kernel
theorem dX9_weigh_308 : decode cX9_weigh 308 = .ok (.return_, 1) := by decide +kernel
theorem dX9_light_0 : decode cX9_light 0 = .ok (.iconst (-1), 1) := by decide +kernel
theorem dX9_light_1 : decode cX9_light 1 = .ok (.istore_n 2, 1) := by decide +kernel
theorem dX9_light_2 : decode cX9_light 2 = .ok (.iconst 0, 1) := by decide +kernel
theorem dX9_light_3 : decode cX9_light 3 = .ok (.istore_n 3, 1) := by decide +kernel
theorem dX9_light_4 : decode cX9_light 4 = .ok (.iload_n 3, 1) := by decide +kernel
theorem dX9_light_5 : decode cX9_light 5 = .ok (.iload_n 1, 1) := by decide +kernel
theorem dX9_light_6 : decode cX9_light 6 = .ok (.if_icmp .ge 45, 3) := by decide +kernel
theorem dX9_light_9 : decode cX9_light 9 = .ok (.aload_n 0, 1) := by decide +kernel
theorem dX9_light_10 : decode cX9_light 10 = .ok (.getfield 45, 3) := by decide +kernel
theorem dX9_light_13 : decode cX9_light 13 = .ok (.iload_n 3, 1) := by decide +kernel
theorem dX9_light_14 : decode cX9_light 14 = .ok (.iaload, 1) := by decide +kernel
theorem dX9_light_15 : decode cX9_light 15 = .ok (.iconst (-1), 1) := by decide +kernel
theorem dX9_light_16 : decode cX9_light 16 = .ok (.if_icmp .ne 27, 3) := by decide +kernel
theorem dX9_light_19 : decode cX9_light 19 = .ok (.iload_n 2, 1) := by decide +kernel
theorem dX9_light_20 : decode cX9_light 20 = .ok (.iconst (-1), 1) := by decide +kernel
theorem dX9_light_21 : decode cX9_light 21 = .ok (.if_icmp .eq 18, 3) := by decide +kernel
theorem dX9_light_24 : decode cX9_light 24 = .ok (.aload_n 0, 1) := by decide +kernel
theorem dX9_light_25 : decode cX9_light 25 = .ok (.getfield 42, 3) := by decide +kernel
theorem dX9_light_28 : decode cX9_light 28 = .ok (.iload_n 3, 1) := by decide +kernel
theorem dX9_light_29 : decode cX9_light 29 = .ok (.iaload, 1) := by decide +kernel
theorem dX9_light_30 : decode cX9_light 30 = .ok (.aload_n 0, 1) := by decide +kernel
theorem dX9_light_31 : decode cX9_light 31 = .ok (.getfield 42, 3) := by decide +kernel
theorem dX9_light_34 : decode cX9_light 34 = .ok (.iload_n 2, 1) := by decide +kernel
theorem dX9_light_35 : decode cX9_light 35 = .ok (.iaload, 1) := by decide +kernel
theorem dX9_light_36 : decode cX9_light 36 = .ok (.if_icmp .ge 7, 3) := by decide +kernel
theorem dX9_light_39 : decode cX9_light 39 = .ok (.iload_n 3, 1) := by decide +kernel
theorem dX9_light_40 : decode cX9_light 40 = .ok (.goto 4, 3) := by decide +kernel
theorem dX9_light_43 : decode cX9_light 43 = .ok (.iload_n 2, 1) := by decide +kernel
theorem dX9_light_44 : decode cX9_light 44 = .ok (.istore_n 2, 1) := by decide +kernel
theorem dX9_light_45 : decode cX9_light 45 = .ok (.iinc 3 1, 3) := by decide +kernel
theorem dX9_light_48 : decode cX9_light 48 = .ok (.goto (-44), 3) := by decide +kernel
theorem dX9_light_51 : decode cX9_light 51 = .ok (.iload_n 2, 1) := by decide +kernel
theorem dX9_light_52 : decode cX9_light 52 = .ok (.ireturn, 1) := by decide +kernel
theorem dX9_findCodes_0 : decode cX9_findCodes 0 = .ok (.iconst 0, 1) := by decide +kernel
theorem dX9_findCodes_1 : decode cX9_findCodes 1 = .ok (.istore 5, 2) := by decide +kernel
theorem dX9_findCodes_3 : decode cX9_findCodes 3 = .ok (.iconst 0, 1) := by decide +kernel
theorem dX9_findCodes_4 : decode cX9_findCodes 4 = .ok (.istore 6, 2) := by decide +kernel
theorem dX9_findCodes_6 : decode cX9_findCodes 6 = .ok (.iconst 1, 1) := by decide +kernel
theorem dX9_findCodes_7 : decode cX9_findCodes 7 = .ok (.istore 7, 2) := by decide +kernel
theorem dX9_findCodes_9 : decode cX9_findCodes 9 = .ok (.iload 7, 2) := by decide +kernel
theorem dX9_findCodes_11 : decode cX9_findCodes 11 = .ok (.bipush 40, 2) := by decide +kernel
theorem dX9_findCodes_13 : decode cX9_findCodes 13 = .ok (.if_icmp .gt 69, 3) := by decide +kernel
theorem dX9_findCodes_16 : decode cX9_findCodes 16 = .ok (.iconst 0, 1) := by decide +kernel
theorem dX9_findCodes_17 : decode cX9_findCodes 17 = .ok (.istore 8, 2) := by decide +kernel
theorem dX9_findCodes_19 : decode cX9_findCodes 19 = .ok (.iload 8, 2) := by decide +kernel
theorem dX9_findCodes_21 : decode cX9_findCodes 21 = .ok (.iload 4, 2) := by decide +kernel
theorem dX9_findCodes_23 : decode cX9_findCodes 23 = .ok (.if_icmp .ge 53, 3) := by decide +kernel
theorem dX9_findCodes_26 : decode cX9_findCodes 26 = .ok (.aload_n 0, 1) := by decide +kernel
theorem dX9_findCodes_27 : decode cX9_findCodes 27 = .ok (.iload_n 1, 1) := by decide +kernel
theorem dX9_findCodes_28 : decode cX9_findCodes 28 = .ok (.iload 8, 2) := by decide +kernel
theorem dX9_findCodes_30 : decode cX9_findCodes 30 = .ok (.iadd, 1) := by decide +kernel
theorem dX9_findCodes_31 : decode cX9_findCodes 31 = .ok (.iaload, 1) := by decide +kernel
theorem dX9_findCodes_32 : decode cX9_findCodes 32 = .ok (.iload 7, 2) := by decide +kernel
theorem dX9_findCodes_34 : decode cX9_findCodes 34 = .ok (.if_icmp .ne 36, 3) := by decide +kernel
theorem dX9_findCodes_37 : decode cX9_findCodes 37 = .ok (.iload 6, 2) := by decide +kernel
theorem dX9_findCodes_39 : decode cX9_findCodes 39 = .ok (.ifCond .ne 7, 3) := by decide +kernel
theorem dX9_findCodes_42 : decode cX9_findCodes 42 = .ok (.iconst 0, 1) := by decide +kernel
theorem dX9_findCodes_43 : decode cX9_findCodes 43 = .ok (.goto 13, 3) := by decide +kernel
theorem dX9_findCodes_46 : decode cX9_findCodes 46 = .ok (.iload 5, 2) := by decide +kernel
theorem dX9_findCodes_48 : decode cX9_findCodes 48 = .ok (.iconst 1, 1) := by decide +kernel
theorem dX9_findCodes_49 : decode cX9_findCodes 49 = .ok (.iadd, 1) := by decide +kernel
theorem dX9_findCodes_50 : decode cX9_findCodes 50 = .ok (.iload 7, 2) := by decide +kernel
theorem dX9_findCodes_52 : decode cX9_findCodes 52 = .ok (.iload 6, 2) := by decide +kernel
theorem dX9_findCodes_54 : decode cX9_findCodes 54 = .ok (.isub, 1) := by decide +kernel
theorem dX9_findCodes_55 : decode cX9_findCodes 55 = .ok (.ishl, 1) := by decide +kernel
theorem dX9_findCodes_56 : decode cX9_findCodes 56 = .ok (.istore 5, 2) := by decide +kernel
theorem dX9_findCodes_58 : decode cX9_findCodes 58 = .ok (.aload_n 2, 1) := by decide +kernel
theorem dX9_findCodes_59 : decode cX9_findCodes 59 = .ok (.iload_n 3, 1) := by decide +kernel
theorem dX9_findCodes_60 : decode cX9_findCodes 60 = .ok (.iload 8, 2) := by decide +kernel
theorem dX9_findCodes_62 : decode cX9_findCodes 62 = .ok (.iadd, 1) := by decide +kernel
theorem dX9_findCodes_63 : decode cX9_findCodes 63 = .ok (.iload 5, 2) := by decide +kernel
theorem dX9_findCodes_65 : decode cX9_findCodes 65 = .ok (.iastore, 1) := by decide +kernel
theorem dX9_findCodes_66 : decode cX9_findCodes 66 = .ok (.iload 7, 2) := by decide +kernel
theorem dX9_findCodes_68 : decode cX9_findCodes 68 = .ok (.istore 6, 2) := by decide +kernel
theorem dX9_findCodes_70 : decode cX9_findCodes 70 = .ok (.iinc 8 1, 3) := by decide +kernel
theorem dX9_findCodes_73 : decode cX9_findCodes 73 = .ok (.goto (-54), 3) := by decide +kernel
theorem dX9_findCodes_76 : decode cX9_findCodes 76 = .ok (.iinc 7 1, 3) := by decide +kernel
theorem dX9_findCodes_79 : decode cX9_findCodes 79 = .ok (.goto (-70), 3) := by decide +kernel
theorem dX9_findCodes_82 : decode cX9_findCodes 82 = .ok (.return_, 1) := by decide +kernel
set_option maxRecDepth 20000 in
theorem ggX9_told_X9_work : GoodIn wsX9_told wsX9_work := goodIn_r _ [11, 12, 3, 4, 5, 13, 14, 15, 2, 16, 17, 18, 10, 19, 20, 21, 22, 23, 24, 1, 25, 26, 27, 28, 29, 30, 31, 32, 33, 34, 35, 36, 37, 38, 39, 40, 41, 42, 43, 44, 45, 46, 47, 48, 49, 50, 51, 52, 53, 54, 55, 56, 57, 58, 59, 60, 61, 62, 63, 64, 65, 66, 67, 68, 69, 70, 71, 72, 73, 74, 75, 76, 77, 78, 79, 80, 81, 82, 83, 84, 85, 86, 87, 88, 89, 90, 91, 92, 93, 94, 95, 96, 97, 98, 99, 100, 101, 102, 103, 104, 105, 106, 107, 108, 109] (by decide +kernel) (by decide +kernel)
set_option maxRecDepth 20000 in
theorem gX9_told_X9_work : GoodIn wsX9_told (wsV RX9 135 RX9 yX9_work wsX9_work) := goodIn_app (goodIn_of _ (by decide +kernel)) ggX9_told_X9_work
theorem dX9_told_0 : decode cX9_told 0 = .ok (.aload_n 0, 1) := by decide +kernel
theorem dX9_told_1 : decode cX9_told 1 = .ok (.invokevirtual 135, 3) := by decide +kernel
theorem dX9_told_4 : decode cX9_told 4 = .ok (.iload_n 1, 1) := by decide +kernel
theorem dX9_told_5 : decode cX9_told 5 = .ok (.ifCond .ne 10, 3) := by decide +kernel
theorem dX9_told_8 : decode cX9_told 8 = .ok (.aload_n 0, 1) := by decide +kernel
theorem dX9_told_9 : decode cX9_told 9 = .ok (.getfield 70, 3) := by decide +kernel
theorem dX9_told_12 : decode cX9_told 12 = .ok (.goto 65, 3) := by decide +kernel
theorem dX9_told_15 : decode cX9_told 15 = .ok (.iload_n 1, 1) := by decide +kernel
theorem dX9_told_16 : decode cX9_told 16 = .ok (.iconst 1, 1) := by decide +kernel
theorem dX9_told_17 : decode cX9_told 17 = .ok (.if_icmp .ne 10, 3) := by decide +kernel
theorem dX9_told_20 : decode cX9_told 20 = .ok (.aload_n 0, 1) := by decide +kernel
theorem dX9_told_21 : decode cX9_told 21 = .ok (.getfield 106, 3) := by decide +kernel
theorem dX9_told_24 : decode cX9_told 24 = .ok (.goto 53, 3) := by decide +kernel
theorem dX9_told_27 : decode cX9_told 27 = .ok (.iload_n 1, 1) := by decide +kernel
theorem dX9_told_28 : decode cX9_told 28 = .ok (.iconst 2, 1) := by decide +kernel
theorem dX9_told_29 : decode cX9_told 29 = .ok (.if_icmp .ne 10, 3) := by decide +kernel
theorem dX9_told_32 : decode cX9_told 32 = .ok (.aload_n 0, 1) := by decide +kernel
theorem dX9_told_33 : decode cX9_told 33 = .ok (.getfield 86, 3) := by decide +kernel
theorem dX9_told_36 : decode cX9_told 36 = .ok (.goto 41, 3) := by decide +kernel
theorem dX9_told_39 : decode cX9_told 39 = .ok (.iload_n 1, 1) := by decide +kernel
theorem dX9_told_40 : decode cX9_told 40 = .ok (.iconst 3, 1) := by decide +kernel
theorem dX9_told_41 : decode cX9_told 41 = .ok (.if_icmp .ne 10, 3) := by decide +kernel
theorem dX9_told_44 : decode cX9_told 44 = .ok (.aload_n 0, 1) := by decide +kernel
theorem dX9_told_45 : decode cX9_told 45 = .ok (.getfield 89, 3) := by decide +kernel
theorem dX9_told_48 : decode cX9_told 48 = .ok (.goto 29, 3) := by decide +kernel
theorem dX9_told_51 : decode cX9_told 51 = .ok (.iload_n 1, 1) := by decide +kernel
theorem dX9_told_52 : decode cX9_told 52 = .ok (.iconst 4, 1) := by decide +kernel
theorem dX9_told_53 : decode cX9_told 53 = .ok (.if_icmp .ne 10, 3) := by decide +kernel
theorem dX9_told_56 : decode cX9_told 56 = .ok (.aload_n 0, 1) := by decide +kernel
theorem dX9_told_57 : decode cX9_told 57 = .ok (.getfield 92, 3) := by decide +kernel
theorem dX9_told_60 : decode cX9_told 60 = .ok (.goto 17, 3) := by decide +kernel
theorem dX9_told_63 : decode cX9_told 63 = .ok (.iload_n 1, 1) := by decide +kernel
theorem dX9_told_64 : decode cX9_told 64 = .ok (.iconst 5, 1) := by decide +kernel
theorem dX9_told_65 : decode cX9_told 65 = .ok (.if_icmp .ne 10, 3) := by decide +kernel
theorem dX9_told_68 : decode cX9_told 68 = .ok (.aload_n 0, 1) := by decide +kernel
theorem dX9_told_69 : decode cX9_told 69 = .ok (.getfield 138, 3) := by decide +kernel
theorem dX9_told_72 : decode cX9_told 72 = .ok (.goto 5, 3) := by decide +kernel
theorem dX9_told_75 : decode cX9_told 75 = .ok (.bipush (-2), 2) := by decide +kernel
theorem dX9_told_77 : decode cX9_told 77 = .ok (.ireturn, 1) := by decide +kernel
set_option maxRecDepth 20000 in
theorem ggX9_at_X9_within : GoodIn wsX9_at wsX9_within := goodIn_r _ [6] (by decide +kernel) (by decide +kernel)
set_option maxRecDepth 20000 in
theorem gX9_at_X9_within : GoodIn wsX9_at (va_wsS RX9 66 yX9_within wsX9_within) := goodIn_app (goodIn_of _ (by decide +kernel)) ggX9_at_X9_within
theorem dX9_at_0 : decode cX9_at 0 = .ok (.iload_n 1, 1) := by decide +kernel
theorem dX9_at_1 : decode cX9_at 1 = .ok (.iconst 0, 1) := by decide +kernel
theorem dX9_at_2 : decode cX9_at 2 = .ok (.aload_n 0, 1) := by decide +kernel
theorem dX9_at_3 : decode cX9_at 3 = .ok (.getfield 70, 3) := by decide +kernel
theorem dX9_at_6 : decode cX9_at 6 = .ok (.iconst 1, 1) := by decide +kernel
theorem dX9_at_7 : decode cX9_at 7 = .ok (.isub, 1) := by decide +kernel
theorem dX9_at_8 : decode cX9_at 8 = .ok (.invokestatic 66, 3) := by decide +kernel
theorem dX9_at_11 : decode cX9_at 11 = .ok (.ifCond .eq 12, 3) := by decide +kernel
theorem dX9_at_14 : decode cX9_at 14 = .ok (.aload_n 0, 1) := by decide +kernel
theorem dX9_at_15 : decode cX9_at 15 = .ok (.getfield 7, 3) := by decide +kernel
theorem dX9_at_18 : decode cX9_at 18 = .ok (.iload_n 1, 1) := by decide +kernel
theorem dX9_at_19 : decode cX9_at 19 = .ok (.iaload, 1) := by decide +kernel
theorem dX9_at_20 : decode cX9_at 20 = .ok (.goto 4, 3) := by decide +kernel
theorem dX9_at_23 : decode cX9_at 23 = .ok (.iconst (-1), 1) := by decide +kernel
theorem dX9_at_24 : decode cX9_at 24 = .ok (.ireturn, 1) := by decide +kernel
set_option maxRecDepth 20000 in
theorem ggX9_map_X9_work : GoodIn wsX9_map wsX9_work := goodIn_r _ [7, 8, 9, 10, 11, 12, 13, 14, 1, 15, 16, 17, 6, 18, 2, 19, 20, 21, 22, 23, 24, 25, 26, 27, 28, 29, 30, 31, 32, 33, 34, 35, 36, 37, 38, 39, 40, 41, 42, 43, 44, 45, 46, 47, 48, 49, 50, 51, 52, 53, 54, 55, 56, 57, 58, 59, 60, 61, 62, 63, 64, 65, 66, 67, 68, 69, 70, 71, 72, 73, 74, 75, 76, 77, 78, 79, 80, 81, 82, 83, 84, 85, 86, 87, 88, 89, 90, 91, 92, 93, 94, 95, 96, 97, 98, 99, 100, 101, 102, 103, 104, 105, 106, 107, 108] (by decide +kernel) (by decide +kernel)
set_option maxRecDepth 20000 in
theorem gX9_map_X9_work : GoodIn wsX9_map (wsV RX9 135 RX9 yX9_work wsX9_work) := goodIn_app (goodIn_of _ (by decide +kernel)) ggX9_map_X9_work
set_option maxRecDepth 20000 in
theorem ggX9_map_X9_within : GoodIn wsX9_map wsX9_within := goodIn_r _ [54] (by decide +kernel) (by decide +kernel)
set_option maxRecDepth 20000 in
theorem gX9_map_X9_within : GoodIn wsX9_map (va_wsS RX9 66 yX9_within wsX9_within) := goodIn_app (goodIn_of _ (by decide +kernel)) ggX9_map_X9_within
theorem dX9_map_0 : decode cX9_map 0 = .ok (.aload_n 0, 1) := by decide +kernel
theorem dX9_map_1 : decode cX9_map 1 = .ok (.invokevirtual 135, 3) := by decide +kernel
theorem dX9_map_4 : decode cX9_map 4 = .ok (.iload_n 1, 1) := by decide +kernel
theorem dX9_map_5 : decode cX9_map 5 = .ok (.iconst 0, 1) := by decide +kernel
theorem dX9_map_6 : decode cX9_map 6 = .ok (.aload_n 0, 1) := by decide +kernel
theorem dX9_map_7 : decode cX9_map 7 = .ok (.getfield 106, 3) := by decide +kernel
theorem dX9_map_10 : decode cX9_map 10 = .ok (.iconst 1, 1) := by decide +kernel
theorem dX9_map_11 : decode cX9_map 11 = .ok (.isub, 1) := by decide +kernel
theorem dX9_map_12 : decode cX9_map 12 = .ok (.invokestatic 66, 3) := by decide +kernel
theorem dX9_map_15 : decode cX9_map 15 = .ok (.ifCond .eq 12, 3) := by decide +kernel
theorem dX9_map_18 : decode cX9_map 18 = .ok (.aload_n 0, 1) := by decide +kernel
theorem dX9_map_19 : decode cX9_map 19 = .ok (.getfield 21, 3) := by decide +kernel
theorem dX9_map_22 : decode cX9_map 22 = .ok (.iload_n 1, 1) := by decide +kernel
theorem dX9_map_23 : decode cX9_map 23 = .ok (.iaload, 1) := by decide +kernel
theorem dX9_map_24 : decode cX9_map 24 = .ok (.goto 4, 3) := by decide +kernel
theorem dX9_map_27 : decode cX9_map 27 = .ok (.iconst (-1), 1) := by decide +kernel
theorem dX9_map_28 : decode cX9_map 28 = .ok (.ireturn, 1) := by decide +kernel
set_option maxRecDepth 20000 in
theorem ggX9_place_X9_work : GoodIn wsX9_place wsX9_work := goodIn_r _ [7, 8, 9, 10, 11, 12, 13, 14, 15, 16, 17, 18, 6, 19, 20, 21, 22, 23, 24, 1, 25, 26, 27, 28, 29, 30, 2, 31, 32, 33, 34, 35, 36, 37, 38, 39, 40, 41, 42, 43, 44, 45, 46, 47, 48, 49, 50, 51, 52, 53, 54, 55, 56, 57, 58, 59, 60, 61, 62, 63, 64, 65, 66, 67, 68, 69, 70, 71, 72, 73, 74, 75, 76, 77, 78, 79, 80, 81, 82, 83, 84, 85, 86, 87, 88, 89, 90, 91, 92, 93, 94, 95, 96, 97, 98, 99, 100, 101, 102, 103, 104, 105, 106, 107, 108] (by decide +kernel) (by decide +kernel)
set_option maxRecDepth 20000 in
theorem gX9_place_X9_work : GoodIn wsX9_place (wsV RX9 135 RX9 yX9_work wsX9_work) := goodIn_app (goodIn_of _ (by decide +kernel)) ggX9_place_X9_work
set_option maxRecDepth 20000 in
theorem ggX9_place_X9_within : GoodIn wsX9_place wsX9_within := goodIn_r _ [54] (by decide +kernel) (by decide +kernel)
set_option maxRecDepth 20000 in
theorem gX9_place_X9_within : GoodIn wsX9_place (va_wsS RX9 66 yX9_within wsX9_within) := goodIn_app (goodIn_of _ (by decide +kernel)) ggX9_place_X9_within
theorem dX9_place_0 : decode cX9_place 0 = .ok (.aload_n 0, 1) := by decide +kernel
theorem dX9_place_1 : decode cX9_place 1 = .ok (.invokevirtual 135, 3) := by decide +kernel
theorem dX9_place_4 : decode cX9_place 4 = .ok (.iload_n 1, 1) := by decide +kernel
theorem dX9_place_5 : decode cX9_place 5 = .ok (.iconst 0, 1) := by decide +kernel
theorem dX9_place_6 : decode cX9_place 6 = .ok (.aload_n 0, 1) := by decide +kernel
theorem dX9_place_7 : decode cX9_place 7 = .ok (.getfield 70, 3) := by decide +kernel
theorem dX9_place_10 : decode cX9_place 10 = .ok (.iconst 1, 1) := by decide +kernel
theorem dX9_place_11 : decode cX9_place 11 = .ok (.isub, 1) := by decide +kernel
theorem dX9_place_12 : decode cX9_place 12 = .ok (.invokestatic 66, 3) := by decide +kernel
theorem dX9_place_15 : decode cX9_place 15 = .ok (.ifCond .eq 12, 3) := by decide +kernel
theorem dX9_place_18 : decode cX9_place 18 = .ok (.aload_n 0, 1) := by decide +kernel
theorem dX9_place_19 : decode cX9_place 19 = .ok (.getfield 24, 3) := by decide +kernel
theorem dX9_place_22 : decode cX9_place 22 = .ok (.iload_n 1, 1) := by decide +kernel
theorem dX9_place_23 : decode cX9_place 23 = .ok (.iaload, 1) := by decide +kernel
theorem dX9_place_24 : decode cX9_place 24 = .ok (.goto 4, 3) := by decide +kernel
theorem dX9_place_27 : decode cX9_place 27 = .ok (.iconst (-1), 1) := by decide +kernel
theorem dX9_place_28 : decode cX9_place 28 = .ok (.ireturn, 1) := by decide +kernel
set_option maxRecDepth 20000 in
theorem ggX9_symbol_X9_work : GoodIn wsX9_symbol wsX9_work := goodIn_r _ [7, 8, 1, 9, 10, 11, 12, 13, 14, 15, 16, 17, 6, 18, 19, 20, 21, 22, 23, 24, 25, 26, 27, 28, 29, 30, 31, 32, 33, 34, 35, 36, 37, 38, 39, 2, 40, 41, 42, 43, 44, 45, 46, 47, 48, 49, 50, 51, 52, 53, 54, 55, 56, 57, 58, 59, 60, 61, 62, 63, 64, 65, 66, 67, 68, 69, 70, 71, 72, 73, 74, 75, 76, 77, 78, 79, 80, 81, 82, 83, 84, 85, 86, 87, 88, 89, 90, 91, 92, 93, 94, 95, 96, 97, 98, 99, 100, 101, 102, 103, 104, 105, 106, 107, 108] (by decide +kernel) (by decide +kernel)
set_option maxRecDepth 20000 in
theorem gX9_symbol_X9_work : GoodIn wsX9_symbol (wsV RX9 135 RX9 yX9_work wsX9_work) := goodIn_app (goodIn_of _ (by decide +kernel)) ggX9_symbol_X9_work
set_option maxRecDepth 20000 in
theorem ggX9_symbol_X9_within : GoodIn wsX9_symbol wsX9_within := goodIn_r _ [54] (by decide +kernel) (by decide +kernel)
set_option maxRecDepth 20000 in
theorem gX9_symbol_X9_within : GoodIn wsX9_symbol (va_wsS RX9 66 yX9_within wsX9_within) := goodIn_app (goodIn_of _ (by decide +kernel)) ggX9_symbol_X9_within
theorem dX9_symbol_0 : decode cX9_symbol 0 = .ok (.aload_n 0, 1) := by decide +kernel
theorem dX9_symbol_1 : decode cX9_symbol 1 = .ok (.invokevirtual 135, 3) := by decide +kernel
theorem dX9_symbol_4 : decode cX9_symbol 4 = .ok (.iload_n 1, 1) := by decide +kernel
theorem dX9_symbol_5 : decode cX9_symbol 5 = .ok (.iconst 0, 1) := by decide +kernel
theorem dX9_symbol_6 : decode cX9_symbol 6 = .ok (.aload_n 0, 1) := by decide +kernel
theorem dX9_symbol_7 : decode cX9_symbol 7 = .ok (.getfield 86, 3) := by decide +kernel
theorem dX9_symbol_10 : decode cX9_symbol 10 = .ok (.iconst 1, 1) := by decide +kernel
theorem dX9_symbol_11 : decode cX9_symbol 11 = .ok (.isub, 1) := by decide +kernel
theorem dX9_symbol_12 : decode cX9_symbol 12 = .ok (.invokestatic 66, 3) := by decide +kernel
theorem dX9_symbol_15 : decode cX9_symbol 15 = .ok (.ifCond .eq 12, 3) := by decide +kernel
theorem dX9_symbol_18 : decode cX9_symbol 18 = .ok (.aload_n 0, 1) := by decide +kernel
theorem dX9_symbol_19 : decode cX9_symbol 19 = .ok (.getfield 27, 3) := by decide +kernel
theorem dX9_symbol_22 : decode cX9_symbol 22 = .ok (.iload_n 1, 1) := by decide +kernel
theorem dX9_symbol_23 : decode cX9_symbol 23 = .ok (.iaload, 1) := by decide +kernel
theorem dX9_symbol_24 : decode cX9_symbol 24 = .ok (.goto 4, 3) := by decide +kernel
theorem dX9_symbol_27 : decode cX9_symbol 27 = .ok (.iconst (-1), 1) := by decide +kernel
theorem dX9_symbol_28 : decode cX9_symbol 28 = .ok (.ireturn, 1) := by decide +kernel
set_option maxRecDepth 20000 in
theorem ggX9_taken_X9_within : GoodIn wsX9_taken wsX9_within := goodIn_r _ [6] (by decide +kernel) (by decide +kernel)
set_option maxRecDepth 20000 in
theorem gX9_taken_X9_within : GoodIn wsX9_taken (va_wsS RX9 66 yX9_within wsX9_within) := goodIn_app (goodIn_of _ (by decide +kernel)) ggX9_taken_X9_within
set_option maxRecDepth 20000 in
theorem ggX9_taken_X9_work : GoodIn wsX9_taken wsX9_work := goodIn_r _ [10, 11, 12, 1, 13, 2, 14, 15, 16, 17, 18, 19, 5, 20, 21, 22, 23, 24, 25, 26, 27, 28, 29, 30, 31, 32, 33, 34, 35, 36, 37, 38, 39, 40, 41, 42, 43, 44, 45, 46, 47, 48, 49, 50, 51, 52, 53, 54, 3, 4, 6, 55, 56, 57, 58, 59, 60, 61, 62, 63, 64, 65, 66, 67, 68, 69, 70, 71, 72, 73, 74, 75, 76, 77, 78, 79, 80, 81, 82, 83, 84, 85, 86, 87, 88, 89, 90, 91, 92, 93, 94, 95, 96, 97, 98, 99, 100, 101, 102, 103, 104, 105, 106, 107, 108] (by decide +kernel) (by decide +kernel)
set_option maxRecDepth 20000 in
theorem gX9_taken_X9_work : GoodIn wsX9_taken (wsV RX9 135 RX9 yX9_work wsX9_work) := goodIn_app (goodIn_of _ (by decide +kernel)) ggX9_taken_X9_work
theorem dX9_taken_0 : decode cX9_taken 0 = .ok (.iload_n 1, 1) := by decide +kernel
theorem dX9_taken_1 : decode cX9_taken 1 = .ok (.iconst 1, 1) := by decide +kernel
theorem dX9_taken_2 : decode cX9_taken 2 = .ok (.iconst 4, 1) := by decide +kernel
theorem dX9_taken_3 : decode cX9_taken 3 = .ok (.invokestatic 66, 3) := by decide +kernel
theorem dX9_taken_6 : decode cX9_taken 6 = .ok (.ifCond .ne 6, 3) := by decide +kernel
theorem dX9_taken_9 : decode cX9_taken 9 = .ok (.bipush (-2), 2) := by decide +kernel
theorem dX9_taken_11 : decode cX9_taken 11 = .ok (.ireturn, 1) := by decide +kernel
theorem dX9_taken_12 : decode cX9_taken 12 = .ok (.aload_n 0, 1) := by decide +kernel
theorem dX9_taken_13 : decode cX9_taken 13 = .ok (.invokevirtual 135, 3) := by decide +kernel
theorem dX9_taken_16 : decode cX9_taken 16 = .ok (.iload_n 2, 1) := by decide +kernel
theorem dX9_taken_17 : decode cX9_taken 17 = .ok (.iconst 0, 1) := by decide +kernel
theorem dX9_taken_18 : decode cX9_taken 18 = .ok (.aload_n 0, 1) := by decide +kernel
theorem dX9_taken_19 : decode cX9_taken 19 = .ok (.getfield 89, 3) := by decide +kernel
theorem dX9_taken_22 : decode cX9_taken 22 = .ok (.iconst 1, 1) := by decide +kernel
theorem dX9_taken_23 : decode cX9_taken 23 = .ok (.isub, 1) := by decide +kernel
theorem dX9_taken_24 : decode cX9_taken 24 = .ok (.invokestatic 66, 3) := by decide +kernel
theorem dX9_taken_27 : decode cX9_taken 27 = .ok (.ifCond .eq 17, 3) := by decide +kernel
theorem dX9_taken_30 : decode cX9_taken 30 = .ok (.aload_n 0, 1) := by decide +kernel
theorem dX9_taken_31 : decode cX9_taken 31 = .ok (.getfield 33, 3) := by decide +kernel
theorem dX9_taken_34 : decode cX9_taken 34 = .ok (.bipush 31, 2) := by decide +kernel
theorem dX9_taken_36 : decode cX9_taken 36 = .ok (.iload_n 1, 1) := by decide +kernel
theorem dX9_taken_37 : decode cX9_taken 37 = .ok (.imul, 1) := by decide +kernel
theorem dX9_taken_38 : decode cX9_taken 38 = .ok (.iload_n 2, 1) := by decide +kernel
theorem dX9_taken_39 : decode cX9_taken 39 = .ok (.iadd, 1) := by decide +kernel
theorem dX9_taken_40 : decode cX9_taken 40 = .ok (.iaload, 1) := by decide +kernel
theorem dX9_taken_41 : decode cX9_taken 41 = .ok (.goto 4, 3) := by decide +kernel
theorem dX9_taken_44 : decode cX9_taken 44 = .ok (.iconst (-1), 1) := by decide +kernel
theorem dX9_taken_45 : decode cX9_taken 45 = .ok (.ireturn, 1) := by decide +kernel
set_option maxRecDepth 20000 in
theorem ggX9_isKind_X9_within : GoodIn wsX9_isKind wsX9_within := goodIn_r _ [6] (by decide +kernel) (by decide +kernel)
set_option maxRecDepth 20000 in
theorem gX9_isKind_X9_within : GoodIn wsX9_isKind (va_wsS RX9 66 yX9_within wsX9_within) := goodIn_app (goodIn_of _ (by decide +kernel)) ggX9_isKind_X9_within
theorem dX9_isKind_0 : decode cX9_isKind 0 = .ok (.iload_n 1, 1) := by decide +kernel
theorem dX9_isKind_1 : decode cX9_isKind 1 = .ok (.iconst 0, 1) := by decide +kernel
theorem dX9_isKind_2 : decode cX9_isKind 2 = .ok (.aload_n 0, 1) := by decide +kernel
theorem dX9_isKind_3 : decode cX9_isKind 3 = .ok (.getfield 92, 3) := by decide +kernel
theorem dX9_isKind_6 : decode cX9_isKind 6 = .ok (.iconst 1, 1) := by decide +kernel
theorem dX9_isKind_7 : decode cX9_isKind 7 = .ok (.isub, 1) := by decide +kernel
theorem dX9_isKind_8 : decode cX9_isKind 8 = .ok (.invokestatic 66, 3) := by decide +kernel
theorem dX9_isKind_11 : decode cX9_isKind 11 = .ok (.ifCond .eq 21, 3) := by decide +kernel
theorem dX9_isKind_14 : decode cX9_isKind 14 = .ok (.iload_n 2, 1) := by decide +kernel
theorem dX9_isKind_15 : decode cX9_isKind 15 = .ok (.iconst 0, 1) := by decide +kernel
theorem dX9_isKind_16 : decode cX9_isKind 16 = .ok (.aload_n 0, 1) := by decide +kernel
theorem dX9_isKind_17 : decode cX9_isKind 17 = .ok (.getfield 106, 3) := by decide +kernel
theorem dX9_isKind_20 : decode cX9_isKind 20 = .ok (.iconst 1, 1) := by decide +kernel
theorem dX9_isKind_21 : decode cX9_isKind 21 = .ok (.iadd, 1) := by decide +kernel
theorem dX9_isKind_22 : decode cX9_isKind 22 = .ok (.invokestatic 66, 3) := by decide +kernel
theorem dX9_isKind_25 : decode cX9_isKind 25 = .ok (.ifCond .eq 7, 3) := by decide +kernel
theorem dX9_isKind_28 : decode cX9_isKind 28 = .ok (.iconst 1, 1) := by decide +kernel
theorem dX9_isKind_29 : decode cX9_isKind 29 = .ok (.goto 4, 3) := by decide +kernel
theorem dX9_isKind_32 : decode cX9_isKind 32 = .ok (.iconst 0, 1) := by decide +kernel
theorem dX9_isKind_33 : decode cX9_isKind 33 = .ok (.ireturn, 1) := by decide +kernel
set_option maxRecDepth 20000 in
theorem ggX9_length_X9_within : GoodIn wsX9_length wsX9_within := goodIn_r _ [5] (by decide +kernel) (by decide +kernel)
set_option maxRecDepth 20000 in
theorem gX9_length_X9_within : GoodIn wsX9_length (va_wsS RX9 66 yX9_within wsX9_within) := goodIn_app (goodIn_of _ (by decide +kernel)) ggX9_length_X9_within
set_option maxRecDepth 20000 in
theorem ggX9_length_X9_work : GoodIn wsX9_length wsX9_work := goodIn_r _ [9, 10, 11, 12, 13, 14, 1, 15, 16, 17, 18, 19, 4, 20, 21, 22, 23, 24, 25, 26, 27, 28, 29, 30, 31, 32, 33, 34, 35, 36, 37, 38, 39, 40, 41, 42, 43, 44, 45, 46, 47, 48, 49, 50, 51, 52, 53, 54, 2, 3, 5, 55, 56, 57, 58, 59, 60, 61, 62, 63, 64, 65, 66, 67, 68, 69, 70, 71, 72, 73, 74, 75, 80, 81, 82, 83, 84, 85, 86, 87, 88, 89, 90, 91, 92, 93, 94, 95, 96, 97, 98, 99, 100, 101, 102, 103, 104, 105, 106, 107, 108, 109, 110, 111, 112] (by decide +kernel) (by decide +kernel)
set_option maxRecDepth 20000 in
theorem gX9_length_X9_work : GoodIn wsX9_length (wsV RX9 135 RX9 yX9_work wsX9_work) := goodIn_app (goodIn_of _ (by decide +kernel)) ggX9_length_X9_work
set_option maxRecDepth 20000 in
theorem ggX9_length_X9_isKind : GoodIn wsX9_length wsX9_isKind := goodIn_r _ [79, 13, 16, 2, 3, 4, 5, 80, 81, 82, 83, 84, 85, 86, 87, 88, 89, 90, 91, 92, 93, 94, 95, 96, 97, 98, 99, 100, 101, 102, 103, 104, 105, 106, 107, 108, 109, 110, 111, 112] (by decide +kernel) (by decide +kernel)
set_option maxRecDepth 20000 in
theorem gX9_length_X9_isKind : GoodIn wsX9_length (wsV RX9 141 RX9 yX9_isKind wsX9_isKind) := goodIn_app (goodIn_of _ (by decide +kernel)) ggX9_length_X9_isKind
theorem dX9_length_0 : decode cX9_length 0 = .ok (.iload_n 1, 1) := by decide +kernel
theorem dX9_length_1 : decode cX9_length 1 = .ok (.iconst 0, 1) := by decide +kernel
theorem dX9_length_2 : decode cX9_length 2 = .ok (.iconst 4, 1) := by decide +kernel
theorem dX9_length_3 : decode cX9_length 3 = .ok (.invokestatic 66, 3) := by decide +kernel
theorem dX9_length_6 : decode cX9_length 6 = .ok (.ifCond .ne 6, 3) := by decide +kernel
theorem dX9_length_9 : decode cX9_length 9 = .ok (.bipush (-2), 2) := by decide +kernel
theorem dX9_length_11 : decode cX9_length 11 = .ok (.ireturn, 1) := by decide +kernel
theorem dX9_length_12 : decode cX9_length 12 = .ok (.aload_n 0, 1) := by decide +kernel
theorem dX9_length_13 : decode cX9_length 13 = .ok (.invokevirtual 135, 3) := by decide +kernel
theorem dX9_length_16 : decode cX9_length 16 = .ok (.aload_n 0, 1) := by decide +kernel
theorem dX9_length_17 : decode cX9_length 17 = .ok (.iload_n 2, 1) := by decide +kernel
theorem dX9_length_18 : decode cX9_length 18 = .ok (.iload_n 3, 1) := by decide +kernel
theorem dX9_length_19 : decode cX9_length 19 = .ok (.invokevirtual 141, 3) := by decide +kernel
theorem dX9_length_22 : decode cX9_length 22 = .ok (.ifCond .eq 22, 3) := by decide +kernel
theorem dX9_length_25 : decode cX9_length 25 = .ok (.aload_n 0, 1) := by decide +kernel
theorem dX9_length_26 : decode cX9_length 26 = .ok (.getfield 30, 3) := by decide +kernel
theorem dX9_length_29 : decode cX9_length 29 = .ok (.sipush 258, 3) := by decide +kernel
theorem dX9_length_32 : decode cX9_length 32 = .ok (.iconst 3, 1) := by decide +kernel
theorem dX9_length_33 : decode cX9_length 33 = .ok (.iload_n 1, 1) := by decide +kernel
theorem dX9_length_34 : decode cX9_length 34 = .ok (.imul, 1) := by decide +kernel
theorem dX9_length_35 : decode cX9_length 35 = .ok (.iload_n 2, 1) := by decide +kernel
theorem dX9_length_36 : decode cX9_length 36 = .ok (.iadd, 1) := by decide +kernel
theorem dX9_length_37 : decode cX9_length 37 = .ok (.imul, 1) := by decide +kernel
theorem dX9_length_38 : decode cX9_length 38 = .ok (.iload_n 3, 1) := by decide +kernel
theorem dX9_length_39 : decode cX9_length 39 = .ok (.iadd, 1) := by decide +kernel
theorem dX9_length_40 : decode cX9_length 40 = .ok (.iaload, 1) := by decide +kernel
theorem dX9_length_41 : decode cX9_length 41 = .ok (.goto 4, 3) := by decide +kernel
theorem dX9_length_44 : decode cX9_length 44 = .ok (.iconst (-1), 1) := by decide +kernel
theorem dX9_length_45 : decode cX9_length 45 = .ok (.ireturn, 1) := by decide +kernel
set_option maxRecDepth 20000 in
theorem ggX9_code_X9_work : GoodIn wsX9_code wsX9_work := goodIn_r _ [6, 7, 8, 9, 10, 11, 12, 1, 13, 14, 15, 16, 5, 17, 18, 19, 20, 21, 22, 23, 24, 25, 26, 27, 28, 29, 30, 31, 32, 33, 34, 35, 36, 37, 38, 39, 40, 41, 42, 43, 44, 45, 46, 47, 48, 49, 50, 51, 52, 53, 54, 55, 56, 57, 58, 59, 60, 61, 62, 63, 64, 65, 66, 67, 68, 69, 70, 71, 72, 73, 74, 75, 80, 81, 82, 83, 84, 85, 86, 87, 88, 89, 90, 91, 92, 93, 94, 95, 96, 97, 98, 99, 100, 101, 102, 103, 104, 105, 106, 107, 108, 109, 110, 111, 112] (by decide +kernel) (by decide +kernel)
set_option maxRecDepth 20000 in
theorem gX9_code_X9_work : GoodIn wsX9_code (wsV RX9 135 RX9 yX9_work wsX9_work) := goodIn_app (goodIn_of _ (by decide +kernel)) ggX9_code_X9_work
set_option maxRecDepth 20000 in
theorem ggX9_code_X9_isKind : GoodIn wsX9_code wsX9_isKind := goodIn_r _ [79, 10, 13, 52, 53, 5, 54, 80, 81, 82, 83, 84, 85, 86, 87, 88, 89, 90, 91, 92, 93, 94, 95, 96, 97, 98, 99, 100, 101, 102, 103, 104, 105, 106, 107, 108, 109, 110, 111, 112] (by decide +kernel) (by decide +kernel)
set_option maxRecDepth 20000 in
theorem gX9_code_X9_isKind : GoodIn wsX9_code (wsV RX9 141 RX9 yX9_isKind wsX9_isKind) := goodIn_app (goodIn_of _ (by decide +kernel)) ggX9_code_X9_isKind
theorem dX9_code_0 : decode cX9_code 0 = .ok (.aload_n 0, 1) := by decide +kernel
theorem dX9_code_1 : decode cX9_code 1 = .ok (.invokevirtual 135, 3) := by decide +kernel
theorem dX9_code_4 : decode cX9_code 4 = .ok (.aload_n 0, 1) := by decide +kernel
theorem dX9_code_5 : decode cX9_code 5 = .ok (.iload_n 1, 1) := by decide +kernel
theorem dX9_code_6 : decode cX9_code 6 = .ok (.iload_n 2, 1) := by decide +kernel
theorem dX9_code_7 : decode cX9_code 7 = .ok (.invokevirtual 141, 3) := by decide +kernel
theorem dX9_code_10 : decode cX9_code 10 = .ok (.ifCond .eq 18, 3) := by decide +kernel
theorem dX9_code_13 : decode cX9_code 13 = .ok (.aload_n 0, 1) := by decide +kernel
theorem dX9_code_14 : decode cX9_code 14 = .ok (.getfield 36, 3) := by decide +kernel
theorem dX9_code_17 : decode cX9_code 17 = .ok (.sipush 258, 3) := by decide +kernel
theorem dX9_code_20 : decode cX9_code 20 = .ok (.iload_n 1, 1) := by decide +kernel
theorem dX9_code_21 : decode cX9_code 21 = .ok (.imul, 1) := by decide +kernel
theorem dX9_code_22 : decode cX9_code 22 = .ok (.iload_n 2, 1) := by decide +kernel
theorem dX9_code_23 : decode cX9_code 23 = .ok (.iadd, 1) := by decide +kernel
theorem dX9_code_24 : decode cX9_code 24 = .ok (.iaload, 1) := by decide +kernel
theorem dX9_code_25 : decode cX9_code 25 = .ok (.goto 4, 3) := by decide +kernel
theorem dX9_code_28 : decode cX9_code 28 = .ok (.iconst (-1), 1) := by decide +kernel
theorem dX9_code_29 : decode cX9_code 29 = .ok (.ireturn, 1) := by decide +kernel
theorem dX9_put_0 : decode cX9_put 0 = .ok (.iload_n 2, 1) := by decide +kernel
theorem dX9_put_1 : decode cX9_put 1 = .ok (.iconst 1, 1) := by decide +kernel
theorem dX9_put_2 : decode cX9_put 2 = .ok (.isub, 1) := by decide +kernel
theorem dX9_put_3 : decode cX9_put 3 = .ok (.istore_n 3, 1) := by decide +kernel
theorem dX9_put_4 : decode cX9_put 4 = .ok (.iload_n 3, 1) := by decide +kernel
theorem dX9_put_5 : decode cX9_put 5 = .ok (.ifCond .lt 49, 3) := by decide +kernel
theorem dX9_put_8 : decode cX9_put 8 = .ok (.aload_n 0, 1) := by decide +kernel
theorem dX9_put_9 : decode cX9_put 9 = .ok (.getfield 145, 3) := by decide +kernel
theorem dX9_put_12 : decode cX9_put 12 = .ok (.ifCond .eq 26, 3) := by decide +kernel
theorem dX9_put_15 : decode cX9_put 15 = .ok (.aload_n 0, 1) := by decide +kernel
theorem dX9_put_16 : decode cX9_put 16 = .ok (.getfield 13, 3) := by decide +kernel
theorem dX9_put_19 : decode cX9_put 19 = .ok (.aload_n 0, 1) := by decide +kernel
theorem dX9_put_20 : decode cX9_put 20 = .ok (.getfield 148, 3) := by decide +kernel
theorem dX9_put_23 : decode cX9_put 23 = .ok (.iload_n 1, 1) := by decide +kernel
theorem dX9_put_24 : decode cX9_put 24 = .ok (.iload_n 3, 1) := by decide +kernel
theorem dX9_put_25 : decode cX9_put 25 = .ok (.ishr, 1) := by decide +kernel
theorem dX9_put_26 : decode cX9_put 26 = .ok (.iconst 1, 1) := by decide +kernel
theorem dX9_put_27 : decode cX9_put 27 = .ok (.iand, 1) := by decide +kernel
theorem dX9_put_28 : decode cX9_put 28 = .ok (.iconst 1, 1) := by decide +kernel
theorem dX9_put_29 : decode cX9_put 29 = .ok (.if_icmp .ne 7, 3) := by decide +kernel
theorem dX9_put_32 : decode cX9_put 32 = .ok (.iconst 1, 1) := by decide +kernel
