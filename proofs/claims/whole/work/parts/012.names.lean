set_option maxRecDepth 20000 in
theorem ggX3_init_X5_init : GoodIn wsX3_init wsX5_init := goodIn_r _ [29, 30, 2, 3, 19, 31, 32, 63, 64] (by decide +kernel) (by decide +kernel)
set_option maxRecDepth 20000 in
theorem gX3_init_X5_init : GoodIn wsX3_init (wsX5_init) := ggX3_init_X5_init
set_option maxRecDepth 20000 in
theorem ggX3_init_X1_init : GoodIn wsX3_init wsX1_init := goodIn_r _ [35, 36, 2, 3, 19, 37, 38, 65, 66] (by decide +kernel) (by decide +kernel)
set_option maxRecDepth 20000 in
theorem gX3_init_X1_init : GoodIn wsX3_init (wsX1_init) := ggX3_init_X1_init
set_option maxRecDepth 20000 in
theorem ggX3_init_X0_init : GoodIn wsX3_init wsX0_init := goodIn_r _ [41, 42, 2, 3, 43, 19, 44, 45, 46, 47, 48, 49, 67, 68, 69, 70, 71, 72, 73] (by decide +kernel) (by decide +kernel)
set_option maxRecDepth 20000 in
theorem gX3_init_X0_init : GoodIn wsX3_init (wsX0_init) := ggX3_init_X0_init
theorem dX3_init_0 : decode cX3_init 0 = .ok (.aload_n 0, 1) := by decide +kernel
theorem dX3_init_1 : decode cX3_init 1 = .ok (.invokespecial 3, 3) := by decide +kernel
theorem dX3_init_4 : decode cX3_init 4 = .ok (.aload_n 0, 1) := by decide +kernel
theorem dX3_init_5 : decode cX3_init 5 = .ok (.aload_n 1, 1) := by decide +kernel
theorem dX3_init_6 : decode cX3_init 6 = .ok (.putfield 9, 3) := by decide +kernel
theorem dX3_init_9 : decode cX3_init 9 = .ok (.aload_n 0, 1) := by decide +kernel
theorem dX3_init_10 : decode cX3_init 10 = .ok (.new 15, 3) := by decide +kernel
theorem dX3_init_13 : decode cX3_init 13 = .ok (.dup, 1) := by decide +kernel
theorem dX3_init_14 : decode cX3_init 14 = .ok (.sipush 300, 3) := by decide +kernel
theorem dX3_init_17 : decode cX3_init 17 = .ok (.invokespecial 17, 3) := by decide +kernel
theorem dX3_init_20 : decode cX3_init 20 = .ok (.putfield 20, 3) := by decide +kernel
theorem dX3_init_23 : decode cX3_init 23 = .ok (.aload_n 0, 1) := by decide +kernel
theorem dX3_init_24 : decode cX3_init 24 = .ok (.new 15, 3) := by decide +kernel
theorem dX3_init_27 : decode cX3_init 27 = .ok (.dup, 1) := by decide +kernel
theorem dX3_init_28 : decode cX3_init 28 = .ok (.bipush 31, 2) := by decide +kernel
theorem dX3_init_30 : decode cX3_init 30 = .ok (.invokespecial 17, 3) := by decide +kernel
theorem dX3_init_33 : decode cX3_init 33 = .ok (.putfield 23, 3) := by decide +kernel
theorem dX3_init_36 : decode cX3_init 36 = .ok (.aload_n 0, 1) := by decide +kernel
theorem dX3_init_37 : decode cX3_init 37 = .ok (.new 26, 3) := by decide +kernel
theorem dX3_init_40 : decode cX3_init 40 = .ok (.dup, 1) := by decide +kernel
theorem dX3_init_41 : decode cX3_init 41 = .ok (.sipush 256, 3) := by decide +kernel
theorem dX3_init_44 : decode cX3_init 44 = .ok (.invokespecial 28, 3) := by decide +kernel
theorem dX3_init_47 : decode cX3_init 47 = .ok (.putfield 29, 3) := by decide +kernel
theorem dX3_init_50 : decode cX3_init 50 = .ok (.aload_n 0, 1) := by decide +kernel
theorem dX3_init_51 : decode cX3_init 51 = .ok (.new 26, 3) := by decide +kernel
theorem dX3_init_54 : decode cX3_init 54 = .ok (.dup, 1) := by decide +kernel
theorem dX3_init_55 : decode cX3_init 55 = .ok (.iconst 3, 1) := by decide +kernel
theorem dX3_init_56 : decode cX3_init 56 = .ok (.invokespecial 28, 3) := by decide +kernel
theorem dX3_init_59 : decode cX3_init 59 = .ok (.putfield 33, 3) := by decide +kernel
theorem dX3_init_62 : decode cX3_init 62 = .ok (.aload_n 0, 1) := by decide +kernel
theorem dX3_init_63 : decode cX3_init 63 = .ok (.iconst 3, 1) := by decide +kernel
theorem dX3_init_64 : decode cX3_init 64 = .ok (.anewarray 36, 3) := by decide +kernel
theorem dX3_init_67 : decode cX3_init 67 = .ok (.putfield 38, 3) := by decide +kernel
theorem dX3_init_70 : decode cX3_init 70 = .ok (.iconst 0, 1) := by decide +kernel
theorem dX3_init_71 : decode cX3_init 71 = .ok (.istore_n 2, 1) := by decide +kernel
theorem dX3_init_72 : decode cX3_init 72 = .ok (.iload_n 2, 1) := by decide +kernel
theorem dX3_init_73 : decode cX3_init 73 = .ok (.iconst 3, 1) := by decide +kernel
theorem dX3_init_74 : decode cX3_init 74 = .ok (.if_icmp .ge 27, 3) := by decide +kernel
theorem dX3_init_77 : decode cX3_init 77 = .ok (.aload_n 0, 1) := by decide +kernel
theorem dX3_init_78 : decode cX3_init 78 = .ok (.getfield 38, 3) := by decide +kernel
theorem dX3_init_81 : decode cX3_init 81 = .ok (.iload_n 2, 1) := by decide +kernel
theorem dX3_init_82 : decode cX3_init 82 = .ok (.new 36, 3) := by decide +kernel
theorem dX3_init_85 : decode cX3_init 85 = .ok (.dup, 1) := by decide +kernel
theorem dX3_init_86 : decode cX3_init 86 = .ok (.sipush 258, 3) := by decide +kernel
theorem dX3_init_89 : decode cX3_init 89 = .ok (.newarray .int, 2) := by decide +kernel
theorem dX3_init_91 : decode cX3_init 91 = .ok (.invokespecial 42, 3) := by decide +kernel
theorem dX3_init_94 : decode cX3_init 94 = .ok (.aastore, 1) := by decide +kernel
theorem dX3_init_95 : decode cX3_init 95 = .ok (.iinc 2 1, 3) := by decide +kernel
theorem dX3_init_98 : decode cX3_init 98 = .ok (.goto (-26), 3) := by decide +kernel
theorem dX3_init_101 : decode cX3_init 101 = .ok (.aload_n 0, 1) := by decide +kernel
theorem dX3_init_102 : decode cX3_init 102 = .ok (.iconst 0, 1) := by decide +kernel
theorem dX3_init_103 : decode cX3_init 103 = .ok (.putfield 45, 3) := by decide +kernel
theorem dX3_init_106 : decode cX3_init 106 = .ok (.aload_n 0, 1) := by decide +kernel
theorem dX3_init_107 : decode cX3_init 107 = .ok (.iconst 0, 1) := by decide +kernel
theorem dX3_init_108 : decode cX3_init 108 = .ok (.putfield 49, 3) := by decide +kernel
theorem dX3_init_111 : decode cX3_init 111 = .ok (.aload_n 0, 1) := by decide +kernel
theorem dX3_init_112 : decode cX3_init 112 = .ok (.iconst 0, 1) := by decide +kernel
theorem dX3_init_113 : decode cX3_init 113 = .ok (.putfield 52, 3) := by decide +kernel
theorem dX3_init_116 : decode cX3_init 116 = .ok (.aload_n 0, 1) := by decide +kernel
theorem dX3_init_117 : decode cX3_init 117 = .ok (.iconst 1, 1) := by decide +kernel
theorem dX3_init_118 : decode cX3_init 118 = .ok (.putfield 55, 3) := by decide +kernel
theorem dX3_init_121 : decode cX3_init 121 = .ok (.aload_n 0, 1) := by decide +kernel
theorem dX3_init_122 : decode cX3_init 122 = .ok (.iconst 0, 1) := by decide +kernel
theorem dX3_init_123 : decode cX3_init 123 = .ok (.putfield 58, 3) := by decide +kernel
theorem dX3_init_126 : decode cX3_init 126 = .ok (.aload_n 0, 1) := by decide +kernel
theorem dX3_init_127 : decode cX3_init 127 = .ok (.iconst 0, 1) := by decide +kernel
theorem dX3_init_128 : decode cX3_init 128 = .ok (.putfield 61, 3) := by decide +kernel
theorem dX3_init_131 : decode cX3_init 131 = .ok (.aload_n 0, 1) := by decide +kernel
theorem dX3_init_132 : decode cX3_init 132 = .ok (.iconst (-1), 1) := by decide +kernel
theorem dX3_init_133 : decode cX3_init 133 = .ok (.putfield 64, 3) := by decide +kernel
theorem dX3_init_136 : decode cX3_init 136 = .ok (.return_, 1) := by decide +kernel
set_option maxRecDepth 20000 in
theorem ggX3_readTape_X3_readMap : GoodIn wsX3_readTape wsX3_readMap := goodIn_r _ [8, 9, 10, 11, 12, 13, 14, 15, 16, 17, 18, 19, 7, 20, 21, 22, 23, 24, 25, 1, 26, 27, 28, 29, 30, 31, 32, 33, 34, 35, 36, 2, 3, 37, 38, 39, 40, 41, 42, 43, 44, 45, 46, 47, 48, 49, 159, 160, 161, 162, 163, 164, 165, 166, 167, 168, 169, 170, 171, 172, 173, 174, 175] (by decide +kernel) (by decide +kernel)
set_option maxRecDepth 20000 in
theorem gX3_readTape_X3_readMap : GoodIn wsX3_readTape (wsV RX3 67 RX3 yX3_readMap wsX3_readMap) := goodIn_app (goodIn_of _ (by decide +kernel)) ggX3_readTape_X3_readMap
set_option maxRecDepth 20000 in
theorem ggX3_readTape_X3_readCounts : GoodIn wsX3_readTape wsX3_readCounts := goodIn_r _ [53, 54, 55, 17, 18, 19, 7, 20, 21, 22, 23, 24, 25, 1, 26, 27, 28, 29, 30, 31, 32, 33, 34, 35, 36, 2, 3, 159, 160, 161, 162, 163, 164, 165, 166, 167, 168, 169, 170, 171, 174, 175] (by decide +kernel) (by decide +kernel)
set_option maxRecDepth 20000 in
theorem gX3_readTape_X3_readCounts : GoodIn wsX3_readTape (wsV RX3 71 RX3 yX3_readCounts wsX3_readCounts) := goodIn_app (goodIn_of _ (by decide +kernel)) ggX3_readTape_X3_readCounts
set_option maxRecDepth 20000 in
theorem ggX3_readTape_X3_readChoices : GoodIn wsX3_readTape wsX3_readChoices := goodIn_r _ [59, 60, 61, 54, 55, 62, 63, 64, 29, 65, 31, 66, 67, 68, 14, 69, 70, 12, 13, 15, 16, 71, 42, 43, 44, 45, 72, 73, 74, 7, 75, 21, 22, 23, 24, 25, 1, 26, 27, 28, 30, 32, 33, 34, 35, 36, 2, 3, 76, 77, 78, 79, 80, 81, 82, 83, 159, 160, 161, 162, 163, 164, 165, 166, 167, 168, 169, 170, 171, 174, 175, 172, 173] (by decide +kernel) (by decide +kernel)
set_option maxRecDepth 20000 in
theorem gX3_readTape_X3_readChoices : GoodIn wsX3_readTape (wsV RX3 74 RX3 yX3_readChoices wsX3_readChoices) := goodIn_app (goodIn_of _ (by decide +kernel)) ggX3_readTape_X3_readChoices
set_option maxRecDepth 20000 in
theorem ggX3_readTape_X3_readTables : GoodIn wsX3_readTape wsX3_readTables := goodIn_r _ [87, 54, 88, 10, 89, 90, 91, 7, 92, 17, 18, 19, 20, 21, 22, 23, 24, 25, 1, 26, 27, 28, 29, 30, 31, 32, 33, 34, 35, 36, 2, 3, 93, 94, 95, 96, 97, 98, 99, 100, 101, 102, 103, 104, 105, 106, 107, 108, 109, 110, 111, 112, 113, 114, 115, 116, 117, 118, 119, 120, 121, 159, 160, 161, 162, 163, 164, 165, 166, 167, 168, 169, 170, 171, 174, 175, 176, 177, 178, 179, 180, 181, 182] (by decide +kernel) (by decide +kernel)
set_option maxRecDepth 20000 in
theorem gX3_readTape_X3_readTables : GoodIn wsX3_readTape (wsV RX3 77 RX3 yX3_readTables wsX3_readTables) := goodIn_app (goodIn_of _ (by decide +kernel)) ggX3_readTape_X3_readTables
set_option maxRecDepth 20000 in
theorem ggX3_readTape_X3_readSymbols : GoodIn wsX3_readTape wsX3_readSymbols := goodIn_r _ [125, 126, 127, 55, 60, 10, 62, 63, 64, 29, 65, 31, 26, 27, 28, 30, 32, 128, 129, 130, 7, 131, 88, 21, 22, 23, 24, 25, 1, 33, 34, 35, 36, 2, 3, 132, 133, 134, 100, 135, 114, 116, 111, 102, 117, 136, 137, 138, 139, 112, 140, 141, 142, 143, 144, 145, 146, 147, 148, 149, 150, 151, 152, 153, 154, 9, 76, 77, 78, 14, 79, 16, 45, 155, 156, 157, 158, 80, 81, 82, 83, 159, 160, 161, 162, 163, 164, 165, 166, 167, 168, 169, 170, 171, 174, 175, 176, 177, 178, 179, 180, 181, 182, 172, 173] (by decide +kernel) (by decide +kernel)
set_option maxRecDepth 20000 in
theorem gX3_readTape_X3_readSymbols : GoodIn wsX3_readTape (wsV RX3 80 RX3 yX3_readSymbols wsX3_readSymbols) := goodIn_app (goodIn_of _ (by decide +kernel)) ggX3_readTape_X3_readSymbols
theorem dX3_readTape_0 : decode cX3_readTape 0 = .ok (.aload_n 0, 1) := by decide +kernel
theorem dX3_readTape_1 : decode cX3_readTape 1 = .ok (.iconst 0, 1) := by decide +kernel
theorem dX3_readTape_2 : decode cX3_readTape 2 = .ok (.putfield 58, 3) := by decide +kernel
theorem dX3_readTape_5 : decode cX3_readTape 5 = .ok (.aload_n 0, 1) := by decide +kernel
theorem dX3_readTape_6 : decode cX3_readTape 6 = .ok (.iconst 0, 1) := by decide +kernel
theorem dX3_readTape_7 : decode cX3_readTape 7 = .ok (.putfield 61, 3) := by decide +kernel
theorem dX3_readTape_10 : decode cX3_readTape 10 = .ok (.aload_n 0, 1) := by decide +kernel
theorem dX3_readTape_11 : decode cX3_readTape 11 = .ok (.iconst (-1), 1) := by decide +kernel
theorem dX3_readTape_12 : decode cX3_readTape 12 = .ok (.putfield 64, 3) := by decide +kernel
theorem dX3_readTape_15 : decode cX3_readTape 15 = .ok (.aload_n 0, 1) := by decide +kernel
theorem dX3_readTape_16 : decode cX3_readTape 16 = .ok (.invokevirtual 67, 3) := by decide +kernel
theorem dX3_readTape_19 : decode cX3_readTape 19 = .ok (.ifCond .eq 35, 3) := by decide +kernel
theorem dX3_readTape_22 : decode cX3_readTape 22 = .ok (.aload_n 0, 1) := by decide +kernel
theorem dX3_readTape_23 : decode cX3_readTape 23 = .ok (.invokevirtual 71, 3) := by decide +kernel
theorem dX3_readTape_26 : decode cX3_readTape 26 = .ok (.ifCond .eq 28, 3) := by decide +kernel
theorem dX3_readTape_29 : decode cX3_readTape 29 = .ok (.aload_n 0, 1) := by decide +kernel
theorem dX3_readTape_30 : decode cX3_readTape 30 = .ok (.invokevirtual 74, 3) := by decide +kernel
theorem dX3_readTape_33 : decode cX3_readTape 33 = .ok (.ifCond .eq 21, 3) := by decide +kernel
theorem dX3_readTape_36 : decode cX3_readTape 36 = .ok (.aload_n 0, 1) := by decide +kernel
theorem dX3_readTape_37 : decode cX3_readTape 37 = .ok (.invokevirtual 77, 3) := by decide +kernel
theorem dX3_readTape_40 : decode cX3_readTape 40 = .ok (.ifCond .eq 14, 3) := by decide +kernel
theorem dX3_readTape_43 : decode cX3_readTape 43 = .ok (.aload_n 0, 1) := by decide +kernel
theorem dX3_readTape_44 : decode cX3_readTape 44 = .ok (.invokevirtual 80, 3) := by decide +kernel
theorem dX3_readTape_47 : decode cX3_readTape 47 = .ok (.ifCond .eq 7, 3) := by decide +kernel
theorem dX3_readTape_50 : decode cX3_readTape 50 = .ok (.iconst 1, 1) := by decide +kernel
theorem dX3_readTape_51 : decode cX3_readTape 51 = .ok (.goto 4, 3) := by decide +kernel
theorem dX3_readTape_54 : decode cX3_readTape 54 = .ok (.iconst 0, 1) := by decide +kernel
theorem dX3_readTape_55 : decode cX3_readTape 55 = .ok (.ireturn, 1) := by decide +kernel
theorem dX3_fail_0 : decode cX3_fail 0 = .ok (.aload_n 0, 1) := by decide +kernel
theorem dX3_fail_1 : decode cX3_fail 1 = .ok (.iload_n 1, 1) := by decide +kernel
theorem dX3_fail_2 : decode cX3_fail 2 = .ok (.putfield 61, 3) := by decide +kernel
theorem dX3_fail_5 : decode cX3_fail 5 = .ok (.aload_n 0, 1) := by decide +kernel
theorem dX3_fail_6 : decode cX3_fail 6 = .ok (.aload_n 0, 1) := by decide +kernel
theorem dX3_fail_7 : decode cX3_fail 7 = .ok (.getfield 58, 3) := by decide +kernel
theorem dX3_fail_10 : decode cX3_fail 10 = .ok (.putfield 64, 3) := by decide +kernel
theorem dX3_fail_13 : decode cX3_fail 13 = .ok (.iconst 0, 1) := by decide +kernel
theorem dX3_fail_14 : decode cX3_fail 14 = .ok (.ireturn, 1) := by decide +kernel
set_option maxRecDepth 20000 in
theorem ggX3_nextBit_X5_get : GoodIn wsX3_nextBit wsX5_get := goodIn_r _ [7, 8, 9, 30, 31] (by decide +kernel) (by decide +kernel)
set_option maxRecDepth 20000 in
theorem gX3_nextBit_X5_get : GoodIn wsX3_nextBit (wsV RX3 83 RX5 yX5_get wsX5_get) := goodIn_app (goodIn_of _ (by decide +kernel)) ggX3_nextBit_X5_get
set_option maxRecDepth 20000 in
theorem ggX3_nextBit_X3_fail : GoodIn wsX3_nextBit wsX3_fail := goodIn_r _ [14, 15, 2, 16, 17, 18, 19, 20, 21, 22, 23, 24, 25, 26, 27, 28, 29] (by decide +kernel) (by decide +kernel)
set_option maxRecDepth 20000 in
theorem gX3_nextBit_X3_fail : GoodIn wsX3_nextBit (wsV RX3 87 RX3 yX3_fail wsX3_fail) := goodIn_app (goodIn_of _ (by decide +kernel)) ggX3_nextBit_X3_fail
theorem dX3_nextBit_0 : decode cX3_nextBit 0 = .ok (.aload_n 0, 1) := by decide +kernel
theorem dX3_nextBit_1 : decode cX3_nextBit 1 = .ok (.getfield 9, 3) := by decide +kernel
theorem dX3_nextBit_4 : decode cX3_nextBit 4 = .ok (.aload_n 0, 1) := by decide +kernel
theorem dX3_nextBit_5 : decode cX3_nextBit 5 = .ok (.getfield 58, 3) := by decide +kernel
theorem dX3_nextBit_8 : decode cX3_nextBit 8 = .ok (.invokevirtual 83, 3) := by decide +kernel
theorem dX3_nextBit_11 : decode cX3_nextBit 11 = .ok (.istore_n 1, 1) := by decide +kernel
theorem dX3_nextBit_12 : decode cX3_nextBit 12 = .ok (.iload_n 1, 1) := by decide +kernel
theorem dX3_nextBit_13 : decode cX3_nextBit 13 = .ok (.iconst (-1), 1) := by decide +kernel
theorem dX3_nextBit_14 : decode cX3_nextBit 14 = .ok (.if_icmp .ne 11, 3) := by decide +kernel
theorem dX3_nextBit_17 : decode cX3_nextBit 17 = .ok (.aload_n 0, 1) := by decide +kernel
theorem dX3_nextBit_18 : decode cX3_nextBit 18 = .ok (.iconst 1, 1) := by decide +kernel
theorem dX3_nextBit_19 : decode cX3_nextBit 19 = .ok (.invokevirtual 87, 3) := by decide +kernel
theorem dX3_nextBit_22 : decode cX3_nextBit 22 = .ok (.pop, 1) := by decide +kernel
theorem dX3_nextBit_23 : decode cX3_nextBit 23 = .ok (.iconst (-1), 1) := by decide +kernel
theorem dX3_nextBit_24 : decode cX3_nextBit 24 = .ok (.ireturn, 1) := by decide +kernel
theorem dX3_nextBit_25 : decode cX3_nextBit 25 = .ok (.aload_n 0, 1) := by decide +kernel
theorem dX3_nextBit_26 : decode cX3_nextBit 26 = .ok (.dup, 1) := by decide +kernel
theorem dX3_nextBit_27 : decode cX3_nextBit 27 = .ok (.getfield 58, 3) := by decide +kernel
theorem dX3_nextBit_30 : decode cX3_nextBit 30 = .ok (.iconst 1, 1) := by decide +kernel
theorem dX3_nextBit_31 : decode cX3_nextBit 31 = .ok (.iadd, 1) := by decide +kernel
theorem dX3_nextBit_32 : decode cX3_nextBit 32 = .ok (.putfield 58, 3) := by decide +kernel
theorem dX3_nextBit_35 : decode cX3_nextBit 35 = .ok (.iload_n 1, 1) := by decide +kernel
theorem dX3_nextBit_36 : decode cX3_nextBit 36 = .ok (.ireturn, 1) := by decide +kernel
set_option maxRecDepth 20000 in
theorem ggX3_nextNumber_X3_nextBit : GoodIn wsX3_nextNumber wsX3_nextBit := goodIn_r _ [5, 6, 7, 8, 9, 10, 11, 12, 13, 14, 15, 16, 17, 4, 18, 19, 20, 21, 22, 23, 24, 25, 26, 27, 28, 29, 30, 31, 32, 33, 34, 35] (by decide +kernel) (by decide +kernel)
set_option maxRecDepth 20000 in
theorem gX3_nextNumber_X3_nextBit : GoodIn wsX3_nextNumber (wsV RX3 91 RX3 yX3_nextBit wsX3_nextBit) := goodIn_app (goodIn_of _ (by decide +kernel)) ggX3_nextNumber_X3_nextBit
theorem dX3_nextNumber_0 : decode cX3_nextNumber 0 = .ok (.iconst 0, 1) := by decide +kernel
theorem dX3_nextNumber_1 : decode cX3_nextNumber 1 = .ok (.istore_n 2, 1) := by decide +kernel
theorem dX3_nextNumber_2 : decode cX3_nextNumber 2 = .ok (.iconst 0, 1) := by decide +kernel
theorem dX3_nextNumber_3 : decode cX3_nextNumber 3 = .ok (.istore_n 3, 1) := by decide +kernel
theorem dX3_nextNumber_4 : decode cX3_nextNumber 4 = .ok (.iload_n 3, 1) := by decide +kernel
theorem dX3_nextNumber_5 : decode cX3_nextNumber 5 = .ok (.iload_n 1, 1) := by decide +kernel
theorem dX3_nextNumber_6 : decode cX3_nextNumber 6 = .ok (.if_icmp .ge 30, 3) := by decide +kernel
theorem dX3_nextNumber_9 : decode cX3_nextNumber 9 = .ok (.aload_n 0, 1) := by decide +kernel
theorem dX3_nextNumber_10 : decode cX3_nextNumber 10 = .ok (.invokevirtual 91, 3) := by decide +kernel
theorem dX3_nextNumber_13 : decode cX3_nextNumber 13 = .ok (.istore 4, 2) := by decide +kernel
theorem dX3_nextNumber_15 : decode cX3_nextNumber 15 = .ok (.iload 4, 2) := by decide +kernel
theorem dX3_nextNumber_17 : decode cX3_nextNumber 17 = .ok (.iconst (-1), 1) := by decide +kernel
theorem dX3_nextNumber_18 : decode cX3_nextNumber 18 = .ok (.if_icmp .ne 5, 3) := by decide +kernel
theorem dX3_nextNumber_21 : decode cX3_nextNumber 21 = .ok (.iconst (-1), 1) := by decide +kernel
theorem dX3_nextNumber_22 : decode cX3_nextNumber 22 = .ok (.ireturn, 1) := by decide +kernel
theorem dX3_nextNumber_23 : decode cX3_nextNumber 23 = .ok (.iload_n 2, 1) := by decide +kernel
theorem dX3_nextNumber_24 : decode cX3_nextNumber 24 = .ok (.iconst 2, 1) := by decide +kernel
theorem dX3_nextNumber_25 : decode cX3_nextNumber 25 = .ok (.imul, 1) := by decide +kernel
theorem dX3_nextNumber_26 : decode cX3_nextNumber 26 = .ok (.iload 4, 2) := by decide +kernel
theorem dX3_nextNumber_28 : decode cX3_nextNumber 28 = .ok (.iadd, 1) := by decide +kernel
theorem dX3_nextNumber_29 : decode cX3_nextNumber 29 = .ok (.istore_n 2, 1) := by decide +kernel
theorem dX3_nextNumber_30 : decode cX3_nextNumber 30 = .ok (.iinc 3 1, 3) := by decide +kernel
theorem dX3_nextNumber_33 : decode cX3_nextNumber 33 = .ok (.goto (-29), 3) := by decide +kernel
theorem dX3_nextNumber_36 : decode cX3_nextNumber 36 = .ok (.iload_n 2, 1) := by decide +kernel
theorem dX3_nextNumber_37 : decode cX3_nextNumber 37 = .ok (.ireturn, 1) := by decide +kernel
set_option maxRecDepth 20000 in
theorem ggX3_readMap_X1_clear : GoodIn wsX3_readMap wsX1_clear := goodIn_r _ [7, 8, 59, 60] (by decide +kernel) (by decide +kernel)
set_option maxRecDepth 20000 in
theorem gX3_readMap_X1_clear : GoodIn wsX3_readMap (wsV RX3 95 RX1 yX1_clear wsX1_clear) := goodIn_app (goodIn_of _ (by decide +kernel)) ggX3_readMap_X1_clear
set_option maxRecDepth 20000 in
theorem ggX3_readMap_X3_nextNumber : GoodIn wsX3_readMap wsX3_nextNumber := goodIn_r _ [13, 14, 15, 16, 12, 17, 18, 19, 20, 21, 22, 23, 24, 25, 26, 27, 28, 29, 30, 31, 32, 46, 47, 48, 49, 50, 51, 52, 53, 54, 55, 56, 57, 58, 61, 62] (by decide +kernel) (by decide +kernel)
set_option maxRecDepth 20000 in
theorem gX3_readMap_X3_nextNumber : GoodIn wsX3_readMap (wsV RX3 98 RX3 yX3_nextNumber wsX3_nextNumber) := goodIn_app (goodIn_of _ (by decide +kernel)) ggX3_readMap_X3_nextNumber
set_option maxRecDepth 20000 in
theorem ggX3_readMap_X3_fail : GoodIn wsX3_readMap wsX3_fail := goodIn_r _ [30, 31, 19, 32, 46, 47, 48, 49, 50, 51, 52, 53, 54, 55, 56, 57, 58] (by decide +kernel) (by decide +kernel)
set_option maxRecDepth 20000 in
theorem gX3_readMap_X3_fail : GoodIn wsX3_readMap (wsV RX3 87 RX3 yX3_fail wsX3_fail) := goodIn_app (goodIn_of _ (by decide +kernel)) ggX3_readMap_X3_fail
set_option maxRecDepth 20000 in
theorem ggX3_readMap_X3_readField : GoodIn wsX3_readMap wsX3_readField := goodIn_r _ [36, 1, 9, 10, 11, 12, 13, 14, 15, 16, 17, 18, 19, 20, 21, 22, 23, 24, 25, 26, 27, 28, 29, 30, 31, 32, 37, 38, 39, 6, 40, 8, 41, 46, 47, 48, 49, 50, 51, 52, 53, 54, 55, 56, 57, 58, 61, 62, 59, 60] (by decide +kernel) (by decide +kernel)
set_option maxRecDepth 20000 in
theorem gX3_readMap_X3_readField : GoodIn wsX3_readMap (wsV RX3 101 RX3 yX3_readField wsX3_readField) := goodIn_app (goodIn_of _ (by decide +kernel)) ggX3_readMap_X3_readField
set_option maxRecDepth 20000 in
theorem ggX3_readMap_X1_size : GoodIn wsX3_readMap wsX1_size := goodIn_r _ [45, 8, 59, 60] (by decide +kernel) (by decide +kernel)
set_option maxRecDepth 20000 in
theorem gX3_readMap_X1_size : GoodIn wsX3_readMap (wsV RX3 104 RX1 yX1_size wsX1_size) := goodIn_app (goodIn_of _ (by decide +kernel)) ggX3_readMap_X1_size
theorem dX3_readMap_0 : decode cX3_readMap 0 = .ok (.aload_n 0, 1) := by decide +kernel
theorem dX3_readMap_1 : decode cX3_readMap 1 = .ok (.getfield 29, 3) := by decide +kernel
theorem dX3_readMap_4 : decode cX3_readMap 4 = .ok (.invokevirtual 95, 3) := by decide +kernel
theorem dX3_readMap_7 : decode cX3_readMap 7 = .ok (.aload_n 0, 1) := by decide +kernel
theorem dX3_readMap_8 : decode cX3_readMap 8 = .ok (.bipush 16, 2) := by decide +kernel
theorem dX3_readMap_10 : decode cX3_readMap 10 = .ok (.invokevirtual 98, 3) := by decide +kernel
theorem dX3_readMap_13 : decode cX3_readMap 13 = .ok (.istore_n 1, 1) := by decide +kernel
theorem dX3_readMap_14 : decode cX3_readMap 14 = .ok (.iload_n 1, 1) := by decide +kernel
theorem dX3_readMap_15 : decode cX3_readMap 15 = .ok (.iconst (-1), 1) := by decide +kernel
theorem dX3_readMap_16 : decode cX3_readMap 16 = .ok (.if_icmp .ne 5, 3) := by decide +kernel
theorem dX3_readMap_19 : decode cX3_readMap 19 = .ok (.iconst 0, 1) := by decide +kernel
theorem dX3_readMap_20 : decode cX3_readMap 20 = .ok (.ireturn, 1) := by decide +kernel
theorem dX3_readMap_21 : decode cX3_readMap 21 = .ok (.iload_n 1, 1) := by decide +kernel
theorem dX3_readMap_22 : decode cX3_readMap 22 = .ok (.ifCond .ne 9, 3) := by decide +kernel
theorem dX3_readMap_25 : decode cX3_readMap 25 = .ok (.aload_n 0, 1) := by decide +kernel
theorem dX3_readMap_26 : decode cX3_readMap 26 = .ok (.iconst 2, 1) := by decide +kernel
theorem dX3_readMap_27 : decode cX3_readMap 27 = .ok (.invokevirtual 87, 3) := by decide +kernel
theorem dX3_readMap_30 : decode cX3_readMap 30 = .ok (.ireturn, 1) := by decide +kernel
theorem dX3_readMap_31 : decode cX3_readMap 31 = .ok (.iconst 0, 1) := by decide +kernel
theorem dX3_readMap_32 : decode cX3_readMap 32 = .ok (.istore_n 2, 1) := by decide +kernel
theorem dX3_readMap_33 : decode cX3_readMap 33 = .ok (.iload_n 2, 1) := by decide +kernel
theorem dX3_readMap_34 : decode cX3_readMap 34 = .ok (.bipush 16, 2) := by decide +kernel
theorem dX3_readMap_36 : decode cX3_readMap 36 = .ok (.if_icmp .ge 34, 3) := by decide +kernel
theorem dX3_readMap_39 : decode cX3_readMap 39 = .ok (.iload_n 1, 1) := by decide +kernel
theorem dX3_readMap_40 : decode cX3_readMap 40 = .ok (.bipush 15, 2) := by decide +kernel
theorem dX3_readMap_42 : decode cX3_readMap 42 = .ok (.iload_n 2, 1) := by decide +kernel
theorem dX3_readMap_43 : decode cX3_readMap 43 = .ok (.isub, 1) := by decide +kernel
theorem dX3_readMap_44 : decode cX3_readMap 44 = .ok (.ishr, 1) := by decide +kernel
theorem dX3_readMap_45 : decode cX3_readMap 45 = .ok (.iconst 1, 1) := by decide +kernel
theorem dX3_readMap_46 : decode cX3_readMap 46 = .ok (.iand, 1) := by decide +kernel
theorem dX3_readMap_47 : decode cX3_readMap 47 = .ok (.iconst 1, 1) := by decide +kernel
theorem dX3_readMap_48 : decode cX3_readMap 48 = .ok (.if_icmp .ne 16, 3) := by decide +kernel
theorem dX3_readMap_51 : decode cX3_readMap 51 = .ok (.aload_n 0, 1) := by decide +kernel
theorem dX3_readMap_52 : decode cX3_readMap 52 = .ok (.iload_n 2, 1) := by decide +kernel
theorem dX3_readMap_53 : decode cX3_readMap 53 = .ok (.bipush 16, 2) := by decide +kernel
theorem dX3_readMap_55 : decode cX3_readMap 55 = .ok (.imul, 1) := by decide +kernel
theorem dX3_readMap_56 : decode cX3_readMap 56 = .ok (.invokevirtual 101, 3) := by decide +kernel
theorem dX3_readMap_59 : decode cX3_readMap 59 = .ok (.ifCond .ne 5, 3) := by decide +kernel
theorem dX3_readMap_62 : decode cX3_readMap 62 = .ok (.iconst 0, 1) := by decide +kernel
theorem dX3_readMap_63 : decode cX3_readMap 63 = .ok (.ireturn, 1) := by decide +kernel
theorem dX3_readMap_64 : decode cX3_readMap 64 = .ok (.iinc 2 1, 3) := by decide +kernel
theorem dX3_readMap_67 : decode cX3_readMap 67 = .ok (.goto (-34), 3) := by decide +kernel
theorem dX3_readMap_70 : decode cX3_readMap 70 = .ok (.aload_n 0, 1) := by decide +kernel
theorem dX3_readMap_71 : decode cX3_readMap 71 = .ok (.aload_n 0, 1) := by decide +kernel
theorem dX3_readMap_72 : decode cX3_readMap 72 = .ok (.getfield 29, 3) := by decide +kernel
theorem dX3_readMap_75 : decode cX3_readMap 75 = .ok (.invokevirtual 104, 3) := by decide +kernel
theorem dX3_readMap_78 : decode cX3_readMap 78 = .ok (.iconst 2, 1) := by decide +kernel
theorem dX3_readMap_79 : decode cX3_readMap 79 = .ok (.iadd, 1) := by decide +kernel
theorem dX3_readMap_80 : decode cX3_readMap 80 = .ok (.putfield 52, 3) := by decide +kernel
theorem dX3_readMap_83 : decode cX3_readMap 83 = .ok (.iconst 1, 1) := by decide +kernel
theorem dX3_readMap_84 : decode cX3_readMap 84 = .ok (.ireturn, 1) := by decide +kernel
set_option maxRecDepth 20000 in
theorem ggX3_readField_X3_nextNumber : GoodIn wsX3_readField wsX3_nextNumber := goodIn_r _ [6, 7, 8, 9, 5, 10, 11, 12, 13, 14, 15, 16, 17, 18, 19, 20, 21, 22, 23, 24, 25, 33, 34, 35, 36, 37, 38, 39, 40, 41, 42, 43, 44, 45, 46, 47] (by decide +kernel) (by decide +kernel)
set_option maxRecDepth 20000 in
theorem gX3_readField_X3_nextNumber : GoodIn wsX3_readField (wsV RX3 98 RX3 yX3_nextNumber wsX3_nextNumber) := goodIn_app (goodIn_of _ (by decide +kernel)) ggX3_readField_X3_nextNumber
set_option maxRecDepth 20000 in
theorem ggX3_readField_X3_fail : GoodIn wsX3_readField wsX3_fail := goodIn_r _ [23, 24, 12, 25, 33, 34, 35, 36, 37, 38, 39, 40, 41, 42, 43, 44, 45] (by decide +kernel) (by decide +kernel)
set_option maxRecDepth 20000 in
theorem gX3_readField_X3_fail : GoodIn wsX3_readField (wsV RX3 87 RX3 yX3_fail wsX3_fail) := goodIn_app (goodIn_of _ (by decide +kernel)) ggX3_readField_X3_fail
set_option maxRecDepth 20000 in
theorem ggX3_readField_X1_add : GoodIn wsX3_readField wsX1_add := goodIn_r _ [30, 31, 32, 48, 49] (by decide +kernel) (by decide +kernel)
set_option maxRecDepth 20000 in
theorem gX3_readField_X1_add : GoodIn wsX3_readField (wsV RX3 107 RX1 yX1_add wsX1_add) := goodIn_app (goodIn_of _ (by decide +kernel)) ggX3_readField_X1_add
theorem dX3_readField_0 : decode cX3_readField 0 = .ok (.aload_n 0, 1) := by decide +kernel
theorem dX3_readField_1 : decode cX3_readField 1 = .ok (.bipush 16, 2) := by decide +kernel
theorem dX3_readField_3 : decode cX3_readField 3 = .ok (.invokevirtual 98, 3) := by decide +kernel
theorem dX3_readField_6 : decode cX3_readField 6 = .ok (.istore_n 2, 1) := by decide +kernel
theorem dX3_readField_7 : decode cX3_readField 7 = .ok (.iload_n 2, 1) := by decide +kernel
theorem dX3_readField_8 : decode cX3_readField 8 = .ok (.iconst (-1), 1) := by decide +kernel
theorem dX3_readField_9 : decode cX3_readField 9 = .ok (.if_icmp .ne 5, 3) := by decide +kernel
theorem dX3_readField_12 : decode cX3_readField 12 = .ok (.iconst 0, 1) := by decide +kernel
theorem dX3_readField_13 : decode cX3_readField 13 = .ok (.ireturn, 1) := by decide +kernel
theorem dX3_readField_14 : decode cX3_readField 14 = .ok (.iload_n 2, 1) := by decide +kernel
theorem dX3_readField_15 : decode cX3_readField 15 = .ok (.ifCond .ne 9, 3) := by decide +kernel
theorem dX3_readField_18 : decode cX3_readField 18 = .ok (.aload_n 0, 1) := by decide +kernel
theorem dX3_readField_19 : decode cX3_readField 19 = .ok (.iconst 2, 1) := by decide +kernel
theorem dX3_readField_20 : decode cX3_readField 20 = .ok (.invokevirtual 87, 3) := by decide +kernel
theorem dX3_readField_23 : decode cX3_readField 23 = .ok (.ireturn, 1) := by decide +kernel
theorem dX3_readField_24 : decode cX3_readField 24 = .ok (.iconst 0, 1) := by decide +kernel
theorem dX3_readField_25 : decode cX3_readField 25 = .ok (.istore_n 3, 1) := by decide +kernel
theorem dX3_readField_26 : decode cX3_readField 26 = .ok (.iload_n 3, 1) := by decide +kernel
theorem dX3_readField_27 : decode cX3_readField 27 = .ok (.bipush 16, 2) := by decide +kernel
theorem dX3_readField_29 : decode cX3_readField 29 = .ok (.if_icmp .ge 31, 3) := by decide +kernel
theorem dX3_readField_32 : decode cX3_readField 32 = .ok (.iload_n 2, 1) := by decide +kernel
theorem dX3_readField_33 : decode cX3_readField 33 = .ok (.bipush 15, 2) := by decide +kernel
theorem dX3_readField_35 : decode cX3_readField 35 = .ok (.iload_n 3, 1) := by decide +kernel
theorem dX3_readField_36 : decode cX3_readField 36 = .ok (.isub, 1) := by decide +kernel
theorem dX3_readField_37 : decode cX3_readField 37 = .ok (.ishr, 1) := by decide +kernel
theorem dX3_readField_38 : decode cX3_readField 38 = .ok (.iconst 1, 1) := by decide +kernel
theorem dX3_readField_39 : decode cX3_readField 39 = .ok (.iand, 1) := by decide +kernel
theorem dX3_readField_40 : decode cX3_readField 40 = .ok (.iconst 1, 1) := by decide +kernel
theorem dX3_readField_41 : decode cX3_readField 41 = .ok (.if_icmp .ne 13, 3) := by decide +kernel
theorem dX3_readField_44 : decode cX3_readField 44 = .ok (.aload_n 0, 1) := by decide +kernel
theorem dX3_readField_45 : decode cX3_readField 45 = .ok (.getfield 29, 3) := by decide +kernel
theorem dX3_readField_48 : decode cX3_readField 48 = .ok (.iload_n 1, 1) := by decide +kernel
theorem dX3_readField_49 : decode cX3_readField 49 = .ok (.iload_n 3, 1) := by decide +kernel
theorem dX3_readField_50 : decode cX3_readField 50 = .ok (.iadd, 1) := by decide +kernel
theorem dX3_readField_51 : decode cX3_readField 51 = .ok (.invokevirtual 107, 3) := by decide +kernel
theorem dX3_readField_54 : decode cX3_readField 54 = .ok (.iinc 3 1, 3) := by decide +kernel
theorem dX3_readField_57 : decode cX3_readField 57 = .ok (.goto (-31), 3) := by decide +kernel
theorem dX3_readField_60 : decode cX3_readField 60 = .ok (.iconst 1, 1) := by decide +kernel
theorem dX3_readField_61 : decode cX3_readField 61 = .ok (.ireturn, 1) := by decide +kernel
set_option maxRecDepth 20000 in
theorem ggX3_readCounts_X3_nextNumber : GoodIn wsX3_readCounts wsX3_nextNumber := goodIn_r _ [7, 8, 9, 10, 6, 11, 12, 13, 14, 15, 16, 17, 18, 19, 20, 21, 22, 23, 24, 25, 26, 27, 28, 29, 30, 31, 32, 33, 34, 35, 36, 37, 38, 39, 40, 41] (by decide +kernel) (by decide +kernel)
set_option maxRecDepth 20000 in
theorem gX3_readCounts_X3_nextNumber : GoodIn wsX3_readCounts (wsV RX3 98 RX3 yX3_nextNumber wsX3_nextNumber) := goodIn_app (goodIn_of _ (by decide +kernel)) ggX3_readCounts_X3_nextNumber
set_option maxRecDepth 20000 in
theorem ggX3_readCounts_X3_fail : GoodIn wsX3_readCounts wsX3_fail := goodIn_r _ [24, 25, 13, 26, 27, 28, 29, 30, 31, 32, 33, 34, 35, 36, 37, 38, 39] (by decide +kernel) (by decide +kernel)
set_option maxRecDepth 20000 in
theorem gX3_readCounts_X3_fail : GoodIn wsX3_readCounts (wsV RX3 87 RX3 yX3_fail wsX3_fail) := goodIn_app (goodIn_of _ (by decide +kernel)) ggX3_readCounts_X3_fail
theorem dX3_readCounts_0 : decode cX3_readCounts 0 = .ok (.aload_n 0, 1) := by decide +kernel
theorem dX3_readCounts_1 : decode cX3_readCounts 1 = .ok (.aload_n 0, 1) := by decide +kernel
theorem dX3_readCounts_2 : decode cX3_readCounts 2 = .ok (.iconst 2, 1) := by decide +kernel
theorem dX3_readCounts_3 : decode cX3_readCounts 3 = .ok (.invokevirtual 98, 3) := by decide +kernel
theorem dX3_readCounts_6 : decode cX3_readCounts 6 = .ok (.putfield 45, 3) := by decide +kernel
theorem dX3_readCounts_9 : decode cX3_readCounts 9 = .ok (.aload_n 0, 1) := by decide +kernel
theorem dX3_readCounts_10 : decode cX3_readCounts 10 = .ok (.getfield 45, 3) := by decide +kernel
theorem dX3_readCounts_13 : decode cX3_readCounts 13 = .ok (.iconst (-1), 1) := by decide +kernel
theorem dX3_readCounts_14 : decode cX3_readCounts 14 = .ok (.if_icmp .ne 5, 3) := by decide +kernel
theorem dX3_readCounts_17 : decode cX3_readCounts 17 = .ok (.iconst 0, 1) := by decide +kernel
theorem dX3_readCounts_18 : decode cX3_readCounts 18 = .ok (.ireturn, 1) := by decide +kernel
theorem dX3_readCounts_19 : decode cX3_readCounts 19 = .ok (.aload_n 0, 1) := by decide +kernel
theorem dX3_readCounts_20 : decode cX3_readCounts 20 = .ok (.aload_n 0, 1) := by decide +kernel
theorem dX3_readCounts_21 : decode cX3_readCounts 21 = .ok (.iconst 5, 1) := by decide +kernel
theorem dX3_readCounts_22 : decode cX3_readCounts 22 = .ok (.invokevirtual 98, 3) := by decide +kernel
theorem dX3_readCounts_25 : decode cX3_readCounts 25 = .ok (.putfield 49, 3) := by decide +kernel
theorem dX3_readCounts_28 : decode cX3_readCounts 28 = .ok (.aload_n 0, 1) := by decide +kernel
theorem dX3_readCounts_29 : decode cX3_readCounts 29 = .ok (.getfield 49, 3) := by decide +kernel
theorem dX3_readCounts_32 : decode cX3_readCounts 32 = .ok (.iconst (-1), 1) := by decide +kernel
theorem dX3_readCounts_33 : decode cX3_readCounts 33 = .ok (.if_icmp .ne 5, 3) := by decide +kernel
theorem dX3_readCounts_36 : decode cX3_readCounts 36 = .ok (.iconst 0, 1) := by decide +kernel
theorem dX3_readCounts_37 : decode cX3_readCounts 37 = .ok (.ireturn, 1) := by decide +kernel
theorem dX3_readCounts_38 : decode cX3_readCounts 38 = .ok (.aload_n 0, 1) := by decide +kernel
theorem dX3_readCounts_39 : decode cX3_readCounts 39 = .ok (.getfield 45, 3) := by decide +kernel
theorem dX3_readCounts_42 : decode cX3_readCounts 42 = .ok (.ifCond .eq 10, 3) := by decide +kernel
theorem dX3_readCounts_45 : decode cX3_readCounts 45 = .ok (.aload_n 0, 1) := by decide +kernel
theorem dX3_readCounts_46 : decode cX3_readCounts 46 = .ok (.getfield 49, 3) := by decide +kernel
theorem dX3_readCounts_49 : decode cX3_readCounts 49 = .ok (.ifCond .ne 11, 3) := by decide +kernel
theorem dX3_readCounts_52 : decode cX3_readCounts 52 = .ok (.aload_n 0, 1) := by decide +kernel
theorem dX3_readCounts_53 : decode cX3_readCounts 53 = .ok (.iconst 3, 1) := by decide +kernel
theorem dX3_readCounts_54 : decode cX3_readCounts 54 = .ok (.invokevirtual 87, 3) := by decide +kernel
theorem dX3_readCounts_57 : decode cX3_readCounts 57 = .ok (.ifCond .eq 7, 3) := by decide +kernel
theorem dX3_readCounts_60 : decode cX3_readCounts 60 = .ok (.iconst 1, 1) := by decide +kernel
theorem dX3_readCounts_61 : decode cX3_readCounts 61 = .ok (.goto 4, 3) := by decide +kernel
theorem dX3_readCounts_64 : decode cX3_readCounts 64 = .ok (.iconst 0, 1) := by decide +kernel
theorem dX3_readCounts_65 : decode cX3_readCounts 65 = .ok (.ireturn, 1) := by decide +kernel
set_option maxRecDepth 20000 in
theorem ggX3_readChoices_X5_clear : GoodIn wsX3_readChoices wsX5_clear := goodIn_r _ [9, 10, 69, 70] (by decide +kernel) (by decide +kernel)
set_option maxRecDepth 20000 in
theorem gX3_readChoices_X5_clear : GoodIn wsX3_readChoices (wsV RX3 110 RX5 yX5_clear wsX5_clear) := goodIn_app (goodIn_of _ (by decide +kernel)) ggX3_readChoices_X5_clear
set_option maxRecDepth 20000 in
theorem ggX3_readChoices_X1_restart : GoodIn wsX3_readChoices wsX1_restart := goodIn_r _ [15, 16, 17, 18, 14, 19, 20, 21, 22, 23, 24, 25, 71, 72] (by decide +kernel) (by decide +kernel)
set_option maxRecDepth 20000 in
theorem gX3_readChoices_X1_restart : GoodIn wsX3_readChoices (wsV RX3 111 RX1 yX1_restart wsX1_restart) := goodIn_app (goodIn_of _ (by decide +kernel)) ggX3_readChoices_X1_restart
set_option maxRecDepth 20000 in
theorem ggX3_readChoices_X3_nextChoice : GoodIn wsX3_readChoices wsX3_nextChoice := goodIn_r _ [30, 3, 31, 32, 33, 29, 34, 35, 36, 37, 38, 39, 8, 40, 10, 41, 42, 43, 44, 45, 46, 47, 56, 57, 58, 59, 60, 61, 62, 63, 64, 65, 66, 67, 68, 69, 70] (by decide +kernel) (by decide +kernel)
set_option maxRecDepth 20000 in
theorem gX3_readChoices_X3_nextChoice : GoodIn wsX3_readChoices (wsV RX3 114 RX3 yX3_nextChoice wsX3_nextChoice) := goodIn_app (goodIn_of _ (by decide +kernel)) ggX3_readChoices_X3_nextChoice
set_option maxRecDepth 20000 in
theorem ggX3_readChoices_X1_bringUp : GoodIn wsX3_readChoices wsX1_bringUp := goodIn_r _ [51, 20, 25, 71, 72] (by decide +kernel) (by decide +kernel)
set_option maxRecDepth 20000 in
theorem gX3_readChoices_X1_bringUp : GoodIn wsX3_readChoices (wsV RX3 117 RX1 yX1_bringUp wsX1_bringUp) := goodIn_app (goodIn_of _ (by decide +kernel)) ggX3_readChoices_X1_bringUp
set_option maxRecDepth 20000 in
theorem ggX3_readChoices_X5_add : GoodIn wsX3_readChoices wsX5_add := goodIn_r _ [55, 10, 41, 69, 70] (by decide +kernel) (by decide +kernel)
set_option maxRecDepth 20000 in
theorem gX3_readChoices_X5_add : GoodIn wsX3_readChoices (wsV RX3 120 RX5 yX5_add wsX5_add) := goodIn_app (goodIn_of _ (by decide +kernel)) ggX3_readChoices_X5_add
theorem dX3_readChoices_0 : decode cX3_readChoices 0 = .ok (.aload_n 0, 1) := by decide +kernel
theorem dX3_readChoices_1 : decode cX3_readChoices 1 = .ok (.getfield 23, 3) := by decide +kernel
theorem dX3_readChoices_4 : decode cX3_readChoices 4 = .ok (.invokevirtual 110, 3) := by decide +kernel
theorem dX3_readChoices_7 : decode cX3_readChoices 7 = .ok (.aload_n 0, 1) := by decide +kernel
theorem dX3_readChoices_8 : decode cX3_readChoices 8 = .ok (.getfield 33, 3) := by decide +kernel
theorem dX3_readChoices_11 : decode cX3_readChoices 11 = .ok (.aload_n 0, 1) := by decide +kernel
theorem dX3_readChoices_12 : decode cX3_readChoices 12 = .ok (.getfield 45, 3) := by decide +kernel
theorem dX3_readChoices_15 : decode cX3_readChoices 15 = .ok (.invokevirtual 111, 3) := by decide +kernel
theorem dX3_readChoices_18 : decode cX3_readChoices 18 = .ok (.iconst 0, 1) := by decide +kernel
theorem dX3_readChoices_19 : decode cX3_readChoices 19 = .ok (.istore_n 1, 1) := by decide +kernel
theorem dX3_readChoices_20 : decode cX3_readChoices 20 = .ok (.iload_n 1, 1) := by decide +kernel
theorem dX3_readChoices_21 : decode cX3_readChoices 21 = .ok (.aload_n 0, 1) := by decide +kernel
theorem dX3_readChoices_22 : decode cX3_readChoices 22 = .ok (.getfield 49, 3) := by decide +kernel
theorem dX3_readChoices_25 : decode cX3_readChoices 25 = .ok (.if_icmp .ge 36, 3) := by decide +kernel
theorem dX3_readChoices_28 : decode cX3_readChoices 28 = .ok (.aload_n 0, 1) := by decide +kernel
theorem dX3_readChoices_29 : decode cX3_readChoices 29 = .ok (.invokevirtual 114, 3) := by decide +kernel
theorem dX3_readChoices_32 : decode cX3_readChoices 32 = .ok (.istore_n 2, 1) := by decide +kernel
theorem dX3_readChoices_33 : decode cX3_readChoices 33 = .ok (.iload_n 2, 1) := by decide +kernel
theorem dX3_readChoices_34 : decode cX3_readChoices 34 = .ok (.iconst (-1), 1) := by decide +kernel
theorem dX3_readChoices_35 : decode cX3_readChoices 35 = .ok (.if_icmp .ne 5, 3) := by decide +kernel
theorem dX3_readChoices_38 : decode cX3_readChoices 38 = .ok (.iconst 0, 1) := by decide +kernel
theorem dX3_readChoices_39 : decode cX3_readChoices 39 = .ok (.ireturn, 1) := by decide +kernel
theorem dX3_readChoices_40 : decode cX3_readChoices 40 = .ok (.aload_n 0, 1) := by decide +kernel
theorem dX3_readChoices_41 : decode cX3_readChoices 41 = .ok (.getfield 23, 3) := by decide +kernel
theorem dX3_readChoices_44 : decode cX3_readChoices 44 = .ok (.aload_n 0, 1) := by decide +kernel
theorem dX3_readChoices_45 : decode cX3_readChoices 45 = .ok (.getfield 33, 3) := by decide +kernel
theorem dX3_readChoices_48 : decode cX3_readChoices 48 = .ok (.iload_n 2, 1) := by decide +kernel
theorem dX3_readChoices_49 : decode cX3_readChoices 49 = .ok (.invokevirtual 117, 3) := by decide +kernel
theorem dX3_readChoices_52 : decode cX3_readChoices 52 = .ok (.invokevirtual 120, 3) := by decide +kernel
theorem dX3_readChoices_55 : decode cX3_readChoices 55 = .ok (.iinc 1 1, 3) := by decide +kernel
theorem dX3_readChoices_58 : decode cX3_readChoices 58 = .ok (.goto (-38), 3) := by decide +kernel
theorem dX3_readChoices_61 : decode cX3_readChoices 61 = .ok (.iconst 1, 1) := by decide +kernel
theorem dX3_readChoices_62 : decode cX3_readChoices 62 = .ok (.ireturn, 1) := by decide +kernel
set_option maxRecDepth 20000 in
theorem ggX3_nextChoice_X3_nextBit : GoodIn wsX3_nextChoice wsX3_nextBit := goodIn_r _ [6, 7, 8, 9, 10, 11, 12, 13, 14, 15, 16, 17, 18, 5, 19, 20, 21, 22, 23, 24, 25, 26, 27, 28, 29, 30, 31, 32, 33, 34, 35, 36] (by decide +kernel) (by decide +kernel)
set_option maxRecDepth 20000 in
theorem gX3_nextChoice_X3_nextBit : GoodIn wsX3_nextChoice (wsV RX3 91 RX3 yX3_nextBit wsX3_nextBit) := goodIn_app (goodIn_of _ (by decide +kernel)) ggX3_nextChoice_X3_nextBit
set_option maxRecDepth 20000 in
theorem ggX3_nextChoice_X3_fail : GoodIn wsX3_nextChoice wsX3_fail := goodIn_r _ [19, 20, 8, 21, 22, 23, 24, 25, 26, 27, 28, 29, 30, 31, 32, 33, 34] (by decide +kernel) (by decide +kernel)
set_option maxRecDepth 20000 in
theorem gX3_nextChoice_X3_fail : GoodIn wsX3_nextChoice (wsV RX3 87 RX3 yX3_fail wsX3_fail) := goodIn_app (goodIn_of _ (by decide +kernel)) ggX3_nextChoice_X3_fail
theorem dX3_nextChoice_0 : decode cX3_nextChoice 0 = .ok (.iconst 0, 1) := by decide +kernel
theorem dX3_nextChoice_1 : decode cX3_nextChoice 1 = .ok (.istore_n 1, 1) := by decide +kernel
theorem dX3_nextChoice_2 : decode cX3_nextChoice 2 = .ok (.iload_n 1, 1) := by decide +kernel
theorem dX3_nextChoice_3 : decode cX3_nextChoice 3 = .ok (.aload_n 0, 1) := by decide +kernel
theorem dX3_nextChoice_4 : decode cX3_nextChoice 4 = .ok (.getfield 45, 3) := by decide +kernel
theorem dX3_nextChoice_7 : decode cX3_nextChoice 7 = .ok (.if_icmp .ge 27, 3) := by decide +kernel
theorem dX3_nextChoice_10 : decode cX3_nextChoice 10 = .ok (.aload_n 0, 1) := by decide +kernel
theorem dX3_nextChoice_11 : decode cX3_nextChoice 11 = .ok (.invokevirtual 91, 3) := by decide +kernel
theorem dX3_nextChoice_14 : decode cX3_nextChoice 14 = .ok (.istore_n 2, 1) := by decide +kernel
theorem dX3_nextChoice_15 : decode cX3_nextChoice 15 = .ok (.iload_n 2, 1) := by decide +kernel
theorem dX3_nextChoice_16 : decode cX3_nextChoice 16 = .ok (.iconst (-1), 1) := by decide +kernel
theorem dX3_nextChoice_17 : decode cX3_nextChoice 17 = .ok (.if_icmp .ne 5, 3) := by decide +kernel
theorem dX3_nextChoice_20 : decode cX3_nextChoice 20 = .ok (.iconst (-1), 1) := by decide +kernel
theorem dX3_nextChoice_21 : decode cX3_nextChoice 21 = .ok (.ireturn, 1) := by decide +kernel
theorem dX3_nextChoice_22 : decode cX3_nextChoice 22 = .ok (.iload_n 2, 1) := by decide +kernel
theorem dX3_nextChoice_23 : decode cX3_nextChoice 23 = .ok (.ifCond .ne 5, 3) := by decide +kernel
theorem dX3_nextChoice_26 : decode cX3_nextChoice 26 = .ok (.iload_n 1, 1) := by decide +kernel
theorem dX3_nextChoice_27 : decode cX3_nextChoice 27 = .ok (.ireturn, 1) := by decide +kernel
theorem dX3_nextChoice_28 : decode cX3_nextChoice 28 = .ok (.iinc 1 1, 3) := by decide +kernel
theorem dX3_nextChoice_31 : decode cX3_nextChoice 31 = .ok (.goto (-29), 3) := by decide +kernel
theorem dX3_nextChoice_34 : decode cX3_nextChoice 34 = .ok (.aload_n 0, 1) := by decide +kernel
theorem dX3_nextChoice_35 : decode cX3_nextChoice 35 = .ok (.iconst 4, 1) := by decide +kernel
theorem dX3_nextChoice_36 : decode cX3_nextChoice 36 = .ok (.invokevirtual 87, 3) := by decide +kernel
theorem dX3_nextChoice_39 : decode cX3_nextChoice 39 = .ok (.pop, 1) := by decide +kernel
theorem dX3_nextChoice_40 : decode cX3_nextChoice 40 = .ok (.iconst (-1), 1) := by decide +kernel
theorem dX3_nextChoice_41 : decode cX3_nextChoice 41 = .ok (.ireturn, 1) := by decide +kernel
set_option maxRecDepth 20000 in
theorem ggX3_readTables_X3_readLengths : GoodIn wsX3_readTables wsX3_readLengths := goodIn_r _ [8, 3, 9, 10, 11, 7, 12, 13, 14, 15, 16, 17, 18, 19, 20, 21, 22, 23, 24, 25, 26, 27, 28, 29, 30, 31, 32, 33, 34, 35, 36, 37, 38, 39, 40, 41, 61, 62, 63, 64, 65, 66, 67, 68, 69, 70, 71, 72, 73, 74, 75, 76, 77, 78, 79, 80, 81, 82] (by decide +kernel) (by decide +kernel)
set_option maxRecDepth 20000 in
theorem gX3_readTables_X3_readLengths : GoodIn wsX3_readTables (wsV RX3 121 RX3 yX3_readLengths wsX3_readLengths) := goodIn_app (goodIn_of _ (by decide +kernel)) ggX3_readTables_X3_readLengths
set_option maxRecDepth 20000 in
theorem ggX3_readTables_X0_settle : GoodIn wsX3_readTables wsX0_settle := goodIn_r _ [45, 46, 47, 48, 49, 50, 51, 52, 53, 54, 55, 41, 56, 57, 58, 59, 39, 60, 76, 77, 78, 79, 80, 81, 82] (by decide +kernel) (by decide +kernel)
set_option maxRecDepth 20000 in
theorem gX3_readTables_X0_settle : GoodIn wsX3_readTables (wsV RX3 125 RX0 yX0_settle wsX0_settle) := goodIn_app (goodIn_of _ (by decide +kernel)) ggX3_readTables_X0_settle
set_option maxRecDepth 20000 in
theorem ggX3_readTables_X3_fail : GoodIn wsX3_readTables wsX3_fail := goodIn_r _ [29, 30, 18, 31, 61, 62, 63, 64, 65, 66, 67, 68, 69, 70, 71, 72, 73] (by decide +kernel) (by decide +kernel)
set_option maxRecDepth 20000 in
theorem gX3_readTables_X3_fail : GoodIn wsX3_readTables (wsV RX3 87 RX3 yX3_fail wsX3_fail) := goodIn_app (goodIn_of _ (by decide +kernel)) ggX3_readTables_X3_fail
theorem dX3_readTables_0 : decode cX3_readTables 0 = .ok (.iconst 0, 1) := by decide +kernel
theorem dX3_readTables_1 : decode cX3_readTables 1 = .ok (.istore_n 1, 1) := by decide +kernel
theorem dX3_readTables_2 : decode cX3_readTables 2 = .ok (.iload_n 1, 1) := by decide +kernel
theorem dX3_readTables_3 : decode cX3_readTables 3 = .ok (.aload_n 0, 1) := by decide +kernel
theorem dX3_readTables_4 : decode cX3_readTables 4 = .ok (.getfield 45, 3) := by decide +kernel
theorem dX3_readTables_7 : decode cX3_readTables 7 = .ok (.if_icmp .ge 52, 3) := by decide +kernel
theorem dX3_readTables_10 : decode cX3_readTables 10 = .ok (.iload_n 1, 1) := by decide +kernel
theorem dX3_readTables_11 : decode cX3_readTables 11 = .ok (.iconst 3, 1) := by decide +kernel
theorem dX3_readTables_12 : decode cX3_readTables 12 = .ok (.if_icmp .ge 47, 3) := by decide +kernel
theorem dX3_readTables_15 : decode cX3_readTables 15 = .ok (.aload_n 0, 1) := by decide +kernel
theorem dX3_readTables_16 : decode cX3_readTables 16 = .ok (.aload_n 0, 1) := by decide +kernel
theorem dX3_readTables_17 : decode cX3_readTables 17 = .ok (.getfield 38, 3) := by decide +kernel
theorem dX3_readTables_20 : decode cX3_readTables 20 = .ok (.iload_n 1, 1) := by decide +kernel
theorem dX3_readTables_21 : decode cX3_readTables 21 = .ok (.aaload, 1) := by decide +kernel
theorem dX3_readTables_22 : decode cX3_readTables 22 = .ok (.invokevirtual 121, 3) := by decide +kernel
theorem dX3_readTables_25 : decode cX3_readTables 25 = .ok (.ifCond .ne 5, 3) := by decide +kernel
theorem dX3_readTables_28 : decode cX3_readTables 28 = .ok (.iconst 0, 1) := by decide +kernel
theorem dX3_readTables_29 : decode cX3_readTables 29 = .ok (.ireturn, 1) := by decide +kernel
theorem dX3_readTables_30 : decode cX3_readTables 30 = .ok (.aload_n 0, 1) := by decide +kernel
theorem dX3_readTables_31 : decode cX3_readTables 31 = .ok (.getfield 38, 3) := by decide +kernel
theorem dX3_readTables_34 : decode cX3_readTables 34 = .ok (.iload_n 1, 1) := by decide +kernel
theorem dX3_readTables_35 : decode cX3_readTables 35 = .ok (.aaload, 1) := by decide +kernel
theorem dX3_readTables_36 : decode cX3_readTables 36 = .ok (.aload_n 0, 1) := by decide +kernel
theorem dX3_readTables_37 : decode cX3_readTables 37 = .ok (.getfield 52, 3) := by decide +kernel
theorem dX3_readTables_40 : decode cX3_readTables 40 = .ok (.invokevirtual 125, 3) := by decide +kernel
theorem dX3_readTables_43 : decode cX3_readTables 43 = .ok (.ifCond .ne 10, 3) := by decide +kernel
theorem dX3_readTables_46 : decode cX3_readTables 46 = .ok (.aload_n 0, 1) := by decide +kernel
theorem dX3_readTables_47 : decode cX3_readTables 47 = .ok (.bipush 6, 2) := by decide +kernel
theorem dX3_readTables_49 : decode cX3_readTables 49 = .ok (.invokevirtual 87, 3) := by decide +kernel
theorem dX3_readTables_52 : decode cX3_readTables 52 = .ok (.ireturn, 1) := by decide +kernel
theorem dX3_readTables_53 : decode cX3_readTables 53 = .ok (.iinc 1 1, 3) := by decide +kernel
theorem dX3_readTables_56 : decode cX3_readTables 56 = .ok (.goto (-54), 3) := by decide +kernel
theorem dX3_readTables_59 : decode cX3_readTables 59 = .ok (.iconst 1, 1) := by decide +kernel
theorem dX3_readTables_60 : decode cX3_readTables 60 = .ok (.ireturn, 1) := by decide +kernel
set_option maxRecDepth 20000 in
theorem ggX3_readLengths_X3_nextNumber : GoodIn wsX3_readLengths wsX3_nextNumber := goodIn_r _ [6, 7, 8, 9, 5, 10, 11, 12, 13, 14, 15, 16, 17, 18, 19, 20, 21, 22, 23, 24, 25, 36, 37, 38, 39, 40, 41, 42, 43, 44, 45, 46, 47, 48, 49, 50] (by decide +kernel) (by decide +kernel)
set_option maxRecDepth 20000 in
theorem gX3_readLengths_X3_nextNumber : GoodIn wsX3_readLengths (wsV RX3 98 RX3 yX3_nextNumber wsX3_nextNumber) := goodIn_app (goodIn_of _ (by decide +kernel)) ggX3_readLengths_X3_nextNumber
set_option maxRecDepth 20000 in
theorem ggX3_readLengths_X3_fail : GoodIn wsX3_readLengths wsX3_fail := goodIn_r _ [23, 24, 12, 25, 36, 37, 38, 39, 40, 41, 42, 43, 44, 45, 46, 47, 48] (by decide +kernel) (by decide +kernel)
set_option maxRecDepth 20000 in
theorem gX3_readLengths_X3_fail : GoodIn wsX3_readLengths (wsV RX3 87 RX3 yX3_fail wsX3_fail) := goodIn_app (goodIn_of _ (by decide +kernel)) ggX3_readLengths_X3_fail
set_option maxRecDepth 20000 in
theorem ggX3_readLengths_X3_nextLength : GoodIn wsX3_readLengths wsX3_nextLength := goodIn_r _ [29, 7, 8, 9, 5, 10, 11, 12, 13, 14, 15, 16, 17, 18, 19, 20, 21, 22, 23, 24, 25, 36, 37, 38, 39, 40, 41, 42, 43, 44, 45, 46, 47, 48, 49, 50] (by decide +kernel) (by decide +kernel)
set_option maxRecDepth 20000 in
theorem gX3_readLengths_X3_nextLength : GoodIn wsX3_readLengths (wsV RX3 128 RX3 yX3_nextLength wsX3_nextLength) := goodIn_app (goodIn_of _ (by decide +kernel)) ggX3_readLengths_X3_nextLength
set_option maxRecDepth 20000 in
theorem ggX3_readLengths_X0_setLength : GoodIn wsX3_readLengths wsX0_setLength := goodIn_r _ [34, 35, 51, 52, 53, 54, 55, 56, 57] (by decide +kernel) (by decide +kernel)
set_option maxRecDepth 20000 in
theorem gX3_readLengths_X0_setLength : GoodIn wsX3_readLengths (wsV RX3 131 RX0 yX0_setLength wsX0_setLength) := goodIn_app (goodIn_of _ (by decide +kernel)) ggX3_readLengths_X0_setLength
theorem dX3_readLengths_0 : decode cX3_readLengths 0 = .ok (.aload_n 0, 1) := by decide +kernel
theorem dX3_readLengths_1 : decode cX3_readLengths 1 = .ok (.iconst 5, 1) := by decide +kernel
theorem dX3_readLengths_2 : decode cX3_readLengths 2 = .ok (.invokevirtual 98, 3) := by decide +kernel
theorem dX3_readLengths_5 : decode cX3_readLengths 5 = .ok (.istore_n 2, 1) := by decide +kernel
theorem dX3_readLengths_6 : decode cX3_readLengths 6 = .ok (.iload_n 2, 1) := by decide +kernel
theorem dX3_readLengths_7 : decode cX3_readLengths 7 = .ok (.iconst (-1), 1) := by decide +kernel
theorem dX3_readLengths_8 : decode cX3_readLengths 8 = .ok (.if_icmp .ne 5, 3) := by decide +kernel
theorem dX3_readLengths_11 : decode cX3_readLengths 11 = .ok (.iconst 0, 1) := by decide +kernel
theorem dX3_readLengths_12 : decode cX3_readLengths 12 = .ok (.ireturn, 1) := by decide +kernel
theorem dX3_readLengths_13 : decode cX3_readLengths 13 = .ok (.iload_n 2, 1) := by decide +kernel
theorem dX3_readLengths_14 : decode cX3_readLengths 14 = .ok (.iconst 1, 1) := by decide +kernel
theorem dX3_readLengths_15 : decode cX3_readLengths 15 = .ok (.if_icmp .lt 9, 3) := by decide +kernel
theorem dX3_readLengths_18 : decode cX3_readLengths 18 = .ok (.iload_n 2, 1) := by decide +kernel
theorem dX3_readLengths_19 : decode cX3_readLengths 19 = .ok (.bipush 20, 2) := by decide +kernel
theorem dX3_readLengths_21 : decode cX3_readLengths 21 = .ok (.if_icmp .le 9, 3) := by decide +kernel
theorem dX3_readLengths_24 : decode cX3_readLengths 24 = .ok (.aload_n 0, 1) := by decide +kernel
theorem dX3_readLengths_25 : decode cX3_readLengths 25 = .ok (.iconst 5, 1) := by decide +kernel
theorem dX3_readLengths_26 : decode cX3_readLengths 26 = .ok (.invokevirtual 87, 3) := by decide +kernel
theorem dX3_readLengths_29 : decode cX3_readLengths 29 = .ok (.ireturn, 1) := by decide +kernel
theorem dX3_readLengths_30 : decode cX3_readLengths 30 = .ok (.iconst 0, 1) := by decide +kernel
theorem dX3_readLengths_31 : decode cX3_readLengths 31 = .ok (.istore_n 3, 1) := by decide +kernel
theorem dX3_readLengths_32 : decode cX3_readLengths 32 = .ok (.iload_n 3, 1) := by decide +kernel
theorem dX3_readLengths_33 : decode cX3_readLengths 33 = .ok (.aload_n 0, 1) := by decide +kernel
theorem dX3_readLengths_34 : decode cX3_readLengths 34 = .ok (.getfield 52, 3) := by decide +kernel
theorem dX3_readLengths_37 : decode cX3_readLengths 37 = .ok (.if_icmp .ge 28, 3) := by decide +kernel
theorem dX3_readLengths_40 : decode cX3_readLengths 40 = .ok (.aload_n 0, 1) := by decide +kernel
theorem dX3_readLengths_41 : decode cX3_readLengths 41 = .ok (.iload_n 2, 1) := by decide +kernel
theorem dX3_readLengths_42 : decode cX3_readLengths 42 = .ok (.invokevirtual 128, 3) := by decide +kernel
theorem dX3_readLengths_45 : decode cX3_readLengths 45 = .ok (.istore_n 2, 1) := by decide +kernel
theorem dX3_readLengths_46 : decode cX3_readLengths 46 = .ok (.iload_n 2, 1) := by decide +kernel
theorem dX3_readLengths_47 : decode cX3_readLengths 47 = .ok (.iconst (-1), 1) := by decide +kernel
theorem dX3_readLengths_48 : decode cX3_readLengths 48 = .ok (.if_icmp .ne 5, 3) := by decide +kernel
theorem dX3_readLengths_51 : decode cX3_readLengths 51 = .ok (.iconst 0, 1) := by decide +kernel
theorem dX3_readLengths_52 : decode cX3_readLengths 52 = .ok (.ireturn, 1) := by decide +kernel
theorem dX3_readLengths_53 : decode cX3_readLengths 53 = .ok (.aload_n 1, 1) := by decide +kernel
theorem dX3_readLengths_54 : decode cX3_readLengths 54 = .ok (.iload_n 3, 1) := by decide +kernel
theorem dX3_readLengths_55 : decode cX3_readLengths 55 = .ok (.iload_n 2, 1) := by decide +kernel
theorem dX3_readLengths_56 : decode cX3_readLengths 56 = .ok (.invokevirtual 131, 3) := by decide +kernel
theorem dX3_readLengths_59 : decode cX3_readLengths 59 = .ok (.iinc 3 1, 3) := by decide +kernel
theorem dX3_readLengths_62 : decode cX3_readLengths 62 = .ok (.goto (-30), 3) := by decide +kernel
theorem dX3_readLengths_65 : decode cX3_readLengths 65 = .ok (.iconst 1, 1) := by decide +kernel
theorem dX3_readLengths_66 : decode cX3_readLengths 66 = .ok (.ireturn, 1) := by decide +kernel
set_option maxRecDepth 20000 in
theorem ggX3_nextLength_X3_nextBit : GoodIn wsX3_nextLength wsX3_nextBit := goodIn_r _ [5, 6, 7, 8, 9, 10, 11, 12, 13, 14, 15, 16, 17, 4, 18, 19, 20, 21, 22, 23, 24, 25, 26, 27, 28, 29, 30, 31, 32, 33, 34, 35] (by decide +kernel) (by decide +kernel)
set_option maxRecDepth 20000 in
theorem gX3_nextLength_X3_nextBit : GoodIn wsX3_nextLength (wsV RX3 91 RX3 yX3_nextBit wsX3_nextBit) := goodIn_app (goodIn_of _ (by decide +kernel)) ggX3_nextLength_X3_nextBit
set_option maxRecDepth 20000 in
theorem ggX3_nextLength_X3_fail : GoodIn wsX3_nextLength wsX3_fail := goodIn_r _ [18, 19, 7, 20, 21, 22, 23, 24, 25, 26, 27, 28, 29, 30, 31, 32, 33] (by decide +kernel) (by decide +kernel)
set_option maxRecDepth 20000 in
theorem gX3_nextLength_X3_fail : GoodIn wsX3_nextLength (wsV RX3 87 RX3 yX3_fail wsX3_fail) := goodIn_app (goodIn_of _ (by decide +kernel)) ggX3_nextLength_X3_fail
theorem dX3_nextLength_0 : decode cX3_nextLength 0 = .ok (.iload_n 1, 1) := by decide +kernel
theorem dX3_nextLength_1 : decode cX3_nextLength 1 = .ok (.istore_n 2, 1) := by decide +kernel
theorem dX3_nextLength_2 : decode cX3_nextLength 2 = .ok (.iconst 0, 1) := by decide +kernel
theorem dX3_nextLength_3 : decode cX3_nextLength 3 = .ok (.istore_n 3, 1) := by decide +kernel
theorem dX3_nextLength_4 : decode cX3_nextLength 4 = .ok (.iload_n 3, 1) := by decide +kernel
theorem dX3_nextLength_5 : decode cX3_nextLength 5 = .ok (.sipush 1500, 3) := by decide +kernel
theorem dX3_nextLength_8 : decode cX3_nextLength 8 = .ok (.if_icmp .gt 79, 3) := by decide +kernel
theorem dX3_nextLength_11 : decode cX3_nextLength 11 = .ok (.aload_n 0, 1) := by decide +kernel
theorem dX3_nextLength_12 : decode cX3_nextLength 12 = .ok (.invokevirtual 91, 3) := by decide +kernel
theorem dX3_nextLength_15 : decode cX3_nextLength 15 = .ok (.istore 4, 2) := by decide +kernel
theorem dX3_nextLength_17 : decode cX3_nextLength 17 = .ok (.iload 4, 2) := by decide +kernel
theorem dX3_nextLength_19 : decode cX3_nextLength 19 = .ok (.ifCond .ne 5, 3) := by decide +kernel
theorem dX3_nextLength_22 : decode cX3_nextLength 22 = .ok (.iload_n 2, 1) := by decide +kernel
theorem dX3_nextLength_23 : decode cX3_nextLength 23 = .ok (.ireturn, 1) := by decide +kernel
theorem dX3_nextLength_24 : decode cX3_nextLength 24 = .ok (.iload 4, 2) := by decide +kernel
theorem dX3_nextLength_26 : decode cX3_nextLength 26 = .ok (.iconst (-1), 1) := by decide +kernel
theorem dX3_nextLength_27 : decode cX3_nextLength 27 = .ok (.if_icmp .ne 7, 3) := by decide +kernel
theorem dX3_nextLength_30 : decode cX3_nextLength 30 = .ok (.iconst (-1), 1) := by decide +kernel
theorem dX3_nextLength_31 : decode cX3_nextLength 31 = .ok (.goto 7, 3) := by decide +kernel
theorem dX3_nextLength_34 : decode cX3_nextLength 34 = .ok (.aload_n 0, 1) := by decide +kernel
theorem dX3_nextLength_35 : decode cX3_nextLength 35 = .ok (.invokevirtual 91, 3) := by decide +kernel
theorem dX3_nextLength_38 : decode cX3_nextLength 38 = .ok (.istore 5, 2) := by decide +kernel
theorem dX3_nextLength_40 : decode cX3_nextLength 40 = .ok (.iload 5, 2) := by decide +kernel
theorem dX3_nextLength_42 : decode cX3_nextLength 42 = .ok (.iconst (-1), 1) := by decide +kernel
theorem dX3_nextLength_43 : decode cX3_nextLength 43 = .ok (.if_icmp .ne 5, 3) := by decide +kernel
theorem dX3_nextLength_46 : decode cX3_nextLength 46 = .ok (.iconst (-1), 1) := by decide +kernel
theorem dX3_nextLength_47 : decode cX3_nextLength 47 = .ok (.ireturn, 1) := by decide +kernel
theorem dX3_nextLength_48 : decode cX3_nextLength 48 = .ok (.iload_n 2, 1) := by decide +kernel
theorem dX3_nextLength_49 : decode cX3_nextLength 49 = .ok (.iload 5, 2) := by decide +kernel
theorem dX3_nextLength_51 : decode cX3_nextLength 51 = .ok (.iconst 1, 1) := by decide +kernel
theorem dX3_nextLength_52 : decode cX3_nextLength 52 = .ok (.if_icmp .ne 7, 3) := by decide +kernel
theorem dX3_nextLength_55 : decode cX3_nextLength 55 = .ok (.iconst (-1), 1) := by decide +kernel
theorem dX3_nextLength_56 : decode cX3_nextLength 56 = .ok (.goto 4, 3) := by decide +kernel
theorem dX3_nextLength_59 : decode cX3_nextLength 59 = .ok (.iconst 1, 1) := by decide +kernel
theorem dX3_nextLength_60 : decode cX3_nextLength 60 = .ok (.iadd, 1) := by decide +kernel
theorem dX3_nextLength_61 : decode cX3_nextLength 61 = .ok (.istore_n 2, 1) := by decide +kernel
theorem dX3_nextLength_62 : decode cX3_nextLength 62 = .ok (.iload_n 2, 1) := by decide +kernel
theorem dX3_nextLength_63 : decode cX3_nextLength 63 = .ok (.iconst 1, 1) := by decide +kernel
theorem dX3_nextLength_64 : decode cX3_nextLength 64 = .ok (.if_icmp .lt 9, 3) := by decide +kernel
theorem dX3_nextLength_67 : decode cX3_nextLength 67 = .ok (.iload_n 2, 1) := by decide +kernel
theorem dX3_nextLength_68 : decode cX3_nextLength 68 = .ok (.bipush 20, 2) := by decide +kernel
theorem dX3_nextLength_70 : decode cX3_nextLength 70 = .ok (.if_icmp .le 11, 3) := by decide +kernel
theorem dX3_nextLength_73 : decode cX3_nextLength 73 = .ok (.aload_n 0, 1) := by decide +kernel
theorem dX3_nextLength_74 : decode cX3_nextLength 74 = .ok (.iconst 5, 1) := by decide +kernel
theorem dX3_nextLength_75 : decode cX3_nextLength 75 = .ok (.invokevirtual 87, 3) := by decide +kernel
theorem dX3_nextLength_78 : decode cX3_nextLength 78 = .ok (.pop, 1) := by decide +kernel
theorem dX3_nextLength_79 : decode cX3_nextLength 79 = .ok (.iconst (-1), 1) := by decide +kernel
theorem dX3_nextLength_80 : decode cX3_nextLength 80 = .ok (.ireturn, 1) := by decide +kernel
theorem dX3_nextLength_81 : decode cX3_nextLength 81 = .ok (.iinc 3 1, 3) := by decide +kernel
theorem dX3_nextLength_84 : decode cX3_nextLength 84 = .ok (.goto (-80), 3) := by decide +kernel
theorem dX3_nextLength_87 : decode cX3_nextLength 87 = .ok (.aload_n 0, 1) := by decide +kernel
theorem dX3_nextLength_88 : decode cX3_nextLength 88 = .ok (.iconst 1, 1) := by decide +kernel
theorem dX3_nextLength_89 : decode cX3_nextLength 89 = .ok (.invokevirtual 87, 3) := by decide +kernel
theorem dX3_nextLength_92 : decode cX3_nextLength 92 = .ok (.pop, 1) := by decide +kernel
theorem dX3_nextLength_93 : decode cX3_nextLength 93 = .ok (.iconst (-1), 1) := by decide +kernel
theorem dX3_nextLength_94 : decode cX3_nextLength 94 = .ok (.ireturn, 1) := by decide +kernel
set_option maxRecDepth 20000 in
theorem ggX3_readSymbols_X5_clear : GoodIn wsX3_readSymbols wsX5_clear := goodIn_r _ [10, 11, 94, 95] (by decide +kernel) (by decide +kernel)
set_option maxRecDepth 20000 in
theorem gX3_readSymbols_X5_clear : GoodIn wsX3_readSymbols (wsV RX3 110 RX5 yX5_clear wsX5_clear) := goodIn_app (goodIn_of _ (by decide +kernel)) ggX3_readSymbols_X5_clear
set_option maxRecDepth 20000 in
theorem ggX3_readSymbols_X5_get : GoodIn wsX3_readSymbols wsX5_get := goodIn_r _ [15, 11, 16, 94, 95] (by decide +kernel) (by decide +kernel)
set_option maxRecDepth 20000 in
theorem gX3_readSymbols_X5_get : GoodIn wsX3_readSymbols (wsV RX3 83 RX5 yX5_get wsX5_get) := goodIn_app (goodIn_of _ (by decide +kernel)) ggX3_readSymbols_X5_get
set_option maxRecDepth 20000 in
theorem ggX3_readSymbols_X3_nextKind : GoodIn wsX3_readSymbols wsX3_nextKind := goodIn_r _ [21, 22, 23, 24, 25, 20, 26, 27, 28, 12, 13, 14, 9, 15, 11, 16, 29, 30, 31, 32, 33, 34, 35, 36, 37, 38, 39, 40, 41, 42, 43, 44, 45, 46, 47, 48, 49, 81, 82, 83, 84, 85, 86, 87, 88, 89, 90, 91, 92, 93, 94, 95, 96, 97, 98, 99, 100, 101, 102] (by decide +kernel) (by decide +kernel)
set_option maxRecDepth 20000 in
theorem gX3_readSymbols_X3_nextKind : GoodIn wsX3_readSymbols (wsV RX3 135 RX3 yX3_nextKind wsX3_nextKind) := goodIn_app (goodIn_of _ (by decide +kernel)) ggX3_readSymbols_X3_nextKind
set_option maxRecDepth 20000 in
theorem ggX3_readSymbols_X3_readEnd : GoodIn wsX3_readSymbols wsX3_readEnd := goodIn_r _ [53, 1, 3, 28, 27, 54, 55, 56, 9, 57, 11, 29, 30, 31, 20, 32, 33, 34, 58, 59, 60, 81, 82, 83, 84, 85, 86, 87, 88, 89, 90, 91, 92, 93, 94, 95] (by decide +kernel) (by decide +kernel)
set_option maxRecDepth 20000 in
theorem gX3_readSymbols_X3_readEnd : GoodIn wsX3_readSymbols (wsV RX3 138 RX3 yX3_readEnd wsX3_readEnd) := goodIn_app (goodIn_of _ (by decide +kernel)) ggX3_readSymbols_X3_readEnd
set_option maxRecDepth 20000 in
theorem ggX3_readSymbols_X3_takeSymbol : GoodIn wsX3_readSymbols wsX3_takeSymbol := goodIn_r _ [64, 2, 65, 66, 67, 68, 69, 70, 71, 72, 73, 74, 75, 20, 76, 1, 54, 55, 56, 9, 57, 11, 29, 30, 31, 32, 33, 28, 34, 77, 78, 79, 80, 16, 81, 82, 83, 84, 85, 86, 87, 88, 89, 90, 91, 92, 93, 103, 104, 94, 95] (by decide +kernel) (by decide +kernel)
set_option maxRecDepth 20000 in
theorem gX3_readSymbols_X3_takeSymbol : GoodIn wsX3_readSymbols (wsV RX3 141 RX3 yX3_takeSymbol wsX3_takeSymbol) := goodIn_app (goodIn_of _ (by decide +kernel)) ggX3_readSymbols_X3_takeSymbol
set_option maxRecDepth 20000 in
theorem ggX3_readSymbols_X3_fail : GoodIn wsX3_readSymbols wsX3_fail := goodIn_r _ [32, 33, 28, 34, 81, 82, 83, 84, 85, 86, 87, 88, 89, 90, 91, 92, 93] (by decide +kernel) (by decide +kernel)
set_option maxRecDepth 20000 in
theorem gX3_readSymbols_X3_fail : GoodIn wsX3_readSymbols (wsV RX3 87 RX3 yX3_fail wsX3_fail) := goodIn_app (goodIn_of _ (by decide +kernel)) ggX3_readSymbols_X3_fail
theorem dX3_readSymbols_0 : decode cX3_readSymbols 0 = .ok (.aload_n 0, 1) := by decide +kernel
theorem dX3_readSymbols_1 : decode cX3_readSymbols 1 = .ok (.getfield 20, 3) := by decide +kernel
theorem dX3_readSymbols_4 : decode cX3_readSymbols 4 = .ok (.invokevirtual 110, 3) := by decide +kernel
theorem dX3_readSymbols_7 : decode cX3_readSymbols 7 = .ok (.aload_n 0, 1) := by decide +kernel
theorem dX3_readSymbols_8 : decode cX3_readSymbols 8 = .ok (.iconst 1, 1) := by decide +kernel
theorem dX3_readSymbols_9 : decode cX3_readSymbols 9 = .ok (.putfield 55, 3) := by decide +kernel
theorem dX3_readSymbols_12 : decode cX3_readSymbols 12 = .ok (.iconst 0, 1) := by decide +kernel
theorem dX3_readSymbols_13 : decode cX3_readSymbols 13 = .ok (.istore_n 1, 1) := by decide +kernel
theorem dX3_readSymbols_14 : decode cX3_readSymbols 14 = .ok (.iload_n 1, 1) := by decide +kernel
theorem dX3_readSymbols_15 : decode cX3_readSymbols 15 = .ok (.aload_n 0, 1) := by decide +kernel
theorem dX3_readSymbols_16 : decode cX3_readSymbols 16 = .ok (.getfield 49, 3) := by decide +kernel
theorem dX3_readSymbols_19 : decode cX3_readSymbols 19 = .ok (.bipush 10, 2) := by decide +kernel
theorem dX3_readSymbols_21 : decode cX3_readSymbols 21 = .ok (.imul, 1) := by decide +kernel
theorem dX3_readSymbols_22 : decode cX3_readSymbols 22 = .ok (.if_icmp .ge 60, 3) := by decide +kernel
theorem dX3_readSymbols_25 : decode cX3_readSymbols 25 = .ok (.aload_n 0, 1) := by decide +kernel
theorem dX3_readSymbols_26 : decode cX3_readSymbols 26 = .ok (.aload_n 0, 1) := by decide +kernel
theorem dX3_readSymbols_27 : decode cX3_readSymbols 27 = .ok (.getfield 23, 3) := by decide +kernel
theorem dX3_readSymbols_30 : decode cX3_readSymbols 30 = .ok (.iload_n 1, 1) := by decide +kernel
theorem dX3_readSymbols_31 : decode cX3_readSymbols 31 = .ok (.bipush 10, 2) := by decide +kernel
theorem dX3_readSymbols_33 : decode cX3_readSymbols 33 = .ok (.idiv, 1) := by decide +kernel
theorem dX3_readSymbols_34 : decode cX3_readSymbols 34 = .ok (.invokevirtual 83, 3) := by decide +kernel
theorem dX3_readSymbols_37 : decode cX3_readSymbols 37 = .ok (.invokevirtual 135, 3) := by decide +kernel
theorem dX3_readSymbols_40 : decode cX3_readSymbols 40 = .ok (.istore_n 2, 1) := by decide +kernel
theorem dX3_readSymbols_41 : decode cX3_readSymbols 41 = .ok (.iload_n 2, 1) := by decide +kernel
theorem dX3_readSymbols_42 : decode cX3_readSymbols 42 = .ok (.iconst (-1), 1) := by decide +kernel
theorem dX3_readSymbols_43 : decode cX3_readSymbols 43 = .ok (.if_icmp .ne 5, 3) := by decide +kernel
theorem dX3_readSymbols_46 : decode cX3_readSymbols 46 = .ok (.iconst 0, 1) := by decide +kernel
theorem dX3_readSymbols_47 : decode cX3_readSymbols 47 = .ok (.ireturn, 1) := by decide +kernel
theorem dX3_readSymbols_48 : decode cX3_readSymbols 48 = .ok (.iload_n 2, 1) := by decide +kernel
theorem dX3_readSymbols_49 : decode cX3_readSymbols 49 = .ok (.aload_n 0, 1) := by decide +kernel
theorem dX3_readSymbols_50 : decode cX3_readSymbols 50 = .ok (.getfield 52, 3) := by decide +kernel
theorem dX3_readSymbols_53 : decode cX3_readSymbols 53 = .ok (.iconst 1, 1) := by decide +kernel
theorem dX3_readSymbols_54 : decode cX3_readSymbols 54 = .ok (.isub, 1) := by decide +kernel
theorem dX3_readSymbols_55 : decode cX3_readSymbols 55 = .ok (.if_icmp .ne 11, 3) := by decide +kernel
theorem dX3_readSymbols_58 : decode cX3_readSymbols 58 = .ok (.aload_n 0, 1) := by decide +kernel
theorem dX3_readSymbols_59 : decode cX3_readSymbols 59 = .ok (.iload_n 1, 1) := by decide +kernel
theorem dX3_readSymbols_60 : decode cX3_readSymbols 60 = .ok (.iconst 1, 1) := by decide +kernel
theorem dX3_readSymbols_61 : decode cX3_readSymbols 61 = .ok (.iadd, 1) := by decide +kernel
theorem dX3_readSymbols_62 : decode cX3_readSymbols 62 = .ok (.invokevirtual 138, 3) := by decide +kernel
theorem dX3_readSymbols_65 : decode cX3_readSymbols 65 = .ok (.ireturn, 1) := by decide +kernel
theorem dX3_readSymbols_66 : decode cX3_readSymbols 66 = .ok (.aload_n 0, 1) := by decide +kernel
theorem dX3_readSymbols_67 : decode cX3_readSymbols 67 = .ok (.iload_n 2, 1) := by decide +kernel
theorem dX3_readSymbols_68 : decode cX3_readSymbols 68 = .ok (.invokevirtual 141, 3) := by decide +kernel
theorem dX3_readSymbols_71 : decode cX3_readSymbols 71 = .ok (.ifCond .ne 5, 3) := by decide +kernel
theorem dX3_readSymbols_74 : decode cX3_readSymbols 74 = .ok (.iconst 0, 1) := by decide +kernel
theorem dX3_readSymbols_75 : decode cX3_readSymbols 75 = .ok (.ireturn, 1) := by decide +kernel
theorem dX3_readSymbols_76 : decode cX3_readSymbols 76 = .ok (.iinc 1 1, 3) := by decide +kernel
theorem dX3_readSymbols_79 : decode cX3_readSymbols 79 = .ok (.goto (-65), 3) := by decide +kernel
theorem dX3_readSymbols_82 : decode cX3_readSymbols 82 = .ok (.aload_n 0, 1) := by decide +kernel
theorem dX3_readSymbols_83 : decode cX3_readSymbols 83 = .ok (.bipush 9, 2) := by decide +kernel
theorem dX3_readSymbols_85 : decode cX3_readSymbols 85 = .ok (.invokevirtual 87, 3) := by decide +kernel
theorem dX3_readSymbols_88 : decode cX3_readSymbols 88 = .ok (.ireturn, 1) := by decide +kernel
set_option maxRecDepth 20000 in
theorem ggX3_nextKind_X3_nextBit : GoodIn wsX3_nextKind wsX3_nextBit := goodIn_r _ [6, 7, 8, 9, 10, 11, 12, 13, 14, 15, 16, 17, 18, 5, 19, 20, 21, 37, 38, 39, 40, 41, 42, 43, 44, 45, 46, 47, 48, 49, 50, 51] (by decide +kernel) (by decide +kernel)
set_option maxRecDepth 20000 in
theorem gX3_nextKind_X3_nextBit : GoodIn wsX3_nextKind (wsV RX3 91 RX3 yX3_nextBit wsX3_nextBit) := goodIn_app (goodIn_of _ (by decide +kernel)) ggX3_nextKind_X3_nextBit
set_option maxRecDepth 20000 in
theorem ggX3_nextKind_X0_kindOf : GoodIn wsX3_nextKind wsX0_kindOf := goodIn_r _ [26, 27, 28, 29, 30, 31, 52, 53, 54, 55, 56, 57, 58] (by decide +kernel) (by decide +kernel)
set_option maxRecDepth 20000 in
theorem gX3_nextKind_X0_kindOf : GoodIn wsX3_nextKind (wsV RX3 144 RX0 yX0_kindOf wsX0_kindOf) := goodIn_app (goodIn_of _ (by decide +kernel)) ggX3_nextKind_X0_kindOf
set_option maxRecDepth 20000 in
theorem ggX3_nextKind_X0_canBegin : GoodIn wsX3_nextKind wsX0_canBegin := goodIn_r _ [35, 36, 52, 53, 54, 55, 56, 57, 58] (by decide +kernel) (by decide +kernel)
set_option maxRecDepth 20000 in
theorem gX3_nextKind_X0_canBegin : GoodIn wsX3_nextKind (wsV RX3 148 RX0 yX0_canBegin wsX0_canBegin) := goodIn_app (goodIn_of _ (by decide +kernel)) ggX3_nextKind_X0_canBegin
set_option maxRecDepth 20000 in
theorem ggX3_nextKind_X3_fail : GoodIn wsX3_nextKind wsX3_fail := goodIn_r _ [19, 20, 8, 21, 37, 38, 39, 40, 41, 42, 43, 44, 45, 46, 47, 48, 49] (by decide +kernel) (by decide +kernel)
set_option maxRecDepth 20000 in
theorem gX3_nextKind_X3_fail : GoodIn wsX3_nextKind (wsV RX3 87 RX3 yX3_fail wsX3_fail) := goodIn_app (goodIn_of _ (by decide +kernel)) ggX3_nextKind_X3_fail
theorem dX3_nextKind_0 : decode cX3_nextKind 0 = .ok (.iconst 0, 1) := by decide +kernel
theorem dX3_nextKind_1 : decode cX3_nextKind 1 = .ok (.istore_n 2, 1) := by decide +kernel
theorem dX3_nextKind_2 : decode cX3_nextKind 2 = .ok (.iconst 1, 1) := by decide +kernel
theorem dX3_nextKind_3 : decode cX3_nextKind 3 = .ok (.istore_n 3, 1) := by decide +kernel
theorem dX3_nextKind_4 : decode cX3_nextKind 4 = .ok (.iload_n 3, 1) := by decide +kernel
theorem dX3_nextKind_5 : decode cX3_nextKind 5 = .ok (.bipush 20, 2) := by decide +kernel
theorem dX3_nextKind_7 : decode cX3_nextKind 7 = .ok (.if_icmp .gt 78, 3) := by decide +kernel
theorem dX3_nextKind_10 : decode cX3_nextKind 10 = .ok (.iload_n 1, 1) := by decide +kernel
theorem dX3_nextKind_11 : decode cX3_nextKind 11 = .ok (.ifCond .lt 74, 3) := by decide +kernel
theorem dX3_nextKind_14 : decode cX3_nextKind 14 = .ok (.iload_n 1, 1) := by decide +kernel
theorem dX3_nextKind_15 : decode cX3_nextKind 15 = .ok (.iconst 3, 1) := by decide +kernel
theorem dX3_nextKind_16 : decode cX3_nextKind 16 = .ok (.if_icmp .ge 69, 3) := by decide +kernel
theorem dX3_nextKind_19 : decode cX3_nextKind 19 = .ok (.aload_n 0, 1) := by decide +kernel
theorem dX3_nextKind_20 : decode cX3_nextKind 20 = .ok (.invokevirtual 91, 3) := by decide +kernel
theorem dX3_nextKind_23 : decode cX3_nextKind 23 = .ok (.istore 4, 2) := by decide +kernel
theorem dX3_nextKind_25 : decode cX3_nextKind 25 = .ok (.iload 4, 2) := by decide +kernel
theorem dX3_nextKind_27 : decode cX3_nextKind 27 = .ok (.iconst (-1), 1) := by decide +kernel
theorem dX3_nextKind_28 : decode cX3_nextKind 28 = .ok (.if_icmp .ne 5, 3) := by decide +kernel
theorem dX3_nextKind_31 : decode cX3_nextKind 31 = .ok (.iconst (-1), 1) := by decide +kernel
theorem dX3_nextKind_32 : decode cX3_nextKind 32 = .ok (.ireturn, 1) := by decide +kernel
theorem dX3_nextKind_33 : decode cX3_nextKind 33 = .ok (.iload_n 2, 1) := by decide +kernel
theorem dX3_nextKind_34 : decode cX3_nextKind 34 = .ok (.iconst 2, 1) := by decide +kernel
theorem dX3_nextKind_35 : decode cX3_nextKind 35 = .ok (.imul, 1) := by decide +kernel
theorem dX3_nextKind_36 : decode cX3_nextKind 36 = .ok (.iload 4, 2) := by decide +kernel
theorem dX3_nextKind_38 : decode cX3_nextKind 38 = .ok (.iadd, 1) := by decide +kernel
theorem dX3_nextKind_39 : decode cX3_nextKind 39 = .ok (.istore_n 2, 1) := by decide +kernel
theorem dX3_nextKind_40 : decode cX3_nextKind 40 = .ok (.aload_n 0, 1) := by decide +kernel
theorem dX3_nextKind_41 : decode cX3_nextKind 41 = .ok (.getfield 38, 3) := by decide +kernel
theorem dX3_nextKind_44 : decode cX3_nextKind 44 = .ok (.iload_n 1, 1) := by decide +kernel
theorem dX3_nextKind_45 : decode cX3_nextKind 45 = .ok (.aaload, 1) := by decide +kernel
theorem dX3_nextKind_46 : decode cX3_nextKind 46 = .ok (.iload_n 2, 1) := by decide +kernel
theorem dX3_nextKind_47 : decode cX3_nextKind 47 = .ok (.iload_n 3, 1) := by decide +kernel
theorem dX3_nextKind_48 : decode cX3_nextKind 48 = .ok (.invokevirtual 144, 3) := by decide +kernel
theorem dX3_nextKind_51 : decode cX3_nextKind 51 = .ok (.istore 5, 2) := by decide +kernel
theorem dX3_nextKind_53 : decode cX3_nextKind 53 = .ok (.iload 5, 2) := by decide +kernel
theorem dX3_nextKind_55 : decode cX3_nextKind 55 = .ok (.iconst (-1), 1) := by decide +kernel
theorem dX3_nextKind_56 : decode cX3_nextKind 56 = .ok (.if_icmp .eq 6, 3) := by decide +kernel
theorem dX3_nextKind_59 : decode cX3_nextKind 59 = .ok (.iload 5, 2) := by decide +kernel
theorem dX3_nextKind_61 : decode cX3_nextKind 61 = .ok (.ireturn, 1) := by decide +kernel
theorem dX3_nextKind_62 : decode cX3_nextKind 62 = .ok (.aload_n 0, 1) := by decide +kernel
theorem dX3_nextKind_63 : decode cX3_nextKind 63 = .ok (.getfield 38, 3) := by decide +kernel
theorem dX3_nextKind_66 : decode cX3_nextKind 66 = .ok (.iload_n 1, 1) := by decide +kernel
theorem dX3_nextKind_67 : decode cX3_nextKind 67 = .ok (.aaload, 1) := by decide +kernel
theorem dX3_nextKind_68 : decode cX3_nextKind 68 = .ok (.iload_n 2, 1) := by decide +kernel
theorem dX3_nextKind_69 : decode cX3_nextKind 69 = .ok (.iload_n 3, 1) := by decide +kernel
theorem dX3_nextKind_70 : decode cX3_nextKind 70 = .ok (.invokevirtual 148, 3) := by decide +kernel
theorem dX3_nextKind_73 : decode cX3_nextKind 73 = .ok (.ifCond .ne 6, 3) := by decide +kernel
theorem dX3_nextKind_76 : decode cX3_nextKind 76 = .ok (.goto 9, 3) := by decide +kernel
theorem dX3_nextKind_79 : decode cX3_nextKind 79 = .ok (.iinc 3 1, 3) := by decide +kernel
theorem dX3_nextKind_82 : decode cX3_nextKind 82 = .ok (.goto (-78), 3) := by decide +kernel
theorem dX3_nextKind_85 : decode cX3_nextKind 85 = .ok (.aload_n 0, 1) := by decide +kernel
theorem dX3_nextKind_86 : decode cX3_nextKind 86 = .ok (.bipush 7, 2) := by decide +kernel
theorem dX3_nextKind_88 : decode cX3_nextKind 88 = .ok (.invokevirtual 87, 3) := by decide +kernel
theorem dX3_nextKind_91 : decode cX3_nextKind 91 = .ok (.pop, 1) := by decide +kernel
theorem dX3_nextKind_92 : decode cX3_nextKind 92 = .ok (.iconst (-1), 1) := by decide +kernel
theorem dX3_nextKind_93 : decode cX3_nextKind 93 = .ok (.ireturn, 1) := by decide +kernel
set_option maxRecDepth 20000 in
theorem ggX3_takeSymbol_X1_bringUp : GoodIn wsX3_takeSymbol wsX1_bringUp := goodIn_r _ [7, 8, 9, 47, 48] (by decide +kernel) (by decide +kernel)
set_option maxRecDepth 20000 in
theorem gX3_takeSymbol_X1_bringUp : GoodIn wsX3_takeSymbol (wsV RX3 117 RX1 yX1_bringUp wsX1_bringUp) := goodIn_app (goodIn_of _ (by decide +kernel)) ggX3_takeSymbol_X1_bringUp
set_option maxRecDepth 20000 in
theorem ggX3_takeSymbol_X3_takeSigns : GoodIn wsX3_takeSymbol wsX3_takeSigns := goodIn_r _ [14, 15, 16, 17, 18, 19, 20, 21, 22, 23, 24, 13, 25, 26, 27, 28, 29, 30, 31, 32, 33, 34, 35, 36, 37, 38, 39, 40, 41, 42, 43, 44, 45, 46, 49, 50] (by decide +kernel) (by decide +kernel)
set_option maxRecDepth 20000 in
theorem gX3_takeSymbol_X3_takeSigns : GoodIn wsX3_takeSymbol (wsV RX3 152 RX3 yX3_takeSigns wsX3_takeSigns) := goodIn_app (goodIn_of _ (by decide +kernel)) ggX3_takeSymbol_X3_takeSigns
theorem dX3_takeSymbol_0 : decode cX3_takeSymbol 0 = .ok (.iload_n 1, 1) := by decide +kernel
theorem dX3_takeSymbol_1 : decode cX3_takeSymbol 1 = .ok (.iconst 1, 1) := by decide +kernel
theorem dX3_takeSymbol_2 : decode cX3_takeSymbol 2 = .ok (.if_icmp .le 24, 3) := by decide +kernel
theorem dX3_takeSymbol_5 : decode cX3_takeSymbol 5 = .ok (.aload_n 0, 1) := by decide +kernel
theorem dX3_takeSymbol_6 : decode cX3_takeSymbol 6 = .ok (.iconst 1, 1) := by decide +kernel
theorem dX3_takeSymbol_7 : decode cX3_takeSymbol 7 = .ok (.putfield 55, 3) := by decide +kernel
theorem dX3_takeSymbol_10 : decode cX3_takeSymbol 10 = .ok (.aload_n 0, 1) := by decide +kernel
theorem dX3_takeSymbol_11 : decode cX3_takeSymbol 11 = .ok (.aload_n 0, 1) := by decide +kernel
theorem dX3_takeSymbol_12 : decode cX3_takeSymbol 12 = .ok (.getfield 29, 3) := by decide +kernel
theorem dX3_takeSymbol_15 : decode cX3_takeSymbol 15 = .ok (.iload_n 1, 1) := by decide +kernel
theorem dX3_takeSymbol_16 : decode cX3_takeSymbol 16 = .ok (.iconst 1, 1) := by decide +kernel
theorem dX3_takeSymbol_17 : decode cX3_takeSymbol 17 = .ok (.isub, 1) := by decide +kernel
theorem dX3_takeSymbol_18 : decode cX3_takeSymbol 18 = .ok (.invokevirtual 117, 3) := by decide +kernel
theorem dX3_takeSymbol_21 : decode cX3_takeSymbol 21 = .ok (.iconst 1, 1) := by decide +kernel
theorem dX3_takeSymbol_22 : decode cX3_takeSymbol 22 = .ok (.invokevirtual 152, 3) := by decide +kernel
theorem dX3_takeSymbol_25 : decode cX3_takeSymbol 25 = .ok (.ireturn, 1) := by decide +kernel
theorem dX3_takeSymbol_26 : decode cX3_takeSymbol 26 = .ok (.aload_n 0, 1) := by decide +kernel
theorem dX3_takeSymbol_27 : decode cX3_takeSymbol 27 = .ok (.getfield 55, 3) := by decide +kernel
theorem dX3_takeSymbol_30 : decode cX3_takeSymbol 30 = .ok (.iload_n 1, 1) := by decide +kernel
theorem dX3_takeSymbol_31 : decode cX3_takeSymbol 31 = .ok (.iconst 1, 1) := by decide +kernel
theorem dX3_takeSymbol_32 : decode cX3_takeSymbol 32 = .ok (.iadd, 1) := by decide +kernel
theorem dX3_takeSymbol_33 : decode cX3_takeSymbol 33 = .ok (.imul, 1) := by decide +kernel
theorem dX3_takeSymbol_34 : decode cX3_takeSymbol 34 = .ok (.istore_n 2, 1) := by decide +kernel
theorem dX3_takeSymbol_35 : decode cX3_takeSymbol 35 = .ok (.aload_n 0, 1) := by decide +kernel
theorem dX3_takeSymbol_36 : decode cX3_takeSymbol 36 = .ok (.dup, 1) := by decide +kernel
theorem dX3_takeSymbol_37 : decode cX3_takeSymbol 37 = .ok (.getfield 55, 3) := by decide +kernel
theorem dX3_takeSymbol_40 : decode cX3_takeSymbol 40 = .ok (.iconst 2, 1) := by decide +kernel
theorem dX3_takeSymbol_41 : decode cX3_takeSymbol 41 = .ok (.imul, 1) := by decide +kernel
theorem dX3_takeSymbol_42 : decode cX3_takeSymbol 42 = .ok (.putfield 55, 3) := by decide +kernel
theorem dX3_takeSymbol_45 : decode cX3_takeSymbol 45 = .ok (.aload_n 0, 1) := by decide +kernel
theorem dX3_takeSymbol_46 : decode cX3_takeSymbol 46 = .ok (.aload_n 0, 1) := by decide +kernel
theorem dX3_takeSymbol_47 : decode cX3_takeSymbol 47 = .ok (.getfield 29, 3) := by decide +kernel
theorem dX3_takeSymbol_50 : decode cX3_takeSymbol 50 = .ok (.iconst 0, 1) := by decide +kernel
theorem dX3_takeSymbol_51 : decode cX3_takeSymbol 51 = .ok (.invokevirtual 117, 3) := by decide +kernel
theorem dX3_takeSymbol_54 : decode cX3_takeSymbol 54 = .ok (.iload_n 2, 1) := by decide +kernel
theorem dX3_takeSymbol_55 : decode cX3_takeSymbol 55 = .ok (.invokevirtual 152, 3) := by decide +kernel
theorem dX3_takeSymbol_58 : decode cX3_takeSymbol 58 = .ok (.ireturn, 1) := by decide +kernel
set_option maxRecDepth 20000 in
theorem ggX3_takeSigns_X5_size : GoodIn wsX3_takeSigns wsX5_size := goodIn_r _ [6, 7, 34, 35] (by decide +kernel) (by decide +kernel)
set_option maxRecDepth 20000 in
theorem gX3_takeSigns_X5_size : GoodIn wsX3_takeSigns (wsV RX3 155 RX5 yX5_size wsX5_size) := goodIn_app (goodIn_of _ (by decide +kernel)) ggX3_takeSigns_X5_size
set_option maxRecDepth 20000 in
theorem ggX3_takeSigns_X3_fail : GoodIn wsX3_takeSigns wsX3_fail := goodIn_r _ [12, 13, 14, 15, 21, 22, 23, 24, 25, 26, 27, 28, 29, 30, 31, 32, 33] (by decide +kernel) (by decide +kernel)
set_option maxRecDepth 20000 in
theorem gX3_takeSigns_X3_fail : GoodIn wsX3_takeSigns (wsV RX3 87 RX3 yX3_fail wsX3_fail) := goodIn_app (goodIn_of _ (by decide +kernel)) ggX3_takeSigns_X3_fail
set_option maxRecDepth 20000 in
theorem ggX3_takeSigns_X5_add : GoodIn wsX3_takeSigns wsX5_add := goodIn_r _ [19, 7, 20, 34, 35] (by decide +kernel) (by decide +kernel)
set_option maxRecDepth 20000 in
theorem gX3_takeSigns_X5_add : GoodIn wsX3_takeSigns (wsV RX3 120 RX5 yX5_add wsX5_add) := goodIn_app (goodIn_of _ (by decide +kernel)) ggX3_takeSigns_X5_add
theorem dX3_takeSigns_0 : decode cX3_takeSigns 0 = .ok (.aload_n 0, 1) := by decide +kernel
theorem dX3_takeSigns_1 : decode cX3_takeSigns 1 = .ok (.getfield 20, 3) := by decide +kernel
theorem dX3_takeSigns_4 : decode cX3_takeSigns 4 = .ok (.invokevirtual 155, 3) := by decide +kernel
theorem dX3_takeSigns_7 : decode cX3_takeSigns 7 = .ok (.iload_n 2, 1) := by decide +kernel
theorem dX3_takeSigns_8 : decode cX3_takeSigns 8 = .ok (.iadd, 1) := by decide +kernel
theorem dX3_takeSigns_9 : decode cX3_takeSigns 9 = .ok (.sipush 300, 3) := by decide +kernel
theorem dX3_takeSigns_12 : decode cX3_takeSigns 12 = .ok (.if_icmp .le 10, 3) := by decide +kernel
theorem dX3_takeSigns_15 : decode cX3_takeSigns 15 = .ok (.aload_n 0, 1) := by decide +kernel
theorem dX3_takeSigns_16 : decode cX3_takeSigns 16 = .ok (.bipush 8, 2) := by decide +kernel
theorem dX3_takeSigns_18 : decode cX3_takeSigns 18 = .ok (.invokevirtual 87, 3) := by decide +kernel
theorem dX3_takeSigns_21 : decode cX3_takeSigns 21 = .ok (.ireturn, 1) := by decide +kernel
theorem dX3_takeSigns_22 : decode cX3_takeSigns 22 = .ok (.iconst 0, 1) := by decide +kernel
theorem dX3_takeSigns_23 : decode cX3_takeSigns 23 = .ok (.istore_n 3, 1) := by decide +kernel
theorem dX3_takeSigns_24 : decode cX3_takeSigns 24 = .ok (.iload_n 3, 1) := by decide +kernel
theorem dX3_takeSigns_25 : decode cX3_takeSigns 25 = .ok (.iload_n 2, 1) := by decide +kernel
theorem dX3_takeSigns_26 : decode cX3_takeSigns 26 = .ok (.if_icmp .ge 17, 3) := by decide +kernel
theorem dX3_takeSigns_29 : decode cX3_takeSigns 29 = .ok (.aload_n 0, 1) := by decide +kernel
theorem dX3_takeSigns_30 : decode cX3_takeSigns 30 = .ok (.getfield 20, 3) := by decide +kernel
theorem dX3_takeSigns_33 : decode cX3_takeSigns 33 = .ok (.iload_n 1, 1) := by decide +kernel
theorem dX3_takeSigns_34 : decode cX3_takeSigns 34 = .ok (.invokevirtual 120, 3) := by decide +kernel
theorem dX3_takeSigns_37 : decode cX3_takeSigns 37 = .ok (.iinc 3 1, 3) := by decide +kernel
theorem dX3_takeSigns_40 : decode cX3_takeSigns 40 = .ok (.goto (-16), 3) := by decide +kernel
theorem dX3_takeSigns_43 : decode cX3_takeSigns 43 = .ok (.iconst 1, 1) := by decide +kernel
theorem dX3_takeSigns_44 : decode cX3_takeSigns 44 = .ok (.ireturn, 1) := by decide +kernel
set_option maxRecDepth 20000 in
theorem ggX3_readEnd_X5_size : GoodIn wsX3_readEnd wsX5_size := goodIn_r _ [9, 10, 34, 35] (by decide +kernel) (by decide +kernel)
set_option maxRecDepth 20000 in
theorem gX3_readEnd_X5_size : GoodIn wsX3_readEnd (wsV RX3 155 RX5 yX5_size wsX5_size) := goodIn_app (goodIn_of _ (by decide +kernel)) ggX3_readEnd_X5_size
set_option maxRecDepth 20000 in
theorem ggX3_readEnd_X3_fail : GoodIn wsX3_readEnd wsX3_fail := goodIn_r _ [15, 16, 3, 17, 21, 22, 23, 24, 25, 26, 27, 28, 29, 30, 31, 32, 33] (by decide +kernel) (by decide +kernel)
set_option maxRecDepth 20000 in
theorem gX3_readEnd_X3_fail : GoodIn wsX3_readEnd (wsV RX3 87 RX3 yX3_fail wsX3_fail) := goodIn_app (goodIn_of _ (by decide +kernel)) ggX3_readEnd_X3_fail
set_option maxRecDepth 20000 in
theorem ggX3_readEnd_X8_groupsFor : GoodIn wsX3_readEnd wsX8_groupsFor := goodIn_r _ [20] (by decide +kernel) (by decide +kernel)
set_option maxRecDepth 20000 in
theorem gX3_readEnd_X8_groupsFor_n156 : GoodIn wsX3_readEnd (wsX8_groupsFor) := ggX3_readEnd_X8_groupsFor
theorem dX3_readEnd_0 : decode cX3_readEnd 0 = .ok (.aload_n 0, 1) := by decide +kernel
theorem dX3_readEnd_1 : decode cX3_readEnd 1 = .ok (.getfield 20, 3) := by decide +kernel
theorem dX3_readEnd_4 : decode cX3_readEnd 4 = .ok (.invokevirtual 155, 3) := by decide +kernel
theorem dX3_readEnd_7 : decode cX3_readEnd 7 = .ok (.ifCond .ne 10, 3) := by decide +kernel
theorem dX3_readEnd_10 : decode cX3_readEnd 10 = .ok (.aload_n 0, 1) := by decide +kernel
theorem dX3_readEnd_11 : decode cX3_readEnd 11 = .ok (.bipush 9, 2) := by decide +kernel
theorem dX3_readEnd_13 : decode cX3_readEnd 13 = .ok (.invokevirtual 87, 3) := by decide +kernel
theorem dX3_readEnd_16 : decode cX3_readEnd 16 = .ok (.ireturn, 1) := by decide +kernel
theorem dX3_readEnd_17 : decode cX3_readEnd 17 = .ok (.iload_n 1, 1) := by decide +kernel
theorem dX3_readEnd_18 : decode cX3_readEnd 18 = .ok (.invokestatic 156, 3) := by decide +kernel
theorem dX3_readEnd_21 : decode cX3_readEnd 21 = .ok (.aload_n 0, 1) := by decide +kernel
theorem dX3_readEnd_22 : decode cX3_readEnd 22 = .ok (.getfield 49, 3) := by decide +kernel
theorem dX3_readEnd_25 : decode cX3_readEnd 25 = .ok (.if_icmp .lt 17, 3) := by decide +kernel
theorem dX3_readEnd_28 : decode cX3_readEnd 28 = .ok (.aload_n 0, 1) := by decide +kernel
theorem dX3_readEnd_29 : decode cX3_readEnd 29 = .ok (.getfield 58, 3) := by decide +kernel
theorem dX3_readEnd_32 : decode cX3_readEnd 32 = .ok (.aload_n 0, 1) := by decide +kernel
theorem dX3_readEnd_33 : decode cX3_readEnd 33 = .ok (.getfield 9, 3) := by decide +kernel
theorem dX3_readEnd_36 : decode cX3_readEnd 36 = .ok (.invokevirtual 155, 3) := by decide +kernel
theorem dX3_readEnd_39 : decode cX3_readEnd 39 = .ok (.if_icmp .ge 10, 3) := by decide +kernel
theorem dX3_readEnd_42 : decode cX3_readEnd 42 = .ok (.aload_n 0, 1) := by decide +kernel
theorem dX3_readEnd_43 : decode cX3_readEnd 43 = .ok (.bipush 10, 2) := by decide +kernel
theorem dX3_readEnd_45 : decode cX3_readEnd 45 = .ok (.invokevirtual 87, 3) := by decide +kernel
theorem dX3_readEnd_48 : decode cX3_readEnd 48 = .ok (.ireturn, 1) := by decide +kernel
theorem dX3_readEnd_49 : decode cX3_readEnd 49 = .ok (.iconst 1, 1) := by decide +kernel
theorem dX3_readEnd_50 : decode cX3_readEnd 50 = .ok (.ireturn, 1) := by decide +kernel
set_option maxRecDepth 20000 in
theorem ggX4_init_X2_init : GoodIn wsX4_init wsX2_init := goodIn_r _ [23, 24, 2, 3, 6, 25, 26, 27, 28, 29, 30, 31, 32, 33, 54, 55, 56, 57, 58, 59, 60, 61, 62] (by decide +kernel) (by decide +kernel)
set_option maxRecDepth 20000 in
theorem gX4_init_X2_init : GoodIn wsX4_init (wsX2_init) := ggX4_init_X2_init
set_option maxRecDepth 20000 in
theorem ggX4_init_X0_init : GoodIn wsX4_init wsX0_init := goodIn_r _ [36, 37, 2, 3, 38, 6, 39, 40, 41, 42, 43, 44, 63, 64, 65, 66, 67, 68, 69] (by decide +kernel) (by decide +kernel)
set_option maxRecDepth 20000 in
theorem gX4_init_X0_init : GoodIn wsX4_init (wsX0_init) := ggX4_init_X0_init
theorem dX4_init_0 : decode cX4_init 0 = .ok (.aload_n 0, 1) := by decide +kernel
theorem dX4_init_1 : decode cX4_init 1 = .ok (.invokespecial 3, 3) := by decide +kernel
theorem dX4_init_4 : decode cX4_init 4 = .ok (.aload_n 0, 1) := by decide +kernel
theorem dX4_init_5 : decode cX4_init 5 = .ok (.aload_n 1, 1) := by decide +kernel
theorem dX4_init_6 : decode cX4_init 6 = .ok (.putfield 9, 3) := by decide +kernel
theorem dX4_init_9 : decode cX4_init 9 = .ok (.aload_n 0, 1) := by decide +kernel
theorem dX4_init_10 : decode cX4_init 10 = .ok (.iconst 5, 1) := by decide +kernel
theorem dX4_init_11 : decode cX4_init 11 = .ok (.bipush 31, 2) := by decide +kernel
theorem dX4_init_13 : decode cX4_init 13 = .ok (.multianewarray 15 2, 4) := by decide +kernel
theorem dX4_init_17 : decode cX4_init 17 = .ok (.putfield 17, 3) := by decide +kernel
theorem dX4_init_20 : decode cX4_init 20 = .ok (.aload_n 0, 1) := by decide +kernel
theorem dX4_init_21 : decode cX4_init 21 = .ok (.bipush 15, 2) := by decide +kernel
theorem dX4_init_23 : decode cX4_init 23 = .ok (.sipush 258, 3) := by decide +kernel
theorem dX4_init_26 : decode cX4_init 26 = .ok (.multianewarray 15 2, 4) := by decide +kernel
theorem dX4_init_30 : decode cX4_init 30 = .ok (.putfield 20, 3) := by decide +kernel
theorem dX4_init_33 : decode cX4_init 33 = .ok (.aload_n 0, 1) := by decide +kernel
theorem dX4_init_34 : decode cX4_init 34 = .ok (.sipush 258, 3) := by decide +kernel
theorem dX4_init_37 : decode cX4_init 37 = .ok (.newarray .int, 2) := by decide +kernel
theorem dX4_init_39 : decode cX4_init 39 = .ok (.putfield 23, 3) := by decide +kernel
theorem dX4_init_42 : decode cX4_init 42 = .ok (.aload_n 0, 1) := by decide +kernel
theorem dX4_init_43 : decode cX4_init 43 = .ok (.new 27, 3) := by decide +kernel
theorem dX4_init_46 : decode cX4_init 46 = .ok (.dup, 1) := by decide +kernel
theorem dX4_init_47 : decode cX4_init 47 = .ok (.invokespecial 29, 3) := by decide +kernel
theorem dX4_init_50 : decode cX4_init 50 = .ok (.putfield 30, 3) := by decide +kernel
theorem dX4_init_53 : decode cX4_init 53 = .ok (.aload_n 0, 1) := by decide +kernel
theorem dX4_init_54 : decode cX4_init 54 = .ok (.iconst 3, 1) := by decide +kernel
theorem dX4_init_55 : decode cX4_init 55 = .ok (.anewarray 34, 3) := by decide +kernel
theorem dX4_init_58 : decode cX4_init 58 = .ok (.putfield 36, 3) := by decide +kernel
theorem dX4_init_61 : decode cX4_init 61 = .ok (.iconst 0, 1) := by decide +kernel
theorem dX4_init_62 : decode cX4_init 62 = .ok (.istore_n 2, 1) := by decide +kernel
theorem dX4_init_63 : decode cX4_init 63 = .ok (.iload_n 2, 1) := by decide +kernel
theorem dX4_init_64 : decode cX4_init 64 = .ok (.iconst 3, 1) := by decide +kernel
theorem dX4_init_65 : decode cX4_init 65 = .ok (.if_icmp .ge 31, 3) := by decide +kernel
theorem dX4_init_68 : decode cX4_init 68 = .ok (.aload_n 0, 1) := by decide +kernel
theorem dX4_init_69 : decode cX4_init 69 = .ok (.getfield 36, 3) := by decide +kernel
theorem dX4_init_72 : decode cX4_init 72 = .ok (.iload_n 2, 1) := by decide +kernel
theorem dX4_init_73 : decode cX4_init 73 = .ok (.new 34, 3) := by decide +kernel
theorem dX4_init_76 : decode cX4_init 76 = .ok (.dup, 1) := by decide +kernel
theorem dX4_init_77 : decode cX4_init 77 = .ok (.aload_n 0, 1) := by decide +kernel
theorem dX4_init_78 : decode cX4_init 78 = .ok (.getfield 20, 3) := by decide +kernel
theorem dX4_init_81 : decode cX4_init 81 = .ok (.bipush 12, 2) := by decide +kernel
theorem dX4_init_83 : decode cX4_init 83 = .ok (.iload_n 2, 1) := by decide +kernel
theorem dX4_init_84 : decode cX4_init 84 = .ok (.iadd, 1) := by decide +kernel
theorem dX4_init_85 : decode cX4_init 85 = .ok (.aaload, 1) := by decide +kernel
theorem dX4_init_86 : decode cX4_init 86 = .ok (.invokespecial 40, 3) := by decide +kernel
theorem dX4_init_89 : decode cX4_init 89 = .ok (.aastore, 1) := by decide +kernel
theorem dX4_init_90 : decode cX4_init 90 = .ok (.iinc 2 1, 3) := by decide +kernel
theorem dX4_init_93 : decode cX4_init 93 = .ok (.goto (-30), 3) := by decide +kernel
theorem dX4_init_96 : decode cX4_init 96 = .ok (.aload_n 0, 1) := by decide +kernel
theorem dX4_init_97 : decode cX4_init 97 = .ok (.iconst 0, 1) := by decide +kernel
theorem dX4_init_98 : decode cX4_init 98 = .ok (.putfield 43, 3) := by decide +kernel
theorem dX4_init_101 : decode cX4_init 101 = .ok (.aload_n 0, 1) := by decide +kernel
theorem dX4_init_102 : decode cX4_init 102 = .ok (.iconst 0, 1) := by decide +kernel
theorem dX4_init_103 : decode cX4_init 103 = .ok (.putfield 47, 3) := by decide +kernel
theorem dX4_init_106 : decode cX4_init 106 = .ok (.aload_n 0, 1) := by decide +kernel
theorem dX4_init_107 : decode cX4_init 107 = .ok (.iconst 0, 1) := by decide +kernel
theorem dX4_init_108 : decode cX4_init 108 = .ok (.putfield 50, 3) := by decide +kernel
theorem dX4_init_111 : decode cX4_init 111 = .ok (.return_, 1) := by decide +kernel
set_option maxRecDepth 20000 in
theorem ggX4_build_X5_size : GoodIn wsX4_build wsX5_size := goodIn_r _ [16, 17, 129, 130] (by decide +kernel) (by decide +kernel)
set_option maxRecDepth 20000 in
theorem gX4_build_X5_size : GoodIn wsX4_build (wsV RX4 59 RX5 yX5_size wsX5_size) := goodIn_app (goodIn_of _ (by decide +kernel)) ggX4_build_X5_size
set_option maxRecDepth 20000 in
theorem ggX4_build_X8_groupsFor : GoodIn wsX4_build wsX8_groupsFor := goodIn_r _ [20] (by decide +kernel) (by decide +kernel)
set_option maxRecDepth 20000 in
theorem gX4_build_X8_groupsFor_n65 : GoodIn wsX4_build (wsX8_groupsFor) := ggX4_build_X8_groupsFor
set_option maxRecDepth 20000 in
theorem ggX4_build_X8_tablesFor : GoodIn wsX4_build wsX8_tablesFor := goodIn_r _ [22] (by decide +kernel) (by decide +kernel)
set_option maxRecDepth 20000 in
theorem gX4_build_X8_tablesFor_n69 : GoodIn wsX4_build (wsX8_tablesFor) := ggX4_build_X8_tablesFor
set_option maxRecDepth 20000 in
theorem ggX4_build_X4_shareKinds : GoodIn wsX4_build wsX4_shareKinds := goodIn_r _ [27, 6, 8, 5, 10, 28, 29, 30, 26, 31, 32, 33, 34, 35, 12, 13, 14, 15, 16, 17, 36, 37, 38, 39, 1, 2, 3, 4, 40, 41, 42, 43, 44, 45, 46, 47, 48, 49, 50, 51, 52, 53, 120, 121, 122, 123, 124, 125, 126, 127, 128, 129, 130] (by decide +kernel) (by decide +kernel)
set_option maxRecDepth 20000 in
theorem gX4_build_X4_shareKinds : GoodIn wsX4_build (wsV RX4 72 RX4 yX4_shareKinds wsX4_shareKinds) := goodIn_app (goodIn_of _ (by decide +kernel)) ggX4_build_X4_shareKinds
set_option maxRecDepth 20000 in
theorem ggX4_build_X4_chooseTables : GoodIn wsX4_build wsX4_chooseTables := goodIn_r _ [57, 7, 8, 58, 45, 46, 47, 26, 48, 49, 59, 60, 61, 62, 6, 1, 2, 3, 4, 5, 12, 13, 14, 15, 16, 17, 40, 41, 42, 43, 44, 120, 121, 122, 123, 124, 125, 126, 127, 128, 129, 130] (by decide +kernel) (by decide +kernel)
set_option maxRecDepth 20000 in
theorem gX4_build_X4_chooseTables : GoodIn wsX4_build (wsV RX4 75 RX4 yX4_chooseTables wsX4_chooseTables) := goodIn_app (goodIn_of _ (by decide +kernel)) ggX4_build_X4_chooseTables
set_option maxRecDepth 20000 in
theorem ggX4_build_X4_weigh : GoodIn wsX4_build wsX4_weigh := goodIn_r _ [66, 7, 58, 5, 10, 67, 68, 3, 69, 32, 33, 34, 26, 35, 36, 37, 38, 39, 6, 1, 2, 4, 12, 13, 14, 15, 16, 17, 40, 41, 42, 43, 44, 120, 121, 122, 123, 124, 125, 126, 127, 128, 129, 130] (by decide +kernel) (by decide +kernel)
set_option maxRecDepth 20000 in
theorem gX4_build_X4_weigh : GoodIn wsX4_build (wsV RX4 79 RX4 yX4_weigh wsX4_weigh) := goodIn_app (goodIn_of _ (by decide +kernel)) ggX4_build_X4_weigh
set_option maxRecDepth 20000 in
theorem ggX4_build_X4_lengthsBehind : GoodIn wsX4_build wsX4_lengthsBehind := goodIn_r _ [48, 49, 120, 121, 122, 123, 124, 125, 126, 127, 128] (by decide +kernel) (by decide +kernel)
set_option maxRecDepth 20000 in
theorem gX4_build_X4_lengthsBehind : GoodIn wsX4_build (wsV RX4 83 RX4 yX4_lengthsBehind wsX4_lengthsBehind) := goodIn_app (goodIn_of _ (by decide +kernel)) ggX4_build_X4_lengthsBehind
set_option maxRecDepth 20000 in
theorem ggX4_build_X2_makeLengths : GoodIn wsX4_build wsX2_makeLengths := goodIn_r _ [74, 75, 2, 3, 4, 76, 77, 78, 68, 69, 79, 80, 81, 82, 73, 83, 84, 85, 86, 87, 88, 89, 90, 91, 92, 93, 94, 95, 96, 97, 98, 99, 100, 101, 131, 132, 133, 134, 135, 136, 137, 138, 139] (by decide +kernel) (by decide +kernel)
set_option maxRecDepth 20000 in
theorem gX4_build_X2_makeLengths : GoodIn wsX4_build (wsV RX4 87 RX2 yX2_makeLengths wsX2_makeLengths) := goodIn_app (goodIn_of _ (by decide +kernel)) ggX4_build_X2_makeLengths
set_option maxRecDepth 20000 in
theorem ggX4_build_X0_settle : GoodIn wsX4_build wsX0_settle := goodIn_r _ [106, 107, 2, 3, 4, 108, 109, 110, 111, 112, 113, 114, 115, 116, 117, 118, 105, 119, 140, 141, 142, 143, 144, 145, 146] (by decide +kernel) (by decide +kernel)
set_option maxRecDepth 20000 in
theorem gX4_build_X0_settle : GoodIn wsX4_build (wsV RX4 91 RX0 yX0_settle wsX0_settle) := goodIn_app (goodIn_of _ (by decide +kernel)) ggX4_build_X0_settle
theorem dX4_build_0 : decode cX4_build 0 = .ok (.aload_n 0, 1) := by decide +kernel
theorem dX4_build_1 : decode cX4_build 1 = .ok (.iload_n 1, 1) := by decide +kernel
theorem dX4_build_2 : decode cX4_build 2 = .ok (.sipush 258, 3) := by decide +kernel
theorem dX4_build_5 : decode cX4_build 5 = .ok (.invokestatic 53, 3) := by decide +kernel
theorem dX4_build_8 : decode cX4_build 8 = .ok (.putfield 43, 3) := by decide +kernel
theorem dX4_build_11 : decode cX4_build 11 = .ok (.aload_n 0, 1) := by decide +kernel
theorem dX4_build_12 : decode cX4_build 12 = .ok (.aload_n 0, 1) := by decide +kernel
theorem dX4_build_13 : decode cX4_build 13 = .ok (.getfield 9, 3) := by decide +kernel
theorem dX4_build_16 : decode cX4_build 16 = .ok (.invokevirtual 59, 3) := by decide +kernel
theorem dX4_build_19 : decode cX4_build 19 = .ok (.invokestatic 65, 3) := by decide +kernel
theorem dX4_build_22 : decode cX4_build 22 = .ok (.bipush 31, 2) := by decide +kernel
theorem dX4_build_24 : decode cX4_build 24 = .ok (.invokestatic 53, 3) := by decide +kernel
theorem dX4_build_27 : decode cX4_build 27 = .ok (.putfield 47, 3) := by decide +kernel
theorem dX4_build_30 : decode cX4_build 30 = .ok (.aload_n 0, 1) := by decide +kernel
theorem dX4_build_31 : decode cX4_build 31 = .ok (.aload_n 0, 1) := by decide +kernel
theorem dX4_build_32 : decode cX4_build 32 = .ok (.getfield 9, 3) := by decide +kernel
theorem dX4_build_35 : decode cX4_build 35 = .ok (.invokevirtual 59, 3) := by decide +kernel
theorem dX4_build_38 : decode cX4_build 38 = .ok (.invokestatic 69, 3) := by decide +kernel
theorem dX4_build_41 : decode cX4_build 41 = .ok (.putfield 50, 3) := by decide +kernel
theorem dX4_build_44 : decode cX4_build 44 = .ok (.aload_n 0, 1) := by decide +kernel
theorem dX4_build_45 : decode cX4_build 45 = .ok (.invokevirtual 72, 3) := by decide +kernel
theorem dX4_build_48 : decode cX4_build 48 = .ok (.iconst 1, 1) := by decide +kernel
theorem dX4_build_49 : decode cX4_build 49 = .ok (.istore_n 2, 1) := by decide +kernel
theorem dX4_build_50 : decode cX4_build 50 = .ok (.iload_n 2, 1) := by decide +kernel
theorem dX4_build_51 : decode cX4_build 51 = .ok (.iconst 4, 1) := by decide +kernel
theorem dX4_build_52 : decode cX4_build 52 = .ok (.if_icmp .gt 57, 3) := by decide +kernel
theorem dX4_build_55 : decode cX4_build 55 = .ok (.aload_n 0, 1) := by decide +kernel
theorem dX4_build_56 : decode cX4_build 56 = .ok (.iload_n 2, 1) := by decide +kernel
theorem dX4_build_57 : decode cX4_build 57 = .ok (.invokevirtual 75, 3) := by decide +kernel
theorem dX4_build_60 : decode cX4_build 60 = .ok (.iconst 0, 1) := by decide +kernel
theorem dX4_build_61 : decode cX4_build 61 = .ok (.istore_n 3, 1) := by decide +kernel
theorem dX4_build_62 : decode cX4_build 62 = .ok (.iload_n 3, 1) := by decide +kernel
theorem dX4_build_63 : decode cX4_build 63 = .ok (.aload_n 0, 1) := by decide +kernel
theorem dX4_build_64 : decode cX4_build 64 = .ok (.getfield 50, 3) := by decide +kernel
theorem dX4_build_67 : decode cX4_build 67 = .ok (.if_icmp .ge 36, 3) := by decide +kernel
theorem dX4_build_70 : decode cX4_build 70 = .ok (.aload_n 0, 1) := by decide +kernel
theorem dX4_build_71 : decode cX4_build 71 = .ok (.iload_n 2, 1) := by decide +kernel
theorem dX4_build_72 : decode cX4_build 72 = .ok (.iload_n 3, 1) := by decide +kernel
theorem dX4_build_73 : decode cX4_build 73 = .ok (.invokevirtual 79, 3) := by decide +kernel
theorem dX4_build_76 : decode cX4_build 76 = .ok (.aload_n 0, 1) := by decide +kernel
theorem dX4_build_77 : decode cX4_build 77 = .ok (.getfield 30, 3) := by decide +kernel
theorem dX4_build_80 : decode cX4_build 80 = .ok (.aload_n 0, 1) := by decide +kernel
theorem dX4_build_81 : decode cX4_build 81 = .ok (.getfield 23, 3) := by decide +kernel
theorem dX4_build_84 : decode cX4_build 84 = .ok (.aload_n 0, 1) := by decide +kernel
theorem dX4_build_85 : decode cX4_build 85 = .ok (.getfield 43, 3) := by decide +kernel
theorem dX4_build_88 : decode cX4_build 88 = .ok (.aload_n 0, 1) := by decide +kernel
theorem dX4_build_89 : decode cX4_build 89 = .ok (.iload_n 2, 1) := by decide +kernel
theorem dX4_build_90 : decode cX4_build 90 = .ok (.iload_n 3, 1) := by decide +kernel
theorem dX4_build_91 : decode cX4_build 91 = .ok (.invokevirtual 83, 3) := by decide +kernel
theorem dX4_build_94 : decode cX4_build 94 = .ok (.invokevirtual 87, 3) := by decide +kernel
theorem dX4_build_97 : decode cX4_build 97 = .ok (.iinc 3 1, 3) := by decide +kernel
theorem dX4_build_100 : decode cX4_build 100 = .ok (.goto (-38), 3) := by decide +kernel
theorem dX4_build_103 : decode cX4_build 103 = .ok (.iinc 2 1, 3) := by decide +kernel
theorem dX4_build_106 : decode cX4_build 106 = .ok (.goto (-56), 3) := by decide +kernel
theorem dX4_build_109 : decode cX4_build 109 = .ok (.iconst 0, 1) := by decide +kernel
theorem dX4_build_110 : decode cX4_build 110 = .ok (.istore_n 2, 1) := by decide +kernel
theorem dX4_build_111 : decode cX4_build 111 = .ok (.iload_n 2, 1) := by decide +kernel
theorem dX4_build_112 : decode cX4_build 112 = .ok (.aload_n 0, 1) := by decide +kernel
theorem dX4_build_113 : decode cX4_build 113 = .ok (.getfield 50, 3) := by decide +kernel
theorem dX4_build_116 : decode cX4_build 116 = .ok (.if_icmp .ge 23, 3) := by decide +kernel
theorem dX4_build_119 : decode cX4_build 119 = .ok (.aload_n 0, 1) := by decide +kernel
theorem dX4_build_120 : decode cX4_build 120 = .ok (.getfield 36, 3) := by decide +kernel
theorem dX4_build_123 : decode cX4_build 123 = .ok (.iload_n 2, 1) := by decide +kernel
theorem dX4_build_124 : decode cX4_build 124 = .ok (.aaload, 1) := by decide +kernel
theorem dX4_build_125 : decode cX4_build 125 = .ok (.aload_n 0, 1) := by decide +kernel
theorem dX4_build_126 : decode cX4_build 126 = .ok (.getfield 43, 3) := by decide +kernel
theorem dX4_build_129 : decode cX4_build 129 = .ok (.invokevirtual 91, 3) := by decide +kernel
theorem dX4_build_132 : decode cX4_build 132 = .ok (.pop, 1) := by decide +kernel
theorem dX4_build_133 : decode cX4_build 133 = .ok (.iinc 2 1, 3) := by decide +kernel
theorem dX4_build_136 : decode cX4_build 136 = .ok (.goto (-25), 3) := by decide +kernel
theorem dX4_build_139 : decode cX4_build 139 = .ok (.return_, 1) := by decide +kernel
theorem dX4_tableOf_0 : decode cX4_tableOf 0 = .ok (.iload_n 1, 1) := by decide +kernel
theorem dX4_tableOf_1 : decode cX4_tableOf 1 = .ok (.iconst 1, 1) := by decide +kernel
theorem dX4_tableOf_2 : decode cX4_tableOf 2 = .ok (.if_icmp .lt 20, 3) := by decide +kernel
theorem dX4_tableOf_5 : decode cX4_tableOf 5 = .ok (.iload_n 1, 1) := by decide +kernel
theorem dX4_tableOf_6 : decode cX4_tableOf 6 = .ok (.iconst 4, 1) := by decide +kernel
theorem dX4_tableOf_7 : decode cX4_tableOf 7 = .ok (.if_icmp .gt 15, 3) := by decide +kernel
theorem dX4_tableOf_10 : decode cX4_tableOf 10 = .ok (.iload_n 2, 1) := by decide +kernel
theorem dX4_tableOf_11 : decode cX4_tableOf 11 = .ok (.ifCond .lt 11, 3) := by decide +kernel
theorem dX4_tableOf_14 : decode cX4_tableOf 14 = .ok (.iload_n 2, 1) := by decide +kernel
theorem dX4_tableOf_15 : decode cX4_tableOf 15 = .ok (.aload_n 0, 1) := by decide +kernel
theorem dX4_tableOf_16 : decode cX4_tableOf 16 = .ok (.getfield 47, 3) := by decide +kernel
theorem dX4_tableOf_19 : decode cX4_tableOf 19 = .ok (.if_icmp .lt 5, 3) := by decide +kernel
theorem dX4_tableOf_22 : decode cX4_tableOf 22 = .ok (.iconst (-1), 1) := by decide +kernel
theorem dX4_tableOf_23 : decode cX4_tableOf 23 = .ok (.ireturn, 1) := by decide +kernel
theorem dX4_tableOf_24 : decode cX4_tableOf 24 = .ok (.aload_n 0, 1) := by decide +kernel
theorem dX4_tableOf_25 : decode cX4_tableOf 25 = .ok (.getfield 17, 3) := by decide +kernel
theorem dX4_tableOf_28 : decode cX4_tableOf 28 = .ok (.iload_n 1, 1) := by decide +kernel
theorem dX4_tableOf_29 : decode cX4_tableOf 29 = .ok (.aaload, 1) := by decide +kernel
theorem dX4_tableOf_30 : decode cX4_tableOf 30 = .ok (.iload_n 2, 1) := by decide +kernel
theorem dX4_tableOf_31 : decode cX4_tableOf 31 = .ok (.iaload, 1) := by decide +kernel
theorem dX4_tableOf_32 : decode cX4_tableOf 32 = .ok (.ireturn, 1) := by decide +kernel
set_option maxRecDepth 20000 in
theorem ggX4_lengthOf_X4_hasKind : GoodIn wsX4_lengthOf wsX4_hasKind := goodIn_r _ [5, 6, 7, 13, 14, 15, 16, 17, 18, 19, 20, 21] (by decide +kernel) (by decide +kernel)
set_option maxRecDepth 20000 in
theorem gX4_lengthOf_X4_hasKind : GoodIn wsX4_lengthOf (wsV RX4 95 RX4 yX4_hasKind wsX4_hasKind) := goodIn_app (goodIn_of _ (by decide +kernel)) ggX4_lengthOf_X4_hasKind
set_option maxRecDepth 20000 in
theorem ggX4_lengthOf_X4_lengthsBehind : GoodIn wsX4_lengthOf wsX4_lengthsBehind := goodIn_r _ [11, 12, 13, 14, 15, 16, 17, 18, 19, 20, 21] (by decide +kernel) (by decide +kernel)
set_option maxRecDepth 20000 in
theorem gX4_lengthOf_X4_lengthsBehind : GoodIn wsX4_lengthOf (wsV RX4 83 RX4 yX4_lengthsBehind wsX4_lengthsBehind) := goodIn_app (goodIn_of _ (by decide +kernel)) ggX4_lengthOf_X4_lengthsBehind
theorem dX4_lengthOf_0 : decode cX4_lengthOf 0 = .ok (.iload_n 1, 1) := by decide +kernel
theorem dX4_lengthOf_1 : decode cX4_lengthOf 1 = .ok (.ifCond .lt 17, 3) := by decide +kernel
theorem dX4_lengthOf_4 : decode cX4_lengthOf 4 = .ok (.iload_n 1, 1) := by decide +kernel
theorem dX4_lengthOf_5 : decode cX4_lengthOf 5 = .ok (.iconst 4, 1) := by decide +kernel
theorem dX4_lengthOf_6 : decode cX4_lengthOf 6 = .ok (.if_icmp .gt 12, 3) := by decide +kernel
theorem dX4_lengthOf_9 : decode cX4_lengthOf 9 = .ok (.aload_n 0, 1) := by decide +kernel
theorem dX4_lengthOf_10 : decode cX4_lengthOf 10 = .ok (.iload_n 2, 1) := by decide +kernel
theorem dX4_lengthOf_11 : decode cX4_lengthOf 11 = .ok (.iload_n 3, 1) := by decide +kernel
theorem dX4_lengthOf_12 : decode cX4_lengthOf 12 = .ok (.invokevirtual 95, 3) := by decide +kernel
theorem dX4_lengthOf_15 : decode cX4_lengthOf 15 = .ok (.ifCond .ne 5, 3) := by decide +kernel
theorem dX4_lengthOf_18 : decode cX4_lengthOf 18 = .ok (.iconst (-1), 1) := by decide +kernel
theorem dX4_lengthOf_19 : decode cX4_lengthOf 19 = .ok (.ireturn, 1) := by decide +kernel
theorem dX4_lengthOf_20 : decode cX4_lengthOf 20 = .ok (.aload_n 0, 1) := by decide +kernel
theorem dX4_lengthOf_21 : decode cX4_lengthOf 21 = .ok (.iload_n 1, 1) := by decide +kernel
theorem dX4_lengthOf_22 : decode cX4_lengthOf 22 = .ok (.iload_n 2, 1) := by decide +kernel
theorem dX4_lengthOf_23 : decode cX4_lengthOf 23 = .ok (.invokevirtual 83, 3) := by decide +kernel
theorem dX4_lengthOf_26 : decode cX4_lengthOf 26 = .ok (.iload_n 3, 1) := by decide +kernel
theorem dX4_lengthOf_27 : decode cX4_lengthOf 27 = .ok (.iaload, 1) := by decide +kernel
theorem dX4_lengthOf_28 : decode cX4_lengthOf 28 = .ok (.ireturn, 1) := by decide +kernel
set_option maxRecDepth 20000 in
theorem ggX4_codeOf_X4_hasKind : GoodIn wsX4_codeOf wsX4_hasKind := goodIn_r _ [6, 7, 8, 16, 17, 18, 19, 20, 21, 22, 23, 24] (by decide +kernel) (by decide +kernel)
set_option maxRecDepth 20000 in
theorem gX4_codeOf_X4_hasKind : GoodIn wsX4_codeOf (wsV RX4 95 RX4 yX4_hasKind wsX4_hasKind) := goodIn_app (goodIn_of _ (by decide +kernel)) ggX4_codeOf_X4_hasKind
set_option maxRecDepth 20000 in
theorem ggX4_codeOf_X0_codeOf : GoodIn wsX4_codeOf wsX0_codeOf := goodIn_r _ [13, 14, 15, 25, 26, 27, 28, 29, 30, 31] (by decide +kernel) (by decide +kernel)
set_option maxRecDepth 20000 in
theorem gX4_codeOf_X0_codeOf : GoodIn wsX4_codeOf (wsV RX4 99 RX0 yX0_codeOf wsX0_codeOf) := goodIn_app (goodIn_of _ (by decide +kernel)) ggX4_codeOf_X0_codeOf
theorem dX4_codeOf_0 : decode cX4_codeOf 0 = .ok (.aload_n 0, 1) := by decide +kernel
theorem dX4_codeOf_1 : decode cX4_codeOf 1 = .ok (.iload_n 1, 1) := by decide +kernel
theorem dX4_codeOf_2 : decode cX4_codeOf 2 = .ok (.iload_n 2, 1) := by decide +kernel
theorem dX4_codeOf_3 : decode cX4_codeOf 3 = .ok (.invokevirtual 95, 3) := by decide +kernel
theorem dX4_codeOf_6 : decode cX4_codeOf 6 = .ok (.ifCond .eq 16, 3) := by decide +kernel
theorem dX4_codeOf_9 : decode cX4_codeOf 9 = .ok (.aload_n 0, 1) := by decide +kernel
theorem dX4_codeOf_10 : decode cX4_codeOf 10 = .ok (.getfield 36, 3) := by decide +kernel
theorem dX4_codeOf_13 : decode cX4_codeOf 13 = .ok (.iload_n 1, 1) := by decide +kernel
theorem dX4_codeOf_14 : decode cX4_codeOf 14 = .ok (.aaload, 1) := by decide +kernel
theorem dX4_codeOf_15 : decode cX4_codeOf 15 = .ok (.iload_n 2, 1) := by decide +kernel
theorem dX4_codeOf_16 : decode cX4_codeOf 16 = .ok (.invokevirtual 99, 3) := by decide +kernel
theorem dX4_codeOf_19 : decode cX4_codeOf 19 = .ok (.goto 4, 3) := by decide +kernel
theorem dX4_codeOf_22 : decode cX4_codeOf 22 = .ok (.iconst (-1), 1) := by decide +kernel
theorem dX4_codeOf_23 : decode cX4_codeOf 23 = .ok (.ireturn, 1) := by decide +kernel
theorem dX4_hasKind_0 : decode cX4_hasKind 0 = .ok (.iload_n 1, 1) := by decide +kernel
theorem dX4_hasKind_1 : decode cX4_hasKind 1 = .ok (.ifCond .lt 27, 3) := by decide +kernel
theorem dX4_hasKind_4 : decode cX4_hasKind 4 = .ok (.iload_n 1, 1) := by decide +kernel
theorem dX4_hasKind_5 : decode cX4_hasKind 5 = .ok (.aload_n 0, 1) := by decide +kernel
theorem dX4_hasKind_6 : decode cX4_hasKind 6 = .ok (.getfield 50, 3) := by decide +kernel
theorem dX4_hasKind_9 : decode cX4_hasKind 9 = .ok (.if_icmp .ge 19, 3) := by decide +kernel
theorem dX4_hasKind_12 : decode cX4_hasKind 12 = .ok (.iload_n 2, 1) := by decide +kernel
theorem dX4_hasKind_13 : decode cX4_hasKind 13 = .ok (.ifCond .lt 15, 3) := by decide +kernel
theorem dX4_hasKind_16 : decode cX4_hasKind 16 = .ok (.iload_n 2, 1) := by decide +kernel
theorem dX4_hasKind_17 : decode cX4_hasKind 17 = .ok (.aload_n 0, 1) := by decide +kernel
theorem dX4_hasKind_18 : decode cX4_hasKind 18 = .ok (.getfield 43, 3) := by decide +kernel
theorem dX4_hasKind_21 : decode cX4_hasKind 21 = .ok (.if_icmp .ge 7, 3) := by decide +kernel
theorem dX4_hasKind_24 : decode cX4_hasKind 24 = .ok (.iconst 1, 1) := by decide +kernel
theorem dX4_hasKind_25 : decode cX4_hasKind 25 = .ok (.goto 4, 3) := by decide +kernel
theorem dX4_hasKind_28 : decode cX4_hasKind 28 = .ok (.iconst 0, 1) := by decide +kernel
theorem dX4_hasKind_29 : decode cX4_hasKind 29 = .ok (.ireturn, 1) := by decide +kernel
theorem dX4_lengthsBehind_0 : decode cX4_lengthsBehind 0 = .ok (.aload_n 0, 1) := by decide +kernel
theorem dX4_lengthsBehind_1 : decode cX4_lengthsBehind 1 = .ok (.getfield 20, 3) := by decide +kernel
theorem dX4_lengthsBehind_4 : decode cX4_lengthsBehind 4 = .ok (.iload_n 1, 1) := by decide +kernel
theorem dX4_lengthsBehind_5 : decode cX4_lengthsBehind 5 = .ok (.iconst 3, 1) := by decide +kernel
theorem dX4_lengthsBehind_6 : decode cX4_lengthsBehind 6 = .ok (.imul, 1) := by decide +kernel
theorem dX4_lengthsBehind_7 : decode cX4_lengthsBehind 7 = .ok (.iload_n 2, 1) := by decide +kernel
theorem dX4_lengthsBehind_8 : decode cX4_lengthsBehind 8 = .ok (.iadd, 1) := by decide +kernel
theorem dX4_lengthsBehind_9 : decode cX4_lengthsBehind 9 = .ok (.aaload, 1) := by decide +kernel
theorem dX4_lengthsBehind_10 : decode cX4_lengthsBehind 10 = .ok (.areturn, 1) := by decide +kernel
set_option maxRecDepth 20000 in
theorem ggX4_shareKinds_X4_weighAll : GoodIn wsX4_shareKinds wsX4_weighAll := goodIn_r _ [9, 1, 10, 11, 12, 8, 13, 3, 4, 14, 15, 16, 17, 18, 19, 20, 21, 22, 23, 24, 25, 26, 27, 28, 29, 30, 31, 32, 42, 43, 44, 45, 46, 47, 48, 49, 50, 51, 52] (by decide +kernel) (by decide +kernel)
set_option maxRecDepth 20000 in
theorem gX4_shareKinds_X4_weighAll : GoodIn wsX4_shareKinds (wsV RX4 102 RX4 yX4_weighAll wsX4_weighAll) := goodIn_app (goodIn_of _ (by decide +kernel)) ggX4_shareKinds_X4_weighAll
set_option maxRecDepth 20000 in
theorem ggX4_shareKinds_X5_size : GoodIn wsX4_shareKinds wsX5_size := goodIn_r _ [18, 19, 51, 52] (by decide +kernel) (by decide +kernel)
set_option maxRecDepth 20000 in
theorem gX4_shareKinds_X5_size : GoodIn wsX4_shareKinds (wsV RX4 59 RX5 yX5_size wsX5_size) := goodIn_app (goodIn_of _ (by decide +kernel)) ggX4_shareKinds_X5_size
set_option maxRecDepth 20000 in
theorem ggX4_shareKinds_X4_lengthsBehind : GoodIn wsX4_shareKinds wsX4_lengthsBehind := goodIn_r _ [36, 37, 42, 43, 44, 45, 46, 47, 48, 49, 50] (by decide +kernel) (by decide +kernel)
set_option maxRecDepth 20000 in
theorem gX4_shareKinds_X4_lengthsBehind : GoodIn wsX4_shareKinds (wsV RX4 83 RX4 yX4_lengthsBehind wsX4_lengthsBehind) := goodIn_app (goodIn_of _ (by decide +kernel)) ggX4_shareKinds_X4_lengthsBehind
set_option maxRecDepth 20000 in
theorem ggX4_shareKinds_X4_startLengths : GoodIn wsX4_shareKinds wsX4_startLengths := goodIn_r _ [41, 3, 42, 43, 44, 45, 46, 47, 48, 49, 50] (by decide +kernel) (by decide +kernel)
set_option maxRecDepth 20000 in
theorem gX4_shareKinds_X4_startLengths : GoodIn wsX4_shareKinds (wsV RX4 105 RX4 yX4_startLengths wsX4_startLengths) := goodIn_app (goodIn_of _ (by decide +kernel)) ggX4_shareKinds_X4_startLengths
theorem dX4_shareKinds_0 : decode cX4_shareKinds 0 = .ok (.aload_n 0, 1) := by decide +kernel
theorem dX4_shareKinds_1 : decode cX4_shareKinds 1 = .ok (.invokevirtual 102, 3) := by decide +kernel
theorem dX4_shareKinds_4 : decode cX4_shareKinds 4 = .ok (.aload_n 0, 1) := by decide +kernel
theorem dX4_shareKinds_5 : decode cX4_shareKinds 5 = .ok (.getfield 9, 3) := by decide +kernel
theorem dX4_shareKinds_8 : decode cX4_shareKinds 8 = .ok (.invokevirtual 59, 3) := by decide +kernel
theorem dX4_shareKinds_11 : decode cX4_shareKinds 11 = .ok (.istore_n 1, 1) := by decide +kernel
theorem dX4_shareKinds_12 : decode cX4_shareKinds 12 = .ok (.iconst 0, 1) := by decide +kernel
theorem dX4_shareKinds_13 : decode cX4_shareKinds 13 = .ok (.istore_n 2, 1) := by decide +kernel
theorem dX4_shareKinds_14 : decode cX4_shareKinds 14 = .ok (.iconst 0, 1) := by decide +kernel
theorem dX4_shareKinds_15 : decode cX4_shareKinds 15 = .ok (.istore_n 3, 1) := by decide +kernel
theorem dX4_shareKinds_16 : decode cX4_shareKinds 16 = .ok (.iload_n 3, 1) := by decide +kernel
theorem dX4_shareKinds_17 : decode cX4_shareKinds 17 = .ok (.aload_n 0, 1) := by decide +kernel
theorem dX4_shareKinds_18 : decode cX4_shareKinds 18 = .ok (.getfield 50, 3) := by decide +kernel
theorem dX4_shareKinds_21 : decode cX4_shareKinds 21 = .ok (.if_icmp .ge 75, 3) := by decide +kernel
theorem dX4_shareKinds_24 : decode cX4_shareKinds 24 = .ok (.iload_n 1, 1) := by decide +kernel
theorem dX4_shareKinds_25 : decode cX4_shareKinds 25 = .ok (.aload_n 0, 1) := by decide +kernel
theorem dX4_shareKinds_26 : decode cX4_shareKinds 26 = .ok (.getfield 50, 3) := by decide +kernel
theorem dX4_shareKinds_29 : decode cX4_shareKinds 29 = .ok (.iload_n 3, 1) := by decide +kernel
theorem dX4_shareKinds_30 : decode cX4_shareKinds 30 = .ok (.isub, 1) := by decide +kernel
theorem dX4_shareKinds_31 : decode cX4_shareKinds 31 = .ok (.idiv, 1) := by decide +kernel
theorem dX4_shareKinds_32 : decode cX4_shareKinds 32 = .ok (.istore 4, 2) := by decide +kernel
theorem dX4_shareKinds_34 : decode cX4_shareKinds 34 = .ok (.iload_n 2, 1) := by decide +kernel
theorem dX4_shareKinds_35 : decode cX4_shareKinds 35 = .ok (.istore 5, 2) := by decide +kernel
theorem dX4_shareKinds_37 : decode cX4_shareKinds 37 = .ok (.iconst 0, 1) := by decide +kernel
theorem dX4_shareKinds_38 : decode cX4_shareKinds 38 = .ok (.istore 6, 2) := by decide +kernel
theorem dX4_shareKinds_40 : decode cX4_shareKinds 40 = .ok (.iload_n 2, 1) := by decide +kernel
theorem dX4_shareKinds_41 : decode cX4_shareKinds 41 = .ok (.aload_n 0, 1) := by decide +kernel
theorem dX4_shareKinds_42 : decode cX4_shareKinds 42 = .ok (.getfield 43, 3) := by decide +kernel
theorem dX4_shareKinds_45 : decode cX4_shareKinds 45 = .ok (.if_icmp .ge 27, 3) := by decide +kernel
theorem dX4_shareKinds_48 : decode cX4_shareKinds 48 = .ok (.iload 6, 2) := by decide +kernel
theorem dX4_shareKinds_50 : decode cX4_shareKinds 50 = .ok (.iload 4, 2) := by decide +kernel
theorem dX4_shareKinds_52 : decode cX4_shareKinds 52 = .ok (.if_icmp .ge 20, 3) := by decide +kernel
theorem dX4_shareKinds_55 : decode cX4_shareKinds 55 = .ok (.iload 6, 2) := by decide +kernel
theorem dX4_shareKinds_57 : decode cX4_shareKinds 57 = .ok (.aload_n 0, 1) := by decide +kernel
theorem dX4_shareKinds_58 : decode cX4_shareKinds 58 = .ok (.getfield 23, 3) := by decide +kernel
theorem dX4_shareKinds_61 : decode cX4_shareKinds 61 = .ok (.iload_n 2, 1) := by decide +kernel
theorem dX4_shareKinds_62 : decode cX4_shareKinds 62 = .ok (.iaload, 1) := by decide +kernel
theorem dX4_shareKinds_63 : decode cX4_shareKinds 63 = .ok (.iadd, 1) := by decide +kernel
theorem dX4_shareKinds_64 : decode cX4_shareKinds 64 = .ok (.istore 6, 2) := by decide +kernel
theorem dX4_shareKinds_66 : decode cX4_shareKinds 66 = .ok (.iinc 2 1, 3) := by decide +kernel
theorem dX4_shareKinds_69 : decode cX4_shareKinds 69 = .ok (.goto (-29), 3) := by decide +kernel
theorem dX4_shareKinds_72 : decode cX4_shareKinds 72 = .ok (.aload_n 0, 1) := by decide +kernel
theorem dX4_shareKinds_73 : decode cX4_shareKinds 73 = .ok (.aload_n 0, 1) := by decide +kernel
theorem dX4_shareKinds_74 : decode cX4_shareKinds 74 = .ok (.iconst 0, 1) := by decide +kernel
theorem dX4_shareKinds_75 : decode cX4_shareKinds 75 = .ok (.iload_n 3, 1) := by decide +kernel
theorem dX4_shareKinds_76 : decode cX4_shareKinds 76 = .ok (.invokevirtual 83, 3) := by decide +kernel
theorem dX4_shareKinds_79 : decode cX4_shareKinds 79 = .ok (.iload 5, 2) := by decide +kernel
theorem dX4_shareKinds_81 : decode cX4_shareKinds 81 = .ok (.iload_n 2, 1) := by decide +kernel
theorem dX4_shareKinds_82 : decode cX4_shareKinds 82 = .ok (.invokevirtual 105, 3) := by decide +kernel
theorem dX4_shareKinds_85 : decode cX4_shareKinds 85 = .ok (.iload_n 1, 1) := by decide +kernel
theorem dX4_shareKinds_86 : decode cX4_shareKinds 86 = .ok (.iload 6, 2) := by decide +kernel
theorem dX4_shareKinds_88 : decode cX4_shareKinds 88 = .ok (.isub, 1) := by decide +kernel
theorem dX4_shareKinds_89 : decode cX4_shareKinds 89 = .ok (.istore_n 1, 1) := by decide +kernel
theorem dX4_shareKinds_90 : decode cX4_shareKinds 90 = .ok (.iinc 3 1, 3) := by decide +kernel
theorem dX4_shareKinds_93 : decode cX4_shareKinds 93 = .ok (.goto (-77), 3) := by decide +kernel
theorem dX4_shareKinds_96 : decode cX4_shareKinds 96 = .ok (.return_, 1) := by decide +kernel
theorem dX4_startLengths_0 : decode cX4_startLengths 0 = .ok (.iconst 0, 1) := by decide +kernel
theorem dX4_startLengths_1 : decode cX4_startLengths 1 = .ok (.istore 4, 2) := by decide +kernel
theorem dX4_startLengths_3 : decode cX4_startLengths 3 = .ok (.iload 4, 2) := by decide +kernel
theorem dX4_startLengths_5 : decode cX4_startLengths 5 = .ok (.aload_n 0, 1) := by decide +kernel
theorem dX4_startLengths_6 : decode cX4_startLengths 6 = .ok (.getfield 43, 3) := by decide +kernel
theorem dX4_startLengths_9 : decode cX4_startLengths 9 = .ok (.if_icmp .ge 31, 3) := by decide +kernel
theorem dX4_startLengths_12 : decode cX4_startLengths 12 = .ok (.aload_n 1, 1) := by decide +kernel
theorem dX4_startLengths_13 : decode cX4_startLengths 13 = .ok (.iload 4, 2) := by decide +kernel
theorem dX4_startLengths_15 : decode cX4_startLengths 15 = .ok (.iload 4, 2) := by decide +kernel
theorem dX4_startLengths_17 : decode cX4_startLengths 17 = .ok (.iload_n 2, 1) := by decide +kernel
theorem dX4_startLengths_18 : decode cX4_startLengths 18 = .ok (.if_icmp .lt 13, 3) := by decide +kernel
theorem dX4_startLengths_21 : decode cX4_startLengths 21 = .ok (.iload 4, 2) := by decide +kernel
theorem dX4_startLengths_23 : decode cX4_startLengths 23 = .ok (.iload_n 3, 1) := by decide +kernel
theorem dX4_startLengths_24 : decode cX4_startLengths 24 = .ok (.if_icmp .ge 7, 3) := by decide +kernel
theorem dX4_startLengths_27 : decode cX4_startLengths 27 = .ok (.iconst 1, 1) := by decide +kernel
theorem dX4_startLengths_28 : decode cX4_startLengths 28 = .ok (.goto 5, 3) := by decide +kernel
theorem dX4_startLengths_31 : decode cX4_startLengths 31 = .ok (.bipush 9, 2) := by decide +kernel
theorem dX4_startLengths_33 : decode cX4_startLengths 33 = .ok (.iastore, 1) := by decide +kernel
theorem dX4_startLengths_34 : decode cX4_startLengths 34 = .ok (.iinc 4 1, 3) := by decide +kernel
theorem dX4_startLengths_37 : decode cX4_startLengths 37 = .ok (.goto (-34), 3) := by decide +kernel
theorem dX4_startLengths_40 : decode cX4_startLengths 40 = .ok (.return_, 1) := by decide +kernel
set_option maxRecDepth 20000 in
theorem ggX4_chooseTables_X4_lengthsBehind : GoodIn wsX4_chooseTables wsX4_lengthsBehind := goodIn_r _ [8, 9, 31, 32, 33, 34, 35, 36, 37, 38, 39] (by decide +kernel) (by decide +kernel)
set_option maxRecDepth 20000 in
theorem gX4_chooseTables_X4_lengthsBehind : GoodIn wsX4_chooseTables (wsV RX4 83 RX4 yX4_lengthsBehind wsX4_lengthsBehind) := goodIn_app (goodIn_of _ (by decide +kernel)) ggX4_chooseTables_X4_lengthsBehind
set_option maxRecDepth 20000 in
theorem ggX4_chooseTables_X4_bitsOfGroup : GoodIn wsX4_chooseTables wsX4_bitsOfGroup := goodIn_r _ [13, 14, 15, 16, 17, 18, 19, 20, 21, 22, 23, 24, 25, 26, 27, 28, 29, 30, 31, 32, 33, 34, 35, 36, 37, 38, 39, 40, 41] (by decide +kernel) (by decide +kernel)
set_option maxRecDepth 20000 in
theorem gX4_chooseTables_X4_bitsOfGroup : GoodIn wsX4_chooseTables (wsV RX4 109 RX4 yX4_bitsOfGroup wsX4_bitsOfGroup) := goodIn_app (goodIn_of _ (by decide +kernel)) ggX4_chooseTables_X4_bitsOfGroup
theorem dX4_chooseTables_0 : decode cX4_chooseTables 0 = .ok (.iconst 0, 1) := by decide +kernel
theorem dX4_chooseTables_1 : decode cX4_chooseTables 1 = .ok (.istore_n 2, 1) := by decide +kernel
theorem dX4_chooseTables_2 : decode cX4_chooseTables 2 = .ok (.iload_n 2, 1) := by decide +kernel
theorem dX4_chooseTables_3 : decode cX4_chooseTables 3 = .ok (.aload_n 0, 1) := by decide +kernel
theorem dX4_chooseTables_4 : decode cX4_chooseTables 4 = .ok (.getfield 47, 3) := by decide +kernel
theorem dX4_chooseTables_7 : decode cX4_chooseTables 7 = .ok (.if_icmp .ge 83, 3) := by decide +kernel
theorem dX4_chooseTables_10 : decode cX4_chooseTables 10 = .ok (.iconst 0, 1) := by decide +kernel
theorem dX4_chooseTables_11 : decode cX4_chooseTables 11 = .ok (.istore_n 3, 1) := by decide +kernel
theorem dX4_chooseTables_12 : decode cX4_chooseTables 12 = .ok (.aload_n 0, 1) := by decide +kernel
theorem dX4_chooseTables_13 : decode cX4_chooseTables 13 = .ok (.iload_n 2, 1) := by decide +kernel
theorem dX4_chooseTables_14 : decode cX4_chooseTables 14 = .ok (.aload_n 0, 1) := by decide +kernel
theorem dX4_chooseTables_15 : decode cX4_chooseTables 15 = .ok (.iload_n 1, 1) := by decide +kernel
theorem dX4_chooseTables_16 : decode cX4_chooseTables 16 = .ok (.iconst 1, 1) := by decide +kernel
theorem dX4_chooseTables_17 : decode cX4_chooseTables 17 = .ok (.isub, 1) := by decide +kernel
theorem dX4_chooseTables_18 : decode cX4_chooseTables 18 = .ok (.iconst 0, 1) := by decide +kernel
theorem dX4_chooseTables_19 : decode cX4_chooseTables 19 = .ok (.invokevirtual 83, 3) := by decide +kernel
theorem dX4_chooseTables_22 : decode cX4_chooseTables 22 = .ok (.invokevirtual 109, 3) := by decide +kernel
theorem dX4_chooseTables_25 : decode cX4_chooseTables 25 = .ok (.istore 4, 2) := by decide +kernel
theorem dX4_chooseTables_27 : decode cX4_chooseTables 27 = .ok (.iconst 1, 1) := by decide +kernel
theorem dX4_chooseTables_28 : decode cX4_chooseTables 28 = .ok (.istore 5, 2) := by decide +kernel
theorem dX4_chooseTables_30 : decode cX4_chooseTables 30 = .ok (.iload 5, 2) := by decide +kernel
theorem dX4_chooseTables_32 : decode cX4_chooseTables 32 = .ok (.aload_n 0, 1) := by decide +kernel
theorem dX4_chooseTables_33 : decode cX4_chooseTables 33 = .ok (.getfield 50, 3) := by decide +kernel
theorem dX4_chooseTables_36 : decode cX4_chooseTables 36 = .ok (.if_icmp .ge 39, 3) := by decide +kernel
theorem dX4_chooseTables_39 : decode cX4_chooseTables 39 = .ok (.aload_n 0, 1) := by decide +kernel
theorem dX4_chooseTables_40 : decode cX4_chooseTables 40 = .ok (.iload_n 2, 1) := by decide +kernel
theorem dX4_chooseTables_41 : decode cX4_chooseTables 41 = .ok (.aload_n 0, 1) := by decide +kernel
theorem dX4_chooseTables_42 : decode cX4_chooseTables 42 = .ok (.iload_n 1, 1) := by decide +kernel
theorem dX4_chooseTables_43 : decode cX4_chooseTables 43 = .ok (.iconst 1, 1) := by decide +kernel
theorem dX4_chooseTables_44 : decode cX4_chooseTables 44 = .ok (.isub, 1) := by decide +kernel
theorem dX4_chooseTables_45 : decode cX4_chooseTables 45 = .ok (.iload 5, 2) := by decide +kernel
theorem dX4_chooseTables_47 : decode cX4_chooseTables 47 = .ok (.invokevirtual 83, 3) := by decide +kernel
theorem dX4_chooseTables_50 : decode cX4_chooseTables 50 = .ok (.invokevirtual 109, 3) := by decide +kernel
theorem dX4_chooseTables_53 : decode cX4_chooseTables 53 = .ok (.istore 6, 2) := by decide +kernel
theorem dX4_chooseTables_55 : decode cX4_chooseTables 55 = .ok (.iload 6, 2) := by decide +kernel
theorem dX4_chooseTables_57 : decode cX4_chooseTables 57 = .ok (.iload 4, 2) := by decide +kernel
theorem dX4_chooseTables_59 : decode cX4_chooseTables 59 = .ok (.if_icmp .ge 10, 3) := by decide +kernel
theorem dX4_chooseTables_62 : decode cX4_chooseTables 62 = .ok (.iload 5, 2) := by decide +kernel
theorem dX4_chooseTables_64 : decode cX4_chooseTables 64 = .ok (.istore_n 3, 1) := by decide +kernel
theorem dX4_chooseTables_65 : decode cX4_chooseTables 65 = .ok (.iload 6, 2) := by decide +kernel
theorem dX4_chooseTables_67 : decode cX4_chooseTables 67 = .ok (.istore 4, 2) := by decide +kernel
theorem dX4_chooseTables_69 : decode cX4_chooseTables 69 = .ok (.iinc 5 1, 3) := by decide +kernel
theorem dX4_chooseTables_72 : decode cX4_chooseTables 72 = .ok (.goto (-42), 3) := by decide +kernel
theorem dX4_chooseTables_75 : decode cX4_chooseTables 75 = .ok (.aload_n 0, 1) := by decide +kernel
theorem dX4_chooseTables_76 : decode cX4_chooseTables 76 = .ok (.getfield 17, 3) := by decide +kernel
theorem dX4_chooseTables_79 : decode cX4_chooseTables 79 = .ok (.iload_n 1, 1) := by decide +kernel
theorem dX4_chooseTables_80 : decode cX4_chooseTables 80 = .ok (.aaload, 1) := by decide +kernel
theorem dX4_chooseTables_81 : decode cX4_chooseTables 81 = .ok (.iload_n 2, 1) := by decide +kernel
theorem dX4_chooseTables_82 : decode cX4_chooseTables 82 = .ok (.iload_n 3, 1) := by decide +kernel
theorem dX4_chooseTables_83 : decode cX4_chooseTables 83 = .ok (.iastore, 1) := by decide +kernel
theorem dX4_chooseTables_84 : decode cX4_chooseTables 84 = .ok (.iinc 2 1, 3) := by decide +kernel
theorem dX4_chooseTables_87 : decode cX4_chooseTables 87 = .ok (.goto (-85), 3) := by decide +kernel
theorem dX4_chooseTables_90 : decode cX4_chooseTables 90 = .ok (.return_, 1) := by decide +kernel
set_option maxRecDepth 20000 in
theorem ggX4_bitsOfGroup_X5_size : GoodIn wsX4_bitsOfGroup wsX5_size := goodIn_r _ [11, 12, 27, 28] (by decide +kernel) (by decide +kernel)
set_option maxRecDepth 20000 in
theorem gX4_bitsOfGroup_X5_size : GoodIn wsX4_bitsOfGroup (wsV RX4 59 RX5 yX5_size wsX5_size) := goodIn_app (goodIn_of _ (by decide +kernel)) ggX4_bitsOfGroup_X5_size
set_option maxRecDepth 20000 in
theorem ggX4_bitsOfGroup_X5_get : GoodIn wsX4_bitsOfGroup wsX5_get := goodIn_r _ [16, 12, 17, 27, 28] (by decide +kernel) (by decide +kernel)
set_option maxRecDepth 20000 in
theorem gX4_bitsOfGroup_X5_get : GoodIn wsX4_bitsOfGroup (wsV RX4 113 RX5 yX5_get wsX5_get) := goodIn_app (goodIn_of _ (by decide +kernel)) ggX4_bitsOfGroup_X5_get
theorem dX4_bitsOfGroup_0 : decode cX4_bitsOfGroup 0 = .ok (.iload_n 1, 1) := by decide +kernel
theorem dX4_bitsOfGroup_1 : decode cX4_bitsOfGroup 1 = .ok (.iconst 1, 1) := by decide +kernel
theorem dX4_bitsOfGroup_2 : decode cX4_bitsOfGroup 2 = .ok (.iadd, 1) := by decide +kernel
theorem dX4_bitsOfGroup_3 : decode cX4_bitsOfGroup 3 = .ok (.bipush 10, 2) := by decide +kernel
theorem dX4_bitsOfGroup_5 : decode cX4_bitsOfGroup 5 = .ok (.imul, 1) := by decide +kernel
theorem dX4_bitsOfGroup_6 : decode cX4_bitsOfGroup 6 = .ok (.aload_n 0, 1) := by decide +kernel
theorem dX4_bitsOfGroup_7 : decode cX4_bitsOfGroup 7 = .ok (.getfield 9, 3) := by decide +kernel
theorem dX4_bitsOfGroup_10 : decode cX4_bitsOfGroup 10 = .ok (.invokevirtual 59, 3) := by decide +kernel
theorem dX4_bitsOfGroup_13 : decode cX4_bitsOfGroup 13 = .ok (.invokestatic 53, 3) := by decide +kernel
theorem dX4_bitsOfGroup_16 : decode cX4_bitsOfGroup 16 = .ok (.istore_n 3, 1) := by decide +kernel
theorem dX4_bitsOfGroup_17 : decode cX4_bitsOfGroup 17 = .ok (.iconst 0, 1) := by decide +kernel
theorem dX4_bitsOfGroup_18 : decode cX4_bitsOfGroup 18 = .ok (.istore 4, 2) := by decide +kernel
theorem dX4_bitsOfGroup_20 : decode cX4_bitsOfGroup 20 = .ok (.iload_n 1, 1) := by decide +kernel
theorem dX4_bitsOfGroup_21 : decode cX4_bitsOfGroup 21 = .ok (.bipush 10, 2) := by decide +kernel
theorem dX4_bitsOfGroup_23 : decode cX4_bitsOfGroup 23 = .ok (.imul, 1) := by decide +kernel
theorem dX4_bitsOfGroup_24 : decode cX4_bitsOfGroup 24 = .ok (.istore 5, 2) := by decide +kernel
theorem dX4_bitsOfGroup_26 : decode cX4_bitsOfGroup 26 = .ok (.iload 5, 2) := by decide +kernel
theorem dX4_bitsOfGroup_28 : decode cX4_bitsOfGroup 28 = .ok (.iload_n 3, 1) := by decide +kernel
theorem dX4_bitsOfGroup_29 : decode cX4_bitsOfGroup 29 = .ok (.if_icmp .ge 43, 3) := by decide +kernel
theorem dX4_bitsOfGroup_32 : decode cX4_bitsOfGroup 32 = .ok (.aload_n 0, 1) := by decide +kernel
theorem dX4_bitsOfGroup_33 : decode cX4_bitsOfGroup 33 = .ok (.getfield 9, 3) := by decide +kernel
theorem dX4_bitsOfGroup_36 : decode cX4_bitsOfGroup 36 = .ok (.iload 5, 2) := by decide +kernel
theorem dX4_bitsOfGroup_38 : decode cX4_bitsOfGroup 38 = .ok (.invokevirtual 113, 3) := by decide +kernel
theorem dX4_bitsOfGroup_41 : decode cX4_bitsOfGroup 41 = .ok (.istore 6, 2) := by decide +kernel
theorem dX4_bitsOfGroup_43 : decode cX4_bitsOfGroup 43 = .ok (.iload 6, 2) := by decide +kernel
theorem dX4_bitsOfGroup_45 : decode cX4_bitsOfGroup 45 = .ok (.ifCond .lt 21, 3) := by decide +kernel
theorem dX4_bitsOfGroup_48 : decode cX4_bitsOfGroup 48 = .ok (.iload 6, 2) := by decide +kernel
theorem dX4_bitsOfGroup_50 : decode cX4_bitsOfGroup 50 = .ok (.aload_n 0, 1) := by decide +kernel
theorem dX4_bitsOfGroup_51 : decode cX4_bitsOfGroup 51 = .ok (.getfield 43, 3) := by decide +kernel
theorem dX4_bitsOfGroup_54 : decode cX4_bitsOfGroup 54 = .ok (.if_icmp .ge 12, 3) := by decide +kernel
theorem dX4_bitsOfGroup_57 : decode cX4_bitsOfGroup 57 = .ok (.iload 4, 2) := by decide +kernel
theorem dX4_bitsOfGroup_59 : decode cX4_bitsOfGroup 59 = .ok (.aload_n 2, 1) := by decide +kernel
theorem dX4_bitsOfGroup_60 : decode cX4_bitsOfGroup 60 = .ok (.iload 6, 2) := by decide +kernel
theorem dX4_bitsOfGroup_62 : decode cX4_bitsOfGroup 62 = .ok (.iaload, 1) := by decide +kernel
theorem dX4_bitsOfGroup_63 : decode cX4_bitsOfGroup 63 = .ok (.iadd, 1) := by decide +kernel
theorem dX4_bitsOfGroup_64 : decode cX4_bitsOfGroup 64 = .ok (.istore 4, 2) := by decide +kernel
theorem dX4_bitsOfGroup_66 : decode cX4_bitsOfGroup 66 = .ok (.iinc 5 1, 3) := by decide +kernel
theorem dX4_bitsOfGroup_69 : decode cX4_bitsOfGroup 69 = .ok (.goto (-43), 3) := by decide +kernel
theorem dX4_bitsOfGroup_72 : decode cX4_bitsOfGroup 72 = .ok (.iload 4, 2) := by decide +kernel
theorem dX4_bitsOfGroup_74 : decode cX4_bitsOfGroup 74 = .ok (.ireturn, 1) := by decide +kernel
set_option maxRecDepth 20000 in
theorem ggX4_weigh_X4_clearWeights : GoodIn wsX4_weigh wsX4_clearWeights := goodIn_r _ [13, 3, 4, 33, 34, 35, 36, 37, 38, 39, 40, 41] (by decide +kernel) (by decide +kernel)
set_option maxRecDepth 20000 in
theorem gX4_weigh_X4_clearWeights : GoodIn wsX4_weigh (wsV RX4 116 RX4 yX4_clearWeights wsX4_clearWeights) := goodIn_app (goodIn_of _ (by decide +kernel)) ggX4_weigh_X4_clearWeights
set_option maxRecDepth 20000 in
theorem ggX4_weigh_X4_weighSymbols : GoodIn wsX4_weigh wsX4_weighSymbols := goodIn_r _ [17, 18, 19, 20, 7, 21, 3, 4, 22, 23, 24, 25, 26, 27, 28, 29, 30, 31, 32, 33, 34, 35, 36, 37, 38, 39, 40, 41, 42, 43] (by decide +kernel) (by decide +kernel)
set_option maxRecDepth 20000 in
theorem gX4_weigh_X4_weighSymbols : GoodIn wsX4_weigh (wsV RX4 119 RX4 yX4_weighSymbols wsX4_weighSymbols) := goodIn_app (goodIn_of _ (by decide +kernel)) ggX4_weigh_X4_weighSymbols
theorem dX4_weigh_0 : decode cX4_weigh 0 = .ok (.aload_n 0, 1) := by decide +kernel
theorem dX4_weigh_1 : decode cX4_weigh 1 = .ok (.invokevirtual 116, 3) := by decide +kernel
theorem dX4_weigh_4 : decode cX4_weigh 4 = .ok (.iconst 0, 1) := by decide +kernel
theorem dX4_weigh_5 : decode cX4_weigh 5 = .ok (.istore_n 3, 1) := by decide +kernel
theorem dX4_weigh_6 : decode cX4_weigh 6 = .ok (.iload_n 3, 1) := by decide +kernel
theorem dX4_weigh_7 : decode cX4_weigh 7 = .ok (.aload_n 0, 1) := by decide +kernel
theorem dX4_weigh_8 : decode cX4_weigh 8 = .ok (.getfield 47, 3) := by decide +kernel
theorem dX4_weigh_11 : decode cX4_weigh 11 = .ok (.if_icmp .ge 35, 3) := by decide +kernel
theorem dX4_weigh_14 : decode cX4_weigh 14 = .ok (.aload_n 0, 1) := by decide +kernel
theorem dX4_weigh_15 : decode cX4_weigh 15 = .ok (.getfield 17, 3) := by decide +kernel
theorem dX4_weigh_18 : decode cX4_weigh 18 = .ok (.iload_n 1, 1) := by decide +kernel
theorem dX4_weigh_19 : decode cX4_weigh 19 = .ok (.aaload, 1) := by decide +kernel
theorem dX4_weigh_20 : decode cX4_weigh 20 = .ok (.iload_n 3, 1) := by decide +kernel
theorem dX4_weigh_21 : decode cX4_weigh 21 = .ok (.iaload, 1) := by decide +kernel
theorem dX4_weigh_22 : decode cX4_weigh 22 = .ok (.iload_n 2, 1) := by decide +kernel
theorem dX4_weigh_23 : decode cX4_weigh 23 = .ok (.if_icmp .ne 17, 3) := by decide +kernel
theorem dX4_weigh_26 : decode cX4_weigh 26 = .ok (.aload_n 0, 1) := by decide +kernel
theorem dX4_weigh_27 : decode cX4_weigh 27 = .ok (.iload_n 3, 1) := by decide +kernel
theorem dX4_weigh_28 : decode cX4_weigh 28 = .ok (.bipush 10, 2) := by decide +kernel
theorem dX4_weigh_30 : decode cX4_weigh 30 = .ok (.imul, 1) := by decide +kernel
theorem dX4_weigh_31 : decode cX4_weigh 31 = .ok (.iload_n 3, 1) := by decide +kernel
theorem dX4_weigh_32 : decode cX4_weigh 32 = .ok (.iconst 1, 1) := by decide +kernel
theorem dX4_weigh_33 : decode cX4_weigh 33 = .ok (.iadd, 1) := by decide +kernel
theorem dX4_weigh_34 : decode cX4_weigh 34 = .ok (.bipush 10, 2) := by decide +kernel
theorem dX4_weigh_36 : decode cX4_weigh 36 = .ok (.imul, 1) := by decide +kernel
theorem dX4_weigh_37 : decode cX4_weigh 37 = .ok (.invokevirtual 119, 3) := by decide +kernel
theorem dX4_weigh_40 : decode cX4_weigh 40 = .ok (.iinc 3 1, 3) := by decide +kernel
theorem dX4_weigh_43 : decode cX4_weigh 43 = .ok (.goto (-37), 3) := by decide +kernel
theorem dX4_weigh_46 : decode cX4_weigh 46 = .ok (.iconst 0, 1) := by decide +kernel
theorem dX4_weigh_47 : decode cX4_weigh 47 = .ok (.istore_n 3, 1) := by decide +kernel
theorem dX4_weigh_48 : decode cX4_weigh 48 = .ok (.iload_n 3, 1) := by decide +kernel
theorem dX4_weigh_49 : decode cX4_weigh 49 = .ok (.aload_n 0, 1) := by decide +kernel
theorem dX4_weigh_50 : decode cX4_weigh 50 = .ok (.getfield 43, 3) := by decide +kernel
theorem dX4_weigh_53 : decode cX4_weigh 53 = .ok (.if_icmp .ge 25, 3) := by decide +kernel
theorem dX4_weigh_56 : decode cX4_weigh 56 = .ok (.aload_n 0, 1) := by decide +kernel
theorem dX4_weigh_57 : decode cX4_weigh 57 = .ok (.getfield 23, 3) := by decide +kernel
theorem dX4_weigh_60 : decode cX4_weigh 60 = .ok (.iload_n 3, 1) := by decide +kernel
theorem dX4_weigh_61 : decode cX4_weigh 61 = .ok (.iconst 1, 1) := by decide +kernel
theorem dX4_weigh_62 : decode cX4_weigh 62 = .ok (.aload_n 0, 1) := by decide +kernel
theorem dX4_weigh_63 : decode cX4_weigh 63 = .ok (.getfield 23, 3) := by decide +kernel
theorem dX4_weigh_66 : decode cX4_weigh 66 = .ok (.iload_n 3, 1) := by decide +kernel
theorem dX4_weigh_67 : decode cX4_weigh 67 = .ok (.iaload, 1) := by decide +kernel
theorem dX4_weigh_68 : decode cX4_weigh 68 = .ok (.invokestatic 122, 3) := by decide +kernel
theorem dX4_weigh_71 : decode cX4_weigh 71 = .ok (.iastore, 1) := by decide +kernel
theorem dX4_weigh_72 : decode cX4_weigh 72 = .ok (.iinc 3 1, 3) := by decide +kernel
theorem dX4_weigh_75 : decode cX4_weigh 75 = .ok (.goto (-27), 3) := by decide +kernel
theorem dX4_weigh_78 : decode cX4_weigh 78 = .ok (.return_, 1) := by decide +kernel
set_option maxRecDepth 20000 in
theorem ggX4_weighAll_X4_clearWeights : GoodIn wsX4_weighAll wsX4_clearWeights := goodIn_r _ [6, 7, 8, 28, 29, 30, 31, 32, 33, 34, 35, 36] (by decide +kernel) (by decide +kernel)
set_option maxRecDepth 20000 in
theorem gX4_weighAll_X4_clearWeights : GoodIn wsX4_weighAll (wsV RX4 116 RX4 yX4_clearWeights wsX4_clearWeights) := goodIn_app (goodIn_of _ (by decide +kernel)) ggX4_weighAll_X4_clearWeights
set_option maxRecDepth 20000 in
theorem ggX4_weighAll_X5_size : GoodIn wsX4_weighAll wsX5_size := goodIn_r _ [13, 14, 37, 38] (by decide +kernel) (by decide +kernel)
set_option maxRecDepth 20000 in
theorem gX4_weighAll_X5_size : GoodIn wsX4_weighAll (wsV RX4 59 RX5 yX5_size wsX5_size) := goodIn_app (goodIn_of _ (by decide +kernel)) ggX4_weighAll_X5_size
set_option maxRecDepth 20000 in
theorem ggX4_weighAll_X4_weighSymbols : GoodIn wsX4_weighAll wsX4_weighSymbols := goodIn_r _ [18, 1, 19, 20, 21, 22, 7, 8, 9, 10, 11, 12, 13, 14, 23, 24, 25, 26, 27, 28, 29, 30, 31, 32, 33, 34, 35, 36, 37, 38] (by decide +kernel) (by decide +kernel)
set_option maxRecDepth 20000 in
theorem gX4_weighAll_X4_weighSymbols : GoodIn wsX4_weighAll (wsV RX4 119 RX4 yX4_weighSymbols wsX4_weighSymbols) := goodIn_app (goodIn_of _ (by decide +kernel)) ggX4_weighAll_X4_weighSymbols
theorem dX4_weighAll_0 : decode cX4_weighAll 0 = .ok (.aload_n 0, 1) := by decide +kernel
theorem dX4_weighAll_1 : decode cX4_weighAll 1 = .ok (.invokevirtual 116, 3) := by decide +kernel
theorem dX4_weighAll_4 : decode cX4_weighAll 4 = .ok (.aload_n 0, 1) := by decide +kernel
theorem dX4_weighAll_5 : decode cX4_weighAll 5 = .ok (.iconst 0, 1) := by decide +kernel
theorem dX4_weighAll_6 : decode cX4_weighAll 6 = .ok (.aload_n 0, 1) := by decide +kernel
theorem dX4_weighAll_7 : decode cX4_weighAll 7 = .ok (.getfield 9, 3) := by decide +kernel
theorem dX4_weighAll_10 : decode cX4_weighAll 10 = .ok (.invokevirtual 59, 3) := by decide +kernel
theorem dX4_weighAll_13 : decode cX4_weighAll 13 = .ok (.invokevirtual 119, 3) := by decide +kernel
theorem dX4_weighAll_16 : decode cX4_weighAll 16 = .ok (.return_, 1) := by decide +kernel
theorem dX4_clearWeights_0 : decode cX4_clearWeights 0 = .ok (.iconst 0, 1) := by decide +kernel
theorem dX4_clearWeights_1 : decode cX4_clearWeights 1 = .ok (.istore_n 1, 1) := by decide +kernel
theorem dX4_clearWeights_2 : decode cX4_clearWeights 2 = .ok (.iload_n 1, 1) := by decide +kernel
theorem dX4_clearWeights_3 : decode cX4_clearWeights 3 = .ok (.aload_n 0, 1) := by decide +kernel
theorem dX4_clearWeights_4 : decode cX4_clearWeights 4 = .ok (.getfield 43, 3) := by decide +kernel
theorem dX4_clearWeights_7 : decode cX4_clearWeights 7 = .ok (.if_icmp .ge 16, 3) := by decide +kernel
theorem dX4_clearWeights_10 : decode cX4_clearWeights 10 = .ok (.aload_n 0, 1) := by decide +kernel
theorem dX4_clearWeights_11 : decode cX4_clearWeights 11 = .ok (.getfield 23, 3) := by decide +kernel
theorem dX4_clearWeights_14 : decode cX4_clearWeights 14 = .ok (.iload_n 1, 1) := by decide +kernel
theorem dX4_clearWeights_15 : decode cX4_clearWeights 15 = .ok (.iconst 0, 1) := by decide +kernel
theorem dX4_clearWeights_16 : decode cX4_clearWeights 16 = .ok (.iastore, 1) := by decide +kernel
theorem dX4_clearWeights_17 : decode cX4_clearWeights 17 = .ok (.iinc 1 1, 3) := by decide +kernel
theorem dX4_clearWeights_20 : decode cX4_clearWeights 20 = .ok (.goto (-18), 3) := by decide +kernel
theorem dX4_clearWeights_23 : decode cX4_clearWeights 23 = .ok (.return_, 1) := by decide +kernel
set_option maxRecDepth 20000 in
theorem ggX4_weighSymbols_X5_size : GoodIn wsX4_weighSymbols wsX5_size := goodIn_r _ [12, 13, 28, 29] (by decide +kernel) (by decide +kernel)
set_option maxRecDepth 20000 in
theorem gX4_weighSymbols_X5_size : GoodIn wsX4_weighSymbols (wsV RX4 59 RX5 yX5_size wsX5_size) := goodIn_app (goodIn_of _ (by decide +kernel)) ggX4_weighSymbols_X5_size
set_option maxRecDepth 20000 in
theorem ggX4_weighSymbols_X5_get : GoodIn wsX4_weighSymbols wsX5_get := goodIn_r _ [17, 13, 18, 28, 29] (by decide +kernel) (by decide +kernel)
set_option maxRecDepth 20000 in
theorem gX4_weighSymbols_X5_get : GoodIn wsX4_weighSymbols (wsV RX4 113 RX5 yX5_get wsX5_get) := goodIn_app (goodIn_of _ (by decide +kernel)) ggX4_weighSymbols_X5_get
theorem dX4_weighSymbols_0 : decode cX4_weighSymbols 0 = .ok (.iload_n 2, 1) := by decide +kernel
theorem dX4_weighSymbols_1 : decode cX4_weighSymbols 1 = .ok (.aload_n 0, 1) := by decide +kernel
theorem dX4_weighSymbols_2 : decode cX4_weighSymbols 2 = .ok (.getfield 9, 3) := by decide +kernel
theorem dX4_weighSymbols_5 : decode cX4_weighSymbols 5 = .ok (.invokevirtual 59, 3) := by decide +kernel
theorem dX4_weighSymbols_8 : decode cX4_weighSymbols 8 = .ok (.invokestatic 53, 3) := by decide +kernel
theorem dX4_weighSymbols_11 : decode cX4_weighSymbols 11 = .ok (.istore_n 3, 1) := by decide +kernel
theorem dX4_weighSymbols_12 : decode cX4_weighSymbols 12 = .ok (.iload_n 1, 1) := by decide +kernel
theorem dX4_weighSymbols_13 : decode cX4_weighSymbols 13 = .ok (.istore 4, 2) := by decide +kernel
theorem dX4_weighSymbols_15 : decode cX4_weighSymbols 15 = .ok (.iload 4, 2) := by decide +kernel
theorem dX4_weighSymbols_17 : decode cX4_weighSymbols 17 = .ok (.iload_n 3, 1) := by decide +kernel
theorem dX4_weighSymbols_18 : decode cX4_weighSymbols 18 = .ok (.if_icmp .ge 45, 3) := by decide +kernel
theorem dX4_weighSymbols_21 : decode cX4_weighSymbols 21 = .ok (.aload_n 0, 1) := by decide +kernel
theorem dX4_weighSymbols_22 : decode cX4_weighSymbols 22 = .ok (.getfield 9, 3) := by decide +kernel
theorem dX4_weighSymbols_25 : decode cX4_weighSymbols 25 = .ok (.iload 4, 2) := by decide +kernel
theorem dX4_weighSymbols_27 : decode cX4_weighSymbols 27 = .ok (.invokevirtual 113, 3) := by decide +kernel
theorem dX4_weighSymbols_30 : decode cX4_weighSymbols 30 = .ok (.istore 5, 2) := by decide +kernel
theorem dX4_weighSymbols_32 : decode cX4_weighSymbols 32 = .ok (.iload 5, 2) := by decide +kernel
theorem dX4_weighSymbols_34 : decode cX4_weighSymbols 34 = .ok (.ifCond .lt 23, 3) := by decide +kernel
theorem dX4_weighSymbols_37 : decode cX4_weighSymbols 37 = .ok (.iload 5, 2) := by decide +kernel
theorem dX4_weighSymbols_39 : decode cX4_weighSymbols 39 = .ok (.aload_n 0, 1) := by decide +kernel
theorem dX4_weighSymbols_40 : decode cX4_weighSymbols 40 = .ok (.getfield 43, 3) := by decide +kernel
theorem dX4_weighSymbols_43 : decode cX4_weighSymbols 43 = .ok (.if_icmp .ge 14, 3) := by decide +kernel
theorem dX4_weighSymbols_46 : decode cX4_weighSymbols 46 = .ok (.aload_n 0, 1) := by decide +kernel
theorem dX4_weighSymbols_47 : decode cX4_weighSymbols 47 = .ok (.getfield 23, 3) := by decide +kernel
theorem dX4_weighSymbols_50 : decode cX4_weighSymbols 50 = .ok (.iload 5, 2) := by decide +kernel
theorem dX4_weighSymbols_52 : decode cX4_weighSymbols 52 = .ok (.dup2, 1) := by decide +kernel
theorem dX4_weighSymbols_53 : decode cX4_weighSymbols 53 = .ok (.iaload, 1) := by decide +kernel
theorem dX4_weighSymbols_54 : decode cX4_weighSymbols 54 = .ok (.iconst 1, 1) := by decide +kernel
theorem dX4_weighSymbols_55 : decode cX4_weighSymbols 55 = .ok (.iadd, 1) := by decide +kernel
theorem dX4_weighSymbols_56 : decode cX4_weighSymbols 56 = .ok (.iastore, 1) := by decide +kernel
theorem dX4_weighSymbols_57 : decode cX4_weighSymbols 57 = .ok (.iinc 4 1, 3) := by decide +kernel
theorem dX4_weighSymbols_60 : decode cX4_weighSymbols 60 = .ok (.goto (-45), 3) := by decide +kernel
theorem dX4_weighSymbols_63 : decode cX4_weighSymbols 63 = .ok (.return_, 1) := by decide +kernel
