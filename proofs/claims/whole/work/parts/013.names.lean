set_option maxRecDepth 20000 in
theorem ggX7_init_X1_init : GoodIn wsX7_init wsX1_init := goodIn_r _ [15, 16, 2, 3, 17, 18, 19, 26, 27] (by decide +kernel) (by decide +kernel)
set_option maxRecDepth 20000 in
theorem gX7_init_X1_init : GoodIn wsX7_init (wsX1_init) := ggX7_init_X1_init
theorem dX7_init_0 : decode cX7_init 0 = .ok (.aload_n 0, 1) := by decide +kernel
theorem dX7_init_1 : decode cX7_init 1 = .ok (.invokespecial 3, 3) := by decide +kernel
theorem dX7_init_4 : decode cX7_init 4 = .ok (.aload_n 0, 1) := by decide +kernel
theorem dX7_init_5 : decode cX7_init 5 = .ok (.aload_n 1, 1) := by decide +kernel
theorem dX7_init_6 : decode cX7_init 6 = .ok (.putfield 9, 3) := by decide +kernel
theorem dX7_init_9 : decode cX7_init 9 = .ok (.aload_n 0, 1) := by decide +kernel
theorem dX7_init_10 : decode cX7_init 10 = .ok (.aload_n 2, 1) := by decide +kernel
theorem dX7_init_11 : decode cX7_init 11 = .ok (.putfield 15, 3) := by decide +kernel
theorem dX7_init_14 : decode cX7_init 14 = .ok (.aload_n 0, 1) := by decide +kernel
theorem dX7_init_15 : decode cX7_init 15 = .ok (.aload_n 3, 1) := by decide +kernel
theorem dX7_init_16 : decode cX7_init 16 = .ok (.putfield 19, 3) := by decide +kernel
theorem dX7_init_19 : decode cX7_init 19 = .ok (.aload_n 0, 1) := by decide +kernel
theorem dX7_init_20 : decode cX7_init 20 = .ok (.new 23, 3) := by decide +kernel
theorem dX7_init_23 : decode cX7_init 23 = .ok (.dup, 1) := by decide +kernel
theorem dX7_init_24 : decode cX7_init 24 = .ok (.iconst 3, 1) := by decide +kernel
theorem dX7_init_25 : decode cX7_init 25 = .ok (.invokespecial 25, 3) := by decide +kernel
theorem dX7_init_28 : decode cX7_init 28 = .ok (.putfield 28, 3) := by decide +kernel
theorem dX7_init_31 : decode cX7_init 31 = .ok (.aload_n 0, 1) := by decide +kernel
theorem dX7_init_32 : decode cX7_init 32 = .ok (.iconst 1, 1) := by decide +kernel
theorem dX7_init_33 : decode cX7_init 33 = .ok (.putfield 32, 3) := by decide +kernel
theorem dX7_init_36 : decode cX7_init 36 = .ok (.aload_n 0, 1) := by decide +kernel
theorem dX7_init_37 : decode cX7_init 37 = .ok (.iconst 0, 1) := by decide +kernel
theorem dX7_init_38 : decode cX7_init 38 = .ok (.putfield 36, 3) := by decide +kernel
theorem dX7_init_41 : decode cX7_init 41 = .ok (.return_, 1) := by decide +kernel
set_option maxRecDepth 20000 in
theorem ggX7_countBits_X7_putAll : GoodIn wsX7_countBits wsX7_putAll := goodIn_r _ [6, 7, 8, 9, 10, 11, 5, 12, 13, 14, 15, 16, 17, 18, 19, 20, 21, 22, 23, 24, 25, 26, 27, 1, 28, 29, 30, 31, 32, 33, 34, 35, 36, 37, 38, 39, 40, 41, 42, 43, 44, 45, 46, 47, 48, 49, 50, 51, 52, 53, 54, 55, 56, 57, 58, 59, 60, 61, 62, 63, 64, 65, 66, 67, 68, 69, 70, 71, 72, 73, 74, 75, 76, 77, 78, 79, 80, 81, 82, 83, 84, 85, 86, 87, 88, 89, 90, 91, 92, 93, 94, 95, 96, 97, 98, 99, 100, 101, 102, 103, 104, 105, 106, 107, 108, 109, 110, 111, 112, 113, 114, 115, 116, 117, 118, 119, 120, 121, 122, 123, 124, 125, 126, 127, 128, 129, 130, 131, 132, 133, 134, 135, 136, 137, 138, 139, 140, 141, 142, 143, 144, 145, 146, 147, 148, 149] (by decide +kernel) (by decide +kernel)
set_option maxRecDepth 20000 in
theorem gX7_countBits_X7_putAll : GoodIn wsX7_countBits (wsV RX7 40 RX7 yX7_putAll wsX7_putAll) := goodIn_app (goodIn_of _ (by decide +kernel)) ggX7_countBits_X7_putAll
theorem dX7_countBits_0 : decode cX7_countBits 0 = .ok (.aload_n 0, 1) := by decide +kernel
theorem dX7_countBits_1 : decode cX7_countBits 1 = .ok (.iconst 1, 1) := by decide +kernel
theorem dX7_countBits_2 : decode cX7_countBits 2 = .ok (.putfield 32, 3) := by decide +kernel
theorem dX7_countBits_5 : decode cX7_countBits 5 = .ok (.aload_n 0, 1) := by decide +kernel
theorem dX7_countBits_6 : decode cX7_countBits 6 = .ok (.invokevirtual 40, 3) := by decide +kernel
theorem dX7_countBits_9 : decode cX7_countBits 9 = .ok (.ireturn, 1) := by decide +kernel
set_option maxRecDepth 20000 in
theorem ggX7_fillTape_X5_clear : GoodIn wsX7_fillTape wsX5_clear := goodIn_r _ [7, 8, 128, 129] (by decide +kernel) (by decide +kernel)
set_option maxRecDepth 20000 in
theorem gX7_fillTape_X5_clear : GoodIn wsX7_fillTape (wsV RX7 44 RX5 yX5_clear wsX5_clear) := goodIn_app (goodIn_of _ (by decide +kernel)) ggX7_fillTape_X5_clear
set_option maxRecDepth 20000 in
theorem ggX7_fillTape_X7_putAll : GoodIn wsX7_fillTape wsX7_putAll := goodIn_r _ [13, 14, 15, 16, 17, 18, 12, 19, 20, 21, 22, 23, 24, 25, 26, 27, 28, 29, 30, 31, 32, 33, 34, 1, 2, 35, 36, 37, 6, 38, 8, 39, 40, 41, 42, 43, 44, 45, 46, 47, 48, 49, 50, 51, 52, 53, 54, 55, 56, 57, 58, 59, 60, 61, 62, 63, 64, 65, 66, 67, 68, 69, 70, 71, 72, 73, 74, 75, 76, 77, 78, 79, 80, 81, 82, 83, 84, 85, 86, 87, 88, 89, 90, 91, 92, 93, 94, 95, 96, 97, 98, 99, 100, 101, 102, 103, 104, 105, 106, 107, 108, 109, 110, 111, 112, 113, 114, 115, 116, 117, 118, 119, 120, 121, 122, 123, 124, 125, 126, 127, 130, 131, 132, 133, 134, 135, 136, 137, 138, 139, 140, 141, 142, 143, 144, 128, 129, 145, 146, 147, 148, 149, 150, 151, 152, 153] (by decide +kernel) (by decide +kernel)
set_option maxRecDepth 20000 in
theorem gX7_fillTape_X7_putAll : GoodIn wsX7_fillTape (wsV RX7 40 RX7 yX7_putAll wsX7_putAll) := goodIn_app (goodIn_of _ (by decide +kernel)) ggX7_fillTape_X7_putAll
theorem dX7_fillTape_0 : decode cX7_fillTape 0 = .ok (.aload_n 0, 1) := by decide +kernel
theorem dX7_fillTape_1 : decode cX7_fillTape 1 = .ok (.iconst 0, 1) := by decide +kernel
theorem dX7_fillTape_2 : decode cX7_fillTape 2 = .ok (.putfield 32, 3) := by decide +kernel
theorem dX7_fillTape_5 : decode cX7_fillTape 5 = .ok (.aload_n 0, 1) := by decide +kernel
theorem dX7_fillTape_6 : decode cX7_fillTape 6 = .ok (.getfield 19, 3) := by decide +kernel
theorem dX7_fillTape_9 : decode cX7_fillTape 9 = .ok (.invokevirtual 44, 3) := by decide +kernel
theorem dX7_fillTape_12 : decode cX7_fillTape 12 = .ok (.aload_n 0, 1) := by decide +kernel
theorem dX7_fillTape_13 : decode cX7_fillTape 13 = .ok (.invokevirtual 40, 3) := by decide +kernel
theorem dX7_fillTape_16 : decode cX7_fillTape 16 = .ok (.ireturn, 1) := by decide +kernel
set_option maxRecDepth 20000 in
theorem ggX7_putAll_X7_putMap : GoodIn wsX7_putAll wsX7_putMap := goodIn_r _ [7, 8, 9, 10, 6, 11, 12, 13, 14, 15, 16, 17, 18, 19, 20, 21, 22, 1, 23, 24, 25, 26, 27, 28, 29, 30, 31, 32, 33, 34, 35, 114, 115, 116, 117, 118, 119, 129, 130, 131, 132, 133, 134, 135, 136] (by decide +kernel) (by decide +kernel)
set_option maxRecDepth 20000 in
theorem gX7_putAll_X7_putMap : GoodIn wsX7_putAll (wsV RX7 49 RX7 yX7_putMap wsX7_putMap) := goodIn_app (goodIn_of _ (by decide +kernel)) ggX7_putAll_X7_putMap
set_option maxRecDepth 20000 in
theorem ggX7_putAll_X7_putNumber : GoodIn wsX7_putAll wsX7_putNumber := goodIn_r _ [35, 19, 20, 21, 6, 22, 1, 23, 24, 25, 26, 27, 28, 29, 30, 31, 114, 115, 116, 117, 118, 119, 135, 136] (by decide +kernel) (by decide +kernel)
set_option maxRecDepth 20000 in
theorem gX7_putAll_X7_putNumber : GoodIn wsX7_putAll (wsV RX7 57 RX7 yX7_putNumber wsX7_putNumber) := goodIn_app (goodIn_of _ (by decide +kernel)) ggX7_putAll_X7_putNumber
set_option maxRecDepth 20000 in
theorem ggX7_putAll_X7_putChoices : GoodIn wsX7_putAll wsX7_putChoices := goodIn_r _ [39, 40, 2, 41, 42, 43, 44, 45, 46, 47, 48, 49, 50, 51, 52, 53, 54, 55, 56, 57, 58, 59, 60, 61, 62, 63, 64, 65, 66, 67, 68, 69, 70, 19, 20, 21, 6, 22, 1, 23, 24, 25, 26, 27, 28, 29, 30, 31, 114, 115, 116, 117, 118, 119, 120, 121, 122, 123, 124, 125, 126, 127, 128, 137, 138, 135, 136] (by decide +kernel) (by decide +kernel)
set_option maxRecDepth 20000 in
theorem gX7_putAll_X7_putChoices : GoodIn wsX7_putAll (wsV RX7 64 RX7 yX7_putChoices wsX7_putChoices) := goodIn_app (goodIn_of _ (by decide +kernel)) ggX7_putAll_X7_putChoices
set_option maxRecDepth 20000 in
theorem ggX7_putAll_X7_putLengths : GoodIn wsX7_putAll wsX7_putLengths := goodIn_r _ [74, 2, 75, 76, 77, 59, 78, 79, 80, 81, 82, 83, 84, 85, 86, 87, 88, 89, 32, 33, 34, 6, 35, 19, 20, 21, 22, 1, 23, 24, 25, 26, 27, 28, 29, 30, 31, 114, 115, 116, 117, 118, 119, 120, 121, 122, 123, 124, 125, 126, 127, 128, 135, 136] (by decide +kernel) (by decide +kernel)
set_option maxRecDepth 20000 in
theorem gX7_putAll_X7_putLengths : GoodIn wsX7_putAll (wsV RX7 67 RX7 yX7_putLengths wsX7_putLengths) := goodIn_app (goodIn_of _ (by decide +kernel)) ggX7_putAll_X7_putLengths
set_option maxRecDepth 20000 in
theorem ggX7_putAll_X7_putSymbols : GoodIn wsX7_putAll wsX7_putSymbols := goodIn_r _ [93, 12, 2, 94, 95, 96, 28, 97, 30, 98, 99, 100, 101, 31, 56, 57, 58, 59, 60, 61, 62, 102, 103, 104, 105, 106, 79, 80, 81, 82, 83, 84, 107, 108, 109, 110, 111, 112, 113, 75, 76, 77, 78, 85, 86, 87, 88, 89, 32, 33, 34, 6, 35, 19, 20, 21, 22, 1, 23, 24, 25, 26, 27, 29, 114, 115, 116, 117, 118, 119, 129, 130, 131, 132, 133, 134, 135, 136, 120, 121, 122, 123, 124, 125, 126, 127, 128, 139, 140, 141, 142, 143, 144, 145] (by decide +kernel) (by decide +kernel)
set_option maxRecDepth 20000 in
theorem gX7_putAll_X7_putSymbols : GoodIn wsX7_putAll (wsV RX7 70 RX7 yX7_putSymbols wsX7_putSymbols) := goodIn_app (goodIn_of _ (by decide +kernel)) ggX7_putAll_X7_putSymbols
theorem dX7_putAll_0 : decode cX7_putAll 0 = .ok (.aload_n 0, 1) := by decide +kernel
theorem dX7_putAll_1 : decode cX7_putAll 1 = .ok (.iconst 0, 1) := by decide +kernel
theorem dX7_putAll_2 : decode cX7_putAll 2 = .ok (.putfield 36, 3) := by decide +kernel
theorem dX7_putAll_5 : decode cX7_putAll 5 = .ok (.aload_n 0, 1) := by decide +kernel
theorem dX7_putAll_6 : decode cX7_putAll 6 = .ok (.invokevirtual 49, 3) := by decide +kernel
theorem dX7_putAll_9 : decode cX7_putAll 9 = .ok (.aload_n 0, 1) := by decide +kernel
theorem dX7_putAll_10 : decode cX7_putAll 10 = .ok (.aload_n 0, 1) := by decide +kernel
theorem dX7_putAll_11 : decode cX7_putAll 11 = .ok (.getfield 15, 3) := by decide +kernel
theorem dX7_putAll_14 : decode cX7_putAll 14 = .ok (.getfield 52, 3) := by decide +kernel
theorem dX7_putAll_17 : decode cX7_putAll 17 = .ok (.iconst 2, 1) := by decide +kernel
theorem dX7_putAll_18 : decode cX7_putAll 18 = .ok (.invokevirtual 57, 3) := by decide +kernel
theorem dX7_putAll_21 : decode cX7_putAll 21 = .ok (.aload_n 0, 1) := by decide +kernel
theorem dX7_putAll_22 : decode cX7_putAll 22 = .ok (.aload_n 0, 1) := by decide +kernel
theorem dX7_putAll_23 : decode cX7_putAll 23 = .ok (.getfield 15, 3) := by decide +kernel
theorem dX7_putAll_26 : decode cX7_putAll 26 = .ok (.getfield 61, 3) := by decide +kernel
theorem dX7_putAll_29 : decode cX7_putAll 29 = .ok (.iconst 5, 1) := by decide +kernel
theorem dX7_putAll_30 : decode cX7_putAll 30 = .ok (.invokevirtual 57, 3) := by decide +kernel
theorem dX7_putAll_33 : decode cX7_putAll 33 = .ok (.aload_n 0, 1) := by decide +kernel
theorem dX7_putAll_34 : decode cX7_putAll 34 = .ok (.invokevirtual 64, 3) := by decide +kernel
theorem dX7_putAll_37 : decode cX7_putAll 37 = .ok (.iconst 0, 1) := by decide +kernel
theorem dX7_putAll_38 : decode cX7_putAll 38 = .ok (.istore_n 1, 1) := by decide +kernel
theorem dX7_putAll_39 : decode cX7_putAll 39 = .ok (.iload_n 1, 1) := by decide +kernel
theorem dX7_putAll_40 : decode cX7_putAll 40 = .ok (.aload_n 0, 1) := by decide +kernel
theorem dX7_putAll_41 : decode cX7_putAll 41 = .ok (.getfield 15, 3) := by decide +kernel
theorem dX7_putAll_44 : decode cX7_putAll 44 = .ok (.getfield 52, 3) := by decide +kernel
theorem dX7_putAll_47 : decode cX7_putAll 47 = .ok (.if_icmp .ge 14, 3) := by decide +kernel
theorem dX7_putAll_50 : decode cX7_putAll 50 = .ok (.aload_n 0, 1) := by decide +kernel
theorem dX7_putAll_51 : decode cX7_putAll 51 = .ok (.iload_n 1, 1) := by decide +kernel
theorem dX7_putAll_52 : decode cX7_putAll 52 = .ok (.invokevirtual 67, 3) := by decide +kernel
theorem dX7_putAll_55 : decode cX7_putAll 55 = .ok (.iinc 1 1, 3) := by decide +kernel
theorem dX7_putAll_58 : decode cX7_putAll 58 = .ok (.goto (-19), 3) := by decide +kernel
theorem dX7_putAll_61 : decode cX7_putAll 61 = .ok (.aload_n 0, 1) := by decide +kernel
theorem dX7_putAll_62 : decode cX7_putAll 62 = .ok (.invokevirtual 70, 3) := by decide +kernel
theorem dX7_putAll_65 : decode cX7_putAll 65 = .ok (.aload_n 0, 1) := by decide +kernel
theorem dX7_putAll_66 : decode cX7_putAll 66 = .ok (.getfield 36, 3) := by decide +kernel
theorem dX7_putAll_69 : decode cX7_putAll 69 = .ok (.ireturn, 1) := by decide +kernel
set_option maxRecDepth 20000 in
theorem ggX7_put_X5_add : GoodIn wsX7_put wsX5_add := goodIn_r _ [8, 9, 10, 17, 18] (by decide +kernel) (by decide +kernel)
set_option maxRecDepth 20000 in
theorem gX7_put_X5_add : GoodIn wsX7_put (wsV RX7 73 RX5 yX5_add wsX5_add) := goodIn_app (goodIn_of _ (by decide +kernel)) ggX7_put_X5_add
theorem dX7_put_0 : decode cX7_put 0 = .ok (.aload_n 0, 1) := by decide +kernel
theorem dX7_put_1 : decode cX7_put 1 = .ok (.dup, 1) := by decide +kernel
theorem dX7_put_2 : decode cX7_put 2 = .ok (.getfield 36, 3) := by decide +kernel
theorem dX7_put_5 : decode cX7_put 5 = .ok (.iconst 1, 1) := by decide +kernel
theorem dX7_put_6 : decode cX7_put 6 = .ok (.iadd, 1) := by decide +kernel
theorem dX7_put_7 : decode cX7_put 7 = .ok (.putfield 36, 3) := by decide +kernel
theorem dX7_put_10 : decode cX7_put 10 = .ok (.aload_n 0, 1) := by decide +kernel
theorem dX7_put_11 : decode cX7_put 11 = .ok (.getfield 32, 3) := by decide +kernel
theorem dX7_put_14 : decode cX7_put 14 = .ok (.ifCond .ne 11, 3) := by decide +kernel
theorem dX7_put_17 : decode cX7_put 17 = .ok (.aload_n 0, 1) := by decide +kernel
theorem dX7_put_18 : decode cX7_put 18 = .ok (.getfield 19, 3) := by decide +kernel
theorem dX7_put_21 : decode cX7_put 21 = .ok (.iload_n 1, 1) := by decide +kernel
theorem dX7_put_22 : decode cX7_put 22 = .ok (.invokevirtual 73, 3) := by decide +kernel
theorem dX7_put_25 : decode cX7_put 25 = .ok (.return_, 1) := by decide +kernel
set_option maxRecDepth 20000 in
theorem ggX7_putNumber_X7_put : GoodIn wsX7_putNumber wsX7_put := goodIn_r _ [5, 6, 7, 8, 9, 10, 11, 12, 13, 14, 15, 16, 17, 18, 19, 20, 21, 22, 23] (by decide +kernel) (by decide +kernel)
set_option maxRecDepth 20000 in
theorem gX7_putNumber_X7_put : GoodIn wsX7_putNumber (wsV RX7 76 RX7 yX7_put wsX7_put) := goodIn_app (goodIn_of _ (by decide +kernel)) ggX7_putNumber_X7_put
theorem dX7_putNumber_0 : decode cX7_putNumber 0 = .ok (.iload_n 2, 1) := by decide +kernel
theorem dX7_putNumber_1 : decode cX7_putNumber 1 = .ok (.iconst 1, 1) := by decide +kernel
theorem dX7_putNumber_2 : decode cX7_putNumber 2 = .ok (.isub, 1) := by decide +kernel
theorem dX7_putNumber_3 : decode cX7_putNumber 3 = .ok (.istore_n 3, 1) := by decide +kernel
theorem dX7_putNumber_4 : decode cX7_putNumber 4 = .ok (.iload_n 3, 1) := by decide +kernel
theorem dX7_putNumber_5 : decode cX7_putNumber 5 = .ok (.ifCond .lt 18, 3) := by decide +kernel
theorem dX7_putNumber_8 : decode cX7_putNumber 8 = .ok (.aload_n 0, 1) := by decide +kernel
theorem dX7_putNumber_9 : decode cX7_putNumber 9 = .ok (.iload_n 1, 1) := by decide +kernel
theorem dX7_putNumber_10 : decode cX7_putNumber 10 = .ok (.iload_n 3, 1) := by decide +kernel
theorem dX7_putNumber_11 : decode cX7_putNumber 11 = .ok (.ishr, 1) := by decide +kernel
theorem dX7_putNumber_12 : decode cX7_putNumber 12 = .ok (.iconst 1, 1) := by decide +kernel
theorem dX7_putNumber_13 : decode cX7_putNumber 13 = .ok (.iand, 1) := by decide +kernel
theorem dX7_putNumber_14 : decode cX7_putNumber 14 = .ok (.invokevirtual 76, 3) := by decide +kernel
theorem dX7_putNumber_17 : decode cX7_putNumber 17 = .ok (.iinc 3 (-1), 3) := by decide +kernel
theorem dX7_putNumber_20 : decode cX7_putNumber 20 = .ok (.goto (-16), 3) := by decide +kernel
theorem dX7_putNumber_23 : decode cX7_putNumber 23 = .ok (.return_, 1) := by decide +kernel
set_option maxRecDepth 20000 in
theorem ggX7_putMap_X7_fieldOf : GoodIn wsX7_putMap wsX7_fieldOf := goodIn_r _ [5, 6, 7, 8, 9, 10, 11, 12, 31, 32, 33, 34, 35, 36, 37, 38, 39, 40, 41, 42] (by decide +kernel) (by decide +kernel)
set_option maxRecDepth 20000 in
theorem gX7_putMap_X7_fieldOf : GoodIn wsX7_putMap (wsV RX7 79 RX7 yX7_fieldOf wsX7_fieldOf) := goodIn_app (goodIn_of _ (by decide +kernel)) ggX7_putMap_X7_fieldOf
set_option maxRecDepth 20000 in
theorem ggX7_putMap_X7_put : GoodIn wsX7_putMap wsX7_put := goodIn_r _ [16, 17, 18, 19, 20, 21, 22, 23, 24, 25, 26, 31, 32, 33, 34, 35, 36, 43, 44] (by decide +kernel) (by decide +kernel)
set_option maxRecDepth 20000 in
theorem gX7_putMap_X7_put : GoodIn wsX7_putMap (wsV RX7 76 RX7 yX7_put wsX7_put) := goodIn_app (goodIn_of _ (by decide +kernel)) ggX7_putMap_X7_put
set_option maxRecDepth 20000 in
theorem ggX7_putMap_X7_putNumber : GoodIn wsX7_putMap wsX7_putNumber := goodIn_r _ [30, 13, 14, 15, 4, 16, 17, 18, 19, 20, 21, 22, 23, 24, 25, 26, 31, 32, 33, 34, 35, 36, 43, 44] (by decide +kernel) (by decide +kernel)
set_option maxRecDepth 20000 in
theorem gX7_putMap_X7_putNumber : GoodIn wsX7_putMap (wsV RX7 57 RX7 yX7_putNumber wsX7_putNumber) := goodIn_app (goodIn_of _ (by decide +kernel)) ggX7_putMap_X7_putNumber
theorem dX7_putMap_0 : decode cX7_putMap 0 = .ok (.iconst 0, 1) := by decide +kernel
theorem dX7_putMap_1 : decode cX7_putMap 1 = .ok (.istore_n 1, 1) := by decide +kernel
theorem dX7_putMap_2 : decode cX7_putMap 2 = .ok (.iload_n 1, 1) := by decide +kernel
theorem dX7_putMap_3 : decode cX7_putMap 3 = .ok (.bipush 16, 2) := by decide +kernel
theorem dX7_putMap_5 : decode cX7_putMap 5 = .ok (.if_icmp .ge 26, 3) := by decide +kernel
theorem dX7_putMap_8 : decode cX7_putMap 8 = .ok (.aload_n 0, 1) := by decide +kernel
theorem dX7_putMap_9 : decode cX7_putMap 9 = .ok (.aload_n 0, 1) := by decide +kernel
theorem dX7_putMap_10 : decode cX7_putMap 10 = .ok (.iload_n 1, 1) := by decide +kernel
theorem dX7_putMap_11 : decode cX7_putMap 11 = .ok (.invokevirtual 79, 3) := by decide +kernel
theorem dX7_putMap_14 : decode cX7_putMap 14 = .ok (.ifCond .ne 7, 3) := by decide +kernel
theorem dX7_putMap_17 : decode cX7_putMap 17 = .ok (.iconst 0, 1) := by decide +kernel
theorem dX7_putMap_18 : decode cX7_putMap 18 = .ok (.goto 4, 3) := by decide +kernel
theorem dX7_putMap_21 : decode cX7_putMap 21 = .ok (.iconst 1, 1) := by decide +kernel
theorem dX7_putMap_22 : decode cX7_putMap 22 = .ok (.invokevirtual 76, 3) := by decide +kernel
theorem dX7_putMap_25 : decode cX7_putMap 25 = .ok (.iinc 1 1, 3) := by decide +kernel
theorem dX7_putMap_28 : decode cX7_putMap 28 = .ok (.goto (-26), 3) := by decide +kernel
theorem dX7_putMap_31 : decode cX7_putMap 31 = .ok (.iconst 0, 1) := by decide +kernel
theorem dX7_putMap_32 : decode cX7_putMap 32 = .ok (.istore_n 1, 1) := by decide +kernel
theorem dX7_putMap_33 : decode cX7_putMap 33 = .ok (.iload_n 1, 1) := by decide +kernel
theorem dX7_putMap_34 : decode cX7_putMap 34 = .ok (.bipush 16, 2) := by decide +kernel
theorem dX7_putMap_36 : decode cX7_putMap 36 = .ok (.if_icmp .ge 26, 3) := by decide +kernel
theorem dX7_putMap_39 : decode cX7_putMap 39 = .ok (.aload_n 0, 1) := by decide +kernel
theorem dX7_putMap_40 : decode cX7_putMap 40 = .ok (.iload_n 1, 1) := by decide +kernel
theorem dX7_putMap_41 : decode cX7_putMap 41 = .ok (.invokevirtual 79, 3) := by decide +kernel
theorem dX7_putMap_44 : decode cX7_putMap 44 = .ok (.istore_n 2, 1) := by decide +kernel
theorem dX7_putMap_45 : decode cX7_putMap 45 = .ok (.iload_n 2, 1) := by decide +kernel
theorem dX7_putMap_46 : decode cX7_putMap 46 = .ok (.ifCond .eq 10, 3) := by decide +kernel
theorem dX7_putMap_49 : decode cX7_putMap 49 = .ok (.aload_n 0, 1) := by decide +kernel
theorem dX7_putMap_50 : decode cX7_putMap 50 = .ok (.iload_n 2, 1) := by decide +kernel
theorem dX7_putMap_51 : decode cX7_putMap 51 = .ok (.bipush 16, 2) := by decide +kernel
theorem dX7_putMap_53 : decode cX7_putMap 53 = .ok (.invokevirtual 57, 3) := by decide +kernel
theorem dX7_putMap_56 : decode cX7_putMap 56 = .ok (.iinc 1 1, 3) := by decide +kernel
theorem dX7_putMap_59 : decode cX7_putMap 59 = .ok (.goto (-26), 3) := by decide +kernel
theorem dX7_putMap_62 : decode cX7_putMap 62 = .ok (.return_, 1) := by decide +kernel
set_option maxRecDepth 20000 in
theorem ggX7_fieldOf_X6_has : GoodIn wsX7_fieldOf wsX6_has := goodIn_r _ [6, 7, 14, 15, 16, 17, 18, 19] (by decide +kernel) (by decide +kernel)
set_option maxRecDepth 20000 in
theorem gX7_fieldOf_X6_has : GoodIn wsX7_fieldOf (wsV RX7 83 RX6 yX6_has wsX6_has) := goodIn_app (goodIn_of _ (by decide +kernel)) ggX7_fieldOf_X6_has
theorem dX7_fieldOf_0 : decode cX7_fieldOf 0 = .ok (.iconst 0, 1) := by decide +kernel
theorem dX7_fieldOf_1 : decode cX7_fieldOf 1 = .ok (.istore_n 2, 1) := by decide +kernel
theorem dX7_fieldOf_2 : decode cX7_fieldOf 2 = .ok (.iconst 0, 1) := by decide +kernel
theorem dX7_fieldOf_3 : decode cX7_fieldOf 3 = .ok (.istore_n 3, 1) := by decide +kernel
theorem dX7_fieldOf_4 : decode cX7_fieldOf 4 = .ok (.iload_n 3, 1) := by decide +kernel
theorem dX7_fieldOf_5 : decode cX7_fieldOf 5 = .ok (.bipush 16, 2) := by decide +kernel
theorem dX7_fieldOf_7 : decode cX7_fieldOf 7 = .ok (.if_icmp .ge 35, 3) := by decide +kernel
theorem dX7_fieldOf_10 : decode cX7_fieldOf 10 = .ok (.iload_n 2, 1) := by decide +kernel
theorem dX7_fieldOf_11 : decode cX7_fieldOf 11 = .ok (.iconst 2, 1) := by decide +kernel
theorem dX7_fieldOf_12 : decode cX7_fieldOf 12 = .ok (.imul, 1) := by decide +kernel
theorem dX7_fieldOf_13 : decode cX7_fieldOf 13 = .ok (.aload_n 0, 1) := by decide +kernel
theorem dX7_fieldOf_14 : decode cX7_fieldOf 14 = .ok (.getfield 9, 3) := by decide +kernel
theorem dX7_fieldOf_17 : decode cX7_fieldOf 17 = .ok (.iload_n 1, 1) := by decide +kernel
theorem dX7_fieldOf_18 : decode cX7_fieldOf 18 = .ok (.bipush 16, 2) := by decide +kernel
theorem dX7_fieldOf_20 : decode cX7_fieldOf 20 = .ok (.imul, 1) := by decide +kernel
theorem dX7_fieldOf_21 : decode cX7_fieldOf 21 = .ok (.iload_n 3, 1) := by decide +kernel
theorem dX7_fieldOf_22 : decode cX7_fieldOf 22 = .ok (.iadd, 1) := by decide +kernel
theorem dX7_fieldOf_23 : decode cX7_fieldOf 23 = .ok (.invokevirtual 83, 3) := by decide +kernel
theorem dX7_fieldOf_26 : decode cX7_fieldOf 26 = .ok (.ifCond .eq 7, 3) := by decide +kernel
theorem dX7_fieldOf_29 : decode cX7_fieldOf 29 = .ok (.iconst 1, 1) := by decide +kernel
theorem dX7_fieldOf_30 : decode cX7_fieldOf 30 = .ok (.goto 4, 3) := by decide +kernel
theorem dX7_fieldOf_33 : decode cX7_fieldOf 33 = .ok (.iconst 0, 1) := by decide +kernel
theorem dX7_fieldOf_34 : decode cX7_fieldOf 34 = .ok (.iadd, 1) := by decide +kernel
theorem dX7_fieldOf_35 : decode cX7_fieldOf 35 = .ok (.istore_n 2, 1) := by decide +kernel
theorem dX7_fieldOf_36 : decode cX7_fieldOf 36 = .ok (.iinc 3 1, 3) := by decide +kernel
theorem dX7_fieldOf_39 : decode cX7_fieldOf 39 = .ok (.goto (-35), 3) := by decide +kernel
theorem dX7_fieldOf_42 : decode cX7_fieldOf 42 = .ok (.iload_n 2, 1) := by decide +kernel
theorem dX7_fieldOf_43 : decode cX7_fieldOf 43 = .ok (.ireturn, 1) := by decide +kernel
set_option maxRecDepth 20000 in
theorem ggX7_putChoices_X1_restart : GoodIn wsX7_putChoices wsX1_restart := goodIn_r _ [7, 8, 9, 10, 6, 11, 12, 13, 14, 15, 16, 17, 63, 64] (by decide +kernel) (by decide +kernel)
set_option maxRecDepth 20000 in
theorem gX7_putChoices_X1_restart : GoodIn wsX7_putChoices (wsV RX7 89 RX1 yX1_restart wsX1_restart) := goodIn_app (goodIn_of _ (by decide +kernel)) ggX7_putChoices_X1_restart
set_option maxRecDepth 20000 in
theorem ggX7_putChoices_X4_tableOf : GoodIn wsX7_putChoices wsX4_tableOf := goodIn_r _ [22, 23, 24, 54, 55, 56, 57, 58, 59, 60, 61, 62] (by decide +kernel) (by decide +kernel)
set_option maxRecDepth 20000 in
theorem gX7_putChoices_X4_tableOf : GoodIn wsX7_putChoices (wsV RX7 92 RX4 yX4_tableOf wsX4_tableOf) := goodIn_app (goodIn_of _ (by decide +kernel)) ggX7_putChoices_X4_tableOf
set_option maxRecDepth 20000 in
theorem ggX7_putChoices_X1_find : GoodIn wsX7_putChoices wsX1_find := goodIn_r _ [28, 12, 17, 63, 64] (by decide +kernel) (by decide +kernel)
set_option maxRecDepth 20000 in
theorem gX7_putChoices_X1_find : GoodIn wsX7_putChoices (wsV RX7 96 RX1 yX1_find wsX1_find) := goodIn_app (goodIn_of _ (by decide +kernel)) ggX7_putChoices_X1_find
set_option maxRecDepth 20000 in
theorem ggX7_putChoices_X1_bringUp : GoodIn wsX7_putChoices wsX1_bringUp := goodIn_r _ [32, 12, 17, 63, 64] (by decide +kernel) (by decide +kernel)
set_option maxRecDepth 20000 in
theorem gX7_putChoices_X1_bringUp : GoodIn wsX7_putChoices (wsV RX7 99 RX1 yX1_bringUp wsX1_bringUp) := goodIn_app (goodIn_of _ (by decide +kernel)) ggX7_putChoices_X1_bringUp
set_option maxRecDepth 20000 in
theorem ggX7_putChoices_X7_put : GoodIn wsX7_putChoices wsX7_put := goodIn_r _ [37, 38, 39, 40, 41, 42, 43, 44, 45, 46, 47, 48, 49, 50, 51, 52, 53, 65, 66] (by decide +kernel) (by decide +kernel)
set_option maxRecDepth 20000 in
theorem gX7_putChoices_X7_put : GoodIn wsX7_putChoices (wsV RX7 76 RX7 yX7_put wsX7_put) := goodIn_app (goodIn_of _ (by decide +kernel)) ggX7_putChoices_X7_put
theorem dX7_putChoices_0 : decode cX7_putChoices 0 = .ok (.aload_n 0, 1) := by decide +kernel
theorem dX7_putChoices_1 : decode cX7_putChoices 1 = .ok (.getfield 28, 3) := by decide +kernel
theorem dX7_putChoices_4 : decode cX7_putChoices 4 = .ok (.aload_n 0, 1) := by decide +kernel
theorem dX7_putChoices_5 : decode cX7_putChoices 5 = .ok (.getfield 15, 3) := by decide +kernel
theorem dX7_putChoices_8 : decode cX7_putChoices 8 = .ok (.getfield 52, 3) := by decide +kernel
theorem dX7_putChoices_11 : decode cX7_putChoices 11 = .ok (.invokevirtual 89, 3) := by decide +kernel
theorem dX7_putChoices_14 : decode cX7_putChoices 14 = .ok (.iconst 0, 1) := by decide +kernel
theorem dX7_putChoices_15 : decode cX7_putChoices 15 = .ok (.istore_n 1, 1) := by decide +kernel
theorem dX7_putChoices_16 : decode cX7_putChoices 16 = .ok (.iload_n 1, 1) := by decide +kernel
theorem dX7_putChoices_17 : decode cX7_putChoices 17 = .ok (.aload_n 0, 1) := by decide +kernel
theorem dX7_putChoices_18 : decode cX7_putChoices 18 = .ok (.getfield 15, 3) := by decide +kernel
theorem dX7_putChoices_21 : decode cX7_putChoices 21 = .ok (.getfield 61, 3) := by decide +kernel
theorem dX7_putChoices_24 : decode cX7_putChoices 24 = .ok (.if_icmp .ge 58, 3) := by decide +kernel
theorem dX7_putChoices_27 : decode cX7_putChoices 27 = .ok (.aload_n 0, 1) := by decide +kernel
theorem dX7_putChoices_28 : decode cX7_putChoices 28 = .ok (.getfield 28, 3) := by decide +kernel
theorem dX7_putChoices_31 : decode cX7_putChoices 31 = .ok (.aload_n 0, 1) := by decide +kernel
theorem dX7_putChoices_32 : decode cX7_putChoices 32 = .ok (.getfield 15, 3) := by decide +kernel
theorem dX7_putChoices_35 : decode cX7_putChoices 35 = .ok (.iconst 4, 1) := by decide +kernel
theorem dX7_putChoices_36 : decode cX7_putChoices 36 = .ok (.iload_n 1, 1) := by decide +kernel
theorem dX7_putChoices_37 : decode cX7_putChoices 37 = .ok (.invokevirtual 92, 3) := by decide +kernel
theorem dX7_putChoices_40 : decode cX7_putChoices 40 = .ok (.invokevirtual 96, 3) := by decide +kernel
theorem dX7_putChoices_43 : decode cX7_putChoices 43 = .ok (.istore_n 2, 1) := by decide +kernel
theorem dX7_putChoices_44 : decode cX7_putChoices 44 = .ok (.aload_n 0, 1) := by decide +kernel
theorem dX7_putChoices_45 : decode cX7_putChoices 45 = .ok (.getfield 28, 3) := by decide +kernel
theorem dX7_putChoices_48 : decode cX7_putChoices 48 = .ok (.iload_n 2, 1) := by decide +kernel
theorem dX7_putChoices_49 : decode cX7_putChoices 49 = .ok (.invokevirtual 99, 3) := by decide +kernel
theorem dX7_putChoices_52 : decode cX7_putChoices 52 = .ok (.pop, 1) := by decide +kernel
theorem dX7_putChoices_53 : decode cX7_putChoices 53 = .ok (.iconst 0, 1) := by decide +kernel
theorem dX7_putChoices_54 : decode cX7_putChoices 54 = .ok (.istore_n 3, 1) := by decide +kernel
theorem dX7_putChoices_55 : decode cX7_putChoices 55 = .ok (.iload_n 3, 1) := by decide +kernel
theorem dX7_putChoices_56 : decode cX7_putChoices 56 = .ok (.iload_n 2, 1) := by decide +kernel
theorem dX7_putChoices_57 : decode cX7_putChoices 57 = .ok (.if_icmp .ge 14, 3) := by decide +kernel
theorem dX7_putChoices_60 : decode cX7_putChoices 60 = .ok (.aload_n 0, 1) := by decide +kernel
theorem dX7_putChoices_61 : decode cX7_putChoices 61 = .ok (.iconst 1, 1) := by decide +kernel
theorem dX7_putChoices_62 : decode cX7_putChoices 62 = .ok (.invokevirtual 76, 3) := by decide +kernel
theorem dX7_putChoices_65 : decode cX7_putChoices 65 = .ok (.iinc 3 1, 3) := by decide +kernel
theorem dX7_putChoices_68 : decode cX7_putChoices 68 = .ok (.goto (-13), 3) := by decide +kernel
theorem dX7_putChoices_71 : decode cX7_putChoices 71 = .ok (.aload_n 0, 1) := by decide +kernel
theorem dX7_putChoices_72 : decode cX7_putChoices 72 = .ok (.iconst 0, 1) := by decide +kernel
theorem dX7_putChoices_73 : decode cX7_putChoices 73 = .ok (.invokevirtual 76, 3) := by decide +kernel
theorem dX7_putChoices_76 : decode cX7_putChoices 76 = .ok (.iinc 1 1, 3) := by decide +kernel
theorem dX7_putChoices_79 : decode cX7_putChoices 79 = .ok (.goto (-63), 3) := by decide +kernel
theorem dX7_putChoices_82 : decode cX7_putChoices 82 = .ok (.return_, 1) := by decide +kernel
set_option maxRecDepth 20000 in
theorem ggX7_putLengths_X4_lengthOf : GoodIn wsX7_putLengths wsX4_lengthOf := goodIn_r _ [6, 7, 8, 9, 5, 10, 11, 12, 13, 14, 15, 16, 17, 43, 44, 45, 46, 47, 48, 49, 50, 51] (by decide +kernel) (by decide +kernel)
set_option maxRecDepth 20000 in
theorem gX7_putLengths_X4_lengthOf : GoodIn wsX7_putLengths (wsV RX7 102 RX4 yX4_lengthOf wsX4_lengthOf) := goodIn_app (goodIn_of _ (by decide +kernel)) ggX7_putLengths_X4_lengthOf
set_option maxRecDepth 20000 in
theorem ggX7_putLengths_X7_putNumber : GoodIn wsX7_putLengths wsX7_putNumber := goodIn_r _ [22, 23, 24, 25, 21, 26, 27, 28, 29, 30, 31, 32, 33, 34, 35, 36, 37, 38, 39, 40, 41, 42, 52, 53] (by decide +kernel) (by decide +kernel)
set_option maxRecDepth 20000 in
theorem gX7_putLengths_X7_putNumber : GoodIn wsX7_putLengths (wsV RX7 57 RX7 yX7_putNumber wsX7_putNumber) := goodIn_app (goodIn_of _ (by decide +kernel)) ggX7_putLengths_X7_putNumber
set_option maxRecDepth 20000 in
theorem ggX7_putLengths_X7_put : GoodIn wsX7_putLengths wsX7_put := goodIn_r _ [26, 27, 28, 29, 30, 31, 32, 33, 34, 35, 36, 37, 38, 39, 40, 41, 42, 52, 53] (by decide +kernel) (by decide +kernel)
set_option maxRecDepth 20000 in
theorem gX7_putLengths_X7_put : GoodIn wsX7_putLengths (wsV RX7 76 RX7 yX7_put wsX7_put) := goodIn_app (goodIn_of _ (by decide +kernel)) ggX7_putLengths_X7_put
theorem dX7_putLengths_0 : decode cX7_putLengths 0 = .ok (.aload_n 0, 1) := by decide +kernel
theorem dX7_putLengths_1 : decode cX7_putLengths 1 = .ok (.getfield 15, 3) := by decide +kernel
theorem dX7_putLengths_4 : decode cX7_putLengths 4 = .ok (.iconst 4, 1) := by decide +kernel
theorem dX7_putLengths_5 : decode cX7_putLengths 5 = .ok (.iload_n 1, 1) := by decide +kernel
theorem dX7_putLengths_6 : decode cX7_putLengths 6 = .ok (.iconst 0, 1) := by decide +kernel
theorem dX7_putLengths_7 : decode cX7_putLengths 7 = .ok (.invokevirtual 102, 3) := by decide +kernel
theorem dX7_putLengths_10 : decode cX7_putLengths 10 = .ok (.istore_n 2, 1) := by decide +kernel
theorem dX7_putLengths_11 : decode cX7_putLengths 11 = .ok (.aload_n 0, 1) := by decide +kernel
theorem dX7_putLengths_12 : decode cX7_putLengths 12 = .ok (.iload_n 2, 1) := by decide +kernel
theorem dX7_putLengths_13 : decode cX7_putLengths 13 = .ok (.iconst 5, 1) := by decide +kernel
theorem dX7_putLengths_14 : decode cX7_putLengths 14 = .ok (.invokevirtual 57, 3) := by decide +kernel
theorem dX7_putLengths_17 : decode cX7_putLengths 17 = .ok (.iconst 0, 1) := by decide +kernel
theorem dX7_putLengths_18 : decode cX7_putLengths 18 = .ok (.istore_n 3, 1) := by decide +kernel
theorem dX7_putLengths_19 : decode cX7_putLengths 19 = .ok (.iload_n 3, 1) := by decide +kernel
theorem dX7_putLengths_20 : decode cX7_putLengths 20 = .ok (.aload_n 0, 1) := by decide +kernel
theorem dX7_putLengths_21 : decode cX7_putLengths 21 = .ok (.getfield 15, 3) := by decide +kernel
theorem dX7_putLengths_24 : decode cX7_putLengths 24 = .ok (.getfield 106, 3) := by decide +kernel
theorem dX7_putLengths_27 : decode cX7_putLengths 27 = .ok (.if_icmp .ge 73, 3) := by decide +kernel
theorem dX7_putLengths_30 : decode cX7_putLengths 30 = .ok (.aload_n 0, 1) := by decide +kernel
theorem dX7_putLengths_31 : decode cX7_putLengths 31 = .ok (.getfield 15, 3) := by decide +kernel
theorem dX7_putLengths_34 : decode cX7_putLengths 34 = .ok (.iconst 4, 1) := by decide +kernel
theorem dX7_putLengths_35 : decode cX7_putLengths 35 = .ok (.iload_n 1, 1) := by decide +kernel
theorem dX7_putLengths_36 : decode cX7_putLengths 36 = .ok (.iload_n 3, 1) := by decide +kernel
theorem dX7_putLengths_37 : decode cX7_putLengths 37 = .ok (.invokevirtual 102, 3) := by decide +kernel
theorem dX7_putLengths_40 : decode cX7_putLengths 40 = .ok (.istore 4, 2) := by decide +kernel
theorem dX7_putLengths_42 : decode cX7_putLengths 42 = .ok (.iload_n 2, 1) := by decide +kernel
theorem dX7_putLengths_43 : decode cX7_putLengths 43 = .ok (.istore 5, 2) := by decide +kernel
theorem dX7_putLengths_45 : decode cX7_putLengths 45 = .ok (.iload 5, 2) := by decide +kernel
theorem dX7_putLengths_47 : decode cX7_putLengths 47 = .ok (.iload 4, 2) := by decide +kernel
theorem dX7_putLengths_49 : decode cX7_putLengths 49 = .ok (.if_icmp .ge 15, 3) := by decide +kernel
theorem dX7_putLengths_52 : decode cX7_putLengths 52 = .ok (.aload_n 0, 1) := by decide +kernel
theorem dX7_putLengths_53 : decode cX7_putLengths 53 = .ok (.iconst 2, 1) := by decide +kernel
theorem dX7_putLengths_54 : decode cX7_putLengths 54 = .ok (.iconst 2, 1) := by decide +kernel
theorem dX7_putLengths_55 : decode cX7_putLengths 55 = .ok (.invokevirtual 57, 3) := by decide +kernel
theorem dX7_putLengths_58 : decode cX7_putLengths 58 = .ok (.iinc 5 1, 3) := by decide +kernel
theorem dX7_putLengths_61 : decode cX7_putLengths 61 = .ok (.goto (-16), 3) := by decide +kernel
theorem dX7_putLengths_64 : decode cX7_putLengths 64 = .ok (.iload_n 2, 1) := by decide +kernel
theorem dX7_putLengths_65 : decode cX7_putLengths 65 = .ok (.istore 5, 2) := by decide +kernel
theorem dX7_putLengths_67 : decode cX7_putLengths 67 = .ok (.iload 5, 2) := by decide +kernel
theorem dX7_putLengths_69 : decode cX7_putLengths 69 = .ok (.iload 4, 2) := by decide +kernel
theorem dX7_putLengths_71 : decode cX7_putLengths 71 = .ok (.if_icmp .le 15, 3) := by decide +kernel
theorem dX7_putLengths_74 : decode cX7_putLengths 74 = .ok (.aload_n 0, 1) := by decide +kernel
theorem dX7_putLengths_75 : decode cX7_putLengths 75 = .ok (.iconst 3, 1) := by decide +kernel
theorem dX7_putLengths_76 : decode cX7_putLengths 76 = .ok (.iconst 2, 1) := by decide +kernel
theorem dX7_putLengths_77 : decode cX7_putLengths 77 = .ok (.invokevirtual 57, 3) := by decide +kernel
theorem dX7_putLengths_80 : decode cX7_putLengths 80 = .ok (.iinc 5 (-1), 3) := by decide +kernel
theorem dX7_putLengths_83 : decode cX7_putLengths 83 = .ok (.goto (-16), 3) := by decide +kernel
theorem dX7_putLengths_86 : decode cX7_putLengths 86 = .ok (.aload_n 0, 1) := by decide +kernel
theorem dX7_putLengths_87 : decode cX7_putLengths 87 = .ok (.iconst 0, 1) := by decide +kernel
theorem dX7_putLengths_88 : decode cX7_putLengths 88 = .ok (.invokevirtual 76, 3) := by decide +kernel
theorem dX7_putLengths_91 : decode cX7_putLengths 91 = .ok (.iload 4, 2) := by decide +kernel
theorem dX7_putLengths_93 : decode cX7_putLengths 93 = .ok (.istore_n 2, 1) := by decide +kernel
theorem dX7_putLengths_94 : decode cX7_putLengths 94 = .ok (.iinc 3 1, 3) := by decide +kernel
theorem dX7_putLengths_97 : decode cX7_putLengths 97 = .ok (.goto (-78), 3) := by decide +kernel
theorem dX7_putLengths_100 : decode cX7_putLengths 100 = .ok (.return_, 1) := by decide +kernel
set_option maxRecDepth 20000 in
theorem ggX7_putSymbols_X5_size : GoodIn wsX7_putSymbols wsX5_size := goodIn_r _ [7, 8, 76, 77] (by decide +kernel) (by decide +kernel)
set_option maxRecDepth 20000 in
theorem gX7_putSymbols_X5_size : GoodIn wsX7_putSymbols (wsV RX7 112 RX5 yX5_size wsX5_size) := goodIn_app (goodIn_of _ (by decide +kernel)) ggX7_putSymbols_X5_size
set_option maxRecDepth 20000 in
theorem ggX7_putSymbols_X5_get : GoodIn wsX7_putSymbols wsX5_get := goodIn_r _ [12, 8, 13, 76, 77] (by decide +kernel) (by decide +kernel)
set_option maxRecDepth 20000 in
theorem gX7_putSymbols_X5_get : GoodIn wsX7_putSymbols (wsV RX7 115 RX5 yX5_get wsX5_get) := goodIn_app (goodIn_of _ (by decide +kernel)) ggX7_putSymbols_X5_get
set_option maxRecDepth 20000 in
theorem ggX7_putSymbols_X4_tableOf : GoodIn wsX7_putSymbols wsX4_tableOf := goodIn_r _ [18, 19, 20, 78, 79, 80, 81, 82, 83, 84, 85, 86] (by decide +kernel) (by decide +kernel)
set_option maxRecDepth 20000 in
theorem gX7_putSymbols_X4_tableOf : GoodIn wsX7_putSymbols (wsV RX7 92 RX4 yX4_tableOf wsX4_tableOf) := goodIn_app (goodIn_of _ (by decide +kernel)) ggX7_putSymbols_X4_tableOf
set_option maxRecDepth 20000 in
theorem ggX7_putSymbols_X4_codeOf : GoodIn wsX7_putSymbols wsX4_codeOf := goodIn_r _ [24, 25, 26, 27, 28, 17, 29, 30, 31, 32, 33, 34, 35, 36, 37, 38, 78, 79, 80, 81, 82, 83, 84, 85, 86, 87, 88, 89, 90, 91, 92, 93] (by decide +kernel) (by decide +kernel)
set_option maxRecDepth 20000 in
theorem gX7_putSymbols_X4_codeOf : GoodIn wsX7_putSymbols (wsV RX7 118 RX4 yX4_codeOf wsX4_codeOf) := goodIn_app (goodIn_of _ (by decide +kernel)) ggX7_putSymbols_X4_codeOf
set_option maxRecDepth 20000 in
theorem ggX7_putSymbols_X4_lengthOf : GoodIn wsX7_putSymbols wsX4_lengthOf := goodIn_r _ [42, 26, 27, 28, 17, 29, 30, 31, 43, 44, 45, 46, 47, 78, 79, 80, 81, 82, 83, 84, 85, 86] (by decide +kernel) (by decide +kernel)
set_option maxRecDepth 20000 in
theorem gX7_putSymbols_X4_lengthOf : GoodIn wsX7_putSymbols (wsV RX7 102 RX4 yX4_lengthOf wsX4_lengthOf) := goodIn_app (goodIn_of _ (by decide +kernel)) ggX7_putSymbols_X4_lengthOf
set_option maxRecDepth 20000 in
theorem ggX7_putSymbols_X7_putNumber : GoodIn wsX7_putSymbols wsX7_putNumber := goodIn_r _ [52, 53, 54, 55, 51, 56, 57, 58, 59, 60, 61, 62, 6, 63, 8, 13, 64, 65, 66, 67, 68, 69, 76, 77] (by decide +kernel) (by decide +kernel)
set_option maxRecDepth 20000 in
theorem gX7_putSymbols_X7_putNumber : GoodIn wsX7_putSymbols (wsV RX7 57 RX7 yX7_putNumber wsX7_putNumber) := goodIn_app (goodIn_of _ (by decide +kernel)) ggX7_putSymbols_X7_putNumber
theorem dX7_putSymbols_0 : decode cX7_putSymbols 0 = .ok (.iconst 0, 1) := by decide +kernel
theorem dX7_putSymbols_1 : decode cX7_putSymbols 1 = .ok (.istore_n 1, 1) := by decide +kernel
theorem dX7_putSymbols_2 : decode cX7_putSymbols 2 = .ok (.iload_n 1, 1) := by decide +kernel
theorem dX7_putSymbols_3 : decode cX7_putSymbols 3 = .ok (.aload_n 0, 1) := by decide +kernel
theorem dX7_putSymbols_4 : decode cX7_putSymbols 4 = .ok (.getfield 9, 3) := by decide +kernel
theorem dX7_putSymbols_7 : decode cX7_putSymbols 7 = .ok (.getfield 109, 3) := by decide +kernel
theorem dX7_putSymbols_10 : decode cX7_putSymbols 10 = .ok (.invokevirtual 112, 3) := by decide +kernel
theorem dX7_putSymbols_13 : decode cX7_putSymbols 13 = .ok (.if_icmp .ge 57, 3) := by decide +kernel
theorem dX7_putSymbols_16 : decode cX7_putSymbols 16 = .ok (.aload_n 0, 1) := by decide +kernel
theorem dX7_putSymbols_17 : decode cX7_putSymbols 17 = .ok (.getfield 9, 3) := by decide +kernel
theorem dX7_putSymbols_20 : decode cX7_putSymbols 20 = .ok (.getfield 109, 3) := by decide +kernel
theorem dX7_putSymbols_23 : decode cX7_putSymbols 23 = .ok (.iload_n 1, 1) := by decide +kernel
theorem dX7_putSymbols_24 : decode cX7_putSymbols 24 = .ok (.invokevirtual 115, 3) := by decide +kernel
theorem dX7_putSymbols_27 : decode cX7_putSymbols 27 = .ok (.istore_n 2, 1) := by decide +kernel
theorem dX7_putSymbols_28 : decode cX7_putSymbols 28 = .ok (.aload_n 0, 1) := by decide +kernel
theorem dX7_putSymbols_29 : decode cX7_putSymbols 29 = .ok (.getfield 15, 3) := by decide +kernel
theorem dX7_putSymbols_32 : decode cX7_putSymbols 32 = .ok (.iconst 4, 1) := by decide +kernel
theorem dX7_putSymbols_33 : decode cX7_putSymbols 33 = .ok (.iload_n 1, 1) := by decide +kernel
theorem dX7_putSymbols_34 : decode cX7_putSymbols 34 = .ok (.bipush 10, 2) := by decide +kernel
theorem dX7_putSymbols_36 : decode cX7_putSymbols 36 = .ok (.idiv, 1) := by decide +kernel
theorem dX7_putSymbols_37 : decode cX7_putSymbols 37 = .ok (.invokevirtual 92, 3) := by decide +kernel
theorem dX7_putSymbols_40 : decode cX7_putSymbols 40 = .ok (.istore_n 3, 1) := by decide +kernel
theorem dX7_putSymbols_41 : decode cX7_putSymbols 41 = .ok (.aload_n 0, 1) := by decide +kernel
theorem dX7_putSymbols_42 : decode cX7_putSymbols 42 = .ok (.aload_n 0, 1) := by decide +kernel
theorem dX7_putSymbols_43 : decode cX7_putSymbols 43 = .ok (.getfield 15, 3) := by decide +kernel
theorem dX7_putSymbols_46 : decode cX7_putSymbols 46 = .ok (.iload_n 3, 1) := by decide +kernel
theorem dX7_putSymbols_47 : decode cX7_putSymbols 47 = .ok (.iload_n 2, 1) := by decide +kernel
theorem dX7_putSymbols_48 : decode cX7_putSymbols 48 = .ok (.invokevirtual 118, 3) := by decide +kernel
theorem dX7_putSymbols_51 : decode cX7_putSymbols 51 = .ok (.aload_n 0, 1) := by decide +kernel
theorem dX7_putSymbols_52 : decode cX7_putSymbols 52 = .ok (.getfield 15, 3) := by decide +kernel
theorem dX7_putSymbols_55 : decode cX7_putSymbols 55 = .ok (.iconst 4, 1) := by decide +kernel
theorem dX7_putSymbols_56 : decode cX7_putSymbols 56 = .ok (.iload_n 3, 1) := by decide +kernel
theorem dX7_putSymbols_57 : decode cX7_putSymbols 57 = .ok (.iload_n 2, 1) := by decide +kernel
theorem dX7_putSymbols_58 : decode cX7_putSymbols 58 = .ok (.invokevirtual 102, 3) := by decide +kernel
theorem dX7_putSymbols_61 : decode cX7_putSymbols 61 = .ok (.invokevirtual 57, 3) := by decide +kernel
theorem dX7_putSymbols_64 : decode cX7_putSymbols 64 = .ok (.iinc 1 1, 3) := by decide +kernel
theorem dX7_putSymbols_67 : decode cX7_putSymbols 67 = .ok (.goto (-65), 3) := by decide +kernel
theorem dX7_putSymbols_70 : decode cX7_putSymbols 70 = .ok (.return_, 1) := by decide +kernel
set_option maxRecDepth 20000 in
theorem ggX8_init_X5_init : GoodIn wsX8_init wsX5_init := goodIn_r _ [29, 30, 2, 3, 31, 32, 33, 135, 136] (by decide +kernel) (by decide +kernel)
set_option maxRecDepth 20000 in
theorem gX8_init_X5_init : GoodIn wsX8_init (wsX5_init) := ggX8_init_X5_init
set_option maxRecDepth 20000 in
theorem ggX8_init_X6_init : GoodIn wsX8_init wsX6_init := goodIn_r _ [36, 37, 2, 3, 38, 39, 5, 6, 40, 41, 42, 43, 44, 45, 46, 47, 48, 49, 28, 29, 30, 31, 32, 33, 50, 51, 52, 53, 54, 55, 145, 146, 147, 148, 149, 150, 135, 136, 179, 180] (by decide +kernel) (by decide +kernel)
set_option maxRecDepth 20000 in
theorem gX8_init_X6_init : GoodIn wsX8_init (wsX6_init) := ggX8_init_X6_init
set_option maxRecDepth 20000 in
theorem ggX8_init_X4_init : GoodIn wsX8_init wsX4_init := goodIn_r _ [58, 59, 2, 3, 60, 61, 31, 62, 63, 64, 65, 66, 67, 68, 69, 70, 71, 72, 73, 74, 75, 76, 77, 78, 79, 80, 81, 82, 83, 84, 85, 86, 87, 88, 89, 90, 91, 92, 93, 94, 95, 96, 97, 98, 99, 151, 152, 153, 154, 155, 156, 157, 158, 159, 181, 182, 183, 184, 185, 186, 187, 188, 189, 190, 191, 192, 193, 194, 195, 196] (by decide +kernel) (by decide +kernel)
set_option maxRecDepth 20000 in
theorem gX8_init_X4_init : GoodIn wsX8_init (wsX4_init) := ggX8_init_X4_init
set_option maxRecDepth 20000 in
theorem ggX8_init_X7_init : GoodIn wsX8_init wsX7_init := goodIn_r _ [102, 103, 2, 3, 104, 105, 106, 107, 44, 45, 108, 109, 110, 111, 51, 52, 53, 31, 54, 55, 160, 161, 162, 163, 164, 165, 179, 180] (by decide +kernel) (by decide +kernel)
set_option maxRecDepth 20000 in
theorem gX8_init_X7_init : GoodIn wsX8_init (wsX7_init) := ggX8_init_X7_init
set_option maxRecDepth 20000 in
theorem ggX8_init_X3_init : GoodIn wsX8_init wsX3_init := goodIn_r _ [114, 115, 2, 3, 116, 117, 5, 6, 118, 119, 120, 44, 45, 121, 122, 123, 124, 71, 72, 31, 125, 126, 127, 128, 129, 130, 131, 132, 28, 29, 30, 32, 33, 133, 51, 52, 53, 54, 55, 134, 90, 91, 92, 93, 94, 95, 96, 97, 98, 99, 166, 167, 168, 169, 170, 171, 172, 173, 174, 175, 176, 177, 178, 135, 136, 179, 180, 190, 191, 192, 193, 194, 195, 196] (by decide +kernel) (by decide +kernel)
set_option maxRecDepth 20000 in
theorem gX8_init_X3_init : GoodIn wsX8_init (wsX3_init) := ggX8_init_X3_init
theorem dX8_init_0 : decode cX8_init 0 = .ok (.aload_n 0, 1) := by decide +kernel
theorem dX8_init_1 : decode cX8_init 1 = .ok (.invokespecial 3, 3) := by decide +kernel
theorem dX8_init_4 : decode cX8_init 4 = .ok (.aload_n 0, 1) := by decide +kernel
theorem dX8_init_5 : decode cX8_init 5 = .ok (.new 9, 3) := by decide +kernel
theorem dX8_init_8 : decode cX8_init 8 = .ok (.dup, 1) := by decide +kernel
theorem dX8_init_9 : decode cX8_init 9 = .ok (.sipush 300, 3) := by decide +kernel
theorem dX8_init_12 : decode cX8_init 12 = .ok (.invokespecial 11, 3) := by decide +kernel
theorem dX8_init_15 : decode cX8_init 15 = .ok (.putfield 14, 3) := by decide +kernel
theorem dX8_init_18 : decode cX8_init 18 = .ok (.aload_n 0, 1) := by decide +kernel
theorem dX8_init_19 : decode cX8_init 19 = .ok (.new 9, 3) := by decide +kernel
theorem dX8_init_22 : decode cX8_init 22 = .ok (.dup, 1) := by decide +kernel
theorem dX8_init_23 : decode cX8_init 23 = .ok (.sipush 1500, 3) := by decide +kernel
theorem dX8_init_26 : decode cX8_init 26 = .ok (.invokespecial 11, 3) := by decide +kernel
theorem dX8_init_29 : decode cX8_init 29 = .ok (.putfield 18, 3) := by decide +kernel
theorem dX8_init_32 : decode cX8_init 32 = .ok (.aload_n 0, 1) := by decide +kernel
theorem dX8_init_33 : decode cX8_init 33 = .ok (.new 21, 3) := by decide +kernel
theorem dX8_init_36 : decode cX8_init 36 = .ok (.dup, 1) := by decide +kernel
theorem dX8_init_37 : decode cX8_init 37 = .ok (.aload_n 0, 1) := by decide +kernel
theorem dX8_init_38 : decode cX8_init 38 = .ok (.getfield 14, 3) := by decide +kernel
theorem dX8_init_41 : decode cX8_init 41 = .ok (.invokespecial 23, 3) := by decide +kernel
theorem dX8_init_44 : decode cX8_init 44 = .ok (.putfield 26, 3) := by decide +kernel
theorem dX8_init_47 : decode cX8_init 47 = .ok (.aload_n 0, 1) := by decide +kernel
theorem dX8_init_48 : decode cX8_init 48 = .ok (.new 30, 3) := by decide +kernel
theorem dX8_init_51 : decode cX8_init 51 = .ok (.dup, 1) := by decide +kernel
theorem dX8_init_52 : decode cX8_init 52 = .ok (.aload_n 0, 1) := by decide +kernel
theorem dX8_init_53 : decode cX8_init 53 = .ok (.getfield 26, 3) := by decide +kernel
theorem dX8_init_56 : decode cX8_init 56 = .ok (.getfield 32, 3) := by decide +kernel
theorem dX8_init_59 : decode cX8_init 59 = .ok (.invokespecial 35, 3) := by decide +kernel
theorem dX8_init_62 : decode cX8_init 62 = .ok (.putfield 36, 3) := by decide +kernel
theorem dX8_init_65 : decode cX8_init 65 = .ok (.aload_n 0, 1) := by decide +kernel
theorem dX8_init_66 : decode cX8_init 66 = .ok (.new 40, 3) := by decide +kernel
theorem dX8_init_69 : decode cX8_init 69 = .ok (.dup, 1) := by decide +kernel
theorem dX8_init_70 : decode cX8_init 70 = .ok (.aload_n 0, 1) := by decide +kernel
theorem dX8_init_71 : decode cX8_init 71 = .ok (.getfield 26, 3) := by decide +kernel
theorem dX8_init_74 : decode cX8_init 74 = .ok (.aload_n 0, 1) := by decide +kernel
theorem dX8_init_75 : decode cX8_init 75 = .ok (.getfield 36, 3) := by decide +kernel
theorem dX8_init_78 : decode cX8_init 78 = .ok (.aload_n 0, 1) := by decide +kernel
theorem dX8_init_79 : decode cX8_init 79 = .ok (.getfield 18, 3) := by decide +kernel
theorem dX8_init_82 : decode cX8_init 82 = .ok (.invokespecial 42, 3) := by decide +kernel
theorem dX8_init_85 : decode cX8_init 85 = .ok (.putfield 45, 3) := by decide +kernel
theorem dX8_init_88 : decode cX8_init 88 = .ok (.aload_n 0, 1) := by decide +kernel
theorem dX8_init_89 : decode cX8_init 89 = .ok (.new 49, 3) := by decide +kernel
theorem dX8_init_92 : decode cX8_init 92 = .ok (.dup, 1) := by decide +kernel
theorem dX8_init_93 : decode cX8_init 93 = .ok (.aload_n 0, 1) := by decide +kernel
theorem dX8_init_94 : decode cX8_init 94 = .ok (.getfield 18, 3) := by decide +kernel
theorem dX8_init_97 : decode cX8_init 97 = .ok (.invokespecial 51, 3) := by decide +kernel
theorem dX8_init_100 : decode cX8_init 100 = .ok (.putfield 52, 3) := by decide +kernel
theorem dX8_init_103 : decode cX8_init 103 = .ok (.aload_n 0, 1) := by decide +kernel
theorem dX8_init_104 : decode cX8_init 104 = .ok (.iconst 0, 1) := by decide +kernel
theorem dX8_init_105 : decode cX8_init 105 = .ok (.putfield 56, 3) := by decide +kernel
theorem dX8_init_108 : decode cX8_init 108 = .ok (.aload_n 0, 1) := by decide +kernel
theorem dX8_init_109 : decode cX8_init 109 = .ok (.iconst 0, 1) := by decide +kernel
theorem dX8_init_110 : decode cX8_init 110 = .ok (.putfield 60, 3) := by decide +kernel
theorem dX8_init_113 : decode cX8_init 113 = .ok (.return_, 1) := by decide +kernel
set_option maxRecDepth 20000 in
theorem ggX8_sign_X5_isFull : GoodIn wsX8_sign wsX5_isFull := goodIn_r _ [6, 7, 8, 32, 33] (by decide +kernel) (by decide +kernel)
set_option maxRecDepth 20000 in
theorem gX8_sign_X5_isFull : GoodIn wsX8_sign (wsV RX8 63 RX5 yX5_isFull wsX5_isFull) := goodIn_app (goodIn_of _ (by decide +kernel)) ggX8_sign_X5_isFull
set_option maxRecDepth 20000 in
theorem ggX8_sign_X5_add : GoodIn wsX8_sign wsX5_add := goodIn_r _ [12, 7, 8, 32, 33] (by decide +kernel) (by decide +kernel)
set_option maxRecDepth 20000 in
theorem gX8_sign_X5_add : GoodIn wsX8_sign (wsV RX8 67 RX5 yX5_add wsX5_add) := goodIn_app (goodIn_of _ (by decide +kernel)) ggX8_sign_X5_add
set_option maxRecDepth 20000 in
theorem ggX8_sign_X8_forgetTelling : GoodIn wsX8_sign wsX8_forgetTelling := goodIn_r _ [17, 18, 19, 24, 25, 26, 27, 28, 29, 30, 31] (by decide +kernel) (by decide +kernel)
set_option maxRecDepth 20000 in
theorem gX8_sign_X8_forgetTelling : GoodIn wsX8_sign (wsV RX8 70 RX8 yX8_forgetTelling wsX8_forgetTelling) := goodIn_app (goodIn_of _ (by decide +kernel)) ggX8_sign_X8_forgetTelling
set_option maxRecDepth 20000 in
theorem ggX8_sign_X5_size : GoodIn wsX8_sign wsX5_size := goodIn_r _ [23, 7, 32, 33] (by decide +kernel) (by decide +kernel)
set_option maxRecDepth 20000 in
theorem gX8_sign_X5_size : GoodIn wsX8_sign (wsV RX8 73 RX5 yX5_size wsX5_size) := goodIn_app (goodIn_of _ (by decide +kernel)) ggX8_sign_X5_size
theorem dX8_sign_0 : decode cX8_sign 0 = .ok (.iload_n 1, 1) := by decide +kernel
theorem dX8_sign_1 : decode cX8_sign 1 = .ok (.ifCond .lt 10, 3) := by decide +kernel
theorem dX8_sign_4 : decode cX8_sign 4 = .ok (.iload_n 1, 1) := by decide +kernel
theorem dX8_sign_5 : decode cX8_sign 5 = .ok (.sipush 256, 3) := by decide +kernel
theorem dX8_sign_8 : decode cX8_sign 8 = .ok (.if_icmp .lt 6, 3) := by decide +kernel
theorem dX8_sign_11 : decode cX8_sign 11 = .ok (.bipush (-2), 2) := by decide +kernel
theorem dX8_sign_13 : decode cX8_sign 13 = .ok (.ireturn, 1) := by decide +kernel
theorem dX8_sign_14 : decode cX8_sign 14 = .ok (.aload_n 0, 1) := by decide +kernel
theorem dX8_sign_15 : decode cX8_sign 15 = .ok (.getfield 14, 3) := by decide +kernel
theorem dX8_sign_18 : decode cX8_sign 18 = .ok (.invokevirtual 63, 3) := by decide +kernel
theorem dX8_sign_21 : decode cX8_sign 21 = .ok (.ifCond .eq 6, 3) := by decide +kernel
theorem dX8_sign_24 : decode cX8_sign 24 = .ok (.bipush (-4), 2) := by decide +kernel
theorem dX8_sign_26 : decode cX8_sign 26 = .ok (.ireturn, 1) := by decide +kernel
theorem dX8_sign_27 : decode cX8_sign 27 = .ok (.aload_n 0, 1) := by decide +kernel
theorem dX8_sign_28 : decode cX8_sign 28 = .ok (.getfield 14, 3) := by decide +kernel
theorem dX8_sign_31 : decode cX8_sign 31 = .ok (.iload_n 1, 1) := by decide +kernel
theorem dX8_sign_32 : decode cX8_sign 32 = .ok (.invokevirtual 67, 3) := by decide +kernel
theorem dX8_sign_35 : decode cX8_sign 35 = .ok (.aload_n 0, 1) := by decide +kernel
theorem dX8_sign_36 : decode cX8_sign 36 = .ok (.invokevirtual 70, 3) := by decide +kernel
theorem dX8_sign_39 : decode cX8_sign 39 = .ok (.aload_n 0, 1) := by decide +kernel
theorem dX8_sign_40 : decode cX8_sign 40 = .ok (.getfield 14, 3) := by decide +kernel
theorem dX8_sign_43 : decode cX8_sign 43 = .ok (.invokevirtual 73, 3) := by decide +kernel
theorem dX8_sign_46 : decode cX8_sign 46 = .ok (.ireturn, 1) := by decide +kernel
set_option maxRecDepth 20000 in
theorem ggX8_empty_X5_size : GoodIn wsX8_empty wsX5_size := goodIn_r _ [6, 7, 27, 28] (by decide +kernel) (by decide +kernel)
set_option maxRecDepth 20000 in
theorem gX8_empty_X5_size : GoodIn wsX8_empty (wsV RX8 73 RX5 yX5_size wsX5_size) := goodIn_app (goodIn_of _ (by decide +kernel)) ggX8_empty_X5_size
set_option maxRecDepth 20000 in
theorem ggX8_empty_X5_clear : GoodIn wsX8_empty wsX5_clear := goodIn_r _ [11, 7, 27, 28] (by decide +kernel) (by decide +kernel)
set_option maxRecDepth 20000 in
theorem gX8_empty_X5_clear : GoodIn wsX8_empty (wsV RX8 77 RX5 yX5_clear wsX5_clear) := goodIn_app (goodIn_of _ (by decide +kernel)) ggX8_empty_X5_clear
set_option maxRecDepth 20000 in
theorem ggX8_empty_X8_forgetTelling : GoodIn wsX8_empty wsX8_forgetTelling := goodIn_r _ [16, 17, 18, 19, 20, 21, 22, 23, 24, 25, 26] (by decide +kernel) (by decide +kernel)
set_option maxRecDepth 20000 in
theorem gX8_empty_X8_forgetTelling : GoodIn wsX8_empty (wsV RX8 70 RX8 yX8_forgetTelling wsX8_forgetTelling) := goodIn_app (goodIn_of _ (by decide +kernel)) ggX8_empty_X8_forgetTelling
theorem dX8_empty_0 : decode cX8_empty 0 = .ok (.aload_n 0, 1) := by decide +kernel
theorem dX8_empty_1 : decode cX8_empty 1 = .ok (.getfield 14, 3) := by decide +kernel
theorem dX8_empty_4 : decode cX8_empty 4 = .ok (.invokevirtual 73, 3) := by decide +kernel
theorem dX8_empty_7 : decode cX8_empty 7 = .ok (.istore_n 1, 1) := by decide +kernel
theorem dX8_empty_8 : decode cX8_empty 8 = .ok (.aload_n 0, 1) := by decide +kernel
theorem dX8_empty_9 : decode cX8_empty 9 = .ok (.getfield 14, 3) := by decide +kernel
theorem dX8_empty_12 : decode cX8_empty 12 = .ok (.invokevirtual 77, 3) := by decide +kernel
theorem dX8_empty_15 : decode cX8_empty 15 = .ok (.aload_n 0, 1) := by decide +kernel
theorem dX8_empty_16 : decode cX8_empty 16 = .ok (.invokevirtual 70, 3) := by decide +kernel
theorem dX8_empty_19 : decode cX8_empty 19 = .ok (.iload_n 1, 1) := by decide +kernel
theorem dX8_empty_20 : decode cX8_empty 20 = .ok (.ireturn, 1) := by decide +kernel
set_option maxRecDepth 20000 in
theorem ggX8_told_X5_size : GoodIn wsX8_told wsX5_size := goodIn_r _ [8, 9, 100, 101] (by decide +kernel) (by decide +kernel)
set_option maxRecDepth 20000 in
theorem gX8_told_X5_size : GoodIn wsX8_told (wsV RX8 73 RX5 yX5_size wsX5_size) := goodIn_app (goodIn_of _ (by decide +kernel)) ggX8_told_X5_size
set_option maxRecDepth 20000 in
theorem ggX8_told_X8_findSymbols : GoodIn wsX8_told wsX8_findSymbols := goodIn_r _ [14, 15, 2, 16, 17, 18, 19, 20, 21, 22, 23, 24, 25, 26, 27, 28, 29, 30, 31, 7, 32, 9, 33, 34, 35, 36, 37, 38, 39, 5, 6, 8, 40, 41, 42, 43, 44, 45, 46, 47, 48, 49, 50, 51, 52, 53, 54, 55, 56, 57, 58, 59, 60, 61, 62, 63, 64, 65, 66, 67, 68, 69, 70, 71, 72, 73, 74, 75, 76, 77, 78, 79, 86, 87, 88, 89, 90, 91, 92, 93, 94, 95, 96, 97, 98, 99, 100, 101, 102, 103] (by decide +kernel) (by decide +kernel)
set_option maxRecDepth 20000 in
theorem gX8_told_X8_findSymbols : GoodIn wsX8_told (wsV RX8 80 RX8 yX8_findSymbols wsX8_findSymbols) := goodIn_app (goodIn_of _ (by decide +kernel)) ggX8_told_X8_findSymbols
set_option maxRecDepth 20000 in
theorem ggX8_told_X8_groupsFor : GoodIn wsX8_told wsX8_groupsFor := goodIn_r _ [82] (by decide +kernel) (by decide +kernel)
set_option maxRecDepth 20000 in
theorem gX8_told_X8_groupsFor : GoodIn wsX8_told (va_wsS RX8 86 yX8_groupsFor wsX8_groupsFor) := goodIn_app (goodIn_of _ (by decide +kernel)) ggX8_told_X8_groupsFor
set_option maxRecDepth 20000 in
theorem ggX8_told_X8_tablesFor : GoodIn wsX8_told wsX8_tablesFor := goodIn_r _ [85] (by decide +kernel) (by decide +kernel)
set_option maxRecDepth 20000 in
theorem gX8_told_X8_tablesFor : GoodIn wsX8_told (va_wsS RX8 90 yX8_tablesFor wsX8_tablesFor) := goodIn_app (goodIn_of _ (by decide +kernel)) ggX8_told_X8_tablesFor
theorem dX8_told_0 : decode cX8_told 0 = .ok (.iload_n 1, 1) := by decide +kernel
theorem dX8_told_1 : decode cX8_told 1 = .ok (.tableswitch 121 0 5 #[39, 47, 62, 77, 95, 113], 39) := by decide +kernel
theorem dX8_told_40 : decode cX8_told 40 = .ok (.aload_n 0, 1) := by decide +kernel
theorem dX8_told_41 : decode cX8_told 41 = .ok (.getfield 14, 3) := by decide +kernel
theorem dX8_told_44 : decode cX8_told 44 = .ok (.invokevirtual 73, 3) := by decide +kernel
theorem dX8_told_47 : decode cX8_told 47 = .ok (.ireturn, 1) := by decide +kernel
theorem dX8_told_48 : decode cX8_told 48 = .ok (.aload_n 0, 1) := by decide +kernel
theorem dX8_told_49 : decode cX8_told 49 = .ok (.invokevirtual 80, 3) := by decide +kernel
theorem dX8_told_52 : decode cX8_told 52 = .ok (.aload_n 0, 1) := by decide +kernel
theorem dX8_told_53 : decode cX8_told 53 = .ok (.getfield 26, 3) := by decide +kernel
theorem dX8_told_56 : decode cX8_told 56 = .ok (.getfield 83, 3) := by decide +kernel
theorem dX8_told_59 : decode cX8_told 59 = .ok (.invokevirtual 73, 3) := by decide +kernel
theorem dX8_told_62 : decode cX8_told 62 = .ok (.ireturn, 1) := by decide +kernel
theorem dX8_told_63 : decode cX8_told 63 = .ok (.aload_n 0, 1) := by decide +kernel
theorem dX8_told_64 : decode cX8_told 64 = .ok (.invokevirtual 80, 3) := by decide +kernel
theorem dX8_told_67 : decode cX8_told 67 = .ok (.aload_n 0, 1) := by decide +kernel
theorem dX8_told_68 : decode cX8_told 68 = .ok (.getfield 26, 3) := by decide +kernel
theorem dX8_told_71 : decode cX8_told 71 = .ok (.getfield 32, 3) := by decide +kernel
theorem dX8_told_74 : decode cX8_told 74 = .ok (.invokevirtual 73, 3) := by decide +kernel
theorem dX8_told_77 : decode cX8_told 77 = .ok (.ireturn, 1) := by decide +kernel
theorem dX8_told_78 : decode cX8_told 78 = .ok (.aload_n 0, 1) := by decide +kernel
theorem dX8_told_79 : decode cX8_told 79 = .ok (.invokevirtual 80, 3) := by decide +kernel
theorem dX8_told_82 : decode cX8_told 82 = .ok (.aload_n 0, 1) := by decide +kernel
theorem dX8_told_83 : decode cX8_told 83 = .ok (.getfield 26, 3) := by decide +kernel
theorem dX8_told_86 : decode cX8_told 86 = .ok (.getfield 32, 3) := by decide +kernel
theorem dX8_told_89 : decode cX8_told 89 = .ok (.invokevirtual 73, 3) := by decide +kernel
theorem dX8_told_92 : decode cX8_told 92 = .ok (.invokestatic 86, 3) := by decide +kernel
theorem dX8_told_95 : decode cX8_told 95 = .ok (.ireturn, 1) := by decide +kernel
theorem dX8_told_96 : decode cX8_told 96 = .ok (.aload_n 0, 1) := by decide +kernel
theorem dX8_told_97 : decode cX8_told 97 = .ok (.invokevirtual 80, 3) := by decide +kernel
theorem dX8_told_100 : decode cX8_told 100 = .ok (.aload_n 0, 1) := by decide +kernel
theorem dX8_told_101 : decode cX8_told 101 = .ok (.getfield 26, 3) := by decide +kernel
theorem dX8_told_104 : decode cX8_told 104 = .ok (.getfield 32, 3) := by decide +kernel
theorem dX8_told_107 : decode cX8_told 107 = .ok (.invokevirtual 73, 3) := by decide +kernel
theorem dX8_told_110 : decode cX8_told 110 = .ok (.invokestatic 90, 3) := by decide +kernel
theorem dX8_told_113 : decode cX8_told 113 = .ok (.ireturn, 1) := by decide +kernel
theorem dX8_told_114 : decode cX8_told 114 = .ok (.aload_n 0, 1) := by decide +kernel
theorem dX8_told_115 : decode cX8_told 115 = .ok (.getfield 18, 3) := by decide +kernel
theorem dX8_told_118 : decode cX8_told 118 = .ok (.invokevirtual 73, 3) := by decide +kernel
theorem dX8_told_121 : decode cX8_told 121 = .ok (.ireturn, 1) := by decide +kernel
theorem dX8_told_122 : decode cX8_told 122 = .ok (.bipush (-2), 2) := by decide +kernel
theorem dX8_told_124 : decode cX8_told 124 = .ok (.ireturn, 1) := by decide +kernel
set_option maxRecDepth 20000 in
theorem ggX8_at_X5_get : GoodIn wsX8_at wsX5_get := goodIn_r _ [6, 7, 8, 17, 18] (by decide +kernel) (by decide +kernel)
set_option maxRecDepth 20000 in
theorem gX8_at_X5_get : GoodIn wsX8_at (wsV RX8 93 RX5 yX5_get wsX5_get) := goodIn_app (goodIn_of _ (by decide +kernel)) ggX8_at_X5_get
theorem dX8_at_0 : decode cX8_at 0 = .ok (.aload_n 0, 1) := by decide +kernel
theorem dX8_at_1 : decode cX8_at 1 = .ok (.getfield 14, 3) := by decide +kernel
theorem dX8_at_4 : decode cX8_at 4 = .ok (.iload_n 1, 1) := by decide +kernel
theorem dX8_at_5 : decode cX8_at 5 = .ok (.invokevirtual 93, 3) := by decide +kernel
theorem dX8_at_8 : decode cX8_at 8 = .ok (.ireturn, 1) := by decide +kernel
set_option maxRecDepth 20000 in
theorem ggX8_map_X8_findSymbols : GoodIn wsX8_map wsX8_findSymbols := goodIn_r _ [6, 7, 1, 8, 9, 10, 11, 12, 13, 14, 15, 16, 17, 18, 19, 20, 21, 22, 23, 24, 25, 26, 27, 28, 29, 30, 31, 32, 33, 34, 35, 36, 37, 38, 39, 40, 41, 42, 43, 44, 45, 46, 47, 48, 49, 50, 51, 52, 53, 54, 55, 56, 57, 58, 59, 60, 61, 62, 63, 64, 65, 66, 67, 68, 69, 70, 71, 72, 73, 74, 75, 76, 78, 79, 80, 81, 82, 83, 84, 85, 86, 87, 88, 89, 90, 91, 92, 93, 94, 95] (by decide +kernel) (by decide +kernel)
set_option maxRecDepth 20000 in
theorem gX8_map_X8_findSymbols : GoodIn wsX8_map (wsV RX8 80 RX8 yX8_findSymbols wsX8_findSymbols) := goodIn_app (goodIn_of _ (by decide +kernel)) ggX8_map_X8_findSymbols
set_option maxRecDepth 20000 in
theorem ggX8_map_X5_get : GoodIn wsX8_map wsX5_get := goodIn_r _ [40, 26, 41, 92, 93] (by decide +kernel) (by decide +kernel)
set_option maxRecDepth 20000 in
theorem gX8_map_X5_get : GoodIn wsX8_map (wsV RX8 93 RX5 yX5_get wsX5_get) := goodIn_app (goodIn_of _ (by decide +kernel)) ggX8_map_X5_get
theorem dX8_map_0 : decode cX8_map 0 = .ok (.aload_n 0, 1) := by decide +kernel
theorem dX8_map_1 : decode cX8_map 1 = .ok (.invokevirtual 80, 3) := by decide +kernel
theorem dX8_map_4 : decode cX8_map 4 = .ok (.aload_n 0, 1) := by decide +kernel
theorem dX8_map_5 : decode cX8_map 5 = .ok (.getfield 26, 3) := by decide +kernel
theorem dX8_map_8 : decode cX8_map 8 = .ok (.getfield 83, 3) := by decide +kernel
theorem dX8_map_11 : decode cX8_map 11 = .ok (.iload_n 1, 1) := by decide +kernel
theorem dX8_map_12 : decode cX8_map 12 = .ok (.invokevirtual 93, 3) := by decide +kernel
theorem dX8_map_15 : decode cX8_map 15 = .ok (.ireturn, 1) := by decide +kernel
set_option maxRecDepth 20000 in
theorem ggX8_place_X8_findSymbols : GoodIn wsX8_place wsX8_findSymbols := goodIn_r _ [6, 7, 1, 8, 9, 10, 11, 12, 13, 14, 15, 16, 17, 18, 19, 20, 21, 22, 23, 24, 25, 26, 27, 28, 29, 30, 31, 32, 33, 34, 35, 36, 37, 38, 39, 40, 41, 42, 43, 44, 45, 46, 47, 48, 49, 50, 51, 52, 53, 54, 55, 56, 57, 58, 59, 60, 61, 62, 63, 64, 65, 66, 67, 68, 69, 70, 71, 72, 73, 74, 75, 76, 78, 79, 80, 81, 82, 83, 84, 85, 86, 87, 88, 89, 90, 91, 92, 93, 94, 95] (by decide +kernel) (by decide +kernel)
set_option maxRecDepth 20000 in
theorem gX8_place_X8_findSymbols : GoodIn wsX8_place (wsV RX8 80 RX8 yX8_findSymbols wsX8_findSymbols) := goodIn_app (goodIn_of _ (by decide +kernel)) ggX8_place_X8_findSymbols
set_option maxRecDepth 20000 in
theorem ggX8_place_X5_get : GoodIn wsX8_place wsX5_get := goodIn_r _ [40, 26, 41, 92, 93] (by decide +kernel) (by decide +kernel)
set_option maxRecDepth 20000 in
theorem gX8_place_X5_get : GoodIn wsX8_place (wsV RX8 93 RX5 yX5_get wsX5_get) := goodIn_app (goodIn_of _ (by decide +kernel)) ggX8_place_X5_get
theorem dX8_place_0 : decode cX8_place 0 = .ok (.aload_n 0, 1) := by decide +kernel
theorem dX8_place_1 : decode cX8_place 1 = .ok (.invokevirtual 80, 3) := by decide +kernel
theorem dX8_place_4 : decode cX8_place 4 = .ok (.aload_n 0, 1) := by decide +kernel
theorem dX8_place_5 : decode cX8_place 5 = .ok (.getfield 26, 3) := by decide +kernel
theorem dX8_place_8 : decode cX8_place 8 = .ok (.getfield 96, 3) := by decide +kernel
theorem dX8_place_11 : decode cX8_place 11 = .ok (.iload_n 1, 1) := by decide +kernel
theorem dX8_place_12 : decode cX8_place 12 = .ok (.invokevirtual 93, 3) := by decide +kernel
theorem dX8_place_15 : decode cX8_place 15 = .ok (.ireturn, 1) := by decide +kernel
set_option maxRecDepth 20000 in
theorem ggX8_symbol_X8_findSymbols : GoodIn wsX8_symbol wsX8_findSymbols := goodIn_r _ [6, 7, 1, 8, 9, 10, 11, 12, 13, 14, 15, 16, 17, 18, 19, 20, 21, 22, 23, 24, 25, 26, 27, 28, 29, 30, 31, 32, 33, 34, 35, 36, 37, 38, 39, 40, 41, 42, 43, 44, 45, 46, 47, 48, 49, 50, 51, 52, 53, 54, 55, 56, 57, 58, 59, 60, 61, 62, 63, 64, 65, 66, 67, 68, 69, 70, 71, 72, 73, 74, 75, 76, 78, 79, 80, 81, 82, 83, 84, 85, 86, 87, 88, 89, 90, 91, 92, 93, 94, 95] (by decide +kernel) (by decide +kernel)
set_option maxRecDepth 20000 in
theorem gX8_symbol_X8_findSymbols : GoodIn wsX8_symbol (wsV RX8 80 RX8 yX8_findSymbols wsX8_findSymbols) := goodIn_app (goodIn_of _ (by decide +kernel)) ggX8_symbol_X8_findSymbols
set_option maxRecDepth 20000 in
theorem ggX8_symbol_X5_get : GoodIn wsX8_symbol wsX5_get := goodIn_r _ [40, 26, 41, 92, 93] (by decide +kernel) (by decide +kernel)
set_option maxRecDepth 20000 in
theorem gX8_symbol_X5_get : GoodIn wsX8_symbol (wsV RX8 93 RX5 yX5_get wsX5_get) := goodIn_app (goodIn_of _ (by decide +kernel)) ggX8_symbol_X5_get
theorem dX8_symbol_0 : decode cX8_symbol 0 = .ok (.aload_n 0, 1) := by decide +kernel
theorem dX8_symbol_1 : decode cX8_symbol 1 = .ok (.invokevirtual 80, 3) := by decide +kernel
theorem dX8_symbol_4 : decode cX8_symbol 4 = .ok (.aload_n 0, 1) := by decide +kernel
theorem dX8_symbol_5 : decode cX8_symbol 5 = .ok (.getfield 26, 3) := by decide +kernel
theorem dX8_symbol_8 : decode cX8_symbol 8 = .ok (.getfield 32, 3) := by decide +kernel
theorem dX8_symbol_11 : decode cX8_symbol 11 = .ok (.iload_n 1, 1) := by decide +kernel
theorem dX8_symbol_12 : decode cX8_symbol 12 = .ok (.invokevirtual 93, 3) := by decide +kernel
theorem dX8_symbol_15 : decode cX8_symbol 15 = .ok (.ireturn, 1) := by decide +kernel
set_option maxRecDepth 20000 in
theorem ggX8_taken_X8_findRounds : GoodIn wsX8_taken wsX8_findRounds := goodIn_r _ [6, 7, 1, 8, 9, 10, 11, 5, 12, 13, 14, 15, 16, 17, 18, 19, 20, 21, 22, 23, 24, 25, 26, 27, 28, 29, 30, 31, 32, 33, 34, 35, 36, 37, 38, 39, 40, 41, 42, 43, 44, 45, 46, 47, 48, 49, 50, 51, 52, 53, 54, 55, 56, 57, 58, 59, 60, 61, 62, 63, 64, 65, 66, 67, 68, 69, 70, 71, 72, 73, 74, 75, 76, 77, 78, 79, 80, 81, 82, 83, 84, 85, 86, 87, 88, 89, 90, 91, 92, 93, 94, 95, 96, 97, 98, 99, 100, 101, 102, 103, 104, 105, 106, 107, 108, 109, 110, 111, 112, 113, 114, 115, 116, 117, 118, 119, 120, 121, 122, 123, 124, 125, 126, 127, 128, 129, 130, 131, 132, 133, 134, 135, 136, 137, 138, 139, 140, 141, 142, 143, 144, 145, 146, 147, 148, 149, 150, 151, 152, 153, 154, 155, 156, 157, 158, 159, 160, 161, 162, 163, 164, 165, 166, 167, 168, 169, 170, 171, 172, 173, 174, 175, 176, 177, 178, 179, 180, 181, 182, 183, 184, 185, 186, 187, 188, 189, 190, 191, 192, 193, 194, 195, 196, 201, 202, 203, 204, 205, 206, 207, 208, 209, 210, 211, 212, 213, 214, 215, 216, 217, 218, 219, 220, 221, 222, 223, 224, 225, 226, 227, 228, 229, 230, 231, 232, 233, 234, 235, 236, 237, 238, 239, 240, 241, 242, 243] (by decide +kernel) (by decide +kernel)
set_option maxRecDepth 20000 in
theorem gX8_taken_X8_findRounds : GoodIn wsX8_taken (wsV RX8 99 RX8 yX8_findRounds wsX8_findRounds) := goodIn_app (goodIn_of _ (by decide +kernel)) ggX8_taken_X8_findRounds
set_option maxRecDepth 20000 in
theorem ggX8_taken_X4_tableOf : GoodIn wsX8_taken wsX4_tableOf := goodIn_r _ [200, 95, 135, 219, 220, 221, 222, 223, 224, 225, 226, 227] (by decide +kernel) (by decide +kernel)
set_option maxRecDepth 20000 in
theorem gX8_taken_X4_tableOf : GoodIn wsX8_taken (wsV RX8 102 RX4 yX4_tableOf wsX4_tableOf) := goodIn_app (goodIn_of _ (by decide +kernel)) ggX8_taken_X4_tableOf
theorem dX8_taken_0 : decode cX8_taken 0 = .ok (.iload_n 1, 1) := by decide +kernel
theorem dX8_taken_1 : decode cX8_taken 1 = .ok (.iconst 1, 1) := by decide +kernel
theorem dX8_taken_2 : decode cX8_taken 2 = .ok (.if_icmp .lt 8, 3) := by decide +kernel
theorem dX8_taken_5 : decode cX8_taken 5 = .ok (.iload_n 1, 1) := by decide +kernel
theorem dX8_taken_6 : decode cX8_taken 6 = .ok (.iconst 4, 1) := by decide +kernel
theorem dX8_taken_7 : decode cX8_taken 7 = .ok (.if_icmp .le 6, 3) := by decide +kernel
theorem dX8_taken_10 : decode cX8_taken 10 = .ok (.bipush (-2), 2) := by decide +kernel
theorem dX8_taken_12 : decode cX8_taken 12 = .ok (.ireturn, 1) := by decide +kernel
theorem dX8_taken_13 : decode cX8_taken 13 = .ok (.aload_n 0, 1) := by decide +kernel
theorem dX8_taken_14 : decode cX8_taken 14 = .ok (.invokevirtual 99, 3) := by decide +kernel
theorem dX8_taken_17 : decode cX8_taken 17 = .ok (.aload_n 0, 1) := by decide +kernel
theorem dX8_taken_18 : decode cX8_taken 18 = .ok (.getfield 36, 3) := by decide +kernel
theorem dX8_taken_21 : decode cX8_taken 21 = .ok (.iload_n 1, 1) := by decide +kernel
theorem dX8_taken_22 : decode cX8_taken 22 = .ok (.iload_n 2, 1) := by decide +kernel
theorem dX8_taken_23 : decode cX8_taken 23 = .ok (.invokevirtual 102, 3) := by decide +kernel
theorem dX8_taken_26 : decode cX8_taken 26 = .ok (.ireturn, 1) := by decide +kernel
set_option maxRecDepth 20000 in
theorem ggX8_length_X8_findRounds : GoodIn wsX8_length wsX8_findRounds := goodIn_r _ [6, 7, 1, 8, 9, 10, 11, 5, 12, 13, 14, 15, 16, 17, 18, 19, 20, 21, 22, 23, 24, 25, 26, 27, 28, 29, 30, 31, 32, 33, 34, 35, 36, 37, 38, 39, 40, 41, 42, 43, 44, 45, 46, 47, 48, 49, 50, 51, 52, 53, 54, 55, 56, 57, 58, 59, 60, 61, 62, 63, 64, 65, 66, 67, 68, 69, 70, 71, 72, 73, 74, 75, 76, 77, 78, 79, 80, 81, 82, 83, 84, 85, 86, 87, 88, 89, 90, 91, 92, 93, 94, 95, 96, 97, 98, 99, 100, 101, 102, 103, 104, 105, 106, 107, 108, 109, 110, 111, 112, 113, 114, 115, 116, 117, 118, 119, 120, 121, 122, 123, 124, 125, 126, 127, 128, 129, 130, 131, 132, 133, 134, 135, 136, 137, 138, 139, 140, 141, 142, 143, 144, 145, 146, 147, 148, 149, 150, 151, 152, 153, 154, 155, 156, 157, 158, 159, 160, 161, 162, 163, 164, 165, 166, 167, 168, 169, 170, 171, 172, 173, 174, 175, 176, 177, 178, 179, 180, 181, 182, 183, 184, 185, 186, 187, 188, 189, 190, 191, 192, 193, 194, 195, 196, 205, 206, 207, 208, 209, 210, 211, 212, 213, 214, 215, 216, 217, 218, 219, 220, 221, 222, 223, 224, 225, 226, 227, 228, 229, 230, 231, 232, 233, 234, 235, 236, 237, 238, 239, 240, 241, 242, 243, 244, 245, 246, 247] (by decide +kernel) (by decide +kernel)
set_option maxRecDepth 20000 in
theorem gX8_length_X8_findRounds : GoodIn wsX8_length (wsV RX8 99 RX8 yX8_findRounds wsX8_findRounds) := goodIn_app (goodIn_of _ (by decide +kernel)) ggX8_length_X8_findRounds
set_option maxRecDepth 20000 in
theorem ggX8_length_X4_lengthOf : GoodIn wsX8_length wsX4_lengthOf := goodIn_r _ [200, 201, 202, 203, 87, 204, 96, 93, 122, 123, 124, 125, 126, 223, 224, 225, 226, 227, 228, 229, 230, 231] (by decide +kernel) (by decide +kernel)
set_option maxRecDepth 20000 in
theorem gX8_length_X4_lengthOf : GoodIn wsX8_length (wsV RX8 106 RX4 yX4_lengthOf wsX4_lengthOf) := goodIn_app (goodIn_of _ (by decide +kernel)) ggX8_length_X4_lengthOf
theorem dX8_length_0 : decode cX8_length 0 = .ok (.iload_n 1, 1) := by decide +kernel
theorem dX8_length_1 : decode cX8_length 1 = .ok (.ifCond .lt 8, 3) := by decide +kernel
theorem dX8_length_4 : decode cX8_length 4 = .ok (.iload_n 1, 1) := by decide +kernel
theorem dX8_length_5 : decode cX8_length 5 = .ok (.iconst 4, 1) := by decide +kernel
theorem dX8_length_6 : decode cX8_length 6 = .ok (.if_icmp .le 6, 3) := by decide +kernel
theorem dX8_length_9 : decode cX8_length 9 = .ok (.bipush (-2), 2) := by decide +kernel
theorem dX8_length_11 : decode cX8_length 11 = .ok (.ireturn, 1) := by decide +kernel
theorem dX8_length_12 : decode cX8_length 12 = .ok (.aload_n 0, 1) := by decide +kernel
theorem dX8_length_13 : decode cX8_length 13 = .ok (.invokevirtual 99, 3) := by decide +kernel
theorem dX8_length_16 : decode cX8_length 16 = .ok (.aload_n 0, 1) := by decide +kernel
theorem dX8_length_17 : decode cX8_length 17 = .ok (.getfield 36, 3) := by decide +kernel
theorem dX8_length_20 : decode cX8_length 20 = .ok (.iload_n 1, 1) := by decide +kernel
theorem dX8_length_21 : decode cX8_length 21 = .ok (.iload_n 2, 1) := by decide +kernel
theorem dX8_length_22 : decode cX8_length 22 = .ok (.iload_n 3, 1) := by decide +kernel
theorem dX8_length_23 : decode cX8_length 23 = .ok (.invokevirtual 106, 3) := by decide +kernel
theorem dX8_length_26 : decode cX8_length 26 = .ok (.ireturn, 1) := by decide +kernel
set_option maxRecDepth 20000 in
theorem ggX8_code_X8_findRounds : GoodIn wsX8_code wsX8_findRounds := goodIn_r _ [6, 7, 1, 8, 9, 10, 11, 5, 12, 13, 14, 15, 16, 17, 18, 19, 20, 21, 22, 23, 24, 25, 26, 27, 28, 29, 30, 31, 32, 33, 34, 35, 36, 37, 38, 39, 40, 41, 42, 43, 44, 45, 46, 47, 48, 49, 50, 51, 52, 53, 54, 55, 56, 57, 58, 59, 60, 61, 62, 63, 64, 65, 66, 67, 68, 69, 70, 71, 72, 73, 74, 75, 76, 77, 78, 79, 80, 81, 82, 83, 84, 85, 86, 87, 88, 89, 90, 91, 92, 93, 94, 95, 96, 97, 98, 99, 100, 101, 102, 103, 104, 105, 106, 107, 108, 109, 110, 111, 112, 113, 114, 115, 116, 117, 118, 119, 120, 121, 122, 123, 124, 125, 126, 127, 128, 129, 130, 131, 132, 133, 134, 135, 136, 137, 138, 139, 140, 141, 142, 143, 144, 145, 146, 147, 148, 149, 150, 151, 152, 153, 154, 155, 156, 157, 158, 159, 160, 161, 162, 163, 164, 165, 166, 167, 168, 169, 170, 171, 172, 173, 174, 175, 176, 177, 178, 179, 180, 181, 182, 183, 184, 185, 186, 187, 188, 189, 190, 191, 192, 193, 194, 195, 196, 209, 210, 211, 212, 213, 214, 215, 216, 217, 218, 219, 220, 221, 222, 223, 224, 225, 226, 227, 228, 229, 230, 231, 232, 233, 234, 235, 236, 237, 238, 239, 240, 241, 242, 243, 244, 245, 246, 247, 248, 249, 250, 251] (by decide +kernel) (by decide +kernel)
set_option maxRecDepth 20000 in
theorem gX8_code_X8_findRounds : GoodIn wsX8_code (wsV RX8 99 RX8 yX8_findRounds wsX8_findRounds) := goodIn_app (goodIn_of _ (by decide +kernel)) ggX8_code_X8_findRounds
set_option maxRecDepth 20000 in
theorem ggX8_code_X4_codeOf : GoodIn wsX8_code wsX4_codeOf := goodIn_r _ [200, 99, 201, 202, 203, 87, 204, 96, 93, 205, 206, 207, 182, 208, 185, 192, 227, 228, 229, 230, 231, 232, 233, 234, 235, 245, 246, 247, 248, 249, 250, 251] (by decide +kernel) (by decide +kernel)
set_option maxRecDepth 20000 in
theorem gX8_code_X4_codeOf : GoodIn wsX8_code (wsV RX8 110 RX4 yX4_codeOf wsX4_codeOf) := goodIn_app (goodIn_of _ (by decide +kernel)) ggX8_code_X4_codeOf
theorem dX8_code_0 : decode cX8_code 0 = .ok (.aload_n 0, 1) := by decide +kernel
theorem dX8_code_1 : decode cX8_code 1 = .ok (.invokevirtual 99, 3) := by decide +kernel
theorem dX8_code_4 : decode cX8_code 4 = .ok (.aload_n 0, 1) := by decide +kernel
theorem dX8_code_5 : decode cX8_code 5 = .ok (.getfield 36, 3) := by decide +kernel
theorem dX8_code_8 : decode cX8_code 8 = .ok (.iload_n 1, 1) := by decide +kernel
theorem dX8_code_9 : decode cX8_code 9 = .ok (.iload_n 2, 1) := by decide +kernel
theorem dX8_code_10 : decode cX8_code 10 = .ok (.invokevirtual 110, 3) := by decide +kernel
theorem dX8_code_13 : decode cX8_code 13 = .ok (.ireturn, 1) := by decide +kernel
set_option maxRecDepth 20000 in
theorem ggX8_cost_X5_size : GoodIn wsX8_cost wsX5_size := goodIn_r _ [7, 8, 285, 286] (by decide +kernel) (by decide +kernel)
set_option maxRecDepth 20000 in
theorem gX8_cost_X5_size : GoodIn wsX8_cost (wsV RX8 73 RX5 yX5_size wsX5_size) := goodIn_app (goodIn_of _ (by decide +kernel)) ggX8_cost_X5_size
set_option maxRecDepth 20000 in
theorem ggX8_cost_X8_findRounds : GoodIn wsX8_cost wsX8_findRounds := goodIn_r _ [13, 14, 15, 16, 17, 18, 19, 12, 20, 21, 22, 23, 24, 25, 26, 27, 28, 29, 30, 31, 32, 33, 34, 35, 36, 37, 6, 38, 8, 39, 40, 41, 42, 43, 44, 45, 4, 5, 7, 46, 47, 48, 49, 50, 51, 52, 53, 54, 55, 56, 57, 58, 59, 60, 61, 62, 63, 64, 65, 66, 67, 68, 69, 70, 71, 72, 73, 74, 75, 76, 77, 78, 79, 80, 81, 82, 83, 84, 85, 3, 86, 87, 88, 89, 90, 91, 92, 93, 94, 95, 96, 97, 98, 99, 100, 101, 102, 103, 104, 105, 106, 107, 108, 109, 110, 111, 112, 113, 114, 115, 116, 117, 118, 119, 120, 121, 122, 123, 124, 125, 126, 127, 128, 129, 130, 131, 132, 133, 134, 135, 136, 137, 138, 139, 140, 141, 142, 143, 144, 145, 146, 147, 148, 149, 150, 151, 152, 153, 154, 155, 156, 157, 158, 159, 160, 161, 162, 163, 164, 165, 166, 167, 168, 169, 170, 171, 172, 173, 174, 175, 176, 177, 178, 179, 180, 181, 182, 183, 184, 185, 186, 187, 188, 189, 190, 191, 192, 193, 194, 195, 196, 197, 198, 277, 278, 279, 280, 281, 282, 283, 284, 287, 288, 289, 290, 291, 292, 285, 286, 293, 294, 295, 296, 297, 298, 299, 300, 301, 302, 303, 304, 305, 306, 307, 308, 309, 310, 311, 312, 313, 314, 315, 316, 317, 318, 319] (by decide +kernel) (by decide +kernel)
set_option maxRecDepth 20000 in
theorem gX8_cost_X8_findRounds : GoodIn wsX8_cost (wsV RX8 99 RX8 yX8_findRounds wsX8_findRounds) := goodIn_app (goodIn_of _ (by decide +kernel)) ggX8_cost_X8_findRounds
set_option maxRecDepth 20000 in
theorem ggX8_cost_X7_countBits : GoodIn wsX8_cost wsX7_countBits := goodIn_r _ [203, 204, 205, 206, 207, 202, 208, 209, 210, 211, 212, 213, 214, 215, 216, 217, 218, 219, 220, 221, 222, 25, 223, 33, 224, 225, 226, 227, 228, 229, 56, 57, 6, 58, 8, 50, 230, 231, 232, 233, 234, 235, 236, 237, 238, 239, 240, 241, 42, 242, 243, 40, 41, 43, 44, 244, 60, 61, 62, 63, 245, 246, 247, 89, 248, 97, 137, 249, 70, 71, 72, 250, 74, 75, 76, 251, 252, 253, 254, 255, 256, 257, 258, 259, 260, 261, 262, 98, 95, 124, 125, 126, 127, 128, 263, 264, 265, 266, 267, 4, 5, 7, 268, 47, 48, 49, 269, 270, 271, 272, 101, 273, 274, 275, 184, 276, 187, 194, 320, 321, 322, 323, 324, 325, 295, 296, 297, 298, 299, 300, 301, 302, 303, 287, 288, 289, 290, 291, 292, 285, 286, 293, 294, 313, 314, 315, 316, 317, 318, 319] (by decide +kernel) (by decide +kernel)
set_option maxRecDepth 20000 in
theorem gX8_cost_X7_countBits : GoodIn wsX8_cost (wsV RX8 113 RX7 yX7_countBits wsX7_countBits) := goodIn_app (goodIn_of _ (by decide +kernel)) ggX8_cost_X7_countBits
theorem dX8_cost_0 : decode cX8_cost 0 = .ok (.aload_n 0, 1) := by decide +kernel
theorem dX8_cost_1 : decode cX8_cost 1 = .ok (.getfield 14, 3) := by decide +kernel
theorem dX8_cost_4 : decode cX8_cost 4 = .ok (.invokevirtual 73, 3) := by decide +kernel
theorem dX8_cost_7 : decode cX8_cost 7 = .ok (.ifCond .ne 6, 3) := by decide +kernel
theorem dX8_cost_10 : decode cX8_cost 10 = .ok (.bipush (-3), 2) := by decide +kernel
theorem dX8_cost_12 : decode cX8_cost 12 = .ok (.ireturn, 1) := by decide +kernel
theorem dX8_cost_13 : decode cX8_cost 13 = .ok (.aload_n 0, 1) := by decide +kernel
theorem dX8_cost_14 : decode cX8_cost 14 = .ok (.invokevirtual 99, 3) := by decide +kernel
theorem dX8_cost_17 : decode cX8_cost 17 = .ok (.aload_n 0, 1) := by decide +kernel
theorem dX8_cost_18 : decode cX8_cost 18 = .ok (.getfield 45, 3) := by decide +kernel
theorem dX8_cost_21 : decode cX8_cost 21 = .ok (.invokevirtual 113, 3) := by decide +kernel
theorem dX8_cost_24 : decode cX8_cost 24 = .ok (.ireturn, 1) := by decide +kernel
set_option maxRecDepth 20000 in
theorem ggX8_write_X5_size : GoodIn wsX8_write wsX5_size := goodIn_r _ [7, 8, 290, 291] (by decide +kernel) (by decide +kernel)
set_option maxRecDepth 20000 in
theorem gX8_write_X5_size : GoodIn wsX8_write (wsV RX8 73 RX5 yX5_size wsX5_size) := goodIn_app (goodIn_of _ (by decide +kernel)) ggX8_write_X5_size
set_option maxRecDepth 20000 in
theorem ggX8_write_X8_findRounds : GoodIn wsX8_write wsX8_findRounds := goodIn_r _ [13, 14, 15, 16, 17, 18, 19, 12, 20, 21, 22, 23, 24, 25, 26, 27, 28, 29, 30, 31, 32, 33, 34, 35, 36, 37, 6, 38, 8, 39, 40, 41, 42, 43, 44, 45, 4, 5, 7, 46, 47, 48, 49, 50, 51, 52, 53, 54, 55, 56, 57, 58, 59, 60, 61, 62, 63, 64, 65, 66, 67, 68, 69, 70, 71, 72, 73, 74, 75, 76, 77, 78, 79, 80, 81, 82, 83, 84, 85, 3, 86, 87, 88, 89, 90, 91, 92, 93, 94, 95, 96, 97, 98, 99, 100, 101, 102, 103, 104, 105, 106, 107, 108, 109, 110, 111, 112, 113, 114, 115, 116, 117, 118, 119, 120, 121, 122, 123, 124, 125, 126, 127, 128, 129, 130, 131, 132, 133, 134, 135, 136, 137, 138, 139, 140, 141, 142, 143, 144, 145, 146, 147, 148, 149, 150, 151, 152, 153, 154, 155, 156, 157, 158, 159, 160, 161, 162, 163, 164, 165, 166, 167, 168, 169, 170, 171, 172, 173, 174, 175, 176, 177, 178, 179, 180, 181, 182, 183, 184, 185, 186, 187, 188, 189, 190, 191, 192, 193, 194, 195, 196, 197, 198, 282, 283, 284, 285, 286, 287, 288, 289, 292, 293, 294, 295, 296, 297, 290, 291, 298, 299, 300, 301, 302, 303, 304, 305, 306, 307, 308, 309, 310, 311, 312, 313, 314, 315, 316, 317, 318, 319, 320, 321, 322, 323, 324] (by decide +kernel) (by decide +kernel)
set_option maxRecDepth 20000 in
theorem gX8_write_X8_findRounds : GoodIn wsX8_write (wsV RX8 99 RX8 yX8_findRounds wsX8_findRounds) := goodIn_app (goodIn_of _ (by decide +kernel)) ggX8_write_X8_findRounds
set_option maxRecDepth 20000 in
theorem ggX8_write_X7_countBits : GoodIn wsX8_write wsX7_countBits := goodIn_r _ [203, 204, 205, 206, 207, 202, 208, 209, 210, 211, 212, 213, 214, 215, 216, 217, 218, 219, 220, 221, 222, 25, 223, 33, 224, 225, 226, 227, 228, 229, 56, 57, 6, 58, 8, 50, 230, 231, 232, 233, 234, 235, 236, 237, 238, 239, 240, 241, 42, 242, 243, 40, 41, 43, 44, 244, 60, 61, 62, 63, 245, 246, 247, 89, 248, 97, 137, 249, 70, 71, 72, 250, 74, 75, 76, 251, 252, 253, 254, 255, 256, 257, 258, 259, 260, 261, 262, 98, 95, 124, 125, 126, 127, 128, 263, 264, 265, 266, 267, 4, 5, 7, 268, 47, 48, 49, 269, 270, 271, 272, 101, 273, 274, 275, 184, 276, 187, 194, 325, 326, 327, 328, 329, 330, 300, 301, 302, 303, 304, 305, 306, 307, 308, 292, 293, 294, 295, 296, 297, 290, 291, 298, 299, 318, 319, 320, 321, 322, 323, 324] (by decide +kernel) (by decide +kernel)
set_option maxRecDepth 20000 in
theorem gX8_write_X7_countBits : GoodIn wsX8_write (wsV RX8 113 RX7 yX7_countBits wsX7_countBits) := goodIn_app (goodIn_of _ (by decide +kernel)) ggX8_write_X7_countBits
set_option maxRecDepth 20000 in
theorem ggX8_write_X7_fillTape : GoodIn wsX8_write wsX7_fillTape := goodIn_r _ [280, 204, 228, 281, 36, 37, 6, 38, 8, 205, 206, 207, 202, 208, 209, 210, 211, 212, 213, 214, 215, 216, 217, 218, 219, 220, 221, 222, 25, 223, 33, 224, 225, 226, 227, 229, 56, 57, 58, 50, 230, 231, 232, 233, 234, 235, 236, 237, 238, 239, 240, 241, 42, 242, 243, 40, 41, 43, 44, 244, 60, 61, 62, 63, 245, 246, 247, 89, 248, 97, 137, 249, 70, 71, 72, 250, 74, 75, 76, 251, 252, 253, 254, 255, 256, 257, 258, 259, 260, 261, 262, 98, 95, 124, 125, 126, 127, 128, 263, 264, 265, 266, 267, 4, 5, 7, 268, 47, 48, 49, 269, 270, 271, 272, 101, 273, 274, 275, 184, 276, 187, 194, 325, 326, 327, 328, 329, 330, 290, 291, 300, 301, 302, 303, 304, 305, 306, 307, 308, 292, 293, 294, 295, 296, 297, 298, 299, 318, 319, 320, 321, 322, 323, 324] (by decide +kernel) (by decide +kernel)
set_option maxRecDepth 20000 in
theorem gX8_write_X7_fillTape : GoodIn wsX8_write (wsV RX8 116 RX7 yX7_fillTape wsX7_fillTape) := goodIn_app (goodIn_of _ (by decide +kernel)) ggX8_write_X7_fillTape
theorem dX8_write_0 : decode cX8_write 0 = .ok (.aload_n 0, 1) := by decide +kernel
theorem dX8_write_1 : decode cX8_write 1 = .ok (.getfield 14, 3) := by decide +kernel
theorem dX8_write_4 : decode cX8_write 4 = .ok (.invokevirtual 73, 3) := by decide +kernel
theorem dX8_write_7 : decode cX8_write 7 = .ok (.ifCond .ne 6, 3) := by decide +kernel
theorem dX8_write_10 : decode cX8_write 10 = .ok (.bipush (-3), 2) := by decide +kernel
theorem dX8_write_12 : decode cX8_write 12 = .ok (.ireturn, 1) := by decide +kernel
theorem dX8_write_13 : decode cX8_write 13 = .ok (.aload_n 0, 1) := by decide +kernel
theorem dX8_write_14 : decode cX8_write 14 = .ok (.invokevirtual 99, 3) := by decide +kernel
theorem dX8_write_17 : decode cX8_write 17 = .ok (.aload_n 0, 1) := by decide +kernel
theorem dX8_write_18 : decode cX8_write 18 = .ok (.getfield 45, 3) := by decide +kernel
theorem dX8_write_21 : decode cX8_write 21 = .ok (.invokevirtual 113, 3) := by decide +kernel
theorem dX8_write_24 : decode cX8_write 24 = .ok (.sipush 1500, 3) := by decide +kernel
theorem dX8_write_27 : decode cX8_write 27 = .ok (.if_icmp .le 6, 3) := by decide +kernel
theorem dX8_write_30 : decode cX8_write 30 = .ok (.bipush (-4), 2) := by decide +kernel
theorem dX8_write_32 : decode cX8_write 32 = .ok (.ireturn, 1) := by decide +kernel
theorem dX8_write_33 : decode cX8_write 33 = .ok (.aload_n 0, 1) := by decide +kernel
theorem dX8_write_34 : decode cX8_write 34 = .ok (.getfield 45, 3) := by decide +kernel
theorem dX8_write_37 : decode cX8_write 37 = .ok (.invokevirtual 116, 3) := by decide +kernel
theorem dX8_write_40 : decode cX8_write 40 = .ok (.ireturn, 1) := by decide +kernel
set_option maxRecDepth 20000 in
theorem ggX8_more_X5_isFull : GoodIn wsX8_more wsX5_isFull := goodIn_r _ [6, 7, 8, 25, 26] (by decide +kernel) (by decide +kernel)
set_option maxRecDepth 20000 in
theorem gX8_more_X5_isFull : GoodIn wsX8_more (wsV RX8 63 RX5 yX5_isFull wsX5_isFull) := goodIn_app (goodIn_of _ (by decide +kernel)) ggX8_more_X5_isFull
set_option maxRecDepth 20000 in
theorem ggX8_more_X5_add : GoodIn wsX8_more wsX5_add := goodIn_r _ [12, 7, 8, 25, 26] (by decide +kernel) (by decide +kernel)
set_option maxRecDepth 20000 in
theorem gX8_more_X5_add : GoodIn wsX8_more (wsV RX8 67 RX5 yX5_add wsX5_add) := goodIn_app (goodIn_of _ (by decide +kernel)) ggX8_more_X5_add
set_option maxRecDepth 20000 in
theorem ggX8_more_X5_size : GoodIn wsX8_more wsX5_size := goodIn_r _ [16, 7, 25, 26] (by decide +kernel) (by decide +kernel)
set_option maxRecDepth 20000 in
theorem gX8_more_X5_size : GoodIn wsX8_more (wsV RX8 73 RX5 yX5_size wsX5_size) := goodIn_app (goodIn_of _ (by decide +kernel)) ggX8_more_X5_size
theorem dX8_more_0 : decode cX8_more 0 = .ok (.aload_n 0, 1) := by decide +kernel
theorem dX8_more_1 : decode cX8_more 1 = .ok (.getfield 18, 3) := by decide +kernel
theorem dX8_more_4 : decode cX8_more 4 = .ok (.invokevirtual 63, 3) := by decide +kernel
theorem dX8_more_7 : decode cX8_more 7 = .ok (.ifCond .eq 6, 3) := by decide +kernel
theorem dX8_more_10 : decode cX8_more 10 = .ok (.bipush (-4), 2) := by decide +kernel
theorem dX8_more_12 : decode cX8_more 12 = .ok (.ireturn, 1) := by decide +kernel
theorem dX8_more_13 : decode cX8_more 13 = .ok (.aload_n 0, 1) := by decide +kernel
theorem dX8_more_14 : decode cX8_more 14 = .ok (.getfield 18, 3) := by decide +kernel
theorem dX8_more_17 : decode cX8_more 17 = .ok (.iload_n 1, 1) := by decide +kernel
theorem dX8_more_18 : decode cX8_more 18 = .ok (.ifCond .eq 7, 3) := by decide +kernel
theorem dX8_more_21 : decode cX8_more 21 = .ok (.iconst 1, 1) := by decide +kernel
theorem dX8_more_22 : decode cX8_more 22 = .ok (.goto 4, 3) := by decide +kernel
theorem dX8_more_25 : decode cX8_more 25 = .ok (.iconst 0, 1) := by decide +kernel
theorem dX8_more_26 : decode cX8_more 26 = .ok (.invokevirtual 67, 3) := by decide +kernel
theorem dX8_more_29 : decode cX8_more 29 = .ok (.aload_n 0, 1) := by decide +kernel
theorem dX8_more_30 : decode cX8_more 30 = .ok (.getfield 18, 3) := by decide +kernel
theorem dX8_more_33 : decode cX8_more 33 = .ok (.invokevirtual 73, 3) := by decide +kernel
theorem dX8_more_36 : decode cX8_more 36 = .ok (.ireturn, 1) := by decide +kernel
set_option maxRecDepth 20000 in
theorem ggX8_cut_X5_size : GoodIn wsX8_cut wsX5_size := goodIn_r _ [6, 7, 20, 21] (by decide +kernel) (by decide +kernel)
set_option maxRecDepth 20000 in
theorem gX8_cut_X5_size : GoodIn wsX8_cut (wsV RX8 73 RX5 yX5_size wsX5_size) := goodIn_app (goodIn_of _ (by decide +kernel)) ggX8_cut_X5_size
set_option maxRecDepth 20000 in
theorem ggX8_cut_X5_keepFirst : GoodIn wsX8_cut wsX5_keepFirst := goodIn_r _ [11, 7, 20, 21] (by decide +kernel) (by decide +kernel)
set_option maxRecDepth 20000 in
theorem gX8_cut_X5_keepFirst : GoodIn wsX8_cut (wsV RX8 119 RX5 yX5_keepFirst wsX5_keepFirst) := goodIn_app (goodIn_of _ (by decide +kernel)) ggX8_cut_X5_keepFirst
theorem dX8_cut_0 : decode cX8_cut 0 = .ok (.aload_n 0, 1) := by decide +kernel
theorem dX8_cut_1 : decode cX8_cut 1 = .ok (.getfield 18, 3) := by decide +kernel
theorem dX8_cut_4 : decode cX8_cut 4 = .ok (.invokevirtual 73, 3) := by decide +kernel
theorem dX8_cut_7 : decode cX8_cut 7 = .ok (.istore_n 2, 1) := by decide +kernel
theorem dX8_cut_8 : decode cX8_cut 8 = .ok (.iload_n 1, 1) := by decide +kernel
theorem dX8_cut_9 : decode cX8_cut 9 = .ok (.ifCond .lt 8, 3) := by decide +kernel
theorem dX8_cut_12 : decode cX8_cut 12 = .ok (.iload_n 1, 1) := by decide +kernel
theorem dX8_cut_13 : decode cX8_cut 13 = .ok (.iload_n 2, 1) := by decide +kernel
theorem dX8_cut_14 : decode cX8_cut 14 = .ok (.if_icmp .le 6, 3) := by decide +kernel
theorem dX8_cut_17 : decode cX8_cut 17 = .ok (.bipush (-2), 2) := by decide +kernel
theorem dX8_cut_19 : decode cX8_cut 19 = .ok (.ireturn, 1) := by decide +kernel
theorem dX8_cut_20 : decode cX8_cut 20 = .ok (.aload_n 0, 1) := by decide +kernel
theorem dX8_cut_21 : decode cX8_cut 21 = .ok (.getfield 18, 3) := by decide +kernel
theorem dX8_cut_24 : decode cX8_cut 24 = .ok (.iload_n 1, 1) := by decide +kernel
theorem dX8_cut_25 : decode cX8_cut 25 = .ok (.invokevirtual 119, 3) := by decide +kernel
theorem dX8_cut_28 : decode cX8_cut 28 = .ok (.iload_n 2, 1) := by decide +kernel
theorem dX8_cut_29 : decode cX8_cut 29 = .ok (.iload_n 1, 1) := by decide +kernel
theorem dX8_cut_30 : decode cX8_cut 30 = .ok (.isub, 1) := by decide +kernel
theorem dX8_cut_31 : decode cX8_cut 31 = .ok (.ireturn, 1) := by decide +kernel
set_option maxRecDepth 20000 in
theorem ggX8_flip_X5_get : GoodIn wsX8_flip wsX5_get := goodIn_r _ [6, 7, 8, 21, 22] (by decide +kernel) (by decide +kernel)
set_option maxRecDepth 20000 in
theorem gX8_flip_X5_get : GoodIn wsX8_flip (wsV RX8 93 RX5 yX5_get wsX5_get) := goodIn_app (goodIn_of _ (by decide +kernel)) ggX8_flip_X5_get
set_option maxRecDepth 20000 in
theorem ggX8_flip_X5_set : GoodIn wsX8_flip wsX5_set := goodIn_r _ [12, 7, 8, 21, 22] (by decide +kernel) (by decide +kernel)
set_option maxRecDepth 20000 in
theorem gX8_flip_X5_set : GoodIn wsX8_flip (wsV RX8 122 RX5 yX5_set wsX5_set) := goodIn_app (goodIn_of _ (by decide +kernel)) ggX8_flip_X5_set
theorem dX8_flip_0 : decode cX8_flip 0 = .ok (.aload_n 0, 1) := by decide +kernel
theorem dX8_flip_1 : decode cX8_flip 1 = .ok (.getfield 18, 3) := by decide +kernel
theorem dX8_flip_4 : decode cX8_flip 4 = .ok (.iload_n 1, 1) := by decide +kernel
theorem dX8_flip_5 : decode cX8_flip 5 = .ok (.invokevirtual 93, 3) := by decide +kernel
theorem dX8_flip_8 : decode cX8_flip 8 = .ok (.istore_n 2, 1) := by decide +kernel
theorem dX8_flip_9 : decode cX8_flip 9 = .ok (.iload_n 2, 1) := by decide +kernel
theorem dX8_flip_10 : decode cX8_flip 10 = .ok (.iconst (-1), 1) := by decide +kernel
theorem dX8_flip_11 : decode cX8_flip 11 = .ok (.if_icmp .ne 5, 3) := by decide +kernel
theorem dX8_flip_14 : decode cX8_flip 14 = .ok (.iconst (-1), 1) := by decide +kernel
theorem dX8_flip_15 : decode cX8_flip 15 = .ok (.ireturn, 1) := by decide +kernel
theorem dX8_flip_16 : decode cX8_flip 16 = .ok (.aload_n 0, 1) := by decide +kernel
theorem dX8_flip_17 : decode cX8_flip 17 = .ok (.getfield 18, 3) := by decide +kernel
theorem dX8_flip_20 : decode cX8_flip 20 = .ok (.iload_n 1, 1) := by decide +kernel
theorem dX8_flip_21 : decode cX8_flip 21 = .ok (.iconst 1, 1) := by decide +kernel
theorem dX8_flip_22 : decode cX8_flip 22 = .ok (.iload_n 2, 1) := by decide +kernel
theorem dX8_flip_23 : decode cX8_flip 23 = .ok (.isub, 1) := by decide +kernel
theorem dX8_flip_24 : decode cX8_flip 24 = .ok (.invokevirtual 122, 3) := by decide +kernel
theorem dX8_flip_27 : decode cX8_flip 27 = .ok (.iconst 1, 1) := by decide +kernel
theorem dX8_flip_28 : decode cX8_flip 28 = .ok (.iload_n 2, 1) := by decide +kernel
theorem dX8_flip_29 : decode cX8_flip 29 = .ok (.isub, 1) := by decide +kernel
theorem dX8_flip_30 : decode cX8_flip 30 = .ok (.ireturn, 1) := by decide +kernel
set_option maxRecDepth 20000 in
theorem ggX8_bit_X5_get : GoodIn wsX8_bit wsX5_get := goodIn_r _ [6, 7, 8, 17, 18] (by decide +kernel) (by decide +kernel)
set_option maxRecDepth 20000 in
theorem gX8_bit_X5_get : GoodIn wsX8_bit (wsV RX8 93 RX5 yX5_get wsX5_get) := goodIn_app (goodIn_of _ (by decide +kernel)) ggX8_bit_X5_get
theorem dX8_bit_0 : decode cX8_bit 0 = .ok (.aload_n 0, 1) := by decide +kernel
theorem dX8_bit_1 : decode cX8_bit 1 = .ok (.getfield 18, 3) := by decide +kernel
theorem dX8_bit_4 : decode cX8_bit 4 = .ok (.iload_n 1, 1) := by decide +kernel
theorem dX8_bit_5 : decode cX8_bit 5 = .ok (.invokevirtual 93, 3) := by decide +kernel
theorem dX8_bit_8 : decode cX8_bit 8 = .ok (.ireturn, 1) := by decide +kernel
set_option maxRecDepth 20000 in
theorem ggX8_read_X3_readTape : GoodIn wsX8_read wsX3_readTape := goodIn_r _ [7, 8, 9, 10, 11, 12, 13, 6, 14, 15, 16, 17, 18, 19, 20, 21, 22, 23, 24, 25, 26, 27, 28, 29, 30, 31, 32, 33, 34, 35, 36, 37, 38, 39, 40, 41, 42, 43, 44, 45, 46, 47, 48, 49, 50, 51, 52, 53, 54, 55, 56, 57, 58, 59, 60, 61, 62, 63, 64, 65, 66, 67, 68, 69, 70, 71, 72, 73, 74, 75, 76, 77, 78, 79, 80, 81, 82, 83, 84, 85, 86, 87, 88, 89, 90, 91, 92, 93, 94, 95, 96, 97, 98, 99, 100, 101, 102, 103, 104, 105, 106, 107, 108, 109, 110, 111, 112, 113, 114, 115, 116, 117, 118, 119, 120, 121, 122, 123, 124, 125, 126, 127, 128, 129, 130, 131, 132, 133, 134, 135, 136, 137, 138, 139, 140, 141, 142, 143, 144, 145, 146, 147, 148, 149, 150, 151, 152, 153, 154, 155, 156, 157, 158, 159, 160, 161, 162, 163, 164, 186, 187, 188, 189, 190, 191, 192, 193, 194, 195, 196, 197, 198, 199, 200, 201, 202, 203, 204, 205, 206, 207, 208, 209] (by decide +kernel) (by decide +kernel)
set_option maxRecDepth 20000 in
theorem gX8_read_X3_readTape : GoodIn wsX8_read (wsV RX8 126 RX3 yX3_readTape wsX3_readTape) := goodIn_app (goodIn_of _ (by decide +kernel)) ggX8_read_X3_readTape
set_option maxRecDepth 20000 in
theorem ggX8_read_X5_copyFrom : GoodIn wsX8_read wsX5_copyFrom := goodIn_r _ [168, 37, 38, 169, 69, 70, 35, 71, 170, 87, 88, 89, 201, 202] (by decide +kernel) (by decide +kernel)
set_option maxRecDepth 20000 in
theorem gX8_read_X5_copyFrom : GoodIn wsX8_read (wsV RX8 136 RX5 yX5_copyFrom wsX5_copyFrom) := goodIn_app (goodIn_of _ (by decide +kernel)) ggX8_read_X5_copyFrom
set_option maxRecDepth 20000 in
theorem ggX8_read_X8_forgetTelling : GoodIn wsX8_read wsX8_forgetTelling := goodIn_r _ [174, 175, 176, 178, 179, 180, 181, 182, 183, 184, 185] (by decide +kernel) (by decide +kernel)
set_option maxRecDepth 20000 in
theorem gX8_read_X8_forgetTelling : GoodIn wsX8_read (wsV RX8 70 RX8 yX8_forgetTelling wsX8_forgetTelling) := goodIn_app (goodIn_of _ (by decide +kernel)) ggX8_read_X8_forgetTelling
set_option maxRecDepth 20000 in
theorem ggX8_read_X5_size : GoodIn wsX8_read wsX5_size := goodIn_r _ [153, 37, 201, 202] (by decide +kernel) (by decide +kernel)
set_option maxRecDepth 20000 in
theorem gX8_read_X5_size : GoodIn wsX8_read (wsV RX8 73 RX5 yX5_size wsX5_size) := goodIn_app (goodIn_of _ (by decide +kernel)) ggX8_read_X5_size
theorem dX8_read_0 : decode cX8_read 0 = .ok (.aload_n 0, 1) := by decide +kernel
theorem dX8_read_1 : decode cX8_read 1 = .ok (.getfield 52, 3) := by decide +kernel
theorem dX8_read_4 : decode cX8_read 4 = .ok (.invokevirtual 126, 3) := by decide +kernel
theorem dX8_read_7 : decode cX8_read 7 = .ok (.ifCond .ne 14, 3) := by decide +kernel
theorem dX8_read_10 : decode cX8_read 10 = .ok (.bipush (-10), 2) := by decide +kernel
theorem dX8_read_12 : decode cX8_read 12 = .ok (.aload_n 0, 1) := by decide +kernel
theorem dX8_read_13 : decode cX8_read 13 = .ok (.getfield 52, 3) := by decide +kernel
theorem dX8_read_16 : decode cX8_read 16 = .ok (.getfield 129, 3) := by decide +kernel
theorem dX8_read_19 : decode cX8_read 19 = .ok (.isub, 1) := by decide +kernel
theorem dX8_read_20 : decode cX8_read 20 = .ok (.ireturn, 1) := by decide +kernel
theorem dX8_read_21 : decode cX8_read 21 = .ok (.aload_n 0, 1) := by decide +kernel
theorem dX8_read_22 : decode cX8_read 22 = .ok (.getfield 14, 3) := by decide +kernel
theorem dX8_read_25 : decode cX8_read 25 = .ok (.aload_n 0, 1) := by decide +kernel
theorem dX8_read_26 : decode cX8_read 26 = .ok (.getfield 52, 3) := by decide +kernel
theorem dX8_read_29 : decode cX8_read 29 = .ok (.getfield 133, 3) := by decide +kernel
theorem dX8_read_32 : decode cX8_read 32 = .ok (.invokevirtual 136, 3) := by decide +kernel
theorem dX8_read_35 : decode cX8_read 35 = .ok (.aload_n 0, 1) := by decide +kernel
theorem dX8_read_36 : decode cX8_read 36 = .ok (.invokevirtual 70, 3) := by decide +kernel
theorem dX8_read_39 : decode cX8_read 39 = .ok (.aload_n 0, 1) := by decide +kernel
theorem dX8_read_40 : decode cX8_read 40 = .ok (.getfield 14, 3) := by decide +kernel
theorem dX8_read_43 : decode cX8_read 43 = .ok (.invokevirtual 73, 3) := by decide +kernel
theorem dX8_read_46 : decode cX8_read 46 = .ok (.ireturn, 1) := by decide +kernel
theorem dX8_fault_0 : decode cX8_fault 0 = .ok (.aload_n 0, 1) := by decide +kernel
theorem dX8_fault_1 : decode cX8_fault 1 = .ok (.getfield 52, 3) := by decide +kernel
theorem dX8_fault_4 : decode cX8_fault 4 = .ok (.getfield 139, 3) := by decide +kernel
theorem dX8_fault_7 : decode cX8_fault 7 = .ok (.ireturn, 1) := by decide +kernel
theorem dX8_forgetTelling_0 : decode cX8_forgetTelling 0 = .ok (.aload_n 0, 1) := by decide +kernel
theorem dX8_forgetTelling_1 : decode cX8_forgetTelling 1 = .ok (.iconst 0, 1) := by decide +kernel
theorem dX8_forgetTelling_2 : decode cX8_forgetTelling 2 = .ok (.putfield 56, 3) := by decide +kernel
theorem dX8_forgetTelling_5 : decode cX8_forgetTelling 5 = .ok (.aload_n 0, 1) := by decide +kernel
theorem dX8_forgetTelling_6 : decode cX8_forgetTelling 6 = .ok (.iconst 0, 1) := by decide +kernel
theorem dX8_forgetTelling_7 : decode cX8_forgetTelling 7 = .ok (.putfield 60, 3) := by decide +kernel
theorem dX8_forgetTelling_10 : decode cX8_forgetTelling 10 = .ok (.return_, 1) := by decide +kernel
set_option maxRecDepth 20000 in
theorem ggX8_findSymbols_X6_tell : GoodIn wsX8_findSymbols wsX6_tell := goodIn_r _ [7, 8, 9, 10, 6, 11, 12, 13, 14, 15, 16, 17, 18, 19, 20, 21, 22, 23, 24, 25, 26, 27, 28, 29, 30, 31, 32, 33, 34, 35, 36, 37, 38, 39, 40, 41, 42, 43, 44, 45, 46, 47, 48, 49, 50, 51, 52, 53, 54, 55, 56, 57, 58, 59, 60, 61, 62, 63, 64, 65, 66, 67, 68, 69, 70, 71, 80, 81, 82, 83, 84, 85, 86, 87, 88, 89] (by decide +kernel) (by decide +kernel)
set_option maxRecDepth 20000 in
theorem gX8_findSymbols_X6_tell : GoodIn wsX8_findSymbols (wsV RX8 142 RX6 yX6_tell wsX6_tell) := goodIn_app (goodIn_of _ (by decide +kernel)) ggX8_findSymbols_X6_tell
theorem dX8_findSymbols_0 : decode cX8_findSymbols 0 = .ok (.aload_n 0, 1) := by decide +kernel
theorem dX8_findSymbols_1 : decode cX8_findSymbols 1 = .ok (.getfield 56, 3) := by decide +kernel
theorem dX8_findSymbols_4 : decode cX8_findSymbols 4 = .ok (.ifCond .ne 15, 3) := by decide +kernel
theorem dX8_findSymbols_7 : decode cX8_findSymbols 7 = .ok (.aload_n 0, 1) := by decide +kernel
theorem dX8_findSymbols_8 : decode cX8_findSymbols 8 = .ok (.getfield 26, 3) := by decide +kernel
theorem dX8_findSymbols_11 : decode cX8_findSymbols 11 = .ok (.invokevirtual 142, 3) := by decide +kernel
theorem dX8_findSymbols_14 : decode cX8_findSymbols 14 = .ok (.aload_n 0, 1) := by decide +kernel
theorem dX8_findSymbols_15 : decode cX8_findSymbols 15 = .ok (.iconst 1, 1) := by decide +kernel
theorem dX8_findSymbols_16 : decode cX8_findSymbols 16 = .ok (.putfield 56, 3) := by decide +kernel
theorem dX8_findSymbols_19 : decode cX8_findSymbols 19 = .ok (.return_, 1) := by decide +kernel
set_option maxRecDepth 20000 in
theorem ggX8_findRounds_X8_findSymbols : GoodIn wsX8_findRounds wsX8_findSymbols := goodIn_r _ [8, 9, 3, 10, 11, 12, 13, 14, 15, 16, 17, 18, 19, 20, 21, 22, 23, 24, 25, 26, 27, 28, 29, 30, 31, 32, 33, 34, 35, 36, 37, 38, 39, 40, 41, 42, 43, 44, 45, 46, 47, 48, 49, 50, 51, 52, 53, 54, 55, 56, 57, 58, 59, 60, 61, 62, 63, 64, 65, 66, 67, 68, 69, 70, 71, 72, 73, 74, 75, 76, 77, 78, 193, 194, 195, 196, 197, 198, 199, 200, 201, 202, 203, 204, 205, 206, 207, 208, 209, 210] (by decide +kernel) (by decide +kernel)
set_option maxRecDepth 20000 in
theorem gX8_findRounds_X8_findSymbols : GoodIn wsX8_findRounds (wsV RX8 80 RX8 yX8_findSymbols wsX8_findSymbols) := goodIn_app (goodIn_of _ (by decide +kernel)) ggX8_findRounds_X8_findSymbols
set_option maxRecDepth 20000 in
theorem ggX8_findRounds_X5_size : GoodIn wsX8_findRounds wsX5_size := goodIn_r _ [38, 28, 207, 208] (by decide +kernel) (by decide +kernel)
set_option maxRecDepth 20000 in
theorem gX8_findRounds_X5_size : GoodIn wsX8_findRounds (wsV RX8 73 RX5 yX5_size wsX5_size) := goodIn_app (goodIn_of _ (by decide +kernel)) ggX8_findRounds_X5_size
set_option maxRecDepth 20000 in
theorem ggX8_findRounds_X4_build : GoodIn wsX8_findRounds wsX4_build := goodIn_r _ [84, 85, 86, 87, 88, 89, 90, 91, 92, 93, 94, 95, 96, 36, 37, 26, 38, 28, 97, 7, 98, 99, 100, 101, 102, 103, 83, 104, 105, 106, 107, 108, 109, 110, 111, 112, 113, 114, 115, 116, 117, 40, 41, 42, 43, 118, 119, 120, 121, 122, 123, 124, 125, 126, 127, 128, 129, 130, 131, 132, 133, 134, 135, 136, 137, 138, 139, 140, 141, 142, 143, 144, 145, 146, 147, 148, 149, 150, 151, 152, 153, 154, 155, 156, 157, 158, 159, 160, 161, 162, 163, 164, 165, 166, 167, 168, 169, 170, 171, 172, 173, 174, 175, 176, 177, 178, 179, 180, 181, 182, 183, 184, 185, 186, 187, 188, 189, 190, 191, 192, 211, 212, 213, 214, 215, 216, 217, 218, 219, 207, 208, 220, 221, 222, 223, 224, 225, 226, 227, 228, 229, 230, 231, 232, 233, 234, 235] (by decide +kernel) (by decide +kernel)
set_option maxRecDepth 20000 in
theorem gX8_findRounds_X4_build : GoodIn wsX8_findRounds (wsV RX8 145 RX4 yX4_build wsX4_build) := goodIn_app (goodIn_of _ (by decide +kernel)) ggX8_findRounds_X4_build
theorem dX8_findRounds_0 : decode cX8_findRounds 0 = .ok (.aload_n 0, 1) := by decide +kernel
theorem dX8_findRounds_1 : decode cX8_findRounds 1 = .ok (.invokevirtual 80, 3) := by decide +kernel
theorem dX8_findRounds_4 : decode cX8_findRounds 4 = .ok (.aload_n 0, 1) := by decide +kernel
theorem dX8_findRounds_5 : decode cX8_findRounds 5 = .ok (.getfield 60, 3) := by decide +kernel
theorem dX8_findRounds_8 : decode cX8_findRounds 8 = .ok (.ifCond .ne 27, 3) := by decide +kernel
theorem dX8_findRounds_11 : decode cX8_findRounds 11 = .ok (.aload_n 0, 1) := by decide +kernel
theorem dX8_findRounds_12 : decode cX8_findRounds 12 = .ok (.getfield 36, 3) := by decide +kernel
theorem dX8_findRounds_15 : decode cX8_findRounds 15 = .ok (.aload_n 0, 1) := by decide +kernel
theorem dX8_findRounds_16 : decode cX8_findRounds 16 = .ok (.getfield 26, 3) := by decide +kernel
theorem dX8_findRounds_19 : decode cX8_findRounds 19 = .ok (.getfield 83, 3) := by decide +kernel
theorem dX8_findRounds_22 : decode cX8_findRounds 22 = .ok (.invokevirtual 73, 3) := by decide +kernel
theorem dX8_findRounds_25 : decode cX8_findRounds 25 = .ok (.iconst 2, 1) := by decide +kernel
theorem dX8_findRounds_26 : decode cX8_findRounds 26 = .ok (.iadd, 1) := by decide +kernel
theorem dX8_findRounds_27 : decode cX8_findRounds 27 = .ok (.invokevirtual 145, 3) := by decide +kernel
theorem dX8_findRounds_30 : decode cX8_findRounds 30 = .ok (.aload_n 0, 1) := by decide +kernel
theorem dX8_findRounds_31 : decode cX8_findRounds 31 = .ok (.iconst 1, 1) := by decide +kernel
theorem dX8_findRounds_32 : decode cX8_findRounds 32 = .ok (.putfield 60, 3) := by decide +kernel
theorem dX8_findRounds_35 : decode cX8_findRounds 35 = .ok (.return_, 1) := by decide +kernel
theorem dX8_groupsFor_0 : decode cX8_groupsFor 0 = .ok (.iload_n 0, 1) := by decide +kernel
theorem dX8_groupsFor_1 : decode cX8_groupsFor 1 = .ok (.bipush 10, 2) := by decide +kernel
theorem dX8_groupsFor_3 : decode cX8_groupsFor 3 = .ok (.iadd, 1) := by decide +kernel
theorem dX8_groupsFor_4 : decode cX8_groupsFor 4 = .ok (.iconst 1, 1) := by decide +kernel
theorem dX8_groupsFor_5 : decode cX8_groupsFor 5 = .ok (.isub, 1) := by decide +kernel
theorem dX8_groupsFor_6 : decode cX8_groupsFor 6 = .ok (.bipush 10, 2) := by decide +kernel
theorem dX8_groupsFor_8 : decode cX8_groupsFor 8 = .ok (.idiv, 1) := by decide +kernel
theorem dX8_groupsFor_9 : decode cX8_groupsFor 9 = .ok (.ireturn, 1) := by decide +kernel
theorem dX8_tablesFor_0 : decode cX8_tablesFor 0 = .ok (.iload_n 0, 1) := by decide +kernel
theorem dX8_tablesFor_1 : decode cX8_tablesFor 1 = .ok (.ifCond .ne 5, 3) := by decide +kernel
theorem dX8_tablesFor_4 : decode cX8_tablesFor 4 = .ok (.iconst 0, 1) := by decide +kernel
theorem dX8_tablesFor_5 : decode cX8_tablesFor 5 = .ok (.ireturn, 1) := by decide +kernel
theorem dX8_tablesFor_6 : decode cX8_tablesFor 6 = .ok (.iload_n 0, 1) := by decide +kernel
theorem dX8_tablesFor_7 : decode cX8_tablesFor 7 = .ok (.bipush 20, 2) := by decide +kernel
theorem dX8_tablesFor_9 : decode cX8_tablesFor 9 = .ok (.if_icmp .ge 5, 3) := by decide +kernel
theorem dX8_tablesFor_12 : decode cX8_tablesFor 12 = .ok (.iconst 1, 1) := by decide +kernel
theorem dX8_tablesFor_13 : decode cX8_tablesFor 13 = .ok (.ireturn, 1) := by decide +kernel
theorem dX8_tablesFor_14 : decode cX8_tablesFor 14 = .ok (.iload_n 0, 1) := by decide +kernel
theorem dX8_tablesFor_15 : decode cX8_tablesFor 15 = .ok (.bipush 60, 2) := by decide +kernel
theorem dX8_tablesFor_17 : decode cX8_tablesFor 17 = .ok (.if_icmp .ge 7, 3) := by decide +kernel
theorem dX8_tablesFor_20 : decode cX8_tablesFor 20 = .ok (.iconst 2, 1) := by decide +kernel
theorem dX8_tablesFor_21 : decode cX8_tablesFor 21 = .ok (.goto 4, 3) := by decide +kernel
theorem dX8_tablesFor_24 : decode cX8_tablesFor 24 = .ok (.iconst 3, 1) := by decide +kernel
theorem dX8_tablesFor_25 : decode cX8_tablesFor 25 = .ok (.ireturn, 1) := by decide +kernel
theorem dJ9_max_7cf53_0 : decode cJ9_max_7cf53 0 = .ok (.iload_n 0, 1) := by decide +kernel
theorem dJ9_max_7cf53_1 : decode cJ9_max_7cf53 1 = .ok (.iload_n 1, 1) := by decide +kernel
theorem dJ9_max_7cf53_2 : decode cJ9_max_7cf53 2 = .ok (.if_icmp .lt 7, 3) := by decide +kernel
theorem dJ9_max_7cf53_5 : decode cJ9_max_7cf53 5 = .ok (.iload_n 0, 1) := by decide +kernel
theorem dJ9_max_7cf53_6 : decode cJ9_max_7cf53 6 = .ok (.goto 4, 3) := by decide +kernel
theorem dJ9_max_7cf53_9 : decode cJ9_max_7cf53 9 = .ok (.iload_n 1, 1) := by decide +kernel
theorem dJ9_max_7cf53_10 : decode cJ9_max_7cf53 10 = .ok (.ireturn, 1) := by decide +kernel
theorem dJ9_min_7cf53_0 : decode cJ9_min_7cf53 0 = .ok (.iload_n 0, 1) := by decide +kernel
theorem dJ9_min_7cf53_1 : decode cJ9_min_7cf53 1 = .ok (.iload_n 1, 1) := by decide +kernel
theorem dJ9_min_7cf53_2 : decode cJ9_min_7cf53 2 = .ok (.if_icmp .gt 7, 3) := by decide +kernel
theorem dJ9_min_7cf53_5 : decode cJ9_min_7cf53 5 = .ok (.iload_n 0, 1) := by decide +kernel
theorem dJ9_min_7cf53_6 : decode cJ9_min_7cf53 6 = .ok (.goto 4, 3) := by decide +kernel
theorem dJ9_min_7cf53_9 : decode cJ9_min_7cf53 9 = .ok (.iload_n 1, 1) := by decide +kernel
theorem dJ9_min_7cf53_10 : decode cJ9_min_7cf53 10 = .ok (.ireturn, 1) := by decide +kernel
