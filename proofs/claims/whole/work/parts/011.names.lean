theorem dX0_init_0 : decode cX0_init 0 = .ok (.aload_n 0, 1) := by decide +kernel
theorem dX0_init_1 : decode cX0_init 1 = .ok (.invokespecial 3, 3) := by decide +kernel
theorem dX0_init_4 : decode cX0_init 4 = .ok (.aload_n 0, 1) := by decide +kernel
theorem dX0_init_5 : decode cX0_init 5 = .ok (.aload_n 1, 1) := by decide +kernel
theorem dX0_init_6 : decode cX0_init 6 = .ok (.putfield 9, 3) := by decide +kernel
theorem dX0_init_9 : decode cX0_init 9 = .ok (.aload_n 0, 1) := by decide +kernel
theorem dX0_init_10 : decode cX0_init 10 = .ok (.sipush 258, 3) := by decide +kernel
theorem dX0_init_13 : decode cX0_init 13 = .ok (.newarray .int, 2) := by decide +kernel
theorem dX0_init_15 : decode cX0_init 15 = .ok (.putfield 15, 3) := by decide +kernel
theorem dX0_init_18 : decode cX0_init 18 = .ok (.aload_n 0, 1) := by decide +kernel
theorem dX0_init_19 : decode cX0_init 19 = .ok (.bipush 21, 2) := by decide +kernel
theorem dX0_init_21 : decode cX0_init 21 = .ok (.newarray .int, 2) := by decide +kernel
theorem dX0_init_23 : decode cX0_init 23 = .ok (.putfield 18, 3) := by decide +kernel
theorem dX0_init_26 : decode cX0_init 26 = .ok (.aload_n 0, 1) := by decide +kernel
theorem dX0_init_27 : decode cX0_init 27 = .ok (.bipush 21, 2) := by decide +kernel
theorem dX0_init_29 : decode cX0_init 29 = .ok (.newarray .int, 2) := by decide +kernel
theorem dX0_init_31 : decode cX0_init 31 = .ok (.putfield 21, 3) := by decide +kernel
theorem dX0_init_34 : decode cX0_init 34 = .ok (.aload_n 0, 1) := by decide +kernel
theorem dX0_init_35 : decode cX0_init 35 = .ok (.bipush 21, 2) := by decide +kernel
theorem dX0_init_37 : decode cX0_init 37 = .ok (.newarray .int, 2) := by decide +kernel
theorem dX0_init_39 : decode cX0_init 39 = .ok (.putfield 24, 3) := by decide +kernel
theorem dX0_init_42 : decode cX0_init 42 = .ok (.aload_n 0, 1) := by decide +kernel
theorem dX0_init_43 : decode cX0_init 43 = .ok (.iconst 0, 1) := by decide +kernel
theorem dX0_init_44 : decode cX0_init 44 = .ok (.putfield 27, 3) := by decide +kernel
theorem dX0_init_47 : decode cX0_init 47 = .ok (.aload_n 0, 1) := by decide +kernel
theorem dX0_init_48 : decode cX0_init 48 = .ok (.iconst 0, 1) := by decide +kernel
theorem dX0_init_49 : decode cX0_init 49 = .ok (.putfield 31, 3) := by decide +kernel
theorem dX0_init_52 : decode cX0_init 52 = .ok (.return_, 1) := by decide +kernel
theorem dX0_setLength_0 : decode cX0_setLength 0 = .ok (.iload_n 1, 1) := by decide +kernel
theorem dX0_setLength_1 : decode cX0_setLength 1 = .ok (.ifCond .lt 30, 3) := by decide +kernel
theorem dX0_setLength_4 : decode cX0_setLength 4 = .ok (.iload_n 1, 1) := by decide +kernel
theorem dX0_setLength_5 : decode cX0_setLength 5 = .ok (.aload_n 0, 1) := by decide +kernel
theorem dX0_setLength_6 : decode cX0_setLength 6 = .ok (.getfield 9, 3) := by decide +kernel
theorem dX0_setLength_9 : decode cX0_setLength 9 = .ok (.arraylength, 1) := by decide +kernel
theorem dX0_setLength_10 : decode cX0_setLength 10 = .ok (.if_icmp .ge 21, 3) := by decide +kernel
theorem dX0_setLength_13 : decode cX0_setLength 13 = .ok (.iload_n 2, 1) := by decide +kernel
theorem dX0_setLength_14 : decode cX0_setLength 14 = .ok (.iconst 1, 1) := by decide +kernel
theorem dX0_setLength_15 : decode cX0_setLength 15 = .ok (.if_icmp .lt 16, 3) := by decide +kernel
theorem dX0_setLength_18 : decode cX0_setLength 18 = .ok (.iload_n 2, 1) := by decide +kernel
theorem dX0_setLength_19 : decode cX0_setLength 19 = .ok (.bipush 20, 2) := by decide +kernel
theorem dX0_setLength_21 : decode cX0_setLength 21 = .ok (.if_icmp .gt 10, 3) := by decide +kernel
theorem dX0_setLength_24 : decode cX0_setLength 24 = .ok (.aload_n 0, 1) := by decide +kernel
theorem dX0_setLength_25 : decode cX0_setLength 25 = .ok (.getfield 9, 3) := by decide +kernel
theorem dX0_setLength_28 : decode cX0_setLength 28 = .ok (.iload_n 1, 1) := by decide +kernel
theorem dX0_setLength_29 : decode cX0_setLength 29 = .ok (.iload_n 2, 1) := by decide +kernel
theorem dX0_setLength_30 : decode cX0_setLength 30 = .ok (.iastore, 1) := by decide +kernel
theorem dX0_setLength_31 : decode cX0_setLength 31 = .ok (.return_, 1) := by decide +kernel
set_option maxRecDepth 20000 in
theorem ggX0_settle_X0_countLengths : GoodIn wsX0_settle wsX0_countLengths := goodIn_r _ [17, 6, 10, 5, 11, 18, 19, 20, 21, 22, 23, 24] (by decide +kernel) (by decide +kernel)
set_option maxRecDepth 20000 in
theorem gX0_settle_X0_countLengths : GoodIn wsX0_settle (wsV RX0 40 RX0 yX0_countLengths wsX0_countLengths) := goodIn_app (goodIn_of _ (by decide +kernel)) ggX0_settle_X0_countLengths
theorem dX0_settle_0 : decode cX0_settle 0 = .ok (.aload_n 0, 1) := by decide +kernel
theorem dX0_settle_1 : decode cX0_settle 1 = .ok (.iload_n 1, 1) := by decide +kernel
theorem dX0_settle_2 : decode cX0_settle 2 = .ok (.sipush 258, 3) := by decide +kernel
theorem dX0_settle_5 : decode cX0_settle 5 = .ok (.invokestatic 34, 3) := by decide +kernel
theorem dX0_settle_8 : decode cX0_settle 8 = .ok (.putfield 27, 3) := by decide +kernel
theorem dX0_settle_11 : decode cX0_settle 11 = .ok (.aload_n 0, 1) := by decide +kernel
theorem dX0_settle_12 : decode cX0_settle 12 = .ok (.invokevirtual 40, 3) := by decide +kernel
theorem dX0_settle_15 : decode cX0_settle 15 = .ok (.aload_n 0, 1) := by decide +kernel
theorem dX0_settle_16 : decode cX0_settle 16 = .ok (.getfield 31, 3) := by decide +kernel
theorem dX0_settle_19 : decode cX0_settle 19 = .ok (.ldc 43, 2) := by decide +kernel
theorem dX0_settle_21 : decode cX0_settle 21 = .ok (.if_icmp .le 5, 3) := by decide +kernel
theorem dX0_settle_24 : decode cX0_settle 24 = .ok (.iconst 0, 1) := by decide +kernel
theorem dX0_settle_25 : decode cX0_settle 25 = .ok (.ireturn, 1) := by decide +kernel
theorem dX0_settle_26 : decode cX0_settle 26 = .ok (.iconst 0, 1) := by decide +kernel
theorem dX0_settle_27 : decode cX0_settle 27 = .ok (.istore_n 2, 1) := by decide +kernel
theorem dX0_settle_28 : decode cX0_settle 28 = .ok (.iconst 1, 1) := by decide +kernel
theorem dX0_settle_29 : decode cX0_settle 29 = .ok (.istore_n 3, 1) := by decide +kernel
theorem dX0_settle_30 : decode cX0_settle 30 = .ok (.iload_n 3, 1) := by decide +kernel
theorem dX0_settle_31 : decode cX0_settle 31 = .ok (.bipush 20, 2) := by decide +kernel
theorem dX0_settle_33 : decode cX0_settle 33 = .ok (.if_icmp .gt 34, 3) := by decide +kernel
theorem dX0_settle_36 : decode cX0_settle 36 = .ok (.aload_n 0, 1) := by decide +kernel
theorem dX0_settle_37 : decode cX0_settle 37 = .ok (.getfield 21, 3) := by decide +kernel
theorem dX0_settle_40 : decode cX0_settle 40 = .ok (.iload_n 3, 1) := by decide +kernel
theorem dX0_settle_41 : decode cX0_settle 41 = .ok (.iload_n 2, 1) := by decide +kernel
theorem dX0_settle_42 : decode cX0_settle 42 = .ok (.iastore, 1) := by decide +kernel
theorem dX0_settle_43 : decode cX0_settle 43 = .ok (.aload_n 0, 1) := by decide +kernel
theorem dX0_settle_44 : decode cX0_settle 44 = .ok (.getfield 24, 3) := by decide +kernel
theorem dX0_settle_47 : decode cX0_settle 47 = .ok (.iload_n 3, 1) := by decide +kernel
theorem dX0_settle_48 : decode cX0_settle 48 = .ok (.iload_n 2, 1) := by decide +kernel
theorem dX0_settle_49 : decode cX0_settle 49 = .ok (.iastore, 1) := by decide +kernel
theorem dX0_settle_50 : decode cX0_settle 50 = .ok (.iload_n 2, 1) := by decide +kernel
theorem dX0_settle_51 : decode cX0_settle 51 = .ok (.aload_n 0, 1) := by decide +kernel
theorem dX0_settle_52 : decode cX0_settle 52 = .ok (.getfield 18, 3) := by decide +kernel
theorem dX0_settle_55 : decode cX0_settle 55 = .ok (.iload_n 3, 1) := by decide +kernel
theorem dX0_settle_56 : decode cX0_settle 56 = .ok (.iaload, 1) := by decide +kernel
theorem dX0_settle_57 : decode cX0_settle 57 = .ok (.iadd, 1) := by decide +kernel
theorem dX0_settle_58 : decode cX0_settle 58 = .ok (.iconst 2, 1) := by decide +kernel
theorem dX0_settle_59 : decode cX0_settle 59 = .ok (.imul, 1) := by decide +kernel
theorem dX0_settle_60 : decode cX0_settle 60 = .ok (.istore_n 2, 1) := by decide +kernel
theorem dX0_settle_61 : decode cX0_settle 61 = .ok (.iinc 3 1, 3) := by decide +kernel
theorem dX0_settle_64 : decode cX0_settle 64 = .ok (.goto (-34), 3) := by decide +kernel
theorem dX0_settle_67 : decode cX0_settle 67 = .ok (.iconst 0, 1) := by decide +kernel
theorem dX0_settle_68 : decode cX0_settle 68 = .ok (.istore_n 3, 1) := by decide +kernel
theorem dX0_settle_69 : decode cX0_settle 69 = .ok (.iload_n 3, 1) := by decide +kernel
theorem dX0_settle_70 : decode cX0_settle 70 = .ok (.aload_n 0, 1) := by decide +kernel
theorem dX0_settle_71 : decode cX0_settle 71 = .ok (.getfield 27, 3) := by decide +kernel
theorem dX0_settle_74 : decode cX0_settle 74 = .ok (.if_icmp .ge 41, 3) := by decide +kernel
theorem dX0_settle_77 : decode cX0_settle 77 = .ok (.aload_n 0, 1) := by decide +kernel
theorem dX0_settle_78 : decode cX0_settle 78 = .ok (.getfield 9, 3) := by decide +kernel
theorem dX0_settle_81 : decode cX0_settle 81 = .ok (.iload_n 3, 1) := by decide +kernel
theorem dX0_settle_82 : decode cX0_settle 82 = .ok (.iaload, 1) := by decide +kernel
theorem dX0_settle_83 : decode cX0_settle 83 = .ok (.istore 4, 2) := by decide +kernel
theorem dX0_settle_85 : decode cX0_settle 85 = .ok (.aload_n 0, 1) := by decide +kernel
theorem dX0_settle_86 : decode cX0_settle 86 = .ok (.getfield 15, 3) := by decide +kernel
theorem dX0_settle_89 : decode cX0_settle 89 = .ok (.iload_n 3, 1) := by decide +kernel
theorem dX0_settle_90 : decode cX0_settle 90 = .ok (.aload_n 0, 1) := by decide +kernel
theorem dX0_settle_91 : decode cX0_settle 91 = .ok (.getfield 24, 3) := by decide +kernel
theorem dX0_settle_94 : decode cX0_settle 94 = .ok (.iload 4, 2) := by decide +kernel
theorem dX0_settle_96 : decode cX0_settle 96 = .ok (.iaload, 1) := by decide +kernel
theorem dX0_settle_97 : decode cX0_settle 97 = .ok (.iastore, 1) := by decide +kernel
theorem dX0_settle_98 : decode cX0_settle 98 = .ok (.aload_n 0, 1) := by decide +kernel
theorem dX0_settle_99 : decode cX0_settle 99 = .ok (.getfield 24, 3) := by decide +kernel
theorem dX0_settle_102 : decode cX0_settle 102 = .ok (.iload 4, 2) := by decide +kernel
theorem dX0_settle_104 : decode cX0_settle 104 = .ok (.dup2, 1) := by decide +kernel
theorem dX0_settle_105 : decode cX0_settle 105 = .ok (.iaload, 1) := by decide +kernel
theorem dX0_settle_106 : decode cX0_settle 106 = .ok (.iconst 1, 1) := by decide +kernel
theorem dX0_settle_107 : decode cX0_settle 107 = .ok (.iadd, 1) := by decide +kernel
theorem dX0_settle_108 : decode cX0_settle 108 = .ok (.iastore, 1) := by decide +kernel
theorem dX0_settle_109 : decode cX0_settle 109 = .ok (.iinc 3 1, 3) := by decide +kernel
theorem dX0_settle_112 : decode cX0_settle 112 = .ok (.goto (-43), 3) := by decide +kernel
theorem dX0_settle_115 : decode cX0_settle 115 = .ok (.iconst 1, 1) := by decide +kernel
theorem dX0_settle_116 : decode cX0_settle 116 = .ok (.ireturn, 1) := by decide +kernel
theorem dX0_countLengths_0 : decode cX0_countLengths 0 = .ok (.aload_n 0, 1) := by decide +kernel
theorem dX0_countLengths_1 : decode cX0_countLengths 1 = .ok (.iconst 0, 1) := by decide +kernel
theorem dX0_countLengths_2 : decode cX0_countLengths 2 = .ok (.putfield 31, 3) := by decide +kernel
theorem dX0_countLengths_5 : decode cX0_countLengths 5 = .ok (.iconst 0, 1) := by decide +kernel
theorem dX0_countLengths_6 : decode cX0_countLengths 6 = .ok (.istore_n 1, 1) := by decide +kernel
theorem dX0_countLengths_7 : decode cX0_countLengths 7 = .ok (.iload_n 1, 1) := by decide +kernel
theorem dX0_countLengths_8 : decode cX0_countLengths 8 = .ok (.bipush 20, 2) := by decide +kernel
theorem dX0_countLengths_10 : decode cX0_countLengths 10 = .ok (.if_icmp .gt 16, 3) := by decide +kernel
theorem dX0_countLengths_13 : decode cX0_countLengths 13 = .ok (.aload_n 0, 1) := by decide +kernel
theorem dX0_countLengths_14 : decode cX0_countLengths 14 = .ok (.getfield 18, 3) := by decide +kernel
theorem dX0_countLengths_17 : decode cX0_countLengths 17 = .ok (.iload_n 1, 1) := by decide +kernel
theorem dX0_countLengths_18 : decode cX0_countLengths 18 = .ok (.iconst 0, 1) := by decide +kernel
theorem dX0_countLengths_19 : decode cX0_countLengths 19 = .ok (.iastore, 1) := by decide +kernel
theorem dX0_countLengths_20 : decode cX0_countLengths 20 = .ok (.iinc 1 1, 3) := by decide +kernel
theorem dX0_countLengths_23 : decode cX0_countLengths 23 = .ok (.goto (-16), 3) := by decide +kernel
theorem dX0_countLengths_26 : decode cX0_countLengths 26 = .ok (.iconst 0, 1) := by decide +kernel
theorem dX0_countLengths_27 : decode cX0_countLengths 27 = .ok (.istore_n 1, 1) := by decide +kernel
theorem dX0_countLengths_28 : decode cX0_countLengths 28 = .ok (.iload_n 1, 1) := by decide +kernel
theorem dX0_countLengths_29 : decode cX0_countLengths 29 = .ok (.aload_n 0, 1) := by decide +kernel
theorem dX0_countLengths_30 : decode cX0_countLengths 30 = .ok (.getfield 27, 3) := by decide +kernel
theorem dX0_countLengths_33 : decode cX0_countLengths 33 = .ok (.if_icmp .ge 41, 3) := by decide +kernel
theorem dX0_countLengths_36 : decode cX0_countLengths 36 = .ok (.aload_n 0, 1) := by decide +kernel
theorem dX0_countLengths_37 : decode cX0_countLengths 37 = .ok (.getfield 9, 3) := by decide +kernel
theorem dX0_countLengths_40 : decode cX0_countLengths 40 = .ok (.iload_n 1, 1) := by decide +kernel
theorem dX0_countLengths_41 : decode cX0_countLengths 41 = .ok (.iaload, 1) := by decide +kernel
theorem dX0_countLengths_42 : decode cX0_countLengths 42 = .ok (.istore_n 2, 1) := by decide +kernel
theorem dX0_countLengths_43 : decode cX0_countLengths 43 = .ok (.aload_n 0, 1) := by decide +kernel
theorem dX0_countLengths_44 : decode cX0_countLengths 44 = .ok (.getfield 18, 3) := by decide +kernel
theorem dX0_countLengths_47 : decode cX0_countLengths 47 = .ok (.iload_n 2, 1) := by decide +kernel
theorem dX0_countLengths_48 : decode cX0_countLengths 48 = .ok (.dup2, 1) := by decide +kernel
theorem dX0_countLengths_49 : decode cX0_countLengths 49 = .ok (.iaload, 1) := by decide +kernel
theorem dX0_countLengths_50 : decode cX0_countLengths 50 = .ok (.iconst 1, 1) := by decide +kernel
theorem dX0_countLengths_51 : decode cX0_countLengths 51 = .ok (.iadd, 1) := by decide +kernel
theorem dX0_countLengths_52 : decode cX0_countLengths 52 = .ok (.iastore, 1) := by decide +kernel
theorem dX0_countLengths_53 : decode cX0_countLengths 53 = .ok (.aload_n 0, 1) := by decide +kernel
theorem dX0_countLengths_54 : decode cX0_countLengths 54 = .ok (.dup, 1) := by decide +kernel
theorem dX0_countLengths_55 : decode cX0_countLengths 55 = .ok (.getfield 31, 3) := by decide +kernel
theorem dX0_countLengths_58 : decode cX0_countLengths 58 = .ok (.iconst 1, 1) := by decide +kernel
theorem dX0_countLengths_59 : decode cX0_countLengths 59 = .ok (.bipush 20, 2) := by decide +kernel
theorem dX0_countLengths_61 : decode cX0_countLengths 61 = .ok (.iload_n 2, 1) := by decide +kernel
theorem dX0_countLengths_62 : decode cX0_countLengths 62 = .ok (.isub, 1) := by decide +kernel
theorem dX0_countLengths_63 : decode cX0_countLengths 63 = .ok (.ishl, 1) := by decide +kernel
theorem dX0_countLengths_64 : decode cX0_countLengths 64 = .ok (.iadd, 1) := by decide +kernel
theorem dX0_countLengths_65 : decode cX0_countLengths 65 = .ok (.putfield 31, 3) := by decide +kernel
theorem dX0_countLengths_68 : decode cX0_countLengths 68 = .ok (.iinc 1 1, 3) := by decide +kernel
theorem dX0_countLengths_71 : decode cX0_countLengths 71 = .ok (.goto (-43), 3) := by decide +kernel
theorem dX0_countLengths_74 : decode cX0_countLengths 74 = .ok (.return_, 1) := by decide +kernel
theorem dX0_codeOf_0 : decode cX0_codeOf 0 = .ok (.iload_n 1, 1) := by decide +kernel
theorem dX0_codeOf_1 : decode cX0_codeOf 1 = .ok (.ifCond .lt 11, 3) := by decide +kernel
theorem dX0_codeOf_4 : decode cX0_codeOf 4 = .ok (.iload_n 1, 1) := by decide +kernel
theorem dX0_codeOf_5 : decode cX0_codeOf 5 = .ok (.aload_n 0, 1) := by decide +kernel
theorem dX0_codeOf_6 : decode cX0_codeOf 6 = .ok (.getfield 27, 3) := by decide +kernel
theorem dX0_codeOf_9 : decode cX0_codeOf 9 = .ok (.if_icmp .lt 7, 3) := by decide +kernel
theorem dX0_codeOf_12 : decode cX0_codeOf 12 = .ok (.iconst (-1), 1) := by decide +kernel
theorem dX0_codeOf_13 : decode cX0_codeOf 13 = .ok (.goto 9, 3) := by decide +kernel
theorem dX0_codeOf_16 : decode cX0_codeOf 16 = .ok (.aload_n 0, 1) := by decide +kernel
theorem dX0_codeOf_17 : decode cX0_codeOf 17 = .ok (.getfield 15, 3) := by decide +kernel
theorem dX0_codeOf_20 : decode cX0_codeOf 20 = .ok (.iload_n 1, 1) := by decide +kernel
theorem dX0_codeOf_21 : decode cX0_codeOf 21 = .ok (.iaload, 1) := by decide +kernel
theorem dX0_codeOf_22 : decode cX0_codeOf 22 = .ok (.ireturn, 1) := by decide +kernel
theorem dX0_kindOf_0 : decode cX0_kindOf 0 = .ok (.iload_n 2, 1) := by decide +kernel
theorem dX0_kindOf_1 : decode cX0_kindOf 1 = .ok (.iconst 1, 1) := by decide +kernel
theorem dX0_kindOf_2 : decode cX0_kindOf 2 = .ok (.if_icmp .lt 9, 3) := by decide +kernel
theorem dX0_kindOf_5 : decode cX0_kindOf 5 = .ok (.iload_n 2, 1) := by decide +kernel
theorem dX0_kindOf_6 : decode cX0_kindOf 6 = .ok (.bipush 20, 2) := by decide +kernel
theorem dX0_kindOf_8 : decode cX0_kindOf 8 = .ok (.if_icmp .le 5, 3) := by decide +kernel
theorem dX0_kindOf_11 : decode cX0_kindOf 11 = .ok (.iconst (-1), 1) := by decide +kernel
theorem dX0_kindOf_12 : decode cX0_kindOf 12 = .ok (.ireturn, 1) := by decide +kernel
theorem dX0_kindOf_13 : decode cX0_kindOf 13 = .ok (.iload_n 1, 1) := by decide +kernel
theorem dX0_kindOf_14 : decode cX0_kindOf 14 = .ok (.aload_n 0, 1) := by decide +kernel
theorem dX0_kindOf_15 : decode cX0_kindOf 15 = .ok (.getfield 21, 3) := by decide +kernel
theorem dX0_kindOf_18 : decode cX0_kindOf 18 = .ok (.iload_n 2, 1) := by decide +kernel
theorem dX0_kindOf_19 : decode cX0_kindOf 19 = .ok (.iaload, 1) := by decide +kernel
theorem dX0_kindOf_20 : decode cX0_kindOf 20 = .ok (.isub, 1) := by decide +kernel
theorem dX0_kindOf_21 : decode cX0_kindOf 21 = .ok (.istore_n 3, 1) := by decide +kernel
theorem dX0_kindOf_22 : decode cX0_kindOf 22 = .ok (.iload_n 3, 1) := by decide +kernel
theorem dX0_kindOf_23 : decode cX0_kindOf 23 = .ok (.ifCond .lt 13, 3) := by decide +kernel
theorem dX0_kindOf_26 : decode cX0_kindOf 26 = .ok (.iload_n 3, 1) := by decide +kernel
theorem dX0_kindOf_27 : decode cX0_kindOf 27 = .ok (.aload_n 0, 1) := by decide +kernel
theorem dX0_kindOf_28 : decode cX0_kindOf 28 = .ok (.getfield 18, 3) := by decide +kernel
theorem dX0_kindOf_31 : decode cX0_kindOf 31 = .ok (.iload_n 2, 1) := by decide +kernel
theorem dX0_kindOf_32 : decode cX0_kindOf 32 = .ok (.iaload, 1) := by decide +kernel
theorem dX0_kindOf_33 : decode cX0_kindOf 33 = .ok (.if_icmp .lt 5, 3) := by decide +kernel
theorem dX0_kindOf_36 : decode cX0_kindOf 36 = .ok (.iconst (-1), 1) := by decide +kernel
theorem dX0_kindOf_37 : decode cX0_kindOf 37 = .ok (.ireturn, 1) := by decide +kernel
theorem dX0_kindOf_38 : decode cX0_kindOf 38 = .ok (.iconst 0, 1) := by decide +kernel
theorem dX0_kindOf_39 : decode cX0_kindOf 39 = .ok (.istore 4, 2) := by decide +kernel
theorem dX0_kindOf_41 : decode cX0_kindOf 41 = .ok (.iload 4, 2) := by decide +kernel
theorem dX0_kindOf_43 : decode cX0_kindOf 43 = .ok (.aload_n 0, 1) := by decide +kernel
theorem dX0_kindOf_44 : decode cX0_kindOf 44 = .ok (.getfield 27, 3) := by decide +kernel
theorem dX0_kindOf_47 : decode cX0_kindOf 47 = .ok (.if_icmp .ge 34, 3) := by decide +kernel
theorem dX0_kindOf_50 : decode cX0_kindOf 50 = .ok (.aload_n 0, 1) := by decide +kernel
theorem dX0_kindOf_51 : decode cX0_kindOf 51 = .ok (.getfield 9, 3) := by decide +kernel
theorem dX0_kindOf_54 : decode cX0_kindOf 54 = .ok (.iload 4, 2) := by decide +kernel
theorem dX0_kindOf_56 : decode cX0_kindOf 56 = .ok (.iaload, 1) := by decide +kernel
theorem dX0_kindOf_57 : decode cX0_kindOf 57 = .ok (.iload_n 2, 1) := by decide +kernel
theorem dX0_kindOf_58 : decode cX0_kindOf 58 = .ok (.if_icmp .ne 17, 3) := by decide +kernel
theorem dX0_kindOf_61 : decode cX0_kindOf 61 = .ok (.aload_n 0, 1) := by decide +kernel
theorem dX0_kindOf_62 : decode cX0_kindOf 62 = .ok (.getfield 15, 3) := by decide +kernel
theorem dX0_kindOf_65 : decode cX0_kindOf 65 = .ok (.iload 4, 2) := by decide +kernel
theorem dX0_kindOf_67 : decode cX0_kindOf 67 = .ok (.iaload, 1) := by decide +kernel
theorem dX0_kindOf_68 : decode cX0_kindOf 68 = .ok (.iload_n 1, 1) := by decide +kernel
theorem dX0_kindOf_69 : decode cX0_kindOf 69 = .ok (.if_icmp .ne 6, 3) := by decide +kernel
theorem dX0_kindOf_72 : decode cX0_kindOf 72 = .ok (.iload 4, 2) := by decide +kernel
theorem dX0_kindOf_74 : decode cX0_kindOf 74 = .ok (.ireturn, 1) := by decide +kernel
theorem dX0_kindOf_75 : decode cX0_kindOf 75 = .ok (.iinc 4 1, 3) := by decide +kernel
theorem dX0_kindOf_78 : decode cX0_kindOf 78 = .ok (.goto (-37), 3) := by decide +kernel
theorem dX0_kindOf_81 : decode cX0_kindOf 81 = .ok (.iconst (-1), 1) := by decide +kernel
theorem dX0_kindOf_82 : decode cX0_kindOf 82 = .ok (.ireturn, 1) := by decide +kernel
theorem dX0_canBegin_0 : decode cX0_canBegin 0 = .ok (.iload_n 2, 1) := by decide +kernel
theorem dX0_canBegin_1 : decode cX0_canBegin 1 = .ok (.bipush 20, 2) := by decide +kernel
theorem dX0_canBegin_3 : decode cX0_canBegin 3 = .ok (.if_icmp .gt 20, 3) := by decide +kernel
theorem dX0_canBegin_6 : decode cX0_canBegin 6 = .ok (.iload_n 1, 1) := by decide +kernel
theorem dX0_canBegin_7 : decode cX0_canBegin 7 = .ok (.bipush 20, 2) := by decide +kernel
theorem dX0_canBegin_9 : decode cX0_canBegin 9 = .ok (.iload_n 2, 1) := by decide +kernel
theorem dX0_canBegin_10 : decode cX0_canBegin 10 = .ok (.isub, 1) := by decide +kernel
theorem dX0_canBegin_11 : decode cX0_canBegin 11 = .ok (.ishl, 1) := by decide +kernel
theorem dX0_canBegin_12 : decode cX0_canBegin 12 = .ok (.aload_n 0, 1) := by decide +kernel
theorem dX0_canBegin_13 : decode cX0_canBegin 13 = .ok (.getfield 31, 3) := by decide +kernel
theorem dX0_canBegin_16 : decode cX0_canBegin 16 = .ok (.if_icmp .ge 7, 3) := by decide +kernel
theorem dX0_canBegin_19 : decode cX0_canBegin 19 = .ok (.iconst 1, 1) := by decide +kernel
theorem dX0_canBegin_20 : decode cX0_canBegin 20 = .ok (.goto 4, 3) := by decide +kernel
theorem dX0_canBegin_23 : decode cX0_canBegin 23 = .ok (.iconst 0, 1) := by decide +kernel
theorem dX0_canBegin_24 : decode cX0_canBegin 24 = .ok (.ireturn, 1) := by decide +kernel
theorem dX1_init_0 : decode cX1_init 0 = .ok (.aload_n 0, 1) := by decide +kernel
theorem dX1_init_1 : decode cX1_init 1 = .ok (.invokespecial 3, 3) := by decide +kernel
theorem dX1_init_4 : decode cX1_init 4 = .ok (.aload_n 0, 1) := by decide +kernel
theorem dX1_init_5 : decode cX1_init 5 = .ok (.iload_n 1, 1) := by decide +kernel
theorem dX1_init_6 : decode cX1_init 6 = .ok (.ifCond .ge 7, 3) := by decide +kernel
theorem dX1_init_9 : decode cX1_init 9 = .ok (.iconst 0, 1) := by decide +kernel
theorem dX1_init_10 : decode cX1_init 10 = .ok (.goto 4, 3) := by decide +kernel
theorem dX1_init_13 : decode cX1_init 13 = .ok (.iload_n 1, 1) := by decide +kernel
theorem dX1_init_14 : decode cX1_init 14 = .ok (.newarray .int, 2) := by decide +kernel
theorem dX1_init_16 : decode cX1_init 16 = .ok (.putfield 9, 3) := by decide +kernel
theorem dX1_init_19 : decode cX1_init 19 = .ok (.aload_n 0, 1) := by decide +kernel
theorem dX1_init_20 : decode cX1_init 20 = .ok (.iconst 0, 1) := by decide +kernel
theorem dX1_init_21 : decode cX1_init 21 = .ok (.putfield 15, 3) := by decide +kernel
theorem dX1_init_24 : decode cX1_init 24 = .ok (.return_, 1) := by decide +kernel
theorem dX1_size_0 : decode cX1_size 0 = .ok (.aload_n 0, 1) := by decide +kernel
theorem dX1_size_1 : decode cX1_size 1 = .ok (.getfield 15, 3) := by decide +kernel
theorem dX1_size_4 : decode cX1_size 4 = .ok (.ireturn, 1) := by decide +kernel
theorem dX1_clear_0 : decode cX1_clear 0 = .ok (.aload_n 0, 1) := by decide +kernel
theorem dX1_clear_1 : decode cX1_clear 1 = .ok (.iconst 0, 1) := by decide +kernel
theorem dX1_clear_2 : decode cX1_clear 2 = .ok (.putfield 15, 3) := by decide +kernel
theorem dX1_clear_5 : decode cX1_clear 5 = .ok (.return_, 1) := by decide +kernel
theorem dX1_add_0 : decode cX1_add 0 = .ok (.aload_n 0, 1) := by decide +kernel
theorem dX1_add_1 : decode cX1_add 1 = .ok (.getfield 15, 3) := by decide +kernel
theorem dX1_add_4 : decode cX1_add 4 = .ok (.aload_n 0, 1) := by decide +kernel
theorem dX1_add_5 : decode cX1_add 5 = .ok (.getfield 9, 3) := by decide +kernel
theorem dX1_add_8 : decode cX1_add 8 = .ok (.arraylength, 1) := by decide +kernel
theorem dX1_add_9 : decode cX1_add 9 = .ok (.if_icmp .ge 23, 3) := by decide +kernel
theorem dX1_add_12 : decode cX1_add 12 = .ok (.aload_n 0, 1) := by decide +kernel
theorem dX1_add_13 : decode cX1_add 13 = .ok (.getfield 9, 3) := by decide +kernel
theorem dX1_add_16 : decode cX1_add 16 = .ok (.aload_n 0, 1) := by decide +kernel
theorem dX1_add_17 : decode cX1_add 17 = .ok (.getfield 15, 3) := by decide +kernel
theorem dX1_add_20 : decode cX1_add 20 = .ok (.iload_n 1, 1) := by decide +kernel
theorem dX1_add_21 : decode cX1_add 21 = .ok (.iastore, 1) := by decide +kernel
theorem dX1_add_22 : decode cX1_add 22 = .ok (.aload_n 0, 1) := by decide +kernel
theorem dX1_add_23 : decode cX1_add 23 = .ok (.dup, 1) := by decide +kernel
theorem dX1_add_24 : decode cX1_add 24 = .ok (.getfield 15, 3) := by decide +kernel
theorem dX1_add_27 : decode cX1_add 27 = .ok (.iconst 1, 1) := by decide +kernel
theorem dX1_add_28 : decode cX1_add 28 = .ok (.iadd, 1) := by decide +kernel
theorem dX1_add_29 : decode cX1_add 29 = .ok (.putfield 15, 3) := by decide +kernel
theorem dX1_add_32 : decode cX1_add 32 = .ok (.return_, 1) := by decide +kernel
set_option maxRecDepth 20000 in
theorem ggX1_restart_X1_clear : GoodIn wsX1_restart wsX1_clear := goodIn_r _ [5, 6, 12, 13] (by decide +kernel) (by decide +kernel)
set_option maxRecDepth 20000 in
theorem gX1_restart_X1_clear : GoodIn wsX1_restart (wsV RX1 19 RX1 yX1_clear wsX1_clear) := goodIn_app (goodIn_of _ (by decide +kernel)) ggX1_restart_X1_clear
set_option maxRecDepth 20000 in
theorem ggX1_restart_X1_add : GoodIn wsX1_restart wsX1_add := goodIn_r _ [10, 6, 11, 12, 13] (by decide +kernel) (by decide +kernel)
set_option maxRecDepth 20000 in
theorem gX1_restart_X1_add : GoodIn wsX1_restart (wsV RX1 22 RX1 yX1_add wsX1_add) := goodIn_app (goodIn_of _ (by decide +kernel)) ggX1_restart_X1_add
theorem dX1_restart_0 : decode cX1_restart 0 = .ok (.aload_n 0, 1) := by decide +kernel
theorem dX1_restart_1 : decode cX1_restart 1 = .ok (.invokevirtual 19, 3) := by decide +kernel
theorem dX1_restart_4 : decode cX1_restart 4 = .ok (.iconst 0, 1) := by decide +kernel
theorem dX1_restart_5 : decode cX1_restart 5 = .ok (.istore_n 2, 1) := by decide +kernel
theorem dX1_restart_6 : decode cX1_restart 6 = .ok (.iload_n 2, 1) := by decide +kernel
theorem dX1_restart_7 : decode cX1_restart 7 = .ok (.iload_n 1, 1) := by decide +kernel
theorem dX1_restart_8 : decode cX1_restart 8 = .ok (.if_icmp .ge 14, 3) := by decide +kernel
theorem dX1_restart_11 : decode cX1_restart 11 = .ok (.aload_n 0, 1) := by decide +kernel
theorem dX1_restart_12 : decode cX1_restart 12 = .ok (.iload_n 2, 1) := by decide +kernel
theorem dX1_restart_13 : decode cX1_restart 13 = .ok (.invokevirtual 22, 3) := by decide +kernel
theorem dX1_restart_16 : decode cX1_restart 16 = .ok (.iinc 2 1, 3) := by decide +kernel
theorem dX1_restart_19 : decode cX1_restart 19 = .ok (.goto (-13), 3) := by decide +kernel
theorem dX1_restart_22 : decode cX1_restart 22 = .ok (.return_, 1) := by decide +kernel
theorem dX1_find_0 : decode cX1_find 0 = .ok (.iconst 0, 1) := by decide +kernel
theorem dX1_find_1 : decode cX1_find 1 = .ok (.istore_n 2, 1) := by decide +kernel
theorem dX1_find_2 : decode cX1_find 2 = .ok (.iload_n 2, 1) := by decide +kernel
theorem dX1_find_3 : decode cX1_find 3 = .ok (.aload_n 0, 1) := by decide +kernel
theorem dX1_find_4 : decode cX1_find 4 = .ok (.getfield 15, 3) := by decide +kernel
theorem dX1_find_7 : decode cX1_find 7 = .ok (.if_icmp .ge 21, 3) := by decide +kernel
theorem dX1_find_10 : decode cX1_find 10 = .ok (.aload_n 0, 1) := by decide +kernel
theorem dX1_find_11 : decode cX1_find 11 = .ok (.getfield 9, 3) := by decide +kernel
theorem dX1_find_14 : decode cX1_find 14 = .ok (.iload_n 2, 1) := by decide +kernel
theorem dX1_find_15 : decode cX1_find 15 = .ok (.iaload, 1) := by decide +kernel
theorem dX1_find_16 : decode cX1_find 16 = .ok (.iload_n 1, 1) := by decide +kernel
theorem dX1_find_17 : decode cX1_find 17 = .ok (.if_icmp .ne 5, 3) := by decide +kernel
theorem dX1_find_20 : decode cX1_find 20 = .ok (.iload_n 2, 1) := by decide +kernel
theorem dX1_find_21 : decode cX1_find 21 = .ok (.ireturn, 1) := by decide +kernel
theorem dX1_find_22 : decode cX1_find 22 = .ok (.iinc 2 1, 3) := by decide +kernel
theorem dX1_find_25 : decode cX1_find 25 = .ok (.goto (-23), 3) := by decide +kernel
theorem dX1_find_28 : decode cX1_find 28 = .ok (.iconst (-1), 1) := by decide +kernel
theorem dX1_find_29 : decode cX1_find 29 = .ok (.ireturn, 1) := by decide +kernel
theorem dX1_bringUp_0 : decode cX1_bringUp 0 = .ok (.iload_n 1, 1) := by decide +kernel
theorem dX1_bringUp_1 : decode cX1_bringUp 1 = .ok (.ifCond .lt 11, 3) := by decide +kernel
theorem dX1_bringUp_4 : decode cX1_bringUp 4 = .ok (.iload_n 1, 1) := by decide +kernel
theorem dX1_bringUp_5 : decode cX1_bringUp 5 = .ok (.aload_n 0, 1) := by decide +kernel
theorem dX1_bringUp_6 : decode cX1_bringUp 6 = .ok (.getfield 15, 3) := by decide +kernel
theorem dX1_bringUp_9 : decode cX1_bringUp 9 = .ok (.if_icmp .lt 5, 3) := by decide +kernel
theorem dX1_bringUp_12 : decode cX1_bringUp 12 = .ok (.iconst (-1), 1) := by decide +kernel
theorem dX1_bringUp_13 : decode cX1_bringUp 13 = .ok (.ireturn, 1) := by decide +kernel
theorem dX1_bringUp_14 : decode cX1_bringUp 14 = .ok (.aload_n 0, 1) := by decide +kernel
theorem dX1_bringUp_15 : decode cX1_bringUp 15 = .ok (.getfield 9, 3) := by decide +kernel
theorem dX1_bringUp_18 : decode cX1_bringUp 18 = .ok (.iload_n 1, 1) := by decide +kernel
theorem dX1_bringUp_19 : decode cX1_bringUp 19 = .ok (.iaload, 1) := by decide +kernel
theorem dX1_bringUp_20 : decode cX1_bringUp 20 = .ok (.istore_n 2, 1) := by decide +kernel
theorem dX1_bringUp_21 : decode cX1_bringUp 21 = .ok (.iload_n 1, 1) := by decide +kernel
theorem dX1_bringUp_22 : decode cX1_bringUp 22 = .ok (.istore_n 3, 1) := by decide +kernel
theorem dX1_bringUp_23 : decode cX1_bringUp 23 = .ok (.iload_n 3, 1) := by decide +kernel
theorem dX1_bringUp_24 : decode cX1_bringUp 24 = .ok (.ifCond .le 23, 3) := by decide +kernel
theorem dX1_bringUp_27 : decode cX1_bringUp 27 = .ok (.aload_n 0, 1) := by decide +kernel
theorem dX1_bringUp_28 : decode cX1_bringUp 28 = .ok (.getfield 9, 3) := by decide +kernel
theorem dX1_bringUp_31 : decode cX1_bringUp 31 = .ok (.iload_n 3, 1) := by decide +kernel
theorem dX1_bringUp_32 : decode cX1_bringUp 32 = .ok (.aload_n 0, 1) := by decide +kernel
theorem dX1_bringUp_33 : decode cX1_bringUp 33 = .ok (.getfield 9, 3) := by decide +kernel
theorem dX1_bringUp_36 : decode cX1_bringUp 36 = .ok (.iload_n 3, 1) := by decide +kernel
theorem dX1_bringUp_37 : decode cX1_bringUp 37 = .ok (.iconst 1, 1) := by decide +kernel
theorem dX1_bringUp_38 : decode cX1_bringUp 38 = .ok (.isub, 1) := by decide +kernel
theorem dX1_bringUp_39 : decode cX1_bringUp 39 = .ok (.iaload, 1) := by decide +kernel
theorem dX1_bringUp_40 : decode cX1_bringUp 40 = .ok (.iastore, 1) := by decide +kernel
theorem dX1_bringUp_41 : decode cX1_bringUp 41 = .ok (.iinc 3 (-1), 3) := by decide +kernel
theorem dX1_bringUp_44 : decode cX1_bringUp 44 = .ok (.goto (-21), 3) := by decide +kernel
theorem dX1_bringUp_47 : decode cX1_bringUp 47 = .ok (.aload_n 0, 1) := by decide +kernel
theorem dX1_bringUp_48 : decode cX1_bringUp 48 = .ok (.getfield 9, 3) := by decide +kernel
theorem dX1_bringUp_51 : decode cX1_bringUp 51 = .ok (.iconst 0, 1) := by decide +kernel
theorem dX1_bringUp_52 : decode cX1_bringUp 52 = .ok (.iload_n 2, 1) := by decide +kernel
theorem dX1_bringUp_53 : decode cX1_bringUp 53 = .ok (.iastore, 1) := by decide +kernel
theorem dX1_bringUp_54 : decode cX1_bringUp 54 = .ok (.iload_n 2, 1) := by decide +kernel
theorem dX1_bringUp_55 : decode cX1_bringUp 55 = .ok (.ireturn, 1) := by decide +kernel
theorem dX2_init_0 : decode cX2_init 0 = .ok (.aload_n 0, 1) := by decide +kernel
theorem dX2_init_1 : decode cX2_init 1 = .ok (.invokespecial 3, 3) := by decide +kernel
theorem dX2_init_4 : decode cX2_init 4 = .ok (.aload_n 0, 1) := by decide +kernel
theorem dX2_init_5 : decode cX2_init 5 = .ok (.sipush 516, 3) := by decide +kernel
theorem dX2_init_8 : decode cX2_init 8 = .ok (.newarray .int, 2) := by decide +kernel
theorem dX2_init_10 : decode cX2_init 10 = .ok (.putfield 11, 3) := by decide +kernel
theorem dX2_init_13 : decode cX2_init 13 = .ok (.aload_n 0, 1) := by decide +kernel
theorem dX2_init_14 : decode cX2_init 14 = .ok (.sipush 516, 3) := by decide +kernel
theorem dX2_init_17 : decode cX2_init 17 = .ok (.newarray .int, 2) := by decide +kernel
theorem dX2_init_19 : decode cX2_init 19 = .ok (.putfield 15, 3) := by decide +kernel
theorem dX2_init_22 : decode cX2_init 22 = .ok (.aload_n 0, 1) := by decide +kernel
theorem dX2_init_23 : decode cX2_init 23 = .ok (.sipush 516, 3) := by decide +kernel
theorem dX2_init_26 : decode cX2_init 26 = .ok (.newarray .int, 2) := by decide +kernel
theorem dX2_init_28 : decode cX2_init 28 = .ok (.putfield 18, 3) := by decide +kernel
theorem dX2_init_31 : decode cX2_init 31 = .ok (.aload_n 0, 1) := by decide +kernel
theorem dX2_init_32 : decode cX2_init 32 = .ok (.sipush 258, 3) := by decide +kernel
theorem dX2_init_35 : decode cX2_init 35 = .ok (.newarray .int, 2) := by decide +kernel
theorem dX2_init_37 : decode cX2_init 37 = .ok (.putfield 21, 3) := by decide +kernel
theorem dX2_init_40 : decode cX2_init 40 = .ok (.aload_n 0, 1) := by decide +kernel
theorem dX2_init_41 : decode cX2_init 41 = .ok (.sipush 303, 3) := by decide +kernel
theorem dX2_init_44 : decode cX2_init 44 = .ok (.newarray .int, 2) := by decide +kernel
theorem dX2_init_46 : decode cX2_init 46 = .ok (.putfield 24, 3) := by decide +kernel
theorem dX2_init_49 : decode cX2_init 49 = .ok (.aload_n 0, 1) := by decide +kernel
theorem dX2_init_50 : decode cX2_init 50 = .ok (.iconst 0, 1) := by decide +kernel
theorem dX2_init_51 : decode cX2_init 51 = .ok (.putfield 27, 3) := by decide +kernel
theorem dX2_init_54 : decode cX2_init 54 = .ok (.aload_n 0, 1) := by decide +kernel
theorem dX2_init_55 : decode cX2_init 55 = .ok (.iconst 0, 1) := by decide +kernel
theorem dX2_init_56 : decode cX2_init 56 = .ok (.putfield 31, 3) := by decide +kernel
theorem dX2_init_59 : decode cX2_init 59 = .ok (.aload_n 0, 1) := by decide +kernel
theorem dX2_init_60 : decode cX2_init 60 = .ok (.iconst 0, 1) := by decide +kernel
theorem dX2_init_61 : decode cX2_init 61 = .ok (.putfield 34, 3) := by decide +kernel
theorem dX2_init_64 : decode cX2_init 64 = .ok (.aload_n 0, 1) := by decide +kernel
theorem dX2_init_65 : decode cX2_init 65 = .ok (.iconst 0, 1) := by decide +kernel
theorem dX2_init_66 : decode cX2_init 66 = .ok (.putfield 37, 3) := by decide +kernel
theorem dX2_init_69 : decode cX2_init 69 = .ok (.return_, 1) := by decide +kernel
set_option maxRecDepth 20000 in
theorem ggX2_makeLengths_X2_sortKinds : GoodIn wsX2_makeLengths wsX2_sortKinds := goodIn_r _ [15, 16, 5, 6, 17, 34, 35, 36, 37, 38, 39, 40, 41, 42] (by decide +kernel) (by decide +kernel)
set_option maxRecDepth 20000 in
theorem gX2_makeLengths_X2_sortKinds : GoodIn wsX2_makeLengths (wsV RX2 49 RX2 yX2_sortKinds wsX2_sortKinds) := goodIn_app (goodIn_of _ (by decide +kernel)) ggX2_makeLengths_X2_sortKinds
set_option maxRecDepth 20000 in
theorem ggX2_makeLengths_X2_joinAll : GoodIn wsX2_makeLengths wsX2_joinAll := goodIn_r _ [21, 22, 5, 23, 24, 6, 25, 26, 27, 28, 14, 29, 17, 34, 35, 36, 37, 38, 39, 40, 41, 42] (by decide +kernel) (by decide +kernel)
set_option maxRecDepth 20000 in
theorem gX2_makeLengths_X2_joinAll : GoodIn wsX2_makeLengths (wsV RX2 52 RX2 yX2_joinAll wsX2_joinAll) := goodIn_app (goodIn_of _ (by decide +kernel)) ggX2_makeLengths_X2_joinAll
set_option maxRecDepth 20000 in
theorem ggX2_makeLengths_X2_findDepths : GoodIn wsX2_makeLengths wsX2_findDepths := goodIn_r _ [33, 24, 10, 25, 34, 35, 36, 37, 38, 39, 40, 41, 42] (by decide +kernel) (by decide +kernel)
set_option maxRecDepth 20000 in
theorem gX2_makeLengths_X2_findDepths : GoodIn wsX2_makeLengths (wsV RX2 55 RX2 yX2_findDepths wsX2_findDepths) := goodIn_app (goodIn_of _ (by decide +kernel)) ggX2_makeLengths_X2_findDepths
theorem dX2_makeLengths_0 : decode cX2_makeLengths 0 = .ok (.aload_n 0, 1) := by decide +kernel
theorem dX2_makeLengths_1 : decode cX2_makeLengths 1 = .ok (.iload_n 2, 1) := by decide +kernel
theorem dX2_makeLengths_2 : decode cX2_makeLengths 2 = .ok (.sipush 258, 3) := by decide +kernel
theorem dX2_makeLengths_5 : decode cX2_makeLengths 5 = .ok (.invokestatic 40, 3) := by decide +kernel
theorem dX2_makeLengths_8 : decode cX2_makeLengths 8 = .ok (.putfield 27, 3) := by decide +kernel
theorem dX2_makeLengths_11 : decode cX2_makeLengths 11 = .ok (.iconst 0, 1) := by decide +kernel
theorem dX2_makeLengths_12 : decode cX2_makeLengths 12 = .ok (.istore 4, 2) := by decide +kernel
theorem dX2_makeLengths_14 : decode cX2_makeLengths 14 = .ok (.iload 4, 2) := by decide +kernel
theorem dX2_makeLengths_16 : decode cX2_makeLengths 16 = .ok (.aload_n 0, 1) := by decide +kernel
theorem dX2_makeLengths_17 : decode cX2_makeLengths 17 = .ok (.getfield 27, 3) := by decide +kernel
theorem dX2_makeLengths_20 : decode cX2_makeLengths 20 = .ok (.if_icmp .ge 30, 3) := by decide +kernel
theorem dX2_makeLengths_23 : decode cX2_makeLengths 23 = .ok (.aload_n 0, 1) := by decide +kernel
theorem dX2_makeLengths_24 : decode cX2_makeLengths 24 = .ok (.getfield 11, 3) := by decide +kernel
theorem dX2_makeLengths_27 : decode cX2_makeLengths 27 = .ok (.iload 4, 2) := by decide +kernel
theorem dX2_makeLengths_29 : decode cX2_makeLengths 29 = .ok (.iconst 0, 1) := by decide +kernel
theorem dX2_makeLengths_30 : decode cX2_makeLengths 30 = .ok (.aload_n 1, 1) := by decide +kernel
theorem dX2_makeLengths_31 : decode cX2_makeLengths 31 = .ok (.iload 4, 2) := by decide +kernel
theorem dX2_makeLengths_33 : decode cX2_makeLengths 33 = .ok (.iaload, 1) := by decide +kernel
theorem dX2_makeLengths_34 : decode cX2_makeLengths 34 = .ok (.sipush 301, 3) := by decide +kernel
theorem dX2_makeLengths_37 : decode cX2_makeLengths 37 = .ok (.invokestatic 40, 3) := by decide +kernel
theorem dX2_makeLengths_40 : decode cX2_makeLengths 40 = .ok (.invokestatic 46, 3) := by decide +kernel
theorem dX2_makeLengths_43 : decode cX2_makeLengths 43 = .ok (.iastore, 1) := by decide +kernel
theorem dX2_makeLengths_44 : decode cX2_makeLengths 44 = .ok (.iinc 4 1, 3) := by decide +kernel
theorem dX2_makeLengths_47 : decode cX2_makeLengths 47 = .ok (.goto (-33), 3) := by decide +kernel
theorem dX2_makeLengths_50 : decode cX2_makeLengths 50 = .ok (.aload_n 0, 1) := by decide +kernel
theorem dX2_makeLengths_51 : decode cX2_makeLengths 51 = .ok (.invokevirtual 49, 3) := by decide +kernel
theorem dX2_makeLengths_54 : decode cX2_makeLengths 54 = .ok (.aload_n 0, 1) := by decide +kernel
theorem dX2_makeLengths_55 : decode cX2_makeLengths 55 = .ok (.invokevirtual 52, 3) := by decide +kernel
theorem dX2_makeLengths_58 : decode cX2_makeLengths 58 = .ok (.aload_n 0, 1) := by decide +kernel
theorem dX2_makeLengths_59 : decode cX2_makeLengths 59 = .ok (.invokevirtual 55, 3) := by decide +kernel
theorem dX2_makeLengths_62 : decode cX2_makeLengths 62 = .ok (.iconst 0, 1) := by decide +kernel
theorem dX2_makeLengths_63 : decode cX2_makeLengths 63 = .ok (.istore 4, 2) := by decide +kernel
theorem dX2_makeLengths_65 : decode cX2_makeLengths 65 = .ok (.iload 4, 2) := by decide +kernel
theorem dX2_makeLengths_67 : decode cX2_makeLengths 67 = .ok (.aload_n 0, 1) := by decide +kernel
theorem dX2_makeLengths_68 : decode cX2_makeLengths 68 = .ok (.getfield 27, 3) := by decide +kernel
theorem dX2_makeLengths_71 : decode cX2_makeLengths 71 = .ok (.if_icmp .ge 20, 3) := by decide +kernel
theorem dX2_makeLengths_74 : decode cX2_makeLengths 74 = .ok (.aload_n 3, 1) := by decide +kernel
theorem dX2_makeLengths_75 : decode cX2_makeLengths 75 = .ok (.iload 4, 2) := by decide +kernel
theorem dX2_makeLengths_77 : decode cX2_makeLengths 77 = .ok (.aload_n 0, 1) := by decide +kernel
theorem dX2_makeLengths_78 : decode cX2_makeLengths 78 = .ok (.getfield 18, 3) := by decide +kernel
theorem dX2_makeLengths_81 : decode cX2_makeLengths 81 = .ok (.iload 4, 2) := by decide +kernel
theorem dX2_makeLengths_83 : decode cX2_makeLengths 83 = .ok (.iaload, 1) := by decide +kernel
theorem dX2_makeLengths_84 : decode cX2_makeLengths 84 = .ok (.iastore, 1) := by decide +kernel
theorem dX2_makeLengths_85 : decode cX2_makeLengths 85 = .ok (.iinc 4 1, 3) := by decide +kernel
theorem dX2_makeLengths_88 : decode cX2_makeLengths 88 = .ok (.goto (-23), 3) := by decide +kernel
theorem dX2_makeLengths_91 : decode cX2_makeLengths 91 = .ok (.return_, 1) := by decide +kernel
theorem dX2_sortKinds_0 : decode cX2_sortKinds 0 = .ok (.iconst 0, 1) := by decide +kernel
theorem dX2_sortKinds_1 : decode cX2_sortKinds 1 = .ok (.istore_n 1, 1) := by decide +kernel
theorem dX2_sortKinds_2 : decode cX2_sortKinds 2 = .ok (.iload_n 1, 1) := by decide +kernel
theorem dX2_sortKinds_3 : decode cX2_sortKinds 3 = .ok (.aload_n 0, 1) := by decide +kernel
theorem dX2_sortKinds_4 : decode cX2_sortKinds 4 = .ok (.getfield 24, 3) := by decide +kernel
theorem dX2_sortKinds_7 : decode cX2_sortKinds 7 = .ok (.arraylength, 1) := by decide +kernel
theorem dX2_sortKinds_8 : decode cX2_sortKinds 8 = .ok (.if_icmp .ge 16, 3) := by decide +kernel
theorem dX2_sortKinds_11 : decode cX2_sortKinds 11 = .ok (.aload_n 0, 1) := by decide +kernel
theorem dX2_sortKinds_12 : decode cX2_sortKinds 12 = .ok (.getfield 24, 3) := by decide +kernel
theorem dX2_sortKinds_15 : decode cX2_sortKinds 15 = .ok (.iload_n 1, 1) := by decide +kernel
theorem dX2_sortKinds_16 : decode cX2_sortKinds 16 = .ok (.iconst 0, 1) := by decide +kernel
theorem dX2_sortKinds_17 : decode cX2_sortKinds 17 = .ok (.iastore, 1) := by decide +kernel
theorem dX2_sortKinds_18 : decode cX2_sortKinds 18 = .ok (.iinc 1 1, 3) := by decide +kernel
theorem dX2_sortKinds_21 : decode cX2_sortKinds 21 = .ok (.goto (-19), 3) := by decide +kernel
theorem dX2_sortKinds_24 : decode cX2_sortKinds 24 = .ok (.iconst 0, 1) := by decide +kernel
theorem dX2_sortKinds_25 : decode cX2_sortKinds 25 = .ok (.istore_n 1, 1) := by decide +kernel
theorem dX2_sortKinds_26 : decode cX2_sortKinds 26 = .ok (.iload_n 1, 1) := by decide +kernel
theorem dX2_sortKinds_27 : decode cX2_sortKinds 27 = .ok (.aload_n 0, 1) := by decide +kernel
theorem dX2_sortKinds_28 : decode cX2_sortKinds 28 = .ok (.getfield 27, 3) := by decide +kernel
theorem dX2_sortKinds_31 : decode cX2_sortKinds 31 = .ok (.if_icmp .ge 26, 3) := by decide +kernel
theorem dX2_sortKinds_34 : decode cX2_sortKinds 34 = .ok (.aload_n 0, 1) := by decide +kernel
theorem dX2_sortKinds_35 : decode cX2_sortKinds 35 = .ok (.getfield 24, 3) := by decide +kernel
theorem dX2_sortKinds_38 : decode cX2_sortKinds 38 = .ok (.aload_n 0, 1) := by decide +kernel
theorem dX2_sortKinds_39 : decode cX2_sortKinds 39 = .ok (.getfield 11, 3) := by decide +kernel
theorem dX2_sortKinds_42 : decode cX2_sortKinds 42 = .ok (.iload_n 1, 1) := by decide +kernel
theorem dX2_sortKinds_43 : decode cX2_sortKinds 43 = .ok (.iaload, 1) := by decide +kernel
theorem dX2_sortKinds_44 : decode cX2_sortKinds 44 = .ok (.iconst 1, 1) := by decide +kernel
theorem dX2_sortKinds_45 : decode cX2_sortKinds 45 = .ok (.iadd, 1) := by decide +kernel
theorem dX2_sortKinds_46 : decode cX2_sortKinds 46 = .ok (.dup2, 1) := by decide +kernel
theorem dX2_sortKinds_47 : decode cX2_sortKinds 47 = .ok (.iaload, 1) := by decide +kernel
theorem dX2_sortKinds_48 : decode cX2_sortKinds 48 = .ok (.iconst 1, 1) := by decide +kernel
theorem dX2_sortKinds_49 : decode cX2_sortKinds 49 = .ok (.iadd, 1) := by decide +kernel
theorem dX2_sortKinds_50 : decode cX2_sortKinds 50 = .ok (.iastore, 1) := by decide +kernel
theorem dX2_sortKinds_51 : decode cX2_sortKinds 51 = .ok (.iinc 1 1, 3) := by decide +kernel
theorem dX2_sortKinds_54 : decode cX2_sortKinds 54 = .ok (.goto (-28), 3) := by decide +kernel
theorem dX2_sortKinds_57 : decode cX2_sortKinds 57 = .ok (.iconst 1, 1) := by decide +kernel
theorem dX2_sortKinds_58 : decode cX2_sortKinds 58 = .ok (.istore_n 1, 1) := by decide +kernel
theorem dX2_sortKinds_59 : decode cX2_sortKinds 59 = .ok (.iload_n 1, 1) := by decide +kernel
theorem dX2_sortKinds_60 : decode cX2_sortKinds 60 = .ok (.aload_n 0, 1) := by decide +kernel
theorem dX2_sortKinds_61 : decode cX2_sortKinds 61 = .ok (.getfield 24, 3) := by decide +kernel
theorem dX2_sortKinds_64 : decode cX2_sortKinds 64 = .ok (.arraylength, 1) := by decide +kernel
theorem dX2_sortKinds_65 : decode cX2_sortKinds 65 = .ok (.if_icmp .ge 26, 3) := by decide +kernel
theorem dX2_sortKinds_68 : decode cX2_sortKinds 68 = .ok (.aload_n 0, 1) := by decide +kernel
theorem dX2_sortKinds_69 : decode cX2_sortKinds 69 = .ok (.getfield 24, 3) := by decide +kernel
theorem dX2_sortKinds_72 : decode cX2_sortKinds 72 = .ok (.iload_n 1, 1) := by decide +kernel
theorem dX2_sortKinds_73 : decode cX2_sortKinds 73 = .ok (.dup2, 1) := by decide +kernel
theorem dX2_sortKinds_74 : decode cX2_sortKinds 74 = .ok (.iaload, 1) := by decide +kernel
theorem dX2_sortKinds_75 : decode cX2_sortKinds 75 = .ok (.aload_n 0, 1) := by decide +kernel
theorem dX2_sortKinds_76 : decode cX2_sortKinds 76 = .ok (.getfield 24, 3) := by decide +kernel
theorem dX2_sortKinds_79 : decode cX2_sortKinds 79 = .ok (.iload_n 1, 1) := by decide +kernel
theorem dX2_sortKinds_80 : decode cX2_sortKinds 80 = .ok (.iconst 1, 1) := by decide +kernel
theorem dX2_sortKinds_81 : decode cX2_sortKinds 81 = .ok (.isub, 1) := by decide +kernel
theorem dX2_sortKinds_82 : decode cX2_sortKinds 82 = .ok (.iaload, 1) := by decide +kernel
theorem dX2_sortKinds_83 : decode cX2_sortKinds 83 = .ok (.iadd, 1) := by decide +kernel
theorem dX2_sortKinds_84 : decode cX2_sortKinds 84 = .ok (.iastore, 1) := by decide +kernel
theorem dX2_sortKinds_85 : decode cX2_sortKinds 85 = .ok (.iinc 1 1, 3) := by decide +kernel
theorem dX2_sortKinds_88 : decode cX2_sortKinds 88 = .ok (.goto (-29), 3) := by decide +kernel
theorem dX2_sortKinds_91 : decode cX2_sortKinds 91 = .ok (.iconst 0, 1) := by decide +kernel
theorem dX2_sortKinds_92 : decode cX2_sortKinds 92 = .ok (.istore_n 1, 1) := by decide +kernel
theorem dX2_sortKinds_93 : decode cX2_sortKinds 93 = .ok (.iload_n 1, 1) := by decide +kernel
theorem dX2_sortKinds_94 : decode cX2_sortKinds 94 = .ok (.aload_n 0, 1) := by decide +kernel
theorem dX2_sortKinds_95 : decode cX2_sortKinds 95 = .ok (.getfield 27, 3) := by decide +kernel
theorem dX2_sortKinds_98 : decode cX2_sortKinds 98 = .ok (.if_icmp .ge 38, 3) := by decide +kernel
theorem dX2_sortKinds_101 : decode cX2_sortKinds 101 = .ok (.aload_n 0, 1) := by decide +kernel
theorem dX2_sortKinds_102 : decode cX2_sortKinds 102 = .ok (.getfield 11, 3) := by decide +kernel
theorem dX2_sortKinds_105 : decode cX2_sortKinds 105 = .ok (.iload_n 1, 1) := by decide +kernel
theorem dX2_sortKinds_106 : decode cX2_sortKinds 106 = .ok (.iaload, 1) := by decide +kernel
theorem dX2_sortKinds_107 : decode cX2_sortKinds 107 = .ok (.istore_n 2, 1) := by decide +kernel
theorem dX2_sortKinds_108 : decode cX2_sortKinds 108 = .ok (.aload_n 0, 1) := by decide +kernel
theorem dX2_sortKinds_109 : decode cX2_sortKinds 109 = .ok (.getfield 21, 3) := by decide +kernel
theorem dX2_sortKinds_112 : decode cX2_sortKinds 112 = .ok (.aload_n 0, 1) := by decide +kernel
theorem dX2_sortKinds_113 : decode cX2_sortKinds 113 = .ok (.getfield 24, 3) := by decide +kernel
theorem dX2_sortKinds_116 : decode cX2_sortKinds 116 = .ok (.iload_n 2, 1) := by decide +kernel
theorem dX2_sortKinds_117 : decode cX2_sortKinds 117 = .ok (.iaload, 1) := by decide +kernel
theorem dX2_sortKinds_118 : decode cX2_sortKinds 118 = .ok (.iload_n 1, 1) := by decide +kernel
theorem dX2_sortKinds_119 : decode cX2_sortKinds 119 = .ok (.iastore, 1) := by decide +kernel
theorem dX2_sortKinds_120 : decode cX2_sortKinds 120 = .ok (.aload_n 0, 1) := by decide +kernel
theorem dX2_sortKinds_121 : decode cX2_sortKinds 121 = .ok (.getfield 24, 3) := by decide +kernel
theorem dX2_sortKinds_124 : decode cX2_sortKinds 124 = .ok (.iload_n 2, 1) := by decide +kernel
theorem dX2_sortKinds_125 : decode cX2_sortKinds 125 = .ok (.dup2, 1) := by decide +kernel
theorem dX2_sortKinds_126 : decode cX2_sortKinds 126 = .ok (.iaload, 1) := by decide +kernel
theorem dX2_sortKinds_127 : decode cX2_sortKinds 127 = .ok (.iconst 1, 1) := by decide +kernel
theorem dX2_sortKinds_128 : decode cX2_sortKinds 128 = .ok (.iadd, 1) := by decide +kernel
theorem dX2_sortKinds_129 : decode cX2_sortKinds 129 = .ok (.iastore, 1) := by decide +kernel
theorem dX2_sortKinds_130 : decode cX2_sortKinds 130 = .ok (.iinc 1 1, 3) := by decide +kernel
theorem dX2_sortKinds_133 : decode cX2_sortKinds 133 = .ok (.goto (-40), 3) := by decide +kernel
theorem dX2_sortKinds_136 : decode cX2_sortKinds 136 = .ok (.return_, 1) := by decide +kernel
set_option maxRecDepth 20000 in
theorem ggX2_joinAll_X2_takeLightest : GoodIn wsX2_joinAll wsX2_takeLightest := goodIn_r _ [11, 1, 2, 3, 4, 5, 12, 13, 14, 15, 16, 17, 18, 19, 20, 21] (by decide +kernel) (by decide +kernel)
set_option maxRecDepth 20000 in
theorem gX2_joinAll_X2_takeLightest : GoodIn wsX2_joinAll (wsV RX2 58 RX2 yX2_takeLightest wsX2_takeLightest) := goodIn_app (goodIn_of _ (by decide +kernel)) ggX2_joinAll_X2_takeLightest
theorem dX2_joinAll_0 : decode cX2_joinAll 0 = .ok (.aload_n 0, 1) := by decide +kernel
theorem dX2_joinAll_1 : decode cX2_joinAll 1 = .ok (.iconst 0, 1) := by decide +kernel
theorem dX2_joinAll_2 : decode cX2_joinAll 2 = .ok (.putfield 31, 3) := by decide +kernel
theorem dX2_joinAll_5 : decode cX2_joinAll 5 = .ok (.aload_n 0, 1) := by decide +kernel
theorem dX2_joinAll_6 : decode cX2_joinAll 6 = .ok (.aload_n 0, 1) := by decide +kernel
theorem dX2_joinAll_7 : decode cX2_joinAll 7 = .ok (.getfield 27, 3) := by decide +kernel
theorem dX2_joinAll_10 : decode cX2_joinAll 10 = .ok (.putfield 34, 3) := by decide +kernel
theorem dX2_joinAll_13 : decode cX2_joinAll 13 = .ok (.aload_n 0, 1) := by decide +kernel
theorem dX2_joinAll_14 : decode cX2_joinAll 14 = .ok (.aload_n 0, 1) := by decide +kernel
theorem dX2_joinAll_15 : decode cX2_joinAll 15 = .ok (.getfield 27, 3) := by decide +kernel
theorem dX2_joinAll_18 : decode cX2_joinAll 18 = .ok (.putfield 37, 3) := by decide +kernel
theorem dX2_joinAll_21 : decode cX2_joinAll 21 = .ok (.iconst 1, 1) := by decide +kernel
theorem dX2_joinAll_22 : decode cX2_joinAll 22 = .ok (.istore_n 1, 1) := by decide +kernel
theorem dX2_joinAll_23 : decode cX2_joinAll 23 = .ok (.iload_n 1, 1) := by decide +kernel
theorem dX2_joinAll_24 : decode cX2_joinAll 24 = .ok (.aload_n 0, 1) := by decide +kernel
theorem dX2_joinAll_25 : decode cX2_joinAll 25 = .ok (.getfield 27, 3) := by decide +kernel
theorem dX2_joinAll_28 : decode cX2_joinAll 28 = .ok (.if_icmp .ge 71, 3) := by decide +kernel
theorem dX2_joinAll_31 : decode cX2_joinAll 31 = .ok (.aload_n 0, 1) := by decide +kernel
theorem dX2_joinAll_32 : decode cX2_joinAll 32 = .ok (.invokevirtual 58, 3) := by decide +kernel
theorem dX2_joinAll_35 : decode cX2_joinAll 35 = .ok (.istore_n 2, 1) := by decide +kernel
theorem dX2_joinAll_36 : decode cX2_joinAll 36 = .ok (.aload_n 0, 1) := by decide +kernel
theorem dX2_joinAll_37 : decode cX2_joinAll 37 = .ok (.invokevirtual 58, 3) := by decide +kernel
theorem dX2_joinAll_40 : decode cX2_joinAll 40 = .ok (.istore_n 3, 1) := by decide +kernel
theorem dX2_joinAll_41 : decode cX2_joinAll 41 = .ok (.aload_n 0, 1) := by decide +kernel
theorem dX2_joinAll_42 : decode cX2_joinAll 42 = .ok (.getfield 11, 3) := by decide +kernel
theorem dX2_joinAll_45 : decode cX2_joinAll 45 = .ok (.aload_n 0, 1) := by decide +kernel
theorem dX2_joinAll_46 : decode cX2_joinAll 46 = .ok (.getfield 37, 3) := by decide +kernel
theorem dX2_joinAll_49 : decode cX2_joinAll 49 = .ok (.aload_n 0, 1) := by decide +kernel
theorem dX2_joinAll_50 : decode cX2_joinAll 50 = .ok (.getfield 11, 3) := by decide +kernel
theorem dX2_joinAll_53 : decode cX2_joinAll 53 = .ok (.iload_n 2, 1) := by decide +kernel
theorem dX2_joinAll_54 : decode cX2_joinAll 54 = .ok (.iaload, 1) := by decide +kernel
theorem dX2_joinAll_55 : decode cX2_joinAll 55 = .ok (.aload_n 0, 1) := by decide +kernel
theorem dX2_joinAll_56 : decode cX2_joinAll 56 = .ok (.getfield 11, 3) := by decide +kernel
theorem dX2_joinAll_59 : decode cX2_joinAll 59 = .ok (.iload_n 3, 1) := by decide +kernel
theorem dX2_joinAll_60 : decode cX2_joinAll 60 = .ok (.iaload, 1) := by decide +kernel
theorem dX2_joinAll_61 : decode cX2_joinAll 61 = .ok (.iadd, 1) := by decide +kernel
theorem dX2_joinAll_62 : decode cX2_joinAll 62 = .ok (.iastore, 1) := by decide +kernel
theorem dX2_joinAll_63 : decode cX2_joinAll 63 = .ok (.aload_n 0, 1) := by decide +kernel
theorem dX2_joinAll_64 : decode cX2_joinAll 64 = .ok (.getfield 15, 3) := by decide +kernel
theorem dX2_joinAll_67 : decode cX2_joinAll 67 = .ok (.iload_n 2, 1) := by decide +kernel
theorem dX2_joinAll_68 : decode cX2_joinAll 68 = .ok (.aload_n 0, 1) := by decide +kernel
theorem dX2_joinAll_69 : decode cX2_joinAll 69 = .ok (.getfield 37, 3) := by decide +kernel
theorem dX2_joinAll_72 : decode cX2_joinAll 72 = .ok (.iastore, 1) := by decide +kernel
theorem dX2_joinAll_73 : decode cX2_joinAll 73 = .ok (.aload_n 0, 1) := by decide +kernel
theorem dX2_joinAll_74 : decode cX2_joinAll 74 = .ok (.getfield 15, 3) := by decide +kernel
theorem dX2_joinAll_77 : decode cX2_joinAll 77 = .ok (.iload_n 3, 1) := by decide +kernel
theorem dX2_joinAll_78 : decode cX2_joinAll 78 = .ok (.aload_n 0, 1) := by decide +kernel
theorem dX2_joinAll_79 : decode cX2_joinAll 79 = .ok (.getfield 37, 3) := by decide +kernel
theorem dX2_joinAll_82 : decode cX2_joinAll 82 = .ok (.iastore, 1) := by decide +kernel
theorem dX2_joinAll_83 : decode cX2_joinAll 83 = .ok (.aload_n 0, 1) := by decide +kernel
theorem dX2_joinAll_84 : decode cX2_joinAll 84 = .ok (.dup, 1) := by decide +kernel
theorem dX2_joinAll_85 : decode cX2_joinAll 85 = .ok (.getfield 37, 3) := by decide +kernel
theorem dX2_joinAll_88 : decode cX2_joinAll 88 = .ok (.iconst 1, 1) := by decide +kernel
theorem dX2_joinAll_89 : decode cX2_joinAll 89 = .ok (.iadd, 1) := by decide +kernel
theorem dX2_joinAll_90 : decode cX2_joinAll 90 = .ok (.putfield 37, 3) := by decide +kernel
theorem dX2_joinAll_93 : decode cX2_joinAll 93 = .ok (.iinc 1 1, 3) := by decide +kernel
theorem dX2_joinAll_96 : decode cX2_joinAll 96 = .ok (.goto (-73), 3) := by decide +kernel
theorem dX2_joinAll_99 : decode cX2_joinAll 99 = .ok (.return_, 1) := by decide +kernel
theorem dX2_takeLightest_0 : decode cX2_takeLightest 0 = .ok (.aload_n 0, 1) := by decide +kernel
theorem dX2_takeLightest_1 : decode cX2_takeLightest 1 = .ok (.getfield 31, 3) := by decide +kernel
theorem dX2_takeLightest_4 : decode cX2_takeLightest 4 = .ok (.aload_n 0, 1) := by decide +kernel
theorem dX2_takeLightest_5 : decode cX2_takeLightest 5 = .ok (.getfield 27, 3) := by decide +kernel
theorem dX2_takeLightest_8 : decode cX2_takeLightest 8 = .ok (.if_icmp .ge 7, 3) := by decide +kernel
theorem dX2_takeLightest_11 : decode cX2_takeLightest 11 = .ok (.iconst 1, 1) := by decide +kernel
theorem dX2_takeLightest_12 : decode cX2_takeLightest 12 = .ok (.goto 4, 3) := by decide +kernel
theorem dX2_takeLightest_15 : decode cX2_takeLightest 15 = .ok (.iconst 0, 1) := by decide +kernel
theorem dX2_takeLightest_16 : decode cX2_takeLightest 16 = .ok (.istore_n 1, 1) := by decide +kernel
theorem dX2_takeLightest_17 : decode cX2_takeLightest 17 = .ok (.aload_n 0, 1) := by decide +kernel
theorem dX2_takeLightest_18 : decode cX2_takeLightest 18 = .ok (.getfield 34, 3) := by decide +kernel
theorem dX2_takeLightest_21 : decode cX2_takeLightest 21 = .ok (.aload_n 0, 1) := by decide +kernel
theorem dX2_takeLightest_22 : decode cX2_takeLightest 22 = .ok (.getfield 37, 3) := by decide +kernel
theorem dX2_takeLightest_25 : decode cX2_takeLightest 25 = .ok (.if_icmp .ge 7, 3) := by decide +kernel
theorem dX2_takeLightest_28 : decode cX2_takeLightest 28 = .ok (.iconst 1, 1) := by decide +kernel
theorem dX2_takeLightest_29 : decode cX2_takeLightest 29 = .ok (.goto 4, 3) := by decide +kernel
theorem dX2_takeLightest_32 : decode cX2_takeLightest 32 = .ok (.iconst 0, 1) := by decide +kernel
theorem dX2_takeLightest_33 : decode cX2_takeLightest 33 = .ok (.istore_n 2, 1) := by decide +kernel
theorem dX2_takeLightest_34 : decode cX2_takeLightest 34 = .ok (.iload_n 1, 1) := by decide +kernel
theorem dX2_takeLightest_35 : decode cX2_takeLightest 35 = .ok (.ifCond .eq 55, 3) := by decide +kernel
theorem dX2_takeLightest_38 : decode cX2_takeLightest 38 = .ok (.iload_n 2, 1) := by decide +kernel
theorem dX2_takeLightest_39 : decode cX2_takeLightest 39 = .ok (.ifCond .eq 29, 3) := by decide +kernel
theorem dX2_takeLightest_42 : decode cX2_takeLightest 42 = .ok (.aload_n 0, 1) := by decide +kernel
theorem dX2_takeLightest_43 : decode cX2_takeLightest 43 = .ok (.getfield 11, 3) := by decide +kernel
theorem dX2_takeLightest_46 : decode cX2_takeLightest 46 = .ok (.aload_n 0, 1) := by decide +kernel
theorem dX2_takeLightest_47 : decode cX2_takeLightest 47 = .ok (.getfield 21, 3) := by decide +kernel
theorem dX2_takeLightest_50 : decode cX2_takeLightest 50 = .ok (.aload_n 0, 1) := by decide +kernel
theorem dX2_takeLightest_51 : decode cX2_takeLightest 51 = .ok (.getfield 31, 3) := by decide +kernel
theorem dX2_takeLightest_54 : decode cX2_takeLightest 54 = .ok (.iaload, 1) := by decide +kernel
theorem dX2_takeLightest_55 : decode cX2_takeLightest 55 = .ok (.iaload, 1) := by decide +kernel
theorem dX2_takeLightest_56 : decode cX2_takeLightest 56 = .ok (.aload_n 0, 1) := by decide +kernel
theorem dX2_takeLightest_57 : decode cX2_takeLightest 57 = .ok (.getfield 11, 3) := by decide +kernel
theorem dX2_takeLightest_60 : decode cX2_takeLightest 60 = .ok (.aload_n 0, 1) := by decide +kernel
theorem dX2_takeLightest_61 : decode cX2_takeLightest 61 = .ok (.getfield 34, 3) := by decide +kernel
theorem dX2_takeLightest_64 : decode cX2_takeLightest 64 = .ok (.iaload, 1) := by decide +kernel
theorem dX2_takeLightest_65 : decode cX2_takeLightest 65 = .ok (.if_icmp .gt 25, 3) := by decide +kernel
theorem dX2_takeLightest_68 : decode cX2_takeLightest 68 = .ok (.aload_n 0, 1) := by decide +kernel
theorem dX2_takeLightest_69 : decode cX2_takeLightest 69 = .ok (.dup, 1) := by decide +kernel
theorem dX2_takeLightest_70 : decode cX2_takeLightest 70 = .ok (.getfield 31, 3) := by decide +kernel
theorem dX2_takeLightest_73 : decode cX2_takeLightest 73 = .ok (.iconst 1, 1) := by decide +kernel
theorem dX2_takeLightest_74 : decode cX2_takeLightest 74 = .ok (.iadd, 1) := by decide +kernel
theorem dX2_takeLightest_75 : decode cX2_takeLightest 75 = .ok (.putfield 31, 3) := by decide +kernel
theorem dX2_takeLightest_78 : decode cX2_takeLightest 78 = .ok (.aload_n 0, 1) := by decide +kernel
theorem dX2_takeLightest_79 : decode cX2_takeLightest 79 = .ok (.getfield 21, 3) := by decide +kernel
theorem dX2_takeLightest_82 : decode cX2_takeLightest 82 = .ok (.aload_n 0, 1) := by decide +kernel
theorem dX2_takeLightest_83 : decode cX2_takeLightest 83 = .ok (.getfield 31, 3) := by decide +kernel
theorem dX2_takeLightest_86 : decode cX2_takeLightest 86 = .ok (.iconst 1, 1) := by decide +kernel
theorem dX2_takeLightest_87 : decode cX2_takeLightest 87 = .ok (.isub, 1) := by decide +kernel
theorem dX2_takeLightest_88 : decode cX2_takeLightest 88 = .ok (.iaload, 1) := by decide +kernel
theorem dX2_takeLightest_89 : decode cX2_takeLightest 89 = .ok (.ireturn, 1) := by decide +kernel
theorem dX2_takeLightest_90 : decode cX2_takeLightest 90 = .ok (.iload_n 2, 1) := by decide +kernel
theorem dX2_takeLightest_91 : decode cX2_takeLightest 91 = .ok (.ifCond .eq 20, 3) := by decide +kernel
theorem dX2_takeLightest_94 : decode cX2_takeLightest 94 = .ok (.aload_n 0, 1) := by decide +kernel
theorem dX2_takeLightest_95 : decode cX2_takeLightest 95 = .ok (.dup, 1) := by decide +kernel
theorem dX2_takeLightest_96 : decode cX2_takeLightest 96 = .ok (.getfield 34, 3) := by decide +kernel
theorem dX2_takeLightest_99 : decode cX2_takeLightest 99 = .ok (.iconst 1, 1) := by decide +kernel
theorem dX2_takeLightest_100 : decode cX2_takeLightest 100 = .ok (.iadd, 1) := by decide +kernel
theorem dX2_takeLightest_101 : decode cX2_takeLightest 101 = .ok (.putfield 34, 3) := by decide +kernel
theorem dX2_takeLightest_104 : decode cX2_takeLightest 104 = .ok (.aload_n 0, 1) := by decide +kernel
theorem dX2_takeLightest_105 : decode cX2_takeLightest 105 = .ok (.getfield 34, 3) := by decide +kernel
theorem dX2_takeLightest_108 : decode cX2_takeLightest 108 = .ok (.iconst 1, 1) := by decide +kernel
theorem dX2_takeLightest_109 : decode cX2_takeLightest 109 = .ok (.isub, 1) := by decide +kernel
theorem dX2_takeLightest_110 : decode cX2_takeLightest 110 = .ok (.ireturn, 1) := by decide +kernel
theorem dX2_takeLightest_111 : decode cX2_takeLightest 111 = .ok (.iconst 0, 1) := by decide +kernel
theorem dX2_takeLightest_112 : decode cX2_takeLightest 112 = .ok (.ireturn, 1) := by decide +kernel
theorem dX2_findDepths_0 : decode cX2_findDepths 0 = .ok (.aload_n 0, 1) := by decide +kernel
theorem dX2_findDepths_1 : decode cX2_findDepths 1 = .ok (.getfield 37, 3) := by decide +kernel
theorem dX2_findDepths_4 : decode cX2_findDepths 4 = .ok (.ifCond .ne 4, 3) := by decide +kernel
theorem dX2_findDepths_7 : decode cX2_findDepths 7 = .ok (.return_, 1) := by decide +kernel
theorem dX2_findDepths_8 : decode cX2_findDepths 8 = .ok (.aload_n 0, 1) := by decide +kernel
theorem dX2_findDepths_9 : decode cX2_findDepths 9 = .ok (.getfield 18, 3) := by decide +kernel
theorem dX2_findDepths_12 : decode cX2_findDepths 12 = .ok (.aload_n 0, 1) := by decide +kernel
theorem dX2_findDepths_13 : decode cX2_findDepths 13 = .ok (.getfield 37, 3) := by decide +kernel
theorem dX2_findDepths_16 : decode cX2_findDepths 16 = .ok (.iconst 1, 1) := by decide +kernel
theorem dX2_findDepths_17 : decode cX2_findDepths 17 = .ok (.isub, 1) := by decide +kernel
theorem dX2_findDepths_18 : decode cX2_findDepths 18 = .ok (.iconst 0, 1) := by decide +kernel
theorem dX2_findDepths_19 : decode cX2_findDepths 19 = .ok (.iastore, 1) := by decide +kernel
theorem dX2_findDepths_20 : decode cX2_findDepths 20 = .ok (.aload_n 0, 1) := by decide +kernel
theorem dX2_findDepths_21 : decode cX2_findDepths 21 = .ok (.getfield 37, 3) := by decide +kernel
theorem dX2_findDepths_24 : decode cX2_findDepths 24 = .ok (.iconst 2, 1) := by decide +kernel
theorem dX2_findDepths_25 : decode cX2_findDepths 25 = .ok (.isub, 1) := by decide +kernel
theorem dX2_findDepths_26 : decode cX2_findDepths 26 = .ok (.istore_n 1, 1) := by decide +kernel
theorem dX2_findDepths_27 : decode cX2_findDepths 27 = .ok (.iload_n 1, 1) := by decide +kernel
theorem dX2_findDepths_28 : decode cX2_findDepths 28 = .ok (.ifCond .lt 28, 3) := by decide +kernel
theorem dX2_findDepths_31 : decode cX2_findDepths 31 = .ok (.aload_n 0, 1) := by decide +kernel
theorem dX2_findDepths_32 : decode cX2_findDepths 32 = .ok (.getfield 18, 3) := by decide +kernel
theorem dX2_findDepths_35 : decode cX2_findDepths 35 = .ok (.iload_n 1, 1) := by decide +kernel
theorem dX2_findDepths_36 : decode cX2_findDepths 36 = .ok (.aload_n 0, 1) := by decide +kernel
theorem dX2_findDepths_37 : decode cX2_findDepths 37 = .ok (.getfield 18, 3) := by decide +kernel
theorem dX2_findDepths_40 : decode cX2_findDepths 40 = .ok (.aload_n 0, 1) := by decide +kernel
theorem dX2_findDepths_41 : decode cX2_findDepths 41 = .ok (.getfield 15, 3) := by decide +kernel
theorem dX2_findDepths_44 : decode cX2_findDepths 44 = .ok (.iload_n 1, 1) := by decide +kernel
theorem dX2_findDepths_45 : decode cX2_findDepths 45 = .ok (.iaload, 1) := by decide +kernel
theorem dX2_findDepths_46 : decode cX2_findDepths 46 = .ok (.iaload, 1) := by decide +kernel
theorem dX2_findDepths_47 : decode cX2_findDepths 47 = .ok (.iconst 1, 1) := by decide +kernel
theorem dX2_findDepths_48 : decode cX2_findDepths 48 = .ok (.iadd, 1) := by decide +kernel
theorem dX2_findDepths_49 : decode cX2_findDepths 49 = .ok (.iastore, 1) := by decide +kernel
theorem dX2_findDepths_50 : decode cX2_findDepths 50 = .ok (.iinc 1 (-1), 3) := by decide +kernel
theorem dX2_findDepths_53 : decode cX2_findDepths 53 = .ok (.goto (-26), 3) := by decide +kernel
theorem dX2_findDepths_56 : decode cX2_findDepths 56 = .ok (.return_, 1) := by decide +kernel
theorem dX5_init_0 : decode cX5_init 0 = .ok (.aload_n 0, 1) := by decide +kernel
theorem dX5_init_1 : decode cX5_init 1 = .ok (.invokespecial 3, 3) := by decide +kernel
theorem dX5_init_4 : decode cX5_init 4 = .ok (.aload_n 0, 1) := by decide +kernel
theorem dX5_init_5 : decode cX5_init 5 = .ok (.iload_n 1, 1) := by decide +kernel
theorem dX5_init_6 : decode cX5_init 6 = .ok (.ifCond .ge 7, 3) := by decide +kernel
theorem dX5_init_9 : decode cX5_init 9 = .ok (.iconst 0, 1) := by decide +kernel
theorem dX5_init_10 : decode cX5_init 10 = .ok (.goto 4, 3) := by decide +kernel
theorem dX5_init_13 : decode cX5_init 13 = .ok (.iload_n 1, 1) := by decide +kernel
theorem dX5_init_14 : decode cX5_init 14 = .ok (.newarray .int, 2) := by decide +kernel
theorem dX5_init_16 : decode cX5_init 16 = .ok (.putfield 9, 3) := by decide +kernel
theorem dX5_init_19 : decode cX5_init 19 = .ok (.aload_n 0, 1) := by decide +kernel
theorem dX5_init_20 : decode cX5_init 20 = .ok (.iconst 0, 1) := by decide +kernel
theorem dX5_init_21 : decode cX5_init 21 = .ok (.putfield 15, 3) := by decide +kernel
theorem dX5_init_24 : decode cX5_init 24 = .ok (.return_, 1) := by decide +kernel
theorem dX5_size_0 : decode cX5_size 0 = .ok (.aload_n 0, 1) := by decide +kernel
theorem dX5_size_1 : decode cX5_size 1 = .ok (.getfield 15, 3) := by decide +kernel
theorem dX5_size_4 : decode cX5_size 4 = .ok (.ireturn, 1) := by decide +kernel
theorem dX5_isFull_0 : decode cX5_isFull 0 = .ok (.aload_n 0, 1) := by decide +kernel
theorem dX5_isFull_1 : decode cX5_isFull 1 = .ok (.getfield 15, 3) := by decide +kernel
theorem dX5_isFull_4 : decode cX5_isFull 4 = .ok (.aload_n 0, 1) := by decide +kernel
theorem dX5_isFull_5 : decode cX5_isFull 5 = .ok (.getfield 9, 3) := by decide +kernel
theorem dX5_isFull_8 : decode cX5_isFull 8 = .ok (.arraylength, 1) := by decide +kernel
theorem dX5_isFull_9 : decode cX5_isFull 9 = .ok (.if_icmp .lt 7, 3) := by decide +kernel
theorem dX5_isFull_12 : decode cX5_isFull 12 = .ok (.iconst 1, 1) := by decide +kernel
theorem dX5_isFull_13 : decode cX5_isFull 13 = .ok (.goto 4, 3) := by decide +kernel
theorem dX5_isFull_16 : decode cX5_isFull 16 = .ok (.iconst 0, 1) := by decide +kernel
theorem dX5_isFull_17 : decode cX5_isFull 17 = .ok (.ireturn, 1) := by decide +kernel
theorem dX5_get_0 : decode cX5_get 0 = .ok (.iload_n 1, 1) := by decide +kernel
theorem dX5_get_1 : decode cX5_get 1 = .ok (.ifCond .lt 11, 3) := by decide +kernel
theorem dX5_get_4 : decode cX5_get 4 = .ok (.iload_n 1, 1) := by decide +kernel
theorem dX5_get_5 : decode cX5_get 5 = .ok (.aload_n 0, 1) := by decide +kernel
theorem dX5_get_6 : decode cX5_get 6 = .ok (.getfield 15, 3) := by decide +kernel
theorem dX5_get_9 : decode cX5_get 9 = .ok (.if_icmp .lt 7, 3) := by decide +kernel
theorem dX5_get_12 : decode cX5_get 12 = .ok (.iconst (-1), 1) := by decide +kernel
theorem dX5_get_13 : decode cX5_get 13 = .ok (.goto 9, 3) := by decide +kernel
theorem dX5_get_16 : decode cX5_get 16 = .ok (.aload_n 0, 1) := by decide +kernel
theorem dX5_get_17 : decode cX5_get 17 = .ok (.getfield 9, 3) := by decide +kernel
theorem dX5_get_20 : decode cX5_get 20 = .ok (.iload_n 1, 1) := by decide +kernel
theorem dX5_get_21 : decode cX5_get 21 = .ok (.iaload, 1) := by decide +kernel
theorem dX5_get_22 : decode cX5_get 22 = .ok (.ireturn, 1) := by decide +kernel
theorem dX5_set_0 : decode cX5_set 0 = .ok (.iload_n 1, 1) := by decide +kernel
theorem dX5_set_1 : decode cX5_set 1 = .ok (.ifCond .lt 18, 3) := by decide +kernel
theorem dX5_set_4 : decode cX5_set 4 = .ok (.iload_n 1, 1) := by decide +kernel
theorem dX5_set_5 : decode cX5_set 5 = .ok (.aload_n 0, 1) := by decide +kernel
theorem dX5_set_6 : decode cX5_set 6 = .ok (.getfield 15, 3) := by decide +kernel
theorem dX5_set_9 : decode cX5_set 9 = .ok (.if_icmp .ge 10, 3) := by decide +kernel
theorem dX5_set_12 : decode cX5_set 12 = .ok (.aload_n 0, 1) := by decide +kernel
theorem dX5_set_13 : decode cX5_set 13 = .ok (.getfield 9, 3) := by decide +kernel
theorem dX5_set_16 : decode cX5_set 16 = .ok (.iload_n 1, 1) := by decide +kernel
theorem dX5_set_17 : decode cX5_set 17 = .ok (.iload_n 2, 1) := by decide +kernel
theorem dX5_set_18 : decode cX5_set 18 = .ok (.iastore, 1) := by decide +kernel
theorem dX5_set_19 : decode cX5_set 19 = .ok (.return_, 1) := by decide +kernel
theorem dX5_add_0 : decode cX5_add 0 = .ok (.aload_n 0, 1) := by decide +kernel
theorem dX5_add_1 : decode cX5_add 1 = .ok (.getfield 15, 3) := by decide +kernel
theorem dX5_add_4 : decode cX5_add 4 = .ok (.aload_n 0, 1) := by decide +kernel
theorem dX5_add_5 : decode cX5_add 5 = .ok (.getfield 9, 3) := by decide +kernel
theorem dX5_add_8 : decode cX5_add 8 = .ok (.arraylength, 1) := by decide +kernel
theorem dX5_add_9 : decode cX5_add 9 = .ok (.if_icmp .ge 23, 3) := by decide +kernel
theorem dX5_add_12 : decode cX5_add 12 = .ok (.aload_n 0, 1) := by decide +kernel
theorem dX5_add_13 : decode cX5_add 13 = .ok (.getfield 9, 3) := by decide +kernel
theorem dX5_add_16 : decode cX5_add 16 = .ok (.aload_n 0, 1) := by decide +kernel
theorem dX5_add_17 : decode cX5_add 17 = .ok (.getfield 15, 3) := by decide +kernel
theorem dX5_add_20 : decode cX5_add 20 = .ok (.iload_n 1, 1) := by decide +kernel
theorem dX5_add_21 : decode cX5_add 21 = .ok (.iastore, 1) := by decide +kernel
theorem dX5_add_22 : decode cX5_add 22 = .ok (.aload_n 0, 1) := by decide +kernel
theorem dX5_add_23 : decode cX5_add 23 = .ok (.dup, 1) := by decide +kernel
theorem dX5_add_24 : decode cX5_add 24 = .ok (.getfield 15, 3) := by decide +kernel
theorem dX5_add_27 : decode cX5_add 27 = .ok (.iconst 1, 1) := by decide +kernel
theorem dX5_add_28 : decode cX5_add 28 = .ok (.iadd, 1) := by decide +kernel
theorem dX5_add_29 : decode cX5_add 29 = .ok (.putfield 15, 3) := by decide +kernel
theorem dX5_add_32 : decode cX5_add 32 = .ok (.return_, 1) := by decide +kernel
theorem dX5_keepFirst_0 : decode cX5_keepFirst 0 = .ok (.iload_n 1, 1) := by decide +kernel
theorem dX5_keepFirst_1 : decode cX5_keepFirst 1 = .ok (.ifCond .lt 16, 3) := by decide +kernel
theorem dX5_keepFirst_4 : decode cX5_keepFirst 4 = .ok (.iload_n 1, 1) := by decide +kernel
theorem dX5_keepFirst_5 : decode cX5_keepFirst 5 = .ok (.aload_n 0, 1) := by decide +kernel
theorem dX5_keepFirst_6 : decode cX5_keepFirst 6 = .ok (.getfield 15, 3) := by decide +kernel
theorem dX5_keepFirst_9 : decode cX5_keepFirst 9 = .ok (.if_icmp .ge 8, 3) := by decide +kernel
theorem dX5_keepFirst_12 : decode cX5_keepFirst 12 = .ok (.aload_n 0, 1) := by decide +kernel
theorem dX5_keepFirst_13 : decode cX5_keepFirst 13 = .ok (.iload_n 1, 1) := by decide +kernel
theorem dX5_keepFirst_14 : decode cX5_keepFirst 14 = .ok (.putfield 15, 3) := by decide +kernel
theorem dX5_keepFirst_17 : decode cX5_keepFirst 17 = .ok (.return_, 1) := by decide +kernel
theorem dX5_clear_0 : decode cX5_clear 0 = .ok (.aload_n 0, 1) := by decide +kernel
theorem dX5_clear_1 : decode cX5_clear 1 = .ok (.iconst 0, 1) := by decide +kernel
theorem dX5_clear_2 : decode cX5_clear 2 = .ok (.putfield 15, 3) := by decide +kernel
theorem dX5_clear_5 : decode cX5_clear 5 = .ok (.return_, 1) := by decide +kernel
set_option maxRecDepth 20000 in
theorem ggX5_copyFrom_X5_clear : GoodIn wsX5_copyFrom wsX5_clear := goodIn_r _ [7, 1, 12, 13] (by decide +kernel) (by decide +kernel)
set_option maxRecDepth 20000 in
theorem gX5_copyFrom_X5_clear : GoodIn wsX5_copyFrom (wsV RX5 19 RX5 yX5_clear wsX5_clear) := goodIn_app (goodIn_of _ (by decide +kernel)) ggX5_copyFrom_X5_clear
set_option maxRecDepth 20000 in
theorem ggX5_copyFrom_X5_add : GoodIn wsX5_copyFrom wsX5_add := goodIn_r _ [11, 1, 2, 12, 13] (by decide +kernel) (by decide +kernel)
set_option maxRecDepth 20000 in
theorem gX5_copyFrom_X5_add : GoodIn wsX5_copyFrom (wsV RX5 22 RX5 yX5_add wsX5_add) := goodIn_app (goodIn_of _ (by decide +kernel)) ggX5_copyFrom_X5_add
theorem dX5_copyFrom_0 : decode cX5_copyFrom 0 = .ok (.aload_n 0, 1) := by decide +kernel
theorem dX5_copyFrom_1 : decode cX5_copyFrom 1 = .ok (.invokevirtual 19, 3) := by decide +kernel
theorem dX5_copyFrom_4 : decode cX5_copyFrom 4 = .ok (.iconst 0, 1) := by decide +kernel
theorem dX5_copyFrom_5 : decode cX5_copyFrom 5 = .ok (.istore_n 2, 1) := by decide +kernel
theorem dX5_copyFrom_6 : decode cX5_copyFrom 6 = .ok (.iload_n 2, 1) := by decide +kernel
theorem dX5_copyFrom_7 : decode cX5_copyFrom 7 = .ok (.aload_n 1, 1) := by decide +kernel
theorem dX5_copyFrom_8 : decode cX5_copyFrom 8 = .ok (.getfield 15, 3) := by decide +kernel
theorem dX5_copyFrom_11 : decode cX5_copyFrom 11 = .ok (.if_icmp .ge 19, 3) := by decide +kernel
theorem dX5_copyFrom_14 : decode cX5_copyFrom 14 = .ok (.aload_n 0, 1) := by decide +kernel
theorem dX5_copyFrom_15 : decode cX5_copyFrom 15 = .ok (.aload_n 1, 1) := by decide +kernel
theorem dX5_copyFrom_16 : decode cX5_copyFrom 16 = .ok (.getfield 9, 3) := by decide +kernel
theorem dX5_copyFrom_19 : decode cX5_copyFrom 19 = .ok (.iload_n 2, 1) := by decide +kernel
theorem dX5_copyFrom_20 : decode cX5_copyFrom 20 = .ok (.iaload, 1) := by decide +kernel
theorem dX5_copyFrom_21 : decode cX5_copyFrom 21 = .ok (.invokevirtual 22, 3) := by decide +kernel
theorem dX5_copyFrom_24 : decode cX5_copyFrom 24 = .ok (.iinc 2 1, 3) := by decide +kernel
theorem dX5_copyFrom_27 : decode cX5_copyFrom 27 = .ok (.goto (-21), 3) := by decide +kernel
theorem dX5_copyFrom_30 : decode cX5_copyFrom 30 = .ok (.return_, 1) := by decide +kernel
set_option maxRecDepth 20000 in
theorem ggX6_init_X5_init : GoodIn wsX6_init wsX5_init := goodIn_r _ [19, 20, 2, 3, 21, 22, 23, 36, 37] (by decide +kernel) (by decide +kernel)
set_option maxRecDepth 20000 in
theorem gX6_init_X5_init : GoodIn wsX6_init (wsX5_init) := ggX6_init_X5_init
set_option maxRecDepth 20000 in
theorem ggX6_init_X1_init : GoodIn wsX6_init wsX1_init := goodIn_r _ [26, 27, 2, 3, 21, 28, 29, 38, 39] (by decide +kernel) (by decide +kernel)
set_option maxRecDepth 20000 in
theorem gX6_init_X1_init : GoodIn wsX6_init (wsX1_init) := ggX6_init_X1_init
theorem dX6_init_0 : decode cX6_init 0 = .ok (.aload_n 0, 1) := by decide +kernel
theorem dX6_init_1 : decode cX6_init 1 = .ok (.invokespecial 3, 3) := by decide +kernel
theorem dX6_init_4 : decode cX6_init 4 = .ok (.aload_n 0, 1) := by decide +kernel
theorem dX6_init_5 : decode cX6_init 5 = .ok (.aload_n 1, 1) := by decide +kernel
theorem dX6_init_6 : decode cX6_init 6 = .ok (.putfield 9, 3) := by decide +kernel
theorem dX6_init_9 : decode cX6_init 9 = .ok (.aload_n 0, 1) := by decide +kernel
theorem dX6_init_10 : decode cX6_init 10 = .ok (.new 15, 3) := by decide +kernel
theorem dX6_init_13 : decode cX6_init 13 = .ok (.dup, 1) := by decide +kernel
theorem dX6_init_14 : decode cX6_init 14 = .ok (.sipush 256, 3) := by decide +kernel
theorem dX6_init_17 : decode cX6_init 17 = .ok (.invokespecial 17, 3) := by decide +kernel
theorem dX6_init_20 : decode cX6_init 20 = .ok (.putfield 20, 3) := by decide +kernel
theorem dX6_init_23 : decode cX6_init 23 = .ok (.aload_n 0, 1) := by decide +kernel
theorem dX6_init_24 : decode cX6_init 24 = .ok (.new 15, 3) := by decide +kernel
theorem dX6_init_27 : decode cX6_init 27 = .ok (.dup, 1) := by decide +kernel
theorem dX6_init_28 : decode cX6_init 28 = .ok (.sipush 300, 3) := by decide +kernel
theorem dX6_init_31 : decode cX6_init 31 = .ok (.invokespecial 17, 3) := by decide +kernel
theorem dX6_init_34 : decode cX6_init 34 = .ok (.putfield 23, 3) := by decide +kernel
theorem dX6_init_37 : decode cX6_init 37 = .ok (.aload_n 0, 1) := by decide +kernel
theorem dX6_init_38 : decode cX6_init 38 = .ok (.new 15, 3) := by decide +kernel
theorem dX6_init_41 : decode cX6_init 41 = .ok (.dup, 1) := by decide +kernel
theorem dX6_init_42 : decode cX6_init 42 = .ok (.sipush 301, 3) := by decide +kernel
theorem dX6_init_45 : decode cX6_init 45 = .ok (.invokespecial 17, 3) := by decide +kernel
theorem dX6_init_48 : decode cX6_init 48 = .ok (.putfield 26, 3) := by decide +kernel
theorem dX6_init_51 : decode cX6_init 51 = .ok (.aload_n 0, 1) := by decide +kernel
theorem dX6_init_52 : decode cX6_init 52 = .ok (.new 29, 3) := by decide +kernel
theorem dX6_init_55 : decode cX6_init 55 = .ok (.dup, 1) := by decide +kernel
theorem dX6_init_56 : decode cX6_init 56 = .ok (.sipush 256, 3) := by decide +kernel
theorem dX6_init_59 : decode cX6_init 59 = .ok (.invokespecial 31, 3) := by decide +kernel
theorem dX6_init_62 : decode cX6_init 62 = .ok (.putfield 32, 3) := by decide +kernel
theorem dX6_init_65 : decode cX6_init 65 = .ok (.aload_n 0, 1) := by decide +kernel
theorem dX6_init_66 : decode cX6_init 66 = .ok (.sipush 256, 3) := by decide +kernel
theorem dX6_init_69 : decode cX6_init 69 = .ok (.newarray .boolean, 2) := by decide +kernel
theorem dX6_init_71 : decode cX6_init 71 = .ok (.putfield 36, 3) := by decide +kernel
theorem dX6_init_74 : decode cX6_init 74 = .ok (.return_, 1) := by decide +kernel
set_option maxRecDepth 20000 in
theorem ggX6_tell_X6_tellMap : GoodIn wsX6_tell wsX6_tellMap := goodIn_r _ [5, 6, 7, 8, 9, 10, 11, 12, 13, 14, 15, 16, 17, 18, 19, 20, 21, 22, 23, 24, 25, 26, 27, 28, 29, 30, 31, 32, 33, 4, 34, 35, 36, 37, 38, 39, 40, 41, 42, 43, 66, 67, 68, 69, 70, 71, 72, 73, 74, 75] (by decide +kernel) (by decide +kernel)
set_option maxRecDepth 20000 in
theorem gX6_tell_X6_tellMap : GoodIn wsX6_tell (wsV RX6 40 RX6 yX6_tellMap wsX6_tellMap) := goodIn_app (goodIn_of _ (by decide +kernel)) ggX6_tell_X6_tellMap
set_option maxRecDepth 20000 in
theorem ggX6_tell_X6_tellPlaces : GoodIn wsX6_tell wsX6_tellPlaces := goodIn_r _ [47, 48, 9, 7, 10, 11, 12, 13, 14, 15, 22, 23, 24, 25, 26, 27, 28, 29, 30, 49, 50, 51, 19, 52, 21, 43, 53, 54, 55, 56, 35, 36, 37, 38, 66, 67, 68, 69, 70, 71, 72, 73, 74, 75] (by decide +kernel) (by decide +kernel)
set_option maxRecDepth 20000 in
theorem gX6_tell_X6_tellPlaces : GoodIn wsX6_tell (wsV RX6 43 RX6 yX6_tellPlaces wsX6_tellPlaces) := goodIn_app (goodIn_of _ (by decide +kernel)) ggX6_tell_X6_tellPlaces
set_option maxRecDepth 20000 in
theorem ggX6_tell_X6_tellSymbols : GoodIn wsX6_tell wsX6_tellSymbols := goodIn_r _ [60, 61, 48, 6, 10, 11, 12, 13, 14, 15, 22, 23, 24, 25, 26, 27, 28, 29, 30, 62, 63, 64, 4, 65, 35, 36, 37, 38, 66, 67, 68, 69, 70, 71, 72, 73] (by decide +kernel) (by decide +kernel)
set_option maxRecDepth 20000 in
theorem gX6_tell_X6_tellSymbols : GoodIn wsX6_tell (wsV RX6 46 RX6 yX6_tellSymbols wsX6_tellSymbols) := goodIn_app (goodIn_of _ (by decide +kernel)) ggX6_tell_X6_tellSymbols
theorem dX6_tell_0 : decode cX6_tell 0 = .ok (.aload_n 0, 1) := by decide +kernel
theorem dX6_tell_1 : decode cX6_tell 1 = .ok (.invokevirtual 40, 3) := by decide +kernel
theorem dX6_tell_4 : decode cX6_tell 4 = .ok (.aload_n 0, 1) := by decide +kernel
theorem dX6_tell_5 : decode cX6_tell 5 = .ok (.invokevirtual 43, 3) := by decide +kernel
theorem dX6_tell_8 : decode cX6_tell 8 = .ok (.aload_n 0, 1) := by decide +kernel
theorem dX6_tell_9 : decode cX6_tell 9 = .ok (.invokevirtual 46, 3) := by decide +kernel
theorem dX6_tell_12 : decode cX6_tell 12 = .ok (.return_, 1) := by decide +kernel
theorem dX6_has_0 : decode cX6_has 0 = .ok (.iload_n 1, 1) := by decide +kernel
theorem dX6_has_1 : decode cX6_has 1 = .ok (.ifCond .lt 23, 3) := by decide +kernel
theorem dX6_has_4 : decode cX6_has 4 = .ok (.iload_n 1, 1) := by decide +kernel
theorem dX6_has_5 : decode cX6_has 5 = .ok (.sipush 256, 3) := by decide +kernel
theorem dX6_has_8 : decode cX6_has 8 = .ok (.if_icmp .ge 16, 3) := by decide +kernel
theorem dX6_has_11 : decode cX6_has 11 = .ok (.aload_n 0, 1) := by decide +kernel
theorem dX6_has_12 : decode cX6_has 12 = .ok (.getfield 36, 3) := by decide +kernel
theorem dX6_has_15 : decode cX6_has 15 = .ok (.iload_n 1, 1) := by decide +kernel
theorem dX6_has_16 : decode cX6_has 16 = .ok (.baload, 1) := by decide +kernel
theorem dX6_has_17 : decode cX6_has 17 = .ok (.ifCond .eq 7, 3) := by decide +kernel
theorem dX6_has_20 : decode cX6_has 20 = .ok (.iconst 1, 1) := by decide +kernel
theorem dX6_has_21 : decode cX6_has 21 = .ok (.goto 4, 3) := by decide +kernel
theorem dX6_has_24 : decode cX6_has 24 = .ok (.iconst 0, 1) := by decide +kernel
theorem dX6_has_25 : decode cX6_has 25 = .ok (.ireturn, 1) := by decide +kernel
set_option maxRecDepth 20000 in
theorem ggX6_tellMap_X5_clear : GoodIn wsX6_tellMap wsX5_clear := goodIn_r _ [9, 10, 46, 47] (by decide +kernel) (by decide +kernel)
set_option maxRecDepth 20000 in
theorem gX6_tellMap_X5_clear : GoodIn wsX6_tellMap (wsV RX6 49 RX5 yX5_clear wsX5_clear) := goodIn_app (goodIn_of _ (by decide +kernel)) ggX6_tellMap_X5_clear
set_option maxRecDepth 20000 in
theorem ggX6_tellMap_X1_clear : GoodIn wsX6_tellMap wsX1_clear := goodIn_r _ [15, 16, 48, 49] (by decide +kernel) (by decide +kernel)
set_option maxRecDepth 20000 in
theorem gX6_tellMap_X1_clear : GoodIn wsX6_tellMap (wsV RX6 52 RX1 yX1_clear wsX1_clear) := goodIn_app (goodIn_of _ (by decide +kernel)) ggX6_tellMap_X1_clear
set_option maxRecDepth 20000 in
theorem ggX6_tellMap_X5_size : GoodIn wsX6_tellMap wsX5_size := goodIn_r _ [20, 10, 46, 47] (by decide +kernel) (by decide +kernel)
set_option maxRecDepth 20000 in
theorem gX6_tellMap_X5_size : GoodIn wsX6_tellMap (wsV RX6 53 RX5 yX5_size wsX5_size) := goodIn_app (goodIn_of _ (by decide +kernel)) ggX6_tellMap_X5_size
set_option maxRecDepth 20000 in
theorem ggX6_tellMap_X5_get : GoodIn wsX6_tellMap wsX5_get := goodIn_r _ [24, 10, 25, 46, 47] (by decide +kernel) (by decide +kernel)
set_option maxRecDepth 20000 in
theorem gX6_tellMap_X5_get : GoodIn wsX6_tellMap (wsV RX6 57 RX5 yX5_get wsX5_get) := goodIn_app (goodIn_of _ (by decide +kernel)) ggX6_tellMap_X5_get
set_option maxRecDepth 20000 in
theorem ggX6_tellMap_X6_mark : GoodIn wsX6_tellMap wsX6_mark := goodIn_r _ [30, 3, 40, 41, 42, 43, 44, 45] (by decide +kernel) (by decide +kernel)
set_option maxRecDepth 20000 in
theorem gX6_tellMap_X6_mark : GoodIn wsX6_tellMap (wsV RX6 61 RX6 yX6_mark wsX6_mark) := goodIn_app (goodIn_of _ (by decide +kernel)) ggX6_tellMap_X6_mark
set_option maxRecDepth 20000 in
theorem ggX6_tellMap_X5_add : GoodIn wsX6_tellMap wsX5_add := goodIn_r _ [34, 10, 25, 46, 47] (by decide +kernel) (by decide +kernel)
set_option maxRecDepth 20000 in
theorem gX6_tellMap_X5_add : GoodIn wsX6_tellMap (wsV RX6 64 RX5 yX5_add wsX5_add) := goodIn_app (goodIn_of _ (by decide +kernel)) ggX6_tellMap_X5_add
set_option maxRecDepth 20000 in
theorem ggX6_tellMap_X1_add : GoodIn wsX6_tellMap wsX1_add := goodIn_r _ [38, 16, 39, 48, 49] (by decide +kernel) (by decide +kernel)
set_option maxRecDepth 20000 in
theorem gX6_tellMap_X1_add : GoodIn wsX6_tellMap (wsV RX6 67 RX1 yX1_add wsX1_add) := goodIn_app (goodIn_of _ (by decide +kernel)) ggX6_tellMap_X1_add
theorem dX6_tellMap_0 : decode cX6_tellMap 0 = .ok (.aload_n 0, 1) := by decide +kernel
theorem dX6_tellMap_1 : decode cX6_tellMap 1 = .ok (.getfield 20, 3) := by decide +kernel
theorem dX6_tellMap_4 : decode cX6_tellMap 4 = .ok (.invokevirtual 49, 3) := by decide +kernel
theorem dX6_tellMap_7 : decode cX6_tellMap 7 = .ok (.aload_n 0, 1) := by decide +kernel
theorem dX6_tellMap_8 : decode cX6_tellMap 8 = .ok (.getfield 32, 3) := by decide +kernel
theorem dX6_tellMap_11 : decode cX6_tellMap 11 = .ok (.invokevirtual 52, 3) := by decide +kernel
theorem dX6_tellMap_14 : decode cX6_tellMap 14 = .ok (.iconst 0, 1) := by decide +kernel
theorem dX6_tellMap_15 : decode cX6_tellMap 15 = .ok (.istore_n 1, 1) := by decide +kernel
theorem dX6_tellMap_16 : decode cX6_tellMap 16 = .ok (.iload_n 1, 1) := by decide +kernel
theorem dX6_tellMap_17 : decode cX6_tellMap 17 = .ok (.sipush 256, 3) := by decide +kernel
theorem dX6_tellMap_20 : decode cX6_tellMap 20 = .ok (.if_icmp .ge 16, 3) := by decide +kernel
theorem dX6_tellMap_23 : decode cX6_tellMap 23 = .ok (.aload_n 0, 1) := by decide +kernel
theorem dX6_tellMap_24 : decode cX6_tellMap 24 = .ok (.getfield 36, 3) := by decide +kernel
theorem dX6_tellMap_27 : decode cX6_tellMap 27 = .ok (.iload_n 1, 1) := by decide +kernel
theorem dX6_tellMap_28 : decode cX6_tellMap 28 = .ok (.iconst 0, 1) := by decide +kernel
theorem dX6_tellMap_29 : decode cX6_tellMap 29 = .ok (.bastore, 1) := by decide +kernel
theorem dX6_tellMap_30 : decode cX6_tellMap 30 = .ok (.iinc 1 1, 3) := by decide +kernel
theorem dX6_tellMap_33 : decode cX6_tellMap 33 = .ok (.goto (-17), 3) := by decide +kernel
theorem dX6_tellMap_36 : decode cX6_tellMap 36 = .ok (.iconst 0, 1) := by decide +kernel
theorem dX6_tellMap_37 : decode cX6_tellMap 37 = .ok (.istore_n 1, 1) := by decide +kernel
theorem dX6_tellMap_38 : decode cX6_tellMap 38 = .ok (.iload_n 1, 1) := by decide +kernel
theorem dX6_tellMap_39 : decode cX6_tellMap 39 = .ok (.aload_n 0, 1) := by decide +kernel
theorem dX6_tellMap_40 : decode cX6_tellMap 40 = .ok (.getfield 9, 3) := by decide +kernel
theorem dX6_tellMap_43 : decode cX6_tellMap 43 = .ok (.invokevirtual 53, 3) := by decide +kernel
theorem dX6_tellMap_46 : decode cX6_tellMap 46 = .ok (.if_icmp .ge 21, 3) := by decide +kernel
theorem dX6_tellMap_49 : decode cX6_tellMap 49 = .ok (.aload_n 0, 1) := by decide +kernel
theorem dX6_tellMap_50 : decode cX6_tellMap 50 = .ok (.aload_n 0, 1) := by decide +kernel
theorem dX6_tellMap_51 : decode cX6_tellMap 51 = .ok (.getfield 9, 3) := by decide +kernel
theorem dX6_tellMap_54 : decode cX6_tellMap 54 = .ok (.iload_n 1, 1) := by decide +kernel
theorem dX6_tellMap_55 : decode cX6_tellMap 55 = .ok (.invokevirtual 57, 3) := by decide +kernel
theorem dX6_tellMap_58 : decode cX6_tellMap 58 = .ok (.invokevirtual 61, 3) := by decide +kernel
theorem dX6_tellMap_61 : decode cX6_tellMap 61 = .ok (.iinc 1 1, 3) := by decide +kernel
theorem dX6_tellMap_64 : decode cX6_tellMap 64 = .ok (.goto (-26), 3) := by decide +kernel
theorem dX6_tellMap_67 : decode cX6_tellMap 67 = .ok (.iconst 0, 1) := by decide +kernel
theorem dX6_tellMap_68 : decode cX6_tellMap 68 = .ok (.istore_n 1, 1) := by decide +kernel
theorem dX6_tellMap_69 : decode cX6_tellMap 69 = .ok (.iload_n 1, 1) := by decide +kernel
theorem dX6_tellMap_70 : decode cX6_tellMap 70 = .ok (.sipush 256, 3) := by decide +kernel
theorem dX6_tellMap_73 : decode cX6_tellMap 73 = .ok (.if_icmp .ge 34, 3) := by decide +kernel
theorem dX6_tellMap_76 : decode cX6_tellMap 76 = .ok (.aload_n 0, 1) := by decide +kernel
theorem dX6_tellMap_77 : decode cX6_tellMap 77 = .ok (.getfield 36, 3) := by decide +kernel
theorem dX6_tellMap_80 : decode cX6_tellMap 80 = .ok (.iload_n 1, 1) := by decide +kernel
theorem dX6_tellMap_81 : decode cX6_tellMap 81 = .ok (.baload, 1) := by decide +kernel
theorem dX6_tellMap_82 : decode cX6_tellMap 82 = .ok (.ifCond .eq 19, 3) := by decide +kernel
theorem dX6_tellMap_85 : decode cX6_tellMap 85 = .ok (.aload_n 0, 1) := by decide +kernel
theorem dX6_tellMap_86 : decode cX6_tellMap 86 = .ok (.getfield 20, 3) := by decide +kernel
theorem dX6_tellMap_89 : decode cX6_tellMap 89 = .ok (.iload_n 1, 1) := by decide +kernel
theorem dX6_tellMap_90 : decode cX6_tellMap 90 = .ok (.invokevirtual 64, 3) := by decide +kernel
theorem dX6_tellMap_93 : decode cX6_tellMap 93 = .ok (.aload_n 0, 1) := by decide +kernel
theorem dX6_tellMap_94 : decode cX6_tellMap 94 = .ok (.getfield 32, 3) := by decide +kernel
theorem dX6_tellMap_97 : decode cX6_tellMap 97 = .ok (.iload_n 1, 1) := by decide +kernel
theorem dX6_tellMap_98 : decode cX6_tellMap 98 = .ok (.invokevirtual 67, 3) := by decide +kernel
theorem dX6_tellMap_101 : decode cX6_tellMap 101 = .ok (.iinc 1 1, 3) := by decide +kernel
theorem dX6_tellMap_104 : decode cX6_tellMap 104 = .ok (.goto (-35), 3) := by decide +kernel
theorem dX6_tellMap_107 : decode cX6_tellMap 107 = .ok (.return_, 1) := by decide +kernel
theorem dX6_mark_0 : decode cX6_mark 0 = .ok (.iload_n 1, 1) := by decide +kernel
theorem dX6_mark_1 : decode cX6_mark 1 = .ok (.ifCond .lt 17, 3) := by decide +kernel
theorem dX6_mark_4 : decode cX6_mark 4 = .ok (.iload_n 1, 1) := by decide +kernel
theorem dX6_mark_5 : decode cX6_mark 5 = .ok (.sipush 256, 3) := by decide +kernel
theorem dX6_mark_8 : decode cX6_mark 8 = .ok (.if_icmp .ge 10, 3) := by decide +kernel
theorem dX6_mark_11 : decode cX6_mark 11 = .ok (.aload_n 0, 1) := by decide +kernel
theorem dX6_mark_12 : decode cX6_mark 12 = .ok (.getfield 36, 3) := by decide +kernel
theorem dX6_mark_15 : decode cX6_mark 15 = .ok (.iload_n 1, 1) := by decide +kernel
theorem dX6_mark_16 : decode cX6_mark 16 = .ok (.iconst 1, 1) := by decide +kernel
theorem dX6_mark_17 : decode cX6_mark 17 = .ok (.bastore, 1) := by decide +kernel
theorem dX6_mark_18 : decode cX6_mark 18 = .ok (.return_, 1) := by decide +kernel
set_option maxRecDepth 20000 in
theorem ggX6_tellPlaces_X5_clear : GoodIn wsX6_tellPlaces wsX5_clear := goodIn_r _ [8, 9, 40, 41] (by decide +kernel) (by decide +kernel)
set_option maxRecDepth 20000 in
theorem gX6_tellPlaces_X5_clear : GoodIn wsX6_tellPlaces (wsV RX6 49 RX5 yX5_clear wsX5_clear) := goodIn_app (goodIn_of _ (by decide +kernel)) ggX6_tellPlaces_X5_clear
set_option maxRecDepth 20000 in
theorem ggX6_tellPlaces_X5_size : GoodIn wsX6_tellPlaces wsX5_size := goodIn_r _ [13, 9, 40, 41] (by decide +kernel) (by decide +kernel)
set_option maxRecDepth 20000 in
theorem gX6_tellPlaces_X5_size : GoodIn wsX6_tellPlaces (wsV RX6 53 RX5 yX5_size wsX5_size) := goodIn_app (goodIn_of _ (by decide +kernel)) ggX6_tellPlaces_X5_size
set_option maxRecDepth 20000 in
theorem ggX6_tellPlaces_X5_get : GoodIn wsX6_tellPlaces wsX5_get := goodIn_r _ [17, 9, 18, 40, 41] (by decide +kernel) (by decide +kernel)
set_option maxRecDepth 20000 in
theorem gX6_tellPlaces_X5_get : GoodIn wsX6_tellPlaces (wsV RX6 57 RX5 yX5_get wsX5_get) := goodIn_app (goodIn_of _ (by decide +kernel)) ggX6_tellPlaces_X5_get
set_option maxRecDepth 20000 in
theorem ggX6_tellPlaces_X1_find : GoodIn wsX6_tellPlaces wsX1_find := goodIn_r _ [23, 24, 25, 42, 43] (by decide +kernel) (by decide +kernel)
set_option maxRecDepth 20000 in
theorem gX6_tellPlaces_X1_find : GoodIn wsX6_tellPlaces (wsV RX6 68 RX1 yX1_find wsX1_find) := goodIn_app (goodIn_of _ (by decide +kernel)) ggX6_tellPlaces_X1_find
set_option maxRecDepth 20000 in
theorem ggX6_tellPlaces_X1_bringUp : GoodIn wsX6_tellPlaces wsX1_bringUp := goodIn_r _ [29, 24, 25, 42, 43] (by decide +kernel) (by decide +kernel)
set_option maxRecDepth 20000 in
theorem gX6_tellPlaces_X1_bringUp : GoodIn wsX6_tellPlaces (wsV RX6 71 RX1 yX1_bringUp wsX1_bringUp) := goodIn_app (goodIn_of _ (by decide +kernel)) ggX6_tellPlaces_X1_bringUp
set_option maxRecDepth 20000 in
theorem ggX6_tellPlaces_X5_add : GoodIn wsX6_tellPlaces wsX5_add := goodIn_r _ [33, 9, 18, 40, 41] (by decide +kernel) (by decide +kernel)
set_option maxRecDepth 20000 in
theorem gX6_tellPlaces_X5_add : GoodIn wsX6_tellPlaces (wsV RX6 64 RX5 yX5_add wsX5_add) := goodIn_app (goodIn_of _ (by decide +kernel)) ggX6_tellPlaces_X5_add
theorem dX6_tellPlaces_0 : decode cX6_tellPlaces 0 = .ok (.aload_n 0, 1) := by decide +kernel
theorem dX6_tellPlaces_1 : decode cX6_tellPlaces 1 = .ok (.getfield 23, 3) := by decide +kernel
theorem dX6_tellPlaces_4 : decode cX6_tellPlaces 4 = .ok (.invokevirtual 49, 3) := by decide +kernel
theorem dX6_tellPlaces_7 : decode cX6_tellPlaces 7 = .ok (.iconst 0, 1) := by decide +kernel
theorem dX6_tellPlaces_8 : decode cX6_tellPlaces 8 = .ok (.istore_n 1, 1) := by decide +kernel
theorem dX6_tellPlaces_9 : decode cX6_tellPlaces 9 = .ok (.iload_n 1, 1) := by decide +kernel
theorem dX6_tellPlaces_10 : decode cX6_tellPlaces 10 = .ok (.aload_n 0, 1) := by decide +kernel
theorem dX6_tellPlaces_11 : decode cX6_tellPlaces 11 = .ok (.getfield 9, 3) := by decide +kernel
theorem dX6_tellPlaces_14 : decode cX6_tellPlaces 14 = .ok (.invokevirtual 53, 3) := by decide +kernel
theorem dX6_tellPlaces_17 : decode cX6_tellPlaces 17 = .ok (.if_icmp .ge 42, 3) := by decide +kernel
theorem dX6_tellPlaces_20 : decode cX6_tellPlaces 20 = .ok (.aload_n 0, 1) := by decide +kernel
theorem dX6_tellPlaces_21 : decode cX6_tellPlaces 21 = .ok (.getfield 32, 3) := by decide +kernel
theorem dX6_tellPlaces_24 : decode cX6_tellPlaces 24 = .ok (.aload_n 0, 1) := by decide +kernel
theorem dX6_tellPlaces_25 : decode cX6_tellPlaces 25 = .ok (.getfield 9, 3) := by decide +kernel
theorem dX6_tellPlaces_28 : decode cX6_tellPlaces 28 = .ok (.iload_n 1, 1) := by decide +kernel
theorem dX6_tellPlaces_29 : decode cX6_tellPlaces 29 = .ok (.invokevirtual 57, 3) := by decide +kernel
theorem dX6_tellPlaces_32 : decode cX6_tellPlaces 32 = .ok (.invokevirtual 68, 3) := by decide +kernel
theorem dX6_tellPlaces_35 : decode cX6_tellPlaces 35 = .ok (.istore_n 2, 1) := by decide +kernel
theorem dX6_tellPlaces_36 : decode cX6_tellPlaces 36 = .ok (.aload_n 0, 1) := by decide +kernel
theorem dX6_tellPlaces_37 : decode cX6_tellPlaces 37 = .ok (.getfield 32, 3) := by decide +kernel
theorem dX6_tellPlaces_40 : decode cX6_tellPlaces 40 = .ok (.iload_n 2, 1) := by decide +kernel
theorem dX6_tellPlaces_41 : decode cX6_tellPlaces 41 = .ok (.invokevirtual 71, 3) := by decide +kernel
theorem dX6_tellPlaces_44 : decode cX6_tellPlaces 44 = .ok (.pop, 1) := by decide +kernel
theorem dX6_tellPlaces_45 : decode cX6_tellPlaces 45 = .ok (.aload_n 0, 1) := by decide +kernel
theorem dX6_tellPlaces_46 : decode cX6_tellPlaces 46 = .ok (.getfield 23, 3) := by decide +kernel
theorem dX6_tellPlaces_49 : decode cX6_tellPlaces 49 = .ok (.iload_n 2, 1) := by decide +kernel
theorem dX6_tellPlaces_50 : decode cX6_tellPlaces 50 = .ok (.invokevirtual 64, 3) := by decide +kernel
theorem dX6_tellPlaces_53 : decode cX6_tellPlaces 53 = .ok (.iinc 1 1, 3) := by decide +kernel
theorem dX6_tellPlaces_56 : decode cX6_tellPlaces 56 = .ok (.goto (-47), 3) := by decide +kernel
theorem dX6_tellPlaces_59 : decode cX6_tellPlaces 59 = .ok (.return_, 1) := by decide +kernel
set_option maxRecDepth 20000 in
theorem ggX6_tellSymbols_X5_clear : GoodIn wsX6_tellSymbols wsX5_clear := goodIn_r _ [8, 9, 34, 35] (by decide +kernel) (by decide +kernel)
set_option maxRecDepth 20000 in
theorem gX6_tellSymbols_X5_clear : GoodIn wsX6_tellSymbols (wsV RX6 49 RX5 yX5_clear wsX5_clear) := goodIn_app (goodIn_of _ (by decide +kernel)) ggX6_tellSymbols_X5_clear
set_option maxRecDepth 20000 in
theorem ggX6_tellSymbols_X5_size : GoodIn wsX6_tellSymbols wsX5_size := goodIn_r _ [13, 9, 34, 35] (by decide +kernel) (by decide +kernel)
set_option maxRecDepth 20000 in
theorem gX6_tellSymbols_X5_size : GoodIn wsX6_tellSymbols (wsV RX6 53 RX5 yX5_size wsX5_size) := goodIn_app (goodIn_of _ (by decide +kernel)) ggX6_tellSymbols_X5_size
set_option maxRecDepth 20000 in
theorem ggX6_tellSymbols_X5_get : GoodIn wsX6_tellSymbols wsX5_get := goodIn_r _ [17, 9, 18, 34, 35] (by decide +kernel) (by decide +kernel)
set_option maxRecDepth 20000 in
theorem gX6_tellSymbols_X5_get : GoodIn wsX6_tellSymbols (wsV RX6 57 RX5 yX5_get wsX5_get) := goodIn_app (goodIn_of _ (by decide +kernel)) ggX6_tellSymbols_X5_get
set_option maxRecDepth 20000 in
theorem ggX6_tellSymbols_X6_tellZeros : GoodIn wsX6_tellSymbols wsX6_tellZeros := goodIn_r _ [23, 1, 24, 25, 26, 7, 27, 9, 18, 28, 29, 30, 31, 32, 33, 34, 35] (by decide +kernel) (by decide +kernel)
set_option maxRecDepth 20000 in
theorem gX6_tellSymbols_X6_tellZeros : GoodIn wsX6_tellSymbols (wsV RX6 74 RX6 yX6_tellZeros wsX6_tellZeros) := goodIn_app (goodIn_of _ (by decide +kernel)) ggX6_tellSymbols_X6_tellZeros
set_option maxRecDepth 20000 in
theorem ggX6_tellSymbols_X5_add : GoodIn wsX6_tellSymbols wsX5_add := goodIn_r _ [27, 9, 18, 34, 35] (by decide +kernel) (by decide +kernel)
set_option maxRecDepth 20000 in
theorem gX6_tellSymbols_X5_add : GoodIn wsX6_tellSymbols (wsV RX6 64 RX5 yX5_add wsX5_add) := goodIn_app (goodIn_of _ (by decide +kernel)) ggX6_tellSymbols_X5_add
theorem dX6_tellSymbols_0 : decode cX6_tellSymbols 0 = .ok (.aload_n 0, 1) := by decide +kernel
theorem dX6_tellSymbols_1 : decode cX6_tellSymbols 1 = .ok (.getfield 26, 3) := by decide +kernel
theorem dX6_tellSymbols_4 : decode cX6_tellSymbols 4 = .ok (.invokevirtual 49, 3) := by decide +kernel
theorem dX6_tellSymbols_7 : decode cX6_tellSymbols 7 = .ok (.aload_n 0, 1) := by decide +kernel
theorem dX6_tellSymbols_8 : decode cX6_tellSymbols 8 = .ok (.getfield 23, 3) := by decide +kernel
theorem dX6_tellSymbols_11 : decode cX6_tellSymbols 11 = .ok (.invokevirtual 53, 3) := by decide +kernel
theorem dX6_tellSymbols_14 : decode cX6_tellSymbols 14 = .ok (.ifCond .ne 4, 3) := by decide +kernel
theorem dX6_tellSymbols_17 : decode cX6_tellSymbols 17 = .ok (.return_, 1) := by decide +kernel
theorem dX6_tellSymbols_18 : decode cX6_tellSymbols 18 = .ok (.iconst 0, 1) := by decide +kernel
theorem dX6_tellSymbols_19 : decode cX6_tellSymbols 19 = .ok (.istore_n 1, 1) := by decide +kernel
theorem dX6_tellSymbols_20 : decode cX6_tellSymbols 20 = .ok (.iconst 0, 1) := by decide +kernel
theorem dX6_tellSymbols_21 : decode cX6_tellSymbols 21 = .ok (.istore_n 2, 1) := by decide +kernel
theorem dX6_tellSymbols_22 : decode cX6_tellSymbols 22 = .ok (.iload_n 2, 1) := by decide +kernel
theorem dX6_tellSymbols_23 : decode cX6_tellSymbols 23 = .ok (.aload_n 0, 1) := by decide +kernel
theorem dX6_tellSymbols_24 : decode cX6_tellSymbols 24 = .ok (.getfield 23, 3) := by decide +kernel
theorem dX6_tellSymbols_27 : decode cX6_tellSymbols 27 = .ok (.invokevirtual 53, 3) := by decide +kernel
theorem dX6_tellSymbols_30 : decode cX6_tellSymbols 30 = .ok (.if_icmp .ge 45, 3) := by decide +kernel
theorem dX6_tellSymbols_33 : decode cX6_tellSymbols 33 = .ok (.aload_n 0, 1) := by decide +kernel
theorem dX6_tellSymbols_34 : decode cX6_tellSymbols 34 = .ok (.getfield 23, 3) := by decide +kernel
theorem dX6_tellSymbols_37 : decode cX6_tellSymbols 37 = .ok (.iload_n 2, 1) := by decide +kernel
theorem dX6_tellSymbols_38 : decode cX6_tellSymbols 38 = .ok (.invokevirtual 57, 3) := by decide +kernel
theorem dX6_tellSymbols_41 : decode cX6_tellSymbols 41 = .ok (.istore_n 3, 1) := by decide +kernel
theorem dX6_tellSymbols_42 : decode cX6_tellSymbols 42 = .ok (.iload_n 3, 1) := by decide +kernel
theorem dX6_tellSymbols_43 : decode cX6_tellSymbols 43 = .ok (.ifCond .ne 9, 3) := by decide +kernel
theorem dX6_tellSymbols_46 : decode cX6_tellSymbols 46 = .ok (.iinc 1 1, 3) := by decide +kernel
theorem dX6_tellSymbols_49 : decode cX6_tellSymbols 49 = .ok (.goto 20, 3) := by decide +kernel
theorem dX6_tellSymbols_52 : decode cX6_tellSymbols 52 = .ok (.aload_n 0, 1) := by decide +kernel
theorem dX6_tellSymbols_53 : decode cX6_tellSymbols 53 = .ok (.iload_n 1, 1) := by decide +kernel
theorem dX6_tellSymbols_54 : decode cX6_tellSymbols 54 = .ok (.invokevirtual 74, 3) := by decide +kernel
theorem dX6_tellSymbols_57 : decode cX6_tellSymbols 57 = .ok (.iconst 0, 1) := by decide +kernel
theorem dX6_tellSymbols_58 : decode cX6_tellSymbols 58 = .ok (.istore_n 1, 1) := by decide +kernel
theorem dX6_tellSymbols_59 : decode cX6_tellSymbols 59 = .ok (.aload_n 0, 1) := by decide +kernel
theorem dX6_tellSymbols_60 : decode cX6_tellSymbols 60 = .ok (.getfield 26, 3) := by decide +kernel
theorem dX6_tellSymbols_63 : decode cX6_tellSymbols 63 = .ok (.iload_n 3, 1) := by decide +kernel
theorem dX6_tellSymbols_64 : decode cX6_tellSymbols 64 = .ok (.iconst 1, 1) := by decide +kernel
theorem dX6_tellSymbols_65 : decode cX6_tellSymbols 65 = .ok (.iadd, 1) := by decide +kernel
theorem dX6_tellSymbols_66 : decode cX6_tellSymbols 66 = .ok (.invokevirtual 64, 3) := by decide +kernel
theorem dX6_tellSymbols_69 : decode cX6_tellSymbols 69 = .ok (.iinc 2 1, 3) := by decide +kernel
theorem dX6_tellSymbols_72 : decode cX6_tellSymbols 72 = .ok (.goto (-50), 3) := by decide +kernel
theorem dX6_tellSymbols_75 : decode cX6_tellSymbols 75 = .ok (.aload_n 0, 1) := by decide +kernel
theorem dX6_tellSymbols_76 : decode cX6_tellSymbols 76 = .ok (.iload_n 1, 1) := by decide +kernel
theorem dX6_tellSymbols_77 : decode cX6_tellSymbols 77 = .ok (.invokevirtual 74, 3) := by decide +kernel
theorem dX6_tellSymbols_80 : decode cX6_tellSymbols 80 = .ok (.aload_n 0, 1) := by decide +kernel
theorem dX6_tellSymbols_81 : decode cX6_tellSymbols 81 = .ok (.getfield 26, 3) := by decide +kernel
theorem dX6_tellSymbols_84 : decode cX6_tellSymbols 84 = .ok (.aload_n 0, 1) := by decide +kernel
theorem dX6_tellSymbols_85 : decode cX6_tellSymbols 85 = .ok (.getfield 20, 3) := by decide +kernel
theorem dX6_tellSymbols_88 : decode cX6_tellSymbols 88 = .ok (.invokevirtual 53, 3) := by decide +kernel
theorem dX6_tellSymbols_91 : decode cX6_tellSymbols 91 = .ok (.iconst 1, 1) := by decide +kernel
theorem dX6_tellSymbols_92 : decode cX6_tellSymbols 92 = .ok (.iadd, 1) := by decide +kernel
theorem dX6_tellSymbols_93 : decode cX6_tellSymbols 93 = .ok (.invokevirtual 64, 3) := by decide +kernel
theorem dX6_tellSymbols_96 : decode cX6_tellSymbols 96 = .ok (.return_, 1) := by decide +kernel
set_option maxRecDepth 20000 in
theorem ggX6_tellZeros_X5_add : GoodIn wsX6_tellZeros wsX5_add := goodIn_r _ [6, 7, 8, 15, 16] (by decide +kernel) (by decide +kernel)
set_option maxRecDepth 20000 in
theorem gX6_tellZeros_X5_add : GoodIn wsX6_tellZeros (wsV RX6 64 RX5 yX5_add wsX5_add) := goodIn_app (goodIn_of _ (by decide +kernel)) ggX6_tellZeros_X5_add
theorem dX6_tellZeros_0 : decode cX6_tellZeros 0 = .ok (.iload_n 1, 1) := by decide +kernel
theorem dX6_tellZeros_1 : decode cX6_tellZeros 1 = .ok (.istore_n 2, 1) := by decide +kernel
theorem dX6_tellZeros_2 : decode cX6_tellZeros 2 = .ok (.iload_n 2, 1) := by decide +kernel
theorem dX6_tellZeros_3 : decode cX6_tellZeros 3 = .ok (.ifCond .le 24, 3) := by decide +kernel
theorem dX6_tellZeros_6 : decode cX6_tellZeros 6 = .ok (.aload_n 0, 1) := by decide +kernel
theorem dX6_tellZeros_7 : decode cX6_tellZeros 7 = .ok (.getfield 26, 3) := by decide +kernel
theorem dX6_tellZeros_10 : decode cX6_tellZeros 10 = .ok (.iload_n 2, 1) := by decide +kernel
theorem dX6_tellZeros_11 : decode cX6_tellZeros 11 = .ok (.iconst 1, 1) := by decide +kernel
theorem dX6_tellZeros_12 : decode cX6_tellZeros 12 = .ok (.isub, 1) := by decide +kernel
theorem dX6_tellZeros_13 : decode cX6_tellZeros 13 = .ok (.iconst 2, 1) := by decide +kernel
theorem dX6_tellZeros_14 : decode cX6_tellZeros 14 = .ok (.irem, 1) := by decide +kernel
theorem dX6_tellZeros_15 : decode cX6_tellZeros 15 = .ok (.invokevirtual 64, 3) := by decide +kernel
theorem dX6_tellZeros_18 : decode cX6_tellZeros 18 = .ok (.iload_n 2, 1) := by decide +kernel
theorem dX6_tellZeros_19 : decode cX6_tellZeros 19 = .ok (.iconst 1, 1) := by decide +kernel
theorem dX6_tellZeros_20 : decode cX6_tellZeros 20 = .ok (.isub, 1) := by decide +kernel
theorem dX6_tellZeros_21 : decode cX6_tellZeros 21 = .ok (.iconst 2, 1) := by decide +kernel
theorem dX6_tellZeros_22 : decode cX6_tellZeros 22 = .ok (.idiv, 1) := by decide +kernel
theorem dX6_tellZeros_23 : decode cX6_tellZeros 23 = .ok (.istore_n 2, 1) := by decide +kernel
theorem dX6_tellZeros_24 : decode cX6_tellZeros 24 = .ok (.goto (-22), 3) := by decide +kernel
theorem dX6_tellZeros_27 : decode cX6_tellZeros 27 = .ok (.return_, 1) := by decide +kernel
