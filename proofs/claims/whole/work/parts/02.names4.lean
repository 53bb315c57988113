theorem dX5_takes_29 : decode cX5_takes 29 = .ok (.bipush 49, 2) := by decide +kernel
theorem dX5_takes_31 : decode cX5_takes 31 = .ok (.irem, 1) := by decide +kernel
theorem dX5_takes_32 : decode cX5_takes 32 = .ok (.iload_n 2, 1) := by decide +kernel
theorem dX5_takes_33 : decode cX5_takes 33 = .ok (.iadd, 1) := by decide +kernel
theorem dX5_takes_34 : decode cX5_takes 34 = .ok (.iconst 1, 1) := by decide +kernel
theorem dX5_takes_35 : decode cX5_takes 35 = .ok (.bastore, 1) := by decide +kernel
theorem dX5_takes_36 : decode cX5_takes 36 = .ok (.iinc 2 1, 3) := by decide +kernel
theorem dX5_takes_39 : decode cX5_takes 39 = .ok (.goto (-37), 3) := by decide +kernel
theorem dX5_takes_42 : decode cX5_takes 42 = .ok (.return_, 1) := by decide +kernel
set_option maxRecDepth 20000 in
theorem ggX5_build_X5_within : GoodIn wsX5_build wsX5_within := goodIn_r _ [9] (by decide +kernel) (by decide +kernel)
set_option maxRecDepth 20000 in
theorem gX5_build_X5_within : GoodIn wsX5_build (va_wsS RX5 61 yX5_within wsX5_within) := goodIn_app (goodIn_of _ (by decide +kernel)) ggX5_build_X5_within
set_option maxRecDepth 20000 in
theorem ggX5_build_X5_longestRun : GoodIn wsX5_build wsX5_longestRun := goodIn_r _ [13, 14, 15, 3, 16, 17, 18, 8, 19, 1, 2, 20, 21, 22, 23, 24, 25, 26, 27, 62, 63, 64, 65, 66, 67, 68, 69, 70, 71, 72, 73, 74, 75, 76, 77, 78, 79, 80] (by decide +kernel) (by decide +kernel)
set_option maxRecDepth 20000 in
theorem gX5_build_X5_longestRun : GoodIn wsX5_build (wsV RX5 79 RX5 yX5_longestRun wsX5_longestRun) := goodIn_app (goodIn_of _ (by decide +kernel)) ggX5_build_X5_longestRun
set_option maxRecDepth 20000 in
theorem ggX5_build_X5_takes : GoodIn wsX5_build wsX5_takes := goodIn_r _ [31, 3, 1, 2, 62, 63, 64, 65, 66, 67, 68, 69, 70, 71, 72, 73, 74, 75, 76, 77, 78, 79, 80] (by decide +kernel) (by decide +kernel)
set_option maxRecDepth 20000 in
theorem gX5_build_X5_takes : GoodIn wsX5_build (wsV RX5 83 RX5 yX5_takes wsX5_takes) := goodIn_app (goodIn_of _ (by decide +kernel)) ggX5_build_X5_takes
set_option maxRecDepth 20000 in
theorem ggX5_build_X5_numbers : GoodIn wsX5_build wsX5_numbers := goodIn_r _ [35, 5, 14, 1, 36, 37, 38, 62, 63, 64, 65, 66, 67, 68, 69, 70, 71, 72, 73, 74, 75, 76, 77, 78, 79, 80] (by decide +kernel) (by decide +kernel)
set_option maxRecDepth 20000 in
theorem gX5_build_X5_numbers : GoodIn wsX5_build (wsV RX5 87 RX5 yX5_numbers wsX5_numbers) := goodIn_app (goodIn_of _ (by decide +kernel)) ggX5_build_X5_numbers
set_option maxRecDepth 20000 in
theorem ggX5_build_X5_orders : GoodIn wsX5_build wsX5_orders := goodIn_r _ [42, 43, 5, 44, 45, 46, 47, 48, 8, 49, 50, 51, 52, 53, 54, 55, 56, 57, 37, 36, 38, 58, 59, 60, 61, 62, 63, 64, 65, 66, 67, 68, 69, 70, 71, 72, 73, 74, 75, 76, 77, 78, 79, 80] (by decide +kernel) (by decide +kernel)
set_option maxRecDepth 20000 in
theorem gX5_build_X5_orders : GoodIn wsX5_build (wsV RX5 90 RX5 yX5_orders wsX5_orders) := goodIn_app (goodIn_of _ (by decide +kernel)) ggX5_build_X5_orders
theorem dX5_build_0 : decode cX5_build 0 = .ok (.iload_n 1, 1) := by decide +kernel
theorem dX5_build_1 : decode cX5_build 1 = .ok (.iconst 1, 1) := by decide +kernel
theorem dX5_build_2 : decode cX5_build 2 = .ok (.bipush 16, 2) := by decide +kernel
theorem dX5_build_4 : decode cX5_build 4 = .ok (.invokestatic 61, 3) := by decide +kernel
theorem dX5_build_7 : decode cX5_build 7 = .ok (.ifCond .ne 7, 3) := by decide +kernel
theorem dX5_build_10 : decode cX5_build 10 = .ok (.sipush (-10001), 3) := by decide +kernel
theorem dX5_build_13 : decode cX5_build 13 = .ok (.ireturn, 1) := by decide +kernel
theorem dX5_build_14 : decode cX5_build 14 = .ok (.iconst 0, 1) := by decide +kernel
theorem dX5_build_15 : decode cX5_build 15 = .ok (.istore_n 2, 1) := by decide +kernel
theorem dX5_build_16 : decode cX5_build 16 = .ok (.iload_n 2, 1) := by decide +kernel
theorem dX5_build_17 : decode cX5_build 17 = .ok (.bipush 48, 2) := by decide +kernel
theorem dX5_build_19 : decode cX5_build 19 = .ok (.if_icmp .ge 25, 3) := by decide +kernel
theorem dX5_build_22 : decode cX5_build 22 = .ok (.aload_n 0, 1) := by decide +kernel
theorem dX5_build_23 : decode cX5_build 23 = .ok (.getfield 32, 3) := by decide +kernel
theorem dX5_build_26 : decode cX5_build 26 = .ok (.iload_n 2, 1) := by decide +kernel
theorem dX5_build_27 : decode cX5_build 27 = .ok (.sipush (-10005), 3) := by decide +kernel
theorem dX5_build_30 : decode cX5_build 30 = .ok (.iastore, 1) := by decide +kernel
theorem dX5_build_31 : decode cX5_build 31 = .ok (.aload_n 0, 1) := by decide +kernel
theorem dX5_build_32 : decode cX5_build 32 = .ok (.getfield 35, 3) := by decide +kernel
theorem dX5_build_35 : decode cX5_build 35 = .ok (.iload_n 2, 1) := by decide +kernel
theorem dX5_build_36 : decode cX5_build 36 = .ok (.iconst 0, 1) := by decide +kernel
theorem dX5_build_37 : decode cX5_build 37 = .ok (.bastore, 1) := by decide +kernel
theorem dX5_build_38 : decode cX5_build 38 = .ok (.iinc 2 1, 3) := by decide +kernel
theorem dX5_build_41 : decode cX5_build 41 = .ok (.goto (-25), 3) := by decide +kernel
theorem dX5_build_44 : decode cX5_build 44 = .ok (.aload_n 0, 1) := by decide +kernel
theorem dX5_build_45 : decode cX5_build 45 = .ok (.invokevirtual 79, 3) := by decide +kernel
theorem dX5_build_48 : decode cX5_build 48 = .ok (.istore_n 2, 1) := by decide +kernel
theorem dX5_build_49 : decode cX5_build 49 = .ok (.aload_n 0, 1) := by decide +kernel
theorem dX5_build_50 : decode cX5_build 50 = .ok (.getfield 38, 3) := by decide +kernel
theorem dX5_build_53 : decode cX5_build 53 = .ok (.iload_n 2, 1) := by decide +kernel
theorem dX5_build_54 : decode cX5_build 54 = .ok (.iaload, 1) := by decide +kernel
theorem dX5_build_55 : decode cX5_build 55 = .ok (.iload_n 1, 1) := by decide +kernel
theorem dX5_build_56 : decode cX5_build 56 = .ok (.if_icmp .lt 16, 3) := by decide +kernel
theorem dX5_build_59 : decode cX5_build 59 = .ok (.aload_n 0, 1) := by decide +kernel
theorem dX5_build_60 : decode cX5_build 60 = .ok (.iload_n 2, 1) := by decide +kernel
theorem dX5_build_61 : decode cX5_build 61 = .ok (.invokevirtual 83, 3) := by decide +kernel
theorem dX5_build_64 : decode cX5_build 64 = .ok (.aload_n 0, 1) := by decide +kernel
theorem dX5_build_65 : decode cX5_build 65 = .ok (.invokevirtual 79, 3) := by decide +kernel
theorem dX5_build_68 : decode cX5_build 68 = .ok (.istore_n 2, 1) := by decide +kernel
theorem dX5_build_69 : decode cX5_build 69 = .ok (.goto (-20), 3) := by decide +kernel
theorem dX5_build_72 : decode cX5_build 72 = .ok (.aload_n 0, 1) := by decide +kernel
theorem dX5_build_73 : decode cX5_build 73 = .ok (.invokevirtual 87, 3) := by decide +kernel
theorem dX5_build_76 : decode cX5_build 76 = .ok (.aload_n 0, 1) := by decide +kernel
theorem dX5_build_77 : decode cX5_build 77 = .ok (.invokevirtual 90, 3) := by decide +kernel
theorem dX5_build_80 : decode cX5_build 80 = .ok (.aload_n 0, 1) := by decide +kernel
theorem dX5_build_81 : decode cX5_build 81 = .ok (.iconst 1, 1) := by decide +kernel
theorem dX5_build_82 : decode cX5_build 82 = .ok (.putfield 53, 3) := by decide +kernel
theorem dX5_build_85 : decode cX5_build 85 = .ok (.aload_n 0, 1) := by decide +kernel
theorem dX5_build_86 : decode cX5_build 86 = .ok (.getfield 93, 3) := by decide +kernel
theorem dX5_build_89 : decode cX5_build 89 = .ok (.ireturn, 1) := by decide +kernel
theorem dX5_numbers_0 : decode cX5_numbers 0 = .ok (.aload_n 0, 1) := by decide +kernel
theorem dX5_numbers_1 : decode cX5_numbers 1 = .ok (.iconst 0, 1) := by decide +kernel
theorem dX5_numbers_2 : decode cX5_numbers 2 = .ok (.putfield 93, 3) := by decide +kernel
theorem dX5_numbers_5 : decode cX5_numbers 5 = .ok (.sipush (-10005), 3) := by decide +kernel
theorem dX5_numbers_8 : decode cX5_numbers 8 = .ok (.istore_n 1, 1) := by decide +kernel
theorem dX5_numbers_9 : decode cX5_numbers 9 = .ok (.iconst 0, 1) := by decide +kernel
theorem dX5_numbers_10 : decode cX5_numbers 10 = .ok (.istore_n 2, 1) := by decide +kernel
theorem dX5_numbers_11 : decode cX5_numbers 11 = .ok (.iload_n 2, 1) := by decide +kernel
theorem dX5_numbers_12 : decode cX5_numbers 12 = .ok (.aload_n 0, 1) := by decide +kernel
theorem dX5_numbers_13 : decode cX5_numbers 13 = .ok (.getfield 57, 3) := by decide +kernel
theorem dX5_numbers_16 : decode cX5_numbers 16 = .ok (.if_icmp .ge 103, 3) := by decide +kernel
theorem dX5_numbers_19 : decode cX5_numbers 19 = .ok (.aload_n 0, 1) := by decide +kernel
theorem dX5_numbers_20 : decode cX5_numbers 20 = .ok (.getfield 32, 3) := by decide +kernel
theorem dX5_numbers_23 : decode cX5_numbers 23 = .ok (.iload_n 2, 1) := by decide +kernel
theorem dX5_numbers_24 : decode cX5_numbers 24 = .ok (.iaload, 1) := by decide +kernel
theorem dX5_numbers_25 : decode cX5_numbers 25 = .ok (.istore_n 3, 1) := by decide +kernel
theorem dX5_numbers_26 : decode cX5_numbers 26 = .ok (.iload_n 3, 1) := by decide +kernel
theorem dX5_numbers_27 : decode cX5_numbers 27 = .ok (.sipush (-10005), 3) := by decide +kernel
theorem dX5_numbers_30 : decode cX5_numbers 30 = .ok (.if_icmp .eq 81, 3) := by decide +kernel
theorem dX5_numbers_33 : decode cX5_numbers 33 = .ok (.iload_n 3, 1) := by decide +kernel
theorem dX5_numbers_34 : decode cX5_numbers 34 = .ok (.iload_n 1, 1) := by decide +kernel
theorem dX5_numbers_35 : decode cX5_numbers 35 = .ok (.if_icmp .eq 49, 3) := by decide +kernel
theorem dX5_numbers_38 : decode cX5_numbers 38 = .ok (.aload_n 0, 1) := by decide +kernel
theorem dX5_numbers_39 : decode cX5_numbers 39 = .ok (.getfield 23, 3) := by decide +kernel
theorem dX5_numbers_42 : decode cX5_numbers 42 = .ok (.aload_n 0, 1) := by decide +kernel
theorem dX5_numbers_43 : decode cX5_numbers 43 = .ok (.getfield 93, 3) := by decide +kernel
theorem dX5_numbers_46 : decode cX5_numbers 46 = .ok (.iload_n 3, 1) := by decide +kernel
theorem dX5_numbers_47 : decode cX5_numbers 47 = .ok (.bipush 49, 2) := by decide +kernel
theorem dX5_numbers_49 : decode cX5_numbers 49 = .ok (.irem, 1) := by decide +kernel
theorem dX5_numbers_50 : decode cX5_numbers 50 = .ok (.iastore, 1) := by decide +kernel
theorem dX5_numbers_51 : decode cX5_numbers 51 = .ok (.aload_n 0, 1) := by decide +kernel
theorem dX5_numbers_52 : decode cX5_numbers 52 = .ok (.getfield 26, 3) := by decide +kernel
theorem dX5_numbers_55 : decode cX5_numbers 55 = .ok (.aload_n 0, 1) := by decide +kernel
theorem dX5_numbers_56 : decode cX5_numbers 56 = .ok (.getfield 93, 3) := by decide +kernel
theorem dX5_numbers_59 : decode cX5_numbers 59 = .ok (.iload_n 3, 1) := by decide +kernel
theorem dX5_numbers_60 : decode cX5_numbers 60 = .ok (.bipush 49, 2) := by decide +kernel
theorem dX5_numbers_62 : decode cX5_numbers 62 = .ok (.idiv, 1) := by decide +kernel
theorem dX5_numbers_63 : decode cX5_numbers 63 = .ok (.iastore, 1) := by decide +kernel
theorem dX5_numbers_64 : decode cX5_numbers 64 = .ok (.aload_n 0, 1) := by decide +kernel
theorem dX5_numbers_65 : decode cX5_numbers 65 = .ok (.getfield 29, 3) := by decide +kernel
theorem dX5_numbers_68 : decode cX5_numbers 68 = .ok (.aload_n 0, 1) := by decide +kernel
theorem dX5_numbers_69 : decode cX5_numbers 69 = .ok (.getfield 93, 3) := by decide +kernel
theorem dX5_numbers_72 : decode cX5_numbers 72 = .ok (.iconst 0, 1) := by decide +kernel
theorem dX5_numbers_73 : decode cX5_numbers 73 = .ok (.iastore, 1) := by decide +kernel
theorem dX5_numbers_74 : decode cX5_numbers 74 = .ok (.aload_n 0, 1) := by decide +kernel
theorem dX5_numbers_75 : decode cX5_numbers 75 = .ok (.dup, 1) := by decide +kernel
theorem dX5_numbers_76 : decode cX5_numbers 76 = .ok (.getfield 93, 3) := by decide +kernel
theorem dX5_numbers_79 : decode cX5_numbers 79 = .ok (.iconst 1, 1) := by decide +kernel
theorem dX5_numbers_80 : decode cX5_numbers 80 = .ok (.iadd, 1) := by decide +kernel
theorem dX5_numbers_81 : decode cX5_numbers 81 = .ok (.putfield 93, 3) := by decide +kernel
theorem dX5_numbers_84 : decode cX5_numbers 84 = .ok (.aload_n 0, 1) := by decide +kernel
theorem dX5_numbers_85 : decode cX5_numbers 85 = .ok (.getfield 29, 3) := by decide +kernel
theorem dX5_numbers_88 : decode cX5_numbers 88 = .ok (.aload_n 0, 1) := by decide +kernel
theorem dX5_numbers_89 : decode cX5_numbers 89 = .ok (.getfield 93, 3) := by decide +kernel
theorem dX5_numbers_92 : decode cX5_numbers 92 = .ok (.iconst 1, 1) := by decide +kernel
theorem dX5_numbers_93 : decode cX5_numbers 93 = .ok (.isub, 1) := by decide +kernel
theorem dX5_numbers_94 : decode cX5_numbers 94 = .ok (.dup2, 1) := by decide +kernel
theorem dX5_numbers_95 : decode cX5_numbers 95 = .ok (.iaload, 1) := by decide +kernel
theorem dX5_numbers_96 : decode cX5_numbers 96 = .ok (.iconst 1, 1) := by decide +kernel
theorem dX5_numbers_97 : decode cX5_numbers 97 = .ok (.iadd, 1) := by decide +kernel
theorem dX5_numbers_98 : decode cX5_numbers 98 = .ok (.iastore, 1) := by decide +kernel
theorem dX5_numbers_99 : decode cX5_numbers 99 = .ok (.aload_n 0, 1) := by decide +kernel
theorem dX5_numbers_100 : decode cX5_numbers 100 = .ok (.getfield 32, 3) := by decide +kernel
theorem dX5_numbers_103 : decode cX5_numbers 103 = .ok (.iload_n 2, 1) := by decide +kernel
theorem dX5_numbers_104 : decode cX5_numbers 104 = .ok (.aload_n 0, 1) := by decide +kernel
theorem dX5_numbers_105 : decode cX5_numbers 105 = .ok (.getfield 93, 3) := by decide +kernel
theorem dX5_numbers_108 : decode cX5_numbers 108 = .ok (.iconst 1, 1) := by decide +kernel
theorem dX5_numbers_109 : decode cX5_numbers 109 = .ok (.isub, 1) := by decide +kernel
theorem dX5_numbers_110 : decode cX5_numbers 110 = .ok (.iastore, 1) := by decide +kernel
theorem dX5_numbers_111 : decode cX5_numbers 111 = .ok (.iload_n 3, 1) := by decide +kernel
theorem dX5_numbers_112 : decode cX5_numbers 112 = .ok (.istore_n 1, 1) := by decide +kernel
theorem dX5_numbers_113 : decode cX5_numbers 113 = .ok (.iinc 2 1, 3) := by decide +kernel
theorem dX5_numbers_116 : decode cX5_numbers 116 = .ok (.goto (-105), 3) := by decide +kernel
theorem dX5_numbers_119 : decode cX5_numbers 119 = .ok (.return_, 1) := by decide +kernel
set_option maxRecDepth 20000 in
theorem ggX5_ofBlock_X5_within : GoodIn wsX5_ofBlock wsX5_within := goodIn_r _ [6] (by decide +kernel) (by decide +kernel)
set_option maxRecDepth 20000 in
theorem gX5_ofBlock_X5_within : GoodIn wsX5_ofBlock (va_wsS RX5 61 yX5_within wsX5_within) := goodIn_app (goodIn_of _ (by decide +kernel)) ggX5_ofBlock_X5_within
theorem dX5_ofBlock_0 : decode cX5_ofBlock 0 = .ok (.aload_n 0, 1) := by decide +kernel
theorem dX5_ofBlock_1 : decode cX5_ofBlock 1 = .ok (.getfield 53, 3) := by decide +kernel
theorem dX5_ofBlock_4 : decode cX5_ofBlock 4 = .ok (.ifCond .ne 7, 3) := by decide +kernel
theorem dX5_ofBlock_7 : decode cX5_ofBlock 7 = .ok (.sipush (-10004), 3) := by decide +kernel
theorem dX5_ofBlock_10 : decode cX5_ofBlock 10 = .ok (.ireturn, 1) := by decide +kernel
theorem dX5_ofBlock_11 : decode cX5_ofBlock 11 = .ok (.iload_n 1, 1) := by decide +kernel
theorem dX5_ofBlock_12 : decode cX5_ofBlock 12 = .ok (.iconst 0, 1) := by decide +kernel
theorem dX5_ofBlock_13 : decode cX5_ofBlock 13 = .ok (.aload_n 0, 1) := by decide +kernel
theorem dX5_ofBlock_14 : decode cX5_ofBlock 14 = .ok (.getfield 93, 3) := by decide +kernel
theorem dX5_ofBlock_17 : decode cX5_ofBlock 17 = .ok (.iconst 1, 1) := by decide +kernel
theorem dX5_ofBlock_18 : decode cX5_ofBlock 18 = .ok (.isub, 1) := by decide +kernel
theorem dX5_ofBlock_19 : decode cX5_ofBlock 19 = .ok (.invokestatic 61, 3) := by decide +kernel
theorem dX5_ofBlock_22 : decode cX5_ofBlock 22 = .ok (.ifCond .eq 9, 3) := by decide +kernel
theorem dX5_ofBlock_25 : decode cX5_ofBlock 25 = .ok (.aload_n 2, 1) := by decide +kernel
theorem dX5_ofBlock_26 : decode cX5_ofBlock 26 = .ok (.iload_n 1, 1) := by decide +kernel
theorem dX5_ofBlock_27 : decode cX5_ofBlock 27 = .ok (.iaload, 1) := by decide +kernel
theorem dX5_ofBlock_28 : decode cX5_ofBlock 28 = .ok (.goto 6, 3) := by decide +kernel
theorem dX5_ofBlock_31 : decode cX5_ofBlock 31 = .ok (.sipush (-10003), 3) := by decide +kernel
theorem dX5_ofBlock_34 : decode cX5_ofBlock 34 = .ok (.ireturn, 1) := by decide +kernel
set_option maxRecDepth 20000 in
theorem ggX5_blockOldStart_X5_ofBlock : GoodIn wsX5_blockOldStart wsX5_ofBlock := goodIn_r _ [6, 7, 8, 9, 10, 5, 11, 12, 13, 14, 15, 16, 17, 18, 19, 20, 21, 22, 23, 24, 25, 26, 27, 28, 29, 30] (by decide +kernel) (by decide +kernel)
set_option maxRecDepth 20000 in
theorem gX5_blockOldStart_X5_ofBlock : GoodIn wsX5_blockOldStart (wsV RX5 96 RX5 yX5_ofBlock wsX5_ofBlock) := goodIn_app (goodIn_of _ (by decide +kernel)) ggX5_blockOldStart_X5_ofBlock
theorem dX5_blockOldStart_0 : decode cX5_blockOldStart 0 = .ok (.aload_n 0, 1) := by decide +kernel
theorem dX5_blockOldStart_1 : decode cX5_blockOldStart 1 = .ok (.iload_n 1, 1) := by decide +kernel
theorem dX5_blockOldStart_2 : decode cX5_blockOldStart 2 = .ok (.aload_n 0, 1) := by decide +kernel
theorem dX5_blockOldStart_3 : decode cX5_blockOldStart 3 = .ok (.getfield 23, 3) := by decide +kernel
theorem dX5_blockOldStart_6 : decode cX5_blockOldStart 6 = .ok (.invokevirtual 96, 3) := by decide +kernel
theorem dX5_blockOldStart_9 : decode cX5_blockOldStart 9 = .ok (.ireturn, 1) := by decide +kernel
set_option maxRecDepth 20000 in
theorem ggX5_blockNewStart_X5_ofBlock : GoodIn wsX5_blockNewStart wsX5_ofBlock := goodIn_r _ [6, 7, 8, 9, 10, 5, 11, 12, 13, 14, 15, 16, 17, 18, 19, 20, 21, 22, 23, 24, 25, 26, 27, 28, 29, 30] (by decide +kernel) (by decide +kernel)
set_option maxRecDepth 20000 in
theorem gX5_blockNewStart_X5_ofBlock : GoodIn wsX5_blockNewStart (wsV RX5 96 RX5 yX5_ofBlock wsX5_ofBlock) := goodIn_app (goodIn_of _ (by decide +kernel)) ggX5_blockNewStart_X5_ofBlock
theorem dX5_blockNewStart_0 : decode cX5_blockNewStart 0 = .ok (.aload_n 0, 1) := by decide +kernel
theorem dX5_blockNewStart_1 : decode cX5_blockNewStart 1 = .ok (.iload_n 1, 1) := by decide +kernel
theorem dX5_blockNewStart_2 : decode cX5_blockNewStart 2 = .ok (.aload_n 0, 1) := by decide +kernel
theorem dX5_blockNewStart_3 : decode cX5_blockNewStart 3 = .ok (.getfield 26, 3) := by decide +kernel
theorem dX5_blockNewStart_6 : decode cX5_blockNewStart 6 = .ok (.invokevirtual 96, 3) := by decide +kernel
theorem dX5_blockNewStart_9 : decode cX5_blockNewStart 9 = .ok (.ireturn, 1) := by decide +kernel
set_option maxRecDepth 20000 in
theorem ggX5_blockLength_X5_ofBlock : GoodIn wsX5_blockLength wsX5_ofBlock := goodIn_r _ [6, 7, 8, 9, 10, 5, 11, 12, 13, 14, 15, 16, 17, 18, 19, 20, 21, 22, 23, 24, 25, 26, 27, 28, 29, 30] (by decide +kernel) (by decide +kernel)
set_option maxRecDepth 20000 in
theorem gX5_blockLength_X5_ofBlock : GoodIn wsX5_blockLength (wsV RX5 96 RX5 yX5_ofBlock wsX5_ofBlock) := goodIn_app (goodIn_of _ (by decide +kernel)) ggX5_blockLength_X5_ofBlock
theorem dX5_blockLength_0 : decode cX5_blockLength 0 = .ok (.aload_n 0, 1) := by decide +kernel
theorem dX5_blockLength_1 : decode cX5_blockLength 1 = .ok (.iload_n 1, 1) := by decide +kernel
theorem dX5_blockLength_2 : decode cX5_blockLength 2 = .ok (.aload_n 0, 1) := by decide +kernel
theorem dX5_blockLength_3 : decode cX5_blockLength 3 = .ok (.getfield 29, 3) := by decide +kernel
theorem dX5_blockLength_6 : decode cX5_blockLength 6 = .ok (.invokevirtual 96, 3) := by decide +kernel
theorem dX5_blockLength_9 : decode cX5_blockLength 9 = .ok (.ireturn, 1) := by decide +kernel
set_option maxRecDepth 20000 in
theorem ggX5_blockOf_X5_isNew : GoodIn wsX5_blockOf wsX5_isNew := goodIn_r _ [7, 8, 9, 10, 6, 11, 12, 13, 14, 15, 16, 17, 18, 19, 20, 21, 22, 23, 24, 25, 26, 27, 28, 29, 30] (by decide +kernel) (by decide +kernel)
set_option maxRecDepth 20000 in
theorem gX5_blockOf_X5_isNew : GoodIn wsX5_blockOf (wsV RX5 68 RX5 yX5_isNew wsX5_isNew) := goodIn_app (goodIn_of _ (by decide +kernel)) ggX5_blockOf_X5_isNew
theorem dX5_blockOf_0 : decode cX5_blockOf 0 = .ok (.aload_n 0, 1) := by decide +kernel
theorem dX5_blockOf_1 : decode cX5_blockOf 1 = .ok (.getfield 53, 3) := by decide +kernel
theorem dX5_blockOf_4 : decode cX5_blockOf 4 = .ok (.ifCond .ne 7, 3) := by decide +kernel
theorem dX5_blockOf_7 : decode cX5_blockOf 7 = .ok (.sipush (-10004), 3) := by decide +kernel
theorem dX5_blockOf_10 : decode cX5_blockOf 10 = .ok (.ireturn, 1) := by decide +kernel
theorem dX5_blockOf_11 : decode cX5_blockOf 11 = .ok (.aload_n 0, 1) := by decide +kernel
theorem dX5_blockOf_12 : decode cX5_blockOf 12 = .ok (.iload_n 1, 1) := by decide +kernel
theorem dX5_blockOf_13 : decode cX5_blockOf 13 = .ok (.invokevirtual 68, 3) := by decide +kernel
theorem dX5_blockOf_16 : decode cX5_blockOf 16 = .ok (.ifCond .eq 12, 3) := by decide +kernel
theorem dX5_blockOf_19 : decode cX5_blockOf 19 = .ok (.aload_n 0, 1) := by decide +kernel
theorem dX5_blockOf_20 : decode cX5_blockOf 20 = .ok (.getfield 32, 3) := by decide +kernel
theorem dX5_blockOf_23 : decode cX5_blockOf 23 = .ok (.iload_n 1, 1) := by decide +kernel
theorem dX5_blockOf_24 : decode cX5_blockOf 24 = .ok (.iaload, 1) := by decide +kernel
theorem dX5_blockOf_25 : decode cX5_blockOf 25 = .ok (.goto 6, 3) := by decide +kernel
theorem dX5_blockOf_28 : decode cX5_blockOf 28 = .ok (.sipush (-10003), 3) := by decide +kernel
theorem dX5_blockOf_31 : decode cX5_blockOf 31 = .ok (.ireturn, 1) := by decide +kernel
theorem dX5_predicts_0 : decode cX5_predicts 0 = .ok (.sipush (-10005), 3) := by decide +kernel
theorem dX5_predicts_3 : decode cX5_predicts 3 = .ok (.istore_n 2, 1) := by decide +kernel
theorem dX5_predicts_4 : decode cX5_predicts 4 = .ok (.iconst 0, 1) := by decide +kernel
theorem dX5_predicts_5 : decode cX5_predicts 5 = .ok (.istore_n 3, 1) := by decide +kernel
theorem dX5_predicts_6 : decode cX5_predicts 6 = .ok (.iload_n 3, 1) := by decide +kernel
theorem dX5_predicts_7 : decode cX5_predicts 7 = .ok (.aload_n 0, 1) := by decide +kernel
theorem dX5_predicts_8 : decode cX5_predicts 8 = .ok (.getfield 93, 3) := by decide +kernel
theorem dX5_predicts_11 : decode cX5_predicts 11 = .ok (.if_icmp .ge 59, 3) := by decide +kernel
theorem dX5_predicts_14 : decode cX5_predicts 14 = .ok (.aload_n 0, 1) := by decide +kernel
theorem dX5_predicts_15 : decode cX5_predicts 15 = .ok (.getfield 23, 3) := by decide +kernel
theorem dX5_predicts_18 : decode cX5_predicts 18 = .ok (.iload_n 3, 1) := by decide +kernel
theorem dX5_predicts_19 : decode cX5_predicts 19 = .ok (.iaload, 1) := by decide +kernel
theorem dX5_predicts_20 : decode cX5_predicts 20 = .ok (.iload_n 1, 1) := by decide +kernel
theorem dX5_predicts_21 : decode cX5_predicts 21 = .ok (.if_icmp .gt 7, 3) := by decide +kernel
theorem dX5_predicts_24 : decode cX5_predicts 24 = .ok (.iconst 1, 1) := by decide +kernel
theorem dX5_predicts_25 : decode cX5_predicts 25 = .ok (.goto 4, 3) := by decide +kernel
theorem dX5_predicts_28 : decode cX5_predicts 28 = .ok (.iconst 0, 1) := by decide +kernel
theorem dX5_predicts_29 : decode cX5_predicts 29 = .ok (.istore 4, 2) := by decide +kernel
theorem dX5_predicts_31 : decode cX5_predicts 31 = .ok (.iload 4, 2) := by decide +kernel
theorem dX5_predicts_33 : decode cX5_predicts 33 = .ok (.ifCond .eq 29, 3) := by decide +kernel
theorem dX5_predicts_36 : decode cX5_predicts 36 = .ok (.iload_n 2, 1) := by decide +kernel
theorem dX5_predicts_37 : decode cX5_predicts 37 = .ok (.sipush (-10005), 3) := by decide +kernel
theorem dX5_predicts_40 : decode cX5_predicts 40 = .ok (.if_icmp .eq 18, 3) := by decide +kernel
theorem dX5_predicts_43 : decode cX5_predicts 43 = .ok (.aload_n 0, 1) := by decide +kernel
theorem dX5_predicts_44 : decode cX5_predicts 44 = .ok (.getfield 23, 3) := by decide +kernel
theorem dX5_predicts_47 : decode cX5_predicts 47 = .ok (.iload_n 3, 1) := by decide +kernel
theorem dX5_predicts_48 : decode cX5_predicts 48 = .ok (.iaload, 1) := by decide +kernel
theorem dX5_predicts_49 : decode cX5_predicts 49 = .ok (.aload_n 0, 1) := by decide +kernel
theorem dX5_predicts_50 : decode cX5_predicts 50 = .ok (.getfield 23, 3) := by decide +kernel
theorem dX5_predicts_53 : decode cX5_predicts 53 = .ok (.iload_n 2, 1) := by decide +kernel
theorem dX5_predicts_54 : decode cX5_predicts 54 = .ok (.iaload, 1) := by decide +kernel
theorem dX5_predicts_55 : decode cX5_predicts 55 = .ok (.if_icmp .le 7, 3) := by decide +kernel
theorem dX5_predicts_58 : decode cX5_predicts 58 = .ok (.iload_n 3, 1) := by decide +kernel
theorem dX5_predicts_59 : decode cX5_predicts 59 = .ok (.goto 4, 3) := by decide +kernel
theorem dX5_predicts_62 : decode cX5_predicts 62 = .ok (.iload_n 2, 1) := by decide +kernel
theorem dX5_predicts_63 : decode cX5_predicts 63 = .ok (.istore_n 2, 1) := by decide +kernel
theorem dX5_predicts_64 : decode cX5_predicts 64 = .ok (.iinc 3 1, 3) := by decide +kernel
theorem dX5_predicts_67 : decode cX5_predicts 67 = .ok (.goto (-61), 3) := by decide +kernel
theorem dX5_predicts_70 : decode cX5_predicts 70 = .ok (.iload_n 2, 1) := by decide +kernel
theorem dX5_predicts_71 : decode cX5_predicts 71 = .ok (.sipush (-10005), 3) := by decide +kernel
theorem dX5_predicts_74 : decode cX5_predicts 74 = .ok (.if_icmp .ne 7, 3) := by decide +kernel
theorem dX5_predicts_77 : decode cX5_predicts 77 = .ok (.iload_n 1, 1) := by decide +kernel
theorem dX5_predicts_78 : decode cX5_predicts 78 = .ok (.goto 18, 3) := by decide +kernel
theorem dX5_predicts_81 : decode cX5_predicts 81 = .ok (.iload_n 1, 1) := by decide +kernel
theorem dX5_predicts_82 : decode cX5_predicts 82 = .ok (.aload_n 0, 1) := by decide +kernel
theorem dX5_predicts_83 : decode cX5_predicts 83 = .ok (.getfield 26, 3) := by decide +kernel
theorem dX5_predicts_86 : decode cX5_predicts 86 = .ok (.iload_n 2, 1) := by decide +kernel
theorem dX5_predicts_87 : decode cX5_predicts 87 = .ok (.iaload, 1) := by decide +kernel
theorem dX5_predicts_88 : decode cX5_predicts 88 = .ok (.iadd, 1) := by decide +kernel
theorem dX5_predicts_89 : decode cX5_predicts 89 = .ok (.aload_n 0, 1) := by decide +kernel
theorem dX5_predicts_90 : decode cX5_predicts 90 = .ok (.getfield 23, 3) := by decide +kernel
theorem dX5_predicts_93 : decode cX5_predicts 93 = .ok (.iload_n 2, 1) := by decide +kernel
theorem dX5_predicts_94 : decode cX5_predicts 94 = .ok (.iaload, 1) := by decide +kernel
theorem dX5_predicts_95 : decode cX5_predicts 95 = .ok (.isub, 1) := by decide +kernel
theorem dX5_predicts_96 : decode cX5_predicts 96 = .ok (.ireturn, 1) := by decide +kernel
set_option maxRecDepth 20000 in
theorem ggX5_predictedAddress_X5_within : GoodIn wsX5_predictedAddress wsX5_within := goodIn_r _ [5] (by decide +kernel) (by decide +kernel)
set_option maxRecDepth 20000 in
theorem gX5_predictedAddress_X5_within : GoodIn wsX5_predictedAddress (va_wsS RX5 61 yX5_within wsX5_within) := goodIn_app (goodIn_of _ (by decide +kernel)) ggX5_predictedAddress_X5_within
set_option maxRecDepth 20000 in
theorem ggX5_predictedAddress_X5_predicts : GoodIn wsX5_predictedAddress wsX5_predicts := goodIn_r _ [9, 10, 11, 12, 13, 14, 15, 16, 17, 18, 19, 20, 21, 22, 23, 24, 25, 26, 27, 28, 29, 30, 31] (by decide +kernel) (by decide +kernel)
set_option maxRecDepth 20000 in
theorem gX5_predictedAddress_X5_predicts : GoodIn wsX5_predictedAddress (wsV RX5 100 RX5 yX5_predicts wsX5_predicts) := goodIn_app (goodIn_of _ (by decide +kernel)) ggX5_predictedAddress_X5_predicts
theorem dX5_predictedAddress_0 : decode cX5_predictedAddress 0 = .ok (.aload_n 0, 1) := by decide +kernel
theorem dX5_predictedAddress_1 : decode cX5_predictedAddress 1 = .ok (.getfield 53, 3) := by decide +kernel
theorem dX5_predictedAddress_4 : decode cX5_predictedAddress 4 = .ok (.ifCond .ne 7, 3) := by decide +kernel
theorem dX5_predictedAddress_7 : decode cX5_predictedAddress 7 = .ok (.sipush (-10004), 3) := by decide +kernel
theorem dX5_predictedAddress_10 : decode cX5_predictedAddress 10 = .ok (.ireturn, 1) := by decide +kernel
theorem dX5_predictedAddress_11 : decode cX5_predictedAddress 11 = .ok (.iload_n 1, 1) := by decide +kernel
theorem dX5_predictedAddress_12 : decode cX5_predictedAddress 12 = .ok (.iconst 0, 1) := by decide +kernel
theorem dX5_predictedAddress_13 : decode cX5_predictedAddress 13 = .ok (.sipush 9999, 3) := by decide +kernel
theorem dX5_predictedAddress_16 : decode cX5_predictedAddress 16 = .ok (.invokestatic 61, 3) := by decide +kernel
theorem dX5_predictedAddress_19 : decode cX5_predictedAddress 19 = .ok (.ifCond .eq 11, 3) := by decide +kernel
theorem dX5_predictedAddress_22 : decode cX5_predictedAddress 22 = .ok (.aload_n 0, 1) := by decide +kernel
theorem dX5_predictedAddress_23 : decode cX5_predictedAddress 23 = .ok (.iload_n 1, 1) := by decide +kernel
theorem dX5_predictedAddress_24 : decode cX5_predictedAddress 24 = .ok (.invokevirtual 100, 3) := by decide +kernel
theorem dX5_predictedAddress_27 : decode cX5_predictedAddress 27 = .ok (.goto 6, 3) := by decide +kernel
theorem dX5_predictedAddress_30 : decode cX5_predictedAddress 30 = .ok (.sipush (-10001), 3) := by decide +kernel
theorem dX5_predictedAddress_33 : decode cX5_predictedAddress 33 = .ok (.ireturn, 1) := by decide +kernel
theorem dX5_oldIndexOf_0 : decode cX5_oldIndexOf 0 = .ok (.aload_n 0, 1) := by decide +kernel
theorem dX5_oldIndexOf_1 : decode cX5_oldIndexOf 1 = .ok (.getfield 32, 3) := by decide +kernel
theorem dX5_oldIndexOf_4 : decode cX5_oldIndexOf 4 = .ok (.iload_n 1, 1) := by decide +kernel
theorem dX5_oldIndexOf_5 : decode cX5_oldIndexOf 5 = .ok (.iaload, 1) := by decide +kernel
theorem dX5_oldIndexOf_6 : decode cX5_oldIndexOf 6 = .ok (.istore_n 2, 1) := by decide +kernel
theorem dX5_oldIndexOf_7 : decode cX5_oldIndexOf 7 = .ok (.aload_n 0, 1) := by decide +kernel
theorem dX5_oldIndexOf_8 : decode cX5_oldIndexOf 8 = .ok (.getfield 23, 3) := by decide +kernel
theorem dX5_oldIndexOf_11 : decode cX5_oldIndexOf 11 = .ok (.iload_n 2, 1) := by decide +kernel
theorem dX5_oldIndexOf_12 : decode cX5_oldIndexOf 12 = .ok (.iaload, 1) := by decide +kernel
theorem dX5_oldIndexOf_13 : decode cX5_oldIndexOf 13 = .ok (.iload_n 1, 1) := by decide +kernel
theorem dX5_oldIndexOf_14 : decode cX5_oldIndexOf 14 = .ok (.iadd, 1) := by decide +kernel
theorem dX5_oldIndexOf_15 : decode cX5_oldIndexOf 15 = .ok (.aload_n 0, 1) := by decide +kernel
theorem dX5_oldIndexOf_16 : decode cX5_oldIndexOf 16 = .ok (.getfield 26, 3) := by decide +kernel
theorem dX5_oldIndexOf_19 : decode cX5_oldIndexOf 19 = .ok (.iload_n 2, 1) := by decide +kernel
theorem dX5_oldIndexOf_20 : decode cX5_oldIndexOf 20 = .ok (.iaload, 1) := by decide +kernel
theorem dX5_oldIndexOf_21 : decode cX5_oldIndexOf 21 = .ok (.isub, 1) := by decide +kernel
theorem dX5_oldIndexOf_22 : decode cX5_oldIndexOf 22 = .ok (.ireturn, 1) := by decide +kernel
set_option maxRecDepth 20000 in
theorem ggX5_predictedAt_X5_oldIndexOf : GoodIn wsX5_predictedAt wsX5_oldIndexOf := goodIn_r _ [7, 8, 9, 10, 16, 17, 18, 19, 20, 21, 22, 23, 24, 25, 26, 27, 28, 29, 30, 31, 32, 33, 34] (by decide +kernel) (by decide +kernel)
set_option maxRecDepth 20000 in
theorem gX5_predictedAt_X5_oldIndexOf : GoodIn wsX5_predictedAt (wsV RX5 104 RX5 yX5_oldIndexOf wsX5_oldIndexOf) := goodIn_app (goodIn_of _ (by decide +kernel)) ggX5_predictedAt_X5_oldIndexOf
set_option maxRecDepth 20000 in
theorem ggX5_predictedAt_X5_predicts : GoodIn wsX5_predictedAt wsX5_predicts := goodIn_r _ [14, 15, 9, 10, 16, 17, 18, 19, 20, 21, 22, 23, 24, 25, 26, 27, 28, 29, 30, 31, 32, 33, 34] (by decide +kernel) (by decide +kernel)
set_option maxRecDepth 20000 in
theorem gX5_predictedAt_X5_predicts : GoodIn wsX5_predictedAt (wsV RX5 100 RX5 yX5_predicts wsX5_predicts) := goodIn_app (goodIn_of _ (by decide +kernel)) ggX5_predictedAt_X5_predicts
theorem dX5_predictedAt_0 : decode cX5_predictedAt 0 = .ok (.aload_n 0, 1) := by decide +kernel
theorem dX5_predictedAt_1 : decode cX5_predictedAt 1 = .ok (.iload_n 1, 1) := by decide +kernel
theorem dX5_predictedAt_2 : decode cX5_predictedAt 2 = .ok (.invokevirtual 104, 3) := by decide +kernel
theorem dX5_predictedAt_5 : decode cX5_predictedAt 5 = .ok (.istore_n 2, 1) := by decide +kernel
theorem dX5_predictedAt_6 : decode cX5_predictedAt 6 = .ok (.aload_n 0, 1) := by decide +kernel
theorem dX5_predictedAt_7 : decode cX5_predictedAt 7 = .ok (.getfield 13, 3) := by decide +kernel
theorem dX5_predictedAt_10 : decode cX5_predictedAt 10 = .ok (.iload_n 2, 1) := by decide +kernel
theorem dX5_predictedAt_11 : decode cX5_predictedAt 11 = .ok (.baload, 1) := by decide +kernel
theorem dX5_predictedAt_12 : decode cX5_predictedAt 12 = .ok (.ifCond .eq 16, 3) := by decide +kernel
theorem dX5_predictedAt_15 : decode cX5_predictedAt 15 = .ok (.aload_n 0, 1) := by decide +kernel
theorem dX5_predictedAt_16 : decode cX5_predictedAt 16 = .ok (.aload_n 0, 1) := by decide +kernel
theorem dX5_predictedAt_17 : decode cX5_predictedAt 17 = .ok (.getfield 7, 3) := by decide +kernel
theorem dX5_predictedAt_20 : decode cX5_predictedAt 20 = .ok (.iload_n 2, 1) := by decide +kernel
theorem dX5_predictedAt_21 : decode cX5_predictedAt 21 = .ok (.iaload, 1) := by decide +kernel
theorem dX5_predictedAt_22 : decode cX5_predictedAt 22 = .ok (.invokevirtual 100, 3) := by decide +kernel
theorem dX5_predictedAt_25 : decode cX5_predictedAt 25 = .ok (.goto 9, 3) := by decide +kernel
theorem dX5_predictedAt_28 : decode cX5_predictedAt 28 = .ok (.aload_n 0, 1) := by decide +kernel
theorem dX5_predictedAt_29 : decode cX5_predictedAt 29 = .ok (.getfield 7, 3) := by decide +kernel
theorem dX5_predictedAt_32 : decode cX5_predictedAt 32 = .ok (.iload_n 2, 1) := by decide +kernel
theorem dX5_predictedAt_33 : decode cX5_predictedAt 33 = .ok (.iaload, 1) := by decide +kernel
theorem dX5_predictedAt_34 : decode cX5_predictedAt 34 = .ok (.ireturn, 1) := by decide +kernel
set_option maxRecDepth 20000 in
theorem ggX5_predictedValue_X5_isNew : GoodIn wsX5_predictedValue wsX5_isNew := goodIn_r _ [7, 8, 9, 10, 6, 11, 29, 30, 31, 32, 33, 34, 35, 36, 37, 38, 39, 40, 41, 42, 43, 44, 45, 46, 47] (by decide +kernel) (by decide +kernel)
set_option maxRecDepth 20000 in
theorem gX5_predictedValue_X5_isNew : GoodIn wsX5_predictedValue (wsV RX5 68 RX5 yX5_isNew wsX5_isNew) := goodIn_app (goodIn_of _ (by decide +kernel)) ggX5_predictedValue_X5_isNew
set_option maxRecDepth 20000 in
theorem ggX5_predictedValue_X5_predictedAt : GoodIn wsX5_predictedValue wsX5_predictedAt := goodIn_r _ [15, 16, 17, 18, 19, 20, 6, 21, 2, 22, 23, 24, 25, 26, 27, 28, 29, 30, 31, 32, 33, 34, 35, 36, 37, 38, 39, 40, 41, 42, 43, 44, 45, 46, 47] (by decide +kernel) (by decide +kernel)
set_option maxRecDepth 20000 in
theorem gX5_predictedValue_X5_predictedAt : GoodIn wsX5_predictedValue (wsV RX5 107 RX5 yX5_predictedAt wsX5_predictedAt) := goodIn_app (goodIn_of _ (by decide +kernel)) ggX5_predictedValue_X5_predictedAt
theorem dX5_predictedValue_0 : decode cX5_predictedValue 0 = .ok (.aload_n 0, 1) := by decide +kernel
theorem dX5_predictedValue_1 : decode cX5_predictedValue 1 = .ok (.getfield 53, 3) := by decide +kernel
theorem dX5_predictedValue_4 : decode cX5_predictedValue 4 = .ok (.ifCond .ne 7, 3) := by decide +kernel
theorem dX5_predictedValue_7 : decode cX5_predictedValue 7 = .ok (.sipush (-10004), 3) := by decide +kernel
theorem dX5_predictedValue_10 : decode cX5_predictedValue 10 = .ok (.ireturn, 1) := by decide +kernel
theorem dX5_predictedValue_11 : decode cX5_predictedValue 11 = .ok (.aload_n 0, 1) := by decide +kernel
theorem dX5_predictedValue_12 : decode cX5_predictedValue 12 = .ok (.iload_n 1, 1) := by decide +kernel
theorem dX5_predictedValue_13 : decode cX5_predictedValue 13 = .ok (.invokevirtual 68, 3) := by decide +kernel
theorem dX5_predictedValue_16 : decode cX5_predictedValue 16 = .ok (.ifCond .ne 7, 3) := by decide +kernel
theorem dX5_predictedValue_19 : decode cX5_predictedValue 19 = .ok (.sipush (-10003), 3) := by decide +kernel
theorem dX5_predictedValue_22 : decode cX5_predictedValue 22 = .ok (.ireturn, 1) := by decide +kernel
theorem dX5_predictedValue_23 : decode cX5_predictedValue 23 = .ok (.aload_n 0, 1) := by decide +kernel
theorem dX5_predictedValue_24 : decode cX5_predictedValue 24 = .ok (.getfield 32, 3) := by decide +kernel
theorem dX5_predictedValue_27 : decode cX5_predictedValue 27 = .ok (.iload_n 1, 1) := by decide +kernel
theorem dX5_predictedValue_28 : decode cX5_predictedValue 28 = .ok (.iaload, 1) := by decide +kernel
theorem dX5_predictedValue_29 : decode cX5_predictedValue 29 = .ok (.sipush (-10005), 3) := by decide +kernel
theorem dX5_predictedValue_32 : decode cX5_predictedValue 32 = .ok (.if_icmp .ne 9, 3) := by decide +kernel
theorem dX5_predictedValue_35 : decode cX5_predictedValue 35 = .ok (.sipush (-10005), 3) := by decide +kernel
theorem dX5_predictedValue_38 : decode cX5_predictedValue 38 = .ok (.goto 8, 3) := by decide +kernel
theorem dX5_predictedValue_41 : decode cX5_predictedValue 41 = .ok (.aload_n 0, 1) := by decide +kernel
theorem dX5_predictedValue_42 : decode cX5_predictedValue 42 = .ok (.iload_n 1, 1) := by decide +kernel
theorem dX5_predictedValue_43 : decode cX5_predictedValue 43 = .ok (.invokevirtual 107, 3) := by decide +kernel
theorem dX5_predictedValue_46 : decode cX5_predictedValue 46 = .ok (.ireturn, 1) := by decide +kernel
set_option maxRecDepth 20000 in
theorem ggX5_isCorrected_X5_predictedAt : GoodIn wsX5_isCorrected wsX5_predictedAt := goodIn_r _ [7, 8, 9, 10, 11, 12, 6, 13, 1, 14, 15, 16, 17, 18, 19, 20, 21, 22, 23, 24, 25, 26, 27, 28, 29, 30, 31, 32, 33, 34, 35, 36, 37, 38, 39] (by decide +kernel) (by decide +kernel)
set_option maxRecDepth 20000 in
theorem gX5_isCorrected_X5_predictedAt : GoodIn wsX5_isCorrected (wsV RX5 107 RX5 yX5_predictedAt wsX5_predictedAt) := goodIn_app (goodIn_of _ (by decide +kernel)) ggX5_isCorrected_X5_predictedAt
theorem dX5_isCorrected_0 : decode cX5_isCorrected 0 = .ok (.aload_n 0, 1) := by decide +kernel
theorem dX5_isCorrected_1 : decode cX5_isCorrected 1 = .ok (.getfield 32, 3) := by decide +kernel
theorem dX5_isCorrected_4 : decode cX5_isCorrected 4 = .ok (.iload_n 1, 1) := by decide +kernel
theorem dX5_isCorrected_5 : decode cX5_isCorrected 5 = .ok (.iaload, 1) := by decide +kernel
theorem dX5_isCorrected_6 : decode cX5_isCorrected 6 = .ok (.sipush (-10005), 3) := by decide +kernel
theorem dX5_isCorrected_9 : decode cX5_isCorrected 9 = .ok (.if_icmp .eq 21, 3) := by decide +kernel
theorem dX5_isCorrected_12 : decode cX5_isCorrected 12 = .ok (.aload_n 0, 1) := by decide +kernel
theorem dX5_isCorrected_13 : decode cX5_isCorrected 13 = .ok (.iload_n 1, 1) := by decide +kernel
theorem dX5_isCorrected_14 : decode cX5_isCorrected 14 = .ok (.invokevirtual 107, 3) := by decide +kernel
theorem dX5_isCorrected_17 : decode cX5_isCorrected 17 = .ok (.aload_n 0, 1) := by decide +kernel
theorem dX5_isCorrected_18 : decode cX5_isCorrected 18 = .ok (.getfield 17, 3) := by decide +kernel
theorem dX5_isCorrected_21 : decode cX5_isCorrected 21 = .ok (.iload_n 1, 1) := by decide +kernel
theorem dX5_isCorrected_22 : decode cX5_isCorrected 22 = .ok (.iaload, 1) := by decide +kernel
theorem dX5_isCorrected_23 : decode cX5_isCorrected 23 = .ok (.if_icmp .eq 7, 3) := by decide +kernel
theorem dX5_isCorrected_26 : decode cX5_isCorrected 26 = .ok (.iconst 1, 1) := by decide +kernel
theorem dX5_isCorrected_27 : decode cX5_isCorrected 27 = .ok (.goto 4, 3) := by decide +kernel
theorem dX5_isCorrected_30 : decode cX5_isCorrected 30 = .ok (.iconst 0, 1) := by decide +kernel
theorem dX5_isCorrected_31 : decode cX5_isCorrected 31 = .ok (.ireturn, 1) := by decide +kernel
set_option maxRecDepth 20000 in
theorem ggX5_corrections_X5_isCorrected : GoodIn wsX5_corrections wsX5_isCorrected := goodIn_r _ [6, 7, 8, 9, 10, 11, 5, 12, 13, 14, 15, 16, 17, 18, 19, 20, 21, 22, 23, 24, 25, 26, 27, 28, 29, 30, 31, 32, 33, 34, 35, 36, 37, 38, 39, 40, 41, 42, 43, 44] (by decide +kernel) (by decide +kernel)
set_option maxRecDepth 20000 in
theorem gX5_corrections_X5_isCorrected : GoodIn wsX5_corrections (wsV RX5 110 RX5 yX5_isCorrected wsX5_isCorrected) := goodIn_app (goodIn_of _ (by decide +kernel)) ggX5_corrections_X5_isCorrected
theorem dX5_corrections_0 : decode cX5_corrections 0 = .ok (.iconst 0, 1) := by decide +kernel
theorem dX5_corrections_1 : decode cX5_corrections 1 = .ok (.istore_n 1, 1) := by decide +kernel
theorem dX5_corrections_2 : decode cX5_corrections 2 = .ok (.iconst 0, 1) := by decide +kernel
theorem dX5_corrections_3 : decode cX5_corrections 3 = .ok (.istore_n 2, 1) := by decide +kernel
theorem dX5_corrections_4 : decode cX5_corrections 4 = .ok (.iload_n 2, 1) := by decide +kernel
theorem dX5_corrections_5 : decode cX5_corrections 5 = .ok (.aload_n 0, 1) := by decide +kernel
theorem dX5_corrections_6 : decode cX5_corrections 6 = .ok (.getfield 57, 3) := by decide +kernel
theorem dX5_corrections_9 : decode cX5_corrections 9 = .ok (.if_icmp .ge 25, 3) := by decide +kernel
theorem dX5_corrections_12 : decode cX5_corrections 12 = .ok (.iload_n 1, 1) := by decide +kernel
theorem dX5_corrections_13 : decode cX5_corrections 13 = .ok (.aload_n 0, 1) := by decide +kernel
theorem dX5_corrections_14 : decode cX5_corrections 14 = .ok (.iload_n 2, 1) := by decide +kernel
theorem dX5_corrections_15 : decode cX5_corrections 15 = .ok (.invokevirtual 110, 3) := by decide +kernel
theorem dX5_corrections_18 : decode cX5_corrections 18 = .ok (.ifCond .eq 7, 3) := by decide +kernel
theorem dX5_corrections_21 : decode cX5_corrections 21 = .ok (.iconst 1, 1) := by decide +kernel
theorem dX5_corrections_22 : decode cX5_corrections 22 = .ok (.goto 4, 3) := by decide +kernel
theorem dX5_corrections_25 : decode cX5_corrections 25 = .ok (.iconst 0, 1) := by decide +kernel
theorem dX5_corrections_26 : decode cX5_corrections 26 = .ok (.iadd, 1) := by decide +kernel
theorem dX5_corrections_27 : decode cX5_corrections 27 = .ok (.istore_n 1, 1) := by decide +kernel
theorem dX5_corrections_28 : decode cX5_corrections 28 = .ok (.iinc 2 1, 3) := by decide +kernel
theorem dX5_corrections_31 : decode cX5_corrections 31 = .ok (.goto (-27), 3) := by decide +kernel
theorem dX5_corrections_34 : decode cX5_corrections 34 = .ok (.iload_n 1, 1) := by decide +kernel
theorem dX5_corrections_35 : decode cX5_corrections 35 = .ok (.ireturn, 1) := by decide +kernel
set_option maxRecDepth 20000 in
theorem ggX5_correctionCount_X5_corrections : GoodIn wsX5_correctionCount wsX5_corrections := goodIn_r _ [6, 7, 8, 9, 10, 5, 11, 12, 13, 14, 15, 16, 17, 18, 19, 20, 21, 22, 23, 24, 25, 26, 27, 28, 29, 30, 31, 32, 33, 34, 35, 36, 37, 38, 39, 40, 41, 42, 43, 44, 45, 46, 47, 48, 49] (by decide +kernel) (by decide +kernel)
set_option maxRecDepth 20000 in
theorem gX5_correctionCount_X5_corrections : GoodIn wsX5_correctionCount (wsV RX5 113 RX5 yX5_corrections wsX5_corrections) := goodIn_app (goodIn_of _ (by decide +kernel)) ggX5_correctionCount_X5_corrections
theorem dX5_correctionCount_0 : decode cX5_correctionCount 0 = .ok (.aload_n 0, 1) := by decide +kernel
theorem dX5_correctionCount_1 : decode cX5_correctionCount 1 = .ok (.getfield 53, 3) := by decide +kernel
theorem dX5_correctionCount_4 : decode cX5_correctionCount 4 = .ok (.ifCond .eq 10, 3) := by decide +kernel
theorem dX5_correctionCount_7 : decode cX5_correctionCount 7 = .ok (.aload_n 0, 1) := by decide +kernel
theorem dX5_correctionCount_8 : decode cX5_correctionCount 8 = .ok (.invokevirtual 113, 3) := by decide +kernel
theorem dX5_correctionCount_11 : decode cX5_correctionCount 11 = .ok (.goto 6, 3) := by decide +kernel
theorem dX5_correctionCount_14 : decode cX5_correctionCount 14 = .ok (.sipush (-10004), 3) := by decide +kernel
theorem dX5_correctionCount_17 : decode cX5_correctionCount 17 = .ok (.ireturn, 1) := by decide +kernel
set_option maxRecDepth 20000 in
theorem ggX5_correctionIndex_X5_isCorrected : GoodIn wsX5_correctionIndex wsX5_isCorrected := goodIn_r _ [7, 8, 9, 10, 11, 12, 6, 13, 14, 15, 16, 17, 18, 19, 20, 21, 22, 23, 24, 25, 26, 27, 28, 29, 30, 31, 32, 33, 34, 35, 36, 37, 38, 39, 40, 41, 42, 43, 44, 45] (by decide +kernel) (by decide +kernel)
set_option maxRecDepth 20000 in
theorem gX5_correctionIndex_X5_isCorrected : GoodIn wsX5_correctionIndex (wsV RX5 110 RX5 yX5_isCorrected wsX5_isCorrected) := goodIn_app (goodIn_of _ (by decide +kernel)) ggX5_correctionIndex_X5_isCorrected
theorem dX5_correctionIndex_0 : decode cX5_correctionIndex 0 = .ok (.aload_n 0, 1) := by decide +kernel
theorem dX5_correctionIndex_1 : decode cX5_correctionIndex 1 = .ok (.getfield 53, 3) := by decide +kernel
theorem dX5_correctionIndex_4 : decode cX5_correctionIndex 4 = .ok (.ifCond .ne 7, 3) := by decide +kernel
theorem dX5_correctionIndex_7 : decode cX5_correctionIndex 7 = .ok (.sipush (-10004), 3) := by decide +kernel
theorem dX5_correctionIndex_10 : decode cX5_correctionIndex 10 = .ok (.ireturn, 1) := by decide +kernel
theorem dX5_correctionIndex_11 : decode cX5_correctionIndex 11 = .ok (.iload_n 1, 1) := by decide +kernel
theorem dX5_correctionIndex_12 : decode cX5_correctionIndex 12 = .ok (.istore_n 2, 1) := by decide +kernel
theorem dX5_correctionIndex_13 : decode cX5_correctionIndex 13 = .ok (.iconst 0, 1) := by decide +kernel
theorem dX5_correctionIndex_14 : decode cX5_correctionIndex 14 = .ok (.istore_n 3, 1) := by decide +kernel
theorem dX5_correctionIndex_15 : decode cX5_correctionIndex 15 = .ok (.iload_n 3, 1) := by decide +kernel
theorem dX5_correctionIndex_16 : decode cX5_correctionIndex 16 = .ok (.aload_n 0, 1) := by decide +kernel
theorem dX5_correctionIndex_17 : decode cX5_correctionIndex 17 = .ok (.getfield 57, 3) := by decide +kernel
theorem dX5_correctionIndex_20 : decode cX5_correctionIndex 20 = .ok (.if_icmp .ge 30, 3) := by decide +kernel
theorem dX5_correctionIndex_23 : decode cX5_correctionIndex 23 = .ok (.iload_n 2, 1) := by decide +kernel
theorem dX5_correctionIndex_24 : decode cX5_correctionIndex 24 = .ok (.ifCond .lt 26, 3) := by decide +kernel
theorem dX5_correctionIndex_27 : decode cX5_correctionIndex 27 = .ok (.aload_n 0, 1) := by decide +kernel
theorem dX5_correctionIndex_28 : decode cX5_correctionIndex 28 = .ok (.iload_n 3, 1) := by decide +kernel
theorem dX5_correctionIndex_29 : decode cX5_correctionIndex 29 = .ok (.invokevirtual 110, 3) := by decide +kernel
theorem dX5_correctionIndex_32 : decode cX5_correctionIndex 32 = .ok (.ifCond .eq 12, 3) := by decide +kernel
theorem dX5_correctionIndex_35 : decode cX5_correctionIndex 35 = .ok (.iload_n 2, 1) := by decide +kernel
theorem dX5_correctionIndex_36 : decode cX5_correctionIndex 36 = .ok (.ifCond .ne 5, 3) := by decide +kernel
theorem dX5_correctionIndex_39 : decode cX5_correctionIndex 39 = .ok (.iload_n 3, 1) := by decide +kernel
theorem dX5_correctionIndex_40 : decode cX5_correctionIndex 40 = .ok (.ireturn, 1) := by decide +kernel
theorem dX5_correctionIndex_41 : decode cX5_correctionIndex 41 = .ok (.iinc 2 (-1), 3) := by decide +kernel
theorem dX5_correctionIndex_44 : decode cX5_correctionIndex 44 = .ok (.iinc 3 1, 3) := by decide +kernel
theorem dX5_correctionIndex_47 : decode cX5_correctionIndex 47 = .ok (.goto (-32), 3) := by decide +kernel
theorem dX5_correctionIndex_50 : decode cX5_correctionIndex 50 = .ok (.sipush (-10003), 3) := by decide +kernel
theorem dX5_correctionIndex_53 : decode cX5_correctionIndex 53 = .ok (.ireturn, 1) := by decide +kernel
theorem dX5_literals_0 : decode cX5_literals 0 = .ok (.iconst 0, 1) := by decide +kernel
theorem dX5_literals_1 : decode cX5_literals 1 = .ok (.istore_n 1, 1) := by decide +kernel
theorem dX5_literals_2 : decode cX5_literals 2 = .ok (.iconst 0, 1) := by decide +kernel
theorem dX5_literals_3 : decode cX5_literals 3 = .ok (.istore_n 2, 1) := by decide +kernel
theorem dX5_literals_4 : decode cX5_literals 4 = .ok (.iload_n 2, 1) := by decide +kernel
theorem dX5_literals_5 : decode cX5_literals 5 = .ok (.aload_n 0, 1) := by decide +kernel
theorem dX5_literals_6 : decode cX5_literals 6 = .ok (.getfield 57, 3) := by decide +kernel
theorem dX5_literals_9 : decode cX5_literals 9 = .ok (.if_icmp .ge 29, 3) := by decide +kernel
theorem dX5_literals_12 : decode cX5_literals 12 = .ok (.iload_n 1, 1) := by decide +kernel
theorem dX5_literals_13 : decode cX5_literals 13 = .ok (.aload_n 0, 1) := by decide +kernel
theorem dX5_literals_14 : decode cX5_literals 14 = .ok (.getfield 32, 3) := by decide +kernel
theorem dX5_literals_17 : decode cX5_literals 17 = .ok (.iload_n 2, 1) := by decide +kernel
theorem dX5_literals_18 : decode cX5_literals 18 = .ok (.iaload, 1) := by decide +kernel
theorem dX5_literals_19 : decode cX5_literals 19 = .ok (.sipush (-10005), 3) := by decide +kernel
theorem dX5_literals_22 : decode cX5_literals 22 = .ok (.if_icmp .ne 7, 3) := by decide +kernel
theorem dX5_literals_25 : decode cX5_literals 25 = .ok (.iconst 1, 1) := by decide +kernel
theorem dX5_literals_26 : decode cX5_literals 26 = .ok (.goto 4, 3) := by decide +kernel
theorem dX5_literals_29 : decode cX5_literals 29 = .ok (.iconst 0, 1) := by decide +kernel
theorem dX5_literals_30 : decode cX5_literals 30 = .ok (.iadd, 1) := by decide +kernel
theorem dX5_literals_31 : decode cX5_literals 31 = .ok (.istore_n 1, 1) := by decide +kernel
theorem dX5_literals_32 : decode cX5_literals 32 = .ok (.iinc 2 1, 3) := by decide +kernel
theorem dX5_literals_35 : decode cX5_literals 35 = .ok (.goto (-31), 3) := by decide +kernel
theorem dX5_literals_38 : decode cX5_literals 38 = .ok (.iload_n 1, 1) := by decide +kernel
theorem dX5_literals_39 : decode cX5_literals 39 = .ok (.ireturn, 1) := by decide +kernel
set_option maxRecDepth 20000 in
theorem ggX5_literalCount_X5_literals : GoodIn wsX5_literalCount wsX5_literals := goodIn_r _ [6, 7, 8, 9, 10, 11, 12, 13, 14, 15, 16, 17, 18, 19, 20, 21, 22, 23, 24, 25, 26, 27] (by decide +kernel) (by decide +kernel)
set_option maxRecDepth 20000 in
theorem gX5_literalCount_X5_literals : GoodIn wsX5_literalCount (wsV RX5 116 RX5 yX5_literals wsX5_literals) := goodIn_app (goodIn_of _ (by decide +kernel)) ggX5_literalCount_X5_literals
theorem dX5_literalCount_0 : decode cX5_literalCount 0 = .ok (.aload_n 0, 1) := by decide +kernel
theorem dX5_literalCount_1 : decode cX5_literalCount 1 = .ok (.getfield 53, 3) := by decide +kernel
theorem dX5_literalCount_4 : decode cX5_literalCount 4 = .ok (.ifCond .eq 10, 3) := by decide +kernel
theorem dX5_literalCount_7 : decode cX5_literalCount 7 = .ok (.aload_n 0, 1) := by decide +kernel
theorem dX5_literalCount_8 : decode cX5_literalCount 8 = .ok (.invokevirtual 116, 3) := by decide +kernel
theorem dX5_literalCount_11 : decode cX5_literalCount 11 = .ok (.goto 6, 3) := by decide +kernel
theorem dX5_literalCount_14 : decode cX5_literalCount 14 = .ok (.sipush (-10004), 3) := by decide +kernel
theorem dX5_literalCount_17 : decode cX5_literalCount 17 = .ok (.ireturn, 1) := by decide +kernel
set_option maxRecDepth 20000 in
theorem ggX5_patchSize_X5_literals : GoodIn wsX5_patchSize wsX5_literals := goodIn_r _ [7, 8, 9, 35, 36, 37, 38, 39, 40, 41, 42, 43, 44, 45, 46, 47, 48, 49, 50, 51, 52, 53] (by decide +kernel) (by decide +kernel)
set_option maxRecDepth 20000 in
theorem gX5_patchSize_X5_literals : GoodIn wsX5_patchSize (wsV RX5 116 RX5 yX5_literals wsX5_literals) := goodIn_app (goodIn_of _ (by decide +kernel)) ggX5_patchSize_X5_literals
set_option maxRecDepth 20000 in
theorem ggX5_patchSize_X5_corrections : GoodIn wsX5_patchSize wsX5_corrections := goodIn_r _ [13, 8, 14, 15, 16, 6, 17, 9, 18, 19, 20, 21, 22, 23, 24, 25, 26, 27, 28, 29, 30, 31, 32, 33, 34, 2, 35, 36, 37, 38, 39, 40, 41, 42, 43, 44, 45, 46, 47, 48, 49, 50, 51, 52, 53] (by decide +kernel) (by decide +kernel)
set_option maxRecDepth 20000 in
theorem gX5_patchSize_X5_corrections : GoodIn wsX5_patchSize (wsV RX5 113 RX5 yX5_corrections wsX5_corrections) := goodIn_app (goodIn_of _ (by decide +kernel)) ggX5_patchSize_X5_corrections
theorem dX5_patchSize_0 : decode cX5_patchSize 0 = .ok (.aload_n 0, 1) := by decide +kernel
theorem dX5_patchSize_1 : decode cX5_patchSize 1 = .ok (.getfield 53, 3) := by decide +kernel
theorem dX5_patchSize_4 : decode cX5_patchSize 4 = .ok (.ifCond .eq 24, 3) := by decide +kernel
theorem dX5_patchSize_7 : decode cX5_patchSize 7 = .ok (.iconst 3, 1) := by decide +kernel
theorem dX5_patchSize_8 : decode cX5_patchSize 8 = .ok (.aload_n 0, 1) := by decide +kernel
theorem dX5_patchSize_9 : decode cX5_patchSize 9 = .ok (.getfield 93, 3) := by decide +kernel
theorem dX5_patchSize_12 : decode cX5_patchSize 12 = .ok (.imul, 1) := by decide +kernel
theorem dX5_patchSize_13 : decode cX5_patchSize 13 = .ok (.aload_n 0, 1) := by decide +kernel
theorem dX5_patchSize_14 : decode cX5_patchSize 14 = .ok (.invokevirtual 116, 3) := by decide +kernel
theorem dX5_patchSize_17 : decode cX5_patchSize 17 = .ok (.iadd, 1) := by decide +kernel
theorem dX5_patchSize_18 : decode cX5_patchSize 18 = .ok (.iconst 2, 1) := by decide +kernel
theorem dX5_patchSize_19 : decode cX5_patchSize 19 = .ok (.aload_n 0, 1) := by decide +kernel
theorem dX5_patchSize_20 : decode cX5_patchSize 20 = .ok (.invokevirtual 113, 3) := by decide +kernel
theorem dX5_patchSize_23 : decode cX5_patchSize 23 = .ok (.imul, 1) := by decide +kernel
theorem dX5_patchSize_24 : decode cX5_patchSize 24 = .ok (.iadd, 1) := by decide +kernel
theorem dX5_patchSize_25 : decode cX5_patchSize 25 = .ok (.goto 6, 3) := by decide +kernel
theorem dX5_patchSize_28 : decode cX5_patchSize 28 = .ok (.sipush (-10004), 3) := by decide +kernel
theorem dX5_patchSize_31 : decode cX5_patchSize 31 = .ok (.ireturn, 1) := by decide +kernel
set_option maxRecDepth 20000 in
theorem ggX5_unpredictedSize_X5_oldIndexOf : GoodIn wsX5_unpredictedSize wsX5_oldIndexOf := goodIn_r _ [11, 3, 12, 13, 18, 19, 20, 21, 22, 23, 24, 25, 26, 27, 28, 29, 30, 31, 32, 33, 34, 35, 36] (by decide +kernel) (by decide +kernel)
set_option maxRecDepth 20000 in
theorem gX5_unpredictedSize_X5_oldIndexOf : GoodIn wsX5_unpredictedSize (wsV RX5 104 RX5 yX5_oldIndexOf wsX5_oldIndexOf) := goodIn_app (goodIn_of _ (by decide +kernel)) ggX5_unpredictedSize_X5_oldIndexOf
set_option maxRecDepth 20000 in
theorem ggX5_unpredictedSize_X5_literals : GoodIn wsX5_unpredictedSize wsX5_literals := goodIn_r _ [17, 2, 3, 18, 19, 20, 21, 22, 23, 24, 25, 26, 27, 28, 29, 30, 31, 32, 33, 34, 35, 36] (by decide +kernel) (by decide +kernel)
set_option maxRecDepth 20000 in
theorem gX5_unpredictedSize_X5_literals : GoodIn wsX5_unpredictedSize (wsV RX5 116 RX5 yX5_literals wsX5_literals) := goodIn_app (goodIn_of _ (by decide +kernel)) ggX5_unpredictedSize_X5_literals
theorem dX5_unpredictedSize_0 : decode cX5_unpredictedSize 0 = .ok (.aload_n 0, 1) := by decide +kernel
theorem dX5_unpredictedSize_1 : decode cX5_unpredictedSize 1 = .ok (.getfield 53, 3) := by decide +kernel
theorem dX5_unpredictedSize_4 : decode cX5_unpredictedSize 4 = .ok (.ifCond .ne 7, 3) := by decide +kernel
theorem dX5_unpredictedSize_7 : decode cX5_unpredictedSize 7 = .ok (.sipush (-10004), 3) := by decide +kernel
theorem dX5_unpredictedSize_10 : decode cX5_unpredictedSize 10 = .ok (.ireturn, 1) := by decide +kernel
theorem dX5_unpredictedSize_11 : decode cX5_unpredictedSize 11 = .ok (.iconst 0, 1) := by decide +kernel
theorem dX5_unpredictedSize_12 : decode cX5_unpredictedSize 12 = .ok (.istore_n 1, 1) := by decide +kernel
theorem dX5_unpredictedSize_13 : decode cX5_unpredictedSize 13 = .ok (.iconst 0, 1) := by decide +kernel
theorem dX5_unpredictedSize_14 : decode cX5_unpredictedSize 14 = .ok (.istore_n 2, 1) := by decide +kernel
theorem dX5_unpredictedSize_15 : decode cX5_unpredictedSize 15 = .ok (.iload_n 2, 1) := by decide +kernel
theorem dX5_unpredictedSize_16 : decode cX5_unpredictedSize 16 = .ok (.aload_n 0, 1) := by decide +kernel
theorem dX5_unpredictedSize_17 : decode cX5_unpredictedSize 17 = .ok (.getfield 57, 3) := by decide +kernel
theorem dX5_unpredictedSize_20 : decode cX5_unpredictedSize 20 = .ok (.if_icmp .ge 48, 3) := by decide +kernel
theorem dX5_unpredictedSize_23 : decode cX5_unpredictedSize 23 = .ok (.iload_n 1, 1) := by decide +kernel
theorem dX5_unpredictedSize_24 : decode cX5_unpredictedSize 24 = .ok (.aload_n 0, 1) := by decide +kernel
theorem dX5_unpredictedSize_25 : decode cX5_unpredictedSize 25 = .ok (.getfield 32, 3) := by decide +kernel
theorem dX5_unpredictedSize_28 : decode cX5_unpredictedSize 28 = .ok (.iload_n 2, 1) := by decide +kernel
theorem dX5_unpredictedSize_29 : decode cX5_unpredictedSize 29 = .ok (.iaload, 1) := by decide +kernel
theorem dX5_unpredictedSize_30 : decode cX5_unpredictedSize 30 = .ok (.sipush (-10005), 3) := by decide +kernel
theorem dX5_unpredictedSize_33 : decode cX5_unpredictedSize 33 = .ok (.if_icmp .eq 26, 3) := by decide +kernel
theorem dX5_unpredictedSize_36 : decode cX5_unpredictedSize 36 = .ok (.aload_n 0, 1) := by decide +kernel
theorem dX5_unpredictedSize_37 : decode cX5_unpredictedSize 37 = .ok (.getfield 7, 3) := by decide +kernel
theorem dX5_unpredictedSize_40 : decode cX5_unpredictedSize 40 = .ok (.aload_n 0, 1) := by decide +kernel
theorem dX5_unpredictedSize_41 : decode cX5_unpredictedSize 41 = .ok (.iload_n 2, 1) := by decide +kernel
theorem dX5_unpredictedSize_42 : decode cX5_unpredictedSize 42 = .ok (.invokevirtual 104, 3) := by decide +kernel
theorem dX5_unpredictedSize_45 : decode cX5_unpredictedSize 45 = .ok (.iaload, 1) := by decide +kernel
theorem dX5_unpredictedSize_46 : decode cX5_unpredictedSize 46 = .ok (.aload_n 0, 1) := by decide +kernel
theorem dX5_unpredictedSize_47 : decode cX5_unpredictedSize 47 = .ok (.getfield 17, 3) := by decide +kernel
theorem dX5_unpredictedSize_50 : decode cX5_unpredictedSize 50 = .ok (.iload_n 2, 1) := by decide +kernel
theorem dX5_unpredictedSize_51 : decode cX5_unpredictedSize 51 = .ok (.iaload, 1) := by decide +kernel
theorem dX5_unpredictedSize_52 : decode cX5_unpredictedSize 52 = .ok (.if_icmp .eq 7, 3) := by decide +kernel
theorem dX5_unpredictedSize_55 : decode cX5_unpredictedSize 55 = .ok (.iconst 1, 1) := by decide +kernel
theorem dX5_unpredictedSize_56 : decode cX5_unpredictedSize 56 = .ok (.goto 4, 3) := by decide +kernel
theorem dX5_unpredictedSize_59 : decode cX5_unpredictedSize 59 = .ok (.iconst 0, 1) := by decide +kernel
theorem dX5_unpredictedSize_60 : decode cX5_unpredictedSize 60 = .ok (.iadd, 1) := by decide +kernel
theorem dX5_unpredictedSize_61 : decode cX5_unpredictedSize 61 = .ok (.istore_n 1, 1) := by decide +kernel
theorem dX5_unpredictedSize_62 : decode cX5_unpredictedSize 62 = .ok (.iinc 2 1, 3) := by decide +kernel
theorem dX5_unpredictedSize_65 : decode cX5_unpredictedSize 65 = .ok (.goto (-50), 3) := by decide +kernel
theorem dX5_unpredictedSize_68 : decode cX5_unpredictedSize 68 = .ok (.iconst 3, 1) := by decide +kernel
theorem dX5_unpredictedSize_69 : decode cX5_unpredictedSize 69 = .ok (.aload_n 0, 1) := by decide +kernel
theorem dX5_unpredictedSize_70 : decode cX5_unpredictedSize 70 = .ok (.getfield 93, 3) := by decide +kernel
theorem dX5_unpredictedSize_73 : decode cX5_unpredictedSize 73 = .ok (.imul, 1) := by decide +kernel
theorem dX5_unpredictedSize_74 : decode cX5_unpredictedSize 74 = .ok (.aload_n 0, 1) := by decide +kernel
theorem dX5_unpredictedSize_75 : decode cX5_unpredictedSize 75 = .ok (.invokevirtual 116, 3) := by decide +kernel
theorem dX5_unpredictedSize_78 : decode cX5_unpredictedSize 78 = .ok (.iadd, 1) := by decide +kernel
theorem dX5_unpredictedSize_79 : decode cX5_unpredictedSize 79 = .ok (.iconst 2, 1) := by decide +kernel
theorem dX5_unpredictedSize_80 : decode cX5_unpredictedSize 80 = .ok (.iload_n 1, 1) := by decide +kernel
theorem dX5_unpredictedSize_81 : decode cX5_unpredictedSize 81 = .ok (.imul, 1) := by decide +kernel
theorem dX5_unpredictedSize_82 : decode cX5_unpredictedSize 82 = .ok (.iadd, 1) := by decide +kernel
theorem dX5_unpredictedSize_83 : decode cX5_unpredictedSize 83 = .ok (.ireturn, 1) := by decide +kernel
theorem dX5_isBefore_0 : decode cX5_isBefore 0 = .ok (.iload_n 1, 1) := by decide +kernel
theorem dX5_isBefore_1 : decode cX5_isBefore 1 = .ok (.iload_n 2, 1) := by decide +kernel
theorem dX5_isBefore_2 : decode cX5_isBefore 2 = .ok (.if_icmp .eq 51, 3) := by decide +kernel
theorem dX5_isBefore_5 : decode cX5_isBefore 5 = .ok (.aload_n 0, 1) := by decide +kernel
theorem dX5_isBefore_6 : decode cX5_isBefore 6 = .ok (.getfield 26, 3) := by decide +kernel
theorem dX5_isBefore_9 : decode cX5_isBefore 9 = .ok (.iload_n 2, 1) := by decide +kernel
theorem dX5_isBefore_10 : decode cX5_isBefore 10 = .ok (.iaload, 1) := by decide +kernel
theorem dX5_isBefore_11 : decode cX5_isBefore 11 = .ok (.aload_n 0, 1) := by decide +kernel
theorem dX5_isBefore_12 : decode cX5_isBefore 12 = .ok (.getfield 23, 3) := by decide +kernel
theorem dX5_isBefore_15 : decode cX5_isBefore 15 = .ok (.iload_n 1, 1) := by decide +kernel
theorem dX5_isBefore_16 : decode cX5_isBefore 16 = .ok (.iaload, 1) := by decide +kernel
theorem dX5_isBefore_17 : decode cX5_isBefore 17 = .ok (.aload_n 0, 1) := by decide +kernel
theorem dX5_isBefore_18 : decode cX5_isBefore 18 = .ok (.getfield 29, 3) := by decide +kernel
theorem dX5_isBefore_21 : decode cX5_isBefore 21 = .ok (.iload_n 1, 1) := by decide +kernel
theorem dX5_isBefore_22 : decode cX5_isBefore 22 = .ok (.iaload, 1) := by decide +kernel
theorem dX5_isBefore_23 : decode cX5_isBefore 23 = .ok (.iadd, 1) := by decide +kernel
theorem dX5_isBefore_24 : decode cX5_isBefore 24 = .ok (.if_icmp .ge 29, 3) := by decide +kernel
theorem dX5_isBefore_27 : decode cX5_isBefore 27 = .ok (.aload_n 0, 1) := by decide +kernel
theorem dX5_isBefore_28 : decode cX5_isBefore 28 = .ok (.getfield 23, 3) := by decide +kernel
theorem dX5_isBefore_31 : decode cX5_isBefore 31 = .ok (.iload_n 1, 1) := by decide +kernel
theorem dX5_isBefore_32 : decode cX5_isBefore 32 = .ok (.iaload, 1) := by decide +kernel
theorem dX5_isBefore_33 : decode cX5_isBefore 33 = .ok (.aload_n 0, 1) := by decide +kernel
theorem dX5_isBefore_34 : decode cX5_isBefore 34 = .ok (.getfield 26, 3) := by decide +kernel
theorem dX5_isBefore_37 : decode cX5_isBefore 37 = .ok (.iload_n 2, 1) := by decide +kernel
theorem dX5_isBefore_38 : decode cX5_isBefore 38 = .ok (.iaload, 1) := by decide +kernel
theorem dX5_isBefore_39 : decode cX5_isBefore 39 = .ok (.aload_n 0, 1) := by decide +kernel
theorem dX5_isBefore_40 : decode cX5_isBefore 40 = .ok (.getfield 29, 3) := by decide +kernel
theorem dX5_isBefore_43 : decode cX5_isBefore 43 = .ok (.iload_n 2, 1) := by decide +kernel
theorem dX5_isBefore_44 : decode cX5_isBefore 44 = .ok (.iaload, 1) := by decide +kernel
theorem dX5_isBefore_45 : decode cX5_isBefore 45 = .ok (.iadd, 1) := by decide +kernel
theorem dX5_isBefore_46 : decode cX5_isBefore 46 = .ok (.if_icmp .ge 7, 3) := by decide +kernel
theorem dX5_isBefore_49 : decode cX5_isBefore 49 = .ok (.iconst 1, 1) := by decide +kernel
theorem dX5_isBefore_50 : decode cX5_isBefore 50 = .ok (.goto 4, 3) := by decide +kernel
theorem dX5_isBefore_53 : decode cX5_isBefore 53 = .ok (.iconst 0, 1) := by decide +kernel
theorem dX5_isBefore_54 : decode cX5_isBefore 54 = .ok (.ireturn, 1) := by decide +kernel
set_option maxRecDepth 20000 in
theorem ggX5_isReady_X5_isBefore : GoodIn wsX5_isReady wsX5_isBefore := goodIn_r _ [7, 8, 9, 10, 11, 12, 13, 14, 15, 16, 17, 18, 19, 20, 21, 22, 23, 24, 25, 26, 27, 28, 29] (by decide +kernel) (by decide +kernel)
set_option maxRecDepth 20000 in
theorem gX5_isReady_X5_isBefore : GoodIn wsX5_isReady (wsV RX5 119 RX5 yX5_isBefore wsX5_isBefore) := goodIn_app (goodIn_of _ (by decide +kernel)) ggX5_isReady_X5_isBefore
theorem dX5_isReady_0 : decode cX5_isReady 0 = .ok (.iconst 0, 1) := by decide +kernel
theorem dX5_isReady_1 : decode cX5_isReady 1 = .ok (.istore_n 2, 1) := by decide +kernel
theorem dX5_isReady_2 : decode cX5_isReady 2 = .ok (.iload_n 2, 1) := by decide +kernel
theorem dX5_isReady_3 : decode cX5_isReady 3 = .ok (.aload_n 0, 1) := by decide +kernel
theorem dX5_isReady_4 : decode cX5_isReady 4 = .ok (.getfield 93, 3) := by decide +kernel
theorem dX5_isReady_7 : decode cX5_isReady 7 = .ok (.if_icmp .ge 29, 3) := by decide +kernel
theorem dX5_isReady_10 : decode cX5_isReady 10 = .ok (.aload_n 0, 1) := by decide +kernel
theorem dX5_isReady_11 : decode cX5_isReady 11 = .ok (.getfield 44, 3) := by decide +kernel
theorem dX5_isReady_14 : decode cX5_isReady 14 = .ok (.iload_n 2, 1) := by decide +kernel
theorem dX5_isReady_15 : decode cX5_isReady 15 = .ok (.iaload, 1) := by decide +kernel
theorem dX5_isReady_16 : decode cX5_isReady 16 = .ok (.ifCond .ne 14, 3) := by decide +kernel
theorem dX5_isReady_19 : decode cX5_isReady 19 = .ok (.aload_n 0, 1) := by decide +kernel
theorem dX5_isReady_20 : decode cX5_isReady 20 = .ok (.iload_n 2, 1) := by decide +kernel
theorem dX5_isReady_21 : decode cX5_isReady 21 = .ok (.iload_n 1, 1) := by decide +kernel
theorem dX5_isReady_22 : decode cX5_isReady 22 = .ok (.invokevirtual 119, 3) := by decide +kernel
theorem dX5_isReady_25 : decode cX5_isReady 25 = .ok (.ifCond .eq 5, 3) := by decide +kernel
theorem dX5_isReady_28 : decode cX5_isReady 28 = .ok (.iconst 0, 1) := by decide +kernel
theorem dX5_isReady_29 : decode cX5_isReady 29 = .ok (.ireturn, 1) := by decide +kernel
theorem dX5_isReady_30 : decode cX5_isReady 30 = .ok (.iinc 2 1, 3) := by decide +kernel
theorem dX5_isReady_33 : decode cX5_isReady 33 = .ok (.goto (-31), 3) := by decide +kernel
theorem dX5_isReady_36 : decode cX5_isReady 36 = .ok (.iconst 1, 1) := by decide +kernel
theorem dX5_isReady_37 : decode cX5_isReady 37 = .ok (.ireturn, 1) := by decide +kernel
set_option maxRecDepth 20000 in
theorem ggX5_firstReady_X5_isReady : GoodIn wsX5_firstReady wsX5_isReady := goodIn_r _ [7, 1, 2, 8, 9, 10, 6, 11, 12, 13, 14, 15, 16, 17, 18, 19, 20, 21, 22, 23, 24, 25, 26, 27, 28, 29, 30, 31, 32, 33] (by decide +kernel) (by decide +kernel)
set_option maxRecDepth 20000 in
theorem gX5_firstReady_X5_isReady : GoodIn wsX5_firstReady (wsV RX5 122 RX5 yX5_isReady wsX5_isReady) := goodIn_app (goodIn_of _ (by decide +kernel)) ggX5_firstReady_X5_isReady
theorem dX5_firstReady_0 : decode cX5_firstReady 0 = .ok (.iconst 0, 1) := by decide +kernel
theorem dX5_firstReady_1 : decode cX5_firstReady 1 = .ok (.istore_n 1, 1) := by decide +kernel
theorem dX5_firstReady_2 : decode cX5_firstReady 2 = .ok (.iload_n 1, 1) := by decide +kernel
theorem dX5_firstReady_3 : decode cX5_firstReady 3 = .ok (.aload_n 0, 1) := by decide +kernel
theorem dX5_firstReady_4 : decode cX5_firstReady 4 = .ok (.getfield 93, 3) := by decide +kernel
theorem dX5_firstReady_7 : decode cX5_firstReady 7 = .ok (.if_icmp .ge 28, 3) := by decide +kernel
theorem dX5_firstReady_10 : decode cX5_firstReady 10 = .ok (.aload_n 0, 1) := by decide +kernel
theorem dX5_firstReady_11 : decode cX5_firstReady 11 = .ok (.getfield 44, 3) := by decide +kernel
theorem dX5_firstReady_14 : decode cX5_firstReady 14 = .ok (.iload_n 1, 1) := by decide +kernel
theorem dX5_firstReady_15 : decode cX5_firstReady 15 = .ok (.iaload, 1) := by decide +kernel
theorem dX5_firstReady_16 : decode cX5_firstReady 16 = .ok (.ifCond .ne 13, 3) := by decide +kernel
theorem dX5_firstReady_19 : decode cX5_firstReady 19 = .ok (.aload_n 0, 1) := by decide +kernel
theorem dX5_firstReady_20 : decode cX5_firstReady 20 = .ok (.iload_n 1, 1) := by decide +kernel
theorem dX5_firstReady_21 : decode cX5_firstReady 21 = .ok (.invokevirtual 122, 3) := by decide +kernel
theorem dX5_firstReady_24 : decode cX5_firstReady 24 = .ok (.ifCond .eq 5, 3) := by decide +kernel
theorem dX5_firstReady_27 : decode cX5_firstReady 27 = .ok (.iload_n 1, 1) := by decide +kernel
theorem dX5_firstReady_28 : decode cX5_firstReady 28 = .ok (.ireturn, 1) := by decide +kernel
theorem dX5_firstReady_29 : decode cX5_firstReady 29 = .ok (.iinc 1 1, 3) := by decide +kernel
theorem dX5_firstReady_32 : decode cX5_firstReady 32 = .ok (.goto (-30), 3) := by decide +kernel
theorem dX5_firstReady_35 : decode cX5_firstReady 35 = .ok (.sipush (-10005), 3) := by decide +kernel
theorem dX5_firstReady_38 : decode cX5_firstReady 38 = .ok (.ireturn, 1) := by decide +kernel
theorem dX5_shortest_0 : decode cX5_shortest 0 = .ok (.sipush (-10005), 3) := by decide +kernel
theorem dX5_shortest_3 : decode cX5_shortest 3 = .ok (.istore_n 1, 1) := by decide +kernel
theorem dX5_shortest_4 : decode cX5_shortest 4 = .ok (.iconst 0, 1) := by decide +kernel
theorem dX5_shortest_5 : decode cX5_shortest 5 = .ok (.istore_n 2, 1) := by decide +kernel
theorem dX5_shortest_6 : decode cX5_shortest 6 = .ok (.iload_n 2, 1) := by decide +kernel
theorem dX5_shortest_7 : decode cX5_shortest 7 = .ok (.aload_n 0, 1) := by decide +kernel
theorem dX5_shortest_8 : decode cX5_shortest 8 = .ok (.getfield 93, 3) := by decide +kernel
theorem dX5_shortest_11 : decode cX5_shortest 11 = .ok (.if_icmp .ge 46, 3) := by decide +kernel
theorem dX5_shortest_14 : decode cX5_shortest 14 = .ok (.aload_n 0, 1) := by decide +kernel
theorem dX5_shortest_15 : decode cX5_shortest 15 = .ok (.getfield 44, 3) := by decide +kernel
theorem dX5_shortest_18 : decode cX5_shortest 18 = .ok (.iload_n 2, 1) := by decide +kernel
theorem dX5_shortest_19 : decode cX5_shortest 19 = .ok (.iaload, 1) := by decide +kernel
theorem dX5_shortest_20 : decode cX5_shortest 20 = .ok (.ifCond .ne 29, 3) := by decide +kernel
theorem dX5_shortest_23 : decode cX5_shortest 23 = .ok (.iload_n 1, 1) := by decide +kernel
theorem dX5_shortest_24 : decode cX5_shortest 24 = .ok (.sipush (-10005), 3) := by decide +kernel
theorem dX5_shortest_27 : decode cX5_shortest 27 = .ok (.if_icmp .eq 18, 3) := by decide +kernel
theorem dX5_shortest_30 : decode cX5_shortest 30 = .ok (.aload_n 0, 1) := by decide +kernel
theorem dX5_shortest_31 : decode cX5_shortest 31 = .ok (.getfield 29, 3) := by decide +kernel
theorem dX5_shortest_34 : decode cX5_shortest 34 = .ok (.iload_n 2, 1) := by decide +kernel
theorem dX5_shortest_35 : decode cX5_shortest 35 = .ok (.iaload, 1) := by decide +kernel
theorem dX5_shortest_36 : decode cX5_shortest 36 = .ok (.aload_n 0, 1) := by decide +kernel
theorem dX5_shortest_37 : decode cX5_shortest 37 = .ok (.getfield 29, 3) := by decide +kernel
theorem dX5_shortest_40 : decode cX5_shortest 40 = .ok (.iload_n 1, 1) := by decide +kernel
theorem dX5_shortest_41 : decode cX5_shortest 41 = .ok (.iaload, 1) := by decide +kernel
theorem dX5_shortest_42 : decode cX5_shortest 42 = .ok (.if_icmp .ge 7, 3) := by decide +kernel
theorem dX5_shortest_45 : decode cX5_shortest 45 = .ok (.iload_n 2, 1) := by decide +kernel
theorem dX5_shortest_46 : decode cX5_shortest 46 = .ok (.goto 4, 3) := by decide +kernel
theorem dX5_shortest_49 : decode cX5_shortest 49 = .ok (.iload_n 1, 1) := by decide +kernel
theorem dX5_shortest_50 : decode cX5_shortest 50 = .ok (.istore_n 1, 1) := by decide +kernel
theorem dX5_shortest_51 : decode cX5_shortest 51 = .ok (.iinc 2 1, 3) := by decide +kernel
theorem dX5_shortest_54 : decode cX5_shortest 54 = .ok (.goto (-48), 3) := by decide +kernel
theorem dX5_shortest_57 : decode cX5_shortest 57 = .ok (.iload_n 1, 1) := by decide +kernel
theorem dX5_shortest_58 : decode cX5_shortest 58 = .ok (.ireturn, 1) := by decide +kernel
set_option maxRecDepth 20000 in
theorem ggX5_orders_X5_firstReady : GoodIn wsX5_orders wsX5_firstReady := goodIn_r _ [9, 2, 3, 10, 11, 12, 8, 13, 14, 15, 16, 17, 18, 19, 20, 25, 26, 27, 28, 29, 30, 31, 32, 33, 34, 35, 36, 37, 38, 39, 40, 41, 42, 43] (by decide +kernel) (by decide +kernel)
set_option maxRecDepth 20000 in
theorem gX5_orders_X5_firstReady : GoodIn wsX5_orders (wsV RX5 128 RX5 yX5_firstReady wsX5_firstReady) := goodIn_app (goodIn_of _ (by decide +kernel)) ggX5_orders_X5_firstReady
set_option maxRecDepth 20000 in
theorem ggX5_orders_X5_shortest : GoodIn wsX5_orders wsX5_shortest := goodIn_r _ [24, 2, 3, 20, 25, 26, 27, 28, 29, 30, 31, 32, 33, 34, 35, 36, 37, 38, 39, 40, 41, 42, 43] (by decide +kernel) (by decide +kernel)
set_option maxRecDepth 20000 in
theorem gX5_orders_X5_shortest : GoodIn wsX5_orders (wsV RX5 131 RX5 yX5_shortest wsX5_shortest) := goodIn_app (goodIn_of _ (by decide +kernel)) ggX5_orders_X5_shortest
theorem dX5_orders_0 : decode cX5_orders 0 = .ok (.aload_n 0, 1) := by decide +kernel
theorem dX5_orders_1 : decode cX5_orders 1 = .ok (.iconst 0, 1) := by decide +kernel
theorem dX5_orders_2 : decode cX5_orders 2 = .ok (.putfield 125, 3) := by decide +kernel
theorem dX5_orders_5 : decode cX5_orders 5 = .ok (.iconst 0, 1) := by decide +kernel
theorem dX5_orders_6 : decode cX5_orders 6 = .ok (.istore_n 1, 1) := by decide +kernel
theorem dX5_orders_7 : decode cX5_orders 7 = .ok (.iload_n 1, 1) := by decide +kernel
theorem dX5_orders_8 : decode cX5_orders 8 = .ok (.aload_n 0, 1) := by decide +kernel
theorem dX5_orders_9 : decode cX5_orders 9 = .ok (.getfield 93, 3) := by decide +kernel
theorem dX5_orders_12 : decode cX5_orders 12 = .ok (.if_icmp .ge 16, 3) := by decide +kernel
theorem dX5_orders_15 : decode cX5_orders 15 = .ok (.aload_n 0, 1) := by decide +kernel
theorem dX5_orders_16 : decode cX5_orders 16 = .ok (.getfield 44, 3) := by decide +kernel
theorem dX5_orders_19 : decode cX5_orders 19 = .ok (.iload_n 1, 1) := by decide +kernel
theorem dX5_orders_20 : decode cX5_orders 20 = .ok (.iconst 0, 1) := by decide +kernel
theorem dX5_orders_21 : decode cX5_orders 21 = .ok (.iastore, 1) := by decide +kernel
theorem dX5_orders_22 : decode cX5_orders 22 = .ok (.iinc 1 1, 3) := by decide +kernel
theorem dX5_orders_25 : decode cX5_orders 25 = .ok (.goto (-18), 3) := by decide +kernel
theorem dX5_orders_28 : decode cX5_orders 28 = .ok (.iconst 0, 1) := by decide +kernel
theorem dX5_orders_29 : decode cX5_orders 29 = .ok (.istore_n 1, 1) := by decide +kernel
theorem dX5_orders_30 : decode cX5_orders 30 = .ok (.iload_n 1, 1) := by decide +kernel
theorem dX5_orders_31 : decode cX5_orders 31 = .ok (.aload_n 0, 1) := by decide +kernel
theorem dX5_orders_32 : decode cX5_orders 32 = .ok (.getfield 93, 3) := by decide +kernel
theorem dX5_orders_35 : decode cX5_orders 35 = .ok (.if_icmp .ge 61, 3) := by decide +kernel
theorem dX5_orders_38 : decode cX5_orders 38 = .ok (.aload_n 0, 1) := by decide +kernel
theorem dX5_orders_39 : decode cX5_orders 39 = .ok (.invokevirtual 128, 3) := by decide +kernel
theorem dX5_orders_42 : decode cX5_orders 42 = .ok (.istore_n 2, 1) := by decide +kernel
theorem dX5_orders_43 : decode cX5_orders 43 = .ok (.iload_n 2, 1) := by decide +kernel
theorem dX5_orders_44 : decode cX5_orders 44 = .ok (.sipush (-10005), 3) := by decide +kernel
theorem dX5_orders_47 : decode cX5_orders 47 = .ok (.if_icmp .ne 16, 3) := by decide +kernel
theorem dX5_orders_50 : decode cX5_orders 50 = .ok (.aload_n 0, 1) := by decide +kernel
theorem dX5_orders_51 : decode cX5_orders 51 = .ok (.getfield 44, 3) := by decide +kernel
theorem dX5_orders_54 : decode cX5_orders 54 = .ok (.aload_n 0, 1) := by decide +kernel
theorem dX5_orders_55 : decode cX5_orders 55 = .ok (.invokevirtual 131, 3) := by decide +kernel
theorem dX5_orders_58 : decode cX5_orders 58 = .ok (.iconst 2, 1) := by decide +kernel
theorem dX5_orders_59 : decode cX5_orders 59 = .ok (.iastore, 1) := by decide +kernel
theorem dX5_orders_60 : decode cX5_orders 60 = .ok (.goto 30, 3) := by decide +kernel
theorem dX5_orders_63 : decode cX5_orders 63 = .ok (.aload_n 0, 1) := by decide +kernel
theorem dX5_orders_64 : decode cX5_orders 64 = .ok (.getfield 44, 3) := by decide +kernel
theorem dX5_orders_67 : decode cX5_orders 67 = .ok (.iload_n 2, 1) := by decide +kernel
theorem dX5_orders_68 : decode cX5_orders 68 = .ok (.iconst 1, 1) := by decide +kernel
theorem dX5_orders_69 : decode cX5_orders 69 = .ok (.iastore, 1) := by decide +kernel
theorem dX5_orders_70 : decode cX5_orders 70 = .ok (.aload_n 0, 1) := by decide +kernel
theorem dX5_orders_71 : decode cX5_orders 71 = .ok (.getfield 41, 3) := by decide +kernel
theorem dX5_orders_74 : decode cX5_orders 74 = .ok (.aload_n 0, 1) := by decide +kernel
theorem dX5_orders_75 : decode cX5_orders 75 = .ok (.getfield 125, 3) := by decide +kernel
theorem dX5_orders_78 : decode cX5_orders 78 = .ok (.iload_n 2, 1) := by decide +kernel
theorem dX5_orders_79 : decode cX5_orders 79 = .ok (.iastore, 1) := by decide +kernel
theorem dX5_orders_80 : decode cX5_orders 80 = .ok (.aload_n 0, 1) := by decide +kernel
theorem dX5_orders_81 : decode cX5_orders 81 = .ok (.dup, 1) := by decide +kernel
theorem dX5_orders_82 : decode cX5_orders 82 = .ok (.getfield 125, 3) := by decide +kernel
theorem dX5_orders_85 : decode cX5_orders 85 = .ok (.iconst 1, 1) := by decide +kernel
theorem dX5_orders_86 : decode cX5_orders 86 = .ok (.iadd, 1) := by decide +kernel
theorem dX5_orders_87 : decode cX5_orders 87 = .ok (.putfield 125, 3) := by decide +kernel
theorem dX5_orders_90 : decode cX5_orders 90 = .ok (.iinc 1 1, 3) := by decide +kernel
theorem dX5_orders_93 : decode cX5_orders 93 = .ok (.goto (-63), 3) := by decide +kernel
theorem dX5_orders_96 : decode cX5_orders 96 = .ok (.return_, 1) := by decide +kernel
theorem dX5_copyCount_0 : decode cX5_copyCount 0 = .ok (.aload_n 0, 1) := by decide +kernel
theorem dX5_copyCount_1 : decode cX5_copyCount 1 = .ok (.getfield 53, 3) := by decide +kernel
theorem dX5_copyCount_4 : decode cX5_copyCount 4 = .ok (.ifCond .eq 10, 3) := by decide +kernel
theorem dX5_copyCount_7 : decode cX5_copyCount 7 = .ok (.aload_n 0, 1) := by decide +kernel
theorem dX5_copyCount_8 : decode cX5_copyCount 8 = .ok (.getfield 125, 3) := by decide +kernel
theorem dX5_copyCount_11 : decode cX5_copyCount 11 = .ok (.goto 6, 3) := by decide +kernel
theorem dX5_copyCount_14 : decode cX5_copyCount 14 = .ok (.sipush (-10004), 3) := by decide +kernel
theorem dX5_copyCount_17 : decode cX5_copyCount 17 = .ok (.ireturn, 1) := by decide +kernel
set_option maxRecDepth 20000 in
theorem ggX5_copyStep_X5_within : GoodIn wsX5_copyStep wsX5_within := goodIn_r _ [7] (by decide +kernel) (by decide +kernel)
set_option maxRecDepth 20000 in
theorem gX5_copyStep_X5_within : GoodIn wsX5_copyStep (va_wsS RX5 61 yX5_within wsX5_within) := goodIn_app (goodIn_of _ (by decide +kernel)) ggX5_copyStep_X5_within
theorem dX5_copyStep_0 : decode cX5_copyStep 0 = .ok (.aload_n 0, 1) := by decide +kernel
theorem dX5_copyStep_1 : decode cX5_copyStep 1 = .ok (.getfield 53, 3) := by decide +kernel
theorem dX5_copyStep_4 : decode cX5_copyStep 4 = .ok (.ifCond .ne 7, 3) := by decide +kernel
theorem dX5_copyStep_7 : decode cX5_copyStep 7 = .ok (.sipush (-10004), 3) := by decide +kernel
theorem dX5_copyStep_10 : decode cX5_copyStep 10 = .ok (.ireturn, 1) := by decide +kernel
theorem dX5_copyStep_11 : decode cX5_copyStep 11 = .ok (.iload_n 1, 1) := by decide +kernel
theorem dX5_copyStep_12 : decode cX5_copyStep 12 = .ok (.iconst 0, 1) := by decide +kernel
theorem dX5_copyStep_13 : decode cX5_copyStep 13 = .ok (.aload_n 0, 1) := by decide +kernel
theorem dX5_copyStep_14 : decode cX5_copyStep 14 = .ok (.getfield 125, 3) := by decide +kernel
theorem dX5_copyStep_17 : decode cX5_copyStep 17 = .ok (.iconst 1, 1) := by decide +kernel
theorem dX5_copyStep_18 : decode cX5_copyStep 18 = .ok (.isub, 1) := by decide +kernel
theorem dX5_copyStep_19 : decode cX5_copyStep 19 = .ok (.invokestatic 61, 3) := by decide +kernel
theorem dX5_copyStep_22 : decode cX5_copyStep 22 = .ok (.ifCond .eq 12, 3) := by decide +kernel
theorem dX5_copyStep_25 : decode cX5_copyStep 25 = .ok (.aload_n 0, 1) := by decide +kernel
theorem dX5_copyStep_26 : decode cX5_copyStep 26 = .ok (.getfield 41, 3) := by decide +kernel
theorem dX5_copyStep_29 : decode cX5_copyStep 29 = .ok (.iload_n 1, 1) := by decide +kernel
theorem dX5_copyStep_30 : decode cX5_copyStep 30 = .ok (.iaload, 1) := by decide +kernel
theorem dX5_copyStep_31 : decode cX5_copyStep 31 = .ok (.goto 6, 3) := by decide +kernel
theorem dX5_copyStep_34 : decode cX5_copyStep 34 = .ok (.sipush (-10003), 3) := by decide +kernel
theorem dX5_copyStep_37 : decode cX5_copyStep 37 = .ok (.ireturn, 1) := by decide +kernel
set_option maxRecDepth 20000 in
theorem ggX5_isDropped_X5_within : GoodIn wsX5_isDropped wsX5_within := goodIn_r _ [7] (by decide +kernel) (by decide +kernel)
set_option maxRecDepth 20000 in
theorem gX5_isDropped_X5_within : GoodIn wsX5_isDropped (va_wsS RX5 61 yX5_within wsX5_within) := goodIn_app (goodIn_of _ (by decide +kernel)) ggX5_isDropped_X5_within
theorem dX5_isDropped_0 : decode cX5_isDropped 0 = .ok (.aload_n 0, 1) := by decide +kernel
theorem dX5_isDropped_1 : decode cX5_isDropped 1 = .ok (.getfield 53, 3) := by decide +kernel
theorem dX5_isDropped_4 : decode cX5_isDropped 4 = .ok (.ifCond .ne 7, 3) := by decide +kernel
theorem dX5_isDropped_7 : decode cX5_isDropped 7 = .ok (.sipush (-10004), 3) := by decide +kernel
theorem dX5_isDropped_10 : decode cX5_isDropped 10 = .ok (.ireturn, 1) := by decide +kernel
theorem dX5_isDropped_11 : decode cX5_isDropped 11 = .ok (.iload_n 1, 1) := by decide +kernel
theorem dX5_isDropped_12 : decode cX5_isDropped 12 = .ok (.iconst 0, 1) := by decide +kernel
theorem dX5_isDropped_13 : decode cX5_isDropped 13 = .ok (.aload_n 0, 1) := by decide +kernel
theorem dX5_isDropped_14 : decode cX5_isDropped 14 = .ok (.getfield 93, 3) := by decide +kernel
theorem dX5_isDropped_17 : decode cX5_isDropped 17 = .ok (.iconst 1, 1) := by decide +kernel
theorem dX5_isDropped_18 : decode cX5_isDropped 18 = .ok (.isub, 1) := by decide +kernel
theorem dX5_isDropped_19 : decode cX5_isDropped 19 = .ok (.invokestatic 61, 3) := by decide +kernel
theorem dX5_isDropped_22 : decode cX5_isDropped 22 = .ok (.ifCond .ne 7, 3) := by decide +kernel
theorem dX5_isDropped_25 : decode cX5_isDropped 25 = .ok (.sipush (-10003), 3) := by decide +kernel
theorem dX5_isDropped_28 : decode cX5_isDropped 28 = .ok (.ireturn, 1) := by decide +kernel
theorem dX5_isDropped_29 : decode cX5_isDropped 29 = .ok (.aload_n 0, 1) := by decide +kernel
theorem dX5_isDropped_30 : decode cX5_isDropped 30 = .ok (.getfield 44, 3) := by decide +kernel
theorem dX5_isDropped_33 : decode cX5_isDropped 33 = .ok (.iload_n 1, 1) := by decide +kernel
theorem dX5_isDropped_34 : decode cX5_isDropped 34 = .ok (.iaload, 1) := by decide +kernel
theorem dX5_isDropped_35 : decode cX5_isDropped 35 = .ok (.iconst 2, 1) := by decide +kernel
theorem dX5_isDropped_36 : decode cX5_isDropped 36 = .ok (.if_icmp .ne 7, 3) := by decide +kernel
theorem dX5_isDropped_39 : decode cX5_isDropped 39 = .ok (.iconst 1, 1) := by decide +kernel
theorem dX5_isDropped_40 : decode cX5_isDropped 40 = .ok (.goto 4, 3) := by decide +kernel
theorem dX5_isDropped_43 : decode cX5_isDropped 43 = .ok (.iconst 0, 1) := by decide +kernel
theorem dX5_isDropped_44 : decode cX5_isDropped 44 = .ok (.ireturn, 1) := by decide +kernel
theorem dX5_isCopied_0 : decode cX5_isCopied 0 = .ok (.aload_n 0, 1) := by decide +kernel
theorem dX5_isCopied_1 : decode cX5_isCopied 1 = .ok (.getfield 32, 3) := by decide +kernel
theorem dX5_isCopied_4 : decode cX5_isCopied 4 = .ok (.iload_n 1, 1) := by decide +kernel
theorem dX5_isCopied_5 : decode cX5_isCopied 5 = .ok (.iaload, 1) := by decide +kernel
theorem dX5_isCopied_6 : decode cX5_isCopied 6 = .ok (.sipush (-10005), 3) := by decide +kernel
theorem dX5_isCopied_9 : decode cX5_isCopied 9 = .ok (.if_icmp .eq 22, 3) := by decide +kernel
theorem dX5_isCopied_12 : decode cX5_isCopied 12 = .ok (.aload_n 0, 1) := by decide +kernel
theorem dX5_isCopied_13 : decode cX5_isCopied 13 = .ok (.getfield 44, 3) := by decide +kernel
theorem dX5_isCopied_16 : decode cX5_isCopied 16 = .ok (.aload_n 0, 1) := by decide +kernel
theorem dX5_isCopied_17 : decode cX5_isCopied 17 = .ok (.getfield 32, 3) := by decide +kernel
theorem dX5_isCopied_20 : decode cX5_isCopied 20 = .ok (.iload_n 1, 1) := by decide +kernel
theorem dX5_isCopied_21 : decode cX5_isCopied 21 = .ok (.iaload, 1) := by decide +kernel
theorem dX5_isCopied_22 : decode cX5_isCopied 22 = .ok (.iaload, 1) := by decide +kernel
theorem dX5_isCopied_23 : decode cX5_isCopied 23 = .ok (.iconst 1, 1) := by decide +kernel
theorem dX5_isCopied_24 : decode cX5_isCopied 24 = .ok (.if_icmp .ne 7, 3) := by decide +kernel
theorem dX5_isCopied_27 : decode cX5_isCopied 27 = .ok (.iconst 1, 1) := by decide +kernel
theorem dX5_isCopied_28 : decode cX5_isCopied 28 = .ok (.goto 4, 3) := by decide +kernel
theorem dX5_isCopied_31 : decode cX5_isCopied 31 = .ok (.iconst 0, 1) := by decide +kernel
theorem dX5_isCopied_32 : decode cX5_isCopied 32 = .ok (.ireturn, 1) := by decide +kernel
set_option maxRecDepth 20000 in
theorem ggX5_inPlaceSize_X5_isCopied : GoodIn wsX5_inPlaceSize wsX5_isCopied := goodIn_r _ [8, 9, 10, 33, 34, 35, 36, 37, 38, 39, 40, 41, 42, 43, 44, 45, 46, 47, 48, 49, 50, 51] (by decide +kernel) (by decide +kernel)
set_option maxRecDepth 20000 in
theorem gX5_inPlaceSize_X5_isCopied : GoodIn wsX5_inPlaceSize (wsV RX5 134 RX5 yX5_isCopied wsX5_isCopied) := goodIn_app (goodIn_of _ (by decide +kernel)) ggX5_inPlaceSize_X5_isCopied
set_option maxRecDepth 20000 in
theorem ggX5_inPlaceSize_X5_isCorrected : GoodIn wsX5_inPlaceSize wsX5_isCorrected := goodIn_r _ [14, 9, 15, 16, 17, 18, 7, 19, 20, 21, 22, 23, 24, 25, 26, 27, 28, 29, 30, 31, 32, 33, 34, 35, 36, 37, 38, 39, 40, 41, 42, 43, 44, 45, 46, 47, 48, 49, 50, 51] (by decide +kernel) (by decide +kernel)
set_option maxRecDepth 20000 in
theorem gX5_inPlaceSize_X5_isCorrected : GoodIn wsX5_inPlaceSize (wsV RX5 110 RX5 yX5_isCorrected wsX5_isCorrected) := goodIn_app (goodIn_of _ (by decide +kernel)) ggX5_inPlaceSize_X5_isCorrected
theorem dX5_inPlaceSize_0 : decode cX5_inPlaceSize 0 = .ok (.aload_n 0, 1) := by decide +kernel
