theorem dX5_inPlaceSize_1 : decode cX5_inPlaceSize 1 = .ok (.getfield 53, 3) := by decide +kernel
theorem dX5_inPlaceSize_4 : decode cX5_inPlaceSize 4 = .ok (.ifCond .ne 7, 3) := by decide +kernel
theorem dX5_inPlaceSize_7 : decode cX5_inPlaceSize 7 = .ok (.sipush (-10004), 3) := by decide +kernel
theorem dX5_inPlaceSize_10 : decode cX5_inPlaceSize 10 = .ok (.ireturn, 1) := by decide +kernel
theorem dX5_inPlaceSize_11 : decode cX5_inPlaceSize 11 = .ok (.iconst 3, 1) := by decide +kernel
theorem dX5_inPlaceSize_12 : decode cX5_inPlaceSize 12 = .ok (.aload_n 0, 1) := by decide +kernel
theorem dX5_inPlaceSize_13 : decode cX5_inPlaceSize 13 = .ok (.getfield 125, 3) := by decide +kernel
theorem dX5_inPlaceSize_16 : decode cX5_inPlaceSize 16 = .ok (.imul, 1) := by decide +kernel
theorem dX5_inPlaceSize_17 : decode cX5_inPlaceSize 17 = .ok (.istore_n 1, 1) := by decide +kernel
theorem dX5_inPlaceSize_18 : decode cX5_inPlaceSize 18 = .ok (.iconst 0, 1) := by decide +kernel
theorem dX5_inPlaceSize_19 : decode cX5_inPlaceSize 19 = .ok (.istore_n 2, 1) := by decide +kernel
theorem dX5_inPlaceSize_20 : decode cX5_inPlaceSize 20 = .ok (.iload_n 2, 1) := by decide +kernel
theorem dX5_inPlaceSize_21 : decode cX5_inPlaceSize 21 = .ok (.aload_n 0, 1) := by decide +kernel
theorem dX5_inPlaceSize_22 : decode cX5_inPlaceSize 22 = .ok (.getfield 57, 3) := by decide +kernel
theorem dX5_inPlaceSize_25 : decode cX5_inPlaceSize 25 = .ok (.if_icmp .ge 37, 3) := by decide +kernel
theorem dX5_inPlaceSize_28 : decode cX5_inPlaceSize 28 = .ok (.iload_n 1, 1) := by decide +kernel
theorem dX5_inPlaceSize_29 : decode cX5_inPlaceSize 29 = .ok (.aload_n 0, 1) := by decide +kernel
theorem dX5_inPlaceSize_30 : decode cX5_inPlaceSize 30 = .ok (.iload_n 2, 1) := by decide +kernel
theorem dX5_inPlaceSize_31 : decode cX5_inPlaceSize 31 = .ok (.invokevirtual 134, 3) := by decide +kernel
theorem dX5_inPlaceSize_34 : decode cX5_inPlaceSize 34 = .ok (.ifCond .ne 7, 3) := by decide +kernel
theorem dX5_inPlaceSize_37 : decode cX5_inPlaceSize 37 = .ok (.iconst 1, 1) := by decide +kernel
theorem dX5_inPlaceSize_38 : decode cX5_inPlaceSize 38 = .ok (.goto 16, 3) := by decide +kernel
theorem dX5_inPlaceSize_41 : decode cX5_inPlaceSize 41 = .ok (.aload_n 0, 1) := by decide +kernel
theorem dX5_inPlaceSize_42 : decode cX5_inPlaceSize 42 = .ok (.iload_n 2, 1) := by decide +kernel
theorem dX5_inPlaceSize_43 : decode cX5_inPlaceSize 43 = .ok (.invokevirtual 110, 3) := by decide +kernel
theorem dX5_inPlaceSize_46 : decode cX5_inPlaceSize 46 = .ok (.ifCond .eq 7, 3) := by decide +kernel
theorem dX5_inPlaceSize_49 : decode cX5_inPlaceSize 49 = .ok (.iconst 2, 1) := by decide +kernel
theorem dX5_inPlaceSize_50 : decode cX5_inPlaceSize 50 = .ok (.goto 4, 3) := by decide +kernel
theorem dX5_inPlaceSize_53 : decode cX5_inPlaceSize 53 = .ok (.iconst 0, 1) := by decide +kernel
theorem dX5_inPlaceSize_54 : decode cX5_inPlaceSize 54 = .ok (.iadd, 1) := by decide +kernel
theorem dX5_inPlaceSize_55 : decode cX5_inPlaceSize 55 = .ok (.istore_n 1, 1) := by decide +kernel
theorem dX5_inPlaceSize_56 : decode cX5_inPlaceSize 56 = .ok (.iinc 2 1, 3) := by decide +kernel
theorem dX5_inPlaceSize_59 : decode cX5_inPlaceSize 59 = .ok (.goto (-39), 3) := by decide +kernel
theorem dX5_inPlaceSize_62 : decode cX5_inPlaceSize 62 = .ok (.iload_n 1, 1) := by decide +kernel
theorem dX5_inPlaceSize_63 : decode cX5_inPlaceSize 63 = .ok (.ireturn, 1) := by decide +kernel
theorem dX5_plays_0 : decode cX5_plays 0 = .ok (.iconst 0, 1) := by decide +kernel
theorem dX5_plays_1 : decode cX5_plays 1 = .ok (.istore_n 2, 1) := by decide +kernel
theorem dX5_plays_2 : decode cX5_plays 2 = .ok (.iload_n 2, 1) := by decide +kernel
theorem dX5_plays_3 : decode cX5_plays 3 = .ok (.bipush 48, 2) := by decide +kernel
theorem dX5_plays_5 : decode cX5_plays 5 = .ok (.if_icmp .ge 33, 3) := by decide +kernel
theorem dX5_plays_8 : decode cX5_plays 8 = .ok (.aload_n 0, 1) := by decide +kernel
theorem dX5_plays_9 : decode cX5_plays 9 = .ok (.getfield 47, 3) := by decide +kernel
theorem dX5_plays_12 : decode cX5_plays 12 = .ok (.iload_n 2, 1) := by decide +kernel
theorem dX5_plays_13 : decode cX5_plays 13 = .ok (.iload_n 2, 1) := by decide +kernel
theorem dX5_plays_14 : decode cX5_plays 14 = .ok (.aload_n 0, 1) := by decide +kernel
theorem dX5_plays_15 : decode cX5_plays 15 = .ok (.getfield 65, 3) := by decide +kernel
theorem dX5_plays_18 : decode cX5_plays 18 = .ok (.if_icmp .ge 12, 3) := by decide +kernel
theorem dX5_plays_21 : decode cX5_plays 21 = .ok (.aload_n 0, 1) := by decide +kernel
theorem dX5_plays_22 : decode cX5_plays 22 = .ok (.getfield 7, 3) := by decide +kernel
theorem dX5_plays_25 : decode cX5_plays 25 = .ok (.iload_n 2, 1) := by decide +kernel
theorem dX5_plays_26 : decode cX5_plays 26 = .ok (.iaload, 1) := by decide +kernel
theorem dX5_plays_27 : decode cX5_plays 27 = .ok (.goto 4, 3) := by decide +kernel
theorem dX5_plays_30 : decode cX5_plays 30 = .ok (.iconst 0, 1) := by decide +kernel
theorem dX5_plays_31 : decode cX5_plays 31 = .ok (.iastore, 1) := by decide +kernel
theorem dX5_plays_32 : decode cX5_plays 32 = .ok (.iinc 2 1, 3) := by decide +kernel
theorem dX5_plays_35 : decode cX5_plays 35 = .ok (.goto (-33), 3) := by decide +kernel
theorem dX5_plays_38 : decode cX5_plays 38 = .ok (.iconst 0, 1) := by decide +kernel
theorem dX5_plays_39 : decode cX5_plays 39 = .ok (.istore_n 2, 1) := by decide +kernel
theorem dX5_plays_40 : decode cX5_plays 40 = .ok (.iload_n 2, 1) := by decide +kernel
theorem dX5_plays_41 : decode cX5_plays 41 = .ok (.iload_n 1, 1) := by decide +kernel
theorem dX5_plays_42 : decode cX5_plays 42 = .ok (.if_icmp .ge 98, 3) := by decide +kernel
theorem dX5_plays_45 : decode cX5_plays 45 = .ok (.aload_n 0, 1) := by decide +kernel
theorem dX5_plays_46 : decode cX5_plays 46 = .ok (.getfield 41, 3) := by decide +kernel
theorem dX5_plays_49 : decode cX5_plays 49 = .ok (.iload_n 2, 1) := by decide +kernel
theorem dX5_plays_50 : decode cX5_plays 50 = .ok (.iaload, 1) := by decide +kernel
theorem dX5_plays_51 : decode cX5_plays 51 = .ok (.istore_n 3, 1) := by decide +kernel
theorem dX5_plays_52 : decode cX5_plays 52 = .ok (.iconst 0, 1) := by decide +kernel
theorem dX5_plays_53 : decode cX5_plays 53 = .ok (.istore 4, 2) := by decide +kernel
theorem dX5_plays_55 : decode cX5_plays 55 = .ok (.iload 4, 2) := by decide +kernel
theorem dX5_plays_57 : decode cX5_plays 57 = .ok (.aload_n 0, 1) := by decide +kernel
theorem dX5_plays_58 : decode cX5_plays 58 = .ok (.getfield 29, 3) := by decide +kernel
theorem dX5_plays_61 : decode cX5_plays 61 = .ok (.iload_n 3, 1) := by decide +kernel
theorem dX5_plays_62 : decode cX5_plays 62 = .ok (.iaload, 1) := by decide +kernel
theorem dX5_plays_63 : decode cX5_plays 63 = .ok (.if_icmp .ge 30, 3) := by decide +kernel
theorem dX5_plays_66 : decode cX5_plays 66 = .ok (.aload_n 0, 1) := by decide +kernel
theorem dX5_plays_67 : decode cX5_plays 67 = .ok (.getfield 50, 3) := by decide +kernel
theorem dX5_plays_70 : decode cX5_plays 70 = .ok (.iload 4, 2) := by decide +kernel
theorem dX5_plays_72 : decode cX5_plays 72 = .ok (.aload_n 0, 1) := by decide +kernel
theorem dX5_plays_73 : decode cX5_plays 73 = .ok (.getfield 47, 3) := by decide +kernel
theorem dX5_plays_76 : decode cX5_plays 76 = .ok (.aload_n 0, 1) := by decide +kernel
theorem dX5_plays_77 : decode cX5_plays 77 = .ok (.getfield 23, 3) := by decide +kernel
theorem dX5_plays_80 : decode cX5_plays 80 = .ok (.iload_n 3, 1) := by decide +kernel
theorem dX5_plays_81 : decode cX5_plays 81 = .ok (.iaload, 1) := by decide +kernel
theorem dX5_plays_82 : decode cX5_plays 82 = .ok (.iload 4, 2) := by decide +kernel
theorem dX5_plays_84 : decode cX5_plays 84 = .ok (.iadd, 1) := by decide +kernel
theorem dX5_plays_85 : decode cX5_plays 85 = .ok (.iaload, 1) := by decide +kernel
theorem dX5_plays_86 : decode cX5_plays 86 = .ok (.iastore, 1) := by decide +kernel
theorem dX5_plays_87 : decode cX5_plays 87 = .ok (.iinc 4 1, 3) := by decide +kernel
theorem dX5_plays_90 : decode cX5_plays 90 = .ok (.goto (-35), 3) := by decide +kernel
theorem dX5_plays_93 : decode cX5_plays 93 = .ok (.iconst 0, 1) := by decide +kernel
theorem dX5_plays_94 : decode cX5_plays 94 = .ok (.istore 4, 2) := by decide +kernel
theorem dX5_plays_96 : decode cX5_plays 96 = .ok (.iload 4, 2) := by decide +kernel
theorem dX5_plays_98 : decode cX5_plays 98 = .ok (.aload_n 0, 1) := by decide +kernel
theorem dX5_plays_99 : decode cX5_plays 99 = .ok (.getfield 29, 3) := by decide +kernel
theorem dX5_plays_102 : decode cX5_plays 102 = .ok (.iload_n 3, 1) := by decide +kernel
theorem dX5_plays_103 : decode cX5_plays 103 = .ok (.iaload, 1) := by decide +kernel
theorem dX5_plays_104 : decode cX5_plays 104 = .ok (.if_icmp .ge 30, 3) := by decide +kernel
theorem dX5_plays_107 : decode cX5_plays 107 = .ok (.aload_n 0, 1) := by decide +kernel
theorem dX5_plays_108 : decode cX5_plays 108 = .ok (.getfield 47, 3) := by decide +kernel
theorem dX5_plays_111 : decode cX5_plays 111 = .ok (.aload_n 0, 1) := by decide +kernel
theorem dX5_plays_112 : decode cX5_plays 112 = .ok (.getfield 26, 3) := by decide +kernel
theorem dX5_plays_115 : decode cX5_plays 115 = .ok (.iload_n 3, 1) := by decide +kernel
theorem dX5_plays_116 : decode cX5_plays 116 = .ok (.iaload, 1) := by decide +kernel
theorem dX5_plays_117 : decode cX5_plays 117 = .ok (.iload 4, 2) := by decide +kernel
theorem dX5_plays_119 : decode cX5_plays 119 = .ok (.iadd, 1) := by decide +kernel
theorem dX5_plays_120 : decode cX5_plays 120 = .ok (.aload_n 0, 1) := by decide +kernel
theorem dX5_plays_121 : decode cX5_plays 121 = .ok (.getfield 50, 3) := by decide +kernel
theorem dX5_plays_124 : decode cX5_plays 124 = .ok (.iload 4, 2) := by decide +kernel
theorem dX5_plays_126 : decode cX5_plays 126 = .ok (.iaload, 1) := by decide +kernel
theorem dX5_plays_127 : decode cX5_plays 127 = .ok (.iastore, 1) := by decide +kernel
theorem dX5_plays_128 : decode cX5_plays 128 = .ok (.iinc 4 1, 3) := by decide +kernel
theorem dX5_plays_131 : decode cX5_plays 131 = .ok (.goto (-35), 3) := by decide +kernel
theorem dX5_plays_134 : decode cX5_plays 134 = .ok (.iinc 2 1, 3) := by decide +kernel
theorem dX5_plays_137 : decode cX5_plays 137 = .ok (.goto (-97), 3) := by decide +kernel
theorem dX5_plays_140 : decode cX5_plays 140 = .ok (.return_, 1) := by decide +kernel
set_option maxRecDepth 20000 in
theorem ggX5_memoryAfter_X5_within : GoodIn wsX5_memoryAfter wsX5_within := goodIn_r _ [9] (by decide +kernel) (by decide +kernel)
set_option maxRecDepth 20000 in
theorem gX5_memoryAfter_X5_within : GoodIn wsX5_memoryAfter (va_wsS RX5 61 yX5_within wsX5_within) := goodIn_app (goodIn_of _ (by decide +kernel)) ggX5_memoryAfter_X5_within
set_option maxRecDepth 20000 in
theorem ggX5_memoryAfter_X5_plays : GoodIn wsX5_memoryAfter wsX5_plays := goodIn_r _ [13, 5, 3, 14, 15, 16, 17, 18, 19, 20, 21, 22, 23, 24, 25, 26, 27, 28, 29, 30, 31, 32, 33, 34, 35, 36, 37, 38] (by decide +kernel) (by decide +kernel)
set_option maxRecDepth 20000 in
theorem gX5_memoryAfter_X5_plays : GoodIn wsX5_memoryAfter (wsV RX5 137 RX5 yX5_plays wsX5_plays) := goodIn_app (goodIn_of _ (by decide +kernel)) ggX5_memoryAfter_X5_plays
theorem dX5_memoryAfter_0 : decode cX5_memoryAfter 0 = .ok (.aload_n 0, 1) := by decide +kernel
theorem dX5_memoryAfter_1 : decode cX5_memoryAfter 1 = .ok (.getfield 53, 3) := by decide +kernel
theorem dX5_memoryAfter_4 : decode cX5_memoryAfter 4 = .ok (.ifCond .ne 7, 3) := by decide +kernel
theorem dX5_memoryAfter_7 : decode cX5_memoryAfter 7 = .ok (.sipush (-10004), 3) := by decide +kernel
theorem dX5_memoryAfter_10 : decode cX5_memoryAfter 10 = .ok (.ireturn, 1) := by decide +kernel
theorem dX5_memoryAfter_11 : decode cX5_memoryAfter 11 = .ok (.iload_n 1, 1) := by decide +kernel
theorem dX5_memoryAfter_12 : decode cX5_memoryAfter 12 = .ok (.iconst 0, 1) := by decide +kernel
theorem dX5_memoryAfter_13 : decode cX5_memoryAfter 13 = .ok (.aload_n 0, 1) := by decide +kernel
theorem dX5_memoryAfter_14 : decode cX5_memoryAfter 14 = .ok (.getfield 125, 3) := by decide +kernel
theorem dX5_memoryAfter_17 : decode cX5_memoryAfter 17 = .ok (.invokestatic 61, 3) := by decide +kernel
theorem dX5_memoryAfter_20 : decode cX5_memoryAfter 20 = .ok (.ifCond .ne 7, 3) := by decide +kernel
theorem dX5_memoryAfter_23 : decode cX5_memoryAfter 23 = .ok (.sipush (-10001), 3) := by decide +kernel
theorem dX5_memoryAfter_26 : decode cX5_memoryAfter 26 = .ok (.ireturn, 1) := by decide +kernel
theorem dX5_memoryAfter_27 : decode cX5_memoryAfter 27 = .ok (.iload_n 2, 1) := by decide +kernel
theorem dX5_memoryAfter_28 : decode cX5_memoryAfter 28 = .ok (.iconst 0, 1) := by decide +kernel
theorem dX5_memoryAfter_29 : decode cX5_memoryAfter 29 = .ok (.aload_n 0, 1) := by decide +kernel
theorem dX5_memoryAfter_30 : decode cX5_memoryAfter 30 = .ok (.getfield 65, 3) := by decide +kernel
theorem dX5_memoryAfter_33 : decode cX5_memoryAfter 33 = .ok (.aload_n 0, 1) := by decide +kernel
theorem dX5_memoryAfter_34 : decode cX5_memoryAfter 34 = .ok (.getfield 57, 3) := by decide +kernel
theorem dX5_memoryAfter_37 : decode cX5_memoryAfter 37 = .ok (.if_icmp .le 10, 3) := by decide +kernel
theorem dX5_memoryAfter_40 : decode cX5_memoryAfter 40 = .ok (.aload_n 0, 1) := by decide +kernel
theorem dX5_memoryAfter_41 : decode cX5_memoryAfter 41 = .ok (.getfield 65, 3) := by decide +kernel
theorem dX5_memoryAfter_44 : decode cX5_memoryAfter 44 = .ok (.goto 7, 3) := by decide +kernel
theorem dX5_memoryAfter_47 : decode cX5_memoryAfter 47 = .ok (.aload_n 0, 1) := by decide +kernel
theorem dX5_memoryAfter_48 : decode cX5_memoryAfter 48 = .ok (.getfield 57, 3) := by decide +kernel
theorem dX5_memoryAfter_51 : decode cX5_memoryAfter 51 = .ok (.iconst 1, 1) := by decide +kernel
theorem dX5_memoryAfter_52 : decode cX5_memoryAfter 52 = .ok (.isub, 1) := by decide +kernel
theorem dX5_memoryAfter_53 : decode cX5_memoryAfter 53 = .ok (.invokestatic 61, 3) := by decide +kernel
theorem dX5_memoryAfter_56 : decode cX5_memoryAfter 56 = .ok (.ifCond .ne 7, 3) := by decide +kernel
theorem dX5_memoryAfter_59 : decode cX5_memoryAfter 59 = .ok (.sipush (-10003), 3) := by decide +kernel
theorem dX5_memoryAfter_62 : decode cX5_memoryAfter 62 = .ok (.ireturn, 1) := by decide +kernel
theorem dX5_memoryAfter_63 : decode cX5_memoryAfter 63 = .ok (.aload_n 0, 1) := by decide +kernel
theorem dX5_memoryAfter_64 : decode cX5_memoryAfter 64 = .ok (.iload_n 1, 1) := by decide +kernel
theorem dX5_memoryAfter_65 : decode cX5_memoryAfter 65 = .ok (.invokevirtual 137, 3) := by decide +kernel
theorem dX5_memoryAfter_68 : decode cX5_memoryAfter 68 = .ok (.aload_n 0, 1) := by decide +kernel
theorem dX5_memoryAfter_69 : decode cX5_memoryAfter 69 = .ok (.getfield 47, 3) := by decide +kernel
theorem dX5_memoryAfter_72 : decode cX5_memoryAfter 72 = .ok (.iload_n 2, 1) := by decide +kernel
theorem dX5_memoryAfter_73 : decode cX5_memoryAfter 73 = .ok (.iaload, 1) := by decide +kernel
theorem dX5_memoryAfter_74 : decode cX5_memoryAfter 74 = .ok (.ireturn, 1) := by decide +kernel
set_option maxRecDepth 20000 in
theorem ggX5_patchedValue_X5_isNew : GoodIn wsX5_patchedValue wsX5_isNew := goodIn_r _ [10, 11, 12, 13, 9, 14, 49, 50, 51, 52, 53, 54, 55, 56, 57, 58, 59, 60, 61, 62, 63, 64, 65, 66, 67] (by decide +kernel) (by decide +kernel)
set_option maxRecDepth 20000 in
theorem gX5_patchedValue_X5_isNew : GoodIn wsX5_patchedValue (wsV RX5 68 RX5 yX5_isNew wsX5_isNew) := goodIn_app (goodIn_of _ (by decide +kernel)) ggX5_patchedValue_X5_isNew
set_option maxRecDepth 20000 in
theorem ggX5_patchedValue_X5_isCopied : GoodIn wsX5_patchedValue wsX5_isCopied := goodIn_r _ [18, 19, 20, 49, 50, 51, 52, 53, 54, 55, 56, 57, 58, 59, 60, 61, 62, 63, 64, 65, 66, 67] (by decide +kernel) (by decide +kernel)
set_option maxRecDepth 20000 in
theorem gX5_patchedValue_X5_isCopied : GoodIn wsX5_patchedValue (wsV RX5 134 RX5 yX5_isCopied wsX5_isCopied) := goodIn_app (goodIn_of _ (by decide +kernel)) ggX5_patchedValue_X5_isCopied
set_option maxRecDepth 20000 in
theorem ggX5_patchedValue_X5_isCorrected : GoodIn wsX5_patchedValue wsX5_isCorrected := goodIn_r _ [24, 19, 2, 25, 26, 27, 9, 28, 4, 29, 30, 31, 32, 33, 34, 35, 36, 37, 38, 39, 40, 49, 50, 51, 52, 53, 54, 55, 56, 57, 58, 59, 60, 61, 62, 63, 64, 65, 66, 67] (by decide +kernel) (by decide +kernel)
set_option maxRecDepth 20000 in
theorem gX5_patchedValue_X5_isCorrected : GoodIn wsX5_patchedValue (wsV RX5 110 RX5 yX5_isCorrected wsX5_isCorrected) := goodIn_app (goodIn_of _ (by decide +kernel)) ggX5_patchedValue_X5_isCorrected
set_option maxRecDepth 20000 in
theorem ggX5_patchedValue_X5_plays : GoodIn wsX5_patchedValue wsX5_plays := goodIn_r _ [44, 5, 45, 29, 46, 47, 48, 34, 35, 49, 50, 51, 52, 53, 54, 55, 56, 57, 58, 59, 60, 61, 62, 63, 64, 65, 66, 67] (by decide +kernel) (by decide +kernel)
set_option maxRecDepth 20000 in
theorem gX5_patchedValue_X5_plays : GoodIn wsX5_patchedValue (wsV RX5 137 RX5 yX5_plays wsX5_plays) := goodIn_app (goodIn_of _ (by decide +kernel)) ggX5_patchedValue_X5_plays
set_option maxRecDepth 20000 in
theorem ggX5_patchedValue_X5_oldIndexOf : GoodIn wsX5_patchedValue wsX5_oldIndexOf := goodIn_r _ [33, 19, 34, 35, 49, 50, 51, 52, 53, 54, 55, 56, 57, 58, 59, 60, 61, 62, 63, 64, 65, 66, 67] (by decide +kernel) (by decide +kernel)
set_option maxRecDepth 20000 in
theorem gX5_patchedValue_X5_oldIndexOf : GoodIn wsX5_patchedValue (wsV RX5 104 RX5 yX5_oldIndexOf wsX5_oldIndexOf) := goodIn_app (goodIn_of _ (by decide +kernel)) ggX5_patchedValue_X5_oldIndexOf
set_option maxRecDepth 20000 in
theorem ggX5_patchedValue_X5_predicts : GoodIn wsX5_patchedValue wsX5_predicts := goodIn_r _ [39, 40, 34, 35, 49, 50, 51, 52, 53, 54, 55, 56, 57, 58, 59, 60, 61, 62, 63, 64, 65, 66, 67] (by decide +kernel) (by decide +kernel)
set_option maxRecDepth 20000 in
theorem gX5_patchedValue_X5_predicts : GoodIn wsX5_patchedValue (wsV RX5 100 RX5 yX5_predicts wsX5_predicts) := goodIn_app (goodIn_of _ (by decide +kernel)) ggX5_patchedValue_X5_predicts
theorem dX5_patchedValue_0 : decode cX5_patchedValue 0 = .ok (.aload_n 0, 1) := by decide +kernel
theorem dX5_patchedValue_1 : decode cX5_patchedValue 1 = .ok (.getfield 53, 3) := by decide +kernel
theorem dX5_patchedValue_4 : decode cX5_patchedValue 4 = .ok (.ifCond .ne 7, 3) := by decide +kernel
theorem dX5_patchedValue_7 : decode cX5_patchedValue 7 = .ok (.sipush (-10004), 3) := by decide +kernel
theorem dX5_patchedValue_10 : decode cX5_patchedValue 10 = .ok (.ireturn, 1) := by decide +kernel
theorem dX5_patchedValue_11 : decode cX5_patchedValue 11 = .ok (.aload_n 0, 1) := by decide +kernel
theorem dX5_patchedValue_12 : decode cX5_patchedValue 12 = .ok (.iload_n 1, 1) := by decide +kernel
theorem dX5_patchedValue_13 : decode cX5_patchedValue 13 = .ok (.invokevirtual 68, 3) := by decide +kernel
theorem dX5_patchedValue_16 : decode cX5_patchedValue 16 = .ok (.ifCond .ne 7, 3) := by decide +kernel
theorem dX5_patchedValue_19 : decode cX5_patchedValue 19 = .ok (.sipush (-10003), 3) := by decide +kernel
theorem dX5_patchedValue_22 : decode cX5_patchedValue 22 = .ok (.ireturn, 1) := by decide +kernel
theorem dX5_patchedValue_23 : decode cX5_patchedValue 23 = .ok (.aload_n 0, 1) := by decide +kernel
theorem dX5_patchedValue_24 : decode cX5_patchedValue 24 = .ok (.iload_n 1, 1) := by decide +kernel
theorem dX5_patchedValue_25 : decode cX5_patchedValue 25 = .ok (.invokevirtual 134, 3) := by decide +kernel
theorem dX5_patchedValue_28 : decode cX5_patchedValue 28 = .ok (.ifCond .eq 11, 3) := by decide +kernel
theorem dX5_patchedValue_31 : decode cX5_patchedValue 31 = .ok (.aload_n 0, 1) := by decide +kernel
theorem dX5_patchedValue_32 : decode cX5_patchedValue 32 = .ok (.iload_n 1, 1) := by decide +kernel
theorem dX5_patchedValue_33 : decode cX5_patchedValue 33 = .ok (.invokevirtual 110, 3) := by decide +kernel
theorem dX5_patchedValue_36 : decode cX5_patchedValue 36 = .ok (.ifCond .eq 10, 3) := by decide +kernel
theorem dX5_patchedValue_39 : decode cX5_patchedValue 39 = .ok (.aload_n 0, 1) := by decide +kernel
theorem dX5_patchedValue_40 : decode cX5_patchedValue 40 = .ok (.getfield 17, 3) := by decide +kernel
theorem dX5_patchedValue_43 : decode cX5_patchedValue 43 = .ok (.iload_n 1, 1) := by decide +kernel
theorem dX5_patchedValue_44 : decode cX5_patchedValue 44 = .ok (.iaload, 1) := by decide +kernel
theorem dX5_patchedValue_45 : decode cX5_patchedValue 45 = .ok (.ireturn, 1) := by decide +kernel
theorem dX5_patchedValue_46 : decode cX5_patchedValue 46 = .ok (.aload_n 0, 1) := by decide +kernel
theorem dX5_patchedValue_47 : decode cX5_patchedValue 47 = .ok (.aload_n 0, 1) := by decide +kernel
theorem dX5_patchedValue_48 : decode cX5_patchedValue 48 = .ok (.getfield 125, 3) := by decide +kernel
theorem dX5_patchedValue_51 : decode cX5_patchedValue 51 = .ok (.invokevirtual 137, 3) := by decide +kernel
theorem dX5_patchedValue_54 : decode cX5_patchedValue 54 = .ok (.aload_n 0, 1) := by decide +kernel
theorem dX5_patchedValue_55 : decode cX5_patchedValue 55 = .ok (.getfield 13, 3) := by decide +kernel
theorem dX5_patchedValue_58 : decode cX5_patchedValue 58 = .ok (.aload_n 0, 1) := by decide +kernel
theorem dX5_patchedValue_59 : decode cX5_patchedValue 59 = .ok (.iload_n 1, 1) := by decide +kernel
theorem dX5_patchedValue_60 : decode cX5_patchedValue 60 = .ok (.invokevirtual 104, 3) := by decide +kernel
theorem dX5_patchedValue_63 : decode cX5_patchedValue 63 = .ok (.baload, 1) := by decide +kernel
theorem dX5_patchedValue_64 : decode cX5_patchedValue 64 = .ok (.ifCond .eq 16, 3) := by decide +kernel
theorem dX5_patchedValue_67 : decode cX5_patchedValue 67 = .ok (.aload_n 0, 1) := by decide +kernel
theorem dX5_patchedValue_68 : decode cX5_patchedValue 68 = .ok (.aload_n 0, 1) := by decide +kernel
theorem dX5_patchedValue_69 : decode cX5_patchedValue 69 = .ok (.getfield 47, 3) := by decide +kernel
theorem dX5_patchedValue_72 : decode cX5_patchedValue 72 = .ok (.iload_n 1, 1) := by decide +kernel
theorem dX5_patchedValue_73 : decode cX5_patchedValue 73 = .ok (.iaload, 1) := by decide +kernel
theorem dX5_patchedValue_74 : decode cX5_patchedValue 74 = .ok (.invokevirtual 100, 3) := by decide +kernel
theorem dX5_patchedValue_77 : decode cX5_patchedValue 77 = .ok (.goto 9, 3) := by decide +kernel
theorem dX5_patchedValue_80 : decode cX5_patchedValue 80 = .ok (.aload_n 0, 1) := by decide +kernel
theorem dX5_patchedValue_81 : decode cX5_patchedValue 81 = .ok (.getfield 47, 3) := by decide +kernel
theorem dX5_patchedValue_84 : decode cX5_patchedValue 84 = .ok (.iload_n 1, 1) := by decide +kernel
theorem dX5_patchedValue_85 : decode cX5_patchedValue 85 = .ok (.iaload, 1) := by decide +kernel
theorem dX5_patchedValue_86 : decode cX5_patchedValue 86 = .ok (.ireturn, 1) := by decide +kernel
theorem dJ9_max_7cf53_0 : decode cJ9_max_7cf53 0 = .ok (.iload_n 0, 1) := by decide +kernel
theorem dJ9_max_7cf53_1 : decode cJ9_max_7cf53 1 = .ok (.iload_n 1, 1) := by decide +kernel
theorem dJ9_max_7cf53_2 : decode cJ9_max_7cf53 2 = .ok (.if_icmp .lt 7, 3) := by decide +kernel
theorem dJ9_max_7cf53_5 : decode cJ9_max_7cf53 5 = .ok (.iload_n 0, 1) := by decide +kernel
theorem dJ9_max_7cf53_6 : decode cJ9_max_7cf53 6 = .ok (.goto 4, 3) := by decide +kernel
theorem dJ9_max_7cf53_9 : decode cJ9_max_7cf53 9 = .ok (.iload_n 1, 1) := by decide +kernel
theorem dJ9_max_7cf53_10 : decode cJ9_max_7cf53 10 = .ok (.ireturn, 1) := by decide +kernel
set_option maxRecDepth 20000 in
theorem ggL_law_X4_init : GoodIn wsL_law wsX4_init := goodIn_r _ [8, 9, 10, 11, 12, 13, 14, 15, 16, 17, 18, 19, 20, 21, 22, 23, 24, 25, 26, 27, 28, 29, 30, 31, 32, 33, 34, 35, 36, 37, 38, 39, 40, 41, 42, 43, 44, 45, 46, 47, 48, 49, 50, 51, 52, 53, 54, 55, 56, 57, 58, 59, 60, 61, 62, 63, 64, 630, 631, 632, 605, 606, 607, 608, 609, 610, 633, 634, 635, 636, 637, 638, 639, 640, 641, 642, 643, 644, 645, 646] (by decide +kernel) (by decide +kernel)
set_option maxRecDepth 20000 in
theorem gL_law_X4_init : GoodIn wsL_law (wsX4_init) := ggL_law_X4_init
set_option maxRecDepth 20000 in
theorem ggL_law_X5_init : GoodIn wsL_law wsX5_init := goodIn_r _ [67, 68, 10, 11, 34, 69, 36, 70, 71, 72, 73, 74, 75, 76, 77, 78, 79, 80, 81, 82, 83, 611, 612, 613, 614, 615, 616, 617, 618, 619, 620, 621, 622, 623, 624, 625, 626, 627, 628, 629] (by decide +kernel) (by decide +kernel)
set_option maxRecDepth 20000 in
theorem gL_law_X5_init : GoodIn wsL_law (wsX5_init) := ggL_law_X5_init
set_option maxRecDepth 20000 in
theorem ggL_law_X4_appendOld : GoodIn wsL_law wsX4_appendOld := goodIn_r _ [87, 15, 88, 89, 90, 2, 91, 29, 92, 93, 94, 95, 96, 97, 14, 98, 38, 99, 100, 101, 102, 35, 37, 103, 104, 105, 106, 107, 605, 606, 607, 608, 609, 610, 630, 631, 632] (by decide +kernel) (by decide +kernel)
set_option maxRecDepth 20000 in
theorem gL_law_X4_appendOld : GoodIn wsL_law (wsV RL 13 RX4 yX4_appendOld wsX4_appendOld) := goodIn_app (goodIn_of _ (by decide +kernel)) ggL_law_X4_appendOld
set_option maxRecDepth 20000 in
theorem ggL_law_X5_appendOld : GoodIn wsL_law wsX5_appendOld := goodIn_r _ [111, 112, 69, 70, 83, 113, 114, 5, 115, 611, 612, 613, 614, 615, 616, 617, 618, 619, 620, 621, 622, 623, 624, 625, 626, 627, 628, 629] (by decide +kernel) (by decide +kernel)
set_option maxRecDepth 20000 in
theorem gL_law_X5_appendOld : GoodIn wsL_law (wsV RL 17 RX5 yX5_appendOld wsX5_appendOld) := goodIn_app (goodIn_of _ (by decide +kernel)) ggL_law_X5_appendOld
set_option maxRecDepth 20000 in
theorem ggL_law_X4_appendNew : GoodIn wsL_law wsX4_appendNew := goodIn_r _ [119, 16, 88, 89, 90, 2, 91, 29, 92, 93, 94, 95, 96, 97, 14, 98, 38, 99, 100, 101, 102, 35, 37, 103, 104, 105, 106, 107, 605, 606, 607, 608, 609, 610, 630, 631, 632] (by decide +kernel) (by decide +kernel)
set_option maxRecDepth 20000 in
theorem gL_law_X4_appendNew : GoodIn wsL_law (wsV RL 18 RX4 yX4_appendNew wsX4_appendNew) := goodIn_app (goodIn_of _ (by decide +kernel)) ggL_law_X4_appendNew
set_option maxRecDepth 20000 in
theorem ggL_law_X5_appendNew : GoodIn wsL_law wsX5_appendNew := goodIn_r _ [123, 124, 71, 72, 83, 113, 114, 5, 115, 611, 612, 613, 614, 615, 616, 617, 618, 619, 620, 621, 622, 623, 624, 625, 626, 627, 628, 629] (by decide +kernel) (by decide +kernel)
set_option maxRecDepth 20000 in
theorem gL_law_X5_appendNew : GoodIn wsL_law (wsV RL 21 RX5 yX5_appendNew wsX5_appendNew) := goodIn_app (goodIn_of _ (by decide +kernel)) ggL_law_X5_appendNew
set_option maxRecDepth 20000 in
theorem ggL_law_X4_setNew : GoodIn wsL_law wsX4_setNew := goodIn_r _ [128, 16, 29, 129, 130, 131, 14, 132, 38, 92, 93, 2, 94, 133, 134, 135, 136, 35, 137, 138, 139, 140, 141, 605, 606, 607, 608, 609, 610, 630, 631, 632] (by decide +kernel) (by decide +kernel)
set_option maxRecDepth 20000 in
theorem gL_law_X4_setNew : GoodIn wsL_law (wsV RL 22 RX4 yX4_setNew wsX4_setNew) := goodIn_app (goodIn_of _ (by decide +kernel)) ggL_law_X4_setNew
set_option maxRecDepth 20000 in
theorem ggL_law_X5_setNew : GoodIn wsL_law wsX5_setNew := goodIn_r _ [145, 71, 83, 146, 147, 148, 5, 149, 124, 113, 114, 115, 611, 612, 613, 614, 615, 616, 617, 618, 619, 620, 621, 622, 623, 624, 625, 626, 627, 628, 629] (by decide +kernel) (by decide +kernel)
set_option maxRecDepth 20000 in
theorem gL_law_X5_setNew : GoodIn wsL_law (wsV RL 26 RX5 yX5_setNew wsX5_setNew) := goodIn_app (goodIn_of _ (by decide +kernel)) ggL_law_X5_setNew
set_option maxRecDepth 20000 in
theorem ggL_law_X4_clear : GoodIn wsL_law wsX4_clear := goodIn_r _ [153, 15, 16, 29, 104, 105, 106, 14, 107, 38, 154, 155, 156, 157, 605, 606, 607, 608, 609, 610, 630, 631, 632] (by decide +kernel) (by decide +kernel)
set_option maxRecDepth 20000 in
theorem gL_law_X4_clear : GoodIn wsL_law (wsV RL 27 RX4 yX4_clear wsX4_clear) := goodIn_app (goodIn_of _ (by decide +kernel)) ggL_law_X4_clear
set_option maxRecDepth 20000 in
theorem ggL_law_X5_clear : GoodIn wsL_law wsX5_clear := goodIn_r _ [161, 112, 124, 83, 611, 612, 613, 614, 615, 616, 617, 618, 619, 620, 621, 622, 623, 624, 625, 626, 627, 628, 629] (by decide +kernel) (by decide +kernel)
set_option maxRecDepth 20000 in
theorem gL_law_X5_clear : GoodIn wsL_law (wsV RL 31 RX5 yX5_clear wsX5_clear) := goodIn_app (goodIn_of _ (by decide +kernel)) ggL_law_X5_clear
set_option maxRecDepth 20000 in
theorem ggL_law_X4_oldLength : GoodIn wsL_law wsX4_oldLength := goodIn_r _ [165, 15, 104, 105, 106, 14, 107, 38, 605, 606, 607, 608, 609, 610, 630, 631, 632] (by decide +kernel) (by decide +kernel)
set_option maxRecDepth 20000 in
theorem gL_law_X4_oldLength : GoodIn wsL_law (wsV RL 32 RX4 yX4_oldLength wsX4_oldLength) := goodIn_app (goodIn_of _ (by decide +kernel)) ggL_law_X4_oldLength
set_option maxRecDepth 20000 in
theorem ggL_law_X5_oldLength : GoodIn wsL_law wsX5_oldLength := goodIn_r _ [169, 112, 611, 612, 613, 614, 615, 616, 617, 618, 619, 620, 621, 622, 623, 624, 625, 626, 627, 628, 629] (by decide +kernel) (by decide +kernel)
set_option maxRecDepth 20000 in
theorem gL_law_X5_oldLength : GoodIn wsL_law (wsV RL 35 RX5 yX5_oldLength wsX5_oldLength) := goodIn_app (goodIn_of _ (by decide +kernel)) ggL_law_X5_oldLength
set_option maxRecDepth 20000 in
theorem ggL_law_X4_newLength : GoodIn wsL_law wsX4_newLength := goodIn_r _ [173, 16, 104, 105, 106, 14, 107, 38, 605, 606, 607, 608, 609, 610, 630, 631, 632] (by decide +kernel) (by decide +kernel)
set_option maxRecDepth 20000 in
theorem gL_law_X4_newLength : GoodIn wsL_law (wsV RL 36 RX4 yX4_newLength wsX4_newLength) := goodIn_app (goodIn_of _ (by decide +kernel)) ggL_law_X4_newLength
set_option maxRecDepth 20000 in
theorem ggL_law_X5_newLength : GoodIn wsL_law wsX5_newLength := goodIn_r _ [177, 124, 611, 612, 613, 614, 615, 616, 617, 618, 619, 620, 621, 622, 623, 624, 625, 626, 627, 628, 629] (by decide +kernel) (by decide +kernel)
set_option maxRecDepth 20000 in
theorem gL_law_X5_newLength : GoodIn wsL_law (wsV RL 39 RX5 yX5_newLength wsX5_newLength) := goodIn_app (goodIn_of _ (by decide +kernel)) ggL_law_X5_newLength
set_option maxRecDepth 20000 in
theorem ggL_law_X4_newValue : GoodIn wsL_law wsX4_newValue := goodIn_r _ [181, 16, 129, 130, 131, 14, 132, 38, 133, 134, 135, 136, 35, 137, 605, 606, 607, 608, 609, 610, 630, 631, 632] (by decide +kernel) (by decide +kernel)
set_option maxRecDepth 20000 in
theorem gL_law_X4_newValue : GoodIn wsL_law (wsV RL 40 RX4 yX4_newValue wsX4_newValue) := goodIn_app (goodIn_of _ (by decide +kernel)) ggL_law_X4_newValue
set_option maxRecDepth 20000 in
theorem ggL_law_X5_newValue : GoodIn wsL_law wsX5_newValue := goodIn_r _ [185, 71, 146, 147, 148, 5, 149, 124, 113, 114, 115, 611, 612, 613, 614, 615, 616, 617, 618, 619, 620, 621, 622, 623, 624, 625, 626, 627, 628, 629] (by decide +kernel) (by decide +kernel)
set_option maxRecDepth 20000 in
theorem gL_law_X5_newValue : GoodIn wsL_law (wsV RL 44 RX5 yX5_newValue wsX5_newValue) := goodIn_app (goodIn_of _ (by decide +kernel)) ggL_law_X5_newValue
set_option maxRecDepth 20000 in
theorem ggL_law_X4_build : GoodIn wsL_law wsX4_build := goodIn_r _ [189, 24, 15, 16, 20, 28, 29, 190, 191, 192, 23, 193, 56, 54, 55, 194, 195, 196, 19, 197, 46, 198, 199, 200, 201, 51, 52, 202, 203, 204, 205, 53, 206, 105, 106, 14, 107, 38, 207, 208, 209, 210, 211, 212, 213, 214, 215, 216, 217, 218, 219, 220, 221, 37, 137, 130, 131, 132, 222, 134, 135, 136, 35, 223, 224, 225, 226, 227, 228, 229, 230, 231, 232, 233, 234, 44, 43, 45, 235, 236, 237, 27, 238, 64, 62, 63, 239, 240, 241, 242, 243, 244, 245, 246, 247, 248, 249, 250, 251, 252, 253, 254, 255, 256, 257, 258, 259, 260, 261, 262, 263, 264, 265, 266, 267, 268, 269, 270, 271, 272, 273, 274, 275, 276, 277, 278, 279, 61, 280, 281, 282, 283, 284, 285, 286, 287, 288, 289, 605, 606, 607, 608, 609, 610, 637, 638, 639, 640, 641, 642, 633, 634, 635, 636, 630, 631, 632, 643, 644, 645, 646] (by decide +kernel) (by decide +kernel)
set_option maxRecDepth 20000 in
theorem gL_law_X4_build : GoodIn wsL_law (wsV RL 45 RX4 yX4_build wsX4_build) := goodIn_app (goodIn_of _ (by decide +kernel)) ggL_law_X4_build
set_option maxRecDepth 20000 in
theorem ggL_law_X5_build : GoodIn wsL_law wsX5_build := goodIn_r _ [293, 76, 77, 78, 83, 294, 113, 114, 5, 115, 295, 296, 297, 298, 124, 112, 299, 300, 301, 302, 303, 304, 305, 306, 70, 72, 69, 71, 307, 308, 309, 310, 311, 312, 313, 314, 73, 74, 75, 315, 316, 317, 318, 319, 80, 79, 320, 321, 322, 323, 324, 325, 326, 327, 328, 329, 330, 331, 332, 333, 334, 335, 611, 612, 613, 614, 615, 616, 617, 618, 619, 620, 621, 622, 623, 624, 625, 626, 627, 628, 629] (by decide +kernel) (by decide +kernel)
set_option maxRecDepth 20000 in
theorem gL_law_X5_build : GoodIn wsL_law (wsV RL 48 RX5 yX5_build wsX5_build) := goodIn_app (goodIn_of _ (by decide +kernel)) ggL_law_X5_build
set_option maxRecDepth 20000 in
theorem ggL_law_X4_blockOldStart : GoodIn wsL_law wsX4_blockOldStart := goodIn_r _ [339, 20, 340, 341, 342, 2, 343, 29, 344, 240, 241, 19, 242, 46, 345, 269, 270, 271, 43, 267, 605, 606, 607, 608, 609, 610, 633, 634, 635, 636] (by decide +kernel) (by decide +kernel)
set_option maxRecDepth 20000 in
theorem gL_law_X4_blockOldStart : GoodIn wsL_law (wsV RL 49 RX4 yX4_blockOldStart wsX4_blockOldStart) := goodIn_app (goodIn_of _ (by decide +kernel)) ggL_law_X4_blockOldStart
set_option maxRecDepth 20000 in
theorem ggL_law_X5_blockOldStart : GoodIn wsL_law wsX5_blockOldStart := goodIn_r _ [349, 73, 350, 351, 352, 5, 353, 83, 294, 113, 114, 115, 611, 612, 613, 614, 615, 616, 617, 618, 619, 620, 621, 622, 623, 624, 625, 626, 627, 628, 629] (by decide +kernel) (by decide +kernel)
set_option maxRecDepth 20000 in
theorem gL_law_X5_blockOldStart : GoodIn wsL_law (wsV RL 52 RX5 yX5_blockOldStart wsX5_blockOldStart) := goodIn_app (goodIn_of _ (by decide +kernel)) ggL_law_X5_blockOldStart
set_option maxRecDepth 20000 in
theorem ggL_law_X4_blockNewStart : GoodIn wsL_law wsX4_blockNewStart := goodIn_r _ [357, 20, 340, 341, 342, 2, 343, 29, 344, 240, 241, 19, 242, 46, 358, 264, 265, 266, 44, 267, 605, 606, 607, 608, 609, 610, 633, 634, 635, 636] (by decide +kernel) (by decide +kernel)
set_option maxRecDepth 20000 in
theorem gL_law_X4_blockNewStart : GoodIn wsL_law (wsV RL 53 RX4 yX4_blockNewStart wsX4_blockNewStart) := goodIn_app (goodIn_of _ (by decide +kernel)) ggL_law_X4_blockNewStart
set_option maxRecDepth 20000 in
theorem ggL_law_X5_blockNewStart : GoodIn wsL_law wsX5_blockNewStart := goodIn_r _ [362, 74, 350, 351, 352, 5, 353, 83, 294, 113, 114, 115, 611, 612, 613, 614, 615, 616, 617, 618, 619, 620, 621, 622, 623, 624, 625, 626, 627, 628, 629] (by decide +kernel) (by decide +kernel)
set_option maxRecDepth 20000 in
theorem gL_law_X5_blockNewStart : GoodIn wsL_law (wsV RL 56 RX5 yX5_blockNewStart wsX5_blockNewStart) := goodIn_app (goodIn_of _ (by decide +kernel)) ggL_law_X5_blockNewStart
set_option maxRecDepth 20000 in
theorem ggL_law_X4_blockLength : GoodIn wsL_law wsX4_blockLength := goodIn_r _ [366, 20, 340, 341, 342, 2, 343, 29, 344, 240, 241, 19, 242, 46, 367, 273, 274, 275, 45, 267, 605, 606, 607, 608, 609, 610, 633, 634, 635, 636] (by decide +kernel) (by decide +kernel)
set_option maxRecDepth 20000 in
theorem gL_law_X4_blockLength : GoodIn wsL_law (wsV RL 57 RX4 yX4_blockLength wsX4_blockLength) := goodIn_app (goodIn_of _ (by decide +kernel)) ggL_law_X4_blockLength
set_option maxRecDepth 20000 in
theorem ggL_law_X5_blockLength : GoodIn wsL_law wsX5_blockLength := goodIn_r _ [371, 75, 350, 351, 352, 5, 353, 83, 294, 113, 114, 115, 611, 612, 613, 614, 615, 616, 617, 618, 619, 620, 621, 622, 623, 624, 625, 626, 627, 628, 629] (by decide +kernel) (by decide +kernel)
set_option maxRecDepth 20000 in
theorem gL_law_X5_blockLength : GoodIn wsL_law (wsV RL 60 RX5 yX5_blockLength wsX5_blockLength) := goodIn_app (goodIn_of _ (by decide +kernel)) ggL_law_X5_blockLength
set_option maxRecDepth 20000 in
theorem ggL_law_X4_blockOf : GoodIn wsL_law wsX4_blockOf := goodIn_r _ [375, 20, 376, 377, 378, 2, 379, 29, 16, 129, 130, 131, 14, 132, 38, 380, 381, 382, 19, 383, 46, 384, 385, 386, 387, 263, 264, 265, 266, 44, 267, 240, 241, 242, 272, 273, 274, 275, 45, 605, 606, 607, 608, 609, 610, 630, 631, 632, 633, 634, 635, 636] (by decide +kernel) (by decide +kernel)
set_option maxRecDepth 20000 in
theorem gL_law_X4_blockOf : GoodIn wsL_law (wsV RL 61 RX4 yX4_blockOf wsX4_blockOf) := goodIn_app (goodIn_of _ (by decide +kernel)) ggL_law_X4_blockOf
set_option maxRecDepth 20000 in
theorem ggL_law_X5_blockOf : GoodIn wsL_law wsX5_blockOf := goodIn_r _ [391, 83, 76, 146, 147, 148, 5, 149, 124, 113, 114, 115, 611, 612, 613, 614, 615, 616, 617, 618, 619, 620, 621, 622, 623, 624, 625, 626, 627, 628, 629] (by decide +kernel) (by decide +kernel)
set_option maxRecDepth 20000 in
theorem gL_law_X5_blockOf : GoodIn wsL_law (wsV RL 64 RX5 yX5_blockOf wsX5_blockOf) := goodIn_app (goodIn_of _ (by decide +kernel)) ggL_law_X5_blockOf
set_option maxRecDepth 20000 in
theorem ggL_law_X4_predictedAddress : GoodIn wsL_law wsX4_predictedAddress := goodIn_r _ [395, 29, 20, 92, 93, 2, 94, 396, 397, 398, 19, 399, 46, 268, 269, 270, 271, 43, 267, 240, 241, 242, 263, 264, 265, 266, 44, 605, 606, 607, 608, 609, 610, 633, 634, 635, 636] (by decide +kernel) (by decide +kernel)
set_option maxRecDepth 20000 in
theorem gL_law_X4_predictedAddress : GoodIn wsL_law (wsV RL 65 RX4 yX4_predictedAddress wsX4_predictedAddress) := goodIn_app (goodIn_of _ (by decide +kernel)) ggL_law_X4_predictedAddress
set_option maxRecDepth 20000 in
theorem ggL_law_X5_predictedAddress : GoodIn wsL_law wsX5_predictedAddress := goodIn_r _ [403, 83, 113, 114, 5, 115, 404, 405, 406, 407, 294, 73, 74, 611, 612, 613, 614, 615, 616, 617, 618, 619, 620, 621, 622, 623, 624, 625, 626, 627, 628, 629] (by decide +kernel) (by decide +kernel)
set_option maxRecDepth 20000 in
theorem gL_law_X5_predictedAddress : GoodIn wsL_law (wsV RL 68 RX5 yX5_predictedAddress wsX5_predictedAddress) := goodIn_app (goodIn_of _ (by decide +kernel)) ggL_law_X5_predictedAddress
set_option maxRecDepth 20000 in
theorem ggL_law_X4_predictedValue : GoodIn wsL_law wsX4_predictedValue := goodIn_r _ [411, 20, 376, 377, 378, 2, 379, 29, 16, 129, 130, 131, 14, 132, 38, 380, 381, 382, 19, 383, 46, 384, 385, 386, 387, 263, 264, 265, 266, 44, 267, 240, 241, 242, 272, 273, 274, 275, 45, 412, 413, 414, 415, 15, 416, 417, 418, 419, 268, 269, 270, 271, 43, 133, 134, 135, 136, 35, 137, 420, 219, 220, 221, 37, 396, 397, 398, 399, 605, 606, 607, 608, 609, 610, 630, 631, 632, 633, 634, 635, 636] (by decide +kernel) (by decide +kernel)
set_option maxRecDepth 20000 in
theorem gL_law_X4_predictedValue : GoodIn wsL_law (wsV RL 69 RX4 yX4_predictedValue wsX4_predictedValue) := goodIn_app (goodIn_of _ (by decide +kernel)) ggL_law_X4_predictedValue
set_option maxRecDepth 20000 in
theorem ggL_law_X5_predictedValue : GoodIn wsL_law wsX5_predictedValue := goodIn_r _ [424, 83, 76, 146, 147, 148, 5, 149, 124, 113, 114, 115, 425, 426, 427, 428, 70, 69, 429, 430, 431, 432, 73, 74, 404, 405, 406, 407, 294, 611, 612, 613, 614, 615, 616, 617, 618, 619, 620, 621, 622, 623, 624, 625, 626, 627, 628, 629] (by decide +kernel) (by decide +kernel)
set_option maxRecDepth 20000 in
theorem gL_law_X5_predictedValue : GoodIn wsL_law (wsV RL 72 RX5 yX5_predictedValue wsX5_predictedValue) := goodIn_app (goodIn_of _ (by decide +kernel)) ggL_law_X5_predictedValue
set_option maxRecDepth 20000 in
theorem ggL_law_X4_correctionCount : GoodIn wsL_law wsX4_correctionCount := goodIn_r _ [436, 29, 437, 438, 439, 2, 440, 16, 104, 105, 106, 14, 107, 38, 441, 442, 443, 444, 20, 380, 381, 382, 19, 383, 46, 384, 385, 386, 387, 263, 264, 265, 266, 44, 267, 240, 241, 242, 272, 273, 274, 275, 45, 412, 413, 414, 415, 15, 416, 417, 418, 419, 268, 269, 270, 271, 43, 133, 134, 135, 136, 35, 137, 130, 131, 132, 420, 219, 220, 221, 37, 396, 397, 398, 399, 605, 606, 607, 608, 609, 610, 630, 631, 632, 633, 634, 635, 636] (by decide +kernel) (by decide +kernel)
set_option maxRecDepth 20000 in
theorem gL_law_X4_correctionCount : GoodIn wsL_law (wsV RL 73 RX4 yX4_correctionCount wsX4_correctionCount) := goodIn_app (goodIn_of _ (by decide +kernel)) ggL_law_X4_correctionCount
set_option maxRecDepth 20000 in
theorem ggL_law_X5_correctionCount : GoodIn wsL_law wsX5_correctionCount := goodIn_r _ [448, 83, 449, 450, 451, 5, 452, 124, 453, 454, 455, 456, 76, 71, 425, 426, 427, 428, 70, 69, 429, 430, 431, 432, 73, 74, 404, 405, 406, 407, 294, 611, 612, 613, 614, 615, 616, 617, 618, 619, 620, 621, 622, 623, 624, 625, 626, 627, 628, 629] (by decide +kernel) (by decide +kernel)
set_option maxRecDepth 20000 in
theorem gL_law_X5_correctionCount : GoodIn wsL_law (wsV RL 76 RX5 yX5_correctionCount wsX5_correctionCount) := goodIn_app (goodIn_of _ (by decide +kernel)) ggL_law_X5_correctionCount
set_option maxRecDepth 20000 in
theorem ggL_law_X4_correctionIndex : GoodIn wsL_law wsX4_correctionIndex := goodIn_r _ [460, 29, 16, 104, 105, 106, 14, 107, 38, 441, 442, 443, 2, 444, 20, 380, 381, 382, 19, 383, 46, 384, 385, 386, 387, 263, 264, 265, 266, 44, 267, 240, 241, 242, 272, 273, 274, 275, 45, 412, 413, 414, 415, 15, 416, 417, 418, 419, 268, 269, 270, 271, 43, 133, 134, 135, 136, 35, 137, 130, 131, 132, 420, 219, 220, 221, 37, 396, 397, 398, 399, 605, 606, 607, 608, 609, 610, 630, 631, 632, 633, 634, 635, 636] (by decide +kernel) (by decide +kernel)
set_option maxRecDepth 20000 in
theorem gL_law_X4_correctionIndex : GoodIn wsL_law (wsV RL 77 RX4 yX4_correctionIndex wsX4_correctionIndex) := goodIn_app (goodIn_of _ (by decide +kernel)) ggL_law_X4_correctionIndex
set_option maxRecDepth 20000 in
theorem ggL_law_X5_correctionIndex : GoodIn wsL_law wsX5_correctionIndex := goodIn_r _ [464, 83, 124, 453, 454, 455, 5, 456, 76, 71, 425, 426, 427, 428, 70, 69, 429, 430, 431, 432, 73, 74, 404, 405, 406, 407, 294, 611, 612, 613, 614, 615, 616, 617, 618, 619, 620, 621, 622, 623, 624, 625, 626, 627, 628, 629] (by decide +kernel) (by decide +kernel)
set_option maxRecDepth 20000 in
theorem gL_law_X5_correctionIndex : GoodIn wsL_law (wsV RL 80 RX5 yX5_correctionIndex wsX5_correctionIndex) := goodIn_app (goodIn_of _ (by decide +kernel)) ggL_law_X5_correctionIndex
set_option maxRecDepth 20000 in
theorem ggL_law_X4_literalCount : GoodIn wsL_law wsX4_literalCount := goodIn_r _ [468, 29, 469, 470, 471, 2, 472, 16, 20, 104, 105, 106, 14, 107, 38, 289, 244, 245, 19, 246, 46, 367, 273, 274, 275, 45, 267, 240, 241, 242, 605, 606, 607, 608, 609, 610, 630, 631, 632, 633, 634, 635, 636] (by decide +kernel) (by decide +kernel)
set_option maxRecDepth 20000 in
theorem gL_law_X4_literalCount : GoodIn wsL_law (wsV RL 81 RX4 yX4_literalCount wsX4_literalCount) := goodIn_app (goodIn_of _ (by decide +kernel)) ggL_law_X4_literalCount
set_option maxRecDepth 20000 in
theorem ggL_law_X5_literalCount : GoodIn wsL_law wsX5_literalCount := goodIn_r _ [476, 83, 477, 478, 479, 5, 480, 124, 76, 611, 612, 613, 614, 615, 616, 617, 618, 619, 620, 621, 622, 623, 624, 625, 626, 627, 628, 629] (by decide +kernel) (by decide +kernel)
set_option maxRecDepth 20000 in
theorem gL_law_X5_literalCount : GoodIn wsL_law (wsV RL 84 RX5 yX5_literalCount wsX5_literalCount) := goodIn_app (goodIn_of _ (by decide +kernel)) ggL_law_X5_literalCount
set_option maxRecDepth 20000 in
theorem ggL_law_X4_patchSize : GoodIn wsL_law wsX4_patchSize := goodIn_r _ [484, 29, 485, 486, 487, 2, 488, 20, 289, 244, 245, 19, 246, 46, 469, 470, 471, 472, 16, 104, 105, 106, 14, 107, 38, 367, 273, 274, 275, 45, 267, 240, 241, 242, 437, 438, 439, 440, 441, 442, 443, 444, 380, 381, 382, 383, 384, 385, 386, 387, 263, 264, 265, 266, 44, 272, 412, 413, 414, 415, 15, 416, 417, 418, 419, 268, 269, 270, 271, 43, 133, 134, 135, 136, 35, 137, 130, 131, 132, 420, 219, 220, 221, 37, 396, 397, 398, 399, 605, 606, 607, 608, 609, 610, 633, 634, 635, 636, 630, 631, 632] (by decide +kernel) (by decide +kernel)
set_option maxRecDepth 20000 in
theorem gL_law_X4_patchSize : GoodIn wsL_law (wsV RL 85 RX4 yX4_patchSize wsX4_patchSize) := goodIn_app (goodIn_of _ (by decide +kernel)) ggL_law_X4_patchSize
set_option maxRecDepth 20000 in
theorem ggL_law_X5_patchSize : GoodIn wsL_law wsX5_patchSize := goodIn_r _ [492, 83, 294, 477, 478, 479, 5, 480, 124, 76, 449, 450, 451, 452, 453, 454, 455, 456, 71, 425, 426, 427, 428, 70, 69, 429, 430, 431, 432, 73, 74, 404, 405, 406, 407, 611, 612, 613, 614, 615, 616, 617, 618, 619, 620, 621, 622, 623, 624, 625, 626, 627, 628, 629] (by decide +kernel) (by decide +kernel)
set_option maxRecDepth 20000 in
theorem gL_law_X5_patchSize : GoodIn wsL_law (wsV RL 88 RX5 yX5_patchSize wsX5_patchSize) := goodIn_app (goodIn_of _ (by decide +kernel)) ggL_law_X5_patchSize
set_option maxRecDepth 20000 in
theorem ggL_law_X4_unpredictedSize : GoodIn wsL_law wsX4_unpredictedSize := goodIn_r _ [496, 29, 485, 486, 487, 2, 488, 20, 289, 244, 245, 19, 246, 46, 469, 470, 471, 472, 16, 104, 105, 106, 14, 107, 38, 367, 273, 274, 275, 45, 267, 240, 241, 242, 497, 498, 499, 500, 501, 502, 503, 504, 15, 380, 381, 382, 383, 384, 385, 386, 387, 263, 264, 265, 266, 44, 272, 416, 417, 418, 419, 268, 269, 270, 271, 43, 133, 134, 135, 136, 35, 137, 130, 131, 132, 605, 606, 607, 608, 609, 610, 633, 634, 635, 636, 630, 631, 632] (by decide +kernel) (by decide +kernel)
set_option maxRecDepth 20000 in
theorem gL_law_X4_unpredictedSize : GoodIn wsL_law (wsV RL 89 RX4 yX4_unpredictedSize wsX4_unpredictedSize) := goodIn_app (goodIn_of _ (by decide +kernel)) ggL_law_X4_unpredictedSize
set_option maxRecDepth 20000 in
theorem ggL_law_X5_unpredictedSize : GoodIn wsL_law wsX5_unpredictedSize := goodIn_r _ [508, 83, 124, 76, 69, 71, 294, 429, 430, 431, 5, 432, 73, 74, 477, 478, 479, 480, 611, 612, 613, 614, 615, 616, 617, 618, 619, 620, 621, 622, 623, 624, 625, 626, 627, 628, 629] (by decide +kernel) (by decide +kernel)
set_option maxRecDepth 20000 in
theorem gL_law_X5_unpredictedSize : GoodIn wsL_law (wsV RL 92 RX5 yX5_unpredictedSize wsX5_unpredictedSize) := goodIn_app (goodIn_of _ (by decide +kernel)) ggL_law_X5_unpredictedSize
set_option maxRecDepth 20000 in
theorem ggL_law_X4_copyCount : GoodIn wsL_law wsX4_copyCount := goodIn_r _ [512, 29, 28, 513, 514, 515, 27, 516, 64, 605, 606, 607, 608, 609, 610, 643, 644, 645, 646] (by decide +kernel) (by decide +kernel)
set_option maxRecDepth 20000 in
theorem gL_law_X4_copyCount : GoodIn wsL_law (wsV RL 93 RX4 yX4_copyCount wsX4_copyCount) := goodIn_app (goodIn_of _ (by decide +kernel)) ggL_law_X4_copyCount
set_option maxRecDepth 20000 in
theorem ggL_law_X5_copyCount : GoodIn wsL_law wsX5_copyCount := goodIn_r _ [520, 83, 319, 611, 612, 613, 614, 615, 616, 617, 618, 619, 620, 621, 622, 623, 624, 625, 626, 627, 628, 629] (by decide +kernel) (by decide +kernel)
set_option maxRecDepth 20000 in
theorem gL_law_X5_copyCount : GoodIn wsL_law (wsV RL 96 RX5 yX5_copyCount wsX5_copyCount) := goodIn_app (goodIn_of _ (by decide +kernel)) ggL_law_X5_copyCount
set_option maxRecDepth 20000 in
theorem ggL_law_X4_copyStep : GoodIn wsL_law wsX4_copyStep := goodIn_r _ [524, 29, 28, 525, 526, 527, 27, 528, 64, 529, 530, 531, 532, 61, 533, 605, 606, 607, 608, 609, 610, 643, 644, 645, 646] (by decide +kernel) (by decide +kernel)
set_option maxRecDepth 20000 in
theorem gL_law_X4_copyStep : GoodIn wsL_law (wsV RL 97 RX4 yX4_copyStep wsX4_copyStep) := goodIn_app (goodIn_of _ (by decide +kernel)) ggL_law_X4_copyStep
set_option maxRecDepth 20000 in
theorem ggL_law_X5_copyStep : GoodIn wsL_law wsX5_copyStep := goodIn_r _ [537, 83, 319, 79, 113, 114, 5, 115, 611, 612, 613, 614, 615, 616, 617, 618, 619, 620, 621, 622, 623, 624, 625, 626, 627, 628, 629] (by decide +kernel) (by decide +kernel)
set_option maxRecDepth 20000 in
theorem gL_law_X5_copyStep : GoodIn wsL_law (wsV RL 100 RX5 yX5_copyStep wsX5_copyStep) := goodIn_app (goodIn_of _ (by decide +kernel)) ggL_law_X5_copyStep
set_option maxRecDepth 20000 in
theorem ggL_law_X4_isDropped : GoodIn wsL_law wsX4_isDropped := goodIn_r _ [541, 28, 340, 341, 342, 2, 343, 29, 20, 344, 240, 241, 19, 242, 46, 542, 543, 544, 27, 545, 63, 605, 606, 607, 608, 609, 610, 633, 634, 635, 636, 643, 644, 645, 646] (by decide +kernel) (by decide +kernel)
set_option maxRecDepth 20000 in
theorem gL_law_X4_isDropped : GoodIn wsL_law (wsV RL 101 RX4 yX4_isDropped wsX4_isDropped) := goodIn_app (goodIn_of _ (by decide +kernel)) ggL_law_X4_isDropped
set_option maxRecDepth 20000 in
theorem ggL_law_X5_isDropped : GoodIn wsL_law wsX5_isDropped := goodIn_r _ [549, 83, 294, 80, 113, 114, 5, 115, 611, 612, 613, 614, 615, 616, 617, 618, 619, 620, 621, 622, 623, 624, 625, 626, 627, 628, 629] (by decide +kernel) (by decide +kernel)
set_option maxRecDepth 20000 in
theorem gL_law_X5_isDropped : GoodIn wsL_law (wsV RL 104 RX5 yX5_isDropped wsX5_isDropped) := goodIn_app (goodIn_of _ (by decide +kernel)) ggL_law_X5_isDropped
set_option maxRecDepth 20000 in
theorem ggL_law_X4_inPlaceSize : GoodIn wsL_law wsX4_inPlaceSize := goodIn_r _ [553, 29, 28, 16, 513, 514, 515, 27, 516, 64, 104, 105, 106, 14, 107, 38, 554, 555, 556, 2, 557, 558, 559, 560, 561, 20, 380, 381, 382, 19, 383, 46, 384, 385, 386, 387, 263, 264, 265, 266, 44, 267, 240, 241, 242, 272, 273, 274, 275, 45, 542, 543, 544, 545, 63, 441, 442, 443, 444, 412, 413, 414, 415, 15, 416, 417, 418, 419, 268, 269, 270, 271, 43, 133, 134, 135, 136, 35, 137, 130, 131, 132, 420, 219, 220, 221, 37, 396, 397, 398, 399, 605, 606, 607, 608, 609, 610, 643, 644, 645, 646, 630, 631, 632, 633, 634, 635, 636] (by decide +kernel) (by decide +kernel)
set_option maxRecDepth 20000 in
theorem gL_law_X4_inPlaceSize : GoodIn wsL_law (wsV RL 105 RX4 yX4_inPlaceSize wsX4_inPlaceSize) := goodIn_app (goodIn_of _ (by decide +kernel)) ggL_law_X4_inPlaceSize
set_option maxRecDepth 20000 in
theorem ggL_law_X5_inPlaceSize : GoodIn wsL_law wsX5_inPlaceSize := goodIn_r _ [565, 83, 319, 124, 566, 567, 568, 5, 569, 76, 80, 453, 454, 455, 456, 71, 425, 426, 427, 428, 70, 69, 429, 430, 431, 432, 73, 74, 404, 405, 406, 407, 294, 611, 612, 613, 614, 615, 616, 617, 618, 619, 620, 621, 622, 623, 624, 625, 626, 627, 628, 629] (by decide +kernel) (by decide +kernel)
set_option maxRecDepth 20000 in
theorem gL_law_X5_inPlaceSize : GoodIn wsL_law (wsV RL 108 RX5 yX5_inPlaceSize wsX5_inPlaceSize) := goodIn_app (goodIn_of _ (by decide +kernel)) ggL_law_X5_inPlaceSize
set_option maxRecDepth 20000 in
theorem ggL_law_X4_memoryAfter : GoodIn wsL_law wsX4_memoryAfter := goodIn_r _ [573, 29, 28, 15, 16, 574, 575, 576, 577, 513, 514, 515, 27, 516, 64, 104, 105, 106, 14, 107, 38, 578, 579, 580, 2, 581, 20, 582, 583, 584, 585, 586, 530, 531, 532, 61, 533, 526, 527, 528, 587, 385, 386, 19, 387, 263, 264, 265, 266, 44, 267, 240, 241, 242, 46, 272, 273, 274, 275, 45, 588, 417, 418, 419, 268, 269, 270, 271, 43, 133, 134, 135, 136, 35, 137, 130, 131, 132, 605, 606, 607, 608, 609, 610, 643, 644, 645, 646, 630, 631, 632, 633, 634, 635, 636] (by decide +kernel) (by decide +kernel)
set_option maxRecDepth 20000 in
theorem gL_law_X4_memoryAfter : GoodIn wsL_law (wsV RL 109 RX4 yX4_memoryAfter wsX4_memoryAfter) := goodIn_app (goodIn_of _ (by decide +kernel)) ggL_law_X4_memoryAfter
set_option maxRecDepth 20000 in
theorem ggL_law_X5_memoryAfter : GoodIn wsL_law wsX5_memoryAfter := goodIn_r _ [592, 83, 319, 112, 124, 81, 113, 114, 5, 115, 593, 594, 595, 596, 69, 79, 75, 82, 73, 74, 611, 612, 613, 614, 615, 616, 617, 618, 619, 620, 621, 622, 623, 624, 625, 626, 627, 628, 629] (by decide +kernel) (by decide +kernel)
set_option maxRecDepth 20000 in
theorem gL_law_X5_memoryAfter : GoodIn wsL_law (wsV RL 112 RX5 yX5_memoryAfter wsX5_memoryAfter) := goodIn_app (goodIn_of _ (by decide +kernel)) ggL_law_X5_memoryAfter
set_option maxRecDepth 20000 in
theorem ggL_law_X4_patchedValue : GoodIn wsL_law wsX4_patchedValue := goodIn_r _ [600, 16, 28, 20, 15, 376, 377, 378, 2, 379, 29, 129, 130, 131, 14, 132, 38, 558, 559, 560, 561, 380, 381, 382, 19, 383, 46, 384, 385, 386, 387, 263, 264, 265, 266, 44, 267, 240, 241, 242, 272, 273, 274, 275, 45, 542, 543, 544, 27, 545, 63, 441, 442, 443, 444, 412, 413, 414, 415, 416, 417, 418, 419, 268, 269, 270, 271, 43, 133, 134, 135, 136, 35, 137, 420, 219, 220, 221, 37, 396, 397, 398, 399, 513, 514, 515, 516, 64, 578, 579, 580, 581, 582, 583, 584, 585, 586, 530, 531, 532, 61, 533, 526, 527, 528, 587, 588, 605, 606, 607, 608, 609, 610, 630, 631, 632, 633, 634, 635, 636, 643, 644, 645, 646] (by decide +kernel) (by decide +kernel)
set_option maxRecDepth 20000 in
theorem gL_law_X4_patchedValue : GoodIn wsL_law (wsV RL 113 RX4 yX4_patchedValue wsX4_patchedValue) := goodIn_app (goodIn_of _ (by decide +kernel)) ggL_law_X4_patchedValue
set_option maxRecDepth 20000 in
theorem ggL_law_X5_patchedValue : GoodIn wsL_law wsX5_patchedValue := goodIn_r _ [604, 83, 71, 319, 70, 81, 146, 147, 148, 5, 149, 124, 113, 114, 115, 566, 567, 568, 569, 76, 80, 453, 454, 455, 456, 425, 426, 427, 428, 69, 429, 430, 431, 432, 73, 74, 404, 405, 406, 407, 294, 593, 594, 595, 596, 112, 79, 75, 82, 611, 612, 613, 614, 615, 616, 617, 618, 619, 620, 621, 622, 623, 624, 625, 626, 627, 628, 629] (by decide +kernel) (by decide +kernel)
set_option maxRecDepth 20000 in
theorem gL_law_X5_patchedValue : GoodIn wsL_law (wsV RL 116 RX5 yX5_patchedValue wsX5_patchedValue) := goodIn_app (goodIn_of _ (by decide +kernel)) ggL_law_X5_patchedValue
theorem dL_law_0 : decode cL_law 0 = .ok (.new 7, 3) := by decide +kernel
theorem dL_law_3 : decode cL_law 3 = .ok (.dup, 1) := by decide +kernel
theorem dL_law_4 : decode cL_law 4 = .ok (.invokespecial 9, 3) := by decide +kernel
theorem dL_law_7 : decode cL_law 7 = .ok (.astore_n 1, 1) := by decide +kernel
theorem dL_law_8 : decode cL_law 8 = .ok (.new 10, 3) := by decide +kernel
theorem dL_law_11 : decode cL_law 11 = .ok (.dup, 1) := by decide +kernel
theorem dL_law_12 : decode cL_law 12 = .ok (.invokespecial 12, 3) := by decide +kernel
theorem dL_law_15 : decode cL_law 15 = .ok (.astore_n 2, 1) := by decide +kernel
theorem dL_law_16 : decode cL_law 16 = .ok (.iconst 0, 1) := by decide +kernel
theorem dL_law_17 : decode cL_law 17 = .ok (.istore_n 3, 1) := by decide +kernel
theorem dL_law_18 : decode cL_law 18 = .ok (.iload_n 3, 1) := by decide +kernel
theorem dL_law_19 : decode cL_law 19 = .ok (.aload_n 0, 1) := by decide +kernel
theorem dL_law_20 : decode cL_law 20 = .ok (.arraylength, 1) := by decide +kernel
theorem dL_law_21 : decode cL_law 21 = .ok (.iconst 3, 1) := by decide +kernel
theorem dL_law_22 : decode cL_law 22 = .ok (.isub, 1) := by decide +kernel
theorem dL_law_23 : decode cL_law 23 = .ok (.if_icmp .gt 688, 3) := by decide +kernel
theorem dL_law_26 : decode cL_law 26 = .ok (.aload_n 0, 1) := by decide +kernel
theorem dL_law_27 : decode cL_law 27 = .ok (.iload_n 3, 1) := by decide +kernel
theorem dL_law_28 : decode cL_law 28 = .ok (.iaload, 1) := by decide +kernel
theorem dL_law_29 : decode cL_law 29 = .ok (.bipush 31, 2) := by decide +kernel
theorem dL_law_31 : decode cL_law 31 = .ok (.iand, 1) := by decide +kernel
theorem dL_law_32 : decode cL_law 32 = .ok (.tableswitch 673 0 24 #[116, 165, 214, 247, 260, 273, 286, 309, 332, 355, 378, 401, 424, 447, 470, 483, 506, 519, 532, 545, 558, 581, 604, 617, 650], 116) := by decide +kernel
theorem dL_law_148 : decode cL_law 148 = .ok (.aload_n 1, 1) := by decide +kernel
theorem dL_law_149 : decode cL_law 149 = .ok (.aload_n 0, 1) := by decide +kernel
theorem dL_law_150 : decode cL_law 150 = .ok (.iload_n 3, 1) := by decide +kernel
theorem dL_law_151 : decode cL_law 151 = .ok (.iconst 1, 1) := by decide +kernel
theorem dL_law_152 : decode cL_law 152 = .ok (.iadd, 1) := by decide +kernel
theorem dL_law_153 : decode cL_law 153 = .ok (.iaload, 1) := by decide +kernel
theorem dL_law_154 : decode cL_law 154 = .ok (.aload_n 0, 1) := by decide +kernel
theorem dL_law_155 : decode cL_law 155 = .ok (.iload_n 3, 1) := by decide +kernel
theorem dL_law_156 : decode cL_law 156 = .ok (.iconst 2, 1) := by decide +kernel
theorem dL_law_157 : decode cL_law 157 = .ok (.iadd, 1) := by decide +kernel
theorem dL_law_158 : decode cL_law 158 = .ok (.iaload, 1) := by decide +kernel
theorem dL_law_159 : decode cL_law 159 = .ok (.ifCond .eq 7, 3) := by decide +kernel
theorem dL_law_162 : decode cL_law 162 = .ok (.iconst 1, 1) := by decide +kernel
theorem dL_law_163 : decode cL_law 163 = .ok (.goto 4, 3) := by decide +kernel
theorem dL_law_166 : decode cL_law 166 = .ok (.iconst 0, 1) := by decide +kernel
theorem dL_law_167 : decode cL_law 167 = .ok (.invokevirtual 13, 3) := by decide +kernel
theorem dL_law_170 : decode cL_law 170 = .ok (.aload_n 2, 1) := by decide +kernel
theorem dL_law_171 : decode cL_law 171 = .ok (.aload_n 0, 1) := by decide +kernel
theorem dL_law_172 : decode cL_law 172 = .ok (.iload_n 3, 1) := by decide +kernel
theorem dL_law_173 : decode cL_law 173 = .ok (.iconst 1, 1) := by decide +kernel
theorem dL_law_174 : decode cL_law 174 = .ok (.iadd, 1) := by decide +kernel
theorem dL_law_175 : decode cL_law 175 = .ok (.iaload, 1) := by decide +kernel
theorem dL_law_176 : decode cL_law 176 = .ok (.aload_n 0, 1) := by decide +kernel
theorem dL_law_177 : decode cL_law 177 = .ok (.iload_n 3, 1) := by decide +kernel
theorem dL_law_178 : decode cL_law 178 = .ok (.iconst 2, 1) := by decide +kernel
theorem dL_law_179 : decode cL_law 179 = .ok (.iadd, 1) := by decide +kernel
theorem dL_law_180 : decode cL_law 180 = .ok (.iaload, 1) := by decide +kernel
theorem dL_law_181 : decode cL_law 181 = .ok (.ifCond .eq 7, 3) := by decide +kernel
theorem dL_law_184 : decode cL_law 184 = .ok (.iconst 1, 1) := by decide +kernel
theorem dL_law_185 : decode cL_law 185 = .ok (.goto 4, 3) := by decide +kernel
theorem dL_law_188 : decode cL_law 188 = .ok (.iconst 0, 1) := by decide +kernel
theorem dL_law_189 : decode cL_law 189 = .ok (.invokevirtual 17, 3) := by decide +kernel
theorem dL_law_192 : decode cL_law 192 = .ok (.if_icmp .eq 513, 3) := by decide +kernel
theorem dL_law_195 : decode cL_law 195 = .ok (.iconst 0, 1) := by decide +kernel
theorem dL_law_196 : decode cL_law 196 = .ok (.ireturn, 1) := by decide +kernel
theorem dL_law_197 : decode cL_law 197 = .ok (.aload_n 1, 1) := by decide +kernel
theorem dL_law_198 : decode cL_law 198 = .ok (.aload_n 0, 1) := by decide +kernel
theorem dL_law_199 : decode cL_law 199 = .ok (.iload_n 3, 1) := by decide +kernel
theorem dL_law_200 : decode cL_law 200 = .ok (.iconst 1, 1) := by decide +kernel
theorem dL_law_201 : decode cL_law 201 = .ok (.iadd, 1) := by decide +kernel
theorem dL_law_202 : decode cL_law 202 = .ok (.iaload, 1) := by decide +kernel
theorem dL_law_203 : decode cL_law 203 = .ok (.aload_n 0, 1) := by decide +kernel
theorem dL_law_204 : decode cL_law 204 = .ok (.iload_n 3, 1) := by decide +kernel
theorem dL_law_205 : decode cL_law 205 = .ok (.iconst 2, 1) := by decide +kernel
theorem dL_law_206 : decode cL_law 206 = .ok (.iadd, 1) := by decide +kernel
theorem dL_law_207 : decode cL_law 207 = .ok (.iaload, 1) := by decide +kernel
theorem dL_law_208 : decode cL_law 208 = .ok (.ifCond .eq 7, 3) := by decide +kernel
theorem dL_law_211 : decode cL_law 211 = .ok (.iconst 1, 1) := by decide +kernel
theorem dL_law_212 : decode cL_law 212 = .ok (.goto 4, 3) := by decide +kernel
theorem dL_law_215 : decode cL_law 215 = .ok (.iconst 0, 1) := by decide +kernel
theorem dL_law_216 : decode cL_law 216 = .ok (.invokevirtual 18, 3) := by decide +kernel
theorem dL_law_219 : decode cL_law 219 = .ok (.aload_n 2, 1) := by decide +kernel
theorem dL_law_220 : decode cL_law 220 = .ok (.aload_n 0, 1) := by decide +kernel
theorem dL_law_221 : decode cL_law 221 = .ok (.iload_n 3, 1) := by decide +kernel
theorem dL_law_222 : decode cL_law 222 = .ok (.iconst 1, 1) := by decide +kernel
theorem dL_law_223 : decode cL_law 223 = .ok (.iadd, 1) := by decide +kernel
theorem dL_law_224 : decode cL_law 224 = .ok (.iaload, 1) := by decide +kernel
theorem dL_law_225 : decode cL_law 225 = .ok (.aload_n 0, 1) := by decide +kernel
theorem dL_law_226 : decode cL_law 226 = .ok (.iload_n 3, 1) := by decide +kernel
theorem dL_law_227 : decode cL_law 227 = .ok (.iconst 2, 1) := by decide +kernel
theorem dL_law_228 : decode cL_law 228 = .ok (.iadd, 1) := by decide +kernel
theorem dL_law_229 : decode cL_law 229 = .ok (.iaload, 1) := by decide +kernel
theorem dL_law_230 : decode cL_law 230 = .ok (.ifCond .eq 7, 3) := by decide +kernel
theorem dL_law_233 : decode cL_law 233 = .ok (.iconst 1, 1) := by decide +kernel
theorem dL_law_234 : decode cL_law 234 = .ok (.goto 4, 3) := by decide +kernel
theorem dL_law_237 : decode cL_law 237 = .ok (.iconst 0, 1) := by decide +kernel
theorem dL_law_238 : decode cL_law 238 = .ok (.invokevirtual 21, 3) := by decide +kernel
theorem dL_law_241 : decode cL_law 241 = .ok (.if_icmp .eq 464, 3) := by decide +kernel
theorem dL_law_244 : decode cL_law 244 = .ok (.iconst 0, 1) := by decide +kernel
theorem dL_law_245 : decode cL_law 245 = .ok (.ireturn, 1) := by decide +kernel
theorem dL_law_246 : decode cL_law 246 = .ok (.aload_n 1, 1) := by decide +kernel
theorem dL_law_247 : decode cL_law 247 = .ok (.aload_n 0, 1) := by decide +kernel
theorem dL_law_248 : decode cL_law 248 = .ok (.iload_n 3, 1) := by decide +kernel
theorem dL_law_249 : decode cL_law 249 = .ok (.iconst 1, 1) := by decide +kernel
theorem dL_law_250 : decode cL_law 250 = .ok (.iadd, 1) := by decide +kernel
theorem dL_law_251 : decode cL_law 251 = .ok (.iaload, 1) := by decide +kernel
theorem dL_law_252 : decode cL_law 252 = .ok (.aload_n 0, 1) := by decide +kernel
theorem dL_law_253 : decode cL_law 253 = .ok (.iload_n 3, 1) := by decide +kernel
theorem dL_law_254 : decode cL_law 254 = .ok (.iconst 2, 1) := by decide +kernel
theorem dL_law_255 : decode cL_law 255 = .ok (.iadd, 1) := by decide +kernel
theorem dL_law_256 : decode cL_law 256 = .ok (.iaload, 1) := by decide +kernel
theorem dL_law_257 : decode cL_law 257 = .ok (.invokevirtual 22, 3) := by decide +kernel
theorem dL_law_260 : decode cL_law 260 = .ok (.aload_n 2, 1) := by decide +kernel
theorem dL_law_261 : decode cL_law 261 = .ok (.aload_n 0, 1) := by decide +kernel
theorem dL_law_262 : decode cL_law 262 = .ok (.iload_n 3, 1) := by decide +kernel
theorem dL_law_263 : decode cL_law 263 = .ok (.iconst 1, 1) := by decide +kernel
theorem dL_law_264 : decode cL_law 264 = .ok (.iadd, 1) := by decide +kernel
theorem dL_law_265 : decode cL_law 265 = .ok (.iaload, 1) := by decide +kernel
theorem dL_law_266 : decode cL_law 266 = .ok (.aload_n 0, 1) := by decide +kernel
theorem dL_law_267 : decode cL_law 267 = .ok (.iload_n 3, 1) := by decide +kernel
theorem dL_law_268 : decode cL_law 268 = .ok (.iconst 2, 1) := by decide +kernel
theorem dL_law_269 : decode cL_law 269 = .ok (.iadd, 1) := by decide +kernel
theorem dL_law_270 : decode cL_law 270 = .ok (.iaload, 1) := by decide +kernel
theorem dL_law_271 : decode cL_law 271 = .ok (.invokevirtual 26, 3) := by decide +kernel
theorem dL_law_274 : decode cL_law 274 = .ok (.if_icmp .eq 431, 3) := by decide +kernel
theorem dL_law_277 : decode cL_law 277 = .ok (.iconst 0, 1) := by decide +kernel
theorem dL_law_278 : decode cL_law 278 = .ok (.ireturn, 1) := by decide +kernel
theorem dL_law_279 : decode cL_law 279 = .ok (.aload_n 1, 1) := by decide +kernel
theorem dL_law_280 : decode cL_law 280 = .ok (.invokevirtual 27, 3) := by decide +kernel
theorem dL_law_283 : decode cL_law 283 = .ok (.aload_n 2, 1) := by decide +kernel
theorem dL_law_284 : decode cL_law 284 = .ok (.invokevirtual 31, 3) := by decide +kernel
theorem dL_law_287 : decode cL_law 287 = .ok (.if_icmp .eq 418, 3) := by decide +kernel
theorem dL_law_290 : decode cL_law 290 = .ok (.iconst 0, 1) := by decide +kernel
theorem dL_law_291 : decode cL_law 291 = .ok (.ireturn, 1) := by decide +kernel
theorem dL_law_292 : decode cL_law 292 = .ok (.aload_n 1, 1) := by decide +kernel
theorem dL_law_293 : decode cL_law 293 = .ok (.invokevirtual 32, 3) := by decide +kernel
theorem dL_law_296 : decode cL_law 296 = .ok (.aload_n 2, 1) := by decide +kernel
theorem dL_law_297 : decode cL_law 297 = .ok (.invokevirtual 35, 3) := by decide +kernel
theorem dL_law_300 : decode cL_law 300 = .ok (.if_icmp .eq 405, 3) := by decide +kernel
theorem dL_law_303 : decode cL_law 303 = .ok (.iconst 0, 1) := by decide +kernel
theorem dL_law_304 : decode cL_law 304 = .ok (.ireturn, 1) := by decide +kernel
theorem dL_law_305 : decode cL_law 305 = .ok (.aload_n 1, 1) := by decide +kernel
theorem dL_law_306 : decode cL_law 306 = .ok (.invokevirtual 36, 3) := by decide +kernel
theorem dL_law_309 : decode cL_law 309 = .ok (.aload_n 2, 1) := by decide +kernel
theorem dL_law_310 : decode cL_law 310 = .ok (.invokevirtual 39, 3) := by decide +kernel
theorem dL_law_313 : decode cL_law 313 = .ok (.if_icmp .eq 392, 3) := by decide +kernel
theorem dL_law_316 : decode cL_law 316 = .ok (.iconst 0, 1) := by decide +kernel
theorem dL_law_317 : decode cL_law 317 = .ok (.ireturn, 1) := by decide +kernel
theorem dL_law_318 : decode cL_law 318 = .ok (.aload_n 1, 1) := by decide +kernel
theorem dL_law_319 : decode cL_law 319 = .ok (.aload_n 0, 1) := by decide +kernel
theorem dL_law_320 : decode cL_law 320 = .ok (.iload_n 3, 1) := by decide +kernel
theorem dL_law_321 : decode cL_law 321 = .ok (.iconst 1, 1) := by decide +kernel
theorem dL_law_322 : decode cL_law 322 = .ok (.iadd, 1) := by decide +kernel
theorem dL_law_323 : decode cL_law 323 = .ok (.iaload, 1) := by decide +kernel
theorem dL_law_324 : decode cL_law 324 = .ok (.invokevirtual 40, 3) := by decide +kernel
theorem dL_law_327 : decode cL_law 327 = .ok (.aload_n 2, 1) := by decide +kernel
theorem dL_law_328 : decode cL_law 328 = .ok (.aload_n 0, 1) := by decide +kernel
theorem dL_law_329 : decode cL_law 329 = .ok (.iload_n 3, 1) := by decide +kernel
theorem dL_law_330 : decode cL_law 330 = .ok (.iconst 1, 1) := by decide +kernel
theorem dL_law_331 : decode cL_law 331 = .ok (.iadd, 1) := by decide +kernel
theorem dL_law_332 : decode cL_law 332 = .ok (.iaload, 1) := by decide +kernel
theorem dL_law_333 : decode cL_law 333 = .ok (.invokevirtual 44, 3) := by decide +kernel
theorem dL_law_336 : decode cL_law 336 = .ok (.if_icmp .eq 369, 3) := by decide +kernel
theorem dL_law_339 : decode cL_law 339 = .ok (.iconst 0, 1) := by decide +kernel
theorem dL_law_340 : decode cL_law 340 = .ok (.ireturn, 1) := by decide +kernel
theorem dL_law_341 : decode cL_law 341 = .ok (.aload_n 1, 1) := by decide +kernel
theorem dL_law_342 : decode cL_law 342 = .ok (.aload_n 0, 1) := by decide +kernel
theorem dL_law_343 : decode cL_law 343 = .ok (.iload_n 3, 1) := by decide +kernel
theorem dL_law_344 : decode cL_law 344 = .ok (.iconst 1, 1) := by decide +kernel
theorem dL_law_345 : decode cL_law 345 = .ok (.iadd, 1) := by decide +kernel
theorem dL_law_346 : decode cL_law 346 = .ok (.iaload, 1) := by decide +kernel
theorem dL_law_347 : decode cL_law 347 = .ok (.invokevirtual 45, 3) := by decide +kernel
theorem dL_law_350 : decode cL_law 350 = .ok (.aload_n 2, 1) := by decide +kernel
theorem dL_law_351 : decode cL_law 351 = .ok (.aload_n 0, 1) := by decide +kernel
theorem dL_law_352 : decode cL_law 352 = .ok (.iload_n 3, 1) := by decide +kernel
theorem dL_law_353 : decode cL_law 353 = .ok (.iconst 1, 1) := by decide +kernel
theorem dL_law_354 : decode cL_law 354 = .ok (.iadd, 1) := by decide +kernel
theorem dL_law_355 : decode cL_law 355 = .ok (.iaload, 1) := by decide +kernel
theorem dL_law_356 : decode cL_law 356 = .ok (.invokevirtual 48, 3) := by decide +kernel
theorem dL_law_359 : decode cL_law 359 = .ok (.if_icmp .eq 346, 3) := by decide +kernel
theorem dL_law_362 : decode cL_law 362 = .ok (.iconst 0, 1) := by decide +kernel
theorem dL_law_363 : decode cL_law 363 = .ok (.ireturn, 1) := by decide +kernel
theorem dL_law_364 : decode cL_law 364 = .ok (.aload_n 1, 1) := by decide +kernel
theorem dL_law_365 : decode cL_law 365 = .ok (.aload_n 0, 1) := by decide +kernel
theorem dL_law_366 : decode cL_law 366 = .ok (.iload_n 3, 1) := by decide +kernel
theorem dL_law_367 : decode cL_law 367 = .ok (.iconst 1, 1) := by decide +kernel
theorem dL_law_368 : decode cL_law 368 = .ok (.iadd, 1) := by decide +kernel
theorem dL_law_369 : decode cL_law 369 = .ok (.iaload, 1) := by decide +kernel
theorem dL_law_370 : decode cL_law 370 = .ok (.invokevirtual 49, 3) := by decide +kernel
theorem dL_law_373 : decode cL_law 373 = .ok (.aload_n 2, 1) := by decide +kernel
theorem dL_law_374 : decode cL_law 374 = .ok (.aload_n 0, 1) := by decide +kernel
theorem dL_law_375 : decode cL_law 375 = .ok (.iload_n 3, 1) := by decide +kernel
theorem dL_law_376 : decode cL_law 376 = .ok (.iconst 1, 1) := by decide +kernel
theorem dL_law_377 : decode cL_law 377 = .ok (.iadd, 1) := by decide +kernel
theorem dL_law_378 : decode cL_law 378 = .ok (.iaload, 1) := by decide +kernel
theorem dL_law_379 : decode cL_law 379 = .ok (.invokevirtual 52, 3) := by decide +kernel
theorem dL_law_382 : decode cL_law 382 = .ok (.if_icmp .eq 323, 3) := by decide +kernel
theorem dL_law_385 : decode cL_law 385 = .ok (.iconst 0, 1) := by decide +kernel
theorem dL_law_386 : decode cL_law 386 = .ok (.ireturn, 1) := by decide +kernel
theorem dL_law_387 : decode cL_law 387 = .ok (.aload_n 1, 1) := by decide +kernel
theorem dL_law_388 : decode cL_law 388 = .ok (.aload_n 0, 1) := by decide +kernel
theorem dL_law_389 : decode cL_law 389 = .ok (.iload_n 3, 1) := by decide +kernel
theorem dL_law_390 : decode cL_law 390 = .ok (.iconst 1, 1) := by decide +kernel
theorem dL_law_391 : decode cL_law 391 = .ok (.iadd, 1) := by decide +kernel
theorem dL_law_392 : decode cL_law 392 = .ok (.iaload, 1) := by decide +kernel
theorem dL_law_393 : decode cL_law 393 = .ok (.invokevirtual 53, 3) := by decide +kernel
theorem dL_law_396 : decode cL_law 396 = .ok (.aload_n 2, 1) := by decide +kernel
theorem dL_law_397 : decode cL_law 397 = .ok (.aload_n 0, 1) := by decide +kernel
theorem dL_law_398 : decode cL_law 398 = .ok (.iload_n 3, 1) := by decide +kernel
theorem dL_law_399 : decode cL_law 399 = .ok (.iconst 1, 1) := by decide +kernel
theorem dL_law_400 : decode cL_law 400 = .ok (.iadd, 1) := by decide +kernel
theorem dL_law_401 : decode cL_law 401 = .ok (.iaload, 1) := by decide +kernel
theorem dL_law_402 : decode cL_law 402 = .ok (.invokevirtual 56, 3) := by decide +kernel
theorem dL_law_405 : decode cL_law 405 = .ok (.if_icmp .eq 300, 3) := by decide +kernel
theorem dL_law_408 : decode cL_law 408 = .ok (.iconst 0, 1) := by decide +kernel
theorem dL_law_409 : decode cL_law 409 = .ok (.ireturn, 1) := by decide +kernel
theorem dL_law_410 : decode cL_law 410 = .ok (.aload_n 1, 1) := by decide +kernel
theorem dL_law_411 : decode cL_law 411 = .ok (.aload_n 0, 1) := by decide +kernel
theorem dL_law_412 : decode cL_law 412 = .ok (.iload_n 3, 1) := by decide +kernel
theorem dL_law_413 : decode cL_law 413 = .ok (.iconst 1, 1) := by decide +kernel
theorem dL_law_414 : decode cL_law 414 = .ok (.iadd, 1) := by decide +kernel
theorem dL_law_415 : decode cL_law 415 = .ok (.iaload, 1) := by decide +kernel
theorem dL_law_416 : decode cL_law 416 = .ok (.invokevirtual 57, 3) := by decide +kernel
theorem dL_law_419 : decode cL_law 419 = .ok (.aload_n 2, 1) := by decide +kernel
theorem dL_law_420 : decode cL_law 420 = .ok (.aload_n 0, 1) := by decide +kernel
theorem dL_law_421 : decode cL_law 421 = .ok (.iload_n 3, 1) := by decide +kernel
theorem dL_law_422 : decode cL_law 422 = .ok (.iconst 1, 1) := by decide +kernel
theorem dL_law_423 : decode cL_law 423 = .ok (.iadd, 1) := by decide +kernel
theorem dL_law_424 : decode cL_law 424 = .ok (.iaload, 1) := by decide +kernel
theorem dL_law_425 : decode cL_law 425 = .ok (.invokevirtual 60, 3) := by decide +kernel
theorem dL_law_428 : decode cL_law 428 = .ok (.if_icmp .eq 277, 3) := by decide +kernel
theorem dL_law_431 : decode cL_law 431 = .ok (.iconst 0, 1) := by decide +kernel
theorem dL_law_432 : decode cL_law 432 = .ok (.ireturn, 1) := by decide +kernel
theorem dL_law_433 : decode cL_law 433 = .ok (.aload_n 1, 1) := by decide +kernel
theorem dL_law_434 : decode cL_law 434 = .ok (.aload_n 0, 1) := by decide +kernel
theorem dL_law_435 : decode cL_law 435 = .ok (.iload_n 3, 1) := by decide +kernel
theorem dL_law_436 : decode cL_law 436 = .ok (.iconst 1, 1) := by decide +kernel
theorem dL_law_437 : decode cL_law 437 = .ok (.iadd, 1) := by decide +kernel
theorem dL_law_438 : decode cL_law 438 = .ok (.iaload, 1) := by decide +kernel
theorem dL_law_439 : decode cL_law 439 = .ok (.invokevirtual 61, 3) := by decide +kernel
theorem dL_law_442 : decode cL_law 442 = .ok (.aload_n 2, 1) := by decide +kernel
theorem dL_law_443 : decode cL_law 443 = .ok (.aload_n 0, 1) := by decide +kernel
theorem dL_law_444 : decode cL_law 444 = .ok (.iload_n 3, 1) := by decide +kernel
theorem dL_law_445 : decode cL_law 445 = .ok (.iconst 1, 1) := by decide +kernel
theorem dL_law_446 : decode cL_law 446 = .ok (.iadd, 1) := by decide +kernel
theorem dL_law_447 : decode cL_law 447 = .ok (.iaload, 1) := by decide +kernel
theorem dL_law_448 : decode cL_law 448 = .ok (.invokevirtual 64, 3) := by decide +kernel
theorem dL_law_451 : decode cL_law 451 = .ok (.if_icmp .eq 254, 3) := by decide +kernel
theorem dL_law_454 : decode cL_law 454 = .ok (.iconst 0, 1) := by decide +kernel
theorem dL_law_455 : decode cL_law 455 = .ok (.ireturn, 1) := by decide +kernel
theorem dL_law_456 : decode cL_law 456 = .ok (.aload_n 1, 1) := by decide +kernel
theorem dL_law_457 : decode cL_law 457 = .ok (.aload_n 0, 1) := by decide +kernel
theorem dL_law_458 : decode cL_law 458 = .ok (.iload_n 3, 1) := by decide +kernel
theorem dL_law_459 : decode cL_law 459 = .ok (.iconst 1, 1) := by decide +kernel
theorem dL_law_460 : decode cL_law 460 = .ok (.iadd, 1) := by decide +kernel
theorem dL_law_461 : decode cL_law 461 = .ok (.iaload, 1) := by decide +kernel
theorem dL_law_462 : decode cL_law 462 = .ok (.invokevirtual 65, 3) := by decide +kernel
theorem dL_law_465 : decode cL_law 465 = .ok (.aload_n 2, 1) := by decide +kernel
theorem dL_law_466 : decode cL_law 466 = .ok (.aload_n 0, 1) := by decide +kernel
theorem dL_law_467 : decode cL_law 467 = .ok (.iload_n 3, 1) := by decide +kernel
theorem dL_law_468 : decode cL_law 468 = .ok (.iconst 1, 1) := by decide +kernel
theorem dL_law_469 : decode cL_law 469 = .ok (.iadd, 1) := by decide +kernel
theorem dL_law_470 : decode cL_law 470 = .ok (.iaload, 1) := by decide +kernel
theorem dL_law_471 : decode cL_law 471 = .ok (.invokevirtual 68, 3) := by decide +kernel
theorem dL_law_474 : decode cL_law 474 = .ok (.if_icmp .eq 231, 3) := by decide +kernel
theorem dL_law_477 : decode cL_law 477 = .ok (.iconst 0, 1) := by decide +kernel
theorem dL_law_478 : decode cL_law 478 = .ok (.ireturn, 1) := by decide +kernel
theorem dL_law_479 : decode cL_law 479 = .ok (.aload_n 1, 1) := by decide +kernel
theorem dL_law_480 : decode cL_law 480 = .ok (.aload_n 0, 1) := by decide +kernel
theorem dL_law_481 : decode cL_law 481 = .ok (.iload_n 3, 1) := by decide +kernel
theorem dL_law_482 : decode cL_law 482 = .ok (.iconst 1, 1) := by decide +kernel
theorem dL_law_483 : decode cL_law 483 = .ok (.iadd, 1) := by decide +kernel
theorem dL_law_484 : decode cL_law 484 = .ok (.iaload, 1) := by decide +kernel
theorem dL_law_485 : decode cL_law 485 = .ok (.invokevirtual 69, 3) := by decide +kernel
theorem dL_law_488 : decode cL_law 488 = .ok (.aload_n 2, 1) := by decide +kernel
theorem dL_law_489 : decode cL_law 489 = .ok (.aload_n 0, 1) := by decide +kernel
theorem dL_law_490 : decode cL_law 490 = .ok (.iload_n 3, 1) := by decide +kernel
theorem dL_law_491 : decode cL_law 491 = .ok (.iconst 1, 1) := by decide +kernel
theorem dL_law_492 : decode cL_law 492 = .ok (.iadd, 1) := by decide +kernel
theorem dL_law_493 : decode cL_law 493 = .ok (.iaload, 1) := by decide +kernel
theorem dL_law_494 : decode cL_law 494 = .ok (.invokevirtual 72, 3) := by decide +kernel
theorem dL_law_497 : decode cL_law 497 = .ok (.if_icmp .eq 208, 3) := by decide +kernel
theorem dL_law_500 : decode cL_law 500 = .ok (.iconst 0, 1) := by decide +kernel
theorem dL_law_501 : decode cL_law 501 = .ok (.ireturn, 1) := by decide +kernel
theorem dL_law_502 : decode cL_law 502 = .ok (.aload_n 1, 1) := by decide +kernel
theorem dL_law_503 : decode cL_law 503 = .ok (.invokevirtual 73, 3) := by decide +kernel
theorem dL_law_506 : decode cL_law 506 = .ok (.aload_n 2, 1) := by decide +kernel
theorem dL_law_507 : decode cL_law 507 = .ok (.invokevirtual 76, 3) := by decide +kernel
theorem dL_law_510 : decode cL_law 510 = .ok (.if_icmp .eq 195, 3) := by decide +kernel
theorem dL_law_513 : decode cL_law 513 = .ok (.iconst 0, 1) := by decide +kernel
theorem dL_law_514 : decode cL_law 514 = .ok (.ireturn, 1) := by decide +kernel
theorem dL_law_515 : decode cL_law 515 = .ok (.aload_n 1, 1) := by decide +kernel
theorem dL_law_516 : decode cL_law 516 = .ok (.aload_n 0, 1) := by decide +kernel
theorem dL_law_517 : decode cL_law 517 = .ok (.iload_n 3, 1) := by decide +kernel
theorem dL_law_518 : decode cL_law 518 = .ok (.iconst 1, 1) := by decide +kernel
theorem dL_law_519 : decode cL_law 519 = .ok (.iadd, 1) := by decide +kernel
theorem dL_law_520 : decode cL_law 520 = .ok (.iaload, 1) := by decide +kernel
theorem dL_law_521 : decode cL_law 521 = .ok (.invokevirtual 77, 3) := by decide +kernel
theorem dL_law_524 : decode cL_law 524 = .ok (.aload_n 2, 1) := by decide +kernel
theorem dL_law_525 : decode cL_law 525 = .ok (.aload_n 0, 1) := by decide +kernel
theorem dL_law_526 : decode cL_law 526 = .ok (.iload_n 3, 1) := by decide +kernel
theorem dL_law_527 : decode cL_law 527 = .ok (.iconst 1, 1) := by decide +kernel
theorem dL_law_528 : decode cL_law 528 = .ok (.iadd, 1) := by decide +kernel
theorem dL_law_529 : decode cL_law 529 = .ok (.iaload, 1) := by decide +kernel
theorem dL_law_530 : decode cL_law 530 = .ok (.invokevirtual 80, 3) := by decide +kernel
theorem dL_law_533 : decode cL_law 533 = .ok (.if_icmp .eq 172, 3) := by decide +kernel
theorem dL_law_536 : decode cL_law 536 = .ok (.iconst 0, 1) := by decide +kernel
theorem dL_law_537 : decode cL_law 537 = .ok (.ireturn, 1) := by decide +kernel
theorem dL_law_538 : decode cL_law 538 = .ok (.aload_n 1, 1) := by decide +kernel
theorem dL_law_539 : decode cL_law 539 = .ok (.invokevirtual 81, 3) := by decide +kernel
theorem dL_law_542 : decode cL_law 542 = .ok (.aload_n 2, 1) := by decide +kernel
theorem dL_law_543 : decode cL_law 543 = .ok (.invokevirtual 84, 3) := by decide +kernel
theorem dL_law_546 : decode cL_law 546 = .ok (.if_icmp .eq 159, 3) := by decide +kernel
theorem dL_law_549 : decode cL_law 549 = .ok (.iconst 0, 1) := by decide +kernel
theorem dL_law_550 : decode cL_law 550 = .ok (.ireturn, 1) := by decide +kernel
theorem dL_law_551 : decode cL_law 551 = .ok (.aload_n 1, 1) := by decide +kernel
theorem dL_law_552 : decode cL_law 552 = .ok (.invokevirtual 85, 3) := by decide +kernel
theorem dL_law_555 : decode cL_law 555 = .ok (.aload_n 2, 1) := by decide +kernel
theorem dL_law_556 : decode cL_law 556 = .ok (.invokevirtual 88, 3) := by decide +kernel
theorem dL_law_559 : decode cL_law 559 = .ok (.if_icmp .eq 146, 3) := by decide +kernel
theorem dL_law_562 : decode cL_law 562 = .ok (.iconst 0, 1) := by decide +kernel
theorem dL_law_563 : decode cL_law 563 = .ok (.ireturn, 1) := by decide +kernel
theorem dL_law_564 : decode cL_law 564 = .ok (.aload_n 1, 1) := by decide +kernel
theorem dL_law_565 : decode cL_law 565 = .ok (.invokevirtual 89, 3) := by decide +kernel
theorem dL_law_568 : decode cL_law 568 = .ok (.aload_n 2, 1) := by decide +kernel
theorem dL_law_569 : decode cL_law 569 = .ok (.invokevirtual 92, 3) := by decide +kernel
theorem dL_law_572 : decode cL_law 572 = .ok (.if_icmp .eq 133, 3) := by decide +kernel
theorem dL_law_575 : decode cL_law 575 = .ok (.iconst 0, 1) := by decide +kernel
theorem dL_law_576 : decode cL_law 576 = .ok (.ireturn, 1) := by decide +kernel
theorem dL_law_577 : decode cL_law 577 = .ok (.aload_n 1, 1) := by decide +kernel
theorem dL_law_578 : decode cL_law 578 = .ok (.invokevirtual 93, 3) := by decide +kernel
theorem dL_law_581 : decode cL_law 581 = .ok (.aload_n 2, 1) := by decide +kernel
theorem dL_law_582 : decode cL_law 582 = .ok (.invokevirtual 96, 3) := by decide +kernel
theorem dL_law_585 : decode cL_law 585 = .ok (.if_icmp .eq 120, 3) := by decide +kernel
theorem dL_law_588 : decode cL_law 588 = .ok (.iconst 0, 1) := by decide +kernel
theorem dL_law_589 : decode cL_law 589 = .ok (.ireturn, 1) := by decide +kernel
theorem dL_law_590 : decode cL_law 590 = .ok (.aload_n 1, 1) := by decide +kernel
theorem dL_law_591 : decode cL_law 591 = .ok (.aload_n 0, 1) := by decide +kernel
theorem dL_law_592 : decode cL_law 592 = .ok (.iload_n 3, 1) := by decide +kernel
theorem dL_law_593 : decode cL_law 593 = .ok (.iconst 1, 1) := by decide +kernel
theorem dL_law_594 : decode cL_law 594 = .ok (.iadd, 1) := by decide +kernel
theorem dL_law_595 : decode cL_law 595 = .ok (.iaload, 1) := by decide +kernel
theorem dL_law_596 : decode cL_law 596 = .ok (.invokevirtual 97, 3) := by decide +kernel
theorem dL_law_599 : decode cL_law 599 = .ok (.aload_n 2, 1) := by decide +kernel
theorem dL_law_600 : decode cL_law 600 = .ok (.aload_n 0, 1) := by decide +kernel
theorem dL_law_601 : decode cL_law 601 = .ok (.iload_n 3, 1) := by decide +kernel
theorem dL_law_602 : decode cL_law 602 = .ok (.iconst 1, 1) := by decide +kernel
theorem dL_law_603 : decode cL_law 603 = .ok (.iadd, 1) := by decide +kernel
theorem dL_law_604 : decode cL_law 604 = .ok (.iaload, 1) := by decide +kernel
theorem dL_law_605 : decode cL_law 605 = .ok (.invokevirtual 100, 3) := by decide +kernel
theorem dL_law_608 : decode cL_law 608 = .ok (.if_icmp .eq 97, 3) := by decide +kernel
theorem dL_law_611 : decode cL_law 611 = .ok (.iconst 0, 1) := by decide +kernel
theorem dL_law_612 : decode cL_law 612 = .ok (.ireturn, 1) := by decide +kernel
theorem dL_law_613 : decode cL_law 613 = .ok (.aload_n 1, 1) := by decide +kernel
theorem dL_law_614 : decode cL_law 614 = .ok (.aload_n 0, 1) := by decide +kernel
theorem dL_law_615 : decode cL_law 615 = .ok (.iload_n 3, 1) := by decide +kernel
theorem dL_law_616 : decode cL_law 616 = .ok (.iconst 1, 1) := by decide +kernel
theorem dL_law_617 : decode cL_law 617 = .ok (.iadd, 1) := by decide +kernel
theorem dL_law_618 : decode cL_law 618 = .ok (.iaload, 1) := by decide +kernel
theorem dL_law_619 : decode cL_law 619 = .ok (.invokevirtual 101, 3) := by decide +kernel
theorem dL_law_622 : decode cL_law 622 = .ok (.aload_n 2, 1) := by decide +kernel
theorem dL_law_623 : decode cL_law 623 = .ok (.aload_n 0, 1) := by decide +kernel
theorem dL_law_624 : decode cL_law 624 = .ok (.iload_n 3, 1) := by decide +kernel
theorem dL_law_625 : decode cL_law 625 = .ok (.iconst 1, 1) := by decide +kernel
theorem dL_law_626 : decode cL_law 626 = .ok (.iadd, 1) := by decide +kernel
theorem dL_law_627 : decode cL_law 627 = .ok (.iaload, 1) := by decide +kernel
theorem dL_law_628 : decode cL_law 628 = .ok (.invokevirtual 104, 3) := by decide +kernel
theorem dL_law_631 : decode cL_law 631 = .ok (.if_icmp .eq 74, 3) := by decide +kernel
theorem dL_law_634 : decode cL_law 634 = .ok (.iconst 0, 1) := by decide +kernel
theorem dL_law_635 : decode cL_law 635 = .ok (.ireturn, 1) := by decide +kernel
theorem dL_law_636 : decode cL_law 636 = .ok (.aload_n 1, 1) := by decide +kernel
theorem dL_law_637 : decode cL_law 637 = .ok (.invokevirtual 105, 3) := by decide +kernel
theorem dL_law_640 : decode cL_law 640 = .ok (.aload_n 2, 1) := by decide +kernel
theorem dL_law_641 : decode cL_law 641 = .ok (.invokevirtual 108, 3) := by decide +kernel
theorem dL_law_644 : decode cL_law 644 = .ok (.if_icmp .eq 61, 3) := by decide +kernel
theorem dL_law_647 : decode cL_law 647 = .ok (.iconst 0, 1) := by decide +kernel
theorem dL_law_648 : decode cL_law 648 = .ok (.ireturn, 1) := by decide +kernel
theorem dL_law_649 : decode cL_law 649 = .ok (.aload_n 1, 1) := by decide +kernel
theorem dL_law_650 : decode cL_law 650 = .ok (.aload_n 0, 1) := by decide +kernel
theorem dL_law_651 : decode cL_law 651 = .ok (.iload_n 3, 1) := by decide +kernel
theorem dL_law_652 : decode cL_law 652 = .ok (.iconst 1, 1) := by decide +kernel
theorem dL_law_653 : decode cL_law 653 = .ok (.iadd, 1) := by decide +kernel
theorem dL_law_654 : decode cL_law 654 = .ok (.iaload, 1) := by decide +kernel
theorem dL_law_655 : decode cL_law 655 = .ok (.aload_n 0, 1) := by decide +kernel
theorem dL_law_656 : decode cL_law 656 = .ok (.iload_n 3, 1) := by decide +kernel
theorem dL_law_657 : decode cL_law 657 = .ok (.iconst 2, 1) := by decide +kernel
theorem dL_law_658 : decode cL_law 658 = .ok (.iadd, 1) := by decide +kernel
theorem dL_law_659 : decode cL_law 659 = .ok (.iaload, 1) := by decide +kernel
theorem dL_law_660 : decode cL_law 660 = .ok (.invokevirtual 109, 3) := by decide +kernel
theorem dL_law_663 : decode cL_law 663 = .ok (.aload_n 2, 1) := by decide +kernel
theorem dL_law_664 : decode cL_law 664 = .ok (.aload_n 0, 1) := by decide +kernel
theorem dL_law_665 : decode cL_law 665 = .ok (.iload_n 3, 1) := by decide +kernel
theorem dL_law_666 : decode cL_law 666 = .ok (.iconst 1, 1) := by decide +kernel
theorem dL_law_667 : decode cL_law 667 = .ok (.iadd, 1) := by decide +kernel
theorem dL_law_668 : decode cL_law 668 = .ok (.iaload, 1) := by decide +kernel
theorem dL_law_669 : decode cL_law 669 = .ok (.aload_n 0, 1) := by decide +kernel
theorem dL_law_670 : decode cL_law 670 = .ok (.iload_n 3, 1) := by decide +kernel
theorem dL_law_671 : decode cL_law 671 = .ok (.iconst 2, 1) := by decide +kernel
theorem dL_law_672 : decode cL_law 672 = .ok (.iadd, 1) := by decide +kernel
theorem dL_law_673 : decode cL_law 673 = .ok (.iaload, 1) := by decide +kernel
theorem dL_law_674 : decode cL_law 674 = .ok (.invokevirtual 112, 3) := by decide +kernel
theorem dL_law_677 : decode cL_law 677 = .ok (.if_icmp .eq 28, 3) := by decide +kernel
theorem dL_law_680 : decode cL_law 680 = .ok (.iconst 0, 1) := by decide +kernel
theorem dL_law_681 : decode cL_law 681 = .ok (.ireturn, 1) := by decide +kernel
theorem dL_law_682 : decode cL_law 682 = .ok (.aload_n 1, 1) := by decide +kernel
theorem dL_law_683 : decode cL_law 683 = .ok (.aload_n 0, 1) := by decide +kernel
theorem dL_law_684 : decode cL_law 684 = .ok (.iload_n 3, 1) := by decide +kernel
theorem dL_law_685 : decode cL_law 685 = .ok (.iconst 1, 1) := by decide +kernel
theorem dL_law_686 : decode cL_law 686 = .ok (.iadd, 1) := by decide +kernel
theorem dL_law_687 : decode cL_law 687 = .ok (.iaload, 1) := by decide +kernel
theorem dL_law_688 : decode cL_law 688 = .ok (.invokevirtual 113, 3) := by decide +kernel
theorem dL_law_691 : decode cL_law 691 = .ok (.aload_n 2, 1) := by decide +kernel
theorem dL_law_692 : decode cL_law 692 = .ok (.aload_n 0, 1) := by decide +kernel
theorem dL_law_693 : decode cL_law 693 = .ok (.iload_n 3, 1) := by decide +kernel
theorem dL_law_694 : decode cL_law 694 = .ok (.iconst 1, 1) := by decide +kernel
theorem dL_law_695 : decode cL_law 695 = .ok (.iadd, 1) := by decide +kernel
theorem dL_law_696 : decode cL_law 696 = .ok (.iaload, 1) := by decide +kernel
theorem dL_law_697 : decode cL_law 697 = .ok (.invokevirtual 116, 3) := by decide +kernel
theorem dL_law_700 : decode cL_law 700 = .ok (.if_icmp .eq 5, 3) := by decide +kernel
theorem dL_law_703 : decode cL_law 703 = .ok (.iconst 0, 1) := by decide +kernel
theorem dL_law_704 : decode cL_law 704 = .ok (.ireturn, 1) := by decide +kernel
theorem dL_law_705 : decode cL_law 705 = .ok (.iinc 3 3, 3) := by decide +kernel
theorem dL_law_708 : decode cL_law 708 = .ok (.goto (-690), 3) := by decide +kernel
theorem dL_law_711 : decode cL_law 711 = .ok (.iconst 1, 1) := by decide +kernel
theorem dL_law_712 : decode cL_law 712 = .ok (.ireturn, 1) := by decide +kernel
abbrev vwCl : List vw_C := [(RX0, TX0, 6), (RX1, TX1, 4), (RX2, TX2, 4), (RX3, TX3, 3), (RX4, TX4, 6), (RX5, TX5, 19)]
