theorem dX4_isChanged_0 : decode cX4_isChanged 0 = .ok (.aload_n 0, 1) := by decide +kernel
theorem dX4_isChanged_1 : decode cX4_isChanged 1 = .ok (.getfield 22, 3) := by decide +kernel
theorem dX4_isChanged_4 : decode cX4_isChanged 4 = .ok (.iload_n 1, 1) := by decide +kernel
theorem dX4_isChanged_5 : decode cX4_isChanged 5 = .ok (.invokevirtual 102, 3) := by decide +kernel
theorem dX4_isChanged_8 : decode cX4_isChanged 8 = .ok (.istore_n 2, 1) := by decide +kernel
theorem dX4_isChanged_9 : decode cX4_isChanged 9 = .ok (.iload_n 2, 1) := by decide +kernel
theorem dX4_isChanged_10 : decode cX4_isChanged 10 = .ok (.iconst (-1), 1) := by decide +kernel
theorem dX4_isChanged_11 : decode cX4_isChanged 11 = .ok (.if_icmp .eq 34, 3) := by decide +kernel
theorem dX4_isChanged_14 : decode cX4_isChanged 14 = .ok (.aload_n 0, 1) := by decide +kernel
theorem dX4_isChanged_15 : decode cX4_isChanged 15 = .ok (.getfield 10, 3) := by decide +kernel
theorem dX4_isChanged_18 : decode cX4_isChanged 18 = .ok (.aload_n 0, 1) := by decide +kernel
theorem dX4_isChanged_19 : decode cX4_isChanged 19 = .ok (.getfield 22, 3) := by decide +kernel
theorem dX4_isChanged_22 : decode cX4_isChanged 22 = .ok (.iload_n 2, 1) := by decide +kernel
theorem dX4_isChanged_23 : decode cX4_isChanged 23 = .ok (.iload_n 1, 1) := by decide +kernel
theorem dX4_isChanged_24 : decode cX4_isChanged 24 = .ok (.invokevirtual 130, 3) := by decide +kernel
theorem dX4_isChanged_27 : decode cX4_isChanged 27 = .ok (.invokevirtual 55, 3) := by decide +kernel
theorem dX4_isChanged_30 : decode cX4_isChanged 30 = .ok (.aload_n 0, 1) := by decide +kernel
theorem dX4_isChanged_31 : decode cX4_isChanged 31 = .ok (.getfield 16, 3) := by decide +kernel
theorem dX4_isChanged_34 : decode cX4_isChanged 34 = .ok (.iload_n 1, 1) := by decide +kernel
theorem dX4_isChanged_35 : decode cX4_isChanged 35 = .ok (.invokevirtual 55, 3) := by decide +kernel
theorem dX4_isChanged_38 : decode cX4_isChanged 38 = .ok (.if_icmp .eq 7, 3) := by decide +kernel
theorem dX4_isChanged_41 : decode cX4_isChanged 41 = .ok (.iconst 1, 1) := by decide +kernel
theorem dX4_isChanged_42 : decode cX4_isChanged 42 = .ok (.goto 4, 3) := by decide +kernel
theorem dX4_isChanged_45 : decode cX4_isChanged 45 = .ok (.iconst 0, 1) := by decide +kernel
theorem dX4_isChanged_46 : decode cX4_isChanged 46 = .ok (.ireturn, 1) := by decide +kernel
set_option maxRecDepth 20000 in
theorem ggX4_corrections_X3_size : GoodIn wsX4_corrections wsX3_size := goodIn_r _ [6, 7, 76, 77, 78] (by decide +kernel) (by decide +kernel)
set_option maxRecDepth 20000 in
theorem gX4_corrections_X3_size : GoodIn wsX4_corrections (wsV RX4 63 RX3 yX3_size wsX3_size) := goodIn_app (goodIn_of _ (by decide +kernel)) ggX4_corrections_X3_size
set_option maxRecDepth 20000 in
theorem ggX4_corrections_X4_needsCorrection : GoodIn wsX4_corrections wsX4_needsCorrection := goodIn_r _ [12, 13, 1, 14, 15, 16, 17, 18, 19, 20, 21, 22, 23, 24, 25, 26, 27, 28, 29, 30, 31, 32, 33, 34, 35, 36, 37, 38, 39, 40, 11, 41, 42, 43, 44, 45, 46, 47, 48, 49, 50, 51, 52, 53, 54, 5, 55, 56, 57, 58, 59, 60, 7, 61, 62, 63, 64, 65, 66, 67, 68, 69, 70, 71, 72, 73, 74, 75, 79, 80, 81, 82, 76, 77, 78] (by decide +kernel) (by decide +kernel)
set_option maxRecDepth 20000 in
theorem gX4_corrections_X4_needsCorrection : GoodIn wsX4_corrections (wsV RX4 118 RX4 yX4_needsCorrection wsX4_needsCorrection) := goodIn_app (goodIn_of _ (by decide +kernel)) ggX4_corrections_X4_needsCorrection
theorem dX4_corrections_0 : decode cX4_corrections 0 = .ok (.iconst 0, 1) := by decide +kernel
theorem dX4_corrections_1 : decode cX4_corrections 1 = .ok (.istore_n 1, 1) := by decide +kernel
theorem dX4_corrections_2 : decode cX4_corrections 2 = .ok (.iconst 0, 1) := by decide +kernel
theorem dX4_corrections_3 : decode cX4_corrections 3 = .ok (.istore_n 2, 1) := by decide +kernel
theorem dX4_corrections_4 : decode cX4_corrections 4 = .ok (.iload_n 2, 1) := by decide +kernel
theorem dX4_corrections_5 : decode cX4_corrections 5 = .ok (.aload_n 0, 1) := by decide +kernel
theorem dX4_corrections_6 : decode cX4_corrections 6 = .ok (.getfield 16, 3) := by decide +kernel
theorem dX4_corrections_9 : decode cX4_corrections 9 = .ok (.invokevirtual 63, 3) := by decide +kernel
theorem dX4_corrections_12 : decode cX4_corrections 12 = .ok (.if_icmp .ge 20, 3) := by decide +kernel
theorem dX4_corrections_15 : decode cX4_corrections 15 = .ok (.aload_n 0, 1) := by decide +kernel
theorem dX4_corrections_16 : decode cX4_corrections 16 = .ok (.iload_n 2, 1) := by decide +kernel
theorem dX4_corrections_17 : decode cX4_corrections 17 = .ok (.invokevirtual 118, 3) := by decide +kernel
theorem dX4_corrections_20 : decode cX4_corrections 20 = .ok (.ifCond .eq 6, 3) := by decide +kernel
theorem dX4_corrections_23 : decode cX4_corrections 23 = .ok (.iinc 1 1, 3) := by decide +kernel
theorem dX4_corrections_26 : decode cX4_corrections 26 = .ok (.iinc 2 1, 3) := by decide +kernel
theorem dX4_corrections_29 : decode cX4_corrections 29 = .ok (.goto (-25), 3) := by decide +kernel
theorem dX4_corrections_32 : decode cX4_corrections 32 = .ok (.iload_n 1, 1) := by decide +kernel
theorem dX4_corrections_33 : decode cX4_corrections 33 = .ok (.ireturn, 1) := by decide +kernel
set_option maxRecDepth 20000 in
theorem ggX4_changedWords_X3_size : GoodIn wsX4_changedWords wsX3_size := goodIn_r _ [6, 7, 63, 64, 65] (by decide +kernel) (by decide +kernel)
set_option maxRecDepth 20000 in
theorem gX4_changedWords_X3_size : GoodIn wsX4_changedWords (wsV RX4 63 RX3 yX3_size wsX3_size) := goodIn_app (goodIn_of _ (by decide +kernel)) ggX4_changedWords_X3_size
set_option maxRecDepth 20000 in
theorem ggX4_changedWords_X4_isChanged : GoodIn wsX4_changedWords wsX4_isChanged := goodIn_r _ [12, 13, 14, 1, 15, 16, 17, 18, 19, 20, 21, 22, 23, 24, 25, 26, 27, 28, 29, 30, 31, 32, 33, 34, 35, 36, 37, 38, 39, 40, 41, 42, 43, 44, 45, 46, 47, 48, 49, 50, 5, 51, 52, 53, 54, 55, 56, 7, 57, 58, 59, 60, 61, 62, 66, 67, 68, 69, 63, 64, 65] (by decide +kernel) (by decide +kernel)
set_option maxRecDepth 20000 in
theorem gX4_changedWords_X4_isChanged : GoodIn wsX4_changedWords (wsV RX4 136 RX4 yX4_isChanged wsX4_isChanged) := goodIn_app (goodIn_of _ (by decide +kernel)) ggX4_changedWords_X4_isChanged
theorem dX4_changedWords_0 : decode cX4_changedWords 0 = .ok (.iconst 0, 1) := by decide +kernel
theorem dX4_changedWords_1 : decode cX4_changedWords 1 = .ok (.istore_n 1, 1) := by decide +kernel
theorem dX4_changedWords_2 : decode cX4_changedWords 2 = .ok (.iconst 0, 1) := by decide +kernel
theorem dX4_changedWords_3 : decode cX4_changedWords 3 = .ok (.istore_n 2, 1) := by decide +kernel
theorem dX4_changedWords_4 : decode cX4_changedWords 4 = .ok (.iload_n 2, 1) := by decide +kernel
theorem dX4_changedWords_5 : decode cX4_changedWords 5 = .ok (.aload_n 0, 1) := by decide +kernel
theorem dX4_changedWords_6 : decode cX4_changedWords 6 = .ok (.getfield 16, 3) := by decide +kernel
theorem dX4_changedWords_9 : decode cX4_changedWords 9 = .ok (.invokevirtual 63, 3) := by decide +kernel
theorem dX4_changedWords_12 : decode cX4_changedWords 12 = .ok (.if_icmp .ge 20, 3) := by decide +kernel
theorem dX4_changedWords_15 : decode cX4_changedWords 15 = .ok (.aload_n 0, 1) := by decide +kernel
theorem dX4_changedWords_16 : decode cX4_changedWords 16 = .ok (.iload_n 2, 1) := by decide +kernel
theorem dX4_changedWords_17 : decode cX4_changedWords 17 = .ok (.invokevirtual 136, 3) := by decide +kernel
theorem dX4_changedWords_20 : decode cX4_changedWords 20 = .ok (.ifCond .eq 6, 3) := by decide +kernel
theorem dX4_changedWords_23 : decode cX4_changedWords 23 = .ok (.iinc 1 1, 3) := by decide +kernel
theorem dX4_changedWords_26 : decode cX4_changedWords 26 = .ok (.iinc 2 1, 3) := by decide +kernel
theorem dX4_changedWords_29 : decode cX4_changedWords 29 = .ok (.goto (-25), 3) := by decide +kernel
theorem dX4_changedWords_32 : decode cX4_changedWords 32 = .ok (.iload_n 1, 1) := by decide +kernel
theorem dX4_changedWords_33 : decode cX4_changedWords 33 = .ok (.ireturn, 1) := by decide +kernel
set_option maxRecDepth 20000 in
theorem ggX4_literals_X3_size : GoodIn wsX4_literals wsX3_size := goodIn_r _ [7, 8, 30, 31, 32] (by decide +kernel) (by decide +kernel)
set_option maxRecDepth 20000 in
theorem gX4_literals_X3_size : GoodIn wsX4_literals (wsV RX4 63 RX3 yX3_size wsX3_size) := goodIn_app (goodIn_of _ (by decide +kernel)) ggX4_literals_X3_size
set_option maxRecDepth 20000 in
theorem ggX4_literals_X1_size : GoodIn wsX4_literals wsX1_size := goodIn_r _ [13, 14, 33, 34, 35, 36] (by decide +kernel) (by decide +kernel)
set_option maxRecDepth 20000 in
theorem gX4_literals_X1_size : GoodIn wsX4_literals (wsV RX4 86 RX1 yX1_size wsX1_size) := goodIn_app (goodIn_of _ (by decide +kernel)) ggX4_literals_X1_size
set_option maxRecDepth 20000 in
theorem ggX4_literals_X1_length : GoodIn wsX4_literals wsX1_length := goodIn_r _ [18, 19, 20, 21, 22, 12, 23, 14, 33, 34, 35, 36] (by decide +kernel) (by decide +kernel)
set_option maxRecDepth 20000 in
theorem gX4_literals_X1_length : GoodIn wsX4_literals (wsV RX4 96 RX1 yX1_length wsX1_length) := goodIn_app (goodIn_of _ (by decide +kernel)) ggX4_literals_X1_length
theorem dX4_literals_0 : decode cX4_literals 0 = .ok (.aload_n 0, 1) := by decide +kernel
theorem dX4_literals_1 : decode cX4_literals 1 = .ok (.getfield 16, 3) := by decide +kernel
theorem dX4_literals_4 : decode cX4_literals 4 = .ok (.invokevirtual 63, 3) := by decide +kernel
theorem dX4_literals_7 : decode cX4_literals 7 = .ok (.istore_n 1, 1) := by decide +kernel
theorem dX4_literals_8 : decode cX4_literals 8 = .ok (.iconst 0, 1) := by decide +kernel
theorem dX4_literals_9 : decode cX4_literals 9 = .ok (.istore_n 2, 1) := by decide +kernel
theorem dX4_literals_10 : decode cX4_literals 10 = .ok (.iload_n 2, 1) := by decide +kernel
theorem dX4_literals_11 : decode cX4_literals 11 = .ok (.aload_n 0, 1) := by decide +kernel
theorem dX4_literals_12 : decode cX4_literals 12 = .ok (.getfield 22, 3) := by decide +kernel
theorem dX4_literals_15 : decode cX4_literals 15 = .ok (.invokevirtual 86, 3) := by decide +kernel
theorem dX4_literals_18 : decode cX4_literals 18 = .ok (.if_icmp .ge 20, 3) := by decide +kernel
theorem dX4_literals_21 : decode cX4_literals 21 = .ok (.iload_n 1, 1) := by decide +kernel
theorem dX4_literals_22 : decode cX4_literals 22 = .ok (.aload_n 0, 1) := by decide +kernel
theorem dX4_literals_23 : decode cX4_literals 23 = .ok (.getfield 22, 3) := by decide +kernel
theorem dX4_literals_26 : decode cX4_literals 26 = .ok (.iload_n 2, 1) := by decide +kernel
theorem dX4_literals_27 : decode cX4_literals 27 = .ok (.invokevirtual 96, 3) := by decide +kernel
theorem dX4_literals_30 : decode cX4_literals 30 = .ok (.isub, 1) := by decide +kernel
theorem dX4_literals_31 : decode cX4_literals 31 = .ok (.istore_n 1, 1) := by decide +kernel
theorem dX4_literals_32 : decode cX4_literals 32 = .ok (.iinc 2 1, 3) := by decide +kernel
theorem dX4_literals_35 : decode cX4_literals 35 = .ok (.goto (-25), 3) := by decide +kernel
theorem dX4_literals_38 : decode cX4_literals 38 = .ok (.iload_n 1, 1) := by decide +kernel
theorem dX4_literals_39 : decode cX4_literals 39 = .ok (.ireturn, 1) := by decide +kernel
set_option maxRecDepth 20000 in
theorem ggX4_blocksAndLiteralsCost_X1_size : GoodIn wsX4_blocksAndLiteralsCost wsX1_size := goodIn_r _ [6, 7, 35, 36, 37, 38] (by decide +kernel) (by decide +kernel)
set_option maxRecDepth 20000 in
theorem gX4_blocksAndLiteralsCost_X1_size : GoodIn wsX4_blocksAndLiteralsCost (wsV RX4 86 RX1 yX1_size wsX1_size) := goodIn_app (goodIn_of _ (by decide +kernel)) ggX4_blocksAndLiteralsCost_X1_size
set_option maxRecDepth 20000 in
theorem ggX4_blocksAndLiteralsCost_X4_literals : GoodIn wsX4_blocksAndLiteralsCost wsX4_literals := goodIn_r _ [12, 13, 1, 14, 15, 16, 17, 18, 19, 2, 3, 4, 5, 6, 7, 20, 21, 22, 23, 24, 25, 26, 27, 28, 29, 30, 31, 32, 33, 34, 39, 40, 41, 35, 36, 37, 38] (by decide +kernel) (by decide +kernel)
set_option maxRecDepth 20000 in
theorem gX4_blocksAndLiteralsCost_X4_literals : GoodIn wsX4_blocksAndLiteralsCost (wsV RX4 121 RX4 yX4_literals wsX4_literals) := goodIn_app (goodIn_of _ (by decide +kernel)) ggX4_blocksAndLiteralsCost_X4_literals
theorem dX4_blocksAndLiteralsCost_0 : decode cX4_blocksAndLiteralsCost 0 = .ok (.aload_n 0, 1) := by decide +kernel
theorem dX4_blocksAndLiteralsCost_1 : decode cX4_blocksAndLiteralsCost 1 = .ok (.getfield 22, 3) := by decide +kernel
theorem dX4_blocksAndLiteralsCost_4 : decode cX4_blocksAndLiteralsCost 4 = .ok (.invokevirtual 86, 3) := by decide +kernel
theorem dX4_blocksAndLiteralsCost_7 : decode cX4_blocksAndLiteralsCost 7 = .ok (.iconst 3, 1) := by decide +kernel
theorem dX4_blocksAndLiteralsCost_8 : decode cX4_blocksAndLiteralsCost 8 = .ok (.imul, 1) := by decide +kernel
theorem dX4_blocksAndLiteralsCost_9 : decode cX4_blocksAndLiteralsCost 9 = .ok (.aload_n 0, 1) := by decide +kernel
theorem dX4_blocksAndLiteralsCost_10 : decode cX4_blocksAndLiteralsCost 10 = .ok (.invokevirtual 121, 3) := by decide +kernel
theorem dX4_blocksAndLiteralsCost_13 : decode cX4_blocksAndLiteralsCost 13 = .ok (.iconst 1, 1) := by decide +kernel
theorem dX4_blocksAndLiteralsCost_14 : decode cX4_blocksAndLiteralsCost 14 = .ok (.imul, 1) := by decide +kernel
theorem dX4_blocksAndLiteralsCost_15 : decode cX4_blocksAndLiteralsCost 15 = .ok (.iadd, 1) := by decide +kernel
theorem dX4_blocksAndLiteralsCost_16 : decode cX4_blocksAndLiteralsCost 16 = .ok (.ireturn, 1) := by decide +kernel
set_option maxRecDepth 20000 in
theorem ggX4_copyCount_X2_steps : GoodIn wsX4_copyCount wsX2_steps := goodIn_r _ [7, 8, 15, 16, 17, 18] (by decide +kernel) (by decide +kernel)
set_option maxRecDepth 20000 in
theorem gX4_copyCount_X2_steps : GoodIn wsX4_copyCount (wsV RX4 139 RX2 yX2_steps wsX2_steps) := goodIn_app (goodIn_of _ (by decide +kernel)) ggX4_copyCount_X2_steps
theorem dX4_copyCount_0 : decode cX4_copyCount 0 = .ok (.aload_n 0, 1) := by decide +kernel
theorem dX4_copyCount_1 : decode cX4_copyCount 1 = .ok (.getfield 40, 3) := by decide +kernel
theorem dX4_copyCount_4 : decode cX4_copyCount 4 = .ok (.ifCond .eq 13, 3) := by decide +kernel
theorem dX4_copyCount_7 : decode cX4_copyCount 7 = .ok (.aload_n 0, 1) := by decide +kernel
theorem dX4_copyCount_8 : decode cX4_copyCount 8 = .ok (.getfield 36, 3) := by decide +kernel
theorem dX4_copyCount_11 : decode cX4_copyCount 11 = .ok (.invokevirtual 139, 3) := by decide +kernel
theorem dX4_copyCount_14 : decode cX4_copyCount 14 = .ok (.goto 6, 3) := by decide +kernel
theorem dX4_copyCount_17 : decode cX4_copyCount 17 = .ok (.sipush (-10004), 3) := by decide +kernel
theorem dX4_copyCount_20 : decode cX4_copyCount 20 = .ok (.ireturn, 1) := by decide +kernel
set_option maxRecDepth 20000 in
theorem ggX4_copyStep_X2_hasStep : GoodIn wsX4_copyStep wsX2_hasStep := goodIn_r _ [7, 8, 21, 22, 23, 24] (by decide +kernel) (by decide +kernel)
set_option maxRecDepth 20000 in
theorem gX4_copyStep_X2_hasStep : GoodIn wsX4_copyStep (wsV RX4 142 RX2 yX2_hasStep wsX2_hasStep) := goodIn_app (goodIn_of _ (by decide +kernel)) ggX4_copyStep_X2_hasStep
set_option maxRecDepth 20000 in
theorem ggX4_copyStep_X2_blockOfStep : GoodIn wsX4_copyStep wsX2_blockOfStep := goodIn_r _ [12, 13, 14, 4, 5, 6, 7, 8, 21, 22, 23, 24] (by decide +kernel) (by decide +kernel)
set_option maxRecDepth 20000 in
theorem gX4_copyStep_X2_blockOfStep : GoodIn wsX4_copyStep (wsV RX4 145 RX2 yX2_blockOfStep wsX2_blockOfStep) := goodIn_app (goodIn_of _ (by decide +kernel)) ggX4_copyStep_X2_blockOfStep
theorem dX4_copyStep_0 : decode cX4_copyStep 0 = .ok (.aload_n 0, 1) := by decide +kernel
theorem dX4_copyStep_1 : decode cX4_copyStep 1 = .ok (.getfield 40, 3) := by decide +kernel
theorem dX4_copyStep_4 : decode cX4_copyStep 4 = .ok (.ifCond .ne 7, 3) := by decide +kernel
theorem dX4_copyStep_7 : decode cX4_copyStep 7 = .ok (.sipush (-10004), 3) := by decide +kernel
theorem dX4_copyStep_10 : decode cX4_copyStep 10 = .ok (.ireturn, 1) := by decide +kernel
theorem dX4_copyStep_11 : decode cX4_copyStep 11 = .ok (.aload_n 0, 1) := by decide +kernel
theorem dX4_copyStep_12 : decode cX4_copyStep 12 = .ok (.getfield 36, 3) := by decide +kernel
theorem dX4_copyStep_15 : decode cX4_copyStep 15 = .ok (.iload_n 1, 1) := by decide +kernel
theorem dX4_copyStep_16 : decode cX4_copyStep 16 = .ok (.invokevirtual 142, 3) := by decide +kernel
theorem dX4_copyStep_19 : decode cX4_copyStep 19 = .ok (.ifCond .eq 14, 3) := by decide +kernel
theorem dX4_copyStep_22 : decode cX4_copyStep 22 = .ok (.aload_n 0, 1) := by decide +kernel
theorem dX4_copyStep_23 : decode cX4_copyStep 23 = .ok (.getfield 36, 3) := by decide +kernel
theorem dX4_copyStep_26 : decode cX4_copyStep 26 = .ok (.iload_n 1, 1) := by decide +kernel
theorem dX4_copyStep_27 : decode cX4_copyStep 27 = .ok (.invokevirtual 145, 3) := by decide +kernel
theorem dX4_copyStep_30 : decode cX4_copyStep 30 = .ok (.goto 6, 3) := by decide +kernel
theorem dX4_copyStep_33 : decode cX4_copyStep 33 = .ok (.sipush (-10003), 3) := by decide +kernel
theorem dX4_copyStep_36 : decode cX4_copyStep 36 = .ok (.ireturn, 1) := by decide +kernel
set_option maxRecDepth 20000 in
theorem ggX4_isDropped_X4_blockError : GoodIn wsX4_isDropped wsX4_blockError := goodIn_r _ [6, 7, 8, 9, 10, 11, 12, 13, 14, 21, 22, 23, 24, 25, 26, 27, 28, 29, 30] (by decide +kernel) (by decide +kernel)
set_option maxRecDepth 20000 in
theorem gX4_isDropped_X4_blockError : GoodIn wsX4_isDropped (wsV RX4 87 RX4 yX4_blockError wsX4_blockError) := goodIn_app (goodIn_of _ (by decide +kernel)) ggX4_isDropped_X4_blockError
set_option maxRecDepth 20000 in
theorem ggX4_isDropped_X2_drops : GoodIn wsX4_isDropped wsX2_drops := goodIn_r _ [19, 20, 31, 32, 33, 34] (by decide +kernel) (by decide +kernel)
set_option maxRecDepth 20000 in
theorem gX4_isDropped_X2_drops : GoodIn wsX4_isDropped (wsV RX4 148 RX2 yX2_drops wsX2_drops) := goodIn_app (goodIn_of _ (by decide +kernel)) ggX4_isDropped_X2_drops
theorem dX4_isDropped_0 : decode cX4_isDropped 0 = .ok (.aload_n 0, 1) := by decide +kernel
theorem dX4_isDropped_1 : decode cX4_isDropped 1 = .ok (.iload_n 1, 1) := by decide +kernel
theorem dX4_isDropped_2 : decode cX4_isDropped 2 = .ok (.invokevirtual 87, 3) := by decide +kernel
theorem dX4_isDropped_5 : decode cX4_isDropped 5 = .ok (.istore_n 2, 1) := by decide +kernel
theorem dX4_isDropped_6 : decode cX4_isDropped 6 = .ok (.iload_n 2, 1) := by decide +kernel
theorem dX4_isDropped_7 : decode cX4_isDropped 7 = .ok (.ifCond .eq 5, 3) := by decide +kernel
theorem dX4_isDropped_10 : decode cX4_isDropped 10 = .ok (.iload_n 2, 1) := by decide +kernel
theorem dX4_isDropped_11 : decode cX4_isDropped 11 = .ok (.ireturn, 1) := by decide +kernel
theorem dX4_isDropped_12 : decode cX4_isDropped 12 = .ok (.aload_n 0, 1) := by decide +kernel
theorem dX4_isDropped_13 : decode cX4_isDropped 13 = .ok (.getfield 36, 3) := by decide +kernel
theorem dX4_isDropped_16 : decode cX4_isDropped 16 = .ok (.iload_n 1, 1) := by decide +kernel
theorem dX4_isDropped_17 : decode cX4_isDropped 17 = .ok (.invokevirtual 148, 3) := by decide +kernel
theorem dX4_isDropped_20 : decode cX4_isDropped 20 = .ok (.ifCond .eq 7, 3) := by decide +kernel
theorem dX4_isDropped_23 : decode cX4_isDropped 23 = .ok (.iconst 1, 1) := by decide +kernel
theorem dX4_isDropped_24 : decode cX4_isDropped 24 = .ok (.goto 4, 3) := by decide +kernel
theorem dX4_isDropped_27 : decode cX4_isDropped 27 = .ok (.iconst 0, 1) := by decide +kernel
theorem dX4_isDropped_28 : decode cX4_isDropped 28 = .ok (.ireturn, 1) := by decide +kernel
set_option maxRecDepth 20000 in
theorem ggX4_inPlaceSize_X2_steps : GoodIn wsX4_inPlaceSize wsX2_steps := goodIn_r _ [8, 9, 97, 98, 99, 100] (by decide +kernel) (by decide +kernel)
set_option maxRecDepth 20000 in
theorem gX4_inPlaceSize_X2_steps : GoodIn wsX4_inPlaceSize (wsV RX4 139 RX2 yX2_steps wsX2_steps) := goodIn_app (goodIn_of _ (by decide +kernel)) ggX4_inPlaceSize_X2_steps
set_option maxRecDepth 20000 in
theorem ggX4_inPlaceSize_X3_size : GoodIn wsX4_inPlaceSize wsX3_size := goodIn_r _ [14, 15, 101, 102, 103] (by decide +kernel) (by decide +kernel)
set_option maxRecDepth 20000 in
theorem gX4_inPlaceSize_X3_size : GoodIn wsX4_inPlaceSize (wsV RX4 63 RX3 yX3_size wsX3_size) := goodIn_app (goodIn_of _ (by decide +kernel)) ggX4_inPlaceSize_X3_size
set_option maxRecDepth 20000 in
theorem ggX4_inPlaceSize_X4_inPlaceWordCost : GoodIn wsX4_inPlaceSize wsX4_inPlaceWordCost := goodIn_r _ [20, 21, 22, 23, 19, 24, 25, 2, 26, 27, 28, 29, 30, 31, 32, 33, 34, 35, 36, 37, 38, 39, 40, 41, 42, 43, 44, 45, 46, 47, 48, 49, 50, 51, 52, 7, 53, 54, 55, 56, 57, 58, 3, 59, 60, 61, 62, 63, 64, 65, 66, 67, 68, 69, 70, 71, 72, 73, 74, 75, 13, 76, 77, 78, 79, 80, 81, 15, 82, 83, 84, 85, 86, 87, 88, 89, 90, 91, 92, 93, 94, 95, 96, 104, 105, 106, 107, 97, 98, 99, 100, 101, 102, 103] (by decide +kernel) (by decide +kernel)
set_option maxRecDepth 20000 in
theorem gX4_inPlaceSize_X4_inPlaceWordCost : GoodIn wsX4_inPlaceSize (wsV RX4 151 RX4 yX4_inPlaceWordCost wsX4_inPlaceWordCost) := goodIn_app (goodIn_of _ (by decide +kernel)) ggX4_inPlaceSize_X4_inPlaceWordCost
theorem dX4_inPlaceSize_0 : decode cX4_inPlaceSize 0 = .ok (.aload_n 0, 1) := by decide +kernel
theorem dX4_inPlaceSize_1 : decode cX4_inPlaceSize 1 = .ok (.getfield 40, 3) := by decide +kernel
theorem dX4_inPlaceSize_4 : decode cX4_inPlaceSize 4 = .ok (.ifCond .ne 7, 3) := by decide +kernel
theorem dX4_inPlaceSize_7 : decode cX4_inPlaceSize 7 = .ok (.sipush (-10004), 3) := by decide +kernel
theorem dX4_inPlaceSize_10 : decode cX4_inPlaceSize 10 = .ok (.ireturn, 1) := by decide +kernel
theorem dX4_inPlaceSize_11 : decode cX4_inPlaceSize 11 = .ok (.aload_n 0, 1) := by decide +kernel
theorem dX4_inPlaceSize_12 : decode cX4_inPlaceSize 12 = .ok (.getfield 36, 3) := by decide +kernel
theorem dX4_inPlaceSize_15 : decode cX4_inPlaceSize 15 = .ok (.invokevirtual 139, 3) := by decide +kernel
theorem dX4_inPlaceSize_18 : decode cX4_inPlaceSize 18 = .ok (.iconst 3, 1) := by decide +kernel
theorem dX4_inPlaceSize_19 : decode cX4_inPlaceSize 19 = .ok (.imul, 1) := by decide +kernel
theorem dX4_inPlaceSize_20 : decode cX4_inPlaceSize 20 = .ok (.istore_n 1, 1) := by decide +kernel
theorem dX4_inPlaceSize_21 : decode cX4_inPlaceSize 21 = .ok (.iconst 0, 1) := by decide +kernel
theorem dX4_inPlaceSize_22 : decode cX4_inPlaceSize 22 = .ok (.istore_n 2, 1) := by decide +kernel
theorem dX4_inPlaceSize_23 : decode cX4_inPlaceSize 23 = .ok (.iload_n 2, 1) := by decide +kernel
theorem dX4_inPlaceSize_24 : decode cX4_inPlaceSize 24 = .ok (.aload_n 0, 1) := by decide +kernel
theorem dX4_inPlaceSize_25 : decode cX4_inPlaceSize 25 = .ok (.getfield 16, 3) := by decide +kernel
theorem dX4_inPlaceSize_28 : decode cX4_inPlaceSize 28 = .ok (.invokevirtual 63, 3) := by decide +kernel
theorem dX4_inPlaceSize_31 : decode cX4_inPlaceSize 31 = .ok (.if_icmp .ge 17, 3) := by decide +kernel
theorem dX4_inPlaceSize_34 : decode cX4_inPlaceSize 34 = .ok (.iload_n 1, 1) := by decide +kernel
theorem dX4_inPlaceSize_35 : decode cX4_inPlaceSize 35 = .ok (.aload_n 0, 1) := by decide +kernel
theorem dX4_inPlaceSize_36 : decode cX4_inPlaceSize 36 = .ok (.iload_n 2, 1) := by decide +kernel
theorem dX4_inPlaceSize_37 : decode cX4_inPlaceSize 37 = .ok (.invokevirtual 151, 3) := by decide +kernel
theorem dX4_inPlaceSize_40 : decode cX4_inPlaceSize 40 = .ok (.iadd, 1) := by decide +kernel
theorem dX4_inPlaceSize_41 : decode cX4_inPlaceSize 41 = .ok (.istore_n 1, 1) := by decide +kernel
theorem dX4_inPlaceSize_42 : decode cX4_inPlaceSize 42 = .ok (.iinc 2 1, 3) := by decide +kernel
theorem dX4_inPlaceSize_45 : decode cX4_inPlaceSize 45 = .ok (.goto (-22), 3) := by decide +kernel
theorem dX4_inPlaceSize_48 : decode cX4_inPlaceSize 48 = .ok (.iload_n 1, 1) := by decide +kernel
theorem dX4_inPlaceSize_49 : decode cX4_inPlaceSize 49 = .ok (.ireturn, 1) := by decide +kernel
set_option maxRecDepth 20000 in
theorem ggX4_memoryAfter_X2_steps : GoodIn wsX4_memoryAfter wsX2_steps := goodIn_r _ [13, 14, 84, 85, 86, 87] (by decide +kernel) (by decide +kernel)
set_option maxRecDepth 20000 in
theorem gX4_memoryAfter_X2_steps : GoodIn wsX4_memoryAfter (wsV RX4 139 RX2 yX2_steps wsX2_steps) := goodIn_app (goodIn_of _ (by decide +kernel)) ggX4_memoryAfter_X2_steps
set_option maxRecDepth 20000 in
theorem ggX4_memoryAfter_X3_size : GoodIn wsX4_memoryAfter wsX3_size := goodIn_r _ [19, 20, 88, 89, 90] (by decide +kernel) (by decide +kernel)
set_option maxRecDepth 20000 in
theorem gX4_memoryAfter_X3_size : GoodIn wsX4_memoryAfter (wsV RX4 63 RX3 yX3_size wsX3_size) := goodIn_app (goodIn_of _ (by decide +kernel)) ggX4_memoryAfter_X3_size
set_option maxRecDepth 20000 in
theorem ggX4_memoryAfter_X4_memoryValue : GoodIn wsX4_memoryAfter wsX4_memoryValue := goodIn_r _ [25, 3, 2, 26, 27, 28, 29, 12, 30, 31, 32, 33, 34, 35, 36, 37, 38, 39, 14, 40, 41, 42, 43, 44, 45, 46, 47, 48, 49, 50, 51, 52, 53, 54, 55, 56, 57, 58, 59, 60, 61, 62, 63, 64, 65, 66, 67, 68, 69, 70, 71, 18, 72, 73, 74, 75, 76, 77, 20, 78, 79, 80, 81, 82, 83, 84, 85, 86, 87, 91, 92, 93, 94, 88, 89, 90] (by decide +kernel) (by decide +kernel)
set_option maxRecDepth 20000 in
theorem gX4_memoryAfter_X4_memoryValue : GoodIn wsX4_memoryAfter (wsV RX4 159 RX4 yX4_memoryValue wsX4_memoryValue) := goodIn_app (goodIn_of _ (by decide +kernel)) ggX4_memoryAfter_X4_memoryValue
theorem dX4_memoryAfter_0 : decode cX4_memoryAfter 0 = .ok (.aload_n 0, 1) := by decide +kernel
theorem dX4_memoryAfter_1 : decode cX4_memoryAfter 1 = .ok (.getfield 40, 3) := by decide +kernel
theorem dX4_memoryAfter_4 : decode cX4_memoryAfter 4 = .ok (.ifCond .ne 7, 3) := by decide +kernel
theorem dX4_memoryAfter_7 : decode cX4_memoryAfter 7 = .ok (.sipush (-10004), 3) := by decide +kernel
theorem dX4_memoryAfter_10 : decode cX4_memoryAfter 10 = .ok (.ireturn, 1) := by decide +kernel
theorem dX4_memoryAfter_11 : decode cX4_memoryAfter 11 = .ok (.iload_n 1, 1) := by decide +kernel
theorem dX4_memoryAfter_12 : decode cX4_memoryAfter 12 = .ok (.ifCond .lt 14, 3) := by decide +kernel
theorem dX4_memoryAfter_15 : decode cX4_memoryAfter 15 = .ok (.iload_n 1, 1) := by decide +kernel
theorem dX4_memoryAfter_16 : decode cX4_memoryAfter 16 = .ok (.aload_n 0, 1) := by decide +kernel
theorem dX4_memoryAfter_17 : decode cX4_memoryAfter 17 = .ok (.getfield 36, 3) := by decide +kernel
theorem dX4_memoryAfter_20 : decode cX4_memoryAfter 20 = .ok (.invokevirtual 139, 3) := by decide +kernel
theorem dX4_memoryAfter_23 : decode cX4_memoryAfter 23 = .ok (.if_icmp .le 7, 3) := by decide +kernel
theorem dX4_memoryAfter_26 : decode cX4_memoryAfter 26 = .ok (.sipush (-10001), 3) := by decide +kernel
theorem dX4_memoryAfter_29 : decode cX4_memoryAfter 29 = .ok (.ireturn, 1) := by decide +kernel
theorem dX4_memoryAfter_30 : decode cX4_memoryAfter 30 = .ok (.aload_n 0, 1) := by decide +kernel
theorem dX4_memoryAfter_31 : decode cX4_memoryAfter 31 = .ok (.getfield 10, 3) := by decide +kernel
theorem dX4_memoryAfter_34 : decode cX4_memoryAfter 34 = .ok (.invokevirtual 63, 3) := by decide +kernel
theorem dX4_memoryAfter_37 : decode cX4_memoryAfter 37 = .ok (.aload_n 0, 1) := by decide +kernel
theorem dX4_memoryAfter_38 : decode cX4_memoryAfter 38 = .ok (.getfield 16, 3) := by decide +kernel
theorem dX4_memoryAfter_41 : decode cX4_memoryAfter 41 = .ok (.invokevirtual 63, 3) := by decide +kernel
theorem dX4_memoryAfter_44 : decode cX4_memoryAfter 44 = .ok (.invokestatic 154, 3) := by decide +kernel
theorem dX4_memoryAfter_47 : decode cX4_memoryAfter 47 = .ok (.istore_n 3, 1) := by decide +kernel
theorem dX4_memoryAfter_48 : decode cX4_memoryAfter 48 = .ok (.iload_n 2, 1) := by decide +kernel
theorem dX4_memoryAfter_49 : decode cX4_memoryAfter 49 = .ok (.ifCond .lt 8, 3) := by decide +kernel
theorem dX4_memoryAfter_52 : decode cX4_memoryAfter 52 = .ok (.iload_n 2, 1) := by decide +kernel
theorem dX4_memoryAfter_53 : decode cX4_memoryAfter 53 = .ok (.iload_n 3, 1) := by decide +kernel
theorem dX4_memoryAfter_54 : decode cX4_memoryAfter 54 = .ok (.if_icmp .lt 7, 3) := by decide +kernel
theorem dX4_memoryAfter_57 : decode cX4_memoryAfter 57 = .ok (.sipush (-10003), 3) := by decide +kernel
theorem dX4_memoryAfter_60 : decode cX4_memoryAfter 60 = .ok (.ireturn, 1) := by decide +kernel
theorem dX4_memoryAfter_61 : decode cX4_memoryAfter 61 = .ok (.aload_n 0, 1) := by decide +kernel
theorem dX4_memoryAfter_62 : decode cX4_memoryAfter 62 = .ok (.iload_n 1, 1) := by decide +kernel
theorem dX4_memoryAfter_63 : decode cX4_memoryAfter 63 = .ok (.iload_n 2, 1) := by decide +kernel
theorem dX4_memoryAfter_64 : decode cX4_memoryAfter 64 = .ok (.invokevirtual 159, 3) := by decide +kernel
theorem dX4_memoryAfter_67 : decode cX4_memoryAfter 67 = .ok (.ireturn, 1) := by decide +kernel
set_option maxRecDepth 20000 in
theorem ggX4_patchedValue_X4_newWordError : GoodIn wsX4_patchedValue wsX4_newWordError := goodIn_r _ [9, 10, 1, 11, 12, 13, 14, 15, 16, 107, 108, 109, 110, 111, 112, 113, 114, 115] (by decide +kernel) (by decide +kernel)
set_option maxRecDepth 20000 in
theorem gX4_patchedValue_X4_newWordError : GoodIn wsX4_patchedValue (wsV RX4 99 RX4 yX4_newWordError wsX4_newWordError) := goodIn_app (goodIn_of _ (by decide +kernel)) ggX4_patchedValue_X4_newWordError
set_option maxRecDepth 20000 in
theorem ggX4_patchedValue_X4_isCopied : GoodIn wsX4_patchedValue wsX4_isCopied := goodIn_r _ [20, 3, 2, 21, 22, 23, 24, 25, 26, 27, 28, 29, 30, 31, 32, 33, 34, 35, 36, 37, 38, 39, 40, 41, 42, 43, 44, 45, 46, 47, 48, 49, 50, 107, 108, 109, 110, 111, 112, 116, 117, 118, 119, 120, 121, 122, 123] (by decide +kernel) (by decide +kernel)
set_option maxRecDepth 20000 in
theorem gX4_patchedValue_X4_isCopied : GoodIn wsX4_patchedValue (wsV RX4 162 RX4 yX4_isCopied wsX4_isCopied) := goodIn_app (goodIn_of _ (by decide +kernel)) ggX4_patchedValue_X4_isCopied
set_option maxRecDepth 20000 in
theorem ggX4_patchedValue_X4_needsCorrection : GoodIn wsX4_patchedValue wsX4_needsCorrection := goodIn_r _ [54, 3, 1, 21, 22, 23, 24, 25, 26, 27, 28, 29, 30, 31, 32, 33, 34, 35, 36, 37, 38, 39, 40, 41, 42, 43, 44, 55, 56, 57, 8, 58, 4, 59, 60, 61, 62, 63, 64, 65, 66, 67, 68, 69, 70, 14, 71, 72, 73, 12, 13, 15, 16, 74, 75, 76, 77, 78, 79, 80, 81, 82, 107, 108, 109, 110, 111, 112, 116, 117, 118, 119, 113, 114, 115] (by decide +kernel) (by decide +kernel)
set_option maxRecDepth 20000 in
theorem gX4_patchedValue_X4_needsCorrection : GoodIn wsX4_patchedValue (wsV RX4 118 RX4 yX4_needsCorrection wsX4_needsCorrection) := goodIn_app (goodIn_of _ (by decide +kernel)) ggX4_patchedValue_X4_needsCorrection
set_option maxRecDepth 20000 in
theorem ggX4_patchedValue_X3_valueAt : GoodIn wsX4_patchedValue wsX3_valueAt := goodIn_r _ [71, 72, 73, 12, 13, 14, 15, 16, 113, 114, 115] (by decide +kernel) (by decide +kernel)
set_option maxRecDepth 20000 in
theorem gX4_patchedValue_X3_valueAt : GoodIn wsX4_patchedValue (wsV RX4 55 RX3 yX3_valueAt wsX3_valueAt) := goodIn_app (goodIn_of _ (by decide +kernel)) ggX4_patchedValue_X3_valueAt
set_option maxRecDepth 20000 in
theorem ggX4_patchedValue_X2_steps : GoodIn wsX4_patchedValue wsX2_steps := goodIn_r _ [86, 87, 120, 121, 122, 123] (by decide +kernel) (by decide +kernel)
set_option maxRecDepth 20000 in
theorem gX4_patchedValue_X2_steps : GoodIn wsX4_patchedValue (wsV RX4 139 RX2 yX2_steps wsX2_steps) := goodIn_app (goodIn_of _ (by decide +kernel)) ggX4_patchedValue_X2_steps
set_option maxRecDepth 20000 in
theorem ggX4_patchedValue_X4_memoryValue : GoodIn wsX4_patchedValue wsX4_memoryValue := goodIn_r _ [91, 4, 2, 3, 92, 93, 94, 48, 95, 96, 97, 98, 99, 100, 101, 102, 103, 104, 87, 105, 28, 29, 24, 30, 31, 32, 33, 34, 35, 36, 37, 38, 39, 26, 40, 41, 42, 43, 44, 106, 60, 61, 62, 63, 64, 65, 66, 67, 68, 69, 70, 14, 71, 72, 73, 12, 13, 15, 16, 107, 108, 109, 110, 111, 112, 120, 121, 122, 123, 116, 117, 118, 119, 113, 114, 115] (by decide +kernel) (by decide +kernel)
set_option maxRecDepth 20000 in
theorem gX4_patchedValue_X4_memoryValue : GoodIn wsX4_patchedValue (wsV RX4 159 RX4 yX4_memoryValue wsX4_memoryValue) := goodIn_app (goodIn_of _ (by decide +kernel)) ggX4_patchedValue_X4_memoryValue
set_option maxRecDepth 20000 in
theorem ggX4_patchedValue_X1_withNewIndex : GoodIn wsX4_patchedValue wsX1_withNewIndex := goodIn_r _ [25, 26, 27, 28, 29, 24, 30, 31, 32, 33, 34, 35, 36, 37, 38, 39, 40, 41, 42, 43, 44, 116, 117, 118, 119] (by decide +kernel) (by decide +kernel)
set_option maxRecDepth 20000 in
theorem gX4_patchedValue_X1_withNewIndex : GoodIn wsX4_patchedValue (wsV RX4 102 RX1 yX1_withNewIndex wsX1_withNewIndex) := goodIn_app (goodIn_of _ (by decide +kernel)) ggX4_patchedValue_X1_withNewIndex
set_option maxRecDepth 20000 in
theorem ggX4_patchedValue_X1_oldIndex : GoodIn wsX4_patchedValue wsX1_oldIndex := goodIn_r _ [62, 31, 32, 33, 24, 34, 35, 36, 37, 38, 39, 26, 63, 64, 65, 66, 67, 116, 117, 118, 119] (by decide +kernel) (by decide +kernel)
set_option maxRecDepth 20000 in
theorem gX4_patchedValue_X1_oldIndex : GoodIn wsX4_patchedValue (wsV RX4 130 RX1 yX1_oldIndex wsX1_oldIndex) := goodIn_app (goodIn_of _ (by decide +kernel)) ggX4_patchedValue_X1_oldIndex
set_option maxRecDepth 20000 in
theorem ggX4_patchedValue_X3_isAddress : GoodIn wsX4_patchedValue wsX3_isAddress := goodIn_r _ [77, 78, 73, 12, 13, 14, 15, 16, 113, 114, 115] (by decide +kernel) (by decide +kernel)
set_option maxRecDepth 20000 in
theorem gX4_patchedValue_X3_isAddress : GoodIn wsX4_patchedValue (wsV RX4 133 RX3 yX3_isAddress wsX3_isAddress) := goodIn_app (goodIn_of _ (by decide +kernel)) ggX4_patchedValue_X3_isAddress
set_option maxRecDepth 20000 in
theorem ggX4_patchedValue_X1_moved : GoodIn wsX4_patchedValue wsX1_moved := goodIn_r _ [82, 26, 63, 64, 65, 24, 66, 67, 36, 37, 38, 39, 31, 32, 33, 34, 35, 116, 117, 118, 119] (by decide +kernel) (by decide +kernel)
set_option maxRecDepth 20000 in
theorem gX4_patchedValue_X1_moved : GoodIn wsX4_patchedValue (wsV RX4 108 RX1 yX1_moved wsX1_moved) := goodIn_app (goodIn_of _ (by decide +kernel)) ggX4_patchedValue_X1_moved
theorem dX4_patchedValue_0 : decode cX4_patchedValue 0 = .ok (.aload_n 0, 1) := by decide +kernel
theorem dX4_patchedValue_1 : decode cX4_patchedValue 1 = .ok (.iload_n 1, 1) := by decide +kernel
theorem dX4_patchedValue_2 : decode cX4_patchedValue 2 = .ok (.invokevirtual 99, 3) := by decide +kernel
theorem dX4_patchedValue_5 : decode cX4_patchedValue 5 = .ok (.istore_n 2, 1) := by decide +kernel
theorem dX4_patchedValue_6 : decode cX4_patchedValue 6 = .ok (.iload_n 2, 1) := by decide +kernel
theorem dX4_patchedValue_7 : decode cX4_patchedValue 7 = .ok (.ifCond .eq 5, 3) := by decide +kernel
theorem dX4_patchedValue_10 : decode cX4_patchedValue 10 = .ok (.iload_n 2, 1) := by decide +kernel
theorem dX4_patchedValue_11 : decode cX4_patchedValue 11 = .ok (.ireturn, 1) := by decide +kernel
theorem dX4_patchedValue_12 : decode cX4_patchedValue 12 = .ok (.aload_n 0, 1) := by decide +kernel
theorem dX4_patchedValue_13 : decode cX4_patchedValue 13 = .ok (.iload_n 1, 1) := by decide +kernel
theorem dX4_patchedValue_14 : decode cX4_patchedValue 14 = .ok (.invokevirtual 162, 3) := by decide +kernel
theorem dX4_patchedValue_17 : decode cX4_patchedValue 17 = .ok (.ifCond .eq 11, 3) := by decide +kernel
theorem dX4_patchedValue_20 : decode cX4_patchedValue 20 = .ok (.aload_n 0, 1) := by decide +kernel
theorem dX4_patchedValue_21 : decode cX4_patchedValue 21 = .ok (.iload_n 1, 1) := by decide +kernel
theorem dX4_patchedValue_22 : decode cX4_patchedValue 22 = .ok (.invokevirtual 118, 3) := by decide +kernel
theorem dX4_patchedValue_25 : decode cX4_patchedValue 25 = .ok (.ifCond .eq 12, 3) := by decide +kernel
theorem dX4_patchedValue_28 : decode cX4_patchedValue 28 = .ok (.aload_n 0, 1) := by decide +kernel
theorem dX4_patchedValue_29 : decode cX4_patchedValue 29 = .ok (.getfield 16, 3) := by decide +kernel
theorem dX4_patchedValue_32 : decode cX4_patchedValue 32 = .ok (.iload_n 1, 1) := by decide +kernel
theorem dX4_patchedValue_33 : decode cX4_patchedValue 33 = .ok (.invokevirtual 55, 3) := by decide +kernel
theorem dX4_patchedValue_36 : decode cX4_patchedValue 36 = .ok (.ireturn, 1) := by decide +kernel
theorem dX4_patchedValue_37 : decode cX4_patchedValue 37 = .ok (.aload_n 0, 1) := by decide +kernel
theorem dX4_patchedValue_38 : decode cX4_patchedValue 38 = .ok (.aload_n 0, 1) := by decide +kernel
theorem dX4_patchedValue_39 : decode cX4_patchedValue 39 = .ok (.getfield 36, 3) := by decide +kernel
theorem dX4_patchedValue_42 : decode cX4_patchedValue 42 = .ok (.invokevirtual 139, 3) := by decide +kernel
theorem dX4_patchedValue_45 : decode cX4_patchedValue 45 = .ok (.iload_n 1, 1) := by decide +kernel
theorem dX4_patchedValue_46 : decode cX4_patchedValue 46 = .ok (.invokevirtual 159, 3) := by decide +kernel
theorem dX4_patchedValue_49 : decode cX4_patchedValue 49 = .ok (.istore_n 3, 1) := by decide +kernel
theorem dX4_patchedValue_50 : decode cX4_patchedValue 50 = .ok (.aload_n 0, 1) := by decide +kernel
theorem dX4_patchedValue_51 : decode cX4_patchedValue 51 = .ok (.getfield 22, 3) := by decide +kernel
theorem dX4_patchedValue_54 : decode cX4_patchedValue 54 = .ok (.aload_n 0, 1) := by decide +kernel
theorem dX4_patchedValue_55 : decode cX4_patchedValue 55 = .ok (.getfield 22, 3) := by decide +kernel
theorem dX4_patchedValue_58 : decode cX4_patchedValue 58 = .ok (.iload_n 1, 1) := by decide +kernel
theorem dX4_patchedValue_59 : decode cX4_patchedValue 59 = .ok (.invokevirtual 102, 3) := by decide +kernel
theorem dX4_patchedValue_62 : decode cX4_patchedValue 62 = .ok (.iload_n 1, 1) := by decide +kernel
theorem dX4_patchedValue_63 : decode cX4_patchedValue 63 = .ok (.invokevirtual 130, 3) := by decide +kernel
theorem dX4_patchedValue_66 : decode cX4_patchedValue 66 = .ok (.istore 4, 2) := by decide +kernel
theorem dX4_patchedValue_68 : decode cX4_patchedValue 68 = .ok (.aload_n 0, 1) := by decide +kernel
theorem dX4_patchedValue_69 : decode cX4_patchedValue 69 = .ok (.getfield 10, 3) := by decide +kernel
theorem dX4_patchedValue_72 : decode cX4_patchedValue 72 = .ok (.iload 4, 2) := by decide +kernel
theorem dX4_patchedValue_74 : decode cX4_patchedValue 74 = .ok (.invokevirtual 133, 3) := by decide +kernel
theorem dX4_patchedValue_77 : decode cX4_patchedValue 77 = .ok (.ifCond .eq 14, 3) := by decide +kernel
theorem dX4_patchedValue_80 : decode cX4_patchedValue 80 = .ok (.aload_n 0, 1) := by decide +kernel
theorem dX4_patchedValue_81 : decode cX4_patchedValue 81 = .ok (.getfield 22, 3) := by decide +kernel
theorem dX4_patchedValue_84 : decode cX4_patchedValue 84 = .ok (.iload_n 3, 1) := by decide +kernel
theorem dX4_patchedValue_85 : decode cX4_patchedValue 85 = .ok (.invokevirtual 108, 3) := by decide +kernel
theorem dX4_patchedValue_88 : decode cX4_patchedValue 88 = .ok (.goto 4, 3) := by decide +kernel
theorem dX4_patchedValue_91 : decode cX4_patchedValue 91 = .ok (.iload_n 3, 1) := by decide +kernel
theorem dX4_patchedValue_92 : decode cX4_patchedValue 92 = .ok (.ireturn, 1) := by decide +kernel
set_option maxRecDepth 20000 in
theorem ggX4_isCopied_X1_withNewIndex : GoodIn wsX4_isCopied wsX1_withNewIndex := goodIn_r _ [7, 8, 9, 10, 11, 6, 12, 13, 14, 15, 16, 17, 18, 19, 20, 21, 22, 23, 24, 25, 26, 39, 40, 41, 42] (by decide +kernel) (by decide +kernel)
set_option maxRecDepth 20000 in
theorem gX4_isCopied_X1_withNewIndex : GoodIn wsX4_isCopied (wsV RX4 102 RX1 yX1_withNewIndex wsX1_withNewIndex) := goodIn_app (goodIn_of _ (by decide +kernel)) ggX4_isCopied_X1_withNewIndex
set_option maxRecDepth 20000 in
theorem ggX4_isCopied_X2_drops : GoodIn wsX4_isCopied wsX2_drops := goodIn_r _ [31, 32, 43, 44, 45, 46] (by decide +kernel) (by decide +kernel)
set_option maxRecDepth 20000 in
theorem gX4_isCopied_X2_drops : GoodIn wsX4_isCopied (wsV RX4 148 RX2 yX2_drops wsX2_drops) := goodIn_app (goodIn_of _ (by decide +kernel)) ggX4_isCopied_X2_drops
theorem dX4_isCopied_0 : decode cX4_isCopied 0 = .ok (.aload_n 0, 1) := by decide +kernel
theorem dX4_isCopied_1 : decode cX4_isCopied 1 = .ok (.getfield 22, 3) := by decide +kernel
theorem dX4_isCopied_4 : decode cX4_isCopied 4 = .ok (.iload_n 1, 1) := by decide +kernel
theorem dX4_isCopied_5 : decode cX4_isCopied 5 = .ok (.invokevirtual 102, 3) := by decide +kernel
theorem dX4_isCopied_8 : decode cX4_isCopied 8 = .ok (.istore_n 2, 1) := by decide +kernel
theorem dX4_isCopied_9 : decode cX4_isCopied 9 = .ok (.iload_n 2, 1) := by decide +kernel
theorem dX4_isCopied_10 : decode cX4_isCopied 10 = .ok (.iconst (-1), 1) := by decide +kernel
theorem dX4_isCopied_11 : decode cX4_isCopied 11 = .ok (.if_icmp .eq 18, 3) := by decide +kernel
theorem dX4_isCopied_14 : decode cX4_isCopied 14 = .ok (.aload_n 0, 1) := by decide +kernel
theorem dX4_isCopied_15 : decode cX4_isCopied 15 = .ok (.getfield 36, 3) := by decide +kernel
theorem dX4_isCopied_18 : decode cX4_isCopied 18 = .ok (.iload_n 2, 1) := by decide +kernel
theorem dX4_isCopied_19 : decode cX4_isCopied 19 = .ok (.invokevirtual 148, 3) := by decide +kernel
theorem dX4_isCopied_22 : decode cX4_isCopied 22 = .ok (.ifCond .ne 7, 3) := by decide +kernel
theorem dX4_isCopied_25 : decode cX4_isCopied 25 = .ok (.iconst 1, 1) := by decide +kernel
theorem dX4_isCopied_26 : decode cX4_isCopied 26 = .ok (.goto 4, 3) := by decide +kernel
theorem dX4_isCopied_29 : decode cX4_isCopied 29 = .ok (.iconst 0, 1) := by decide +kernel
theorem dX4_isCopied_30 : decode cX4_isCopied 30 = .ok (.ireturn, 1) := by decide +kernel
set_option maxRecDepth 20000 in
theorem ggX4_inPlaceWordCost_X4_isCopied : GoodIn wsX4_inPlaceWordCost wsX4_isCopied := goodIn_r _ [5, 6, 7, 8, 9, 10, 11, 12, 13, 14, 15, 16, 17, 18, 19, 20, 21, 22, 23, 24, 25, 26, 27, 28, 29, 30, 31, 32, 33, 34, 35, 36, 37, 77, 78, 79, 80, 81, 82, 83, 84, 85, 86, 87, 88, 89, 90] (by decide +kernel) (by decide +kernel)
set_option maxRecDepth 20000 in
theorem gX4_inPlaceWordCost_X4_isCopied : GoodIn wsX4_inPlaceWordCost (wsV RX4 162 RX4 yX4_isCopied wsX4_isCopied) := goodIn_app (goodIn_of _ (by decide +kernel)) ggX4_inPlaceWordCost_X4_isCopied
set_option maxRecDepth 20000 in
theorem ggX4_inPlaceWordCost_X4_needsCorrection : GoodIn wsX4_inPlaceWordCost wsX4_needsCorrection := goodIn_r _ [41, 6, 42, 8, 9, 10, 11, 12, 13, 14, 15, 16, 17, 18, 19, 20, 21, 22, 23, 24, 25, 26, 27, 28, 29, 30, 31, 43, 44, 45, 4, 46, 47, 48, 49, 50, 51, 52, 53, 54, 55, 56, 57, 58, 59, 60, 61, 62, 63, 64, 65, 66, 67, 68, 69, 70, 71, 72, 73, 74, 75, 76, 77, 78, 79, 80, 81, 82, 83, 84, 85, 86, 91, 92, 93] (by decide +kernel) (by decide +kernel)
set_option maxRecDepth 20000 in
theorem gX4_inPlaceWordCost_X4_needsCorrection : GoodIn wsX4_inPlaceWordCost (wsV RX4 118 RX4 yX4_needsCorrection wsX4_needsCorrection) := goodIn_app (goodIn_of _ (by decide +kernel)) ggX4_inPlaceWordCost_X4_needsCorrection
theorem dX4_inPlaceWordCost_0 : decode cX4_inPlaceWordCost 0 = .ok (.aload_n 0, 1) := by decide +kernel
theorem dX4_inPlaceWordCost_1 : decode cX4_inPlaceWordCost 1 = .ok (.iload_n 1, 1) := by decide +kernel
theorem dX4_inPlaceWordCost_2 : decode cX4_inPlaceWordCost 2 = .ok (.invokevirtual 162, 3) := by decide +kernel
theorem dX4_inPlaceWordCost_5 : decode cX4_inPlaceWordCost 5 = .ok (.ifCond .ne 5, 3) := by decide +kernel
theorem dX4_inPlaceWordCost_8 : decode cX4_inPlaceWordCost 8 = .ok (.iconst 1, 1) := by decide +kernel
theorem dX4_inPlaceWordCost_9 : decode cX4_inPlaceWordCost 9 = .ok (.ireturn, 1) := by decide +kernel
theorem dX4_inPlaceWordCost_10 : decode cX4_inPlaceWordCost 10 = .ok (.aload_n 0, 1) := by decide +kernel
theorem dX4_inPlaceWordCost_11 : decode cX4_inPlaceWordCost 11 = .ok (.iload_n 1, 1) := by decide +kernel
theorem dX4_inPlaceWordCost_12 : decode cX4_inPlaceWordCost 12 = .ok (.invokevirtual 118, 3) := by decide +kernel
theorem dX4_inPlaceWordCost_15 : decode cX4_inPlaceWordCost 15 = .ok (.ifCond .eq 7, 3) := by decide +kernel
theorem dX4_inPlaceWordCost_18 : decode cX4_inPlaceWordCost 18 = .ok (.iconst 2, 1) := by decide +kernel
theorem dX4_inPlaceWordCost_19 : decode cX4_inPlaceWordCost 19 = .ok (.goto 4, 3) := by decide +kernel
theorem dX4_inPlaceWordCost_22 : decode cX4_inPlaceWordCost 22 = .ok (.iconst 0, 1) := by decide +kernel
theorem dX4_inPlaceWordCost_23 : decode cX4_inPlaceWordCost 23 = .ok (.ireturn, 1) := by decide +kernel
set_option maxRecDepth 20000 in
theorem ggX4_memoryValue_X2_origin : GoodIn wsX4_memoryValue wsX2_origin := goodIn_r _ [8, 9, 10, 11, 7, 12, 13, 14, 15, 16, 17, 18, 19, 20, 21, 22, 23, 24, 25, 26, 27, 28, 29, 30, 31, 32, 33, 34, 35, 36, 37, 38, 39, 40, 41, 42, 43, 44, 45, 46, 47, 65, 66, 67, 68, 69, 70, 71, 72] (by decide +kernel) (by decide +kernel)
set_option maxRecDepth 20000 in
theorem gX4_memoryValue_X2_origin : GoodIn wsX4_memoryValue (wsV RX4 165 RX2 yX2_origin wsX2_origin) := goodIn_app (goodIn_of _ (by decide +kernel)) ggX4_memoryValue_X2_origin
set_option maxRecDepth 20000 in
theorem ggX4_memoryValue_X3_valueAt : GoodIn wsX4_memoryValue wsX3_valueAt := goodIn_r _ [52, 53, 54, 55, 56, 51, 57, 58, 73, 74, 75] (by decide +kernel) (by decide +kernel)
set_option maxRecDepth 20000 in
theorem gX4_memoryValue_X3_valueAt : GoodIn wsX4_memoryValue (wsV RX4 55 RX3 yX3_valueAt wsX3_valueAt) := goodIn_app (goodIn_of _ (by decide +kernel)) ggX4_memoryValue_X3_valueAt
theorem dX4_memoryValue_0 : decode cX4_memoryValue 0 = .ok (.aload_n 0, 1) := by decide +kernel
theorem dX4_memoryValue_1 : decode cX4_memoryValue 1 = .ok (.getfield 10, 3) := by decide +kernel
theorem dX4_memoryValue_4 : decode cX4_memoryValue 4 = .ok (.aload_n 0, 1) := by decide +kernel
theorem dX4_memoryValue_5 : decode cX4_memoryValue 5 = .ok (.getfield 36, 3) := by decide +kernel
theorem dX4_memoryValue_8 : decode cX4_memoryValue 8 = .ok (.aload_n 0, 1) := by decide +kernel
theorem dX4_memoryValue_9 : decode cX4_memoryValue 9 = .ok (.getfield 22, 3) := by decide +kernel
theorem dX4_memoryValue_12 : decode cX4_memoryValue 12 = .ok (.iload_n 1, 1) := by decide +kernel
theorem dX4_memoryValue_13 : decode cX4_memoryValue 13 = .ok (.iload_n 2, 1) := by decide +kernel
theorem dX4_memoryValue_14 : decode cX4_memoryValue 14 = .ok (.invokevirtual 165, 3) := by decide +kernel
theorem dX4_memoryValue_17 : decode cX4_memoryValue 17 = .ok (.invokevirtual 55, 3) := by decide +kernel
theorem dX4_memoryValue_20 : decode cX4_memoryValue 20 = .ok (.ireturn, 1) := by decide +kernel
theorem dX5_init_0 : decode cX5_init 0 = .ok (.aload_n 0, 1) := by decide +kernel
theorem dX5_init_1 : decode cX5_init 1 = .ok (.invokespecial 1, 3) := by decide +kernel
theorem dX5_init_4 : decode cX5_init 4 = .ok (.aload_n 0, 1) := by decide +kernel
theorem dX5_init_5 : decode cX5_init 5 = .ok (.bipush 48, 2) := by decide +kernel
theorem dX5_init_7 : decode cX5_init 7 = .ok (.newarray .int, 2) := by decide +kernel
theorem dX5_init_9 : decode cX5_init 9 = .ok (.putfield 7, 3) := by decide +kernel
theorem dX5_init_12 : decode cX5_init 12 = .ok (.aload_n 0, 1) := by decide +kernel
theorem dX5_init_13 : decode cX5_init 13 = .ok (.bipush 48, 2) := by decide +kernel
theorem dX5_init_15 : decode cX5_init 15 = .ok (.newarray .boolean, 2) := by decide +kernel
theorem dX5_init_17 : decode cX5_init 17 = .ok (.putfield 13, 3) := by decide +kernel
theorem dX5_init_20 : decode cX5_init 20 = .ok (.aload_n 0, 1) := by decide +kernel
theorem dX5_init_21 : decode cX5_init 21 = .ok (.bipush 48, 2) := by decide +kernel
theorem dX5_init_23 : decode cX5_init 23 = .ok (.newarray .int, 2) := by decide +kernel
theorem dX5_init_25 : decode cX5_init 25 = .ok (.putfield 17, 3) := by decide +kernel
theorem dX5_init_28 : decode cX5_init 28 = .ok (.aload_n 0, 1) := by decide +kernel
theorem dX5_init_29 : decode cX5_init 29 = .ok (.bipush 48, 2) := by decide +kernel
theorem dX5_init_31 : decode cX5_init 31 = .ok (.newarray .boolean, 2) := by decide +kernel
theorem dX5_init_33 : decode cX5_init 33 = .ok (.putfield 20, 3) := by decide +kernel
theorem dX5_init_36 : decode cX5_init 36 = .ok (.aload_n 0, 1) := by decide +kernel
theorem dX5_init_37 : decode cX5_init 37 = .ok (.bipush 48, 2) := by decide +kernel
theorem dX5_init_39 : decode cX5_init 39 = .ok (.newarray .int, 2) := by decide +kernel
theorem dX5_init_41 : decode cX5_init 41 = .ok (.putfield 23, 3) := by decide +kernel
theorem dX5_init_44 : decode cX5_init 44 = .ok (.aload_n 0, 1) := by decide +kernel
theorem dX5_init_45 : decode cX5_init 45 = .ok (.bipush 48, 2) := by decide +kernel
theorem dX5_init_47 : decode cX5_init 47 = .ok (.newarray .int, 2) := by decide +kernel
theorem dX5_init_49 : decode cX5_init 49 = .ok (.putfield 26, 3) := by decide +kernel
theorem dX5_init_52 : decode cX5_init 52 = .ok (.aload_n 0, 1) := by decide +kernel
theorem dX5_init_53 : decode cX5_init 53 = .ok (.bipush 48, 2) := by decide +kernel
theorem dX5_init_55 : decode cX5_init 55 = .ok (.newarray .int, 2) := by decide +kernel
theorem dX5_init_57 : decode cX5_init 57 = .ok (.putfield 29, 3) := by decide +kernel
theorem dX5_init_60 : decode cX5_init 60 = .ok (.aload_n 0, 1) := by decide +kernel
theorem dX5_init_61 : decode cX5_init 61 = .ok (.bipush 48, 2) := by decide +kernel
theorem dX5_init_63 : decode cX5_init 63 = .ok (.newarray .int, 2) := by decide +kernel
theorem dX5_init_65 : decode cX5_init 65 = .ok (.putfield 32, 3) := by decide +kernel
theorem dX5_init_68 : decode cX5_init 68 = .ok (.aload_n 0, 1) := by decide +kernel
theorem dX5_init_69 : decode cX5_init 69 = .ok (.bipush 48, 2) := by decide +kernel
theorem dX5_init_71 : decode cX5_init 71 = .ok (.newarray .boolean, 2) := by decide +kernel
theorem dX5_init_73 : decode cX5_init 73 = .ok (.putfield 35, 3) := by decide +kernel
theorem dX5_init_76 : decode cX5_init 76 = .ok (.aload_n 0, 1) := by decide +kernel
theorem dX5_init_77 : decode cX5_init 77 = .ok (.sipush 2401, 3) := by decide +kernel
theorem dX5_init_80 : decode cX5_init 80 = .ok (.newarray .int, 2) := by decide +kernel
theorem dX5_init_82 : decode cX5_init 82 = .ok (.putfield 38, 3) := by decide +kernel
theorem dX5_init_85 : decode cX5_init 85 = .ok (.aload_n 0, 1) := by decide +kernel
theorem dX5_init_86 : decode cX5_init 86 = .ok (.bipush 48, 2) := by decide +kernel
theorem dX5_init_88 : decode cX5_init 88 = .ok (.newarray .int, 2) := by decide +kernel
theorem dX5_init_90 : decode cX5_init 90 = .ok (.putfield 41, 3) := by decide +kernel
theorem dX5_init_93 : decode cX5_init 93 = .ok (.aload_n 0, 1) := by decide +kernel
theorem dX5_init_94 : decode cX5_init 94 = .ok (.bipush 48, 2) := by decide +kernel
theorem dX5_init_96 : decode cX5_init 96 = .ok (.newarray .int, 2) := by decide +kernel
theorem dX5_init_98 : decode cX5_init 98 = .ok (.putfield 44, 3) := by decide +kernel
theorem dX5_init_101 : decode cX5_init 101 = .ok (.aload_n 0, 1) := by decide +kernel
theorem dX5_init_102 : decode cX5_init 102 = .ok (.bipush 48, 2) := by decide +kernel
theorem dX5_init_104 : decode cX5_init 104 = .ok (.newarray .int, 2) := by decide +kernel
theorem dX5_init_106 : decode cX5_init 106 = .ok (.putfield 47, 3) := by decide +kernel
theorem dX5_init_109 : decode cX5_init 109 = .ok (.aload_n 0, 1) := by decide +kernel
theorem dX5_init_110 : decode cX5_init 110 = .ok (.bipush 48, 2) := by decide +kernel
theorem dX5_init_112 : decode cX5_init 112 = .ok (.newarray .int, 2) := by decide +kernel
theorem dX5_init_114 : decode cX5_init 114 = .ok (.putfield 50, 3) := by decide +kernel
theorem dX5_init_117 : decode cX5_init 117 = .ok (.aload_n 0, 1) := by decide +kernel
theorem dX5_init_118 : decode cX5_init 118 = .ok (.iconst 0, 1) := by decide +kernel
theorem dX5_init_119 : decode cX5_init 119 = .ok (.putfield 53, 3) := by decide +kernel
theorem dX5_init_122 : decode cX5_init 122 = .ok (.return_, 1) := by decide +kernel
theorem dX5_within_0 : decode cX5_within 0 = .ok (.iload_n 0, 1) := by decide +kernel
theorem dX5_within_1 : decode cX5_within 1 = .ok (.iload_n 1, 1) := by decide +kernel
theorem dX5_within_2 : decode cX5_within 2 = .ok (.if_icmp .lt 12, 3) := by decide +kernel
theorem dX5_within_5 : decode cX5_within 5 = .ok (.iload_n 0, 1) := by decide +kernel
theorem dX5_within_6 : decode cX5_within 6 = .ok (.iload_n 2, 1) := by decide +kernel
theorem dX5_within_7 : decode cX5_within 7 = .ok (.if_icmp .gt 7, 3) := by decide +kernel
theorem dX5_within_10 : decode cX5_within 10 = .ok (.iconst 1, 1) := by decide +kernel
theorem dX5_within_11 : decode cX5_within 11 = .ok (.goto 4, 3) := by decide +kernel
theorem dX5_within_14 : decode cX5_within 14 = .ok (.iconst 0, 1) := by decide +kernel
theorem dX5_within_15 : decode cX5_within 15 = .ok (.ireturn, 1) := by decide +kernel
set_option maxRecDepth 20000 in
theorem ggX5_isNew_X5_within : GoodIn wsX5_isNew wsX5_within := goodIn_r _ [5] (by decide +kernel) (by decide +kernel)
set_option maxRecDepth 20000 in
theorem gX5_isNew_X5_within : GoodIn wsX5_isNew (va_wsS RX5 61 yX5_within wsX5_within) := goodIn_app (goodIn_of _ (by decide +kernel)) ggX5_isNew_X5_within
theorem dX5_isNew_0 : decode cX5_isNew 0 = .ok (.iload_n 1, 1) := by decide +kernel
theorem dX5_isNew_1 : decode cX5_isNew 1 = .ok (.iconst 0, 1) := by decide +kernel
theorem dX5_isNew_2 : decode cX5_isNew 2 = .ok (.aload_n 0, 1) := by decide +kernel
theorem dX5_isNew_3 : decode cX5_isNew 3 = .ok (.getfield 57, 3) := by decide +kernel
theorem dX5_isNew_6 : decode cX5_isNew 6 = .ok (.iconst 1, 1) := by decide +kernel
theorem dX5_isNew_7 : decode cX5_isNew 7 = .ok (.isub, 1) := by decide +kernel
theorem dX5_isNew_8 : decode cX5_isNew 8 = .ok (.invokestatic 61, 3) := by decide +kernel
theorem dX5_isNew_11 : decode cX5_isNew 11 = .ok (.ireturn, 1) := by decide +kernel
set_option maxRecDepth 20000 in
theorem ggX5_appendOld_X5_within : GoodIn wsX5_appendOld wsX5_within := goodIn_r _ [8] (by decide +kernel) (by decide +kernel)
set_option maxRecDepth 20000 in
theorem gX5_appendOld_X5_within : GoodIn wsX5_appendOld (va_wsS RX5 61 yX5_within wsX5_within) := goodIn_app (goodIn_of _ (by decide +kernel)) ggX5_appendOld_X5_within
theorem dX5_appendOld_0 : decode cX5_appendOld 0 = .ok (.iload_n 1, 1) := by decide +kernel
theorem dX5_appendOld_1 : decode cX5_appendOld 1 = .ok (.iconst 0, 1) := by decide +kernel
theorem dX5_appendOld_2 : decode cX5_appendOld 2 = .ok (.sipush 9999, 3) := by decide +kernel
theorem dX5_appendOld_5 : decode cX5_appendOld 5 = .ok (.invokestatic 61, 3) := by decide +kernel
theorem dX5_appendOld_8 : decode cX5_appendOld 8 = .ok (.ifCond .ne 7, 3) := by decide +kernel
theorem dX5_appendOld_11 : decode cX5_appendOld 11 = .ok (.sipush (-10001), 3) := by decide +kernel
theorem dX5_appendOld_14 : decode cX5_appendOld 14 = .ok (.ireturn, 1) := by decide +kernel
theorem dX5_appendOld_15 : decode cX5_appendOld 15 = .ok (.aload_n 0, 1) := by decide +kernel
theorem dX5_appendOld_16 : decode cX5_appendOld 16 = .ok (.getfield 65, 3) := by decide +kernel
theorem dX5_appendOld_19 : decode cX5_appendOld 19 = .ok (.bipush 48, 2) := by decide +kernel
theorem dX5_appendOld_21 : decode cX5_appendOld 21 = .ok (.if_icmp .ne 7, 3) := by decide +kernel
theorem dX5_appendOld_24 : decode cX5_appendOld 24 = .ok (.sipush (-10002), 3) := by decide +kernel
theorem dX5_appendOld_27 : decode cX5_appendOld 27 = .ok (.ireturn, 1) := by decide +kernel
theorem dX5_appendOld_28 : decode cX5_appendOld 28 = .ok (.aload_n 0, 1) := by decide +kernel
theorem dX5_appendOld_29 : decode cX5_appendOld 29 = .ok (.getfield 7, 3) := by decide +kernel
theorem dX5_appendOld_32 : decode cX5_appendOld 32 = .ok (.aload_n 0, 1) := by decide +kernel
theorem dX5_appendOld_33 : decode cX5_appendOld 33 = .ok (.getfield 65, 3) := by decide +kernel
theorem dX5_appendOld_36 : decode cX5_appendOld 36 = .ok (.iload_n 1, 1) := by decide +kernel
theorem dX5_appendOld_37 : decode cX5_appendOld 37 = .ok (.iastore, 1) := by decide +kernel
theorem dX5_appendOld_38 : decode cX5_appendOld 38 = .ok (.aload_n 0, 1) := by decide +kernel
theorem dX5_appendOld_39 : decode cX5_appendOld 39 = .ok (.getfield 13, 3) := by decide +kernel
theorem dX5_appendOld_42 : decode cX5_appendOld 42 = .ok (.aload_n 0, 1) := by decide +kernel
theorem dX5_appendOld_43 : decode cX5_appendOld 43 = .ok (.getfield 65, 3) := by decide +kernel
theorem dX5_appendOld_46 : decode cX5_appendOld 46 = .ok (.iload_n 2, 1) := by decide +kernel
theorem dX5_appendOld_47 : decode cX5_appendOld 47 = .ok (.bastore, 1) := by decide +kernel
theorem dX5_appendOld_48 : decode cX5_appendOld 48 = .ok (.aload_n 0, 1) := by decide +kernel
theorem dX5_appendOld_49 : decode cX5_appendOld 49 = .ok (.dup, 1) := by decide +kernel
theorem dX5_appendOld_50 : decode cX5_appendOld 50 = .ok (.getfield 65, 3) := by decide +kernel
theorem dX5_appendOld_53 : decode cX5_appendOld 53 = .ok (.iconst 1, 1) := by decide +kernel
theorem dX5_appendOld_54 : decode cX5_appendOld 54 = .ok (.iadd, 1) := by decide +kernel
theorem dX5_appendOld_55 : decode cX5_appendOld 55 = .ok (.putfield 65, 3) := by decide +kernel
theorem dX5_appendOld_58 : decode cX5_appendOld 58 = .ok (.aload_n 0, 1) := by decide +kernel
theorem dX5_appendOld_59 : decode cX5_appendOld 59 = .ok (.iconst 0, 1) := by decide +kernel
theorem dX5_appendOld_60 : decode cX5_appendOld 60 = .ok (.putfield 53, 3) := by decide +kernel
theorem dX5_appendOld_63 : decode cX5_appendOld 63 = .ok (.aload_n 0, 1) := by decide +kernel
theorem dX5_appendOld_64 : decode cX5_appendOld 64 = .ok (.getfield 65, 3) := by decide +kernel
theorem dX5_appendOld_67 : decode cX5_appendOld 67 = .ok (.iconst 1, 1) := by decide +kernel
theorem dX5_appendOld_68 : decode cX5_appendOld 68 = .ok (.isub, 1) := by decide +kernel
theorem dX5_appendOld_69 : decode cX5_appendOld 69 = .ok (.ireturn, 1) := by decide +kernel
set_option maxRecDepth 20000 in
theorem ggX5_appendNew_X5_within : GoodIn wsX5_appendNew wsX5_within := goodIn_r _ [8] (by decide +kernel) (by decide +kernel)
set_option maxRecDepth 20000 in
theorem gX5_appendNew_X5_within : GoodIn wsX5_appendNew (va_wsS RX5 61 yX5_within wsX5_within) := goodIn_app (goodIn_of _ (by decide +kernel)) ggX5_appendNew_X5_within
theorem dX5_appendNew_0 : decode cX5_appendNew 0 = .ok (.iload_n 1, 1) := by decide +kernel
theorem dX5_appendNew_1 : decode cX5_appendNew 1 = .ok (.iconst 0, 1) := by decide +kernel
theorem dX5_appendNew_2 : decode cX5_appendNew 2 = .ok (.sipush 9999, 3) := by decide +kernel
theorem dX5_appendNew_5 : decode cX5_appendNew 5 = .ok (.invokestatic 61, 3) := by decide +kernel
theorem dX5_appendNew_8 : decode cX5_appendNew 8 = .ok (.ifCond .ne 7, 3) := by decide +kernel
theorem dX5_appendNew_11 : decode cX5_appendNew 11 = .ok (.sipush (-10001), 3) := by decide +kernel
theorem dX5_appendNew_14 : decode cX5_appendNew 14 = .ok (.ireturn, 1) := by decide +kernel
theorem dX5_appendNew_15 : decode cX5_appendNew 15 = .ok (.aload_n 0, 1) := by decide +kernel
theorem dX5_appendNew_16 : decode cX5_appendNew 16 = .ok (.getfield 57, 3) := by decide +kernel
theorem dX5_appendNew_19 : decode cX5_appendNew 19 = .ok (.bipush 48, 2) := by decide +kernel
theorem dX5_appendNew_21 : decode cX5_appendNew 21 = .ok (.if_icmp .ne 7, 3) := by decide +kernel
theorem dX5_appendNew_24 : decode cX5_appendNew 24 = .ok (.sipush (-10002), 3) := by decide +kernel
theorem dX5_appendNew_27 : decode cX5_appendNew 27 = .ok (.ireturn, 1) := by decide +kernel
theorem dX5_appendNew_28 : decode cX5_appendNew 28 = .ok (.aload_n 0, 1) := by decide +kernel
theorem dX5_appendNew_29 : decode cX5_appendNew 29 = .ok (.getfield 17, 3) := by decide +kernel
theorem dX5_appendNew_32 : decode cX5_appendNew 32 = .ok (.aload_n 0, 1) := by decide +kernel
theorem dX5_appendNew_33 : decode cX5_appendNew 33 = .ok (.getfield 57, 3) := by decide +kernel
theorem dX5_appendNew_36 : decode cX5_appendNew 36 = .ok (.iload_n 1, 1) := by decide +kernel
theorem dX5_appendNew_37 : decode cX5_appendNew 37 = .ok (.iastore, 1) := by decide +kernel
theorem dX5_appendNew_38 : decode cX5_appendNew 38 = .ok (.aload_n 0, 1) := by decide +kernel
theorem dX5_appendNew_39 : decode cX5_appendNew 39 = .ok (.getfield 20, 3) := by decide +kernel
theorem dX5_appendNew_42 : decode cX5_appendNew 42 = .ok (.aload_n 0, 1) := by decide +kernel
theorem dX5_appendNew_43 : decode cX5_appendNew 43 = .ok (.getfield 57, 3) := by decide +kernel
theorem dX5_appendNew_46 : decode cX5_appendNew 46 = .ok (.iload_n 2, 1) := by decide +kernel
theorem dX5_appendNew_47 : decode cX5_appendNew 47 = .ok (.bastore, 1) := by decide +kernel
theorem dX5_appendNew_48 : decode cX5_appendNew 48 = .ok (.aload_n 0, 1) := by decide +kernel
theorem dX5_appendNew_49 : decode cX5_appendNew 49 = .ok (.dup, 1) := by decide +kernel
theorem dX5_appendNew_50 : decode cX5_appendNew 50 = .ok (.getfield 57, 3) := by decide +kernel
theorem dX5_appendNew_53 : decode cX5_appendNew 53 = .ok (.iconst 1, 1) := by decide +kernel
theorem dX5_appendNew_54 : decode cX5_appendNew 54 = .ok (.iadd, 1) := by decide +kernel
theorem dX5_appendNew_55 : decode cX5_appendNew 55 = .ok (.putfield 57, 3) := by decide +kernel
theorem dX5_appendNew_58 : decode cX5_appendNew 58 = .ok (.aload_n 0, 1) := by decide +kernel
theorem dX5_appendNew_59 : decode cX5_appendNew 59 = .ok (.iconst 0, 1) := by decide +kernel
theorem dX5_appendNew_60 : decode cX5_appendNew 60 = .ok (.putfield 53, 3) := by decide +kernel
theorem dX5_appendNew_63 : decode cX5_appendNew 63 = .ok (.aload_n 0, 1) := by decide +kernel
theorem dX5_appendNew_64 : decode cX5_appendNew 64 = .ok (.getfield 57, 3) := by decide +kernel
theorem dX5_appendNew_67 : decode cX5_appendNew 67 = .ok (.iconst 1, 1) := by decide +kernel
theorem dX5_appendNew_68 : decode cX5_appendNew 68 = .ok (.isub, 1) := by decide +kernel
theorem dX5_appendNew_69 : decode cX5_appendNew 69 = .ok (.ireturn, 1) := by decide +kernel
set_option maxRecDepth 20000 in
theorem ggX5_setNew_X5_isNew : GoodIn wsX5_setNew wsX5_isNew := goodIn_r _ [7, 8, 9, 10, 6, 11, 12, 13, 14, 15, 16, 17, 18, 19, 20, 21, 22, 23, 24, 25, 26, 27, 28, 29, 30] (by decide +kernel) (by decide +kernel)
set_option maxRecDepth 20000 in
theorem gX5_setNew_X5_isNew : GoodIn wsX5_setNew (wsV RX5 68 RX5 yX5_isNew wsX5_isNew) := goodIn_app (goodIn_of _ (by decide +kernel)) ggX5_setNew_X5_isNew
set_option maxRecDepth 20000 in
theorem ggX5_setNew_X5_within : GoodIn wsX5_setNew wsX5_within := goodIn_r _ [11] (by decide +kernel) (by decide +kernel)
set_option maxRecDepth 20000 in
theorem gX5_setNew_X5_within : GoodIn wsX5_setNew (va_wsS RX5 61 yX5_within wsX5_within) := goodIn_app (goodIn_of _ (by decide +kernel)) ggX5_setNew_X5_within
theorem dX5_setNew_0 : decode cX5_setNew 0 = .ok (.aload_n 0, 1) := by decide +kernel
theorem dX5_setNew_1 : decode cX5_setNew 1 = .ok (.iload_n 1, 1) := by decide +kernel
theorem dX5_setNew_2 : decode cX5_setNew 2 = .ok (.invokevirtual 68, 3) := by decide +kernel
theorem dX5_setNew_5 : decode cX5_setNew 5 = .ok (.ifCond .ne 7, 3) := by decide +kernel
theorem dX5_setNew_8 : decode cX5_setNew 8 = .ok (.sipush (-10003), 3) := by decide +kernel
theorem dX5_setNew_11 : decode cX5_setNew 11 = .ok (.ireturn, 1) := by decide +kernel
theorem dX5_setNew_12 : decode cX5_setNew 12 = .ok (.iload_n 2, 1) := by decide +kernel
theorem dX5_setNew_13 : decode cX5_setNew 13 = .ok (.iconst 0, 1) := by decide +kernel
theorem dX5_setNew_14 : decode cX5_setNew 14 = .ok (.sipush 9999, 3) := by decide +kernel
theorem dX5_setNew_17 : decode cX5_setNew 17 = .ok (.invokestatic 61, 3) := by decide +kernel
theorem dX5_setNew_20 : decode cX5_setNew 20 = .ok (.ifCond .ne 7, 3) := by decide +kernel
theorem dX5_setNew_23 : decode cX5_setNew 23 = .ok (.sipush (-10001), 3) := by decide +kernel
theorem dX5_setNew_26 : decode cX5_setNew 26 = .ok (.ireturn, 1) := by decide +kernel
theorem dX5_setNew_27 : decode cX5_setNew 27 = .ok (.aload_n 0, 1) := by decide +kernel
theorem dX5_setNew_28 : decode cX5_setNew 28 = .ok (.getfield 17, 3) := by decide +kernel
theorem dX5_setNew_31 : decode cX5_setNew 31 = .ok (.iload_n 1, 1) := by decide +kernel
theorem dX5_setNew_32 : decode cX5_setNew 32 = .ok (.iaload, 1) := by decide +kernel
theorem dX5_setNew_33 : decode cX5_setNew 33 = .ok (.istore_n 3, 1) := by decide +kernel
theorem dX5_setNew_34 : decode cX5_setNew 34 = .ok (.aload_n 0, 1) := by decide +kernel
theorem dX5_setNew_35 : decode cX5_setNew 35 = .ok (.getfield 17, 3) := by decide +kernel
theorem dX5_setNew_38 : decode cX5_setNew 38 = .ok (.iload_n 1, 1) := by decide +kernel
theorem dX5_setNew_39 : decode cX5_setNew 39 = .ok (.iload_n 2, 1) := by decide +kernel
theorem dX5_setNew_40 : decode cX5_setNew 40 = .ok (.iastore, 1) := by decide +kernel
theorem dX5_setNew_41 : decode cX5_setNew 41 = .ok (.aload_n 0, 1) := by decide +kernel
theorem dX5_setNew_42 : decode cX5_setNew 42 = .ok (.iconst 0, 1) := by decide +kernel
theorem dX5_setNew_43 : decode cX5_setNew 43 = .ok (.putfield 53, 3) := by decide +kernel
theorem dX5_setNew_46 : decode cX5_setNew 46 = .ok (.iload_n 3, 1) := by decide +kernel
theorem dX5_setNew_47 : decode cX5_setNew 47 = .ok (.ireturn, 1) := by decide +kernel
theorem dX5_clear_0 : decode cX5_clear 0 = .ok (.aload_n 0, 1) := by decide +kernel
theorem dX5_clear_1 : decode cX5_clear 1 = .ok (.getfield 65, 3) := by decide +kernel
theorem dX5_clear_4 : decode cX5_clear 4 = .ok (.aload_n 0, 1) := by decide +kernel
theorem dX5_clear_5 : decode cX5_clear 5 = .ok (.getfield 57, 3) := by decide +kernel
theorem dX5_clear_8 : decode cX5_clear 8 = .ok (.iadd, 1) := by decide +kernel
theorem dX5_clear_9 : decode cX5_clear 9 = .ok (.istore_n 1, 1) := by decide +kernel
theorem dX5_clear_10 : decode cX5_clear 10 = .ok (.aload_n 0, 1) := by decide +kernel
theorem dX5_clear_11 : decode cX5_clear 11 = .ok (.iconst 0, 1) := by decide +kernel
theorem dX5_clear_12 : decode cX5_clear 12 = .ok (.putfield 65, 3) := by decide +kernel
theorem dX5_clear_15 : decode cX5_clear 15 = .ok (.aload_n 0, 1) := by decide +kernel
theorem dX5_clear_16 : decode cX5_clear 16 = .ok (.iconst 0, 1) := by decide +kernel
theorem dX5_clear_17 : decode cX5_clear 17 = .ok (.putfield 57, 3) := by decide +kernel
theorem dX5_clear_20 : decode cX5_clear 20 = .ok (.aload_n 0, 1) := by decide +kernel
theorem dX5_clear_21 : decode cX5_clear 21 = .ok (.iconst 0, 1) := by decide +kernel
theorem dX5_clear_22 : decode cX5_clear 22 = .ok (.putfield 53, 3) := by decide +kernel
theorem dX5_clear_25 : decode cX5_clear 25 = .ok (.iload_n 1, 1) := by decide +kernel
theorem dX5_clear_26 : decode cX5_clear 26 = .ok (.ireturn, 1) := by decide +kernel
theorem dX5_oldLength_0 : decode cX5_oldLength 0 = .ok (.aload_n 0, 1) := by decide +kernel
theorem dX5_oldLength_1 : decode cX5_oldLength 1 = .ok (.getfield 65, 3) := by decide +kernel
theorem dX5_oldLength_4 : decode cX5_oldLength 4 = .ok (.ireturn, 1) := by decide +kernel
theorem dX5_newLength_0 : decode cX5_newLength 0 = .ok (.aload_n 0, 1) := by decide +kernel
theorem dX5_newLength_1 : decode cX5_newLength 1 = .ok (.getfield 57, 3) := by decide +kernel
theorem dX5_newLength_4 : decode cX5_newLength 4 = .ok (.ireturn, 1) := by decide +kernel
set_option maxRecDepth 20000 in
theorem ggX5_newValue_X5_isNew : GoodIn wsX5_newValue wsX5_isNew := goodIn_r _ [6, 7, 8, 9, 5, 10, 11, 12, 13, 14, 15, 16, 17, 18, 19, 20, 21, 22, 23, 24, 25, 26, 27, 28, 29] (by decide +kernel) (by decide +kernel)
set_option maxRecDepth 20000 in
theorem gX5_newValue_X5_isNew : GoodIn wsX5_newValue (wsV RX5 68 RX5 yX5_isNew wsX5_isNew) := goodIn_app (goodIn_of _ (by decide +kernel)) ggX5_newValue_X5_isNew
theorem dX5_newValue_0 : decode cX5_newValue 0 = .ok (.aload_n 0, 1) := by decide +kernel
theorem dX5_newValue_1 : decode cX5_newValue 1 = .ok (.iload_n 1, 1) := by decide +kernel
theorem dX5_newValue_2 : decode cX5_newValue 2 = .ok (.invokevirtual 68, 3) := by decide +kernel
theorem dX5_newValue_5 : decode cX5_newValue 5 = .ok (.ifCond .eq 12, 3) := by decide +kernel
theorem dX5_newValue_8 : decode cX5_newValue 8 = .ok (.aload_n 0, 1) := by decide +kernel
theorem dX5_newValue_9 : decode cX5_newValue 9 = .ok (.getfield 17, 3) := by decide +kernel
theorem dX5_newValue_12 : decode cX5_newValue 12 = .ok (.iload_n 1, 1) := by decide +kernel
theorem dX5_newValue_13 : decode cX5_newValue 13 = .ok (.iaload, 1) := by decide +kernel
theorem dX5_newValue_14 : decode cX5_newValue 14 = .ok (.goto 6, 3) := by decide +kernel
theorem dX5_newValue_17 : decode cX5_newValue 17 = .ok (.sipush (-10003), 3) := by decide +kernel
theorem dX5_newValue_20 : decode cX5_newValue 20 = .ok (.ireturn, 1) := by decide +kernel
theorem dX5_matches_0 : decode cX5_matches 0 = .ok (.aload_n 0, 1) := by decide +kernel
theorem dX5_matches_1 : decode cX5_matches 1 = .ok (.getfield 13, 3) := by decide +kernel
theorem dX5_matches_4 : decode cX5_matches 4 = .ok (.iload_n 1, 1) := by decide +kernel
theorem dX5_matches_5 : decode cX5_matches 5 = .ok (.baload, 1) := by decide +kernel
theorem dX5_matches_6 : decode cX5_matches 6 = .ok (.ifCond .eq 16, 3) := by decide +kernel
theorem dX5_matches_9 : decode cX5_matches 9 = .ok (.aload_n 0, 1) := by decide +kernel
theorem dX5_matches_10 : decode cX5_matches 10 = .ok (.getfield 20, 3) := by decide +kernel
theorem dX5_matches_13 : decode cX5_matches 13 = .ok (.iload_n 2, 1) := by decide +kernel
theorem dX5_matches_14 : decode cX5_matches 14 = .ok (.baload, 1) := by decide +kernel
theorem dX5_matches_15 : decode cX5_matches 15 = .ok (.ifCond .eq 7, 3) := by decide +kernel
theorem dX5_matches_18 : decode cX5_matches 18 = .ok (.iconst 1, 1) := by decide +kernel
theorem dX5_matches_19 : decode cX5_matches 19 = .ok (.goto 4, 3) := by decide +kernel
theorem dX5_matches_22 : decode cX5_matches 22 = .ok (.iconst 0, 1) := by decide +kernel
theorem dX5_matches_23 : decode cX5_matches 23 = .ok (.istore_n 3, 1) := by decide +kernel
theorem dX5_matches_24 : decode cX5_matches 24 = .ok (.aload_n 0, 1) := by decide +kernel
theorem dX5_matches_25 : decode cX5_matches 25 = .ok (.getfield 13, 3) := by decide +kernel
theorem dX5_matches_28 : decode cX5_matches 28 = .ok (.iload_n 1, 1) := by decide +kernel
theorem dX5_matches_29 : decode cX5_matches 29 = .ok (.baload, 1) := by decide +kernel
theorem dX5_matches_30 : decode cX5_matches 30 = .ok (.ifCond .ne 31, 3) := by decide +kernel
theorem dX5_matches_33 : decode cX5_matches 33 = .ok (.aload_n 0, 1) := by decide +kernel
theorem dX5_matches_34 : decode cX5_matches 34 = .ok (.getfield 20, 3) := by decide +kernel
theorem dX5_matches_37 : decode cX5_matches 37 = .ok (.iload_n 2, 1) := by decide +kernel
theorem dX5_matches_38 : decode cX5_matches 38 = .ok (.baload, 1) := by decide +kernel
theorem dX5_matches_39 : decode cX5_matches 39 = .ok (.ifCond .ne 22, 3) := by decide +kernel
theorem dX5_matches_42 : decode cX5_matches 42 = .ok (.aload_n 0, 1) := by decide +kernel
theorem dX5_matches_43 : decode cX5_matches 43 = .ok (.getfield 7, 3) := by decide +kernel
theorem dX5_matches_46 : decode cX5_matches 46 = .ok (.iload_n 1, 1) := by decide +kernel
theorem dX5_matches_47 : decode cX5_matches 47 = .ok (.iaload, 1) := by decide +kernel
theorem dX5_matches_48 : decode cX5_matches 48 = .ok (.aload_n 0, 1) := by decide +kernel
theorem dX5_matches_49 : decode cX5_matches 49 = .ok (.getfield 17, 3) := by decide +kernel
theorem dX5_matches_52 : decode cX5_matches 52 = .ok (.iload_n 2, 1) := by decide +kernel
theorem dX5_matches_53 : decode cX5_matches 53 = .ok (.iaload, 1) := by decide +kernel
theorem dX5_matches_54 : decode cX5_matches 54 = .ok (.if_icmp .ne 7, 3) := by decide +kernel
theorem dX5_matches_57 : decode cX5_matches 57 = .ok (.iconst 1, 1) := by decide +kernel
theorem dX5_matches_58 : decode cX5_matches 58 = .ok (.goto 4, 3) := by decide +kernel
theorem dX5_matches_61 : decode cX5_matches 61 = .ok (.iconst 0, 1) := by decide +kernel
theorem dX5_matches_62 : decode cX5_matches 62 = .ok (.istore 4, 2) := by decide +kernel
theorem dX5_matches_64 : decode cX5_matches 64 = .ok (.iload_n 3, 1) := by decide +kernel
theorem dX5_matches_65 : decode cX5_matches 65 = .ok (.ifCond .ne 8, 3) := by decide +kernel
theorem dX5_matches_68 : decode cX5_matches 68 = .ok (.iload 4, 2) := by decide +kernel
theorem dX5_matches_70 : decode cX5_matches 70 = .ok (.ifCond .eq 7, 3) := by decide +kernel
theorem dX5_matches_73 : decode cX5_matches 73 = .ok (.iconst 1, 1) := by decide +kernel
theorem dX5_matches_74 : decode cX5_matches 74 = .ok (.goto 4, 3) := by decide +kernel
theorem dX5_matches_77 : decode cX5_matches 77 = .ok (.iconst 0, 1) := by decide +kernel
theorem dX5_matches_78 : decode cX5_matches 78 = .ok (.ireturn, 1) := by decide +kernel
set_option maxRecDepth 20000 in
theorem ggX5_findsRuns_X5_matches : GoodIn wsX5_findsRuns wsX5_matches := goodIn_r _ [10, 11, 12, 13, 14, 15, 16, 17, 18, 19, 20, 21, 22, 23, 24, 25, 26, 27, 28, 29, 30, 31, 32, 33] (by decide +kernel) (by decide +kernel)
set_option maxRecDepth 20000 in
theorem gX5_findsRuns_X5_matches : GoodIn wsX5_findsRuns (wsV RX5 72 RX5 yX5_matches wsX5_matches) := goodIn_app (goodIn_of _ (by decide +kernel)) ggX5_findsRuns_X5_matches
theorem dX5_findsRuns_0 : decode cX5_findsRuns 0 = .ok (.aload_n 0, 1) := by decide +kernel
theorem dX5_findsRuns_1 : decode cX5_findsRuns 1 = .ok (.getfield 57, 3) := by decide +kernel
theorem dX5_findsRuns_4 : decode cX5_findsRuns 4 = .ok (.istore_n 1, 1) := by decide +kernel
theorem dX5_findsRuns_5 : decode cX5_findsRuns 5 = .ok (.iload_n 1, 1) := by decide +kernel
theorem dX5_findsRuns_6 : decode cX5_findsRuns 6 = .ok (.ifCond .lt 112, 3) := by decide +kernel
theorem dX5_findsRuns_9 : decode cX5_findsRuns 9 = .ok (.aload_n 0, 1) := by decide +kernel
theorem dX5_findsRuns_10 : decode cX5_findsRuns 10 = .ok (.getfield 65, 3) := by decide +kernel
theorem dX5_findsRuns_13 : decode cX5_findsRuns 13 = .ok (.istore_n 2, 1) := by decide +kernel
theorem dX5_findsRuns_14 : decode cX5_findsRuns 14 = .ok (.iload_n 2, 1) := by decide +kernel
theorem dX5_findsRuns_15 : decode cX5_findsRuns 15 = .ok (.ifCond .lt 97, 3) := by decide +kernel
theorem dX5_findsRuns_18 : decode cX5_findsRuns 18 = .ok (.iload_n 1, 1) := by decide +kernel
theorem dX5_findsRuns_19 : decode cX5_findsRuns 19 = .ok (.aload_n 0, 1) := by decide +kernel
theorem dX5_findsRuns_20 : decode cX5_findsRuns 20 = .ok (.getfield 57, 3) := by decide +kernel
theorem dX5_findsRuns_23 : decode cX5_findsRuns 23 = .ok (.if_icmp .ge 45, 3) := by decide +kernel
theorem dX5_findsRuns_26 : decode cX5_findsRuns 26 = .ok (.iload_n 2, 1) := by decide +kernel
theorem dX5_findsRuns_27 : decode cX5_findsRuns 27 = .ok (.aload_n 0, 1) := by decide +kernel
theorem dX5_findsRuns_28 : decode cX5_findsRuns 28 = .ok (.getfield 65, 3) := by decide +kernel
theorem dX5_findsRuns_31 : decode cX5_findsRuns 31 = .ok (.if_icmp .ge 37, 3) := by decide +kernel
theorem dX5_findsRuns_34 : decode cX5_findsRuns 34 = .ok (.aload_n 0, 1) := by decide +kernel
theorem dX5_findsRuns_35 : decode cX5_findsRuns 35 = .ok (.getfield 32, 3) := by decide +kernel
theorem dX5_findsRuns_38 : decode cX5_findsRuns 38 = .ok (.iload_n 1, 1) := by decide +kernel
theorem dX5_findsRuns_39 : decode cX5_findsRuns 39 = .ok (.iaload, 1) := by decide +kernel
theorem dX5_findsRuns_40 : decode cX5_findsRuns 40 = .ok (.sipush (-10005), 3) := by decide +kernel
theorem dX5_findsRuns_43 : decode cX5_findsRuns 43 = .ok (.if_icmp .ne 25, 3) := by decide +kernel
theorem dX5_findsRuns_46 : decode cX5_findsRuns 46 = .ok (.aload_n 0, 1) := by decide +kernel
theorem dX5_findsRuns_47 : decode cX5_findsRuns 47 = .ok (.getfield 35, 3) := by decide +kernel
theorem dX5_findsRuns_50 : decode cX5_findsRuns 50 = .ok (.iload_n 2, 1) := by decide +kernel
theorem dX5_findsRuns_51 : decode cX5_findsRuns 51 = .ok (.baload, 1) := by decide +kernel
theorem dX5_findsRuns_52 : decode cX5_findsRuns 52 = .ok (.ifCond .ne 16, 3) := by decide +kernel
theorem dX5_findsRuns_55 : decode cX5_findsRuns 55 = .ok (.aload_n 0, 1) := by decide +kernel
theorem dX5_findsRuns_56 : decode cX5_findsRuns 56 = .ok (.iload_n 2, 1) := by decide +kernel
theorem dX5_findsRuns_57 : decode cX5_findsRuns 57 = .ok (.iload_n 1, 1) := by decide +kernel
theorem dX5_findsRuns_58 : decode cX5_findsRuns 58 = .ok (.invokevirtual 72, 3) := by decide +kernel
theorem dX5_findsRuns_61 : decode cX5_findsRuns 61 = .ok (.ifCond .eq 7, 3) := by decide +kernel
theorem dX5_findsRuns_64 : decode cX5_findsRuns 64 = .ok (.iconst 1, 1) := by decide +kernel
theorem dX5_findsRuns_65 : decode cX5_findsRuns 65 = .ok (.goto 4, 3) := by decide +kernel
theorem dX5_findsRuns_68 : decode cX5_findsRuns 68 = .ok (.iconst 0, 1) := by decide +kernel
theorem dX5_findsRuns_69 : decode cX5_findsRuns 69 = .ok (.istore_n 3, 1) := by decide +kernel
theorem dX5_findsRuns_70 : decode cX5_findsRuns 70 = .ok (.aload_n 0, 1) := by decide +kernel
theorem dX5_findsRuns_71 : decode cX5_findsRuns 71 = .ok (.getfield 38, 3) := by decide +kernel
theorem dX5_findsRuns_74 : decode cX5_findsRuns 74 = .ok (.bipush 49, 2) := by decide +kernel
theorem dX5_findsRuns_76 : decode cX5_findsRuns 76 = .ok (.iload_n 1, 1) := by decide +kernel
theorem dX5_findsRuns_77 : decode cX5_findsRuns 77 = .ok (.imul, 1) := by decide +kernel
theorem dX5_findsRuns_78 : decode cX5_findsRuns 78 = .ok (.iload_n 2, 1) := by decide +kernel
theorem dX5_findsRuns_79 : decode cX5_findsRuns 79 = .ok (.iadd, 1) := by decide +kernel
theorem dX5_findsRuns_80 : decode cX5_findsRuns 80 = .ok (.iload_n 3, 1) := by decide +kernel
theorem dX5_findsRuns_81 : decode cX5_findsRuns 81 = .ok (.ifCond .eq 23, 3) := by decide +kernel
theorem dX5_findsRuns_84 : decode cX5_findsRuns 84 = .ok (.iconst 1, 1) := by decide +kernel
theorem dX5_findsRuns_85 : decode cX5_findsRuns 85 = .ok (.aload_n 0, 1) := by decide +kernel
theorem dX5_findsRuns_86 : decode cX5_findsRuns 86 = .ok (.getfield 38, 3) := by decide +kernel
theorem dX5_findsRuns_89 : decode cX5_findsRuns 89 = .ok (.bipush 49, 2) := by decide +kernel
theorem dX5_findsRuns_91 : decode cX5_findsRuns 91 = .ok (.iload_n 1, 1) := by decide +kernel
theorem dX5_findsRuns_92 : decode cX5_findsRuns 92 = .ok (.iconst 1, 1) := by decide +kernel
theorem dX5_findsRuns_93 : decode cX5_findsRuns 93 = .ok (.iadd, 1) := by decide +kernel
theorem dX5_findsRuns_94 : decode cX5_findsRuns 94 = .ok (.imul, 1) := by decide +kernel
theorem dX5_findsRuns_95 : decode cX5_findsRuns 95 = .ok (.iload_n 2, 1) := by decide +kernel
theorem dX5_findsRuns_96 : decode cX5_findsRuns 96 = .ok (.iadd, 1) := by decide +kernel
theorem dX5_findsRuns_97 : decode cX5_findsRuns 97 = .ok (.iconst 1, 1) := by decide +kernel
theorem dX5_findsRuns_98 : decode cX5_findsRuns 98 = .ok (.iadd, 1) := by decide +kernel
theorem dX5_findsRuns_99 : decode cX5_findsRuns 99 = .ok (.iaload, 1) := by decide +kernel
theorem dX5_findsRuns_100 : decode cX5_findsRuns 100 = .ok (.iadd, 1) := by decide +kernel
theorem dX5_findsRuns_101 : decode cX5_findsRuns 101 = .ok (.goto 4, 3) := by decide +kernel
theorem dX5_findsRuns_104 : decode cX5_findsRuns 104 = .ok (.iconst 0, 1) := by decide +kernel
theorem dX5_findsRuns_105 : decode cX5_findsRuns 105 = .ok (.iastore, 1) := by decide +kernel
theorem dX5_findsRuns_106 : decode cX5_findsRuns 106 = .ok (.iinc 2 (-1), 3) := by decide +kernel
theorem dX5_findsRuns_109 : decode cX5_findsRuns 109 = .ok (.goto (-95), 3) := by decide +kernel
theorem dX5_findsRuns_112 : decode cX5_findsRuns 112 = .ok (.iinc 1 (-1), 3) := by decide +kernel
theorem dX5_findsRuns_115 : decode cX5_findsRuns 115 = .ok (.goto (-110), 3) := by decide +kernel
theorem dX5_findsRuns_118 : decode cX5_findsRuns 118 = .ok (.return_, 1) := by decide +kernel
set_option maxRecDepth 20000 in
theorem ggX5_longestRun_X5_findsRuns : GoodIn wsX5_longestRun wsX5_findsRuns := goodIn_r _ [8, 1, 2, 9, 10, 3, 11, 12, 13, 7, 14, 15, 16, 17, 18, 19, 20, 21, 22, 23, 24, 25, 26, 27, 28, 29, 30, 31, 32, 33, 34, 35, 36, 37] (by decide +kernel) (by decide +kernel)
set_option maxRecDepth 20000 in
theorem gX5_longestRun_X5_findsRuns : GoodIn wsX5_longestRun (wsV RX5 76 RX5 yX5_findsRuns wsX5_findsRuns) := goodIn_app (goodIn_of _ (by decide +kernel)) ggX5_longestRun_X5_findsRuns
theorem dX5_longestRun_0 : decode cX5_longestRun 0 = .ok (.aload_n 0, 1) := by decide +kernel
theorem dX5_longestRun_1 : decode cX5_longestRun 1 = .ok (.invokevirtual 76, 3) := by decide +kernel
theorem dX5_longestRun_4 : decode cX5_longestRun 4 = .ok (.iconst 0, 1) := by decide +kernel
theorem dX5_longestRun_5 : decode cX5_longestRun 5 = .ok (.istore_n 1, 1) := by decide +kernel
theorem dX5_longestRun_6 : decode cX5_longestRun 6 = .ok (.iconst 0, 1) := by decide +kernel
theorem dX5_longestRun_7 : decode cX5_longestRun 7 = .ok (.istore_n 2, 1) := by decide +kernel
theorem dX5_longestRun_8 : decode cX5_longestRun 8 = .ok (.iload_n 2, 1) := by decide +kernel
theorem dX5_longestRun_9 : decode cX5_longestRun 9 = .ok (.aload_n 0, 1) := by decide +kernel
theorem dX5_longestRun_10 : decode cX5_longestRun 10 = .ok (.getfield 57, 3) := by decide +kernel
theorem dX5_longestRun_13 : decode cX5_longestRun 13 = .ok (.if_icmp .ge 56, 3) := by decide +kernel
theorem dX5_longestRun_16 : decode cX5_longestRun 16 = .ok (.iconst 0, 1) := by decide +kernel
theorem dX5_longestRun_17 : decode cX5_longestRun 17 = .ok (.istore_n 3, 1) := by decide +kernel
theorem dX5_longestRun_18 : decode cX5_longestRun 18 = .ok (.iload_n 3, 1) := by decide +kernel
theorem dX5_longestRun_19 : decode cX5_longestRun 19 = .ok (.aload_n 0, 1) := by decide +kernel
theorem dX5_longestRun_20 : decode cX5_longestRun 20 = .ok (.getfield 65, 3) := by decide +kernel
theorem dX5_longestRun_23 : decode cX5_longestRun 23 = .ok (.if_icmp .ge 40, 3) := by decide +kernel
theorem dX5_longestRun_26 : decode cX5_longestRun 26 = .ok (.aload_n 0, 1) := by decide +kernel
theorem dX5_longestRun_27 : decode cX5_longestRun 27 = .ok (.getfield 38, 3) := by decide +kernel
theorem dX5_longestRun_30 : decode cX5_longestRun 30 = .ok (.bipush 49, 2) := by decide +kernel
theorem dX5_longestRun_32 : decode cX5_longestRun 32 = .ok (.iload_n 2, 1) := by decide +kernel
theorem dX5_longestRun_33 : decode cX5_longestRun 33 = .ok (.imul, 1) := by decide +kernel
theorem dX5_longestRun_34 : decode cX5_longestRun 34 = .ok (.iload_n 3, 1) := by decide +kernel
theorem dX5_longestRun_35 : decode cX5_longestRun 35 = .ok (.iadd, 1) := by decide +kernel
theorem dX5_longestRun_36 : decode cX5_longestRun 36 = .ok (.iaload, 1) := by decide +kernel
theorem dX5_longestRun_37 : decode cX5_longestRun 37 = .ok (.aload_n 0, 1) := by decide +kernel
theorem dX5_longestRun_38 : decode cX5_longestRun 38 = .ok (.getfield 38, 3) := by decide +kernel
theorem dX5_longestRun_41 : decode cX5_longestRun 41 = .ok (.iload_n 1, 1) := by decide +kernel
theorem dX5_longestRun_42 : decode cX5_longestRun 42 = .ok (.iaload, 1) := by decide +kernel
theorem dX5_longestRun_43 : decode cX5_longestRun 43 = .ok (.if_icmp .le 12, 3) := by decide +kernel
theorem dX5_longestRun_46 : decode cX5_longestRun 46 = .ok (.bipush 49, 2) := by decide +kernel
theorem dX5_longestRun_48 : decode cX5_longestRun 48 = .ok (.iload_n 2, 1) := by decide +kernel
theorem dX5_longestRun_49 : decode cX5_longestRun 49 = .ok (.imul, 1) := by decide +kernel
theorem dX5_longestRun_50 : decode cX5_longestRun 50 = .ok (.iload_n 3, 1) := by decide +kernel
theorem dX5_longestRun_51 : decode cX5_longestRun 51 = .ok (.iadd, 1) := by decide +kernel
theorem dX5_longestRun_52 : decode cX5_longestRun 52 = .ok (.goto 4, 3) := by decide +kernel
theorem dX5_longestRun_55 : decode cX5_longestRun 55 = .ok (.iload_n 1, 1) := by decide +kernel
theorem dX5_longestRun_56 : decode cX5_longestRun 56 = .ok (.istore_n 1, 1) := by decide +kernel
theorem dX5_longestRun_57 : decode cX5_longestRun 57 = .ok (.iinc 3 1, 3) := by decide +kernel
theorem dX5_longestRun_60 : decode cX5_longestRun 60 = .ok (.goto (-42), 3) := by decide +kernel
theorem dX5_longestRun_63 : decode cX5_longestRun 63 = .ok (.iinc 2 1, 3) := by decide +kernel
theorem dX5_longestRun_66 : decode cX5_longestRun 66 = .ok (.goto (-58), 3) := by decide +kernel
theorem dX5_longestRun_69 : decode cX5_longestRun 69 = .ok (.iload_n 1, 1) := by decide +kernel
theorem dX5_longestRun_70 : decode cX5_longestRun 70 = .ok (.ireturn, 1) := by decide +kernel
theorem dX5_takes_0 : decode cX5_takes 0 = .ok (.iconst 0, 1) := by decide +kernel
theorem dX5_takes_1 : decode cX5_takes 1 = .ok (.istore_n 2, 1) := by decide +kernel
theorem dX5_takes_2 : decode cX5_takes 2 = .ok (.iload_n 2, 1) := by decide +kernel
theorem dX5_takes_3 : decode cX5_takes 3 = .ok (.aload_n 0, 1) := by decide +kernel
theorem dX5_takes_4 : decode cX5_takes 4 = .ok (.getfield 38, 3) := by decide +kernel
theorem dX5_takes_7 : decode cX5_takes 7 = .ok (.iload_n 1, 1) := by decide +kernel
theorem dX5_takes_8 : decode cX5_takes 8 = .ok (.iaload, 1) := by decide +kernel
theorem dX5_takes_9 : decode cX5_takes 9 = .ok (.if_icmp .ge 33, 3) := by decide +kernel
theorem dX5_takes_12 : decode cX5_takes 12 = .ok (.aload_n 0, 1) := by decide +kernel
theorem dX5_takes_13 : decode cX5_takes 13 = .ok (.getfield 32, 3) := by decide +kernel
theorem dX5_takes_16 : decode cX5_takes 16 = .ok (.iload_n 1, 1) := by decide +kernel
theorem dX5_takes_17 : decode cX5_takes 17 = .ok (.bipush 49, 2) := by decide +kernel
theorem dX5_takes_19 : decode cX5_takes 19 = .ok (.idiv, 1) := by decide +kernel
theorem dX5_takes_20 : decode cX5_takes 20 = .ok (.iload_n 2, 1) := by decide +kernel
theorem dX5_takes_21 : decode cX5_takes 21 = .ok (.iadd, 1) := by decide +kernel
theorem dX5_takes_22 : decode cX5_takes 22 = .ok (.iload_n 1, 1) := by decide +kernel
theorem dX5_takes_23 : decode cX5_takes 23 = .ok (.iastore, 1) := by decide +kernel
theorem dX5_takes_24 : decode cX5_takes 24 = .ok (.aload_n 0, 1) := by decide +kernel
theorem dX5_takes_25 : decode cX5_takes 25 = .ok (.getfield 35, 3) := by decide +kernel
theorem dX5_takes_28 : decode cX5_takes 28 = .ok (.iload_n 1, 1) := by decide +kernel
