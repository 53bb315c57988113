theorem dX2_isReady_0 : decode cX2_isReady 0 = .ok (.iconst 0, 1) := by decide +kernel
theorem dX2_isReady_1 : decode cX2_isReady 1 = .ok (.istore_n 3, 1) := by decide +kernel
theorem dX2_isReady_2 : decode cX2_isReady 2 = .ok (.iload_n 3, 1) := by decide +kernel
theorem dX2_isReady_3 : decode cX2_isReady 3 = .ok (.aload_n 1, 1) := by decide +kernel
theorem dX2_isReady_4 : decode cX2_isReady 4 = .ok (.invokevirtual 47, 3) := by decide +kernel
theorem dX2_isReady_7 : decode cX2_isReady 7 = .ok (.if_icmp .ge 28, 3) := by decide +kernel
theorem dX2_isReady_10 : decode cX2_isReady 10 = .ok (.aload_n 0, 1) := by decide +kernel
theorem dX2_isReady_11 : decode cX2_isReady 11 = .ok (.iload_n 3, 1) := by decide +kernel
theorem dX2_isReady_12 : decode cX2_isReady 12 = .ok (.invokevirtual 65, 3) := by decide +kernel
theorem dX2_isReady_15 : decode cX2_isReady 15 = .ok (.ifCond .eq 14, 3) := by decide +kernel
theorem dX2_isReady_18 : decode cX2_isReady 18 = .ok (.aload_n 1, 1) := by decide +kernel
theorem dX2_isReady_19 : decode cX2_isReady 19 = .ok (.iload_n 3, 1) := by decide +kernel
theorem dX2_isReady_20 : decode cX2_isReady 20 = .ok (.iload_n 2, 1) := by decide +kernel
theorem dX2_isReady_21 : decode cX2_isReady 21 = .ok (.invokevirtual 72, 3) := by decide +kernel
theorem dX2_isReady_24 : decode cX2_isReady 24 = .ok (.ifCond .eq 5, 3) := by decide +kernel
theorem dX2_isReady_27 : decode cX2_isReady 27 = .ok (.iconst 0, 1) := by decide +kernel
theorem dX2_isReady_28 : decode cX2_isReady 28 = .ok (.ireturn, 1) := by decide +kernel
theorem dX2_isReady_29 : decode cX2_isReady 29 = .ok (.iinc 3 1, 3) := by decide +kernel
theorem dX2_isReady_32 : decode cX2_isReady 32 = .ok (.goto (-30), 3) := by decide +kernel
theorem dX2_isReady_35 : decode cX2_isReady 35 = .ok (.iconst 1, 1) := by decide +kernel
theorem dX2_isReady_36 : decode cX2_isReady 36 = .ok (.ireturn, 1) := by decide +kernel
set_option maxRecDepth 20000 in
theorem ggX2_shortestWaiting_X1_size : GoodIn wsX2_shortestWaiting wsX1_size := goodIn_r _ [5, 6, 22, 23, 24, 25] (by decide +kernel) (by decide +kernel)
set_option maxRecDepth 20000 in
theorem gX2_shortestWaiting_X1_size : GoodIn wsX2_shortestWaiting (wsV RX2 47 RX1 yX1_size wsX1_size) := goodIn_app (goodIn_of _ (by decide +kernel)) ggX2_shortestWaiting_X1_size
set_option maxRecDepth 20000 in
theorem ggX2_shortestWaiting_X2_waits : GoodIn wsX2_shortestWaiting wsX2_waits := goodIn_r _ [11, 12, 26, 27, 28, 29] (by decide +kernel) (by decide +kernel)
set_option maxRecDepth 20000 in
theorem gX2_shortestWaiting_X2_waits : GoodIn wsX2_shortestWaiting (wsV RX2 65 RX2 yX2_waits wsX2_waits) := goodIn_app (goodIn_of _ (by decide +kernel)) ggX2_shortestWaiting_X2_waits
set_option maxRecDepth 20000 in
theorem ggX2_shortestWaiting_X1_length : GoodIn wsX2_shortestWaiting wsX1_length := goodIn_r _ [16, 17, 18, 19, 20, 4, 21, 6, 22, 23, 24, 25] (by decide +kernel) (by decide +kernel)
set_option maxRecDepth 20000 in
theorem gX2_shortestWaiting_X1_length : GoodIn wsX2_shortestWaiting (wsV RX2 75 RX1 yX1_length wsX1_length) := goodIn_app (goodIn_of _ (by decide +kernel)) ggX2_shortestWaiting_X1_length
theorem dX2_shortestWaiting_0 : decode cX2_shortestWaiting 0 = .ok (.iconst (-1), 1) := by decide +kernel
theorem dX2_shortestWaiting_1 : decode cX2_shortestWaiting 1 = .ok (.istore_n 2, 1) := by decide +kernel
theorem dX2_shortestWaiting_2 : decode cX2_shortestWaiting 2 = .ok (.iconst 0, 1) := by decide +kernel
theorem dX2_shortestWaiting_3 : decode cX2_shortestWaiting 3 = .ok (.istore_n 3, 1) := by decide +kernel
theorem dX2_shortestWaiting_4 : decode cX2_shortestWaiting 4 = .ok (.iload_n 3, 1) := by decide +kernel
theorem dX2_shortestWaiting_5 : decode cX2_shortestWaiting 5 = .ok (.aload_n 1, 1) := by decide +kernel
theorem dX2_shortestWaiting_6 : decode cX2_shortestWaiting 6 = .ok (.invokevirtual 47, 3) := by decide +kernel
theorem dX2_shortestWaiting_9 : decode cX2_shortestWaiting 9 = .ok (.if_icmp .ge 37, 3) := by decide +kernel
theorem dX2_shortestWaiting_12 : decode cX2_shortestWaiting 12 = .ok (.aload_n 0, 1) := by decide +kernel
theorem dX2_shortestWaiting_13 : decode cX2_shortestWaiting 13 = .ok (.iload_n 3, 1) := by decide +kernel
theorem dX2_shortestWaiting_14 : decode cX2_shortestWaiting 14 = .ok (.invokevirtual 65, 3) := by decide +kernel
theorem dX2_shortestWaiting_17 : decode cX2_shortestWaiting 17 = .ok (.ifCond .eq 23, 3) := by decide +kernel
theorem dX2_shortestWaiting_20 : decode cX2_shortestWaiting 20 = .ok (.iload_n 2, 1) := by decide +kernel
theorem dX2_shortestWaiting_21 : decode cX2_shortestWaiting 21 = .ok (.iconst (-1), 1) := by decide +kernel
theorem dX2_shortestWaiting_22 : decode cX2_shortestWaiting 22 = .ok (.if_icmp .eq 16, 3) := by decide +kernel
theorem dX2_shortestWaiting_25 : decode cX2_shortestWaiting 25 = .ok (.aload_n 1, 1) := by decide +kernel
theorem dX2_shortestWaiting_26 : decode cX2_shortestWaiting 26 = .ok (.iload_n 3, 1) := by decide +kernel
theorem dX2_shortestWaiting_27 : decode cX2_shortestWaiting 27 = .ok (.invokevirtual 75, 3) := by decide +kernel
theorem dX2_shortestWaiting_30 : decode cX2_shortestWaiting 30 = .ok (.aload_n 1, 1) := by decide +kernel
theorem dX2_shortestWaiting_31 : decode cX2_shortestWaiting 31 = .ok (.iload_n 2, 1) := by decide +kernel
theorem dX2_shortestWaiting_32 : decode cX2_shortestWaiting 32 = .ok (.invokevirtual 75, 3) := by decide +kernel
theorem dX2_shortestWaiting_35 : decode cX2_shortestWaiting 35 = .ok (.if_icmp .ge 5, 3) := by decide +kernel
theorem dX2_shortestWaiting_38 : decode cX2_shortestWaiting 38 = .ok (.iload_n 3, 1) := by decide +kernel
theorem dX2_shortestWaiting_39 : decode cX2_shortestWaiting 39 = .ok (.istore_n 2, 1) := by decide +kernel
theorem dX2_shortestWaiting_40 : decode cX2_shortestWaiting 40 = .ok (.iinc 3 1, 3) := by decide +kernel
theorem dX2_shortestWaiting_43 : decode cX2_shortestWaiting 43 = .ok (.goto (-39), 3) := by decide +kernel
theorem dX2_shortestWaiting_46 : decode cX2_shortestWaiting 46 = .ok (.iload_n 2, 1) := by decide +kernel
theorem dX2_shortestWaiting_47 : decode cX2_shortestWaiting 47 = .ok (.ireturn, 1) := by decide +kernel
set_option maxRecDepth 20000 in
theorem ggX2_copy_X2_waits : GoodIn wsX2_copy wsX2_waits := goodIn_r _ [8, 2, 9, 10, 11, 12] (by decide +kernel) (by decide +kernel)
set_option maxRecDepth 20000 in
theorem gX2_copy_X2_waits : GoodIn wsX2_copy (wsV RX2 65 RX2 yX2_waits wsX2_waits) := goodIn_app (goodIn_of _ (by decide +kernel)) ggX2_copy_X2_waits
theorem dX2_copy_0 : decode cX2_copy 0 = .ok (.aload_n 0, 1) := by decide +kernel
theorem dX2_copy_1 : decode cX2_copy 1 = .ok (.iload_n 1, 1) := by decide +kernel
theorem dX2_copy_2 : decode cX2_copy 2 = .ok (.invokevirtual 65, 3) := by decide +kernel
theorem dX2_copy_5 : decode cX2_copy 5 = .ok (.ifCond .eq 39, 3) := by decide +kernel
theorem dX2_copy_8 : decode cX2_copy 8 = .ok (.aload_n 0, 1) := by decide +kernel
theorem dX2_copy_9 : decode cX2_copy 9 = .ok (.getfield 22, 3) := by decide +kernel
theorem dX2_copy_12 : decode cX2_copy 12 = .ok (.bipush 48, 2) := by decide +kernel
theorem dX2_copy_14 : decode cX2_copy 14 = .ok (.if_icmp .ge 30, 3) := by decide +kernel
theorem dX2_copy_17 : decode cX2_copy 17 = .ok (.aload_n 0, 1) := by decide +kernel
theorem dX2_copy_18 : decode cX2_copy 18 = .ok (.getfield 15, 3) := by decide +kernel
theorem dX2_copy_21 : decode cX2_copy 21 = .ok (.iload_n 1, 1) := by decide +kernel
theorem dX2_copy_22 : decode cX2_copy 22 = .ok (.iconst 0, 1) := by decide +kernel
theorem dX2_copy_23 : decode cX2_copy 23 = .ok (.bastore, 1) := by decide +kernel
theorem dX2_copy_24 : decode cX2_copy 24 = .ok (.aload_n 0, 1) := by decide +kernel
theorem dX2_copy_25 : decode cX2_copy 25 = .ok (.getfield 9, 3) := by decide +kernel
theorem dX2_copy_28 : decode cX2_copy 28 = .ok (.aload_n 0, 1) := by decide +kernel
theorem dX2_copy_29 : decode cX2_copy 29 = .ok (.getfield 22, 3) := by decide +kernel
theorem dX2_copy_32 : decode cX2_copy 32 = .ok (.iload_n 1, 1) := by decide +kernel
theorem dX2_copy_33 : decode cX2_copy 33 = .ok (.iastore, 1) := by decide +kernel
theorem dX2_copy_34 : decode cX2_copy 34 = .ok (.aload_n 0, 1) := by decide +kernel
theorem dX2_copy_35 : decode cX2_copy 35 = .ok (.dup, 1) := by decide +kernel
theorem dX2_copy_36 : decode cX2_copy 36 = .ok (.getfield 22, 3) := by decide +kernel
theorem dX2_copy_39 : decode cX2_copy 39 = .ok (.iconst 1, 1) := by decide +kernel
theorem dX2_copy_40 : decode cX2_copy 40 = .ok (.iadd, 1) := by decide +kernel
theorem dX2_copy_41 : decode cX2_copy 41 = .ok (.putfield 22, 3) := by decide +kernel
theorem dX2_copy_44 : decode cX2_copy 44 = .ok (.return_, 1) := by decide +kernel
set_option maxRecDepth 20000 in
theorem ggX2_drop_X2_waits : GoodIn wsX2_drop wsX2_waits := goodIn_r _ [7, 1, 8, 9, 10, 11] (by decide +kernel) (by decide +kernel)
set_option maxRecDepth 20000 in
theorem gX2_drop_X2_waits : GoodIn wsX2_drop (wsV RX2 65 RX2 yX2_waits wsX2_waits) := goodIn_app (goodIn_of _ (by decide +kernel)) ggX2_drop_X2_waits
theorem dX2_drop_0 : decode cX2_drop 0 = .ok (.aload_n 0, 1) := by decide +kernel
theorem dX2_drop_1 : decode cX2_drop 1 = .ok (.iload_n 1, 1) := by decide +kernel
theorem dX2_drop_2 : decode cX2_drop 2 = .ok (.invokevirtual 65, 3) := by decide +kernel
theorem dX2_drop_5 : decode cX2_drop 5 = .ok (.ifCond .eq 17, 3) := by decide +kernel
theorem dX2_drop_8 : decode cX2_drop 8 = .ok (.aload_n 0, 1) := by decide +kernel
theorem dX2_drop_9 : decode cX2_drop 9 = .ok (.getfield 15, 3) := by decide +kernel
theorem dX2_drop_12 : decode cX2_drop 12 = .ok (.iload_n 1, 1) := by decide +kernel
theorem dX2_drop_13 : decode cX2_drop 13 = .ok (.iconst 0, 1) := by decide +kernel
theorem dX2_drop_14 : decode cX2_drop 14 = .ok (.bastore, 1) := by decide +kernel
theorem dX2_drop_15 : decode cX2_drop 15 = .ok (.aload_n 0, 1) := by decide +kernel
theorem dX2_drop_16 : decode cX2_drop 16 = .ok (.getfield 19, 3) := by decide +kernel
theorem dX2_drop_19 : decode cX2_drop 19 = .ok (.iload_n 1, 1) := by decide +kernel
theorem dX2_drop_20 : decode cX2_drop 20 = .ok (.iconst 1, 1) := by decide +kernel
theorem dX2_drop_21 : decode cX2_drop 21 = .ok (.bastore, 1) := by decide +kernel
theorem dX2_drop_22 : decode cX2_drop 22 = .ok (.return_, 1) := by decide +kernel
theorem dX3_init_0 : decode cX3_init 0 = .ok (.aload_n 0, 1) := by decide +kernel
theorem dX3_init_1 : decode cX3_init 1 = .ok (.invokespecial 3, 3) := by decide +kernel
theorem dX3_init_4 : decode cX3_init 4 = .ok (.aload_n 0, 1) := by decide +kernel
theorem dX3_init_5 : decode cX3_init 5 = .ok (.bipush 48, 2) := by decide +kernel
theorem dX3_init_7 : decode cX3_init 7 = .ok (.newarray .int, 2) := by decide +kernel
theorem dX3_init_9 : decode cX3_init 9 = .ok (.putfield 9, 3) := by decide +kernel
theorem dX3_init_12 : decode cX3_init 12 = .ok (.aload_n 0, 1) := by decide +kernel
theorem dX3_init_13 : decode cX3_init 13 = .ok (.bipush 48, 2) := by decide +kernel
theorem dX3_init_15 : decode cX3_init 15 = .ok (.newarray .boolean, 2) := by decide +kernel
theorem dX3_init_17 : decode cX3_init 17 = .ok (.putfield 15, 3) := by decide +kernel
theorem dX3_init_20 : decode cX3_init 20 = .ok (.aload_n 0, 1) := by decide +kernel
theorem dX3_init_21 : decode cX3_init 21 = .ok (.iconst 0, 1) := by decide +kernel
theorem dX3_init_22 : decode cX3_init 22 = .ok (.putfield 19, 3) := by decide +kernel
theorem dX3_init_25 : decode cX3_init 25 = .ok (.return_, 1) := by decide +kernel
theorem dX3_size_0 : decode cX3_size 0 = .ok (.aload_n 0, 1) := by decide +kernel
theorem dX3_size_1 : decode cX3_size 1 = .ok (.getfield 19, 3) := by decide +kernel
theorem dX3_size_4 : decode cX3_size 4 = .ok (.ireturn, 1) := by decide +kernel
theorem dX3_isFull_0 : decode cX3_isFull 0 = .ok (.aload_n 0, 1) := by decide +kernel
theorem dX3_isFull_1 : decode cX3_isFull 1 = .ok (.getfield 19, 3) := by decide +kernel
theorem dX3_isFull_4 : decode cX3_isFull 4 = .ok (.bipush 48, 2) := by decide +kernel
theorem dX3_isFull_6 : decode cX3_isFull 6 = .ok (.if_icmp .lt 7, 3) := by decide +kernel
theorem dX3_isFull_9 : decode cX3_isFull 9 = .ok (.iconst 1, 1) := by decide +kernel
theorem dX3_isFull_10 : decode cX3_isFull 10 = .ok (.goto 4, 3) := by decide +kernel
theorem dX3_isFull_13 : decode cX3_isFull 13 = .ok (.iconst 0, 1) := by decide +kernel
theorem dX3_isFull_14 : decode cX3_isFull 14 = .ok (.ireturn, 1) := by decide +kernel
theorem dX3_holds_0 : decode cX3_holds 0 = .ok (.iload_n 1, 1) := by decide +kernel
theorem dX3_holds_1 : decode cX3_holds 1 = .ok (.ifCond .lt 15, 3) := by decide +kernel
theorem dX3_holds_4 : decode cX3_holds 4 = .ok (.iload_n 1, 1) := by decide +kernel
theorem dX3_holds_5 : decode cX3_holds 5 = .ok (.aload_n 0, 1) := by decide +kernel
theorem dX3_holds_6 : decode cX3_holds 6 = .ok (.getfield 19, 3) := by decide +kernel
theorem dX3_holds_9 : decode cX3_holds 9 = .ok (.if_icmp .ge 7, 3) := by decide +kernel
theorem dX3_holds_12 : decode cX3_holds 12 = .ok (.iconst 1, 1) := by decide +kernel
theorem dX3_holds_13 : decode cX3_holds 13 = .ok (.goto 4, 3) := by decide +kernel
theorem dX3_holds_16 : decode cX3_holds 16 = .ok (.iconst 0, 1) := by decide +kernel
theorem dX3_holds_17 : decode cX3_holds 17 = .ok (.ireturn, 1) := by decide +kernel
set_option maxRecDepth 20000 in
theorem ggX3_valueAt_X3_holds : GoodIn wsX3_valueAt wsX3_holds := goodIn_r _ [6, 7, 8, 9, 10] (by decide +kernel) (by decide +kernel)
set_option maxRecDepth 20000 in
theorem gX3_valueAt_X3_holds : GoodIn wsX3_valueAt (wsV RX3 23 RX3 yX3_holds wsX3_holds) := goodIn_app (goodIn_of _ (by decide +kernel)) ggX3_valueAt_X3_holds
theorem dX3_valueAt_0 : decode cX3_valueAt 0 = .ok (.aload_n 0, 1) := by decide +kernel
theorem dX3_valueAt_1 : decode cX3_valueAt 1 = .ok (.iload_n 1, 1) := by decide +kernel
theorem dX3_valueAt_2 : decode cX3_valueAt 2 = .ok (.invokevirtual 23, 3) := by decide +kernel
theorem dX3_valueAt_5 : decode cX3_valueAt 5 = .ok (.ifCond .eq 12, 3) := by decide +kernel
theorem dX3_valueAt_8 : decode cX3_valueAt 8 = .ok (.aload_n 0, 1) := by decide +kernel
theorem dX3_valueAt_9 : decode cX3_valueAt 9 = .ok (.getfield 9, 3) := by decide +kernel
theorem dX3_valueAt_12 : decode cX3_valueAt 12 = .ok (.iload_n 1, 1) := by decide +kernel
theorem dX3_valueAt_13 : decode cX3_valueAt 13 = .ok (.iaload, 1) := by decide +kernel
theorem dX3_valueAt_14 : decode cX3_valueAt 14 = .ok (.goto 4, 3) := by decide +kernel
theorem dX3_valueAt_17 : decode cX3_valueAt 17 = .ok (.iconst 0, 1) := by decide +kernel
theorem dX3_valueAt_18 : decode cX3_valueAt 18 = .ok (.ireturn, 1) := by decide +kernel
set_option maxRecDepth 20000 in
theorem ggX3_isAddress_X3_holds : GoodIn wsX3_isAddress wsX3_holds := goodIn_r _ [6, 7, 8, 9, 10] (by decide +kernel) (by decide +kernel)
set_option maxRecDepth 20000 in
theorem gX3_isAddress_X3_holds : GoodIn wsX3_isAddress (wsV RX3 23 RX3 yX3_holds wsX3_holds) := goodIn_app (goodIn_of _ (by decide +kernel)) ggX3_isAddress_X3_holds
theorem dX3_isAddress_0 : decode cX3_isAddress 0 = .ok (.aload_n 0, 1) := by decide +kernel
theorem dX3_isAddress_1 : decode cX3_isAddress 1 = .ok (.iload_n 1, 1) := by decide +kernel
theorem dX3_isAddress_2 : decode cX3_isAddress 2 = .ok (.invokevirtual 23, 3) := by decide +kernel
theorem dX3_isAddress_5 : decode cX3_isAddress 5 = .ok (.ifCond .eq 16, 3) := by decide +kernel
theorem dX3_isAddress_8 : decode cX3_isAddress 8 = .ok (.aload_n 0, 1) := by decide +kernel
theorem dX3_isAddress_9 : decode cX3_isAddress 9 = .ok (.getfield 15, 3) := by decide +kernel
theorem dX3_isAddress_12 : decode cX3_isAddress 12 = .ok (.iload_n 1, 1) := by decide +kernel
theorem dX3_isAddress_13 : decode cX3_isAddress 13 = .ok (.baload, 1) := by decide +kernel
theorem dX3_isAddress_14 : decode cX3_isAddress 14 = .ok (.ifCond .eq 7, 3) := by decide +kernel
theorem dX3_isAddress_17 : decode cX3_isAddress 17 = .ok (.iconst 1, 1) := by decide +kernel
theorem dX3_isAddress_18 : decode cX3_isAddress 18 = .ok (.goto 4, 3) := by decide +kernel
theorem dX3_isAddress_21 : decode cX3_isAddress 21 = .ok (.iconst 0, 1) := by decide +kernel
theorem dX3_isAddress_22 : decode cX3_isAddress 22 = .ok (.ireturn, 1) := by decide +kernel
set_option maxRecDepth 20000 in
theorem ggX3_add_X3_isFull : GoodIn wsX3_add wsX3_isFull := goodIn_r _ [8, 2, 9, 10, 11] (by decide +kernel) (by decide +kernel)
set_option maxRecDepth 20000 in
theorem gX3_add_X3_isFull : GoodIn wsX3_add (wsV RX3 27 RX3 yX3_isFull wsX3_isFull) := goodIn_app (goodIn_of _ (by decide +kernel)) ggX3_add_X3_isFull
theorem dX3_add_0 : decode cX3_add 0 = .ok (.aload_n 0, 1) := by decide +kernel
theorem dX3_add_1 : decode cX3_add 1 = .ok (.invokevirtual 27, 3) := by decide +kernel
theorem dX3_add_4 : decode cX3_add 4 = .ok (.ifCond .eq 4, 3) := by decide +kernel
theorem dX3_add_7 : decode cX3_add 7 = .ok (.return_, 1) := by decide +kernel
theorem dX3_add_8 : decode cX3_add 8 = .ok (.aload_n 0, 1) := by decide +kernel
theorem dX3_add_9 : decode cX3_add 9 = .ok (.getfield 9, 3) := by decide +kernel
theorem dX3_add_12 : decode cX3_add 12 = .ok (.aload_n 0, 1) := by decide +kernel
theorem dX3_add_13 : decode cX3_add 13 = .ok (.getfield 19, 3) := by decide +kernel
theorem dX3_add_16 : decode cX3_add 16 = .ok (.iload_n 1, 1) := by decide +kernel
theorem dX3_add_17 : decode cX3_add 17 = .ok (.iastore, 1) := by decide +kernel
theorem dX3_add_18 : decode cX3_add 18 = .ok (.aload_n 0, 1) := by decide +kernel
theorem dX3_add_19 : decode cX3_add 19 = .ok (.getfield 15, 3) := by decide +kernel
theorem dX3_add_22 : decode cX3_add 22 = .ok (.aload_n 0, 1) := by decide +kernel
theorem dX3_add_23 : decode cX3_add 23 = .ok (.getfield 19, 3) := by decide +kernel
theorem dX3_add_26 : decode cX3_add 26 = .ok (.iload_n 2, 1) := by decide +kernel
theorem dX3_add_27 : decode cX3_add 27 = .ok (.bastore, 1) := by decide +kernel
theorem dX3_add_28 : decode cX3_add 28 = .ok (.aload_n 0, 1) := by decide +kernel
theorem dX3_add_29 : decode cX3_add 29 = .ok (.dup, 1) := by decide +kernel
theorem dX3_add_30 : decode cX3_add 30 = .ok (.getfield 19, 3) := by decide +kernel
theorem dX3_add_33 : decode cX3_add 33 = .ok (.iconst 1, 1) := by decide +kernel
theorem dX3_add_34 : decode cX3_add 34 = .ok (.iadd, 1) := by decide +kernel
theorem dX3_add_35 : decode cX3_add 35 = .ok (.putfield 19, 3) := by decide +kernel
theorem dX3_add_38 : decode cX3_add 38 = .ok (.return_, 1) := by decide +kernel
set_option maxRecDepth 20000 in
theorem ggX3_replace_X3_holds : GoodIn wsX3_replace wsX3_holds := goodIn_r _ [6, 7, 8, 9, 10] (by decide +kernel) (by decide +kernel)
set_option maxRecDepth 20000 in
theorem gX3_replace_X3_holds : GoodIn wsX3_replace (wsV RX3 23 RX3 yX3_holds wsX3_holds) := goodIn_app (goodIn_of _ (by decide +kernel)) ggX3_replace_X3_holds
theorem dX3_replace_0 : decode cX3_replace 0 = .ok (.aload_n 0, 1) := by decide +kernel
theorem dX3_replace_1 : decode cX3_replace 1 = .ok (.iload_n 1, 1) := by decide +kernel
theorem dX3_replace_2 : decode cX3_replace 2 = .ok (.invokevirtual 23, 3) := by decide +kernel
theorem dX3_replace_5 : decode cX3_replace 5 = .ok (.ifCond .eq 10, 3) := by decide +kernel
theorem dX3_replace_8 : decode cX3_replace 8 = .ok (.aload_n 0, 1) := by decide +kernel
theorem dX3_replace_9 : decode cX3_replace 9 = .ok (.getfield 9, 3) := by decide +kernel
theorem dX3_replace_12 : decode cX3_replace 12 = .ok (.iload_n 1, 1) := by decide +kernel
theorem dX3_replace_13 : decode cX3_replace 13 = .ok (.iload_n 2, 1) := by decide +kernel
theorem dX3_replace_14 : decode cX3_replace 14 = .ok (.iastore, 1) := by decide +kernel
theorem dX3_replace_15 : decode cX3_replace 15 = .ok (.return_, 1) := by decide +kernel
theorem dX3_removeAll_0 : decode cX3_removeAll 0 = .ok (.aload_n 0, 1) := by decide +kernel
theorem dX3_removeAll_1 : decode cX3_removeAll 1 = .ok (.iconst 0, 1) := by decide +kernel
theorem dX3_removeAll_2 : decode cX3_removeAll 2 = .ok (.putfield 19, 3) := by decide +kernel
theorem dX3_removeAll_5 : decode cX3_removeAll 5 = .ok (.return_, 1) := by decide +kernel
set_option maxRecDepth 20000 in
theorem ggX4_init_X3_init : GoodIn wsX4_init wsX3_init := goodIn_r _ [24, 25, 2, 3, 26, 27, 28, 29, 30, 57, 58, 59] (by decide +kernel) (by decide +kernel)
set_option maxRecDepth 20000 in
theorem gX4_init_X3_init : GoodIn wsX4_init (wsX3_init) := ggX4_init_X3_init
set_option maxRecDepth 20000 in
theorem ggX4_init_X1_init : GoodIn wsX4_init wsX1_init := goodIn_r _ [33, 34, 2, 3, 26, 35, 36, 37, 38, 66, 67, 68, 69] (by decide +kernel) (by decide +kernel)
set_option maxRecDepth 20000 in
theorem gX4_init_X1_init : GoodIn wsX4_init (wsX1_init) := ggX4_init_X1_init
set_option maxRecDepth 20000 in
theorem ggX4_init_X0_init : GoodIn wsX4_init wsX0_init := goodIn_r _ [41, 42, 2, 3, 28, 43, 44, 26, 45, 46, 47, 48, 70, 71, 72, 73, 74, 75] (by decide +kernel) (by decide +kernel)
set_option maxRecDepth 20000 in
theorem gX4_init_X0_init : GoodIn wsX4_init (wsX0_init) := ggX4_init_X0_init
set_option maxRecDepth 20000 in
theorem ggX4_init_X2_init : GoodIn wsX4_init wsX2_init := goodIn_r _ [51, 52, 2, 3, 26, 53, 28, 54, 55, 56, 76, 77, 78, 79] (by decide +kernel) (by decide +kernel)
set_option maxRecDepth 20000 in
theorem gX4_init_X2_init : GoodIn wsX4_init (wsX2_init) := ggX4_init_X2_init
theorem dX4_init_0 : decode cX4_init 0 = .ok (.aload_n 0, 1) := by decide +kernel
theorem dX4_init_1 : decode cX4_init 1 = .ok (.invokespecial 1, 3) := by decide +kernel
theorem dX4_init_4 : decode cX4_init 4 = .ok (.aload_n 0, 1) := by decide +kernel
theorem dX4_init_5 : decode cX4_init 5 = .ok (.new 7, 3) := by decide +kernel
theorem dX4_init_8 : decode cX4_init 8 = .ok (.dup, 1) := by decide +kernel
theorem dX4_init_9 : decode cX4_init 9 = .ok (.invokespecial 9, 3) := by decide +kernel
theorem dX4_init_12 : decode cX4_init 12 = .ok (.putfield 10, 3) := by decide +kernel
theorem dX4_init_15 : decode cX4_init 15 = .ok (.aload_n 0, 1) := by decide +kernel
theorem dX4_init_16 : decode cX4_init 16 = .ok (.new 7, 3) := by decide +kernel
theorem dX4_init_19 : decode cX4_init 19 = .ok (.dup, 1) := by decide +kernel
theorem dX4_init_20 : decode cX4_init 20 = .ok (.invokespecial 9, 3) := by decide +kernel
theorem dX4_init_23 : decode cX4_init 23 = .ok (.putfield 16, 3) := by decide +kernel
theorem dX4_init_26 : decode cX4_init 26 = .ok (.aload_n 0, 1) := by decide +kernel
theorem dX4_init_27 : decode cX4_init 27 = .ok (.new 19, 3) := by decide +kernel
theorem dX4_init_30 : decode cX4_init 30 = .ok (.dup, 1) := by decide +kernel
theorem dX4_init_31 : decode cX4_init 31 = .ok (.invokespecial 21, 3) := by decide +kernel
theorem dX4_init_34 : decode cX4_init 34 = .ok (.putfield 22, 3) := by decide +kernel
theorem dX4_init_37 : decode cX4_init 37 = .ok (.aload_n 0, 1) := by decide +kernel
theorem dX4_init_38 : decode cX4_init 38 = .ok (.new 26, 3) := by decide +kernel
theorem dX4_init_41 : decode cX4_init 41 = .ok (.dup, 1) := by decide +kernel
theorem dX4_init_42 : decode cX4_init 42 = .ok (.invokespecial 28, 3) := by decide +kernel
theorem dX4_init_45 : decode cX4_init 45 = .ok (.putfield 29, 3) := by decide +kernel
theorem dX4_init_48 : decode cX4_init 48 = .ok (.aload_n 0, 1) := by decide +kernel
theorem dX4_init_49 : decode cX4_init 49 = .ok (.new 33, 3) := by decide +kernel
theorem dX4_init_52 : decode cX4_init 52 = .ok (.dup, 1) := by decide +kernel
theorem dX4_init_53 : decode cX4_init 53 = .ok (.invokespecial 35, 3) := by decide +kernel
theorem dX4_init_56 : decode cX4_init 56 = .ok (.putfield 36, 3) := by decide +kernel
theorem dX4_init_59 : decode cX4_init 59 = .ok (.aload_n 0, 1) := by decide +kernel
theorem dX4_init_60 : decode cX4_init 60 = .ok (.iconst 0, 1) := by decide +kernel
theorem dX4_init_61 : decode cX4_init 61 = .ok (.putfield 40, 3) := by decide +kernel
theorem dX4_init_64 : decode cX4_init 64 = .ok (.return_, 1) := by decide +kernel
set_option maxRecDepth 20000 in
theorem ggX4_appendOld_X4_append : GoodIn wsX4_appendOld wsX4_append := goodIn_r _ [6, 7, 8, 9, 5, 10, 11, 12, 13, 14, 15, 16, 17, 18, 19, 20, 21, 22, 23, 24, 25, 26, 27, 28, 29, 30, 31, 32, 33, 34, 35, 36] (by decide +kernel) (by decide +kernel)
set_option maxRecDepth 20000 in
theorem gX4_appendOld_X4_append : GoodIn wsX4_appendOld (wsV RX4 44 RX4 yX4_append wsX4_append) := goodIn_app (goodIn_of _ (by decide +kernel)) ggX4_appendOld_X4_append
theorem dX4_appendOld_0 : decode cX4_appendOld 0 = .ok (.aload_n 0, 1) := by decide +kernel
theorem dX4_appendOld_1 : decode cX4_appendOld 1 = .ok (.aload_n 0, 1) := by decide +kernel
theorem dX4_appendOld_2 : decode cX4_appendOld 2 = .ok (.getfield 10, 3) := by decide +kernel
theorem dX4_appendOld_5 : decode cX4_appendOld 5 = .ok (.iload_n 1, 1) := by decide +kernel
theorem dX4_appendOld_6 : decode cX4_appendOld 6 = .ok (.iload_n 2, 1) := by decide +kernel
theorem dX4_appendOld_7 : decode cX4_appendOld 7 = .ok (.invokevirtual 44, 3) := by decide +kernel
theorem dX4_appendOld_10 : decode cX4_appendOld 10 = .ok (.ireturn, 1) := by decide +kernel
set_option maxRecDepth 20000 in
theorem ggX4_appendNew_X4_append : GoodIn wsX4_appendNew wsX4_append := goodIn_r _ [6, 7, 8, 9, 5, 10, 11, 12, 13, 14, 15, 16, 17, 18, 19, 20, 21, 22, 23, 24, 25, 26, 27, 28, 29, 30, 31, 32, 33, 34, 35, 36] (by decide +kernel) (by decide +kernel)
set_option maxRecDepth 20000 in
theorem gX4_appendNew_X4_append : GoodIn wsX4_appendNew (wsV RX4 44 RX4 yX4_append wsX4_append) := goodIn_app (goodIn_of _ (by decide +kernel)) ggX4_appendNew_X4_append
theorem dX4_appendNew_0 : decode cX4_appendNew 0 = .ok (.aload_n 0, 1) := by decide +kernel
theorem dX4_appendNew_1 : decode cX4_appendNew 1 = .ok (.aload_n 0, 1) := by decide +kernel
theorem dX4_appendNew_2 : decode cX4_appendNew 2 = .ok (.getfield 16, 3) := by decide +kernel
theorem dX4_appendNew_5 : decode cX4_appendNew 5 = .ok (.iload_n 1, 1) := by decide +kernel
theorem dX4_appendNew_6 : decode cX4_appendNew 6 = .ok (.iload_n 2, 1) := by decide +kernel
theorem dX4_appendNew_7 : decode cX4_appendNew 7 = .ok (.invokevirtual 44, 3) := by decide +kernel
theorem dX4_appendNew_10 : decode cX4_appendNew 10 = .ok (.ireturn, 1) := by decide +kernel
set_option maxRecDepth 20000 in
theorem ggX4_setNew_X3_holds : GoodIn wsX4_setNew wsX3_holds := goodIn_r _ [7, 8, 29, 30, 31] (by decide +kernel) (by decide +kernel)
set_option maxRecDepth 20000 in
theorem gX4_setNew_X3_holds : GoodIn wsX4_setNew (wsV RX4 48 RX3 yX3_holds wsX3_holds) := goodIn_app (goodIn_of _ (by decide +kernel)) ggX4_setNew_X3_holds
set_option maxRecDepth 20000 in
theorem ggX4_setNew_X4_isValue : GoodIn wsX4_setNew wsX4_isValue := goodIn_r _ [12] (by decide +kernel) (by decide +kernel)
set_option maxRecDepth 20000 in
theorem gX4_setNew_X4_isValue : GoodIn wsX4_setNew (va_wsS RX4 52 yX4_isValue wsX4_isValue) := goodIn_app (goodIn_of _ (by decide +kernel)) ggX4_setNew_X4_isValue
set_option maxRecDepth 20000 in
theorem ggX4_setNew_X3_valueAt : GoodIn wsX4_setNew wsX3_valueAt := goodIn_r _ [16, 17, 18, 4, 5, 6, 7, 8, 29, 30, 31] (by decide +kernel) (by decide +kernel)
set_option maxRecDepth 20000 in
theorem gX4_setNew_X3_valueAt : GoodIn wsX4_setNew (wsV RX4 55 RX3 yX3_valueAt wsX3_valueAt) := goodIn_app (goodIn_of _ (by decide +kernel)) ggX4_setNew_X3_valueAt
set_option maxRecDepth 20000 in
theorem ggX4_setNew_X3_replace : GoodIn wsX4_setNew wsX3_replace := goodIn_r _ [22, 17, 18, 4, 5, 6, 7, 8, 29, 30, 31] (by decide +kernel) (by decide +kernel)
set_option maxRecDepth 20000 in
theorem gX4_setNew_X3_replace : GoodIn wsX4_setNew (wsV RX4 59 RX3 yX3_replace wsX3_replace) := goodIn_app (goodIn_of _ (by decide +kernel)) ggX4_setNew_X3_replace
theorem dX4_setNew_0 : decode cX4_setNew 0 = .ok (.aload_n 0, 1) := by decide +kernel
theorem dX4_setNew_1 : decode cX4_setNew 1 = .ok (.getfield 16, 3) := by decide +kernel
theorem dX4_setNew_4 : decode cX4_setNew 4 = .ok (.iload_n 1, 1) := by decide +kernel
theorem dX4_setNew_5 : decode cX4_setNew 5 = .ok (.invokevirtual 48, 3) := by decide +kernel
theorem dX4_setNew_8 : decode cX4_setNew 8 = .ok (.ifCond .ne 7, 3) := by decide +kernel
theorem dX4_setNew_11 : decode cX4_setNew 11 = .ok (.sipush (-10003), 3) := by decide +kernel
theorem dX4_setNew_14 : decode cX4_setNew 14 = .ok (.ireturn, 1) := by decide +kernel
theorem dX4_setNew_15 : decode cX4_setNew 15 = .ok (.iload_n 2, 1) := by decide +kernel
theorem dX4_setNew_16 : decode cX4_setNew 16 = .ok (.invokestatic 52, 3) := by decide +kernel
theorem dX4_setNew_19 : decode cX4_setNew 19 = .ok (.ifCond .ne 7, 3) := by decide +kernel
theorem dX4_setNew_22 : decode cX4_setNew 22 = .ok (.sipush (-10001), 3) := by decide +kernel
theorem dX4_setNew_25 : decode cX4_setNew 25 = .ok (.ireturn, 1) := by decide +kernel
theorem dX4_setNew_26 : decode cX4_setNew 26 = .ok (.aload_n 0, 1) := by decide +kernel
theorem dX4_setNew_27 : decode cX4_setNew 27 = .ok (.getfield 16, 3) := by decide +kernel
theorem dX4_setNew_30 : decode cX4_setNew 30 = .ok (.iload_n 1, 1) := by decide +kernel
theorem dX4_setNew_31 : decode cX4_setNew 31 = .ok (.invokevirtual 55, 3) := by decide +kernel
theorem dX4_setNew_34 : decode cX4_setNew 34 = .ok (.istore_n 3, 1) := by decide +kernel
theorem dX4_setNew_35 : decode cX4_setNew 35 = .ok (.aload_n 0, 1) := by decide +kernel
theorem dX4_setNew_36 : decode cX4_setNew 36 = .ok (.getfield 16, 3) := by decide +kernel
theorem dX4_setNew_39 : decode cX4_setNew 39 = .ok (.iload_n 1, 1) := by decide +kernel
theorem dX4_setNew_40 : decode cX4_setNew 40 = .ok (.iload_n 2, 1) := by decide +kernel
theorem dX4_setNew_41 : decode cX4_setNew 41 = .ok (.invokevirtual 59, 3) := by decide +kernel
theorem dX4_setNew_44 : decode cX4_setNew 44 = .ok (.aload_n 0, 1) := by decide +kernel
theorem dX4_setNew_45 : decode cX4_setNew 45 = .ok (.iconst 0, 1) := by decide +kernel
theorem dX4_setNew_46 : decode cX4_setNew 46 = .ok (.putfield 40, 3) := by decide +kernel
theorem dX4_setNew_49 : decode cX4_setNew 49 = .ok (.iload_n 3, 1) := by decide +kernel
theorem dX4_setNew_50 : decode cX4_setNew 50 = .ok (.ireturn, 1) := by decide +kernel
set_option maxRecDepth 20000 in
theorem ggX4_clear_X3_size : GoodIn wsX4_clear wsX3_size := goodIn_r _ [8, 9, 20, 21, 22] (by decide +kernel) (by decide +kernel)
set_option maxRecDepth 20000 in
theorem gX4_clear_X3_size : GoodIn wsX4_clear (wsV RX4 63 RX3 yX3_size wsX3_size) := goodIn_app (goodIn_of _ (by decide +kernel)) ggX4_clear_X3_size
set_option maxRecDepth 20000 in
theorem ggX4_clear_X3_removeAll : GoodIn wsX4_clear wsX3_removeAll := goodIn_r _ [13, 9, 20, 21, 22] (by decide +kernel) (by decide +kernel)
set_option maxRecDepth 20000 in
theorem gX4_clear_X3_removeAll : GoodIn wsX4_clear (wsV RX4 67 RX3 yX3_removeAll wsX3_removeAll) := goodIn_app (goodIn_of _ (by decide +kernel)) ggX4_clear_X3_removeAll
theorem dX4_clear_0 : decode cX4_clear 0 = .ok (.aload_n 0, 1) := by decide +kernel
theorem dX4_clear_1 : decode cX4_clear 1 = .ok (.getfield 10, 3) := by decide +kernel
theorem dX4_clear_4 : decode cX4_clear 4 = .ok (.invokevirtual 63, 3) := by decide +kernel
theorem dX4_clear_7 : decode cX4_clear 7 = .ok (.aload_n 0, 1) := by decide +kernel
theorem dX4_clear_8 : decode cX4_clear 8 = .ok (.getfield 16, 3) := by decide +kernel
theorem dX4_clear_11 : decode cX4_clear 11 = .ok (.invokevirtual 63, 3) := by decide +kernel
theorem dX4_clear_14 : decode cX4_clear 14 = .ok (.iadd, 1) := by decide +kernel
theorem dX4_clear_15 : decode cX4_clear 15 = .ok (.istore_n 1, 1) := by decide +kernel
theorem dX4_clear_16 : decode cX4_clear 16 = .ok (.aload_n 0, 1) := by decide +kernel
theorem dX4_clear_17 : decode cX4_clear 17 = .ok (.getfield 10, 3) := by decide +kernel
theorem dX4_clear_20 : decode cX4_clear 20 = .ok (.invokevirtual 67, 3) := by decide +kernel
theorem dX4_clear_23 : decode cX4_clear 23 = .ok (.aload_n 0, 1) := by decide +kernel
theorem dX4_clear_24 : decode cX4_clear 24 = .ok (.getfield 16, 3) := by decide +kernel
theorem dX4_clear_27 : decode cX4_clear 27 = .ok (.invokevirtual 67, 3) := by decide +kernel
theorem dX4_clear_30 : decode cX4_clear 30 = .ok (.aload_n 0, 1) := by decide +kernel
theorem dX4_clear_31 : decode cX4_clear 31 = .ok (.iconst 0, 1) := by decide +kernel
theorem dX4_clear_32 : decode cX4_clear 32 = .ok (.putfield 40, 3) := by decide +kernel
theorem dX4_clear_35 : decode cX4_clear 35 = .ok (.iload_n 1, 1) := by decide +kernel
theorem dX4_clear_36 : decode cX4_clear 36 = .ok (.ireturn, 1) := by decide +kernel
set_option maxRecDepth 20000 in
theorem ggX4_oldLength_X3_size : GoodIn wsX4_oldLength wsX3_size := goodIn_r _ [6, 7, 14, 15, 16] (by decide +kernel) (by decide +kernel)
set_option maxRecDepth 20000 in
theorem gX4_oldLength_X3_size : GoodIn wsX4_oldLength (wsV RX4 63 RX3 yX3_size wsX3_size) := goodIn_app (goodIn_of _ (by decide +kernel)) ggX4_oldLength_X3_size
theorem dX4_oldLength_0 : decode cX4_oldLength 0 = .ok (.aload_n 0, 1) := by decide +kernel
theorem dX4_oldLength_1 : decode cX4_oldLength 1 = .ok (.getfield 10, 3) := by decide +kernel
theorem dX4_oldLength_4 : decode cX4_oldLength 4 = .ok (.invokevirtual 63, 3) := by decide +kernel
theorem dX4_oldLength_7 : decode cX4_oldLength 7 = .ok (.ireturn, 1) := by decide +kernel
set_option maxRecDepth 20000 in
theorem ggX4_newLength_X3_size : GoodIn wsX4_newLength wsX3_size := goodIn_r _ [6, 7, 14, 15, 16] (by decide +kernel) (by decide +kernel)
set_option maxRecDepth 20000 in
theorem gX4_newLength_X3_size : GoodIn wsX4_newLength (wsV RX4 63 RX3 yX3_size wsX3_size) := goodIn_app (goodIn_of _ (by decide +kernel)) ggX4_newLength_X3_size
theorem dX4_newLength_0 : decode cX4_newLength 0 = .ok (.aload_n 0, 1) := by decide +kernel
theorem dX4_newLength_1 : decode cX4_newLength 1 = .ok (.getfield 16, 3) := by decide +kernel
theorem dX4_newLength_4 : decode cX4_newLength 4 = .ok (.invokevirtual 63, 3) := by decide +kernel
theorem dX4_newLength_7 : decode cX4_newLength 7 = .ok (.ireturn, 1) := by decide +kernel
set_option maxRecDepth 20000 in
theorem ggX4_newValue_X3_holds : GoodIn wsX4_newValue wsX3_holds := goodIn_r _ [6, 7, 20, 21, 22] (by decide +kernel) (by decide +kernel)
set_option maxRecDepth 20000 in
theorem gX4_newValue_X3_holds : GoodIn wsX4_newValue (wsV RX4 48 RX3 yX3_holds wsX3_holds) := goodIn_app (goodIn_of _ (by decide +kernel)) ggX4_newValue_X3_holds
set_option maxRecDepth 20000 in
theorem ggX4_newValue_X3_valueAt : GoodIn wsX4_newValue wsX3_valueAt := goodIn_r _ [11, 12, 13, 3, 4, 5, 6, 7, 20, 21, 22] (by decide +kernel) (by decide +kernel)
set_option maxRecDepth 20000 in
theorem gX4_newValue_X3_valueAt : GoodIn wsX4_newValue (wsV RX4 55 RX3 yX3_valueAt wsX3_valueAt) := goodIn_app (goodIn_of _ (by decide +kernel)) ggX4_newValue_X3_valueAt
theorem dX4_newValue_0 : decode cX4_newValue 0 = .ok (.aload_n 0, 1) := by decide +kernel
theorem dX4_newValue_1 : decode cX4_newValue 1 = .ok (.getfield 16, 3) := by decide +kernel
theorem dX4_newValue_4 : decode cX4_newValue 4 = .ok (.iload_n 1, 1) := by decide +kernel
theorem dX4_newValue_5 : decode cX4_newValue 5 = .ok (.invokevirtual 48, 3) := by decide +kernel
theorem dX4_newValue_8 : decode cX4_newValue 8 = .ok (.ifCond .eq 14, 3) := by decide +kernel
theorem dX4_newValue_11 : decode cX4_newValue 11 = .ok (.aload_n 0, 1) := by decide +kernel
theorem dX4_newValue_12 : decode cX4_newValue 12 = .ok (.getfield 16, 3) := by decide +kernel
theorem dX4_newValue_15 : decode cX4_newValue 15 = .ok (.iload_n 1, 1) := by decide +kernel
theorem dX4_newValue_16 : decode cX4_newValue 16 = .ok (.invokevirtual 55, 3) := by decide +kernel
theorem dX4_newValue_19 : decode cX4_newValue 19 = .ok (.goto 6, 3) := by decide +kernel
theorem dX4_newValue_22 : decode cX4_newValue 22 = .ok (.sipush (-10003), 3) := by decide +kernel
theorem dX4_newValue_25 : decode cX4_newValue 25 = .ok (.ireturn, 1) := by decide +kernel
set_option maxRecDepth 20000 in
theorem ggX4_append_X4_isValue : GoodIn wsX4_append wsX4_isValue := goodIn_r _ [5] (by decide +kernel) (by decide +kernel)
set_option maxRecDepth 20000 in
theorem gX4_append_X4_isValue : GoodIn wsX4_append (va_wsS RX4 52 yX4_isValue wsX4_isValue) := goodIn_app (goodIn_of _ (by decide +kernel)) ggX4_append_X4_isValue
set_option maxRecDepth 20000 in
theorem ggX4_append_X3_isFull : GoodIn wsX4_append wsX3_isFull := goodIn_r _ [10, 11, 29, 30, 31] (by decide +kernel) (by decide +kernel)
set_option maxRecDepth 20000 in
theorem gX4_append_X3_isFull : GoodIn wsX4_append (wsV RX4 70 RX3 yX3_isFull wsX3_isFull) := goodIn_app (goodIn_of _ (by decide +kernel)) ggX4_append_X3_isFull
set_option maxRecDepth 20000 in
theorem ggX4_append_X3_add : GoodIn wsX4_append wsX3_add := goodIn_r _ [15, 16, 11, 17, 18, 7, 8, 9, 10, 29, 30, 31] (by decide +kernel) (by decide +kernel)
set_option maxRecDepth 20000 in
theorem gX4_append_X3_add : GoodIn wsX4_append (wsV RX4 74 RX3 yX3_add wsX3_add) := goodIn_app (goodIn_of _ (by decide +kernel)) ggX4_append_X3_add
set_option maxRecDepth 20000 in
theorem ggX4_append_X3_size : GoodIn wsX4_append wsX3_size := goodIn_r _ [22, 11, 29, 30, 31] (by decide +kernel) (by decide +kernel)
set_option maxRecDepth 20000 in
theorem gX4_append_X3_size : GoodIn wsX4_append (wsV RX4 63 RX3 yX3_size wsX3_size) := goodIn_app (goodIn_of _ (by decide +kernel)) ggX4_append_X3_size
theorem dX4_append_0 : decode cX4_append 0 = .ok (.iload_n 2, 1) := by decide +kernel
theorem dX4_append_1 : decode cX4_append 1 = .ok (.invokestatic 52, 3) := by decide +kernel
theorem dX4_append_4 : decode cX4_append 4 = .ok (.ifCond .ne 7, 3) := by decide +kernel
theorem dX4_append_7 : decode cX4_append 7 = .ok (.sipush (-10001), 3) := by decide +kernel
theorem dX4_append_10 : decode cX4_append 10 = .ok (.ireturn, 1) := by decide +kernel
theorem dX4_append_11 : decode cX4_append 11 = .ok (.aload_n 1, 1) := by decide +kernel
theorem dX4_append_12 : decode cX4_append 12 = .ok (.invokevirtual 70, 3) := by decide +kernel
theorem dX4_append_15 : decode cX4_append 15 = .ok (.ifCond .eq 7, 3) := by decide +kernel
theorem dX4_append_18 : decode cX4_append 18 = .ok (.sipush (-10002), 3) := by decide +kernel
theorem dX4_append_21 : decode cX4_append 21 = .ok (.ireturn, 1) := by decide +kernel
theorem dX4_append_22 : decode cX4_append 22 = .ok (.aload_n 1, 1) := by decide +kernel
theorem dX4_append_23 : decode cX4_append 23 = .ok (.iload_n 2, 1) := by decide +kernel
theorem dX4_append_24 : decode cX4_append 24 = .ok (.iload_n 3, 1) := by decide +kernel
theorem dX4_append_25 : decode cX4_append 25 = .ok (.invokevirtual 74, 3) := by decide +kernel
theorem dX4_append_28 : decode cX4_append 28 = .ok (.aload_n 0, 1) := by decide +kernel
theorem dX4_append_29 : decode cX4_append 29 = .ok (.iconst 0, 1) := by decide +kernel
theorem dX4_append_30 : decode cX4_append 30 = .ok (.putfield 40, 3) := by decide +kernel
theorem dX4_append_33 : decode cX4_append 33 = .ok (.aload_n 1, 1) := by decide +kernel
theorem dX4_append_34 : decode cX4_append 34 = .ok (.invokevirtual 63, 3) := by decide +kernel
theorem dX4_append_37 : decode cX4_append 37 = .ok (.iconst 1, 1) := by decide +kernel
theorem dX4_append_38 : decode cX4_append 38 = .ok (.isub, 1) := by decide +kernel
theorem dX4_append_39 : decode cX4_append 39 = .ok (.ireturn, 1) := by decide +kernel
theorem dX4_isValue_0 : decode cX4_isValue 0 = .ok (.iload_n 0, 1) := by decide +kernel
theorem dX4_isValue_1 : decode cX4_isValue 1 = .ok (.ifCond .lt 14, 3) := by decide +kernel
theorem dX4_isValue_4 : decode cX4_isValue 4 = .ok (.iload_n 0, 1) := by decide +kernel
theorem dX4_isValue_5 : decode cX4_isValue 5 = .ok (.sipush 9999, 3) := by decide +kernel
theorem dX4_isValue_8 : decode cX4_isValue 8 = .ok (.if_icmp .gt 7, 3) := by decide +kernel
theorem dX4_isValue_11 : decode cX4_isValue 11 = .ok (.iconst 1, 1) := by decide +kernel
theorem dX4_isValue_12 : decode cX4_isValue 12 = .ok (.goto 4, 3) := by decide +kernel
theorem dX4_isValue_15 : decode cX4_isValue 15 = .ok (.iconst 0, 1) := by decide +kernel
theorem dX4_isValue_16 : decode cX4_isValue 16 = .ok (.ireturn, 1) := by decide +kernel
set_option maxRecDepth 20000 in
theorem ggX4_build_X0_align : GoodIn wsX4_build wsX0_align := goodIn_r _ [11, 12, 13, 14, 15, 16, 17, 18, 19, 20, 21, 22, 23, 10, 24, 25, 26, 27, 28, 29, 30, 31, 32, 33, 34, 35, 36, 37, 38, 39, 40, 41, 42, 43, 44, 45, 46, 47, 48, 49, 50, 51, 52, 53, 54, 55, 56, 57, 58, 59, 60, 61, 62, 63, 64, 65, 66, 67, 68, 69, 70, 71, 72, 73, 74, 75, 76, 77, 144, 145, 146, 147, 148, 149, 150, 151, 152, 153, 154, 155, 156] (by decide +kernel) (by decide +kernel)
set_option maxRecDepth 20000 in
theorem gX4_build_X0_align : GoodIn wsX4_build (wsV RX4 78 RX0 yX0_align wsX0_align) := goodIn_app (goodIn_of _ (by decide +kernel)) ggX4_build_X0_align
set_option maxRecDepth 20000 in
theorem ggX4_build_X2_arrange : GoodIn wsX4_build wsX2_arrange := goodIn_r _ [82, 83, 84, 85, 86, 87, 88, 18, 89, 20, 90, 91, 92, 93, 94, 95, 96, 81, 97, 98, 99, 100, 101, 102, 103, 104, 105, 106, 107, 108, 109, 110, 111, 112, 113, 75, 114, 115, 116, 117, 118, 76, 119, 120, 121, 122, 77, 123, 124, 125, 126, 127, 128, 129, 130, 131, 132, 133, 134, 135, 136, 157, 158, 159, 160, 150, 151, 152, 153] (by decide +kernel) (by decide +kernel)
set_option maxRecDepth 20000 in
theorem gX4_build_X2_arrange : GoodIn wsX4_build (wsV RX4 82 RX2 yX2_arrange wsX2_arrange) := goodIn_app (goodIn_of _ (by decide +kernel)) ggX4_build_X2_arrange
set_option maxRecDepth 20000 in
theorem ggX4_build_X1_size : GoodIn wsX4_build wsX1_size := goodIn_r _ [93, 20, 150, 151, 152, 153] (by decide +kernel) (by decide +kernel)
set_option maxRecDepth 20000 in
theorem gX4_build_X1_size : GoodIn wsX4_build (wsV RX4 86 RX1 yX1_size wsX1_size) := goodIn_app (goodIn_of _ (by decide +kernel)) ggX4_build_X1_size
theorem dX4_build_0 : decode cX4_build 0 = .ok (.iload_n 1, 1) := by decide +kernel
theorem dX4_build_1 : decode cX4_build 1 = .ok (.iconst 1, 1) := by decide +kernel
theorem dX4_build_2 : decode cX4_build 2 = .ok (.if_icmp .lt 9, 3) := by decide +kernel
theorem dX4_build_5 : decode cX4_build 5 = .ok (.iload_n 1, 1) := by decide +kernel
theorem dX4_build_6 : decode cX4_build 6 = .ok (.bipush 16, 2) := by decide +kernel
theorem dX4_build_8 : decode cX4_build 8 = .ok (.if_icmp .le 7, 3) := by decide +kernel
theorem dX4_build_11 : decode cX4_build 11 = .ok (.sipush (-10001), 3) := by decide +kernel
theorem dX4_build_14 : decode cX4_build 14 = .ok (.ireturn, 1) := by decide +kernel
theorem dX4_build_15 : decode cX4_build 15 = .ok (.aload_n 0, 1) := by decide +kernel
theorem dX4_build_16 : decode cX4_build 16 = .ok (.getfield 29, 3) := by decide +kernel
theorem dX4_build_19 : decode cX4_build 19 = .ok (.aload_n 0, 1) := by decide +kernel
theorem dX4_build_20 : decode cX4_build 20 = .ok (.getfield 10, 3) := by decide +kernel
theorem dX4_build_23 : decode cX4_build 23 = .ok (.aload_n 0, 1) := by decide +kernel
theorem dX4_build_24 : decode cX4_build 24 = .ok (.getfield 16, 3) := by decide +kernel
theorem dX4_build_27 : decode cX4_build 27 = .ok (.aload_n 0, 1) := by decide +kernel
theorem dX4_build_28 : decode cX4_build 28 = .ok (.getfield 22, 3) := by decide +kernel
theorem dX4_build_31 : decode cX4_build 31 = .ok (.iload_n 1, 1) := by decide +kernel
theorem dX4_build_32 : decode cX4_build 32 = .ok (.invokevirtual 78, 3) := by decide +kernel
theorem dX4_build_35 : decode cX4_build 35 = .ok (.aload_n 0, 1) := by decide +kernel
theorem dX4_build_36 : decode cX4_build 36 = .ok (.getfield 36, 3) := by decide +kernel
theorem dX4_build_39 : decode cX4_build 39 = .ok (.aload_n 0, 1) := by decide +kernel
theorem dX4_build_40 : decode cX4_build 40 = .ok (.getfield 22, 3) := by decide +kernel
theorem dX4_build_43 : decode cX4_build 43 = .ok (.invokevirtual 82, 3) := by decide +kernel
theorem dX4_build_46 : decode cX4_build 46 = .ok (.aload_n 0, 1) := by decide +kernel
theorem dX4_build_47 : decode cX4_build 47 = .ok (.iconst 1, 1) := by decide +kernel
theorem dX4_build_48 : decode cX4_build 48 = .ok (.putfield 40, 3) := by decide +kernel
theorem dX4_build_51 : decode cX4_build 51 = .ok (.aload_n 0, 1) := by decide +kernel
theorem dX4_build_52 : decode cX4_build 52 = .ok (.getfield 22, 3) := by decide +kernel
theorem dX4_build_55 : decode cX4_build 55 = .ok (.invokevirtual 86, 3) := by decide +kernel
theorem dX4_build_58 : decode cX4_build 58 = .ok (.ireturn, 1) := by decide +kernel
set_option maxRecDepth 20000 in
theorem ggX4_blockOldStart_X4_blockError : GoodIn wsX4_blockOldStart wsX4_blockError := goodIn_r _ [6, 7, 1, 8, 9, 10, 11, 12, 13, 20, 21, 22, 23, 24, 25, 26, 27, 28, 29] (by decide +kernel) (by decide +kernel)
set_option maxRecDepth 20000 in
theorem gX4_blockOldStart_X4_blockError : GoodIn wsX4_blockOldStart (wsV RX4 87 RX4 yX4_blockError wsX4_blockError) := goodIn_app (goodIn_of _ (by decide +kernel)) ggX4_blockOldStart_X4_blockError
set_option maxRecDepth 20000 in
theorem ggX4_blockOldStart_X1_oldStart : GoodIn wsX4_blockOldStart wsX1_oldStart := goodIn_r _ [17, 18, 19, 9, 10, 11, 12, 13, 26, 27, 28, 29] (by decide +kernel) (by decide +kernel)
set_option maxRecDepth 20000 in
theorem gX4_blockOldStart_X1_oldStart : GoodIn wsX4_blockOldStart (wsV RX4 90 RX1 yX1_oldStart wsX1_oldStart) := goodIn_app (goodIn_of _ (by decide +kernel)) ggX4_blockOldStart_X1_oldStart
theorem dX4_blockOldStart_0 : decode cX4_blockOldStart 0 = .ok (.aload_n 0, 1) := by decide +kernel
theorem dX4_blockOldStart_1 : decode cX4_blockOldStart 1 = .ok (.iload_n 1, 1) := by decide +kernel
theorem dX4_blockOldStart_2 : decode cX4_blockOldStart 2 = .ok (.invokevirtual 87, 3) := by decide +kernel
theorem dX4_blockOldStart_5 : decode cX4_blockOldStart 5 = .ok (.istore_n 2, 1) := by decide +kernel
theorem dX4_blockOldStart_6 : decode cX4_blockOldStart 6 = .ok (.iload_n 2, 1) := by decide +kernel
theorem dX4_blockOldStart_7 : decode cX4_blockOldStart 7 = .ok (.ifCond .eq 7, 3) := by decide +kernel
theorem dX4_blockOldStart_10 : decode cX4_blockOldStart 10 = .ok (.iload_n 2, 1) := by decide +kernel
theorem dX4_blockOldStart_11 : decode cX4_blockOldStart 11 = .ok (.goto 11, 3) := by decide +kernel
theorem dX4_blockOldStart_14 : decode cX4_blockOldStart 14 = .ok (.aload_n 0, 1) := by decide +kernel
theorem dX4_blockOldStart_15 : decode cX4_blockOldStart 15 = .ok (.getfield 22, 3) := by decide +kernel
theorem dX4_blockOldStart_18 : decode cX4_blockOldStart 18 = .ok (.iload_n 1, 1) := by decide +kernel
theorem dX4_blockOldStart_19 : decode cX4_blockOldStart 19 = .ok (.invokevirtual 90, 3) := by decide +kernel
theorem dX4_blockOldStart_22 : decode cX4_blockOldStart 22 = .ok (.ireturn, 1) := by decide +kernel
set_option maxRecDepth 20000 in
theorem ggX4_blockNewStart_X4_blockError : GoodIn wsX4_blockNewStart wsX4_blockError := goodIn_r _ [6, 7, 1, 8, 9, 10, 11, 12, 13, 20, 21, 22, 23, 24, 25, 26, 27, 28, 29] (by decide +kernel) (by decide +kernel)
set_option maxRecDepth 20000 in
theorem gX4_blockNewStart_X4_blockError : GoodIn wsX4_blockNewStart (wsV RX4 87 RX4 yX4_blockError wsX4_blockError) := goodIn_app (goodIn_of _ (by decide +kernel)) ggX4_blockNewStart_X4_blockError
set_option maxRecDepth 20000 in
theorem ggX4_blockNewStart_X1_newStart : GoodIn wsX4_blockNewStart wsX1_newStart := goodIn_r _ [17, 18, 19, 9, 10, 11, 12, 13, 26, 27, 28, 29] (by decide +kernel) (by decide +kernel)
set_option maxRecDepth 20000 in
theorem gX4_blockNewStart_X1_newStart : GoodIn wsX4_blockNewStart (wsV RX4 93 RX1 yX1_newStart wsX1_newStart) := goodIn_app (goodIn_of _ (by decide +kernel)) ggX4_blockNewStart_X1_newStart
theorem dX4_blockNewStart_0 : decode cX4_blockNewStart 0 = .ok (.aload_n 0, 1) := by decide +kernel
theorem dX4_blockNewStart_1 : decode cX4_blockNewStart 1 = .ok (.iload_n 1, 1) := by decide +kernel
theorem dX4_blockNewStart_2 : decode cX4_blockNewStart 2 = .ok (.invokevirtual 87, 3) := by decide +kernel
theorem dX4_blockNewStart_5 : decode cX4_blockNewStart 5 = .ok (.istore_n 2, 1) := by decide +kernel
theorem dX4_blockNewStart_6 : decode cX4_blockNewStart 6 = .ok (.iload_n 2, 1) := by decide +kernel
theorem dX4_blockNewStart_7 : decode cX4_blockNewStart 7 = .ok (.ifCond .eq 7, 3) := by decide +kernel
theorem dX4_blockNewStart_10 : decode cX4_blockNewStart 10 = .ok (.iload_n 2, 1) := by decide +kernel
theorem dX4_blockNewStart_11 : decode cX4_blockNewStart 11 = .ok (.goto 11, 3) := by decide +kernel
theorem dX4_blockNewStart_14 : decode cX4_blockNewStart 14 = .ok (.aload_n 0, 1) := by decide +kernel
theorem dX4_blockNewStart_15 : decode cX4_blockNewStart 15 = .ok (.getfield 22, 3) := by decide +kernel
theorem dX4_blockNewStart_18 : decode cX4_blockNewStart 18 = .ok (.iload_n 1, 1) := by decide +kernel
theorem dX4_blockNewStart_19 : decode cX4_blockNewStart 19 = .ok (.invokevirtual 93, 3) := by decide +kernel
theorem dX4_blockNewStart_22 : decode cX4_blockNewStart 22 = .ok (.ireturn, 1) := by decide +kernel
set_option maxRecDepth 20000 in
theorem ggX4_blockLength_X4_blockError : GoodIn wsX4_blockLength wsX4_blockError := goodIn_r _ [6, 7, 1, 8, 9, 10, 11, 12, 13, 20, 21, 22, 23, 24, 25, 26, 27, 28, 29] (by decide +kernel) (by decide +kernel)
set_option maxRecDepth 20000 in
theorem gX4_blockLength_X4_blockError : GoodIn wsX4_blockLength (wsV RX4 87 RX4 yX4_blockError wsX4_blockError) := goodIn_app (goodIn_of _ (by decide +kernel)) ggX4_blockLength_X4_blockError
set_option maxRecDepth 20000 in
theorem ggX4_blockLength_X1_length : GoodIn wsX4_blockLength wsX1_length := goodIn_r _ [17, 18, 19, 9, 10, 11, 12, 13, 26, 27, 28, 29] (by decide +kernel) (by decide +kernel)
set_option maxRecDepth 20000 in
theorem gX4_blockLength_X1_length : GoodIn wsX4_blockLength (wsV RX4 96 RX1 yX1_length wsX1_length) := goodIn_app (goodIn_of _ (by decide +kernel)) ggX4_blockLength_X1_length
theorem dX4_blockLength_0 : decode cX4_blockLength 0 = .ok (.aload_n 0, 1) := by decide +kernel
theorem dX4_blockLength_1 : decode cX4_blockLength 1 = .ok (.iload_n 1, 1) := by decide +kernel
theorem dX4_blockLength_2 : decode cX4_blockLength 2 = .ok (.invokevirtual 87, 3) := by decide +kernel
theorem dX4_blockLength_5 : decode cX4_blockLength 5 = .ok (.istore_n 2, 1) := by decide +kernel
theorem dX4_blockLength_6 : decode cX4_blockLength 6 = .ok (.iload_n 2, 1) := by decide +kernel
theorem dX4_blockLength_7 : decode cX4_blockLength 7 = .ok (.ifCond .eq 7, 3) := by decide +kernel
theorem dX4_blockLength_10 : decode cX4_blockLength 10 = .ok (.iload_n 2, 1) := by decide +kernel
theorem dX4_blockLength_11 : decode cX4_blockLength 11 = .ok (.goto 11, 3) := by decide +kernel
theorem dX4_blockLength_14 : decode cX4_blockLength 14 = .ok (.aload_n 0, 1) := by decide +kernel
theorem dX4_blockLength_15 : decode cX4_blockLength 15 = .ok (.getfield 22, 3) := by decide +kernel
theorem dX4_blockLength_18 : decode cX4_blockLength 18 = .ok (.iload_n 1, 1) := by decide +kernel
theorem dX4_blockLength_19 : decode cX4_blockLength 19 = .ok (.invokevirtual 96, 3) := by decide +kernel
theorem dX4_blockLength_22 : decode cX4_blockLength 22 = .ok (.ireturn, 1) := by decide +kernel
set_option maxRecDepth 20000 in
theorem ggX4_blockOf_X4_newWordError : GoodIn wsX4_blockOf wsX4_newWordError := goodIn_r _ [6, 7, 8, 9, 10, 11, 12, 13, 14, 39, 40, 41, 42, 43, 44, 45, 46, 47] (by decide +kernel) (by decide +kernel)
set_option maxRecDepth 20000 in
theorem gX4_blockOf_X4_newWordError : GoodIn wsX4_blockOf (wsV RX4 99 RX4 yX4_newWordError wsX4_newWordError) := goodIn_app (goodIn_of _ (by decide +kernel)) ggX4_blockOf_X4_newWordError
set_option maxRecDepth 20000 in
theorem ggX4_blockOf_X1_withNewIndex : GoodIn wsX4_blockOf wsX1_withNewIndex := goodIn_r _ [19, 20, 21, 22, 23, 18, 24, 25, 26, 27, 28, 29, 30, 31, 32, 33, 34, 35, 36, 37, 38, 48, 49, 50, 51] (by decide +kernel) (by decide +kernel)
set_option maxRecDepth 20000 in
theorem gX4_blockOf_X1_withNewIndex : GoodIn wsX4_blockOf (wsV RX4 102 RX1 yX1_withNewIndex wsX1_withNewIndex) := goodIn_app (goodIn_of _ (by decide +kernel)) ggX4_blockOf_X1_withNewIndex
theorem dX4_blockOf_0 : decode cX4_blockOf 0 = .ok (.aload_n 0, 1) := by decide +kernel
theorem dX4_blockOf_1 : decode cX4_blockOf 1 = .ok (.iload_n 1, 1) := by decide +kernel
theorem dX4_blockOf_2 : decode cX4_blockOf 2 = .ok (.invokevirtual 99, 3) := by decide +kernel
theorem dX4_blockOf_5 : decode cX4_blockOf 5 = .ok (.istore_n 2, 1) := by decide +kernel
theorem dX4_blockOf_6 : decode cX4_blockOf 6 = .ok (.iload_n 2, 1) := by decide +kernel
theorem dX4_blockOf_7 : decode cX4_blockOf 7 = .ok (.ifCond .eq 5, 3) := by decide +kernel
theorem dX4_blockOf_10 : decode cX4_blockOf 10 = .ok (.iload_n 2, 1) := by decide +kernel
theorem dX4_blockOf_11 : decode cX4_blockOf 11 = .ok (.ireturn, 1) := by decide +kernel
theorem dX4_blockOf_12 : decode cX4_blockOf 12 = .ok (.aload_n 0, 1) := by decide +kernel
theorem dX4_blockOf_13 : decode cX4_blockOf 13 = .ok (.getfield 22, 3) := by decide +kernel
theorem dX4_blockOf_16 : decode cX4_blockOf 16 = .ok (.iload_n 1, 1) := by decide +kernel
theorem dX4_blockOf_17 : decode cX4_blockOf 17 = .ok (.invokevirtual 102, 3) := by decide +kernel
theorem dX4_blockOf_20 : decode cX4_blockOf 20 = .ok (.istore_n 3, 1) := by decide +kernel
theorem dX4_blockOf_21 : decode cX4_blockOf 21 = .ok (.iload_n 3, 1) := by decide +kernel
theorem dX4_blockOf_22 : decode cX4_blockOf 22 = .ok (.iconst (-1), 1) := by decide +kernel
theorem dX4_blockOf_23 : decode cX4_blockOf 23 = .ok (.if_icmp .ne 9, 3) := by decide +kernel
theorem dX4_blockOf_26 : decode cX4_blockOf 26 = .ok (.sipush (-10005), 3) := by decide +kernel
theorem dX4_blockOf_29 : decode cX4_blockOf 29 = .ok (.goto 4, 3) := by decide +kernel
theorem dX4_blockOf_32 : decode cX4_blockOf 32 = .ok (.iload_n 3, 1) := by decide +kernel
theorem dX4_blockOf_33 : decode cX4_blockOf 33 = .ok (.ireturn, 1) := by decide +kernel
set_option maxRecDepth 20000 in
theorem ggX4_blockError_X1_has : GoodIn wsX4_blockError wsX1_has := goodIn_r _ [7, 8, 15, 16, 17, 18] (by decide +kernel) (by decide +kernel)
set_option maxRecDepth 20000 in
theorem gX4_blockError_X1_has : GoodIn wsX4_blockError (wsV RX4 105 RX1 yX1_has wsX1_has) := goodIn_app (goodIn_of _ (by decide +kernel)) ggX4_blockError_X1_has
theorem dX4_blockError_0 : decode cX4_blockError 0 = .ok (.aload_n 0, 1) := by decide +kernel
theorem dX4_blockError_1 : decode cX4_blockError 1 = .ok (.getfield 40, 3) := by decide +kernel
theorem dX4_blockError_4 : decode cX4_blockError 4 = .ok (.ifCond .ne 7, 3) := by decide +kernel
theorem dX4_blockError_7 : decode cX4_blockError 7 = .ok (.sipush (-10004), 3) := by decide +kernel
theorem dX4_blockError_10 : decode cX4_blockError 10 = .ok (.ireturn, 1) := by decide +kernel
theorem dX4_blockError_11 : decode cX4_blockError 11 = .ok (.aload_n 0, 1) := by decide +kernel
theorem dX4_blockError_12 : decode cX4_blockError 12 = .ok (.getfield 22, 3) := by decide +kernel
theorem dX4_blockError_15 : decode cX4_blockError 15 = .ok (.iload_n 1, 1) := by decide +kernel
theorem dX4_blockError_16 : decode cX4_blockError 16 = .ok (.invokevirtual 105, 3) := by decide +kernel
theorem dX4_blockError_19 : decode cX4_blockError 19 = .ok (.ifCond .eq 7, 3) := by decide +kernel
theorem dX4_blockError_22 : decode cX4_blockError 22 = .ok (.iconst 0, 1) := by decide +kernel
theorem dX4_blockError_23 : decode cX4_blockError 23 = .ok (.goto 6, 3) := by decide +kernel
theorem dX4_blockError_26 : decode cX4_blockError 26 = .ok (.sipush (-10003), 3) := by decide +kernel
theorem dX4_blockError_29 : decode cX4_blockError 29 = .ok (.ireturn, 1) := by decide +kernel
set_option maxRecDepth 20000 in
theorem ggX4_newWordError_X3_holds : GoodIn wsX4_newWordError wsX3_holds := goodIn_r _ [7, 8, 15, 16, 17] (by decide +kernel) (by decide +kernel)
set_option maxRecDepth 20000 in
theorem gX4_newWordError_X3_holds : GoodIn wsX4_newWordError (wsV RX4 48 RX3 yX3_holds wsX3_holds) := goodIn_app (goodIn_of _ (by decide +kernel)) ggX4_newWordError_X3_holds
theorem dX4_newWordError_0 : decode cX4_newWordError 0 = .ok (.aload_n 0, 1) := by decide +kernel
theorem dX4_newWordError_1 : decode cX4_newWordError 1 = .ok (.getfield 40, 3) := by decide +kernel
theorem dX4_newWordError_4 : decode cX4_newWordError 4 = .ok (.ifCond .ne 7, 3) := by decide +kernel
theorem dX4_newWordError_7 : decode cX4_newWordError 7 = .ok (.sipush (-10004), 3) := by decide +kernel
theorem dX4_newWordError_10 : decode cX4_newWordError 10 = .ok (.ireturn, 1) := by decide +kernel
theorem dX4_newWordError_11 : decode cX4_newWordError 11 = .ok (.aload_n 0, 1) := by decide +kernel
theorem dX4_newWordError_12 : decode cX4_newWordError 12 = .ok (.getfield 16, 3) := by decide +kernel
theorem dX4_newWordError_15 : decode cX4_newWordError 15 = .ok (.iload_n 1, 1) := by decide +kernel
theorem dX4_newWordError_16 : decode cX4_newWordError 16 = .ok (.invokevirtual 48, 3) := by decide +kernel
theorem dX4_newWordError_19 : decode cX4_newWordError 19 = .ok (.ifCond .eq 7, 3) := by decide +kernel
theorem dX4_newWordError_22 : decode cX4_newWordError 22 = .ok (.iconst 0, 1) := by decide +kernel
theorem dX4_newWordError_23 : decode cX4_newWordError 23 = .ok (.goto 6, 3) := by decide +kernel
theorem dX4_newWordError_26 : decode cX4_newWordError 26 = .ok (.sipush (-10003), 3) := by decide +kernel
theorem dX4_newWordError_29 : decode cX4_newWordError 29 = .ok (.ireturn, 1) := by decide +kernel
set_option maxRecDepth 20000 in
theorem ggX4_predictedAddress_X4_isValue : GoodIn wsX4_predictedAddress wsX4_isValue := goodIn_r _ [6] (by decide +kernel) (by decide +kernel)
set_option maxRecDepth 20000 in
theorem gX4_predictedAddress_X4_isValue : GoodIn wsX4_predictedAddress (va_wsS RX4 52 yX4_isValue wsX4_isValue) := goodIn_app (goodIn_of _ (by decide +kernel)) ggX4_predictedAddress_X4_isValue
set_option maxRecDepth 20000 in
theorem ggX4_predictedAddress_X1_moved : GoodIn wsX4_predictedAddress wsX1_moved := goodIn_r _ [11, 12, 13, 14, 15, 10, 16, 17, 18, 19, 20, 21, 22, 23, 24, 25, 26, 33, 34, 35, 36] (by decide +kernel) (by decide +kernel)
set_option maxRecDepth 20000 in
theorem gX4_predictedAddress_X1_moved : GoodIn wsX4_predictedAddress (wsV RX4 108 RX1 yX1_moved wsX1_moved) := goodIn_app (goodIn_of _ (by decide +kernel)) ggX4_predictedAddress_X1_moved
theorem dX4_predictedAddress_0 : decode cX4_predictedAddress 0 = .ok (.aload_n 0, 1) := by decide +kernel
theorem dX4_predictedAddress_1 : decode cX4_predictedAddress 1 = .ok (.getfield 40, 3) := by decide +kernel
theorem dX4_predictedAddress_4 : decode cX4_predictedAddress 4 = .ok (.ifCond .ne 7, 3) := by decide +kernel
theorem dX4_predictedAddress_7 : decode cX4_predictedAddress 7 = .ok (.sipush (-10004), 3) := by decide +kernel
theorem dX4_predictedAddress_10 : decode cX4_predictedAddress 10 = .ok (.ireturn, 1) := by decide +kernel
theorem dX4_predictedAddress_11 : decode cX4_predictedAddress 11 = .ok (.iload_n 1, 1) := by decide +kernel
theorem dX4_predictedAddress_12 : decode cX4_predictedAddress 12 = .ok (.invokestatic 52, 3) := by decide +kernel
theorem dX4_predictedAddress_15 : decode cX4_predictedAddress 15 = .ok (.ifCond .eq 14, 3) := by decide +kernel
theorem dX4_predictedAddress_18 : decode cX4_predictedAddress 18 = .ok (.aload_n 0, 1) := by decide +kernel
theorem dX4_predictedAddress_19 : decode cX4_predictedAddress 19 = .ok (.getfield 22, 3) := by decide +kernel
theorem dX4_predictedAddress_22 : decode cX4_predictedAddress 22 = .ok (.iload_n 1, 1) := by decide +kernel
theorem dX4_predictedAddress_23 : decode cX4_predictedAddress 23 = .ok (.invokevirtual 108, 3) := by decide +kernel
theorem dX4_predictedAddress_26 : decode cX4_predictedAddress 26 = .ok (.goto 6, 3) := by decide +kernel
theorem dX4_predictedAddress_29 : decode cX4_predictedAddress 29 = .ok (.sipush (-10001), 3) := by decide +kernel
theorem dX4_predictedAddress_32 : decode cX4_predictedAddress 32 = .ok (.ireturn, 1) := by decide +kernel
set_option maxRecDepth 20000 in
theorem ggX4_predictedValue_X4_newWordError : GoodIn wsX4_predictedValue wsX4_newWordError := goodIn_r _ [6, 7, 8, 9, 10, 11, 12, 13, 14, 68, 69, 70, 71, 72, 73, 74, 75, 76] (by decide +kernel) (by decide +kernel)
set_option maxRecDepth 20000 in
theorem gX4_predictedValue_X4_newWordError : GoodIn wsX4_predictedValue (wsV RX4 99 RX4 yX4_newWordError wsX4_newWordError) := goodIn_app (goodIn_of _ (by decide +kernel)) ggX4_predictedValue_X4_newWordError
set_option maxRecDepth 20000 in
theorem ggX4_predictedValue_X1_withNewIndex : GoodIn wsX4_predictedValue wsX1_withNewIndex := goodIn_r _ [19, 20, 21, 22, 23, 18, 24, 25, 26, 27, 28, 29, 30, 31, 32, 33, 34, 35, 36, 37, 38, 77, 78, 79, 80] (by decide +kernel) (by decide +kernel)
set_option maxRecDepth 20000 in
theorem gX4_predictedValue_X1_withNewIndex : GoodIn wsX4_predictedValue (wsV RX4 102 RX1 yX1_withNewIndex wsX1_withNewIndex) := goodIn_app (goodIn_of _ (by decide +kernel)) ggX4_predictedValue_X1_withNewIndex
set_option maxRecDepth 20000 in
theorem ggX4_predictedValue_X4_prediction : GoodIn wsX4_predictedValue wsX4_prediction := goodIn_r _ [42, 1, 43, 44, 45, 46, 18, 47, 25, 26, 27, 28, 29, 30, 31, 32, 33, 20, 48, 49, 50, 51, 52, 53, 54, 55, 12, 56, 57, 58, 10, 11, 13, 14, 59, 60, 61, 62, 63, 64, 65, 66, 67, 68, 69, 70, 71, 72, 73, 77, 78, 79, 80, 74, 75, 76] (by decide +kernel) (by decide +kernel)
set_option maxRecDepth 20000 in
theorem gX4_predictedValue_X4_prediction : GoodIn wsX4_predictedValue (wsV RX4 111 RX4 yX4_prediction wsX4_prediction) := goodIn_app (goodIn_of _ (by decide +kernel)) ggX4_predictedValue_X4_prediction
theorem dX4_predictedValue_0 : decode cX4_predictedValue 0 = .ok (.aload_n 0, 1) := by decide +kernel
theorem dX4_predictedValue_1 : decode cX4_predictedValue 1 = .ok (.iload_n 1, 1) := by decide +kernel
theorem dX4_predictedValue_2 : decode cX4_predictedValue 2 = .ok (.invokevirtual 99, 3) := by decide +kernel
theorem dX4_predictedValue_5 : decode cX4_predictedValue 5 = .ok (.istore_n 2, 1) := by decide +kernel
theorem dX4_predictedValue_6 : decode cX4_predictedValue 6 = .ok (.iload_n 2, 1) := by decide +kernel
theorem dX4_predictedValue_7 : decode cX4_predictedValue 7 = .ok (.ifCond .eq 5, 3) := by decide +kernel
theorem dX4_predictedValue_10 : decode cX4_predictedValue 10 = .ok (.iload_n 2, 1) := by decide +kernel
theorem dX4_predictedValue_11 : decode cX4_predictedValue 11 = .ok (.ireturn, 1) := by decide +kernel
theorem dX4_predictedValue_12 : decode cX4_predictedValue 12 = .ok (.aload_n 0, 1) := by decide +kernel
theorem dX4_predictedValue_13 : decode cX4_predictedValue 13 = .ok (.getfield 22, 3) := by decide +kernel
theorem dX4_predictedValue_16 : decode cX4_predictedValue 16 = .ok (.iload_n 1, 1) := by decide +kernel
theorem dX4_predictedValue_17 : decode cX4_predictedValue 17 = .ok (.invokevirtual 102, 3) := by decide +kernel
theorem dX4_predictedValue_20 : decode cX4_predictedValue 20 = .ok (.istore_n 3, 1) := by decide +kernel
theorem dX4_predictedValue_21 : decode cX4_predictedValue 21 = .ok (.iload_n 3, 1) := by decide +kernel
theorem dX4_predictedValue_22 : decode cX4_predictedValue 22 = .ok (.iconst (-1), 1) := by decide +kernel
theorem dX4_predictedValue_23 : decode cX4_predictedValue 23 = .ok (.if_icmp .ne 9, 3) := by decide +kernel
theorem dX4_predictedValue_26 : decode cX4_predictedValue 26 = .ok (.sipush (-10005), 3) := by decide +kernel
theorem dX4_predictedValue_29 : decode cX4_predictedValue 29 = .ok (.goto 9, 3) := by decide +kernel
theorem dX4_predictedValue_32 : decode cX4_predictedValue 32 = .ok (.aload_n 0, 1) := by decide +kernel
theorem dX4_predictedValue_33 : decode cX4_predictedValue 33 = .ok (.iload_n 3, 1) := by decide +kernel
theorem dX4_predictedValue_34 : decode cX4_predictedValue 34 = .ok (.iload_n 1, 1) := by decide +kernel
theorem dX4_predictedValue_35 : decode cX4_predictedValue 35 = .ok (.invokevirtual 111, 3) := by decide +kernel
theorem dX4_predictedValue_38 : decode cX4_predictedValue 38 = .ok (.ireturn, 1) := by decide +kernel
set_option maxRecDepth 20000 in
theorem ggX4_correctionCount_X4_corrections : GoodIn wsX4_correctionCount wsX4_corrections := goodIn_r _ [6, 7, 8, 9, 10, 11, 12, 13, 14, 15, 16, 5, 17, 18, 19, 20, 21, 22, 23, 24, 25, 26, 27, 28, 29, 30, 31, 32, 33, 34, 35, 36, 37, 38, 39, 40, 41, 42, 43, 44, 45, 46, 47, 48, 49, 50, 51, 52, 53, 54, 55, 56, 57, 58, 59, 60, 61, 62, 63, 64, 65, 66, 67, 68, 69, 70, 71, 72, 73, 74, 75, 76, 77, 78, 79, 80, 81, 82, 83, 84, 85, 86, 87] (by decide +kernel) (by decide +kernel)
set_option maxRecDepth 20000 in
theorem gX4_correctionCount_X4_corrections : GoodIn wsX4_correctionCount (wsV RX4 115 RX4 yX4_corrections wsX4_corrections) := goodIn_app (goodIn_of _ (by decide +kernel)) ggX4_correctionCount_X4_corrections
theorem dX4_correctionCount_0 : decode cX4_correctionCount 0 = .ok (.aload_n 0, 1) := by decide +kernel
theorem dX4_correctionCount_1 : decode cX4_correctionCount 1 = .ok (.getfield 40, 3) := by decide +kernel
theorem dX4_correctionCount_4 : decode cX4_correctionCount 4 = .ok (.ifCond .eq 10, 3) := by decide +kernel
theorem dX4_correctionCount_7 : decode cX4_correctionCount 7 = .ok (.aload_n 0, 1) := by decide +kernel
theorem dX4_correctionCount_8 : decode cX4_correctionCount 8 = .ok (.invokevirtual 115, 3) := by decide +kernel
theorem dX4_correctionCount_11 : decode cX4_correctionCount 11 = .ok (.goto 6, 3) := by decide +kernel
theorem dX4_correctionCount_14 : decode cX4_correctionCount 14 = .ok (.sipush (-10004), 3) := by decide +kernel
theorem dX4_correctionCount_17 : decode cX4_correctionCount 17 = .ok (.ireturn, 1) := by decide +kernel
set_option maxRecDepth 20000 in
theorem ggX4_correctionIndex_X3_size : GoodIn wsX4_correctionIndex wsX3_size := goodIn_r _ [7, 8, 77, 78, 79] (by decide +kernel) (by decide +kernel)
set_option maxRecDepth 20000 in
theorem gX4_correctionIndex_X3_size : GoodIn wsX4_correctionIndex (wsV RX4 63 RX3 yX3_size wsX3_size) := goodIn_app (goodIn_of _ (by decide +kernel)) ggX4_correctionIndex_X3_size
set_option maxRecDepth 20000 in
theorem ggX4_correctionIndex_X4_needsCorrection : GoodIn wsX4_correctionIndex wsX4_needsCorrection := goodIn_r _ [13, 14, 2, 15, 16, 17, 18, 19, 20, 21, 22, 23, 24, 25, 26, 27, 28, 29, 30, 31, 32, 33, 34, 35, 36, 37, 38, 39, 40, 41, 12, 42, 43, 44, 45, 46, 47, 48, 49, 50, 51, 52, 53, 54, 55, 6, 56, 57, 58, 59, 60, 61, 8, 62, 63, 64, 65, 66, 67, 68, 69, 70, 71, 72, 73, 74, 75, 76, 80, 81, 82, 83, 77, 78, 79] (by decide +kernel) (by decide +kernel)
set_option maxRecDepth 20000 in
theorem gX4_correctionIndex_X4_needsCorrection : GoodIn wsX4_correctionIndex (wsV RX4 118 RX4 yX4_needsCorrection wsX4_needsCorrection) := goodIn_app (goodIn_of _ (by decide +kernel)) ggX4_correctionIndex_X4_needsCorrection
theorem dX4_correctionIndex_0 : decode cX4_correctionIndex 0 = .ok (.aload_n 0, 1) := by decide +kernel
theorem dX4_correctionIndex_1 : decode cX4_correctionIndex 1 = .ok (.getfield 40, 3) := by decide +kernel
theorem dX4_correctionIndex_4 : decode cX4_correctionIndex 4 = .ok (.ifCond .ne 7, 3) := by decide +kernel
theorem dX4_correctionIndex_7 : decode cX4_correctionIndex 7 = .ok (.sipush (-10004), 3) := by decide +kernel
theorem dX4_correctionIndex_10 : decode cX4_correctionIndex 10 = .ok (.ireturn, 1) := by decide +kernel
theorem dX4_correctionIndex_11 : decode cX4_correctionIndex 11 = .ok (.iconst 0, 1) := by decide +kernel
theorem dX4_correctionIndex_12 : decode cX4_correctionIndex 12 = .ok (.istore_n 2, 1) := by decide +kernel
theorem dX4_correctionIndex_13 : decode cX4_correctionIndex 13 = .ok (.iconst 0, 1) := by decide +kernel
theorem dX4_correctionIndex_14 : decode cX4_correctionIndex 14 = .ok (.istore_n 3, 1) := by decide +kernel
theorem dX4_correctionIndex_15 : decode cX4_correctionIndex 15 = .ok (.iload_n 3, 1) := by decide +kernel
theorem dX4_correctionIndex_16 : decode cX4_correctionIndex 16 = .ok (.aload_n 0, 1) := by decide +kernel
theorem dX4_correctionIndex_17 : decode cX4_correctionIndex 17 = .ok (.getfield 16, 3) := by decide +kernel
theorem dX4_correctionIndex_20 : decode cX4_correctionIndex 20 = .ok (.invokevirtual 63, 3) := by decide +kernel
theorem dX4_correctionIndex_23 : decode cX4_correctionIndex 23 = .ok (.if_icmp .ge 27, 3) := by decide +kernel
theorem dX4_correctionIndex_26 : decode cX4_correctionIndex 26 = .ok (.aload_n 0, 1) := by decide +kernel
theorem dX4_correctionIndex_27 : decode cX4_correctionIndex 27 = .ok (.iload_n 3, 1) := by decide +kernel
theorem dX4_correctionIndex_28 : decode cX4_correctionIndex 28 = .ok (.invokevirtual 118, 3) := by decide +kernel
theorem dX4_correctionIndex_31 : decode cX4_correctionIndex 31 = .ok (.ifCond .eq 13, 3) := by decide +kernel
theorem dX4_correctionIndex_34 : decode cX4_correctionIndex 34 = .ok (.iload_n 2, 1) := by decide +kernel
theorem dX4_correctionIndex_35 : decode cX4_correctionIndex 35 = .ok (.iload_n 1, 1) := by decide +kernel
theorem dX4_correctionIndex_36 : decode cX4_correctionIndex 36 = .ok (.if_icmp .ne 5, 3) := by decide +kernel
theorem dX4_correctionIndex_39 : decode cX4_correctionIndex 39 = .ok (.iload_n 3, 1) := by decide +kernel
theorem dX4_correctionIndex_40 : decode cX4_correctionIndex 40 = .ok (.ireturn, 1) := by decide +kernel
theorem dX4_correctionIndex_41 : decode cX4_correctionIndex 41 = .ok (.iinc 2 1, 3) := by decide +kernel
theorem dX4_correctionIndex_44 : decode cX4_correctionIndex 44 = .ok (.iinc 3 1, 3) := by decide +kernel
theorem dX4_correctionIndex_47 : decode cX4_correctionIndex 47 = .ok (.goto (-32), 3) := by decide +kernel
theorem dX4_correctionIndex_50 : decode cX4_correctionIndex 50 = .ok (.sipush (-10003), 3) := by decide +kernel
theorem dX4_correctionIndex_53 : decode cX4_correctionIndex 53 = .ok (.ireturn, 1) := by decide +kernel
set_option maxRecDepth 20000 in
theorem ggX4_literalCount_X4_literals : GoodIn wsX4_literalCount wsX4_literals := goodIn_r _ [6, 7, 8, 9, 10, 11, 12, 13, 14, 15, 16, 17, 18, 19, 20, 21, 22, 23, 24, 25, 26, 27, 28, 29, 30, 31, 32, 33, 34, 35, 36, 37, 38, 39, 40, 41, 42] (by decide +kernel) (by decide +kernel)
set_option maxRecDepth 20000 in
theorem gX4_literalCount_X4_literals : GoodIn wsX4_literalCount (wsV RX4 121 RX4 yX4_literals wsX4_literals) := goodIn_app (goodIn_of _ (by decide +kernel)) ggX4_literalCount_X4_literals
theorem dX4_literalCount_0 : decode cX4_literalCount 0 = .ok (.aload_n 0, 1) := by decide +kernel
theorem dX4_literalCount_1 : decode cX4_literalCount 1 = .ok (.getfield 40, 3) := by decide +kernel
theorem dX4_literalCount_4 : decode cX4_literalCount 4 = .ok (.ifCond .eq 10, 3) := by decide +kernel
theorem dX4_literalCount_7 : decode cX4_literalCount 7 = .ok (.aload_n 0, 1) := by decide +kernel
theorem dX4_literalCount_8 : decode cX4_literalCount 8 = .ok (.invokevirtual 121, 3) := by decide +kernel
theorem dX4_literalCount_11 : decode cX4_literalCount 11 = .ok (.goto 6, 3) := by decide +kernel
theorem dX4_literalCount_14 : decode cX4_literalCount 14 = .ok (.sipush (-10004), 3) := by decide +kernel
theorem dX4_literalCount_17 : decode cX4_literalCount 17 = .ok (.ireturn, 1) := by decide +kernel
set_option maxRecDepth 20000 in
theorem ggX4_patchSize_X4_blocksAndLiteralsCost : GoodIn wsX4_patchSize wsX4_blocksAndLiteralsCost := goodIn_r _ [6, 7, 8, 9, 10, 11, 12, 13, 14, 15, 16, 5, 17, 18, 19, 20, 21, 22, 23, 24, 25, 26, 27, 28, 29, 30, 31, 32, 33, 88, 89, 90, 91, 92, 93, 94, 95, 96, 97, 98, 99, 100] (by decide +kernel) (by decide +kernel)
set_option maxRecDepth 20000 in
theorem gX4_patchSize_X4_blocksAndLiteralsCost : GoodIn wsX4_patchSize (wsV RX4 124 RX4 yX4_blocksAndLiteralsCost wsX4_blocksAndLiteralsCost) := goodIn_app (goodIn_of _ (by decide +kernel)) ggX4_patchSize_X4_blocksAndLiteralsCost
set_option maxRecDepth 20000 in
theorem ggX4_patchSize_X4_corrections : GoodIn wsX4_patchSize wsX4_corrections := goodIn_r _ [37, 18, 19, 20, 21, 22, 23, 24, 38, 39, 40, 5, 41, 7, 42, 43, 44, 11, 45, 13, 46, 47, 48, 49, 50, 51, 52, 53, 54, 30, 31, 32, 33, 55, 26, 27, 28, 29, 56, 57, 58, 59, 60, 61, 62, 63, 64, 65, 66, 67, 68, 69, 70, 71, 72, 73, 74, 75, 76, 77, 78, 79, 80, 81, 82, 83, 84, 85, 86, 87, 88, 89, 90, 91, 92, 93, 98, 99, 100, 94, 95, 96, 97] (by decide +kernel) (by decide +kernel)
set_option maxRecDepth 20000 in
theorem gX4_patchSize_X4_corrections : GoodIn wsX4_patchSize (wsV RX4 115 RX4 yX4_corrections wsX4_corrections) := goodIn_app (goodIn_of _ (by decide +kernel)) ggX4_patchSize_X4_corrections
theorem dX4_patchSize_0 : decode cX4_patchSize 0 = .ok (.aload_n 0, 1) := by decide +kernel
theorem dX4_patchSize_1 : decode cX4_patchSize 1 = .ok (.getfield 40, 3) := by decide +kernel
theorem dX4_patchSize_4 : decode cX4_patchSize 4 = .ok (.ifCond .eq 17, 3) := by decide +kernel
theorem dX4_patchSize_7 : decode cX4_patchSize 7 = .ok (.aload_n 0, 1) := by decide +kernel
theorem dX4_patchSize_8 : decode cX4_patchSize 8 = .ok (.invokevirtual 124, 3) := by decide +kernel
theorem dX4_patchSize_11 : decode cX4_patchSize 11 = .ok (.aload_n 0, 1) := by decide +kernel
theorem dX4_patchSize_12 : decode cX4_patchSize 12 = .ok (.invokevirtual 115, 3) := by decide +kernel
theorem dX4_patchSize_15 : decode cX4_patchSize 15 = .ok (.iconst 2, 1) := by decide +kernel
theorem dX4_patchSize_16 : decode cX4_patchSize 16 = .ok (.imul, 1) := by decide +kernel
theorem dX4_patchSize_17 : decode cX4_patchSize 17 = .ok (.iadd, 1) := by decide +kernel
theorem dX4_patchSize_18 : decode cX4_patchSize 18 = .ok (.goto 6, 3) := by decide +kernel
theorem dX4_patchSize_21 : decode cX4_patchSize 21 = .ok (.sipush (-10004), 3) := by decide +kernel
theorem dX4_patchSize_24 : decode cX4_patchSize 24 = .ok (.ireturn, 1) := by decide +kernel
set_option maxRecDepth 20000 in
theorem ggX4_unpredictedSize_X4_blocksAndLiteralsCost : GoodIn wsX4_unpredictedSize wsX4_blocksAndLiteralsCost := goodIn_r _ [6, 7, 8, 9, 10, 11, 12, 13, 14, 15, 16, 5, 17, 18, 19, 20, 21, 22, 23, 24, 25, 26, 27, 28, 29, 30, 31, 32, 33, 75, 76, 77, 78, 79, 80, 81, 82, 83, 84, 85, 86, 87] (by decide +kernel) (by decide +kernel)
set_option maxRecDepth 20000 in
theorem gX4_unpredictedSize_X4_blocksAndLiteralsCost : GoodIn wsX4_unpredictedSize (wsV RX4 124 RX4 yX4_blocksAndLiteralsCost wsX4_blocksAndLiteralsCost) := goodIn_app (goodIn_of _ (by decide +kernel)) ggX4_unpredictedSize_X4_blocksAndLiteralsCost
set_option maxRecDepth 20000 in
theorem ggX4_unpredictedSize_X4_changedWords : GoodIn wsX4_unpredictedSize wsX4_changedWords := goodIn_r _ [37, 18, 19, 20, 21, 22, 23, 24, 38, 39, 40, 5, 41, 7, 42, 43, 44, 45, 11, 46, 13, 47, 48, 49, 50, 51, 52, 53, 54, 55, 30, 31, 32, 33, 56, 26, 27, 28, 29, 57, 58, 59, 60, 61, 62, 63, 64, 65, 66, 67, 68, 69, 70, 71, 72, 73, 74, 75, 76, 77, 78, 79, 80, 85, 86, 87, 81, 82, 83, 84] (by decide +kernel) (by decide +kernel)
set_option maxRecDepth 20000 in
theorem gX4_unpredictedSize_X4_changedWords : GoodIn wsX4_unpredictedSize (wsV RX4 127 RX4 yX4_changedWords wsX4_changedWords) := goodIn_app (goodIn_of _ (by decide +kernel)) ggX4_unpredictedSize_X4_changedWords
theorem dX4_unpredictedSize_0 : decode cX4_unpredictedSize 0 = .ok (.aload_n 0, 1) := by decide +kernel
theorem dX4_unpredictedSize_1 : decode cX4_unpredictedSize 1 = .ok (.getfield 40, 3) := by decide +kernel
theorem dX4_unpredictedSize_4 : decode cX4_unpredictedSize 4 = .ok (.ifCond .eq 17, 3) := by decide +kernel
theorem dX4_unpredictedSize_7 : decode cX4_unpredictedSize 7 = .ok (.aload_n 0, 1) := by decide +kernel
theorem dX4_unpredictedSize_8 : decode cX4_unpredictedSize 8 = .ok (.invokevirtual 124, 3) := by decide +kernel
theorem dX4_unpredictedSize_11 : decode cX4_unpredictedSize 11 = .ok (.aload_n 0, 1) := by decide +kernel
theorem dX4_unpredictedSize_12 : decode cX4_unpredictedSize 12 = .ok (.invokevirtual 127, 3) := by decide +kernel
theorem dX4_unpredictedSize_15 : decode cX4_unpredictedSize 15 = .ok (.iconst 2, 1) := by decide +kernel
theorem dX4_unpredictedSize_16 : decode cX4_unpredictedSize 16 = .ok (.imul, 1) := by decide +kernel
theorem dX4_unpredictedSize_17 : decode cX4_unpredictedSize 17 = .ok (.iadd, 1) := by decide +kernel
theorem dX4_unpredictedSize_18 : decode cX4_unpredictedSize 18 = .ok (.goto 6, 3) := by decide +kernel
theorem dX4_unpredictedSize_21 : decode cX4_unpredictedSize 21 = .ok (.sipush (-10004), 3) := by decide +kernel
theorem dX4_unpredictedSize_24 : decode cX4_unpredictedSize 24 = .ok (.ireturn, 1) := by decide +kernel
set_option maxRecDepth 20000 in
theorem ggX4_prediction_X1_oldIndex : GoodIn wsX4_prediction wsX1_oldIndex := goodIn_r _ [7, 8, 9, 10, 6, 11, 12, 13, 14, 15, 16, 17, 18, 19, 20, 21, 22, 49, 50, 51, 52] (by decide +kernel) (by decide +kernel)
set_option maxRecDepth 20000 in
theorem gX4_prediction_X1_oldIndex : GoodIn wsX4_prediction (wsV RX4 130 RX1 yX1_oldIndex wsX1_oldIndex) := goodIn_app (goodIn_of _ (by decide +kernel)) ggX4_prediction_X1_oldIndex
set_option maxRecDepth 20000 in
theorem ggX4_prediction_X3_valueAt : GoodIn wsX4_prediction wsX3_valueAt := goodIn_r _ [27, 28, 29, 30, 31, 26, 32, 33, 53, 54, 55] (by decide +kernel) (by decide +kernel)
set_option maxRecDepth 20000 in
theorem gX4_prediction_X3_valueAt : GoodIn wsX4_prediction (wsV RX4 55 RX3 yX3_valueAt wsX3_valueAt) := goodIn_app (goodIn_of _ (by decide +kernel)) ggX4_prediction_X3_valueAt
set_option maxRecDepth 20000 in
theorem ggX4_prediction_X3_isAddress : GoodIn wsX4_prediction wsX3_isAddress := goodIn_r _ [37, 38, 29, 30, 31, 26, 32, 33, 53, 54, 55] (by decide +kernel) (by decide +kernel)
set_option maxRecDepth 20000 in
theorem gX4_prediction_X3_isAddress : GoodIn wsX4_prediction (wsV RX4 133 RX3 yX3_isAddress wsX3_isAddress) := goodIn_app (goodIn_of _ (by decide +kernel)) ggX4_prediction_X3_isAddress
set_option maxRecDepth 20000 in
theorem ggX4_prediction_X1_moved : GoodIn wsX4_prediction wsX1_moved := goodIn_r _ [42, 17, 18, 19, 20, 6, 21, 22, 13, 14, 15, 16, 8, 9, 10, 11, 12, 49, 50, 51, 52] (by decide +kernel) (by decide +kernel)
set_option maxRecDepth 20000 in
theorem gX4_prediction_X1_moved : GoodIn wsX4_prediction (wsV RX4 108 RX1 yX1_moved wsX1_moved) := goodIn_app (goodIn_of _ (by decide +kernel)) ggX4_prediction_X1_moved
theorem dX4_prediction_0 : decode cX4_prediction 0 = .ok (.aload_n 0, 1) := by decide +kernel
theorem dX4_prediction_1 : decode cX4_prediction 1 = .ok (.getfield 22, 3) := by decide +kernel
theorem dX4_prediction_4 : decode cX4_prediction 4 = .ok (.iload_n 1, 1) := by decide +kernel
theorem dX4_prediction_5 : decode cX4_prediction 5 = .ok (.iload_n 2, 1) := by decide +kernel
theorem dX4_prediction_6 : decode cX4_prediction 6 = .ok (.invokevirtual 130, 3) := by decide +kernel
theorem dX4_prediction_9 : decode cX4_prediction 9 = .ok (.istore_n 3, 1) := by decide +kernel
theorem dX4_prediction_10 : decode cX4_prediction 10 = .ok (.aload_n 0, 1) := by decide +kernel
theorem dX4_prediction_11 : decode cX4_prediction 11 = .ok (.getfield 10, 3) := by decide +kernel
theorem dX4_prediction_14 : decode cX4_prediction 14 = .ok (.iload_n 3, 1) := by decide +kernel
theorem dX4_prediction_15 : decode cX4_prediction 15 = .ok (.invokevirtual 55, 3) := by decide +kernel
theorem dX4_prediction_18 : decode cX4_prediction 18 = .ok (.istore 4, 2) := by decide +kernel
theorem dX4_prediction_20 : decode cX4_prediction 20 = .ok (.aload_n 0, 1) := by decide +kernel
theorem dX4_prediction_21 : decode cX4_prediction 21 = .ok (.getfield 10, 3) := by decide +kernel
theorem dX4_prediction_24 : decode cX4_prediction 24 = .ok (.iload_n 3, 1) := by decide +kernel
theorem dX4_prediction_25 : decode cX4_prediction 25 = .ok (.invokevirtual 133, 3) := by decide +kernel
theorem dX4_prediction_28 : decode cX4_prediction 28 = .ok (.ifCond .eq 15, 3) := by decide +kernel
theorem dX4_prediction_31 : decode cX4_prediction 31 = .ok (.aload_n 0, 1) := by decide +kernel
theorem dX4_prediction_32 : decode cX4_prediction 32 = .ok (.getfield 22, 3) := by decide +kernel
theorem dX4_prediction_35 : decode cX4_prediction 35 = .ok (.iload 4, 2) := by decide +kernel
theorem dX4_prediction_37 : decode cX4_prediction 37 = .ok (.invokevirtual 108, 3) := by decide +kernel
theorem dX4_prediction_40 : decode cX4_prediction 40 = .ok (.goto 5, 3) := by decide +kernel
theorem dX4_prediction_43 : decode cX4_prediction 43 = .ok (.iload 4, 2) := by decide +kernel
theorem dX4_prediction_45 : decode cX4_prediction 45 = .ok (.ireturn, 1) := by decide +kernel
set_option maxRecDepth 20000 in
theorem ggX4_needsCorrection_X1_withNewIndex : GoodIn wsX4_needsCorrection wsX1_withNewIndex := goodIn_r _ [7, 8, 9, 10, 11, 6, 12, 13, 14, 15, 16, 17, 18, 19, 20, 21, 22, 23, 24, 25, 26, 68, 69, 70, 71] (by decide +kernel) (by decide +kernel)
set_option maxRecDepth 20000 in
theorem gX4_needsCorrection_X1_withNewIndex : GoodIn wsX4_needsCorrection (wsV RX4 102 RX1 yX1_withNewIndex wsX1_withNewIndex) := goodIn_app (goodIn_of _ (by decide +kernel)) ggX4_needsCorrection_X1_withNewIndex
set_option maxRecDepth 20000 in
theorem ggX4_needsCorrection_X4_prediction : GoodIn wsX4_needsCorrection wsX4_prediction := goodIn_r _ [31, 1, 32, 33, 34, 35, 6, 36, 13, 14, 15, 16, 17, 18, 19, 20, 21, 8, 37, 38, 39, 40, 41, 42, 43, 44, 45, 46, 47, 48, 49, 50, 51, 52, 53, 54, 55, 56, 57, 58, 59, 60, 61, 62, 63, 64, 65, 66, 67, 68, 69, 70, 71, 72, 73, 74] (by decide +kernel) (by decide +kernel)
set_option maxRecDepth 20000 in
theorem gX4_needsCorrection_X4_prediction : GoodIn wsX4_needsCorrection (wsV RX4 111 RX4 yX4_prediction wsX4_prediction) := goodIn_app (goodIn_of _ (by decide +kernel)) ggX4_needsCorrection_X4_prediction
set_option maxRecDepth 20000 in
theorem ggX4_needsCorrection_X3_valueAt : GoodIn wsX4_needsCorrection wsX3_valueAt := goodIn_r _ [46, 47, 48, 49, 50, 45, 51, 52, 72, 73, 74] (by decide +kernel) (by decide +kernel)
set_option maxRecDepth 20000 in
theorem gX4_needsCorrection_X3_valueAt : GoodIn wsX4_needsCorrection (wsV RX4 55 RX3 yX3_valueAt wsX3_valueAt) := goodIn_app (goodIn_of _ (by decide +kernel)) ggX4_needsCorrection_X3_valueAt
theorem dX4_needsCorrection_0 : decode cX4_needsCorrection 0 = .ok (.aload_n 0, 1) := by decide +kernel
theorem dX4_needsCorrection_1 : decode cX4_needsCorrection 1 = .ok (.getfield 22, 3) := by decide +kernel
theorem dX4_needsCorrection_4 : decode cX4_needsCorrection 4 = .ok (.iload_n 1, 1) := by decide +kernel
theorem dX4_needsCorrection_5 : decode cX4_needsCorrection 5 = .ok (.invokevirtual 102, 3) := by decide +kernel
theorem dX4_needsCorrection_8 : decode cX4_needsCorrection 8 = .ok (.istore_n 2, 1) := by decide +kernel
theorem dX4_needsCorrection_9 : decode cX4_needsCorrection 9 = .ok (.iload_n 2, 1) := by decide +kernel
theorem dX4_needsCorrection_10 : decode cX4_needsCorrection 10 = .ok (.iconst (-1), 1) := by decide +kernel
theorem dX4_needsCorrection_11 : decode cX4_needsCorrection 11 = .ok (.if_icmp .eq 24, 3) := by decide +kernel
theorem dX4_needsCorrection_14 : decode cX4_needsCorrection 14 = .ok (.aload_n 0, 1) := by decide +kernel
theorem dX4_needsCorrection_15 : decode cX4_needsCorrection 15 = .ok (.iload_n 2, 1) := by decide +kernel
theorem dX4_needsCorrection_16 : decode cX4_needsCorrection 16 = .ok (.iload_n 1, 1) := by decide +kernel
theorem dX4_needsCorrection_17 : decode cX4_needsCorrection 17 = .ok (.invokevirtual 111, 3) := by decide +kernel
theorem dX4_needsCorrection_20 : decode cX4_needsCorrection 20 = .ok (.aload_n 0, 1) := by decide +kernel
theorem dX4_needsCorrection_21 : decode cX4_needsCorrection 21 = .ok (.getfield 16, 3) := by decide +kernel
theorem dX4_needsCorrection_24 : decode cX4_needsCorrection 24 = .ok (.iload_n 1, 1) := by decide +kernel
theorem dX4_needsCorrection_25 : decode cX4_needsCorrection 25 = .ok (.invokevirtual 55, 3) := by decide +kernel
theorem dX4_needsCorrection_28 : decode cX4_needsCorrection 28 = .ok (.if_icmp .eq 7, 3) := by decide +kernel
theorem dX4_needsCorrection_31 : decode cX4_needsCorrection 31 = .ok (.iconst 1, 1) := by decide +kernel
theorem dX4_needsCorrection_32 : decode cX4_needsCorrection 32 = .ok (.goto 4, 3) := by decide +kernel
theorem dX4_needsCorrection_35 : decode cX4_needsCorrection 35 = .ok (.iconst 0, 1) := by decide +kernel
theorem dX4_needsCorrection_36 : decode cX4_needsCorrection 36 = .ok (.ireturn, 1) := by decide +kernel
set_option maxRecDepth 20000 in
theorem ggX4_isChanged_X1_withNewIndex : GoodIn wsX4_isChanged wsX1_withNewIndex := goodIn_r _ [8, 9, 10, 11, 12, 7, 13, 14, 15, 16, 17, 18, 19, 20, 21, 22, 23, 24, 25, 26, 27, 54, 55, 56, 57] (by decide +kernel) (by decide +kernel)
set_option maxRecDepth 20000 in
theorem gX4_isChanged_X1_withNewIndex : GoodIn wsX4_isChanged (wsV RX4 102 RX1 yX1_withNewIndex wsX1_withNewIndex) := goodIn_app (goodIn_of _ (by decide +kernel)) ggX4_isChanged_X1_withNewIndex
set_option maxRecDepth 20000 in
theorem ggX4_isChanged_X1_oldIndex : GoodIn wsX4_isChanged wsX1_oldIndex := goodIn_r _ [31, 14, 15, 16, 7, 17, 18, 19, 20, 21, 22, 9, 32, 33, 34, 35, 36, 54, 55, 56, 57] (by decide +kernel) (by decide +kernel)
set_option maxRecDepth 20000 in
theorem gX4_isChanged_X1_oldIndex : GoodIn wsX4_isChanged (wsV RX4 130 RX1 yX1_oldIndex wsX1_oldIndex) := goodIn_app (goodIn_of _ (by decide +kernel)) ggX4_isChanged_X1_oldIndex
set_option maxRecDepth 20000 in
theorem ggX4_isChanged_X3_valueAt : GoodIn wsX4_isChanged wsX3_valueAt := goodIn_r _ [41, 42, 43, 44, 45, 40, 46, 47, 58, 59, 60] (by decide +kernel) (by decide +kernel)
set_option maxRecDepth 20000 in
theorem gX4_isChanged_X3_valueAt : GoodIn wsX4_isChanged (wsV RX4 55 RX3 yX3_valueAt wsX3_valueAt) := goodIn_app (goodIn_of _ (by decide +kernel)) ggX4_isChanged_X3_valueAt
