set_option maxRecDepth 20000 in
theorem ggX0_init_X7_init : GoodIn wsX0_init wsX7_init := goodIn_r _ [11, 12, 2, 3, 13, 14, 15, 16, 19, 20, 21] (by decide +kernel) (by decide +kernel)
set_option maxRecDepth 20000 in
theorem gX0_init_X7_init : GoodIn wsX0_init (wsX7_init) := ggX0_init_X7_init
theorem dX0_init_0 : decode cX0_init 0 = .ok (.aload_n 0, 1) := by decide +kernel
theorem dX0_init_1 : decode cX0_init 1 = .ok (.invokespecial 3, 3) := by decide +kernel
theorem dX0_init_4 : decode cX0_init 4 = .ok (.aload_n 0, 1) := by decide +kernel
theorem dX0_init_5 : decode cX0_init 5 = .ok (.iconst 4, 1) := by decide +kernel
theorem dX0_init_6 : decode cX0_init 6 = .ok (.anewarray 9, 3) := by decide +kernel
theorem dX0_init_9 : decode cX0_init 9 = .ok (.putfield 11, 3) := by decide +kernel
theorem dX0_init_12 : decode cX0_init 12 = .ok (.aload_n 0, 1) := by decide +kernel
theorem dX0_init_13 : decode cX0_init 13 = .ok (.iconst 0, 1) := by decide +kernel
theorem dX0_init_14 : decode cX0_init 14 = .ok (.putfield 17, 3) := by decide +kernel
theorem dX0_init_17 : decode cX0_init 17 = .ok (.iconst 0, 1) := by decide +kernel
theorem dX0_init_18 : decode cX0_init 18 = .ok (.istore_n 1, 1) := by decide +kernel
theorem dX0_init_19 : decode cX0_init 19 = .ok (.iload_n 1, 1) := by decide +kernel
theorem dX0_init_20 : decode cX0_init 20 = .ok (.iconst 4, 1) := by decide +kernel
theorem dX0_init_21 : decode cX0_init 21 = .ok (.if_icmp .ge 22, 3) := by decide +kernel
theorem dX0_init_24 : decode cX0_init 24 = .ok (.aload_n 0, 1) := by decide +kernel
theorem dX0_init_25 : decode cX0_init 25 = .ok (.getfield 11, 3) := by decide +kernel
theorem dX0_init_28 : decode cX0_init 28 = .ok (.iload_n 1, 1) := by decide +kernel
theorem dX0_init_29 : decode cX0_init 29 = .ok (.new 9, 3) := by decide +kernel
theorem dX0_init_32 : decode cX0_init 32 = .ok (.dup, 1) := by decide +kernel
theorem dX0_init_33 : decode cX0_init 33 = .ok (.invokespecial 21, 3) := by decide +kernel
theorem dX0_init_36 : decode cX0_init 36 = .ok (.aastore, 1) := by decide +kernel
theorem dX0_init_37 : decode cX0_init 37 = .ok (.iinc 1 1, 3) := by decide +kernel
theorem dX0_init_40 : decode cX0_init 40 = .ok (.goto (-21), 3) := by decide +kernel
theorem dX0_init_43 : decode cX0_init 43 = .ok (.return_, 1) := by decide +kernel
set_option maxRecDepth 20000 in
theorem ggX0_keep_X0_dropOldest : GoodIn wsX0_keep wsX0_dropOldest := goodIn_r _ [6, 7, 1, 20, 21] (by decide +kernel) (by decide +kernel)
set_option maxRecDepth 20000 in
theorem gX0_keep_X0_dropOldest : GoodIn wsX0_keep (wsV RX0 22 RX0 yX0_dropOldest wsX0_dropOldest) := goodIn_app (goodIn_of _ (by decide +kernel)) ggX0_keep_X0_dropOldest
set_option maxRecDepth 20000 in
theorem ggX0_keep_X0_state : GoodIn wsX0_keep wsX0_state := goodIn_r _ [11, 7, 20, 21] (by decide +kernel) (by decide +kernel)
set_option maxRecDepth 20000 in
theorem gX0_keep_X0_state : GoodIn wsX0_keep (wsV RX0 25 RX0 yX0_state wsX0_state) := goodIn_app (goodIn_of _ (by decide +kernel)) ggX0_keep_X0_state
set_option maxRecDepth 20000 in
theorem ggX0_keep_X7_copyFrom : GoodIn wsX0_keep wsX7_copyFrom := goodIn_r _ [16, 17, 18, 19, 22, 23, 24] (by decide +kernel) (by decide +kernel)
set_option maxRecDepth 20000 in
theorem gX0_keep_X7_copyFrom : GoodIn wsX0_keep (wsV RX0 29 RX7 yX7_copyFrom wsX7_copyFrom) := goodIn_app (goodIn_of _ (by decide +kernel)) ggX0_keep_X7_copyFrom
theorem dX0_keep_0 : decode cX0_keep 0 = .ok (.aload_n 0, 1) := by decide +kernel
theorem dX0_keep_1 : decode cX0_keep 1 = .ok (.getfield 17, 3) := by decide +kernel
theorem dX0_keep_4 : decode cX0_keep 4 = .ok (.iconst 4, 1) := by decide +kernel
theorem dX0_keep_5 : decode cX0_keep 5 = .ok (.if_icmp .lt 7, 3) := by decide +kernel
theorem dX0_keep_8 : decode cX0_keep 8 = .ok (.aload_n 0, 1) := by decide +kernel
theorem dX0_keep_9 : decode cX0_keep 9 = .ok (.invokevirtual 22, 3) := by decide +kernel
theorem dX0_keep_12 : decode cX0_keep 12 = .ok (.aload_n 0, 1) := by decide +kernel
theorem dX0_keep_13 : decode cX0_keep 13 = .ok (.aload_n 0, 1) := by decide +kernel
theorem dX0_keep_14 : decode cX0_keep 14 = .ok (.getfield 17, 3) := by decide +kernel
theorem dX0_keep_17 : decode cX0_keep 17 = .ok (.invokevirtual 25, 3) := by decide +kernel
theorem dX0_keep_20 : decode cX0_keep 20 = .ok (.astore_n 2, 1) := by decide +kernel
theorem dX0_keep_21 : decode cX0_keep 21 = .ok (.aload_n 2, 1) := by decide +kernel
theorem dX0_keep_22 : decode cX0_keep 22 = .ok (.ifnull 18, 3) := by decide +kernel
theorem dX0_keep_25 : decode cX0_keep 25 = .ok (.aload_n 2, 1) := by decide +kernel
theorem dX0_keep_26 : decode cX0_keep 26 = .ok (.aload_n 1, 1) := by decide +kernel
theorem dX0_keep_27 : decode cX0_keep 27 = .ok (.invokevirtual 29, 3) := by decide +kernel
theorem dX0_keep_30 : decode cX0_keep 30 = .ok (.aload_n 0, 1) := by decide +kernel
theorem dX0_keep_31 : decode cX0_keep 31 = .ok (.dup, 1) := by decide +kernel
theorem dX0_keep_32 : decode cX0_keep 32 = .ok (.getfield 17, 3) := by decide +kernel
theorem dX0_keep_35 : decode cX0_keep 35 = .ok (.iconst 1, 1) := by decide +kernel
theorem dX0_keep_36 : decode cX0_keep 36 = .ok (.iadd, 1) := by decide +kernel
theorem dX0_keep_37 : decode cX0_keep 37 = .ok (.putfield 17, 3) := by decide +kernel
theorem dX0_keep_40 : decode cX0_keep 40 = .ok (.return_, 1) := by decide +kernel
theorem dX0_dropOldest_0 : decode cX0_dropOldest 0 = .ok (.aload_n 0, 1) := by decide +kernel
theorem dX0_dropOldest_1 : decode cX0_dropOldest 1 = .ok (.getfield 11, 3) := by decide +kernel
theorem dX0_dropOldest_4 : decode cX0_dropOldest 4 = .ok (.iconst 0, 1) := by decide +kernel
theorem dX0_dropOldest_5 : decode cX0_dropOldest 5 = .ok (.aaload, 1) := by decide +kernel
theorem dX0_dropOldest_6 : decode cX0_dropOldest 6 = .ok (.astore_n 1, 1) := by decide +kernel
theorem dX0_dropOldest_7 : decode cX0_dropOldest 7 = .ok (.iconst 1, 1) := by decide +kernel
theorem dX0_dropOldest_8 : decode cX0_dropOldest 8 = .ok (.istore_n 2, 1) := by decide +kernel
theorem dX0_dropOldest_9 : decode cX0_dropOldest 9 = .ok (.iload_n 2, 1) := by decide +kernel
theorem dX0_dropOldest_10 : decode cX0_dropOldest 10 = .ok (.iconst 4, 1) := by decide +kernel
theorem dX0_dropOldest_11 : decode cX0_dropOldest 11 = .ok (.if_icmp .ge 23, 3) := by decide +kernel
theorem dX0_dropOldest_14 : decode cX0_dropOldest 14 = .ok (.aload_n 0, 1) := by decide +kernel
theorem dX0_dropOldest_15 : decode cX0_dropOldest 15 = .ok (.getfield 11, 3) := by decide +kernel
theorem dX0_dropOldest_18 : decode cX0_dropOldest 18 = .ok (.iload_n 2, 1) := by decide +kernel
theorem dX0_dropOldest_19 : decode cX0_dropOldest 19 = .ok (.iconst 1, 1) := by decide +kernel
theorem dX0_dropOldest_20 : decode cX0_dropOldest 20 = .ok (.isub, 1) := by decide +kernel
theorem dX0_dropOldest_21 : decode cX0_dropOldest 21 = .ok (.aload_n 0, 1) := by decide +kernel
theorem dX0_dropOldest_22 : decode cX0_dropOldest 22 = .ok (.getfield 11, 3) := by decide +kernel
theorem dX0_dropOldest_25 : decode cX0_dropOldest 25 = .ok (.iload_n 2, 1) := by decide +kernel
theorem dX0_dropOldest_26 : decode cX0_dropOldest 26 = .ok (.aaload, 1) := by decide +kernel
theorem dX0_dropOldest_27 : decode cX0_dropOldest 27 = .ok (.aastore, 1) := by decide +kernel
theorem dX0_dropOldest_28 : decode cX0_dropOldest 28 = .ok (.iinc 2 1, 3) := by decide +kernel
theorem dX0_dropOldest_31 : decode cX0_dropOldest 31 = .ok (.goto (-22), 3) := by decide +kernel
theorem dX0_dropOldest_34 : decode cX0_dropOldest 34 = .ok (.aload_n 0, 1) := by decide +kernel
theorem dX0_dropOldest_35 : decode cX0_dropOldest 35 = .ok (.getfield 11, 3) := by decide +kernel
theorem dX0_dropOldest_38 : decode cX0_dropOldest 38 = .ok (.iconst 3, 1) := by decide +kernel
theorem dX0_dropOldest_39 : decode cX0_dropOldest 39 = .ok (.aload_n 1, 1) := by decide +kernel
theorem dX0_dropOldest_40 : decode cX0_dropOldest 40 = .ok (.aastore, 1) := by decide +kernel
theorem dX0_dropOldest_41 : decode cX0_dropOldest 41 = .ok (.aload_n 0, 1) := by decide +kernel
theorem dX0_dropOldest_42 : decode cX0_dropOldest 42 = .ok (.dup, 1) := by decide +kernel
theorem dX0_dropOldest_43 : decode cX0_dropOldest 43 = .ok (.getfield 17, 3) := by decide +kernel
theorem dX0_dropOldest_46 : decode cX0_dropOldest 46 = .ok (.iconst 1, 1) := by decide +kernel
theorem dX0_dropOldest_47 : decode cX0_dropOldest 47 = .ok (.isub, 1) := by decide +kernel
theorem dX0_dropOldest_48 : decode cX0_dropOldest 48 = .ok (.putfield 17, 3) := by decide +kernel
theorem dX0_dropOldest_51 : decode cX0_dropOldest 51 = .ok (.return_, 1) := by decide +kernel
set_option maxRecDepth 20000 in
theorem ggX0_giveBack_X0_state : GoodIn wsX0_giveBack wsX0_state := goodIn_r _ [6, 7, 16, 17] (by decide +kernel) (by decide +kernel)
set_option maxRecDepth 20000 in
theorem gX0_giveBack_X0_state : GoodIn wsX0_giveBack (wsV RX0 25 RX0 yX0_state wsX0_state) := goodIn_app (goodIn_of _ (by decide +kernel)) ggX0_giveBack_X0_state
set_option maxRecDepth 20000 in
theorem ggX0_giveBack_X7_copyFrom : GoodIn wsX0_giveBack wsX7_copyFrom := goodIn_r _ [12, 13, 14, 15, 18, 19, 20] (by decide +kernel) (by decide +kernel)
set_option maxRecDepth 20000 in
theorem gX0_giveBack_X7_copyFrom : GoodIn wsX0_giveBack (wsV RX0 29 RX7 yX7_copyFrom wsX7_copyFrom) := goodIn_app (goodIn_of _ (by decide +kernel)) ggX0_giveBack_X7_copyFrom
theorem dX0_giveBack_0 : decode cX0_giveBack 0 = .ok (.aload_n 0, 1) := by decide +kernel
theorem dX0_giveBack_1 : decode cX0_giveBack 1 = .ok (.aload_n 0, 1) := by decide +kernel
theorem dX0_giveBack_2 : decode cX0_giveBack 2 = .ok (.getfield 17, 3) := by decide +kernel
theorem dX0_giveBack_5 : decode cX0_giveBack 5 = .ok (.iconst 1, 1) := by decide +kernel
theorem dX0_giveBack_6 : decode cX0_giveBack 6 = .ok (.isub, 1) := by decide +kernel
theorem dX0_giveBack_7 : decode cX0_giveBack 7 = .ok (.invokevirtual 25, 3) := by decide +kernel
theorem dX0_giveBack_10 : decode cX0_giveBack 10 = .ok (.astore_n 2, 1) := by decide +kernel
theorem dX0_giveBack_11 : decode cX0_giveBack 11 = .ok (.aload_n 2, 1) := by decide +kernel
theorem dX0_giveBack_12 : decode cX0_giveBack 12 = .ok (.ifnull 18, 3) := by decide +kernel
theorem dX0_giveBack_15 : decode cX0_giveBack 15 = .ok (.aload_n 1, 1) := by decide +kernel
theorem dX0_giveBack_16 : decode cX0_giveBack 16 = .ok (.aload_n 2, 1) := by decide +kernel
theorem dX0_giveBack_17 : decode cX0_giveBack 17 = .ok (.invokevirtual 29, 3) := by decide +kernel
theorem dX0_giveBack_20 : decode cX0_giveBack 20 = .ok (.aload_n 0, 1) := by decide +kernel
theorem dX0_giveBack_21 : decode cX0_giveBack 21 = .ok (.dup, 1) := by decide +kernel
theorem dX0_giveBack_22 : decode cX0_giveBack 22 = .ok (.getfield 17, 3) := by decide +kernel
theorem dX0_giveBack_25 : decode cX0_giveBack 25 = .ok (.iconst 1, 1) := by decide +kernel
theorem dX0_giveBack_26 : decode cX0_giveBack 26 = .ok (.isub, 1) := by decide +kernel
theorem dX0_giveBack_27 : decode cX0_giveBack 27 = .ok (.putfield 17, 3) := by decide +kernel
theorem dX0_giveBack_30 : decode cX0_giveBack 30 = .ok (.return_, 1) := by decide +kernel
theorem dX0_state_0 : decode cX0_state 0 = .ok (.iload_n 1, 1) := by decide +kernel
theorem dX0_state_1 : decode cX0_state 1 = .ok (.ifCond .lt 17, 3) := by decide +kernel
theorem dX0_state_4 : decode cX0_state 4 = .ok (.iload_n 1, 1) := by decide +kernel
theorem dX0_state_5 : decode cX0_state 5 = .ok (.iconst 4, 1) := by decide +kernel
theorem dX0_state_6 : decode cX0_state 6 = .ok (.if_icmp .ge 12, 3) := by decide +kernel
theorem dX0_state_9 : decode cX0_state 9 = .ok (.aload_n 0, 1) := by decide +kernel
theorem dX0_state_10 : decode cX0_state 10 = .ok (.getfield 11, 3) := by decide +kernel
theorem dX0_state_13 : decode cX0_state 13 = .ok (.iload_n 1, 1) := by decide +kernel
theorem dX0_state_14 : decode cX0_state 14 = .ok (.aaload, 1) := by decide +kernel
theorem dX0_state_15 : decode cX0_state 15 = .ok (.goto 4, 3) := by decide +kernel
theorem dX0_state_18 : decode cX0_state 18 = .ok (.aconst_null, 1) := by decide +kernel
theorem dX0_state_19 : decode cX0_state 19 = .ok (.areturn, 1) := by decide +kernel
set_option maxRecDepth 20000 in
theorem ggX1_init_X2_init : GoodIn wsX1_init wsX2_init := goodIn_r _ [6, 7, 8, 9, 10, 11, 12, 13, 14, 15, 16, 17, 18, 19, 20, 21, 22, 23, 24, 25, 26, 27, 28, 41, 42, 43, 44, 45, 46, 47, 48, 49, 50, 37, 38, 39, 40, 51, 52, 53, 54] (by decide +kernel) (by decide +kernel)
set_option maxRecDepth 20000 in
theorem gX1_init_X2_init_n3 : GoodIn wsX1_init (wsX2_init) := ggX1_init_X2_init
set_option maxRecDepth 20000 in
theorem ggX1_init_X10_partIndex : GoodIn wsX1_init wsX10_partIndex := goodIn_r _ [31] (by decide +kernel) (by decide +kernel)
set_option maxRecDepth 20000 in
theorem gX1_init_X10_partIndex_n18 : GoodIn wsX1_init (wsX10_partIndex) := ggX1_init_X10_partIndex
set_option maxRecDepth 20000 in
theorem ggX1_init_X1_put : GoodIn wsX1_init wsX1_put := goodIn_r _ [36, 2, 37, 38, 39, 40] (by decide +kernel) (by decide +kernel)
set_option maxRecDepth 20000 in
theorem gX1_init_X1_put : GoodIn wsX1_init (wsV RX1 22 RX1 yX1_put wsX1_put) := goodIn_app (goodIn_of _ (by decide +kernel)) ggX1_init_X1_put
theorem dX1_init_0 : decode cX1_init 0 = .ok (.aload_n 0, 1) := by decide +kernel
theorem dX1_init_1 : decode cX1_init 1 = .ok (.invokespecial 3, 3) := by decide +kernel
theorem dX1_init_4 : decode cX1_init 4 = .ok (.aload_n 0, 1) := by decide +kernel
theorem dX1_init_5 : decode cX1_init 5 = .ok (.sipush 1625, 3) := by decide +kernel
theorem dX1_init_8 : decode cX1_init 8 = .ok (.newarray .long, 2) := by decide +kernel
theorem dX1_init_10 : decode cX1_init 10 = .ok (.putfield 9, 3) := by decide +kernel
theorem dX1_init_13 : decode cX1_init 13 = .ok (.aload_n 0, 1) := by decide +kernel
theorem dX1_init_14 : decode cX1_init 14 = .ok (.bipush 25, 2) := by decide +kernel
theorem dX1_init_16 : decode cX1_init 16 = .ok (.newarray .long, 2) := by decide +kernel
theorem dX1_init_18 : decode cX1_init 18 = .ok (.putfield 15, 3) := by decide +kernel
theorem dX1_init_21 : decode cX1_init 21 = .ok (.iconst 0, 1) := by decide +kernel
theorem dX1_init_22 : decode cX1_init 22 = .ok (.istore_n 1, 1) := by decide +kernel
theorem dX1_init_23 : decode cX1_init 23 = .ok (.iload_n 1, 1) := by decide +kernel
theorem dX1_init_24 : decode cX1_init 24 = .ok (.iconst 5, 1) := by decide +kernel
theorem dX1_init_25 : decode cX1_init 25 = .ok (.if_icmp .ge 34, 3) := by decide +kernel
theorem dX1_init_28 : decode cX1_init 28 = .ok (.iconst 0, 1) := by decide +kernel
theorem dX1_init_29 : decode cX1_init 29 = .ok (.istore_n 2, 1) := by decide +kernel
theorem dX1_init_30 : decode cX1_init 30 = .ok (.iload_n 2, 1) := by decide +kernel
theorem dX1_init_31 : decode cX1_init 31 = .ok (.bipush 25, 2) := by decide +kernel
theorem dX1_init_33 : decode cX1_init 33 = .ok (.if_icmp .ge 20, 3) := by decide +kernel
theorem dX1_init_36 : decode cX1_init 36 = .ok (.aload_n 0, 1) := by decide +kernel
theorem dX1_init_37 : decode cX1_init 37 = .ok (.iload_n 1, 1) := by decide +kernel
theorem dX1_init_38 : decode cX1_init 38 = .ok (.iload_n 2, 1) := by decide +kernel
theorem dX1_init_39 : decode cX1_init 39 = .ok (.iload_n 2, 1) := by decide +kernel
theorem dX1_init_40 : decode cX1_init 40 = .ok (.invokestatic 18, 3) := by decide +kernel
theorem dX1_init_43 : decode cX1_init 43 = .ok (.lconst 1, 1) := by decide +kernel
theorem dX1_init_44 : decode cX1_init 44 = .ok (.invokevirtual 22, 3) := by decide +kernel
theorem dX1_init_47 : decode cX1_init 47 = .ok (.iinc 2 1, 3) := by decide +kernel
theorem dX1_init_50 : decode cX1_init 50 = .ok (.goto (-20), 3) := by decide +kernel
theorem dX1_init_53 : decode cX1_init 53 = .ok (.iinc 1 1, 3) := by decide +kernel
theorem dX1_init_56 : decode cX1_init 56 = .ok (.goto (-33), 3) := by decide +kernel
theorem dX1_init_59 : decode cX1_init 59 = .ok (.return_, 1) := by decide +kernel
set_option maxRecDepth 20000 in
theorem ggX1_number_X10_partIndex : GoodIn wsX1_number wsX10_partIndex := goodIn_r _ [4] (by decide +kernel) (by decide +kernel)
set_option maxRecDepth 20000 in
theorem gX1_number_X10_partIndex_n18 : GoodIn wsX1_number (wsX10_partIndex) := ggX1_number_X10_partIndex
theorem dX1_number_0 : decode cX1_number 0 = .ok (.iload_n 1, 1) := by decide +kernel
theorem dX1_number_1 : decode cX1_number 1 = .ok (.iload_n 2, 1) := by decide +kernel
theorem dX1_number_2 : decode cX1_number 2 = .ok (.iload_n 3, 1) := by decide +kernel
theorem dX1_number_3 : decode cX1_number 3 = .ok (.invokestatic 18, 3) := by decide +kernel
theorem dX1_number_6 : decode cX1_number 6 = .ok (.istore 4, 2) := by decide +kernel
theorem dX1_number_8 : decode cX1_number 8 = .ok (.iload 4, 2) := by decide +kernel
theorem dX1_number_10 : decode cX1_number 10 = .ok (.ifCond .lt 23, 3) := by decide +kernel
theorem dX1_number_13 : decode cX1_number 13 = .ok (.iload 4, 2) := by decide +kernel
theorem dX1_number_15 : decode cX1_number 15 = .ok (.aload_n 0, 1) := by decide +kernel
theorem dX1_number_16 : decode cX1_number 16 = .ok (.getfield 9, 3) := by decide +kernel
theorem dX1_number_19 : decode cX1_number 19 = .ok (.arraylength, 1) := by decide +kernel
theorem dX1_number_20 : decode cX1_number 20 = .ok (.if_icmp .ge 13, 3) := by decide +kernel
theorem dX1_number_23 : decode cX1_number 23 = .ok (.aload_n 0, 1) := by decide +kernel
theorem dX1_number_24 : decode cX1_number 24 = .ok (.getfield 9, 3) := by decide +kernel
theorem dX1_number_27 : decode cX1_number 27 = .ok (.iload 4, 2) := by decide +kernel
theorem dX1_number_29 : decode cX1_number 29 = .ok (.laload, 1) := by decide +kernel
theorem dX1_number_30 : decode cX1_number 30 = .ok (.goto 4, 3) := by decide +kernel
theorem dX1_number_33 : decode cX1_number 33 = .ok (.lconst 0, 1) := by decide +kernel
theorem dX1_number_34 : decode cX1_number 34 = .ok (.lreturn, 1) := by decide +kernel
theorem dX1_put_0 : decode cX1_put 0 = .ok (.iload_n 1, 1) := by decide +kernel
theorem dX1_put_1 : decode cX1_put 1 = .ok (.ifCond .lt 19, 3) := by decide +kernel
theorem dX1_put_4 : decode cX1_put 4 = .ok (.iload_n 1, 1) := by decide +kernel
theorem dX1_put_5 : decode cX1_put 5 = .ok (.aload_n 0, 1) := by decide +kernel
theorem dX1_put_6 : decode cX1_put 6 = .ok (.getfield 9, 3) := by decide +kernel
theorem dX1_put_9 : decode cX1_put 9 = .ok (.arraylength, 1) := by decide +kernel
theorem dX1_put_10 : decode cX1_put 10 = .ok (.if_icmp .ge 10, 3) := by decide +kernel
theorem dX1_put_13 : decode cX1_put 13 = .ok (.aload_n 0, 1) := by decide +kernel
theorem dX1_put_14 : decode cX1_put 14 = .ok (.getfield 9, 3) := by decide +kernel
theorem dX1_put_17 : decode cX1_put 17 = .ok (.iload_n 1, 1) := by decide +kernel
theorem dX1_put_18 : decode cX1_put 18 = .ok (.lload_n 2, 1) := by decide +kernel
theorem dX1_put_19 : decode cX1_put 19 = .ok (.lastore, 1) := by decide +kernel
theorem dX1_put_20 : decode cX1_put 20 = .ok (.return_, 1) := by decide +kernel
set_option maxRecDepth 20000 in
theorem ggX1_findItems_X10_partIndex : GoodIn wsX1_findItems wsX10_partIndex := goodIn_r _ [7] (by decide +kernel) (by decide +kernel)
set_option maxRecDepth 20000 in
theorem gX1_findItems_X10_partIndex_n18 : GoodIn wsX1_findItems (wsX10_partIndex) := ggX1_findItems_X10_partIndex
theorem dX1_findItems_0 : decode cX1_findItems 0 = .ok (.iload_n 3, 1) := by decide +kernel
theorem dX1_findItems_1 : decode cX1_findItems 1 = .ok (.iconst 1, 1) := by decide +kernel
theorem dX1_findItems_2 : decode cX1_findItems 2 = .ok (.iadd, 1) := by decide +kernel
theorem dX1_findItems_3 : decode cX1_findItems 3 = .ok (.istore 5, 2) := by decide +kernel
theorem dX1_findItems_5 : decode cX1_findItems 5 = .ok (.iload 5, 2) := by decide +kernel
theorem dX1_findItems_7 : decode cX1_findItems 7 = .ok (.ifCond .lt 43, 3) := by decide +kernel
theorem dX1_findItems_10 : decode cX1_findItems 10 = .ok (.iload 5, 2) := by decide +kernel
theorem dX1_findItems_12 : decode cX1_findItems 12 = .ok (.iload 4, 2) := by decide +kernel
theorem dX1_findItems_14 : decode cX1_findItems 14 = .ok (.if_icmp .gt 36, 3) := by decide +kernel
theorem dX1_findItems_17 : decode cX1_findItems 17 = .ok (.iload 5, 2) := by decide +kernel
theorem dX1_findItems_19 : decode cX1_findItems 19 = .ok (.bipush 25, 2) := by decide +kernel
theorem dX1_findItems_21 : decode cX1_findItems 21 = .ok (.if_icmp .ge 29, 3) := by decide +kernel
theorem dX1_findItems_24 : decode cX1_findItems 24 = .ok (.aload_n 0, 1) := by decide +kernel
theorem dX1_findItems_25 : decode cX1_findItems 25 = .ok (.getfield 15, 3) := by decide +kernel
theorem dX1_findItems_28 : decode cX1_findItems 28 = .ok (.iload 5, 2) := by decide +kernel
theorem dX1_findItems_30 : decode cX1_findItems 30 = .ok (.iload 5, 2) := by decide +kernel
theorem dX1_findItems_32 : decode cX1_findItems 32 = .ok (.iload_n 3, 1) := by decide +kernel
theorem dX1_findItems_33 : decode cX1_findItems 33 = .ok (.iconst 1, 1) := by decide +kernel
theorem dX1_findItems_34 : decode cX1_findItems 34 = .ok (.iadd, 1) := by decide +kernel
theorem dX1_findItems_35 : decode cX1_findItems 35 = .ok (.if_icmp .ne 7, 3) := by decide +kernel
theorem dX1_findItems_38 : decode cX1_findItems 38 = .ok (.lconst 1, 1) := by decide +kernel
theorem dX1_findItems_39 : decode cX1_findItems 39 = .ok (.goto 4, 3) := by decide +kernel
theorem dX1_findItems_42 : decode cX1_findItems 42 = .ok (.lconst 0, 1) := by decide +kernel
theorem dX1_findItems_43 : decode cX1_findItems 43 = .ok (.lastore, 1) := by decide +kernel
theorem dX1_findItems_44 : decode cX1_findItems 44 = .ok (.iinc 5 1, 3) := by decide +kernel
theorem dX1_findItems_47 : decode cX1_findItems 47 = .ok (.goto (-42), 3) := by decide +kernel
theorem dX1_findItems_50 : decode cX1_findItems 50 = .ok (.iconst 0, 1) := by decide +kernel
theorem dX1_findItems_51 : decode cX1_findItems 51 = .ok (.istore 5, 2) := by decide +kernel
theorem dX1_findItems_53 : decode cX1_findItems 53 = .ok (.iload_n 2, 1) := by decide +kernel
theorem dX1_findItems_54 : decode cX1_findItems 54 = .ok (.ifCond .le 112, 3) := by decide +kernel
theorem dX1_findItems_57 : decode cX1_findItems 57 = .ok (.iload 5, 2) := by decide +kernel
theorem dX1_findItems_59 : decode cX1_findItems 59 = .ok (.aload_n 0, 1) := by decide +kernel
theorem dX1_findItems_60 : decode cX1_findItems 60 = .ok (.getfield 26, 3) := by decide +kernel
theorem dX1_findItems_63 : decode cX1_findItems 63 = .ok (.getfield 30, 3) := by decide +kernel
theorem dX1_findItems_66 : decode cX1_findItems 66 = .ok (.if_icmp .ge 100, 3) := by decide +kernel
theorem dX1_findItems_69 : decode cX1_findItems 69 = .ok (.iload 5, 2) := by decide +kernel
theorem dX1_findItems_71 : decode cX1_findItems 71 = .ok (.bipush 60, 2) := by decide +kernel
theorem dX1_findItems_73 : decode cX1_findItems 73 = .ok (.if_icmp .ge 93, 3) := by decide +kernel
theorem dX1_findItems_76 : decode cX1_findItems 76 = .ok (.aload_n 0, 1) := by decide +kernel
theorem dX1_findItems_77 : decode cX1_findItems 77 = .ok (.getfield 26, 3) := by decide +kernel
theorem dX1_findItems_80 : decode cX1_findItems 80 = .ok (.getfield 36, 3) := by decide +kernel
theorem dX1_findItems_83 : decode cX1_findItems 83 = .ok (.iload 5, 2) := by decide +kernel
theorem dX1_findItems_85 : decode cX1_findItems 85 = .ok (.iaload, 1) := by decide +kernel
theorem dX1_findItems_86 : decode cX1_findItems 86 = .ok (.istore 6, 2) := by decide +kernel
theorem dX1_findItems_88 : decode cX1_findItems 88 = .ok (.iload_n 2, 1) := by decide +kernel
theorem dX1_findItems_89 : decode cX1_findItems 89 = .ok (.iconst 1, 1) := by decide +kernel
theorem dX1_findItems_90 : decode cX1_findItems 90 = .ok (.isub, 1) := by decide +kernel
theorem dX1_findItems_91 : decode cX1_findItems 91 = .ok (.iload_n 3, 1) := by decide +kernel
theorem dX1_findItems_92 : decode cX1_findItems 92 = .ok (.iload_n 3, 1) := by decide +kernel
theorem dX1_findItems_93 : decode cX1_findItems 93 = .ok (.aload_n 0, 1) := by decide +kernel
theorem dX1_findItems_94 : decode cX1_findItems 94 = .ok (.getfield 26, 3) := by decide +kernel
theorem dX1_findItems_97 : decode cX1_findItems 97 = .ok (.getfield 40, 3) := by decide +kernel
theorem dX1_findItems_100 : decode cX1_findItems 100 = .ok (.iload 5, 2) := by decide +kernel
theorem dX1_findItems_102 : decode cX1_findItems 102 = .ok (.iaload, 1) := by decide +kernel
theorem dX1_findItems_103 : decode cX1_findItems 103 = .ok (.iadd, 1) := by decide +kernel
theorem dX1_findItems_104 : decode cX1_findItems 104 = .ok (.invokestatic 18, 3) := by decide +kernel
theorem dX1_findItems_107 : decode cX1_findItems 107 = .ok (.istore 7, 2) := by decide +kernel
theorem dX1_findItems_109 : decode cX1_findItems 109 = .ok (.iload 6, 2) := by decide +kernel
theorem dX1_findItems_111 : decode cX1_findItems 111 = .ok (.ifCond .lt 49, 3) := by decide +kernel
theorem dX1_findItems_114 : decode cX1_findItems 114 = .ok (.iload 6, 2) := by decide +kernel
theorem dX1_findItems_116 : decode cX1_findItems 116 = .ok (.iload 4, 2) := by decide +kernel
theorem dX1_findItems_118 : decode cX1_findItems 118 = .ok (.if_icmp .gt 42, 3) := by decide +kernel
theorem dX1_findItems_121 : decode cX1_findItems 121 = .ok (.iload 6, 2) := by decide +kernel
theorem dX1_findItems_123 : decode cX1_findItems 123 = .ok (.bipush 25, 2) := by decide +kernel
theorem dX1_findItems_125 : decode cX1_findItems 125 = .ok (.if_icmp .ge 35, 3) := by decide +kernel
theorem dX1_findItems_128 : decode cX1_findItems 128 = .ok (.iload 7, 2) := by decide +kernel
theorem dX1_findItems_130 : decode cX1_findItems 130 = .ok (.ifCond .lt 30, 3) := by decide +kernel
theorem dX1_findItems_133 : decode cX1_findItems 133 = .ok (.iload 7, 2) := by decide +kernel
theorem dX1_findItems_135 : decode cX1_findItems 135 = .ok (.aload_n 0, 1) := by decide +kernel
theorem dX1_findItems_136 : decode cX1_findItems 136 = .ok (.getfield 9, 3) := by decide +kernel
theorem dX1_findItems_139 : decode cX1_findItems 139 = .ok (.arraylength, 1) := by decide +kernel
theorem dX1_findItems_140 : decode cX1_findItems 140 = .ok (.if_icmp .ge 20, 3) := by decide +kernel
theorem dX1_findItems_143 : decode cX1_findItems 143 = .ok (.aload_n 0, 1) := by decide +kernel
theorem dX1_findItems_144 : decode cX1_findItems 144 = .ok (.getfield 15, 3) := by decide +kernel
theorem dX1_findItems_147 : decode cX1_findItems 147 = .ok (.iload 6, 2) := by decide +kernel
theorem dX1_findItems_149 : decode cX1_findItems 149 = .ok (.dup2, 1) := by decide +kernel
theorem dX1_findItems_150 : decode cX1_findItems 150 = .ok (.laload, 1) := by decide +kernel
theorem dX1_findItems_151 : decode cX1_findItems 151 = .ok (.aload_n 0, 1) := by decide +kernel
theorem dX1_findItems_152 : decode cX1_findItems 152 = .ok (.getfield 9, 3) := by decide +kernel
theorem dX1_findItems_155 : decode cX1_findItems 155 = .ok (.iload 7, 2) := by decide +kernel
theorem dX1_findItems_157 : decode cX1_findItems 157 = .ok (.laload, 1) := by decide +kernel
theorem dX1_findItems_158 : decode cX1_findItems 158 = .ok (.ladd, 1) := by decide +kernel
theorem dX1_findItems_159 : decode cX1_findItems 159 = .ok (.lastore, 1) := by decide +kernel
theorem dX1_findItems_160 : decode cX1_findItems 160 = .ok (.iinc 5 1, 3) := by decide +kernel
theorem dX1_findItems_163 : decode cX1_findItems 163 = .ok (.goto (-110), 3) := by decide +kernel
theorem dX1_findItems_166 : decode cX1_findItems 166 = .ok (.return_, 1) := by decide +kernel
set_option maxRecDepth 20000 in
theorem ggX1_fillPart_X10_partIndex : GoodIn wsX1_fillPart wsX10_partIndex := goodIn_r _ [5] (by decide +kernel) (by decide +kernel)
set_option maxRecDepth 20000 in
theorem gX1_fillPart_X10_partIndex_n18 : GoodIn wsX1_fillPart (wsX10_partIndex) := ggX1_fillPart_X10_partIndex
set_option maxRecDepth 20000 in
theorem ggX1_fillPart_X1_put : GoodIn wsX1_fillPart wsX1_put := goodIn_r _ [10, 1, 11, 12, 13, 14] (by decide +kernel) (by decide +kernel)
set_option maxRecDepth 20000 in
theorem gX1_fillPart_X1_put : GoodIn wsX1_fillPart (wsV RX1 22 RX1 yX1_put wsX1_put) := goodIn_app (goodIn_of _ (by decide +kernel)) ggX1_fillPart_X1_put
theorem dX1_fillPart_0 : decode cX1_fillPart 0 = .ok (.lconst 0, 1) := by decide +kernel
theorem dX1_fillPart_1 : decode cX1_fillPart 1 = .ok (.lstore 4, 2) := by decide +kernel
theorem dX1_fillPart_3 : decode cX1_fillPart 3 = .ok (.iload_n 1, 1) := by decide +kernel
theorem dX1_fillPart_4 : decode cX1_fillPart 4 = .ok (.iload_n 2, 1) := by decide +kernel
theorem dX1_fillPart_5 : decode cX1_fillPart 5 = .ok (.iconst 1, 1) := by decide +kernel
theorem dX1_fillPart_6 : decode cX1_fillPart 6 = .ok (.iadd, 1) := by decide +kernel
theorem dX1_fillPart_7 : decode cX1_fillPart 7 = .ok (.iload_n 3, 1) := by decide +kernel
theorem dX1_fillPart_8 : decode cX1_fillPart 8 = .ok (.invokestatic 18, 3) := by decide +kernel
theorem dX1_fillPart_11 : decode cX1_fillPart 11 = .ok (.istore 6, 2) := by decide +kernel
theorem dX1_fillPart_13 : decode cX1_fillPart 13 = .ok (.iload_n 2, 1) := by decide +kernel
theorem dX1_fillPart_14 : decode cX1_fillPart 14 = .ok (.iconst 1, 1) := by decide +kernel
theorem dX1_fillPart_15 : decode cX1_fillPart 15 = .ok (.iadd, 1) := by decide +kernel
theorem dX1_fillPart_16 : decode cX1_fillPart 16 = .ok (.istore 7, 2) := by decide +kernel
theorem dX1_fillPart_18 : decode cX1_fillPart 18 = .ok (.iload 7, 2) := by decide +kernel
theorem dX1_fillPart_20 : decode cX1_fillPart 20 = .ok (.ifCond .lt 60, 3) := by decide +kernel
theorem dX1_fillPart_23 : decode cX1_fillPart 23 = .ok (.iload 7, 2) := by decide +kernel
theorem dX1_fillPart_25 : decode cX1_fillPart 25 = .ok (.iload_n 3, 1) := by decide +kernel
theorem dX1_fillPart_26 : decode cX1_fillPart 26 = .ok (.if_icmp .gt 54, 3) := by decide +kernel
theorem dX1_fillPart_29 : decode cX1_fillPart 29 = .ok (.iload 7, 2) := by decide +kernel
theorem dX1_fillPart_31 : decode cX1_fillPart 31 = .ok (.bipush 25, 2) := by decide +kernel
theorem dX1_fillPart_33 : decode cX1_fillPart 33 = .ok (.if_icmp .ge 47, 3) := by decide +kernel
theorem dX1_fillPart_36 : decode cX1_fillPart 36 = .ok (.iload 6, 2) := by decide +kernel
theorem dX1_fillPart_38 : decode cX1_fillPart 38 = .ok (.ifCond .lt 42, 3) := by decide +kernel
theorem dX1_fillPart_41 : decode cX1_fillPart 41 = .ok (.iload 6, 2) := by decide +kernel
theorem dX1_fillPart_43 : decode cX1_fillPart 43 = .ok (.aload_n 0, 1) := by decide +kernel
theorem dX1_fillPart_44 : decode cX1_fillPart 44 = .ok (.getfield 9, 3) := by decide +kernel
theorem dX1_fillPart_47 : decode cX1_fillPart 47 = .ok (.arraylength, 1) := by decide +kernel
theorem dX1_fillPart_48 : decode cX1_fillPart 48 = .ok (.if_icmp .ge 32, 3) := by decide +kernel
theorem dX1_fillPart_51 : decode cX1_fillPart 51 = .ok (.lload 4, 2) := by decide +kernel
theorem dX1_fillPart_53 : decode cX1_fillPart 53 = .ok (.aload_n 0, 1) := by decide +kernel
theorem dX1_fillPart_54 : decode cX1_fillPart 54 = .ok (.getfield 15, 3) := by decide +kernel
theorem dX1_fillPart_57 : decode cX1_fillPart 57 = .ok (.iload 7, 2) := by decide +kernel
theorem dX1_fillPart_59 : decode cX1_fillPart 59 = .ok (.laload, 1) := by decide +kernel
theorem dX1_fillPart_60 : decode cX1_fillPart 60 = .ok (.aload_n 0, 1) := by decide +kernel
theorem dX1_fillPart_61 : decode cX1_fillPart 61 = .ok (.getfield 9, 3) := by decide +kernel
theorem dX1_fillPart_64 : decode cX1_fillPart 64 = .ok (.iload 6, 2) := by decide +kernel
theorem dX1_fillPart_66 : decode cX1_fillPart 66 = .ok (.laload, 1) := by decide +kernel
theorem dX1_fillPart_67 : decode cX1_fillPart 67 = .ok (.lmul, 1) := by decide +kernel
theorem dX1_fillPart_68 : decode cX1_fillPart 68 = .ok (.ladd, 1) := by decide +kernel
theorem dX1_fillPart_69 : decode cX1_fillPart 69 = .ok (.lstore 4, 2) := by decide +kernel
theorem dX1_fillPart_71 : decode cX1_fillPart 71 = .ok (.iinc 6 1, 3) := by decide +kernel
theorem dX1_fillPart_74 : decode cX1_fillPart 74 = .ok (.iinc 7 1, 3) := by decide +kernel
theorem dX1_fillPart_77 : decode cX1_fillPart 77 = .ok (.goto (-59), 3) := by decide +kernel
theorem dX1_fillPart_80 : decode cX1_fillPart 80 = .ok (.aload_n 0, 1) := by decide +kernel
theorem dX1_fillPart_81 : decode cX1_fillPart 81 = .ok (.iload_n 1, 1) := by decide +kernel
theorem dX1_fillPart_82 : decode cX1_fillPart 82 = .ok (.iload_n 2, 1) := by decide +kernel
theorem dX1_fillPart_83 : decode cX1_fillPart 83 = .ok (.iload_n 3, 1) := by decide +kernel
theorem dX1_fillPart_84 : decode cX1_fillPart 84 = .ok (.invokestatic 18, 3) := by decide +kernel
theorem dX1_fillPart_87 : decode cX1_fillPart 87 = .ok (.lload 4, 2) := by decide +kernel
theorem dX1_fillPart_89 : decode cX1_fillPart 89 = .ok (.invokevirtual 22, 3) := by decide +kernel
theorem dX1_fillPart_92 : decode cX1_fillPart 92 = .ok (.return_, 1) := by decide +kernel
set_option maxRecDepth 20000 in
theorem ggX2_init_X5_init : GoodIn wsX2_init wsX5_init := goodIn_r _ [10, 11, 2, 3, 12, 13, 14, 15, 16, 17, 18, 19, 20, 21, 22, 23, 24, 25, 26, 27, 28, 29, 30, 31, 32] (by decide +kernel) (by decide +kernel)
set_option maxRecDepth 20000 in
theorem gX2_init_X5_init_n11 : GoodIn wsX2_init (wsX5_init) := ggX2_init_X5_init
theorem dX2_init_0 : decode cX2_init 0 = .ok (.aload_n 0, 1) := by decide +kernel
theorem dX2_init_1 : decode cX2_init 1 = .ok (.invokespecial 3, 3) := by decide +kernel
theorem dX2_init_4 : decode cX2_init 4 = .ok (.aload_n 0, 1) := by decide +kernel
theorem dX2_init_5 : decode cX2_init 5 = .ok (.new 9, 3) := by decide +kernel
theorem dX2_init_8 : decode cX2_init 8 = .ok (.dup, 1) := by decide +kernel
theorem dX2_init_9 : decode cX2_init 9 = .ok (.invokespecial 11, 3) := by decide +kernel
theorem dX2_init_12 : decode cX2_init 12 = .ok (.putfield 12, 3) := by decide +kernel
theorem dX2_init_15 : decode cX2_init 15 = .ok (.aload_n 0, 1) := by decide +kernel
theorem dX2_init_16 : decode cX2_init 16 = .ok (.iconst 0, 1) := by decide +kernel
theorem dX2_init_17 : decode cX2_init 17 = .ok (.putfield 18, 3) := by decide +kernel
theorem dX2_init_20 : decode cX2_init 20 = .ok (.return_, 1) := by decide +kernel
set_option maxRecDepth 20000 in
theorem ggX2_refresh_X2_fill : GoodIn wsX2_refresh wsX2_fill := goodIn_r _ [7, 8, 9, 10, 11, 12, 13, 14, 15, 16, 17, 18, 19, 20, 21, 22, 23, 24, 25, 26, 27, 28, 29, 30, 31, 32, 33, 34, 35, 36, 37, 38, 39, 40, 41, 42, 43, 44, 45, 46, 47, 48, 49, 50, 51, 52, 53, 54, 55, 56, 57, 58, 59, 60, 61, 62, 63, 64, 65, 66, 67, 68, 69, 70, 71, 72, 73, 74, 75, 76, 77, 78, 79, 80, 81, 82, 83, 84, 85, 86, 87, 88, 89, 90, 91, 92, 94, 95, 96, 97, 98, 99, 100, 101, 102, 103, 104, 105, 106, 107, 108, 109, 110, 111, 112, 113, 114] (by decide +kernel) (by decide +kernel)
set_option maxRecDepth 20000 in
theorem gX2_refresh_X2_fill_u28X1 : GoodIn wsX2_refresh (va_wsU RX2 28 RX1 "RepeatNests$Parts" ⟨"RepeatNests$Parts", "fill", "(LRepeatNests$State;IZ)V"⟩ yX2_fill wsX2_fill) := goodIn_app (goodIn_of _ (by decide +kernel)) ggX2_refresh_X2_fill
set_option maxRecDepth 20000 in
theorem gX2_refresh_X2_fill_u28X3 : GoodIn wsX2_refresh (va_wsU RX2 28 RX3 "RepeatNests$Parts" ⟨"RepeatNests$Parts", "fill", "(LRepeatNests$State;IZ)V"⟩ yX2_fill wsX2_fill) := goodIn_app (goodIn_of _ (by decide +kernel)) ggX2_refresh_X2_fill
theorem dX2_refresh_0 : decode cX2_refresh 0 = .ok (.aload_n 0, 1) := by decide +kernel
theorem dX2_refresh_1 : decode cX2_refresh 1 = .ok (.getfield 18, 3) := by decide +kernel
theorem dX2_refresh_4 : decode cX2_refresh 4 = .ok (.ifCond .ne 20, 3) := by decide +kernel
theorem dX2_refresh_7 : decode cX2_refresh 7 = .ok (.aload_n 0, 1) := by decide +kernel
theorem dX2_refresh_8 : decode cX2_refresh 8 = .ok (.iconst 1, 1) := by decide +kernel
theorem dX2_refresh_9 : decode cX2_refresh 9 = .ok (.putfield 18, 3) := by decide +kernel
theorem dX2_refresh_12 : decode cX2_refresh 12 = .ok (.aload_n 0, 1) := by decide +kernel
theorem dX2_refresh_13 : decode cX2_refresh 13 = .ok (.aload_n 1, 1) := by decide +kernel
theorem dX2_refresh_14 : decode cX2_refresh 14 = .ok (.aload_n 1, 1) := by decide +kernel
theorem dX2_refresh_15 : decode cX2_refresh 15 = .ok (.getfield 22, 3) := by decide +kernel
theorem dX2_refresh_18 : decode cX2_refresh 18 = .ok (.iconst 1, 1) := by decide +kernel
theorem dX2_refresh_19 : decode cX2_refresh 19 = .ok (.isub, 1) := by decide +kernel
theorem dX2_refresh_20 : decode cX2_refresh 20 = .ok (.iconst 0, 1) := by decide +kernel
theorem dX2_refresh_21 : decode cX2_refresh 21 = .ok (.invokevirtual 28, 3) := by decide +kernel
theorem dX2_refresh_24 : decode cX2_refresh 24 = .ok (.return_, 1) := by decide +kernel
set_option maxRecDepth 20000 in
theorem ggX2_fill_X5_look : GoodIn wsX2_fill wsX5_look := goodIn_r _ [10, 11, 12, 13, 14, 15, 16, 17, 18, 19, 20, 21, 22, 23, 24, 25, 26, 27, 28, 29, 30, 31, 94, 95, 96, 97, 98, 99, 100, 101, 102, 103, 104, 105, 106] (by decide +kernel) (by decide +kernel)
set_option maxRecDepth 20000 in
theorem gX2_fill_X5_look : GoodIn wsX2_fill (wsV RX2 32 RX5 yX5_look wsX5_look) := goodIn_app (goodIn_of _ (by decide +kernel)) ggX2_fill_X5_look
set_option maxRecDepth 20000 in
theorem ggX2_fill_X7_setting : GoodIn wsX2_fill wsX7_setting := goodIn_r _ [21, 22, 94, 95, 96] (by decide +kernel) (by decide +kernel)
set_option maxRecDepth 20000 in
theorem gX2_fill_X7_setting : GoodIn wsX2_fill (wsV RX2 36 RX7 yX7_setting wsX7_setting) := goodIn_app (goodIn_of _ (by decide +kernel)) ggX2_fill_X7_setting
set_option maxRecDepth 20000 in
theorem ggX2_fill_X5_find : GoodIn wsX2_fill wsX5_find := goodIn_r _ [36, 37, 11, 38, 39, 40, 9, 41, 16, 14, 42, 43, 44, 12, 13, 45, 46, 47, 48, 49, 50, 51, 97, 98, 99, 100, 101, 102, 103, 104, 105, 106] (by decide +kernel) (by decide +kernel)
set_option maxRecDepth 20000 in
theorem gX2_fill_X5_find : GoodIn wsX2_fill (wsV RX2 46 RX5 yX5_find wsX5_find) := goodIn_app (goodIn_of _ (by decide +kernel)) ggX2_fill_X5_find
set_option maxRecDepth 20000 in
theorem ggX2_fill_X1_findItems : GoodIn wsX2_fill wsX1_findItems := goodIn_r _ [57, 58, 59, 60, 61, 62, 30, 63, 86, 87, 88, 89, 90, 91, 92, 93, 97, 98, 99, 100, 101, 102, 103, 104, 105, 106] (by decide +kernel) (by decide +kernel)
set_option maxRecDepth 20000 in
theorem gX2_fill_X1_findItems_u50X1 : GoodIn wsX2_fill (va_wsU RX2 50 RX1 "RepeatNests$Parts" ⟨"RepeatNests$Parts", "findItems", "(LRepeatNests$State;III)V"⟩ yX1_findItems wsX1_findItems) := goodIn_app (goodIn_of _ (by decide +kernel)) ggX2_fill_X1_findItems
set_option maxRecDepth 20000 in
theorem ggX2_fill_X3_findItems : GoodIn wsX2_fill wsX3_findItems := goodIn_r _ [67, 68, 69, 70, 71, 72, 73, 18, 19, 20, 21, 22, 62, 30, 63, 90, 91, 92, 93, 86, 87, 88, 89, 97, 98, 99, 100, 101, 102, 103, 104, 105, 106, 94, 95, 96] (by decide +kernel) (by decide +kernel)
set_option maxRecDepth 20000 in
theorem gX2_fill_X3_findItems_u50X3 : GoodIn wsX2_fill (va_wsU RX2 50 RX3 "RepeatNests$Parts" ⟨"RepeatNests$Parts", "findItems", "(LRepeatNests$State;III)V"⟩ yX3_findItems wsX3_findItems) := goodIn_app (goodIn_of _ (by decide +kernel)) ggX2_fill_X3_findItems
set_option maxRecDepth 20000 in
theorem ggX2_fill_X1_fillPart : GoodIn wsX2_fill wsX1_fillPart := goodIn_r _ [78, 61, 58, 62, 30, 63, 79, 80, 81, 56, 82, 86, 87, 88, 89] (by decide +kernel) (by decide +kernel)
set_option maxRecDepth 20000 in
theorem gX2_fill_X1_fillPart_u54X1 : GoodIn wsX2_fill (va_wsU RX2 54 RX1 "RepeatNests$Parts" ⟨"RepeatNests$Parts", "fillPart", "(III)V"⟩ yX1_fillPart wsX1_fillPart) := goodIn_app (goodIn_of _ (by decide +kernel)) ggX2_fill_X1_fillPart
set_option maxRecDepth 20000 in
theorem ggX2_fill_X3_fillPart : GoodIn wsX2_fill wsX3_fillPart := goodIn_r _ [85, 69, 72, 68, 62, 30, 63, 90, 91, 92, 93] (by decide +kernel) (by decide +kernel)
set_option maxRecDepth 20000 in
theorem gX2_fill_X3_fillPart_u54X3 : GoodIn wsX2_fill (va_wsU RX2 54 RX3 "RepeatNests$Parts" ⟨"RepeatNests$Parts", "fillPart", "(III)V"⟩ yX3_fillPart wsX3_fillPart) := goodIn_app (goodIn_of _ (by decide +kernel)) ggX2_fill_X3_fillPart
theorem dX2_fill_0 : decode cX2_fill 0 = .ok (.aload_n 0, 1) := by decide +kernel
theorem dX2_fill_1 : decode cX2_fill 1 = .ok (.getfield 12, 3) := by decide +kernel
theorem dX2_fill_4 : decode cX2_fill 4 = .ok (.aload_n 1, 1) := by decide +kernel
theorem dX2_fill_5 : decode cX2_fill 5 = .ok (.invokevirtual 32, 3) := by decide +kernel
theorem dX2_fill_8 : decode cX2_fill 8 = .ok (.aload_n 1, 1) := by decide +kernel
theorem dX2_fill_9 : decode cX2_fill 9 = .ok (.iconst 4, 1) := by decide +kernel
theorem dX2_fill_10 : decode cX2_fill 10 = .ok (.invokevirtual 36, 3) := by decide +kernel
theorem dX2_fill_13 : decode cX2_fill 13 = .ok (.iconst 4, 1) := by decide +kernel
theorem dX2_fill_14 : decode cX2_fill 14 = .ok (.invokestatic 40, 3) := by decide +kernel
theorem dX2_fill_17 : decode cX2_fill 17 = .ok (.istore 4, 2) := by decide +kernel
theorem dX2_fill_19 : decode cX2_fill 19 = .ok (.iload_n 2, 1) := by decide +kernel
theorem dX2_fill_20 : decode cX2_fill 20 = .ok (.istore 5, 2) := by decide +kernel
theorem dX2_fill_22 : decode cX2_fill 22 = .ok (.iload 5, 2) := by decide +kernel
theorem dX2_fill_24 : decode cX2_fill 24 = .ok (.ifCond .lt 122, 3) := by decide +kernel
theorem dX2_fill_27 : decode cX2_fill 27 = .ok (.aload_n 0, 1) := by decide +kernel
theorem dX2_fill_28 : decode cX2_fill 28 = .ok (.getfield 12, 3) := by decide +kernel
theorem dX2_fill_31 : decode cX2_fill 31 = .ok (.iload 5, 2) := by decide +kernel
theorem dX2_fill_33 : decode cX2_fill 33 = .ok (.invokevirtual 46, 3) := by decide +kernel
theorem dX2_fill_36 : decode cX2_fill 36 = .ok (.iconst 0, 1) := by decide +kernel
theorem dX2_fill_37 : decode cX2_fill 37 = .ok (.istore 6, 2) := by decide +kernel
theorem dX2_fill_39 : decode cX2_fill 39 = .ok (.iload 6, 2) := by decide +kernel
theorem dX2_fill_41 : decode cX2_fill 41 = .ok (.iload 4, 2) := by decide +kernel
theorem dX2_fill_43 : decode cX2_fill 43 = .ok (.if_icmp .gt 97, 3) := by decide +kernel
theorem dX2_fill_46 : decode cX2_fill 46 = .ok (.aload_n 1, 1) := by decide +kernel
theorem dX2_fill_47 : decode cX2_fill 47 = .ok (.getfield 22, 3) := by decide +kernel
theorem dX2_fill_50 : decode cX2_fill 50 = .ok (.iload 4, 2) := by decide +kernel
theorem dX2_fill_52 : decode cX2_fill 52 = .ok (.iload 6, 2) := by decide +kernel
theorem dX2_fill_54 : decode cX2_fill 54 = .ok (.isub, 1) := by decide +kernel
theorem dX2_fill_55 : decode cX2_fill 55 = .ok (.ishr, 1) := by decide +kernel
theorem dX2_fill_56 : decode cX2_fill 56 = .ok (.istore 7, 2) := by decide +kernel
theorem dX2_fill_58 : decode cX2_fill 58 = .ok (.aload_n 1, 1) := by decide +kernel
theorem dX2_fill_59 : decode cX2_fill 59 = .ok (.getfield 22, 3) := by decide +kernel
theorem dX2_fill_62 : decode cX2_fill 62 = .ok (.iload 5, 2) := by decide +kernel
theorem dX2_fill_64 : decode cX2_fill 64 = .ok (.iload 7, 2) := by decide +kernel
theorem dX2_fill_66 : decode cX2_fill 66 = .ok (.iadd, 1) := by decide +kernel
theorem dX2_fill_67 : decode cX2_fill 67 = .ok (.invokestatic 40, 3) := by decide +kernel
theorem dX2_fill_70 : decode cX2_fill 70 = .ok (.istore 8, 2) := by decide +kernel
theorem dX2_fill_72 : decode cX2_fill 72 = .ok (.iload_n 3, 1) := by decide +kernel
theorem dX2_fill_73 : decode cX2_fill 73 = .ok (.ifCond .eq 17, 3) := by decide +kernel
theorem dX2_fill_76 : decode cX2_fill 76 = .ok (.iload 6, 2) := by decide +kernel
theorem dX2_fill_78 : decode cX2_fill 78 = .ok (.iload 4, 2) := by decide +kernel
theorem dX2_fill_80 : decode cX2_fill 80 = .ok (.if_icmp .ne 10, 3) := by decide +kernel
theorem dX2_fill_83 : decode cX2_fill 83 = .ok (.aload_n 1, 1) := by decide +kernel
theorem dX2_fill_84 : decode cX2_fill 84 = .ok (.getfield 22, 3) := by decide +kernel
theorem dX2_fill_87 : decode cX2_fill 87 = .ok (.goto 7, 3) := by decide +kernel
theorem dX2_fill_90 : decode cX2_fill 90 = .ok (.iload 5, 2) := by decide +kernel
theorem dX2_fill_92 : decode cX2_fill 92 = .ok (.iconst 1, 1) := by decide +kernel
theorem dX2_fill_93 : decode cX2_fill 93 = .ok (.iadd, 1) := by decide +kernel
theorem dX2_fill_94 : decode cX2_fill 94 = .ok (.istore 9, 2) := by decide +kernel
theorem dX2_fill_96 : decode cX2_fill 96 = .ok (.aload_n 0, 1) := by decide +kernel
theorem dX2_fill_97 : decode cX2_fill 97 = .ok (.aload_n 1, 1) := by decide +kernel
theorem dX2_fill_98 : decode cX2_fill 98 = .ok (.iload 6, 2) := by decide +kernel
theorem dX2_fill_100 : decode cX2_fill 100 = .ok (.iload 5, 2) := by decide +kernel
theorem dX2_fill_102 : decode cX2_fill 102 = .ok (.iload 8, 2) := by decide +kernel
theorem dX2_fill_104 : decode cX2_fill 104 = .ok (.invokevirtual 50, 3) := by decide +kernel
theorem dX2_fill_107 : decode cX2_fill 107 = .ok (.iload 9, 2) := by decide +kernel
theorem dX2_fill_109 : decode cX2_fill 109 = .ok (.istore 10, 2) := by decide +kernel
theorem dX2_fill_111 : decode cX2_fill 111 = .ok (.iload 10, 2) := by decide +kernel
theorem dX2_fill_113 : decode cX2_fill 113 = .ok (.iload 8, 2) := by decide +kernel
theorem dX2_fill_115 : decode cX2_fill 115 = .ok (.if_icmp .gt 19, 3) := by decide +kernel
theorem dX2_fill_118 : decode cX2_fill 118 = .ok (.aload_n 0, 1) := by decide +kernel
theorem dX2_fill_119 : decode cX2_fill 119 = .ok (.iload 6, 2) := by decide +kernel
theorem dX2_fill_121 : decode cX2_fill 121 = .ok (.iload 5, 2) := by decide +kernel
theorem dX2_fill_123 : decode cX2_fill 123 = .ok (.iload 10, 2) := by decide +kernel
theorem dX2_fill_125 : decode cX2_fill 125 = .ok (.invokevirtual 54, 3) := by decide +kernel
theorem dX2_fill_128 : decode cX2_fill 128 = .ok (.iinc 10 1, 3) := by decide +kernel
theorem dX2_fill_131 : decode cX2_fill 131 = .ok (.goto (-20), 3) := by decide +kernel
theorem dX2_fill_134 : decode cX2_fill 134 = .ok (.iinc 6 1, 3) := by decide +kernel
theorem dX2_fill_137 : decode cX2_fill 137 = .ok (.goto (-98), 3) := by decide +kernel
theorem dX2_fill_140 : decode cX2_fill 140 = .ok (.iinc 5 (-1), 3) := by decide +kernel
theorem dX2_fill_143 : decode cX2_fill 143 = .ok (.goto (-121), 3) := by decide +kernel
theorem dX2_fill_146 : decode cX2_fill 146 = .ok (.return_, 1) := by decide +kernel
set_option maxRecDepth 20000 in
theorem ggX3_init_X2_init : GoodIn wsX3_init wsX2_init := goodIn_r _ [6, 7, 8, 9, 10, 11, 12, 13, 14, 15, 16, 17, 1, 18, 19, 20, 21, 22, 23, 24, 25, 26, 27, 32, 33, 34, 35, 36, 37, 38, 39, 40, 41, 42, 43, 44, 45, 28, 29, 30, 31] (by decide +kernel) (by decide +kernel)
set_option maxRecDepth 20000 in
theorem gX3_init_X2_init_n3 : GoodIn wsX3_init (wsX2_init) := ggX3_init_X2_init
theorem dX3_init_0 : decode cX3_init 0 = .ok (.aload_n 0, 1) := by decide +kernel
theorem dX3_init_1 : decode cX3_init 1 = .ok (.invokespecial 3, 3) := by decide +kernel
theorem dX3_init_4 : decode cX3_init 4 = .ok (.aload_n 0, 1) := by decide +kernel
theorem dX3_init_5 : decode cX3_init 5 = .ok (.sipush 1625, 3) := by decide +kernel
theorem dX3_init_8 : decode cX3_init 8 = .ok (.newarray .int, 2) := by decide +kernel
theorem dX3_init_10 : decode cX3_init 10 = .ok (.putfield 9, 3) := by decide +kernel
theorem dX3_init_13 : decode cX3_init 13 = .ok (.aload_n 0, 1) := by decide +kernel
theorem dX3_init_14 : decode cX3_init 14 = .ok (.bipush 25, 2) := by decide +kernel
theorem dX3_init_16 : decode cX3_init 16 = .ok (.newarray .int, 2) := by decide +kernel
theorem dX3_init_18 : decode cX3_init 18 = .ok (.putfield 15, 3) := by decide +kernel
theorem dX3_init_21 : decode cX3_init 21 = .ok (.return_, 1) := by decide +kernel
set_option maxRecDepth 20000 in
theorem ggX3_price_X10_partIndex : GoodIn wsX3_price wsX10_partIndex := goodIn_r _ [4] (by decide +kernel) (by decide +kernel)
set_option maxRecDepth 20000 in
theorem gX3_price_X10_partIndex_n18 : GoodIn wsX3_price (wsX10_partIndex) := ggX3_price_X10_partIndex
theorem dX3_price_0 : decode cX3_price 0 = .ok (.iload_n 1, 1) := by decide +kernel
theorem dX3_price_1 : decode cX3_price 1 = .ok (.iload_n 2, 1) := by decide +kernel
theorem dX3_price_2 : decode cX3_price 2 = .ok (.iload_n 3, 1) := by decide +kernel
theorem dX3_price_3 : decode cX3_price 3 = .ok (.invokestatic 18, 3) := by decide +kernel
theorem dX3_price_6 : decode cX3_price 6 = .ok (.istore 4, 2) := by decide +kernel
theorem dX3_price_8 : decode cX3_price 8 = .ok (.iload 4, 2) := by decide +kernel
theorem dX3_price_10 : decode cX3_price 10 = .ok (.ifCond .lt 23, 3) := by decide +kernel
theorem dX3_price_13 : decode cX3_price 13 = .ok (.iload 4, 2) := by decide +kernel
theorem dX3_price_15 : decode cX3_price 15 = .ok (.aload_n 0, 1) := by decide +kernel
theorem dX3_price_16 : decode cX3_price 16 = .ok (.getfield 9, 3) := by decide +kernel
theorem dX3_price_19 : decode cX3_price 19 = .ok (.arraylength, 1) := by decide +kernel
theorem dX3_price_20 : decode cX3_price 20 = .ok (.if_icmp .ge 13, 3) := by decide +kernel
theorem dX3_price_23 : decode cX3_price 23 = .ok (.aload_n 0, 1) := by decide +kernel
theorem dX3_price_24 : decode cX3_price 24 = .ok (.getfield 9, 3) := by decide +kernel
theorem dX3_price_27 : decode cX3_price 27 = .ok (.iload 4, 2) := by decide +kernel
theorem dX3_price_29 : decode cX3_price 29 = .ok (.iaload, 1) := by decide +kernel
theorem dX3_price_30 : decode cX3_price 30 = .ok (.goto 4, 3) := by decide +kernel
theorem dX3_price_33 : decode cX3_price 33 = .ok (.iconst 0, 1) := by decide +kernel
theorem dX3_price_34 : decode cX3_price 34 = .ok (.ireturn, 1) := by decide +kernel
set_option maxRecDepth 20000 in
theorem ggX3_findItems_X7_setting : GoodIn wsX3_findItems wsX7_setting := goodIn_r _ [10, 11, 33, 34, 35] (by decide +kernel) (by decide +kernel)
set_option maxRecDepth 20000 in
theorem gX3_findItems_X7_setting : GoodIn wsX3_findItems (wsV RX3 22 RX7 yX7_setting wsX7_setting) := goodIn_app (goodIn_of _ (by decide +kernel)) ggX3_findItems_X7_setting
set_option maxRecDepth 20000 in
theorem ggX3_findItems_X10_partIndex : GoodIn wsX3_findItems wsX10_partIndex := goodIn_r _ [14] (by decide +kernel) (by decide +kernel)
set_option maxRecDepth 20000 in
theorem gX3_findItems_X10_partIndex_n18 : GoodIn wsX3_findItems (wsX10_partIndex) := ggX3_findItems_X10_partIndex
theorem dX3_findItems_0 : decode cX3_findItems 0 = .ok (.iload_n 3, 1) := by decide +kernel
theorem dX3_findItems_1 : decode cX3_findItems 1 = .ok (.iconst 1, 1) := by decide +kernel
theorem dX3_findItems_2 : decode cX3_findItems 2 = .ok (.iadd, 1) := by decide +kernel
theorem dX3_findItems_3 : decode cX3_findItems 3 = .ok (.istore 5, 2) := by decide +kernel
theorem dX3_findItems_5 : decode cX3_findItems 5 = .ok (.iload 5, 2) := by decide +kernel
theorem dX3_findItems_7 : decode cX3_findItems 7 = .ok (.ifCond .lt 48, 3) := by decide +kernel
theorem dX3_findItems_10 : decode cX3_findItems 10 = .ok (.iload 5, 2) := by decide +kernel
theorem dX3_findItems_12 : decode cX3_findItems 12 = .ok (.iload 4, 2) := by decide +kernel
theorem dX3_findItems_14 : decode cX3_findItems 14 = .ok (.if_icmp .gt 41, 3) := by decide +kernel
theorem dX3_findItems_17 : decode cX3_findItems 17 = .ok (.iload 5, 2) := by decide +kernel
theorem dX3_findItems_19 : decode cX3_findItems 19 = .ok (.bipush 25, 2) := by decide +kernel
theorem dX3_findItems_21 : decode cX3_findItems 21 = .ok (.if_icmp .ge 34, 3) := by decide +kernel
theorem dX3_findItems_24 : decode cX3_findItems 24 = .ok (.aload_n 0, 1) := by decide +kernel
theorem dX3_findItems_25 : decode cX3_findItems 25 = .ok (.getfield 15, 3) := by decide +kernel
theorem dX3_findItems_28 : decode cX3_findItems 28 = .ok (.iload 5, 2) := by decide +kernel
theorem dX3_findItems_30 : decode cX3_findItems 30 = .ok (.iload 5, 2) := by decide +kernel
theorem dX3_findItems_32 : decode cX3_findItems 32 = .ok (.iload_n 3, 1) := by decide +kernel
theorem dX3_findItems_33 : decode cX3_findItems 33 = .ok (.iconst 1, 1) := by decide +kernel
theorem dX3_findItems_34 : decode cX3_findItems 34 = .ok (.iadd, 1) := by decide +kernel
theorem dX3_findItems_35 : decode cX3_findItems 35 = .ok (.if_icmp .ne 11, 3) := by decide +kernel
theorem dX3_findItems_38 : decode cX3_findItems 38 = .ok (.aload_n 1, 1) := by decide +kernel
theorem dX3_findItems_39 : decode cX3_findItems 39 = .ok (.iconst 0, 1) := by decide +kernel
theorem dX3_findItems_40 : decode cX3_findItems 40 = .ok (.invokevirtual 22, 3) := by decide +kernel
theorem dX3_findItems_43 : decode cX3_findItems 43 = .ok (.goto 5, 3) := by decide +kernel
theorem dX3_findItems_46 : decode cX3_findItems 46 = .ok (.ldc 28, 2) := by decide +kernel
theorem dX3_findItems_48 : decode cX3_findItems 48 = .ok (.iastore, 1) := by decide +kernel
theorem dX3_findItems_49 : decode cX3_findItems 49 = .ok (.iinc 5 1, 3) := by decide +kernel
theorem dX3_findItems_52 : decode cX3_findItems 52 = .ok (.goto (-47), 3) := by decide +kernel
theorem dX3_findItems_55 : decode cX3_findItems 55 = .ok (.iconst 0, 1) := by decide +kernel
theorem dX3_findItems_56 : decode cX3_findItems 56 = .ok (.istore 5, 2) := by decide +kernel
theorem dX3_findItems_58 : decode cX3_findItems 58 = .ok (.iload_n 2, 1) := by decide +kernel
theorem dX3_findItems_59 : decode cX3_findItems 59 = .ok (.ifCond .le 136, 3) := by decide +kernel
theorem dX3_findItems_62 : decode cX3_findItems 62 = .ok (.iload 5, 2) := by decide +kernel
theorem dX3_findItems_64 : decode cX3_findItems 64 = .ok (.aload_n 0, 1) := by decide +kernel
theorem dX3_findItems_65 : decode cX3_findItems 65 = .ok (.getfield 29, 3) := by decide +kernel
theorem dX3_findItems_68 : decode cX3_findItems 68 = .ok (.getfield 33, 3) := by decide +kernel
theorem dX3_findItems_71 : decode cX3_findItems 71 = .ok (.if_icmp .ge 124, 3) := by decide +kernel
theorem dX3_findItems_74 : decode cX3_findItems 74 = .ok (.iload 5, 2) := by decide +kernel
theorem dX3_findItems_76 : decode cX3_findItems 76 = .ok (.bipush 60, 2) := by decide +kernel
theorem dX3_findItems_78 : decode cX3_findItems 78 = .ok (.if_icmp .ge 117, 3) := by decide +kernel
theorem dX3_findItems_81 : decode cX3_findItems 81 = .ok (.aload_n 0, 1) := by decide +kernel
theorem dX3_findItems_82 : decode cX3_findItems 82 = .ok (.getfield 29, 3) := by decide +kernel
theorem dX3_findItems_85 : decode cX3_findItems 85 = .ok (.getfield 39, 3) := by decide +kernel
theorem dX3_findItems_88 : decode cX3_findItems 88 = .ok (.iload 5, 2) := by decide +kernel
theorem dX3_findItems_90 : decode cX3_findItems 90 = .ok (.iaload, 1) := by decide +kernel
theorem dX3_findItems_91 : decode cX3_findItems 91 = .ok (.istore 6, 2) := by decide +kernel
theorem dX3_findItems_93 : decode cX3_findItems 93 = .ok (.iload_n 2, 1) := by decide +kernel
theorem dX3_findItems_94 : decode cX3_findItems 94 = .ok (.iconst 1, 1) := by decide +kernel
theorem dX3_findItems_95 : decode cX3_findItems 95 = .ok (.isub, 1) := by decide +kernel
theorem dX3_findItems_96 : decode cX3_findItems 96 = .ok (.iload_n 3, 1) := by decide +kernel
theorem dX3_findItems_97 : decode cX3_findItems 97 = .ok (.iload_n 3, 1) := by decide +kernel
theorem dX3_findItems_98 : decode cX3_findItems 98 = .ok (.aload_n 0, 1) := by decide +kernel
theorem dX3_findItems_99 : decode cX3_findItems 99 = .ok (.getfield 29, 3) := by decide +kernel
theorem dX3_findItems_102 : decode cX3_findItems 102 = .ok (.getfield 42, 3) := by decide +kernel
theorem dX3_findItems_105 : decode cX3_findItems 105 = .ok (.iload 5, 2) := by decide +kernel
theorem dX3_findItems_107 : decode cX3_findItems 107 = .ok (.iaload, 1) := by decide +kernel
theorem dX3_findItems_108 : decode cX3_findItems 108 = .ok (.iadd, 1) := by decide +kernel
theorem dX3_findItems_109 : decode cX3_findItems 109 = .ok (.invokestatic 18, 3) := by decide +kernel
theorem dX3_findItems_112 : decode cX3_findItems 112 = .ok (.istore 7, 2) := by decide +kernel
theorem dX3_findItems_114 : decode cX3_findItems 114 = .ok (.iload 6, 2) := by decide +kernel
theorem dX3_findItems_116 : decode cX3_findItems 116 = .ok (.ifCond .lt 73, 3) := by decide +kernel
theorem dX3_findItems_119 : decode cX3_findItems 119 = .ok (.iload 6, 2) := by decide +kernel
theorem dX3_findItems_121 : decode cX3_findItems 121 = .ok (.iload 4, 2) := by decide +kernel
theorem dX3_findItems_123 : decode cX3_findItems 123 = .ok (.if_icmp .gt 66, 3) := by decide +kernel
theorem dX3_findItems_126 : decode cX3_findItems 126 = .ok (.iload 6, 2) := by decide +kernel
theorem dX3_findItems_128 : decode cX3_findItems 128 = .ok (.bipush 25, 2) := by decide +kernel
theorem dX3_findItems_130 : decode cX3_findItems 130 = .ok (.if_icmp .ge 59, 3) := by decide +kernel
theorem dX3_findItems_133 : decode cX3_findItems 133 = .ok (.iload 7, 2) := by decide +kernel
theorem dX3_findItems_135 : decode cX3_findItems 135 = .ok (.ifCond .lt 54, 3) := by decide +kernel
theorem dX3_findItems_138 : decode cX3_findItems 138 = .ok (.iload 7, 2) := by decide +kernel
theorem dX3_findItems_140 : decode cX3_findItems 140 = .ok (.aload_n 0, 1) := by decide +kernel
theorem dX3_findItems_141 : decode cX3_findItems 141 = .ok (.getfield 9, 3) := by decide +kernel
theorem dX3_findItems_144 : decode cX3_findItems 144 = .ok (.arraylength, 1) := by decide +kernel
theorem dX3_findItems_145 : decode cX3_findItems 145 = .ok (.if_icmp .ge 44, 3) := by decide +kernel
theorem dX3_findItems_148 : decode cX3_findItems 148 = .ok (.aload_n 0, 1) := by decide +kernel
theorem dX3_findItems_149 : decode cX3_findItems 149 = .ok (.getfield 29, 3) := by decide +kernel
theorem dX3_findItems_152 : decode cX3_findItems 152 = .ok (.getfield 45, 3) := by decide +kernel
theorem dX3_findItems_155 : decode cX3_findItems 155 = .ok (.iload 5, 2) := by decide +kernel
theorem dX3_findItems_157 : decode cX3_findItems 157 = .ok (.iaload, 1) := by decide +kernel
theorem dX3_findItems_158 : decode cX3_findItems 158 = .ok (.aload_n 0, 1) := by decide +kernel
theorem dX3_findItems_159 : decode cX3_findItems 159 = .ok (.getfield 9, 3) := by decide +kernel
theorem dX3_findItems_162 : decode cX3_findItems 162 = .ok (.iload 7, 2) := by decide +kernel
theorem dX3_findItems_164 : decode cX3_findItems 164 = .ok (.iaload, 1) := by decide +kernel
theorem dX3_findItems_165 : decode cX3_findItems 165 = .ok (.iadd, 1) := by decide +kernel
theorem dX3_findItems_166 : decode cX3_findItems 166 = .ok (.istore 8, 2) := by decide +kernel
theorem dX3_findItems_168 : decode cX3_findItems 168 = .ok (.iload 8, 2) := by decide +kernel
theorem dX3_findItems_170 : decode cX3_findItems 170 = .ok (.aload_n 0, 1) := by decide +kernel
theorem dX3_findItems_171 : decode cX3_findItems 171 = .ok (.getfield 15, 3) := by decide +kernel
theorem dX3_findItems_174 : decode cX3_findItems 174 = .ok (.iload 6, 2) := by decide +kernel
theorem dX3_findItems_176 : decode cX3_findItems 176 = .ok (.iaload, 1) := by decide +kernel
theorem dX3_findItems_177 : decode cX3_findItems 177 = .ok (.if_icmp .ge 12, 3) := by decide +kernel
theorem dX3_findItems_180 : decode cX3_findItems 180 = .ok (.aload_n 0, 1) := by decide +kernel
theorem dX3_findItems_181 : decode cX3_findItems 181 = .ok (.getfield 15, 3) := by decide +kernel
theorem dX3_findItems_184 : decode cX3_findItems 184 = .ok (.iload 6, 2) := by decide +kernel
theorem dX3_findItems_186 : decode cX3_findItems 186 = .ok (.iload 8, 2) := by decide +kernel
theorem dX3_findItems_188 : decode cX3_findItems 188 = .ok (.iastore, 1) := by decide +kernel
theorem dX3_findItems_189 : decode cX3_findItems 189 = .ok (.iinc 5 1, 3) := by decide +kernel
theorem dX3_findItems_192 : decode cX3_findItems 192 = .ok (.goto (-134), 3) := by decide +kernel
theorem dX3_findItems_195 : decode cX3_findItems 195 = .ok (.return_, 1) := by decide +kernel
set_option maxRecDepth 20000 in
theorem ggX3_fillPart_X10_partIndex : GoodIn wsX3_fillPart wsX10_partIndex := goodIn_r _ [6] (by decide +kernel) (by decide +kernel)
set_option maxRecDepth 20000 in
theorem gX3_fillPart_X10_partIndex_n18 : GoodIn wsX3_fillPart (wsX10_partIndex) := ggX3_fillPart_X10_partIndex
theorem dX3_fillPart_0 : decode cX3_fillPart 0 = .ok (.ldc 28, 2) := by decide +kernel
theorem dX3_fillPart_2 : decode cX3_fillPart 2 = .ok (.istore 4, 2) := by decide +kernel
theorem dX3_fillPart_4 : decode cX3_fillPart 4 = .ok (.iload_n 1, 1) := by decide +kernel
theorem dX3_fillPart_5 : decode cX3_fillPart 5 = .ok (.iload_n 2, 1) := by decide +kernel
theorem dX3_fillPart_6 : decode cX3_fillPart 6 = .ok (.iconst 1, 1) := by decide +kernel
theorem dX3_fillPart_7 : decode cX3_fillPart 7 = .ok (.iadd, 1) := by decide +kernel
theorem dX3_fillPart_8 : decode cX3_fillPart 8 = .ok (.iload_n 3, 1) := by decide +kernel
theorem dX3_fillPart_9 : decode cX3_fillPart 9 = .ok (.invokestatic 18, 3) := by decide +kernel
theorem dX3_fillPart_12 : decode cX3_fillPart 12 = .ok (.istore 5, 2) := by decide +kernel
theorem dX3_fillPart_14 : decode cX3_fillPart 14 = .ok (.iload_n 2, 1) := by decide +kernel
theorem dX3_fillPart_15 : decode cX3_fillPart 15 = .ok (.iconst 1, 1) := by decide +kernel
theorem dX3_fillPart_16 : decode cX3_fillPart 16 = .ok (.iadd, 1) := by decide +kernel
theorem dX3_fillPart_17 : decode cX3_fillPart 17 = .ok (.istore 6, 2) := by decide +kernel
theorem dX3_fillPart_19 : decode cX3_fillPart 19 = .ok (.iload 6, 2) := by decide +kernel
theorem dX3_fillPart_21 : decode cX3_fillPart 21 = .ok (.ifCond .lt 68, 3) := by decide +kernel
theorem dX3_fillPart_24 : decode cX3_fillPart 24 = .ok (.iload 6, 2) := by decide +kernel
theorem dX3_fillPart_26 : decode cX3_fillPart 26 = .ok (.iload_n 3, 1) := by decide +kernel
theorem dX3_fillPart_27 : decode cX3_fillPart 27 = .ok (.if_icmp .gt 62, 3) := by decide +kernel
theorem dX3_fillPart_30 : decode cX3_fillPart 30 = .ok (.iload 6, 2) := by decide +kernel
theorem dX3_fillPart_32 : decode cX3_fillPart 32 = .ok (.bipush 25, 2) := by decide +kernel
theorem dX3_fillPart_34 : decode cX3_fillPart 34 = .ok (.if_icmp .ge 55, 3) := by decide +kernel
theorem dX3_fillPart_37 : decode cX3_fillPart 37 = .ok (.iload 5, 2) := by decide +kernel
theorem dX3_fillPart_39 : decode cX3_fillPart 39 = .ok (.ifCond .lt 50, 3) := by decide +kernel
theorem dX3_fillPart_42 : decode cX3_fillPart 42 = .ok (.iload 5, 2) := by decide +kernel
theorem dX3_fillPart_44 : decode cX3_fillPart 44 = .ok (.aload_n 0, 1) := by decide +kernel
theorem dX3_fillPart_45 : decode cX3_fillPart 45 = .ok (.getfield 9, 3) := by decide +kernel
theorem dX3_fillPart_48 : decode cX3_fillPart 48 = .ok (.arraylength, 1) := by decide +kernel
theorem dX3_fillPart_49 : decode cX3_fillPart 49 = .ok (.if_icmp .ge 40, 3) := by decide +kernel
theorem dX3_fillPart_52 : decode cX3_fillPart 52 = .ok (.aload_n 0, 1) := by decide +kernel
theorem dX3_fillPart_53 : decode cX3_fillPart 53 = .ok (.getfield 15, 3) := by decide +kernel
theorem dX3_fillPart_56 : decode cX3_fillPart 56 = .ok (.iload 6, 2) := by decide +kernel
theorem dX3_fillPart_58 : decode cX3_fillPart 58 = .ok (.iaload, 1) := by decide +kernel
theorem dX3_fillPart_59 : decode cX3_fillPart 59 = .ok (.aload_n 0, 1) := by decide +kernel
theorem dX3_fillPart_60 : decode cX3_fillPart 60 = .ok (.getfield 9, 3) := by decide +kernel
theorem dX3_fillPart_63 : decode cX3_fillPart 63 = .ok (.iload 5, 2) := by decide +kernel
theorem dX3_fillPart_65 : decode cX3_fillPart 65 = .ok (.iaload, 1) := by decide +kernel
theorem dX3_fillPart_66 : decode cX3_fillPart 66 = .ok (.iadd, 1) := by decide +kernel
theorem dX3_fillPart_67 : decode cX3_fillPart 67 = .ok (.istore 7, 2) := by decide +kernel
theorem dX3_fillPart_69 : decode cX3_fillPart 69 = .ok (.iload 7, 2) := by decide +kernel
theorem dX3_fillPart_71 : decode cX3_fillPart 71 = .ok (.iload 4, 2) := by decide +kernel
theorem dX3_fillPart_73 : decode cX3_fillPart 73 = .ok (.if_icmp .ge 7, 3) := by decide +kernel
theorem dX3_fillPart_76 : decode cX3_fillPart 76 = .ok (.iload 7, 2) := by decide +kernel
theorem dX3_fillPart_78 : decode cX3_fillPart 78 = .ok (.istore 4, 2) := by decide +kernel
theorem dX3_fillPart_80 : decode cX3_fillPart 80 = .ok (.iinc 5 1, 3) := by decide +kernel
theorem dX3_fillPart_83 : decode cX3_fillPart 83 = .ok (.iinc 6 1, 3) := by decide +kernel
theorem dX3_fillPart_86 : decode cX3_fillPart 86 = .ok (.goto (-67), 3) := by decide +kernel
theorem dX3_fillPart_89 : decode cX3_fillPart 89 = .ok (.iload_n 1, 1) := by decide +kernel
theorem dX3_fillPart_90 : decode cX3_fillPart 90 = .ok (.iload_n 2, 1) := by decide +kernel
theorem dX3_fillPart_91 : decode cX3_fillPart 91 = .ok (.iload_n 3, 1) := by decide +kernel
theorem dX3_fillPart_92 : decode cX3_fillPart 92 = .ok (.invokestatic 18, 3) := by decide +kernel
theorem dX3_fillPart_95 : decode cX3_fillPart 95 = .ok (.istore 6, 2) := by decide +kernel
theorem dX3_fillPart_97 : decode cX3_fillPart 97 = .ok (.iload 6, 2) := by decide +kernel
theorem dX3_fillPart_99 : decode cX3_fillPart 99 = .ok (.ifCond .lt 22, 3) := by decide +kernel
theorem dX3_fillPart_102 : decode cX3_fillPart 102 = .ok (.iload 6, 2) := by decide +kernel
theorem dX3_fillPart_104 : decode cX3_fillPart 104 = .ok (.aload_n 0, 1) := by decide +kernel
theorem dX3_fillPart_105 : decode cX3_fillPart 105 = .ok (.getfield 9, 3) := by decide +kernel
theorem dX3_fillPart_108 : decode cX3_fillPart 108 = .ok (.arraylength, 1) := by decide +kernel
theorem dX3_fillPart_109 : decode cX3_fillPart 109 = .ok (.if_icmp .ge 12, 3) := by decide +kernel
theorem dX3_fillPart_112 : decode cX3_fillPart 112 = .ok (.aload_n 0, 1) := by decide +kernel
theorem dX3_fillPart_113 : decode cX3_fillPart 113 = .ok (.getfield 9, 3) := by decide +kernel
theorem dX3_fillPart_116 : decode cX3_fillPart 116 = .ok (.iload 6, 2) := by decide +kernel
theorem dX3_fillPart_118 : decode cX3_fillPart 118 = .ok (.iload 4, 2) := by decide +kernel
theorem dX3_fillPart_120 : decode cX3_fillPart 120 = .ok (.iastore, 1) := by decide +kernel
theorem dX3_fillPart_121 : decode cX3_fillPart 121 = .ok (.return_, 1) := by decide +kernel
set_option maxRecDepth 20000 in
theorem ggX3_rowPrice_X7_setting : GoodIn wsX3_rowPrice wsX7_setting := goodIn_r _ [5, 6, 16, 17, 18] (by decide +kernel) (by decide +kernel)
set_option maxRecDepth 20000 in
theorem gX3_rowPrice_X7_setting : GoodIn wsX3_rowPrice (wsV RX3 22 RX7 yX7_setting wsX7_setting) := goodIn_app (goodIn_of _ (by decide +kernel)) ggX3_rowPrice_X7_setting
set_option maxRecDepth 20000 in
theorem ggX3_rowPrice_X3_price : GoodIn wsX3_rowPrice wsX3_price := goodIn_r _ [11, 12, 13, 14, 15, 19, 20, 21, 22] (by decide +kernel) (by decide +kernel)
set_option maxRecDepth 20000 in
theorem gX3_rowPrice_X3_price : GoodIn wsX3_rowPrice (wsV RX3 51 RX3 yX3_price wsX3_price) := goodIn_app (goodIn_of _ (by decide +kernel)) ggX3_rowPrice_X3_price
theorem dX3_rowPrice_0 : decode cX3_rowPrice 0 = .ok (.aload_n 0, 1) := by decide +kernel
theorem dX3_rowPrice_1 : decode cX3_rowPrice 1 = .ok (.aload_n 1, 1) := by decide +kernel
theorem dX3_rowPrice_2 : decode cX3_rowPrice 2 = .ok (.iconst 4, 1) := by decide +kernel
theorem dX3_rowPrice_3 : decode cX3_rowPrice 3 = .ok (.invokevirtual 22, 3) := by decide +kernel
theorem dX3_rowPrice_6 : decode cX3_rowPrice 6 = .ok (.iconst 0, 1) := by decide +kernel
theorem dX3_rowPrice_7 : decode cX3_rowPrice 7 = .ok (.aload_n 1, 1) := by decide +kernel
theorem dX3_rowPrice_8 : decode cX3_rowPrice 8 = .ok (.getfield 48, 3) := by decide +kernel
theorem dX3_rowPrice_11 : decode cX3_rowPrice 11 = .ok (.invokevirtual 51, 3) := by decide +kernel
theorem dX3_rowPrice_14 : decode cX3_rowPrice 14 = .ok (.ireturn, 1) := by decide +kernel
theorem dX4_init_0 : decode cX4_init 0 = .ok (.aload_n 0, 1) := by decide +kernel
theorem dX4_init_1 : decode cX4_init 1 = .ok (.invokespecial 3, 3) := by decide +kernel
theorem dX4_init_4 : decode cX4_init 4 = .ok (.aload_n 0, 1) := by decide +kernel
theorem dX4_init_5 : decode cX4_init 5 = .ok (.bipush 60, 2) := by decide +kernel
theorem dX4_init_7 : decode cX4_init 7 = .ok (.newarray .int, 2) := by decide +kernel
theorem dX4_init_9 : decode cX4_init 9 = .ok (.putfield 9, 3) := by decide +kernel
theorem dX4_init_12 : decode cX4_init 12 = .ok (.aload_n 0, 1) := by decide +kernel
theorem dX4_init_13 : decode cX4_init 13 = .ok (.sipush 744, 3) := by decide +kernel
theorem dX4_init_16 : decode cX4_init 16 = .ok (.newarray .int, 2) := by decide +kernel
theorem dX4_init_18 : decode cX4_init 18 = .ok (.putfield 15, 3) := by decide +kernel
theorem dX4_init_21 : decode cX4_init 21 = .ok (.aload_n 0, 1) := by decide +kernel
theorem dX4_init_22 : decode cX4_init 22 = .ok (.iconst 0, 1) := by decide +kernel
theorem dX4_init_23 : decode cX4_init 23 = .ok (.putfield 18, 3) := by decide +kernel
theorem dX4_init_26 : decode cX4_init 26 = .ok (.aload_n 0, 1) := by decide +kernel
theorem dX4_init_27 : decode cX4_init 27 = .ok (.iconst 0, 1) := by decide +kernel
theorem dX4_init_28 : decode cX4_init 28 = .ok (.putfield 22, 3) := by decide +kernel
theorem dX4_init_31 : decode cX4_init 31 = .ok (.aload_n 0, 1) := by decide +kernel
theorem dX4_init_32 : decode cX4_init 32 = .ok (.iconst 0, 1) := by decide +kernel
theorem dX4_init_33 : decode cX4_init 33 = .ok (.putfield 25, 3) := by decide +kernel
theorem dX4_init_36 : decode cX4_init 36 = .ok (.aload_n 0, 1) := by decide +kernel
theorem dX4_init_37 : decode cX4_init 37 = .ok (.iconst 0, 1) := by decide +kernel
theorem dX4_init_38 : decode cX4_init 38 = .ok (.putfield 28, 3) := by decide +kernel
theorem dX4_init_41 : decode cX4_init 41 = .ok (.aload_n 0, 1) := by decide +kernel
theorem dX4_init_42 : decode cX4_init 42 = .ok (.iconst 0, 1) := by decide +kernel
theorem dX4_init_43 : decode cX4_init 43 = .ok (.putfield 31, 3) := by decide +kernel
theorem dX4_init_46 : decode cX4_init 46 = .ok (.aload_n 0, 1) := by decide +kernel
theorem dX4_init_47 : decode cX4_init 47 = .ok (.iconst 0, 1) := by decide +kernel
theorem dX4_init_48 : decode cX4_init 48 = .ok (.putfield 34, 3) := by decide +kernel
theorem dX4_init_51 : decode cX4_init 51 = .ok (.aload_n 0, 1) := by decide +kernel
theorem dX4_init_52 : decode cX4_init 52 = .ok (.iconst 0, 1) := by decide +kernel
theorem dX4_init_53 : decode cX4_init 53 = .ok (.putfield 37, 3) := by decide +kernel
theorem dX4_init_56 : decode cX4_init 56 = .ok (.aload_n 0, 1) := by decide +kernel
theorem dX4_init_57 : decode cX4_init 57 = .ok (.iconst 0, 1) := by decide +kernel
theorem dX4_init_58 : decode cX4_init 58 = .ok (.putfield 40, 3) := by decide +kernel
theorem dX4_init_61 : decode cX4_init 61 = .ok (.aload_n 0, 1) := by decide +kernel
theorem dX4_init_62 : decode cX4_init 62 = .ok (.iconst 0, 1) := by decide +kernel
theorem dX4_init_63 : decode cX4_init 63 = .ok (.putfield 43, 3) := by decide +kernel
theorem dX4_init_66 : decode cX4_init 66 = .ok (.aload_n 0, 1) := by decide +kernel
theorem dX4_init_67 : decode cX4_init 67 = .ok (.iconst 0, 1) := by decide +kernel
theorem dX4_init_68 : decode cX4_init 68 = .ok (.putfield 46, 3) := by decide +kernel
theorem dX4_init_71 : decode cX4_init 71 = .ok (.aload_n 0, 1) := by decide +kernel
theorem dX4_init_72 : decode cX4_init 72 = .ok (.iconst 0, 1) := by decide +kernel
theorem dX4_init_73 : decode cX4_init 73 = .ok (.putfield 49, 3) := by decide +kernel
theorem dX4_init_76 : decode cX4_init 76 = .ok (.return_, 1) := by decide +kernel
theorem dX4_add_0 : decode cX4_add 0 = .ok (.aload_n 0, 1) := by decide +kernel
theorem dX4_add_1 : decode cX4_add 1 = .ok (.getfield 18, 3) := by decide +kernel
theorem dX4_add_4 : decode cX4_add 4 = .ok (.ifCond .lt 32, 3) := by decide +kernel
theorem dX4_add_7 : decode cX4_add 7 = .ok (.aload_n 0, 1) := by decide +kernel
theorem dX4_add_8 : decode cX4_add 8 = .ok (.getfield 18, 3) := by decide +kernel
theorem dX4_add_11 : decode cX4_add 11 = .ok (.bipush 60, 2) := by decide +kernel
theorem dX4_add_13 : decode cX4_add 13 = .ok (.if_icmp .ge 23, 3) := by decide +kernel
theorem dX4_add_16 : decode cX4_add 16 = .ok (.aload_n 0, 1) := by decide +kernel
theorem dX4_add_17 : decode cX4_add 17 = .ok (.getfield 9, 3) := by decide +kernel
theorem dX4_add_20 : decode cX4_add 20 = .ok (.aload_n 0, 1) := by decide +kernel
theorem dX4_add_21 : decode cX4_add 21 = .ok (.getfield 18, 3) := by decide +kernel
theorem dX4_add_24 : decode cX4_add 24 = .ok (.iload_n 1, 1) := by decide +kernel
theorem dX4_add_25 : decode cX4_add 25 = .ok (.iastore, 1) := by decide +kernel
theorem dX4_add_26 : decode cX4_add 26 = .ok (.aload_n 0, 1) := by decide +kernel
theorem dX4_add_27 : decode cX4_add 27 = .ok (.dup, 1) := by decide +kernel
theorem dX4_add_28 : decode cX4_add 28 = .ok (.getfield 18, 3) := by decide +kernel
theorem dX4_add_31 : decode cX4_add 31 = .ok (.iconst 1, 1) := by decide +kernel
theorem dX4_add_32 : decode cX4_add 32 = .ok (.iadd, 1) := by decide +kernel
theorem dX4_add_33 : decode cX4_add 33 = .ok (.putfield 18, 3) := by decide +kernel
theorem dX4_add_36 : decode cX4_add 36 = .ok (.aload_n 0, 1) := by decide +kernel
theorem dX4_add_37 : decode cX4_add 37 = .ok (.iconst 0, 1) := by decide +kernel
theorem dX4_add_38 : decode cX4_add 38 = .ok (.putfield 49, 3) := by decide +kernel
theorem dX4_add_41 : decode cX4_add 41 = .ok (.return_, 1) := by decide +kernel
theorem dX4_empty_0 : decode cX4_empty 0 = .ok (.aload_n 0, 1) := by decide +kernel
theorem dX4_empty_1 : decode cX4_empty 1 = .ok (.iconst 0, 1) := by decide +kernel
theorem dX4_empty_2 : decode cX4_empty 2 = .ok (.putfield 18, 3) := by decide +kernel
theorem dX4_empty_5 : decode cX4_empty 5 = .ok (.aload_n 0, 1) := by decide +kernel
theorem dX4_empty_6 : decode cX4_empty 6 = .ok (.iconst 0, 1) := by decide +kernel
theorem dX4_empty_7 : decode cX4_empty 7 = .ok (.putfield 49, 3) := by decide +kernel
theorem dX4_empty_10 : decode cX4_empty 10 = .ok (.return_, 1) := by decide +kernel
theorem dX4_hasFault_0 : decode cX4_hasFault 0 = .ok (.aload_n 0, 1) := by decide +kernel
theorem dX4_hasFault_1 : decode cX4_hasFault 1 = .ok (.getfield 31, 3) := by decide +kernel
theorem dX4_hasFault_4 : decode cX4_hasFault 4 = .ok (.ifCond .eq 7, 3) := by decide +kernel
theorem dX4_hasFault_7 : decode cX4_hasFault 7 = .ok (.iconst 1, 1) := by decide +kernel
theorem dX4_hasFault_8 : decode cX4_hasFault 8 = .ok (.goto 4, 3) := by decide +kernel
theorem dX4_hasFault_11 : decode cX4_hasFault 11 = .ok (.iconst 0, 1) := by decide +kernel
theorem dX4_hasFault_12 : decode cX4_hasFault 12 = .ok (.ireturn, 1) := by decide +kernel
theorem dX4_letter_0 : decode cX4_letter 0 = .ok (.iload_n 1, 1) := by decide +kernel
theorem dX4_letter_1 : decode cX4_letter 1 = .ok (.ifCond .lt 21, 3) := by decide +kernel
theorem dX4_letter_4 : decode cX4_letter 4 = .ok (.iload_n 1, 1) := by decide +kernel
theorem dX4_letter_5 : decode cX4_letter 5 = .ok (.aload_n 0, 1) := by decide +kernel
theorem dX4_letter_6 : decode cX4_letter 6 = .ok (.getfield 15, 3) := by decide +kernel
theorem dX4_letter_9 : decode cX4_letter 9 = .ok (.arraylength, 1) := by decide +kernel
theorem dX4_letter_10 : decode cX4_letter 10 = .ok (.if_icmp .ge 12, 3) := by decide +kernel
theorem dX4_letter_13 : decode cX4_letter 13 = .ok (.aload_n 0, 1) := by decide +kernel
theorem dX4_letter_14 : decode cX4_letter 14 = .ok (.getfield 15, 3) := by decide +kernel
theorem dX4_letter_17 : decode cX4_letter 17 = .ok (.iload_n 1, 1) := by decide +kernel
theorem dX4_letter_18 : decode cX4_letter 18 = .ok (.iaload, 1) := by decide +kernel
theorem dX4_letter_19 : decode cX4_letter 19 = .ok (.goto 4, 3) := by decide +kernel
theorem dX4_letter_22 : decode cX4_letter 22 = .ok (.iconst (-1), 1) := by decide +kernel
theorem dX4_letter_23 : decode cX4_letter 23 = .ok (.ireturn, 1) := by decide +kernel
set_option maxRecDepth 20000 in
theorem ggX4_measure_X7_setting : GoodIn wsX4_measure wsX7_setting := goodIn_r _ [11, 12, 42, 43, 44] (by decide +kernel) (by decide +kernel)
set_option maxRecDepth 20000 in
theorem gX4_measure_X7_setting : GoodIn wsX4_measure (wsV RX4 53 RX7 yX7_setting wsX7_setting) := goodIn_app (goodIn_of _ (by decide +kernel)) ggX4_measure_X7_setting
set_option maxRecDepth 20000 in
theorem ggX4_measure_X4_describes : GoodIn wsX4_measure wsX4_describes := goodIn_r _ [17, 4, 18, 19, 20, 16, 21, 22, 23, 24, 25, 10, 26, 27, 28, 29, 30, 31, 32, 33, 34, 35, 36, 37, 38, 39, 40, 41, 42, 43, 44] (by decide +kernel) (by decide +kernel)
set_option maxRecDepth 20000 in
theorem gX4_measure_X4_describes : GoodIn wsX4_measure (wsV RX4 59 RX4 yX4_describes wsX4_describes) := goodIn_app (goodIn_of _ (by decide +kernel)) ggX4_measure_X4_describes
theorem dX4_measure_0 : decode cX4_measure 0 = .ok (.iload_n 1, 1) := by decide +kernel
theorem dX4_measure_1 : decode cX4_measure 1 = .ok (.tableswitch 88 0 4 #[35, 68, 73, 78, 83], 35) := by decide +kernel
theorem dX4_measure_36 : decode cX4_measure 36 = .ok (.aload_n 0, 1) := by decide +kernel
theorem dX4_measure_37 : decode cX4_measure 37 = .ok (.getfield 34, 3) := by decide +kernel
theorem dX4_measure_40 : decode cX4_measure 40 = .ok (.aload_n 2, 1) := by decide +kernel
theorem dX4_measure_41 : decode cX4_measure 41 = .ok (.iconst 0, 1) := by decide +kernel
theorem dX4_measure_42 : decode cX4_measure 42 = .ok (.invokevirtual 53, 3) := by decide +kernel
theorem dX4_measure_45 : decode cX4_measure 45 = .ok (.imul, 1) := by decide +kernel
theorem dX4_measure_46 : decode cX4_measure 46 = .ok (.aload_n 0, 1) := by decide +kernel
theorem dX4_measure_47 : decode cX4_measure 47 = .ok (.getfield 37, 3) := by decide +kernel
theorem dX4_measure_50 : decode cX4_measure 50 = .ok (.aload_n 2, 1) := by decide +kernel
theorem dX4_measure_51 : decode cX4_measure 51 = .ok (.iconst 1, 1) := by decide +kernel
theorem dX4_measure_52 : decode cX4_measure 52 = .ok (.invokevirtual 53, 3) := by decide +kernel
theorem dX4_measure_55 : decode cX4_measure 55 = .ok (.imul, 1) := by decide +kernel
theorem dX4_measure_56 : decode cX4_measure 56 = .ok (.iadd, 1) := by decide +kernel
theorem dX4_measure_57 : decode cX4_measure 57 = .ok (.aload_n 0, 1) := by decide +kernel
theorem dX4_measure_58 : decode cX4_measure 58 = .ok (.getfield 40, 3) := by decide +kernel
theorem dX4_measure_61 : decode cX4_measure 61 = .ok (.aload_n 2, 1) := by decide +kernel
theorem dX4_measure_62 : decode cX4_measure 62 = .ok (.iconst 2, 1) := by decide +kernel
theorem dX4_measure_63 : decode cX4_measure 63 = .ok (.invokevirtual 53, 3) := by decide +kernel
theorem dX4_measure_66 : decode cX4_measure 66 = .ok (.imul, 1) := by decide +kernel
theorem dX4_measure_67 : decode cX4_measure 67 = .ok (.iadd, 1) := by decide +kernel
theorem dX4_measure_68 : decode cX4_measure 68 = .ok (.ireturn, 1) := by decide +kernel
theorem dX4_measure_69 : decode cX4_measure 69 = .ok (.aload_n 0, 1) := by decide +kernel
theorem dX4_measure_70 : decode cX4_measure 70 = .ok (.getfield 25, 3) := by decide +kernel
theorem dX4_measure_73 : decode cX4_measure 73 = .ok (.ireturn, 1) := by decide +kernel
theorem dX4_measure_74 : decode cX4_measure 74 = .ok (.aload_n 0, 1) := by decide +kernel
theorem dX4_measure_75 : decode cX4_measure 75 = .ok (.getfield 46, 3) := by decide +kernel
theorem dX4_measure_78 : decode cX4_measure 78 = .ok (.ireturn, 1) := by decide +kernel
theorem dX4_measure_79 : decode cX4_measure 79 = .ok (.aload_n 0, 1) := by decide +kernel
theorem dX4_measure_80 : decode cX4_measure 80 = .ok (.getfield 40, 3) := by decide +kernel
theorem dX4_measure_83 : decode cX4_measure 83 = .ok (.ireturn, 1) := by decide +kernel
theorem dX4_measure_84 : decode cX4_measure 84 = .ok (.aload_n 0, 1) := by decide +kernel
theorem dX4_measure_85 : decode cX4_measure 85 = .ok (.getfield 43, 3) := by decide +kernel
theorem dX4_measure_88 : decode cX4_measure 88 = .ok (.ireturn, 1) := by decide +kernel
theorem dX4_measure_89 : decode cX4_measure 89 = .ok (.aload_n 0, 1) := by decide +kernel
theorem dX4_measure_90 : decode cX4_measure 90 = .ok (.aload_n 2, 1) := by decide +kernel
theorem dX4_measure_91 : decode cX4_measure 91 = .ok (.invokevirtual 59, 3) := by decide +kernel
theorem dX4_measure_94 : decode cX4_measure 94 = .ok (.ifCond .eq 7, 3) := by decide +kernel
theorem dX4_measure_97 : decode cX4_measure 97 = .ok (.iconst 1, 1) := by decide +kernel
theorem dX4_measure_98 : decode cX4_measure 98 = .ok (.goto 4, 3) := by decide +kernel
theorem dX4_measure_101 : decode cX4_measure 101 = .ok (.iconst 0, 1) := by decide +kernel
theorem dX4_measure_102 : decode cX4_measure 102 = .ok (.ireturn, 1) := by decide +kernel
set_option maxRecDepth 20000 in
theorem ggX4_describes_X4_letter : GoodIn wsX4_describes wsX4_letter := goodIn_r _ [6, 7, 15, 16, 17, 18, 19, 20, 21, 22, 23, 24, 25, 26, 27] (by decide +kernel) (by decide +kernel)
set_option maxRecDepth 20000 in
theorem gX4_describes_X4_letter : GoodIn wsX4_describes (wsV RX4 64 RX4 yX4_letter wsX4_letter) := goodIn_app (goodIn_of _ (by decide +kernel)) ggX4_describes_X4_letter
set_option maxRecDepth 20000 in
theorem ggX4_describes_X7_letter : GoodIn wsX4_describes wsX7_letter := goodIn_r _ [12, 13, 14, 28, 29, 30] (by decide +kernel) (by decide +kernel)
set_option maxRecDepth 20000 in
theorem gX4_describes_X7_letter : GoodIn wsX4_describes (wsV RX4 67 RX7 yX7_letter wsX7_letter) := goodIn_app (goodIn_of _ (by decide +kernel)) ggX4_describes_X7_letter
theorem dX4_describes_0 : decode cX4_describes 0 = .ok (.aload_n 0, 1) := by decide +kernel
theorem dX4_describes_1 : decode cX4_describes 1 = .ok (.getfield 25, 3) := by decide +kernel
theorem dX4_describes_4 : decode cX4_describes 4 = .ok (.aload_n 1, 1) := by decide +kernel
theorem dX4_describes_5 : decode cX4_describes 5 = .ok (.getfield 63, 3) := by decide +kernel
theorem dX4_describes_8 : decode cX4_describes 8 = .ok (.if_icmp .eq 5, 3) := by decide +kernel
theorem dX4_describes_11 : decode cX4_describes 11 = .ok (.iconst 0, 1) := by decide +kernel
theorem dX4_describes_12 : decode cX4_describes 12 = .ok (.ireturn, 1) := by decide +kernel
theorem dX4_describes_13 : decode cX4_describes 13 = .ok (.iconst 0, 1) := by decide +kernel
theorem dX4_describes_14 : decode cX4_describes 14 = .ok (.istore_n 2, 1) := by decide +kernel
theorem dX4_describes_15 : decode cX4_describes 15 = .ok (.iload_n 2, 1) := by decide +kernel
theorem dX4_describes_16 : decode cX4_describes 16 = .ok (.aload_n 0, 1) := by decide +kernel
theorem dX4_describes_17 : decode cX4_describes 17 = .ok (.getfield 25, 3) := by decide +kernel
theorem dX4_describes_20 : decode cX4_describes 20 = .ok (.if_icmp .ge 24, 3) := by decide +kernel
theorem dX4_describes_23 : decode cX4_describes 23 = .ok (.aload_n 0, 1) := by decide +kernel
theorem dX4_describes_24 : decode cX4_describes 24 = .ok (.iload_n 2, 1) := by decide +kernel
theorem dX4_describes_25 : decode cX4_describes 25 = .ok (.invokevirtual 64, 3) := by decide +kernel
theorem dX4_describes_28 : decode cX4_describes 28 = .ok (.aload_n 1, 1) := by decide +kernel
theorem dX4_describes_29 : decode cX4_describes 29 = .ok (.iload_n 2, 1) := by decide +kernel
theorem dX4_describes_30 : decode cX4_describes 30 = .ok (.invokevirtual 67, 3) := by decide +kernel
theorem dX4_describes_33 : decode cX4_describes 33 = .ok (.if_icmp .eq 5, 3) := by decide +kernel
theorem dX4_describes_36 : decode cX4_describes 36 = .ok (.iconst 0, 1) := by decide +kernel
theorem dX4_describes_37 : decode cX4_describes 37 = .ok (.ireturn, 1) := by decide +kernel
theorem dX4_describes_38 : decode cX4_describes 38 = .ok (.iinc 2 1, 3) := by decide +kernel
theorem dX4_describes_41 : decode cX4_describes 41 = .ok (.goto (-26), 3) := by decide +kernel
theorem dX4_describes_44 : decode cX4_describes 44 = .ok (.iconst 1, 1) := by decide +kernel
theorem dX4_describes_45 : decode cX4_describes 45 = .ok (.ireturn, 1) := by decide +kernel
set_option maxRecDepth 20000 in
theorem ggX4_refresh_X4_readItems : GoodIn wsX4_refresh wsX4_readItems := goodIn_r _ [15, 3, 16, 17, 18, 19, 2, 20, 21, 22, 23, 14, 24, 25, 26, 27, 28, 29, 30, 31, 32, 6, 33, 34, 35, 36, 5, 4, 37, 38, 39, 40, 41, 42, 43, 44, 45, 46, 47, 48, 49, 7, 50, 51, 52, 53, 54, 55, 56, 57, 58, 59, 60, 11, 12, 13, 61, 62, 63, 64, 65, 66, 67, 68, 69, 70, 71, 72, 8, 9, 73, 74, 75, 76, 77, 78, 79, 80, 81, 82, 83, 84, 85, 86, 87, 88, 89] (by decide +kernel) (by decide +kernel)
set_option maxRecDepth 20000 in
theorem gX4_refresh_X4_readItems : GoodIn wsX4_refresh (wsV RX4 68 RX4 yX4_readItems wsX4_readItems) := goodIn_app (goodIn_of _ (by decide +kernel)) ggX4_refresh_X4_readItems
theorem dX4_refresh_0 : decode cX4_refresh 0 = .ok (.aload_n 0, 1) := by decide +kernel
theorem dX4_refresh_1 : decode cX4_refresh 1 = .ok (.getfield 49, 3) := by decide +kernel
theorem dX4_refresh_4 : decode cX4_refresh 4 = .ok (.ifCond .eq 4, 3) := by decide +kernel
theorem dX4_refresh_7 : decode cX4_refresh 7 = .ok (.return_, 1) := by decide +kernel
theorem dX4_refresh_8 : decode cX4_refresh 8 = .ok (.aload_n 0, 1) := by decide +kernel
theorem dX4_refresh_9 : decode cX4_refresh 9 = .ok (.iconst 1, 1) := by decide +kernel
theorem dX4_refresh_10 : decode cX4_refresh 10 = .ok (.putfield 49, 3) := by decide +kernel
theorem dX4_refresh_13 : decode cX4_refresh 13 = .ok (.aload_n 0, 1) := by decide +kernel
theorem dX4_refresh_14 : decode cX4_refresh 14 = .ok (.iconst 0, 1) := by decide +kernel
theorem dX4_refresh_15 : decode cX4_refresh 15 = .ok (.putfield 22, 3) := by decide +kernel
theorem dX4_refresh_18 : decode cX4_refresh 18 = .ok (.aload_n 0, 1) := by decide +kernel
theorem dX4_refresh_19 : decode cX4_refresh 19 = .ok (.iconst 0, 1) := by decide +kernel
theorem dX4_refresh_20 : decode cX4_refresh 20 = .ok (.putfield 25, 3) := by decide +kernel
theorem dX4_refresh_23 : decode cX4_refresh 23 = .ok (.aload_n 0, 1) := by decide +kernel
theorem dX4_refresh_24 : decode cX4_refresh 24 = .ok (.iconst 0, 1) := by decide +kernel
theorem dX4_refresh_25 : decode cX4_refresh 25 = .ok (.putfield 28, 3) := by decide +kernel
theorem dX4_refresh_28 : decode cX4_refresh 28 = .ok (.aload_n 0, 1) := by decide +kernel
theorem dX4_refresh_29 : decode cX4_refresh 29 = .ok (.iconst 0, 1) := by decide +kernel
theorem dX4_refresh_30 : decode cX4_refresh 30 = .ok (.putfield 31, 3) := by decide +kernel
theorem dX4_refresh_33 : decode cX4_refresh 33 = .ok (.aload_n 0, 1) := by decide +kernel
theorem dX4_refresh_34 : decode cX4_refresh 34 = .ok (.iconst 0, 1) := by decide +kernel
theorem dX4_refresh_35 : decode cX4_refresh 35 = .ok (.putfield 34, 3) := by decide +kernel
theorem dX4_refresh_38 : decode cX4_refresh 38 = .ok (.aload_n 0, 1) := by decide +kernel
theorem dX4_refresh_39 : decode cX4_refresh 39 = .ok (.iconst 0, 1) := by decide +kernel
theorem dX4_refresh_40 : decode cX4_refresh 40 = .ok (.putfield 37, 3) := by decide +kernel
theorem dX4_refresh_43 : decode cX4_refresh 43 = .ok (.aload_n 0, 1) := by decide +kernel
theorem dX4_refresh_44 : decode cX4_refresh 44 = .ok (.iconst 0, 1) := by decide +kernel
theorem dX4_refresh_45 : decode cX4_refresh 45 = .ok (.putfield 40, 3) := by decide +kernel
theorem dX4_refresh_48 : decode cX4_refresh 48 = .ok (.aload_n 0, 1) := by decide +kernel
theorem dX4_refresh_49 : decode cX4_refresh 49 = .ok (.iconst 0, 1) := by decide +kernel
theorem dX4_refresh_50 : decode cX4_refresh 50 = .ok (.putfield 43, 3) := by decide +kernel
theorem dX4_refresh_53 : decode cX4_refresh 53 = .ok (.aload_n 0, 1) := by decide +kernel
theorem dX4_refresh_54 : decode cX4_refresh 54 = .ok (.aload_n 0, 1) := by decide +kernel
theorem dX4_refresh_55 : decode cX4_refresh 55 = .ok (.iconst 0, 1) := by decide +kernel
theorem dX4_refresh_56 : decode cX4_refresh 56 = .ok (.invokevirtual 68, 3) := by decide +kernel
theorem dX4_refresh_59 : decode cX4_refresh 59 = .ok (.putfield 46, 3) := by decide +kernel
theorem dX4_refresh_62 : decode cX4_refresh 62 = .ok (.return_, 1) := by decide +kernel
set_option maxRecDepth 20000 in
theorem ggX4_readItems_X4_sign : GoodIn wsX4_readItems wsX4_sign := goodIn_r _ [12, 6, 7, 13, 74, 75, 76, 77, 78, 79, 80, 81, 82, 83, 84, 85, 86] (by decide +kernel) (by decide +kernel)
set_option maxRecDepth 20000 in
theorem gX4_readItems_X4_sign : GoodIn wsX4_readItems (wsV RX4 71 RX4 yX4_sign wsX4_sign) := goodIn_app (goodIn_of _ (by decide +kernel)) ggX4_readItems_X4_sign
set_option maxRecDepth 20000 in
theorem ggX4_readItems_X4_isLetter : GoodIn wsX4_readItems wsX4_isLetter := goodIn_r _ [16] (by decide +kernel) (by decide +kernel)
set_option maxRecDepth 20000 in
theorem gX4_readItems_X4_isLetter : GoodIn wsX4_readItems (va_wsS RX4 75 yX4_isLetter wsX4_isLetter) := goodIn_app (goodIn_of _ (by decide +kernel)) ggX4_readItems_X4_isLetter
set_option maxRecDepth 20000 in
theorem ggX4_readItems_X4_readLetter : GoodIn wsX4_readItems wsX4_readLetter := goodIn_r _ [20, 1, 6, 21, 22, 23, 24, 11, 25, 26, 27, 8, 9, 10, 12, 7, 13, 28, 29, 30, 31, 32, 74, 75, 76, 77, 78, 79, 80, 81, 82, 83, 84, 85, 86] (by decide +kernel) (by decide +kernel)
set_option maxRecDepth 20000 in
theorem gX4_readItems_X4_readLetter : GoodIn wsX4_readItems (wsV RX4 79 RX4 yX4_readLetter wsX4_readLetter) := goodIn_app (goodIn_of _ (by decide +kernel)) ggX4_readItems_X4_readLetter
set_option maxRecDepth 20000 in
theorem ggX4_readItems_X4_readRepeat : GoodIn wsX4_readItems wsX4_readRepeat := goodIn_r _ [40, 6, 1, 41, 8, 9, 10, 11, 12, 7, 13, 42, 43, 44, 22, 23, 24, 25, 26, 27, 45, 46, 47, 48, 49, 50, 51, 52, 53, 54, 55, 36, 37, 38, 39, 56, 57, 58, 59, 60, 61, 62, 63, 32, 28, 29, 30, 31, 64, 65, 66, 67, 68, 69, 2, 3, 4, 5, 70, 71, 72, 73, 14, 15, 16, 0, 17, 18, 19, 20, 21, 33, 34, 35, 74, 75, 76, 77, 78, 79, 80, 81, 82, 83, 84, 85, 86] (by decide +kernel) (by decide +kernel)
set_option maxRecDepth 20000 in
theorem gX4_readItems_X4_readRepeat : GoodIn wsX4_readItems (wsV RX4 83 RX4 yX4_readRepeat wsX4_readRepeat) := goodIn_app (goodIn_of _ (by decide +kernel)) ggX4_readItems_X4_readRepeat
set_option maxRecDepth 20000 in
theorem ggX4_readItems_X4_hasFault : GoodIn wsX4_readItems wsX4_hasFault := goodIn_r _ [39, 26, 74, 75, 76, 77, 78, 79, 80, 81, 82, 83, 84, 85, 86] (by decide +kernel) (by decide +kernel)
set_option maxRecDepth 20000 in
theorem gX4_readItems_X4_hasFault : GoodIn wsX4_readItems (wsV RX4 92 RX4 yX4_hasFault wsX4_hasFault) := goodIn_app (goodIn_of _ (by decide +kernel)) ggX4_readItems_X4_hasFault
set_option maxRecDepth 20000 in
theorem ggX4_readItems_X4_blame : GoodIn wsX4_readItems wsX4_blame := goodIn_r _ [25, 26, 27, 74, 75, 76, 77, 78, 79, 80, 81, 82, 83, 84, 85, 86] (by decide +kernel) (by decide +kernel)
set_option maxRecDepth 20000 in
theorem gX4_readItems_X4_blame : GoodIn wsX4_readItems (wsV RX4 96 RX4 yX4_blame wsX4_blame) := goodIn_app (goodIn_of _ (by decide +kernel)) ggX4_readItems_X4_blame
theorem dX4_readItems_0 : decode cX4_readItems 0 = .ok (.aload_n 0, 1) := by decide +kernel
theorem dX4_readItems_1 : decode cX4_readItems 1 = .ok (.getfield 25, 3) := by decide +kernel
theorem dX4_readItems_4 : decode cX4_readItems 4 = .ok (.istore_n 2, 1) := by decide +kernel
theorem dX4_readItems_5 : decode cX4_readItems 5 = .ok (.iconst 0, 1) := by decide +kernel
theorem dX4_readItems_6 : decode cX4_readItems 6 = .ok (.istore_n 3, 1) := by decide +kernel
theorem dX4_readItems_7 : decode cX4_readItems 7 = .ok (.iconst 0, 1) := by decide +kernel
theorem dX4_readItems_8 : decode cX4_readItems 8 = .ok (.istore 4, 2) := by decide +kernel
theorem dX4_readItems_10 : decode cX4_readItems 10 = .ok (.iload 4, 2) := by decide +kernel
theorem dX4_readItems_12 : decode cX4_readItems 12 = .ok (.bipush 60, 2) := by decide +kernel
theorem dX4_readItems_14 : decode cX4_readItems 14 = .ok (.if_icmp .ge 97, 3) := by decide +kernel
theorem dX4_readItems_17 : decode cX4_readItems 17 = .ok (.iload_n 1, 1) := by decide +kernel
theorem dX4_readItems_18 : decode cX4_readItems 18 = .ok (.bipush 30, 2) := by decide +kernel
theorem dX4_readItems_20 : decode cX4_readItems 20 = .ok (.if_icmp .gt 91, 3) := by decide +kernel
theorem dX4_readItems_23 : decode cX4_readItems 23 = .ok (.aload_n 0, 1) := by decide +kernel
theorem dX4_readItems_24 : decode cX4_readItems 24 = .ok (.invokevirtual 71, 3) := by decide +kernel
theorem dX4_readItems_27 : decode cX4_readItems 27 = .ok (.invokestatic 75, 3) := by decide +kernel
theorem dX4_readItems_30 : decode cX4_readItems 30 = .ok (.ifCond .eq 11, 3) := by decide +kernel
theorem dX4_readItems_33 : decode cX4_readItems 33 = .ok (.aload_n 0, 1) := by decide +kernel
theorem dX4_readItems_34 : decode cX4_readItems 34 = .ok (.iload_n 2, 1) := by decide +kernel
theorem dX4_readItems_35 : decode cX4_readItems 35 = .ok (.invokevirtual 79, 3) := by decide +kernel
theorem dX4_readItems_38 : decode cX4_readItems 38 = .ok (.goto 14, 3) := by decide +kernel
theorem dX4_readItems_41 : decode cX4_readItems 41 = .ok (.iload_n 3, 1) := by decide +kernel
theorem dX4_readItems_42 : decode cX4_readItems 42 = .ok (.aload_n 0, 1) := by decide +kernel
theorem dX4_readItems_43 : decode cX4_readItems 43 = .ok (.iload_n 1, 1) := by decide +kernel
theorem dX4_readItems_44 : decode cX4_readItems 44 = .ok (.iload_n 2, 1) := by decide +kernel
theorem dX4_readItems_45 : decode cX4_readItems 45 = .ok (.invokevirtual 83, 3) := by decide +kernel
theorem dX4_readItems_48 : decode cX4_readItems 48 = .ok (.invokestatic 87, 3) := by decide +kernel
theorem dX4_readItems_51 : decode cX4_readItems 51 = .ok (.istore_n 3, 1) := by decide +kernel
theorem dX4_readItems_52 : decode cX4_readItems 52 = .ok (.iload_n 1, 1) := by decide +kernel
theorem dX4_readItems_53 : decode cX4_readItems 53 = .ok (.ifCond .ne 22, 3) := by decide +kernel
theorem dX4_readItems_56 : decode cX4_readItems 56 = .ok (.aload_n 0, 1) := by decide +kernel
theorem dX4_readItems_57 : decode cX4_readItems 57 = .ok (.getfield 22, 3) := by decide +kernel
theorem dX4_readItems_60 : decode cX4_readItems 60 = .ok (.aload_n 0, 1) := by decide +kernel
theorem dX4_readItems_61 : decode cX4_readItems 61 = .ok (.getfield 18, 3) := by decide +kernel
theorem dX4_readItems_64 : decode cX4_readItems 64 = .ok (.if_icmp .lt 7, 3) := by decide +kernel
theorem dX4_readItems_67 : decode cX4_readItems 67 = .ok (.iconst 1, 1) := by decide +kernel
theorem dX4_readItems_68 : decode cX4_readItems 68 = .ok (.goto 21, 3) := by decide +kernel
theorem dX4_readItems_71 : decode cX4_readItems 71 = .ok (.iconst 0, 1) := by decide +kernel
theorem dX4_readItems_72 : decode cX4_readItems 72 = .ok (.goto 17, 3) := by decide +kernel
theorem dX4_readItems_75 : decode cX4_readItems 75 = .ok (.aload_n 0, 1) := by decide +kernel
theorem dX4_readItems_76 : decode cX4_readItems 76 = .ok (.invokevirtual 71, 3) := by decide +kernel
theorem dX4_readItems_79 : decode cX4_readItems 79 = .ok (.bipush 41, 2) := by decide +kernel
theorem dX4_readItems_81 : decode cX4_readItems 81 = .ok (.if_icmp .ne 7, 3) := by decide +kernel
theorem dX4_readItems_84 : decode cX4_readItems 84 = .ok (.iconst 1, 1) := by decide +kernel
theorem dX4_readItems_85 : decode cX4_readItems 85 = .ok (.goto 4, 3) := by decide +kernel
theorem dX4_readItems_88 : decode cX4_readItems 88 = .ok (.iconst 0, 1) := by decide +kernel
theorem dX4_readItems_89 : decode cX4_readItems 89 = .ok (.istore 5, 2) := by decide +kernel
theorem dX4_readItems_91 : decode cX4_readItems 91 = .ok (.iload 5, 2) := by decide +kernel
theorem dX4_readItems_93 : decode cX4_readItems 93 = .ok (.ifCond .ne 10, 3) := by decide +kernel
theorem dX4_readItems_96 : decode cX4_readItems 96 = .ok (.aload_n 0, 1) := by decide +kernel
theorem dX4_readItems_97 : decode cX4_readItems 97 = .ok (.invokevirtual 92, 3) := by decide +kernel
theorem dX4_readItems_100 : decode cX4_readItems 100 = .ok (.ifCond .eq 5, 3) := by decide +kernel
theorem dX4_readItems_103 : decode cX4_readItems 103 = .ok (.iload_n 3, 1) := by decide +kernel
theorem dX4_readItems_104 : decode cX4_readItems 104 = .ok (.ireturn, 1) := by decide +kernel
theorem dX4_readItems_105 : decode cX4_readItems 105 = .ok (.iinc 4 1, 3) := by decide +kernel
theorem dX4_readItems_108 : decode cX4_readItems 108 = .ok (.goto (-98), 3) := by decide +kernel
theorem dX4_readItems_111 : decode cX4_readItems 111 = .ok (.aload_n 0, 1) := by decide +kernel
theorem dX4_readItems_112 : decode cX4_readItems 112 = .ok (.aload_n 0, 1) := by decide +kernel
theorem dX4_readItems_113 : decode cX4_readItems 113 = .ok (.getfield 22, 3) := by decide +kernel
theorem dX4_readItems_116 : decode cX4_readItems 116 = .ok (.iconst 1, 1) := by decide +kernel
theorem dX4_readItems_117 : decode cX4_readItems 117 = .ok (.invokevirtual 96, 3) := by decide +kernel
theorem dX4_readItems_120 : decode cX4_readItems 120 = .ok (.iload_n 3, 1) := by decide +kernel
theorem dX4_readItems_121 : decode cX4_readItems 121 = .ok (.ireturn, 1) := by decide +kernel
set_option maxRecDepth 20000 in
theorem ggX4_readLetter_X4_blame : GoodIn wsX4_readLetter wsX4_blame := goodIn_r _ [8, 9, 10, 22, 23, 24, 25, 26, 27, 28, 29, 30, 31, 32, 33, 34] (by decide +kernel) (by decide +kernel)
set_option maxRecDepth 20000 in
theorem gX4_readLetter_X4_blame : GoodIn wsX4_readLetter (wsV RX4 96 RX4 yX4_blame wsX4_blame) := goodIn_app (goodIn_of _ (by decide +kernel)) ggX4_readLetter_X4_blame
set_option maxRecDepth 20000 in
theorem ggX4_readLetter_X4_sign : GoodIn wsX4_readLetter wsX4_sign := goodIn_r _ [14, 2, 15, 16, 22, 23, 24, 25, 26, 27, 28, 29, 30, 31, 32, 33, 34] (by decide +kernel) (by decide +kernel)
set_option maxRecDepth 20000 in
theorem gX4_readLetter_X4_sign : GoodIn wsX4_readLetter (wsV RX4 71 RX4 yX4_sign wsX4_sign) := goodIn_app (goodIn_of _ (by decide +kernel)) ggX4_readLetter_X4_sign
set_option maxRecDepth 20000 in
theorem ggX4_readLetter_X4_putLetter : GoodIn wsX4_readLetter wsX4_putLetter := goodIn_r _ [20, 21, 22, 23, 24, 25, 26, 27, 28, 29, 30, 31, 32, 33, 34] (by decide +kernel) (by decide +kernel)
set_option maxRecDepth 20000 in
theorem gX4_readLetter_X4_putLetter : GoodIn wsX4_readLetter (wsV RX4 100 RX4 yX4_putLetter wsX4_putLetter) := goodIn_app (goodIn_of _ (by decide +kernel)) ggX4_readLetter_X4_putLetter
theorem dX4_readLetter_0 : decode cX4_readLetter 0 = .ok (.aload_n 0, 1) := by decide +kernel
theorem dX4_readLetter_1 : decode cX4_readLetter 1 = .ok (.getfield 25, 3) := by decide +kernel
theorem dX4_readLetter_4 : decode cX4_readLetter 4 = .ok (.iload_n 1, 1) := by decide +kernel
theorem dX4_readLetter_5 : decode cX4_readLetter 5 = .ok (.isub, 1) := by decide +kernel
theorem dX4_readLetter_6 : decode cX4_readLetter 6 = .ok (.bipush 24, 2) := by decide +kernel
theorem dX4_readLetter_8 : decode cX4_readLetter 8 = .ok (.if_icmp .lt 13, 3) := by decide +kernel
theorem dX4_readLetter_11 : decode cX4_readLetter 11 = .ok (.aload_n 0, 1) := by decide +kernel
theorem dX4_readLetter_12 : decode cX4_readLetter 12 = .ok (.aload_n 0, 1) := by decide +kernel
theorem dX4_readLetter_13 : decode cX4_readLetter 13 = .ok (.getfield 22, 3) := by decide +kernel
theorem dX4_readLetter_16 : decode cX4_readLetter 16 = .ok (.iconst 4, 1) := by decide +kernel
theorem dX4_readLetter_17 : decode cX4_readLetter 17 = .ok (.invokevirtual 96, 3) := by decide +kernel
theorem dX4_readLetter_20 : decode cX4_readLetter 20 = .ok (.return_, 1) := by decide +kernel
theorem dX4_readLetter_21 : decode cX4_readLetter 21 = .ok (.aload_n 0, 1) := by decide +kernel
theorem dX4_readLetter_22 : decode cX4_readLetter 22 = .ok (.aload_n 0, 1) := by decide +kernel
theorem dX4_readLetter_23 : decode cX4_readLetter 23 = .ok (.getfield 25, 3) := by decide +kernel
theorem dX4_readLetter_26 : decode cX4_readLetter 26 = .ok (.aload_n 0, 1) := by decide +kernel
theorem dX4_readLetter_27 : decode cX4_readLetter 27 = .ok (.invokevirtual 71, 3) := by decide +kernel
theorem dX4_readLetter_30 : decode cX4_readLetter 30 = .ok (.bipush 97, 2) := by decide +kernel
theorem dX4_readLetter_32 : decode cX4_readLetter 32 = .ok (.isub, 1) := by decide +kernel
theorem dX4_readLetter_33 : decode cX4_readLetter 33 = .ok (.invokevirtual 100, 3) := by decide +kernel
theorem dX4_readLetter_36 : decode cX4_readLetter 36 = .ok (.aload_n 0, 1) := by decide +kernel
theorem dX4_readLetter_37 : decode cX4_readLetter 37 = .ok (.dup, 1) := by decide +kernel
theorem dX4_readLetter_38 : decode cX4_readLetter 38 = .ok (.getfield 25, 3) := by decide +kernel
theorem dX4_readLetter_41 : decode cX4_readLetter 41 = .ok (.iconst 1, 1) := by decide +kernel
theorem dX4_readLetter_42 : decode cX4_readLetter 42 = .ok (.iadd, 1) := by decide +kernel
theorem dX4_readLetter_43 : decode cX4_readLetter 43 = .ok (.putfield 25, 3) := by decide +kernel
theorem dX4_readLetter_46 : decode cX4_readLetter 46 = .ok (.aload_n 0, 1) := by decide +kernel
theorem dX4_readLetter_47 : decode cX4_readLetter 47 = .ok (.dup, 1) := by decide +kernel
theorem dX4_readLetter_48 : decode cX4_readLetter 48 = .ok (.getfield 34, 3) := by decide +kernel
theorem dX4_readLetter_51 : decode cX4_readLetter 51 = .ok (.iconst 1, 1) := by decide +kernel
theorem dX4_readLetter_52 : decode cX4_readLetter 52 = .ok (.iadd, 1) := by decide +kernel
theorem dX4_readLetter_53 : decode cX4_readLetter 53 = .ok (.putfield 34, 3) := by decide +kernel
theorem dX4_readLetter_56 : decode cX4_readLetter 56 = .ok (.aload_n 0, 1) := by decide +kernel
theorem dX4_readLetter_57 : decode cX4_readLetter 57 = .ok (.dup, 1) := by decide +kernel
theorem dX4_readLetter_58 : decode cX4_readLetter 58 = .ok (.getfield 22, 3) := by decide +kernel
theorem dX4_readLetter_61 : decode cX4_readLetter 61 = .ok (.iconst 1, 1) := by decide +kernel
theorem dX4_readLetter_62 : decode cX4_readLetter 62 = .ok (.iadd, 1) := by decide +kernel
theorem dX4_readLetter_63 : decode cX4_readLetter 63 = .ok (.putfield 22, 3) := by decide +kernel
theorem dX4_readLetter_66 : decode cX4_readLetter 66 = .ok (.return_, 1) := by decide +kernel
set_option maxRecDepth 20000 in
theorem ggX4_readRepeat_X4_sign : GoodIn wsX4_readRepeat wsX4_sign := goodIn_r _ [8, 1, 9, 10, 74, 75, 76, 77, 78, 79, 80, 81, 82, 83, 84, 85, 86] (by decide +kernel) (by decide +kernel)
set_option maxRecDepth 20000 in
theorem gX4_readRepeat_X4_sign : GoodIn wsX4_readRepeat (wsV RX4 71 RX4 yX4_sign wsX4_sign) := goodIn_app (goodIn_of _ (by decide +kernel)) ggX4_readRepeat_X4_sign
set_option maxRecDepth 20000 in
theorem ggX4_readRepeat_X4_isDigit : GoodIn wsX4_readRepeat wsX4_isDigit := goodIn_r _ [13] (by decide +kernel) (by decide +kernel)
set_option maxRecDepth 20000 in
theorem gX4_readRepeat_X4_isDigit : GoodIn wsX4_readRepeat (va_wsS RX4 103 yX4_isDigit wsX4_isDigit) := goodIn_app (goodIn_of _ (by decide +kernel)) ggX4_readRepeat_X4_isDigit
set_option maxRecDepth 20000 in
theorem ggX4_readRepeat_X4_blame : GoodIn wsX4_readRepeat wsX4_blame := goodIn_r _ [17, 18, 19, 74, 75, 76, 77, 78, 79, 80, 81, 82, 83, 84, 85, 86] (by decide +kernel) (by decide +kernel)
set_option maxRecDepth 20000 in
theorem gX4_readRepeat_X4_blame : GoodIn wsX4_readRepeat (wsV RX4 96 RX4 yX4_blame wsX4_blame) := goodIn_app (goodIn_of _ (by decide +kernel)) ggX4_readRepeat_X4_blame
set_option maxRecDepth 20000 in
theorem ggX4_readRepeat_X4_readNumber : GoodIn wsX4_readRepeat wsX4_readNumber := goodIn_r _ [23, 1, 4, 5, 6, 7, 8, 9, 10, 11, 12, 13, 74, 75, 76, 77, 78, 79, 80, 81, 82, 83, 84, 85, 86] (by decide +kernel) (by decide +kernel)
set_option maxRecDepth 20000 in
theorem gX4_readRepeat_X4_readNumber : GoodIn wsX4_readRepeat (wsV RX4 106 RX4 yX4_readNumber wsX4_readNumber) := goodIn_app (goodIn_of _ (by decide +kernel)) ggX4_readRepeat_X4_readNumber
set_option maxRecDepth 20000 in
theorem ggX4_readRepeat_X4_reads : GoodIn wsX4_readRepeat wsX4_reads := goodIn_r _ [27, 1, 4, 5, 6, 7, 8, 9, 10, 14, 15, 16, 17, 18, 19, 74, 75, 76, 77, 78, 79, 80, 81, 82, 83, 84, 85, 86] (by decide +kernel) (by decide +kernel)
set_option maxRecDepth 20000 in
theorem gX4_readRepeat_X4_reads : GoodIn wsX4_readRepeat (wsV RX4 109 RX4 yX4_reads wsX4_reads) := goodIn_app (goodIn_of _ (by decide +kernel)) ggX4_readRepeat_X4_reads
set_option maxRecDepth 20000 in
theorem ggX4_readRepeat_X4_readItems : GoodIn wsX4_readRepeat wsX4_readItems := goodIn_r _ [65, 2, 54, 55, 56, 57, 1, 9, 4, 5, 6, 7, 8, 10, 62, 63, 64, 66, 67, 68, 69, 70, 14, 15, 16, 17, 18, 19, 44, 45, 46, 47, 43, 71, 72, 73, 31, 32, 33, 34, 0, 3, 11, 12, 13, 20, 21, 22, 23, 24, 25, 26, 27, 28, 29, 30, 35, 36, 37, 38, 39, 40, 41, 42, 48, 49, 50, 51, 52, 53, 58, 59, 60, 61, 74, 75, 76, 77, 78, 79, 80, 81, 82, 83, 84, 85, 86] (by decide +kernel) (by decide +kernel)
set_option maxRecDepth 20000 in
theorem gX4_readRepeat_X4_readItems : GoodIn wsX4_readRepeat (wsV RX4 68 RX4 yX4_readItems wsX4_readItems) := goodIn_app (goodIn_of _ (by decide +kernel)) ggX4_readRepeat_X4_readItems
set_option maxRecDepth 20000 in
theorem ggX4_readRepeat_X4_hasFault : GoodIn wsX4_readRepeat wsX4_hasFault := goodIn_r _ [34, 18, 74, 75, 76, 77, 78, 79, 80, 81, 82, 83, 84, 85, 86] (by decide +kernel) (by decide +kernel)
set_option maxRecDepth 20000 in
theorem gX4_readRepeat_X4_hasFault : GoodIn wsX4_readRepeat (wsV RX4 92 RX4 yX4_hasFault wsX4_hasFault) := goodIn_app (goodIn_of _ (by decide +kernel)) ggX4_readRepeat_X4_hasFault
set_option maxRecDepth 20000 in
theorem ggX4_readRepeat_X4_unfold : GoodIn wsX4_readRepeat wsX4_unfold := goodIn_r _ [38, 2, 39, 40, 41, 7, 42, 43, 44, 45, 46, 47, 74, 75, 76, 77, 78, 79, 80, 81, 82, 83, 84, 85, 86] (by decide +kernel) (by decide +kernel)
set_option maxRecDepth 20000 in
theorem gX4_readRepeat_X4_unfold : GoodIn wsX4_readRepeat (wsV RX4 112 RX4 yX4_unfold wsX4_unfold) := goodIn_app (goodIn_of _ (by decide +kernel)) ggX4_readRepeat_X4_unfold
set_option maxRecDepth 20000 in
theorem ggX4_readRepeat_X4_readCorrections : GoodIn wsX4_readRepeat wsX4_readCorrections := goodIn_r _ [51, 52, 53, 54, 55, 56, 57, 4, 5, 6, 7, 8, 1, 9, 10, 58, 59, 60, 61, 2, 11, 12, 13, 14, 15, 16, 17, 18, 19, 20, 21, 22, 23, 24, 25, 26, 27, 62, 63, 64, 39, 40, 41, 42, 43, 44, 45, 46, 47, 31, 32, 33, 34, 74, 75, 76, 77, 78, 79, 80, 81, 82, 83, 84, 85, 86] (by decide +kernel) (by decide +kernel)
set_option maxRecDepth 20000 in
theorem gX4_readRepeat_X4_readCorrections : GoodIn wsX4_readRepeat (wsV RX4 115 RX4 yX4_readCorrections wsX4_readCorrections) := goodIn_app (goodIn_of _ (by decide +kernel)) ggX4_readRepeat_X4_readCorrections
theorem dX4_readRepeat_0 : decode cX4_readRepeat 0 = .ok (.aload_n 0, 1) := by decide +kernel
theorem dX4_readRepeat_1 : decode cX4_readRepeat 1 = .ok (.getfield 22, 3) := by decide +kernel
theorem dX4_readRepeat_4 : decode cX4_readRepeat 4 = .ok (.istore_n 3, 1) := by decide +kernel
theorem dX4_readRepeat_5 : decode cX4_readRepeat 5 = .ok (.aload_n 0, 1) := by decide +kernel
theorem dX4_readRepeat_6 : decode cX4_readRepeat 6 = .ok (.invokevirtual 71, 3) := by decide +kernel
theorem dX4_readRepeat_9 : decode cX4_readRepeat 9 = .ok (.invokestatic 103, 3) := by decide +kernel
theorem dX4_readRepeat_12 : decode cX4_readRepeat 12 = .ok (.ifCond .eq 12, 3) := by decide +kernel
theorem dX4_readRepeat_15 : decode cX4_readRepeat 15 = .ok (.aload_n 0, 1) := by decide +kernel
theorem dX4_readRepeat_16 : decode cX4_readRepeat 16 = .ok (.invokevirtual 71, 3) := by decide +kernel
theorem dX4_readRepeat_19 : decode cX4_readRepeat 19 = .ok (.bipush 48, 2) := by decide +kernel
theorem dX4_readRepeat_21 : decode cX4_readRepeat 21 = .ok (.if_icmp .ne 14, 3) := by decide +kernel
theorem dX4_readRepeat_24 : decode cX4_readRepeat 24 = .ok (.aload_n 0, 1) := by decide +kernel
theorem dX4_readRepeat_25 : decode cX4_readRepeat 25 = .ok (.aload_n 0, 1) := by decide +kernel
theorem dX4_readRepeat_26 : decode cX4_readRepeat 26 = .ok (.getfield 22, 3) := by decide +kernel
theorem dX4_readRepeat_29 : decode cX4_readRepeat 29 = .ok (.iconst 1, 1) := by decide +kernel
theorem dX4_readRepeat_30 : decode cX4_readRepeat 30 = .ok (.invokevirtual 96, 3) := by decide +kernel
theorem dX4_readRepeat_33 : decode cX4_readRepeat 33 = .ok (.iconst 0, 1) := by decide +kernel
theorem dX4_readRepeat_34 : decode cX4_readRepeat 34 = .ok (.ireturn, 1) := by decide +kernel
theorem dX4_readRepeat_35 : decode cX4_readRepeat 35 = .ok (.aload_n 0, 1) := by decide +kernel
theorem dX4_readRepeat_36 : decode cX4_readRepeat 36 = .ok (.invokevirtual 106, 3) := by decide +kernel
theorem dX4_readRepeat_39 : decode cX4_readRepeat 39 = .ok (.istore 4, 2) := by decide +kernel
theorem dX4_readRepeat_41 : decode cX4_readRepeat 41 = .ok (.aload_n 0, 1) := by decide +kernel
theorem dX4_readRepeat_42 : decode cX4_readRepeat 42 = .ok (.bipush 40, 2) := by decide +kernel
theorem dX4_readRepeat_44 : decode cX4_readRepeat 44 = .ok (.invokevirtual 109, 3) := by decide +kernel
theorem dX4_readRepeat_47 : decode cX4_readRepeat 47 = .ok (.ifCond .ne 5, 3) := by decide +kernel
theorem dX4_readRepeat_50 : decode cX4_readRepeat 50 = .ok (.iconst 0, 1) := by decide +kernel
