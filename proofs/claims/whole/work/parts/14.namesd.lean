theorem dX8_init_59 : decode cX8_init 59 = .ok (.aload_n 0, 1) := by decide +kernel
theorem dX8_init_60 : decode cX8_init 60 = .ok (.iconst 0, 1) := by decide +kernel
theorem dX8_init_61 : decode cX8_init 61 = .ok (.putfield 44, 3) := by decide +kernel
theorem dX8_init_64 : decode cX8_init 64 = .ok (.aload_n 0, 1) := by decide +kernel
theorem dX8_init_65 : decode cX8_init 65 = .ok (.iconst 0, 1) := by decide +kernel
theorem dX8_init_66 : decode cX8_init 66 = .ok (.putfield 47, 3) := by decide +kernel
theorem dX8_init_69 : decode cX8_init 69 = .ok (.aload_n 0, 1) := by decide +kernel
theorem dX8_init_70 : decode cX8_init 70 = .ok (.iconst 0, 1) := by decide +kernel
theorem dX8_init_71 : decode cX8_init 71 = .ok (.putfield 50, 3) := by decide +kernel
theorem dX8_init_74 : decode cX8_init 74 = .ok (.aload_n 0, 1) := by decide +kernel
theorem dX8_init_75 : decode cX8_init 75 = .ok (.iconst 0, 1) := by decide +kernel
theorem dX8_init_76 : decode cX8_init 76 = .ok (.putfield 53, 3) := by decide +kernel
theorem dX8_init_79 : decode cX8_init 79 = .ok (.aload_n 0, 1) := by decide +kernel
theorem dX8_init_80 : decode cX8_init 80 = .ok (.iconst 0, 1) := by decide +kernel
theorem dX8_init_81 : decode cX8_init 81 = .ok (.putfield 56, 3) := by decide +kernel
theorem dX8_init_84 : decode cX8_init 84 = .ok (.return_, 1) := by decide +kernel
set_option maxRecDepth 20000 in
theorem ggX8_refresh_X5_look : GoodIn wsX8_refresh wsX5_look := goodIn_r _ [17, 18, 19, 20, 21, 22, 23, 24, 25, 26, 27, 28, 29, 30, 31, 32, 33, 34, 35, 36, 37, 38, 113, 114, 115, 116, 117, 118, 119, 120, 121, 122, 123, 124, 125] (by decide +kernel) (by decide +kernel)
set_option maxRecDepth 20000 in
theorem gX8_refresh_X5_look : GoodIn wsX8_refresh (wsV RX8 60 RX5 yX5_look wsX5_look) := goodIn_app (goodIn_of _ (by decide +kernel)) ggX8_refresh_X5_look
set_option maxRecDepth 20000 in
theorem ggX8_refresh_X7_setting : GoodIn wsX8_refresh wsX7_setting := goodIn_r _ [28, 29, 113, 114, 115] (by decide +kernel) (by decide +kernel)
set_option maxRecDepth 20000 in
theorem gX8_refresh_X7_setting : GoodIn wsX8_refresh (wsV RX8 64 RX7 yX7_setting wsX7_setting) := goodIn_app (goodIn_of _ (by decide +kernel)) ggX8_refresh_X7_setting
set_option maxRecDepth 20000 in
theorem ggX8_refresh_X8_choose : GoodIn wsX8_refresh wsX8_choose := goodIn_r _ [44, 8, 10, 7, 45, 46, 47, 48, 49, 50, 51, 37, 52, 53, 54, 55, 16, 56, 57, 18, 58, 59, 60, 61, 23, 21, 62, 63, 64, 19, 20, 65, 66, 67, 68, 69, 70, 71, 99, 100, 101, 102, 103, 104, 105, 106, 107, 108, 109, 110, 111, 112, 116, 117, 118, 119, 120, 121, 122, 123, 124, 125, 126, 127, 128, 129] (by decide +kernel) (by decide +kernel)
set_option maxRecDepth 20000 in
theorem gX8_refresh_X8_choose : GoodIn wsX8_refresh (wsV RX8 70 RX8 yX8_choose wsX8_choose) := goodIn_app (goodIn_of _ (by decide +kernel)) ggX8_refresh_X8_choose
set_option maxRecDepth 20000 in
theorem ggX8_refresh_X8_tellItems : GoodIn wsX8_refresh wsX8_tellItems := goodIn_r _ [75, 8, 10, 76, 77, 78, 79, 80, 40, 41, 42, 43, 44, 7, 45, 46, 47, 48, 49, 50, 51, 37, 52, 53, 54, 55, 16, 56, 57, 18, 58, 59, 60, 61, 23, 21, 62, 63, 64, 19, 20, 65, 66, 67, 68, 69, 70, 71, 81, 82, 83, 84, 31, 32, 27, 33, 34, 35, 85, 86, 87, 88, 4, 89, 90, 5, 91, 92, 93, 94, 72, 73, 74, 95, 96, 97, 98, 6, 99, 100, 101, 102, 103, 104, 105, 106, 107, 108, 109, 110, 111, 112, 116, 117, 118, 119, 120, 121, 122, 123, 124, 125, 126, 127, 128, 129, 113, 114, 115] (by decide +kernel) (by decide +kernel)
set_option maxRecDepth 20000 in
theorem gX8_refresh_X8_tellItems : GoodIn wsX8_refresh (wsV RX8 74 RX8 yX8_tellItems wsX8_tellItems) := goodIn_app (goodIn_of _ (by decide +kernel)) ggX8_refresh_X8_tellItems
theorem dX8_refresh_0 : decode cX8_refresh 0 = .ok (.aload_n 0, 1) := by decide +kernel
theorem dX8_refresh_1 : decode cX8_refresh 1 = .ok (.getfield 56, 3) := by decide +kernel
theorem dX8_refresh_4 : decode cX8_refresh 4 = .ok (.ifCond .eq 21, 3) := by decide +kernel
theorem dX8_refresh_7 : decode cX8_refresh 7 = .ok (.aload_n 0, 1) := by decide +kernel
theorem dX8_refresh_8 : decode cX8_refresh 8 = .ok (.getfield 26, 3) := by decide +kernel
theorem dX8_refresh_11 : decode cX8_refresh 11 = .ok (.iload_n 3, 1) := by decide +kernel
theorem dX8_refresh_12 : decode cX8_refresh 12 = .ok (.if_icmp .ne 13, 3) := by decide +kernel
theorem dX8_refresh_15 : decode cX8_refresh 15 = .ok (.aload_n 0, 1) := by decide +kernel
theorem dX8_refresh_16 : decode cX8_refresh 16 = .ok (.getfield 29, 3) := by decide +kernel
theorem dX8_refresh_19 : decode cX8_refresh 19 = .ok (.iload 4, 2) := by decide +kernel
theorem dX8_refresh_21 : decode cX8_refresh 21 = .ok (.if_icmp .ne 4, 3) := by decide +kernel
theorem dX8_refresh_24 : decode cX8_refresh 24 = .ok (.return_, 1) := by decide +kernel
theorem dX8_refresh_25 : decode cX8_refresh 25 = .ok (.aload_n 0, 1) := by decide +kernel
theorem dX8_refresh_26 : decode cX8_refresh 26 = .ok (.iconst 1, 1) := by decide +kernel
theorem dX8_refresh_27 : decode cX8_refresh 27 = .ok (.putfield 56, 3) := by decide +kernel
theorem dX8_refresh_30 : decode cX8_refresh 30 = .ok (.aload_n 0, 1) := by decide +kernel
theorem dX8_refresh_31 : decode cX8_refresh 31 = .ok (.iload_n 3, 1) := by decide +kernel
theorem dX8_refresh_32 : decode cX8_refresh 32 = .ok (.putfield 26, 3) := by decide +kernel
theorem dX8_refresh_35 : decode cX8_refresh 35 = .ok (.aload_n 0, 1) := by decide +kernel
theorem dX8_refresh_36 : decode cX8_refresh 36 = .ok (.iload 4, 2) := by decide +kernel
theorem dX8_refresh_38 : decode cX8_refresh 38 = .ok (.putfield 29, 3) := by decide +kernel
theorem dX8_refresh_41 : decode cX8_refresh 41 = .ok (.aload_n 0, 1) := by decide +kernel
theorem dX8_refresh_42 : decode cX8_refresh 42 = .ok (.iconst 0, 1) := by decide +kernel
theorem dX8_refresh_43 : decode cX8_refresh 43 = .ok (.putfield 22, 3) := by decide +kernel
theorem dX8_refresh_46 : decode cX8_refresh 46 = .ok (.aload_n 0, 1) := by decide +kernel
theorem dX8_refresh_47 : decode cX8_refresh 47 = .ok (.iconst 0, 1) := by decide +kernel
theorem dX8_refresh_48 : decode cX8_refresh 48 = .ok (.putfield 38, 3) := by decide +kernel
theorem dX8_refresh_51 : decode cX8_refresh 51 = .ok (.aload_n 0, 1) := by decide +kernel
theorem dX8_refresh_52 : decode cX8_refresh 52 = .ok (.iconst 0, 1) := by decide +kernel
theorem dX8_refresh_53 : decode cX8_refresh 53 = .ok (.putfield 41, 3) := by decide +kernel
theorem dX8_refresh_56 : decode cX8_refresh 56 = .ok (.aload_n 0, 1) := by decide +kernel
theorem dX8_refresh_57 : decode cX8_refresh 57 = .ok (.getfield 12, 3) := by decide +kernel
theorem dX8_refresh_60 : decode cX8_refresh 60 = .ok (.aload_n 1, 1) := by decide +kernel
theorem dX8_refresh_61 : decode cX8_refresh 61 = .ok (.invokevirtual 60, 3) := by decide +kernel
theorem dX8_refresh_64 : decode cX8_refresh 64 = .ok (.aload_n 1, 1) := by decide +kernel
theorem dX8_refresh_65 : decode cX8_refresh 65 = .ok (.iconst 4, 1) := by decide +kernel
theorem dX8_refresh_66 : decode cX8_refresh 66 = .ok (.invokevirtual 64, 3) := by decide +kernel
theorem dX8_refresh_69 : decode cX8_refresh 69 = .ok (.istore 5, 2) := by decide +kernel
theorem dX8_refresh_71 : decode cX8_refresh 71 = .ok (.aload_n 0, 1) := by decide +kernel
theorem dX8_refresh_72 : decode cX8_refresh 72 = .ok (.aload_n 1, 1) := by decide +kernel
theorem dX8_refresh_73 : decode cX8_refresh 73 = .ok (.aload_n 2, 1) := by decide +kernel
theorem dX8_refresh_74 : decode cX8_refresh 74 = .ok (.iload 5, 2) := by decide +kernel
theorem dX8_refresh_76 : decode cX8_refresh 76 = .ok (.iload_n 3, 1) := by decide +kernel
theorem dX8_refresh_77 : decode cX8_refresh 77 = .ok (.iload 4, 2) := by decide +kernel
theorem dX8_refresh_79 : decode cX8_refresh 79 = .ok (.invokevirtual 70, 3) := by decide +kernel
theorem dX8_refresh_82 : decode cX8_refresh 82 = .ok (.aload_n 0, 1) := by decide +kernel
theorem dX8_refresh_83 : decode cX8_refresh 83 = .ok (.aload_n 0, 1) := by decide +kernel
theorem dX8_refresh_84 : decode cX8_refresh 84 = .ok (.getfield 50, 3) := by decide +kernel
theorem dX8_refresh_87 : decode cX8_refresh 87 = .ok (.iload_n 3, 1) := by decide +kernel
theorem dX8_refresh_88 : decode cX8_refresh 88 = .ok (.isub, 1) := by decide +kernel
theorem dX8_refresh_89 : decode cX8_refresh 89 = .ok (.putfield 44, 3) := by decide +kernel
theorem dX8_refresh_92 : decode cX8_refresh 92 = .ok (.aload_n 0, 1) := by decide +kernel
theorem dX8_refresh_93 : decode cX8_refresh 93 = .ok (.aload_n 0, 1) := by decide +kernel
theorem dX8_refresh_94 : decode cX8_refresh 94 = .ok (.getfield 53, 3) := by decide +kernel
theorem dX8_refresh_97 : decode cX8_refresh 97 = .ok (.ifCond .le 15, 3) := by decide +kernel
theorem dX8_refresh_100 : decode cX8_refresh 100 = .ok (.aload_n 0, 1) := by decide +kernel
theorem dX8_refresh_101 : decode cX8_refresh 101 = .ok (.getfield 44, 3) := by decide +kernel
theorem dX8_refresh_104 : decode cX8_refresh 104 = .ok (.aload_n 0, 1) := by decide +kernel
theorem dX8_refresh_105 : decode cX8_refresh 105 = .ok (.getfield 53, 3) := by decide +kernel
theorem dX8_refresh_108 : decode cX8_refresh 108 = .ok (.idiv, 1) := by decide +kernel
theorem dX8_refresh_109 : decode cX8_refresh 109 = .ok (.goto 4, 3) := by decide +kernel
theorem dX8_refresh_112 : decode cX8_refresh 112 = .ok (.iconst 1, 1) := by decide +kernel
theorem dX8_refresh_113 : decode cX8_refresh 113 = .ok (.putfield 47, 3) := by decide +kernel
theorem dX8_refresh_116 : decode cX8_refresh 116 = .ok (.aload_n 0, 1) := by decide +kernel
theorem dX8_refresh_117 : decode cX8_refresh 117 = .ok (.aload_n 0, 1) := by decide +kernel
theorem dX8_refresh_118 : decode cX8_refresh 118 = .ok (.aload_n 1, 1) := by decide +kernel
theorem dX8_refresh_119 : decode cX8_refresh 119 = .ok (.aload_n 2, 1) := by decide +kernel
theorem dX8_refresh_120 : decode cX8_refresh 120 = .ok (.iload 5, 2) := by decide +kernel
theorem dX8_refresh_122 : decode cX8_refresh 122 = .ok (.iload_n 3, 1) := by decide +kernel
theorem dX8_refresh_123 : decode cX8_refresh 123 = .ok (.iload 4, 2) := by decide +kernel
theorem dX8_refresh_125 : decode cX8_refresh 125 = .ok (.invokevirtual 74, 3) := by decide +kernel
theorem dX8_refresh_128 : decode cX8_refresh 128 = .ok (.putfield 35, 3) := by decide +kernel
theorem dX8_refresh_131 : decode cX8_refresh 131 = .ok (.return_, 1) := by decide +kernel
theorem dX8_measure_0 : decode cX8_measure 0 = .ok (.iload_n 1, 1) := by decide +kernel
theorem dX8_measure_1 : decode cX8_measure 1 = .ok (.tableswitch 69 1 6 #[39, 44, 49, 54, 59, 64], 39) := by decide +kernel
theorem dX8_measure_40 : decode cX8_measure 40 = .ok (.aload_n 0, 1) := by decide +kernel
theorem dX8_measure_41 : decode cX8_measure 41 = .ok (.getfield 32, 3) := by decide +kernel
theorem dX8_measure_44 : decode cX8_measure 44 = .ok (.ireturn, 1) := by decide +kernel
theorem dX8_measure_45 : decode cX8_measure 45 = .ok (.aload_n 0, 1) := by decide +kernel
theorem dX8_measure_46 : decode cX8_measure 46 = .ok (.getfield 35, 3) := by decide +kernel
theorem dX8_measure_49 : decode cX8_measure 49 = .ok (.ireturn, 1) := by decide +kernel
theorem dX8_measure_50 : decode cX8_measure 50 = .ok (.aload_n 0, 1) := by decide +kernel
theorem dX8_measure_51 : decode cX8_measure 51 = .ok (.getfield 38, 3) := by decide +kernel
theorem dX8_measure_54 : decode cX8_measure 54 = .ok (.ireturn, 1) := by decide +kernel
theorem dX8_measure_55 : decode cX8_measure 55 = .ok (.aload_n 0, 1) := by decide +kernel
theorem dX8_measure_56 : decode cX8_measure 56 = .ok (.getfield 41, 3) := by decide +kernel
theorem dX8_measure_59 : decode cX8_measure 59 = .ok (.ireturn, 1) := by decide +kernel
theorem dX8_measure_60 : decode cX8_measure 60 = .ok (.aload_n 0, 1) := by decide +kernel
theorem dX8_measure_61 : decode cX8_measure 61 = .ok (.getfield 22, 3) := by decide +kernel
theorem dX8_measure_64 : decode cX8_measure 64 = .ok (.ireturn, 1) := by decide +kernel
theorem dX8_measure_65 : decode cX8_measure 65 = .ok (.aload_n 0, 1) := by decide +kernel
theorem dX8_measure_66 : decode cX8_measure 66 = .ok (.getfield 44, 3) := by decide +kernel
theorem dX8_measure_69 : decode cX8_measure 69 = .ok (.ireturn, 1) := by decide +kernel
theorem dX8_measure_70 : decode cX8_measure 70 = .ok (.aload_n 0, 1) := by decide +kernel
theorem dX8_measure_71 : decode cX8_measure 71 = .ok (.getfield 47, 3) := by decide +kernel
theorem dX8_measure_74 : decode cX8_measure 74 = .ok (.ireturn, 1) := by decide +kernel
theorem dX8_sign_0 : decode cX8_sign 0 = .ok (.iload_n 1, 1) := by decide +kernel
theorem dX8_sign_1 : decode cX8_sign 1 = .ok (.ifCond .lt 19, 3) := by decide +kernel
theorem dX8_sign_4 : decode cX8_sign 4 = .ok (.iload_n 1, 1) := by decide +kernel
theorem dX8_sign_5 : decode cX8_sign 5 = .ok (.sipush 160, 3) := by decide +kernel
theorem dX8_sign_8 : decode cX8_sign 8 = .ok (.if_icmp .ge 12, 3) := by decide +kernel
theorem dX8_sign_11 : decode cX8_sign 11 = .ok (.aload_n 0, 1) := by decide +kernel
theorem dX8_sign_12 : decode cX8_sign 12 = .ok (.getfield 18, 3) := by decide +kernel
theorem dX8_sign_15 : decode cX8_sign 15 = .ok (.iload_n 1, 1) := by decide +kernel
theorem dX8_sign_16 : decode cX8_sign 16 = .ok (.iaload, 1) := by decide +kernel
theorem dX8_sign_17 : decode cX8_sign 17 = .ok (.goto 4, 3) := by decide +kernel
theorem dX8_sign_20 : decode cX8_sign 20 = .ok (.iconst (-1), 1) := by decide +kernel
theorem dX8_sign_21 : decode cX8_sign 21 = .ok (.ireturn, 1) := by decide +kernel
set_option maxRecDepth 20000 in
theorem ggX8_tellItems_X8_choose : GoodIn wsX8_tellItems wsX8_choose := goodIn_r _ [12, 1, 2, 13, 14, 15, 16, 17, 18, 19, 20, 21, 22, 23, 24, 25, 26, 27, 28, 29, 30, 31, 32, 33, 34, 35, 36, 37, 38, 39, 40, 41, 42, 43, 44, 45, 46, 47, 78, 79, 80, 81, 82, 83, 84, 85, 86, 87, 88, 89, 90, 91, 92, 93, 94, 95, 96, 97, 98, 99, 100, 101, 102, 103, 104, 105] (by decide +kernel) (by decide +kernel)
set_option maxRecDepth 20000 in
theorem gX8_tellItems_X8_choose : GoodIn wsX8_tellItems (wsV RX8 70 RX8 yX8_choose wsX8_choose) := goodIn_app (goodIn_of _ (by decide +kernel)) ggX8_tellItems_X8_choose
set_option maxRecDepth 20000 in
theorem ggX8_tellItems_X8_tellRepeat : GoodIn wsX8_tellItems wsX8_tellRepeat := goodIn_r _ [64, 65, 3, 4, 5, 6, 66, 67, 68, 11, 69, 58, 59, 60, 61, 62, 63, 70, 71, 72, 73, 74, 75, 76, 77, 51, 52, 53, 54, 55, 56, 57, 0, 1, 2, 7, 8, 9, 10, 12, 13, 14, 15, 16, 17, 18, 19, 20, 21, 22, 23, 24, 25, 26, 27, 28, 29, 30, 31, 32, 33, 34, 35, 36, 37, 38, 39, 40, 41, 42, 43, 44, 45, 46, 47, 48, 49, 50, 78, 79, 80, 81, 82, 83, 84, 85, 86, 87, 88, 89, 90, 91, 92, 93, 94, 95, 96, 97, 98, 99, 100, 101, 102, 103, 104, 105, 106, 107, 108] (by decide +kernel) (by decide +kernel)
set_option maxRecDepth 20000 in
theorem gX8_tellItems_X8_tellRepeat : GoodIn wsX8_tellItems (wsV RX8 78 RX8 yX8_tellRepeat wsX8_tellRepeat) := goodIn_app (goodIn_of _ (by decide +kernel)) ggX8_tellItems_X8_tellRepeat
set_option maxRecDepth 20000 in
theorem ggX8_tellItems_X7_letter : GoodIn wsX8_tellItems wsX7_letter := goodIn_r _ [55, 56, 57, 106, 107, 108] (by decide +kernel) (by decide +kernel)
set_option maxRecDepth 20000 in
theorem gX8_tellItems_X7_letter : GoodIn wsX8_tellItems (wsV RX8 88 RX7 yX7_letter wsX7_letter) := goodIn_app (goodIn_of _ (by decide +kernel)) ggX8_tellItems_X7_letter
set_option maxRecDepth 20000 in
theorem ggX8_tellItems_X8_put : GoodIn wsX8_tellItems wsX8_put := goodIn_r _ [61, 62, 63, 78, 79, 80, 81, 82, 83, 84, 85, 86, 87, 88, 89, 90, 91] (by decide +kernel) (by decide +kernel)
set_option maxRecDepth 20000 in
theorem gX8_tellItems_X8_put : GoodIn wsX8_tellItems (wsV RX8 91 RX8 yX8_put wsX8_put) := goodIn_app (goodIn_of _ (by decide +kernel)) ggX8_tellItems_X8_put
theorem dX8_tellItems_0 : decode cX8_tellItems 0 = .ok (.iconst 0, 1) := by decide +kernel
theorem dX8_tellItems_1 : decode cX8_tellItems 1 = .ok (.istore 6, 2) := by decide +kernel
theorem dX8_tellItems_3 : decode cX8_tellItems 3 = .ok (.iconst 0, 1) := by decide +kernel
theorem dX8_tellItems_4 : decode cX8_tellItems 4 = .ok (.istore 7, 2) := by decide +kernel
theorem dX8_tellItems_6 : decode cX8_tellItems 6 = .ok (.iload 4, 2) := by decide +kernel
theorem dX8_tellItems_8 : decode cX8_tellItems 8 = .ok (.istore 8, 2) := by decide +kernel
theorem dX8_tellItems_10 : decode cX8_tellItems 10 = .ok (.iload 8, 2) := by decide +kernel
theorem dX8_tellItems_12 : decode cX8_tellItems 12 = .ok (.iload 5, 2) := by decide +kernel
theorem dX8_tellItems_14 : decode cX8_tellItems 14 = .ok (.if_icmp .ge 88, 3) := by decide +kernel
theorem dX8_tellItems_17 : decode cX8_tellItems 17 = .ok (.iload 6, 2) := by decide +kernel
theorem dX8_tellItems_19 : decode cX8_tellItems 19 = .ok (.bipush 24, 2) := by decide +kernel
theorem dX8_tellItems_21 : decode cX8_tellItems 21 = .ok (.if_icmp .ge 81, 3) := by decide +kernel
theorem dX8_tellItems_24 : decode cX8_tellItems 24 = .ok (.aload_n 0, 1) := by decide +kernel
theorem dX8_tellItems_25 : decode cX8_tellItems 25 = .ok (.aload_n 1, 1) := by decide +kernel
theorem dX8_tellItems_26 : decode cX8_tellItems 26 = .ok (.aload_n 2, 1) := by decide +kernel
theorem dX8_tellItems_27 : decode cX8_tellItems 27 = .ok (.iload_n 3, 1) := by decide +kernel
theorem dX8_tellItems_28 : decode cX8_tellItems 28 = .ok (.iload 8, 2) := by decide +kernel
theorem dX8_tellItems_30 : decode cX8_tellItems 30 = .ok (.iload 5, 2) := by decide +kernel
theorem dX8_tellItems_32 : decode cX8_tellItems 32 = .ok (.invokevirtual 70, 3) := by decide +kernel
theorem dX8_tellItems_35 : decode cX8_tellItems 35 = .ok (.aload_n 0, 1) := by decide +kernel
theorem dX8_tellItems_36 : decode cX8_tellItems 36 = .ok (.getfield 50, 3) := by decide +kernel
theorem dX8_tellItems_39 : decode cX8_tellItems 39 = .ok (.istore 9, 2) := by decide +kernel
theorem dX8_tellItems_41 : decode cX8_tellItems 41 = .ok (.aload_n 0, 1) := by decide +kernel
theorem dX8_tellItems_42 : decode cX8_tellItems 42 = .ok (.getfield 53, 3) := by decide +kernel
theorem dX8_tellItems_45 : decode cX8_tellItems 45 = .ok (.ifCond .le 34, 3) := by decide +kernel
theorem dX8_tellItems_48 : decode cX8_tellItems 48 = .ok (.iload_n 3, 1) := by decide +kernel
theorem dX8_tellItems_49 : decode cX8_tellItems 49 = .ok (.ifCond .le 30, 3) := by decide +kernel
theorem dX8_tellItems_52 : decode cX8_tellItems 52 = .ok (.iload 7, 2) := by decide +kernel
theorem dX8_tellItems_54 : decode cX8_tellItems 54 = .ok (.iconst 1, 1) := by decide +kernel
theorem dX8_tellItems_55 : decode cX8_tellItems 55 = .ok (.aload_n 0, 1) := by decide +kernel
theorem dX8_tellItems_56 : decode cX8_tellItems 56 = .ok (.aload_n 1, 1) := by decide +kernel
theorem dX8_tellItems_57 : decode cX8_tellItems 57 = .ok (.aload_n 2, 1) := by decide +kernel
theorem dX8_tellItems_58 : decode cX8_tellItems 58 = .ok (.iload_n 3, 1) := by decide +kernel
theorem dX8_tellItems_59 : decode cX8_tellItems 59 = .ok (.iload 8, 2) := by decide +kernel
theorem dX8_tellItems_61 : decode cX8_tellItems 61 = .ok (.iload 9, 2) := by decide +kernel
theorem dX8_tellItems_63 : decode cX8_tellItems 63 = .ok (.aload_n 0, 1) := by decide +kernel
theorem dX8_tellItems_64 : decode cX8_tellItems 64 = .ok (.getfield 53, 3) := by decide +kernel
theorem dX8_tellItems_67 : decode cX8_tellItems 67 = .ok (.invokevirtual 78, 3) := by decide +kernel
theorem dX8_tellItems_70 : decode cX8_tellItems 70 = .ok (.iadd, 1) := by decide +kernel
theorem dX8_tellItems_71 : decode cX8_tellItems 71 = .ok (.invokestatic 82, 3) := by decide +kernel
theorem dX8_tellItems_74 : decode cX8_tellItems 74 = .ok (.istore 7, 2) := by decide +kernel
theorem dX8_tellItems_76 : decode cX8_tellItems 76 = .ok (.goto 16, 3) := by decide +kernel
theorem dX8_tellItems_79 : decode cX8_tellItems 79 = .ok (.aload_n 0, 1) := by decide +kernel
theorem dX8_tellItems_80 : decode cX8_tellItems 80 = .ok (.bipush 97, 2) := by decide +kernel
theorem dX8_tellItems_82 : decode cX8_tellItems 82 = .ok (.aload_n 1, 1) := by decide +kernel
theorem dX8_tellItems_83 : decode cX8_tellItems 83 = .ok (.iload 8, 2) := by decide +kernel
theorem dX8_tellItems_85 : decode cX8_tellItems 85 = .ok (.invokevirtual 88, 3) := by decide +kernel
theorem dX8_tellItems_88 : decode cX8_tellItems 88 = .ok (.iadd, 1) := by decide +kernel
theorem dX8_tellItems_89 : decode cX8_tellItems 89 = .ok (.invokevirtual 91, 3) := by decide +kernel
theorem dX8_tellItems_92 : decode cX8_tellItems 92 = .ok (.iload 9, 2) := by decide +kernel
theorem dX8_tellItems_94 : decode cX8_tellItems 94 = .ok (.istore 8, 2) := by decide +kernel
theorem dX8_tellItems_96 : decode cX8_tellItems 96 = .ok (.iinc 6 1, 3) := by decide +kernel
theorem dX8_tellItems_99 : decode cX8_tellItems 99 = .ok (.goto (-89), 3) := by decide +kernel
theorem dX8_tellItems_102 : decode cX8_tellItems 102 = .ok (.aload_n 0, 1) := by decide +kernel
theorem dX8_tellItems_103 : decode cX8_tellItems 103 = .ok (.iload 6, 2) := by decide +kernel
theorem dX8_tellItems_105 : decode cX8_tellItems 105 = .ok (.putfield 32, 3) := by decide +kernel
theorem dX8_tellItems_108 : decode cX8_tellItems 108 = .ok (.iload 7, 2) := by decide +kernel
theorem dX8_tellItems_110 : decode cX8_tellItems 110 = .ok (.ireturn, 1) := by decide +kernel
set_option maxRecDepth 20000 in
theorem ggX8_tellRepeat_X8_putNumber : GoodIn wsX8_tellRepeat wsX8_putNumber := goodIn_r _ [10, 11, 12, 13, 9, 14, 15, 16, 78, 79, 80, 81, 82, 83, 84, 85, 86, 87, 88, 89, 90, 91] (by decide +kernel) (by decide +kernel)
set_option maxRecDepth 20000 in
theorem gX8_tellRepeat_X8_putNumber : GoodIn wsX8_tellRepeat (wsV RX8 95 RX8 yX8_putNumber wsX8_putNumber) := goodIn_app (goodIn_of _ (by decide +kernel)) ggX8_tellRepeat_X8_putNumber
set_option maxRecDepth 20000 in
theorem ggX8_tellRepeat_X8_put : GoodIn wsX8_tellRepeat wsX8_put := goodIn_r _ [14, 15, 16, 78, 79, 80, 81, 82, 83, 84, 85, 86, 87, 88, 89, 90, 91] (by decide +kernel) (by decide +kernel)
set_option maxRecDepth 20000 in
theorem gX8_tellRepeat_X8_put : GoodIn wsX8_tellRepeat (wsV RX8 91 RX8 yX8_put wsX8_put) := goodIn_app (goodIn_of _ (by decide +kernel)) ggX8_tellRepeat_X8_put
set_option maxRecDepth 20000 in
theorem ggX8_tellRepeat_X8_tellItems : GoodIn wsX8_tellRepeat wsX8_tellItems := goodIn_r _ [32, 33, 34, 2, 3, 4, 5, 35, 36, 37, 38, 9, 39, 40, 41, 42, 43, 44, 45, 46, 47, 48, 49, 50, 51, 52, 53, 54, 55, 56, 57, 58, 59, 60, 61, 62, 63, 64, 65, 66, 67, 68, 69, 70, 71, 72, 73, 74, 75, 76, 77, 25, 26, 27, 28, 29, 30, 31, 11, 12, 13, 14, 15, 16, 0, 1, 6, 7, 8, 10, 17, 18, 19, 20, 21, 22, 23, 24, 78, 79, 80, 81, 82, 83, 84, 85, 86, 87, 88, 89, 90, 91, 92, 93, 94, 95, 96, 97, 98, 99, 100, 101, 102, 103, 104, 105, 106, 107, 108] (by decide +kernel) (by decide +kernel)
set_option maxRecDepth 20000 in
theorem gX8_tellRepeat_X8_tellItems : GoodIn wsX8_tellRepeat (wsV RX8 74 RX8 yX8_tellItems wsX8_tellItems) := goodIn_app (goodIn_of _ (by decide +kernel)) ggX8_tellRepeat_X8_tellItems
set_option maxRecDepth 20000 in
theorem ggX8_tellRepeat_X8_tellCorrections : GoodIn wsX8_tellRepeat wsX8_tellCorrections := goodIn_r _ [23, 24, 25, 26, 27, 28, 29, 30, 31, 11, 12, 13, 9, 14, 15, 16, 6, 7, 8, 10, 78, 79, 80, 81, 82, 83, 84, 85, 86, 87, 88, 89, 90, 91, 106, 107, 108] (by decide +kernel) (by decide +kernel)
set_option maxRecDepth 20000 in
theorem gX8_tellRepeat_X8_tellCorrections : GoodIn wsX8_tellRepeat (wsV RX8 98 RX8 yX8_tellCorrections wsX8_tellCorrections) := goodIn_app (goodIn_of _ (by decide +kernel)) ggX8_tellRepeat_X8_tellCorrections
theorem dX8_tellRepeat_0 : decode cX8_tellRepeat 0 = .ok (.aload_n 0, 1) := by decide +kernel
theorem dX8_tellRepeat_1 : decode cX8_tellRepeat 1 = .ok (.dup, 1) := by decide +kernel
theorem dX8_tellRepeat_2 : decode cX8_tellRepeat 2 = .ok (.getfield 38, 3) := by decide +kernel
theorem dX8_tellRepeat_5 : decode cX8_tellRepeat 5 = .ok (.iconst 1, 1) := by decide +kernel
theorem dX8_tellRepeat_6 : decode cX8_tellRepeat 6 = .ok (.iadd, 1) := by decide +kernel
theorem dX8_tellRepeat_7 : decode cX8_tellRepeat 7 = .ok (.putfield 38, 3) := by decide +kernel
theorem dX8_tellRepeat_10 : decode cX8_tellRepeat 10 = .ok (.aload_n 0, 1) := by decide +kernel
theorem dX8_tellRepeat_11 : decode cX8_tellRepeat 11 = .ok (.iload 6, 2) := by decide +kernel
theorem dX8_tellRepeat_13 : decode cX8_tellRepeat 13 = .ok (.ifCond .le 14, 3) := by decide +kernel
theorem dX8_tellRepeat_16 : decode cX8_tellRepeat 16 = .ok (.iload 5, 2) := by decide +kernel
theorem dX8_tellRepeat_18 : decode cX8_tellRepeat 18 = .ok (.iload 4, 2) := by decide +kernel
theorem dX8_tellRepeat_20 : decode cX8_tellRepeat 20 = .ok (.isub, 1) := by decide +kernel
theorem dX8_tellRepeat_21 : decode cX8_tellRepeat 21 = .ok (.iload 6, 2) := by decide +kernel
theorem dX8_tellRepeat_23 : decode cX8_tellRepeat 23 = .ok (.idiv, 1) := by decide +kernel
theorem dX8_tellRepeat_24 : decode cX8_tellRepeat 24 = .ok (.goto 4, 3) := by decide +kernel
theorem dX8_tellRepeat_27 : decode cX8_tellRepeat 27 = .ok (.iconst 1, 1) := by decide +kernel
theorem dX8_tellRepeat_28 : decode cX8_tellRepeat 28 = .ok (.invokevirtual 95, 3) := by decide +kernel
theorem dX8_tellRepeat_31 : decode cX8_tellRepeat 31 = .ok (.aload_n 0, 1) := by decide +kernel
theorem dX8_tellRepeat_32 : decode cX8_tellRepeat 32 = .ok (.bipush 40, 2) := by decide +kernel
theorem dX8_tellRepeat_34 : decode cX8_tellRepeat 34 = .ok (.invokevirtual 91, 3) := by decide +kernel
theorem dX8_tellRepeat_37 : decode cX8_tellRepeat 37 = .ok (.aload_n 0, 1) := by decide +kernel
theorem dX8_tellRepeat_38 : decode cX8_tellRepeat 38 = .ok (.aload_n 1, 1) := by decide +kernel
theorem dX8_tellRepeat_39 : decode cX8_tellRepeat 39 = .ok (.aload_n 2, 1) := by decide +kernel
theorem dX8_tellRepeat_40 : decode cX8_tellRepeat 40 = .ok (.iload_n 3, 1) := by decide +kernel
theorem dX8_tellRepeat_41 : decode cX8_tellRepeat 41 = .ok (.iconst 1, 1) := by decide +kernel
theorem dX8_tellRepeat_42 : decode cX8_tellRepeat 42 = .ok (.isub, 1) := by decide +kernel
theorem dX8_tellRepeat_43 : decode cX8_tellRepeat 43 = .ok (.iload 4, 2) := by decide +kernel
theorem dX8_tellRepeat_45 : decode cX8_tellRepeat 45 = .ok (.iload 4, 2) := by decide +kernel
theorem dX8_tellRepeat_47 : decode cX8_tellRepeat 47 = .ok (.iload 6, 2) := by decide +kernel
theorem dX8_tellRepeat_49 : decode cX8_tellRepeat 49 = .ok (.iadd, 1) := by decide +kernel
theorem dX8_tellRepeat_50 : decode cX8_tellRepeat 50 = .ok (.invokevirtual 74, 3) := by decide +kernel
theorem dX8_tellRepeat_53 : decode cX8_tellRepeat 53 = .ok (.istore 7, 2) := by decide +kernel
theorem dX8_tellRepeat_55 : decode cX8_tellRepeat 55 = .ok (.aload_n 0, 1) := by decide +kernel
theorem dX8_tellRepeat_56 : decode cX8_tellRepeat 56 = .ok (.bipush 41, 2) := by decide +kernel
theorem dX8_tellRepeat_58 : decode cX8_tellRepeat 58 = .ok (.invokevirtual 91, 3) := by decide +kernel
theorem dX8_tellRepeat_61 : decode cX8_tellRepeat 61 = .ok (.iload 4, 2) := by decide +kernel
theorem dX8_tellRepeat_63 : decode cX8_tellRepeat 63 = .ok (.iload 6, 2) := by decide +kernel
theorem dX8_tellRepeat_65 : decode cX8_tellRepeat 65 = .ok (.iadd, 1) := by decide +kernel
theorem dX8_tellRepeat_66 : decode cX8_tellRepeat 66 = .ok (.istore 8, 2) := by decide +kernel
theorem dX8_tellRepeat_68 : decode cX8_tellRepeat 68 = .ok (.iload 8, 2) := by decide +kernel
theorem dX8_tellRepeat_70 : decode cX8_tellRepeat 70 = .ok (.iload 5, 2) := by decide +kernel
theorem dX8_tellRepeat_72 : decode cX8_tellRepeat 72 = .ok (.if_icmp .ge 28, 3) := by decide +kernel
theorem dX8_tellRepeat_75 : decode cX8_tellRepeat 75 = .ok (.aload_n 0, 1) := by decide +kernel
theorem dX8_tellRepeat_76 : decode cX8_tellRepeat 76 = .ok (.aload_n 1, 1) := by decide +kernel
theorem dX8_tellRepeat_77 : decode cX8_tellRepeat 77 = .ok (.iload 4, 2) := by decide +kernel
theorem dX8_tellRepeat_79 : decode cX8_tellRepeat 79 = .ok (.iload 8, 2) := by decide +kernel
theorem dX8_tellRepeat_81 : decode cX8_tellRepeat 81 = .ok (.iload 6, 2) := by decide +kernel
theorem dX8_tellRepeat_83 : decode cX8_tellRepeat 83 = .ok (.invokevirtual 98, 3) := by decide +kernel
theorem dX8_tellRepeat_86 : decode cX8_tellRepeat 86 = .ok (.iload 8, 2) := by decide +kernel
theorem dX8_tellRepeat_88 : decode cX8_tellRepeat 88 = .ok (.iload 6, 2) := by decide +kernel
theorem dX8_tellRepeat_90 : decode cX8_tellRepeat 90 = .ok (.iconst 1, 1) := by decide +kernel
theorem dX8_tellRepeat_91 : decode cX8_tellRepeat 91 = .ok (.invokestatic 82, 3) := by decide +kernel
theorem dX8_tellRepeat_94 : decode cX8_tellRepeat 94 = .ok (.iadd, 1) := by decide +kernel
theorem dX8_tellRepeat_95 : decode cX8_tellRepeat 95 = .ok (.istore 8, 2) := by decide +kernel
theorem dX8_tellRepeat_97 : decode cX8_tellRepeat 97 = .ok (.goto (-29), 3) := by decide +kernel
theorem dX8_tellRepeat_100 : decode cX8_tellRepeat 100 = .ok (.iload 7, 2) := by decide +kernel
theorem dX8_tellRepeat_102 : decode cX8_tellRepeat 102 = .ok (.ireturn, 1) := by decide +kernel
set_option maxRecDepth 20000 in
theorem ggX8_tellCorrections_X7_letter : GoodIn wsX8_tellCorrections wsX7_letter := goodIn_r _ [6, 7, 8, 34, 35, 36] (by decide +kernel) (by decide +kernel)
set_option maxRecDepth 20000 in
theorem gX8_tellCorrections_X7_letter : GoodIn wsX8_tellCorrections (wsV RX8 88 RX7 yX7_letter wsX7_letter) := goodIn_app (goodIn_of _ (by decide +kernel)) ggX8_tellCorrections_X7_letter
set_option maxRecDepth 20000 in
theorem ggX8_tellCorrections_X8_put : GoodIn wsX8_tellCorrections wsX8_put := goodIn_r _ [13, 14, 15, 20, 21, 22, 23, 24, 25, 26, 27, 28, 29, 30, 31, 32, 33] (by decide +kernel) (by decide +kernel)
set_option maxRecDepth 20000 in
theorem gX8_tellCorrections_X8_put : GoodIn wsX8_tellCorrections (wsV RX8 91 RX8 yX8_put wsX8_put) := goodIn_app (goodIn_of _ (by decide +kernel)) ggX8_tellCorrections_X8_put
set_option maxRecDepth 20000 in
theorem ggX8_tellCorrections_X8_putNumber : GoodIn wsX8_tellCorrections wsX8_putNumber := goodIn_r _ [19, 9, 10, 11, 12, 13, 14, 15, 20, 21, 22, 23, 24, 25, 26, 27, 28, 29, 30, 31, 32, 33] (by decide +kernel) (by decide +kernel)
set_option maxRecDepth 20000 in
theorem gX8_tellCorrections_X8_putNumber : GoodIn wsX8_tellCorrections (wsV RX8 95 RX8 yX8_putNumber wsX8_putNumber) := goodIn_app (goodIn_of _ (by decide +kernel)) ggX8_tellCorrections_X8_putNumber
theorem dX8_tellCorrections_0 : decode cX8_tellCorrections 0 = .ok (.iconst 0, 1) := by decide +kernel
theorem dX8_tellCorrections_1 : decode cX8_tellCorrections 1 = .ok (.istore 5, 2) := by decide +kernel
theorem dX8_tellCorrections_3 : decode cX8_tellCorrections 3 = .ok (.iload 5, 2) := by decide +kernel
theorem dX8_tellCorrections_5 : decode cX8_tellCorrections 5 = .ok (.iload 4, 2) := by decide +kernel
theorem dX8_tellCorrections_7 : decode cX8_tellCorrections 7 = .ok (.if_icmp .ge 79, 3) := by decide +kernel
theorem dX8_tellCorrections_10 : decode cX8_tellCorrections 10 = .ok (.aload_n 1, 1) := by decide +kernel
theorem dX8_tellCorrections_11 : decode cX8_tellCorrections 11 = .ok (.iload_n 3, 1) := by decide +kernel
theorem dX8_tellCorrections_12 : decode cX8_tellCorrections 12 = .ok (.iload 5, 2) := by decide +kernel
theorem dX8_tellCorrections_14 : decode cX8_tellCorrections 14 = .ok (.iadd, 1) := by decide +kernel
theorem dX8_tellCorrections_15 : decode cX8_tellCorrections 15 = .ok (.invokevirtual 88, 3) := by decide +kernel
theorem dX8_tellCorrections_18 : decode cX8_tellCorrections 18 = .ok (.istore 6, 2) := by decide +kernel
theorem dX8_tellCorrections_20 : decode cX8_tellCorrections 20 = .ok (.iload 6, 2) := by decide +kernel
theorem dX8_tellCorrections_22 : decode cX8_tellCorrections 22 = .ok (.aload_n 1, 1) := by decide +kernel
theorem dX8_tellCorrections_23 : decode cX8_tellCorrections 23 = .ok (.iload_n 2, 1) := by decide +kernel
theorem dX8_tellCorrections_24 : decode cX8_tellCorrections 24 = .ok (.iload 5, 2) := by decide +kernel
theorem dX8_tellCorrections_26 : decode cX8_tellCorrections 26 = .ok (.iadd, 1) := by decide +kernel
theorem dX8_tellCorrections_27 : decode cX8_tellCorrections 27 = .ok (.invokevirtual 88, 3) := by decide +kernel
theorem dX8_tellCorrections_30 : decode cX8_tellCorrections 30 = .ok (.if_icmp .eq 50, 3) := by decide +kernel
theorem dX8_tellCorrections_33 : decode cX8_tellCorrections 33 = .ok (.aload_n 0, 1) := by decide +kernel
theorem dX8_tellCorrections_34 : decode cX8_tellCorrections 34 = .ok (.dup, 1) := by decide +kernel
theorem dX8_tellCorrections_35 : decode cX8_tellCorrections 35 = .ok (.getfield 41, 3) := by decide +kernel
theorem dX8_tellCorrections_38 : decode cX8_tellCorrections 38 = .ok (.iconst 1, 1) := by decide +kernel
theorem dX8_tellCorrections_39 : decode cX8_tellCorrections 39 = .ok (.iadd, 1) := by decide +kernel
theorem dX8_tellCorrections_40 : decode cX8_tellCorrections 40 = .ok (.putfield 41, 3) := by decide +kernel
theorem dX8_tellCorrections_43 : decode cX8_tellCorrections 43 = .ok (.aload_n 0, 1) := by decide +kernel
theorem dX8_tellCorrections_44 : decode cX8_tellCorrections 44 = .ok (.bipush 91, 2) := by decide +kernel
theorem dX8_tellCorrections_46 : decode cX8_tellCorrections 46 = .ok (.invokevirtual 91, 3) := by decide +kernel
theorem dX8_tellCorrections_49 : decode cX8_tellCorrections 49 = .ok (.aload_n 0, 1) := by decide +kernel
theorem dX8_tellCorrections_50 : decode cX8_tellCorrections 50 = .ok (.iload_n 3, 1) := by decide +kernel
theorem dX8_tellCorrections_51 : decode cX8_tellCorrections 51 = .ok (.iload 5, 2) := by decide +kernel
theorem dX8_tellCorrections_53 : decode cX8_tellCorrections 53 = .ok (.iadd, 1) := by decide +kernel
theorem dX8_tellCorrections_54 : decode cX8_tellCorrections 54 = .ok (.iload_n 2, 1) := by decide +kernel
theorem dX8_tellCorrections_55 : decode cX8_tellCorrections 55 = .ok (.isub, 1) := by decide +kernel
theorem dX8_tellCorrections_56 : decode cX8_tellCorrections 56 = .ok (.invokevirtual 95, 3) := by decide +kernel
theorem dX8_tellCorrections_59 : decode cX8_tellCorrections 59 = .ok (.aload_n 0, 1) := by decide +kernel
theorem dX8_tellCorrections_60 : decode cX8_tellCorrections 60 = .ok (.bipush 44, 2) := by decide +kernel
theorem dX8_tellCorrections_62 : decode cX8_tellCorrections 62 = .ok (.invokevirtual 91, 3) := by decide +kernel
theorem dX8_tellCorrections_65 : decode cX8_tellCorrections 65 = .ok (.aload_n 0, 1) := by decide +kernel
theorem dX8_tellCorrections_66 : decode cX8_tellCorrections 66 = .ok (.bipush 97, 2) := by decide +kernel
theorem dX8_tellCorrections_68 : decode cX8_tellCorrections 68 = .ok (.iload 6, 2) := by decide +kernel
theorem dX8_tellCorrections_70 : decode cX8_tellCorrections 70 = .ok (.iadd, 1) := by decide +kernel
theorem dX8_tellCorrections_71 : decode cX8_tellCorrections 71 = .ok (.invokevirtual 91, 3) := by decide +kernel
theorem dX8_tellCorrections_74 : decode cX8_tellCorrections 74 = .ok (.aload_n 0, 1) := by decide +kernel
theorem dX8_tellCorrections_75 : decode cX8_tellCorrections 75 = .ok (.bipush 93, 2) := by decide +kernel
theorem dX8_tellCorrections_77 : decode cX8_tellCorrections 77 = .ok (.invokevirtual 91, 3) := by decide +kernel
theorem dX8_tellCorrections_80 : decode cX8_tellCorrections 80 = .ok (.iinc 5 1, 3) := by decide +kernel
theorem dX8_tellCorrections_83 : decode cX8_tellCorrections 83 = .ok (.goto (-80), 3) := by decide +kernel
theorem dX8_tellCorrections_86 : decode cX8_tellCorrections 86 = .ok (.return_, 1) := by decide +kernel
set_option maxRecDepth 20000 in
theorem ggX8_choose_X3_price : GoodIn wsX8_choose wsX3_price := goodIn_r _ [8, 9, 10, 11, 12, 62, 63, 64, 65] (by decide +kernel) (by decide +kernel)
set_option maxRecDepth 20000 in
theorem gX8_choose_X3_price : GoodIn wsX8_choose (wsV RX8 102 RX3 yX3_price wsX3_price) := goodIn_app (goodIn_of _ (by decide +kernel)) ggX8_choose_X3_price
set_option maxRecDepth 20000 in
theorem ggX8_choose_X5_find : GoodIn wsX8_choose wsX5_find := goodIn_r _ [17, 18, 19, 20, 21, 22, 16, 23, 24, 25, 26, 27, 28, 29, 30, 31, 32, 33, 34, 35, 36, 37, 52, 53, 54, 55, 56, 57, 58, 59, 60, 61] (by decide +kernel) (by decide +kernel)
set_option maxRecDepth 20000 in
theorem gX8_choose_X5_find : GoodIn wsX8_choose (wsV RX8 108 RX5 yX5_find wsX5_find) := goodIn_app (goodIn_of _ (by decide +kernel)) ggX8_choose_X5_find
theorem dX8_choose_0 : decode cX8_choose 0 = .ok (.aload_n 0, 1) := by decide +kernel
theorem dX8_choose_1 : decode cX8_choose 1 = .ok (.iload 4, 2) := by decide +kernel
theorem dX8_choose_3 : decode cX8_choose 3 = .ok (.iconst 1, 1) := by decide +kernel
theorem dX8_choose_4 : decode cX8_choose 4 = .ok (.iadd, 1) := by decide +kernel
theorem dX8_choose_5 : decode cX8_choose 5 = .ok (.putfield 50, 3) := by decide +kernel
theorem dX8_choose_8 : decode cX8_choose 8 = .ok (.aload_n 0, 1) := by decide +kernel
theorem dX8_choose_9 : decode cX8_choose 9 = .ok (.iconst 0, 1) := by decide +kernel
theorem dX8_choose_10 : decode cX8_choose 10 = .ok (.putfield 53, 3) := by decide +kernel
theorem dX8_choose_13 : decode cX8_choose 13 = .ok (.iload_n 3, 1) := by decide +kernel
theorem dX8_choose_14 : decode cX8_choose 14 = .ok (.ifCond .gt 4, 3) := by decide +kernel
theorem dX8_choose_17 : decode cX8_choose 17 = .ok (.return_, 1) := by decide +kernel
theorem dX8_choose_18 : decode cX8_choose 18 = .ok (.aload_n 2, 1) := by decide +kernel
theorem dX8_choose_19 : decode cX8_choose 19 = .ok (.iload_n 3, 1) := by decide +kernel
theorem dX8_choose_20 : decode cX8_choose 20 = .ok (.iload 4, 2) := by decide +kernel
theorem dX8_choose_22 : decode cX8_choose 22 = .ok (.iload 5, 2) := by decide +kernel
theorem dX8_choose_24 : decode cX8_choose 24 = .ok (.invokevirtual 102, 3) := by decide +kernel
theorem dX8_choose_27 : decode cX8_choose 27 = .ok (.istore 6, 2) := by decide +kernel
theorem dX8_choose_29 : decode cX8_choose 29 = .ok (.aload_n 0, 1) := by decide +kernel
theorem dX8_choose_30 : decode cX8_choose 30 = .ok (.getfield 12, 3) := by decide +kernel
theorem dX8_choose_33 : decode cX8_choose 33 = .ok (.iload 4, 2) := by decide +kernel
theorem dX8_choose_35 : decode cX8_choose 35 = .ok (.invokevirtual 108, 3) := by decide +kernel
theorem dX8_choose_38 : decode cX8_choose 38 = .ok (.iconst 0, 1) := by decide +kernel
theorem dX8_choose_39 : decode cX8_choose 39 = .ok (.istore 7, 2) := by decide +kernel
theorem dX8_choose_41 : decode cX8_choose 41 = .ok (.iload 7, 2) := by decide +kernel
theorem dX8_choose_43 : decode cX8_choose 43 = .ok (.aload_n 0, 1) := by decide +kernel
theorem dX8_choose_44 : decode cX8_choose 44 = .ok (.getfield 12, 3) := by decide +kernel
theorem dX8_choose_47 : decode cX8_choose 47 = .ok (.getfield 111, 3) := by decide +kernel
theorem dX8_choose_50 : decode cX8_choose 50 = .ok (.if_icmp .ge 112, 3) := by decide +kernel
theorem dX8_choose_53 : decode cX8_choose 53 = .ok (.iload 7, 2) := by decide +kernel
theorem dX8_choose_55 : decode cX8_choose 55 = .ok (.bipush 60, 2) := by decide +kernel
theorem dX8_choose_57 : decode cX8_choose 57 = .ok (.if_icmp .ge 105, 3) := by decide +kernel
theorem dX8_choose_60 : decode cX8_choose 60 = .ok (.aload_n 0, 1) := by decide +kernel
theorem dX8_choose_61 : decode cX8_choose 61 = .ok (.getfield 12, 3) := by decide +kernel
theorem dX8_choose_64 : decode cX8_choose 64 = .ok (.getfield 114, 3) := by decide +kernel
theorem dX8_choose_67 : decode cX8_choose 67 = .ok (.iload 7, 2) := by decide +kernel
theorem dX8_choose_69 : decode cX8_choose 69 = .ok (.iaload, 1) := by decide +kernel
theorem dX8_choose_70 : decode cX8_choose 70 = .ok (.istore 8, 2) := by decide +kernel
theorem dX8_choose_72 : decode cX8_choose 72 = .ok (.aload_n 0, 1) := by decide +kernel
theorem dX8_choose_73 : decode cX8_choose 73 = .ok (.getfield 12, 3) := by decide +kernel
theorem dX8_choose_76 : decode cX8_choose 76 = .ok (.getfield 117, 3) := by decide +kernel
theorem dX8_choose_79 : decode cX8_choose 79 = .ok (.iload 7, 2) := by decide +kernel
theorem dX8_choose_81 : decode cX8_choose 81 = .ok (.iaload, 1) := by decide +kernel
theorem dX8_choose_82 : decode cX8_choose 82 = .ok (.istore 9, 2) := by decide +kernel
theorem dX8_choose_84 : decode cX8_choose 84 = .ok (.aload_n 0, 1) := by decide +kernel
theorem dX8_choose_85 : decode cX8_choose 85 = .ok (.getfield 12, 3) := by decide +kernel
theorem dX8_choose_88 : decode cX8_choose 88 = .ok (.getfield 120, 3) := by decide +kernel
theorem dX8_choose_91 : decode cX8_choose 91 = .ok (.iload 7, 2) := by decide +kernel
theorem dX8_choose_93 : decode cX8_choose 93 = .ok (.iaload, 1) := by decide +kernel
theorem dX8_choose_94 : decode cX8_choose 94 = .ok (.aload_n 2, 1) := by decide +kernel
theorem dX8_choose_95 : decode cX8_choose 95 = .ok (.iload_n 3, 1) := by decide +kernel
theorem dX8_choose_96 : decode cX8_choose 96 = .ok (.iconst 1, 1) := by decide +kernel
theorem dX8_choose_97 : decode cX8_choose 97 = .ok (.isub, 1) := by decide +kernel
theorem dX8_choose_98 : decode cX8_choose 98 = .ok (.iload 4, 2) := by decide +kernel
theorem dX8_choose_100 : decode cX8_choose 100 = .ok (.iload 4, 2) := by decide +kernel
theorem dX8_choose_102 : decode cX8_choose 102 = .ok (.iload 9, 2) := by decide +kernel
theorem dX8_choose_104 : decode cX8_choose 104 = .ok (.iadd, 1) := by decide +kernel
theorem dX8_choose_105 : decode cX8_choose 105 = .ok (.invokevirtual 102, 3) := by decide +kernel
theorem dX8_choose_108 : decode cX8_choose 108 = .ok (.iadd, 1) := by decide +kernel
theorem dX8_choose_109 : decode cX8_choose 109 = .ok (.istore 10, 2) := by decide +kernel
theorem dX8_choose_111 : decode cX8_choose 111 = .ok (.iload 8, 2) := by decide +kernel
theorem dX8_choose_113 : decode cX8_choose 113 = .ok (.aload_n 0, 1) := by decide +kernel
theorem dX8_choose_114 : decode cX8_choose 114 = .ok (.getfield 50, 3) := by decide +kernel
theorem dX8_choose_117 : decode cX8_choose 117 = .ok (.if_icmp .le 39, 3) := by decide +kernel
theorem dX8_choose_120 : decode cX8_choose 120 = .ok (.iload 8, 2) := by decide +kernel
theorem dX8_choose_122 : decode cX8_choose 122 = .ok (.iload 5, 2) := by decide +kernel
theorem dX8_choose_124 : decode cX8_choose 124 = .ok (.if_icmp .gt 32, 3) := by decide +kernel
theorem dX8_choose_127 : decode cX8_choose 127 = .ok (.iload 10, 2) := by decide +kernel
theorem dX8_choose_129 : decode cX8_choose 129 = .ok (.aload_n 2, 1) := by decide +kernel
theorem dX8_choose_130 : decode cX8_choose 130 = .ok (.iload_n 3, 1) := by decide +kernel
theorem dX8_choose_131 : decode cX8_choose 131 = .ok (.iload 8, 2) := by decide +kernel
theorem dX8_choose_133 : decode cX8_choose 133 = .ok (.iload 5, 2) := by decide +kernel
theorem dX8_choose_135 : decode cX8_choose 135 = .ok (.invokevirtual 102, 3) := by decide +kernel
theorem dX8_choose_138 : decode cX8_choose 138 = .ok (.iadd, 1) := by decide +kernel
theorem dX8_choose_139 : decode cX8_choose 139 = .ok (.iload 6, 2) := by decide +kernel
theorem dX8_choose_141 : decode cX8_choose 141 = .ok (.if_icmp .ne 15, 3) := by decide +kernel
theorem dX8_choose_144 : decode cX8_choose 144 = .ok (.aload_n 0, 1) := by decide +kernel
theorem dX8_choose_145 : decode cX8_choose 145 = .ok (.iload 8, 2) := by decide +kernel
theorem dX8_choose_147 : decode cX8_choose 147 = .ok (.putfield 50, 3) := by decide +kernel
theorem dX8_choose_150 : decode cX8_choose 150 = .ok (.aload_n 0, 1) := by decide +kernel
theorem dX8_choose_151 : decode cX8_choose 151 = .ok (.iload 9, 2) := by decide +kernel
theorem dX8_choose_153 : decode cX8_choose 153 = .ok (.putfield 53, 3) := by decide +kernel
theorem dX8_choose_156 : decode cX8_choose 156 = .ok (.iinc 7 1, 3) := by decide +kernel
theorem dX8_choose_159 : decode cX8_choose 159 = .ok (.goto (-118), 3) := by decide +kernel
theorem dX8_choose_162 : decode cX8_choose 162 = .ok (.return_, 1) := by decide +kernel
set_option maxRecDepth 20000 in
theorem ggX8_putNumber_X8_put : GoodIn wsX8_putNumber wsX8_put := goodIn_r _ [5, 6, 7, 8, 9, 10, 11, 12, 13, 14, 15, 16, 17, 18, 19, 20, 21] (by decide +kernel) (by decide +kernel)
set_option maxRecDepth 20000 in
theorem gX8_putNumber_X8_put : GoodIn wsX8_putNumber (wsV RX8 91 RX8 yX8_put wsX8_put) := goodIn_app (goodIn_of _ (by decide +kernel)) ggX8_putNumber_X8_put
theorem dX8_putNumber_0 : decode cX8_putNumber 0 = .ok (.iload_n 1, 1) := by decide +kernel
theorem dX8_putNumber_1 : decode cX8_putNumber 1 = .ok (.bipush 10, 2) := by decide +kernel
theorem dX8_putNumber_3 : decode cX8_putNumber 3 = .ok (.if_icmp .lt 14, 3) := by decide +kernel
theorem dX8_putNumber_6 : decode cX8_putNumber 6 = .ok (.aload_n 0, 1) := by decide +kernel
theorem dX8_putNumber_7 : decode cX8_putNumber 7 = .ok (.bipush 48, 2) := by decide +kernel
theorem dX8_putNumber_9 : decode cX8_putNumber 9 = .ok (.iload_n 1, 1) := by decide +kernel
theorem dX8_putNumber_10 : decode cX8_putNumber 10 = .ok (.bipush 10, 2) := by decide +kernel
theorem dX8_putNumber_12 : decode cX8_putNumber 12 = .ok (.idiv, 1) := by decide +kernel
theorem dX8_putNumber_13 : decode cX8_putNumber 13 = .ok (.iadd, 1) := by decide +kernel
theorem dX8_putNumber_14 : decode cX8_putNumber 14 = .ok (.invokevirtual 91, 3) := by decide +kernel
theorem dX8_putNumber_17 : decode cX8_putNumber 17 = .ok (.aload_n 0, 1) := by decide +kernel
theorem dX8_putNumber_18 : decode cX8_putNumber 18 = .ok (.bipush 48, 2) := by decide +kernel
theorem dX8_putNumber_20 : decode cX8_putNumber 20 = .ok (.iload_n 1, 1) := by decide +kernel
theorem dX8_putNumber_21 : decode cX8_putNumber 21 = .ok (.bipush 10, 2) := by decide +kernel
theorem dX8_putNumber_23 : decode cX8_putNumber 23 = .ok (.irem, 1) := by decide +kernel
theorem dX8_putNumber_24 : decode cX8_putNumber 24 = .ok (.iadd, 1) := by decide +kernel
theorem dX8_putNumber_25 : decode cX8_putNumber 25 = .ok (.invokevirtual 91, 3) := by decide +kernel
theorem dX8_putNumber_28 : decode cX8_putNumber 28 = .ok (.return_, 1) := by decide +kernel
theorem dX8_put_0 : decode cX8_put 0 = .ok (.aload_n 0, 1) := by decide +kernel
theorem dX8_put_1 : decode cX8_put 1 = .ok (.getfield 22, 3) := by decide +kernel
theorem dX8_put_4 : decode cX8_put 4 = .ok (.ifCond .lt 33, 3) := by decide +kernel
theorem dX8_put_7 : decode cX8_put 7 = .ok (.aload_n 0, 1) := by decide +kernel
theorem dX8_put_8 : decode cX8_put 8 = .ok (.getfield 22, 3) := by decide +kernel
theorem dX8_put_11 : decode cX8_put 11 = .ok (.sipush 160, 3) := by decide +kernel
theorem dX8_put_14 : decode cX8_put 14 = .ok (.if_icmp .ge 23, 3) := by decide +kernel
theorem dX8_put_17 : decode cX8_put 17 = .ok (.aload_n 0, 1) := by decide +kernel
theorem dX8_put_18 : decode cX8_put 18 = .ok (.getfield 18, 3) := by decide +kernel
theorem dX8_put_21 : decode cX8_put 21 = .ok (.aload_n 0, 1) := by decide +kernel
theorem dX8_put_22 : decode cX8_put 22 = .ok (.getfield 22, 3) := by decide +kernel
theorem dX8_put_25 : decode cX8_put 25 = .ok (.iload_n 1, 1) := by decide +kernel
theorem dX8_put_26 : decode cX8_put 26 = .ok (.iastore, 1) := by decide +kernel
theorem dX8_put_27 : decode cX8_put 27 = .ok (.aload_n 0, 1) := by decide +kernel
theorem dX8_put_28 : decode cX8_put 28 = .ok (.dup, 1) := by decide +kernel
theorem dX8_put_29 : decode cX8_put 29 = .ok (.getfield 22, 3) := by decide +kernel
theorem dX8_put_32 : decode cX8_put 32 = .ok (.iconst 1, 1) := by decide +kernel
theorem dX8_put_33 : decode cX8_put 33 = .ok (.iadd, 1) := by decide +kernel
theorem dX8_put_34 : decode cX8_put 34 = .ok (.putfield 22, 3) := by decide +kernel
theorem dX8_put_37 : decode cX8_put 37 = .ok (.return_, 1) := by decide +kernel
set_option maxRecDepth 20000 in
theorem ggX9_init_X7_init : GoodIn wsX9_init wsX7_init := goodIn_r _ [19, 20, 2, 3, 21, 22, 23, 24, 51, 52, 53] (by decide +kernel) (by decide +kernel)
set_option maxRecDepth 20000 in
theorem gX9_init_X7_init : GoodIn wsX9_init (wsX7_init) := ggX9_init_X7_init
set_option maxRecDepth 20000 in
theorem ggX9_init_X3_init : GoodIn wsX9_init wsX3_init := goodIn_r _ [26, 21, 27, 28, 29, 30, 31, 32, 2, 3, 33, 34, 35, 36, 37, 38, 39, 40, 41, 42, 43, 44, 45, 46, 47, 48, 49, 50, 61, 62, 63, 64, 65, 66, 67, 68, 69, 70, 71, 72, 73, 74, 75, 76, 77, 78] (by decide +kernel) (by decide +kernel)
set_option maxRecDepth 20000 in
theorem gX9_init_X3_init_n20 : GoodIn wsX9_init (wsX3_init) := ggX9_init_X3_init
theorem dX9_init_0 : decode cX9_init 0 = .ok (.aload_n 0, 1) := by decide +kernel
theorem dX9_init_1 : decode cX9_init 1 = .ok (.invokespecial 3, 3) := by decide +kernel
theorem dX9_init_4 : decode cX9_init 4 = .ok (.aload_n 0, 1) := by decide +kernel
theorem dX9_init_5 : decode cX9_init 5 = .ok (.new 9, 3) := by decide +kernel
theorem dX9_init_8 : decode cX9_init 8 = .ok (.dup, 1) := by decide +kernel
theorem dX9_init_9 : decode cX9_init 9 = .ok (.invokespecial 11, 3) := by decide +kernel
theorem dX9_init_12 : decode cX9_init 12 = .ok (.putfield 12, 3) := by decide +kernel
theorem dX9_init_15 : decode cX9_init 15 = .ok (.aload_n 0, 1) := by decide +kernel
theorem dX9_init_16 : decode cX9_init 16 = .ok (.new 18, 3) := by decide +kernel
theorem dX9_init_19 : decode cX9_init 19 = .ok (.dup, 1) := by decide +kernel
theorem dX9_init_20 : decode cX9_init 20 = .ok (.invokespecial 20, 3) := by decide +kernel
theorem dX9_init_23 : decode cX9_init 23 = .ok (.putfield 21, 3) := by decide +kernel
theorem dX9_init_26 : decode cX9_init 26 = .ok (.aload_n 0, 1) := by decide +kernel
theorem dX9_init_27 : decode cX9_init 27 = .ok (.iconst 0, 1) := by decide +kernel
theorem dX9_init_28 : decode cX9_init 28 = .ok (.putfield 25, 3) := by decide +kernel
theorem dX9_init_31 : decode cX9_init 31 = .ok (.aload_n 0, 1) := by decide +kernel
theorem dX9_init_32 : decode cX9_init 32 = .ok (.iconst 0, 1) := by decide +kernel
theorem dX9_init_33 : decode cX9_init 33 = .ok (.putfield 29, 3) := by decide +kernel
theorem dX9_init_36 : decode cX9_init 36 = .ok (.aload_n 0, 1) := by decide +kernel
theorem dX9_init_37 : decode cX9_init 37 = .ok (.iconst 0, 1) := by decide +kernel
theorem dX9_init_38 : decode cX9_init 38 = .ok (.putfield 32, 3) := by decide +kernel
theorem dX9_init_41 : decode cX9_init 41 = .ok (.aload_n 0, 1) := by decide +kernel
theorem dX9_init_42 : decode cX9_init 42 = .ok (.iconst 0, 1) := by decide +kernel
theorem dX9_init_43 : decode cX9_init 43 = .ok (.putfield 36, 3) := by decide +kernel
theorem dX9_init_46 : decode cX9_init 46 = .ok (.aload_n 0, 1) := by decide +kernel
theorem dX9_init_47 : decode cX9_init 47 = .ok (.iconst 0, 1) := by decide +kernel
theorem dX9_init_48 : decode cX9_init 48 = .ok (.putfield 39, 3) := by decide +kernel
theorem dX9_init_51 : decode cX9_init 51 = .ok (.return_, 1) := by decide +kernel
set_option maxRecDepth 20000 in
theorem ggX9_priceWith_X7_copyFrom : GoodIn wsX9_priceWith wsX7_copyFrom := goodIn_r _ [7, 8, 9, 10, 117, 118, 119] (by decide +kernel) (by decide +kernel)
set_option maxRecDepth 20000 in
theorem gX9_priceWith_X7_copyFrom : GoodIn wsX9_priceWith (wsV RX9 42 RX7 yX7_copyFrom wsX7_copyFrom) := goodIn_app (goodIn_of _ (by decide +kernel)) ggX9_priceWith_X7_copyFrom
set_option maxRecDepth 20000 in
theorem ggX9_priceWith_X7_putLetter : GoodIn wsX9_priceWith wsX7_putLetter := goodIn_r _ [14, 10, 8, 117, 118, 119] (by decide +kernel) (by decide +kernel)
set_option maxRecDepth 20000 in
theorem gX9_priceWith_X7_putLetter : GoodIn wsX9_priceWith (wsV RX9 46 RX7 yX7_putLetter wsX7_putLetter) := goodIn_app (goodIn_of _ (by decide +kernel)) ggX9_priceWith_X7_putLetter
set_option maxRecDepth 20000 in
theorem ggX9_priceWith_X2_fill : GoodIn wsX9_priceWith wsX2_fill := goodIn_r _ [20, 21, 22, 23, 24, 25, 26, 27, 28, 29, 30, 31, 32, 33, 34, 35, 36, 37, 38, 39, 6, 40, 9, 41, 42, 43, 44, 10, 8, 45, 46, 47, 48, 49, 50, 51, 52, 53, 54, 55, 56, 57, 58, 59, 60, 61, 62, 63, 64, 65, 66, 67, 68, 69, 70, 71, 72, 73, 74, 75, 76, 77, 78, 79, 80, 81, 82, 83, 84, 85, 86, 87, 88, 89, 90, 91, 92, 93, 94, 95, 96, 97, 98, 99, 100, 101, 120, 121, 122, 123, 124, 125, 126, 127, 117, 118, 119, 128, 129, 130, 131, 132, 133, 134, 135, 136, 137] (by decide +kernel) (by decide +kernel)
set_option maxRecDepth 20000 in
theorem gX9_priceWith_X2_fill_u53X3 : GoodIn wsX9_priceWith (va_wsU RX9 53 RX3 "RepeatNests$Parts" ⟨"RepeatNests$Prices", "fill", "(LRepeatNests$State;IZ)V"⟩ yX2_fill wsX2_fill) := goodIn_app (goodIn_of _ (by decide +kernel)) ggX9_priceWith_X2_fill
set_option maxRecDepth 20000 in
theorem ggX9_priceWith_X3_rowPrice : GoodIn wsX9_priceWith wsX3_rowPrice := goodIn_r _ [105, 89, 38, 39, 6, 40, 9, 106, 107, 108, 82, 109, 88, 78, 46, 79, 117, 118, 119, 124, 125, 126, 127] (by decide +kernel) (by decide +kernel)
set_option maxRecDepth 20000 in
theorem gX9_priceWith_X3_rowPrice : GoodIn wsX9_priceWith (wsV RX9 57 RX3 yX3_rowPrice wsX3_rowPrice) := goodIn_app (goodIn_of _ (by decide +kernel)) ggX9_priceWith_X3_rowPrice
theorem dX9_priceWith_0 : decode cX9_priceWith 0 = .ok (.aload_n 0, 1) := by decide +kernel
theorem dX9_priceWith_1 : decode cX9_priceWith 1 = .ok (.getfield 12, 3) := by decide +kernel
theorem dX9_priceWith_4 : decode cX9_priceWith 4 = .ok (.aload_n 1, 1) := by decide +kernel
theorem dX9_priceWith_5 : decode cX9_priceWith 5 = .ok (.invokevirtual 42, 3) := by decide +kernel
theorem dX9_priceWith_8 : decode cX9_priceWith 8 = .ok (.aload_n 0, 1) := by decide +kernel
theorem dX9_priceWith_9 : decode cX9_priceWith 9 = .ok (.getfield 12, 3) := by decide +kernel
theorem dX9_priceWith_12 : decode cX9_priceWith 12 = .ok (.iload_n 2, 1) := by decide +kernel
theorem dX9_priceWith_13 : decode cX9_priceWith 13 = .ok (.iload_n 3, 1) := by decide +kernel
theorem dX9_priceWith_14 : decode cX9_priceWith 14 = .ok (.invokevirtual 46, 3) := by decide +kernel
theorem dX9_priceWith_17 : decode cX9_priceWith 17 = .ok (.aload_n 0, 1) := by decide +kernel
theorem dX9_priceWith_18 : decode cX9_priceWith 18 = .ok (.getfield 21, 3) := by decide +kernel
theorem dX9_priceWith_21 : decode cX9_priceWith 21 = .ok (.aload_n 0, 1) := by decide +kernel
theorem dX9_priceWith_22 : decode cX9_priceWith 22 = .ok (.getfield 12, 3) := by decide +kernel
theorem dX9_priceWith_25 : decode cX9_priceWith 25 = .ok (.aload_n 0, 1) := by decide +kernel
theorem dX9_priceWith_26 : decode cX9_priceWith 26 = .ok (.getfield 12, 3) := by decide +kernel
theorem dX9_priceWith_29 : decode cX9_priceWith 29 = .ok (.getfield 50, 3) := by decide +kernel
theorem dX9_priceWith_32 : decode cX9_priceWith 32 = .ok (.iconst 1, 1) := by decide +kernel
theorem dX9_priceWith_33 : decode cX9_priceWith 33 = .ok (.isub, 1) := by decide +kernel
theorem dX9_priceWith_34 : decode cX9_priceWith 34 = .ok (.iconst 1, 1) := by decide +kernel
theorem dX9_priceWith_35 : decode cX9_priceWith 35 = .ok (.invokevirtual 53, 3) := by decide +kernel
theorem dX9_priceWith_38 : decode cX9_priceWith 38 = .ok (.aload_n 0, 1) := by decide +kernel
theorem dX9_priceWith_39 : decode cX9_priceWith 39 = .ok (.getfield 21, 3) := by decide +kernel
theorem dX9_priceWith_42 : decode cX9_priceWith 42 = .ok (.aload_n 0, 1) := by decide +kernel
theorem dX9_priceWith_43 : decode cX9_priceWith 43 = .ok (.getfield 12, 3) := by decide +kernel
theorem dX9_priceWith_46 : decode cX9_priceWith 46 = .ok (.invokevirtual 57, 3) := by decide +kernel
theorem dX9_priceWith_49 : decode cX9_priceWith 49 = .ok (.ireturn, 1) := by decide +kernel
set_option maxRecDepth 20000 in
theorem ggX9_refresh_X7_copyFrom : GoodIn wsX9_refresh wsX7_copyFrom := goodIn_r _ [10, 11, 12, 13, 128, 129, 130] (by decide +kernel) (by decide +kernel)
set_option maxRecDepth 20000 in
theorem gX9_refresh_X7_copyFrom : GoodIn wsX9_refresh (wsV RX9 42 RX7 yX7_copyFrom wsX7_copyFrom) := goodIn_app (goodIn_of _ (by decide +kernel)) ggX9_refresh_X7_copyFrom
set_option maxRecDepth 20000 in
theorem ggX9_refresh_X2_fill : GoodIn wsX9_refresh wsX2_fill := goodIn_r _ [19, 20, 21, 22, 23, 24, 25, 26, 27, 28, 29, 30, 31, 32, 33, 34, 35, 36, 37, 38, 9, 39, 12, 40, 41, 42, 43, 13, 11, 44, 45, 46, 47, 48, 49, 50, 51, 52, 53, 54, 55, 56, 57, 58, 59, 60, 61, 62, 63, 64, 65, 66, 67, 68, 69, 70, 71, 72, 73, 74, 75, 76, 77, 78, 79, 80, 81, 82, 83, 84, 85, 86, 87, 88, 89, 90, 91, 92, 93, 94, 95, 96, 97, 98, 99, 100, 131, 132, 133, 134, 135, 136, 137, 138, 128, 129, 130, 139, 140, 141, 142, 143, 144, 145, 146, 147, 148] (by decide +kernel) (by decide +kernel)
set_option maxRecDepth 20000 in
theorem gX9_refresh_X2_fill_u53X3 : GoodIn wsX9_refresh (va_wsU RX9 53 RX3 "RepeatNests$Parts" ⟨"RepeatNests$Prices", "fill", "(LRepeatNests$State;IZ)V"⟩ yX2_fill wsX2_fill) := goodIn_app (goodIn_of _ (by decide +kernel)) ggX9_refresh_X2_fill
set_option maxRecDepth 20000 in
theorem ggX9_refresh_X3_rowPrice : GoodIn wsX9_refresh wsX3_rowPrice := goodIn_r _ [104, 88, 37, 38, 9, 39, 12, 105, 106, 107, 81, 108, 87, 77, 45, 78, 128, 129, 130, 135, 136, 137, 138] (by decide +kernel) (by decide +kernel)
set_option maxRecDepth 20000 in
theorem gX9_refresh_X3_rowPrice : GoodIn wsX9_refresh (wsV RX9 57 RX3 yX3_rowPrice wsX3_rowPrice) := goodIn_app (goodIn_of _ (by decide +kernel)) ggX9_refresh_X3_rowPrice
set_option maxRecDepth 20000 in
theorem ggX9_refresh_X7_letter : GoodIn wsX9_refresh wsX7_letter := goodIn_r _ [43, 13, 11, 128, 129, 130] (by decide +kernel) (by decide +kernel)
set_option maxRecDepth 20000 in
theorem gX9_refresh_X7_letter : GoodIn wsX9_refresh (wsV RX9 61 RX7 yX7_letter wsX7_letter) := goodIn_app (goodIn_of _ (by decide +kernel)) ggX9_refresh_X7_letter
set_option maxRecDepth 20000 in
theorem ggX9_refresh_X7_putLetter : GoodIn wsX9_refresh wsX7_putLetter := goodIn_r _ [113, 13, 11, 128, 129, 130] (by decide +kernel) (by decide +kernel)
set_option maxRecDepth 20000 in
theorem gX9_refresh_X7_putLetter : GoodIn wsX9_refresh (wsV RX9 46 RX7 yX7_putLetter wsX7_putLetter) := goodIn_app (goodIn_of _ (by decide +kernel)) ggX9_refresh_X7_putLetter
set_option maxRecDepth 20000 in
theorem ggX9_refresh_X9_take : GoodIn wsX9_refresh wsX9_take := goodIn_r _ [118, 5, 2, 119, 120, 121, 122, 123, 124, 125, 126, 127] (by decide +kernel) (by decide +kernel)
set_option maxRecDepth 20000 in
theorem gX9_refresh_X9_take : GoodIn wsX9_refresh (wsV RX9 65 RX9 yX9_take wsX9_take) := goodIn_app (goodIn_of _ (by decide +kernel)) ggX9_refresh_X9_take
theorem dX9_refresh_0 : decode cX9_refresh 0 = .ok (.aload_n 0, 1) := by decide +kernel
theorem dX9_refresh_1 : decode cX9_refresh 1 = .ok (.getfield 25, 3) := by decide +kernel
theorem dX9_refresh_4 : decode cX9_refresh 4 = .ok (.ifCond .eq 4, 3) := by decide +kernel
theorem dX9_refresh_7 : decode cX9_refresh 7 = .ok (.return_, 1) := by decide +kernel
theorem dX9_refresh_8 : decode cX9_refresh 8 = .ok (.aload_n 0, 1) := by decide +kernel
theorem dX9_refresh_9 : decode cX9_refresh 9 = .ok (.iconst 1, 1) := by decide +kernel
theorem dX9_refresh_10 : decode cX9_refresh 10 = .ok (.putfield 25, 3) := by decide +kernel
theorem dX9_refresh_13 : decode cX9_refresh 13 = .ok (.aload_n 0, 1) := by decide +kernel
theorem dX9_refresh_14 : decode cX9_refresh 14 = .ok (.iconst 0, 1) := by decide +kernel
theorem dX9_refresh_15 : decode cX9_refresh 15 = .ok (.putfield 29, 3) := by decide +kernel
theorem dX9_refresh_18 : decode cX9_refresh 18 = .ok (.aload_n 0, 1) := by decide +kernel
theorem dX9_refresh_19 : decode cX9_refresh 19 = .ok (.getfield 12, 3) := by decide +kernel
theorem dX9_refresh_22 : decode cX9_refresh 22 = .ok (.aload_n 1, 1) := by decide +kernel
theorem dX9_refresh_23 : decode cX9_refresh 23 = .ok (.invokevirtual 42, 3) := by decide +kernel
theorem dX9_refresh_26 : decode cX9_refresh 26 = .ok (.aload_n 0, 1) := by decide +kernel
theorem dX9_refresh_27 : decode cX9_refresh 27 = .ok (.getfield 21, 3) := by decide +kernel
theorem dX9_refresh_30 : decode cX9_refresh 30 = .ok (.aload_n 0, 1) := by decide +kernel
theorem dX9_refresh_31 : decode cX9_refresh 31 = .ok (.getfield 12, 3) := by decide +kernel
theorem dX9_refresh_34 : decode cX9_refresh 34 = .ok (.aload_n 0, 1) := by decide +kernel
theorem dX9_refresh_35 : decode cX9_refresh 35 = .ok (.getfield 12, 3) := by decide +kernel
theorem dX9_refresh_38 : decode cX9_refresh 38 = .ok (.getfield 50, 3) := by decide +kernel
theorem dX9_refresh_41 : decode cX9_refresh 41 = .ok (.iconst 1, 1) := by decide +kernel
theorem dX9_refresh_42 : decode cX9_refresh 42 = .ok (.isub, 1) := by decide +kernel
theorem dX9_refresh_43 : decode cX9_refresh 43 = .ok (.iconst 1, 1) := by decide +kernel
theorem dX9_refresh_44 : decode cX9_refresh 44 = .ok (.invokevirtual 53, 3) := by decide +kernel
theorem dX9_refresh_47 : decode cX9_refresh 47 = .ok (.aload_n 0, 1) := by decide +kernel
theorem dX9_refresh_48 : decode cX9_refresh 48 = .ok (.aload_n 0, 1) := by decide +kernel
theorem dX9_refresh_49 : decode cX9_refresh 49 = .ok (.getfield 21, 3) := by decide +kernel
theorem dX9_refresh_52 : decode cX9_refresh 52 = .ok (.aload_n 0, 1) := by decide +kernel
theorem dX9_refresh_53 : decode cX9_refresh 53 = .ok (.getfield 12, 3) := by decide +kernel
theorem dX9_refresh_56 : decode cX9_refresh 56 = .ok (.invokevirtual 57, 3) := by decide +kernel
theorem dX9_refresh_59 : decode cX9_refresh 59 = .ok (.putfield 39, 3) := by decide +kernel
theorem dX9_refresh_62 : decode cX9_refresh 62 = .ok (.iconst 0, 1) := by decide +kernel
theorem dX9_refresh_63 : decode cX9_refresh 63 = .ok (.istore_n 2, 1) := by decide +kernel
theorem dX9_refresh_64 : decode cX9_refresh 64 = .ok (.iload_n 2, 1) := by decide +kernel
theorem dX9_refresh_65 : decode cX9_refresh 65 = .ok (.aload_n 0, 1) := by decide +kernel
theorem dX9_refresh_66 : decode cX9_refresh 66 = .ok (.getfield 12, 3) := by decide +kernel
theorem dX9_refresh_69 : decode cX9_refresh 69 = .ok (.getfield 50, 3) := by decide +kernel
theorem dX9_refresh_72 : decode cX9_refresh 72 = .ok (.if_icmp .ge 89, 3) := by decide +kernel
theorem dX9_refresh_75 : decode cX9_refresh 75 = .ok (.aload_n 0, 1) := by decide +kernel
theorem dX9_refresh_76 : decode cX9_refresh 76 = .ok (.getfield 12, 3) := by decide +kernel
theorem dX9_refresh_79 : decode cX9_refresh 79 = .ok (.iload_n 2, 1) := by decide +kernel
theorem dX9_refresh_80 : decode cX9_refresh 80 = .ok (.invokevirtual 61, 3) := by decide +kernel
theorem dX9_refresh_83 : decode cX9_refresh 83 = .ok (.istore_n 3, 1) := by decide +kernel
theorem dX9_refresh_84 : decode cX9_refresh 84 = .ok (.iconst 0, 1) := by decide +kernel
theorem dX9_refresh_85 : decode cX9_refresh 85 = .ok (.istore 4, 2) := by decide +kernel
theorem dX9_refresh_87 : decode cX9_refresh 87 = .ok (.iload 4, 2) := by decide +kernel
theorem dX9_refresh_89 : decode cX9_refresh 89 = .ok (.iconst 4, 1) := by decide +kernel
theorem dX9_refresh_90 : decode cX9_refresh 90 = .ok (.if_icmp .ge 56, 3) := by decide +kernel
theorem dX9_refresh_93 : decode cX9_refresh 93 = .ok (.iload 4, 2) := by decide +kernel
theorem dX9_refresh_95 : decode cX9_refresh 95 = .ok (.iload_n 3, 1) := by decide +kernel
theorem dX9_refresh_96 : decode cX9_refresh 96 = .ok (.if_icmp .eq 44, 3) := by decide +kernel
theorem dX9_refresh_99 : decode cX9_refresh 99 = .ok (.aload_n 0, 1) := by decide +kernel
theorem dX9_refresh_100 : decode cX9_refresh 100 = .ok (.getfield 12, 3) := by decide +kernel
theorem dX9_refresh_103 : decode cX9_refresh 103 = .ok (.iload_n 2, 1) := by decide +kernel
theorem dX9_refresh_104 : decode cX9_refresh 104 = .ok (.iload 4, 2) := by decide +kernel
theorem dX9_refresh_106 : decode cX9_refresh 106 = .ok (.invokevirtual 46, 3) := by decide +kernel
theorem dX9_refresh_109 : decode cX9_refresh 109 = .ok (.aload_n 0, 1) := by decide +kernel
theorem dX9_refresh_110 : decode cX9_refresh 110 = .ok (.getfield 21, 3) := by decide +kernel
theorem dX9_refresh_113 : decode cX9_refresh 113 = .ok (.aload_n 0, 1) := by decide +kernel
theorem dX9_refresh_114 : decode cX9_refresh 114 = .ok (.getfield 12, 3) := by decide +kernel
theorem dX9_refresh_117 : decode cX9_refresh 117 = .ok (.iload_n 2, 1) := by decide +kernel
theorem dX9_refresh_118 : decode cX9_refresh 118 = .ok (.iconst 1, 1) := by decide +kernel
theorem dX9_refresh_119 : decode cX9_refresh 119 = .ok (.invokevirtual 53, 3) := by decide +kernel
theorem dX9_refresh_122 : decode cX9_refresh 122 = .ok (.aload_n 0, 1) := by decide +kernel
theorem dX9_refresh_123 : decode cX9_refresh 123 = .ok (.iload_n 2, 1) := by decide +kernel
theorem dX9_refresh_124 : decode cX9_refresh 124 = .ok (.iload 4, 2) := by decide +kernel
theorem dX9_refresh_126 : decode cX9_refresh 126 = .ok (.aload_n 0, 1) := by decide +kernel
theorem dX9_refresh_127 : decode cX9_refresh 127 = .ok (.getfield 21, 3) := by decide +kernel
theorem dX9_refresh_130 : decode cX9_refresh 130 = .ok (.aload_n 0, 1) := by decide +kernel
theorem dX9_refresh_131 : decode cX9_refresh 131 = .ok (.getfield 12, 3) := by decide +kernel
theorem dX9_refresh_134 : decode cX9_refresh 134 = .ok (.invokevirtual 57, 3) := by decide +kernel
theorem dX9_refresh_137 : decode cX9_refresh 137 = .ok (.invokevirtual 65, 3) := by decide +kernel
theorem dX9_refresh_140 : decode cX9_refresh 140 = .ok (.iinc 4 1, 3) := by decide +kernel
theorem dX9_refresh_143 : decode cX9_refresh 143 = .ok (.goto (-56), 3) := by decide +kernel
theorem dX9_refresh_146 : decode cX9_refresh 146 = .ok (.aload_n 0, 1) := by decide +kernel
theorem dX9_refresh_147 : decode cX9_refresh 147 = .ok (.getfield 12, 3) := by decide +kernel
theorem dX9_refresh_150 : decode cX9_refresh 150 = .ok (.iload_n 2, 1) := by decide +kernel
theorem dX9_refresh_151 : decode cX9_refresh 151 = .ok (.iload_n 3, 1) := by decide +kernel
theorem dX9_refresh_152 : decode cX9_refresh 152 = .ok (.invokevirtual 46, 3) := by decide +kernel
theorem dX9_refresh_155 : decode cX9_refresh 155 = .ok (.iinc 2 1, 3) := by decide +kernel
theorem dX9_refresh_158 : decode cX9_refresh 158 = .ok (.goto (-94), 3) := by decide +kernel
theorem dX9_refresh_161 : decode cX9_refresh 161 = .ok (.return_, 1) := by decide +kernel
theorem dX9_take_0 : decode cX9_take 0 = .ok (.iload_n 3, 1) := by decide +kernel
theorem dX9_take_1 : decode cX9_take 1 = .ok (.aload_n 0, 1) := by decide +kernel
theorem dX9_take_2 : decode cX9_take 2 = .ok (.getfield 39, 3) := by decide +kernel
theorem dX9_take_5 : decode cX9_take 5 = .ok (.if_icmp .ge 23, 3) := by decide +kernel
theorem dX9_take_8 : decode cX9_take 8 = .ok (.aload_n 0, 1) := by decide +kernel
theorem dX9_take_9 : decode cX9_take 9 = .ok (.iconst 1, 1) := by decide +kernel
theorem dX9_take_10 : decode cX9_take 10 = .ok (.putfield 29, 3) := by decide +kernel
theorem dX9_take_13 : decode cX9_take 13 = .ok (.aload_n 0, 1) := by decide +kernel
theorem dX9_take_14 : decode cX9_take 14 = .ok (.iload_n 1, 1) := by decide +kernel
theorem dX9_take_15 : decode cX9_take 15 = .ok (.putfield 32, 3) := by decide +kernel
theorem dX9_take_18 : decode cX9_take 18 = .ok (.aload_n 0, 1) := by decide +kernel
theorem dX9_take_19 : decode cX9_take 19 = .ok (.iload_n 2, 1) := by decide +kernel
theorem dX9_take_20 : decode cX9_take 20 = .ok (.putfield 36, 3) := by decide +kernel
theorem dX9_take_23 : decode cX9_take 23 = .ok (.aload_n 0, 1) := by decide +kernel
theorem dX9_take_24 : decode cX9_take 24 = .ok (.iload_n 3, 1) := by decide +kernel
theorem dX9_take_25 : decode cX9_take 25 = .ok (.putfield 39, 3) := by decide +kernel
theorem dX9_take_28 : decode cX9_take 28 = .ok (.return_, 1) := by decide +kernel
set_option maxRecDepth 20000 in
theorem ggX10_init_X7_init : GoodIn wsX10_init wsX7_init := goodIn_r _ [38, 39, 2, 3, 40, 41, 42, 43, 146, 147, 148] (by decide +kernel) (by decide +kernel)
set_option maxRecDepth 20000 in
theorem gX10_init_X7_init : GoodIn wsX10_init (wsX7_init) := ggX10_init_X7_init
set_option maxRecDepth 20000 in
theorem ggX10_init_X0_init : GoodIn wsX10_init wsX0_init := goodIn_r _ [46, 47, 2, 3, 48, 49, 50, 5, 6, 51, 37, 38, 39, 40, 41, 42, 43, 157, 158, 146, 147, 148] (by decide +kernel) (by decide +kernel)
set_option maxRecDepth 20000 in
theorem gX10_init_X0_init : GoodIn wsX10_init (wsX0_init) := ggX10_init_X0_init
set_option maxRecDepth 20000 in
theorem ggX10_init_X6_init : GoodIn wsX10_init wsX6_init := goodIn_r _ [53, 54, 2, 3, 40, 55, 56, 57, 58, 59, 159, 160, 161, 162, 163] (by decide +kernel) (by decide +kernel)
set_option maxRecDepth 20000 in
theorem gX10_init_X6_init_n25 : GoodIn wsX10_init (wsX6_init) := ggX10_init_X6_init
set_option maxRecDepth 20000 in
theorem ggX10_init_X3_init : GoodIn wsX10_init wsX3_init := goodIn_r _ [61, 40, 62, 63, 64, 65, 66, 67, 2, 3, 68, 69, 70, 71, 72, 73, 74, 75, 76, 77, 78, 79, 80, 81, 82, 83, 84, 85, 164, 165, 166, 167, 206, 207, 208, 209, 210, 211, 212, 213, 214, 215, 168, 169, 170, 171] (by decide +kernel) (by decide +kernel)
set_option maxRecDepth 20000 in
theorem gX10_init_X3_init_n32 : GoodIn wsX10_init (wsX3_init) := ggX10_init_X3_init
set_option maxRecDepth 20000 in
theorem ggX10_init_X1_init : GoodIn wsX10_init wsX1_init := goodIn_r _ [88, 89, 90, 91, 64, 65, 66, 67, 2, 3, 68, 69, 70, 71, 72, 73, 74, 75, 40, 76, 77, 78, 79, 80, 81, 82, 83, 84, 85, 92, 93, 94, 95, 96, 97, 22, 98, 168, 169, 170, 171, 206, 207, 208, 209, 210, 211, 212, 213, 214, 215, 164, 165, 166, 167] (by decide +kernel) (by decide +kernel)
set_option maxRecDepth 20000 in
theorem gX10_init_X1_init : GoodIn wsX10_init (wsX1_init) := ggX10_init_X1_init
set_option maxRecDepth 20000 in
theorem ggX10_init_X8_init : GoodIn wsX10_init wsX8_init := goodIn_r _ [100, 101, 2, 3, 102, 69, 70, 103, 40, 104, 105, 106, 107, 108, 109, 110, 111, 112, 113, 114, 115, 116, 73, 74, 75, 76, 77, 78, 79, 80, 81, 82, 83, 84, 85, 206, 207, 208, 209, 210, 211, 212, 213, 214, 215, 172, 173, 174, 175, 176, 177, 178, 179, 180, 181, 182, 183, 184, 185] (by decide +kernel) (by decide +kernel)
set_option maxRecDepth 20000 in
theorem gX10_init_X8_init_n46 : GoodIn wsX10_init (wsX8_init) := ggX10_init_X8_init
set_option maxRecDepth 20000 in
theorem ggX10_init_X9_init : GoodIn wsX10_init wsX9_init := goodIn_r _ [118, 119, 2, 3, 120, 5, 6, 121, 122, 17, 18, 123, 124, 125, 126, 127, 128, 129, 37, 38, 39, 40, 41, 42, 43, 60, 61, 62, 63, 64, 65, 66, 67, 68, 69, 70, 71, 72, 73, 74, 75, 76, 77, 78, 79, 80, 81, 82, 83, 84, 85, 146, 147, 148, 186, 187, 188, 189, 190, 191, 192, 164, 165, 166, 167, 206, 207, 208, 209, 210, 211, 212, 213, 214, 215, 168, 169, 170, 171] (by decide +kernel) (by decide +kernel)
set_option maxRecDepth 20000 in
theorem gX10_init_X9_init_n53 : GoodIn wsX10_init (wsX9_init) := ggX10_init_X9_init
set_option maxRecDepth 20000 in
theorem ggX10_init_X4_init : GoodIn wsX10_init wsX4_init := goodIn_r _ [131, 132, 2, 3, 40, 133, 134, 135, 136, 137, 138, 139, 140, 141, 142, 143, 144, 145, 193, 194, 195, 196, 197, 198, 199, 200, 201, 202, 203, 204, 205] (by decide +kernel) (by decide +kernel)
set_option maxRecDepth 20000 in
theorem gX10_init_X4_init_n60 : GoodIn wsX10_init (wsX4_init) := ggX10_init_X4_init
theorem dX10_init_0 : decode cX10_init 0 = .ok (.aload_n 0, 1) := by decide +kernel
theorem dX10_init_1 : decode cX10_init 1 = .ok (.invokespecial 3, 3) := by decide +kernel
theorem dX10_init_4 : decode cX10_init 4 = .ok (.aload_n 0, 1) := by decide +kernel
theorem dX10_init_5 : decode cX10_init 5 = .ok (.new 9, 3) := by decide +kernel
theorem dX10_init_8 : decode cX10_init 8 = .ok (.dup, 1) := by decide +kernel
theorem dX10_init_9 : decode cX10_init 9 = .ok (.invokespecial 11, 3) := by decide +kernel
theorem dX10_init_12 : decode cX10_init 12 = .ok (.putfield 12, 3) := by decide +kernel
theorem dX10_init_15 : decode cX10_init 15 = .ok (.aload_n 0, 1) := by decide +kernel
theorem dX10_init_16 : decode cX10_init 16 = .ok (.new 16, 3) := by decide +kernel
theorem dX10_init_19 : decode cX10_init 19 = .ok (.dup, 1) := by decide +kernel
theorem dX10_init_20 : decode cX10_init 20 = .ok (.invokespecial 18, 3) := by decide +kernel
theorem dX10_init_23 : decode cX10_init 23 = .ok (.putfield 19, 3) := by decide +kernel
theorem dX10_init_26 : decode cX10_init 26 = .ok (.aload_n 0, 1) := by decide +kernel
theorem dX10_init_27 : decode cX10_init 27 = .ok (.new 23, 3) := by decide +kernel
theorem dX10_init_30 : decode cX10_init 30 = .ok (.dup, 1) := by decide +kernel
theorem dX10_init_31 : decode cX10_init 31 = .ok (.invokespecial 25, 3) := by decide +kernel
theorem dX10_init_34 : decode cX10_init 34 = .ok (.putfield 26, 3) := by decide +kernel
theorem dX10_init_37 : decode cX10_init 37 = .ok (.aload_n 0, 1) := by decide +kernel
theorem dX10_init_38 : decode cX10_init 38 = .ok (.new 30, 3) := by decide +kernel
theorem dX10_init_41 : decode cX10_init 41 = .ok (.dup, 1) := by decide +kernel
theorem dX10_init_42 : decode cX10_init 42 = .ok (.invokespecial 32, 3) := by decide +kernel
theorem dX10_init_45 : decode cX10_init 45 = .ok (.putfield 33, 3) := by decide +kernel
theorem dX10_init_48 : decode cX10_init 48 = .ok (.aload_n 0, 1) := by decide +kernel
theorem dX10_init_49 : decode cX10_init 49 = .ok (.new 37, 3) := by decide +kernel
theorem dX10_init_52 : decode cX10_init 52 = .ok (.dup, 1) := by decide +kernel
theorem dX10_init_53 : decode cX10_init 53 = .ok (.invokespecial 39, 3) := by decide +kernel
theorem dX10_init_56 : decode cX10_init 56 = .ok (.putfield 40, 3) := by decide +kernel
theorem dX10_init_59 : decode cX10_init 59 = .ok (.aload_n 0, 1) := by decide +kernel
theorem dX10_init_60 : decode cX10_init 60 = .ok (.new 44, 3) := by decide +kernel
theorem dX10_init_63 : decode cX10_init 63 = .ok (.dup, 1) := by decide +kernel
theorem dX10_init_64 : decode cX10_init 64 = .ok (.invokespecial 46, 3) := by decide +kernel
theorem dX10_init_67 : decode cX10_init 67 = .ok (.putfield 47, 3) := by decide +kernel
theorem dX10_init_70 : decode cX10_init 70 = .ok (.aload_n 0, 1) := by decide +kernel
theorem dX10_init_71 : decode cX10_init 71 = .ok (.new 51, 3) := by decide +kernel
theorem dX10_init_74 : decode cX10_init 74 = .ok (.dup, 1) := by decide +kernel
theorem dX10_init_75 : decode cX10_init 75 = .ok (.invokespecial 53, 3) := by decide +kernel
theorem dX10_init_78 : decode cX10_init 78 = .ok (.putfield 54, 3) := by decide +kernel
theorem dX10_init_81 : decode cX10_init 81 = .ok (.aload_n 0, 1) := by decide +kernel
theorem dX10_init_82 : decode cX10_init 82 = .ok (.new 58, 3) := by decide +kernel
theorem dX10_init_85 : decode cX10_init 85 = .ok (.dup, 1) := by decide +kernel
theorem dX10_init_86 : decode cX10_init 86 = .ok (.invokespecial 60, 3) := by decide +kernel
theorem dX10_init_89 : decode cX10_init 89 = .ok (.putfield 61, 3) := by decide +kernel
theorem dX10_init_92 : decode cX10_init 92 = .ok (.return_, 1) := by decide +kernel
set_option maxRecDepth 20000 in
theorem ggX10_append_X10_isKind : GoodIn wsX10_append wsX10_isKind := goodIn_r _ [7] (by decide +kernel) (by decide +kernel)
set_option maxRecDepth 20000 in
theorem gX10_append_X10_isKind : GoodIn wsX10_append (va_wsS RX10 65 yX10_isKind wsX10_isKind) := goodIn_app (goodIn_of _ (by decide +kernel)) ggX10_append_X10_isKind
set_option maxRecDepth 20000 in
theorem ggX10_append_X10_beginChange : GoodIn wsX10_append wsX10_beginChange := goodIn_r _ [11, 12, 2, 13, 14, 15, 16, 17, 18, 19, 20, 21, 22, 23, 24, 25, 26, 27, 28, 29, 30, 31, 32, 33, 34, 35, 36, 37, 38, 6, 39, 40, 41, 42, 43, 44, 45, 46, 47, 48, 53, 54, 55, 56, 57, 58, 59, 60, 64, 65, 61, 62, 63, 66, 67, 68, 69, 70, 71, 72, 73, 74, 75, 76, 77, 78, 79, 80, 81, 82, 83, 84, 85, 86, 87, 88, 89, 90, 91, 92, 93, 94, 95, 96, 97, 98, 99] (by decide +kernel) (by decide +kernel)
set_option maxRecDepth 20000 in
theorem gX10_append_X10_beginChange : GoodIn wsX10_append (wsV RX10 75 RX10 yX10_beginChange wsX10_beginChange) := goodIn_app (goodIn_of _ (by decide +kernel)) ggX10_append_X10_beginChange
set_option maxRecDepth 20000 in
theorem ggX10_append_X7_addLetter : GoodIn wsX10_append wsX7_addLetter := goodIn_r _ [52, 35, 33, 61, 62, 63] (by decide +kernel) (by decide +kernel)
set_option maxRecDepth 20000 in
theorem gX10_append_X7_addLetter : GoodIn wsX10_append (wsV RX10 78 RX7 yX7_addLetter wsX7_addLetter) := goodIn_app (goodIn_of _ (by decide +kernel)) ggX10_append_X7_addLetter
theorem dX10_append_0 : decode cX10_append 0 = .ok (.iload_n 1, 1) := by decide +kernel
theorem dX10_append_1 : decode cX10_append 1 = .ok (.invokestatic 65, 3) := by decide +kernel
theorem dX10_append_4 : decode cX10_append 4 = .ok (.ifCond .ne 6, 3) := by decide +kernel
theorem dX10_append_7 : decode cX10_append 7 = .ok (.ldc 69, 2) := by decide +kernel
theorem dX10_append_9 : decode cX10_append 9 = .ok (.ireturn, 1) := by decide +kernel
theorem dX10_append_10 : decode cX10_append 10 = .ok (.aload_n 0, 1) := by decide +kernel
theorem dX10_append_11 : decode cX10_append 11 = .ok (.getfield 12, 3) := by decide +kernel
theorem dX10_append_14 : decode cX10_append 14 = .ok (.getfield 70, 3) := by decide +kernel
theorem dX10_append_17 : decode cX10_append 17 = .ok (.bipush 24, 2) := by decide +kernel
theorem dX10_append_19 : decode cX10_append 19 = .ok (.if_icmp .lt 6, 3) := by decide +kernel
theorem dX10_append_22 : decode cX10_append 22 = .ok (.ldc 74, 2) := by decide +kernel
theorem dX10_append_24 : decode cX10_append 24 = .ok (.ireturn, 1) := by decide +kernel
theorem dX10_append_25 : decode cX10_append 25 = .ok (.aload_n 0, 1) := by decide +kernel
theorem dX10_append_26 : decode cX10_append 26 = .ok (.invokevirtual 75, 3) := by decide +kernel
theorem dX10_append_29 : decode cX10_append 29 = .ok (.aload_n 0, 1) := by decide +kernel
theorem dX10_append_30 : decode cX10_append 30 = .ok (.getfield 12, 3) := by decide +kernel
theorem dX10_append_33 : decode cX10_append 33 = .ok (.iload_n 1, 1) := by decide +kernel
theorem dX10_append_34 : decode cX10_append 34 = .ok (.invokevirtual 78, 3) := by decide +kernel
theorem dX10_append_37 : decode cX10_append 37 = .ok (.aload_n 0, 1) := by decide +kernel
theorem dX10_append_38 : decode cX10_append 38 = .ok (.getfield 12, 3) := by decide +kernel
theorem dX10_append_41 : decode cX10_append 41 = .ok (.getfield 70, 3) := by decide +kernel
theorem dX10_append_44 : decode cX10_append 44 = .ok (.ireturn, 1) := by decide +kernel
set_option maxRecDepth 20000 in
theorem ggX10_cut_X10_beginChange : GoodIn wsX10_cut wsX10_beginChange := goodIn_r _ [8, 9, 2, 10, 11, 12, 13, 14, 15, 16, 17, 18, 19, 20, 21, 22, 23, 24, 25, 26, 27, 28, 29, 30, 31, 32, 33, 34, 35, 7, 36, 37, 38, 39, 40, 41, 42, 43, 44, 45, 46, 47, 48, 49, 50, 51, 52, 53, 57, 58, 54, 55, 56, 59, 60, 61, 62, 63, 64, 65, 66, 67, 68, 69, 70, 71, 72, 73, 74, 75, 76, 77, 78, 79, 80, 81, 82, 83, 84, 85, 86, 87, 88, 89, 90, 91, 92] (by decide +kernel) (by decide +kernel)
set_option maxRecDepth 20000 in
theorem gX10_cut_X10_beginChange : GoodIn wsX10_cut (wsV RX10 75 RX10 yX10_beginChange wsX10_beginChange) := goodIn_app (goodIn_of _ (by decide +kernel)) ggX10_cut_X10_beginChange
theorem dX10_cut_0 : decode cX10_cut 0 = .ok (.iload_n 1, 1) := by decide +kernel
theorem dX10_cut_1 : decode cX10_cut 1 = .ok (.iconst 1, 1) := by decide +kernel
theorem dX10_cut_2 : decode cX10_cut 2 = .ok (.if_icmp .lt 9, 3) := by decide +kernel
theorem dX10_cut_5 : decode cX10_cut 5 = .ok (.iload_n 1, 1) := by decide +kernel
theorem dX10_cut_6 : decode cX10_cut 6 = .ok (.bipush 24, 2) := by decide +kernel
theorem dX10_cut_8 : decode cX10_cut 8 = .ok (.if_icmp .le 6, 3) := by decide +kernel
theorem dX10_cut_11 : decode cX10_cut 11 = .ok (.ldc 69, 2) := by decide +kernel
theorem dX10_cut_13 : decode cX10_cut 13 = .ok (.ireturn, 1) := by decide +kernel
theorem dX10_cut_14 : decode cX10_cut 14 = .ok (.aload_n 0, 1) := by decide +kernel
theorem dX10_cut_15 : decode cX10_cut 15 = .ok (.getfield 12, 3) := by decide +kernel
theorem dX10_cut_18 : decode cX10_cut 18 = .ok (.getfield 70, 3) := by decide +kernel
theorem dX10_cut_21 : decode cX10_cut 21 = .ok (.iload_n 1, 1) := by decide +kernel
theorem dX10_cut_22 : decode cX10_cut 22 = .ok (.if_icmp .ge 6, 3) := by decide +kernel
theorem dX10_cut_25 : decode cX10_cut 25 = .ok (.ldc 82, 2) := by decide +kernel
theorem dX10_cut_27 : decode cX10_cut 27 = .ok (.ireturn, 1) := by decide +kernel
theorem dX10_cut_28 : decode cX10_cut 28 = .ok (.aload_n 0, 1) := by decide +kernel
theorem dX10_cut_29 : decode cX10_cut 29 = .ok (.invokevirtual 75, 3) := by decide +kernel
theorem dX10_cut_32 : decode cX10_cut 32 = .ok (.aload_n 0, 1) := by decide +kernel
theorem dX10_cut_33 : decode cX10_cut 33 = .ok (.getfield 12, 3) := by decide +kernel
theorem dX10_cut_36 : decode cX10_cut 36 = .ok (.dup, 1) := by decide +kernel
theorem dX10_cut_37 : decode cX10_cut 37 = .ok (.getfield 70, 3) := by decide +kernel
theorem dX10_cut_40 : decode cX10_cut 40 = .ok (.iload_n 1, 1) := by decide +kernel
theorem dX10_cut_41 : decode cX10_cut 41 = .ok (.isub, 1) := by decide +kernel
theorem dX10_cut_42 : decode cX10_cut 42 = .ok (.putfield 70, 3) := by decide +kernel
theorem dX10_cut_45 : decode cX10_cut 45 = .ok (.aload_n 0, 1) := by decide +kernel
theorem dX10_cut_46 : decode cX10_cut 46 = .ok (.getfield 12, 3) := by decide +kernel
theorem dX10_cut_49 : decode cX10_cut 49 = .ok (.getfield 70, 3) := by decide +kernel
theorem dX10_cut_52 : decode cX10_cut 52 = .ok (.ireturn, 1) := by decide +kernel
set_option maxRecDepth 20000 in
theorem ggX10_change_X7_hasPlace : GoodIn wsX10_change wsX7_hasPlace := goodIn_r _ [7, 8, 68, 69, 70] (by decide +kernel) (by decide +kernel)
set_option maxRecDepth 20000 in
theorem gX10_change_X7_hasPlace : GoodIn wsX10_change (wsV RX10 83 RX7 yX7_hasPlace wsX7_hasPlace) := goodIn_app (goodIn_of _ (by decide +kernel)) ggX10_change_X7_hasPlace
set_option maxRecDepth 20000 in
theorem ggX10_change_X10_isKind : GoodIn wsX10_change wsX10_isKind := goodIn_r _ [12] (by decide +kernel) (by decide +kernel)
set_option maxRecDepth 20000 in
theorem gX10_change_X10_isKind : GoodIn wsX10_change (va_wsS RX10 65 yX10_isKind wsX10_isKind) := goodIn_app (goodIn_of _ (by decide +kernel)) ggX10_change_X10_isKind
set_option maxRecDepth 20000 in
theorem ggX10_change_X10_beginChange : GoodIn wsX10_change wsX10_beginChange := goodIn_r _ [16, 17, 1, 18, 19, 20, 21, 22, 23, 24, 25, 26, 27, 28, 29, 30, 31, 32, 33, 34, 35, 6, 36, 37, 38, 8, 39, 40, 41, 11, 42, 43, 44, 45, 46, 47, 48, 49, 50, 51, 60, 61, 62, 63, 64, 65, 66, 67, 71, 72, 68, 69, 70, 73, 74, 75, 76, 77, 78, 79, 80, 81, 82, 83, 84, 85, 86, 87, 88, 89, 90, 91, 92, 93, 94, 95, 96, 97, 98, 99, 100, 101, 102, 103, 104, 105, 106] (by decide +kernel) (by decide +kernel)
set_option maxRecDepth 20000 in
theorem gX10_change_X10_beginChange : GoodIn wsX10_change (wsV RX10 75 RX10 yX10_beginChange wsX10_beginChange) := goodIn_app (goodIn_of _ (by decide +kernel)) ggX10_change_X10_beginChange
set_option maxRecDepth 20000 in
theorem ggX10_change_X7_letter : GoodIn wsX10_change wsX7_letter := goodIn_r _ [55, 8, 37, 68, 69, 70] (by decide +kernel) (by decide +kernel)
set_option maxRecDepth 20000 in
theorem gX10_change_X7_letter : GoodIn wsX10_change (wsV RX10 86 RX7 yX7_letter wsX7_letter) := goodIn_app (goodIn_of _ (by decide +kernel)) ggX10_change_X7_letter
set_option maxRecDepth 20000 in
theorem ggX10_change_X7_putLetter : GoodIn wsX10_change wsX7_putLetter := goodIn_r _ [59, 8, 37, 68, 69, 70] (by decide +kernel) (by decide +kernel)
set_option maxRecDepth 20000 in
theorem gX10_change_X7_putLetter : GoodIn wsX10_change (wsV RX10 90 RX7 yX7_putLetter wsX7_putLetter) := goodIn_app (goodIn_of _ (by decide +kernel)) ggX10_change_X7_putLetter
theorem dX10_change_0 : decode cX10_change 0 = .ok (.aload_n 0, 1) := by decide +kernel
theorem dX10_change_1 : decode cX10_change 1 = .ok (.getfield 12, 3) := by decide +kernel
theorem dX10_change_4 : decode cX10_change 4 = .ok (.iload_n 1, 1) := by decide +kernel
theorem dX10_change_5 : decode cX10_change 5 = .ok (.invokevirtual 83, 3) := by decide +kernel
theorem dX10_change_8 : decode cX10_change 8 = .ok (.ifCond .eq 10, 3) := by decide +kernel
theorem dX10_change_11 : decode cX10_change 11 = .ok (.iload_n 2, 1) := by decide +kernel
theorem dX10_change_12 : decode cX10_change 12 = .ok (.invokestatic 65, 3) := by decide +kernel
theorem dX10_change_15 : decode cX10_change 15 = .ok (.ifCond .ne 6, 3) := by decide +kernel
theorem dX10_change_18 : decode cX10_change 18 = .ok (.ldc 69, 2) := by decide +kernel
theorem dX10_change_20 : decode cX10_change 20 = .ok (.ireturn, 1) := by decide +kernel
theorem dX10_change_21 : decode cX10_change 21 = .ok (.aload_n 0, 1) := by decide +kernel
theorem dX10_change_22 : decode cX10_change 22 = .ok (.invokevirtual 75, 3) := by decide +kernel
theorem dX10_change_25 : decode cX10_change 25 = .ok (.aload_n 0, 1) := by decide +kernel
theorem dX10_change_26 : decode cX10_change 26 = .ok (.getfield 12, 3) := by decide +kernel
theorem dX10_change_29 : decode cX10_change 29 = .ok (.iload_n 1, 1) := by decide +kernel
theorem dX10_change_30 : decode cX10_change 30 = .ok (.invokevirtual 86, 3) := by decide +kernel
theorem dX10_change_33 : decode cX10_change 33 = .ok (.istore_n 3, 1) := by decide +kernel
theorem dX10_change_34 : decode cX10_change 34 = .ok (.aload_n 0, 1) := by decide +kernel
theorem dX10_change_35 : decode cX10_change 35 = .ok (.getfield 12, 3) := by decide +kernel
theorem dX10_change_38 : decode cX10_change 38 = .ok (.iload_n 1, 1) := by decide +kernel
theorem dX10_change_39 : decode cX10_change 39 = .ok (.iload_n 2, 1) := by decide +kernel
theorem dX10_change_40 : decode cX10_change 40 = .ok (.invokevirtual 90, 3) := by decide +kernel
theorem dX10_change_43 : decode cX10_change 43 = .ok (.iload_n 3, 1) := by decide +kernel
theorem dX10_change_44 : decode cX10_change 44 = .ok (.ireturn, 1) := by decide +kernel
set_option maxRecDepth 20000 in
theorem ggX10_turn_X10_beginChange : GoodIn wsX10_turn wsX10_beginChange := goodIn_r _ [7, 8, 1, 9, 10, 11, 12, 13, 14, 15, 16, 17, 18, 19, 20, 21, 22, 23, 24, 25, 26, 27, 28, 29, 30, 31, 32, 33, 34, 6, 35, 36, 37, 38, 39, 40, 41, 42, 43, 44, 58, 59, 60, 61, 62, 63, 64, 65, 69, 70, 66, 67, 68, 71, 72, 73, 74, 75, 76, 77, 78, 79, 80, 81, 82, 83, 84, 85, 86, 87, 88, 89, 90, 91, 92, 93, 94, 95, 96, 97, 98, 99, 100, 101, 102, 103, 104] (by decide +kernel) (by decide +kernel)
set_option maxRecDepth 20000 in
theorem gX10_turn_X10_beginChange : GoodIn wsX10_turn (wsV RX10 75 RX10 yX10_beginChange wsX10_beginChange) := goodIn_app (goodIn_of _ (by decide +kernel)) ggX10_turn_X10_beginChange
set_option maxRecDepth 20000 in
theorem ggX10_turn_X7_reverse : GoodIn wsX10_turn wsX7_reverse := goodIn_r _ [48, 31, 49, 50, 51, 27, 52, 29, 53, 54, 55, 56, 66, 67, 68] (by decide +kernel) (by decide +kernel)
set_option maxRecDepth 20000 in
theorem gX10_turn_X7_reverse : GoodIn wsX10_turn (wsV RX10 94 RX7 yX7_reverse wsX7_reverse) := goodIn_app (goodIn_of _ (by decide +kernel)) ggX10_turn_X7_reverse
set_option maxRecDepth 20000 in
theorem ggX10_turn_X7_letter : GoodIn wsX10_turn wsX7_letter := goodIn_r _ [52, 31, 29, 66, 67, 68] (by decide +kernel) (by decide +kernel)
set_option maxRecDepth 20000 in
theorem gX10_turn_X7_letter : GoodIn wsX10_turn (wsV RX10 86 RX7 yX7_letter wsX7_letter) := goodIn_app (goodIn_of _ (by decide +kernel)) ggX10_turn_X7_letter
theorem dX10_turn_0 : decode cX10_turn 0 = .ok (.aload_n 0, 1) := by decide +kernel
theorem dX10_turn_1 : decode cX10_turn 1 = .ok (.getfield 12, 3) := by decide +kernel
theorem dX10_turn_4 : decode cX10_turn 4 = .ok (.getfield 70, 3) := by decide +kernel
theorem dX10_turn_7 : decode cX10_turn 7 = .ok (.ifCond .ne 6, 3) := by decide +kernel
theorem dX10_turn_10 : decode cX10_turn 10 = .ok (.ldc 82, 2) := by decide +kernel
theorem dX10_turn_12 : decode cX10_turn 12 = .ok (.ireturn, 1) := by decide +kernel
theorem dX10_turn_13 : decode cX10_turn 13 = .ok (.aload_n 0, 1) := by decide +kernel
theorem dX10_turn_14 : decode cX10_turn 14 = .ok (.invokevirtual 75, 3) := by decide +kernel
theorem dX10_turn_17 : decode cX10_turn 17 = .ok (.aload_n 0, 1) := by decide +kernel
theorem dX10_turn_18 : decode cX10_turn 18 = .ok (.getfield 12, 3) := by decide +kernel
theorem dX10_turn_21 : decode cX10_turn 21 = .ok (.invokevirtual 94, 3) := by decide +kernel
theorem dX10_turn_24 : decode cX10_turn 24 = .ok (.aload_n 0, 1) := by decide +kernel
theorem dX10_turn_25 : decode cX10_turn 25 = .ok (.getfield 12, 3) := by decide +kernel
theorem dX10_turn_28 : decode cX10_turn 28 = .ok (.iconst 0, 1) := by decide +kernel
theorem dX10_turn_29 : decode cX10_turn 29 = .ok (.invokevirtual 86, 3) := by decide +kernel
theorem dX10_turn_32 : decode cX10_turn 32 = .ok (.ireturn, 1) := by decide +kernel
set_option maxRecDepth 20000 in
theorem ggX10_set_X10_beginChange : GoodIn wsX10_set wsX10_beginChange := goodIn_r _ [9, 10, 4, 11, 12, 13, 14, 15, 16, 17, 18, 19, 20, 21, 22, 23, 24, 25, 26, 27, 28, 29, 30, 31, 32, 33, 34, 35, 36, 8, 37, 38, 39, 40, 41, 42, 43, 44, 45, 46, 55, 56, 57, 58, 59, 60, 61, 62, 63, 64, 65, 66, 67, 68, 69, 70, 71, 72, 73, 74, 75, 76, 77, 78, 79, 80, 81, 82, 83, 84, 85, 86, 87, 88, 89, 90, 91, 92, 93, 94, 95, 96, 97, 98, 99, 100, 101] (by decide +kernel) (by decide +kernel)
set_option maxRecDepth 20000 in
theorem gX10_set_X10_beginChange : GoodIn wsX10_set (wsV RX10 75 RX10 yX10_beginChange wsX10_beginChange) := goodIn_app (goodIn_of _ (by decide +kernel)) ggX10_set_X10_beginChange
set_option maxRecDepth 20000 in
theorem ggX10_set_X7_setting : GoodIn wsX10_set wsX7_setting := goodIn_r _ [50, 32, 65, 66, 67] (by decide +kernel) (by decide +kernel)
set_option maxRecDepth 20000 in
theorem gX10_set_X7_setting : GoodIn wsX10_set (wsV RX10 104 RX7 yX7_setting wsX7_setting) := goodIn_app (goodIn_of _ (by decide +kernel)) ggX10_set_X7_setting
set_option maxRecDepth 20000 in
theorem ggX10_set_X7_putSetting : GoodIn wsX10_set wsX7_putSetting := goodIn_r _ [54, 32, 65, 66, 67] (by decide +kernel) (by decide +kernel)
set_option maxRecDepth 20000 in
theorem gX10_set_X7_putSetting : GoodIn wsX10_set (wsV RX10 107 RX7 yX7_putSetting wsX7_putSetting) := goodIn_app (goodIn_of _ (by decide +kernel)) ggX10_set_X7_putSetting
theorem dX10_set_0 : decode cX10_set 0 = .ok (.iload_n 1, 1) := by decide +kernel
theorem dX10_set_1 : decode cX10_set 1 = .ok (.ifCond .lt 26, 3) := by decide +kernel
theorem dX10_set_4 : decode cX10_set 4 = .ok (.iload_n 1, 1) := by decide +kernel
theorem dX10_set_5 : decode cX10_set 5 = .ok (.iconst 5, 1) := by decide +kernel
theorem dX10_set_6 : decode cX10_set 6 = .ok (.if_icmp .ge 21, 3) := by decide +kernel
theorem dX10_set_9 : decode cX10_set 9 = .ok (.iload_n 2, 1) := by decide +kernel
theorem dX10_set_10 : decode cX10_set 10 = .ok (.getstatic 97, 3) := by decide +kernel
theorem dX10_set_13 : decode cX10_set 13 = .ok (.iload_n 1, 1) := by decide +kernel
theorem dX10_set_14 : decode cX10_set 14 = .ok (.iaload, 1) := by decide +kernel
theorem dX10_set_15 : decode cX10_set 15 = .ok (.if_icmp .lt 12, 3) := by decide +kernel
theorem dX10_set_18 : decode cX10_set 18 = .ok (.iload_n 2, 1) := by decide +kernel
theorem dX10_set_19 : decode cX10_set 19 = .ok (.getstatic 101, 3) := by decide +kernel
theorem dX10_set_22 : decode cX10_set 22 = .ok (.iload_n 1, 1) := by decide +kernel
theorem dX10_set_23 : decode cX10_set 23 = .ok (.iaload, 1) := by decide +kernel
theorem dX10_set_24 : decode cX10_set 24 = .ok (.if_icmp .le 6, 3) := by decide +kernel
theorem dX10_set_27 : decode cX10_set 27 = .ok (.ldc 69, 2) := by decide +kernel
theorem dX10_set_29 : decode cX10_set 29 = .ok (.ireturn, 1) := by decide +kernel
theorem dX10_set_30 : decode cX10_set 30 = .ok (.aload_n 0, 1) := by decide +kernel
theorem dX10_set_31 : decode cX10_set 31 = .ok (.invokevirtual 75, 3) := by decide +kernel
theorem dX10_set_34 : decode cX10_set 34 = .ok (.aload_n 0, 1) := by decide +kernel
theorem dX10_set_35 : decode cX10_set 35 = .ok (.getfield 12, 3) := by decide +kernel
theorem dX10_set_38 : decode cX10_set 38 = .ok (.iload_n 1, 1) := by decide +kernel
theorem dX10_set_39 : decode cX10_set 39 = .ok (.invokevirtual 104, 3) := by decide +kernel
theorem dX10_set_42 : decode cX10_set 42 = .ok (.istore_n 3, 1) := by decide +kernel
theorem dX10_set_43 : decode cX10_set 43 = .ok (.aload_n 0, 1) := by decide +kernel
theorem dX10_set_44 : decode cX10_set 44 = .ok (.getfield 12, 3) := by decide +kernel
theorem dX10_set_47 : decode cX10_set 47 = .ok (.iload_n 1, 1) := by decide +kernel
theorem dX10_set_48 : decode cX10_set 48 = .ok (.iload_n 2, 1) := by decide +kernel
theorem dX10_set_49 : decode cX10_set 49 = .ok (.invokevirtual 107, 3) := by decide +kernel
theorem dX10_set_52 : decode cX10_set 52 = .ok (.iload_n 3, 1) := by decide +kernel
theorem dX10_set_53 : decode cX10_set 53 = .ok (.ireturn, 1) := by decide +kernel
set_option maxRecDepth 20000 in
theorem ggX10_letterAt_X7_hasPlace : GoodIn wsX10_letterAt wsX7_hasPlace := goodIn_r _ [8, 9, 23, 24, 25] (by decide +kernel) (by decide +kernel)
set_option maxRecDepth 20000 in
theorem gX10_letterAt_X7_hasPlace : GoodIn wsX10_letterAt (wsV RX10 83 RX7 yX7_hasPlace wsX7_hasPlace) := goodIn_app (goodIn_of _ (by decide +kernel)) ggX10_letterAt_X7_hasPlace
set_option maxRecDepth 20000 in
theorem ggX10_letterAt_X7_letter : GoodIn wsX10_letterAt wsX7_letter := goodIn_r _ [13, 9, 14, 23, 24, 25] (by decide +kernel) (by decide +kernel)
set_option maxRecDepth 20000 in
theorem gX10_letterAt_X7_letter : GoodIn wsX10_letterAt (wsV RX10 86 RX7 yX7_letter wsX7_letter) := goodIn_app (goodIn_of _ (by decide +kernel)) ggX10_letterAt_X7_letter
theorem dX10_letterAt_0 : decode cX10_letterAt 0 = .ok (.iload_n 1, 1) := by decide +kernel
theorem dX10_letterAt_1 : decode cX10_letterAt 1 = .ok (.ifCond .ge 6, 3) := by decide +kernel
theorem dX10_letterAt_4 : decode cX10_letterAt 4 = .ok (.ldc 69, 2) := by decide +kernel
theorem dX10_letterAt_6 : decode cX10_letterAt 6 = .ok (.ireturn, 1) := by decide +kernel
theorem dX10_letterAt_7 : decode cX10_letterAt 7 = .ok (.aload_n 0, 1) := by decide +kernel
theorem dX10_letterAt_8 : decode cX10_letterAt 8 = .ok (.getfield 12, 3) := by decide +kernel
theorem dX10_letterAt_11 : decode cX10_letterAt 11 = .ok (.iload_n 1, 1) := by decide +kernel
theorem dX10_letterAt_12 : decode cX10_letterAt 12 = .ok (.invokevirtual 83, 3) := by decide +kernel
theorem dX10_letterAt_15 : decode cX10_letterAt 15 = .ok (.ifCond .eq 14, 3) := by decide +kernel
theorem dX10_letterAt_18 : decode cX10_letterAt 18 = .ok (.aload_n 0, 1) := by decide +kernel
theorem dX10_letterAt_19 : decode cX10_letterAt 19 = .ok (.getfield 12, 3) := by decide +kernel
theorem dX10_letterAt_22 : decode cX10_letterAt 22 = .ok (.iload_n 1, 1) := by decide +kernel
theorem dX10_letterAt_23 : decode cX10_letterAt 23 = .ok (.invokevirtual 86, 3) := by decide +kernel
theorem dX10_letterAt_26 : decode cX10_letterAt 26 = .ok (.goto 5, 3) := by decide +kernel
theorem dX10_letterAt_29 : decode cX10_letterAt 29 = .ok (.ldc 110, 2) := by decide +kernel
theorem dX10_letterAt_31 : decode cX10_letterAt 31 = .ok (.ireturn, 1) := by decide +kernel
set_option maxRecDepth 20000 in
theorem ggX10_unlike_X7_hasPart : GoodIn wsX10_unlike wsX7_hasPart := goodIn_r _ [7, 8, 26, 27, 28] (by decide +kernel) (by decide +kernel)
set_option maxRecDepth 20000 in
theorem gX10_unlike_X7_hasPart : GoodIn wsX10_unlike (wsV RX10 111 RX7 yX7_hasPart wsX7_hasPart) := goodIn_app (goodIn_of _ (by decide +kernel)) ggX10_unlike_X7_hasPart
set_option maxRecDepth 20000 in
theorem ggX10_unlike_X7_unlikeLetters : GoodIn wsX10_unlike wsX7_unlikeLetters := goodIn_r _ [12, 13, 14, 15, 6, 16, 8, 17, 26, 27, 28] (by decide +kernel) (by decide +kernel)
set_option maxRecDepth 20000 in
theorem gX10_unlike_X7_unlikeLetters : GoodIn wsX10_unlike (wsV RX10 115 RX7 yX7_unlikeLetters wsX7_unlikeLetters) := goodIn_app (goodIn_of _ (by decide +kernel)) ggX10_unlike_X7_unlikeLetters
theorem dX10_unlike_0 : decode cX10_unlike 0 = .ok (.aload_n 0, 1) := by decide +kernel
theorem dX10_unlike_1 : decode cX10_unlike 1 = .ok (.getfield 12, 3) := by decide +kernel
theorem dX10_unlike_4 : decode cX10_unlike 4 = .ok (.iload_n 1, 1) := by decide +kernel
theorem dX10_unlike_5 : decode cX10_unlike 5 = .ok (.iload_n 2, 1) := by decide +kernel
theorem dX10_unlike_6 : decode cX10_unlike 6 = .ok (.invokevirtual 111, 3) := by decide +kernel
theorem dX10_unlike_9 : decode cX10_unlike 9 = .ok (.ifCond .eq 14, 3) := by decide +kernel
theorem dX10_unlike_12 : decode cX10_unlike 12 = .ok (.iload_n 3, 1) := by decide +kernel
theorem dX10_unlike_13 : decode cX10_unlike 13 = .ok (.iconst 1, 1) := by decide +kernel
theorem dX10_unlike_14 : decode cX10_unlike 14 = .ok (.if_icmp .lt 9, 3) := by decide +kernel
theorem dX10_unlike_17 : decode cX10_unlike 17 = .ok (.iload_n 3, 1) := by decide +kernel
theorem dX10_unlike_18 : decode cX10_unlike 18 = .ok (.bipush 24, 2) := by decide +kernel
theorem dX10_unlike_20 : decode cX10_unlike 20 = .ok (.if_icmp .le 6, 3) := by decide +kernel
theorem dX10_unlike_23 : decode cX10_unlike 23 = .ok (.ldc 69, 2) := by decide +kernel
theorem dX10_unlike_25 : decode cX10_unlike 25 = .ok (.ireturn, 1) := by decide +kernel
theorem dX10_unlike_26 : decode cX10_unlike 26 = .ok (.aload_n 0, 1) := by decide +kernel
theorem dX10_unlike_27 : decode cX10_unlike 27 = .ok (.getfield 12, 3) := by decide +kernel
theorem dX10_unlike_30 : decode cX10_unlike 30 = .ok (.iload_n 1, 1) := by decide +kernel
theorem dX10_unlike_31 : decode cX10_unlike 31 = .ok (.iload_n 2, 1) := by decide +kernel
theorem dX10_unlike_32 : decode cX10_unlike 32 = .ok (.iload_n 3, 1) := by decide +kernel
theorem dX10_unlike_33 : decode cX10_unlike 33 = .ok (.invokevirtual 115, 3) := by decide +kernel
theorem dX10_unlike_36 : decode cX10_unlike 36 = .ok (.ireturn, 1) := by decide +kernel
set_option maxRecDepth 20000 in
theorem ggX10_period_X7_hasPart : GoodIn wsX10_period wsX7_hasPart := goodIn_r _ [7, 8, 30, 31, 32] (by decide +kernel) (by decide +kernel)
set_option maxRecDepth 20000 in
theorem gX10_period_X7_hasPart : GoodIn wsX10_period (wsV RX10 111 RX7 yX7_hasPart wsX7_hasPart) := goodIn_app (goodIn_of _ (by decide +kernel)) ggX10_period_X7_hasPart
set_option maxRecDepth 20000 in
theorem ggX10_period_X7_leastPeriod : GoodIn wsX10_period wsX7_leastPeriod := goodIn_r _ [12, 13, 14, 15, 6, 16, 17, 18, 19, 20, 8, 21, 30, 31, 32] (by decide +kernel) (by decide +kernel)
set_option maxRecDepth 20000 in
theorem gX10_period_X7_leastPeriod : GoodIn wsX10_period (wsV RX10 119 RX7 yX7_leastPeriod wsX7_leastPeriod) := goodIn_app (goodIn_of _ (by decide +kernel)) ggX10_period_X7_leastPeriod
theorem dX10_period_0 : decode cX10_period 0 = .ok (.aload_n 0, 1) := by decide +kernel
theorem dX10_period_1 : decode cX10_period 1 = .ok (.getfield 12, 3) := by decide +kernel
theorem dX10_period_4 : decode cX10_period 4 = .ok (.iload_n 1, 1) := by decide +kernel
theorem dX10_period_5 : decode cX10_period 5 = .ok (.iload_n 2, 1) := by decide +kernel
theorem dX10_period_6 : decode cX10_period 6 = .ok (.invokevirtual 111, 3) := by decide +kernel
theorem dX10_period_9 : decode cX10_period 9 = .ok (.ifCond .eq 15, 3) := by decide +kernel
theorem dX10_period_12 : decode cX10_period 12 = .ok (.aload_n 0, 1) := by decide +kernel
theorem dX10_period_13 : decode cX10_period 13 = .ok (.getfield 12, 3) := by decide +kernel
theorem dX10_period_16 : decode cX10_period 16 = .ok (.iload_n 1, 1) := by decide +kernel
theorem dX10_period_17 : decode cX10_period 17 = .ok (.iload_n 2, 1) := by decide +kernel
theorem dX10_period_18 : decode cX10_period 18 = .ok (.invokevirtual 119, 3) := by decide +kernel
theorem dX10_period_21 : decode cX10_period 21 = .ok (.goto 5, 3) := by decide +kernel
theorem dX10_period_24 : decode cX10_period 24 = .ok (.ldc 69, 2) := by decide +kernel
theorem dX10_period_26 : decode cX10_period 26 = .ok (.ireturn, 1) := by decide +kernel
set_option maxRecDepth 20000 in
theorem ggX10_runOf_X6_refresh : GoodIn wsX10_runOf wsX6_refresh := goodIn_r _ [9, 10, 11, 12, 13, 14, 8, 15, 16, 17, 18, 19, 20, 21, 22, 23, 24, 25, 26, 27, 28, 29, 30, 31, 32, 33, 34, 35, 36, 37, 51, 52, 53, 54, 55, 56, 57, 58] (by decide +kernel) (by decide +kernel)
set_option maxRecDepth 20000 in
theorem gX10_runOf_X6_refresh : GoodIn wsX10_runOf (wsV RX10 123 RX6 yX6_refresh wsX6_refresh) := goodIn_app (goodIn_of _ (by decide +kernel)) ggX10_runOf_X6_refresh
set_option maxRecDepth 20000 in
theorem ggX10_runOf_X6_tell : GoodIn wsX10_runOf wsX6_tell := goodIn_r _ [41, 11, 42, 16, 17, 18, 51, 52, 53, 54, 55] (by decide +kernel) (by decide +kernel)
set_option maxRecDepth 20000 in
theorem gX10_runOf_X6_tell : GoodIn wsX10_runOf (wsV RX10 130 RX6 yX6_tell wsX6_tell) := goodIn_app (goodIn_of _ (by decide +kernel)) ggX10_runOf_X6_tell
theorem dX10_runOf_0 : decode cX10_runOf 0 = .ok (.iload_n 1, 1) := by decide +kernel
theorem dX10_runOf_1 : decode cX10_runOf 1 = .ok (.ifCond .lt 12, 3) := by decide +kernel
theorem dX10_runOf_4 : decode cX10_runOf 4 = .ok (.iload_n 2, 1) := by decide +kernel
theorem dX10_runOf_5 : decode cX10_runOf 5 = .ok (.ifCond .lt 8, 3) := by decide +kernel
theorem dX10_runOf_8 : decode cX10_runOf 8 = .ok (.iload_n 2, 1) := by decide +kernel
theorem dX10_runOf_9 : decode cX10_runOf 9 = .ok (.iconst 2, 1) := by decide +kernel
theorem dX10_runOf_10 : decode cX10_runOf 10 = .ok (.if_icmp .le 6, 3) := by decide +kernel
theorem dX10_runOf_13 : decode cX10_runOf 13 = .ok (.ldc 69, 2) := by decide +kernel
theorem dX10_runOf_15 : decode cX10_runOf 15 = .ok (.ireturn, 1) := by decide +kernel
theorem dX10_runOf_16 : decode cX10_runOf 16 = .ok (.aload_n 0, 1) := by decide +kernel
theorem dX10_runOf_17 : decode cX10_runOf 17 = .ok (.getfield 26, 3) := by decide +kernel
theorem dX10_runOf_20 : decode cX10_runOf 20 = .ok (.aload_n 0, 1) := by decide +kernel
theorem dX10_runOf_21 : decode cX10_runOf 21 = .ok (.getfield 12, 3) := by decide +kernel
theorem dX10_runOf_24 : decode cX10_runOf 24 = .ok (.invokevirtual 123, 3) := by decide +kernel
theorem dX10_runOf_27 : decode cX10_runOf 27 = .ok (.iload_n 1, 1) := by decide +kernel
theorem dX10_runOf_28 : decode cX10_runOf 28 = .ok (.aload_n 0, 1) := by decide +kernel
theorem dX10_runOf_29 : decode cX10_runOf 29 = .ok (.getfield 26, 3) := by decide +kernel
theorem dX10_runOf_32 : decode cX10_runOf 32 = .ok (.getfield 127, 3) := by decide +kernel
theorem dX10_runOf_35 : decode cX10_runOf 35 = .ok (.if_icmp .ge 15, 3) := by decide +kernel
theorem dX10_runOf_38 : decode cX10_runOf 38 = .ok (.aload_n 0, 1) := by decide +kernel
theorem dX10_runOf_39 : decode cX10_runOf 39 = .ok (.getfield 26, 3) := by decide +kernel
theorem dX10_runOf_42 : decode cX10_runOf 42 = .ok (.iload_n 1, 1) := by decide +kernel
theorem dX10_runOf_43 : decode cX10_runOf 43 = .ok (.iload_n 2, 1) := by decide +kernel
theorem dX10_runOf_44 : decode cX10_runOf 44 = .ok (.invokevirtual 130, 3) := by decide +kernel
theorem dX10_runOf_47 : decode cX10_runOf 47 = .ok (.goto 5, 3) := by decide +kernel
theorem dX10_runOf_50 : decode cX10_runOf 50 = .ok (.ldc 110, 2) := by decide +kernel
theorem dX10_runOf_52 : decode cX10_runOf 52 = .ok (.ireturn, 1) := by decide +kernel
set_option maxRecDepth 20000 in
theorem ggX10_cheapest_X7_hasPart : GoodIn wsX10_cheapest wsX7_hasPart := goodIn_r _ [9, 10, 175, 176, 177] (by decide +kernel) (by decide +kernel)
set_option maxRecDepth 20000 in
theorem gX10_cheapest_X7_hasPart : GoodIn wsX10_cheapest (wsV RX10 111 RX7 yX7_hasPart wsX7_hasPart) := goodIn_app (goodIn_of _ (by decide +kernel)) ggX10_cheapest_X7_hasPart
set_option maxRecDepth 20000 in
theorem ggX10_cheapest_X2_refresh : GoodIn wsX10_cheapest wsX2_refresh := goodIn_r _ [16, 17, 18, 19, 20, 21, 15, 22, 23, 24, 25, 26, 27, 28, 29, 30, 31, 32, 33, 34, 35, 36, 37, 38, 39, 40, 41, 8, 42, 43, 44, 45, 46, 47, 10, 48, 49, 50, 51, 52, 53, 54, 55, 56, 57, 58, 59, 60, 61, 62, 63, 64, 65, 66, 67, 68, 69, 70, 71, 72, 73, 74, 75, 76, 77, 78, 79, 80, 81, 82, 83, 84, 85, 86, 87, 88, 89, 90, 91, 92, 93, 94, 95, 96, 97, 98, 99, 100, 101, 102, 103, 104, 105, 106, 178, 179, 180, 181, 182, 183, 184, 185, 175, 176, 177, 186, 187, 188, 189, 190, 191, 192, 193, 194, 195] (by decide +kernel) (by decide +kernel)
set_option maxRecDepth 20000 in
theorem gX10_cheapest_X2_refresh_u133X3 : GoodIn wsX10_cheapest (va_wsU RX10 133 RX3 "RepeatNests$Parts" ⟨"RepeatNests$Prices", "refresh", "(LRepeatNests$State;)V"⟩ yX2_refresh wsX2_refresh) := goodIn_app (goodIn_of _ (by decide +kernel)) ggX10_cheapest_X2_refresh
set_option maxRecDepth 20000 in
theorem ggX10_cheapest_X7_setting : GoodIn wsX10_cheapest wsX7_setting := goodIn_r _ [42, 43, 175, 176, 177] (by decide +kernel) (by decide +kernel)
set_option maxRecDepth 20000 in
theorem gX10_cheapest_X7_setting : GoodIn wsX10_cheapest (wsV RX10 104 RX7 yX7_setting wsX7_setting) := goodIn_app (goodIn_of _ (by decide +kernel)) ggX10_cheapest_X7_setting
set_option maxRecDepth 20000 in
theorem ggX10_cheapest_X3_price : GoodIn wsX10_cheapest wsX3_price := goodIn_r _ [111, 92, 82, 50, 83, 182, 183, 184, 185] (by decide +kernel) (by decide +kernel)
set_option maxRecDepth 20000 in
theorem gX10_cheapest_X3_price : GoodIn wsX10_cheapest (wsV RX10 134 RX3 yX3_price wsX3_price) := goodIn_app (goodIn_of _ (by decide +kernel)) ggX10_cheapest_X3_price
set_option maxRecDepth 20000 in
theorem ggX10_cheapest_X8_refresh : GoodIn wsX10_cheapest wsX8_refresh := goodIn_r _ [116, 117, 118, 119, 120, 121, 122, 123, 124, 125, 126, 127, 128, 129, 29, 30, 31, 32, 33, 34, 35, 36, 37, 38, 39, 40, 41, 8, 42, 43, 44, 45, 46, 47, 10, 48, 49, 50, 51, 130, 131, 132, 133, 115, 134, 135, 109, 110, 86, 111, 92, 82, 83, 136, 54, 55, 56, 57, 58, 59, 60, 61, 62, 63, 64, 65, 66, 67, 68, 69, 70, 71, 137, 138, 139, 140, 141, 142, 26, 143, 144, 145, 146, 147, 148, 149, 150, 151, 152, 153, 154, 155, 156, 157, 158, 159, 160, 161, 162, 196, 197, 198, 199, 200, 201, 202, 203, 204, 205, 206, 207, 208, 209, 175, 176, 177, 186, 187, 188, 189, 190, 191, 192, 193, 194, 195, 182, 183, 184, 185] (by decide +kernel) (by decide +kernel)
set_option maxRecDepth 20000 in
theorem gX10_cheapest_X8_refresh : GoodIn wsX10_cheapest (wsV RX10 137 RX8 yX8_refresh wsX8_refresh) := goodIn_app (goodIn_of _ (by decide +kernel)) ggX10_cheapest_X8_refresh
set_option maxRecDepth 20000 in
theorem ggX10_cheapest_X8_measure : GoodIn wsX10_cheapest wsX8_measure := goodIn_r _ [166, 144, 128, 121, 122, 120, 125, 127, 196, 197, 198, 199, 200, 201, 202, 203, 204, 205, 206, 207, 208, 209] (by decide +kernel) (by decide +kernel)
set_option maxRecDepth 20000 in
theorem gX10_cheapest_X8_measure : GoodIn wsX10_cheapest (wsV RX10 140 RX8 yX8_measure wsX8_measure) := goodIn_app (goodIn_of _ (by decide +kernel)) ggX10_cheapest_X8_measure
theorem dX10_cheapest_0 : decode cX10_cheapest 0 = .ok (.aload_n 0, 1) := by decide +kernel
theorem dX10_cheapest_1 : decode cX10_cheapest 1 = .ok (.getfield 12, 3) := by decide +kernel
theorem dX10_cheapest_4 : decode cX10_cheapest 4 = .ok (.iload_n 1, 1) := by decide +kernel
theorem dX10_cheapest_5 : decode cX10_cheapest 5 = .ok (.iload_n 2, 1) := by decide +kernel
theorem dX10_cheapest_6 : decode cX10_cheapest 6 = .ok (.invokevirtual 111, 3) := by decide +kernel
theorem dX10_cheapest_9 : decode cX10_cheapest 9 = .ok (.ifCond .eq 13, 3) := by decide +kernel
theorem dX10_cheapest_12 : decode cX10_cheapest 12 = .ok (.iload_n 3, 1) := by decide +kernel
theorem dX10_cheapest_13 : decode cX10_cheapest 13 = .ok (.ifCond .lt 9, 3) := by decide +kernel
theorem dX10_cheapest_16 : decode cX10_cheapest 16 = .ok (.iload_n 3, 1) := by decide +kernel
theorem dX10_cheapest_17 : decode cX10_cheapest 17 = .ok (.bipush 7, 2) := by decide +kernel
theorem dX10_cheapest_19 : decode cX10_cheapest 19 = .ok (.if_icmp .le 6, 3) := by decide +kernel
theorem dX10_cheapest_22 : decode cX10_cheapest 22 = .ok (.ldc 69, 2) := by decide +kernel
theorem dX10_cheapest_24 : decode cX10_cheapest 24 = .ok (.ireturn, 1) := by decide +kernel
theorem dX10_cheapest_25 : decode cX10_cheapest 25 = .ok (.aload_n 0, 1) := by decide +kernel
theorem dX10_cheapest_26 : decode cX10_cheapest 26 = .ok (.getfield 33, 3) := by decide +kernel
theorem dX10_cheapest_29 : decode cX10_cheapest 29 = .ok (.aload_n 0, 1) := by decide +kernel
theorem dX10_cheapest_30 : decode cX10_cheapest 30 = .ok (.getfield 12, 3) := by decide +kernel
theorem dX10_cheapest_33 : decode cX10_cheapest 33 = .ok (.invokevirtual 133, 3) := by decide +kernel
theorem dX10_cheapest_36 : decode cX10_cheapest 36 = .ok (.iload_n 3, 1) := by decide +kernel
theorem dX10_cheapest_37 : decode cX10_cheapest 37 = .ok (.ifCond .ne 21, 3) := by decide +kernel
theorem dX10_cheapest_40 : decode cX10_cheapest 40 = .ok (.aload_n 0, 1) := by decide +kernel
theorem dX10_cheapest_41 : decode cX10_cheapest 41 = .ok (.getfield 33, 3) := by decide +kernel
theorem dX10_cheapest_44 : decode cX10_cheapest 44 = .ok (.aload_n 0, 1) := by decide +kernel
theorem dX10_cheapest_45 : decode cX10_cheapest 45 = .ok (.getfield 12, 3) := by decide +kernel
theorem dX10_cheapest_48 : decode cX10_cheapest 48 = .ok (.iconst 4, 1) := by decide +kernel
theorem dX10_cheapest_49 : decode cX10_cheapest 49 = .ok (.invokevirtual 104, 3) := by decide +kernel
theorem dX10_cheapest_52 : decode cX10_cheapest 52 = .ok (.iload_n 1, 1) := by decide +kernel
theorem dX10_cheapest_53 : decode cX10_cheapest 53 = .ok (.iload_n 2, 1) := by decide +kernel
theorem dX10_cheapest_54 : decode cX10_cheapest 54 = .ok (.invokevirtual 134, 3) := by decide +kernel
theorem dX10_cheapest_57 : decode cX10_cheapest 57 = .ok (.ireturn, 1) := by decide +kernel
theorem dX10_cheapest_58 : decode cX10_cheapest 58 = .ok (.aload_n 0, 1) := by decide +kernel
theorem dX10_cheapest_59 : decode cX10_cheapest 59 = .ok (.getfield 47, 3) := by decide +kernel
theorem dX10_cheapest_62 : decode cX10_cheapest 62 = .ok (.aload_n 0, 1) := by decide +kernel
theorem dX10_cheapest_63 : decode cX10_cheapest 63 = .ok (.getfield 12, 3) := by decide +kernel
theorem dX10_cheapest_66 : decode cX10_cheapest 66 = .ok (.aload_n 0, 1) := by decide +kernel
theorem dX10_cheapest_67 : decode cX10_cheapest 67 = .ok (.getfield 33, 3) := by decide +kernel
theorem dX10_cheapest_70 : decode cX10_cheapest 70 = .ok (.iload_n 1, 1) := by decide +kernel
theorem dX10_cheapest_71 : decode cX10_cheapest 71 = .ok (.iload_n 2, 1) := by decide +kernel
theorem dX10_cheapest_72 : decode cX10_cheapest 72 = .ok (.invokevirtual 137, 3) := by decide +kernel
theorem dX10_cheapest_75 : decode cX10_cheapest 75 = .ok (.aload_n 0, 1) := by decide +kernel
theorem dX10_cheapest_76 : decode cX10_cheapest 76 = .ok (.getfield 47, 3) := by decide +kernel
theorem dX10_cheapest_79 : decode cX10_cheapest 79 = .ok (.iload_n 3, 1) := by decide +kernel
theorem dX10_cheapest_80 : decode cX10_cheapest 80 = .ok (.invokevirtual 140, 3) := by decide +kernel
theorem dX10_cheapest_83 : decode cX10_cheapest 83 = .ok (.ireturn, 1) := by decide +kernel
set_option maxRecDepth 20000 in
theorem ggX10_textAt_X2_refresh : GoodIn wsX10_textAt wsX2_refresh := goodIn_r _ [11, 12, 13, 14, 15, 16, 10, 17, 18, 19, 20, 21, 22, 23, 24, 25, 26, 27, 28, 29, 30, 31, 32, 33, 34, 35, 36, 37, 38, 39, 40, 41, 42, 43, 44, 45, 46, 47, 48, 49, 50, 51, 52, 53, 54, 55, 56, 57, 58, 59, 60, 61, 62, 63, 64, 65, 66, 67, 68, 69, 70, 71, 72, 73, 74, 75, 76, 77, 78, 79, 80, 81, 82, 83, 84, 85, 86, 87, 88, 89, 90, 91, 92, 93, 94, 95, 96, 97, 98, 99, 100, 101, 102, 103, 187, 188, 189, 190, 191, 192, 193, 194, 170, 171, 172, 195, 196, 197, 198, 199, 200, 201, 202, 203, 204] (by decide +kernel) (by decide +kernel)
set_option maxRecDepth 20000 in
theorem gX10_textAt_X2_refresh_u133X3 : GoodIn wsX10_textAt (va_wsU RX10 133 RX3 "RepeatNests$Parts" ⟨"RepeatNests$Prices", "refresh", "(LRepeatNests$State;)V"⟩ yX2_refresh wsX2_refresh) := goodIn_app (goodIn_of _ (by decide +kernel)) ggX10_textAt_X2_refresh
set_option maxRecDepth 20000 in
theorem ggX10_textAt_X8_refresh : GoodIn wsX10_textAt wsX8_refresh := goodIn_r _ [108, 109, 110, 111, 112, 113, 114, 115, 116, 117, 118, 119, 120, 121, 24, 25, 26, 27, 28, 29, 30, 31, 32, 33, 34, 35, 36, 37, 38, 39, 40, 41, 42, 43, 44, 45, 46, 47, 48, 122, 123, 124, 125, 107, 126, 127, 128, 129, 83, 130, 89, 79, 80, 131, 51, 52, 53, 54, 55, 56, 57, 58, 59, 60, 61, 62, 63, 64, 65, 66, 67, 68, 132, 133, 134, 135, 136, 137, 21, 138, 139, 140, 141, 142, 143, 144, 145, 146, 147, 148, 149, 150, 151, 152, 153, 154, 155, 156, 157, 173, 174, 175, 176, 177, 178, 179, 180, 181, 182, 183, 184, 185, 186, 170, 171, 172, 195, 196, 197, 198, 199, 200, 201, 202, 203, 204, 191, 192, 193, 194] (by decide +kernel) (by decide +kernel)
set_option maxRecDepth 20000 in
theorem gX10_textAt_X8_refresh : GoodIn wsX10_textAt (wsV RX10 137 RX8 yX8_refresh wsX8_refresh) := goodIn_app (goodIn_of _ (by decide +kernel)) ggX10_textAt_X8_refresh
set_option maxRecDepth 20000 in
theorem ggX10_textAt_X8_sign : GoodIn wsX10_textAt wsX8_sign := goodIn_r _ [161, 148, 173, 174, 175, 176, 177, 178, 179, 180, 181, 182, 183, 184, 185, 186] (by decide +kernel) (by decide +kernel)
set_option maxRecDepth 20000 in
theorem gX10_textAt_X8_sign : GoodIn wsX10_textAt (wsV RX10 146 RX8 yX8_sign wsX8_sign) := goodIn_app (goodIn_of _ (by decide +kernel)) ggX10_textAt_X8_sign
theorem dX10_textAt_0 : decode cX10_textAt 0 = .ok (.iload_n 1, 1) := by decide +kernel
theorem dX10_textAt_1 : decode cX10_textAt 1 = .ok (.ifCond .ge 6, 3) := by decide +kernel
theorem dX10_textAt_4 : decode cX10_textAt 4 = .ok (.ldc 69, 2) := by decide +kernel
theorem dX10_textAt_6 : decode cX10_textAt 6 = .ok (.ireturn, 1) := by decide +kernel
theorem dX10_textAt_7 : decode cX10_textAt 7 = .ok (.aload_n 0, 1) := by decide +kernel
theorem dX10_textAt_8 : decode cX10_textAt 8 = .ok (.getfield 12, 3) := by decide +kernel
theorem dX10_textAt_11 : decode cX10_textAt 11 = .ok (.getfield 70, 3) := by decide +kernel
theorem dX10_textAt_14 : decode cX10_textAt 14 = .ok (.ifCond .ne 6, 3) := by decide +kernel
theorem dX10_textAt_17 : decode cX10_textAt 17 = .ok (.ldc 110, 2) := by decide +kernel
theorem dX10_textAt_19 : decode cX10_textAt 19 = .ok (.ireturn, 1) := by decide +kernel
theorem dX10_textAt_20 : decode cX10_textAt 20 = .ok (.aload_n 0, 1) := by decide +kernel
theorem dX10_textAt_21 : decode cX10_textAt 21 = .ok (.getfield 33, 3) := by decide +kernel
theorem dX10_textAt_24 : decode cX10_textAt 24 = .ok (.aload_n 0, 1) := by decide +kernel
theorem dX10_textAt_25 : decode cX10_textAt 25 = .ok (.getfield 12, 3) := by decide +kernel
theorem dX10_textAt_28 : decode cX10_textAt 28 = .ok (.invokevirtual 133, 3) := by decide +kernel
theorem dX10_textAt_31 : decode cX10_textAt 31 = .ok (.aload_n 0, 1) := by decide +kernel
theorem dX10_textAt_32 : decode cX10_textAt 32 = .ok (.getfield 47, 3) := by decide +kernel
theorem dX10_textAt_35 : decode cX10_textAt 35 = .ok (.aload_n 0, 1) := by decide +kernel
theorem dX10_textAt_36 : decode cX10_textAt 36 = .ok (.getfield 12, 3) := by decide +kernel
theorem dX10_textAt_39 : decode cX10_textAt 39 = .ok (.aload_n 0, 1) := by decide +kernel
theorem dX10_textAt_40 : decode cX10_textAt 40 = .ok (.getfield 33, 3) := by decide +kernel
theorem dX10_textAt_43 : decode cX10_textAt 43 = .ok (.iconst 0, 1) := by decide +kernel
theorem dX10_textAt_44 : decode cX10_textAt 44 = .ok (.aload_n 0, 1) := by decide +kernel
