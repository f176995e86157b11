theorem dX11_costsWith_17 : decode cX11_costsWith 17 = .ok (.iadd, 1) := by decide +kernel
theorem dX11_costsWith_18 : decode cX11_costsWith 18 = .ok (.iload_n 2, 1) := by decide +kernel
theorem dX11_costsWith_19 : decode cX11_costsWith 19 = .ok (.iastore, 1) := by decide +kernel
theorem dX11_costsWith_20 : decode cX11_costsWith 20 = .ok (.aload_n 0, 1) := by decide +kernel
theorem dX11_costsWith_21 : decode cX11_costsWith 21 = .ok (.invokevirtual 148, 3) := by decide +kernel
theorem dX11_costsWith_24 : decode cX11_costsWith 24 = .ok (.istore 4, 2) := by decide +kernel
theorem dX11_costsWith_26 : decode cX11_costsWith 26 = .ok (.aload_n 0, 1) := by decide +kernel
theorem dX11_costsWith_27 : decode cX11_costsWith 27 = .ok (.getfield 7, 3) := by decide +kernel
theorem dX11_costsWith_30 : decode cX11_costsWith 30 = .ok (.bipush 6, 2) := by decide +kernel
theorem dX11_costsWith_32 : decode cX11_costsWith 32 = .ok (.iload_n 1, 1) := by decide +kernel
theorem dX11_costsWith_33 : decode cX11_costsWith 33 = .ok (.iadd, 1) := by decide +kernel
theorem dX11_costsWith_34 : decode cX11_costsWith 34 = .ok (.iload_n 3, 1) := by decide +kernel
theorem dX11_costsWith_35 : decode cX11_costsWith 35 = .ok (.iastore, 1) := by decide +kernel
theorem dX11_costsWith_36 : decode cX11_costsWith 36 = .ok (.iload 4, 2) := by decide +kernel
theorem dX11_costsWith_38 : decode cX11_costsWith 38 = .ok (.ireturn, 1) := by decide +kernel
set_option maxRecDepth 20000 in
theorem ggX11_would_X11_in : GoodIn wsX11_would wsX11_in := goodIn_r _ [6] (by decide +kernel) (by decide +kernel)
set_option maxRecDepth 20000 in
theorem gX11_would_X11_in : GoodIn wsX11_would (va_wsS RX11 62 yX11_in wsX11_in) := goodIn_app (goodIn_of _ (by decide +kernel)) ggX11_would_X11_in
set_option maxRecDepth 20000 in
theorem ggX11_would_X11_costsWith : GoodIn wsX11_would wsX11_costsWith := goodIn_r _ [10, 1, 11, 12, 13, 5, 14, 15, 16, 17, 18, 19, 20, 21, 22, 23, 24, 25, 26, 27, 28, 29, 30, 31, 32, 33, 34, 35, 36, 37, 38, 39, 40, 41, 42, 43, 44, 45, 46, 47, 48, 49, 50, 51, 52, 53, 54, 55, 56, 57, 58, 59, 60, 61, 62, 63] (by decide +kernel) (by decide +kernel)
set_option maxRecDepth 20000 in
theorem gX11_would_X11_costsWith : GoodIn wsX11_would (wsV RX11 152 RX11 yX11_costsWith wsX11_costsWith) := goodIn_app (goodIn_of _ (by decide +kernel)) ggX11_would_X11_costsWith
theorem dX11_would_0 : decode cX11_would 0 = .ok (.iload_n 1, 1) := by decide +kernel
theorem dX11_would_1 : decode cX11_would 1 = .ok (.iconst 0, 1) := by decide +kernel
theorem dX11_would_2 : decode cX11_would 2 = .ok (.aload_n 0, 1) := by decide +kernel
theorem dX11_would_3 : decode cX11_would 3 = .ok (.getfield 7, 3) := by decide +kernel
theorem dX11_would_6 : decode cX11_would 6 = .ok (.iconst 0, 1) := by decide +kernel
theorem dX11_would_7 : decode cX11_would 7 = .ok (.iaload, 1) := by decide +kernel
theorem dX11_would_8 : decode cX11_would 8 = .ok (.iconst 1, 1) := by decide +kernel
theorem dX11_would_9 : decode cX11_would 9 = .ok (.isub, 1) := by decide +kernel
theorem dX11_would_10 : decode cX11_would 10 = .ok (.invokestatic 62, 3) := by decide +kernel
theorem dX11_would_13 : decode cX11_would 13 = .ok (.ifCond .eq 21, 3) := by decide +kernel
theorem dX11_would_16 : decode cX11_would 16 = .ok (.iload_n 2, 1) := by decide +kernel
theorem dX11_would_17 : decode cX11_would 17 = .ok (.iconst 0, 1) := by decide +kernel
theorem dX11_would_18 : decode cX11_would 18 = .ok (.iconst 3, 1) := by decide +kernel
theorem dX11_would_19 : decode cX11_would 19 = .ok (.invokestatic 62, 3) := by decide +kernel
theorem dX11_would_22 : decode cX11_would 22 = .ok (.ifCond .eq 12, 3) := by decide +kernel
theorem dX11_would_25 : decode cX11_would 25 = .ok (.aload_n 0, 1) := by decide +kernel
theorem dX11_would_26 : decode cX11_would 26 = .ok (.iload_n 1, 1) := by decide +kernel
theorem dX11_would_27 : decode cX11_would 27 = .ok (.iload_n 2, 1) := by decide +kernel
theorem dX11_would_28 : decode cX11_would 28 = .ok (.invokevirtual 152, 3) := by decide +kernel
theorem dX11_would_31 : decode cX11_would 31 = .ok (.goto 5, 3) := by decide +kernel
theorem dX11_would_34 : decode cX11_would 34 = .ok (.ldc 57, 2) := by decide +kernel
theorem dX11_would_36 : decode cX11_would 36 = .ok (.ireturn, 1) := by decide +kernel
set_option maxRecDepth 20000 in
theorem ggX11_bestChange_X11_in : GoodIn wsX11_bestChange wsX11_in := goodIn_r _ [7] (by decide +kernel) (by decide +kernel)
set_option maxRecDepth 20000 in
theorem gX11_bestChange_X11_in : GoodIn wsX11_bestChange (va_wsS RX11 62 yX11_in wsX11_in) := goodIn_app (goodIn_of _ (by decide +kernel)) ggX11_bestChange_X11_in
set_option maxRecDepth 20000 in
theorem ggX11_bestChange_X11_costs : GoodIn wsX11_bestChange wsX11_costs := goodIn_r _ [11, 12, 3, 13, 14, 15, 6, 16, 17, 18, 19, 20, 21, 22, 23, 24, 25, 26, 27, 28, 29, 30, 31, 36, 37, 38, 39, 40, 41, 42, 43, 44, 45, 46, 47, 48, 49, 50, 51, 52, 53, 54, 55, 56, 57, 58, 59, 60, 61, 62, 63, 64] (by decide +kernel) (by decide +kernel)
set_option maxRecDepth 20000 in
theorem gX11_bestChange_X11_costs : GoodIn wsX11_bestChange (wsV RX11 148 RX11 yX11_costs wsX11_costs) := goodIn_app (goodIn_of _ (by decide +kernel)) ggX11_bestChange_X11_costs
set_option maxRecDepth 20000 in
theorem ggX11_bestChange_X11_costsWith : GoodIn wsX11_bestChange wsX11_costsWith := goodIn_r _ [35, 3, 8, 9, 10, 6, 11, 12, 13, 14, 15, 16, 17, 18, 19, 20, 21, 22, 23, 24, 25, 26, 27, 28, 29, 30, 31, 36, 37, 38, 39, 40, 41, 42, 43, 44, 45, 46, 47, 48, 49, 50, 51, 52, 53, 54, 55, 56, 57, 58, 59, 60, 61, 62, 63, 64] (by decide +kernel) (by decide +kernel)
set_option maxRecDepth 20000 in
theorem gX11_bestChange_X11_costsWith : GoodIn wsX11_bestChange (wsV RX11 152 RX11 yX11_costsWith wsX11_costsWith) := goodIn_app (goodIn_of _ (by decide +kernel)) ggX11_bestChange_X11_costsWith
theorem dX11_bestChange_0 : decode cX11_bestChange 0 = .ok (.iload_n 1, 1) := by decide +kernel
theorem dX11_bestChange_1 : decode cX11_bestChange 1 = .ok (.iconst 0, 1) := by decide +kernel
theorem dX11_bestChange_2 : decode cX11_bestChange 2 = .ok (.iconst 2, 1) := by decide +kernel
theorem dX11_bestChange_3 : decode cX11_bestChange 3 = .ok (.invokestatic 62, 3) := by decide +kernel
theorem dX11_bestChange_6 : decode cX11_bestChange 6 = .ok (.ifCond .ne 6, 3) := by decide +kernel
theorem dX11_bestChange_9 : decode cX11_bestChange 9 = .ok (.ldc 57, 2) := by decide +kernel
theorem dX11_bestChange_11 : decode cX11_bestChange 11 = .ok (.ireturn, 1) := by decide +kernel
theorem dX11_bestChange_12 : decode cX11_bestChange 12 = .ok (.aload_n 0, 1) := by decide +kernel
theorem dX11_bestChange_13 : decode cX11_bestChange 13 = .ok (.invokevirtual 148, 3) := by decide +kernel
theorem dX11_bestChange_16 : decode cX11_bestChange 16 = .ok (.istore_n 2, 1) := by decide +kernel
theorem dX11_bestChange_17 : decode cX11_bestChange 17 = .ok (.ldc 79, 2) := by decide +kernel
theorem dX11_bestChange_19 : decode cX11_bestChange 19 = .ok (.istore_n 3, 1) := by decide +kernel
theorem dX11_bestChange_20 : decode cX11_bestChange 20 = .ok (.iconst 0, 1) := by decide +kernel
theorem dX11_bestChange_21 : decode cX11_bestChange 21 = .ok (.istore 4, 2) := by decide +kernel
theorem dX11_bestChange_23 : decode cX11_bestChange 23 = .ok (.iload 4, 2) := by decide +kernel
theorem dX11_bestChange_25 : decode cX11_bestChange 25 = .ok (.aload_n 0, 1) := by decide +kernel
theorem dX11_bestChange_26 : decode cX11_bestChange 26 = .ok (.getfield 7, 3) := by decide +kernel
theorem dX11_bestChange_29 : decode cX11_bestChange 29 = .ok (.iconst 0, 1) := by decide +kernel
theorem dX11_bestChange_30 : decode cX11_bestChange 30 = .ok (.iaload, 1) := by decide +kernel
theorem dX11_bestChange_31 : decode cX11_bestChange 31 = .ok (.if_icmp .ge 65, 3) := by decide +kernel
theorem dX11_bestChange_34 : decode cX11_bestChange 34 = .ok (.iconst 0, 1) := by decide +kernel
theorem dX11_bestChange_35 : decode cX11_bestChange 35 = .ok (.istore 5, 2) := by decide +kernel
theorem dX11_bestChange_37 : decode cX11_bestChange 37 = .ok (.iload 5, 2) := by decide +kernel
theorem dX11_bestChange_39 : decode cX11_bestChange 39 = .ok (.iconst 4, 1) := by decide +kernel
theorem dX11_bestChange_40 : decode cX11_bestChange 40 = .ok (.if_icmp .ge 50, 3) := by decide +kernel
theorem dX11_bestChange_43 : decode cX11_bestChange 43 = .ok (.aload_n 0, 1) := by decide +kernel
theorem dX11_bestChange_44 : decode cX11_bestChange 44 = .ok (.iload 4, 2) := by decide +kernel
theorem dX11_bestChange_46 : decode cX11_bestChange 46 = .ok (.iload 5, 2) := by decide +kernel
theorem dX11_bestChange_48 : decode cX11_bestChange 48 = .ok (.invokevirtual 152, 3) := by decide +kernel
theorem dX11_bestChange_51 : decode cX11_bestChange 51 = .ok (.istore 6, 2) := by decide +kernel
theorem dX11_bestChange_53 : decode cX11_bestChange 53 = .ok (.iload 6, 2) := by decide +kernel
theorem dX11_bestChange_55 : decode cX11_bestChange 55 = .ok (.iload_n 2, 1) := by decide +kernel
theorem dX11_bestChange_56 : decode cX11_bestChange 56 = .ok (.if_icmp .ge 13, 3) := by decide +kernel
theorem dX11_bestChange_59 : decode cX11_bestChange 59 = .ok (.iconst 4, 1) := by decide +kernel
theorem dX11_bestChange_60 : decode cX11_bestChange 60 = .ok (.iload 4, 2) := by decide +kernel
theorem dX11_bestChange_62 : decode cX11_bestChange 62 = .ok (.imul, 1) := by decide +kernel
theorem dX11_bestChange_63 : decode cX11_bestChange 63 = .ok (.iload 5, 2) := by decide +kernel
theorem dX11_bestChange_65 : decode cX11_bestChange 65 = .ok (.iadd, 1) := by decide +kernel
theorem dX11_bestChange_66 : decode cX11_bestChange 66 = .ok (.goto 4, 3) := by decide +kernel
theorem dX11_bestChange_69 : decode cX11_bestChange 69 = .ok (.iload_n 3, 1) := by decide +kernel
theorem dX11_bestChange_70 : decode cX11_bestChange 70 = .ok (.istore_n 3, 1) := by decide +kernel
theorem dX11_bestChange_71 : decode cX11_bestChange 71 = .ok (.iload 6, 2) := by decide +kernel
theorem dX11_bestChange_73 : decode cX11_bestChange 73 = .ok (.iload_n 2, 1) := by decide +kernel
theorem dX11_bestChange_74 : decode cX11_bestChange 74 = .ok (.if_icmp .ge 8, 3) := by decide +kernel
theorem dX11_bestChange_77 : decode cX11_bestChange 77 = .ok (.iload 6, 2) := by decide +kernel
theorem dX11_bestChange_79 : decode cX11_bestChange 79 = .ok (.goto 4, 3) := by decide +kernel
theorem dX11_bestChange_82 : decode cX11_bestChange 82 = .ok (.iload_n 2, 1) := by decide +kernel
theorem dX11_bestChange_83 : decode cX11_bestChange 83 = .ok (.istore_n 2, 1) := by decide +kernel
theorem dX11_bestChange_84 : decode cX11_bestChange 84 = .ok (.iinc 5 1, 3) := by decide +kernel
theorem dX11_bestChange_87 : decode cX11_bestChange 87 = .ok (.goto (-50), 3) := by decide +kernel
theorem dX11_bestChange_90 : decode cX11_bestChange 90 = .ok (.iinc 4 1, 3) := by decide +kernel
theorem dX11_bestChange_93 : decode cX11_bestChange 93 = .ok (.goto (-70), 3) := by decide +kernel
theorem dX11_bestChange_96 : decode cX11_bestChange 96 = .ok (.iload_n 3, 1) := by decide +kernel
theorem dX11_bestChange_97 : decode cX11_bestChange 97 = .ok (.ldc 79, 2) := by decide +kernel
theorem dX11_bestChange_99 : decode cX11_bestChange 99 = .ok (.if_icmp .ne 8, 3) := by decide +kernel
theorem dX11_bestChange_102 : decode cX11_bestChange 102 = .ok (.ldc 79, 2) := by decide +kernel
theorem dX11_bestChange_104 : decode cX11_bestChange 104 = .ok (.goto 25, 3) := by decide +kernel
theorem dX11_bestChange_107 : decode cX11_bestChange 107 = .ok (.iload_n 1, 1) := by decide +kernel
theorem dX11_bestChange_108 : decode cX11_bestChange 108 = .ok (.ifCond .ne 9, 3) := by decide +kernel
theorem dX11_bestChange_111 : decode cX11_bestChange 111 = .ok (.iload_n 3, 1) := by decide +kernel
theorem dX11_bestChange_112 : decode cX11_bestChange 112 = .ok (.iconst 4, 1) := by decide +kernel
theorem dX11_bestChange_113 : decode cX11_bestChange 113 = .ok (.idiv, 1) := by decide +kernel
theorem dX11_bestChange_114 : decode cX11_bestChange 114 = .ok (.goto 15, 3) := by decide +kernel
theorem dX11_bestChange_117 : decode cX11_bestChange 117 = .ok (.iload_n 1, 1) := by decide +kernel
theorem dX11_bestChange_118 : decode cX11_bestChange 118 = .ok (.iconst 1, 1) := by decide +kernel
theorem dX11_bestChange_119 : decode cX11_bestChange 119 = .ok (.if_icmp .ne 9, 3) := by decide +kernel
theorem dX11_bestChange_122 : decode cX11_bestChange 122 = .ok (.iload_n 3, 1) := by decide +kernel
theorem dX11_bestChange_123 : decode cX11_bestChange 123 = .ok (.iconst 4, 1) := by decide +kernel
theorem dX11_bestChange_124 : decode cX11_bestChange 124 = .ok (.irem, 1) := by decide +kernel
theorem dX11_bestChange_125 : decode cX11_bestChange 125 = .ok (.goto 4, 3) := by decide +kernel
theorem dX11_bestChange_128 : decode cX11_bestChange 128 = .ok (.iload_n 2, 1) := by decide +kernel
theorem dX11_bestChange_129 : decode cX11_bestChange 129 = .ok (.ireturn, 1) := by decide +kernel
set_option maxRecDepth 20000 in
theorem ggX11_type_X11_in : GoodIn wsX11_type wsX11_in := goodIn_r _ [8] (by decide +kernel) (by decide +kernel)
set_option maxRecDepth 20000 in
theorem gX11_type_X11_in : GoodIn wsX11_type (va_wsS RX11 62 yX11_in wsX11_in) := goodIn_app (goodIn_of _ (by decide +kernel)) ggX11_type_X11_in
theorem dX11_type_0 : decode cX11_type 0 = .ok (.iload_n 1, 1) := by decide +kernel
theorem dX11_type_1 : decode cX11_type 1 = .ok (.bipush 32, 2) := by decide +kernel
theorem dX11_type_3 : decode cX11_type 3 = .ok (.bipush 126, 2) := by decide +kernel
theorem dX11_type_5 : decode cX11_type 5 = .ok (.invokestatic 62, 3) := by decide +kernel
theorem dX11_type_8 : decode cX11_type 8 = .ok (.ifCond .ne 6, 3) := by decide +kernel
theorem dX11_type_11 : decode cX11_type 11 = .ok (.ldc 57, 2) := by decide +kernel
theorem dX11_type_13 : decode cX11_type 13 = .ok (.ireturn, 1) := by decide +kernel
theorem dX11_type_14 : decode cX11_type 14 = .ok (.aload_n 0, 1) := by decide +kernel
theorem dX11_type_15 : decode cX11_type 15 = .ok (.getfield 155, 3) := by decide +kernel
theorem dX11_type_18 : decode cX11_type 18 = .ok (.bipush 60, 2) := by decide +kernel
theorem dX11_type_20 : decode cX11_type 20 = .ok (.if_icmp .ne 6, 3) := by decide +kernel
theorem dX11_type_23 : decode cX11_type 23 = .ok (.ldc 66, 2) := by decide +kernel
theorem dX11_type_25 : decode cX11_type 25 = .ok (.ireturn, 1) := by decide +kernel
theorem dX11_type_26 : decode cX11_type 26 = .ok (.aload_n 0, 1) := by decide +kernel
theorem dX11_type_27 : decode cX11_type 27 = .ok (.getfield 19, 3) := by decide +kernel
theorem dX11_type_30 : decode cX11_type 30 = .ok (.aload_n 0, 1) := by decide +kernel
theorem dX11_type_31 : decode cX11_type 31 = .ok (.getfield 155, 3) := by decide +kernel
theorem dX11_type_34 : decode cX11_type 34 = .ok (.iload_n 1, 1) := by decide +kernel
theorem dX11_type_35 : decode cX11_type 35 = .ok (.i2c, 1) := by decide +kernel
theorem dX11_type_36 : decode cX11_type 36 = .ok (.castore, 1) := by decide +kernel
theorem dX11_type_37 : decode cX11_type 37 = .ok (.aload_n 0, 1) := by decide +kernel
theorem dX11_type_38 : decode cX11_type 38 = .ok (.dup, 1) := by decide +kernel
theorem dX11_type_39 : decode cX11_type 39 = .ok (.getfield 155, 3) := by decide +kernel
theorem dX11_type_42 : decode cX11_type 42 = .ok (.iconst 1, 1) := by decide +kernel
theorem dX11_type_43 : decode cX11_type 43 = .ok (.iadd, 1) := by decide +kernel
theorem dX11_type_44 : decode cX11_type 44 = .ok (.putfield 155, 3) := by decide +kernel
theorem dX11_type_47 : decode cX11_type 47 = .ok (.aload_n 0, 1) := by decide +kernel
theorem dX11_type_48 : decode cX11_type 48 = .ok (.getfield 155, 3) := by decide +kernel
theorem dX11_type_51 : decode cX11_type 51 = .ok (.ireturn, 1) := by decide +kernel
theorem dX11_clearText_0 : decode cX11_clearText 0 = .ok (.aload_n 0, 1) := by decide +kernel
theorem dX11_clearText_1 : decode cX11_clearText 1 = .ok (.getfield 155, 3) := by decide +kernel
theorem dX11_clearText_4 : decode cX11_clearText 4 = .ok (.istore_n 1, 1) := by decide +kernel
theorem dX11_clearText_5 : decode cX11_clearText 5 = .ok (.aload_n 0, 1) := by decide +kernel
theorem dX11_clearText_6 : decode cX11_clearText 6 = .ok (.iconst 0, 1) := by decide +kernel
theorem dX11_clearText_7 : decode cX11_clearText 7 = .ok (.putfield 155, 3) := by decide +kernel
theorem dX11_clearText_10 : decode cX11_clearText 10 = .ok (.iload_n 1, 1) := by decide +kernel
theorem dX11_clearText_11 : decode cX11_clearText 11 = .ok (.ireturn, 1) := by decide +kernel
theorem dX11_sign_0 : decode cX11_sign 0 = .ok (.aload_n 0, 1) := by decide +kernel
theorem dX11_sign_1 : decode cX11_sign 1 = .ok (.getfield 158, 3) := by decide +kernel
theorem dX11_sign_4 : decode cX11_sign 4 = .ok (.aload_n 0, 1) := by decide +kernel
theorem dX11_sign_5 : decode cX11_sign 5 = .ok (.getfield 155, 3) := by decide +kernel
theorem dX11_sign_8 : decode cX11_sign 8 = .ok (.if_icmp .ge 15, 3) := by decide +kernel
theorem dX11_sign_11 : decode cX11_sign 11 = .ok (.aload_n 0, 1) := by decide +kernel
theorem dX11_sign_12 : decode cX11_sign 12 = .ok (.getfield 19, 3) := by decide +kernel
theorem dX11_sign_15 : decode cX11_sign 15 = .ok (.aload_n 0, 1) := by decide +kernel
theorem dX11_sign_16 : decode cX11_sign 16 = .ok (.getfield 158, 3) := by decide +kernel
theorem dX11_sign_19 : decode cX11_sign 19 = .ok (.caload, 1) := by decide +kernel
theorem dX11_sign_20 : decode cX11_sign 20 = .ok (.goto 4, 3) := by decide +kernel
theorem dX11_sign_23 : decode cX11_sign 23 = .ok (.iconst (-1), 1) := by decide +kernel
theorem dX11_sign_24 : decode cX11_sign 24 = .ok (.ireturn, 1) := by decide +kernel
theorem dX11_faulty_0 : decode cX11_faulty 0 = .ok (.aload_n 0, 1) := by decide +kernel
theorem dX11_faulty_1 : decode cX11_faulty 1 = .ok (.iload_n 1, 1) := by decide +kernel
theorem dX11_faulty_2 : decode cX11_faulty 2 = .ok (.putfield 161, 3) := by decide +kernel
theorem dX11_faulty_5 : decode cX11_faulty 5 = .ok (.aload_n 0, 1) := by decide +kernel
theorem dX11_faulty_6 : decode cX11_faulty 6 = .ok (.iload_n 2, 1) := by decide +kernel
theorem dX11_faulty_7 : decode cX11_faulty 7 = .ok (.putfield 164, 3) := by decide +kernel
theorem dX11_faulty_10 : decode cX11_faulty 10 = .ok (.iconst 0, 1) := by decide +kernel
theorem dX11_faulty_11 : decode cX11_faulty 11 = .ok (.ireturn, 1) := by decide +kernel
set_option maxRecDepth 20000 in
theorem ggX11_takes_X11_sign : GoodIn wsX11_takes wsX11_sign := goodIn_r _ [6, 1, 7, 8, 15, 16, 17, 18, 19, 20, 21, 22, 23, 24, 25, 26, 27, 28, 29, 30, 31, 32, 33, 34, 35, 36, 37, 38, 39, 40, 41, 42, 43] (by decide +kernel) (by decide +kernel)
set_option maxRecDepth 20000 in
theorem gX11_takes_X11_sign : GoodIn wsX11_takes (wsV RX11 167 RX11 yX11_sign wsX11_sign) := goodIn_app (goodIn_of _ (by decide +kernel)) ggX11_takes_X11_sign
set_option maxRecDepth 20000 in
theorem ggX11_takes_X11_faulty : GoodIn wsX11_takes wsX11_faulty := goodIn_r _ [12, 13, 14, 15, 16, 17, 18, 19, 20, 21, 22, 23, 24, 25, 26, 27, 28, 29, 30, 31, 32, 33, 34, 35, 36, 37, 38, 39, 40, 41, 42, 43] (by decide +kernel) (by decide +kernel)
set_option maxRecDepth 20000 in
theorem gX11_takes_X11_faulty : GoodIn wsX11_takes (wsV RX11 170 RX11 yX11_faulty wsX11_faulty) := goodIn_app (goodIn_of _ (by decide +kernel)) ggX11_takes_X11_faulty
theorem dX11_takes_0 : decode cX11_takes 0 = .ok (.aload_n 0, 1) := by decide +kernel
theorem dX11_takes_1 : decode cX11_takes 1 = .ok (.invokevirtual 167, 3) := by decide +kernel
theorem dX11_takes_4 : decode cX11_takes 4 = .ok (.iload_n 1, 1) := by decide +kernel
theorem dX11_takes_5 : decode cX11_takes 5 = .ok (.if_icmp .eq 13, 3) := by decide +kernel
theorem dX11_takes_8 : decode cX11_takes 8 = .ok (.aload_n 0, 1) := by decide +kernel
theorem dX11_takes_9 : decode cX11_takes 9 = .ok (.aload_n 0, 1) := by decide +kernel
theorem dX11_takes_10 : decode cX11_takes 10 = .ok (.getfield 158, 3) := by decide +kernel
theorem dX11_takes_13 : decode cX11_takes 13 = .ok (.iconst 1, 1) := by decide +kernel
theorem dX11_takes_14 : decode cX11_takes 14 = .ok (.invokevirtual 170, 3) := by decide +kernel
theorem dX11_takes_17 : decode cX11_takes 17 = .ok (.ireturn, 1) := by decide +kernel
theorem dX11_takes_18 : decode cX11_takes 18 = .ok (.aload_n 0, 1) := by decide +kernel
theorem dX11_takes_19 : decode cX11_takes 19 = .ok (.dup, 1) := by decide +kernel
theorem dX11_takes_20 : decode cX11_takes 20 = .ok (.getfield 158, 3) := by decide +kernel
theorem dX11_takes_23 : decode cX11_takes 23 = .ok (.iconst 1, 1) := by decide +kernel
theorem dX11_takes_24 : decode cX11_takes 24 = .ok (.iadd, 1) := by decide +kernel
theorem dX11_takes_25 : decode cX11_takes 25 = .ok (.putfield 158, 3) := by decide +kernel
theorem dX11_takes_28 : decode cX11_takes 28 = .ok (.iconst 1, 1) := by decide +kernel
theorem dX11_takes_29 : decode cX11_takes 29 = .ok (.ireturn, 1) := by decide +kernel
set_option maxRecDepth 20000 in
theorem ggX11_readsLetter_X11_faulty : GoodIn wsX11_readsLetter wsX11_faulty := goodIn_r _ [11, 12, 13, 20, 21, 22, 23, 24, 25, 26, 27, 28, 29, 30, 31, 32, 33, 34, 35, 36, 37, 38, 39, 40, 41, 42, 43, 44, 45, 46, 47, 48] (by decide +kernel) (by decide +kernel)
set_option maxRecDepth 20000 in
theorem gX11_readsLetter_X11_faulty : GoodIn wsX11_readsLetter (wsV RX11 170 RX11 yX11_faulty wsX11_faulty) := goodIn_app (goodIn_of _ (by decide +kernel)) ggX11_readsLetter_X11_faulty
set_option maxRecDepth 20000 in
theorem ggX11_readsLetter_X11_sign : GoodIn wsX11_readsLetter wsX11_sign := goodIn_r _ [17, 4, 18, 19, 20, 21, 22, 23, 24, 25, 26, 27, 28, 29, 30, 31, 32, 33, 34, 35, 36, 37, 38, 39, 40, 41, 42, 43, 44, 45, 46, 47, 48] (by decide +kernel) (by decide +kernel)
set_option maxRecDepth 20000 in
theorem gX11_readsLetter_X11_sign : GoodIn wsX11_readsLetter (wsV RX11 167 RX11 yX11_sign wsX11_sign) := goodIn_app (goodIn_of _ (by decide +kernel)) ggX11_readsLetter_X11_sign
theorem dX11_readsLetter_0 : decode cX11_readsLetter 0 = .ok (.aload_n 0, 1) := by decide +kernel
theorem dX11_readsLetter_1 : decode cX11_readsLetter 1 = .ok (.getfield 173, 3) := by decide +kernel
theorem dX11_readsLetter_4 : decode cX11_readsLetter 4 = .ok (.aload_n 0, 1) := by decide +kernel
theorem dX11_readsLetter_5 : decode cX11_readsLetter 5 = .ok (.getfield 48, 3) := by decide +kernel
theorem dX11_readsLetter_8 : decode cX11_readsLetter 8 = .ok (.aload_n 0, 1) := by decide +kernel
theorem dX11_readsLetter_9 : decode cX11_readsLetter 9 = .ok (.getfield 176, 3) := by decide +kernel
theorem dX11_readsLetter_12 : decode cX11_readsLetter 12 = .ok (.iaload, 1) := by decide +kernel
theorem dX11_readsLetter_13 : decode cX11_readsLetter 13 = .ok (.isub, 1) := by decide +kernel
theorem dX11_readsLetter_14 : decode cX11_readsLetter 14 = .ok (.bipush 24, 2) := by decide +kernel
theorem dX11_readsLetter_16 : decode cX11_readsLetter 16 = .ok (.if_icmp .ne 13, 3) := by decide +kernel
theorem dX11_readsLetter_19 : decode cX11_readsLetter 19 = .ok (.aload_n 0, 1) := by decide +kernel
theorem dX11_readsLetter_20 : decode cX11_readsLetter 20 = .ok (.aload_n 0, 1) := by decide +kernel
theorem dX11_readsLetter_21 : decode cX11_readsLetter 21 = .ok (.getfield 158, 3) := by decide +kernel
theorem dX11_readsLetter_24 : decode cX11_readsLetter 24 = .ok (.iconst 4, 1) := by decide +kernel
theorem dX11_readsLetter_25 : decode cX11_readsLetter 25 = .ok (.invokevirtual 170, 3) := by decide +kernel
theorem dX11_readsLetter_28 : decode cX11_readsLetter 28 = .ok (.ireturn, 1) := by decide +kernel
theorem dX11_readsLetter_29 : decode cX11_readsLetter 29 = .ok (.aload_n 0, 1) := by decide +kernel
theorem dX11_readsLetter_30 : decode cX11_readsLetter 30 = .ok (.getfield 45, 3) := by decide +kernel
theorem dX11_readsLetter_33 : decode cX11_readsLetter 33 = .ok (.aload_n 0, 1) := by decide +kernel
theorem dX11_readsLetter_34 : decode cX11_readsLetter 34 = .ok (.getfield 173, 3) := by decide +kernel
theorem dX11_readsLetter_37 : decode cX11_readsLetter 37 = .ok (.aload_n 0, 1) := by decide +kernel
theorem dX11_readsLetter_38 : decode cX11_readsLetter 38 = .ok (.invokevirtual 167, 3) := by decide +kernel
theorem dX11_readsLetter_41 : decode cX11_readsLetter 41 = .ok (.bipush 97, 2) := by decide +kernel
theorem dX11_readsLetter_43 : decode cX11_readsLetter 43 = .ok (.isub, 1) := by decide +kernel
theorem dX11_readsLetter_44 : decode cX11_readsLetter 44 = .ok (.iastore, 1) := by decide +kernel
theorem dX11_readsLetter_45 : decode cX11_readsLetter 45 = .ok (.aload_n 0, 1) := by decide +kernel
theorem dX11_readsLetter_46 : decode cX11_readsLetter 46 = .ok (.dup, 1) := by decide +kernel
theorem dX11_readsLetter_47 : decode cX11_readsLetter 47 = .ok (.getfield 173, 3) := by decide +kernel
theorem dX11_readsLetter_50 : decode cX11_readsLetter 50 = .ok (.iconst 1, 1) := by decide +kernel
theorem dX11_readsLetter_51 : decode cX11_readsLetter 51 = .ok (.iadd, 1) := by decide +kernel
theorem dX11_readsLetter_52 : decode cX11_readsLetter 52 = .ok (.putfield 173, 3) := by decide +kernel
theorem dX11_readsLetter_55 : decode cX11_readsLetter 55 = .ok (.aload_n 0, 1) := by decide +kernel
theorem dX11_readsLetter_56 : decode cX11_readsLetter 56 = .ok (.dup, 1) := by decide +kernel
theorem dX11_readsLetter_57 : decode cX11_readsLetter 57 = .ok (.getfield 179, 3) := by decide +kernel
theorem dX11_readsLetter_60 : decode cX11_readsLetter 60 = .ok (.iconst 1, 1) := by decide +kernel
theorem dX11_readsLetter_61 : decode cX11_readsLetter 61 = .ok (.iadd, 1) := by decide +kernel
theorem dX11_readsLetter_62 : decode cX11_readsLetter 62 = .ok (.putfield 179, 3) := by decide +kernel
theorem dX11_readsLetter_65 : decode cX11_readsLetter 65 = .ok (.aload_n 0, 1) := by decide +kernel
theorem dX11_readsLetter_66 : decode cX11_readsLetter 66 = .ok (.dup, 1) := by decide +kernel
theorem dX11_readsLetter_67 : decode cX11_readsLetter 67 = .ok (.getfield 158, 3) := by decide +kernel
theorem dX11_readsLetter_70 : decode cX11_readsLetter 70 = .ok (.iconst 1, 1) := by decide +kernel
theorem dX11_readsLetter_71 : decode cX11_readsLetter 71 = .ok (.iadd, 1) := by decide +kernel
theorem dX11_readsLetter_72 : decode cX11_readsLetter 72 = .ok (.putfield 158, 3) := by decide +kernel
theorem dX11_readsLetter_75 : decode cX11_readsLetter 75 = .ok (.iconst 1, 1) := by decide +kernel
theorem dX11_readsLetter_76 : decode cX11_readsLetter 76 = .ok (.ireturn, 1) := by decide +kernel
set_option maxRecDepth 20000 in
theorem ggX11_opensBlock_X11_sign : GoodIn wsX11_opensBlock wsX11_sign := goodIn_r _ [13, 1, 14, 15, 29, 30, 31, 32, 33, 34, 35, 36, 37, 38, 39, 40, 41, 42, 43, 44, 45, 46, 47, 48, 49, 50, 51, 52, 53, 54, 55, 56, 57] (by decide +kernel) (by decide +kernel)
set_option maxRecDepth 20000 in
theorem gX11_opensBlock_X11_sign : GoodIn wsX11_opensBlock (wsV RX11 167 RX11 yX11_sign wsX11_sign) := goodIn_app (goodIn_of _ (by decide +kernel)) ggX11_opensBlock_X11_sign
set_option maxRecDepth 20000 in
theorem ggX11_opensBlock_X11_in : GoodIn wsX11_opensBlock wsX11_in := goodIn_r _ [18] (by decide +kernel) (by decide +kernel)
set_option maxRecDepth 20000 in
theorem gX11_opensBlock_X11_in : GoodIn wsX11_opensBlock (va_wsS RX11 62 yX11_in wsX11_in) := goodIn_app (goodIn_of _ (by decide +kernel)) ggX11_opensBlock_X11_in
set_option maxRecDepth 20000 in
theorem ggX11_opensBlock_X11_takes : GoodIn wsX11_opensBlock wsX11_takes := goodIn_r _ [22, 1, 9, 10, 11, 12, 13, 14, 15, 23, 24, 25, 26, 27, 28, 29, 30, 31, 32, 33, 34, 35, 36, 37, 38, 39, 40, 41, 42, 43, 44, 45, 46, 47, 48, 49, 50, 51, 52, 53, 54, 55, 56, 57] (by decide +kernel) (by decide +kernel)
set_option maxRecDepth 20000 in
theorem gX11_opensBlock_X11_takes : GoodIn wsX11_opensBlock (wsV RX11 182 RX11 yX11_takes wsX11_takes) := goodIn_app (goodIn_of _ (by decide +kernel)) ggX11_opensBlock_X11_takes
set_option maxRecDepth 20000 in
theorem ggX11_opensBlock_X11_faulty : GoodIn wsX11_opensBlock wsX11_faulty := goodIn_r _ [26, 27, 28, 29, 30, 31, 32, 33, 34, 35, 36, 37, 38, 39, 40, 41, 42, 43, 44, 45, 46, 47, 48, 49, 50, 51, 52, 53, 54, 55, 56, 57] (by decide +kernel) (by decide +kernel)
set_option maxRecDepth 20000 in
theorem gX11_opensBlock_X11_faulty : GoodIn wsX11_opensBlock (wsV RX11 170 RX11 yX11_faulty wsX11_faulty) := goodIn_app (goodIn_of _ (by decide +kernel)) ggX11_opensBlock_X11_faulty
theorem dX11_opensBlock_0 : decode cX11_opensBlock 0 = .ok (.aload_n 0, 1) := by decide +kernel
theorem dX11_opensBlock_1 : decode cX11_opensBlock 1 = .ok (.getfield 158, 3) := by decide +kernel
theorem dX11_opensBlock_4 : decode cX11_opensBlock 4 = .ok (.istore_n 1, 1) := by decide +kernel
theorem dX11_opensBlock_5 : decode cX11_opensBlock 5 = .ok (.iconst 0, 1) := by decide +kernel
theorem dX11_opensBlock_6 : decode cX11_opensBlock 6 = .ok (.istore_n 2, 1) := by decide +kernel
theorem dX11_opensBlock_7 : decode cX11_opensBlock 7 = .ok (.aload_n 0, 1) := by decide +kernel
theorem dX11_opensBlock_8 : decode cX11_opensBlock 8 = .ok (.invokevirtual 167, 3) := by decide +kernel
theorem dX11_opensBlock_11 : decode cX11_opensBlock 11 = .ok (.bipush 48, 2) := by decide +kernel
theorem dX11_opensBlock_13 : decode cX11_opensBlock 13 = .ok (.bipush 57, 2) := by decide +kernel
theorem dX11_opensBlock_15 : decode cX11_opensBlock 15 = .ok (.invokestatic 62, 3) := by decide +kernel
theorem dX11_opensBlock_18 : decode cX11_opensBlock 18 = .ok (.ifCond .eq 39, 3) := by decide +kernel
theorem dX11_opensBlock_21 : decode cX11_opensBlock 21 = .ok (.aload_n 0, 1) := by decide +kernel
theorem dX11_opensBlock_22 : decode cX11_opensBlock 22 = .ok (.getfield 158, 3) := by decide +kernel
theorem dX11_opensBlock_25 : decode cX11_opensBlock 25 = .ok (.iload_n 1, 1) := by decide +kernel
theorem dX11_opensBlock_26 : decode cX11_opensBlock 26 = .ok (.iconst 2, 1) := by decide +kernel
theorem dX11_opensBlock_27 : decode cX11_opensBlock 27 = .ok (.iadd, 1) := by decide +kernel
theorem dX11_opensBlock_28 : decode cX11_opensBlock 28 = .ok (.if_icmp .ge 29, 3) := by decide +kernel
theorem dX11_opensBlock_31 : decode cX11_opensBlock 31 = .ok (.bipush 10, 2) := by decide +kernel
theorem dX11_opensBlock_33 : decode cX11_opensBlock 33 = .ok (.iload_n 2, 1) := by decide +kernel
theorem dX11_opensBlock_34 : decode cX11_opensBlock 34 = .ok (.imul, 1) := by decide +kernel
theorem dX11_opensBlock_35 : decode cX11_opensBlock 35 = .ok (.aload_n 0, 1) := by decide +kernel
theorem dX11_opensBlock_36 : decode cX11_opensBlock 36 = .ok (.invokevirtual 167, 3) := by decide +kernel
theorem dX11_opensBlock_39 : decode cX11_opensBlock 39 = .ok (.iadd, 1) := by decide +kernel
theorem dX11_opensBlock_40 : decode cX11_opensBlock 40 = .ok (.bipush 48, 2) := by decide +kernel
theorem dX11_opensBlock_42 : decode cX11_opensBlock 42 = .ok (.isub, 1) := by decide +kernel
theorem dX11_opensBlock_43 : decode cX11_opensBlock 43 = .ok (.istore_n 2, 1) := by decide +kernel
theorem dX11_opensBlock_44 : decode cX11_opensBlock 44 = .ok (.aload_n 0, 1) := by decide +kernel
theorem dX11_opensBlock_45 : decode cX11_opensBlock 45 = .ok (.dup, 1) := by decide +kernel
theorem dX11_opensBlock_46 : decode cX11_opensBlock 46 = .ok (.getfield 158, 3) := by decide +kernel
theorem dX11_opensBlock_49 : decode cX11_opensBlock 49 = .ok (.iconst 1, 1) := by decide +kernel
theorem dX11_opensBlock_50 : decode cX11_opensBlock 50 = .ok (.iadd, 1) := by decide +kernel
theorem dX11_opensBlock_51 : decode cX11_opensBlock 51 = .ok (.putfield 158, 3) := by decide +kernel
theorem dX11_opensBlock_54 : decode cX11_opensBlock 54 = .ok (.goto (-47), 3) := by decide +kernel
theorem dX11_opensBlock_57 : decode cX11_opensBlock 57 = .ok (.aload_n 0, 1) := by decide +kernel
theorem dX11_opensBlock_58 : decode cX11_opensBlock 58 = .ok (.bipush 40, 2) := by decide +kernel
theorem dX11_opensBlock_60 : decode cX11_opensBlock 60 = .ok (.invokevirtual 182, 3) := by decide +kernel
theorem dX11_opensBlock_63 : decode cX11_opensBlock 63 = .ok (.ifCond .ne 5, 3) := by decide +kernel
theorem dX11_opensBlock_66 : decode cX11_opensBlock 66 = .ok (.iconst 0, 1) := by decide +kernel
theorem dX11_opensBlock_67 : decode cX11_opensBlock 67 = .ok (.ireturn, 1) := by decide +kernel
theorem dX11_opensBlock_68 : decode cX11_opensBlock 68 = .ok (.iload_n 2, 1) := by decide +kernel
theorem dX11_opensBlock_69 : decode cX11_opensBlock 69 = .ok (.iconst 2, 1) := by decide +kernel
theorem dX11_opensBlock_70 : decode cX11_opensBlock 70 = .ok (.bipush 24, 2) := by decide +kernel
theorem dX11_opensBlock_72 : decode cX11_opensBlock 72 = .ok (.invokestatic 62, 3) := by decide +kernel
theorem dX11_opensBlock_75 : decode cX11_opensBlock 75 = .ok (.ifCond .ne 10, 3) := by decide +kernel
theorem dX11_opensBlock_78 : decode cX11_opensBlock 78 = .ok (.aload_n 0, 1) := by decide +kernel
theorem dX11_opensBlock_79 : decode cX11_opensBlock 79 = .ok (.iload_n 1, 1) := by decide +kernel
theorem dX11_opensBlock_80 : decode cX11_opensBlock 80 = .ok (.iconst 2, 1) := by decide +kernel
theorem dX11_opensBlock_81 : decode cX11_opensBlock 81 = .ok (.invokevirtual 170, 3) := by decide +kernel
theorem dX11_opensBlock_84 : decode cX11_opensBlock 84 = .ok (.ireturn, 1) := by decide +kernel
theorem dX11_opensBlock_85 : decode cX11_opensBlock 85 = .ok (.aload_n 0, 1) := by decide +kernel
theorem dX11_opensBlock_86 : decode cX11_opensBlock 86 = .ok (.dup, 1) := by decide +kernel
theorem dX11_opensBlock_87 : decode cX11_opensBlock 87 = .ok (.getfield 176, 3) := by decide +kernel
theorem dX11_opensBlock_90 : decode cX11_opensBlock 90 = .ok (.iconst 1, 1) := by decide +kernel
theorem dX11_opensBlock_91 : decode cX11_opensBlock 91 = .ok (.iadd, 1) := by decide +kernel
theorem dX11_opensBlock_92 : decode cX11_opensBlock 92 = .ok (.putfield 176, 3) := by decide +kernel
theorem dX11_opensBlock_95 : decode cX11_opensBlock 95 = .ok (.aload_n 0, 1) := by decide +kernel
theorem dX11_opensBlock_96 : decode cX11_opensBlock 96 = .ok (.aload_n 0, 1) := by decide +kernel
theorem dX11_opensBlock_97 : decode cX11_opensBlock 97 = .ok (.getfield 176, 3) := by decide +kernel
theorem dX11_opensBlock_100 : decode cX11_opensBlock 100 = .ok (.aload_n 0, 1) := by decide +kernel
theorem dX11_opensBlock_101 : decode cX11_opensBlock 101 = .ok (.getfield 186, 3) := by decide +kernel
theorem dX11_opensBlock_104 : decode cX11_opensBlock 104 = .ok (.if_icmp .le 10, 3) := by decide +kernel
theorem dX11_opensBlock_107 : decode cX11_opensBlock 107 = .ok (.aload_n 0, 1) := by decide +kernel
theorem dX11_opensBlock_108 : decode cX11_opensBlock 108 = .ok (.getfield 176, 3) := by decide +kernel
theorem dX11_opensBlock_111 : decode cX11_opensBlock 111 = .ok (.goto 7, 3) := by decide +kernel
theorem dX11_opensBlock_114 : decode cX11_opensBlock 114 = .ok (.aload_n 0, 1) := by decide +kernel
theorem dX11_opensBlock_115 : decode cX11_opensBlock 115 = .ok (.getfield 186, 3) := by decide +kernel
theorem dX11_opensBlock_118 : decode cX11_opensBlock 118 = .ok (.putfield 186, 3) := by decide +kernel
theorem dX11_opensBlock_121 : decode cX11_opensBlock 121 = .ok (.aload_n 0, 1) := by decide +kernel
theorem dX11_opensBlock_122 : decode cX11_opensBlock 122 = .ok (.getfield 48, 3) := by decide +kernel
theorem dX11_opensBlock_125 : decode cX11_opensBlock 125 = .ok (.aload_n 0, 1) := by decide +kernel
theorem dX11_opensBlock_126 : decode cX11_opensBlock 126 = .ok (.getfield 176, 3) := by decide +kernel
theorem dX11_opensBlock_129 : decode cX11_opensBlock 129 = .ok (.aload_n 0, 1) := by decide +kernel
theorem dX11_opensBlock_130 : decode cX11_opensBlock 130 = .ok (.getfield 173, 3) := by decide +kernel
theorem dX11_opensBlock_133 : decode cX11_opensBlock 133 = .ok (.iastore, 1) := by decide +kernel
theorem dX11_opensBlock_134 : decode cX11_opensBlock 134 = .ok (.aload_n 0, 1) := by decide +kernel
theorem dX11_opensBlock_135 : decode cX11_opensBlock 135 = .ok (.getfield 51, 3) := by decide +kernel
theorem dX11_opensBlock_138 : decode cX11_opensBlock 138 = .ok (.aload_n 0, 1) := by decide +kernel
theorem dX11_opensBlock_139 : decode cX11_opensBlock 139 = .ok (.getfield 176, 3) := by decide +kernel
theorem dX11_opensBlock_142 : decode cX11_opensBlock 142 = .ok (.iload_n 1, 1) := by decide +kernel
theorem dX11_opensBlock_143 : decode cX11_opensBlock 143 = .ok (.iastore, 1) := by decide +kernel
theorem dX11_opensBlock_144 : decode cX11_opensBlock 144 = .ok (.aload_n 0, 1) := by decide +kernel
theorem dX11_opensBlock_145 : decode cX11_opensBlock 145 = .ok (.getfield 54, 3) := by decide +kernel
theorem dX11_opensBlock_148 : decode cX11_opensBlock 148 = .ok (.aload_n 0, 1) := by decide +kernel
theorem dX11_opensBlock_149 : decode cX11_opensBlock 149 = .ok (.getfield 176, 3) := by decide +kernel
theorem dX11_opensBlock_152 : decode cX11_opensBlock 152 = .ok (.iload_n 2, 1) := by decide +kernel
theorem dX11_opensBlock_153 : decode cX11_opensBlock 153 = .ok (.iastore, 1) := by decide +kernel
theorem dX11_opensBlock_154 : decode cX11_opensBlock 154 = .ok (.aload_n 0, 1) := by decide +kernel
theorem dX11_opensBlock_155 : decode cX11_opensBlock 155 = .ok (.dup, 1) := by decide +kernel
theorem dX11_opensBlock_156 : decode cX11_opensBlock 156 = .ok (.getfield 189, 3) := by decide +kernel
theorem dX11_opensBlock_159 : decode cX11_opensBlock 159 = .ok (.iconst 1, 1) := by decide +kernel
theorem dX11_opensBlock_160 : decode cX11_opensBlock 160 = .ok (.iadd, 1) := by decide +kernel
theorem dX11_opensBlock_161 : decode cX11_opensBlock 161 = .ok (.putfield 189, 3) := by decide +kernel
theorem dX11_opensBlock_164 : decode cX11_opensBlock 164 = .ok (.iconst 1, 1) := by decide +kernel
theorem dX11_opensBlock_165 : decode cX11_opensBlock 165 = .ok (.ireturn, 1) := by decide +kernel
set_option maxRecDepth 20000 in
theorem ggX11_correction_X11_sign : GoodIn wsX11_correction wsX11_sign := goodIn_r _ [8, 1, 9, 10, 24, 25, 26, 27, 28, 29, 30, 31, 32, 33, 34, 35, 36, 37, 38, 39, 40, 41, 42, 43, 44, 45, 46, 47, 48, 49, 50, 51, 52] (by decide +kernel) (by decide +kernel)
set_option maxRecDepth 20000 in
theorem gX11_correction_X11_sign : GoodIn wsX11_correction (wsV RX11 167 RX11 yX11_sign wsX11_sign) := goodIn_app (goodIn_of _ (by decide +kernel)) ggX11_correction_X11_sign
set_option maxRecDepth 20000 in
theorem ggX11_correction_X11_in : GoodIn wsX11_correction wsX11_in := goodIn_r _ [13] (by decide +kernel) (by decide +kernel)
set_option maxRecDepth 20000 in
theorem gX11_correction_X11_in : GoodIn wsX11_correction (va_wsS RX11 62 yX11_in wsX11_in) := goodIn_app (goodIn_of _ (by decide +kernel)) ggX11_correction_X11_in
set_option maxRecDepth 20000 in
theorem ggX11_correction_X11_faulty : GoodIn wsX11_correction wsX11_faulty := goodIn_r _ [17, 18, 19, 24, 25, 26, 27, 28, 29, 30, 31, 32, 33, 34, 35, 36, 37, 38, 39, 40, 41, 42, 43, 44, 45, 46, 47, 48, 49, 50, 51, 52] (by decide +kernel) (by decide +kernel)
set_option maxRecDepth 20000 in
theorem gX11_correction_X11_faulty : GoodIn wsX11_correction (wsV RX11 170 RX11 yX11_faulty wsX11_faulty) := goodIn_app (goodIn_of _ (by decide +kernel)) ggX11_correction_X11_faulty
set_option maxRecDepth 20000 in
theorem ggX11_correction_X11_takes : GoodIn wsX11_correction wsX11_takes := goodIn_r _ [23, 1, 4, 5, 6, 7, 8, 9, 10, 14, 15, 16, 17, 18, 19, 24, 25, 26, 27, 28, 29, 30, 31, 32, 33, 34, 35, 36, 37, 38, 39, 40, 41, 42, 43, 44, 45, 46, 47, 48, 49, 50, 51, 52] (by decide +kernel) (by decide +kernel)
set_option maxRecDepth 20000 in
theorem gX11_correction_X11_takes : GoodIn wsX11_correction (wsV RX11 182 RX11 yX11_takes wsX11_takes) := goodIn_app (goodIn_of _ (by decide +kernel)) ggX11_correction_X11_takes
theorem dX11_correction_0 : decode cX11_correction 0 = .ok (.aload_n 0, 1) := by decide +kernel
theorem dX11_correction_1 : decode cX11_correction 1 = .ok (.getfield 158, 3) := by decide +kernel
theorem dX11_correction_4 : decode cX11_correction 4 = .ok (.istore 5, 2) := by decide +kernel
theorem dX11_correction_6 : decode cX11_correction 6 = .ok (.aload_n 0, 1) := by decide +kernel
theorem dX11_correction_7 : decode cX11_correction 7 = .ok (.dup, 1) := by decide +kernel
theorem dX11_correction_8 : decode cX11_correction 8 = .ok (.getfield 158, 3) := by decide +kernel
theorem dX11_correction_11 : decode cX11_correction 11 = .ok (.iconst 1, 1) := by decide +kernel
theorem dX11_correction_12 : decode cX11_correction 12 = .ok (.iadd, 1) := by decide +kernel
theorem dX11_correction_13 : decode cX11_correction 13 = .ok (.putfield 158, 3) := by decide +kernel
theorem dX11_correction_16 : decode cX11_correction 16 = .ok (.aload_n 0, 1) := by decide +kernel
theorem dX11_correction_17 : decode cX11_correction 17 = .ok (.invokevirtual 167, 3) := by decide +kernel
theorem dX11_correction_20 : decode cX11_correction 20 = .ok (.istore 6, 2) := by decide +kernel
theorem dX11_correction_22 : decode cX11_correction 22 = .ok (.iload 6, 2) := by decide +kernel
theorem dX11_correction_24 : decode cX11_correction 24 = .ok (.bipush 48, 2) := by decide +kernel
theorem dX11_correction_26 : decode cX11_correction 26 = .ok (.bipush 57, 2) := by decide +kernel
theorem dX11_correction_28 : decode cX11_correction 28 = .ok (.invokestatic 62, 3) := by decide +kernel
theorem dX11_correction_31 : decode cX11_correction 31 = .ok (.ifCond .ne 13, 3) := by decide +kernel
theorem dX11_correction_34 : decode cX11_correction 34 = .ok (.aload_n 0, 1) := by decide +kernel
theorem dX11_correction_35 : decode cX11_correction 35 = .ok (.aload_n 0, 1) := by decide +kernel
theorem dX11_correction_36 : decode cX11_correction 36 = .ok (.getfield 158, 3) := by decide +kernel
theorem dX11_correction_39 : decode cX11_correction 39 = .ok (.iconst 1, 1) := by decide +kernel
theorem dX11_correction_40 : decode cX11_correction 40 = .ok (.invokevirtual 170, 3) := by decide +kernel
theorem dX11_correction_43 : decode cX11_correction 43 = .ok (.ireturn, 1) := by decide +kernel
theorem dX11_correction_44 : decode cX11_correction 44 = .ok (.iload 6, 2) := by decide +kernel
theorem dX11_correction_46 : decode cX11_correction 46 = .ok (.bipush 48, 2) := by decide +kernel
theorem dX11_correction_48 : decode cX11_correction 48 = .ok (.isub, 1) := by decide +kernel
theorem dX11_correction_49 : decode cX11_correction 49 = .ok (.istore 7, 2) := by decide +kernel
theorem dX11_correction_51 : decode cX11_correction 51 = .ok (.aload_n 0, 1) := by decide +kernel
theorem dX11_correction_52 : decode cX11_correction 52 = .ok (.dup, 1) := by decide +kernel
theorem dX11_correction_53 : decode cX11_correction 53 = .ok (.getfield 158, 3) := by decide +kernel
theorem dX11_correction_56 : decode cX11_correction 56 = .ok (.iconst 1, 1) := by decide +kernel
theorem dX11_correction_57 : decode cX11_correction 57 = .ok (.iadd, 1) := by decide +kernel
theorem dX11_correction_58 : decode cX11_correction 58 = .ok (.putfield 158, 3) := by decide +kernel
theorem dX11_correction_61 : decode cX11_correction 61 = .ok (.aload_n 0, 1) := by decide +kernel
theorem dX11_correction_62 : decode cX11_correction 62 = .ok (.invokevirtual 167, 3) := by decide +kernel
theorem dX11_correction_65 : decode cX11_correction 65 = .ok (.bipush 48, 2) := by decide +kernel
theorem dX11_correction_67 : decode cX11_correction 67 = .ok (.bipush 57, 2) := by decide +kernel
theorem dX11_correction_69 : decode cX11_correction 69 = .ok (.invokestatic 62, 3) := by decide +kernel
theorem dX11_correction_72 : decode cX11_correction 72 = .ok (.ifCond .eq 33, 3) := by decide +kernel
theorem dX11_correction_75 : decode cX11_correction 75 = .ok (.iload 7, 2) := by decide +kernel
theorem dX11_correction_77 : decode cX11_correction 77 = .ok (.ifCond .le 28, 3) := by decide +kernel
theorem dX11_correction_80 : decode cX11_correction 80 = .ok (.bipush 10, 2) := by decide +kernel
theorem dX11_correction_82 : decode cX11_correction 82 = .ok (.iload 7, 2) := by decide +kernel
theorem dX11_correction_84 : decode cX11_correction 84 = .ok (.imul, 1) := by decide +kernel
theorem dX11_correction_85 : decode cX11_correction 85 = .ok (.aload_n 0, 1) := by decide +kernel
theorem dX11_correction_86 : decode cX11_correction 86 = .ok (.invokevirtual 167, 3) := by decide +kernel
theorem dX11_correction_89 : decode cX11_correction 89 = .ok (.iadd, 1) := by decide +kernel
theorem dX11_correction_90 : decode cX11_correction 90 = .ok (.bipush 48, 2) := by decide +kernel
theorem dX11_correction_92 : decode cX11_correction 92 = .ok (.isub, 1) := by decide +kernel
theorem dX11_correction_93 : decode cX11_correction 93 = .ok (.istore 7, 2) := by decide +kernel
theorem dX11_correction_95 : decode cX11_correction 95 = .ok (.aload_n 0, 1) := by decide +kernel
theorem dX11_correction_96 : decode cX11_correction 96 = .ok (.dup, 1) := by decide +kernel
theorem dX11_correction_97 : decode cX11_correction 97 = .ok (.getfield 158, 3) := by decide +kernel
theorem dX11_correction_100 : decode cX11_correction 100 = .ok (.iconst 1, 1) := by decide +kernel
theorem dX11_correction_101 : decode cX11_correction 101 = .ok (.iadd, 1) := by decide +kernel
theorem dX11_correction_102 : decode cX11_correction 102 = .ok (.putfield 158, 3) := by decide +kernel
theorem dX11_correction_105 : decode cX11_correction 105 = .ok (.aload_n 0, 1) := by decide +kernel
theorem dX11_correction_106 : decode cX11_correction 106 = .ok (.bipush 44, 2) := by decide +kernel
theorem dX11_correction_108 : decode cX11_correction 108 = .ok (.invokevirtual 182, 3) := by decide +kernel
theorem dX11_correction_111 : decode cX11_correction 111 = .ok (.ifCond .ne 5, 3) := by decide +kernel
theorem dX11_correction_114 : decode cX11_correction 114 = .ok (.iconst 0, 1) := by decide +kernel
theorem dX11_correction_115 : decode cX11_correction 115 = .ok (.ireturn, 1) := by decide +kernel
theorem dX11_correction_116 : decode cX11_correction 116 = .ok (.aload_n 0, 1) := by decide +kernel
theorem dX11_correction_117 : decode cX11_correction 117 = .ok (.invokevirtual 167, 3) := by decide +kernel
theorem dX11_correction_120 : decode cX11_correction 120 = .ok (.bipush 97, 2) := by decide +kernel
theorem dX11_correction_122 : decode cX11_correction 122 = .ok (.isub, 1) := by decide +kernel
theorem dX11_correction_123 : decode cX11_correction 123 = .ok (.istore 8, 2) := by decide +kernel
theorem dX11_correction_125 : decode cX11_correction 125 = .ok (.iload 8, 2) := by decide +kernel
theorem dX11_correction_127 : decode cX11_correction 127 = .ok (.iconst 0, 1) := by decide +kernel
theorem dX11_correction_128 : decode cX11_correction 128 = .ok (.iconst 3, 1) := by decide +kernel
theorem dX11_correction_129 : decode cX11_correction 129 = .ok (.invokestatic 62, 3) := by decide +kernel
theorem dX11_correction_132 : decode cX11_correction 132 = .ok (.ifCond .ne 13, 3) := by decide +kernel
theorem dX11_correction_135 : decode cX11_correction 135 = .ok (.aload_n 0, 1) := by decide +kernel
theorem dX11_correction_136 : decode cX11_correction 136 = .ok (.aload_n 0, 1) := by decide +kernel
theorem dX11_correction_137 : decode cX11_correction 137 = .ok (.getfield 158, 3) := by decide +kernel
theorem dX11_correction_140 : decode cX11_correction 140 = .ok (.iconst 1, 1) := by decide +kernel
theorem dX11_correction_141 : decode cX11_correction 141 = .ok (.invokevirtual 170, 3) := by decide +kernel
theorem dX11_correction_144 : decode cX11_correction 144 = .ok (.ireturn, 1) := by decide +kernel
theorem dX11_correction_145 : decode cX11_correction 145 = .ok (.aload_n 0, 1) := by decide +kernel
theorem dX11_correction_146 : decode cX11_correction 146 = .ok (.dup, 1) := by decide +kernel
theorem dX11_correction_147 : decode cX11_correction 147 = .ok (.getfield 158, 3) := by decide +kernel
theorem dX11_correction_150 : decode cX11_correction 150 = .ok (.iconst 1, 1) := by decide +kernel
theorem dX11_correction_151 : decode cX11_correction 151 = .ok (.iadd, 1) := by decide +kernel
theorem dX11_correction_152 : decode cX11_correction 152 = .ok (.putfield 158, 3) := by decide +kernel
theorem dX11_correction_155 : decode cX11_correction 155 = .ok (.aload_n 0, 1) := by decide +kernel
theorem dX11_correction_156 : decode cX11_correction 156 = .ok (.bipush 93, 2) := by decide +kernel
theorem dX11_correction_158 : decode cX11_correction 158 = .ok (.invokevirtual 182, 3) := by decide +kernel
theorem dX11_correction_161 : decode cX11_correction 161 = .ok (.ifCond .ne 5, 3) := by decide +kernel
theorem dX11_correction_164 : decode cX11_correction 164 = .ok (.iconst 0, 1) := by decide +kernel
theorem dX11_correction_165 : decode cX11_correction 165 = .ok (.ireturn, 1) := by decide +kernel
theorem dX11_correction_166 : decode cX11_correction 166 = .ok (.iload 7, 2) := by decide +kernel
theorem dX11_correction_168 : decode cX11_correction 168 = .ok (.iload_n 2, 1) := by decide +kernel
theorem dX11_correction_169 : decode cX11_correction 169 = .ok (.iload_n 2, 1) := by decide +kernel
theorem dX11_correction_170 : decode cX11_correction 170 = .ok (.iload_n 3, 1) := by decide +kernel
theorem dX11_correction_171 : decode cX11_correction 171 = .ok (.imul, 1) := by decide +kernel
theorem dX11_correction_172 : decode cX11_correction 172 = .ok (.iconst 1, 1) := by decide +kernel
theorem dX11_correction_173 : decode cX11_correction 173 = .ok (.isub, 1) := by decide +kernel
theorem dX11_correction_174 : decode cX11_correction 174 = .ok (.invokestatic 62, 3) := by decide +kernel
theorem dX11_correction_177 : decode cX11_correction 177 = .ok (.ifCond .eq 26, 3) := by decide +kernel
theorem dX11_correction_180 : decode cX11_correction 180 = .ok (.iload 7, 2) := by decide +kernel
theorem dX11_correction_182 : decode cX11_correction 182 = .ok (.iload 4, 2) := by decide +kernel
theorem dX11_correction_184 : decode cX11_correction 184 = .ok (.if_icmp .le 19, 3) := by decide +kernel
theorem dX11_correction_187 : decode cX11_correction 187 = .ok (.aload_n 0, 1) := by decide +kernel
theorem dX11_correction_188 : decode cX11_correction 188 = .ok (.getfield 45, 3) := by decide +kernel
theorem dX11_correction_191 : decode cX11_correction 191 = .ok (.iload_n 1, 1) := by decide +kernel
theorem dX11_correction_192 : decode cX11_correction 192 = .ok (.iload 7, 2) := by decide +kernel
theorem dX11_correction_194 : decode cX11_correction 194 = .ok (.iload_n 2, 1) := by decide +kernel
theorem dX11_correction_195 : decode cX11_correction 195 = .ok (.irem, 1) := by decide +kernel
theorem dX11_correction_196 : decode cX11_correction 196 = .ok (.iadd, 1) := by decide +kernel
theorem dX11_correction_197 : decode cX11_correction 197 = .ok (.iaload, 1) := by decide +kernel
theorem dX11_correction_198 : decode cX11_correction 198 = .ok (.iload 8, 2) := by decide +kernel
theorem dX11_correction_200 : decode cX11_correction 200 = .ok (.if_icmp .ne 11, 3) := by decide +kernel
theorem dX11_correction_203 : decode cX11_correction 203 = .ok (.aload_n 0, 1) := by decide +kernel
theorem dX11_correction_204 : decode cX11_correction 204 = .ok (.iload 5, 2) := by decide +kernel
theorem dX11_correction_206 : decode cX11_correction 206 = .ok (.iconst 3, 1) := by decide +kernel
theorem dX11_correction_207 : decode cX11_correction 207 = .ok (.invokevirtual 170, 3) := by decide +kernel
theorem dX11_correction_210 : decode cX11_correction 210 = .ok (.ireturn, 1) := by decide +kernel
theorem dX11_correction_211 : decode cX11_correction 211 = .ok (.aload_n 0, 1) := by decide +kernel
theorem dX11_correction_212 : decode cX11_correction 212 = .ok (.getfield 45, 3) := by decide +kernel
theorem dX11_correction_215 : decode cX11_correction 215 = .ok (.iload_n 1, 1) := by decide +kernel
theorem dX11_correction_216 : decode cX11_correction 216 = .ok (.iload 7, 2) := by decide +kernel
theorem dX11_correction_218 : decode cX11_correction 218 = .ok (.iadd, 1) := by decide +kernel
theorem dX11_correction_219 : decode cX11_correction 219 = .ok (.iload 8, 2) := by decide +kernel
theorem dX11_correction_221 : decode cX11_correction 221 = .ok (.iastore, 1) := by decide +kernel
theorem dX11_correction_222 : decode cX11_correction 222 = .ok (.aload_n 0, 1) := by decide +kernel
theorem dX11_correction_223 : decode cX11_correction 223 = .ok (.dup, 1) := by decide +kernel
theorem dX11_correction_224 : decode cX11_correction 224 = .ok (.getfield 192, 3) := by decide +kernel
theorem dX11_correction_227 : decode cX11_correction 227 = .ok (.iconst 1, 1) := by decide +kernel
theorem dX11_correction_228 : decode cX11_correction 228 = .ok (.iadd, 1) := by decide +kernel
theorem dX11_correction_229 : decode cX11_correction 229 = .ok (.putfield 192, 3) := by decide +kernel
theorem dX11_correction_232 : decode cX11_correction 232 = .ok (.iconst 1, 1) := by decide +kernel
theorem dX11_correction_233 : decode cX11_correction 233 = .ok (.ireturn, 1) := by decide +kernel
set_option maxRecDepth 20000 in
theorem ggX11_endsBlock_X11_faulty : GoodIn wsX11_endsBlock wsX11_faulty := goodIn_r _ [14, 15, 16, 34, 35, 36, 37, 38, 39, 40, 41, 42, 43, 44, 45, 46, 47, 48, 49, 50, 51, 52, 53, 54, 55, 56, 57, 58, 59, 60, 61, 62] (by decide +kernel) (by decide +kernel)
set_option maxRecDepth 20000 in
theorem gX11_endsBlock_X11_faulty : GoodIn wsX11_endsBlock (wsV RX11 170 RX11 yX11_faulty wsX11_faulty) := goodIn_app (goodIn_of _ (by decide +kernel)) ggX11_endsBlock_X11_faulty
set_option maxRecDepth 20000 in
theorem ggX11_endsBlock_X11_sign : GoodIn wsX11_endsBlock wsX11_sign := goodIn_r _ [20, 6, 21, 8, 34, 35, 36, 37, 38, 39, 40, 41, 42, 43, 44, 45, 46, 47, 48, 49, 50, 51, 52, 53, 54, 55, 56, 57, 58, 59, 60, 61, 62] (by decide +kernel) (by decide +kernel)
set_option maxRecDepth 20000 in
theorem gX11_endsBlock_X11_sign : GoodIn wsX11_endsBlock (wsV RX11 167 RX11 yX11_sign wsX11_sign) := goodIn_app (goodIn_of _ (by decide +kernel)) ggX11_endsBlock_X11_sign
set_option maxRecDepth 20000 in
theorem ggX11_endsBlock_X11_correction : GoodIn wsX11_endsBlock wsX11_correction := goodIn_r _ [25, 6, 7, 26, 17, 18, 19, 13, 20, 21, 8, 27, 28, 29, 10, 11, 12, 14, 15, 16, 30, 31, 32, 33, 34, 35, 36, 37, 38, 39, 40, 41, 42, 43, 44, 45, 46, 47, 48, 49, 50, 51, 52, 53, 54, 55, 56, 57, 58, 59, 60, 61, 62] (by decide +kernel) (by decide +kernel)
set_option maxRecDepth 20000 in
theorem gX11_endsBlock_X11_correction : GoodIn wsX11_endsBlock (wsV RX11 195 RX11 yX11_correction wsX11_correction) := goodIn_app (goodIn_of _ (by decide +kernel)) ggX11_endsBlock_X11_correction
theorem dX11_endsBlock_0 : decode cX11_endsBlock 0 = .ok (.aload_n 0, 1) := by decide +kernel
theorem dX11_endsBlock_1 : decode cX11_endsBlock 1 = .ok (.getfield 48, 3) := by decide +kernel
theorem dX11_endsBlock_4 : decode cX11_endsBlock 4 = .ok (.aload_n 0, 1) := by decide +kernel
theorem dX11_endsBlock_5 : decode cX11_endsBlock 5 = .ok (.getfield 176, 3) := by decide +kernel
theorem dX11_endsBlock_8 : decode cX11_endsBlock 8 = .ok (.iaload, 1) := by decide +kernel
theorem dX11_endsBlock_9 : decode cX11_endsBlock 9 = .ok (.istore_n 1, 1) := by decide +kernel
theorem dX11_endsBlock_10 : decode cX11_endsBlock 10 = .ok (.aload_n 0, 1) := by decide +kernel
theorem dX11_endsBlock_11 : decode cX11_endsBlock 11 = .ok (.getfield 173, 3) := by decide +kernel
theorem dX11_endsBlock_14 : decode cX11_endsBlock 14 = .ok (.iload_n 1, 1) := by decide +kernel
theorem dX11_endsBlock_15 : decode cX11_endsBlock 15 = .ok (.isub, 1) := by decide +kernel
theorem dX11_endsBlock_16 : decode cX11_endsBlock 16 = .ok (.istore_n 2, 1) := by decide +kernel
theorem dX11_endsBlock_17 : decode cX11_endsBlock 17 = .ok (.aload_n 0, 1) := by decide +kernel
theorem dX11_endsBlock_18 : decode cX11_endsBlock 18 = .ok (.getfield 54, 3) := by decide +kernel
theorem dX11_endsBlock_21 : decode cX11_endsBlock 21 = .ok (.aload_n 0, 1) := by decide +kernel
theorem dX11_endsBlock_22 : decode cX11_endsBlock 22 = .ok (.getfield 176, 3) := by decide +kernel
theorem dX11_endsBlock_25 : decode cX11_endsBlock 25 = .ok (.iaload, 1) := by decide +kernel
theorem dX11_endsBlock_26 : decode cX11_endsBlock 26 = .ok (.istore_n 3, 1) := by decide +kernel
theorem dX11_endsBlock_27 : decode cX11_endsBlock 27 = .ok (.aload_n 0, 1) := by decide +kernel
theorem dX11_endsBlock_28 : decode cX11_endsBlock 28 = .ok (.getfield 51, 3) := by decide +kernel
theorem dX11_endsBlock_31 : decode cX11_endsBlock 31 = .ok (.aload_n 0, 1) := by decide +kernel
theorem dX11_endsBlock_32 : decode cX11_endsBlock 32 = .ok (.getfield 176, 3) := by decide +kernel
theorem dX11_endsBlock_35 : decode cX11_endsBlock 35 = .ok (.iaload, 1) := by decide +kernel
theorem dX11_endsBlock_36 : decode cX11_endsBlock 36 = .ok (.istore 4, 2) := by decide +kernel
theorem dX11_endsBlock_38 : decode cX11_endsBlock 38 = .ok (.iload_n 2, 1) := by decide +kernel
theorem dX11_endsBlock_39 : decode cX11_endsBlock 39 = .ok (.ifCond .ne 13, 3) := by decide +kernel
theorem dX11_endsBlock_42 : decode cX11_endsBlock 42 = .ok (.aload_n 0, 1) := by decide +kernel
theorem dX11_endsBlock_43 : decode cX11_endsBlock 43 = .ok (.aload_n 0, 1) := by decide +kernel
theorem dX11_endsBlock_44 : decode cX11_endsBlock 44 = .ok (.getfield 158, 3) := by decide +kernel
theorem dX11_endsBlock_47 : decode cX11_endsBlock 47 = .ok (.iconst 1, 1) := by decide +kernel
theorem dX11_endsBlock_48 : decode cX11_endsBlock 48 = .ok (.invokevirtual 170, 3) := by decide +kernel
theorem dX11_endsBlock_51 : decode cX11_endsBlock 51 = .ok (.ireturn, 1) := by decide +kernel
theorem dX11_endsBlock_52 : decode cX11_endsBlock 52 = .ok (.aload_n 0, 1) := by decide +kernel
theorem dX11_endsBlock_53 : decode cX11_endsBlock 53 = .ok (.dup, 1) := by decide +kernel
theorem dX11_endsBlock_54 : decode cX11_endsBlock 54 = .ok (.getfield 158, 3) := by decide +kernel
theorem dX11_endsBlock_57 : decode cX11_endsBlock 57 = .ok (.iconst 1, 1) := by decide +kernel
theorem dX11_endsBlock_58 : decode cX11_endsBlock 58 = .ok (.iadd, 1) := by decide +kernel
theorem dX11_endsBlock_59 : decode cX11_endsBlock 59 = .ok (.putfield 158, 3) := by decide +kernel
theorem dX11_endsBlock_62 : decode cX11_endsBlock 62 = .ok (.aload_n 0, 1) := by decide +kernel
theorem dX11_endsBlock_63 : decode cX11_endsBlock 63 = .ok (.dup, 1) := by decide +kernel
theorem dX11_endsBlock_64 : decode cX11_endsBlock 64 = .ok (.getfield 176, 3) := by decide +kernel
theorem dX11_endsBlock_67 : decode cX11_endsBlock 67 = .ok (.iconst 1, 1) := by decide +kernel
theorem dX11_endsBlock_68 : decode cX11_endsBlock 68 = .ok (.isub, 1) := by decide +kernel
theorem dX11_endsBlock_69 : decode cX11_endsBlock 69 = .ok (.putfield 176, 3) := by decide +kernel
theorem dX11_endsBlock_72 : decode cX11_endsBlock 72 = .ok (.iload_n 1, 1) := by decide +kernel
theorem dX11_endsBlock_73 : decode cX11_endsBlock 73 = .ok (.aload_n 0, 1) := by decide +kernel
theorem dX11_endsBlock_74 : decode cX11_endsBlock 74 = .ok (.getfield 48, 3) := by decide +kernel
theorem dX11_endsBlock_77 : decode cX11_endsBlock 77 = .ok (.aload_n 0, 1) := by decide +kernel
theorem dX11_endsBlock_78 : decode cX11_endsBlock 78 = .ok (.getfield 176, 3) := by decide +kernel
theorem dX11_endsBlock_81 : decode cX11_endsBlock 81 = .ok (.iaload, 1) := by decide +kernel
theorem dX11_endsBlock_82 : decode cX11_endsBlock 82 = .ok (.isub, 1) := by decide +kernel
theorem dX11_endsBlock_83 : decode cX11_endsBlock 83 = .ok (.iload_n 2, 1) := by decide +kernel
theorem dX11_endsBlock_84 : decode cX11_endsBlock 84 = .ok (.iload_n 3, 1) := by decide +kernel
theorem dX11_endsBlock_85 : decode cX11_endsBlock 85 = .ok (.imul, 1) := by decide +kernel
theorem dX11_endsBlock_86 : decode cX11_endsBlock 86 = .ok (.iadd, 1) := by decide +kernel
theorem dX11_endsBlock_87 : decode cX11_endsBlock 87 = .ok (.bipush 24, 2) := by decide +kernel
theorem dX11_endsBlock_89 : decode cX11_endsBlock 89 = .ok (.if_icmp .le 11, 3) := by decide +kernel
theorem dX11_endsBlock_92 : decode cX11_endsBlock 92 = .ok (.aload_n 0, 1) := by decide +kernel
theorem dX11_endsBlock_93 : decode cX11_endsBlock 93 = .ok (.iload 4, 2) := by decide +kernel
theorem dX11_endsBlock_95 : decode cX11_endsBlock 95 = .ok (.iconst 4, 1) := by decide +kernel
theorem dX11_endsBlock_96 : decode cX11_endsBlock 96 = .ok (.invokevirtual 170, 3) := by decide +kernel
theorem dX11_endsBlock_99 : decode cX11_endsBlock 99 = .ok (.ireturn, 1) := by decide +kernel
theorem dX11_endsBlock_100 : decode cX11_endsBlock 100 = .ok (.iload_n 2, 1) := by decide +kernel
theorem dX11_endsBlock_101 : decode cX11_endsBlock 101 = .ok (.istore 5, 2) := by decide +kernel
theorem dX11_endsBlock_103 : decode cX11_endsBlock 103 = .ok (.iload 5, 2) := by decide +kernel
theorem dX11_endsBlock_105 : decode cX11_endsBlock 105 = .ok (.iload_n 2, 1) := by decide +kernel
theorem dX11_endsBlock_106 : decode cX11_endsBlock 106 = .ok (.iload_n 3, 1) := by decide +kernel
theorem dX11_endsBlock_107 : decode cX11_endsBlock 107 = .ok (.imul, 1) := by decide +kernel
theorem dX11_endsBlock_108 : decode cX11_endsBlock 108 = .ok (.if_icmp .ge 29, 3) := by decide +kernel
theorem dX11_endsBlock_111 : decode cX11_endsBlock 111 = .ok (.aload_n 0, 1) := by decide +kernel
theorem dX11_endsBlock_112 : decode cX11_endsBlock 112 = .ok (.getfield 45, 3) := by decide +kernel
theorem dX11_endsBlock_115 : decode cX11_endsBlock 115 = .ok (.iload_n 1, 1) := by decide +kernel
theorem dX11_endsBlock_116 : decode cX11_endsBlock 116 = .ok (.iload 5, 2) := by decide +kernel
theorem dX11_endsBlock_118 : decode cX11_endsBlock 118 = .ok (.iadd, 1) := by decide +kernel
theorem dX11_endsBlock_119 : decode cX11_endsBlock 119 = .ok (.aload_n 0, 1) := by decide +kernel
theorem dX11_endsBlock_120 : decode cX11_endsBlock 120 = .ok (.getfield 45, 3) := by decide +kernel
theorem dX11_endsBlock_123 : decode cX11_endsBlock 123 = .ok (.iload_n 1, 1) := by decide +kernel
theorem dX11_endsBlock_124 : decode cX11_endsBlock 124 = .ok (.iload 5, 2) := by decide +kernel
theorem dX11_endsBlock_126 : decode cX11_endsBlock 126 = .ok (.iadd, 1) := by decide +kernel
theorem dX11_endsBlock_127 : decode cX11_endsBlock 127 = .ok (.iload_n 2, 1) := by decide +kernel
theorem dX11_endsBlock_128 : decode cX11_endsBlock 128 = .ok (.isub, 1) := by decide +kernel
theorem dX11_endsBlock_129 : decode cX11_endsBlock 129 = .ok (.iaload, 1) := by decide +kernel
theorem dX11_endsBlock_130 : decode cX11_endsBlock 130 = .ok (.iastore, 1) := by decide +kernel
theorem dX11_endsBlock_131 : decode cX11_endsBlock 131 = .ok (.iinc 5 1, 3) := by decide +kernel
theorem dX11_endsBlock_134 : decode cX11_endsBlock 134 = .ok (.goto (-31), 3) := by decide +kernel
theorem dX11_endsBlock_137 : decode cX11_endsBlock 137 = .ok (.aload_n 0, 1) := by decide +kernel
theorem dX11_endsBlock_138 : decode cX11_endsBlock 138 = .ok (.iload_n 1, 1) := by decide +kernel
theorem dX11_endsBlock_139 : decode cX11_endsBlock 139 = .ok (.iload_n 2, 1) := by decide +kernel
theorem dX11_endsBlock_140 : decode cX11_endsBlock 140 = .ok (.iload_n 3, 1) := by decide +kernel
theorem dX11_endsBlock_141 : decode cX11_endsBlock 141 = .ok (.imul, 1) := by decide +kernel
theorem dX11_endsBlock_142 : decode cX11_endsBlock 142 = .ok (.iadd, 1) := by decide +kernel
theorem dX11_endsBlock_143 : decode cX11_endsBlock 143 = .ok (.putfield 173, 3) := by decide +kernel
theorem dX11_endsBlock_146 : decode cX11_endsBlock 146 = .ok (.iconst 0, 1) := by decide +kernel
theorem dX11_endsBlock_147 : decode cX11_endsBlock 147 = .ok (.istore 5, 2) := by decide +kernel
theorem dX11_endsBlock_149 : decode cX11_endsBlock 149 = .ok (.iconst (-1), 1) := by decide +kernel
theorem dX11_endsBlock_150 : decode cX11_endsBlock 150 = .ok (.istore 6, 2) := by decide +kernel
theorem dX11_endsBlock_152 : decode cX11_endsBlock 152 = .ok (.aload_n 0, 1) := by decide +kernel
theorem dX11_endsBlock_153 : decode cX11_endsBlock 153 = .ok (.invokevirtual 167, 3) := by decide +kernel
theorem dX11_endsBlock_156 : decode cX11_endsBlock 156 = .ok (.bipush 91, 2) := by decide +kernel
theorem dX11_endsBlock_158 : decode cX11_endsBlock 158 = .ok (.if_icmp .ne 88, 3) := by decide +kernel
theorem dX11_endsBlock_161 : decode cX11_endsBlock 161 = .ok (.aload_n 0, 1) := by decide +kernel
theorem dX11_endsBlock_162 : decode cX11_endsBlock 162 = .ok (.getfield 158, 3) := by decide +kernel
theorem dX11_endsBlock_165 : decode cX11_endsBlock 165 = .ok (.istore 7, 2) := by decide +kernel
theorem dX11_endsBlock_167 : decode cX11_endsBlock 167 = .ok (.aload_n 0, 1) := by decide +kernel
theorem dX11_endsBlock_168 : decode cX11_endsBlock 168 = .ok (.iload_n 1, 1) := by decide +kernel
theorem dX11_endsBlock_169 : decode cX11_endsBlock 169 = .ok (.iload_n 2, 1) := by decide +kernel
theorem dX11_endsBlock_170 : decode cX11_endsBlock 170 = .ok (.iload_n 3, 1) := by decide +kernel
theorem dX11_endsBlock_171 : decode cX11_endsBlock 171 = .ok (.iload 6, 2) := by decide +kernel
theorem dX11_endsBlock_173 : decode cX11_endsBlock 173 = .ok (.invokevirtual 195, 3) := by decide +kernel
theorem dX11_endsBlock_176 : decode cX11_endsBlock 176 = .ok (.ifCond .ne 5, 3) := by decide +kernel
theorem dX11_endsBlock_179 : decode cX11_endsBlock 179 = .ok (.iconst 0, 1) := by decide +kernel
theorem dX11_endsBlock_180 : decode cX11_endsBlock 180 = .ok (.ireturn, 1) := by decide +kernel
theorem dX11_endsBlock_181 : decode cX11_endsBlock 181 = .ok (.aload_n 0, 1) := by decide +kernel
theorem dX11_endsBlock_182 : decode cX11_endsBlock 182 = .ok (.getfield 19, 3) := by decide +kernel
theorem dX11_endsBlock_185 : decode cX11_endsBlock 185 = .ok (.iload 7, 2) := by decide +kernel
theorem dX11_endsBlock_187 : decode cX11_endsBlock 187 = .ok (.iconst 2, 1) := by decide +kernel
theorem dX11_endsBlock_188 : decode cX11_endsBlock 188 = .ok (.iadd, 1) := by decide +kernel
theorem dX11_endsBlock_189 : decode cX11_endsBlock 189 = .ok (.caload, 1) := by decide +kernel
theorem dX11_endsBlock_190 : decode cX11_endsBlock 190 = .ok (.bipush 44, 2) := by decide +kernel
theorem dX11_endsBlock_192 : decode cX11_endsBlock 192 = .ok (.if_icmp .ne 18, 3) := by decide +kernel
theorem dX11_endsBlock_195 : decode cX11_endsBlock 195 = .ok (.aload_n 0, 1) := by decide +kernel
theorem dX11_endsBlock_196 : decode cX11_endsBlock 196 = .ok (.getfield 19, 3) := by decide +kernel
theorem dX11_endsBlock_199 : decode cX11_endsBlock 199 = .ok (.iload 7, 2) := by decide +kernel
theorem dX11_endsBlock_201 : decode cX11_endsBlock 201 = .ok (.iconst 1, 1) := by decide +kernel
theorem dX11_endsBlock_202 : decode cX11_endsBlock 202 = .ok (.iadd, 1) := by decide +kernel
theorem dX11_endsBlock_203 : decode cX11_endsBlock 203 = .ok (.caload, 1) := by decide +kernel
theorem dX11_endsBlock_204 : decode cX11_endsBlock 204 = .ok (.bipush 48, 2) := by decide +kernel
theorem dX11_endsBlock_206 : decode cX11_endsBlock 206 = .ok (.isub, 1) := by decide +kernel
theorem dX11_endsBlock_207 : decode cX11_endsBlock 207 = .ok (.goto 31, 3) := by decide +kernel
theorem dX11_endsBlock_210 : decode cX11_endsBlock 210 = .ok (.bipush 10, 2) := by decide +kernel
theorem dX11_endsBlock_212 : decode cX11_endsBlock 212 = .ok (.aload_n 0, 1) := by decide +kernel
theorem dX11_endsBlock_213 : decode cX11_endsBlock 213 = .ok (.getfield 19, 3) := by decide +kernel
theorem dX11_endsBlock_216 : decode cX11_endsBlock 216 = .ok (.iload 7, 2) := by decide +kernel
theorem dX11_endsBlock_218 : decode cX11_endsBlock 218 = .ok (.iconst 1, 1) := by decide +kernel
theorem dX11_endsBlock_219 : decode cX11_endsBlock 219 = .ok (.iadd, 1) := by decide +kernel
theorem dX11_endsBlock_220 : decode cX11_endsBlock 220 = .ok (.caload, 1) := by decide +kernel
theorem dX11_endsBlock_221 : decode cX11_endsBlock 221 = .ok (.bipush 48, 2) := by decide +kernel
theorem dX11_endsBlock_223 : decode cX11_endsBlock 223 = .ok (.isub, 1) := by decide +kernel
theorem dX11_endsBlock_224 : decode cX11_endsBlock 224 = .ok (.imul, 1) := by decide +kernel
theorem dX11_endsBlock_225 : decode cX11_endsBlock 225 = .ok (.aload_n 0, 1) := by decide +kernel
theorem dX11_endsBlock_226 : decode cX11_endsBlock 226 = .ok (.getfield 19, 3) := by decide +kernel
theorem dX11_endsBlock_229 : decode cX11_endsBlock 229 = .ok (.iload 7, 2) := by decide +kernel
theorem dX11_endsBlock_231 : decode cX11_endsBlock 231 = .ok (.iconst 2, 1) := by decide +kernel
theorem dX11_endsBlock_232 : decode cX11_endsBlock 232 = .ok (.iadd, 1) := by decide +kernel
theorem dX11_endsBlock_233 : decode cX11_endsBlock 233 = .ok (.caload, 1) := by decide +kernel
theorem dX11_endsBlock_234 : decode cX11_endsBlock 234 = .ok (.iadd, 1) := by decide +kernel
theorem dX11_endsBlock_235 : decode cX11_endsBlock 235 = .ok (.bipush 48, 2) := by decide +kernel
theorem dX11_endsBlock_237 : decode cX11_endsBlock 237 = .ok (.isub, 1) := by decide +kernel
theorem dX11_endsBlock_238 : decode cX11_endsBlock 238 = .ok (.istore 6, 2) := by decide +kernel
theorem dX11_endsBlock_240 : decode cX11_endsBlock 240 = .ok (.iinc 5 1, 3) := by decide +kernel
theorem dX11_endsBlock_243 : decode cX11_endsBlock 243 = .ok (.goto (-91), 3) := by decide +kernel
theorem dX11_endsBlock_246 : decode cX11_endsBlock 246 = .ok (.aload_n 0, 1) := by decide +kernel
theorem dX11_endsBlock_247 : decode cX11_endsBlock 247 = .ok (.iload 5, 2) := by decide +kernel
theorem dX11_endsBlock_249 : decode cX11_endsBlock 249 = .ok (.aload_n 0, 1) := by decide +kernel
theorem dX11_endsBlock_250 : decode cX11_endsBlock 250 = .ok (.getfield 199, 3) := by decide +kernel
theorem dX11_endsBlock_253 : decode cX11_endsBlock 253 = .ok (.if_icmp .le 8, 3) := by decide +kernel
theorem dX11_endsBlock_256 : decode cX11_endsBlock 256 = .ok (.iload 5, 2) := by decide +kernel
theorem dX11_endsBlock_258 : decode cX11_endsBlock 258 = .ok (.goto 7, 3) := by decide +kernel
theorem dX11_endsBlock_261 : decode cX11_endsBlock 261 = .ok (.aload_n 0, 1) := by decide +kernel
theorem dX11_endsBlock_262 : decode cX11_endsBlock 262 = .ok (.getfield 199, 3) := by decide +kernel
theorem dX11_endsBlock_265 : decode cX11_endsBlock 265 = .ok (.putfield 199, 3) := by decide +kernel
theorem dX11_endsBlock_268 : decode cX11_endsBlock 268 = .ok (.iconst 1, 1) := by decide +kernel
theorem dX11_endsBlock_269 : decode cX11_endsBlock 269 = .ok (.ireturn, 1) := by decide +kernel
set_option maxRecDepth 20000 in
theorem ggX11_reads_X11_sign : GoodIn wsX11_reads wsX11_sign := goodIn_r _ [15, 1, 10, 16, 49, 50, 51, 52, 53, 54, 55, 56, 57, 58, 59, 60, 61, 62, 63, 64, 65, 66, 67, 68, 69, 70, 71, 72, 73, 74, 75, 76, 77] (by decide +kernel) (by decide +kernel)
set_option maxRecDepth 20000 in
theorem gX11_reads_X11_sign : GoodIn wsX11_reads (wsV RX11 167 RX11 yX11_sign wsX11_sign) := goodIn_app (goodIn_of _ (by decide +kernel)) ggX11_reads_X11_sign
set_option maxRecDepth 20000 in
theorem ggX11_reads_X11_in : GoodIn wsX11_reads wsX11_in := goodIn_r _ [19] (by decide +kernel) (by decide +kernel)
set_option maxRecDepth 20000 in
theorem gX11_reads_X11_in : GoodIn wsX11_reads (va_wsS RX11 62 yX11_in wsX11_in) := goodIn_app (goodIn_of _ (by decide +kernel)) ggX11_reads_X11_in
set_option maxRecDepth 20000 in
theorem ggX11_reads_X11_readsLetter : GoodIn wsX11_reads wsX11_readsLetter := goodIn_r _ [23, 2, 9, 3, 1, 24, 5, 25, 26, 27, 14, 28, 29, 30, 11, 12, 13, 15, 10, 16, 49, 50, 51, 52, 53, 54, 55, 56, 57, 58, 59, 60, 61, 62, 63, 64, 65, 66, 67, 68, 69, 70, 71, 72, 73, 74, 75, 76, 77] (by decide +kernel) (by decide +kernel)
set_option maxRecDepth 20000 in
theorem gX11_reads_X11_readsLetter : GoodIn wsX11_reads (wsV RX11 202 RX11 yX11_readsLetter wsX11_readsLetter) := goodIn_app (goodIn_of _ (by decide +kernel)) ggX11_reads_X11_readsLetter
set_option maxRecDepth 20000 in
theorem ggX11_reads_X11_opensBlock : GoodIn wsX11_reads wsX11_opensBlock := goodIn_r _ [34, 1, 3, 4, 9, 2, 35, 36, 6, 11, 12, 13, 14, 15, 10, 16, 17, 18, 19, 37, 38, 39, 40, 25, 26, 27, 28, 29, 30, 49, 50, 51, 52, 53, 54, 55, 56, 57, 58, 59, 60, 61, 62, 63, 64, 65, 66, 67, 68, 69, 70, 71, 72, 73, 74, 75, 76, 77] (by decide +kernel) (by decide +kernel)
set_option maxRecDepth 20000 in
theorem gX11_reads_X11_opensBlock : GoodIn wsX11_reads (wsV RX11 206 RX11 yX11_opensBlock wsX11_opensBlock) := goodIn_app (goodIn_of _ (by decide +kernel)) ggX11_reads_X11_opensBlock
set_option maxRecDepth 20000 in
theorem ggX11_reads_X11_endsBlock : GoodIn wsX11_reads wsX11_endsBlock := goodIn_r _ [44, 9, 3, 2, 36, 35, 1, 24, 16, 8, 25, 26, 27, 14, 28, 29, 30, 11, 12, 13, 15, 10, 45, 46, 47, 48, 7, 17, 18, 19, 37, 38, 39, 40, 49, 50, 51, 52, 53, 54, 55, 56, 57, 58, 59, 60, 61, 62, 63, 64, 65, 66, 67, 68, 69, 70, 71, 72, 73, 74, 75, 76, 77] (by decide +kernel) (by decide +kernel)
set_option maxRecDepth 20000 in
theorem gX11_reads_X11_endsBlock : GoodIn wsX11_reads (wsV RX11 209 RX11 yX11_endsBlock wsX11_endsBlock) := goodIn_app (goodIn_of _ (by decide +kernel)) ggX11_reads_X11_endsBlock
set_option maxRecDepth 20000 in
theorem ggX11_reads_X11_faulty : GoodIn wsX11_reads wsX11_faulty := goodIn_r _ [28, 29, 30, 49, 50, 51, 52, 53, 54, 55, 56, 57, 58, 59, 60, 61, 62, 63, 64, 65, 66, 67, 68, 69, 70, 71, 72, 73, 74, 75, 76, 77] (by decide +kernel) (by decide +kernel)
set_option maxRecDepth 20000 in
theorem gX11_reads_X11_faulty : GoodIn wsX11_reads (wsV RX11 170 RX11 yX11_faulty wsX11_faulty) := goodIn_app (goodIn_of _ (by decide +kernel)) ggX11_reads_X11_faulty
theorem dX11_reads_0 : decode cX11_reads 0 = .ok (.aload_n 0, 1) := by decide +kernel
theorem dX11_reads_1 : decode cX11_reads 1 = .ok (.iconst 0, 1) := by decide +kernel
theorem dX11_reads_2 : decode cX11_reads 2 = .ok (.putfield 158, 3) := by decide +kernel
theorem dX11_reads_5 : decode cX11_reads 5 = .ok (.aload_n 0, 1) := by decide +kernel
theorem dX11_reads_6 : decode cX11_reads 6 = .ok (.iconst 0, 1) := by decide +kernel
theorem dX11_reads_7 : decode cX11_reads 7 = .ok (.putfield 173, 3) := by decide +kernel
theorem dX11_reads_10 : decode cX11_reads 10 = .ok (.aload_n 0, 1) := by decide +kernel
theorem dX11_reads_11 : decode cX11_reads 11 = .ok (.iconst 0, 1) := by decide +kernel
theorem dX11_reads_12 : decode cX11_reads 12 = .ok (.putfield 176, 3) := by decide +kernel
theorem dX11_reads_15 : decode cX11_reads 15 = .ok (.aload_n 0, 1) := by decide +kernel
theorem dX11_reads_16 : decode cX11_reads 16 = .ok (.iconst 0, 1) := by decide +kernel
theorem dX11_reads_17 : decode cX11_reads 17 = .ok (.putfield 186, 3) := by decide +kernel
theorem dX11_reads_20 : decode cX11_reads 20 = .ok (.aload_n 0, 1) := by decide +kernel
theorem dX11_reads_21 : decode cX11_reads 21 = .ok (.iconst 0, 1) := by decide +kernel
theorem dX11_reads_22 : decode cX11_reads 22 = .ok (.putfield 179, 3) := by decide +kernel
theorem dX11_reads_25 : decode cX11_reads 25 = .ok (.aload_n 0, 1) := by decide +kernel
theorem dX11_reads_26 : decode cX11_reads 26 = .ok (.iconst 0, 1) := by decide +kernel
theorem dX11_reads_27 : decode cX11_reads 27 = .ok (.putfield 189, 3) := by decide +kernel
theorem dX11_reads_30 : decode cX11_reads 30 = .ok (.aload_n 0, 1) := by decide +kernel
theorem dX11_reads_31 : decode cX11_reads 31 = .ok (.iconst 0, 1) := by decide +kernel
theorem dX11_reads_32 : decode cX11_reads 32 = .ok (.putfield 192, 3) := by decide +kernel
theorem dX11_reads_35 : decode cX11_reads 35 = .ok (.aload_n 0, 1) := by decide +kernel
theorem dX11_reads_36 : decode cX11_reads 36 = .ok (.iconst 0, 1) := by decide +kernel
theorem dX11_reads_37 : decode cX11_reads 37 = .ok (.putfield 199, 3) := by decide +kernel
theorem dX11_reads_40 : decode cX11_reads 40 = .ok (.aload_n 0, 1) := by decide +kernel
theorem dX11_reads_41 : decode cX11_reads 41 = .ok (.getfield 48, 3) := by decide +kernel
theorem dX11_reads_44 : decode cX11_reads 44 = .ok (.iconst 0, 1) := by decide +kernel
theorem dX11_reads_45 : decode cX11_reads 45 = .ok (.iconst 0, 1) := by decide +kernel
theorem dX11_reads_46 : decode cX11_reads 46 = .ok (.iastore, 1) := by decide +kernel
theorem dX11_reads_47 : decode cX11_reads 47 = .ok (.iconst 1, 1) := by decide +kernel
theorem dX11_reads_48 : decode cX11_reads 48 = .ok (.istore_n 1, 1) := by decide +kernel
theorem dX11_reads_49 : decode cX11_reads 49 = .ok (.iload_n 1, 1) := by decide +kernel
theorem dX11_reads_50 : decode cX11_reads 50 = .ok (.ifCond .eq 88, 3) := by decide +kernel
theorem dX11_reads_53 : decode cX11_reads 53 = .ok (.aload_n 0, 1) := by decide +kernel
theorem dX11_reads_54 : decode cX11_reads 54 = .ok (.getfield 158, 3) := by decide +kernel
theorem dX11_reads_57 : decode cX11_reads 57 = .ok (.aload_n 0, 1) := by decide +kernel
theorem dX11_reads_58 : decode cX11_reads 58 = .ok (.getfield 155, 3) := by decide +kernel
theorem dX11_reads_61 : decode cX11_reads 61 = .ok (.if_icmp .ge 77, 3) := by decide +kernel
theorem dX11_reads_64 : decode cX11_reads 64 = .ok (.aload_n 0, 1) := by decide +kernel
theorem dX11_reads_65 : decode cX11_reads 65 = .ok (.invokevirtual 167, 3) := by decide +kernel
theorem dX11_reads_68 : decode cX11_reads 68 = .ok (.istore_n 2, 1) := by decide +kernel
theorem dX11_reads_69 : decode cX11_reads 69 = .ok (.iload_n 2, 1) := by decide +kernel
theorem dX11_reads_70 : decode cX11_reads 70 = .ok (.bipush 97, 2) := by decide +kernel
theorem dX11_reads_72 : decode cX11_reads 72 = .ok (.bipush 100, 2) := by decide +kernel
theorem dX11_reads_74 : decode cX11_reads 74 = .ok (.invokestatic 62, 3) := by decide +kernel
theorem dX11_reads_77 : decode cX11_reads 77 = .ok (.ifCond .eq 10, 3) := by decide +kernel
theorem dX11_reads_80 : decode cX11_reads 80 = .ok (.aload_n 0, 1) := by decide +kernel
theorem dX11_reads_81 : decode cX11_reads 81 = .ok (.invokevirtual 202, 3) := by decide +kernel
theorem dX11_reads_84 : decode cX11_reads 84 = .ok (.goto 50, 3) := by decide +kernel
theorem dX11_reads_87 : decode cX11_reads 87 = .ok (.iload_n 2, 1) := by decide +kernel
theorem dX11_reads_88 : decode cX11_reads 88 = .ok (.bipush 49, 2) := by decide +kernel
theorem dX11_reads_90 : decode cX11_reads 90 = .ok (.bipush 57, 2) := by decide +kernel
theorem dX11_reads_92 : decode cX11_reads 92 = .ok (.invokestatic 62, 3) := by decide +kernel
theorem dX11_reads_95 : decode cX11_reads 95 = .ok (.ifCond .eq 10, 3) := by decide +kernel
theorem dX11_reads_98 : decode cX11_reads 98 = .ok (.aload_n 0, 1) := by decide +kernel
theorem dX11_reads_99 : decode cX11_reads 99 = .ok (.invokevirtual 206, 3) := by decide +kernel
theorem dX11_reads_102 : decode cX11_reads 102 = .ok (.goto 32, 3) := by decide +kernel
theorem dX11_reads_105 : decode cX11_reads 105 = .ok (.iload_n 2, 1) := by decide +kernel
theorem dX11_reads_106 : decode cX11_reads 106 = .ok (.bipush 41, 2) := by decide +kernel
theorem dX11_reads_108 : decode cX11_reads 108 = .ok (.if_icmp .ne 17, 3) := by decide +kernel
theorem dX11_reads_111 : decode cX11_reads 111 = .ok (.aload_n 0, 1) := by decide +kernel
theorem dX11_reads_112 : decode cX11_reads 112 = .ok (.getfield 176, 3) := by decide +kernel
theorem dX11_reads_115 : decode cX11_reads 115 = .ok (.ifCond .le 10, 3) := by decide +kernel
theorem dX11_reads_118 : decode cX11_reads 118 = .ok (.aload_n 0, 1) := by decide +kernel
theorem dX11_reads_119 : decode cX11_reads 119 = .ok (.invokevirtual 209, 3) := by decide +kernel
theorem dX11_reads_122 : decode cX11_reads 122 = .ok (.goto 12, 3) := by decide +kernel
theorem dX11_reads_125 : decode cX11_reads 125 = .ok (.aload_n 0, 1) := by decide +kernel
theorem dX11_reads_126 : decode cX11_reads 126 = .ok (.aload_n 0, 1) := by decide +kernel
theorem dX11_reads_127 : decode cX11_reads 127 = .ok (.getfield 158, 3) := by decide +kernel
theorem dX11_reads_130 : decode cX11_reads 130 = .ok (.iconst 1, 1) := by decide +kernel
theorem dX11_reads_131 : decode cX11_reads 131 = .ok (.invokevirtual 170, 3) := by decide +kernel
theorem dX11_reads_134 : decode cX11_reads 134 = .ok (.istore_n 1, 1) := by decide +kernel
theorem dX11_reads_135 : decode cX11_reads 135 = .ok (.goto (-86), 3) := by decide +kernel
theorem dX11_reads_138 : decode cX11_reads 138 = .ok (.iload_n 1, 1) := by decide +kernel
theorem dX11_reads_139 : decode cX11_reads 139 = .ok (.ifCond .eq 33, 3) := by decide +kernel
theorem dX11_reads_142 : decode cX11_reads 142 = .ok (.aload_n 0, 1) := by decide +kernel
theorem dX11_reads_143 : decode cX11_reads 143 = .ok (.getfield 176, 3) := by decide +kernel
theorem dX11_reads_146 : decode cX11_reads 146 = .ok (.ifCond .gt 10, 3) := by decide +kernel
theorem dX11_reads_149 : decode cX11_reads 149 = .ok (.aload_n 0, 1) := by decide +kernel
theorem dX11_reads_150 : decode cX11_reads 150 = .ok (.getfield 155, 3) := by decide +kernel
theorem dX11_reads_153 : decode cX11_reads 153 = .ok (.ifCond .ne 15, 3) := by decide +kernel
theorem dX11_reads_156 : decode cX11_reads 156 = .ok (.aload_n 0, 1) := by decide +kernel
theorem dX11_reads_157 : decode cX11_reads 157 = .ok (.aload_n 0, 1) := by decide +kernel
theorem dX11_reads_158 : decode cX11_reads 158 = .ok (.getfield 155, 3) := by decide +kernel
theorem dX11_reads_161 : decode cX11_reads 161 = .ok (.iconst 1, 1) := by decide +kernel
theorem dX11_reads_162 : decode cX11_reads 162 = .ok (.invokevirtual 170, 3) := by decide +kernel
theorem dX11_reads_165 : decode cX11_reads 165 = .ok (.ifCond .eq 7, 3) := by decide +kernel
theorem dX11_reads_168 : decode cX11_reads 168 = .ok (.iconst 1, 1) := by decide +kernel
theorem dX11_reads_169 : decode cX11_reads 169 = .ok (.goto 4, 3) := by decide +kernel
theorem dX11_reads_172 : decode cX11_reads 172 = .ok (.iconst 0, 1) := by decide +kernel
theorem dX11_reads_173 : decode cX11_reads 173 = .ok (.ireturn, 1) := by decide +kernel
set_option maxRecDepth 20000 in
theorem ggX11_fault_X11_in : GoodIn wsX11_fault wsX11_in := goodIn_r _ [8] (by decide +kernel) (by decide +kernel)
set_option maxRecDepth 20000 in
theorem gX11_fault_X11_in : GoodIn wsX11_fault (va_wsS RX11 62 yX11_in wsX11_in) := goodIn_app (goodIn_of _ (by decide +kernel)) ggX11_fault_X11_in
set_option maxRecDepth 20000 in
theorem ggX11_fault_X11_reads : GoodIn wsX11_fault wsX11_reads := goodIn_r _ [12, 13, 14, 15, 16, 17, 18, 19, 20, 21, 22, 23, 24, 25, 7, 26, 27, 5, 6, 8, 28, 29, 30, 31, 32, 33, 34, 35, 36, 3, 4, 37, 38, 39, 40, 41, 42, 43, 44, 45, 46, 47, 48, 49, 50, 51, 52, 53, 54, 55, 56, 57, 58, 59, 60, 61, 62, 63, 64, 65, 66, 67, 68, 69, 70, 71, 72, 73, 74, 75, 76, 77, 78, 79, 80, 81, 82, 83] (by decide +kernel) (by decide +kernel)
set_option maxRecDepth 20000 in
theorem gX11_fault_X11_reads : GoodIn wsX11_fault (wsV RX11 212 RX11 yX11_reads wsX11_reads) := goodIn_app (goodIn_of _ (by decide +kernel)) ggX11_fault_X11_reads
theorem dX11_fault_0 : decode cX11_fault 0 = .ok (.iload_n 1, 1) := by decide +kernel
theorem dX11_fault_1 : decode cX11_fault 1 = .ok (.iconst 0, 1) := by decide +kernel
theorem dX11_fault_2 : decode cX11_fault 2 = .ok (.iconst 1, 1) := by decide +kernel
theorem dX11_fault_3 : decode cX11_fault 3 = .ok (.invokestatic 62, 3) := by decide +kernel
theorem dX11_fault_6 : decode cX11_fault 6 = .ok (.ifCond .ne 6, 3) := by decide +kernel
theorem dX11_fault_9 : decode cX11_fault 9 = .ok (.ldc 57, 2) := by decide +kernel
theorem dX11_fault_11 : decode cX11_fault 11 = .ok (.ireturn, 1) := by decide +kernel
theorem dX11_fault_12 : decode cX11_fault 12 = .ok (.aload_n 0, 1) := by decide +kernel
theorem dX11_fault_13 : decode cX11_fault 13 = .ok (.invokevirtual 212, 3) := by decide +kernel
theorem dX11_fault_16 : decode cX11_fault 16 = .ok (.ifCond .eq 8, 3) := by decide +kernel
theorem dX11_fault_19 : decode cX11_fault 19 = .ok (.ldc 79, 2) := by decide +kernel
theorem dX11_fault_21 : decode cX11_fault 21 = .ok (.goto 18, 3) := by decide +kernel
theorem dX11_fault_24 : decode cX11_fault 24 = .ok (.iload_n 1, 1) := by decide +kernel
theorem dX11_fault_25 : decode cX11_fault 25 = .ok (.ifCond .ne 10, 3) := by decide +kernel
theorem dX11_fault_28 : decode cX11_fault 28 = .ok (.aload_n 0, 1) := by decide +kernel
theorem dX11_fault_29 : decode cX11_fault 29 = .ok (.getfield 161, 3) := by decide +kernel
theorem dX11_fault_32 : decode cX11_fault 32 = .ok (.goto 7, 3) := by decide +kernel
theorem dX11_fault_35 : decode cX11_fault 35 = .ok (.aload_n 0, 1) := by decide +kernel
theorem dX11_fault_36 : decode cX11_fault 36 = .ok (.getfield 164, 3) := by decide +kernel
theorem dX11_fault_39 : decode cX11_fault 39 = .ok (.ireturn, 1) := by decide +kernel
theorem dX11_isRow_0 : decode cX11_isRow 0 = .ok (.aload_n 0, 1) := by decide +kernel
theorem dX11_isRow_1 : decode cX11_isRow 1 = .ok (.getfield 173, 3) := by decide +kernel
theorem dX11_isRow_4 : decode cX11_isRow 4 = .ok (.aload_n 0, 1) := by decide +kernel
theorem dX11_isRow_5 : decode cX11_isRow 5 = .ok (.getfield 7, 3) := by decide +kernel
theorem dX11_isRow_8 : decode cX11_isRow 8 = .ok (.iconst 0, 1) := by decide +kernel
theorem dX11_isRow_9 : decode cX11_isRow 9 = .ok (.iaload, 1) := by decide +kernel
theorem dX11_isRow_10 : decode cX11_isRow 10 = .ok (.if_icmp .ne 7, 3) := by decide +kernel
theorem dX11_isRow_13 : decode cX11_isRow 13 = .ok (.iconst 1, 1) := by decide +kernel
theorem dX11_isRow_14 : decode cX11_isRow 14 = .ok (.goto 4, 3) := by decide +kernel
theorem dX11_isRow_17 : decode cX11_isRow 17 = .ok (.iconst 0, 1) := by decide +kernel
theorem dX11_isRow_18 : decode cX11_isRow 18 = .ok (.istore_n 1, 1) := by decide +kernel
theorem dX11_isRow_19 : decode cX11_isRow 19 = .ok (.iconst 0, 1) := by decide +kernel
theorem dX11_isRow_20 : decode cX11_isRow 20 = .ok (.istore_n 2, 1) := by decide +kernel
theorem dX11_isRow_21 : decode cX11_isRow 21 = .ok (.iload_n 2, 1) := by decide +kernel
theorem dX11_isRow_22 : decode cX11_isRow 22 = .ok (.aload_n 0, 1) := by decide +kernel
theorem dX11_isRow_23 : decode cX11_isRow 23 = .ok (.getfield 7, 3) := by decide +kernel
theorem dX11_isRow_26 : decode cX11_isRow 26 = .ok (.iconst 0, 1) := by decide +kernel
theorem dX11_isRow_27 : decode cX11_isRow 27 = .ok (.iaload, 1) := by decide +kernel
theorem dX11_isRow_28 : decode cX11_isRow 28 = .ok (.if_icmp .ge 37, 3) := by decide +kernel
theorem dX11_isRow_31 : decode cX11_isRow 31 = .ok (.iload_n 1, 1) := by decide +kernel
theorem dX11_isRow_32 : decode cX11_isRow 32 = .ok (.ifCond .eq 33, 3) := by decide +kernel
theorem dX11_isRow_35 : decode cX11_isRow 35 = .ok (.aload_n 0, 1) := by decide +kernel
theorem dX11_isRow_36 : decode cX11_isRow 36 = .ok (.getfield 45, 3) := by decide +kernel
theorem dX11_isRow_39 : decode cX11_isRow 39 = .ok (.iload_n 2, 1) := by decide +kernel
theorem dX11_isRow_40 : decode cX11_isRow 40 = .ok (.iaload, 1) := by decide +kernel
theorem dX11_isRow_41 : decode cX11_isRow 41 = .ok (.aload_n 0, 1) := by decide +kernel
theorem dX11_isRow_42 : decode cX11_isRow 42 = .ok (.getfield 7, 3) := by decide +kernel
theorem dX11_isRow_45 : decode cX11_isRow 45 = .ok (.bipush 6, 2) := by decide +kernel
theorem dX11_isRow_47 : decode cX11_isRow 47 = .ok (.iload_n 2, 1) := by decide +kernel
theorem dX11_isRow_48 : decode cX11_isRow 48 = .ok (.iadd, 1) := by decide +kernel
theorem dX11_isRow_49 : decode cX11_isRow 49 = .ok (.iaload, 1) := by decide +kernel
theorem dX11_isRow_50 : decode cX11_isRow 50 = .ok (.if_icmp .ne 7, 3) := by decide +kernel
theorem dX11_isRow_53 : decode cX11_isRow 53 = .ok (.iconst 1, 1) := by decide +kernel
theorem dX11_isRow_54 : decode cX11_isRow 54 = .ok (.goto 4, 3) := by decide +kernel
theorem dX11_isRow_57 : decode cX11_isRow 57 = .ok (.iconst 0, 1) := by decide +kernel
theorem dX11_isRow_58 : decode cX11_isRow 58 = .ok (.istore_n 1, 1) := by decide +kernel
theorem dX11_isRow_59 : decode cX11_isRow 59 = .ok (.iinc 2 1, 3) := by decide +kernel
theorem dX11_isRow_62 : decode cX11_isRow 62 = .ok (.goto (-41), 3) := by decide +kernel
theorem dX11_isRow_65 : decode cX11_isRow 65 = .ok (.iload_n 1, 1) := by decide +kernel
theorem dX11_isRow_66 : decode cX11_isRow 66 = .ok (.ireturn, 1) := by decide +kernel
set_option maxRecDepth 20000 in
theorem ggX11_told_X11_in : GoodIn wsX11_told wsX11_in := goodIn_r _ [15] (by decide +kernel) (by decide +kernel)
set_option maxRecDepth 20000 in
theorem gX11_told_X11_in : GoodIn wsX11_told (va_wsS RX11 62 yX11_in wsX11_in) := goodIn_app (goodIn_of _ (by decide +kernel)) ggX11_told_X11_in
set_option maxRecDepth 20000 in
theorem ggX11_told_X11_reads : GoodIn wsX11_told wsX11_reads := goodIn_r _ [19, 20, 7, 21, 8, 3, 5, 6, 9, 22, 23, 24, 25, 26, 14, 27, 28, 12, 13, 15, 29, 30, 31, 32, 10, 33, 34, 35, 36, 37, 38, 39, 40, 41, 42, 43, 44, 45, 46, 47, 48, 49, 50, 51, 52, 53, 54, 55, 56, 61, 62, 63, 64, 65, 66, 67, 68, 69, 70, 71, 72, 73, 74, 75, 76, 77, 78, 79, 80, 81, 82, 83, 84, 85, 86, 87, 88, 89] (by decide +kernel) (by decide +kernel)
set_option maxRecDepth 20000 in
theorem gX11_told_X11_reads : GoodIn wsX11_told (wsV RX11 212 RX11 yX11_reads wsX11_reads) := goodIn_app (goodIn_of _ (by decide +kernel)) ggX11_told_X11_reads
set_option maxRecDepth 20000 in
theorem ggX11_told_X11_isRow : GoodIn wsX11_told wsX11_isRow := goodIn_r _ [60, 7, 4, 10, 61, 62, 63, 64, 65, 66, 67, 68, 69, 70, 71, 72, 73, 74, 75, 76, 77, 78, 79, 80, 81, 82, 83, 84, 85, 86, 87, 88, 89] (by decide +kernel) (by decide +kernel)
set_option maxRecDepth 20000 in
theorem gX11_told_X11_isRow : GoodIn wsX11_told (wsV RX11 215 RX11 yX11_isRow wsX11_isRow) := goodIn_app (goodIn_of _ (by decide +kernel)) ggX11_told_X11_isRow
theorem dX11_told_0 : decode cX11_told 0 = .ok (.iload_n 1, 1) := by decide +kernel
theorem dX11_told_1 : decode cX11_told 1 = .ok (.iconst 0, 1) := by decide +kernel
theorem dX11_told_2 : decode cX11_told 2 = .ok (.iconst 5, 1) := by decide +kernel
theorem dX11_told_3 : decode cX11_told 3 = .ok (.invokestatic 62, 3) := by decide +kernel
theorem dX11_told_6 : decode cX11_told 6 = .ok (.ifCond .ne 17, 3) := by decide +kernel
theorem dX11_told_9 : decode cX11_told 9 = .ok (.iload_n 1, 1) := by decide +kernel
theorem dX11_told_10 : decode cX11_told 10 = .ok (.bipush 100, 2) := by decide +kernel
theorem dX11_told_12 : decode cX11_told 12 = .ok (.bipush 123, 2) := by decide +kernel
theorem dX11_told_14 : decode cX11_told 14 = .ok (.invokestatic 62, 3) := by decide +kernel
theorem dX11_told_17 : decode cX11_told 17 = .ok (.ifCond .ne 6, 3) := by decide +kernel
theorem dX11_told_20 : decode cX11_told 20 = .ok (.ldc 57, 2) := by decide +kernel
theorem dX11_told_22 : decode cX11_told 22 = .ok (.ireturn, 1) := by decide +kernel
theorem dX11_told_23 : decode cX11_told 23 = .ok (.aload_n 0, 1) := by decide +kernel
theorem dX11_told_24 : decode cX11_told 24 = .ok (.invokevirtual 212, 3) := by decide +kernel
theorem dX11_told_27 : decode cX11_told 27 = .ok (.ifCond .ne 6, 3) := by decide +kernel
theorem dX11_told_30 : decode cX11_told 30 = .ok (.ldc 74, 2) := by decide +kernel
theorem dX11_told_32 : decode cX11_told 32 = .ok (.ireturn, 1) := by decide +kernel
theorem dX11_told_33 : decode cX11_told 33 = .ok (.iload_n 1, 1) := by decide +kernel
theorem dX11_told_34 : decode cX11_told 34 = .ok (.tableswitch 107 0 5 #[38, 74, 79, 84, 89, 94], 38) := by decide +kernel
theorem dX11_told_72 : decode cX11_told 72 = .ok (.aload_n 0, 1) := by decide +kernel
theorem dX11_told_73 : decode cX11_told 73 = .ok (.getfield 179, 3) := by decide +kernel
theorem dX11_told_76 : decode cX11_told 76 = .ok (.aload_n 0, 1) := by decide +kernel
theorem dX11_told_77 : decode cX11_told 77 = .ok (.getfield 7, 3) := by decide +kernel
theorem dX11_told_80 : decode cX11_told 80 = .ok (.iconst 1, 1) := by decide +kernel
theorem dX11_told_81 : decode cX11_told 81 = .ok (.iaload, 1) := by decide +kernel
theorem dX11_told_82 : decode cX11_told 82 = .ok (.imul, 1) := by decide +kernel
theorem dX11_told_83 : decode cX11_told 83 = .ok (.aload_n 0, 1) := by decide +kernel
theorem dX11_told_84 : decode cX11_told 84 = .ok (.getfield 189, 3) := by decide +kernel
theorem dX11_told_87 : decode cX11_told 87 = .ok (.aload_n 0, 1) := by decide +kernel
theorem dX11_told_88 : decode cX11_told 88 = .ok (.getfield 7, 3) := by decide +kernel
theorem dX11_told_91 : decode cX11_told 91 = .ok (.iconst 2, 1) := by decide +kernel
theorem dX11_told_92 : decode cX11_told 92 = .ok (.iaload, 1) := by decide +kernel
theorem dX11_told_93 : decode cX11_told 93 = .ok (.imul, 1) := by decide +kernel
theorem dX11_told_94 : decode cX11_told 94 = .ok (.iadd, 1) := by decide +kernel
theorem dX11_told_95 : decode cX11_told 95 = .ok (.aload_n 0, 1) := by decide +kernel
theorem dX11_told_96 : decode cX11_told 96 = .ok (.getfield 192, 3) := by decide +kernel
theorem dX11_told_99 : decode cX11_told 99 = .ok (.aload_n 0, 1) := by decide +kernel
theorem dX11_told_100 : decode cX11_told 100 = .ok (.getfield 7, 3) := by decide +kernel
theorem dX11_told_103 : decode cX11_told 103 = .ok (.iconst 3, 1) := by decide +kernel
theorem dX11_told_104 : decode cX11_told 104 = .ok (.iaload, 1) := by decide +kernel
theorem dX11_told_105 : decode cX11_told 105 = .ok (.imul, 1) := by decide +kernel
theorem dX11_told_106 : decode cX11_told 106 = .ok (.iadd, 1) := by decide +kernel
theorem dX11_told_107 : decode cX11_told 107 = .ok (.ireturn, 1) := by decide +kernel
theorem dX11_told_108 : decode cX11_told 108 = .ok (.aload_n 0, 1) := by decide +kernel
theorem dX11_told_109 : decode cX11_told 109 = .ok (.getfield 173, 3) := by decide +kernel
theorem dX11_told_112 : decode cX11_told 112 = .ok (.ireturn, 1) := by decide +kernel
theorem dX11_told_113 : decode cX11_told 113 = .ok (.aload_n 0, 1) := by decide +kernel
theorem dX11_told_114 : decode cX11_told 114 = .ok (.getfield 186, 3) := by decide +kernel
theorem dX11_told_117 : decode cX11_told 117 = .ok (.ireturn, 1) := by decide +kernel
theorem dX11_told_118 : decode cX11_told 118 = .ok (.aload_n 0, 1) := by decide +kernel
theorem dX11_told_119 : decode cX11_told 119 = .ok (.getfield 192, 3) := by decide +kernel
theorem dX11_told_122 : decode cX11_told 122 = .ok (.ireturn, 1) := by decide +kernel
theorem dX11_told_123 : decode cX11_told 123 = .ok (.aload_n 0, 1) := by decide +kernel
theorem dX11_told_124 : decode cX11_told 124 = .ok (.getfield 199, 3) := by decide +kernel
theorem dX11_told_127 : decode cX11_told 127 = .ok (.ireturn, 1) := by decide +kernel
theorem dX11_told_128 : decode cX11_told 128 = .ok (.aload_n 0, 1) := by decide +kernel
theorem dX11_told_129 : decode cX11_told 129 = .ok (.invokevirtual 215, 3) := by decide +kernel
theorem dX11_told_132 : decode cX11_told 132 = .ok (.ifCond .eq 7, 3) := by decide +kernel
theorem dX11_told_135 : decode cX11_told 135 = .ok (.iconst 1, 1) := by decide +kernel
theorem dX11_told_136 : decode cX11_told 136 = .ok (.goto 4, 3) := by decide +kernel
theorem dX11_told_139 : decode cX11_told 139 = .ok (.iconst 0, 1) := by decide +kernel
theorem dX11_told_140 : decode cX11_told 140 = .ok (.ireturn, 1) := by decide +kernel
theorem dX11_told_141 : decode cX11_told 141 = .ok (.iload_n 1, 1) := by decide +kernel
theorem dX11_told_142 : decode cX11_told 142 = .ok (.bipush 100, 2) := by decide +kernel
theorem dX11_told_144 : decode cX11_told 144 = .ok (.isub, 1) := by decide +kernel
theorem dX11_told_145 : decode cX11_told 145 = .ok (.aload_n 0, 1) := by decide +kernel
theorem dX11_told_146 : decode cX11_told 146 = .ok (.getfield 173, 3) := by decide +kernel
theorem dX11_told_149 : decode cX11_told 149 = .ok (.if_icmp .ge 15, 3) := by decide +kernel
theorem dX11_told_152 : decode cX11_told 152 = .ok (.aload_n 0, 1) := by decide +kernel
theorem dX11_told_153 : decode cX11_told 153 = .ok (.getfield 45, 3) := by decide +kernel
theorem dX11_told_156 : decode cX11_told 156 = .ok (.iload_n 1, 1) := by decide +kernel
theorem dX11_told_157 : decode cX11_told 157 = .ok (.bipush 100, 2) := by decide +kernel
theorem dX11_told_159 : decode cX11_told 159 = .ok (.isub, 1) := by decide +kernel
theorem dX11_told_160 : decode cX11_told 160 = .ok (.iaload, 1) := by decide +kernel
theorem dX11_told_161 : decode cX11_told 161 = .ok (.goto 5, 3) := by decide +kernel
theorem dX11_told_164 : decode cX11_told 164 = .ok (.ldc 79, 2) := by decide +kernel
theorem dX11_told_166 : decode cX11_told 166 = .ok (.ireturn, 1) := by decide +kernel
set_option maxRecDepth 20000 in
theorem ggX11_adopt_X11_reads : GoodIn wsX11_adopt wsX11_reads := goodIn_r _ [9, 10, 2, 11, 12, 13, 14, 15, 16, 17, 18, 19, 20, 21, 8, 22, 23, 24, 25, 26, 27, 28, 29, 30, 4, 31, 32, 33, 34, 35, 36, 37, 38, 39, 40, 41, 42, 43, 44, 45, 46, 47, 48, 49, 50, 51, 52, 53, 54, 67, 68, 69, 70, 71, 72, 73, 74, 75, 76, 77, 78, 79, 80, 81, 82, 83, 84, 85, 86, 87, 88, 89, 90, 91, 92, 93, 94, 95] (by decide +kernel) (by decide +kernel)
set_option maxRecDepth 20000 in
theorem gX11_adopt_X11_reads : GoodIn wsX11_adopt (wsV RX11 212 RX11 yX11_reads wsX11_reads) := goodIn_app (goodIn_of _ (by decide +kernel)) ggX11_adopt_X11_reads
set_option maxRecDepth 20000 in
theorem ggX11_adopt_X11_keeps : GoodIn wsX11_adopt wsX11_keeps := goodIn_r _ [58, 59, 3, 67, 68, 69, 70, 71, 72, 73, 74, 75, 76, 77, 78, 79, 80, 81, 82, 83, 84, 85, 86, 87, 88, 89, 90, 91, 92, 93, 94, 95] (by decide +kernel) (by decide +kernel)
set_option maxRecDepth 20000 in
theorem gX11_adopt_X11_keeps : GoodIn wsX11_adopt (wsV RX11 67 RX11 yX11_keeps wsX11_keeps) := goodIn_app (goodIn_of _ (by decide +kernel)) ggX11_adopt_X11_keeps
set_option maxRecDepth 20000 in
theorem ggX11_adopt_X11_acted : GoodIn wsX11_adopt wsX11_acted := goodIn_r _ [63, 64, 65, 66, 59, 67, 68, 69, 70, 71, 72, 73, 74, 75, 76, 77, 78, 79, 80, 81, 82, 83, 84, 85, 86, 87, 88, 89, 90, 91, 92, 93, 94, 95] (by decide +kernel) (by decide +kernel)
set_option maxRecDepth 20000 in
theorem gX11_adopt_X11_acted : GoodIn wsX11_adopt (wsV RX11 70 RX11 yX11_acted wsX11_acted) := goodIn_app (goodIn_of _ (by decide +kernel)) ggX11_adopt_X11_acted
theorem dX11_adopt_0 : decode cX11_adopt 0 = .ok (.aload_n 0, 1) := by decide +kernel
theorem dX11_adopt_1 : decode cX11_adopt 1 = .ok (.invokevirtual 212, 3) := by decide +kernel
theorem dX11_adopt_4 : decode cX11_adopt 4 = .ok (.ifCond .ne 6, 3) := by decide +kernel
theorem dX11_adopt_7 : decode cX11_adopt 7 = .ok (.ldc 74, 2) := by decide +kernel
theorem dX11_adopt_9 : decode cX11_adopt 9 = .ok (.ireturn, 1) := by decide +kernel
theorem dX11_adopt_10 : decode cX11_adopt 10 = .ok (.aload_n 0, 1) := by decide +kernel
theorem dX11_adopt_11 : decode cX11_adopt 11 = .ok (.invokevirtual 67, 3) := by decide +kernel
theorem dX11_adopt_14 : decode cX11_adopt 14 = .ok (.iconst 0, 1) := by decide +kernel
theorem dX11_adopt_15 : decode cX11_adopt 15 = .ok (.istore_n 1, 1) := by decide +kernel
theorem dX11_adopt_16 : decode cX11_adopt 16 = .ok (.iload_n 1, 1) := by decide +kernel
theorem dX11_adopt_17 : decode cX11_adopt 17 = .ok (.aload_n 0, 1) := by decide +kernel
theorem dX11_adopt_18 : decode cX11_adopt 18 = .ok (.getfield 173, 3) := by decide +kernel
theorem dX11_adopt_21 : decode cX11_adopt 21 = .ok (.if_icmp .ge 24, 3) := by decide +kernel
theorem dX11_adopt_24 : decode cX11_adopt 24 = .ok (.aload_n 0, 1) := by decide +kernel
theorem dX11_adopt_25 : decode cX11_adopt 25 = .ok (.getfield 7, 3) := by decide +kernel
theorem dX11_adopt_28 : decode cX11_adopt 28 = .ok (.bipush 6, 2) := by decide +kernel
theorem dX11_adopt_30 : decode cX11_adopt 30 = .ok (.iload_n 1, 1) := by decide +kernel
theorem dX11_adopt_31 : decode cX11_adopt 31 = .ok (.iadd, 1) := by decide +kernel
theorem dX11_adopt_32 : decode cX11_adopt 32 = .ok (.aload_n 0, 1) := by decide +kernel
theorem dX11_adopt_33 : decode cX11_adopt 33 = .ok (.getfield 45, 3) := by decide +kernel
theorem dX11_adopt_36 : decode cX11_adopt 36 = .ok (.iload_n 1, 1) := by decide +kernel
theorem dX11_adopt_37 : decode cX11_adopt 37 = .ok (.iaload, 1) := by decide +kernel
theorem dX11_adopt_38 : decode cX11_adopt 38 = .ok (.iastore, 1) := by decide +kernel
theorem dX11_adopt_39 : decode cX11_adopt 39 = .ok (.iinc 1 1, 3) := by decide +kernel
theorem dX11_adopt_42 : decode cX11_adopt 42 = .ok (.goto (-26), 3) := by decide +kernel
theorem dX11_adopt_45 : decode cX11_adopt 45 = .ok (.aload_n 0, 1) := by decide +kernel
theorem dX11_adopt_46 : decode cX11_adopt 46 = .ok (.getfield 7, 3) := by decide +kernel
theorem dX11_adopt_49 : decode cX11_adopt 49 = .ok (.iconst 0, 1) := by decide +kernel
theorem dX11_adopt_50 : decode cX11_adopt 50 = .ok (.aload_n 0, 1) := by decide +kernel
theorem dX11_adopt_51 : decode cX11_adopt 51 = .ok (.getfield 173, 3) := by decide +kernel
theorem dX11_adopt_54 : decode cX11_adopt 54 = .ok (.iastore, 1) := by decide +kernel
theorem dX11_adopt_55 : decode cX11_adopt 55 = .ok (.aload_n 0, 1) := by decide +kernel
theorem dX11_adopt_56 : decode cX11_adopt 56 = .ok (.aload_n 0, 1) := by decide +kernel
theorem dX11_adopt_57 : decode cX11_adopt 57 = .ok (.getfield 173, 3) := by decide +kernel
theorem dX11_adopt_60 : decode cX11_adopt 60 = .ok (.invokevirtual 70, 3) := by decide +kernel
theorem dX11_adopt_63 : decode cX11_adopt 63 = .ok (.ireturn, 1) := by decide +kernel
set_option maxRecDepth 20000 in
theorem ggX11_count_X11_runs : GoodIn wsX11_count wsX11_runs := goodIn_r _ [9, 1, 10, 11, 12, 8, 13, 14, 15, 16, 17, 18, 19, 20, 21, 25, 26, 27, 28, 29, 30, 31, 32, 33, 34, 35, 36, 37, 38, 39, 40, 41, 42, 43, 44, 45, 46, 47, 48, 49, 50, 51, 52, 53] (by decide +kernel) (by decide +kernel)
set_option maxRecDepth 20000 in
theorem gX11_count_X11_runs : GoodIn wsX11_count (wsV RX11 218 RX11 yX11_runs wsX11_runs) := goodIn_app (goodIn_of _ (by decide +kernel)) ggX11_count_X11_runs
set_option maxRecDepth 20000 in
theorem ggX11_count_X11_in : GoodIn wsX11_count wsX11_in := goodIn_r _ [24] (by decide +kernel) (by decide +kernel)
set_option maxRecDepth 20000 in
theorem gX11_count_X11_in : GoodIn wsX11_count (va_wsS RX11 62 yX11_in wsX11_in) := goodIn_app (goodIn_of _ (by decide +kernel)) ggX11_count_X11_in
theorem dX11_count_0 : decode cX11_count 0 = .ok (.iload_n 1, 1) := by decide +kernel
theorem dX11_count_1 : decode cX11_count 1 = .ok (.tableswitch 53 0 3 #[31, 38, 43, 48], 31) := by decide +kernel
theorem dX11_count_32 : decode cX11_count 32 = .ok (.aload_n 0, 1) := by decide +kernel
theorem dX11_count_33 : decode cX11_count 33 = .ok (.getfield 7, 3) := by decide +kernel
theorem dX11_count_36 : decode cX11_count 36 = .ok (.iconst 0, 1) := by decide +kernel
theorem dX11_count_37 : decode cX11_count 37 = .ok (.iaload, 1) := by decide +kernel
theorem dX11_count_38 : decode cX11_count 38 = .ok (.ireturn, 1) := by decide +kernel
theorem dX11_count_39 : decode cX11_count 39 = .ok (.aload_n 0, 1) := by decide +kernel
theorem dX11_count_40 : decode cX11_count 40 = .ok (.invokevirtual 218, 3) := by decide +kernel
theorem dX11_count_43 : decode cX11_count 43 = .ok (.ireturn, 1) := by decide +kernel
theorem dX11_count_44 : decode cX11_count 44 = .ok (.aload_n 0, 1) := by decide +kernel
theorem dX11_count_45 : decode cX11_count 45 = .ok (.getfield 58, 3) := by decide +kernel
theorem dX11_count_48 : decode cX11_count 48 = .ok (.ireturn, 1) := by decide +kernel
theorem dX11_count_49 : decode cX11_count 49 = .ok (.aload_n 0, 1) := by decide +kernel
theorem dX11_count_50 : decode cX11_count 50 = .ok (.getfield 155, 3) := by decide +kernel
theorem dX11_count_53 : decode cX11_count 53 = .ok (.ireturn, 1) := by decide +kernel
theorem dX11_count_54 : decode cX11_count 54 = .ok (.iload_n 1, 1) := by decide +kernel
theorem dX11_count_55 : decode cX11_count 55 = .ok (.bipush 20, 2) := by decide +kernel
theorem dX11_count_57 : decode cX11_count 57 = .ok (.bipush 24, 2) := by decide +kernel
theorem dX11_count_59 : decode cX11_count 59 = .ok (.invokestatic 62, 3) := by decide +kernel
theorem dX11_count_62 : decode cX11_count 62 = .ok (.ifCond .eq 17, 3) := by decide +kernel
theorem dX11_count_65 : decode cX11_count 65 = .ok (.aload_n 0, 1) := by decide +kernel
theorem dX11_count_66 : decode cX11_count 66 = .ok (.getfield 7, 3) := by decide +kernel
theorem dX11_count_69 : decode cX11_count 69 = .ok (.iconst 1, 1) := by decide +kernel
theorem dX11_count_70 : decode cX11_count 70 = .ok (.iload_n 1, 1) := by decide +kernel
theorem dX11_count_71 : decode cX11_count 71 = .ok (.iadd, 1) := by decide +kernel
theorem dX11_count_72 : decode cX11_count 72 = .ok (.bipush 20, 2) := by decide +kernel
theorem dX11_count_74 : decode cX11_count 74 = .ok (.isub, 1) := by decide +kernel
theorem dX11_count_75 : decode cX11_count 75 = .ok (.iaload, 1) := by decide +kernel
theorem dX11_count_76 : decode cX11_count 76 = .ok (.goto 5, 3) := by decide +kernel
theorem dX11_count_79 : decode cX11_count 79 = .ok (.ldc 57, 2) := by decide +kernel
theorem dX11_count_81 : decode cX11_count 81 = .ok (.ireturn, 1) := by decide +kernel
theorem dX11_undo_0 : decode cX11_undo 0 = .ok (.aload_n 0, 1) := by decide +kernel
theorem dX11_undo_1 : decode cX11_undo 1 = .ok (.getfield 58, 3) := by decide +kernel
theorem dX11_undo_4 : decode cX11_undo 4 = .ok (.ifCond .ne 6, 3) := by decide +kernel
theorem dX11_undo_7 : decode cX11_undo 7 = .ok (.ldc 74, 2) := by decide +kernel
theorem dX11_undo_9 : decode cX11_undo 9 = .ok (.ireturn, 1) := by decide +kernel
theorem dX11_undo_10 : decode cX11_undo 10 = .ok (.aload_n 0, 1) := by decide +kernel
theorem dX11_undo_11 : decode cX11_undo 11 = .ok (.dup, 1) := by decide +kernel
theorem dX11_undo_12 : decode cX11_undo 12 = .ok (.getfield 58, 3) := by decide +kernel
theorem dX11_undo_15 : decode cX11_undo 15 = .ok (.iconst 1, 1) := by decide +kernel
theorem dX11_undo_16 : decode cX11_undo 16 = .ok (.isub, 1) := by decide +kernel
theorem dX11_undo_17 : decode cX11_undo 17 = .ok (.putfield 58, 3) := by decide +kernel
theorem dX11_undo_20 : decode cX11_undo 20 = .ok (.iconst 0, 1) := by decide +kernel
theorem dX11_undo_21 : decode cX11_undo 21 = .ok (.istore_n 1, 1) := by decide +kernel
theorem dX11_undo_22 : decode cX11_undo 22 = .ok (.iload_n 1, 1) := by decide +kernel
theorem dX11_undo_23 : decode cX11_undo 23 = .ok (.bipush 30, 2) := by decide +kernel
theorem dX11_undo_25 : decode cX11_undo 25 = .ok (.if_icmp .ge 29, 3) := by decide +kernel
theorem dX11_undo_28 : decode cX11_undo 28 = .ok (.aload_n 0, 1) := by decide +kernel
theorem dX11_undo_29 : decode cX11_undo 29 = .ok (.getfield 7, 3) := by decide +kernel
theorem dX11_undo_32 : decode cX11_undo 32 = .ok (.iload_n 1, 1) := by decide +kernel
theorem dX11_undo_33 : decode cX11_undo 33 = .ok (.aload_n 0, 1) := by decide +kernel
theorem dX11_undo_34 : decode cX11_undo 34 = .ok (.getfield 13, 3) := by decide +kernel
theorem dX11_undo_37 : decode cX11_undo 37 = .ok (.bipush 30, 2) := by decide +kernel
theorem dX11_undo_39 : decode cX11_undo 39 = .ok (.aload_n 0, 1) := by decide +kernel
theorem dX11_undo_40 : decode cX11_undo 40 = .ok (.getfield 58, 3) := by decide +kernel
theorem dX11_undo_43 : decode cX11_undo 43 = .ok (.imul, 1) := by decide +kernel
theorem dX11_undo_44 : decode cX11_undo 44 = .ok (.iload_n 1, 1) := by decide +kernel
theorem dX11_undo_45 : decode cX11_undo 45 = .ok (.iadd, 1) := by decide +kernel
theorem dX11_undo_46 : decode cX11_undo 46 = .ok (.iaload, 1) := by decide +kernel
theorem dX11_undo_47 : decode cX11_undo 47 = .ok (.iastore, 1) := by decide +kernel
theorem dX11_undo_48 : decode cX11_undo 48 = .ok (.iinc 1 1, 3) := by decide +kernel
theorem dX11_undo_51 : decode cX11_undo 51 = .ok (.goto (-29), 3) := by decide +kernel
theorem dX11_undo_54 : decode cX11_undo 54 = .ok (.aload_n 0, 1) := by decide +kernel
theorem dX11_undo_55 : decode cX11_undo 55 = .ok (.getfield 58, 3) := by decide +kernel
theorem dX11_undo_58 : decode cX11_undo 58 = .ok (.ireturn, 1) := by decide +kernel
theorem dJ6_bitCount_0f7a4_0 : decode cJ6_bitCount_0f7a4 0 = .ok (.iload_n 0, 1) := by decide +kernel
theorem dJ6_bitCount_0f7a4_1 : decode cJ6_bitCount_0f7a4 1 = .ok (.iload_n 0, 1) := by decide +kernel
theorem dJ6_bitCount_0f7a4_2 : decode cJ6_bitCount_0f7a4 2 = .ok (.iconst 1, 1) := by decide +kernel
theorem dJ6_bitCount_0f7a4_3 : decode cJ6_bitCount_0f7a4 3 = .ok (.iushr, 1) := by decide +kernel
theorem dJ6_bitCount_0f7a4_4 : decode cJ6_bitCount_0f7a4 4 = .ok (.ldc_w 265, 3) := by decide +kernel
theorem dJ6_bitCount_0f7a4_7 : decode cJ6_bitCount_0f7a4 7 = .ok (.iand, 1) := by decide +kernel
theorem dJ6_bitCount_0f7a4_8 : decode cJ6_bitCount_0f7a4 8 = .ok (.isub, 1) := by decide +kernel
theorem dJ6_bitCount_0f7a4_9 : decode cJ6_bitCount_0f7a4 9 = .ok (.istore_n 0, 1) := by decide +kernel
theorem dJ6_bitCount_0f7a4_10 : decode cJ6_bitCount_0f7a4 10 = .ok (.iload_n 0, 1) := by decide +kernel
theorem dJ6_bitCount_0f7a4_11 : decode cJ6_bitCount_0f7a4 11 = .ok (.ldc_w 266, 3) := by decide +kernel
theorem dJ6_bitCount_0f7a4_14 : decode cJ6_bitCount_0f7a4 14 = .ok (.iand, 1) := by decide +kernel
theorem dJ6_bitCount_0f7a4_15 : decode cJ6_bitCount_0f7a4 15 = .ok (.iload_n 0, 1) := by decide +kernel
theorem dJ6_bitCount_0f7a4_16 : decode cJ6_bitCount_0f7a4 16 = .ok (.iconst 2, 1) := by decide +kernel
theorem dJ6_bitCount_0f7a4_17 : decode cJ6_bitCount_0f7a4 17 = .ok (.iushr, 1) := by decide +kernel
theorem dJ6_bitCount_0f7a4_18 : decode cJ6_bitCount_0f7a4 18 = .ok (.ldc_w 266, 3) := by decide +kernel
theorem dJ6_bitCount_0f7a4_21 : decode cJ6_bitCount_0f7a4 21 = .ok (.iand, 1) := by decide +kernel
theorem dJ6_bitCount_0f7a4_22 : decode cJ6_bitCount_0f7a4 22 = .ok (.iadd, 1) := by decide +kernel
theorem dJ6_bitCount_0f7a4_23 : decode cJ6_bitCount_0f7a4 23 = .ok (.istore_n 0, 1) := by decide +kernel
theorem dJ6_bitCount_0f7a4_24 : decode cJ6_bitCount_0f7a4 24 = .ok (.iload_n 0, 1) := by decide +kernel
theorem dJ6_bitCount_0f7a4_25 : decode cJ6_bitCount_0f7a4 25 = .ok (.iload_n 0, 1) := by decide +kernel
theorem dJ6_bitCount_0f7a4_26 : decode cJ6_bitCount_0f7a4 26 = .ok (.iconst 4, 1) := by decide +kernel
theorem dJ6_bitCount_0f7a4_27 : decode cJ6_bitCount_0f7a4 27 = .ok (.iushr, 1) := by decide +kernel
theorem dJ6_bitCount_0f7a4_28 : decode cJ6_bitCount_0f7a4 28 = .ok (.iadd, 1) := by decide +kernel
theorem dJ6_bitCount_0f7a4_29 : decode cJ6_bitCount_0f7a4 29 = .ok (.ldc_w 267, 3) := by decide +kernel
theorem dJ6_bitCount_0f7a4_32 : decode cJ6_bitCount_0f7a4 32 = .ok (.iand, 1) := by decide +kernel
theorem dJ6_bitCount_0f7a4_33 : decode cJ6_bitCount_0f7a4 33 = .ok (.istore_n 0, 1) := by decide +kernel
theorem dJ6_bitCount_0f7a4_34 : decode cJ6_bitCount_0f7a4 34 = .ok (.iload_n 0, 1) := by decide +kernel
theorem dJ6_bitCount_0f7a4_35 : decode cJ6_bitCount_0f7a4 35 = .ok (.iload_n 0, 1) := by decide +kernel
theorem dJ6_bitCount_0f7a4_36 : decode cJ6_bitCount_0f7a4 36 = .ok (.bipush 8, 2) := by decide +kernel
theorem dJ6_bitCount_0f7a4_38 : decode cJ6_bitCount_0f7a4 38 = .ok (.iushr, 1) := by decide +kernel
theorem dJ6_bitCount_0f7a4_39 : decode cJ6_bitCount_0f7a4 39 = .ok (.iadd, 1) := by decide +kernel
theorem dJ6_bitCount_0f7a4_40 : decode cJ6_bitCount_0f7a4 40 = .ok (.istore_n 0, 1) := by decide +kernel
theorem dJ6_bitCount_0f7a4_41 : decode cJ6_bitCount_0f7a4 41 = .ok (.iload_n 0, 1) := by decide +kernel
theorem dJ6_bitCount_0f7a4_42 : decode cJ6_bitCount_0f7a4 42 = .ok (.iload_n 0, 1) := by decide +kernel
theorem dJ6_bitCount_0f7a4_43 : decode cJ6_bitCount_0f7a4 43 = .ok (.bipush 16, 2) := by decide +kernel
theorem dJ6_bitCount_0f7a4_45 : decode cJ6_bitCount_0f7a4 45 = .ok (.iushr, 1) := by decide +kernel
theorem dJ6_bitCount_0f7a4_46 : decode cJ6_bitCount_0f7a4 46 = .ok (.iadd, 1) := by decide +kernel
theorem dJ6_bitCount_0f7a4_47 : decode cJ6_bitCount_0f7a4 47 = .ok (.istore_n 0, 1) := by decide +kernel
theorem dJ6_bitCount_0f7a4_48 : decode cJ6_bitCount_0f7a4 48 = .ok (.iload_n 0, 1) := by decide +kernel
theorem dJ6_bitCount_0f7a4_49 : decode cJ6_bitCount_0f7a4 49 = .ok (.bipush 63, 2) := by decide +kernel
theorem dJ6_bitCount_0f7a4_51 : decode cJ6_bitCount_0f7a4 51 = .ok (.iand, 1) := by decide +kernel
theorem dJ6_bitCount_0f7a4_52 : decode cJ6_bitCount_0f7a4 52 = .ok (.ireturn, 1) := by decide +kernel
theorem dJ9_max_7cf53_0 : decode cJ9_max_7cf53 0 = .ok (.iload_n 0, 1) := by decide +kernel
theorem dJ9_max_7cf53_1 : decode cJ9_max_7cf53 1 = .ok (.iload_n 1, 1) := by decide +kernel
theorem dJ9_max_7cf53_2 : decode cJ9_max_7cf53 2 = .ok (.if_icmp .lt 7, 3) := by decide +kernel
theorem dJ9_max_7cf53_5 : decode cJ9_max_7cf53 5 = .ok (.iload_n 0, 1) := by decide +kernel
theorem dJ9_max_7cf53_6 : decode cJ9_max_7cf53 6 = .ok (.goto 4, 3) := by decide +kernel
theorem dJ9_max_7cf53_9 : decode cJ9_max_7cf53 9 = .ok (.iload_n 1, 1) := by decide +kernel
theorem dJ9_max_7cf53_10 : decode cJ9_max_7cf53 10 = .ok (.ireturn, 1) := by decide +kernel
theorem dJ9_min_7cf53_0 : decode cJ9_min_7cf53 0 = .ok (.iload_n 0, 1) := by decide +kernel
theorem dJ9_min_7cf53_1 : decode cJ9_min_7cf53 1 = .ok (.iload_n 1, 1) := by decide +kernel
theorem dJ9_min_7cf53_2 : decode cJ9_min_7cf53 2 = .ok (.if_icmp .gt 7, 3) := by decide +kernel
theorem dJ9_min_7cf53_5 : decode cJ9_min_7cf53 5 = .ok (.iload_n 0, 1) := by decide +kernel
theorem dJ9_min_7cf53_6 : decode cJ9_min_7cf53 6 = .ok (.goto 4, 3) := by decide +kernel
theorem dJ9_min_7cf53_9 : decode cJ9_min_7cf53 9 = .ok (.iload_n 1, 1) := by decide +kernel
theorem dJ9_min_7cf53_10 : decode cJ9_min_7cf53 10 = .ok (.ireturn, 1) := by decide +kernel
