theorem dX10_textAt_45 : decode cX10_textAt 45 = .ok (.getfield 12, 3) := by decide +kernel
theorem dX10_textAt_48 : decode cX10_textAt 48 = .ok (.getfield 70, 3) := by decide +kernel
theorem dX10_textAt_51 : decode cX10_textAt 51 = .ok (.invokevirtual 137, 3) := by decide +kernel
theorem dX10_textAt_54 : decode cX10_textAt 54 = .ok (.iload_n 1, 1) := by decide +kernel
theorem dX10_textAt_55 : decode cX10_textAt 55 = .ok (.aload_n 0, 1) := by decide +kernel
theorem dX10_textAt_56 : decode cX10_textAt 56 = .ok (.getfield 47, 3) := by decide +kernel
theorem dX10_textAt_59 : decode cX10_textAt 59 = .ok (.getfield 143, 3) := by decide +kernel
theorem dX10_textAt_62 : decode cX10_textAt 62 = .ok (.if_icmp .ge 14, 3) := by decide +kernel
theorem dX10_textAt_65 : decode cX10_textAt 65 = .ok (.aload_n 0, 1) := by decide +kernel
theorem dX10_textAt_66 : decode cX10_textAt 66 = .ok (.getfield 47, 3) := by decide +kernel
theorem dX10_textAt_69 : decode cX10_textAt 69 = .ok (.iload_n 1, 1) := by decide +kernel
theorem dX10_textAt_70 : decode cX10_textAt 70 = .ok (.invokevirtual 146, 3) := by decide +kernel
theorem dX10_textAt_73 : decode cX10_textAt 73 = .ok (.goto 5, 3) := by decide +kernel
theorem dX10_textAt_76 : decode cX10_textAt 76 = .ok (.ldc 110, 2) := by decide +kernel
theorem dX10_textAt_78 : decode cX10_textAt 78 = .ok (.ireturn, 1) := by decide +kernel
set_option maxRecDepth 20000 in
theorem ggX10_descriptions_X7_hasPart : GoodIn wsX10_descriptions wsX7_hasPart := goodIn_r _ [8, 9, 119, 120, 121] (by decide +kernel) (by decide +kernel)
set_option maxRecDepth 20000 in
theorem gX10_descriptions_X7_hasPart : GoodIn wsX10_descriptions (wsV RX10 111 RX7 yX7_hasPart wsX7_hasPart) := goodIn_app (goodIn_of _ (by decide +kernel)) ggX10_descriptions_X7_hasPart
set_option maxRecDepth 20000 in
theorem ggX10_descriptions_X2_refresh : GoodIn wsX10_descriptions wsX2_refresh := goodIn_r _ [15, 16, 17, 18, 19, 20, 14, 21, 22, 23, 24, 25, 26, 27, 28, 29, 30, 31, 32, 33, 34, 35, 36, 37, 38, 39, 40, 7, 41, 42, 43, 44, 45, 46, 9, 47, 48, 49, 50, 51, 52, 53, 54, 55, 56, 57, 58, 59, 60, 61, 62, 63, 64, 65, 66, 67, 68, 69, 70, 71, 72, 73, 74, 75, 76, 77, 78, 79, 80, 81, 82, 83, 84, 85, 86, 87, 88, 89, 90, 91, 92, 93, 94, 95, 96, 97, 98, 99, 100, 101, 102, 103, 104, 105, 122, 123, 124, 125, 126, 127, 128, 129, 119, 120, 121, 130, 131, 132, 133, 134, 135, 136, 137, 138, 139] (by decide +kernel) (by decide +kernel)
set_option maxRecDepth 20000 in
theorem gX10_descriptions_X2_refresh_u151X1 : GoodIn wsX10_descriptions (va_wsU RX10 151 RX1 "RepeatNests$Parts" ⟨"RepeatNests$Numbers", "refresh", "(LRepeatNests$State;)V"⟩ yX2_refresh wsX2_refresh) := goodIn_app (goodIn_of _ (by decide +kernel)) ggX10_descriptions_X2_refresh
set_option maxRecDepth 20000 in
theorem ggX10_descriptions_X7_setting : GoodIn wsX10_descriptions wsX7_setting := goodIn_r _ [41, 42, 119, 120, 121] (by decide +kernel) (by decide +kernel)
set_option maxRecDepth 20000 in
theorem gX10_descriptions_X7_setting : GoodIn wsX10_descriptions (wsV RX10 104 RX7 yX7_setting wsX7_setting) := goodIn_app (goodIn_of _ (by decide +kernel)) ggX10_descriptions_X7_setting
set_option maxRecDepth 20000 in
theorem ggX10_descriptions_X1_number : GoodIn wsX10_descriptions wsX1_number := goodIn_r _ [110, 80, 81, 49, 82, 122, 123, 124, 125] (by decide +kernel) (by decide +kernel)
set_option maxRecDepth 20000 in
theorem gX10_descriptions_X1_number : GoodIn wsX10_descriptions (wsV RX10 152 RX1 yX1_number wsX1_number) := goodIn_app (goodIn_of _ (by decide +kernel)) ggX10_descriptions_X1_number
theorem dX10_descriptions_0 : decode cX10_descriptions 0 = .ok (.aload_n 0, 1) := by decide +kernel
theorem dX10_descriptions_1 : decode cX10_descriptions 1 = .ok (.getfield 12, 3) := by decide +kernel
theorem dX10_descriptions_4 : decode cX10_descriptions 4 = .ok (.iload_n 1, 1) := by decide +kernel
theorem dX10_descriptions_5 : decode cX10_descriptions 5 = .ok (.iload_n 2, 1) := by decide +kernel
theorem dX10_descriptions_6 : decode cX10_descriptions 6 = .ok (.invokevirtual 111, 3) := by decide +kernel
theorem dX10_descriptions_9 : decode cX10_descriptions 9 = .ok (.ifCond .ne 7, 3) := by decide +kernel
theorem dX10_descriptions_12 : decode cX10_descriptions 12 = .ok (.ldc2_w 149, 3) := by decide +kernel
theorem dX10_descriptions_15 : decode cX10_descriptions 15 = .ok (.lreturn, 1) := by decide +kernel
theorem dX10_descriptions_16 : decode cX10_descriptions 16 = .ok (.aload_n 0, 1) := by decide +kernel
theorem dX10_descriptions_17 : decode cX10_descriptions 17 = .ok (.getfield 40, 3) := by decide +kernel
theorem dX10_descriptions_20 : decode cX10_descriptions 20 = .ok (.aload_n 0, 1) := by decide +kernel
theorem dX10_descriptions_21 : decode cX10_descriptions 21 = .ok (.getfield 12, 3) := by decide +kernel
theorem dX10_descriptions_24 : decode cX10_descriptions 24 = .ok (.invokevirtual 151, 3) := by decide +kernel
theorem dX10_descriptions_27 : decode cX10_descriptions 27 = .ok (.aload_n 0, 1) := by decide +kernel
theorem dX10_descriptions_28 : decode cX10_descriptions 28 = .ok (.getfield 40, 3) := by decide +kernel
theorem dX10_descriptions_31 : decode cX10_descriptions 31 = .ok (.aload_n 0, 1) := by decide +kernel
theorem dX10_descriptions_32 : decode cX10_descriptions 32 = .ok (.getfield 12, 3) := by decide +kernel
theorem dX10_descriptions_35 : decode cX10_descriptions 35 = .ok (.iconst 4, 1) := by decide +kernel
theorem dX10_descriptions_36 : decode cX10_descriptions 36 = .ok (.invokevirtual 104, 3) := by decide +kernel
theorem dX10_descriptions_39 : decode cX10_descriptions 39 = .ok (.iload_n 1, 1) := by decide +kernel
theorem dX10_descriptions_40 : decode cX10_descriptions 40 = .ok (.iload_n 2, 1) := by decide +kernel
theorem dX10_descriptions_41 : decode cX10_descriptions 41 = .ok (.invokevirtual 152, 3) := by decide +kernel
theorem dX10_descriptions_44 : decode cX10_descriptions 44 = .ok (.lreturn, 1) := by decide +kernel
set_option maxRecDepth 20000 in
theorem ggX10_would_X7_hasPlace : GoodIn wsX10_would wsX7_hasPlace := goodIn_r _ [8, 9, 131, 132, 133] (by decide +kernel) (by decide +kernel)
set_option maxRecDepth 20000 in
theorem gX10_would_X7_hasPlace : GoodIn wsX10_would (wsV RX10 83 RX7 yX7_hasPlace wsX7_hasPlace) := goodIn_app (goodIn_of _ (by decide +kernel)) ggX10_would_X7_hasPlace
set_option maxRecDepth 20000 in
theorem ggX10_would_X10_isKind : GoodIn wsX10_would wsX10_isKind := goodIn_r _ [13] (by decide +kernel) (by decide +kernel)
set_option maxRecDepth 20000 in
theorem gX10_would_X10_isKind : GoodIn wsX10_would (va_wsS RX10 65 yX10_isKind wsX10_isKind) := goodIn_app (goodIn_of _ (by decide +kernel)) ggX10_would_X10_isKind
set_option maxRecDepth 20000 in
theorem ggX10_would_X9_priceWith : GoodIn wsX10_would wsX9_priceWith := goodIn_r _ [18, 19, 20, 21, 22, 23, 7, 24, 25, 26, 9, 27, 28, 29, 30, 31, 32, 33, 34, 35, 36, 37, 38, 39, 40, 41, 42, 43, 44, 45, 46, 47, 48, 49, 50, 51, 52, 53, 54, 55, 56, 57, 58, 59, 60, 11, 12, 13, 61, 62, 63, 64, 65, 66, 67, 68, 69, 70, 71, 72, 73, 74, 75, 76, 77, 78, 79, 80, 81, 82, 83, 84, 85, 86, 87, 88, 89, 90, 91, 92, 93, 94, 95, 96, 97, 98, 99, 100, 101, 102, 103, 104, 105, 106, 107, 108, 109, 110, 111, 112, 113, 114, 115, 116, 117, 118, 119, 120, 121, 122, 134, 135, 136, 137, 138, 139, 140, 131, 132, 133, 141, 142, 143, 144, 145, 146, 147, 148, 149, 150, 151, 152, 153, 154, 155, 156, 157, 158] (by decide +kernel) (by decide +kernel)
set_option maxRecDepth 20000 in
theorem gX10_would_X9_priceWith : GoodIn wsX10_would (wsV RX10 155 RX9 yX9_priceWith wsX9_priceWith) := goodIn_app (goodIn_of _ (by decide +kernel)) ggX10_would_X9_priceWith
theorem dX10_would_0 : decode cX10_would 0 = .ok (.aload_n 0, 1) := by decide +kernel
theorem dX10_would_1 : decode cX10_would 1 = .ok (.getfield 12, 3) := by decide +kernel
theorem dX10_would_4 : decode cX10_would 4 = .ok (.iload_n 1, 1) := by decide +kernel
theorem dX10_would_5 : decode cX10_would 5 = .ok (.invokevirtual 83, 3) := by decide +kernel
theorem dX10_would_8 : decode cX10_would 8 = .ok (.ifCond .eq 10, 3) := by decide +kernel
theorem dX10_would_11 : decode cX10_would 11 = .ok (.iload_n 2, 1) := by decide +kernel
theorem dX10_would_12 : decode cX10_would 12 = .ok (.invokestatic 65, 3) := by decide +kernel
theorem dX10_would_15 : decode cX10_would 15 = .ok (.ifCond .ne 6, 3) := by decide +kernel
theorem dX10_would_18 : decode cX10_would 18 = .ok (.ldc 69, 2) := by decide +kernel
theorem dX10_would_20 : decode cX10_would 20 = .ok (.ireturn, 1) := by decide +kernel
theorem dX10_would_21 : decode cX10_would 21 = .ok (.aload_n 0, 1) := by decide +kernel
theorem dX10_would_22 : decode cX10_would 22 = .ok (.getfield 54, 3) := by decide +kernel
theorem dX10_would_25 : decode cX10_would 25 = .ok (.aload_n 0, 1) := by decide +kernel
theorem dX10_would_26 : decode cX10_would 26 = .ok (.getfield 12, 3) := by decide +kernel
theorem dX10_would_29 : decode cX10_would 29 = .ok (.iload_n 1, 1) := by decide +kernel
theorem dX10_would_30 : decode cX10_would 30 = .ok (.iload_n 2, 1) := by decide +kernel
theorem dX10_would_31 : decode cX10_would 31 = .ok (.invokevirtual 155, 3) := by decide +kernel
theorem dX10_would_34 : decode cX10_would 34 = .ok (.ireturn, 1) := by decide +kernel
set_option maxRecDepth 20000 in
theorem ggX10_bestChange_X9_refresh : GoodIn wsX10_bestChange wsX9_refresh := goodIn_r _ [9, 10, 11, 12, 13, 14, 15, 16, 17, 18, 19, 20, 21, 22, 23, 24, 25, 26, 27, 28, 29, 30, 31, 32, 33, 34, 35, 36, 37, 38, 39, 40, 41, 42, 43, 44, 45, 46, 47, 48, 49, 50, 51, 52, 53, 54, 55, 56, 57, 58, 59, 60, 61, 62, 63, 64, 65, 66, 67, 68, 69, 70, 71, 72, 73, 74, 75, 76, 77, 78, 79, 80, 81, 82, 83, 84, 85, 86, 87, 88, 89, 90, 91, 92, 93, 94, 95, 96, 97, 98, 99, 100, 101, 102, 103, 104, 105, 106, 107, 108, 109, 110, 111, 112, 113, 114, 115, 116, 117, 118, 119, 120, 121, 122, 123, 124, 125, 8, 126, 127, 128, 137, 138, 139, 140, 141, 142, 143, 144, 145, 146, 147, 148, 149, 150, 151, 152, 153, 154, 155, 156, 157, 158, 159, 160, 161, 162, 163, 164] (by decide +kernel) (by decide +kernel)
set_option maxRecDepth 20000 in
theorem gX10_bestChange_X9_refresh : GoodIn wsX10_bestChange (wsV RX10 159 RX9 yX9_refresh wsX9_refresh) := goodIn_app (goodIn_of _ (by decide +kernel)) ggX10_bestChange_X9_refresh
theorem dX10_bestChange_0 : decode cX10_bestChange 0 = .ok (.iload_n 1, 1) := by decide +kernel
theorem dX10_bestChange_1 : decode cX10_bestChange 1 = .ok (.ifCond .lt 8, 3) := by decide +kernel
theorem dX10_bestChange_4 : decode cX10_bestChange 4 = .ok (.iload_n 1, 1) := by decide +kernel
theorem dX10_bestChange_5 : decode cX10_bestChange 5 = .ok (.iconst 2, 1) := by decide +kernel
theorem dX10_bestChange_6 : decode cX10_bestChange 6 = .ok (.if_icmp .le 6, 3) := by decide +kernel
theorem dX10_bestChange_9 : decode cX10_bestChange 9 = .ok (.ldc 69, 2) := by decide +kernel
theorem dX10_bestChange_11 : decode cX10_bestChange 11 = .ok (.ireturn, 1) := by decide +kernel
theorem dX10_bestChange_12 : decode cX10_bestChange 12 = .ok (.aload_n 0, 1) := by decide +kernel
theorem dX10_bestChange_13 : decode cX10_bestChange 13 = .ok (.getfield 54, 3) := by decide +kernel
theorem dX10_bestChange_16 : decode cX10_bestChange 16 = .ok (.aload_n 0, 1) := by decide +kernel
theorem dX10_bestChange_17 : decode cX10_bestChange 17 = .ok (.getfield 12, 3) := by decide +kernel
theorem dX10_bestChange_20 : decode cX10_bestChange 20 = .ok (.invokevirtual 159, 3) := by decide +kernel
theorem dX10_bestChange_23 : decode cX10_bestChange 23 = .ok (.aload_n 0, 1) := by decide +kernel
theorem dX10_bestChange_24 : decode cX10_bestChange 24 = .ok (.getfield 54, 3) := by decide +kernel
theorem dX10_bestChange_27 : decode cX10_bestChange 27 = .ok (.getfield 160, 3) := by decide +kernel
theorem dX10_bestChange_30 : decode cX10_bestChange 30 = .ok (.ifCond .ne 6, 3) := by decide +kernel
theorem dX10_bestChange_33 : decode cX10_bestChange 33 = .ok (.ldc 110, 2) := by decide +kernel
theorem dX10_bestChange_35 : decode cX10_bestChange 35 = .ok (.ireturn, 1) := by decide +kernel
theorem dX10_bestChange_36 : decode cX10_bestChange 36 = .ok (.iload_n 1, 1) := by decide +kernel
theorem dX10_bestChange_37 : decode cX10_bestChange 37 = .ok (.ifCond .ne 11, 3) := by decide +kernel
theorem dX10_bestChange_40 : decode cX10_bestChange 40 = .ok (.aload_n 0, 1) := by decide +kernel
theorem dX10_bestChange_41 : decode cX10_bestChange 41 = .ok (.getfield 54, 3) := by decide +kernel
theorem dX10_bestChange_44 : decode cX10_bestChange 44 = .ok (.getfield 164, 3) := by decide +kernel
theorem dX10_bestChange_47 : decode cX10_bestChange 47 = .ok (.ireturn, 1) := by decide +kernel
theorem dX10_bestChange_48 : decode cX10_bestChange 48 = .ok (.iload_n 1, 1) := by decide +kernel
theorem dX10_bestChange_49 : decode cX10_bestChange 49 = .ok (.iconst 1, 1) := by decide +kernel
theorem dX10_bestChange_50 : decode cX10_bestChange 50 = .ok (.if_icmp .ne 13, 3) := by decide +kernel
theorem dX10_bestChange_53 : decode cX10_bestChange 53 = .ok (.aload_n 0, 1) := by decide +kernel
theorem dX10_bestChange_54 : decode cX10_bestChange 54 = .ok (.getfield 54, 3) := by decide +kernel
theorem dX10_bestChange_57 : decode cX10_bestChange 57 = .ok (.getfield 167, 3) := by decide +kernel
theorem dX10_bestChange_60 : decode cX10_bestChange 60 = .ok (.goto 10, 3) := by decide +kernel
theorem dX10_bestChange_63 : decode cX10_bestChange 63 = .ok (.aload_n 0, 1) := by decide +kernel
theorem dX10_bestChange_64 : decode cX10_bestChange 64 = .ok (.getfield 54, 3) := by decide +kernel
theorem dX10_bestChange_67 : decode cX10_bestChange 67 = .ok (.getfield 170, 3) := by decide +kernel
theorem dX10_bestChange_70 : decode cX10_bestChange 70 = .ok (.ireturn, 1) := by decide +kernel
set_option maxRecDepth 20000 in
theorem ggX10_type_X4_add : GoodIn wsX10_type wsX4_add := goodIn_r _ [8, 9, 10, 11, 20, 21, 22, 23, 24, 25, 26, 27, 28, 29, 30, 31, 32] (by decide +kernel) (by decide +kernel)
set_option maxRecDepth 20000 in
theorem gX10_type_X4_add : GoodIn wsX10_type (wsV RX10 174 RX4 yX4_add wsX4_add) := goodIn_app (goodIn_of _ (by decide +kernel)) ggX10_type_X4_add
theorem dX10_type_0 : decode cX10_type 0 = .ok (.iload_n 1, 1) := by decide +kernel
theorem dX10_type_1 : decode cX10_type 1 = .ok (.bipush 32, 2) := by decide +kernel
theorem dX10_type_3 : decode cX10_type 3 = .ok (.if_icmp .lt 9, 3) := by decide +kernel
theorem dX10_type_6 : decode cX10_type 6 = .ok (.iload_n 1, 1) := by decide +kernel
theorem dX10_type_7 : decode cX10_type 7 = .ok (.bipush 126, 2) := by decide +kernel
theorem dX10_type_9 : decode cX10_type 9 = .ok (.if_icmp .le 6, 3) := by decide +kernel
theorem dX10_type_12 : decode cX10_type 12 = .ok (.ldc 69, 2) := by decide +kernel
theorem dX10_type_14 : decode cX10_type 14 = .ok (.ireturn, 1) := by decide +kernel
theorem dX10_type_15 : decode cX10_type 15 = .ok (.aload_n 0, 1) := by decide +kernel
theorem dX10_type_16 : decode cX10_type 16 = .ok (.getfield 61, 3) := by decide +kernel
theorem dX10_type_19 : decode cX10_type 19 = .ok (.getfield 173, 3) := by decide +kernel
theorem dX10_type_22 : decode cX10_type 22 = .ok (.bipush 60, 2) := by decide +kernel
theorem dX10_type_24 : decode cX10_type 24 = .ok (.if_icmp .lt 6, 3) := by decide +kernel
theorem dX10_type_27 : decode cX10_type 27 = .ok (.ldc 74, 2) := by decide +kernel
theorem dX10_type_29 : decode cX10_type 29 = .ok (.ireturn, 1) := by decide +kernel
theorem dX10_type_30 : decode cX10_type 30 = .ok (.aload_n 0, 1) := by decide +kernel
theorem dX10_type_31 : decode cX10_type 31 = .ok (.getfield 61, 3) := by decide +kernel
theorem dX10_type_34 : decode cX10_type 34 = .ok (.iload_n 1, 1) := by decide +kernel
theorem dX10_type_35 : decode cX10_type 35 = .ok (.invokevirtual 174, 3) := by decide +kernel
theorem dX10_type_38 : decode cX10_type 38 = .ok (.aload_n 0, 1) := by decide +kernel
theorem dX10_type_39 : decode cX10_type 39 = .ok (.getfield 61, 3) := by decide +kernel
theorem dX10_type_42 : decode cX10_type 42 = .ok (.getfield 173, 3) := by decide +kernel
theorem dX10_type_45 : decode cX10_type 45 = .ok (.ireturn, 1) := by decide +kernel
set_option maxRecDepth 20000 in
theorem ggX10_clearText_X4_empty : GoodIn wsX10_clearText wsX4_empty := goodIn_r _ [6, 7, 8, 17, 18, 19, 20, 21, 22, 23, 24, 25, 26, 27, 28, 29] (by decide +kernel) (by decide +kernel)
set_option maxRecDepth 20000 in
theorem gX10_clearText_X4_empty : GoodIn wsX10_clearText (wsV RX10 177 RX4 yX4_empty wsX4_empty) := goodIn_app (goodIn_of _ (by decide +kernel)) ggX10_clearText_X4_empty
theorem dX10_clearText_0 : decode cX10_clearText 0 = .ok (.aload_n 0, 1) := by decide +kernel
theorem dX10_clearText_1 : decode cX10_clearText 1 = .ok (.getfield 61, 3) := by decide +kernel
theorem dX10_clearText_4 : decode cX10_clearText 4 = .ok (.getfield 173, 3) := by decide +kernel
theorem dX10_clearText_7 : decode cX10_clearText 7 = .ok (.istore_n 1, 1) := by decide +kernel
theorem dX10_clearText_8 : decode cX10_clearText 8 = .ok (.aload_n 0, 1) := by decide +kernel
theorem dX10_clearText_9 : decode cX10_clearText 9 = .ok (.getfield 61, 3) := by decide +kernel
theorem dX10_clearText_12 : decode cX10_clearText 12 = .ok (.invokevirtual 177, 3) := by decide +kernel
theorem dX10_clearText_15 : decode cX10_clearText 15 = .ok (.iload_n 1, 1) := by decide +kernel
theorem dX10_clearText_16 : decode cX10_clearText 16 = .ok (.ireturn, 1) := by decide +kernel
set_option maxRecDepth 20000 in
theorem ggX10_fault_X4_refresh : GoodIn wsX10_fault wsX4_refresh := goodIn_r _ [8, 9, 10, 11, 12, 13, 14, 15, 16, 17, 18, 19, 20, 21, 7, 22, 23, 24, 25, 26, 27, 28, 29, 30, 31, 32, 33, 34, 35, 36, 37, 38, 39, 40, 41, 42, 43, 44, 45, 46, 47, 48, 49, 50, 51, 52, 53, 54, 55, 56, 57, 58, 59, 60, 61, 62, 63, 64, 65, 66, 67, 68, 69, 70, 71, 72, 73, 74, 75, 76, 77, 78, 79, 80, 81, 82, 83, 93, 94, 95, 96, 97, 98, 99, 100, 101, 102, 103, 104, 105] (by decide +kernel) (by decide +kernel)
set_option maxRecDepth 20000 in
theorem gX10_fault_X4_refresh : GoodIn wsX10_fault (wsV RX10 180 RX4 yX4_refresh wsX4_refresh) := goodIn_app (goodIn_of _ (by decide +kernel)) ggX10_fault_X4_refresh
set_option maxRecDepth 20000 in
theorem ggX10_fault_X4_hasFault : GoodIn wsX10_fault wsX4_hasFault := goodIn_r _ [55, 13, 93, 94, 95, 96, 97, 98, 99, 100, 101, 102, 103, 104, 105] (by decide +kernel) (by decide +kernel)
set_option maxRecDepth 20000 in
theorem gX10_fault_X4_hasFault : GoodIn wsX10_fault (wsV RX10 182 RX4 yX4_hasFault wsX4_hasFault) := goodIn_app (goodIn_of _ (by decide +kernel)) ggX10_fault_X4_hasFault
theorem dX10_fault_0 : decode cX10_fault 0 = .ok (.iload_n 1, 1) := by decide +kernel
theorem dX10_fault_1 : decode cX10_fault 1 = .ok (.ifCond .lt 8, 3) := by decide +kernel
theorem dX10_fault_4 : decode cX10_fault 4 = .ok (.iload_n 1, 1) := by decide +kernel
theorem dX10_fault_5 : decode cX10_fault 5 = .ok (.iconst 1, 1) := by decide +kernel
theorem dX10_fault_6 : decode cX10_fault 6 = .ok (.if_icmp .le 6, 3) := by decide +kernel
theorem dX10_fault_9 : decode cX10_fault 9 = .ok (.ldc 69, 2) := by decide +kernel
theorem dX10_fault_11 : decode cX10_fault 11 = .ok (.ireturn, 1) := by decide +kernel
theorem dX10_fault_12 : decode cX10_fault 12 = .ok (.aload_n 0, 1) := by decide +kernel
theorem dX10_fault_13 : decode cX10_fault 13 = .ok (.getfield 61, 3) := by decide +kernel
theorem dX10_fault_16 : decode cX10_fault 16 = .ok (.invokevirtual 180, 3) := by decide +kernel
theorem dX10_fault_19 : decode cX10_fault 19 = .ok (.aload_n 0, 1) := by decide +kernel
theorem dX10_fault_20 : decode cX10_fault 20 = .ok (.getfield 61, 3) := by decide +kernel
theorem dX10_fault_23 : decode cX10_fault 23 = .ok (.invokevirtual 182, 3) := by decide +kernel
theorem dX10_fault_26 : decode cX10_fault 26 = .ok (.ifCond .ne 6, 3) := by decide +kernel
theorem dX10_fault_29 : decode cX10_fault 29 = .ok (.ldc 110, 2) := by decide +kernel
theorem dX10_fault_31 : decode cX10_fault 31 = .ok (.ireturn, 1) := by decide +kernel
theorem dX10_fault_32 : decode cX10_fault 32 = .ok (.iload_n 1, 1) := by decide +kernel
theorem dX10_fault_33 : decode cX10_fault 33 = .ok (.ifCond .ne 13, 3) := by decide +kernel
theorem dX10_fault_36 : decode cX10_fault 36 = .ok (.aload_n 0, 1) := by decide +kernel
theorem dX10_fault_37 : decode cX10_fault 37 = .ok (.getfield 61, 3) := by decide +kernel
theorem dX10_fault_40 : decode cX10_fault 40 = .ok (.getfield 186, 3) := by decide +kernel
theorem dX10_fault_43 : decode cX10_fault 43 = .ok (.goto 10, 3) := by decide +kernel
theorem dX10_fault_46 : decode cX10_fault 46 = .ok (.aload_n 0, 1) := by decide +kernel
theorem dX10_fault_47 : decode cX10_fault 47 = .ok (.getfield 61, 3) := by decide +kernel
theorem dX10_fault_50 : decode cX10_fault 50 = .ok (.getfield 189, 3) := by decide +kernel
theorem dX10_fault_53 : decode cX10_fault 53 = .ok (.ireturn, 1) := by decide +kernel
set_option maxRecDepth 20000 in
theorem ggX10_told_X4_refresh : GoodIn wsX10_told wsX4_refresh := goodIn_r _ [10, 11, 12, 13, 14, 15, 16, 17, 18, 19, 20, 21, 22, 23, 9, 24, 25, 26, 27, 28, 29, 30, 31, 32, 33, 34, 35, 36, 37, 38, 39, 40, 41, 42, 43, 44, 45, 46, 47, 48, 49, 50, 51, 52, 53, 54, 55, 56, 57, 58, 59, 60, 61, 62, 63, 64, 65, 66, 67, 68, 69, 70, 71, 72, 73, 74, 75, 76, 77, 78, 79, 80, 81, 82, 83, 84, 85, 116, 117, 118, 119, 120, 121, 122, 123, 124, 125, 126, 127, 128] (by decide +kernel) (by decide +kernel)
set_option maxRecDepth 20000 in
theorem gX10_told_X4_refresh : GoodIn wsX10_told (wsV RX10 180 RX4 yX4_refresh wsX4_refresh) := goodIn_app (goodIn_of _ (by decide +kernel)) ggX10_told_X4_refresh
set_option maxRecDepth 20000 in
theorem ggX10_told_X4_hasFault : GoodIn wsX10_told wsX4_hasFault := goodIn_r _ [57, 15, 116, 117, 118, 119, 120, 121, 122, 123, 124, 125, 126, 127, 128] (by decide +kernel) (by decide +kernel)
set_option maxRecDepth 20000 in
theorem gX10_told_X4_hasFault : GoodIn wsX10_told (wsV RX10 182 RX4 yX4_hasFault wsX4_hasFault) := goodIn_app (goodIn_of _ (by decide +kernel)) ggX10_told_X4_hasFault
set_option maxRecDepth 20000 in
theorem ggX10_told_X4_letter : GoodIn wsX10_told wsX4_letter := goodIn_r _ [77, 50, 116, 117, 118, 119, 120, 121, 122, 123, 124, 125, 126, 127, 128] (by decide +kernel) (by decide +kernel)
set_option maxRecDepth 20000 in
theorem gX10_told_X4_letter : GoodIn wsX10_told (wsV RX10 193 RX4 yX4_letter wsX4_letter) := goodIn_app (goodIn_of _ (by decide +kernel)) ggX10_told_X4_letter
set_option maxRecDepth 20000 in
theorem ggX10_told_X4_measure : GoodIn wsX10_told wsX4_measure := goodIn_r _ [91, 16, 17, 18, 13, 20, 19, 92, 93, 94, 95, 96, 97, 98, 99, 100, 9, 101, 74, 75, 76, 77, 50, 102, 103, 104, 105, 106, 107, 116, 117, 118, 119, 120, 121, 122, 123, 124, 125, 126, 127, 128, 129, 130, 131] (by decide +kernel) (by decide +kernel)
set_option maxRecDepth 20000 in
theorem gX10_told_X4_measure : GoodIn wsX10_told (wsV RX10 194 RX4 yX4_measure wsX4_measure) := goodIn_app (goodIn_of _ (by decide +kernel)) ggX10_told_X4_measure
theorem dX10_told_0 : decode cX10_told 0 = .ok (.iload_n 1, 1) := by decide +kernel
theorem dX10_told_1 : decode cX10_told 1 = .ok (.bipush 100, 2) := by decide +kernel
theorem dX10_told_3 : decode cX10_told 3 = .ok (.isub, 1) := by decide +kernel
theorem dX10_told_4 : decode cX10_told 4 = .ok (.istore_n 2, 1) := by decide +kernel
theorem dX10_told_5 : decode cX10_told 5 = .ok (.iload_n 1, 1) := by decide +kernel
theorem dX10_told_6 : decode cX10_told 6 = .ok (.bipush 100, 2) := by decide +kernel
theorem dX10_told_8 : decode cX10_told 8 = .ok (.if_icmp .lt 13, 3) := by decide +kernel
theorem dX10_told_11 : decode cX10_told 11 = .ok (.iload_n 2, 1) := by decide +kernel
theorem dX10_told_12 : decode cX10_told 12 = .ok (.bipush 24, 2) := by decide +kernel
theorem dX10_told_14 : decode cX10_told 14 = .ok (.if_icmp .ge 7, 3) := by decide +kernel
theorem dX10_told_17 : decode cX10_told 17 = .ok (.iconst 1, 1) := by decide +kernel
theorem dX10_told_18 : decode cX10_told 18 = .ok (.goto 4, 3) := by decide +kernel
theorem dX10_told_21 : decode cX10_told 21 = .ok (.iconst 0, 1) := by decide +kernel
theorem dX10_told_22 : decode cX10_told 22 = .ok (.istore_n 3, 1) := by decide +kernel
theorem dX10_told_23 : decode cX10_told 23 = .ok (.iload_n 3, 1) := by decide +kernel
theorem dX10_told_24 : decode cX10_told 24 = .ok (.ifCond .ne 15, 3) := by decide +kernel
theorem dX10_told_27 : decode cX10_told 27 = .ok (.iload_n 1, 1) := by decide +kernel
theorem dX10_told_28 : decode cX10_told 28 = .ok (.ifCond .lt 8, 3) := by decide +kernel
theorem dX10_told_31 : decode cX10_told 31 = .ok (.iload_n 1, 1) := by decide +kernel
theorem dX10_told_32 : decode cX10_told 32 = .ok (.iconst 5, 1) := by decide +kernel
theorem dX10_told_33 : decode cX10_told 33 = .ok (.if_icmp .le 6, 3) := by decide +kernel
theorem dX10_told_36 : decode cX10_told 36 = .ok (.ldc 69, 2) := by decide +kernel
theorem dX10_told_38 : decode cX10_told 38 = .ok (.ireturn, 1) := by decide +kernel
theorem dX10_told_39 : decode cX10_told 39 = .ok (.aload_n 0, 1) := by decide +kernel
theorem dX10_told_40 : decode cX10_told 40 = .ok (.getfield 61, 3) := by decide +kernel
theorem dX10_told_43 : decode cX10_told 43 = .ok (.invokevirtual 180, 3) := by decide +kernel
theorem dX10_told_46 : decode cX10_told 46 = .ok (.aload_n 0, 1) := by decide +kernel
theorem dX10_told_47 : decode cX10_told 47 = .ok (.getfield 61, 3) := by decide +kernel
theorem dX10_told_50 : decode cX10_told 50 = .ok (.invokevirtual 182, 3) := by decide +kernel
theorem dX10_told_53 : decode cX10_told 53 = .ok (.ifCond .eq 6, 3) := by decide +kernel
theorem dX10_told_56 : decode cX10_told 56 = .ok (.ldc 82, 2) := by decide +kernel
theorem dX10_told_58 : decode cX10_told 58 = .ok (.ireturn, 1) := by decide +kernel
theorem dX10_told_59 : decode cX10_told 59 = .ok (.iload_n 3, 1) := by decide +kernel
theorem dX10_told_60 : decode cX10_told 60 = .ok (.ifCond .eq 28, 3) := by decide +kernel
theorem dX10_told_63 : decode cX10_told 63 = .ok (.iload_n 2, 1) := by decide +kernel
theorem dX10_told_64 : decode cX10_told 64 = .ok (.aload_n 0, 1) := by decide +kernel
theorem dX10_told_65 : decode cX10_told 65 = .ok (.getfield 61, 3) := by decide +kernel
theorem dX10_told_68 : decode cX10_told 68 = .ok (.getfield 192, 3) := by decide +kernel
theorem dX10_told_71 : decode cX10_told 71 = .ok (.if_icmp .ge 14, 3) := by decide +kernel
theorem dX10_told_74 : decode cX10_told 74 = .ok (.aload_n 0, 1) := by decide +kernel
theorem dX10_told_75 : decode cX10_told 75 = .ok (.getfield 61, 3) := by decide +kernel
theorem dX10_told_78 : decode cX10_told 78 = .ok (.iload_n 2, 1) := by decide +kernel
theorem dX10_told_79 : decode cX10_told 79 = .ok (.invokevirtual 193, 3) := by decide +kernel
theorem dX10_told_82 : decode cX10_told 82 = .ok (.goto 5, 3) := by decide +kernel
theorem dX10_told_85 : decode cX10_told 85 = .ok (.ldc 110, 2) := by decide +kernel
theorem dX10_told_87 : decode cX10_told 87 = .ok (.ireturn, 1) := by decide +kernel
theorem dX10_told_88 : decode cX10_told 88 = .ok (.aload_n 0, 1) := by decide +kernel
theorem dX10_told_89 : decode cX10_told 89 = .ok (.getfield 61, 3) := by decide +kernel
theorem dX10_told_92 : decode cX10_told 92 = .ok (.iload_n 1, 1) := by decide +kernel
theorem dX10_told_93 : decode cX10_told 93 = .ok (.aload_n 0, 1) := by decide +kernel
theorem dX10_told_94 : decode cX10_told 94 = .ok (.getfield 12, 3) := by decide +kernel
theorem dX10_told_97 : decode cX10_told 97 = .ok (.invokevirtual 194, 3) := by decide +kernel
theorem dX10_told_100 : decode cX10_told 100 = .ok (.ireturn, 1) := by decide +kernel
set_option maxRecDepth 20000 in
theorem ggX10_adopt_X4_refresh : GoodIn wsX10_adopt wsX4_refresh := goodIn_r _ [8, 9, 10, 11, 12, 13, 14, 15, 16, 17, 18, 19, 20, 21, 7, 22, 23, 24, 25, 26, 27, 28, 29, 30, 31, 32, 33, 34, 35, 36, 37, 38, 39, 40, 41, 42, 43, 44, 45, 46, 47, 48, 49, 50, 51, 52, 53, 54, 55, 56, 57, 58, 59, 60, 61, 62, 63, 64, 65, 66, 67, 68, 69, 70, 71, 72, 73, 74, 75, 76, 77, 78, 79, 80, 81, 82, 83, 143, 144, 145, 146, 147, 148, 149, 150, 151, 152, 153, 154, 155] (by decide +kernel) (by decide +kernel)
set_option maxRecDepth 20000 in
theorem gX10_adopt_X4_refresh : GoodIn wsX10_adopt (wsV RX10 180 RX4 yX4_refresh wsX4_refresh) := goodIn_app (goodIn_of _ (by decide +kernel)) ggX10_adopt_X4_refresh
set_option maxRecDepth 20000 in
theorem ggX10_adopt_X4_hasFault : GoodIn wsX10_adopt wsX4_hasFault := goodIn_r _ [55, 13, 143, 144, 145, 146, 147, 148, 149, 150, 151, 152, 153, 154, 155] (by decide +kernel) (by decide +kernel)
set_option maxRecDepth 20000 in
theorem gX10_adopt_X4_hasFault : GoodIn wsX10_adopt (wsV RX10 182 RX4 yX4_hasFault wsX4_hasFault) := goodIn_app (goodIn_of _ (by decide +kernel)) ggX10_adopt_X4_hasFault
set_option maxRecDepth 20000 in
theorem ggX10_adopt_X10_beginChange : GoodIn wsX10_adopt wsX10_beginChange := goodIn_r _ [89, 90, 3, 91, 92, 93, 94, 95, 96, 97, 98, 99, 100, 101, 102, 103, 104, 105, 106, 107, 108, 109, 110, 111, 112, 113, 114, 115, 116, 88, 117, 118, 119, 120, 121, 122, 123, 124, 125, 126, 132, 133, 134, 135, 136, 137, 138, 139, 156, 157, 140, 141, 142, 158, 159, 160, 161, 162, 163, 164, 165, 166, 167, 168, 169, 170, 171, 172, 173, 174, 175, 176, 177, 178, 179, 180, 181, 182, 183, 184, 185, 186, 187, 188, 189, 190, 191] (by decide +kernel) (by decide +kernel)
set_option maxRecDepth 20000 in
theorem gX10_adopt_X10_beginChange : GoodIn wsX10_adopt (wsV RX10 75 RX10 yX10_beginChange wsX10_beginChange) := goodIn_app (goodIn_of _ (by decide +kernel)) ggX10_adopt_X10_beginChange
set_option maxRecDepth 20000 in
theorem ggX10_adopt_X4_letter : GoodIn wsX10_adopt wsX4_letter := goodIn_r _ [75, 48, 143, 144, 145, 146, 147, 148, 149, 150, 151, 152, 153, 154, 155] (by decide +kernel) (by decide +kernel)
set_option maxRecDepth 20000 in
theorem gX10_adopt_X4_letter : GoodIn wsX10_adopt (wsV RX10 193 RX4 yX4_letter wsX4_letter) := goodIn_app (goodIn_of _ (by decide +kernel)) ggX10_adopt_X4_letter
set_option maxRecDepth 20000 in
theorem ggX10_adopt_X7_addLetter : GoodIn wsX10_adopt wsX7_addLetter := goodIn_r _ [131, 113, 111, 140, 141, 142] (by decide +kernel) (by decide +kernel)
set_option maxRecDepth 20000 in
theorem gX10_adopt_X7_addLetter : GoodIn wsX10_adopt (wsV RX10 78 RX7 yX7_addLetter wsX7_addLetter) := goodIn_app (goodIn_of _ (by decide +kernel)) ggX10_adopt_X7_addLetter
theorem dX10_adopt_0 : decode cX10_adopt 0 = .ok (.aload_n 0, 1) := by decide +kernel
theorem dX10_adopt_1 : decode cX10_adopt 1 = .ok (.getfield 61, 3) := by decide +kernel
theorem dX10_adopt_4 : decode cX10_adopt 4 = .ok (.invokevirtual 180, 3) := by decide +kernel
theorem dX10_adopt_7 : decode cX10_adopt 7 = .ok (.aload_n 0, 1) := by decide +kernel
theorem dX10_adopt_8 : decode cX10_adopt 8 = .ok (.getfield 61, 3) := by decide +kernel
theorem dX10_adopt_11 : decode cX10_adopt 11 = .ok (.invokevirtual 182, 3) := by decide +kernel
theorem dX10_adopt_14 : decode cX10_adopt 14 = .ok (.ifCond .eq 6, 3) := by decide +kernel
theorem dX10_adopt_17 : decode cX10_adopt 17 = .ok (.ldc 82, 2) := by decide +kernel
theorem dX10_adopt_19 : decode cX10_adopt 19 = .ok (.ireturn, 1) := by decide +kernel
theorem dX10_adopt_20 : decode cX10_adopt 20 = .ok (.aload_n 0, 1) := by decide +kernel
theorem dX10_adopt_21 : decode cX10_adopt 21 = .ok (.invokevirtual 75, 3) := by decide +kernel
theorem dX10_adopt_24 : decode cX10_adopt 24 = .ok (.aload_n 0, 1) := by decide +kernel
theorem dX10_adopt_25 : decode cX10_adopt 25 = .ok (.getfield 12, 3) := by decide +kernel
theorem dX10_adopt_28 : decode cX10_adopt 28 = .ok (.iconst 0, 1) := by decide +kernel
theorem dX10_adopt_29 : decode cX10_adopt 29 = .ok (.putfield 70, 3) := by decide +kernel
theorem dX10_adopt_32 : decode cX10_adopt 32 = .ok (.iconst 0, 1) := by decide +kernel
theorem dX10_adopt_33 : decode cX10_adopt 33 = .ok (.istore_n 1, 1) := by decide +kernel
theorem dX10_adopt_34 : decode cX10_adopt 34 = .ok (.iload_n 1, 1) := by decide +kernel
theorem dX10_adopt_35 : decode cX10_adopt 35 = .ok (.aload_n 0, 1) := by decide +kernel
theorem dX10_adopt_36 : decode cX10_adopt 36 = .ok (.getfield 61, 3) := by decide +kernel
theorem dX10_adopt_39 : decode cX10_adopt 39 = .ok (.getfield 192, 3) := by decide +kernel
theorem dX10_adopt_42 : decode cX10_adopt 42 = .ok (.if_icmp .ge 24, 3) := by decide +kernel
theorem dX10_adopt_45 : decode cX10_adopt 45 = .ok (.aload_n 0, 1) := by decide +kernel
theorem dX10_adopt_46 : decode cX10_adopt 46 = .ok (.getfield 12, 3) := by decide +kernel
theorem dX10_adopt_49 : decode cX10_adopt 49 = .ok (.aload_n 0, 1) := by decide +kernel
theorem dX10_adopt_50 : decode cX10_adopt 50 = .ok (.getfield 61, 3) := by decide +kernel
theorem dX10_adopt_53 : decode cX10_adopt 53 = .ok (.iload_n 1, 1) := by decide +kernel
theorem dX10_adopt_54 : decode cX10_adopt 54 = .ok (.invokevirtual 193, 3) := by decide +kernel
theorem dX10_adopt_57 : decode cX10_adopt 57 = .ok (.invokevirtual 78, 3) := by decide +kernel
theorem dX10_adopt_60 : decode cX10_adopt 60 = .ok (.iinc 1 1, 3) := by decide +kernel
theorem dX10_adopt_63 : decode cX10_adopt 63 = .ok (.goto (-29), 3) := by decide +kernel
theorem dX10_adopt_66 : decode cX10_adopt 66 = .ok (.aload_n 0, 1) := by decide +kernel
theorem dX10_adopt_67 : decode cX10_adopt 67 = .ok (.getfield 12, 3) := by decide +kernel
theorem dX10_adopt_70 : decode cX10_adopt 70 = .ok (.getfield 70, 3) := by decide +kernel
theorem dX10_adopt_73 : decode cX10_adopt 73 = .ok (.ireturn, 1) := by decide +kernel
set_option maxRecDepth 20000 in
theorem ggX10_count_X7_setting : GoodIn wsX10_count wsX7_setting := goodIn_r _ [10, 11, 52, 53, 54] (by decide +kernel) (by decide +kernel)
set_option maxRecDepth 20000 in
theorem gX10_count_X7_setting : GoodIn wsX10_count (wsV RX10 104 RX7 yX7_setting wsX7_setting) := goodIn_app (goodIn_of _ (by decide +kernel)) ggX10_count_X7_setting
set_option maxRecDepth 20000 in
theorem ggX10_count_X6_refresh : GoodIn wsX10_count wsX6_refresh := goodIn_r _ [16, 17, 18, 19, 20, 21, 15, 22, 23, 24, 25, 26, 27, 28, 9, 29, 30, 31, 32, 33, 34, 35, 36, 37, 38, 39, 40, 41, 42, 43, 55, 56, 57, 58, 59, 52, 53, 54] (by decide +kernel) (by decide +kernel)
set_option maxRecDepth 20000 in
theorem gX10_count_X6_refresh : GoodIn wsX10_count (wsV RX10 123 RX6 yX6_refresh wsX6_refresh) := goodIn_app (goodIn_of _ (by decide +kernel)) ggX10_count_X6_refresh
theorem dX10_count_0 : decode cX10_count 0 = .ok (.iload_n 1, 1) := by decide +kernel
theorem dX10_count_1 : decode cX10_count 1 = .ok (.bipush 20, 2) := by decide +kernel
theorem dX10_count_3 : decode cX10_count 3 = .ok (.if_icmp .lt 21, 3) := by decide +kernel
theorem dX10_count_6 : decode cX10_count 6 = .ok (.iload_n 1, 1) := by decide +kernel
theorem dX10_count_7 : decode cX10_count 7 = .ok (.bipush 25, 2) := by decide +kernel
theorem dX10_count_9 : decode cX10_count 9 = .ok (.if_icmp .ge 15, 3) := by decide +kernel
theorem dX10_count_12 : decode cX10_count 12 = .ok (.aload_n 0, 1) := by decide +kernel
theorem dX10_count_13 : decode cX10_count 13 = .ok (.getfield 12, 3) := by decide +kernel
theorem dX10_count_16 : decode cX10_count 16 = .ok (.iload_n 1, 1) := by decide +kernel
theorem dX10_count_17 : decode cX10_count 17 = .ok (.bipush 20, 2) := by decide +kernel
theorem dX10_count_19 : decode cX10_count 19 = .ok (.isub, 1) := by decide +kernel
theorem dX10_count_20 : decode cX10_count 20 = .ok (.invokevirtual 104, 3) := by decide +kernel
theorem dX10_count_23 : decode cX10_count 23 = .ok (.ireturn, 1) := by decide +kernel
theorem dX10_count_24 : decode cX10_count 24 = .ok (.iload_n 1, 1) := by decide +kernel
theorem dX10_count_25 : decode cX10_count 25 = .ok (.tableswitch 74 0 3 #[31, 39, 58, 66], 31) := by decide +kernel
theorem dX10_count_56 : decode cX10_count 56 = .ok (.aload_n 0, 1) := by decide +kernel
theorem dX10_count_57 : decode cX10_count 57 = .ok (.getfield 12, 3) := by decide +kernel
theorem dX10_count_60 : decode cX10_count 60 = .ok (.getfield 70, 3) := by decide +kernel
theorem dX10_count_63 : decode cX10_count 63 = .ok (.ireturn, 1) := by decide +kernel
theorem dX10_count_64 : decode cX10_count 64 = .ok (.aload_n 0, 1) := by decide +kernel
theorem dX10_count_65 : decode cX10_count 65 = .ok (.getfield 26, 3) := by decide +kernel
theorem dX10_count_68 : decode cX10_count 68 = .ok (.aload_n 0, 1) := by decide +kernel
theorem dX10_count_69 : decode cX10_count 69 = .ok (.getfield 12, 3) := by decide +kernel
theorem dX10_count_72 : decode cX10_count 72 = .ok (.invokevirtual 123, 3) := by decide +kernel
theorem dX10_count_75 : decode cX10_count 75 = .ok (.aload_n 0, 1) := by decide +kernel
theorem dX10_count_76 : decode cX10_count 76 = .ok (.getfield 26, 3) := by decide +kernel
theorem dX10_count_79 : decode cX10_count 79 = .ok (.getfield 127, 3) := by decide +kernel
theorem dX10_count_82 : decode cX10_count 82 = .ok (.ireturn, 1) := by decide +kernel
theorem dX10_count_83 : decode cX10_count 83 = .ok (.aload_n 0, 1) := by decide +kernel
theorem dX10_count_84 : decode cX10_count 84 = .ok (.getfield 19, 3) := by decide +kernel
theorem dX10_count_87 : decode cX10_count 87 = .ok (.getfield 197, 3) := by decide +kernel
theorem dX10_count_90 : decode cX10_count 90 = .ok (.ireturn, 1) := by decide +kernel
theorem dX10_count_91 : decode cX10_count 91 = .ok (.aload_n 0, 1) := by decide +kernel
theorem dX10_count_92 : decode cX10_count 92 = .ok (.getfield 61, 3) := by decide +kernel
theorem dX10_count_95 : decode cX10_count 95 = .ok (.getfield 173, 3) := by decide +kernel
theorem dX10_count_98 : decode cX10_count 98 = .ok (.ireturn, 1) := by decide +kernel
theorem dX10_count_99 : decode cX10_count 99 = .ok (.ldc 69, 2) := by decide +kernel
theorem dX10_count_101 : decode cX10_count 101 = .ok (.ireturn, 1) := by decide +kernel
set_option maxRecDepth 20000 in
theorem ggX10_undo_X0_giveBack : GoodIn wsX10_undo wsX0_giveBack := goodIn_r _ [8, 9, 10, 11, 12, 7, 13, 14, 15, 16, 17, 18, 19, 20, 21, 22, 45, 46, 47, 48, 49] (by decide +kernel) (by decide +kernel)
set_option maxRecDepth 20000 in
theorem gX10_undo_X0_giveBack : GoodIn wsX10_undo (wsV RX10 198 RX0 yX0_giveBack wsX0_giveBack) := goodIn_app (goodIn_of _ (by decide +kernel)) ggX10_undo_X0_giveBack
set_option maxRecDepth 20000 in
theorem ggX10_undo_X10_forgetAnswers : GoodIn wsX10_undo wsX10_forgetAnswers := goodIn_r _ [27, 28, 29, 30, 31, 32, 33, 34, 35, 36, 37, 38, 39, 40, 41, 42, 43, 44, 50, 51, 52, 53, 54, 55, 56, 57, 58, 59, 60, 61, 62, 63, 64, 65, 66, 67, 68, 69, 70, 71, 72, 73, 74, 75, 76, 77, 78, 79, 80, 81, 82, 83] (by decide +kernel) (by decide +kernel)
set_option maxRecDepth 20000 in
theorem gX10_undo_X10_forgetAnswers : GoodIn wsX10_undo (wsV RX10 201 RX10 yX10_forgetAnswers wsX10_forgetAnswers) := goodIn_app (goodIn_of _ (by decide +kernel)) ggX10_undo_X10_forgetAnswers
theorem dX10_undo_0 : decode cX10_undo 0 = .ok (.aload_n 0, 1) := by decide +kernel
theorem dX10_undo_1 : decode cX10_undo 1 = .ok (.getfield 19, 3) := by decide +kernel
theorem dX10_undo_4 : decode cX10_undo 4 = .ok (.getfield 197, 3) := by decide +kernel
theorem dX10_undo_7 : decode cX10_undo 7 = .ok (.ifCond .ne 6, 3) := by decide +kernel
theorem dX10_undo_10 : decode cX10_undo 10 = .ok (.ldc 82, 2) := by decide +kernel
theorem dX10_undo_12 : decode cX10_undo 12 = .ok (.ireturn, 1) := by decide +kernel
theorem dX10_undo_13 : decode cX10_undo 13 = .ok (.aload_n 0, 1) := by decide +kernel
theorem dX10_undo_14 : decode cX10_undo 14 = .ok (.getfield 19, 3) := by decide +kernel
theorem dX10_undo_17 : decode cX10_undo 17 = .ok (.aload_n 0, 1) := by decide +kernel
theorem dX10_undo_18 : decode cX10_undo 18 = .ok (.getfield 12, 3) := by decide +kernel
theorem dX10_undo_21 : decode cX10_undo 21 = .ok (.invokevirtual 198, 3) := by decide +kernel
theorem dX10_undo_24 : decode cX10_undo 24 = .ok (.aload_n 0, 1) := by decide +kernel
theorem dX10_undo_25 : decode cX10_undo 25 = .ok (.invokevirtual 201, 3) := by decide +kernel
theorem dX10_undo_28 : decode cX10_undo 28 = .ok (.aload_n 0, 1) := by decide +kernel
theorem dX10_undo_29 : decode cX10_undo 29 = .ok (.getfield 19, 3) := by decide +kernel
theorem dX10_undo_32 : decode cX10_undo 32 = .ok (.getfield 197, 3) := by decide +kernel
theorem dX10_undo_35 : decode cX10_undo 35 = .ok (.ireturn, 1) := by decide +kernel
set_option maxRecDepth 20000 in
theorem ggX10_beginChange_X0_keep : GoodIn wsX10_beginChange wsX0_keep := goodIn_r _ [7, 8, 9, 10, 11, 6, 12, 13, 14, 15, 16, 17, 18, 19, 20, 21, 22, 23, 24, 25, 48, 49, 50, 51, 52] (by decide +kernel) (by decide +kernel)
set_option maxRecDepth 20000 in
theorem gX10_beginChange_X0_keep : GoodIn wsX10_beginChange (wsV RX10 204 RX0 yX0_keep wsX0_keep) := goodIn_app (goodIn_of _ (by decide +kernel)) ggX10_beginChange_X0_keep
set_option maxRecDepth 20000 in
theorem ggX10_beginChange_X10_forgetAnswers : GoodIn wsX10_beginChange wsX10_forgetAnswers := goodIn_r _ [30, 31, 32, 33, 34, 35, 36, 37, 38, 39, 40, 41, 42, 43, 44, 45, 46, 47, 53, 54, 55, 56, 57, 58, 59, 60, 61, 62, 63, 64, 65, 66, 67, 68, 69, 70, 71, 72, 73, 74, 75, 76, 77, 78, 79, 80, 81, 82, 83, 84, 85, 86] (by decide +kernel) (by decide +kernel)
set_option maxRecDepth 20000 in
theorem gX10_beginChange_X10_forgetAnswers : GoodIn wsX10_beginChange (wsV RX10 201 RX10 yX10_forgetAnswers wsX10_forgetAnswers) := goodIn_app (goodIn_of _ (by decide +kernel)) ggX10_beginChange_X10_forgetAnswers
theorem dX10_beginChange_0 : decode cX10_beginChange 0 = .ok (.aload_n 0, 1) := by decide +kernel
theorem dX10_beginChange_1 : decode cX10_beginChange 1 = .ok (.getfield 19, 3) := by decide +kernel
theorem dX10_beginChange_4 : decode cX10_beginChange 4 = .ok (.aload_n 0, 1) := by decide +kernel
theorem dX10_beginChange_5 : decode cX10_beginChange 5 = .ok (.getfield 12, 3) := by decide +kernel
theorem dX10_beginChange_8 : decode cX10_beginChange 8 = .ok (.invokevirtual 204, 3) := by decide +kernel
theorem dX10_beginChange_11 : decode cX10_beginChange 11 = .ok (.aload_n 0, 1) := by decide +kernel
theorem dX10_beginChange_12 : decode cX10_beginChange 12 = .ok (.invokevirtual 201, 3) := by decide +kernel
theorem dX10_beginChange_15 : decode cX10_beginChange 15 = .ok (.return_, 1) := by decide +kernel
theorem dX10_forgetAnswers_0 : decode cX10_forgetAnswers 0 = .ok (.aload_n 0, 1) := by decide +kernel
theorem dX10_forgetAnswers_1 : decode cX10_forgetAnswers 1 = .ok (.getfield 26, 3) := by decide +kernel
theorem dX10_forgetAnswers_4 : decode cX10_forgetAnswers 4 = .ok (.iconst 0, 1) := by decide +kernel
theorem dX10_forgetAnswers_5 : decode cX10_forgetAnswers 5 = .ok (.putfield 207, 3) := by decide +kernel
theorem dX10_forgetAnswers_8 : decode cX10_forgetAnswers 8 = .ok (.aload_n 0, 1) := by decide +kernel
theorem dX10_forgetAnswers_9 : decode cX10_forgetAnswers 9 = .ok (.getfield 33, 3) := by decide +kernel
theorem dX10_forgetAnswers_12 : decode cX10_forgetAnswers 12 = .ok (.iconst 0, 1) := by decide +kernel
theorem dX10_forgetAnswers_13 : decode cX10_forgetAnswers 13 = .ok (.putfield 210, 3) := by decide +kernel
theorem dX10_forgetAnswers_16 : decode cX10_forgetAnswers 16 = .ok (.aload_n 0, 1) := by decide +kernel
theorem dX10_forgetAnswers_17 : decode cX10_forgetAnswers 17 = .ok (.getfield 40, 3) := by decide +kernel
theorem dX10_forgetAnswers_20 : decode cX10_forgetAnswers 20 = .ok (.iconst 0, 1) := by decide +kernel
theorem dX10_forgetAnswers_21 : decode cX10_forgetAnswers 21 = .ok (.putfield 211, 3) := by decide +kernel
theorem dX10_forgetAnswers_24 : decode cX10_forgetAnswers 24 = .ok (.aload_n 0, 1) := by decide +kernel
theorem dX10_forgetAnswers_25 : decode cX10_forgetAnswers 25 = .ok (.getfield 47, 3) := by decide +kernel
theorem dX10_forgetAnswers_28 : decode cX10_forgetAnswers 28 = .ok (.iconst 0, 1) := by decide +kernel
theorem dX10_forgetAnswers_29 : decode cX10_forgetAnswers 29 = .ok (.putfield 212, 3) := by decide +kernel
theorem dX10_forgetAnswers_32 : decode cX10_forgetAnswers 32 = .ok (.aload_n 0, 1) := by decide +kernel
theorem dX10_forgetAnswers_33 : decode cX10_forgetAnswers 33 = .ok (.getfield 54, 3) := by decide +kernel
theorem dX10_forgetAnswers_36 : decode cX10_forgetAnswers 36 = .ok (.iconst 0, 1) := by decide +kernel
theorem dX10_forgetAnswers_37 : decode cX10_forgetAnswers 37 = .ok (.putfield 213, 3) := by decide +kernel
theorem dX10_forgetAnswers_40 : decode cX10_forgetAnswers 40 = .ok (.return_, 1) := by decide +kernel
theorem dX10_isKind_0 : decode cX10_isKind 0 = .ok (.iload_n 0, 1) := by decide +kernel
theorem dX10_isKind_1 : decode cX10_isKind 1 = .ok (.ifCond .lt 12, 3) := by decide +kernel
theorem dX10_isKind_4 : decode cX10_isKind 4 = .ok (.iload_n 0, 1) := by decide +kernel
theorem dX10_isKind_5 : decode cX10_isKind 5 = .ok (.iconst 4, 1) := by decide +kernel
theorem dX10_isKind_6 : decode cX10_isKind 6 = .ok (.if_icmp .ge 7, 3) := by decide +kernel
theorem dX10_isKind_9 : decode cX10_isKind 9 = .ok (.iconst 1, 1) := by decide +kernel
theorem dX10_isKind_10 : decode cX10_isKind 10 = .ok (.goto 4, 3) := by decide +kernel
theorem dX10_isKind_13 : decode cX10_isKind 13 = .ok (.iconst 0, 1) := by decide +kernel
theorem dX10_isKind_14 : decode cX10_isKind 14 = .ok (.ireturn, 1) := by decide +kernel
theorem dX10_partIndex_0 : decode cX10_partIndex 0 = .ok (.iload_n 0, 1) := by decide +kernel
theorem dX10_partIndex_1 : decode cX10_partIndex 1 = .ok (.sipush 325, 3) := by decide +kernel
theorem dX10_partIndex_4 : decode cX10_partIndex 4 = .ok (.imul, 1) := by decide +kernel
theorem dX10_partIndex_5 : decode cX10_partIndex 5 = .ok (.iload_n 2, 1) := by decide +kernel
theorem dX10_partIndex_6 : decode cX10_partIndex 6 = .ok (.iload_n 2, 1) := by decide +kernel
theorem dX10_partIndex_7 : decode cX10_partIndex 7 = .ok (.iconst 1, 1) := by decide +kernel
theorem dX10_partIndex_8 : decode cX10_partIndex 8 = .ok (.iadd, 1) := by decide +kernel
theorem dX10_partIndex_9 : decode cX10_partIndex 9 = .ok (.imul, 1) := by decide +kernel
theorem dX10_partIndex_10 : decode cX10_partIndex 10 = .ok (.iconst 2, 1) := by decide +kernel
theorem dX10_partIndex_11 : decode cX10_partIndex 11 = .ok (.idiv, 1) := by decide +kernel
theorem dX10_partIndex_12 : decode cX10_partIndex 12 = .ok (.iadd, 1) := by decide +kernel
theorem dX10_partIndex_13 : decode cX10_partIndex 13 = .ok (.iload_n 1, 1) := by decide +kernel
theorem dX10_partIndex_14 : decode cX10_partIndex 14 = .ok (.iadd, 1) := by decide +kernel
theorem dX10_partIndex_15 : decode cX10_partIndex 15 = .ok (.ireturn, 1) := by decide +kernel
theorem dX11_init_0 : decode cX11_init 0 = .ok (.aload_n 0, 1) := by decide +kernel
theorem dX11_init_1 : decode cX11_init 1 = .ok (.invokespecial 1, 3) := by decide +kernel
theorem dX11_init_4 : decode cX11_init 4 = .ok (.aload_n 0, 1) := by decide +kernel
theorem dX11_init_5 : decode cX11_init 5 = .ok (.bipush 30, 2) := by decide +kernel
theorem dX11_init_7 : decode cX11_init 7 = .ok (.newarray .int, 2) := by decide +kernel
theorem dX11_init_9 : decode cX11_init 9 = .ok (.putfield 7, 3) := by decide +kernel
theorem dX11_init_12 : decode cX11_init 12 = .ok (.aload_n 0, 1) := by decide +kernel
theorem dX11_init_13 : decode cX11_init 13 = .ok (.bipush 120, 2) := by decide +kernel
theorem dX11_init_15 : decode cX11_init 15 = .ok (.newarray .int, 2) := by decide +kernel
theorem dX11_init_17 : decode cX11_init 17 = .ok (.putfield 13, 3) := by decide +kernel
theorem dX11_init_20 : decode cX11_init 20 = .ok (.aload_n 0, 1) := by decide +kernel
theorem dX11_init_21 : decode cX11_init 21 = .ok (.bipush 30, 2) := by decide +kernel
theorem dX11_init_23 : decode cX11_init 23 = .ok (.newarray .int, 2) := by decide +kernel
theorem dX11_init_25 : decode cX11_init 25 = .ok (.putfield 16, 3) := by decide +kernel
theorem dX11_init_28 : decode cX11_init 28 = .ok (.aload_n 0, 1) := by decide +kernel
theorem dX11_init_29 : decode cX11_init 29 = .ok (.bipush 60, 2) := by decide +kernel
theorem dX11_init_31 : decode cX11_init 31 = .ok (.newarray .char, 2) := by decide +kernel
theorem dX11_init_33 : decode cX11_init 33 = .ok (.putfield 19, 3) := by decide +kernel
theorem dX11_init_36 : decode cX11_init 36 = .ok (.aload_n 0, 1) := by decide +kernel
theorem dX11_init_37 : decode cX11_init 37 = .ok (.sipush 15625, 3) := by decide +kernel
theorem dX11_init_40 : decode cX11_init 40 = .ok (.newarray .int, 2) := by decide +kernel
theorem dX11_init_42 : decode cX11_init 42 = .ok (.putfield 23, 3) := by decide +kernel
theorem dX11_init_45 : decode cX11_init 45 = .ok (.aload_n 0, 1) := by decide +kernel
theorem dX11_init_46 : decode cX11_init 46 = .ok (.sipush 3125, 3) := by decide +kernel
theorem dX11_init_49 : decode cX11_init 49 = .ok (.newarray .int, 2) := by decide +kernel
theorem dX11_init_51 : decode cX11_init 51 = .ok (.putfield 26, 3) := by decide +kernel
theorem dX11_init_54 : decode cX11_init 54 = .ok (.aload_n 0, 1) := by decide +kernel
theorem dX11_init_55 : decode cX11_init 55 = .ok (.sipush 3125, 3) := by decide +kernel
theorem dX11_init_58 : decode cX11_init 58 = .ok (.newarray .int, 2) := by decide +kernel
theorem dX11_init_60 : decode cX11_init 60 = .ok (.putfield 29, 3) := by decide +kernel
theorem dX11_init_63 : decode cX11_init 63 = .ok (.aload_n 0, 1) := by decide +kernel
theorem dX11_init_64 : decode cX11_init 64 = .ok (.sipush 3125, 3) := by decide +kernel
theorem dX11_init_67 : decode cX11_init 67 = .ok (.newarray .int, 2) := by decide +kernel
theorem dX11_init_69 : decode cX11_init 69 = .ok (.putfield 32, 3) := by decide +kernel
theorem dX11_init_72 : decode cX11_init 72 = .ok (.aload_n 0, 1) := by decide +kernel
theorem dX11_init_73 : decode cX11_init 73 = .ok (.sipush 3125, 3) := by decide +kernel
theorem dX11_init_76 : decode cX11_init 76 = .ok (.newarray .long, 2) := by decide +kernel
theorem dX11_init_78 : decode cX11_init 78 = .ok (.putfield 35, 3) := by decide +kernel
theorem dX11_init_81 : decode cX11_init 81 = .ok (.aload_n 0, 1) := by decide +kernel
theorem dX11_init_82 : decode cX11_init 82 = .ok (.sipush 400, 3) := by decide +kernel
theorem dX11_init_85 : decode cX11_init 85 = .ok (.newarray .int, 2) := by decide +kernel
theorem dX11_init_87 : decode cX11_init 87 = .ok (.putfield 39, 3) := by decide +kernel
theorem dX11_init_90 : decode cX11_init 90 = .ok (.aload_n 0, 1) := by decide +kernel
theorem dX11_init_91 : decode cX11_init 91 = .ok (.sipush 400, 3) := by decide +kernel
theorem dX11_init_94 : decode cX11_init 94 = .ok (.newarray .char, 2) := by decide +kernel
theorem dX11_init_96 : decode cX11_init 96 = .ok (.putfield 42, 3) := by decide +kernel
theorem dX11_init_99 : decode cX11_init 99 = .ok (.aload_n 0, 1) := by decide +kernel
theorem dX11_init_100 : decode cX11_init 100 = .ok (.sipush 1500, 3) := by decide +kernel
theorem dX11_init_103 : decode cX11_init 103 = .ok (.newarray .int, 2) := by decide +kernel
theorem dX11_init_105 : decode cX11_init 105 = .ok (.putfield 45, 3) := by decide +kernel
theorem dX11_init_108 : decode cX11_init 108 = .ok (.aload_n 0, 1) := by decide +kernel
theorem dX11_init_109 : decode cX11_init 109 = .ok (.bipush 62, 2) := by decide +kernel
theorem dX11_init_111 : decode cX11_init 111 = .ok (.newarray .int, 2) := by decide +kernel
theorem dX11_init_113 : decode cX11_init 113 = .ok (.putfield 48, 3) := by decide +kernel
theorem dX11_init_116 : decode cX11_init 116 = .ok (.aload_n 0, 1) := by decide +kernel
theorem dX11_init_117 : decode cX11_init 117 = .ok (.bipush 62, 2) := by decide +kernel
theorem dX11_init_119 : decode cX11_init 119 = .ok (.newarray .int, 2) := by decide +kernel
theorem dX11_init_121 : decode cX11_init 121 = .ok (.putfield 51, 3) := by decide +kernel
theorem dX11_init_124 : decode cX11_init 124 = .ok (.aload_n 0, 1) := by decide +kernel
theorem dX11_init_125 : decode cX11_init 125 = .ok (.bipush 62, 2) := by decide +kernel
theorem dX11_init_127 : decode cX11_init 127 = .ok (.newarray .int, 2) := by decide +kernel
theorem dX11_init_129 : decode cX11_init 129 = .ok (.putfield 54, 3) := by decide +kernel
theorem dX11_init_132 : decode cX11_init 132 = .ok (.aload_n 0, 1) := by decide +kernel
theorem dX11_init_133 : decode cX11_init 133 = .ok (.getfield 7, 3) := by decide +kernel
theorem dX11_init_136 : decode cX11_init 136 = .ok (.iconst 1, 1) := by decide +kernel
theorem dX11_init_137 : decode cX11_init 137 = .ok (.iconst 2, 1) := by decide +kernel
theorem dX11_init_138 : decode cX11_init 138 = .ok (.iastore, 1) := by decide +kernel
theorem dX11_init_139 : decode cX11_init 139 = .ok (.aload_n 0, 1) := by decide +kernel
theorem dX11_init_140 : decode cX11_init 140 = .ok (.getfield 7, 3) := by decide +kernel
theorem dX11_init_143 : decode cX11_init 143 = .ok (.iconst 2, 1) := by decide +kernel
theorem dX11_init_144 : decode cX11_init 144 = .ok (.iconst 3, 1) := by decide +kernel
theorem dX11_init_145 : decode cX11_init 145 = .ok (.iastore, 1) := by decide +kernel
theorem dX11_init_146 : decode cX11_init 146 = .ok (.aload_n 0, 1) := by decide +kernel
theorem dX11_init_147 : decode cX11_init 147 = .ok (.getfield 7, 3) := by decide +kernel
theorem dX11_init_150 : decode cX11_init 150 = .ok (.iconst 3, 1) := by decide +kernel
theorem dX11_init_151 : decode cX11_init 151 = .ok (.iconst 3, 1) := by decide +kernel
theorem dX11_init_152 : decode cX11_init 152 = .ok (.iastore, 1) := by decide +kernel
theorem dX11_init_153 : decode cX11_init 153 = .ok (.aload_n 0, 1) := by decide +kernel
theorem dX11_init_154 : decode cX11_init 154 = .ok (.getfield 7, 3) := by decide +kernel
theorem dX11_init_157 : decode cX11_init 157 = .ok (.iconst 4, 1) := by decide +kernel
theorem dX11_init_158 : decode cX11_init 158 = .ok (.iconst 2, 1) := by decide +kernel
theorem dX11_init_159 : decode cX11_init 159 = .ok (.iastore, 1) := by decide +kernel
theorem dX11_init_160 : decode cX11_init 160 = .ok (.aload_n 0, 1) := by decide +kernel
theorem dX11_init_161 : decode cX11_init 161 = .ok (.getfield 7, 3) := by decide +kernel
theorem dX11_init_164 : decode cX11_init 164 = .ok (.iconst 5, 1) := by decide +kernel
theorem dX11_init_165 : decode cX11_init 165 = .ok (.iconst 3, 1) := by decide +kernel
theorem dX11_init_166 : decode cX11_init 166 = .ok (.iastore, 1) := by decide +kernel
theorem dX11_init_167 : decode cX11_init 167 = .ok (.return_, 1) := by decide +kernel
theorem dX11_in_0 : decode cX11_in 0 = .ok (.iload_n 0, 1) := by decide +kernel
theorem dX11_in_1 : decode cX11_in 1 = .ok (.iload_n 1, 1) := by decide +kernel
theorem dX11_in_2 : decode cX11_in 2 = .ok (.if_icmp .lt 12, 3) := by decide +kernel
theorem dX11_in_5 : decode cX11_in 5 = .ok (.iload_n 0, 1) := by decide +kernel
theorem dX11_in_6 : decode cX11_in 6 = .ok (.iload_n 2, 1) := by decide +kernel
theorem dX11_in_7 : decode cX11_in 7 = .ok (.if_icmp .gt 7, 3) := by decide +kernel
theorem dX11_in_10 : decode cX11_in 10 = .ok (.iconst 1, 1) := by decide +kernel
theorem dX11_in_11 : decode cX11_in 11 = .ok (.goto 4, 3) := by decide +kernel
theorem dX11_in_14 : decode cX11_in 14 = .ok (.iconst 0, 1) := by decide +kernel
theorem dX11_in_15 : decode cX11_in 15 = .ok (.ireturn, 1) := by decide +kernel
theorem dX11_isPart_0 : decode cX11_isPart 0 = .ok (.iload_n 1, 1) := by decide +kernel
theorem dX11_isPart_1 : decode cX11_isPart 1 = .ok (.ifCond .lt 22, 3) := by decide +kernel
theorem dX11_isPart_4 : decode cX11_isPart 4 = .ok (.iload_n 1, 1) := by decide +kernel
theorem dX11_isPart_5 : decode cX11_isPart 5 = .ok (.iload_n 2, 1) := by decide +kernel
theorem dX11_isPart_6 : decode cX11_isPart 6 = .ok (.if_icmp .ge 17, 3) := by decide +kernel
theorem dX11_isPart_9 : decode cX11_isPart 9 = .ok (.iload_n 2, 1) := by decide +kernel
theorem dX11_isPart_10 : decode cX11_isPart 10 = .ok (.aload_n 0, 1) := by decide +kernel
theorem dX11_isPart_11 : decode cX11_isPart 11 = .ok (.getfield 7, 3) := by decide +kernel
theorem dX11_isPart_14 : decode cX11_isPart 14 = .ok (.iconst 0, 1) := by decide +kernel
theorem dX11_isPart_15 : decode cX11_isPart 15 = .ok (.iaload, 1) := by decide +kernel
theorem dX11_isPart_16 : decode cX11_isPart 16 = .ok (.if_icmp .gt 7, 3) := by decide +kernel
theorem dX11_isPart_19 : decode cX11_isPart 19 = .ok (.iconst 1, 1) := by decide +kernel
theorem dX11_isPart_20 : decode cX11_isPart 20 = .ok (.goto 4, 3) := by decide +kernel
theorem dX11_isPart_23 : decode cX11_isPart 23 = .ok (.iconst 0, 1) := by decide +kernel
theorem dX11_isPart_24 : decode cX11_isPart 24 = .ok (.ireturn, 1) := by decide +kernel
theorem dX11_keeps_0 : decode cX11_keeps 0 = .ok (.iconst 0, 1) := by decide +kernel
theorem dX11_keeps_1 : decode cX11_keeps 1 = .ok (.istore_n 1, 1) := by decide +kernel
theorem dX11_keeps_2 : decode cX11_keeps 2 = .ok (.iload_n 1, 1) := by decide +kernel
theorem dX11_keeps_3 : decode cX11_keeps 3 = .ok (.bipush 30, 2) := by decide +kernel
theorem dX11_keeps_5 : decode cX11_keeps 5 = .ok (.if_icmp .ge 21, 3) := by decide +kernel
theorem dX11_keeps_8 : decode cX11_keeps 8 = .ok (.aload_n 0, 1) := by decide +kernel
theorem dX11_keeps_9 : decode cX11_keeps 9 = .ok (.getfield 16, 3) := by decide +kernel
theorem dX11_keeps_12 : decode cX11_keeps 12 = .ok (.iload_n 1, 1) := by decide +kernel
theorem dX11_keeps_13 : decode cX11_keeps 13 = .ok (.aload_n 0, 1) := by decide +kernel
theorem dX11_keeps_14 : decode cX11_keeps 14 = .ok (.getfield 7, 3) := by decide +kernel
theorem dX11_keeps_17 : decode cX11_keeps 17 = .ok (.iload_n 1, 1) := by decide +kernel
theorem dX11_keeps_18 : decode cX11_keeps 18 = .ok (.iaload, 1) := by decide +kernel
theorem dX11_keeps_19 : decode cX11_keeps 19 = .ok (.iastore, 1) := by decide +kernel
theorem dX11_keeps_20 : decode cX11_keeps 20 = .ok (.iinc 1 1, 3) := by decide +kernel
theorem dX11_keeps_23 : decode cX11_keeps 23 = .ok (.goto (-21), 3) := by decide +kernel
theorem dX11_keeps_26 : decode cX11_keeps 26 = .ok (.return_, 1) := by decide +kernel
theorem dX11_acted_0 : decode cX11_acted 0 = .ok (.iload_n 1, 1) := by decide +kernel
theorem dX11_acted_1 : decode cX11_acted 1 = .ok (.ldc 57, 2) := by decide +kernel
theorem dX11_acted_3 : decode cX11_acted 3 = .ok (.if_icmp .le 94, 3) := by decide +kernel
theorem dX11_acted_6 : decode cX11_acted 6 = .ok (.aload_n 0, 1) := by decide +kernel
theorem dX11_acted_7 : decode cX11_acted 7 = .ok (.getfield 58, 3) := by decide +kernel
theorem dX11_acted_10 : decode cX11_acted 10 = .ok (.iconst 4, 1) := by decide +kernel
theorem dX11_acted_11 : decode cX11_acted 11 = .ok (.if_icmp .ne 42, 3) := by decide +kernel
theorem dX11_acted_14 : decode cX11_acted 14 = .ok (.iconst 0, 1) := by decide +kernel
theorem dX11_acted_15 : decode cX11_acted 15 = .ok (.istore_n 2, 1) := by decide +kernel
theorem dX11_acted_16 : decode cX11_acted 16 = .ok (.iload_n 2, 1) := by decide +kernel
theorem dX11_acted_17 : decode cX11_acted 17 = .ok (.bipush 90, 2) := by decide +kernel
theorem dX11_acted_19 : decode cX11_acted 19 = .ok (.if_icmp .ge 24, 3) := by decide +kernel
theorem dX11_acted_22 : decode cX11_acted 22 = .ok (.aload_n 0, 1) := by decide +kernel
theorem dX11_acted_23 : decode cX11_acted 23 = .ok (.getfield 13, 3) := by decide +kernel
theorem dX11_acted_26 : decode cX11_acted 26 = .ok (.iload_n 2, 1) := by decide +kernel
theorem dX11_acted_27 : decode cX11_acted 27 = .ok (.aload_n 0, 1) := by decide +kernel
theorem dX11_acted_28 : decode cX11_acted 28 = .ok (.getfield 13, 3) := by decide +kernel
theorem dX11_acted_31 : decode cX11_acted 31 = .ok (.iload_n 2, 1) := by decide +kernel
theorem dX11_acted_32 : decode cX11_acted 32 = .ok (.bipush 30, 2) := by decide +kernel
theorem dX11_acted_34 : decode cX11_acted 34 = .ok (.iadd, 1) := by decide +kernel
theorem dX11_acted_35 : decode cX11_acted 35 = .ok (.iaload, 1) := by decide +kernel
theorem dX11_acted_36 : decode cX11_acted 36 = .ok (.iastore, 1) := by decide +kernel
theorem dX11_acted_37 : decode cX11_acted 37 = .ok (.iinc 2 1, 3) := by decide +kernel
theorem dX11_acted_40 : decode cX11_acted 40 = .ok (.goto (-24), 3) := by decide +kernel
theorem dX11_acted_43 : decode cX11_acted 43 = .ok (.aload_n 0, 1) := by decide +kernel
theorem dX11_acted_44 : decode cX11_acted 44 = .ok (.dup, 1) := by decide +kernel
theorem dX11_acted_45 : decode cX11_acted 45 = .ok (.getfield 58, 3) := by decide +kernel
theorem dX11_acted_48 : decode cX11_acted 48 = .ok (.iconst 1, 1) := by decide +kernel
theorem dX11_acted_49 : decode cX11_acted 49 = .ok (.isub, 1) := by decide +kernel
theorem dX11_acted_50 : decode cX11_acted 50 = .ok (.putfield 58, 3) := by decide +kernel
theorem dX11_acted_53 : decode cX11_acted 53 = .ok (.iconst 0, 1) := by decide +kernel
theorem dX11_acted_54 : decode cX11_acted 54 = .ok (.istore_n 2, 1) := by decide +kernel
theorem dX11_acted_55 : decode cX11_acted 55 = .ok (.iload_n 2, 1) := by decide +kernel
theorem dX11_acted_56 : decode cX11_acted 56 = .ok (.bipush 30, 2) := by decide +kernel
theorem dX11_acted_58 : decode cX11_acted 58 = .ok (.if_icmp .ge 29, 3) := by decide +kernel
theorem dX11_acted_61 : decode cX11_acted 61 = .ok (.aload_n 0, 1) := by decide +kernel
theorem dX11_acted_62 : decode cX11_acted 62 = .ok (.getfield 13, 3) := by decide +kernel
theorem dX11_acted_65 : decode cX11_acted 65 = .ok (.bipush 30, 2) := by decide +kernel
theorem dX11_acted_67 : decode cX11_acted 67 = .ok (.aload_n 0, 1) := by decide +kernel
theorem dX11_acted_68 : decode cX11_acted 68 = .ok (.getfield 58, 3) := by decide +kernel
theorem dX11_acted_71 : decode cX11_acted 71 = .ok (.imul, 1) := by decide +kernel
theorem dX11_acted_72 : decode cX11_acted 72 = .ok (.iload_n 2, 1) := by decide +kernel
theorem dX11_acted_73 : decode cX11_acted 73 = .ok (.iadd, 1) := by decide +kernel
theorem dX11_acted_74 : decode cX11_acted 74 = .ok (.aload_n 0, 1) := by decide +kernel
theorem dX11_acted_75 : decode cX11_acted 75 = .ok (.getfield 16, 3) := by decide +kernel
theorem dX11_acted_78 : decode cX11_acted 78 = .ok (.iload_n 2, 1) := by decide +kernel
theorem dX11_acted_79 : decode cX11_acted 79 = .ok (.iaload, 1) := by decide +kernel
theorem dX11_acted_80 : decode cX11_acted 80 = .ok (.iastore, 1) := by decide +kernel
theorem dX11_acted_81 : decode cX11_acted 81 = .ok (.iinc 2 1, 3) := by decide +kernel
theorem dX11_acted_84 : decode cX11_acted 84 = .ok (.goto (-29), 3) := by decide +kernel
theorem dX11_acted_87 : decode cX11_acted 87 = .ok (.aload_n 0, 1) := by decide +kernel
theorem dX11_acted_88 : decode cX11_acted 88 = .ok (.dup, 1) := by decide +kernel
theorem dX11_acted_89 : decode cX11_acted 89 = .ok (.getfield 58, 3) := by decide +kernel
theorem dX11_acted_92 : decode cX11_acted 92 = .ok (.iconst 1, 1) := by decide +kernel
theorem dX11_acted_93 : decode cX11_acted 93 = .ok (.iadd, 1) := by decide +kernel
theorem dX11_acted_94 : decode cX11_acted 94 = .ok (.putfield 58, 3) := by decide +kernel
theorem dX11_acted_97 : decode cX11_acted 97 = .ok (.iload_n 1, 1) := by decide +kernel
theorem dX11_acted_98 : decode cX11_acted 98 = .ok (.ireturn, 1) := by decide +kernel
set_option maxRecDepth 20000 in
theorem ggX11_append_X11_in : GoodIn wsX11_append wsX11_in := goodIn_r _ [7] (by decide +kernel) (by decide +kernel)
set_option maxRecDepth 20000 in
theorem gX11_append_X11_in : GoodIn wsX11_append (va_wsS RX11 62 yX11_in wsX11_in) := goodIn_app (goodIn_of _ (by decide +kernel)) ggX11_append_X11_in
set_option maxRecDepth 20000 in
theorem ggX11_append_X11_keeps : GoodIn wsX11_append wsX11_keeps := goodIn_r _ [11, 12, 2, 19, 20, 21, 22, 23, 24, 25, 26, 27, 28, 29, 30, 31, 32, 33, 34, 35, 36, 37, 38, 39, 40, 41, 42, 43, 44, 45, 46, 47] (by decide +kernel) (by decide +kernel)
set_option maxRecDepth 20000 in
theorem gX11_append_X11_keeps : GoodIn wsX11_append (wsV RX11 67 RX11 yX11_keeps wsX11_keeps) := goodIn_app (goodIn_of _ (by decide +kernel)) ggX11_append_X11_keeps
set_option maxRecDepth 20000 in
theorem ggX11_append_X11_acted : GoodIn wsX11_append wsX11_acted := goodIn_r _ [16, 1, 17, 18, 12, 19, 20, 21, 22, 23, 24, 25, 26, 27, 28, 29, 30, 31, 32, 33, 34, 35, 36, 37, 38, 39, 40, 41, 42, 43, 44, 45, 46, 47] (by decide +kernel) (by decide +kernel)
set_option maxRecDepth 20000 in
theorem gX11_append_X11_acted : GoodIn wsX11_append (wsV RX11 70 RX11 yX11_acted wsX11_acted) := goodIn_app (goodIn_of _ (by decide +kernel)) ggX11_append_X11_acted
theorem dX11_append_0 : decode cX11_append 0 = .ok (.iload_n 1, 1) := by decide +kernel
theorem dX11_append_1 : decode cX11_append 1 = .ok (.iconst 0, 1) := by decide +kernel
theorem dX11_append_2 : decode cX11_append 2 = .ok (.iconst 3, 1) := by decide +kernel
theorem dX11_append_3 : decode cX11_append 3 = .ok (.invokestatic 62, 3) := by decide +kernel
theorem dX11_append_6 : decode cX11_append 6 = .ok (.ifCond .ne 6, 3) := by decide +kernel
theorem dX11_append_9 : decode cX11_append 9 = .ok (.ldc 57, 2) := by decide +kernel
theorem dX11_append_11 : decode cX11_append 11 = .ok (.ireturn, 1) := by decide +kernel
theorem dX11_append_12 : decode cX11_append 12 = .ok (.aload_n 0, 1) := by decide +kernel
theorem dX11_append_13 : decode cX11_append 13 = .ok (.getfield 7, 3) := by decide +kernel
theorem dX11_append_16 : decode cX11_append 16 = .ok (.iconst 0, 1) := by decide +kernel
theorem dX11_append_17 : decode cX11_append 17 = .ok (.iaload, 1) := by decide +kernel
theorem dX11_append_18 : decode cX11_append 18 = .ok (.bipush 24, 2) := by decide +kernel
theorem dX11_append_20 : decode cX11_append 20 = .ok (.if_icmp .ne 6, 3) := by decide +kernel
theorem dX11_append_23 : decode cX11_append 23 = .ok (.ldc 66, 2) := by decide +kernel
theorem dX11_append_25 : decode cX11_append 25 = .ok (.ireturn, 1) := by decide +kernel
theorem dX11_append_26 : decode cX11_append 26 = .ok (.aload_n 0, 1) := by decide +kernel
theorem dX11_append_27 : decode cX11_append 27 = .ok (.invokevirtual 67, 3) := by decide +kernel
theorem dX11_append_30 : decode cX11_append 30 = .ok (.aload_n 0, 1) := by decide +kernel
theorem dX11_append_31 : decode cX11_append 31 = .ok (.getfield 7, 3) := by decide +kernel
theorem dX11_append_34 : decode cX11_append 34 = .ok (.bipush 6, 2) := by decide +kernel
theorem dX11_append_36 : decode cX11_append 36 = .ok (.aload_n 0, 1) := by decide +kernel
theorem dX11_append_37 : decode cX11_append 37 = .ok (.getfield 7, 3) := by decide +kernel
theorem dX11_append_40 : decode cX11_append 40 = .ok (.iconst 0, 1) := by decide +kernel
theorem dX11_append_41 : decode cX11_append 41 = .ok (.iaload, 1) := by decide +kernel
theorem dX11_append_42 : decode cX11_append 42 = .ok (.iadd, 1) := by decide +kernel
theorem dX11_append_43 : decode cX11_append 43 = .ok (.iload_n 1, 1) := by decide +kernel
theorem dX11_append_44 : decode cX11_append 44 = .ok (.iastore, 1) := by decide +kernel
theorem dX11_append_45 : decode cX11_append 45 = .ok (.aload_n 0, 1) := by decide +kernel
theorem dX11_append_46 : decode cX11_append 46 = .ok (.getfield 7, 3) := by decide +kernel
theorem dX11_append_49 : decode cX11_append 49 = .ok (.iconst 0, 1) := by decide +kernel
theorem dX11_append_50 : decode cX11_append 50 = .ok (.dup2, 1) := by decide +kernel
theorem dX11_append_51 : decode cX11_append 51 = .ok (.iaload, 1) := by decide +kernel
theorem dX11_append_52 : decode cX11_append 52 = .ok (.iconst 1, 1) := by decide +kernel
theorem dX11_append_53 : decode cX11_append 53 = .ok (.iadd, 1) := by decide +kernel
theorem dX11_append_54 : decode cX11_append 54 = .ok (.iastore, 1) := by decide +kernel
theorem dX11_append_55 : decode cX11_append 55 = .ok (.aload_n 0, 1) := by decide +kernel
theorem dX11_append_56 : decode cX11_append 56 = .ok (.aload_n 0, 1) := by decide +kernel
theorem dX11_append_57 : decode cX11_append 57 = .ok (.getfield 7, 3) := by decide +kernel
theorem dX11_append_60 : decode cX11_append 60 = .ok (.iconst 0, 1) := by decide +kernel
theorem dX11_append_61 : decode cX11_append 61 = .ok (.iaload, 1) := by decide +kernel
theorem dX11_append_62 : decode cX11_append 62 = .ok (.invokevirtual 70, 3) := by decide +kernel
theorem dX11_append_65 : decode cX11_append 65 = .ok (.ireturn, 1) := by decide +kernel
set_option maxRecDepth 20000 in
theorem ggX11_cut_X11_in : GoodIn wsX11_cut wsX11_in := goodIn_r _ [7] (by decide +kernel) (by decide +kernel)
set_option maxRecDepth 20000 in
theorem gX11_cut_X11_in : GoodIn wsX11_cut (va_wsS RX11 62 yX11_in wsX11_in) := goodIn_app (goodIn_of _ (by decide +kernel)) ggX11_cut_X11_in
set_option maxRecDepth 20000 in
theorem ggX11_cut_X11_keeps : GoodIn wsX11_cut wsX11_keeps := goodIn_r _ [11, 12, 2, 19, 20, 21, 22, 23, 24, 25, 26, 27, 28, 29, 30, 31, 32, 33, 34, 35, 36, 37, 38, 39, 40, 41, 42, 43, 44, 45, 46, 47] (by decide +kernel) (by decide +kernel)
set_option maxRecDepth 20000 in
theorem gX11_cut_X11_keeps : GoodIn wsX11_cut (wsV RX11 67 RX11 yX11_keeps wsX11_keeps) := goodIn_app (goodIn_of _ (by decide +kernel)) ggX11_cut_X11_keeps
set_option maxRecDepth 20000 in
theorem ggX11_cut_X11_acted : GoodIn wsX11_cut wsX11_acted := goodIn_r _ [16, 1, 17, 18, 12, 19, 20, 21, 22, 23, 24, 25, 26, 27, 28, 29, 30, 31, 32, 33, 34, 35, 36, 37, 38, 39, 40, 41, 42, 43, 44, 45, 46, 47] (by decide +kernel) (by decide +kernel)
set_option maxRecDepth 20000 in
theorem gX11_cut_X11_acted : GoodIn wsX11_cut (wsV RX11 70 RX11 yX11_acted wsX11_acted) := goodIn_app (goodIn_of _ (by decide +kernel)) ggX11_cut_X11_acted
theorem dX11_cut_0 : decode cX11_cut 0 = .ok (.iload_n 1, 1) := by decide +kernel
theorem dX11_cut_1 : decode cX11_cut 1 = .ok (.iconst 1, 1) := by decide +kernel
theorem dX11_cut_2 : decode cX11_cut 2 = .ok (.bipush 24, 2) := by decide +kernel
theorem dX11_cut_4 : decode cX11_cut 4 = .ok (.invokestatic 62, 3) := by decide +kernel
theorem dX11_cut_7 : decode cX11_cut 7 = .ok (.ifCond .ne 6, 3) := by decide +kernel
theorem dX11_cut_10 : decode cX11_cut 10 = .ok (.ldc 57, 2) := by decide +kernel
theorem dX11_cut_12 : decode cX11_cut 12 = .ok (.ireturn, 1) := by decide +kernel
theorem dX11_cut_13 : decode cX11_cut 13 = .ok (.iload_n 1, 1) := by decide +kernel
theorem dX11_cut_14 : decode cX11_cut 14 = .ok (.aload_n 0, 1) := by decide +kernel
theorem dX11_cut_15 : decode cX11_cut 15 = .ok (.getfield 7, 3) := by decide +kernel
theorem dX11_cut_18 : decode cX11_cut 18 = .ok (.iconst 0, 1) := by decide +kernel
theorem dX11_cut_19 : decode cX11_cut 19 = .ok (.iaload, 1) := by decide +kernel
theorem dX11_cut_20 : decode cX11_cut 20 = .ok (.if_icmp .le 6, 3) := by decide +kernel
theorem dX11_cut_23 : decode cX11_cut 23 = .ok (.ldc 74, 2) := by decide +kernel
theorem dX11_cut_25 : decode cX11_cut 25 = .ok (.ireturn, 1) := by decide +kernel
theorem dX11_cut_26 : decode cX11_cut 26 = .ok (.aload_n 0, 1) := by decide +kernel
theorem dX11_cut_27 : decode cX11_cut 27 = .ok (.invokevirtual 67, 3) := by decide +kernel
theorem dX11_cut_30 : decode cX11_cut 30 = .ok (.aload_n 0, 1) := by decide +kernel
theorem dX11_cut_31 : decode cX11_cut 31 = .ok (.getfield 7, 3) := by decide +kernel
theorem dX11_cut_34 : decode cX11_cut 34 = .ok (.iconst 0, 1) := by decide +kernel
theorem dX11_cut_35 : decode cX11_cut 35 = .ok (.dup2, 1) := by decide +kernel
theorem dX11_cut_36 : decode cX11_cut 36 = .ok (.iaload, 1) := by decide +kernel
theorem dX11_cut_37 : decode cX11_cut 37 = .ok (.iload_n 1, 1) := by decide +kernel
theorem dX11_cut_38 : decode cX11_cut 38 = .ok (.isub, 1) := by decide +kernel
theorem dX11_cut_39 : decode cX11_cut 39 = .ok (.iastore, 1) := by decide +kernel
theorem dX11_cut_40 : decode cX11_cut 40 = .ok (.aload_n 0, 1) := by decide +kernel
theorem dX11_cut_41 : decode cX11_cut 41 = .ok (.aload_n 0, 1) := by decide +kernel
theorem dX11_cut_42 : decode cX11_cut 42 = .ok (.getfield 7, 3) := by decide +kernel
theorem dX11_cut_45 : decode cX11_cut 45 = .ok (.iconst 0, 1) := by decide +kernel
theorem dX11_cut_46 : decode cX11_cut 46 = .ok (.iaload, 1) := by decide +kernel
theorem dX11_cut_47 : decode cX11_cut 47 = .ok (.invokevirtual 70, 3) := by decide +kernel
theorem dX11_cut_50 : decode cX11_cut 50 = .ok (.ireturn, 1) := by decide +kernel
set_option maxRecDepth 20000 in
theorem ggX11_change_X11_in : GoodIn wsX11_change wsX11_in := goodIn_r _ [6] (by decide +kernel) (by decide +kernel)
set_option maxRecDepth 20000 in
theorem gX11_change_X11_in : GoodIn wsX11_change (va_wsS RX11 62 yX11_in wsX11_in) := goodIn_app (goodIn_of _ (by decide +kernel)) ggX11_change_X11_in
set_option maxRecDepth 20000 in
theorem ggX11_change_X11_keeps : GoodIn wsX11_change wsX11_keeps := goodIn_r _ [10, 11, 1, 18, 19, 20, 21, 22, 23, 24, 25, 26, 27, 28, 29, 30, 31, 32, 33, 34, 35, 36, 37, 38, 39, 40, 41, 42, 43, 44, 45, 46] (by decide +kernel) (by decide +kernel)
set_option maxRecDepth 20000 in
theorem gX11_change_X11_keeps : GoodIn wsX11_change (wsV RX11 67 RX11 yX11_keeps wsX11_keeps) := goodIn_app (goodIn_of _ (by decide +kernel)) ggX11_change_X11_keeps
set_option maxRecDepth 20000 in
theorem ggX11_change_X11_acted : GoodIn wsX11_change wsX11_acted := goodIn_r _ [15, 2, 16, 17, 11, 18, 19, 20, 21, 22, 23, 24, 25, 26, 27, 28, 29, 30, 31, 32, 33, 34, 35, 36, 37, 38, 39, 40, 41, 42, 43, 44, 45, 46] (by decide +kernel) (by decide +kernel)
set_option maxRecDepth 20000 in
theorem gX11_change_X11_acted : GoodIn wsX11_change (wsV RX11 70 RX11 yX11_acted wsX11_acted) := goodIn_app (goodIn_of _ (by decide +kernel)) ggX11_change_X11_acted
theorem dX11_change_0 : decode cX11_change 0 = .ok (.iload_n 1, 1) := by decide +kernel
theorem dX11_change_1 : decode cX11_change 1 = .ok (.iconst 0, 1) := by decide +kernel
theorem dX11_change_2 : decode cX11_change 2 = .ok (.aload_n 0, 1) := by decide +kernel
theorem dX11_change_3 : decode cX11_change 3 = .ok (.getfield 7, 3) := by decide +kernel
theorem dX11_change_6 : decode cX11_change 6 = .ok (.iconst 0, 1) := by decide +kernel
theorem dX11_change_7 : decode cX11_change 7 = .ok (.iaload, 1) := by decide +kernel
theorem dX11_change_8 : decode cX11_change 8 = .ok (.iconst 1, 1) := by decide +kernel
theorem dX11_change_9 : decode cX11_change 9 = .ok (.isub, 1) := by decide +kernel
theorem dX11_change_10 : decode cX11_change 10 = .ok (.invokestatic 62, 3) := by decide +kernel
theorem dX11_change_13 : decode cX11_change 13 = .ok (.ifCond .eq 12, 3) := by decide +kernel
theorem dX11_change_16 : decode cX11_change 16 = .ok (.iload_n 2, 1) := by decide +kernel
theorem dX11_change_17 : decode cX11_change 17 = .ok (.iconst 0, 1) := by decide +kernel
theorem dX11_change_18 : decode cX11_change 18 = .ok (.iconst 3, 1) := by decide +kernel
theorem dX11_change_19 : decode cX11_change 19 = .ok (.invokestatic 62, 3) := by decide +kernel
theorem dX11_change_22 : decode cX11_change 22 = .ok (.ifCond .ne 6, 3) := by decide +kernel
theorem dX11_change_25 : decode cX11_change 25 = .ok (.ldc 57, 2) := by decide +kernel
theorem dX11_change_27 : decode cX11_change 27 = .ok (.ireturn, 1) := by decide +kernel
theorem dX11_change_28 : decode cX11_change 28 = .ok (.aload_n 0, 1) := by decide +kernel
theorem dX11_change_29 : decode cX11_change 29 = .ok (.invokevirtual 67, 3) := by decide +kernel
theorem dX11_change_32 : decode cX11_change 32 = .ok (.aload_n 0, 1) := by decide +kernel
theorem dX11_change_33 : decode cX11_change 33 = .ok (.getfield 7, 3) := by decide +kernel
theorem dX11_change_36 : decode cX11_change 36 = .ok (.bipush 6, 2) := by decide +kernel
theorem dX11_change_38 : decode cX11_change 38 = .ok (.iload_n 1, 1) := by decide +kernel
theorem dX11_change_39 : decode cX11_change 39 = .ok (.iadd, 1) := by decide +kernel
theorem dX11_change_40 : decode cX11_change 40 = .ok (.iaload, 1) := by decide +kernel
theorem dX11_change_41 : decode cX11_change 41 = .ok (.istore_n 3, 1) := by decide +kernel
theorem dX11_change_42 : decode cX11_change 42 = .ok (.aload_n 0, 1) := by decide +kernel
theorem dX11_change_43 : decode cX11_change 43 = .ok (.getfield 7, 3) := by decide +kernel
theorem dX11_change_46 : decode cX11_change 46 = .ok (.bipush 6, 2) := by decide +kernel
theorem dX11_change_48 : decode cX11_change 48 = .ok (.iload_n 1, 1) := by decide +kernel
theorem dX11_change_49 : decode cX11_change 49 = .ok (.iadd, 1) := by decide +kernel
theorem dX11_change_50 : decode cX11_change 50 = .ok (.iload_n 2, 1) := by decide +kernel
theorem dX11_change_51 : decode cX11_change 51 = .ok (.iastore, 1) := by decide +kernel
theorem dX11_change_52 : decode cX11_change 52 = .ok (.aload_n 0, 1) := by decide +kernel
theorem dX11_change_53 : decode cX11_change 53 = .ok (.iload_n 3, 1) := by decide +kernel
theorem dX11_change_54 : decode cX11_change 54 = .ok (.invokevirtual 70, 3) := by decide +kernel
theorem dX11_change_57 : decode cX11_change 57 = .ok (.ireturn, 1) := by decide +kernel
set_option maxRecDepth 20000 in
theorem ggX11_turn_X11_keeps : GoodIn wsX11_turn wsX11_keeps := goodIn_r _ [8, 3, 1, 16, 17, 18, 19, 20, 21, 22, 23, 24, 25, 26, 27, 28, 29, 30, 31, 32, 33, 34, 35, 36, 37, 38, 39, 40, 41, 42, 43, 44] (by decide +kernel) (by decide +kernel)
set_option maxRecDepth 20000 in
theorem gX11_turn_X11_keeps : GoodIn wsX11_turn (wsV RX11 67 RX11 yX11_keeps wsX11_keeps) := goodIn_app (goodIn_of _ (by decide +kernel)) ggX11_turn_X11_keeps
set_option maxRecDepth 20000 in
theorem ggX11_turn_X11_acted : GoodIn wsX11_turn wsX11_acted := goodIn_r _ [12, 13, 14, 15, 3, 16, 17, 18, 19, 20, 21, 22, 23, 24, 25, 26, 27, 28, 29, 30, 31, 32, 33, 34, 35, 36, 37, 38, 39, 40, 41, 42, 43, 44] (by decide +kernel) (by decide +kernel)
set_option maxRecDepth 20000 in
theorem gX11_turn_X11_acted : GoodIn wsX11_turn (wsV RX11 70 RX11 yX11_acted wsX11_acted) := goodIn_app (goodIn_of _ (by decide +kernel)) ggX11_turn_X11_acted
theorem dX11_turn_0 : decode cX11_turn 0 = .ok (.aload_n 0, 1) := by decide +kernel
theorem dX11_turn_1 : decode cX11_turn 1 = .ok (.getfield 7, 3) := by decide +kernel
theorem dX11_turn_4 : decode cX11_turn 4 = .ok (.iconst 0, 1) := by decide +kernel
theorem dX11_turn_5 : decode cX11_turn 5 = .ok (.iaload, 1) := by decide +kernel
theorem dX11_turn_6 : decode cX11_turn 6 = .ok (.istore_n 1, 1) := by decide +kernel
theorem dX11_turn_7 : decode cX11_turn 7 = .ok (.iload_n 1, 1) := by decide +kernel
theorem dX11_turn_8 : decode cX11_turn 8 = .ok (.ifCond .ne 6, 3) := by decide +kernel
theorem dX11_turn_11 : decode cX11_turn 11 = .ok (.ldc 74, 2) := by decide +kernel
theorem dX11_turn_13 : decode cX11_turn 13 = .ok (.ireturn, 1) := by decide +kernel
theorem dX11_turn_14 : decode cX11_turn 14 = .ok (.aload_n 0, 1) := by decide +kernel
theorem dX11_turn_15 : decode cX11_turn 15 = .ok (.invokevirtual 67, 3) := by decide +kernel
theorem dX11_turn_18 : decode cX11_turn 18 = .ok (.iconst 0, 1) := by decide +kernel
theorem dX11_turn_19 : decode cX11_turn 19 = .ok (.istore_n 2, 1) := by decide +kernel
theorem dX11_turn_20 : decode cX11_turn 20 = .ok (.iload_n 2, 1) := by decide +kernel
theorem dX11_turn_21 : decode cX11_turn 21 = .ok (.iload_n 1, 1) := by decide +kernel
theorem dX11_turn_22 : decode cX11_turn 22 = .ok (.if_icmp .ge 31, 3) := by decide +kernel
theorem dX11_turn_25 : decode cX11_turn 25 = .ok (.aload_n 0, 1) := by decide +kernel
theorem dX11_turn_26 : decode cX11_turn 26 = .ok (.getfield 7, 3) := by decide +kernel
theorem dX11_turn_29 : decode cX11_turn 29 = .ok (.bipush 6, 2) := by decide +kernel
theorem dX11_turn_31 : decode cX11_turn 31 = .ok (.iload_n 2, 1) := by decide +kernel
theorem dX11_turn_32 : decode cX11_turn 32 = .ok (.iadd, 1) := by decide +kernel
theorem dX11_turn_33 : decode cX11_turn 33 = .ok (.aload_n 0, 1) := by decide +kernel
theorem dX11_turn_34 : decode cX11_turn 34 = .ok (.getfield 16, 3) := by decide +kernel
theorem dX11_turn_37 : decode cX11_turn 37 = .ok (.bipush 6, 2) := by decide +kernel
theorem dX11_turn_39 : decode cX11_turn 39 = .ok (.iload_n 1, 1) := by decide +kernel
theorem dX11_turn_40 : decode cX11_turn 40 = .ok (.iadd, 1) := by decide +kernel
theorem dX11_turn_41 : decode cX11_turn 41 = .ok (.iconst 1, 1) := by decide +kernel
theorem dX11_turn_42 : decode cX11_turn 42 = .ok (.isub, 1) := by decide +kernel
theorem dX11_turn_43 : decode cX11_turn 43 = .ok (.iload_n 2, 1) := by decide +kernel
theorem dX11_turn_44 : decode cX11_turn 44 = .ok (.isub, 1) := by decide +kernel
theorem dX11_turn_45 : decode cX11_turn 45 = .ok (.iaload, 1) := by decide +kernel
theorem dX11_turn_46 : decode cX11_turn 46 = .ok (.iastore, 1) := by decide +kernel
theorem dX11_turn_47 : decode cX11_turn 47 = .ok (.iinc 2 1, 3) := by decide +kernel
theorem dX11_turn_50 : decode cX11_turn 50 = .ok (.goto (-30), 3) := by decide +kernel
theorem dX11_turn_53 : decode cX11_turn 53 = .ok (.aload_n 0, 1) := by decide +kernel
theorem dX11_turn_54 : decode cX11_turn 54 = .ok (.aload_n 0, 1) := by decide +kernel
theorem dX11_turn_55 : decode cX11_turn 55 = .ok (.getfield 7, 3) := by decide +kernel
theorem dX11_turn_58 : decode cX11_turn 58 = .ok (.bipush 6, 2) := by decide +kernel
theorem dX11_turn_60 : decode cX11_turn 60 = .ok (.iaload, 1) := by decide +kernel
theorem dX11_turn_61 : decode cX11_turn 61 = .ok (.invokevirtual 70, 3) := by decide +kernel
theorem dX11_turn_64 : decode cX11_turn 64 = .ok (.ireturn, 1) := by decide +kernel
set_option maxRecDepth 20000 in
theorem ggX11_isSetting_X11_in : GoodIn wsX11_isSetting wsX11_in := goodIn_r _ [4] (by decide +kernel) (by decide +kernel)
set_option maxRecDepth 20000 in
theorem gX11_isSetting_X11_in : GoodIn wsX11_isSetting (va_wsS RX11 62 yX11_in wsX11_in) := goodIn_app (goodIn_of _ (by decide +kernel)) ggX11_isSetting_X11_in
theorem dX11_isSetting_0 : decode cX11_isSetting 0 = .ok (.iload_n 0, 1) := by decide +kernel
theorem dX11_isSetting_1 : decode cX11_isSetting 1 = .ok (.tableswitch 66 0 4 #[35, 43, 43, 51, 59], 35) := by decide +kernel
theorem dX11_isSetting_36 : decode cX11_isSetting 36 = .ok (.iload_n 1, 1) := by decide +kernel
theorem dX11_isSetting_37 : decode cX11_isSetting 37 = .ok (.iconst 1, 1) := by decide +kernel
theorem dX11_isSetting_38 : decode cX11_isSetting 38 = .ok (.bipush 9, 2) := by decide +kernel
theorem dX11_isSetting_40 : decode cX11_isSetting 40 = .ok (.invokestatic 62, 3) := by decide +kernel
theorem dX11_isSetting_43 : decode cX11_isSetting 43 = .ok (.ireturn, 1) := by decide +kernel
theorem dX11_isSetting_44 : decode cX11_isSetting 44 = .ok (.iload_n 1, 1) := by decide +kernel
theorem dX11_isSetting_45 : decode cX11_isSetting 45 = .ok (.iconst 0, 1) := by decide +kernel
theorem dX11_isSetting_46 : decode cX11_isSetting 46 = .ok (.bipush 20, 2) := by decide +kernel
theorem dX11_isSetting_48 : decode cX11_isSetting 48 = .ok (.invokestatic 62, 3) := by decide +kernel
theorem dX11_isSetting_51 : decode cX11_isSetting 51 = .ok (.ireturn, 1) := by decide +kernel
theorem dX11_isSetting_52 : decode cX11_isSetting 52 = .ok (.iload_n 1, 1) := by decide +kernel
theorem dX11_isSetting_53 : decode cX11_isSetting 53 = .ok (.iconst 0, 1) := by decide +kernel
theorem dX11_isSetting_54 : decode cX11_isSetting 54 = .ok (.bipush 6, 2) := by decide +kernel
theorem dX11_isSetting_56 : decode cX11_isSetting 56 = .ok (.invokestatic 62, 3) := by decide +kernel
theorem dX11_isSetting_59 : decode cX11_isSetting 59 = .ok (.ireturn, 1) := by decide +kernel
theorem dX11_isSetting_60 : decode cX11_isSetting 60 = .ok (.iload_n 1, 1) := by decide +kernel
theorem dX11_isSetting_61 : decode cX11_isSetting 61 = .ok (.iconst 0, 1) := by decide +kernel
theorem dX11_isSetting_62 : decode cX11_isSetting 62 = .ok (.iconst 4, 1) := by decide +kernel
theorem dX11_isSetting_63 : decode cX11_isSetting 63 = .ok (.invokestatic 62, 3) := by decide +kernel
theorem dX11_isSetting_66 : decode cX11_isSetting 66 = .ok (.ireturn, 1) := by decide +kernel
theorem dX11_isSetting_67 : decode cX11_isSetting 67 = .ok (.iconst 0, 1) := by decide +kernel
theorem dX11_isSetting_68 : decode cX11_isSetting 68 = .ok (.ireturn, 1) := by decide +kernel
set_option maxRecDepth 20000 in
theorem ggX11_set_X11_isSetting : GoodIn wsX11_set wsX11_isSetting := goodIn_r _ [6, 7, 8, 5, 9] (by decide +kernel) (by decide +kernel)
set_option maxRecDepth 20000 in
theorem gX11_set_X11_isSetting : GoodIn wsX11_set (va_wsS RX11 75 yX11_isSetting wsX11_isSetting) := goodIn_app (goodIn_of _ (by decide +kernel)) ggX11_set_X11_isSetting
set_option maxRecDepth 20000 in
theorem ggX11_set_X11_keeps : GoodIn wsX11_set wsX11_keeps := goodIn_r _ [13, 14, 2, 21, 22, 23, 24, 25, 26, 27, 28, 29, 30, 31, 32, 33, 34, 35, 36, 37, 38, 39, 40, 41, 42, 43, 44, 45, 46, 47, 48, 49] (by decide +kernel) (by decide +kernel)
set_option maxRecDepth 20000 in
theorem gX11_set_X11_keeps : GoodIn wsX11_set (wsV RX11 67 RX11 yX11_keeps wsX11_keeps) := goodIn_app (goodIn_of _ (by decide +kernel)) ggX11_set_X11_keeps
set_option maxRecDepth 20000 in
theorem ggX11_set_X11_acted : GoodIn wsX11_set wsX11_acted := goodIn_r _ [18, 1, 19, 20, 14, 21, 22, 23, 24, 25, 26, 27, 28, 29, 30, 31, 32, 33, 34, 35, 36, 37, 38, 39, 40, 41, 42, 43, 44, 45, 46, 47, 48, 49] (by decide +kernel) (by decide +kernel)
set_option maxRecDepth 20000 in
theorem gX11_set_X11_acted : GoodIn wsX11_set (wsV RX11 70 RX11 yX11_acted wsX11_acted) := goodIn_app (goodIn_of _ (by decide +kernel)) ggX11_set_X11_acted
theorem dX11_set_0 : decode cX11_set 0 = .ok (.iload_n 1, 1) := by decide +kernel
theorem dX11_set_1 : decode cX11_set 1 = .ok (.iload_n 2, 1) := by decide +kernel
theorem dX11_set_2 : decode cX11_set 2 = .ok (.invokestatic 75, 3) := by decide +kernel
theorem dX11_set_5 : decode cX11_set 5 = .ok (.ifCond .ne 6, 3) := by decide +kernel
theorem dX11_set_8 : decode cX11_set 8 = .ok (.ldc 57, 2) := by decide +kernel
theorem dX11_set_10 : decode cX11_set 10 = .ok (.ireturn, 1) := by decide +kernel
theorem dX11_set_11 : decode cX11_set 11 = .ok (.aload_n 0, 1) := by decide +kernel
theorem dX11_set_12 : decode cX11_set 12 = .ok (.invokevirtual 67, 3) := by decide +kernel
theorem dX11_set_15 : decode cX11_set 15 = .ok (.aload_n 0, 1) := by decide +kernel
theorem dX11_set_16 : decode cX11_set 16 = .ok (.getfield 7, 3) := by decide +kernel
theorem dX11_set_19 : decode cX11_set 19 = .ok (.iconst 1, 1) := by decide +kernel
theorem dX11_set_20 : decode cX11_set 20 = .ok (.iload_n 1, 1) := by decide +kernel
theorem dX11_set_21 : decode cX11_set 21 = .ok (.iadd, 1) := by decide +kernel
theorem dX11_set_22 : decode cX11_set 22 = .ok (.iaload, 1) := by decide +kernel
theorem dX11_set_23 : decode cX11_set 23 = .ok (.istore_n 3, 1) := by decide +kernel
theorem dX11_set_24 : decode cX11_set 24 = .ok (.aload_n 0, 1) := by decide +kernel
theorem dX11_set_25 : decode cX11_set 25 = .ok (.getfield 7, 3) := by decide +kernel
theorem dX11_set_28 : decode cX11_set 28 = .ok (.iconst 1, 1) := by decide +kernel
theorem dX11_set_29 : decode cX11_set 29 = .ok (.iload_n 1, 1) := by decide +kernel
theorem dX11_set_30 : decode cX11_set 30 = .ok (.iadd, 1) := by decide +kernel
theorem dX11_set_31 : decode cX11_set 31 = .ok (.iload_n 2, 1) := by decide +kernel
theorem dX11_set_32 : decode cX11_set 32 = .ok (.iastore, 1) := by decide +kernel
theorem dX11_set_33 : decode cX11_set 33 = .ok (.aload_n 0, 1) := by decide +kernel
theorem dX11_set_34 : decode cX11_set 34 = .ok (.iload_n 3, 1) := by decide +kernel
theorem dX11_set_35 : decode cX11_set 35 = .ok (.invokevirtual 70, 3) := by decide +kernel
theorem dX11_set_38 : decode cX11_set 38 = .ok (.ireturn, 1) := by decide +kernel
theorem dX11_letterAt_0 : decode cX11_letterAt 0 = .ok (.iload_n 1, 1) := by decide +kernel
theorem dX11_letterAt_1 : decode cX11_letterAt 1 = .ok (.ifCond .ge 6, 3) := by decide +kernel
theorem dX11_letterAt_4 : decode cX11_letterAt 4 = .ok (.ldc 57, 2) := by decide +kernel
theorem dX11_letterAt_6 : decode cX11_letterAt 6 = .ok (.ireturn, 1) := by decide +kernel
theorem dX11_letterAt_7 : decode cX11_letterAt 7 = .ok (.iload_n 1, 1) := by decide +kernel
theorem dX11_letterAt_8 : decode cX11_letterAt 8 = .ok (.aload_n 0, 1) := by decide +kernel
theorem dX11_letterAt_9 : decode cX11_letterAt 9 = .ok (.getfield 7, 3) := by decide +kernel
theorem dX11_letterAt_12 : decode cX11_letterAt 12 = .ok (.iconst 0, 1) := by decide +kernel
theorem dX11_letterAt_13 : decode cX11_letterAt 13 = .ok (.iaload, 1) := by decide +kernel
theorem dX11_letterAt_14 : decode cX11_letterAt 14 = .ok (.if_icmp .ge 15, 3) := by decide +kernel
theorem dX11_letterAt_17 : decode cX11_letterAt 17 = .ok (.aload_n 0, 1) := by decide +kernel
theorem dX11_letterAt_18 : decode cX11_letterAt 18 = .ok (.getfield 7, 3) := by decide +kernel
theorem dX11_letterAt_21 : decode cX11_letterAt 21 = .ok (.bipush 6, 2) := by decide +kernel
theorem dX11_letterAt_23 : decode cX11_letterAt 23 = .ok (.iload_n 1, 1) := by decide +kernel
theorem dX11_letterAt_24 : decode cX11_letterAt 24 = .ok (.iadd, 1) := by decide +kernel
theorem dX11_letterAt_25 : decode cX11_letterAt 25 = .ok (.iaload, 1) := by decide +kernel
theorem dX11_letterAt_26 : decode cX11_letterAt 26 = .ok (.goto 5, 3) := by decide +kernel
theorem dX11_letterAt_29 : decode cX11_letterAt 29 = .ok (.ldc 79, 2) := by decide +kernel
theorem dX11_letterAt_31 : decode cX11_letterAt 31 = .ok (.ireturn, 1) := by decide +kernel
theorem dX11_differ_0 : decode cX11_differ 0 = .ok (.iconst 0, 1) := by decide +kernel
theorem dX11_differ_1 : decode cX11_differ 1 = .ok (.istore 4, 2) := by decide +kernel
theorem dX11_differ_3 : decode cX11_differ 3 = .ok (.iload_n 1, 1) := by decide +kernel
theorem dX11_differ_4 : decode cX11_differ 4 = .ok (.iload_n 3, 1) := by decide +kernel
theorem dX11_differ_5 : decode cX11_differ 5 = .ok (.iadd, 1) := by decide +kernel
theorem dX11_differ_6 : decode cX11_differ 6 = .ok (.istore 5, 2) := by decide +kernel
theorem dX11_differ_8 : decode cX11_differ 8 = .ok (.iload 5, 2) := by decide +kernel
theorem dX11_differ_10 : decode cX11_differ 10 = .ok (.iload_n 2, 1) := by decide +kernel
theorem dX11_differ_11 : decode cX11_differ 11 = .ok (.if_icmp .ge 44, 3) := by decide +kernel
theorem dX11_differ_14 : decode cX11_differ 14 = .ok (.iload 4, 2) := by decide +kernel
theorem dX11_differ_16 : decode cX11_differ 16 = .ok (.aload_n 0, 1) := by decide +kernel
theorem dX11_differ_17 : decode cX11_differ 17 = .ok (.getfield 7, 3) := by decide +kernel
theorem dX11_differ_20 : decode cX11_differ 20 = .ok (.bipush 6, 2) := by decide +kernel
theorem dX11_differ_22 : decode cX11_differ 22 = .ok (.iload 5, 2) := by decide +kernel
theorem dX11_differ_24 : decode cX11_differ 24 = .ok (.iadd, 1) := by decide +kernel
theorem dX11_differ_25 : decode cX11_differ 25 = .ok (.iaload, 1) := by decide +kernel
theorem dX11_differ_26 : decode cX11_differ 26 = .ok (.aload_n 0, 1) := by decide +kernel
theorem dX11_differ_27 : decode cX11_differ 27 = .ok (.getfield 7, 3) := by decide +kernel
theorem dX11_differ_30 : decode cX11_differ 30 = .ok (.bipush 6, 2) := by decide +kernel
theorem dX11_differ_32 : decode cX11_differ 32 = .ok (.iload 5, 2) := by decide +kernel
theorem dX11_differ_34 : decode cX11_differ 34 = .ok (.iadd, 1) := by decide +kernel
theorem dX11_differ_35 : decode cX11_differ 35 = .ok (.iload_n 3, 1) := by decide +kernel
theorem dX11_differ_36 : decode cX11_differ 36 = .ok (.isub, 1) := by decide +kernel
theorem dX11_differ_37 : decode cX11_differ 37 = .ok (.iaload, 1) := by decide +kernel
theorem dX11_differ_38 : decode cX11_differ 38 = .ok (.if_icmp .eq 7, 3) := by decide +kernel
theorem dX11_differ_41 : decode cX11_differ 41 = .ok (.iconst 1, 1) := by decide +kernel
theorem dX11_differ_42 : decode cX11_differ 42 = .ok (.goto 4, 3) := by decide +kernel
theorem dX11_differ_45 : decode cX11_differ 45 = .ok (.iconst 0, 1) := by decide +kernel
theorem dX11_differ_46 : decode cX11_differ 46 = .ok (.iadd, 1) := by decide +kernel
theorem dX11_differ_47 : decode cX11_differ 47 = .ok (.istore 4, 2) := by decide +kernel
theorem dX11_differ_49 : decode cX11_differ 49 = .ok (.iinc 5 1, 3) := by decide +kernel
theorem dX11_differ_52 : decode cX11_differ 52 = .ok (.goto (-44), 3) := by decide +kernel
theorem dX11_differ_55 : decode cX11_differ 55 = .ok (.iload 4, 2) := by decide +kernel
theorem dX11_differ_57 : decode cX11_differ 57 = .ok (.ireturn, 1) := by decide +kernel
set_option maxRecDepth 20000 in
theorem ggX11_unlike_X11_isPart : GoodIn wsX11_unlike wsX11_isPart := goodIn_r _ [6, 7, 15, 16, 17, 18, 19, 20, 21, 22, 23, 24, 25, 26, 27, 28, 29, 30, 31, 32, 33, 34, 35, 36, 37, 38, 39, 40, 41, 42, 43] (by decide +kernel) (by decide +kernel)
set_option maxRecDepth 20000 in
theorem gX11_unlike_X11_isPart : GoodIn wsX11_unlike (wsV RX11 80 RX11 yX11_isPart wsX11_isPart) := goodIn_app (goodIn_of _ (by decide +kernel)) ggX11_unlike_X11_isPart
set_option maxRecDepth 20000 in
theorem ggX11_unlike_X11_in : GoodIn wsX11_unlike wsX11_in := goodIn_r _ [10] (by decide +kernel) (by decide +kernel)
set_option maxRecDepth 20000 in
theorem gX11_unlike_X11_in : GoodIn wsX11_unlike (va_wsS RX11 62 yX11_in wsX11_in) := goodIn_app (goodIn_of _ (by decide +kernel)) ggX11_unlike_X11_in
set_option maxRecDepth 20000 in
theorem ggX11_unlike_X11_differ : GoodIn wsX11_unlike wsX11_differ := goodIn_r _ [14, 7, 15, 16, 17, 18, 19, 20, 21, 22, 23, 24, 25, 26, 27, 28, 29, 30, 31, 32, 33, 34, 35, 36, 37, 38, 39, 40, 41, 42, 43] (by decide +kernel) (by decide +kernel)
set_option maxRecDepth 20000 in
theorem gX11_unlike_X11_differ : GoodIn wsX11_unlike (wsV RX11 83 RX11 yX11_differ wsX11_differ) := goodIn_app (goodIn_of _ (by decide +kernel)) ggX11_unlike_X11_differ
theorem dX11_unlike_0 : decode cX11_unlike 0 = .ok (.aload_n 0, 1) := by decide +kernel
theorem dX11_unlike_1 : decode cX11_unlike 1 = .ok (.iload_n 1, 1) := by decide +kernel
theorem dX11_unlike_2 : decode cX11_unlike 2 = .ok (.iload_n 2, 1) := by decide +kernel
theorem dX11_unlike_3 : decode cX11_unlike 3 = .ok (.invokevirtual 80, 3) := by decide +kernel
theorem dX11_unlike_6 : decode cX11_unlike 6 = .ok (.ifCond .eq 23, 3) := by decide +kernel
theorem dX11_unlike_9 : decode cX11_unlike 9 = .ok (.iload_n 3, 1) := by decide +kernel
theorem dX11_unlike_10 : decode cX11_unlike 10 = .ok (.iconst 1, 1) := by decide +kernel
theorem dX11_unlike_11 : decode cX11_unlike 11 = .ok (.bipush 24, 2) := by decide +kernel
theorem dX11_unlike_13 : decode cX11_unlike 13 = .ok (.invokestatic 62, 3) := by decide +kernel
theorem dX11_unlike_16 : decode cX11_unlike 16 = .ok (.ifCond .eq 13, 3) := by decide +kernel
theorem dX11_unlike_19 : decode cX11_unlike 19 = .ok (.aload_n 0, 1) := by decide +kernel
theorem dX11_unlike_20 : decode cX11_unlike 20 = .ok (.iload_n 1, 1) := by decide +kernel
theorem dX11_unlike_21 : decode cX11_unlike 21 = .ok (.iload_n 2, 1) := by decide +kernel
theorem dX11_unlike_22 : decode cX11_unlike 22 = .ok (.iload_n 3, 1) := by decide +kernel
theorem dX11_unlike_23 : decode cX11_unlike 23 = .ok (.invokevirtual 83, 3) := by decide +kernel
theorem dX11_unlike_26 : decode cX11_unlike 26 = .ok (.goto 5, 3) := by decide +kernel
theorem dX11_unlike_29 : decode cX11_unlike 29 = .ok (.ldc 57, 2) := by decide +kernel
theorem dX11_unlike_31 : decode cX11_unlike 31 = .ok (.ireturn, 1) := by decide +kernel
set_option maxRecDepth 20000 in
theorem ggX11_least_X11_differ : GoodIn wsX11_least wsX11_differ := goodIn_r _ [5, 6, 7, 8, 9, 10, 11, 12, 13, 14, 15, 16, 17, 18, 19, 20, 21, 22, 23, 24, 25, 26, 27, 28, 29, 30, 31, 32, 33, 34, 35] (by decide +kernel) (by decide +kernel)
set_option maxRecDepth 20000 in
theorem gX11_least_X11_differ : GoodIn wsX11_least (wsV RX11 83 RX11 yX11_differ wsX11_differ) := goodIn_app (goodIn_of _ (by decide +kernel)) ggX11_least_X11_differ
theorem dX11_least_0 : decode cX11_least 0 = .ok (.iconst 1, 1) := by decide +kernel
theorem dX11_least_1 : decode cX11_least 1 = .ok (.istore_n 3, 1) := by decide +kernel
theorem dX11_least_2 : decode cX11_least 2 = .ok (.aload_n 0, 1) := by decide +kernel
theorem dX11_least_3 : decode cX11_least 3 = .ok (.iload_n 1, 1) := by decide +kernel
theorem dX11_least_4 : decode cX11_least 4 = .ok (.iload_n 2, 1) := by decide +kernel
theorem dX11_least_5 : decode cX11_least 5 = .ok (.iload_n 3, 1) := by decide +kernel
theorem dX11_least_6 : decode cX11_least 6 = .ok (.invokevirtual 83, 3) := by decide +kernel
theorem dX11_least_9 : decode cX11_least 9 = .ok (.ifCond .le 9, 3) := by decide +kernel
theorem dX11_least_12 : decode cX11_least 12 = .ok (.iinc 3 1, 3) := by decide +kernel
theorem dX11_least_15 : decode cX11_least 15 = .ok (.goto (-13), 3) := by decide +kernel
theorem dX11_least_18 : decode cX11_least 18 = .ok (.iload_n 3, 1) := by decide +kernel
theorem dX11_least_19 : decode cX11_least 19 = .ok (.ireturn, 1) := by decide +kernel
set_option maxRecDepth 20000 in
theorem ggX11_period_X11_isPart : GoodIn wsX11_period wsX11_isPart := goodIn_r _ [6, 7, 16, 17, 18, 19, 20, 21, 22, 23, 24, 25, 26, 27, 28, 29, 30, 31, 32, 33, 34, 35, 36, 37, 38, 39, 40, 41, 42, 43, 44] (by decide +kernel) (by decide +kernel)
set_option maxRecDepth 20000 in
theorem gX11_period_X11_isPart : GoodIn wsX11_period (wsV RX11 80 RX11 yX11_isPart wsX11_isPart) := goodIn_app (goodIn_of _ (by decide +kernel)) ggX11_period_X11_isPart
set_option maxRecDepth 20000 in
theorem ggX11_period_X11_least : GoodIn wsX11_period wsX11_least := goodIn_r _ [11, 12, 13, 14, 5, 15, 7, 16, 17, 18, 19, 20, 21, 22, 23, 24, 25, 26, 27, 28, 29, 30, 31, 32, 33, 34, 35, 36, 37, 38, 39, 40, 41, 42, 43, 44] (by decide +kernel) (by decide +kernel)
set_option maxRecDepth 20000 in
theorem gX11_period_X11_least : GoodIn wsX11_period (wsV RX11 87 RX11 yX11_least wsX11_least) := goodIn_app (goodIn_of _ (by decide +kernel)) ggX11_period_X11_least
theorem dX11_period_0 : decode cX11_period 0 = .ok (.aload_n 0, 1) := by decide +kernel
theorem dX11_period_1 : decode cX11_period 1 = .ok (.iload_n 1, 1) := by decide +kernel
theorem dX11_period_2 : decode cX11_period 2 = .ok (.iload_n 2, 1) := by decide +kernel
theorem dX11_period_3 : decode cX11_period 3 = .ok (.invokevirtual 80, 3) := by decide +kernel
theorem dX11_period_6 : decode cX11_period 6 = .ok (.ifCond .eq 12, 3) := by decide +kernel
theorem dX11_period_9 : decode cX11_period 9 = .ok (.aload_n 0, 1) := by decide +kernel
theorem dX11_period_10 : decode cX11_period 10 = .ok (.iload_n 1, 1) := by decide +kernel
theorem dX11_period_11 : decode cX11_period 11 = .ok (.iload_n 2, 1) := by decide +kernel
theorem dX11_period_12 : decode cX11_period 12 = .ok (.invokevirtual 87, 3) := by decide +kernel
theorem dX11_period_15 : decode cX11_period 15 = .ok (.goto 5, 3) := by decide +kernel
theorem dX11_period_18 : decode cX11_period 18 = .ok (.ldc 57, 2) := by decide +kernel
theorem dX11_period_20 : decode cX11_period 20 = .ok (.ireturn, 1) := by decide +kernel
set_option maxRecDepth 20000 in
theorem ggX11_isRun_X11_least : GoodIn wsX11_isRun wsX11_least := goodIn_r _ [6, 7, 8, 9, 5, 10, 1, 11, 12, 13, 14, 15, 16, 17, 18, 19, 20, 21, 22, 23, 24, 25, 26, 27, 28, 29, 30, 31, 32, 33, 34, 35, 36, 37, 38, 39] (by decide +kernel) (by decide +kernel)
set_option maxRecDepth 20000 in
theorem gX11_isRun_X11_least : GoodIn wsX11_isRun (wsV RX11 87 RX11 yX11_least wsX11_least) := goodIn_app (goodIn_of _ (by decide +kernel)) ggX11_isRun_X11_least
set_option maxRecDepth 20000 in
theorem ggX11_isRun_X11_differ : GoodIn wsX11_isRun wsX11_differ := goodIn_r _ [10, 1, 11, 12, 13, 14, 15, 16, 17, 18, 19, 20, 21, 22, 23, 24, 25, 26, 27, 28, 29, 30, 31, 32, 33, 34, 35, 36, 37, 38, 39] (by decide +kernel) (by decide +kernel)
set_option maxRecDepth 20000 in
theorem gX11_isRun_X11_differ : GoodIn wsX11_isRun (wsV RX11 83 RX11 yX11_differ wsX11_differ) := goodIn_app (goodIn_of _ (by decide +kernel)) ggX11_isRun_X11_differ
theorem dX11_isRun_0 : decode cX11_isRun 0 = .ok (.aload_n 0, 1) := by decide +kernel
theorem dX11_isRun_1 : decode cX11_isRun 1 = .ok (.iload_n 1, 1) := by decide +kernel
theorem dX11_isRun_2 : decode cX11_isRun 2 = .ok (.iload_n 2, 1) := by decide +kernel
theorem dX11_isRun_3 : decode cX11_isRun 3 = .ok (.invokevirtual 87, 3) := by decide +kernel
theorem dX11_isRun_6 : decode cX11_isRun 6 = .ok (.istore_n 3, 1) := by decide +kernel
theorem dX11_isRun_7 : decode cX11_isRun 7 = .ok (.iconst 2, 1) := by decide +kernel
theorem dX11_isRun_8 : decode cX11_isRun 8 = .ok (.iload_n 3, 1) := by decide +kernel
theorem dX11_isRun_9 : decode cX11_isRun 9 = .ok (.imul, 1) := by decide +kernel
theorem dX11_isRun_10 : decode cX11_isRun 10 = .ok (.iload_n 2, 1) := by decide +kernel
theorem dX11_isRun_11 : decode cX11_isRun 11 = .ok (.iload_n 1, 1) := by decide +kernel
theorem dX11_isRun_12 : decode cX11_isRun 12 = .ok (.isub, 1) := by decide +kernel
theorem dX11_isRun_13 : decode cX11_isRun 13 = .ok (.if_icmp .gt 7, 3) := by decide +kernel
theorem dX11_isRun_16 : decode cX11_isRun 16 = .ok (.iconst 1, 1) := by decide +kernel
theorem dX11_isRun_17 : decode cX11_isRun 17 = .ok (.goto 4, 3) := by decide +kernel
theorem dX11_isRun_20 : decode cX11_isRun 20 = .ok (.iconst 0, 1) := by decide +kernel
theorem dX11_isRun_21 : decode cX11_isRun 21 = .ok (.istore 4, 2) := by decide +kernel
theorem dX11_isRun_23 : decode cX11_isRun 23 = .ok (.iload 4, 2) := by decide +kernel
theorem dX11_isRun_25 : decode cX11_isRun 25 = .ok (.ifCond .eq 23, 3) := by decide +kernel
theorem dX11_isRun_28 : decode cX11_isRun 28 = .ok (.iload_n 1, 1) := by decide +kernel
theorem dX11_isRun_29 : decode cX11_isRun 29 = .ok (.ifCond .eq 15, 3) := by decide +kernel
theorem dX11_isRun_32 : decode cX11_isRun 32 = .ok (.aload_n 0, 1) := by decide +kernel
theorem dX11_isRun_33 : decode cX11_isRun 33 = .ok (.iload_n 1, 1) := by decide +kernel
theorem dX11_isRun_34 : decode cX11_isRun 34 = .ok (.iconst 1, 1) := by decide +kernel
theorem dX11_isRun_35 : decode cX11_isRun 35 = .ok (.isub, 1) := by decide +kernel
theorem dX11_isRun_36 : decode cX11_isRun 36 = .ok (.iload_n 2, 1) := by decide +kernel
theorem dX11_isRun_37 : decode cX11_isRun 37 = .ok (.iload_n 3, 1) := by decide +kernel
theorem dX11_isRun_38 : decode cX11_isRun 38 = .ok (.invokevirtual 83, 3) := by decide +kernel
theorem dX11_isRun_41 : decode cX11_isRun 41 = .ok (.ifCond .le 7, 3) := by decide +kernel
theorem dX11_isRun_44 : decode cX11_isRun 44 = .ok (.iconst 1, 1) := by decide +kernel
theorem dX11_isRun_45 : decode cX11_isRun 45 = .ok (.goto 4, 3) := by decide +kernel
theorem dX11_isRun_48 : decode cX11_isRun 48 = .ok (.iconst 0, 1) := by decide +kernel
theorem dX11_isRun_49 : decode cX11_isRun 49 = .ok (.istore 4, 2) := by decide +kernel
theorem dX11_isRun_51 : decode cX11_isRun 51 = .ok (.iload 4, 2) := by decide +kernel
theorem dX11_isRun_53 : decode cX11_isRun 53 = .ok (.ifCond .eq 29, 3) := by decide +kernel
theorem dX11_isRun_56 : decode cX11_isRun 56 = .ok (.iload_n 2, 1) := by decide +kernel
theorem dX11_isRun_57 : decode cX11_isRun 57 = .ok (.aload_n 0, 1) := by decide +kernel
theorem dX11_isRun_58 : decode cX11_isRun 58 = .ok (.getfield 7, 3) := by decide +kernel
theorem dX11_isRun_61 : decode cX11_isRun 61 = .ok (.iconst 0, 1) := by decide +kernel
theorem dX11_isRun_62 : decode cX11_isRun 62 = .ok (.iaload, 1) := by decide +kernel
theorem dX11_isRun_63 : decode cX11_isRun 63 = .ok (.if_icmp .eq 15, 3) := by decide +kernel
theorem dX11_isRun_66 : decode cX11_isRun 66 = .ok (.aload_n 0, 1) := by decide +kernel
theorem dX11_isRun_67 : decode cX11_isRun 67 = .ok (.iload_n 1, 1) := by decide +kernel
theorem dX11_isRun_68 : decode cX11_isRun 68 = .ok (.iload_n 2, 1) := by decide +kernel
theorem dX11_isRun_69 : decode cX11_isRun 69 = .ok (.iconst 1, 1) := by decide +kernel
theorem dX11_isRun_70 : decode cX11_isRun 70 = .ok (.iadd, 1) := by decide +kernel
theorem dX11_isRun_71 : decode cX11_isRun 71 = .ok (.iload_n 3, 1) := by decide +kernel
theorem dX11_isRun_72 : decode cX11_isRun 72 = .ok (.invokevirtual 83, 3) := by decide +kernel
theorem dX11_isRun_75 : decode cX11_isRun 75 = .ok (.ifCond .le 7, 3) := by decide +kernel
theorem dX11_isRun_78 : decode cX11_isRun 78 = .ok (.iconst 1, 1) := by decide +kernel
theorem dX11_isRun_79 : decode cX11_isRun 79 = .ok (.goto 4, 3) := by decide +kernel
theorem dX11_isRun_82 : decode cX11_isRun 82 = .ok (.iconst 0, 1) := by decide +kernel
theorem dX11_isRun_83 : decode cX11_isRun 83 = .ok (.ireturn, 1) := by decide +kernel
set_option maxRecDepth 20000 in
theorem ggX11_runs_X11_isRun : GoodIn wsX11_runs wsX11_isRun := goodIn_r _ [6, 1, 7, 8, 9, 5, 10, 11, 12, 13, 14, 15, 16, 17, 18, 19, 20, 21, 22, 23, 24, 25, 26, 27, 28, 29, 30, 31, 32, 33, 34, 35, 36, 37, 38, 39, 40, 41, 42, 43] (by decide +kernel) (by decide +kernel)
set_option maxRecDepth 20000 in
theorem gX11_runs_X11_isRun : GoodIn wsX11_runs (wsV RX11 91 RX11 yX11_isRun wsX11_isRun) := goodIn_app (goodIn_of _ (by decide +kernel)) ggX11_runs_X11_isRun
theorem dX11_runs_0 : decode cX11_runs 0 = .ok (.iconst 0, 1) := by decide +kernel
theorem dX11_runs_1 : decode cX11_runs 1 = .ok (.istore_n 1, 1) := by decide +kernel
theorem dX11_runs_2 : decode cX11_runs 2 = .ok (.iconst 0, 1) := by decide +kernel
theorem dX11_runs_3 : decode cX11_runs 3 = .ok (.istore_n 2, 1) := by decide +kernel
theorem dX11_runs_4 : decode cX11_runs 4 = .ok (.iload_n 2, 1) := by decide +kernel
theorem dX11_runs_5 : decode cX11_runs 5 = .ok (.aload_n 0, 1) := by decide +kernel
theorem dX11_runs_6 : decode cX11_runs 6 = .ok (.getfield 7, 3) := by decide +kernel
theorem dX11_runs_9 : decode cX11_runs 9 = .ok (.iconst 0, 1) := by decide +kernel
theorem dX11_runs_10 : decode cX11_runs 10 = .ok (.iaload, 1) := by decide +kernel
theorem dX11_runs_11 : decode cX11_runs 11 = .ok (.if_icmp .ge 46, 3) := by decide +kernel
theorem dX11_runs_14 : decode cX11_runs 14 = .ok (.iload_n 2, 1) := by decide +kernel
theorem dX11_runs_15 : decode cX11_runs 15 = .ok (.iconst 1, 1) := by decide +kernel
theorem dX11_runs_16 : decode cX11_runs 16 = .ok (.iadd, 1) := by decide +kernel
theorem dX11_runs_17 : decode cX11_runs 17 = .ok (.istore_n 3, 1) := by decide +kernel
theorem dX11_runs_18 : decode cX11_runs 18 = .ok (.iload_n 3, 1) := by decide +kernel
theorem dX11_runs_19 : decode cX11_runs 19 = .ok (.aload_n 0, 1) := by decide +kernel
theorem dX11_runs_20 : decode cX11_runs 20 = .ok (.getfield 7, 3) := by decide +kernel
theorem dX11_runs_23 : decode cX11_runs 23 = .ok (.iconst 0, 1) := by decide +kernel
theorem dX11_runs_24 : decode cX11_runs 24 = .ok (.iaload, 1) := by decide +kernel
theorem dX11_runs_25 : decode cX11_runs 25 = .ok (.if_icmp .gt 26, 3) := by decide +kernel
theorem dX11_runs_28 : decode cX11_runs 28 = .ok (.iload_n 1, 1) := by decide +kernel
theorem dX11_runs_29 : decode cX11_runs 29 = .ok (.aload_n 0, 1) := by decide +kernel
theorem dX11_runs_30 : decode cX11_runs 30 = .ok (.iload_n 2, 1) := by decide +kernel
theorem dX11_runs_31 : decode cX11_runs 31 = .ok (.iload_n 3, 1) := by decide +kernel
theorem dX11_runs_32 : decode cX11_runs 32 = .ok (.invokevirtual 91, 3) := by decide +kernel
theorem dX11_runs_35 : decode cX11_runs 35 = .ok (.ifCond .eq 7, 3) := by decide +kernel
theorem dX11_runs_38 : decode cX11_runs 38 = .ok (.iconst 1, 1) := by decide +kernel
theorem dX11_runs_39 : decode cX11_runs 39 = .ok (.goto 4, 3) := by decide +kernel
theorem dX11_runs_42 : decode cX11_runs 42 = .ok (.iconst 0, 1) := by decide +kernel
theorem dX11_runs_43 : decode cX11_runs 43 = .ok (.iadd, 1) := by decide +kernel
theorem dX11_runs_44 : decode cX11_runs 44 = .ok (.istore_n 1, 1) := by decide +kernel
theorem dX11_runs_45 : decode cX11_runs 45 = .ok (.iinc 3 1, 3) := by decide +kernel
theorem dX11_runs_48 : decode cX11_runs 48 = .ok (.goto (-30), 3) := by decide +kernel
theorem dX11_runs_51 : decode cX11_runs 51 = .ok (.iinc 2 1, 3) := by decide +kernel
theorem dX11_runs_54 : decode cX11_runs 54 = .ok (.goto (-50), 3) := by decide +kernel
theorem dX11_runs_57 : decode cX11_runs 57 = .ok (.iload_n 1, 1) := by decide +kernel
theorem dX11_runs_58 : decode cX11_runs 58 = .ok (.ireturn, 1) := by decide +kernel
set_option maxRecDepth 20000 in
theorem ggX11_runOf_X11_in : GoodIn wsX11_runOf wsX11_in := goodIn_r _ [7] (by decide +kernel) (by decide +kernel)
set_option maxRecDepth 20000 in
theorem gX11_runOf_X11_in : GoodIn wsX11_runOf (va_wsS RX11 62 yX11_in wsX11_in) := goodIn_app (goodIn_of _ (by decide +kernel)) ggX11_runOf_X11_in
set_option maxRecDepth 20000 in
theorem ggX11_runOf_X11_isRun : GoodIn wsX11_runOf wsX11_isRun := goodIn_r _ [11, 2, 12, 13, 14, 6, 15, 16, 17, 18, 19, 20, 21, 22, 23, 24, 25, 26, 27, 28, 29, 30, 31, 32, 33, 34, 35, 36, 37, 38, 39, 40, 41, 42, 43, 44, 45, 46, 47, 48] (by decide +kernel) (by decide +kernel)
set_option maxRecDepth 20000 in
theorem gX11_runOf_X11_isRun : GoodIn wsX11_runOf (wsV RX11 91 RX11 yX11_isRun wsX11_isRun) := goodIn_app (goodIn_of _ (by decide +kernel)) ggX11_runOf_X11_isRun
set_option maxRecDepth 20000 in
theorem ggX11_runOf_X11_least : GoodIn wsX11_runOf wsX11_least := goodIn_r _ [15, 16, 17, 18, 6, 19, 2, 20, 21, 22, 23, 24, 25, 26, 27, 28, 29, 30, 31, 32, 33, 34, 35, 36, 37, 38, 39, 40, 41, 42, 43, 44, 45, 46, 47, 48] (by decide +kernel) (by decide +kernel)
set_option maxRecDepth 20000 in
theorem gX11_runOf_X11_least : GoodIn wsX11_runOf (wsV RX11 87 RX11 yX11_least wsX11_least) := goodIn_app (goodIn_of _ (by decide +kernel)) ggX11_runOf_X11_least
theorem dX11_runOf_0 : decode cX11_runOf 0 = .ok (.iload_n 1, 1) := by decide +kernel
theorem dX11_runOf_1 : decode cX11_runOf 1 = .ok (.ifCond .lt 12, 3) := by decide +kernel
theorem dX11_runOf_4 : decode cX11_runOf 4 = .ok (.iload_n 2, 1) := by decide +kernel
theorem dX11_runOf_5 : decode cX11_runOf 5 = .ok (.iconst 0, 1) := by decide +kernel
theorem dX11_runOf_6 : decode cX11_runOf 6 = .ok (.iconst 2, 1) := by decide +kernel
theorem dX11_runOf_7 : decode cX11_runOf 7 = .ok (.invokestatic 62, 3) := by decide +kernel
theorem dX11_runOf_10 : decode cX11_runOf 10 = .ok (.ifCond .ne 6, 3) := by decide +kernel
theorem dX11_runOf_13 : decode cX11_runOf 13 = .ok (.ldc 57, 2) := by decide +kernel
theorem dX11_runOf_15 : decode cX11_runOf 15 = .ok (.ireturn, 1) := by decide +kernel
theorem dX11_runOf_16 : decode cX11_runOf 16 = .ok (.iload_n 1, 1) := by decide +kernel
theorem dX11_runOf_17 : decode cX11_runOf 17 = .ok (.istore_n 3, 1) := by decide +kernel
theorem dX11_runOf_18 : decode cX11_runOf 18 = .ok (.aload_n 0, 1) := by decide +kernel
theorem dX11_runOf_19 : decode cX11_runOf 19 = .ok (.getfield 7, 3) := by decide +kernel
theorem dX11_runOf_22 : decode cX11_runOf 22 = .ok (.iconst 0, 1) := by decide +kernel
theorem dX11_runOf_23 : decode cX11_runOf 23 = .ok (.iaload, 1) := by decide +kernel
theorem dX11_runOf_24 : decode cX11_runOf 24 = .ok (.istore 4, 2) := by decide +kernel
theorem dX11_runOf_26 : decode cX11_runOf 26 = .ok (.iload 4, 2) := by decide +kernel
theorem dX11_runOf_28 : decode cX11_runOf 28 = .ok (.ifCond .le 101, 3) := by decide +kernel
theorem dX11_runOf_31 : decode cX11_runOf 31 = .ok (.iconst 0, 1) := by decide +kernel
