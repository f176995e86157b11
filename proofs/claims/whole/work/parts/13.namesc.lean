theorem dX4_readRepeat_51 : decode cX4_readRepeat 51 = .ok (.ireturn, 1) := by decide +kernel
theorem dX4_readRepeat_52 : decode cX4_readRepeat 52 = .ok (.iload 4, 2) := by decide +kernel
theorem dX4_readRepeat_54 : decode cX4_readRepeat 54 = .ok (.iconst 2, 1) := by decide +kernel
theorem dX4_readRepeat_55 : decode cX4_readRepeat 55 = .ok (.if_icmp .lt 10, 3) := by decide +kernel
theorem dX4_readRepeat_58 : decode cX4_readRepeat 58 = .ok (.iload 4, 2) := by decide +kernel
theorem dX4_readRepeat_60 : decode cX4_readRepeat 60 = .ok (.bipush 24, 2) := by decide +kernel
theorem dX4_readRepeat_62 : decode cX4_readRepeat 62 = .ok (.if_icmp .le 11, 3) := by decide +kernel
theorem dX4_readRepeat_65 : decode cX4_readRepeat 65 = .ok (.aload_n 0, 1) := by decide +kernel
theorem dX4_readRepeat_66 : decode cX4_readRepeat 66 = .ok (.iload_n 3, 1) := by decide +kernel
theorem dX4_readRepeat_67 : decode cX4_readRepeat 67 = .ok (.iconst 2, 1) := by decide +kernel
theorem dX4_readRepeat_68 : decode cX4_readRepeat 68 = .ok (.invokevirtual 96, 3) := by decide +kernel
theorem dX4_readRepeat_71 : decode cX4_readRepeat 71 = .ok (.iconst 0, 1) := by decide +kernel
theorem dX4_readRepeat_72 : decode cX4_readRepeat 72 = .ok (.ireturn, 1) := by decide +kernel
theorem dX4_readRepeat_73 : decode cX4_readRepeat 73 = .ok (.aload_n 0, 1) := by decide +kernel
theorem dX4_readRepeat_74 : decode cX4_readRepeat 74 = .ok (.getfield 25, 3) := by decide +kernel
theorem dX4_readRepeat_77 : decode cX4_readRepeat 77 = .ok (.istore 5, 2) := by decide +kernel
theorem dX4_readRepeat_79 : decode cX4_readRepeat 79 = .ok (.iconst 1, 1) := by decide +kernel
theorem dX4_readRepeat_80 : decode cX4_readRepeat 80 = .ok (.aload_n 0, 1) := by decide +kernel
theorem dX4_readRepeat_81 : decode cX4_readRepeat 81 = .ok (.iload_n 1, 1) := by decide +kernel
theorem dX4_readRepeat_82 : decode cX4_readRepeat 82 = .ok (.iconst 1, 1) := by decide +kernel
theorem dX4_readRepeat_83 : decode cX4_readRepeat 83 = .ok (.iadd, 1) := by decide +kernel
theorem dX4_readRepeat_84 : decode cX4_readRepeat 84 = .ok (.invokevirtual 68, 3) := by decide +kernel
theorem dX4_readRepeat_87 : decode cX4_readRepeat 87 = .ok (.iadd, 1) := by decide +kernel
theorem dX4_readRepeat_88 : decode cX4_readRepeat 88 = .ok (.istore 6, 2) := by decide +kernel
theorem dX4_readRepeat_90 : decode cX4_readRepeat 90 = .ok (.aload_n 0, 1) := by decide +kernel
theorem dX4_readRepeat_91 : decode cX4_readRepeat 91 = .ok (.invokevirtual 92, 3) := by decide +kernel
theorem dX4_readRepeat_94 : decode cX4_readRepeat 94 = .ok (.ifCond .ne 12, 3) := by decide +kernel
theorem dX4_readRepeat_97 : decode cX4_readRepeat 97 = .ok (.aload_n 0, 1) := by decide +kernel
theorem dX4_readRepeat_98 : decode cX4_readRepeat 98 = .ok (.bipush 41, 2) := by decide +kernel
theorem dX4_readRepeat_100 : decode cX4_readRepeat 100 = .ok (.invokevirtual 109, 3) := by decide +kernel
theorem dX4_readRepeat_103 : decode cX4_readRepeat 103 = .ok (.ifCond .ne 5, 3) := by decide +kernel
theorem dX4_readRepeat_106 : decode cX4_readRepeat 106 = .ok (.iconst 0, 1) := by decide +kernel
theorem dX4_readRepeat_107 : decode cX4_readRepeat 107 = .ok (.ireturn, 1) := by decide +kernel
theorem dX4_readRepeat_108 : decode cX4_readRepeat 108 = .ok (.aload_n 0, 1) := by decide +kernel
theorem dX4_readRepeat_109 : decode cX4_readRepeat 109 = .ok (.getfield 25, 3) := by decide +kernel
theorem dX4_readRepeat_112 : decode cX4_readRepeat 112 = .ok (.iload 5, 2) := by decide +kernel
theorem dX4_readRepeat_114 : decode cX4_readRepeat 114 = .ok (.isub, 1) := by decide +kernel
theorem dX4_readRepeat_115 : decode cX4_readRepeat 115 = .ok (.istore 7, 2) := by decide +kernel
theorem dX4_readRepeat_117 : decode cX4_readRepeat 117 = .ok (.iload 5, 2) := by decide +kernel
theorem dX4_readRepeat_119 : decode cX4_readRepeat 119 = .ok (.iload_n 2, 1) := by decide +kernel
theorem dX4_readRepeat_120 : decode cX4_readRepeat 120 = .ok (.isub, 1) := by decide +kernel
theorem dX4_readRepeat_121 : decode cX4_readRepeat 121 = .ok (.iload 7, 2) := by decide +kernel
theorem dX4_readRepeat_123 : decode cX4_readRepeat 123 = .ok (.iload 4, 2) := by decide +kernel
theorem dX4_readRepeat_125 : decode cX4_readRepeat 125 = .ok (.imul, 1) := by decide +kernel
theorem dX4_readRepeat_126 : decode cX4_readRepeat 126 = .ok (.iadd, 1) := by decide +kernel
theorem dX4_readRepeat_127 : decode cX4_readRepeat 127 = .ok (.bipush 24, 2) := by decide +kernel
theorem dX4_readRepeat_129 : decode cX4_readRepeat 129 = .ok (.if_icmp .le 11, 3) := by decide +kernel
theorem dX4_readRepeat_132 : decode cX4_readRepeat 132 = .ok (.aload_n 0, 1) := by decide +kernel
theorem dX4_readRepeat_133 : decode cX4_readRepeat 133 = .ok (.iload_n 3, 1) := by decide +kernel
theorem dX4_readRepeat_134 : decode cX4_readRepeat 134 = .ok (.iconst 4, 1) := by decide +kernel
theorem dX4_readRepeat_135 : decode cX4_readRepeat 135 = .ok (.invokevirtual 96, 3) := by decide +kernel
theorem dX4_readRepeat_138 : decode cX4_readRepeat 138 = .ok (.iconst 0, 1) := by decide +kernel
theorem dX4_readRepeat_139 : decode cX4_readRepeat 139 = .ok (.ireturn, 1) := by decide +kernel
theorem dX4_readRepeat_140 : decode cX4_readRepeat 140 = .ok (.aload_n 0, 1) := by decide +kernel
theorem dX4_readRepeat_141 : decode cX4_readRepeat 141 = .ok (.dup, 1) := by decide +kernel
theorem dX4_readRepeat_142 : decode cX4_readRepeat 142 = .ok (.getfield 37, 3) := by decide +kernel
theorem dX4_readRepeat_145 : decode cX4_readRepeat 145 = .ok (.iconst 1, 1) := by decide +kernel
theorem dX4_readRepeat_146 : decode cX4_readRepeat 146 = .ok (.iadd, 1) := by decide +kernel
theorem dX4_readRepeat_147 : decode cX4_readRepeat 147 = .ok (.putfield 37, 3) := by decide +kernel
theorem dX4_readRepeat_150 : decode cX4_readRepeat 150 = .ok (.aload_n 0, 1) := by decide +kernel
theorem dX4_readRepeat_151 : decode cX4_readRepeat 151 = .ok (.iload 5, 2) := by decide +kernel
theorem dX4_readRepeat_153 : decode cX4_readRepeat 153 = .ok (.iload 7, 2) := by decide +kernel
theorem dX4_readRepeat_155 : decode cX4_readRepeat 155 = .ok (.iload 4, 2) := by decide +kernel
theorem dX4_readRepeat_157 : decode cX4_readRepeat 157 = .ok (.imul, 1) := by decide +kernel
theorem dX4_readRepeat_158 : decode cX4_readRepeat 158 = .ok (.invokevirtual 112, 3) := by decide +kernel
theorem dX4_readRepeat_161 : decode cX4_readRepeat 161 = .ok (.aload_n 0, 1) := by decide +kernel
theorem dX4_readRepeat_162 : decode cX4_readRepeat 162 = .ok (.iload 5, 2) := by decide +kernel
theorem dX4_readRepeat_164 : decode cX4_readRepeat 164 = .ok (.iload 7, 2) := by decide +kernel
theorem dX4_readRepeat_166 : decode cX4_readRepeat 166 = .ok (.invokevirtual 115, 3) := by decide +kernel
theorem dX4_readRepeat_169 : decode cX4_readRepeat 169 = .ok (.iload 6, 2) := by decide +kernel
theorem dX4_readRepeat_171 : decode cX4_readRepeat 171 = .ok (.ireturn, 1) := by decide +kernel
set_option maxRecDepth 20000 in
theorem ggX4_unfold_X4_letter : GoodIn wsX4_unfold wsX4_letter := goodIn_r _ [6, 7, 12, 13, 14, 15, 16, 17, 18, 19, 20, 21, 22, 23, 24] (by decide +kernel) (by decide +kernel)
set_option maxRecDepth 20000 in
theorem gX4_unfold_X4_letter : GoodIn wsX4_unfold (wsV RX4 64 RX4 yX4_letter wsX4_letter) := goodIn_app (goodIn_of _ (by decide +kernel)) ggX4_unfold_X4_letter
set_option maxRecDepth 20000 in
theorem ggX4_unfold_X4_putLetter : GoodIn wsX4_unfold wsX4_putLetter := goodIn_r _ [11, 7, 12, 13, 14, 15, 16, 17, 18, 19, 20, 21, 22, 23, 24] (by decide +kernel) (by decide +kernel)
set_option maxRecDepth 20000 in
theorem gX4_unfold_X4_putLetter : GoodIn wsX4_unfold (wsV RX4 100 RX4 yX4_putLetter wsX4_putLetter) := goodIn_app (goodIn_of _ (by decide +kernel)) ggX4_unfold_X4_putLetter
theorem dX4_unfold_0 : decode cX4_unfold 0 = .ok (.aload_n 0, 1) := by decide +kernel
theorem dX4_unfold_1 : decode cX4_unfold 1 = .ok (.getfield 25, 3) := by decide +kernel
theorem dX4_unfold_4 : decode cX4_unfold 4 = .ok (.iload_n 1, 1) := by decide +kernel
theorem dX4_unfold_5 : decode cX4_unfold 5 = .ok (.isub, 1) := by decide +kernel
theorem dX4_unfold_6 : decode cX4_unfold 6 = .ok (.istore_n 3, 1) := by decide +kernel
theorem dX4_unfold_7 : decode cX4_unfold 7 = .ok (.iload_n 3, 1) := by decide +kernel
theorem dX4_unfold_8 : decode cX4_unfold 8 = .ok (.istore 4, 2) := by decide +kernel
theorem dX4_unfold_10 : decode cX4_unfold 10 = .ok (.iload 4, 2) := by decide +kernel
theorem dX4_unfold_12 : decode cX4_unfold 12 = .ok (.iload_n 2, 1) := by decide +kernel
theorem dX4_unfold_13 : decode cX4_unfold 13 = .ok (.if_icmp .ge 27, 3) := by decide +kernel
theorem dX4_unfold_16 : decode cX4_unfold 16 = .ok (.aload_n 0, 1) := by decide +kernel
theorem dX4_unfold_17 : decode cX4_unfold 17 = .ok (.iload_n 1, 1) := by decide +kernel
theorem dX4_unfold_18 : decode cX4_unfold 18 = .ok (.iload 4, 2) := by decide +kernel
theorem dX4_unfold_20 : decode cX4_unfold 20 = .ok (.iadd, 1) := by decide +kernel
theorem dX4_unfold_21 : decode cX4_unfold 21 = .ok (.aload_n 0, 1) := by decide +kernel
theorem dX4_unfold_22 : decode cX4_unfold 22 = .ok (.iload_n 1, 1) := by decide +kernel
theorem dX4_unfold_23 : decode cX4_unfold 23 = .ok (.iload 4, 2) := by decide +kernel
theorem dX4_unfold_25 : decode cX4_unfold 25 = .ok (.iadd, 1) := by decide +kernel
theorem dX4_unfold_26 : decode cX4_unfold 26 = .ok (.iload_n 3, 1) := by decide +kernel
theorem dX4_unfold_27 : decode cX4_unfold 27 = .ok (.isub, 1) := by decide +kernel
theorem dX4_unfold_28 : decode cX4_unfold 28 = .ok (.invokevirtual 64, 3) := by decide +kernel
theorem dX4_unfold_31 : decode cX4_unfold 31 = .ok (.invokevirtual 100, 3) := by decide +kernel
theorem dX4_unfold_34 : decode cX4_unfold 34 = .ok (.iinc 4 1, 3) := by decide +kernel
theorem dX4_unfold_37 : decode cX4_unfold 37 = .ok (.goto (-27), 3) := by decide +kernel
theorem dX4_unfold_40 : decode cX4_unfold 40 = .ok (.aload_n 0, 1) := by decide +kernel
theorem dX4_unfold_41 : decode cX4_unfold 41 = .ok (.iload_n 1, 1) := by decide +kernel
theorem dX4_unfold_42 : decode cX4_unfold 42 = .ok (.iload_n 2, 1) := by decide +kernel
theorem dX4_unfold_43 : decode cX4_unfold 43 = .ok (.iadd, 1) := by decide +kernel
theorem dX4_unfold_44 : decode cX4_unfold 44 = .ok (.putfield 25, 3) := by decide +kernel
theorem dX4_unfold_47 : decode cX4_unfold 47 = .ok (.return_, 1) := by decide +kernel
set_option maxRecDepth 20000 in
theorem ggX4_readCorrections_X4_sign : GoodIn wsX4_readCorrections wsX4_sign := goodIn_r _ [11, 12, 13, 14, 53, 54, 55, 56, 57, 58, 59, 60, 61, 62, 63, 64, 65] (by decide +kernel) (by decide +kernel)
set_option maxRecDepth 20000 in
theorem gX4_readCorrections_X4_sign : GoodIn wsX4_readCorrections (wsV RX4 71 RX4 yX4_sign wsX4_sign) := goodIn_app (goodIn_of _ (by decide +kernel)) ggX4_readCorrections_X4_sign
set_option maxRecDepth 20000 in
theorem ggX4_readCorrections_X4_readCorrection : GoodIn wsX4_readCorrections wsX4_readCorrection := goodIn_r _ [18, 12, 19, 7, 8, 9, 10, 11, 13, 14, 20, 21, 22, 23, 24, 25, 26, 27, 28, 29, 30, 31, 32, 33, 34, 35, 36, 37, 38, 39, 40, 41, 42, 43, 44, 45, 46, 47, 48, 53, 54, 55, 56, 57, 58, 59, 60, 61, 62, 63, 64, 65] (by decide +kernel) (by decide +kernel)
set_option maxRecDepth 20000 in
theorem gX4_readCorrections_X4_readCorrection : GoodIn wsX4_readCorrections (wsV RX4 118 RX4 yX4_readCorrection wsX4_readCorrection) := goodIn_app (goodIn_of _ (by decide +kernel)) ggX4_readCorrections_X4_readCorrection
set_option maxRecDepth 20000 in
theorem ggX4_readCorrections_X4_hasFault : GoodIn wsX4_readCorrections wsX4_hasFault := goodIn_r _ [52, 27, 53, 54, 55, 56, 57, 58, 59, 60, 61, 62, 63, 64, 65] (by decide +kernel) (by decide +kernel)
set_option maxRecDepth 20000 in
theorem gX4_readCorrections_X4_hasFault : GoodIn wsX4_readCorrections (wsV RX4 92 RX4 yX4_hasFault wsX4_hasFault) := goodIn_app (goodIn_of _ (by decide +kernel)) ggX4_readCorrections_X4_hasFault
theorem dX4_readCorrections_0 : decode cX4_readCorrections 0 = .ok (.iconst 0, 1) := by decide +kernel
theorem dX4_readCorrections_1 : decode cX4_readCorrections 1 = .ok (.istore_n 3, 1) := by decide +kernel
theorem dX4_readCorrections_2 : decode cX4_readCorrections 2 = .ok (.iload_n 2, 1) := by decide +kernel
theorem dX4_readCorrections_3 : decode cX4_readCorrections 3 = .ok (.iconst 1, 1) := by decide +kernel
theorem dX4_readCorrections_4 : decode cX4_readCorrections 4 = .ok (.isub, 1) := by decide +kernel
theorem dX4_readCorrections_5 : decode cX4_readCorrections 5 = .ok (.istore 4, 2) := by decide +kernel
theorem dX4_readCorrections_7 : decode cX4_readCorrections 7 = .ok (.aload_n 0, 1) := by decide +kernel
theorem dX4_readCorrections_8 : decode cX4_readCorrections 8 = .ok (.invokevirtual 71, 3) := by decide +kernel
theorem dX4_readCorrections_11 : decode cX4_readCorrections 11 = .ok (.bipush 91, 2) := by decide +kernel
theorem dX4_readCorrections_13 : decode cX4_readCorrections 13 = .ok (.if_icmp .ne 32, 3) := by decide +kernel
theorem dX4_readCorrections_16 : decode cX4_readCorrections 16 = .ok (.iload_n 3, 1) := by decide +kernel
theorem dX4_readCorrections_17 : decode cX4_readCorrections 17 = .ok (.bipush 60, 2) := by decide +kernel
theorem dX4_readCorrections_19 : decode cX4_readCorrections 19 = .ok (.if_icmp .ge 26, 3) := by decide +kernel
theorem dX4_readCorrections_22 : decode cX4_readCorrections 22 = .ok (.aload_n 0, 1) := by decide +kernel
theorem dX4_readCorrections_23 : decode cX4_readCorrections 23 = .ok (.iload_n 1, 1) := by decide +kernel
theorem dX4_readCorrections_24 : decode cX4_readCorrections 24 = .ok (.iload 4, 2) := by decide +kernel
theorem dX4_readCorrections_26 : decode cX4_readCorrections 26 = .ok (.invokevirtual 118, 3) := by decide +kernel
theorem dX4_readCorrections_29 : decode cX4_readCorrections 29 = .ok (.istore 4, 2) := by decide +kernel
theorem dX4_readCorrections_31 : decode cX4_readCorrections 31 = .ok (.aload_n 0, 1) := by decide +kernel
theorem dX4_readCorrections_32 : decode cX4_readCorrections 32 = .ok (.invokevirtual 92, 3) := by decide +kernel
theorem dX4_readCorrections_35 : decode cX4_readCorrections 35 = .ok (.ifCond .eq 4, 3) := by decide +kernel
theorem dX4_readCorrections_38 : decode cX4_readCorrections 38 = .ok (.return_, 1) := by decide +kernel
theorem dX4_readCorrections_39 : decode cX4_readCorrections 39 = .ok (.iinc 3 1, 3) := by decide +kernel
theorem dX4_readCorrections_42 : decode cX4_readCorrections 42 = .ok (.goto (-35), 3) := by decide +kernel
theorem dX4_readCorrections_45 : decode cX4_readCorrections 45 = .ok (.aload_n 0, 1) := by decide +kernel
theorem dX4_readCorrections_46 : decode cX4_readCorrections 46 = .ok (.dup, 1) := by decide +kernel
theorem dX4_readCorrections_47 : decode cX4_readCorrections 47 = .ok (.getfield 40, 3) := by decide +kernel
theorem dX4_readCorrections_50 : decode cX4_readCorrections 50 = .ok (.iload_n 3, 1) := by decide +kernel
theorem dX4_readCorrections_51 : decode cX4_readCorrections 51 = .ok (.iadd, 1) := by decide +kernel
theorem dX4_readCorrections_52 : decode cX4_readCorrections 52 = .ok (.putfield 40, 3) := by decide +kernel
theorem dX4_readCorrections_55 : decode cX4_readCorrections 55 = .ok (.aload_n 0, 1) := by decide +kernel
theorem dX4_readCorrections_56 : decode cX4_readCorrections 56 = .ok (.aload_n 0, 1) := by decide +kernel
theorem dX4_readCorrections_57 : decode cX4_readCorrections 57 = .ok (.getfield 43, 3) := by decide +kernel
theorem dX4_readCorrections_60 : decode cX4_readCorrections 60 = .ok (.iload_n 3, 1) := by decide +kernel
theorem dX4_readCorrections_61 : decode cX4_readCorrections 61 = .ok (.invokestatic 87, 3) := by decide +kernel
theorem dX4_readCorrections_64 : decode cX4_readCorrections 64 = .ok (.putfield 43, 3) := by decide +kernel
theorem dX4_readCorrections_67 : decode cX4_readCorrections 67 = .ok (.return_, 1) := by decide +kernel
set_option maxRecDepth 20000 in
theorem ggX4_readCorrection_X4_sign : GoodIn wsX4_readCorrection wsX4_sign := goodIn_r _ [7, 1, 8, 9, 39, 40, 41, 42, 43, 44, 45, 46, 47, 48, 49, 50, 51] (by decide +kernel) (by decide +kernel)
set_option maxRecDepth 20000 in
theorem gX4_readCorrection_X4_sign : GoodIn wsX4_readCorrection (wsV RX4 71 RX4 yX4_sign wsX4_sign) := goodIn_app (goodIn_of _ (by decide +kernel)) ggX4_readCorrection_X4_sign
set_option maxRecDepth 20000 in
theorem ggX4_readCorrection_X4_isDigit : GoodIn wsX4_readCorrection wsX4_isDigit := goodIn_r _ [12] (by decide +kernel) (by decide +kernel)
set_option maxRecDepth 20000 in
theorem gX4_readCorrection_X4_isDigit : GoodIn wsX4_readCorrection (va_wsS RX4 103 yX4_isDigit wsX4_isDigit) := goodIn_app (goodIn_of _ (by decide +kernel)) ggX4_readCorrection_X4_isDigit
set_option maxRecDepth 20000 in
theorem ggX4_readCorrection_X4_blame : GoodIn wsX4_readCorrection wsX4_blame := goodIn_r _ [16, 17, 18, 39, 40, 41, 42, 43, 44, 45, 46, 47, 48, 49, 50, 51] (by decide +kernel) (by decide +kernel)
set_option maxRecDepth 20000 in
theorem gX4_readCorrection_X4_blame : GoodIn wsX4_readCorrection (wsV RX4 96 RX4 yX4_blame wsX4_blame) := goodIn_app (goodIn_of _ (by decide +kernel)) ggX4_readCorrection_X4_blame
set_option maxRecDepth 20000 in
theorem ggX4_readCorrection_X4_readNumber : GoodIn wsX4_readCorrection wsX4_readNumber := goodIn_r _ [22, 1, 3, 4, 5, 6, 7, 8, 9, 10, 11, 12, 39, 40, 41, 42, 43, 44, 45, 46, 47, 48, 49, 50, 51] (by decide +kernel) (by decide +kernel)
set_option maxRecDepth 20000 in
theorem gX4_readCorrection_X4_readNumber : GoodIn wsX4_readCorrection (wsV RX4 106 RX4 yX4_readNumber wsX4_readNumber) := goodIn_app (goodIn_of _ (by decide +kernel)) ggX4_readCorrection_X4_readNumber
set_option maxRecDepth 20000 in
theorem ggX4_readCorrection_X4_reads : GoodIn wsX4_readCorrection wsX4_reads := goodIn_r _ [26, 1, 3, 4, 5, 6, 7, 8, 9, 13, 14, 15, 16, 17, 18, 39, 40, 41, 42, 43, 44, 45, 46, 47, 48, 49, 50, 51] (by decide +kernel) (by decide +kernel)
set_option maxRecDepth 20000 in
theorem gX4_readCorrection_X4_reads : GoodIn wsX4_readCorrection (wsV RX4 109 RX4 yX4_reads wsX4_reads) := goodIn_app (goodIn_of _ (by decide +kernel)) ggX4_readCorrection_X4_reads
set_option maxRecDepth 20000 in
theorem ggX4_readCorrection_X4_isLetter : GoodIn wsX4_readCorrection wsX4_isLetter := goodIn_r _ [29] (by decide +kernel) (by decide +kernel)
set_option maxRecDepth 20000 in
theorem gX4_readCorrection_X4_isLetter : GoodIn wsX4_readCorrection (va_wsS RX4 75 yX4_isLetter wsX4_isLetter) := goodIn_app (goodIn_of _ (by decide +kernel)) ggX4_readCorrection_X4_isLetter
set_option maxRecDepth 20000 in
theorem ggX4_readCorrection_X4_letter : GoodIn wsX4_readCorrection wsX4_letter := goodIn_r _ [33, 34, 39, 40, 41, 42, 43, 44, 45, 46, 47, 48, 49, 50, 51] (by decide +kernel) (by decide +kernel)
set_option maxRecDepth 20000 in
theorem gX4_readCorrection_X4_letter : GoodIn wsX4_readCorrection (wsV RX4 64 RX4 yX4_letter wsX4_letter) := goodIn_app (goodIn_of _ (by decide +kernel)) ggX4_readCorrection_X4_letter
set_option maxRecDepth 20000 in
theorem ggX4_readCorrection_X4_putLetter : GoodIn wsX4_readCorrection wsX4_putLetter := goodIn_r _ [38, 34, 39, 40, 41, 42, 43, 44, 45, 46, 47, 48, 49, 50, 51] (by decide +kernel) (by decide +kernel)
set_option maxRecDepth 20000 in
theorem gX4_readCorrection_X4_putLetter : GoodIn wsX4_readCorrection (wsV RX4 100 RX4 yX4_putLetter wsX4_putLetter) := goodIn_app (goodIn_of _ (by decide +kernel)) ggX4_readCorrection_X4_putLetter
theorem dX4_readCorrection_0 : decode cX4_readCorrection 0 = .ok (.aload_n 0, 1) := by decide +kernel
theorem dX4_readCorrection_1 : decode cX4_readCorrection 1 = .ok (.getfield 22, 3) := by decide +kernel
theorem dX4_readCorrection_4 : decode cX4_readCorrection 4 = .ok (.istore_n 3, 1) := by decide +kernel
theorem dX4_readCorrection_5 : decode cX4_readCorrection 5 = .ok (.aload_n 0, 1) := by decide +kernel
theorem dX4_readCorrection_6 : decode cX4_readCorrection 6 = .ok (.dup, 1) := by decide +kernel
theorem dX4_readCorrection_7 : decode cX4_readCorrection 7 = .ok (.getfield 22, 3) := by decide +kernel
theorem dX4_readCorrection_10 : decode cX4_readCorrection 10 = .ok (.iconst 1, 1) := by decide +kernel
theorem dX4_readCorrection_11 : decode cX4_readCorrection 11 = .ok (.iadd, 1) := by decide +kernel
theorem dX4_readCorrection_12 : decode cX4_readCorrection 12 = .ok (.putfield 22, 3) := by decide +kernel
theorem dX4_readCorrection_15 : decode cX4_readCorrection 15 = .ok (.aload_n 0, 1) := by decide +kernel
theorem dX4_readCorrection_16 : decode cX4_readCorrection 16 = .ok (.invokevirtual 71, 3) := by decide +kernel
theorem dX4_readCorrection_19 : decode cX4_readCorrection 19 = .ok (.invokestatic 103, 3) := by decide +kernel
theorem dX4_readCorrection_22 : decode cX4_readCorrection 22 = .ok (.ifCond .ne 14, 3) := by decide +kernel
theorem dX4_readCorrection_25 : decode cX4_readCorrection 25 = .ok (.aload_n 0, 1) := by decide +kernel
theorem dX4_readCorrection_26 : decode cX4_readCorrection 26 = .ok (.aload_n 0, 1) := by decide +kernel
theorem dX4_readCorrection_27 : decode cX4_readCorrection 27 = .ok (.getfield 22, 3) := by decide +kernel
theorem dX4_readCorrection_30 : decode cX4_readCorrection 30 = .ok (.iconst 1, 1) := by decide +kernel
theorem dX4_readCorrection_31 : decode cX4_readCorrection 31 = .ok (.invokevirtual 96, 3) := by decide +kernel
theorem dX4_readCorrection_34 : decode cX4_readCorrection 34 = .ok (.iload_n 2, 1) := by decide +kernel
theorem dX4_readCorrection_35 : decode cX4_readCorrection 35 = .ok (.ireturn, 1) := by decide +kernel
theorem dX4_readCorrection_36 : decode cX4_readCorrection 36 = .ok (.aload_n 0, 1) := by decide +kernel
theorem dX4_readCorrection_37 : decode cX4_readCorrection 37 = .ok (.invokevirtual 106, 3) := by decide +kernel
theorem dX4_readCorrection_40 : decode cX4_readCorrection 40 = .ok (.istore 4, 2) := by decide +kernel
theorem dX4_readCorrection_42 : decode cX4_readCorrection 42 = .ok (.aload_n 0, 1) := by decide +kernel
theorem dX4_readCorrection_43 : decode cX4_readCorrection 43 = .ok (.bipush 44, 2) := by decide +kernel
theorem dX4_readCorrection_45 : decode cX4_readCorrection 45 = .ok (.invokevirtual 109, 3) := by decide +kernel
theorem dX4_readCorrection_48 : decode cX4_readCorrection 48 = .ok (.ifCond .ne 5, 3) := by decide +kernel
theorem dX4_readCorrection_51 : decode cX4_readCorrection 51 = .ok (.iload_n 2, 1) := by decide +kernel
theorem dX4_readCorrection_52 : decode cX4_readCorrection 52 = .ok (.ireturn, 1) := by decide +kernel
theorem dX4_readCorrection_53 : decode cX4_readCorrection 53 = .ok (.aload_n 0, 1) := by decide +kernel
theorem dX4_readCorrection_54 : decode cX4_readCorrection 54 = .ok (.invokevirtual 71, 3) := by decide +kernel
theorem dX4_readCorrection_57 : decode cX4_readCorrection 57 = .ok (.istore 5, 2) := by decide +kernel
theorem dX4_readCorrection_59 : decode cX4_readCorrection 59 = .ok (.iload 5, 2) := by decide +kernel
theorem dX4_readCorrection_61 : decode cX4_readCorrection 61 = .ok (.invokestatic 75, 3) := by decide +kernel
theorem dX4_readCorrection_64 : decode cX4_readCorrection 64 = .ok (.ifCond .ne 14, 3) := by decide +kernel
theorem dX4_readCorrection_67 : decode cX4_readCorrection 67 = .ok (.aload_n 0, 1) := by decide +kernel
theorem dX4_readCorrection_68 : decode cX4_readCorrection 68 = .ok (.aload_n 0, 1) := by decide +kernel
theorem dX4_readCorrection_69 : decode cX4_readCorrection 69 = .ok (.getfield 22, 3) := by decide +kernel
theorem dX4_readCorrection_72 : decode cX4_readCorrection 72 = .ok (.iconst 1, 1) := by decide +kernel
theorem dX4_readCorrection_73 : decode cX4_readCorrection 73 = .ok (.invokevirtual 96, 3) := by decide +kernel
theorem dX4_readCorrection_76 : decode cX4_readCorrection 76 = .ok (.iload_n 2, 1) := by decide +kernel
theorem dX4_readCorrection_77 : decode cX4_readCorrection 77 = .ok (.ireturn, 1) := by decide +kernel
theorem dX4_readCorrection_78 : decode cX4_readCorrection 78 = .ok (.aload_n 0, 1) := by decide +kernel
theorem dX4_readCorrection_79 : decode cX4_readCorrection 79 = .ok (.dup, 1) := by decide +kernel
theorem dX4_readCorrection_80 : decode cX4_readCorrection 80 = .ok (.getfield 22, 3) := by decide +kernel
theorem dX4_readCorrection_83 : decode cX4_readCorrection 83 = .ok (.iconst 1, 1) := by decide +kernel
theorem dX4_readCorrection_84 : decode cX4_readCorrection 84 = .ok (.iadd, 1) := by decide +kernel
theorem dX4_readCorrection_85 : decode cX4_readCorrection 85 = .ok (.putfield 22, 3) := by decide +kernel
theorem dX4_readCorrection_88 : decode cX4_readCorrection 88 = .ok (.aload_n 0, 1) := by decide +kernel
theorem dX4_readCorrection_89 : decode cX4_readCorrection 89 = .ok (.bipush 93, 2) := by decide +kernel
theorem dX4_readCorrection_91 : decode cX4_readCorrection 91 = .ok (.invokevirtual 109, 3) := by decide +kernel
theorem dX4_readCorrection_94 : decode cX4_readCorrection 94 = .ok (.ifCond .ne 5, 3) := by decide +kernel
theorem dX4_readCorrection_97 : decode cX4_readCorrection 97 = .ok (.iload_n 2, 1) := by decide +kernel
theorem dX4_readCorrection_98 : decode cX4_readCorrection 98 = .ok (.ireturn, 1) := by decide +kernel
theorem dX4_readCorrection_99 : decode cX4_readCorrection 99 = .ok (.iload 4, 2) := by decide +kernel
theorem dX4_readCorrection_101 : decode cX4_readCorrection 101 = .ok (.iload_n 2, 1) := by decide +kernel
theorem dX4_readCorrection_102 : decode cX4_readCorrection 102 = .ok (.if_icmp .le 30, 3) := by decide +kernel
theorem dX4_readCorrection_105 : decode cX4_readCorrection 105 = .ok (.iload 4, 2) := by decide +kernel
theorem dX4_readCorrection_107 : decode cX4_readCorrection 107 = .ok (.aload_n 0, 1) := by decide +kernel
theorem dX4_readCorrection_108 : decode cX4_readCorrection 108 = .ok (.getfield 25, 3) := by decide +kernel
theorem dX4_readCorrection_111 : decode cX4_readCorrection 111 = .ok (.iload_n 1, 1) := by decide +kernel
theorem dX4_readCorrection_112 : decode cX4_readCorrection 112 = .ok (.isub, 1) := by decide +kernel
theorem dX4_readCorrection_113 : decode cX4_readCorrection 113 = .ok (.if_icmp .ge 19, 3) := by decide +kernel
theorem dX4_readCorrection_116 : decode cX4_readCorrection 116 = .ok (.aload_n 0, 1) := by decide +kernel
theorem dX4_readCorrection_117 : decode cX4_readCorrection 117 = .ok (.iload_n 1, 1) := by decide +kernel
theorem dX4_readCorrection_118 : decode cX4_readCorrection 118 = .ok (.iload 4, 2) := by decide +kernel
theorem dX4_readCorrection_120 : decode cX4_readCorrection 120 = .ok (.iadd, 1) := by decide +kernel
theorem dX4_readCorrection_121 : decode cX4_readCorrection 121 = .ok (.invokevirtual 64, 3) := by decide +kernel
theorem dX4_readCorrection_124 : decode cX4_readCorrection 124 = .ok (.iload 5, 2) := by decide +kernel
theorem dX4_readCorrection_126 : decode cX4_readCorrection 126 = .ok (.bipush 97, 2) := by decide +kernel
theorem dX4_readCorrection_128 : decode cX4_readCorrection 128 = .ok (.isub, 1) := by decide +kernel
theorem dX4_readCorrection_129 : decode cX4_readCorrection 129 = .ok (.if_icmp .ne 11, 3) := by decide +kernel
theorem dX4_readCorrection_132 : decode cX4_readCorrection 132 = .ok (.aload_n 0, 1) := by decide +kernel
theorem dX4_readCorrection_133 : decode cX4_readCorrection 133 = .ok (.iload_n 3, 1) := by decide +kernel
theorem dX4_readCorrection_134 : decode cX4_readCorrection 134 = .ok (.iconst 3, 1) := by decide +kernel
theorem dX4_readCorrection_135 : decode cX4_readCorrection 135 = .ok (.invokevirtual 96, 3) := by decide +kernel
theorem dX4_readCorrection_138 : decode cX4_readCorrection 138 = .ok (.iload_n 2, 1) := by decide +kernel
theorem dX4_readCorrection_139 : decode cX4_readCorrection 139 = .ok (.ireturn, 1) := by decide +kernel
theorem dX4_readCorrection_140 : decode cX4_readCorrection 140 = .ok (.aload_n 0, 1) := by decide +kernel
theorem dX4_readCorrection_141 : decode cX4_readCorrection 141 = .ok (.iload_n 1, 1) := by decide +kernel
theorem dX4_readCorrection_142 : decode cX4_readCorrection 142 = .ok (.iload 4, 2) := by decide +kernel
theorem dX4_readCorrection_144 : decode cX4_readCorrection 144 = .ok (.iadd, 1) := by decide +kernel
theorem dX4_readCorrection_145 : decode cX4_readCorrection 145 = .ok (.iload 5, 2) := by decide +kernel
theorem dX4_readCorrection_147 : decode cX4_readCorrection 147 = .ok (.bipush 97, 2) := by decide +kernel
theorem dX4_readCorrection_149 : decode cX4_readCorrection 149 = .ok (.isub, 1) := by decide +kernel
theorem dX4_readCorrection_150 : decode cX4_readCorrection 150 = .ok (.invokevirtual 100, 3) := by decide +kernel
theorem dX4_readCorrection_153 : decode cX4_readCorrection 153 = .ok (.iload 4, 2) := by decide +kernel
theorem dX4_readCorrection_155 : decode cX4_readCorrection 155 = .ok (.ireturn, 1) := by decide +kernel
set_option maxRecDepth 20000 in
theorem ggX4_readNumber_X4_sign : GoodIn wsX4_readNumber wsX4_sign := goodIn_r _ [6, 1, 7, 8, 12, 13, 14, 15, 16, 17, 18, 19, 20, 21, 22, 23, 24] (by decide +kernel) (by decide +kernel)
set_option maxRecDepth 20000 in
theorem gX4_readNumber_X4_sign : GoodIn wsX4_readNumber (wsV RX4 71 RX4 yX4_sign wsX4_sign) := goodIn_app (goodIn_of _ (by decide +kernel)) ggX4_readNumber_X4_sign
set_option maxRecDepth 20000 in
theorem ggX4_readNumber_X4_isDigit : GoodIn wsX4_readNumber wsX4_isDigit := goodIn_r _ [11] (by decide +kernel) (by decide +kernel)
set_option maxRecDepth 20000 in
theorem gX4_readNumber_X4_isDigit : GoodIn wsX4_readNumber (va_wsS RX4 103 yX4_isDigit wsX4_isDigit) := goodIn_app (goodIn_of _ (by decide +kernel)) ggX4_readNumber_X4_isDigit
theorem dX4_readNumber_0 : decode cX4_readNumber 0 = .ok (.aload_n 0, 1) := by decide +kernel
theorem dX4_readNumber_1 : decode cX4_readNumber 1 = .ok (.invokevirtual 71, 3) := by decide +kernel
theorem dX4_readNumber_4 : decode cX4_readNumber 4 = .ok (.bipush 48, 2) := by decide +kernel
theorem dX4_readNumber_6 : decode cX4_readNumber 6 = .ok (.isub, 1) := by decide +kernel
theorem dX4_readNumber_7 : decode cX4_readNumber 7 = .ok (.istore_n 1, 1) := by decide +kernel
theorem dX4_readNumber_8 : decode cX4_readNumber 8 = .ok (.aload_n 0, 1) := by decide +kernel
theorem dX4_readNumber_9 : decode cX4_readNumber 9 = .ok (.dup, 1) := by decide +kernel
theorem dX4_readNumber_10 : decode cX4_readNumber 10 = .ok (.getfield 22, 3) := by decide +kernel
theorem dX4_readNumber_13 : decode cX4_readNumber 13 = .ok (.iconst 1, 1) := by decide +kernel
theorem dX4_readNumber_14 : decode cX4_readNumber 14 = .ok (.iadd, 1) := by decide +kernel
theorem dX4_readNumber_15 : decode cX4_readNumber 15 = .ok (.putfield 22, 3) := by decide +kernel
theorem dX4_readNumber_18 : decode cX4_readNumber 18 = .ok (.iload_n 1, 1) := by decide +kernel
theorem dX4_readNumber_19 : decode cX4_readNumber 19 = .ok (.ifCond .eq 36, 3) := by decide +kernel
theorem dX4_readNumber_22 : decode cX4_readNumber 22 = .ok (.aload_n 0, 1) := by decide +kernel
theorem dX4_readNumber_23 : decode cX4_readNumber 23 = .ok (.invokevirtual 71, 3) := by decide +kernel
theorem dX4_readNumber_26 : decode cX4_readNumber 26 = .ok (.invokestatic 103, 3) := by decide +kernel
theorem dX4_readNumber_29 : decode cX4_readNumber 29 = .ok (.ifCond .eq 26, 3) := by decide +kernel
theorem dX4_readNumber_32 : decode cX4_readNumber 32 = .ok (.bipush 10, 2) := by decide +kernel
theorem dX4_readNumber_34 : decode cX4_readNumber 34 = .ok (.iload_n 1, 1) := by decide +kernel
theorem dX4_readNumber_35 : decode cX4_readNumber 35 = .ok (.imul, 1) := by decide +kernel
theorem dX4_readNumber_36 : decode cX4_readNumber 36 = .ok (.aload_n 0, 1) := by decide +kernel
theorem dX4_readNumber_37 : decode cX4_readNumber 37 = .ok (.invokevirtual 71, 3) := by decide +kernel
theorem dX4_readNumber_40 : decode cX4_readNumber 40 = .ok (.iadd, 1) := by decide +kernel
theorem dX4_readNumber_41 : decode cX4_readNumber 41 = .ok (.bipush 48, 2) := by decide +kernel
theorem dX4_readNumber_43 : decode cX4_readNumber 43 = .ok (.isub, 1) := by decide +kernel
theorem dX4_readNumber_44 : decode cX4_readNumber 44 = .ok (.istore_n 1, 1) := by decide +kernel
theorem dX4_readNumber_45 : decode cX4_readNumber 45 = .ok (.aload_n 0, 1) := by decide +kernel
theorem dX4_readNumber_46 : decode cX4_readNumber 46 = .ok (.dup, 1) := by decide +kernel
theorem dX4_readNumber_47 : decode cX4_readNumber 47 = .ok (.getfield 22, 3) := by decide +kernel
theorem dX4_readNumber_50 : decode cX4_readNumber 50 = .ok (.iconst 1, 1) := by decide +kernel
theorem dX4_readNumber_51 : decode cX4_readNumber 51 = .ok (.iadd, 1) := by decide +kernel
theorem dX4_readNumber_52 : decode cX4_readNumber 52 = .ok (.putfield 22, 3) := by decide +kernel
theorem dX4_readNumber_55 : decode cX4_readNumber 55 = .ok (.iload_n 1, 1) := by decide +kernel
theorem dX4_readNumber_56 : decode cX4_readNumber 56 = .ok (.ireturn, 1) := by decide +kernel
set_option maxRecDepth 20000 in
theorem ggX4_reads_X4_sign : GoodIn wsX4_reads wsX4_sign := goodIn_r _ [6, 1, 7, 8, 15, 16, 17, 18, 19, 20, 21, 22, 23, 24, 25, 26, 27] (by decide +kernel) (by decide +kernel)
set_option maxRecDepth 20000 in
theorem gX4_reads_X4_sign : GoodIn wsX4_reads (wsV RX4 71 RX4 yX4_sign wsX4_sign) := goodIn_app (goodIn_of _ (by decide +kernel)) ggX4_reads_X4_sign
set_option maxRecDepth 20000 in
theorem ggX4_reads_X4_blame : GoodIn wsX4_reads wsX4_blame := goodIn_r _ [12, 13, 14, 15, 16, 17, 18, 19, 20, 21, 22, 23, 24, 25, 26, 27] (by decide +kernel) (by decide +kernel)
set_option maxRecDepth 20000 in
theorem gX4_reads_X4_blame : GoodIn wsX4_reads (wsV RX4 96 RX4 yX4_blame wsX4_blame) := goodIn_app (goodIn_of _ (by decide +kernel)) ggX4_reads_X4_blame
theorem dX4_reads_0 : decode cX4_reads 0 = .ok (.aload_n 0, 1) := by decide +kernel
theorem dX4_reads_1 : decode cX4_reads 1 = .ok (.invokevirtual 71, 3) := by decide +kernel
theorem dX4_reads_4 : decode cX4_reads 4 = .ok (.iload_n 1, 1) := by decide +kernel
theorem dX4_reads_5 : decode cX4_reads 5 = .ok (.if_icmp .eq 14, 3) := by decide +kernel
theorem dX4_reads_8 : decode cX4_reads 8 = .ok (.aload_n 0, 1) := by decide +kernel
theorem dX4_reads_9 : decode cX4_reads 9 = .ok (.aload_n 0, 1) := by decide +kernel
theorem dX4_reads_10 : decode cX4_reads 10 = .ok (.getfield 22, 3) := by decide +kernel
theorem dX4_reads_13 : decode cX4_reads 13 = .ok (.iconst 1, 1) := by decide +kernel
theorem dX4_reads_14 : decode cX4_reads 14 = .ok (.invokevirtual 96, 3) := by decide +kernel
theorem dX4_reads_17 : decode cX4_reads 17 = .ok (.iconst 0, 1) := by decide +kernel
theorem dX4_reads_18 : decode cX4_reads 18 = .ok (.ireturn, 1) := by decide +kernel
theorem dX4_reads_19 : decode cX4_reads 19 = .ok (.aload_n 0, 1) := by decide +kernel
theorem dX4_reads_20 : decode cX4_reads 20 = .ok (.dup, 1) := by decide +kernel
theorem dX4_reads_21 : decode cX4_reads 21 = .ok (.getfield 22, 3) := by decide +kernel
theorem dX4_reads_24 : decode cX4_reads 24 = .ok (.iconst 1, 1) := by decide +kernel
theorem dX4_reads_25 : decode cX4_reads 25 = .ok (.iadd, 1) := by decide +kernel
theorem dX4_reads_26 : decode cX4_reads 26 = .ok (.putfield 22, 3) := by decide +kernel
theorem dX4_reads_29 : decode cX4_reads 29 = .ok (.iconst 1, 1) := by decide +kernel
theorem dX4_reads_30 : decode cX4_reads 30 = .ok (.ireturn, 1) := by decide +kernel
theorem dX4_sign_0 : decode cX4_sign 0 = .ok (.aload_n 0, 1) := by decide +kernel
theorem dX4_sign_1 : decode cX4_sign 1 = .ok (.getfield 22, 3) := by decide +kernel
theorem dX4_sign_4 : decode cX4_sign 4 = .ok (.ifCond .lt 35, 3) := by decide +kernel
theorem dX4_sign_7 : decode cX4_sign 7 = .ok (.aload_n 0, 1) := by decide +kernel
theorem dX4_sign_8 : decode cX4_sign 8 = .ok (.getfield 22, 3) := by decide +kernel
theorem dX4_sign_11 : decode cX4_sign 11 = .ok (.aload_n 0, 1) := by decide +kernel
theorem dX4_sign_12 : decode cX4_sign 12 = .ok (.getfield 18, 3) := by decide +kernel
theorem dX4_sign_15 : decode cX4_sign 15 = .ok (.if_icmp .ge 24, 3) := by decide +kernel
theorem dX4_sign_18 : decode cX4_sign 18 = .ok (.aload_n 0, 1) := by decide +kernel
theorem dX4_sign_19 : decode cX4_sign 19 = .ok (.getfield 22, 3) := by decide +kernel
theorem dX4_sign_22 : decode cX4_sign 22 = .ok (.bipush 60, 2) := by decide +kernel
theorem dX4_sign_24 : decode cX4_sign 24 = .ok (.if_icmp .ge 15, 3) := by decide +kernel
theorem dX4_sign_27 : decode cX4_sign 27 = .ok (.aload_n 0, 1) := by decide +kernel
theorem dX4_sign_28 : decode cX4_sign 28 = .ok (.getfield 9, 3) := by decide +kernel
theorem dX4_sign_31 : decode cX4_sign 31 = .ok (.aload_n 0, 1) := by decide +kernel
theorem dX4_sign_32 : decode cX4_sign 32 = .ok (.getfield 22, 3) := by decide +kernel
theorem dX4_sign_35 : decode cX4_sign 35 = .ok (.iaload, 1) := by decide +kernel
theorem dX4_sign_36 : decode cX4_sign 36 = .ok (.goto 4, 3) := by decide +kernel
theorem dX4_sign_39 : decode cX4_sign 39 = .ok (.iconst (-1), 1) := by decide +kernel
theorem dX4_sign_40 : decode cX4_sign 40 = .ok (.ireturn, 1) := by decide +kernel
theorem dX4_putLetter_0 : decode cX4_putLetter 0 = .ok (.iload_n 1, 1) := by decide +kernel
theorem dX4_putLetter_1 : decode cX4_putLetter 1 = .ok (.ifCond .lt 19, 3) := by decide +kernel
theorem dX4_putLetter_4 : decode cX4_putLetter 4 = .ok (.iload_n 1, 1) := by decide +kernel
theorem dX4_putLetter_5 : decode cX4_putLetter 5 = .ok (.aload_n 0, 1) := by decide +kernel
theorem dX4_putLetter_6 : decode cX4_putLetter 6 = .ok (.getfield 15, 3) := by decide +kernel
theorem dX4_putLetter_9 : decode cX4_putLetter 9 = .ok (.arraylength, 1) := by decide +kernel
theorem dX4_putLetter_10 : decode cX4_putLetter 10 = .ok (.if_icmp .ge 10, 3) := by decide +kernel
theorem dX4_putLetter_13 : decode cX4_putLetter 13 = .ok (.aload_n 0, 1) := by decide +kernel
theorem dX4_putLetter_14 : decode cX4_putLetter 14 = .ok (.getfield 15, 3) := by decide +kernel
theorem dX4_putLetter_17 : decode cX4_putLetter 17 = .ok (.iload_n 1, 1) := by decide +kernel
theorem dX4_putLetter_18 : decode cX4_putLetter 18 = .ok (.iload_n 2, 1) := by decide +kernel
theorem dX4_putLetter_19 : decode cX4_putLetter 19 = .ok (.iastore, 1) := by decide +kernel
theorem dX4_putLetter_20 : decode cX4_putLetter 20 = .ok (.return_, 1) := by decide +kernel
theorem dX4_blame_0 : decode cX4_blame 0 = .ok (.aload_n 0, 1) := by decide +kernel
theorem dX4_blame_1 : decode cX4_blame 1 = .ok (.getfield 31, 3) := by decide +kernel
theorem dX4_blame_4 : decode cX4_blame 4 = .ok (.ifCond .ne 13, 3) := by decide +kernel
theorem dX4_blame_7 : decode cX4_blame 7 = .ok (.aload_n 0, 1) := by decide +kernel
theorem dX4_blame_8 : decode cX4_blame 8 = .ok (.iload_n 1, 1) := by decide +kernel
theorem dX4_blame_9 : decode cX4_blame 9 = .ok (.putfield 28, 3) := by decide +kernel
theorem dX4_blame_12 : decode cX4_blame 12 = .ok (.aload_n 0, 1) := by decide +kernel
theorem dX4_blame_13 : decode cX4_blame 13 = .ok (.iload_n 2, 1) := by decide +kernel
theorem dX4_blame_14 : decode cX4_blame 14 = .ok (.putfield 31, 3) := by decide +kernel
theorem dX4_blame_17 : decode cX4_blame 17 = .ok (.return_, 1) := by decide +kernel
theorem dX4_isLetter_0 : decode cX4_isLetter 0 = .ok (.iload_n 0, 1) := by decide +kernel
theorem dX4_isLetter_1 : decode cX4_isLetter 1 = .ok (.bipush 97, 2) := by decide +kernel
theorem dX4_isLetter_3 : decode cX4_isLetter 3 = .ok (.if_icmp .lt 13, 3) := by decide +kernel
theorem dX4_isLetter_6 : decode cX4_isLetter 6 = .ok (.iload_n 0, 1) := by decide +kernel
theorem dX4_isLetter_7 : decode cX4_isLetter 7 = .ok (.bipush 101, 2) := by decide +kernel
theorem dX4_isLetter_9 : decode cX4_isLetter 9 = .ok (.if_icmp .ge 7, 3) := by decide +kernel
theorem dX4_isLetter_12 : decode cX4_isLetter 12 = .ok (.iconst 1, 1) := by decide +kernel
theorem dX4_isLetter_13 : decode cX4_isLetter 13 = .ok (.goto 4, 3) := by decide +kernel
theorem dX4_isLetter_16 : decode cX4_isLetter 16 = .ok (.iconst 0, 1) := by decide +kernel
theorem dX4_isLetter_17 : decode cX4_isLetter 17 = .ok (.ireturn, 1) := by decide +kernel
theorem dX4_isDigit_0 : decode cX4_isDigit 0 = .ok (.iload_n 0, 1) := by decide +kernel
theorem dX4_isDigit_1 : decode cX4_isDigit 1 = .ok (.bipush 48, 2) := by decide +kernel
theorem dX4_isDigit_3 : decode cX4_isDigit 3 = .ok (.if_icmp .lt 13, 3) := by decide +kernel
theorem dX4_isDigit_6 : decode cX4_isDigit 6 = .ok (.iload_n 0, 1) := by decide +kernel
theorem dX4_isDigit_7 : decode cX4_isDigit 7 = .ok (.bipush 57, 2) := by decide +kernel
theorem dX4_isDigit_9 : decode cX4_isDigit 9 = .ok (.if_icmp .gt 7, 3) := by decide +kernel
theorem dX4_isDigit_12 : decode cX4_isDigit 12 = .ok (.iconst 1, 1) := by decide +kernel
theorem dX4_isDigit_13 : decode cX4_isDigit 13 = .ok (.goto 4, 3) := by decide +kernel
theorem dX4_isDigit_16 : decode cX4_isDigit 16 = .ok (.iconst 0, 1) := by decide +kernel
theorem dX4_isDigit_17 : decode cX4_isDigit 17 = .ok (.ireturn, 1) := by decide +kernel
theorem dX5_init_0 : decode cX5_init 0 = .ok (.aload_n 0, 1) := by decide +kernel
theorem dX5_init_1 : decode cX5_init 1 = .ok (.invokespecial 3, 3) := by decide +kernel
theorem dX5_init_4 : decode cX5_init 4 = .ok (.aload_n 0, 1) := by decide +kernel
theorem dX5_init_5 : decode cX5_init 5 = .ok (.iconst 4, 1) := by decide +kernel
theorem dX5_init_6 : decode cX5_init 6 = .ok (.newarray .int, 2) := by decide +kernel
theorem dX5_init_8 : decode cX5_init 8 = .ok (.putfield 9, 3) := by decide +kernel
theorem dX5_init_11 : decode cX5_init 11 = .ok (.aload_n 0, 1) := by decide +kernel
theorem dX5_init_12 : decode cX5_init 12 = .ok (.bipush 24, 2) := by decide +kernel
theorem dX5_init_14 : decode cX5_init 14 = .ok (.newarray .int, 2) := by decide +kernel
theorem dX5_init_16 : decode cX5_init 16 = .ok (.putfield 15, 3) := by decide +kernel
theorem dX5_init_19 : decode cX5_init 19 = .ok (.aload_n 0, 1) := by decide +kernel
theorem dX5_init_20 : decode cX5_init 20 = .ok (.bipush 60, 2) := by decide +kernel
theorem dX5_init_22 : decode cX5_init 22 = .ok (.newarray .int, 2) := by decide +kernel
theorem dX5_init_24 : decode cX5_init 24 = .ok (.putfield 18, 3) := by decide +kernel
theorem dX5_init_27 : decode cX5_init 27 = .ok (.aload_n 0, 1) := by decide +kernel
theorem dX5_init_28 : decode cX5_init 28 = .ok (.bipush 60, 2) := by decide +kernel
theorem dX5_init_30 : decode cX5_init 30 = .ok (.newarray .int, 2) := by decide +kernel
theorem dX5_init_32 : decode cX5_init 32 = .ok (.putfield 21, 3) := by decide +kernel
theorem dX5_init_35 : decode cX5_init 35 = .ok (.aload_n 0, 1) := by decide +kernel
theorem dX5_init_36 : decode cX5_init 36 = .ok (.bipush 60, 2) := by decide +kernel
theorem dX5_init_38 : decode cX5_init 38 = .ok (.newarray .int, 2) := by decide +kernel
theorem dX5_init_40 : decode cX5_init 40 = .ok (.putfield 24, 3) := by decide +kernel
theorem dX5_init_43 : decode cX5_init 43 = .ok (.aload_n 0, 1) := by decide +kernel
theorem dX5_init_44 : decode cX5_init 44 = .ok (.iconst 0, 1) := by decide +kernel
theorem dX5_init_45 : decode cX5_init 45 = .ok (.putfield 27, 3) := by decide +kernel
theorem dX5_init_48 : decode cX5_init 48 = .ok (.aload_n 0, 1) := by decide +kernel
theorem dX5_init_49 : decode cX5_init 49 = .ok (.iconst 0, 1) := by decide +kernel
theorem dX5_init_50 : decode cX5_init 50 = .ok (.putfield 31, 3) := by decide +kernel
theorem dX5_init_53 : decode cX5_init 53 = .ok (.aload_n 0, 1) := by decide +kernel
theorem dX5_init_54 : decode cX5_init 54 = .ok (.iconst 0, 1) := by decide +kernel
theorem dX5_init_55 : decode cX5_init 55 = .ok (.putfield 34, 3) := by decide +kernel
theorem dX5_init_58 : decode cX5_init 58 = .ok (.aload_n 0, 1) := by decide +kernel
theorem dX5_init_59 : decode cX5_init 59 = .ok (.iconst 0, 1) := by decide +kernel
theorem dX5_init_60 : decode cX5_init 60 = .ok (.putfield 37, 3) := by decide +kernel
theorem dX5_init_63 : decode cX5_init 63 = .ok (.aload_n 0, 1) := by decide +kernel
theorem dX5_init_64 : decode cX5_init 64 = .ok (.iconst 0, 1) := by decide +kernel
theorem dX5_init_65 : decode cX5_init 65 = .ok (.putfield 40, 3) := by decide +kernel
theorem dX5_init_68 : decode cX5_init 68 = .ok (.return_, 1) := by decide +kernel
set_option maxRecDepth 20000 in
theorem ggX5_look_X7_setting : GoodIn wsX5_look wsX7_setting := goodIn_r _ [11, 12, 22, 23, 24] (by decide +kernel) (by decide +kernel)
set_option maxRecDepth 20000 in
theorem gX5_look_X7_setting : GoodIn wsX5_look (wsV RX5 48 RX7 yX7_setting wsX7_setting) := goodIn_app (goodIn_of _ (by decide +kernel)) ggX5_look_X7_setting
set_option maxRecDepth 20000 in
theorem ggX5_look_X7_letter : GoodIn wsX5_look wsX7_letter := goodIn_r _ [16, 17, 18, 22, 23, 24] (by decide +kernel) (by decide +kernel)
set_option maxRecDepth 20000 in
theorem gX5_look_X7_letter : GoodIn wsX5_look (wsV RX5 52 RX7 yX7_letter wsX7_letter) := goodIn_app (goodIn_of _ (by decide +kernel)) ggX5_look_X7_letter
set_option maxRecDepth 20000 in
theorem ggX5_look_X10_isKind : GoodIn wsX5_look wsX10_isKind := goodIn_r _ [21] (by decide +kernel) (by decide +kernel)
set_option maxRecDepth 20000 in
theorem gX5_look_X10_isKind_n55 : GoodIn wsX5_look (wsX10_isKind) := ggX5_look_X10_isKind
theorem dX5_look_0 : decode cX5_look 0 = .ok (.aload_n 0, 1) := by decide +kernel
theorem dX5_look_1 : decode cX5_look 1 = .ok (.aload_n 1, 1) := by decide +kernel
theorem dX5_look_2 : decode cX5_look 2 = .ok (.getfield 43, 3) := by decide +kernel
theorem dX5_look_5 : decode cX5_look 5 = .ok (.putfield 27, 3) := by decide +kernel
theorem dX5_look_8 : decode cX5_look 8 = .ok (.aload_n 0, 1) := by decide +kernel
theorem dX5_look_9 : decode cX5_look 9 = .ok (.aload_n 1, 1) := by decide +kernel
theorem dX5_look_10 : decode cX5_look 10 = .ok (.iconst 1, 1) := by decide +kernel
theorem dX5_look_11 : decode cX5_look 11 = .ok (.invokevirtual 48, 3) := by decide +kernel
theorem dX5_look_14 : decode cX5_look 14 = .ok (.putfield 31, 3) := by decide +kernel
theorem dX5_look_17 : decode cX5_look 17 = .ok (.aload_n 0, 1) := by decide +kernel
theorem dX5_look_18 : decode cX5_look 18 = .ok (.aload_n 1, 1) := by decide +kernel
theorem dX5_look_19 : decode cX5_look 19 = .ok (.iconst 2, 1) := by decide +kernel
theorem dX5_look_20 : decode cX5_look 20 = .ok (.invokevirtual 48, 3) := by decide +kernel
theorem dX5_look_23 : decode cX5_look 23 = .ok (.putfield 34, 3) := by decide +kernel
theorem dX5_look_26 : decode cX5_look 26 = .ok (.aload_n 0, 1) := by decide +kernel
theorem dX5_look_27 : decode cX5_look 27 = .ok (.aload_n 1, 1) := by decide +kernel
theorem dX5_look_28 : decode cX5_look 28 = .ok (.iconst 3, 1) := by decide +kernel
theorem dX5_look_29 : decode cX5_look 29 = .ok (.invokevirtual 48, 3) := by decide +kernel
theorem dX5_look_32 : decode cX5_look 32 = .ok (.putfield 37, 3) := by decide +kernel
theorem dX5_look_35 : decode cX5_look 35 = .ok (.iconst 0, 1) := by decide +kernel
theorem dX5_look_36 : decode cX5_look 36 = .ok (.istore_n 2, 1) := by decide +kernel
theorem dX5_look_37 : decode cX5_look 37 = .ok (.iload_n 2, 1) := by decide +kernel
theorem dX5_look_38 : decode cX5_look 38 = .ok (.iconst 4, 1) := by decide +kernel
theorem dX5_look_39 : decode cX5_look 39 = .ok (.if_icmp .ge 16, 3) := by decide +kernel
theorem dX5_look_42 : decode cX5_look 42 = .ok (.aload_n 0, 1) := by decide +kernel
theorem dX5_look_43 : decode cX5_look 43 = .ok (.getfield 9, 3) := by decide +kernel
theorem dX5_look_46 : decode cX5_look 46 = .ok (.iload_n 2, 1) := by decide +kernel
theorem dX5_look_47 : decode cX5_look 47 = .ok (.iconst 0, 1) := by decide +kernel
theorem dX5_look_48 : decode cX5_look 48 = .ok (.iastore, 1) := by decide +kernel
theorem dX5_look_49 : decode cX5_look 49 = .ok (.iinc 2 1, 3) := by decide +kernel
theorem dX5_look_52 : decode cX5_look 52 = .ok (.goto (-15), 3) := by decide +kernel
theorem dX5_look_55 : decode cX5_look 55 = .ok (.iconst 0, 1) := by decide +kernel
theorem dX5_look_56 : decode cX5_look 56 = .ok (.istore_n 2, 1) := by decide +kernel
theorem dX5_look_57 : decode cX5_look 57 = .ok (.iload_n 2, 1) := by decide +kernel
theorem dX5_look_58 : decode cX5_look 58 = .ok (.aload_n 0, 1) := by decide +kernel
theorem dX5_look_59 : decode cX5_look 59 = .ok (.getfield 27, 3) := by decide +kernel
theorem dX5_look_62 : decode cX5_look 62 = .ok (.if_icmp .ge 34, 3) := by decide +kernel
theorem dX5_look_65 : decode cX5_look 65 = .ok (.aload_n 1, 1) := by decide +kernel
theorem dX5_look_66 : decode cX5_look 66 = .ok (.iload_n 2, 1) := by decide +kernel
theorem dX5_look_67 : decode cX5_look 67 = .ok (.invokevirtual 52, 3) := by decide +kernel
theorem dX5_look_70 : decode cX5_look 70 = .ok (.istore_n 3, 1) := by decide +kernel
theorem dX5_look_71 : decode cX5_look 71 = .ok (.iload_n 3, 1) := by decide +kernel
theorem dX5_look_72 : decode cX5_look 72 = .ok (.invokestatic 55, 3) := by decide +kernel
theorem dX5_look_75 : decode cX5_look 75 = .ok (.ifCond .eq 15, 3) := by decide +kernel
theorem dX5_look_78 : decode cX5_look 78 = .ok (.aload_n 0, 1) := by decide +kernel
theorem dX5_look_79 : decode cX5_look 79 = .ok (.getfield 9, 3) := by decide +kernel
theorem dX5_look_82 : decode cX5_look 82 = .ok (.iload_n 3, 1) := by decide +kernel
theorem dX5_look_83 : decode cX5_look 83 = .ok (.dup2, 1) := by decide +kernel
theorem dX5_look_84 : decode cX5_look 84 = .ok (.iaload, 1) := by decide +kernel
theorem dX5_look_85 : decode cX5_look 85 = .ok (.iconst 1, 1) := by decide +kernel
theorem dX5_look_86 : decode cX5_look 86 = .ok (.iload_n 2, 1) := by decide +kernel
theorem dX5_look_87 : decode cX5_look 87 = .ok (.ishl, 1) := by decide +kernel
theorem dX5_look_88 : decode cX5_look 88 = .ok (.ior, 1) := by decide +kernel
theorem dX5_look_89 : decode cX5_look 89 = .ok (.iastore, 1) := by decide +kernel
theorem dX5_look_90 : decode cX5_look 90 = .ok (.iinc 2 1, 3) := by decide +kernel
theorem dX5_look_93 : decode cX5_look 93 = .ok (.goto (-36), 3) := by decide +kernel
theorem dX5_look_96 : decode cX5_look 96 = .ok (.iconst 1, 1) := by decide +kernel
theorem dX5_look_97 : decode cX5_look 97 = .ok (.istore_n 2, 1) := by decide +kernel
theorem dX5_look_98 : decode cX5_look 98 = .ok (.iload_n 2, 1) := by decide +kernel
theorem dX5_look_99 : decode cX5_look 99 = .ok (.bipush 24, 2) := by decide +kernel
theorem dX5_look_101 : decode cX5_look 101 = .ok (.if_icmp .ge 55, 3) := by decide +kernel
theorem dX5_look_104 : decode cX5_look 104 = .ok (.iconst 0, 1) := by decide +kernel
theorem dX5_look_105 : decode cX5_look 105 = .ok (.istore_n 3, 1) := by decide +kernel
theorem dX5_look_106 : decode cX5_look 106 = .ok (.iconst 0, 1) := by decide +kernel
theorem dX5_look_107 : decode cX5_look 107 = .ok (.istore 4, 2) := by decide +kernel
theorem dX5_look_109 : decode cX5_look 109 = .ok (.iload 4, 2) := by decide +kernel
theorem dX5_look_111 : decode cX5_look 111 = .ok (.iconst 4, 1) := by decide +kernel
theorem dX5_look_112 : decode cX5_look 112 = .ok (.if_icmp .ge 29, 3) := by decide +kernel
theorem dX5_look_115 : decode cX5_look 115 = .ok (.iload_n 3, 1) := by decide +kernel
theorem dX5_look_116 : decode cX5_look 116 = .ok (.aload_n 0, 1) := by decide +kernel
theorem dX5_look_117 : decode cX5_look 117 = .ok (.getfield 9, 3) := by decide +kernel
theorem dX5_look_120 : decode cX5_look 120 = .ok (.iload 4, 2) := by decide +kernel
theorem dX5_look_122 : decode cX5_look 122 = .ok (.iaload, 1) := by decide +kernel
theorem dX5_look_123 : decode cX5_look 123 = .ok (.aload_n 0, 1) := by decide +kernel
theorem dX5_look_124 : decode cX5_look 124 = .ok (.getfield 9, 3) := by decide +kernel
theorem dX5_look_127 : decode cX5_look 127 = .ok (.iload 4, 2) := by decide +kernel
theorem dX5_look_129 : decode cX5_look 129 = .ok (.iaload, 1) := by decide +kernel
theorem dX5_look_130 : decode cX5_look 130 = .ok (.iload_n 2, 1) := by decide +kernel
theorem dX5_look_131 : decode cX5_look 131 = .ok (.ishr, 1) := by decide +kernel
theorem dX5_look_132 : decode cX5_look 132 = .ok (.iand, 1) := by decide +kernel
theorem dX5_look_133 : decode cX5_look 133 = .ok (.ior, 1) := by decide +kernel
theorem dX5_look_134 : decode cX5_look 134 = .ok (.istore_n 3, 1) := by decide +kernel
theorem dX5_look_135 : decode cX5_look 135 = .ok (.iinc 4 1, 3) := by decide +kernel
theorem dX5_look_138 : decode cX5_look 138 = .ok (.goto (-29), 3) := by decide +kernel
theorem dX5_look_141 : decode cX5_look 141 = .ok (.aload_n 0, 1) := by decide +kernel
theorem dX5_look_142 : decode cX5_look 142 = .ok (.getfield 15, 3) := by decide +kernel
theorem dX5_look_145 : decode cX5_look 145 = .ok (.iload_n 2, 1) := by decide +kernel
theorem dX5_look_146 : decode cX5_look 146 = .ok (.iload_n 3, 1) := by decide +kernel
theorem dX5_look_147 : decode cX5_look 147 = .ok (.iconst (-1), 1) := by decide +kernel
theorem dX5_look_148 : decode cX5_look 148 = .ok (.ixor, 1) := by decide +kernel
theorem dX5_look_149 : decode cX5_look 149 = .ok (.iastore, 1) := by decide +kernel
theorem dX5_look_150 : decode cX5_look 150 = .ok (.iinc 2 1, 3) := by decide +kernel
theorem dX5_look_153 : decode cX5_look 153 = .ok (.goto (-55), 3) := by decide +kernel
theorem dX5_look_156 : decode cX5_look 156 = .ok (.return_, 1) := by decide +kernel
set_option maxRecDepth 20000 in
theorem ggX5_find_X5_findOf : GoodIn wsX5_find wsX5_findOf := goodIn_r _ [7, 2, 1, 8, 9, 10, 11, 12, 13, 14, 15, 16, 17, 18, 19, 20, 21, 22, 23, 24, 25, 26, 27, 28, 29, 30, 31] (by decide +kernel) (by decide +kernel)
set_option maxRecDepth 20000 in
theorem gX5_find_X5_findOf : GoodIn wsX5_find (wsV RX5 59 RX5 yX5_findOf wsX5_findOf) := goodIn_app (goodIn_of _ (by decide +kernel)) ggX5_find_X5_findOf
theorem dX5_find_0 : decode cX5_find 0 = .ok (.aload_n 0, 1) := by decide +kernel
theorem dX5_find_1 : decode cX5_find 1 = .ok (.iconst 0, 1) := by decide +kernel
theorem dX5_find_2 : decode cX5_find 2 = .ok (.putfield 40, 3) := by decide +kernel
theorem dX5_find_5 : decode cX5_find 5 = .ok (.iconst 1, 1) := by decide +kernel
theorem dX5_find_6 : decode cX5_find 6 = .ok (.istore_n 2, 1) := by decide +kernel
theorem dX5_find_7 : decode cX5_find 7 = .ok (.iload_n 1, 1) := by decide +kernel
theorem dX5_find_8 : decode cX5_find 8 = .ok (.iconst 2, 1) := by decide +kernel
theorem dX5_find_9 : decode cX5_find 9 = .ok (.iload_n 2, 1) := by decide +kernel
theorem dX5_find_10 : decode cX5_find 10 = .ok (.imul, 1) := by decide +kernel
theorem dX5_find_11 : decode cX5_find 11 = .ok (.iadd, 1) := by decide +kernel
theorem dX5_find_12 : decode cX5_find 12 = .ok (.aload_n 0, 1) := by decide +kernel
theorem dX5_find_13 : decode cX5_find 13 = .ok (.getfield 27, 3) := by decide +kernel
theorem dX5_find_16 : decode cX5_find 16 = .ok (.if_icmp .gt 15, 3) := by decide +kernel
theorem dX5_find_19 : decode cX5_find 19 = .ok (.aload_n 0, 1) := by decide +kernel
theorem dX5_find_20 : decode cX5_find 20 = .ok (.iload_n 1, 1) := by decide +kernel
theorem dX5_find_21 : decode cX5_find 21 = .ok (.iload_n 2, 1) := by decide +kernel
theorem dX5_find_22 : decode cX5_find 22 = .ok (.invokevirtual 59, 3) := by decide +kernel
theorem dX5_find_25 : decode cX5_find 25 = .ok (.iinc 2 1, 3) := by decide +kernel
theorem dX5_find_28 : decode cX5_find 28 = .ok (.goto (-21), 3) := by decide +kernel
theorem dX5_find_31 : decode cX5_find 31 = .ok (.return_, 1) := by decide +kernel
set_option maxRecDepth 20000 in
theorem ggX5_findOf_J6_bitCount_0f7a4 : GoodIn wsX5_findOf wsJ6_bitCount_0f7a4 := goodIn_r _ [13, 14, 15, 16] (by decide +kernel) (by decide +kernel)
set_option maxRecDepth 20000 in
theorem gX5_findOf_J6_bitCount_0f7a4 : GoodIn wsX5_findOf (va_wsS RX5 63 yJ6_bitCount_0f7a4 wsJ6_bitCount_0f7a4) := goodIn_app (goodIn_of _ (by decide +kernel)) ggX5_findOf_J6_bitCount_0f7a4
theorem dX5_findOf_0 : decode cX5_findOf 0 = .ok (.iconst 1, 1) := by decide +kernel
theorem dX5_findOf_1 : decode cX5_findOf 1 = .ok (.iload_n 2, 1) := by decide +kernel
theorem dX5_findOf_2 : decode cX5_findOf 2 = .ok (.ishl, 1) := by decide +kernel
theorem dX5_findOf_3 : decode cX5_findOf 3 = .ok (.iconst 1, 1) := by decide +kernel
theorem dX5_findOf_4 : decode cX5_findOf 4 = .ok (.isub, 1) := by decide +kernel
theorem dX5_findOf_5 : decode cX5_findOf 5 = .ok (.iload_n 1, 1) := by decide +kernel
theorem dX5_findOf_6 : decode cX5_findOf 6 = .ok (.ishl, 1) := by decide +kernel
theorem dX5_findOf_7 : decode cX5_findOf 7 = .ok (.istore_n 3, 1) := by decide +kernel
theorem dX5_findOf_8 : decode cX5_findOf 8 = .ok (.iconst 0, 1) := by decide +kernel
theorem dX5_findOf_9 : decode cX5_findOf 9 = .ok (.istore 4, 2) := by decide +kernel
theorem dX5_findOf_11 : decode cX5_findOf 11 = .ok (.iconst 2, 1) := by decide +kernel
theorem dX5_findOf_12 : decode cX5_findOf 12 = .ok (.istore 5, 2) := by decide +kernel
theorem dX5_findOf_14 : decode cX5_findOf 14 = .ok (.iload 5, 2) := by decide +kernel
theorem dX5_findOf_16 : decode cX5_findOf 16 = .ok (.bipush 24, 2) := by decide +kernel
theorem dX5_findOf_18 : decode cX5_findOf 18 = .ok (.if_icmp .gt 143, 3) := by decide +kernel
theorem dX5_findOf_21 : decode cX5_findOf 21 = .ok (.iload_n 1, 1) := by decide +kernel
theorem dX5_findOf_22 : decode cX5_findOf 22 = .ok (.iload 5, 2) := by decide +kernel
theorem dX5_findOf_24 : decode cX5_findOf 24 = .ok (.iload_n 2, 1) := by decide +kernel
theorem dX5_findOf_25 : decode cX5_findOf 25 = .ok (.imul, 1) := by decide +kernel
theorem dX5_findOf_26 : decode cX5_findOf 26 = .ok (.iadd, 1) := by decide +kernel
theorem dX5_findOf_27 : decode cX5_findOf 27 = .ok (.aload_n 0, 1) := by decide +kernel
theorem dX5_findOf_28 : decode cX5_findOf 28 = .ok (.getfield 27, 3) := by decide +kernel
theorem dX5_findOf_31 : decode cX5_findOf 31 = .ok (.if_icmp .gt 130, 3) := by decide +kernel
theorem dX5_findOf_34 : decode cX5_findOf 34 = .ok (.iload 5, 2) := by decide +kernel
theorem dX5_findOf_36 : decode cX5_findOf 36 = .ok (.iconst 1, 1) := by decide +kernel
theorem dX5_findOf_37 : decode cX5_findOf 37 = .ok (.isub, 1) := by decide +kernel
theorem dX5_findOf_38 : decode cX5_findOf 38 = .ok (.iload_n 2, 1) := by decide +kernel
theorem dX5_findOf_39 : decode cX5_findOf 39 = .ok (.imul, 1) := by decide +kernel
theorem dX5_findOf_40 : decode cX5_findOf 40 = .ok (.istore 6, 2) := by decide +kernel
theorem dX5_findOf_42 : decode cX5_findOf 42 = .ok (.iload 6, 2) := by decide +kernel
theorem dX5_findOf_44 : decode cX5_findOf 44 = .ok (.iconst 1, 1) := by decide +kernel
theorem dX5_findOf_45 : decode cX5_findOf 45 = .ok (.if_icmp .lt 26, 3) := by decide +kernel
theorem dX5_findOf_48 : decode cX5_findOf 48 = .ok (.iload 6, 2) := by decide +kernel
theorem dX5_findOf_50 : decode cX5_findOf 50 = .ok (.bipush 24, 2) := by decide +kernel
theorem dX5_findOf_52 : decode cX5_findOf 52 = .ok (.if_icmp .ge 19, 3) := by decide +kernel
theorem dX5_findOf_55 : decode cX5_findOf 55 = .ok (.aload_n 0, 1) := by decide +kernel
theorem dX5_findOf_56 : decode cX5_findOf 56 = .ok (.getfield 40, 3) := by decide +kernel
theorem dX5_findOf_59 : decode cX5_findOf 59 = .ok (.ifCond .lt 12, 3) := by decide +kernel
theorem dX5_findOf_62 : decode cX5_findOf 62 = .ok (.aload_n 0, 1) := by decide +kernel
theorem dX5_findOf_63 : decode cX5_findOf 63 = .ok (.getfield 40, 3) := by decide +kernel
theorem dX5_findOf_66 : decode cX5_findOf 66 = .ok (.bipush 60, 2) := by decide +kernel
theorem dX5_findOf_68 : decode cX5_findOf 68 = .ok (.if_icmp .lt 4, 3) := by decide +kernel
theorem dX5_findOf_71 : decode cX5_findOf 71 = .ok (.return_, 1) := by decide +kernel
theorem dX5_findOf_72 : decode cX5_findOf 72 = .ok (.iload 4, 2) := by decide +kernel
theorem dX5_findOf_74 : decode cX5_findOf 74 = .ok (.aload_n 0, 1) := by decide +kernel
theorem dX5_findOf_75 : decode cX5_findOf 75 = .ok (.getfield 15, 3) := by decide +kernel
theorem dX5_findOf_78 : decode cX5_findOf 78 = .ok (.iload 6, 2) := by decide +kernel
theorem dX5_findOf_80 : decode cX5_findOf 80 = .ok (.iaload, 1) := by decide +kernel
theorem dX5_findOf_81 : decode cX5_findOf 81 = .ok (.iload_n 3, 1) := by decide +kernel
theorem dX5_findOf_82 : decode cX5_findOf 82 = .ok (.iand, 1) := by decide +kernel
theorem dX5_findOf_83 : decode cX5_findOf 83 = .ok (.invokestatic 63, 3) := by decide +kernel
theorem dX5_findOf_86 : decode cX5_findOf 86 = .ok (.iadd, 1) := by decide +kernel
theorem dX5_findOf_87 : decode cX5_findOf 87 = .ok (.istore 4, 2) := by decide +kernel
theorem dX5_findOf_89 : decode cX5_findOf 89 = .ok (.iload 4, 2) := by decide +kernel
theorem dX5_findOf_91 : decode cX5_findOf 91 = .ok (.aload_n 0, 1) := by decide +kernel
theorem dX5_findOf_92 : decode cX5_findOf 92 = .ok (.getfield 37, 3) := by decide +kernel
theorem dX5_findOf_95 : decode cX5_findOf 95 = .ok (.if_icmp .le 4, 3) := by decide +kernel
theorem dX5_findOf_98 : decode cX5_findOf 98 = .ok (.return_, 1) := by decide +kernel
theorem dX5_findOf_99 : decode cX5_findOf 99 = .ok (.aload_n 0, 1) := by decide +kernel
theorem dX5_findOf_100 : decode cX5_findOf 100 = .ok (.getfield 18, 3) := by decide +kernel
theorem dX5_findOf_103 : decode cX5_findOf 103 = .ok (.aload_n 0, 1) := by decide +kernel
theorem dX5_findOf_104 : decode cX5_findOf 104 = .ok (.getfield 40, 3) := by decide +kernel
theorem dX5_findOf_107 : decode cX5_findOf 107 = .ok (.iload_n 2, 1) := by decide +kernel
theorem dX5_findOf_108 : decode cX5_findOf 108 = .ok (.iastore, 1) := by decide +kernel
theorem dX5_findOf_109 : decode cX5_findOf 109 = .ok (.aload_n 0, 1) := by decide +kernel
theorem dX5_findOf_110 : decode cX5_findOf 110 = .ok (.getfield 21, 3) := by decide +kernel
theorem dX5_findOf_113 : decode cX5_findOf 113 = .ok (.aload_n 0, 1) := by decide +kernel
theorem dX5_findOf_114 : decode cX5_findOf 114 = .ok (.getfield 40, 3) := by decide +kernel
theorem dX5_findOf_117 : decode cX5_findOf 117 = .ok (.iload_n 1, 1) := by decide +kernel
theorem dX5_findOf_118 : decode cX5_findOf 118 = .ok (.iload 5, 2) := by decide +kernel
theorem dX5_findOf_120 : decode cX5_findOf 120 = .ok (.iload_n 2, 1) := by decide +kernel
theorem dX5_findOf_121 : decode cX5_findOf 121 = .ok (.imul, 1) := by decide +kernel
theorem dX5_findOf_122 : decode cX5_findOf 122 = .ok (.iadd, 1) := by decide +kernel
theorem dX5_findOf_123 : decode cX5_findOf 123 = .ok (.iastore, 1) := by decide +kernel
theorem dX5_findOf_124 : decode cX5_findOf 124 = .ok (.aload_n 0, 1) := by decide +kernel
theorem dX5_findOf_125 : decode cX5_findOf 125 = .ok (.getfield 24, 3) := by decide +kernel
theorem dX5_findOf_128 : decode cX5_findOf 128 = .ok (.aload_n 0, 1) := by decide +kernel
theorem dX5_findOf_129 : decode cX5_findOf 129 = .ok (.getfield 40, 3) := by decide +kernel
theorem dX5_findOf_132 : decode cX5_findOf 132 = .ok (.aload_n 0, 1) := by decide +kernel
theorem dX5_findOf_133 : decode cX5_findOf 133 = .ok (.getfield 31, 3) := by decide +kernel
theorem dX5_findOf_136 : decode cX5_findOf 136 = .ok (.iload 4, 2) := by decide +kernel
theorem dX5_findOf_138 : decode cX5_findOf 138 = .ok (.aload_n 0, 1) := by decide +kernel
theorem dX5_findOf_139 : decode cX5_findOf 139 = .ok (.getfield 34, 3) := by decide +kernel
theorem dX5_findOf_142 : decode cX5_findOf 142 = .ok (.imul, 1) := by decide +kernel
theorem dX5_findOf_143 : decode cX5_findOf 143 = .ok (.iadd, 1) := by decide +kernel
theorem dX5_findOf_144 : decode cX5_findOf 144 = .ok (.iastore, 1) := by decide +kernel
theorem dX5_findOf_145 : decode cX5_findOf 145 = .ok (.aload_n 0, 1) := by decide +kernel
theorem dX5_findOf_146 : decode cX5_findOf 146 = .ok (.dup, 1) := by decide +kernel
theorem dX5_findOf_147 : decode cX5_findOf 147 = .ok (.getfield 40, 3) := by decide +kernel
theorem dX5_findOf_150 : decode cX5_findOf 150 = .ok (.iconst 1, 1) := by decide +kernel
theorem dX5_findOf_151 : decode cX5_findOf 151 = .ok (.iadd, 1) := by decide +kernel
theorem dX5_findOf_152 : decode cX5_findOf 152 = .ok (.putfield 40, 3) := by decide +kernel
theorem dX5_findOf_155 : decode cX5_findOf 155 = .ok (.iinc 5 1, 3) := by decide +kernel
theorem dX5_findOf_158 : decode cX5_findOf 158 = .ok (.goto (-144), 3) := by decide +kernel
theorem dX5_findOf_161 : decode cX5_findOf 161 = .ok (.return_, 1) := by decide +kernel
theorem dX6_init_0 : decode cX6_init 0 = .ok (.aload_n 0, 1) := by decide +kernel
theorem dX6_init_1 : decode cX6_init 1 = .ok (.invokespecial 3, 3) := by decide +kernel
theorem dX6_init_4 : decode cX6_init 4 = .ok (.aload_n 0, 1) := by decide +kernel
theorem dX6_init_5 : decode cX6_init 5 = .ok (.bipush 24, 2) := by decide +kernel
theorem dX6_init_7 : decode cX6_init 7 = .ok (.newarray .int, 2) := by decide +kernel
theorem dX6_init_9 : decode cX6_init 9 = .ok (.putfield 9, 3) := by decide +kernel
theorem dX6_init_12 : decode cX6_init 12 = .ok (.aload_n 0, 1) := by decide +kernel
theorem dX6_init_13 : decode cX6_init 13 = .ok (.bipush 24, 2) := by decide +kernel
theorem dX6_init_15 : decode cX6_init 15 = .ok (.newarray .int, 2) := by decide +kernel
theorem dX6_init_17 : decode cX6_init 17 = .ok (.putfield 15, 3) := by decide +kernel
theorem dX6_init_20 : decode cX6_init 20 = .ok (.aload_n 0, 1) := by decide +kernel
theorem dX6_init_21 : decode cX6_init 21 = .ok (.bipush 24, 2) := by decide +kernel
theorem dX6_init_23 : decode cX6_init 23 = .ok (.newarray .int, 2) := by decide +kernel
theorem dX6_init_25 : decode cX6_init 25 = .ok (.putfield 18, 3) := by decide +kernel
theorem dX6_init_28 : decode cX6_init 28 = .ok (.aload_n 0, 1) := by decide +kernel
theorem dX6_init_29 : decode cX6_init 29 = .ok (.iconst 0, 1) := by decide +kernel
theorem dX6_init_30 : decode cX6_init 30 = .ok (.putfield 21, 3) := by decide +kernel
theorem dX6_init_33 : decode cX6_init 33 = .ok (.aload_n 0, 1) := by decide +kernel
theorem dX6_init_34 : decode cX6_init 34 = .ok (.iconst 0, 1) := by decide +kernel
theorem dX6_init_35 : decode cX6_init 35 = .ok (.putfield 25, 3) := by decide +kernel
theorem dX6_init_38 : decode cX6_init 38 = .ok (.return_, 1) := by decide +kernel
set_option maxRecDepth 20000 in
theorem ggX6_refresh_X6_look : GoodIn wsX6_refresh wsX6_look := goodIn_r _ [7, 2, 8, 9, 10, 11, 12, 13, 14, 15, 16, 17, 18, 19, 20, 21, 22, 23, 24, 25, 26, 27, 6, 28, 29, 30, 31, 32, 33, 34, 35, 36, 37] (by decide +kernel) (by decide +kernel)
set_option maxRecDepth 20000 in
theorem gX6_refresh_X6_look : GoodIn wsX6_refresh (wsV RX6 34 RX6 yX6_look wsX6_look) := goodIn_app (goodIn_of _ (by decide +kernel)) ggX6_refresh_X6_look
theorem dX6_refresh_0 : decode cX6_refresh 0 = .ok (.aload_n 0, 1) := by decide +kernel
theorem dX6_refresh_1 : decode cX6_refresh 1 = .ok (.getfield 25, 3) := by decide +kernel
theorem dX6_refresh_4 : decode cX6_refresh 4 = .ok (.ifCond .eq 4, 3) := by decide +kernel
theorem dX6_refresh_7 : decode cX6_refresh 7 = .ok (.return_, 1) := by decide +kernel
theorem dX6_refresh_8 : decode cX6_refresh 8 = .ok (.aload_n 0, 1) := by decide +kernel
theorem dX6_refresh_9 : decode cX6_refresh 9 = .ok (.iconst 1, 1) := by decide +kernel
theorem dX6_refresh_10 : decode cX6_refresh 10 = .ok (.putfield 25, 3) := by decide +kernel
theorem dX6_refresh_13 : decode cX6_refresh 13 = .ok (.aload_n 0, 1) := by decide +kernel
theorem dX6_refresh_14 : decode cX6_refresh 14 = .ok (.iconst 0, 1) := by decide +kernel
theorem dX6_refresh_15 : decode cX6_refresh 15 = .ok (.putfield 21, 3) := by decide +kernel
theorem dX6_refresh_18 : decode cX6_refresh 18 = .ok (.aload_n 1, 1) := by decide +kernel
theorem dX6_refresh_19 : decode cX6_refresh 19 = .ok (.getfield 29, 3) := by decide +kernel
theorem dX6_refresh_22 : decode cX6_refresh 22 = .ok (.istore_n 2, 1) := by decide +kernel
theorem dX6_refresh_23 : decode cX6_refresh 23 = .ok (.iload_n 2, 1) := by decide +kernel
theorem dX6_refresh_24 : decode cX6_refresh 24 = .ok (.iconst 2, 1) := by decide +kernel
theorem dX6_refresh_25 : decode cX6_refresh 25 = .ok (.if_icmp .lt 36, 3) := by decide +kernel
theorem dX6_refresh_28 : decode cX6_refresh 28 = .ok (.iconst 0, 1) := by decide +kernel
theorem dX6_refresh_29 : decode cX6_refresh 29 = .ok (.istore_n 3, 1) := by decide +kernel
theorem dX6_refresh_30 : decode cX6_refresh 30 = .ok (.iload_n 3, 1) := by decide +kernel
theorem dX6_refresh_31 : decode cX6_refresh 31 = .ok (.iload_n 2, 1) := by decide +kernel
theorem dX6_refresh_32 : decode cX6_refresh 32 = .ok (.iadd, 1) := by decide +kernel
theorem dX6_refresh_33 : decode cX6_refresh 33 = .ok (.aload_n 1, 1) := by decide +kernel
theorem dX6_refresh_34 : decode cX6_refresh 34 = .ok (.getfield 29, 3) := by decide +kernel
theorem dX6_refresh_37 : decode cX6_refresh 37 = .ok (.if_icmp .gt 18, 3) := by decide +kernel
theorem dX6_refresh_40 : decode cX6_refresh 40 = .ok (.aload_n 0, 1) := by decide +kernel
theorem dX6_refresh_41 : decode cX6_refresh 41 = .ok (.aload_n 1, 1) := by decide +kernel
theorem dX6_refresh_42 : decode cX6_refresh 42 = .ok (.iload_n 3, 1) := by decide +kernel
theorem dX6_refresh_43 : decode cX6_refresh 43 = .ok (.iload_n 3, 1) := by decide +kernel
theorem dX6_refresh_44 : decode cX6_refresh 44 = .ok (.iload_n 2, 1) := by decide +kernel
theorem dX6_refresh_45 : decode cX6_refresh 45 = .ok (.iadd, 1) := by decide +kernel
theorem dX6_refresh_46 : decode cX6_refresh 46 = .ok (.invokevirtual 34, 3) := by decide +kernel
theorem dX6_refresh_49 : decode cX6_refresh 49 = .ok (.iinc 3 1, 3) := by decide +kernel
theorem dX6_refresh_52 : decode cX6_refresh 52 = .ok (.goto (-22), 3) := by decide +kernel
theorem dX6_refresh_55 : decode cX6_refresh 55 = .ok (.iinc 2 (-1), 3) := by decide +kernel
theorem dX6_refresh_58 : decode cX6_refresh 58 = .ok (.goto (-35), 3) := by decide +kernel
theorem dX6_refresh_61 : decode cX6_refresh 61 = .ok (.return_, 1) := by decide +kernel
set_option maxRecDepth 20000 in
theorem ggX6_look_X7_leastPeriod : GoodIn wsX6_look wsX7_leastPeriod := goodIn_r _ [9, 10, 11, 12, 8, 13, 14, 15, 16, 17, 18, 19, 30, 31, 32] (by decide +kernel) (by decide +kernel)
set_option maxRecDepth 20000 in
theorem gX6_look_X7_leastPeriod : GoodIn wsX6_look (wsV RX6 38 RX7 yX7_leastPeriod wsX7_leastPeriod) := goodIn_app (goodIn_of _ (by decide +kernel)) ggX6_look_X7_leastPeriod
set_option maxRecDepth 20000 in
theorem ggX6_look_X6_goesOn : GoodIn wsX6_look wsX6_goesOn := goodIn_r _ [23, 24, 15, 16, 8, 17, 18, 19, 30, 31, 32] (by decide +kernel) (by decide +kernel)
set_option maxRecDepth 20000 in
theorem gX6_look_X6_goesOn : GoodIn wsX6_look (va_wsS RX6 42 yX6_goesOn wsX6_goesOn) := goodIn_app (goodIn_of _ (by decide +kernel)) ggX6_look_X6_goesOn
theorem dX6_look_0 : decode cX6_look 0 = .ok (.aload_n 1, 1) := by decide +kernel
theorem dX6_look_1 : decode cX6_look 1 = .ok (.iload_n 2, 1) := by decide +kernel
theorem dX6_look_2 : decode cX6_look 2 = .ok (.iload_n 3, 1) := by decide +kernel
theorem dX6_look_3 : decode cX6_look 3 = .ok (.invokevirtual 38, 3) := by decide +kernel
theorem dX6_look_6 : decode cX6_look 6 = .ok (.istore 4, 2) := by decide +kernel
theorem dX6_look_8 : decode cX6_look 8 = .ok (.iconst 2, 1) := by decide +kernel
theorem dX6_look_9 : decode cX6_look 9 = .ok (.iload 4, 2) := by decide +kernel
theorem dX6_look_11 : decode cX6_look 11 = .ok (.imul, 1) := by decide +kernel
theorem dX6_look_12 : decode cX6_look 12 = .ok (.iload_n 3, 1) := by decide +kernel
theorem dX6_look_13 : decode cX6_look 13 = .ok (.iload_n 2, 1) := by decide +kernel
theorem dX6_look_14 : decode cX6_look 14 = .ok (.isub, 1) := by decide +kernel
theorem dX6_look_15 : decode cX6_look 15 = .ok (.if_icmp .gt 14, 3) := by decide +kernel
theorem dX6_look_18 : decode cX6_look 18 = .ok (.aload_n 1, 1) := by decide +kernel
theorem dX6_look_19 : decode cX6_look 19 = .ok (.iload_n 2, 1) := by decide +kernel
theorem dX6_look_20 : decode cX6_look 20 = .ok (.iload_n 3, 1) := by decide +kernel
theorem dX6_look_21 : decode cX6_look 21 = .ok (.iload 4, 2) := by decide +kernel
theorem dX6_look_23 : decode cX6_look 23 = .ok (.invokestatic 42, 3) := by decide +kernel
theorem dX6_look_26 : decode cX6_look 26 = .ok (.ifCond .eq 4, 3) := by decide +kernel
theorem dX6_look_29 : decode cX6_look 29 = .ok (.return_, 1) := by decide +kernel
theorem dX6_look_30 : decode cX6_look 30 = .ok (.aload_n 0, 1) := by decide +kernel
theorem dX6_look_31 : decode cX6_look 31 = .ok (.getfield 21, 3) := by decide +kernel
theorem dX6_look_34 : decode cX6_look 34 = .ok (.ifCond .lt 53, 3) := by decide +kernel
theorem dX6_look_37 : decode cX6_look 37 = .ok (.aload_n 0, 1) := by decide +kernel
theorem dX6_look_38 : decode cX6_look 38 = .ok (.getfield 21, 3) := by decide +kernel
theorem dX6_look_41 : decode cX6_look 41 = .ok (.bipush 24, 2) := by decide +kernel
theorem dX6_look_43 : decode cX6_look 43 = .ok (.if_icmp .ge 44, 3) := by decide +kernel
theorem dX6_look_46 : decode cX6_look 46 = .ok (.aload_n 0, 1) := by decide +kernel
theorem dX6_look_47 : decode cX6_look 47 = .ok (.getfield 9, 3) := by decide +kernel
theorem dX6_look_50 : decode cX6_look 50 = .ok (.aload_n 0, 1) := by decide +kernel
theorem dX6_look_51 : decode cX6_look 51 = .ok (.getfield 21, 3) := by decide +kernel
theorem dX6_look_54 : decode cX6_look 54 = .ok (.iload_n 2, 1) := by decide +kernel
theorem dX6_look_55 : decode cX6_look 55 = .ok (.iastore, 1) := by decide +kernel
theorem dX6_look_56 : decode cX6_look 56 = .ok (.aload_n 0, 1) := by decide +kernel
theorem dX6_look_57 : decode cX6_look 57 = .ok (.getfield 15, 3) := by decide +kernel
theorem dX6_look_60 : decode cX6_look 60 = .ok (.aload_n 0, 1) := by decide +kernel
theorem dX6_look_61 : decode cX6_look 61 = .ok (.getfield 21, 3) := by decide +kernel
theorem dX6_look_64 : decode cX6_look 64 = .ok (.iload_n 3, 1) := by decide +kernel
theorem dX6_look_65 : decode cX6_look 65 = .ok (.iastore, 1) := by decide +kernel
theorem dX6_look_66 : decode cX6_look 66 = .ok (.aload_n 0, 1) := by decide +kernel
theorem dX6_look_67 : decode cX6_look 67 = .ok (.getfield 18, 3) := by decide +kernel
theorem dX6_look_70 : decode cX6_look 70 = .ok (.aload_n 0, 1) := by decide +kernel
theorem dX6_look_71 : decode cX6_look 71 = .ok (.getfield 21, 3) := by decide +kernel
theorem dX6_look_74 : decode cX6_look 74 = .ok (.iload 4, 2) := by decide +kernel
theorem dX6_look_76 : decode cX6_look 76 = .ok (.iastore, 1) := by decide +kernel
theorem dX6_look_77 : decode cX6_look 77 = .ok (.aload_n 0, 1) := by decide +kernel
theorem dX6_look_78 : decode cX6_look 78 = .ok (.dup, 1) := by decide +kernel
theorem dX6_look_79 : decode cX6_look 79 = .ok (.getfield 21, 3) := by decide +kernel
theorem dX6_look_82 : decode cX6_look 82 = .ok (.iconst 1, 1) := by decide +kernel
theorem dX6_look_83 : decode cX6_look 83 = .ok (.iadd, 1) := by decide +kernel
theorem dX6_look_84 : decode cX6_look 84 = .ok (.putfield 21, 3) := by decide +kernel
theorem dX6_look_87 : decode cX6_look 87 = .ok (.return_, 1) := by decide +kernel
set_option maxRecDepth 20000 in
theorem ggX6_goesOn_X7_letter : GoodIn wsX6_goesOn wsX7_letter := goodIn_r _ [5, 6, 7, 8, 9, 10] (by decide +kernel) (by decide +kernel)
set_option maxRecDepth 20000 in
theorem gX6_goesOn_X7_letter : GoodIn wsX6_goesOn (wsV RX6 46 RX7 yX7_letter wsX7_letter) := goodIn_app (goodIn_of _ (by decide +kernel)) ggX6_goesOn_X7_letter
theorem dX6_goesOn_0 : decode cX6_goesOn 0 = .ok (.iload_n 1, 1) := by decide +kernel
theorem dX6_goesOn_1 : decode cX6_goesOn 1 = .ok (.ifCond .le 22, 3) := by decide +kernel
theorem dX6_goesOn_4 : decode cX6_goesOn 4 = .ok (.aload_n 0, 1) := by decide +kernel
theorem dX6_goesOn_5 : decode cX6_goesOn 5 = .ok (.iload_n 1, 1) := by decide +kernel
theorem dX6_goesOn_6 : decode cX6_goesOn 6 = .ok (.iconst 1, 1) := by decide +kernel
theorem dX6_goesOn_7 : decode cX6_goesOn 7 = .ok (.isub, 1) := by decide +kernel
theorem dX6_goesOn_8 : decode cX6_goesOn 8 = .ok (.invokevirtual 46, 3) := by decide +kernel
theorem dX6_goesOn_11 : decode cX6_goesOn 11 = .ok (.aload_n 0, 1) := by decide +kernel
theorem dX6_goesOn_12 : decode cX6_goesOn 12 = .ok (.iload_n 1, 1) := by decide +kernel
theorem dX6_goesOn_13 : decode cX6_goesOn 13 = .ok (.iconst 1, 1) := by decide +kernel
theorem dX6_goesOn_14 : decode cX6_goesOn 14 = .ok (.isub, 1) := by decide +kernel
theorem dX6_goesOn_15 : decode cX6_goesOn 15 = .ok (.iload_n 3, 1) := by decide +kernel
theorem dX6_goesOn_16 : decode cX6_goesOn 16 = .ok (.iadd, 1) := by decide +kernel
theorem dX6_goesOn_17 : decode cX6_goesOn 17 = .ok (.invokevirtual 46, 3) := by decide +kernel
theorem dX6_goesOn_20 : decode cX6_goesOn 20 = .ok (.if_icmp .eq 26, 3) := by decide +kernel
theorem dX6_goesOn_23 : decode cX6_goesOn 23 = .ok (.iload_n 2, 1) := by decide +kernel
theorem dX6_goesOn_24 : decode cX6_goesOn 24 = .ok (.aload_n 0, 1) := by decide +kernel
theorem dX6_goesOn_25 : decode cX6_goesOn 25 = .ok (.getfield 29, 3) := by decide +kernel
theorem dX6_goesOn_28 : decode cX6_goesOn 28 = .ok (.if_icmp .ge 22, 3) := by decide +kernel
theorem dX6_goesOn_31 : decode cX6_goesOn 31 = .ok (.aload_n 0, 1) := by decide +kernel
theorem dX6_goesOn_32 : decode cX6_goesOn 32 = .ok (.iload_n 2, 1) := by decide +kernel
theorem dX6_goesOn_33 : decode cX6_goesOn 33 = .ok (.invokevirtual 46, 3) := by decide +kernel
theorem dX6_goesOn_36 : decode cX6_goesOn 36 = .ok (.aload_n 0, 1) := by decide +kernel
theorem dX6_goesOn_37 : decode cX6_goesOn 37 = .ok (.iload_n 2, 1) := by decide +kernel
theorem dX6_goesOn_38 : decode cX6_goesOn 38 = .ok (.iload_n 3, 1) := by decide +kernel
theorem dX6_goesOn_39 : decode cX6_goesOn 39 = .ok (.isub, 1) := by decide +kernel
theorem dX6_goesOn_40 : decode cX6_goesOn 40 = .ok (.invokevirtual 46, 3) := by decide +kernel
theorem dX6_goesOn_43 : decode cX6_goesOn 43 = .ok (.if_icmp .ne 7, 3) := by decide +kernel
theorem dX6_goesOn_46 : decode cX6_goesOn 46 = .ok (.iconst 1, 1) := by decide +kernel
theorem dX6_goesOn_47 : decode cX6_goesOn 47 = .ok (.goto 4, 3) := by decide +kernel
theorem dX6_goesOn_50 : decode cX6_goesOn 50 = .ok (.iconst 0, 1) := by decide +kernel
theorem dX6_goesOn_51 : decode cX6_goesOn 51 = .ok (.ireturn, 1) := by decide +kernel
theorem dX6_tell_0 : decode cX6_tell 0 = .ok (.iload_n 1, 1) := by decide +kernel
theorem dX6_tell_1 : decode cX6_tell 1 = .ok (.ifCond .lt 17, 3) := by decide +kernel
theorem dX6_tell_4 : decode cX6_tell 4 = .ok (.iload_n 1, 1) := by decide +kernel
theorem dX6_tell_5 : decode cX6_tell 5 = .ok (.aload_n 0, 1) := by decide +kernel
theorem dX6_tell_6 : decode cX6_tell 6 = .ok (.getfield 21, 3) := by decide +kernel
theorem dX6_tell_9 : decode cX6_tell 9 = .ok (.if_icmp .ge 9, 3) := by decide +kernel
theorem dX6_tell_12 : decode cX6_tell 12 = .ok (.iload_n 1, 1) := by decide +kernel
theorem dX6_tell_13 : decode cX6_tell 13 = .ok (.bipush 24, 2) := by decide +kernel
theorem dX6_tell_15 : decode cX6_tell 15 = .ok (.if_icmp .lt 6, 3) := by decide +kernel
theorem dX6_tell_18 : decode cX6_tell 18 = .ok (.ldc 50, 2) := by decide +kernel
theorem dX6_tell_20 : decode cX6_tell 20 = .ok (.ireturn, 1) := by decide +kernel
theorem dX6_tell_21 : decode cX6_tell 21 = .ok (.iload_n 2, 1) := by decide +kernel
theorem dX6_tell_22 : decode cX6_tell 22 = .ok (.ifCond .ne 10, 3) := by decide +kernel
theorem dX6_tell_25 : decode cX6_tell 25 = .ok (.aload_n 0, 1) := by decide +kernel
theorem dX6_tell_26 : decode cX6_tell 26 = .ok (.getfield 9, 3) := by decide +kernel
theorem dX6_tell_29 : decode cX6_tell 29 = .ok (.iload_n 1, 1) := by decide +kernel
theorem dX6_tell_30 : decode cX6_tell 30 = .ok (.iaload, 1) := by decide +kernel
theorem dX6_tell_31 : decode cX6_tell 31 = .ok (.ireturn, 1) := by decide +kernel
theorem dX6_tell_32 : decode cX6_tell 32 = .ok (.iload_n 2, 1) := by decide +kernel
theorem dX6_tell_33 : decode cX6_tell 33 = .ok (.iconst 1, 1) := by decide +kernel
theorem dX6_tell_34 : decode cX6_tell 34 = .ok (.if_icmp .ne 12, 3) := by decide +kernel
theorem dX6_tell_37 : decode cX6_tell 37 = .ok (.aload_n 0, 1) := by decide +kernel
theorem dX6_tell_38 : decode cX6_tell 38 = .ok (.getfield 15, 3) := by decide +kernel
theorem dX6_tell_41 : decode cX6_tell 41 = .ok (.iload_n 1, 1) := by decide +kernel
theorem dX6_tell_42 : decode cX6_tell 42 = .ok (.iaload, 1) := by decide +kernel
theorem dX6_tell_43 : decode cX6_tell 43 = .ok (.goto 9, 3) := by decide +kernel
theorem dX6_tell_46 : decode cX6_tell 46 = .ok (.aload_n 0, 1) := by decide +kernel
theorem dX6_tell_47 : decode cX6_tell 47 = .ok (.getfield 18, 3) := by decide +kernel
theorem dX6_tell_50 : decode cX6_tell 50 = .ok (.iload_n 1, 1) := by decide +kernel
theorem dX6_tell_51 : decode cX6_tell 51 = .ok (.iaload, 1) := by decide +kernel
theorem dX6_tell_52 : decode cX6_tell 52 = .ok (.ireturn, 1) := by decide +kernel
theorem dX7_init_0 : decode cX7_init 0 = .ok (.aload_n 0, 1) := by decide +kernel
theorem dX7_init_1 : decode cX7_init 1 = .ok (.invokespecial 3, 3) := by decide +kernel
theorem dX7_init_4 : decode cX7_init 4 = .ok (.aload_n 0, 1) := by decide +kernel
theorem dX7_init_5 : decode cX7_init 5 = .ok (.bipush 24, 2) := by decide +kernel
theorem dX7_init_7 : decode cX7_init 7 = .ok (.newarray .int, 2) := by decide +kernel
theorem dX7_init_9 : decode cX7_init 9 = .ok (.putfield 9, 3) := by decide +kernel
theorem dX7_init_12 : decode cX7_init 12 = .ok (.aload_n 0, 1) := by decide +kernel
theorem dX7_init_13 : decode cX7_init 13 = .ok (.iconst 5, 1) := by decide +kernel
theorem dX7_init_14 : decode cX7_init 14 = .ok (.newarray .int, 2) := by decide +kernel
theorem dX7_init_16 : decode cX7_init 16 = .ok (.putfield 15, 3) := by decide +kernel
theorem dX7_init_19 : decode cX7_init 19 = .ok (.aload_n 0, 1) := by decide +kernel
theorem dX7_init_20 : decode cX7_init 20 = .ok (.iconst 0, 1) := by decide +kernel
theorem dX7_init_21 : decode cX7_init 21 = .ok (.putfield 18, 3) := by decide +kernel
theorem dX7_init_24 : decode cX7_init 24 = .ok (.iconst 0, 1) := by decide +kernel
theorem dX7_init_25 : decode cX7_init 25 = .ok (.istore_n 1, 1) := by decide +kernel
theorem dX7_init_26 : decode cX7_init 26 = .ok (.iload_n 1, 1) := by decide +kernel
theorem dX7_init_27 : decode cX7_init 27 = .ok (.iconst 5, 1) := by decide +kernel
theorem dX7_init_28 : decode cX7_init 28 = .ok (.if_icmp .ge 20, 3) := by decide +kernel
theorem dX7_init_31 : decode cX7_init 31 = .ok (.aload_n 0, 1) := by decide +kernel
theorem dX7_init_32 : decode cX7_init 32 = .ok (.getfield 15, 3) := by decide +kernel
theorem dX7_init_35 : decode cX7_init 35 = .ok (.iload_n 1, 1) := by decide +kernel
theorem dX7_init_36 : decode cX7_init 36 = .ok (.getstatic 22, 3) := by decide +kernel
theorem dX7_init_39 : decode cX7_init 39 = .ok (.iload_n 1, 1) := by decide +kernel
theorem dX7_init_40 : decode cX7_init 40 = .ok (.iaload, 1) := by decide +kernel
theorem dX7_init_41 : decode cX7_init 41 = .ok (.iastore, 1) := by decide +kernel
theorem dX7_init_42 : decode cX7_init 42 = .ok (.iinc 1 1, 3) := by decide +kernel
theorem dX7_init_45 : decode cX7_init 45 = .ok (.goto (-19), 3) := by decide +kernel
theorem dX7_init_48 : decode cX7_init 48 = .ok (.return_, 1) := by decide +kernel
theorem dX7_copyFrom_0 : decode cX7_copyFrom 0 = .ok (.iconst 0, 1) := by decide +kernel
theorem dX7_copyFrom_1 : decode cX7_copyFrom 1 = .ok (.istore_n 2, 1) := by decide +kernel
theorem dX7_copyFrom_2 : decode cX7_copyFrom 2 = .ok (.iload_n 2, 1) := by decide +kernel
theorem dX7_copyFrom_3 : decode cX7_copyFrom 3 = .ok (.bipush 24, 2) := by decide +kernel
theorem dX7_copyFrom_5 : decode cX7_copyFrom 5 = .ok (.if_icmp .ge 21, 3) := by decide +kernel
theorem dX7_copyFrom_8 : decode cX7_copyFrom 8 = .ok (.aload_n 0, 1) := by decide +kernel
theorem dX7_copyFrom_9 : decode cX7_copyFrom 9 = .ok (.getfield 9, 3) := by decide +kernel
theorem dX7_copyFrom_12 : decode cX7_copyFrom 12 = .ok (.iload_n 2, 1) := by decide +kernel
theorem dX7_copyFrom_13 : decode cX7_copyFrom 13 = .ok (.aload_n 1, 1) := by decide +kernel
theorem dX7_copyFrom_14 : decode cX7_copyFrom 14 = .ok (.getfield 9, 3) := by decide +kernel
theorem dX7_copyFrom_17 : decode cX7_copyFrom 17 = .ok (.iload_n 2, 1) := by decide +kernel
theorem dX7_copyFrom_18 : decode cX7_copyFrom 18 = .ok (.iaload, 1) := by decide +kernel
theorem dX7_copyFrom_19 : decode cX7_copyFrom 19 = .ok (.iastore, 1) := by decide +kernel
theorem dX7_copyFrom_20 : decode cX7_copyFrom 20 = .ok (.iinc 2 1, 3) := by decide +kernel
theorem dX7_copyFrom_23 : decode cX7_copyFrom 23 = .ok (.goto (-21), 3) := by decide +kernel
theorem dX7_copyFrom_26 : decode cX7_copyFrom 26 = .ok (.iconst 0, 1) := by decide +kernel
theorem dX7_copyFrom_27 : decode cX7_copyFrom 27 = .ok (.istore_n 2, 1) := by decide +kernel
theorem dX7_copyFrom_28 : decode cX7_copyFrom 28 = .ok (.iload_n 2, 1) := by decide +kernel
theorem dX7_copyFrom_29 : decode cX7_copyFrom 29 = .ok (.iconst 5, 1) := by decide +kernel
theorem dX7_copyFrom_30 : decode cX7_copyFrom 30 = .ok (.if_icmp .ge 21, 3) := by decide +kernel
theorem dX7_copyFrom_33 : decode cX7_copyFrom 33 = .ok (.aload_n 0, 1) := by decide +kernel
theorem dX7_copyFrom_34 : decode cX7_copyFrom 34 = .ok (.getfield 15, 3) := by decide +kernel
theorem dX7_copyFrom_37 : decode cX7_copyFrom 37 = .ok (.iload_n 2, 1) := by decide +kernel
theorem dX7_copyFrom_38 : decode cX7_copyFrom 38 = .ok (.aload_n 1, 1) := by decide +kernel
theorem dX7_copyFrom_39 : decode cX7_copyFrom 39 = .ok (.getfield 15, 3) := by decide +kernel
theorem dX7_copyFrom_42 : decode cX7_copyFrom 42 = .ok (.iload_n 2, 1) := by decide +kernel
theorem dX7_copyFrom_43 : decode cX7_copyFrom 43 = .ok (.iaload, 1) := by decide +kernel
theorem dX7_copyFrom_44 : decode cX7_copyFrom 44 = .ok (.iastore, 1) := by decide +kernel
theorem dX7_copyFrom_45 : decode cX7_copyFrom 45 = .ok (.iinc 2 1, 3) := by decide +kernel
theorem dX7_copyFrom_48 : decode cX7_copyFrom 48 = .ok (.goto (-20), 3) := by decide +kernel
theorem dX7_copyFrom_51 : decode cX7_copyFrom 51 = .ok (.aload_n 0, 1) := by decide +kernel
theorem dX7_copyFrom_52 : decode cX7_copyFrom 52 = .ok (.aload_n 1, 1) := by decide +kernel
theorem dX7_copyFrom_53 : decode cX7_copyFrom 53 = .ok (.getfield 18, 3) := by decide +kernel
theorem dX7_copyFrom_56 : decode cX7_copyFrom 56 = .ok (.putfield 18, 3) := by decide +kernel
theorem dX7_copyFrom_59 : decode cX7_copyFrom 59 = .ok (.return_, 1) := by decide +kernel
theorem dX7_hasPlace_0 : decode cX7_hasPlace 0 = .ok (.iload_n 1, 1) := by decide +kernel
theorem dX7_hasPlace_1 : decode cX7_hasPlace 1 = .ok (.ifCond .lt 15, 3) := by decide +kernel
theorem dX7_hasPlace_4 : decode cX7_hasPlace 4 = .ok (.iload_n 1, 1) := by decide +kernel
theorem dX7_hasPlace_5 : decode cX7_hasPlace 5 = .ok (.aload_n 0, 1) := by decide +kernel
theorem dX7_hasPlace_6 : decode cX7_hasPlace 6 = .ok (.getfield 18, 3) := by decide +kernel
theorem dX7_hasPlace_9 : decode cX7_hasPlace 9 = .ok (.if_icmp .ge 7, 3) := by decide +kernel
theorem dX7_hasPlace_12 : decode cX7_hasPlace 12 = .ok (.iconst 1, 1) := by decide +kernel
theorem dX7_hasPlace_13 : decode cX7_hasPlace 13 = .ok (.goto 4, 3) := by decide +kernel
theorem dX7_hasPlace_16 : decode cX7_hasPlace 16 = .ok (.iconst 0, 1) := by decide +kernel
theorem dX7_hasPlace_17 : decode cX7_hasPlace 17 = .ok (.ireturn, 1) := by decide +kernel
theorem dX7_hasPart_0 : decode cX7_hasPart 0 = .ok (.iload_n 1, 1) := by decide +kernel
theorem dX7_hasPart_1 : decode cX7_hasPart 1 = .ok (.ifCond .lt 20, 3) := by decide +kernel
theorem dX7_hasPart_4 : decode cX7_hasPart 4 = .ok (.iload_n 1, 1) := by decide +kernel
theorem dX7_hasPart_5 : decode cX7_hasPart 5 = .ok (.iload_n 2, 1) := by decide +kernel
theorem dX7_hasPart_6 : decode cX7_hasPart 6 = .ok (.if_icmp .ge 15, 3) := by decide +kernel
theorem dX7_hasPart_9 : decode cX7_hasPart 9 = .ok (.iload_n 2, 1) := by decide +kernel
theorem dX7_hasPart_10 : decode cX7_hasPart 10 = .ok (.aload_n 0, 1) := by decide +kernel
theorem dX7_hasPart_11 : decode cX7_hasPart 11 = .ok (.getfield 18, 3) := by decide +kernel
theorem dX7_hasPart_14 : decode cX7_hasPart 14 = .ok (.if_icmp .gt 7, 3) := by decide +kernel
theorem dX7_hasPart_17 : decode cX7_hasPart 17 = .ok (.iconst 1, 1) := by decide +kernel
theorem dX7_hasPart_18 : decode cX7_hasPart 18 = .ok (.goto 4, 3) := by decide +kernel
theorem dX7_hasPart_21 : decode cX7_hasPart 21 = .ok (.iconst 0, 1) := by decide +kernel
theorem dX7_hasPart_22 : decode cX7_hasPart 22 = .ok (.ireturn, 1) := by decide +kernel
theorem dX7_letter_0 : decode cX7_letter 0 = .ok (.iload_n 1, 1) := by decide +kernel
theorem dX7_letter_1 : decode cX7_letter 1 = .ok (.ifCond .lt 26, 3) := by decide +kernel
theorem dX7_letter_4 : decode cX7_letter 4 = .ok (.iload_n 1, 1) := by decide +kernel
theorem dX7_letter_5 : decode cX7_letter 5 = .ok (.aload_n 0, 1) := by decide +kernel
theorem dX7_letter_6 : decode cX7_letter 6 = .ok (.getfield 18, 3) := by decide +kernel
theorem dX7_letter_9 : decode cX7_letter 9 = .ok (.if_icmp .ge 18, 3) := by decide +kernel
theorem dX7_letter_12 : decode cX7_letter 12 = .ok (.iload_n 1, 1) := by decide +kernel
theorem dX7_letter_13 : decode cX7_letter 13 = .ok (.bipush 24, 2) := by decide +kernel
theorem dX7_letter_15 : decode cX7_letter 15 = .ok (.if_icmp .ge 12, 3) := by decide +kernel
theorem dX7_letter_18 : decode cX7_letter 18 = .ok (.aload_n 0, 1) := by decide +kernel
theorem dX7_letter_19 : decode cX7_letter 19 = .ok (.getfield 9, 3) := by decide +kernel
theorem dX7_letter_22 : decode cX7_letter 22 = .ok (.iload_n 1, 1) := by decide +kernel
theorem dX7_letter_23 : decode cX7_letter 23 = .ok (.iaload, 1) := by decide +kernel
theorem dX7_letter_24 : decode cX7_letter 24 = .ok (.goto 4, 3) := by decide +kernel
theorem dX7_letter_27 : decode cX7_letter 27 = .ok (.iconst (-1), 1) := by decide +kernel
theorem dX7_letter_28 : decode cX7_letter 28 = .ok (.ireturn, 1) := by decide +kernel
theorem dX7_putLetter_0 : decode cX7_putLetter 0 = .ok (.iload_n 1, 1) := by decide +kernel
theorem dX7_putLetter_1 : decode cX7_putLetter 1 = .ok (.ifCond .lt 24, 3) := by decide +kernel
theorem dX7_putLetter_4 : decode cX7_putLetter 4 = .ok (.iload_n 1, 1) := by decide +kernel
theorem dX7_putLetter_5 : decode cX7_putLetter 5 = .ok (.aload_n 0, 1) := by decide +kernel
theorem dX7_putLetter_6 : decode cX7_putLetter 6 = .ok (.getfield 18, 3) := by decide +kernel
theorem dX7_putLetter_9 : decode cX7_putLetter 9 = .ok (.if_icmp .ge 16, 3) := by decide +kernel
theorem dX7_putLetter_12 : decode cX7_putLetter 12 = .ok (.iload_n 1, 1) := by decide +kernel
theorem dX7_putLetter_13 : decode cX7_putLetter 13 = .ok (.bipush 24, 2) := by decide +kernel
theorem dX7_putLetter_15 : decode cX7_putLetter 15 = .ok (.if_icmp .ge 10, 3) := by decide +kernel
theorem dX7_putLetter_18 : decode cX7_putLetter 18 = .ok (.aload_n 0, 1) := by decide +kernel
theorem dX7_putLetter_19 : decode cX7_putLetter 19 = .ok (.getfield 9, 3) := by decide +kernel
theorem dX7_putLetter_22 : decode cX7_putLetter 22 = .ok (.iload_n 1, 1) := by decide +kernel
theorem dX7_putLetter_23 : decode cX7_putLetter 23 = .ok (.iload_n 2, 1) := by decide +kernel
theorem dX7_putLetter_24 : decode cX7_putLetter 24 = .ok (.iastore, 1) := by decide +kernel
theorem dX7_putLetter_25 : decode cX7_putLetter 25 = .ok (.return_, 1) := by decide +kernel
theorem dX7_addLetter_0 : decode cX7_addLetter 0 = .ok (.aload_n 0, 1) := by decide +kernel
theorem dX7_addLetter_1 : decode cX7_addLetter 1 = .ok (.getfield 18, 3) := by decide +kernel
theorem dX7_addLetter_4 : decode cX7_addLetter 4 = .ok (.ifCond .lt 32, 3) := by decide +kernel
theorem dX7_addLetter_7 : decode cX7_addLetter 7 = .ok (.aload_n 0, 1) := by decide +kernel
theorem dX7_addLetter_8 : decode cX7_addLetter 8 = .ok (.getfield 18, 3) := by decide +kernel
theorem dX7_addLetter_11 : decode cX7_addLetter 11 = .ok (.bipush 24, 2) := by decide +kernel
theorem dX7_addLetter_13 : decode cX7_addLetter 13 = .ok (.if_icmp .ge 23, 3) := by decide +kernel
theorem dX7_addLetter_16 : decode cX7_addLetter 16 = .ok (.aload_n 0, 1) := by decide +kernel
theorem dX7_addLetter_17 : decode cX7_addLetter 17 = .ok (.getfield 9, 3) := by decide +kernel
theorem dX7_addLetter_20 : decode cX7_addLetter 20 = .ok (.aload_n 0, 1) := by decide +kernel
theorem dX7_addLetter_21 : decode cX7_addLetter 21 = .ok (.getfield 18, 3) := by decide +kernel
theorem dX7_addLetter_24 : decode cX7_addLetter 24 = .ok (.iload_n 1, 1) := by decide +kernel
theorem dX7_addLetter_25 : decode cX7_addLetter 25 = .ok (.iastore, 1) := by decide +kernel
theorem dX7_addLetter_26 : decode cX7_addLetter 26 = .ok (.aload_n 0, 1) := by decide +kernel
theorem dX7_addLetter_27 : decode cX7_addLetter 27 = .ok (.dup, 1) := by decide +kernel
theorem dX7_addLetter_28 : decode cX7_addLetter 28 = .ok (.getfield 18, 3) := by decide +kernel
theorem dX7_addLetter_31 : decode cX7_addLetter 31 = .ok (.iconst 1, 1) := by decide +kernel
theorem dX7_addLetter_32 : decode cX7_addLetter 32 = .ok (.iadd, 1) := by decide +kernel
theorem dX7_addLetter_33 : decode cX7_addLetter 33 = .ok (.putfield 18, 3) := by decide +kernel
theorem dX7_addLetter_36 : decode cX7_addLetter 36 = .ok (.return_, 1) := by decide +kernel
set_option maxRecDepth 20000 in
theorem ggX7_reverse_X7_letter : GoodIn wsX7_reverse wsX7_letter := goodIn_r _ [6, 1, 7, 12, 13, 14] (by decide +kernel) (by decide +kernel)
set_option maxRecDepth 20000 in
theorem gX7_reverse_X7_letter : GoodIn wsX7_reverse (wsV RX7 25 RX7 yX7_letter wsX7_letter) := goodIn_app (goodIn_of _ (by decide +kernel)) ggX7_reverse_X7_letter
set_option maxRecDepth 20000 in
theorem ggX7_reverse_X7_putLetter : GoodIn wsX7_reverse wsX7_putLetter := goodIn_r _ [11, 1, 7, 12, 13, 14] (by decide +kernel) (by decide +kernel)
set_option maxRecDepth 20000 in
theorem gX7_reverse_X7_putLetter : GoodIn wsX7_reverse (wsV RX7 29 RX7 yX7_putLetter wsX7_putLetter) := goodIn_app (goodIn_of _ (by decide +kernel)) ggX7_reverse_X7_putLetter
theorem dX7_reverse_0 : decode cX7_reverse 0 = .ok (.iconst 0, 1) := by decide +kernel
theorem dX7_reverse_1 : decode cX7_reverse 1 = .ok (.istore_n 1, 1) := by decide +kernel
theorem dX7_reverse_2 : decode cX7_reverse 2 = .ok (.iload_n 1, 1) := by decide +kernel
theorem dX7_reverse_3 : decode cX7_reverse 3 = .ok (.aload_n 0, 1) := by decide +kernel
theorem dX7_reverse_4 : decode cX7_reverse 4 = .ok (.getfield 18, 3) := by decide +kernel
theorem dX7_reverse_7 : decode cX7_reverse 7 = .ok (.iconst 2, 1) := by decide +kernel
theorem dX7_reverse_8 : decode cX7_reverse 8 = .ok (.idiv, 1) := by decide +kernel
theorem dX7_reverse_9 : decode cX7_reverse 9 = .ok (.if_icmp .ge 40, 3) := by decide +kernel
theorem dX7_reverse_12 : decode cX7_reverse 12 = .ok (.aload_n 0, 1) := by decide +kernel
theorem dX7_reverse_13 : decode cX7_reverse 13 = .ok (.iload_n 1, 1) := by decide +kernel
theorem dX7_reverse_14 : decode cX7_reverse 14 = .ok (.invokevirtual 25, 3) := by decide +kernel
theorem dX7_reverse_17 : decode cX7_reverse 17 = .ok (.istore_n 2, 1) := by decide +kernel
theorem dX7_reverse_18 : decode cX7_reverse 18 = .ok (.aload_n 0, 1) := by decide +kernel
theorem dX7_reverse_19 : decode cX7_reverse 19 = .ok (.getfield 18, 3) := by decide +kernel
theorem dX7_reverse_22 : decode cX7_reverse 22 = .ok (.iconst 1, 1) := by decide +kernel
theorem dX7_reverse_23 : decode cX7_reverse 23 = .ok (.isub, 1) := by decide +kernel
theorem dX7_reverse_24 : decode cX7_reverse 24 = .ok (.iload_n 1, 1) := by decide +kernel
theorem dX7_reverse_25 : decode cX7_reverse 25 = .ok (.isub, 1) := by decide +kernel
theorem dX7_reverse_26 : decode cX7_reverse 26 = .ok (.istore_n 3, 1) := by decide +kernel
theorem dX7_reverse_27 : decode cX7_reverse 27 = .ok (.aload_n 0, 1) := by decide +kernel
theorem dX7_reverse_28 : decode cX7_reverse 28 = .ok (.iload_n 1, 1) := by decide +kernel
theorem dX7_reverse_29 : decode cX7_reverse 29 = .ok (.aload_n 0, 1) := by decide +kernel
theorem dX7_reverse_30 : decode cX7_reverse 30 = .ok (.iload_n 3, 1) := by decide +kernel
theorem dX7_reverse_31 : decode cX7_reverse 31 = .ok (.invokevirtual 25, 3) := by decide +kernel
theorem dX7_reverse_34 : decode cX7_reverse 34 = .ok (.invokevirtual 29, 3) := by decide +kernel
theorem dX7_reverse_37 : decode cX7_reverse 37 = .ok (.aload_n 0, 1) := by decide +kernel
theorem dX7_reverse_38 : decode cX7_reverse 38 = .ok (.iload_n 3, 1) := by decide +kernel
theorem dX7_reverse_39 : decode cX7_reverse 39 = .ok (.iload_n 2, 1) := by decide +kernel
theorem dX7_reverse_40 : decode cX7_reverse 40 = .ok (.invokevirtual 29, 3) := by decide +kernel
theorem dX7_reverse_43 : decode cX7_reverse 43 = .ok (.iinc 1 1, 3) := by decide +kernel
theorem dX7_reverse_46 : decode cX7_reverse 46 = .ok (.goto (-44), 3) := by decide +kernel
theorem dX7_reverse_49 : decode cX7_reverse 49 = .ok (.return_, 1) := by decide +kernel
theorem dX7_setting_0 : decode cX7_setting 0 = .ok (.iload_n 1, 1) := by decide +kernel
theorem dX7_setting_1 : decode cX7_setting 1 = .ok (.ifCond .lt 17, 3) := by decide +kernel
theorem dX7_setting_4 : decode cX7_setting 4 = .ok (.iload_n 1, 1) := by decide +kernel
theorem dX7_setting_5 : decode cX7_setting 5 = .ok (.iconst 5, 1) := by decide +kernel
theorem dX7_setting_6 : decode cX7_setting 6 = .ok (.if_icmp .ge 12, 3) := by decide +kernel
theorem dX7_setting_9 : decode cX7_setting 9 = .ok (.aload_n 0, 1) := by decide +kernel
theorem dX7_setting_10 : decode cX7_setting 10 = .ok (.getfield 15, 3) := by decide +kernel
theorem dX7_setting_13 : decode cX7_setting 13 = .ok (.iload_n 1, 1) := by decide +kernel
theorem dX7_setting_14 : decode cX7_setting 14 = .ok (.iaload, 1) := by decide +kernel
theorem dX7_setting_15 : decode cX7_setting 15 = .ok (.goto 4, 3) := by decide +kernel
theorem dX7_setting_18 : decode cX7_setting 18 = .ok (.iconst 0, 1) := by decide +kernel
theorem dX7_setting_19 : decode cX7_setting 19 = .ok (.ireturn, 1) := by decide +kernel
theorem dX7_putSetting_0 : decode cX7_putSetting 0 = .ok (.iload_n 1, 1) := by decide +kernel
theorem dX7_putSetting_1 : decode cX7_putSetting 1 = .ok (.ifCond .lt 15, 3) := by decide +kernel
theorem dX7_putSetting_4 : decode cX7_putSetting 4 = .ok (.iload_n 1, 1) := by decide +kernel
theorem dX7_putSetting_5 : decode cX7_putSetting 5 = .ok (.iconst 5, 1) := by decide +kernel
theorem dX7_putSetting_6 : decode cX7_putSetting 6 = .ok (.if_icmp .ge 10, 3) := by decide +kernel
theorem dX7_putSetting_9 : decode cX7_putSetting 9 = .ok (.aload_n 0, 1) := by decide +kernel
theorem dX7_putSetting_10 : decode cX7_putSetting 10 = .ok (.getfield 15, 3) := by decide +kernel
theorem dX7_putSetting_13 : decode cX7_putSetting 13 = .ok (.iload_n 1, 1) := by decide +kernel
theorem dX7_putSetting_14 : decode cX7_putSetting 14 = .ok (.iload_n 2, 1) := by decide +kernel
theorem dX7_putSetting_15 : decode cX7_putSetting 15 = .ok (.iastore, 1) := by decide +kernel
theorem dX7_putSetting_16 : decode cX7_putSetting 16 = .ok (.return_, 1) := by decide +kernel
set_option maxRecDepth 20000 in
theorem ggX7_unlikeLetters_X7_letter : GoodIn wsX7_unlikeLetters wsX7_letter := goodIn_r _ [5, 6, 7, 8, 9, 10] (by decide +kernel) (by decide +kernel)
set_option maxRecDepth 20000 in
theorem gX7_unlikeLetters_X7_letter : GoodIn wsX7_unlikeLetters (wsV RX7 25 RX7 yX7_letter wsX7_letter) := goodIn_app (goodIn_of _ (by decide +kernel)) ggX7_unlikeLetters_X7_letter
theorem dX7_unlikeLetters_0 : decode cX7_unlikeLetters 0 = .ok (.iconst 0, 1) := by decide +kernel
theorem dX7_unlikeLetters_1 : decode cX7_unlikeLetters 1 = .ok (.istore 4, 2) := by decide +kernel
theorem dX7_unlikeLetters_3 : decode cX7_unlikeLetters 3 = .ok (.iload_n 1, 1) := by decide +kernel
theorem dX7_unlikeLetters_4 : decode cX7_unlikeLetters 4 = .ok (.iload_n 3, 1) := by decide +kernel
theorem dX7_unlikeLetters_5 : decode cX7_unlikeLetters 5 = .ok (.iadd, 1) := by decide +kernel
theorem dX7_unlikeLetters_6 : decode cX7_unlikeLetters 6 = .ok (.istore 5, 2) := by decide +kernel
theorem dX7_unlikeLetters_8 : decode cX7_unlikeLetters 8 = .ok (.iload 5, 2) := by decide +kernel
theorem dX7_unlikeLetters_10 : decode cX7_unlikeLetters 10 = .ok (.iload_n 2, 1) := by decide +kernel
theorem dX7_unlikeLetters_11 : decode cX7_unlikeLetters 11 = .ok (.if_icmp .ge 29, 3) := by decide +kernel
theorem dX7_unlikeLetters_14 : decode cX7_unlikeLetters 14 = .ok (.aload_n 0, 1) := by decide +kernel
theorem dX7_unlikeLetters_15 : decode cX7_unlikeLetters 15 = .ok (.iload 5, 2) := by decide +kernel
theorem dX7_unlikeLetters_17 : decode cX7_unlikeLetters 17 = .ok (.invokevirtual 25, 3) := by decide +kernel
theorem dX7_unlikeLetters_20 : decode cX7_unlikeLetters 20 = .ok (.aload_n 0, 1) := by decide +kernel
theorem dX7_unlikeLetters_21 : decode cX7_unlikeLetters 21 = .ok (.iload 5, 2) := by decide +kernel
theorem dX7_unlikeLetters_23 : decode cX7_unlikeLetters 23 = .ok (.iload_n 3, 1) := by decide +kernel
theorem dX7_unlikeLetters_24 : decode cX7_unlikeLetters 24 = .ok (.isub, 1) := by decide +kernel
theorem dX7_unlikeLetters_25 : decode cX7_unlikeLetters 25 = .ok (.invokevirtual 25, 3) := by decide +kernel
theorem dX7_unlikeLetters_28 : decode cX7_unlikeLetters 28 = .ok (.if_icmp .eq 6, 3) := by decide +kernel
theorem dX7_unlikeLetters_31 : decode cX7_unlikeLetters 31 = .ok (.iinc 4 1, 3) := by decide +kernel
theorem dX7_unlikeLetters_34 : decode cX7_unlikeLetters 34 = .ok (.iinc 5 1, 3) := by decide +kernel
theorem dX7_unlikeLetters_37 : decode cX7_unlikeLetters 37 = .ok (.goto (-29), 3) := by decide +kernel
theorem dX7_unlikeLetters_40 : decode cX7_unlikeLetters 40 = .ok (.iload 4, 2) := by decide +kernel
theorem dX7_unlikeLetters_42 : decode cX7_unlikeLetters 42 = .ok (.ireturn, 1) := by decide +kernel
set_option maxRecDepth 20000 in
theorem ggX7_leastPeriod_X7_unlikeLetters : GoodIn wsX7_leastPeriod wsX7_unlikeLetters := goodIn_r _ [5, 6, 7, 8, 4, 9, 10, 11, 12, 13, 14] (by decide +kernel) (by decide +kernel)
set_option maxRecDepth 20000 in
theorem gX7_leastPeriod_X7_unlikeLetters : GoodIn wsX7_leastPeriod (wsV RX7 33 RX7 yX7_unlikeLetters wsX7_unlikeLetters) := goodIn_app (goodIn_of _ (by decide +kernel)) ggX7_leastPeriod_X7_unlikeLetters
theorem dX7_leastPeriod_0 : decode cX7_leastPeriod 0 = .ok (.iconst 1, 1) := by decide +kernel
theorem dX7_leastPeriod_1 : decode cX7_leastPeriod 1 = .ok (.istore_n 3, 1) := by decide +kernel
theorem dX7_leastPeriod_2 : decode cX7_leastPeriod 2 = .ok (.iload_n 3, 1) := by decide +kernel
theorem dX7_leastPeriod_3 : decode cX7_leastPeriod 3 = .ok (.iload_n 2, 1) := by decide +kernel
theorem dX7_leastPeriod_4 : decode cX7_leastPeriod 4 = .ok (.iload_n 1, 1) := by decide +kernel
theorem dX7_leastPeriod_5 : decode cX7_leastPeriod 5 = .ok (.isub, 1) := by decide +kernel
theorem dX7_leastPeriod_6 : decode cX7_leastPeriod 6 = .ok (.if_icmp .ge 21, 3) := by decide +kernel
theorem dX7_leastPeriod_9 : decode cX7_leastPeriod 9 = .ok (.aload_n 0, 1) := by decide +kernel
theorem dX7_leastPeriod_10 : decode cX7_leastPeriod 10 = .ok (.iload_n 1, 1) := by decide +kernel
theorem dX7_leastPeriod_11 : decode cX7_leastPeriod 11 = .ok (.iload_n 2, 1) := by decide +kernel
theorem dX7_leastPeriod_12 : decode cX7_leastPeriod 12 = .ok (.iload_n 3, 1) := by decide +kernel
theorem dX7_leastPeriod_13 : decode cX7_leastPeriod 13 = .ok (.invokevirtual 33, 3) := by decide +kernel
theorem dX7_leastPeriod_16 : decode cX7_leastPeriod 16 = .ok (.ifCond .ne 5, 3) := by decide +kernel
theorem dX7_leastPeriod_19 : decode cX7_leastPeriod 19 = .ok (.iload_n 3, 1) := by decide +kernel
theorem dX7_leastPeriod_20 : decode cX7_leastPeriod 20 = .ok (.ireturn, 1) := by decide +kernel
theorem dX7_leastPeriod_21 : decode cX7_leastPeriod 21 = .ok (.iinc 3 1, 3) := by decide +kernel
theorem dX7_leastPeriod_24 : decode cX7_leastPeriod 24 = .ok (.goto (-22), 3) := by decide +kernel
theorem dX7_leastPeriod_27 : decode cX7_leastPeriod 27 = .ok (.iload_n 2, 1) := by decide +kernel
theorem dX7_leastPeriod_28 : decode cX7_leastPeriod 28 = .ok (.iload_n 1, 1) := by decide +kernel
theorem dX7_leastPeriod_29 : decode cX7_leastPeriod 29 = .ok (.isub, 1) := by decide +kernel
theorem dX7_leastPeriod_30 : decode cX7_leastPeriod 30 = .ok (.ireturn, 1) := by decide +kernel
set_option maxRecDepth 20000 in
theorem ggX8_init_X5_init : GoodIn wsX8_init wsX5_init := goodIn_r _ [23, 24, 2, 3, 8, 25, 26, 27, 28, 29, 30, 31, 32, 33, 34, 35, 36, 37, 38, 39, 40, 41, 42, 43, 44] (by decide +kernel) (by decide +kernel)
set_option maxRecDepth 20000 in
theorem gX8_init_X5_init_n11 : GoodIn wsX8_init (wsX5_init) := ggX8_init_X5_init
theorem dX8_init_0 : decode cX8_init 0 = .ok (.aload_n 0, 1) := by decide +kernel
theorem dX8_init_1 : decode cX8_init 1 = .ok (.invokespecial 3, 3) := by decide +kernel
theorem dX8_init_4 : decode cX8_init 4 = .ok (.aload_n 0, 1) := by decide +kernel
theorem dX8_init_5 : decode cX8_init 5 = .ok (.new 9, 3) := by decide +kernel
theorem dX8_init_8 : decode cX8_init 8 = .ok (.dup, 1) := by decide +kernel
theorem dX8_init_9 : decode cX8_init 9 = .ok (.invokespecial 11, 3) := by decide +kernel
theorem dX8_init_12 : decode cX8_init 12 = .ok (.putfield 12, 3) := by decide +kernel
theorem dX8_init_15 : decode cX8_init 15 = .ok (.aload_n 0, 1) := by decide +kernel
theorem dX8_init_16 : decode cX8_init 16 = .ok (.sipush 160, 3) := by decide +kernel
theorem dX8_init_19 : decode cX8_init 19 = .ok (.newarray .int, 2) := by decide +kernel
theorem dX8_init_21 : decode cX8_init 21 = .ok (.putfield 18, 3) := by decide +kernel
theorem dX8_init_24 : decode cX8_init 24 = .ok (.aload_n 0, 1) := by decide +kernel
theorem dX8_init_25 : decode cX8_init 25 = .ok (.iconst 0, 1) := by decide +kernel
theorem dX8_init_26 : decode cX8_init 26 = .ok (.putfield 22, 3) := by decide +kernel
theorem dX8_init_29 : decode cX8_init 29 = .ok (.aload_n 0, 1) := by decide +kernel
theorem dX8_init_30 : decode cX8_init 30 = .ok (.iconst 0, 1) := by decide +kernel
theorem dX8_init_31 : decode cX8_init 31 = .ok (.putfield 26, 3) := by decide +kernel
theorem dX8_init_34 : decode cX8_init 34 = .ok (.aload_n 0, 1) := by decide +kernel
theorem dX8_init_35 : decode cX8_init 35 = .ok (.iconst 0, 1) := by decide +kernel
theorem dX8_init_36 : decode cX8_init 36 = .ok (.putfield 29, 3) := by decide +kernel
theorem dX8_init_39 : decode cX8_init 39 = .ok (.aload_n 0, 1) := by decide +kernel
theorem dX8_init_40 : decode cX8_init 40 = .ok (.iconst 0, 1) := by decide +kernel
theorem dX8_init_41 : decode cX8_init 41 = .ok (.putfield 32, 3) := by decide +kernel
theorem dX8_init_44 : decode cX8_init 44 = .ok (.aload_n 0, 1) := by decide +kernel
theorem dX8_init_45 : decode cX8_init 45 = .ok (.iconst 0, 1) := by decide +kernel
theorem dX8_init_46 : decode cX8_init 46 = .ok (.putfield 35, 3) := by decide +kernel
theorem dX8_init_49 : decode cX8_init 49 = .ok (.aload_n 0, 1) := by decide +kernel
theorem dX8_init_50 : decode cX8_init 50 = .ok (.iconst 0, 1) := by decide +kernel
theorem dX8_init_51 : decode cX8_init 51 = .ok (.putfield 38, 3) := by decide +kernel
theorem dX8_init_54 : decode cX8_init 54 = .ok (.aload_n 0, 1) := by decide +kernel
theorem dX8_init_55 : decode cX8_init 55 = .ok (.iconst 0, 1) := by decide +kernel
theorem dX8_init_56 : decode cX8_init 56 = .ok (.putfield 41, 3) := by decide +kernel
