theorem dX11_runOf_32 : decode cX11_runOf 32 = .ok (.istore 5, 2) := by decide +kernel
theorem dX11_runOf_34 : decode cX11_runOf 34 = .ok (.iload 5, 2) := by decide +kernel
theorem dX11_runOf_36 : decode cX11_runOf 36 = .ok (.iload 4, 2) := by decide +kernel
theorem dX11_runOf_38 : decode cX11_runOf 38 = .ok (.iadd, 1) := by decide +kernel
theorem dX11_runOf_39 : decode cX11_runOf 39 = .ok (.aload_n 0, 1) := by decide +kernel
theorem dX11_runOf_40 : decode cX11_runOf 40 = .ok (.getfield 7, 3) := by decide +kernel
theorem dX11_runOf_43 : decode cX11_runOf 43 = .ok (.iconst 0, 1) := by decide +kernel
theorem dX11_runOf_44 : decode cX11_runOf 44 = .ok (.iaload, 1) := by decide +kernel
theorem dX11_runOf_45 : decode cX11_runOf 45 = .ok (.if_icmp .gt 78, 3) := by decide +kernel
theorem dX11_runOf_48 : decode cX11_runOf 48 = .ok (.aload_n 0, 1) := by decide +kernel
theorem dX11_runOf_49 : decode cX11_runOf 49 = .ok (.iload 5, 2) := by decide +kernel
theorem dX11_runOf_51 : decode cX11_runOf 51 = .ok (.iload 5, 2) := by decide +kernel
theorem dX11_runOf_53 : decode cX11_runOf 53 = .ok (.iload 4, 2) := by decide +kernel
theorem dX11_runOf_55 : decode cX11_runOf 55 = .ok (.iadd, 1) := by decide +kernel
theorem dX11_runOf_56 : decode cX11_runOf 56 = .ok (.invokevirtual 91, 3) := by decide +kernel
theorem dX11_runOf_59 : decode cX11_runOf 59 = .ok (.istore 6, 2) := by decide +kernel
theorem dX11_runOf_61 : decode cX11_runOf 61 = .ok (.iload 6, 2) := by decide +kernel
theorem dX11_runOf_63 : decode cX11_runOf 63 = .ok (.ifCond .eq 41, 3) := by decide +kernel
theorem dX11_runOf_66 : decode cX11_runOf 66 = .ok (.iload_n 3, 1) := by decide +kernel
theorem dX11_runOf_67 : decode cX11_runOf 67 = .ok (.ifCond .ne 37, 3) := by decide +kernel
theorem dX11_runOf_70 : decode cX11_runOf 70 = .ok (.iload_n 2, 1) := by decide +kernel
theorem dX11_runOf_71 : decode cX11_runOf 71 = .ok (.ifCond .ne 8, 3) := by decide +kernel
theorem dX11_runOf_74 : decode cX11_runOf 74 = .ok (.iload 5, 2) := by decide +kernel
theorem dX11_runOf_76 : decode cX11_runOf 76 = .ok (.goto 27, 3) := by decide +kernel
theorem dX11_runOf_79 : decode cX11_runOf 79 = .ok (.iload_n 2, 1) := by decide +kernel
theorem dX11_runOf_80 : decode cX11_runOf 80 = .ok (.iconst 1, 1) := by decide +kernel
theorem dX11_runOf_81 : decode cX11_runOf 81 = .ok (.if_icmp .ne 11, 3) := by decide +kernel
theorem dX11_runOf_84 : decode cX11_runOf 84 = .ok (.iload 5, 2) := by decide +kernel
theorem dX11_runOf_86 : decode cX11_runOf 86 = .ok (.iload 4, 2) := by decide +kernel
theorem dX11_runOf_88 : decode cX11_runOf 88 = .ok (.iadd, 1) := by decide +kernel
theorem dX11_runOf_89 : decode cX11_runOf 89 = .ok (.goto 14, 3) := by decide +kernel
theorem dX11_runOf_92 : decode cX11_runOf 92 = .ok (.aload_n 0, 1) := by decide +kernel
theorem dX11_runOf_93 : decode cX11_runOf 93 = .ok (.iload 5, 2) := by decide +kernel
theorem dX11_runOf_95 : decode cX11_runOf 95 = .ok (.iload 5, 2) := by decide +kernel
theorem dX11_runOf_97 : decode cX11_runOf 97 = .ok (.iload 4, 2) := by decide +kernel
theorem dX11_runOf_99 : decode cX11_runOf 99 = .ok (.iadd, 1) := by decide +kernel
theorem dX11_runOf_100 : decode cX11_runOf 100 = .ok (.invokevirtual 87, 3) := by decide +kernel
theorem dX11_runOf_103 : decode cX11_runOf 103 = .ok (.ireturn, 1) := by decide +kernel
theorem dX11_runOf_104 : decode cX11_runOf 104 = .ok (.iload_n 3, 1) := by decide +kernel
theorem dX11_runOf_105 : decode cX11_runOf 105 = .ok (.iload 6, 2) := by decide +kernel
theorem dX11_runOf_107 : decode cX11_runOf 107 = .ok (.ifCond .eq 7, 3) := by decide +kernel
theorem dX11_runOf_110 : decode cX11_runOf 110 = .ok (.iconst 1, 1) := by decide +kernel
theorem dX11_runOf_111 : decode cX11_runOf 111 = .ok (.goto 4, 3) := by decide +kernel
theorem dX11_runOf_114 : decode cX11_runOf 114 = .ok (.iconst 0, 1) := by decide +kernel
theorem dX11_runOf_115 : decode cX11_runOf 115 = .ok (.isub, 1) := by decide +kernel
theorem dX11_runOf_116 : decode cX11_runOf 116 = .ok (.istore_n 3, 1) := by decide +kernel
theorem dX11_runOf_117 : decode cX11_runOf 117 = .ok (.iinc 5 1, 3) := by decide +kernel
theorem dX11_runOf_120 : decode cX11_runOf 120 = .ok (.goto (-86), 3) := by decide +kernel
theorem dX11_runOf_123 : decode cX11_runOf 123 = .ok (.iinc 4 (-1), 3) := by decide +kernel
theorem dX11_runOf_126 : decode cX11_runOf 126 = .ok (.goto (-100), 3) := by decide +kernel
theorem dX11_runOf_129 : decode cX11_runOf 129 = .ok (.ldc 79, 2) := by decide +kernel
theorem dX11_runOf_131 : decode cX11_runOf 131 = .ok (.ireturn, 1) := by decide +kernel
theorem dX11_part_0 : decode cX11_part 0 = .ok (.sipush 625, 3) := by decide +kernel
theorem dX11_part_3 : decode cX11_part 3 = .ok (.iload_n 0, 1) := by decide +kernel
theorem dX11_part_4 : decode cX11_part 4 = .ok (.imul, 1) := by decide +kernel
theorem dX11_part_5 : decode cX11_part 5 = .ok (.bipush 25, 2) := by decide +kernel
theorem dX11_part_7 : decode cX11_part 7 = .ok (.iload_n 1, 1) := by decide +kernel
theorem dX11_part_8 : decode cX11_part 8 = .ok (.imul, 1) := by decide +kernel
theorem dX11_part_9 : decode cX11_part 9 = .ok (.iadd, 1) := by decide +kernel
theorem dX11_part_10 : decode cX11_part 10 = .ok (.iload_n 2, 1) := by decide +kernel
theorem dX11_part_11 : decode cX11_part 11 = .ok (.iadd, 1) := by decide +kernel
theorem dX11_part_12 : decode cX11_part 12 = .ok (.ireturn, 1) := by decide +kernel
theorem dX11_corrects_0 : decode cX11_corrects 0 = .ok (.iconst 0, 1) := by decide +kernel
theorem dX11_corrects_1 : decode cX11_corrects 1 = .ok (.istore_n 1, 1) := by decide +kernel
theorem dX11_corrects_2 : decode cX11_corrects 2 = .ok (.iload_n 1, 1) := by decide +kernel
theorem dX11_corrects_3 : decode cX11_corrects 3 = .ok (.aload_n 0, 1) := by decide +kernel
theorem dX11_corrects_4 : decode cX11_corrects 4 = .ok (.getfield 7, 3) := by decide +kernel
theorem dX11_corrects_7 : decode cX11_corrects 7 = .ok (.iconst 0, 1) := by decide +kernel
theorem dX11_corrects_8 : decode cX11_corrects 8 = .ok (.iaload, 1) := by decide +kernel
theorem dX11_corrects_9 : decode cX11_corrects 9 = .ok (.if_icmp .ge 124, 3) := by decide +kernel
theorem dX11_corrects_12 : decode cX11_corrects 12 = .ok (.iconst 1, 1) := by decide +kernel
theorem dX11_corrects_13 : decode cX11_corrects 13 = .ok (.istore_n 2, 1) := by decide +kernel
theorem dX11_corrects_14 : decode cX11_corrects 14 = .ok (.iload_n 1, 1) := by decide +kernel
theorem dX11_corrects_15 : decode cX11_corrects 15 = .ok (.iconst 2, 1) := by decide +kernel
theorem dX11_corrects_16 : decode cX11_corrects 16 = .ok (.iload_n 2, 1) := by decide +kernel
theorem dX11_corrects_17 : decode cX11_corrects 17 = .ok (.imul, 1) := by decide +kernel
theorem dX11_corrects_18 : decode cX11_corrects 18 = .ok (.iadd, 1) := by decide +kernel
theorem dX11_corrects_19 : decode cX11_corrects 19 = .ok (.aload_n 0, 1) := by decide +kernel
theorem dX11_corrects_20 : decode cX11_corrects 20 = .ok (.getfield 7, 3) := by decide +kernel
theorem dX11_corrects_23 : decode cX11_corrects 23 = .ok (.iconst 0, 1) := by decide +kernel
theorem dX11_corrects_24 : decode cX11_corrects 24 = .ok (.iaload, 1) := by decide +kernel
theorem dX11_corrects_25 : decode cX11_corrects 25 = .ok (.if_icmp .gt 102, 3) := by decide +kernel
theorem dX11_corrects_28 : decode cX11_corrects 28 = .ok (.iconst 0, 1) := by decide +kernel
theorem dX11_corrects_29 : decode cX11_corrects 29 = .ok (.istore_n 3, 1) := by decide +kernel
theorem dX11_corrects_30 : decode cX11_corrects 30 = .ok (.iload_n 2, 1) := by decide +kernel
theorem dX11_corrects_31 : decode cX11_corrects 31 = .ok (.istore 4, 2) := by decide +kernel
theorem dX11_corrects_33 : decode cX11_corrects 33 = .ok (.iload_n 1, 1) := by decide +kernel
theorem dX11_corrects_34 : decode cX11_corrects 34 = .ok (.iload 4, 2) := by decide +kernel
theorem dX11_corrects_36 : decode cX11_corrects 36 = .ok (.iadd, 1) := by decide +kernel
theorem dX11_corrects_37 : decode cX11_corrects 37 = .ok (.aload_n 0, 1) := by decide +kernel
theorem dX11_corrects_38 : decode cX11_corrects 38 = .ok (.getfield 7, 3) := by decide +kernel
theorem dX11_corrects_41 : decode cX11_corrects 41 = .ok (.iconst 0, 1) := by decide +kernel
theorem dX11_corrects_42 : decode cX11_corrects 42 = .ok (.iaload, 1) := by decide +kernel
theorem dX11_corrects_43 : decode cX11_corrects 43 = .ok (.if_icmp .ge 78, 3) := by decide +kernel
theorem dX11_corrects_46 : decode cX11_corrects 46 = .ok (.iload_n 3, 1) := by decide +kernel
theorem dX11_corrects_47 : decode cX11_corrects 47 = .ok (.aload_n 0, 1) := by decide +kernel
theorem dX11_corrects_48 : decode cX11_corrects 48 = .ok (.getfield 7, 3) := by decide +kernel
theorem dX11_corrects_51 : decode cX11_corrects 51 = .ok (.bipush 6, 2) := by decide +kernel
theorem dX11_corrects_53 : decode cX11_corrects 53 = .ok (.iload_n 1, 1) := by decide +kernel
theorem dX11_corrects_54 : decode cX11_corrects 54 = .ok (.iadd, 1) := by decide +kernel
theorem dX11_corrects_55 : decode cX11_corrects 55 = .ok (.iload 4, 2) := by decide +kernel
theorem dX11_corrects_57 : decode cX11_corrects 57 = .ok (.iadd, 1) := by decide +kernel
theorem dX11_corrects_58 : decode cX11_corrects 58 = .ok (.iaload, 1) := by decide +kernel
theorem dX11_corrects_59 : decode cX11_corrects 59 = .ok (.aload_n 0, 1) := by decide +kernel
theorem dX11_corrects_60 : decode cX11_corrects 60 = .ok (.getfield 7, 3) := by decide +kernel
theorem dX11_corrects_63 : decode cX11_corrects 63 = .ok (.bipush 6, 2) := by decide +kernel
theorem dX11_corrects_65 : decode cX11_corrects 65 = .ok (.iload_n 1, 1) := by decide +kernel
theorem dX11_corrects_66 : decode cX11_corrects 66 = .ok (.iadd, 1) := by decide +kernel
theorem dX11_corrects_67 : decode cX11_corrects 67 = .ok (.iload 4, 2) := by decide +kernel
theorem dX11_corrects_69 : decode cX11_corrects 69 = .ok (.iload_n 2, 1) := by decide +kernel
theorem dX11_corrects_70 : decode cX11_corrects 70 = .ok (.irem, 1) := by decide +kernel
theorem dX11_corrects_71 : decode cX11_corrects 71 = .ok (.iadd, 1) := by decide +kernel
theorem dX11_corrects_72 : decode cX11_corrects 72 = .ok (.iaload, 1) := by decide +kernel
theorem dX11_corrects_73 : decode cX11_corrects 73 = .ok (.if_icmp .eq 7, 3) := by decide +kernel
theorem dX11_corrects_76 : decode cX11_corrects 76 = .ok (.iconst 1, 1) := by decide +kernel
theorem dX11_corrects_77 : decode cX11_corrects 77 = .ok (.goto 4, 3) := by decide +kernel
theorem dX11_corrects_80 : decode cX11_corrects 80 = .ok (.iconst 0, 1) := by decide +kernel
theorem dX11_corrects_81 : decode cX11_corrects 81 = .ok (.iadd, 1) := by decide +kernel
theorem dX11_corrects_82 : decode cX11_corrects 82 = .ok (.istore_n 3, 1) := by decide +kernel
theorem dX11_corrects_83 : decode cX11_corrects 83 = .ok (.iload 4, 2) := by decide +kernel
theorem dX11_corrects_85 : decode cX11_corrects 85 = .ok (.iconst 1, 1) := by decide +kernel
theorem dX11_corrects_86 : decode cX11_corrects 86 = .ok (.iadd, 1) := by decide +kernel
theorem dX11_corrects_87 : decode cX11_corrects 87 = .ok (.iload_n 2, 1) := by decide +kernel
theorem dX11_corrects_88 : decode cX11_corrects 88 = .ok (.irem, 1) := by decide +kernel
theorem dX11_corrects_89 : decode cX11_corrects 89 = .ok (.ifCond .ne 26, 3) := by decide +kernel
theorem dX11_corrects_92 : decode cX11_corrects 92 = .ok (.aload_n 0, 1) := by decide +kernel
theorem dX11_corrects_93 : decode cX11_corrects 93 = .ok (.getfield 23, 3) := by decide +kernel
theorem dX11_corrects_96 : decode cX11_corrects 96 = .ok (.sipush 625, 3) := by decide +kernel
theorem dX11_corrects_99 : decode cX11_corrects 99 = .ok (.iload_n 1, 1) := by decide +kernel
theorem dX11_corrects_100 : decode cX11_corrects 100 = .ok (.imul, 1) := by decide +kernel
theorem dX11_corrects_101 : decode cX11_corrects 101 = .ok (.bipush 25, 2) := by decide +kernel
theorem dX11_corrects_103 : decode cX11_corrects 103 = .ok (.iload_n 2, 1) := by decide +kernel
theorem dX11_corrects_104 : decode cX11_corrects 104 = .ok (.imul, 1) := by decide +kernel
theorem dX11_corrects_105 : decode cX11_corrects 105 = .ok (.iadd, 1) := by decide +kernel
theorem dX11_corrects_106 : decode cX11_corrects 106 = .ok (.iload 4, 2) := by decide +kernel
theorem dX11_corrects_108 : decode cX11_corrects 108 = .ok (.iconst 1, 1) := by decide +kernel
theorem dX11_corrects_109 : decode cX11_corrects 109 = .ok (.iadd, 1) := by decide +kernel
theorem dX11_corrects_110 : decode cX11_corrects 110 = .ok (.iload_n 2, 1) := by decide +kernel
theorem dX11_corrects_111 : decode cX11_corrects 111 = .ok (.idiv, 1) := by decide +kernel
theorem dX11_corrects_112 : decode cX11_corrects 112 = .ok (.iadd, 1) := by decide +kernel
theorem dX11_corrects_113 : decode cX11_corrects 113 = .ok (.iload_n 3, 1) := by decide +kernel
theorem dX11_corrects_114 : decode cX11_corrects 114 = .ok (.iastore, 1) := by decide +kernel
theorem dX11_corrects_115 : decode cX11_corrects 115 = .ok (.iinc 4 1, 3) := by decide +kernel
theorem dX11_corrects_118 : decode cX11_corrects 118 = .ok (.goto (-85), 3) := by decide +kernel
theorem dX11_corrects_121 : decode cX11_corrects 121 = .ok (.iinc 2 1, 3) := by decide +kernel
theorem dX11_corrects_124 : decode cX11_corrects 124 = .ok (.goto (-110), 3) := by decide +kernel
theorem dX11_corrects_127 : decode cX11_corrects 127 = .ok (.iinc 1 1, 3) := by decide +kernel
theorem dX11_corrects_130 : decode cX11_corrects 130 = .ok (.goto (-128), 3) := by decide +kernel
theorem dX11_corrects_133 : decode cX11_corrects 133 = .ok (.return_, 1) := by decide +kernel
set_option maxRecDepth 20000 in
theorem ggX11_finds_X11_part : GoodIn wsX11_finds wsX11_part := goodIn_r _ [10] (by decide +kernel) (by decide +kernel)
set_option maxRecDepth 20000 in
theorem gX11_finds_X11_part : GoodIn wsX11_finds (va_wsS RX11 95 yX11_part wsX11_part) := goodIn_app (goodIn_of _ (by decide +kernel)) ggX11_finds_X11_part
theorem dX11_finds_0 : decode cX11_finds 0 = .ok (.ldc 94, 2) := by decide +kernel
theorem dX11_finds_2 : decode cX11_finds 2 = .ok (.istore 4, 2) := by decide +kernel
theorem dX11_finds_4 : decode cX11_finds 4 = .ok (.iload_n 1, 1) := by decide +kernel
theorem dX11_finds_5 : decode cX11_finds 5 = .ok (.iload_n 2, 1) := by decide +kernel
theorem dX11_finds_6 : decode cX11_finds 6 = .ok (.iload_n 3, 1) := by decide +kernel
theorem dX11_finds_7 : decode cX11_finds 7 = .ok (.invokestatic 95, 3) := by decide +kernel
theorem dX11_finds_10 : decode cX11_finds 10 = .ok (.istore 5, 2) := by decide +kernel
theorem dX11_finds_12 : decode cX11_finds 12 = .ok (.iload_n 3, 1) := by decide +kernel
theorem dX11_finds_13 : decode cX11_finds 13 = .ok (.iload_n 2, 1) := by decide +kernel
theorem dX11_finds_14 : decode cX11_finds 14 = .ok (.isub, 1) := by decide +kernel
theorem dX11_finds_15 : decode cX11_finds 15 = .ok (.istore 6, 2) := by decide +kernel
theorem dX11_finds_17 : decode cX11_finds 17 = .ok (.iload 6, 2) := by decide +kernel
theorem dX11_finds_19 : decode cX11_finds 19 = .ok (.iconst 1, 1) := by decide +kernel
theorem dX11_finds_20 : decode cX11_finds 20 = .ok (.if_icmp .lt 266, 3) := by decide +kernel
theorem dX11_finds_23 : decode cX11_finds 23 = .ok (.iload 6, 2) := by decide +kernel
theorem dX11_finds_25 : decode cX11_finds 25 = .ok (.iconst 1, 1) := by decide +kernel
theorem dX11_finds_26 : decode cX11_finds 26 = .ok (.if_icmp .ne 66, 3) := by decide +kernel
theorem dX11_finds_29 : decode cX11_finds 29 = .ok (.aload_n 0, 1) := by decide +kernel
theorem dX11_finds_30 : decode cX11_finds 30 = .ok (.getfield 7, 3) := by decide +kernel
theorem dX11_finds_33 : decode cX11_finds 33 = .ok (.iconst 1, 1) := by decide +kernel
theorem dX11_finds_34 : decode cX11_finds 34 = .ok (.iaload, 1) := by decide +kernel
theorem dX11_finds_35 : decode cX11_finds 35 = .ok (.aload_n 0, 1) := by decide +kernel
theorem dX11_finds_36 : decode cX11_finds 36 = .ok (.getfield 26, 3) := by decide +kernel
theorem dX11_finds_39 : decode cX11_finds 39 = .ok (.iload_n 1, 1) := by decide +kernel
theorem dX11_finds_40 : decode cX11_finds 40 = .ok (.iload_n 2, 1) := by decide +kernel
theorem dX11_finds_41 : decode cX11_finds 41 = .ok (.iconst 1, 1) := by decide +kernel
theorem dX11_finds_42 : decode cX11_finds 42 = .ok (.iadd, 1) := by decide +kernel
theorem dX11_finds_43 : decode cX11_finds 43 = .ok (.iload_n 3, 1) := by decide +kernel
theorem dX11_finds_44 : decode cX11_finds 44 = .ok (.invokestatic 95, 3) := by decide +kernel
theorem dX11_finds_47 : decode cX11_finds 47 = .ok (.iaload, 1) := by decide +kernel
theorem dX11_finds_48 : decode cX11_finds 48 = .ok (.iadd, 1) := by decide +kernel
theorem dX11_finds_49 : decode cX11_finds 49 = .ok (.istore 7, 2) := by decide +kernel
theorem dX11_finds_51 : decode cX11_finds 51 = .ok (.aload_n 0, 1) := by decide +kernel
theorem dX11_finds_52 : decode cX11_finds 52 = .ok (.getfield 29, 3) := by decide +kernel
theorem dX11_finds_55 : decode cX11_finds 55 = .ok (.iload 5, 2) := by decide +kernel
theorem dX11_finds_57 : decode cX11_finds 57 = .ok (.iload 7, 2) := by decide +kernel
theorem dX11_finds_59 : decode cX11_finds 59 = .ok (.iload 4, 2) := by decide +kernel
theorem dX11_finds_61 : decode cX11_finds 61 = .ok (.if_icmp .ge 7, 3) := by decide +kernel
theorem dX11_finds_64 : decode cX11_finds 64 = .ok (.iconst 1, 1) := by decide +kernel
theorem dX11_finds_65 : decode cX11_finds 65 = .ok (.goto 10, 3) := by decide +kernel
theorem dX11_finds_68 : decode cX11_finds 68 = .ok (.aload_n 0, 1) := by decide +kernel
theorem dX11_finds_69 : decode cX11_finds 69 = .ok (.getfield 29, 3) := by decide +kernel
theorem dX11_finds_72 : decode cX11_finds 72 = .ok (.iload 5, 2) := by decide +kernel
theorem dX11_finds_74 : decode cX11_finds 74 = .ok (.iaload, 1) := by decide +kernel
theorem dX11_finds_75 : decode cX11_finds 75 = .ok (.iastore, 1) := by decide +kernel
theorem dX11_finds_76 : decode cX11_finds 76 = .ok (.iload 7, 2) := by decide +kernel
theorem dX11_finds_78 : decode cX11_finds 78 = .ok (.iload 4, 2) := by decide +kernel
theorem dX11_finds_80 : decode cX11_finds 80 = .ok (.if_icmp .ge 8, 3) := by decide +kernel
theorem dX11_finds_83 : decode cX11_finds 83 = .ok (.iload 7, 2) := by decide +kernel
theorem dX11_finds_85 : decode cX11_finds 85 = .ok (.goto 5, 3) := by decide +kernel
theorem dX11_finds_88 : decode cX11_finds 88 = .ok (.iload 4, 2) := by decide +kernel
theorem dX11_finds_90 : decode cX11_finds 90 = .ok (.istore 4, 2) := by decide +kernel
theorem dX11_finds_92 : decode cX11_finds 92 = .ok (.iconst 1, 1) := by decide +kernel
theorem dX11_finds_93 : decode cX11_finds 93 = .ok (.istore 7, 2) := by decide +kernel
theorem dX11_finds_95 : decode cX11_finds 95 = .ok (.iconst 2, 1) := by decide +kernel
theorem dX11_finds_96 : decode cX11_finds 96 = .ok (.iload 7, 2) := by decide +kernel
theorem dX11_finds_98 : decode cX11_finds 98 = .ok (.imul, 1) := by decide +kernel
theorem dX11_finds_99 : decode cX11_finds 99 = .ok (.iload 6, 2) := by decide +kernel
theorem dX11_finds_101 : decode cX11_finds 101 = .ok (.if_icmp .gt 179, 3) := by decide +kernel
theorem dX11_finds_104 : decode cX11_finds 104 = .ok (.iload_n 1, 1) := by decide +kernel
theorem dX11_finds_105 : decode cX11_finds 105 = .ok (.ifCond .le 175, 3) := by decide +kernel
theorem dX11_finds_108 : decode cX11_finds 108 = .ok (.iload 6, 2) := by decide +kernel
theorem dX11_finds_110 : decode cX11_finds 110 = .ok (.iload 7, 2) := by decide +kernel
theorem dX11_finds_112 : decode cX11_finds 112 = .ok (.irem, 1) := by decide +kernel
theorem dX11_finds_113 : decode cX11_finds 113 = .ok (.ifCond .ne 28, 3) := by decide +kernel
theorem dX11_finds_116 : decode cX11_finds 116 = .ok (.aload_n 0, 1) := by decide +kernel
theorem dX11_finds_117 : decode cX11_finds 117 = .ok (.getfield 23, 3) := by decide +kernel
theorem dX11_finds_120 : decode cX11_finds 120 = .ok (.sipush 625, 3) := by decide +kernel
theorem dX11_finds_123 : decode cX11_finds 123 = .ok (.iload_n 2, 1) := by decide +kernel
theorem dX11_finds_124 : decode cX11_finds 124 = .ok (.imul, 1) := by decide +kernel
theorem dX11_finds_125 : decode cX11_finds 125 = .ok (.bipush 25, 2) := by decide +kernel
theorem dX11_finds_127 : decode cX11_finds 127 = .ok (.iload 7, 2) := by decide +kernel
theorem dX11_finds_129 : decode cX11_finds 129 = .ok (.imul, 1) := by decide +kernel
theorem dX11_finds_130 : decode cX11_finds 130 = .ok (.iadd, 1) := by decide +kernel
theorem dX11_finds_131 : decode cX11_finds 131 = .ok (.iload 6, 2) := by decide +kernel
theorem dX11_finds_133 : decode cX11_finds 133 = .ok (.iload 7, 2) := by decide +kernel
theorem dX11_finds_135 : decode cX11_finds 135 = .ok (.idiv, 1) := by decide +kernel
theorem dX11_finds_136 : decode cX11_finds 136 = .ok (.iadd, 1) := by decide +kernel
theorem dX11_finds_137 : decode cX11_finds 137 = .ok (.iaload, 1) := by decide +kernel
theorem dX11_finds_138 : decode cX11_finds 138 = .ok (.goto 5, 3) := by decide +kernel
theorem dX11_finds_141 : decode cX11_finds 141 = .ok (.ldc 94, 2) := by decide +kernel
theorem dX11_finds_143 : decode cX11_finds 143 = .ok (.istore 8, 2) := by decide +kernel
theorem dX11_finds_145 : decode cX11_finds 145 = .ok (.iload 8, 2) := by decide +kernel
theorem dX11_finds_147 : decode cX11_finds 147 = .ok (.aload_n 0, 1) := by decide +kernel
theorem dX11_finds_148 : decode cX11_finds 148 = .ok (.getfield 7, 3) := by decide +kernel
theorem dX11_finds_151 : decode cX11_finds 151 = .ok (.iconst 4, 1) := by decide +kernel
theorem dX11_finds_152 : decode cX11_finds 152 = .ok (.iaload, 1) := by decide +kernel
theorem dX11_finds_153 : decode cX11_finds 153 = .ok (.if_icmp .gt 121, 3) := by decide +kernel
theorem dX11_finds_156 : decode cX11_finds 156 = .ok (.aload_n 0, 1) := by decide +kernel
theorem dX11_finds_157 : decode cX11_finds 157 = .ok (.getfield 7, 3) := by decide +kernel
theorem dX11_finds_160 : decode cX11_finds 160 = .ok (.iconst 2, 1) := by decide +kernel
theorem dX11_finds_161 : decode cX11_finds 161 = .ok (.iaload, 1) := by decide +kernel
theorem dX11_finds_162 : decode cX11_finds 162 = .ok (.aload_n 0, 1) := by decide +kernel
theorem dX11_finds_163 : decode cX11_finds 163 = .ok (.getfield 26, 3) := by decide +kernel
theorem dX11_finds_166 : decode cX11_finds 166 = .ok (.iload_n 1, 1) := by decide +kernel
theorem dX11_finds_167 : decode cX11_finds 167 = .ok (.iconst 1, 1) := by decide +kernel
theorem dX11_finds_168 : decode cX11_finds 168 = .ok (.isub, 1) := by decide +kernel
theorem dX11_finds_169 : decode cX11_finds 169 = .ok (.iload_n 2, 1) := by decide +kernel
theorem dX11_finds_170 : decode cX11_finds 170 = .ok (.iload_n 2, 1) := by decide +kernel
theorem dX11_finds_171 : decode cX11_finds 171 = .ok (.iload 7, 2) := by decide +kernel
theorem dX11_finds_173 : decode cX11_finds 173 = .ok (.iadd, 1) := by decide +kernel
theorem dX11_finds_174 : decode cX11_finds 174 = .ok (.invokestatic 95, 3) := by decide +kernel
theorem dX11_finds_177 : decode cX11_finds 177 = .ok (.iaload, 1) := by decide +kernel
theorem dX11_finds_178 : decode cX11_finds 178 = .ok (.iadd, 1) := by decide +kernel
theorem dX11_finds_179 : decode cX11_finds 179 = .ok (.aload_n 0, 1) := by decide +kernel
theorem dX11_finds_180 : decode cX11_finds 180 = .ok (.getfield 7, 3) := by decide +kernel
theorem dX11_finds_183 : decode cX11_finds 183 = .ok (.iconst 3, 1) := by decide +kernel
theorem dX11_finds_184 : decode cX11_finds 184 = .ok (.iaload, 1) := by decide +kernel
theorem dX11_finds_185 : decode cX11_finds 185 = .ok (.iload 8, 2) := by decide +kernel
theorem dX11_finds_187 : decode cX11_finds 187 = .ok (.imul, 1) := by decide +kernel
theorem dX11_finds_188 : decode cX11_finds 188 = .ok (.iadd, 1) := by decide +kernel
theorem dX11_finds_189 : decode cX11_finds 189 = .ok (.aload_n 0, 1) := by decide +kernel
theorem dX11_finds_190 : decode cX11_finds 190 = .ok (.getfield 26, 3) := by decide +kernel
theorem dX11_finds_193 : decode cX11_finds 193 = .ok (.iload_n 1, 1) := by decide +kernel
theorem dX11_finds_194 : decode cX11_finds 194 = .ok (.iload_n 2, 1) := by decide +kernel
theorem dX11_finds_195 : decode cX11_finds 195 = .ok (.iload 6, 2) := by decide +kernel
theorem dX11_finds_197 : decode cX11_finds 197 = .ok (.iadd, 1) := by decide +kernel
theorem dX11_finds_198 : decode cX11_finds 198 = .ok (.iload_n 3, 1) := by decide +kernel
theorem dX11_finds_199 : decode cX11_finds 199 = .ok (.invokestatic 95, 3) := by decide +kernel
theorem dX11_finds_202 : decode cX11_finds 202 = .ok (.iaload, 1) := by decide +kernel
theorem dX11_finds_203 : decode cX11_finds 203 = .ok (.iadd, 1) := by decide +kernel
theorem dX11_finds_204 : decode cX11_finds 204 = .ok (.istore 9, 2) := by decide +kernel
theorem dX11_finds_206 : decode cX11_finds 206 = .ok (.aload_n 0, 1) := by decide +kernel
theorem dX11_finds_207 : decode cX11_finds 207 = .ok (.getfield 29, 3) := by decide +kernel
theorem dX11_finds_210 : decode cX11_finds 210 = .ok (.iload 5, 2) := by decide +kernel
theorem dX11_finds_212 : decode cX11_finds 212 = .ok (.iload 9, 2) := by decide +kernel
theorem dX11_finds_214 : decode cX11_finds 214 = .ok (.iload 4, 2) := by decide +kernel
theorem dX11_finds_216 : decode cX11_finds 216 = .ok (.if_icmp .ge 8, 3) := by decide +kernel
theorem dX11_finds_219 : decode cX11_finds 219 = .ok (.iload 6, 2) := by decide +kernel
theorem dX11_finds_221 : decode cX11_finds 221 = .ok (.goto 10, 3) := by decide +kernel
theorem dX11_finds_224 : decode cX11_finds 224 = .ok (.aload_n 0, 1) := by decide +kernel
theorem dX11_finds_225 : decode cX11_finds 225 = .ok (.getfield 29, 3) := by decide +kernel
theorem dX11_finds_228 : decode cX11_finds 228 = .ok (.iload 5, 2) := by decide +kernel
theorem dX11_finds_230 : decode cX11_finds 230 = .ok (.iaload, 1) := by decide +kernel
theorem dX11_finds_231 : decode cX11_finds 231 = .ok (.iastore, 1) := by decide +kernel
theorem dX11_finds_232 : decode cX11_finds 232 = .ok (.aload_n 0, 1) := by decide +kernel
theorem dX11_finds_233 : decode cX11_finds 233 = .ok (.getfield 32, 3) := by decide +kernel
theorem dX11_finds_236 : decode cX11_finds 236 = .ok (.iload 5, 2) := by decide +kernel
theorem dX11_finds_238 : decode cX11_finds 238 = .ok (.iload 9, 2) := by decide +kernel
theorem dX11_finds_240 : decode cX11_finds 240 = .ok (.iload 4, 2) := by decide +kernel
theorem dX11_finds_242 : decode cX11_finds 242 = .ok (.if_icmp .ge 8, 3) := by decide +kernel
theorem dX11_finds_245 : decode cX11_finds 245 = .ok (.iload 7, 2) := by decide +kernel
theorem dX11_finds_247 : decode cX11_finds 247 = .ok (.goto 10, 3) := by decide +kernel
theorem dX11_finds_250 : decode cX11_finds 250 = .ok (.aload_n 0, 1) := by decide +kernel
theorem dX11_finds_251 : decode cX11_finds 251 = .ok (.getfield 32, 3) := by decide +kernel
theorem dX11_finds_254 : decode cX11_finds 254 = .ok (.iload 5, 2) := by decide +kernel
theorem dX11_finds_256 : decode cX11_finds 256 = .ok (.iaload, 1) := by decide +kernel
theorem dX11_finds_257 : decode cX11_finds 257 = .ok (.iastore, 1) := by decide +kernel
theorem dX11_finds_258 : decode cX11_finds 258 = .ok (.iload 9, 2) := by decide +kernel
theorem dX11_finds_260 : decode cX11_finds 260 = .ok (.iload 4, 2) := by decide +kernel
theorem dX11_finds_262 : decode cX11_finds 262 = .ok (.if_icmp .ge 8, 3) := by decide +kernel
theorem dX11_finds_265 : decode cX11_finds 265 = .ok (.iload 9, 2) := by decide +kernel
theorem dX11_finds_267 : decode cX11_finds 267 = .ok (.goto 5, 3) := by decide +kernel
theorem dX11_finds_270 : decode cX11_finds 270 = .ok (.iload 4, 2) := by decide +kernel
theorem dX11_finds_272 : decode cX11_finds 272 = .ok (.istore 4, 2) := by decide +kernel
theorem dX11_finds_274 : decode cX11_finds 274 = .ok (.iinc 7 1, 3) := by decide +kernel
theorem dX11_finds_277 : decode cX11_finds 277 = .ok (.goto (-182), 3) := by decide +kernel
theorem dX11_finds_280 : decode cX11_finds 280 = .ok (.iinc 6 (-1), 3) := by decide +kernel
theorem dX11_finds_283 : decode cX11_finds 283 = .ok (.goto (-266), 3) := by decide +kernel
theorem dX11_finds_286 : decode cX11_finds 286 = .ok (.aload_n 0, 1) := by decide +kernel
theorem dX11_finds_287 : decode cX11_finds 287 = .ok (.getfield 26, 3) := by decide +kernel
theorem dX11_finds_290 : decode cX11_finds 290 = .ok (.iload 5, 2) := by decide +kernel
theorem dX11_finds_292 : decode cX11_finds 292 = .ok (.iload 4, 2) := by decide +kernel
theorem dX11_finds_294 : decode cX11_finds 294 = .ok (.iastore, 1) := by decide +kernel
theorem dX11_finds_295 : decode cX11_finds 295 = .ok (.return_, 1) := by decide +kernel
set_option maxRecDepth 20000 in
theorem ggX11_lays_X11_corrects : GoodIn wsX11_lays wsX11_corrects := goodIn_r _ [7, 1, 8, 19, 20, 21, 22, 23, 24, 25, 26, 27, 28, 29, 30, 31, 32, 33, 34, 35, 36, 37, 38, 39, 40, 41, 42, 43, 44, 45, 46, 47] (by decide +kernel) (by decide +kernel)
set_option maxRecDepth 20000 in
theorem gX11_lays_X11_corrects : GoodIn wsX11_lays (wsV RX11 98 RX11 yX11_corrects wsX11_corrects) := goodIn_app (goodIn_of _ (by decide +kernel)) ggX11_lays_X11_corrects
set_option maxRecDepth 20000 in
theorem ggX11_lays_X11_part : GoodIn wsX11_lays wsX11_part := goodIn_r _ [11] (by decide +kernel) (by decide +kernel)
set_option maxRecDepth 20000 in
theorem gX11_lays_X11_part : GoodIn wsX11_lays (va_wsS RX11 95 yX11_part wsX11_part) := goodIn_app (goodIn_of _ (by decide +kernel)) ggX11_lays_X11_part
set_option maxRecDepth 20000 in
theorem ggX11_lays_X11_finds : GoodIn wsX11_lays wsX11_finds := goodIn_r _ [15, 16, 1, 2, 17, 8, 18, 9, 10, 6, 11, 19, 20, 21, 22, 23, 24, 25, 26, 27, 28, 29, 30, 31, 32, 33, 34, 35, 36, 37, 38, 39, 40, 41, 42, 43, 44, 45, 46, 47] (by decide +kernel) (by decide +kernel)
set_option maxRecDepth 20000 in
theorem gX11_lays_X11_finds : GoodIn wsX11_lays (wsV RX11 101 RX11 yX11_finds wsX11_finds) := goodIn_app (goodIn_of _ (by decide +kernel)) ggX11_lays_X11_finds
theorem dX11_lays_0 : decode cX11_lays 0 = .ok (.aload_n 0, 1) := by decide +kernel
theorem dX11_lays_1 : decode cX11_lays 1 = .ok (.invokevirtual 98, 3) := by decide +kernel
theorem dX11_lays_4 : decode cX11_lays 4 = .ok (.iconst 0, 1) := by decide +kernel
theorem dX11_lays_5 : decode cX11_lays 5 = .ok (.istore_n 1, 1) := by decide +kernel
theorem dX11_lays_6 : decode cX11_lays 6 = .ok (.iload_n 1, 1) := by decide +kernel
theorem dX11_lays_7 : decode cX11_lays 7 = .ok (.aload_n 0, 1) := by decide +kernel
theorem dX11_lays_8 : decode cX11_lays 8 = .ok (.getfield 7, 3) := by decide +kernel
theorem dX11_lays_11 : decode cX11_lays 11 = .ok (.iconst 5, 1) := by decide +kernel
theorem dX11_lays_12 : decode cX11_lays 12 = .ok (.iaload, 1) := by decide +kernel
theorem dX11_lays_13 : decode cX11_lays 13 = .ok (.if_icmp .gt 65, 3) := by decide +kernel
theorem dX11_lays_16 : decode cX11_lays 16 = .ok (.aload_n 0, 1) := by decide +kernel
theorem dX11_lays_17 : decode cX11_lays 17 = .ok (.getfield 7, 3) := by decide +kernel
theorem dX11_lays_20 : decode cX11_lays 20 = .ok (.iconst 0, 1) := by decide +kernel
theorem dX11_lays_21 : decode cX11_lays 21 = .ok (.iaload, 1) := by decide +kernel
theorem dX11_lays_22 : decode cX11_lays 22 = .ok (.istore_n 2, 1) := by decide +kernel
theorem dX11_lays_23 : decode cX11_lays 23 = .ok (.iload_n 2, 1) := by decide +kernel
theorem dX11_lays_24 : decode cX11_lays 24 = .ok (.ifCond .lt 48, 3) := by decide +kernel
theorem dX11_lays_27 : decode cX11_lays 27 = .ok (.aload_n 0, 1) := by decide +kernel
theorem dX11_lays_28 : decode cX11_lays 28 = .ok (.getfield 26, 3) := by decide +kernel
theorem dX11_lays_31 : decode cX11_lays 31 = .ok (.iload_n 1, 1) := by decide +kernel
theorem dX11_lays_32 : decode cX11_lays 32 = .ok (.iload_n 2, 1) := by decide +kernel
theorem dX11_lays_33 : decode cX11_lays 33 = .ok (.iload_n 2, 1) := by decide +kernel
theorem dX11_lays_34 : decode cX11_lays 34 = .ok (.invokestatic 95, 3) := by decide +kernel
theorem dX11_lays_37 : decode cX11_lays 37 = .ok (.iconst 0, 1) := by decide +kernel
theorem dX11_lays_38 : decode cX11_lays 38 = .ok (.iastore, 1) := by decide +kernel
theorem dX11_lays_39 : decode cX11_lays 39 = .ok (.iload_n 2, 1) := by decide +kernel
theorem dX11_lays_40 : decode cX11_lays 40 = .ok (.iconst 1, 1) := by decide +kernel
theorem dX11_lays_41 : decode cX11_lays 41 = .ok (.iadd, 1) := by decide +kernel
theorem dX11_lays_42 : decode cX11_lays 42 = .ok (.istore_n 3, 1) := by decide +kernel
theorem dX11_lays_43 : decode cX11_lays 43 = .ok (.iload_n 3, 1) := by decide +kernel
theorem dX11_lays_44 : decode cX11_lays 44 = .ok (.aload_n 0, 1) := by decide +kernel
theorem dX11_lays_45 : decode cX11_lays 45 = .ok (.getfield 7, 3) := by decide +kernel
theorem dX11_lays_48 : decode cX11_lays 48 = .ok (.iconst 0, 1) := by decide +kernel
theorem dX11_lays_49 : decode cX11_lays 49 = .ok (.iaload, 1) := by decide +kernel
theorem dX11_lays_50 : decode cX11_lays 50 = .ok (.if_icmp .gt 16, 3) := by decide +kernel
theorem dX11_lays_53 : decode cX11_lays 53 = .ok (.aload_n 0, 1) := by decide +kernel
theorem dX11_lays_54 : decode cX11_lays 54 = .ok (.iload_n 1, 1) := by decide +kernel
theorem dX11_lays_55 : decode cX11_lays 55 = .ok (.iload_n 2, 1) := by decide +kernel
theorem dX11_lays_56 : decode cX11_lays 56 = .ok (.iload_n 3, 1) := by decide +kernel
theorem dX11_lays_57 : decode cX11_lays 57 = .ok (.invokevirtual 101, 3) := by decide +kernel
theorem dX11_lays_60 : decode cX11_lays 60 = .ok (.iinc 3 1, 3) := by decide +kernel
theorem dX11_lays_63 : decode cX11_lays 63 = .ok (.goto (-20), 3) := by decide +kernel
theorem dX11_lays_66 : decode cX11_lays 66 = .ok (.iinc 2 (-1), 3) := by decide +kernel
theorem dX11_lays_69 : decode cX11_lays 69 = .ok (.goto (-46), 3) := by decide +kernel
theorem dX11_lays_72 : decode cX11_lays 72 = .ok (.iinc 1 1, 3) := by decide +kernel
theorem dX11_lays_75 : decode cX11_lays 75 = .ok (.goto (-69), 3) := by decide +kernel
theorem dX11_lays_78 : decode cX11_lays 78 = .ok (.return_, 1) := by decide +kernel
theorem dX11_writes_0 : decode cX11_writes 0 = .ok (.aload_n 0, 1) := by decide +kernel
theorem dX11_writes_1 : decode cX11_writes 1 = .ok (.getfield 42, 3) := by decide +kernel
theorem dX11_writes_4 : decode cX11_writes 4 = .ok (.aload_n 0, 1) := by decide +kernel
theorem dX11_writes_5 : decode cX11_writes 5 = .ok (.getfield 105, 3) := by decide +kernel
theorem dX11_writes_8 : decode cX11_writes 8 = .ok (.iload_n 1, 1) := by decide +kernel
theorem dX11_writes_9 : decode cX11_writes 9 = .ok (.i2c, 1) := by decide +kernel
theorem dX11_writes_10 : decode cX11_writes 10 = .ok (.castore, 1) := by decide +kernel
theorem dX11_writes_11 : decode cX11_writes 11 = .ok (.aload_n 0, 1) := by decide +kernel
theorem dX11_writes_12 : decode cX11_writes 12 = .ok (.dup, 1) := by decide +kernel
theorem dX11_writes_13 : decode cX11_writes 13 = .ok (.getfield 105, 3) := by decide +kernel
theorem dX11_writes_16 : decode cX11_writes 16 = .ok (.iconst 1, 1) := by decide +kernel
theorem dX11_writes_17 : decode cX11_writes 17 = .ok (.iadd, 1) := by decide +kernel
theorem dX11_writes_18 : decode cX11_writes 18 = .ok (.putfield 105, 3) := by decide +kernel
theorem dX11_writes_21 : decode cX11_writes 21 = .ok (.return_, 1) := by decide +kernel
set_option maxRecDepth 20000 in
theorem ggX11_number_X11_writes : GoodIn wsX11_number wsX11_writes := goodIn_r _ [5, 6, 7, 8, 9, 10, 11, 12, 13, 14, 15, 16, 17, 18, 19, 20, 21, 22, 23, 24, 25, 26, 27, 28, 29, 30, 31, 32, 33, 34, 35, 36] (by decide +kernel) (by decide +kernel)
set_option maxRecDepth 20000 in
theorem gX11_number_X11_writes : GoodIn wsX11_number (wsV RX11 108 RX11 yX11_writes wsX11_writes) := goodIn_app (goodIn_of _ (by decide +kernel)) ggX11_number_X11_writes
theorem dX11_number_0 : decode cX11_number 0 = .ok (.iload_n 1, 1) := by decide +kernel
theorem dX11_number_1 : decode cX11_number 1 = .ok (.bipush 9, 2) := by decide +kernel
theorem dX11_number_3 : decode cX11_number 3 = .ok (.if_icmp .le 14, 3) := by decide +kernel
theorem dX11_number_6 : decode cX11_number 6 = .ok (.aload_n 0, 1) := by decide +kernel
theorem dX11_number_7 : decode cX11_number 7 = .ok (.bipush 48, 2) := by decide +kernel
theorem dX11_number_9 : decode cX11_number 9 = .ok (.iload_n 1, 1) := by decide +kernel
theorem dX11_number_10 : decode cX11_number 10 = .ok (.bipush 10, 2) := by decide +kernel
theorem dX11_number_12 : decode cX11_number 12 = .ok (.idiv, 1) := by decide +kernel
theorem dX11_number_13 : decode cX11_number 13 = .ok (.iadd, 1) := by decide +kernel
theorem dX11_number_14 : decode cX11_number 14 = .ok (.invokevirtual 108, 3) := by decide +kernel
theorem dX11_number_17 : decode cX11_number 17 = .ok (.aload_n 0, 1) := by decide +kernel
theorem dX11_number_18 : decode cX11_number 18 = .ok (.bipush 48, 2) := by decide +kernel
theorem dX11_number_20 : decode cX11_number 20 = .ok (.iload_n 1, 1) := by decide +kernel
theorem dX11_number_21 : decode cX11_number 21 = .ok (.bipush 10, 2) := by decide +kernel
theorem dX11_number_23 : decode cX11_number 23 = .ok (.irem, 1) := by decide +kernel
theorem dX11_number_24 : decode cX11_number 24 = .ok (.iadd, 1) := by decide +kernel
theorem dX11_number_25 : decode cX11_number 25 = .ok (.invokevirtual 108, 3) := by decide +kernel
theorem dX11_number_28 : decode cX11_number 28 = .ok (.return_, 1) := by decide +kernel
theorem dX11_puts_0 : decode cX11_puts 0 = .ok (.aload_n 0, 1) := by decide +kernel
theorem dX11_puts_1 : decode cX11_puts 1 = .ok (.getfield 39, 3) := by decide +kernel
theorem dX11_puts_4 : decode cX11_puts 4 = .ok (.iconst 4, 1) := by decide +kernel
theorem dX11_puts_5 : decode cX11_puts 5 = .ok (.aload_n 0, 1) := by decide +kernel
theorem dX11_puts_6 : decode cX11_puts 6 = .ok (.getfield 112, 3) := by decide +kernel
theorem dX11_puts_9 : decode cX11_puts 9 = .ok (.imul, 1) := by decide +kernel
theorem dX11_puts_10 : decode cX11_puts 10 = .ok (.iload_n 1, 1) := by decide +kernel
theorem dX11_puts_11 : decode cX11_puts 11 = .ok (.iastore, 1) := by decide +kernel
theorem dX11_puts_12 : decode cX11_puts 12 = .ok (.aload_n 0, 1) := by decide +kernel
theorem dX11_puts_13 : decode cX11_puts 13 = .ok (.getfield 39, 3) := by decide +kernel
theorem dX11_puts_16 : decode cX11_puts 16 = .ok (.iconst 4, 1) := by decide +kernel
theorem dX11_puts_17 : decode cX11_puts 17 = .ok (.aload_n 0, 1) := by decide +kernel
theorem dX11_puts_18 : decode cX11_puts 18 = .ok (.getfield 112, 3) := by decide +kernel
theorem dX11_puts_21 : decode cX11_puts 21 = .ok (.imul, 1) := by decide +kernel
theorem dX11_puts_22 : decode cX11_puts 22 = .ok (.iconst 1, 1) := by decide +kernel
theorem dX11_puts_23 : decode cX11_puts 23 = .ok (.iadd, 1) := by decide +kernel
theorem dX11_puts_24 : decode cX11_puts 24 = .ok (.iload_n 2, 1) := by decide +kernel
theorem dX11_puts_25 : decode cX11_puts 25 = .ok (.iastore, 1) := by decide +kernel
theorem dX11_puts_26 : decode cX11_puts 26 = .ok (.aload_n 0, 1) := by decide +kernel
theorem dX11_puts_27 : decode cX11_puts 27 = .ok (.getfield 39, 3) := by decide +kernel
theorem dX11_puts_30 : decode cX11_puts 30 = .ok (.iconst 4, 1) := by decide +kernel
theorem dX11_puts_31 : decode cX11_puts 31 = .ok (.aload_n 0, 1) := by decide +kernel
theorem dX11_puts_32 : decode cX11_puts 32 = .ok (.getfield 112, 3) := by decide +kernel
theorem dX11_puts_35 : decode cX11_puts 35 = .ok (.imul, 1) := by decide +kernel
theorem dX11_puts_36 : decode cX11_puts 36 = .ok (.iconst 2, 1) := by decide +kernel
theorem dX11_puts_37 : decode cX11_puts 37 = .ok (.iadd, 1) := by decide +kernel
theorem dX11_puts_38 : decode cX11_puts 38 = .ok (.iload_n 3, 1) := by decide +kernel
theorem dX11_puts_39 : decode cX11_puts 39 = .ok (.iastore, 1) := by decide +kernel
theorem dX11_puts_40 : decode cX11_puts 40 = .ok (.aload_n 0, 1) := by decide +kernel
theorem dX11_puts_41 : decode cX11_puts 41 = .ok (.getfield 39, 3) := by decide +kernel
theorem dX11_puts_44 : decode cX11_puts 44 = .ok (.iconst 4, 1) := by decide +kernel
theorem dX11_puts_45 : decode cX11_puts 45 = .ok (.aload_n 0, 1) := by decide +kernel
theorem dX11_puts_46 : decode cX11_puts 46 = .ok (.getfield 112, 3) := by decide +kernel
theorem dX11_puts_49 : decode cX11_puts 49 = .ok (.imul, 1) := by decide +kernel
theorem dX11_puts_50 : decode cX11_puts 50 = .ok (.iconst 3, 1) := by decide +kernel
theorem dX11_puts_51 : decode cX11_puts 51 = .ok (.iadd, 1) := by decide +kernel
theorem dX11_puts_52 : decode cX11_puts 52 = .ok (.iload 4, 2) := by decide +kernel
theorem dX11_puts_54 : decode cX11_puts 54 = .ok (.iastore, 1) := by decide +kernel
theorem dX11_puts_55 : decode cX11_puts 55 = .ok (.aload_n 0, 1) := by decide +kernel
theorem dX11_puts_56 : decode cX11_puts 56 = .ok (.dup, 1) := by decide +kernel
theorem dX11_puts_57 : decode cX11_puts 57 = .ok (.getfield 112, 3) := by decide +kernel
theorem dX11_puts_60 : decode cX11_puts 60 = .ok (.iconst 1, 1) := by decide +kernel
theorem dX11_puts_61 : decode cX11_puts 61 = .ok (.iadd, 1) := by decide +kernel
theorem dX11_puts_62 : decode cX11_puts 62 = .ok (.putfield 112, 3) := by decide +kernel
theorem dX11_puts_65 : decode cX11_puts 65 = .ok (.return_, 1) := by decide +kernel
set_option maxRecDepth 20000 in
theorem ggX11_ends_X11_writes : GoodIn wsX11_ends wsX11_writes := goodIn_r _ [6, 7, 8, 13, 14, 15, 16, 17, 18, 19, 20, 21, 22, 23, 24, 25, 26, 27, 28, 29, 30, 31, 32, 33, 34, 35, 36, 37, 38, 39, 40, 41] (by decide +kernel) (by decide +kernel)
set_option maxRecDepth 20000 in
theorem gX11_ends_X11_writes : GoodIn wsX11_ends (wsV RX11 108 RX11 yX11_writes wsX11_writes) := goodIn_app (goodIn_of _ (by decide +kernel)) ggX11_ends_X11_writes
set_option maxRecDepth 20000 in
theorem ggX11_ends_X11_number : GoodIn wsX11_ends wsX11_number := goodIn_r _ [12, 2, 3, 4, 5, 6, 7, 8, 13, 14, 15, 16, 17, 18, 19, 20, 21, 22, 23, 24, 25, 26, 27, 28, 29, 30, 31, 32, 33, 34, 35, 36, 37, 38, 39, 40, 41] (by decide +kernel) (by decide +kernel)
set_option maxRecDepth 20000 in
theorem gX11_ends_X11_number : GoodIn wsX11_ends (wsV RX11 115 RX11 yX11_number wsX11_number) := goodIn_app (goodIn_of _ (by decide +kernel)) ggX11_ends_X11_number
theorem dX11_ends_0 : decode cX11_ends 0 = .ok (.aload_n 0, 1) := by decide +kernel
theorem dX11_ends_1 : decode cX11_ends 1 = .ok (.bipush 41, 2) := by decide +kernel
theorem dX11_ends_3 : decode cX11_ends 3 = .ok (.invokevirtual 108, 3) := by decide +kernel
theorem dX11_ends_6 : decode cX11_ends 6 = .ok (.iload_n 2, 1) := by decide +kernel
theorem dX11_ends_7 : decode cX11_ends 7 = .ok (.istore 4, 2) := by decide +kernel
theorem dX11_ends_9 : decode cX11_ends 9 = .ok (.iload 4, 2) := by decide +kernel
theorem dX11_ends_11 : decode cX11_ends 11 = .ok (.iload_n 2, 1) := by decide +kernel
theorem dX11_ends_12 : decode cX11_ends 12 = .ok (.iload_n 3, 1) := by decide +kernel
theorem dX11_ends_13 : decode cX11_ends 13 = .ok (.imul, 1) := by decide +kernel
theorem dX11_ends_14 : decode cX11_ends 14 = .ok (.if_icmp .ge 81, 3) := by decide +kernel
theorem dX11_ends_17 : decode cX11_ends 17 = .ok (.aload_n 0, 1) := by decide +kernel
theorem dX11_ends_18 : decode cX11_ends 18 = .ok (.getfield 7, 3) := by decide +kernel
theorem dX11_ends_21 : decode cX11_ends 21 = .ok (.bipush 6, 2) := by decide +kernel
theorem dX11_ends_23 : decode cX11_ends 23 = .ok (.iload_n 1, 1) := by decide +kernel
theorem dX11_ends_24 : decode cX11_ends 24 = .ok (.iadd, 1) := by decide +kernel
theorem dX11_ends_25 : decode cX11_ends 25 = .ok (.iload 4, 2) := by decide +kernel
theorem dX11_ends_27 : decode cX11_ends 27 = .ok (.iadd, 1) := by decide +kernel
theorem dX11_ends_28 : decode cX11_ends 28 = .ok (.iaload, 1) := by decide +kernel
theorem dX11_ends_29 : decode cX11_ends 29 = .ok (.aload_n 0, 1) := by decide +kernel
theorem dX11_ends_30 : decode cX11_ends 30 = .ok (.getfield 7, 3) := by decide +kernel
theorem dX11_ends_33 : decode cX11_ends 33 = .ok (.bipush 6, 2) := by decide +kernel
theorem dX11_ends_35 : decode cX11_ends 35 = .ok (.iload_n 1, 1) := by decide +kernel
theorem dX11_ends_36 : decode cX11_ends 36 = .ok (.iadd, 1) := by decide +kernel
theorem dX11_ends_37 : decode cX11_ends 37 = .ok (.iload 4, 2) := by decide +kernel
theorem dX11_ends_39 : decode cX11_ends 39 = .ok (.iload_n 2, 1) := by decide +kernel
theorem dX11_ends_40 : decode cX11_ends 40 = .ok (.irem, 1) := by decide +kernel
theorem dX11_ends_41 : decode cX11_ends 41 = .ok (.iadd, 1) := by decide +kernel
theorem dX11_ends_42 : decode cX11_ends 42 = .ok (.iaload, 1) := by decide +kernel
theorem dX11_ends_43 : decode cX11_ends 43 = .ok (.if_icmp .eq 46, 3) := by decide +kernel
theorem dX11_ends_46 : decode cX11_ends 46 = .ok (.aload_n 0, 1) := by decide +kernel
theorem dX11_ends_47 : decode cX11_ends 47 = .ok (.bipush 91, 2) := by decide +kernel
theorem dX11_ends_49 : decode cX11_ends 49 = .ok (.invokevirtual 108, 3) := by decide +kernel
theorem dX11_ends_52 : decode cX11_ends 52 = .ok (.aload_n 0, 1) := by decide +kernel
theorem dX11_ends_53 : decode cX11_ends 53 = .ok (.iload 4, 2) := by decide +kernel
theorem dX11_ends_55 : decode cX11_ends 55 = .ok (.invokevirtual 115, 3) := by decide +kernel
theorem dX11_ends_58 : decode cX11_ends 58 = .ok (.aload_n 0, 1) := by decide +kernel
theorem dX11_ends_59 : decode cX11_ends 59 = .ok (.bipush 44, 2) := by decide +kernel
theorem dX11_ends_61 : decode cX11_ends 61 = .ok (.invokevirtual 108, 3) := by decide +kernel
theorem dX11_ends_64 : decode cX11_ends 64 = .ok (.aload_n 0, 1) := by decide +kernel
theorem dX11_ends_65 : decode cX11_ends 65 = .ok (.bipush 97, 2) := by decide +kernel
theorem dX11_ends_67 : decode cX11_ends 67 = .ok (.aload_n 0, 1) := by decide +kernel
theorem dX11_ends_68 : decode cX11_ends 68 = .ok (.getfield 7, 3) := by decide +kernel
theorem dX11_ends_71 : decode cX11_ends 71 = .ok (.bipush 6, 2) := by decide +kernel
theorem dX11_ends_73 : decode cX11_ends 73 = .ok (.iload_n 1, 1) := by decide +kernel
theorem dX11_ends_74 : decode cX11_ends 74 = .ok (.iadd, 1) := by decide +kernel
theorem dX11_ends_75 : decode cX11_ends 75 = .ok (.iload 4, 2) := by decide +kernel
theorem dX11_ends_77 : decode cX11_ends 77 = .ok (.iadd, 1) := by decide +kernel
theorem dX11_ends_78 : decode cX11_ends 78 = .ok (.iaload, 1) := by decide +kernel
theorem dX11_ends_79 : decode cX11_ends 79 = .ok (.iadd, 1) := by decide +kernel
theorem dX11_ends_80 : decode cX11_ends 80 = .ok (.invokevirtual 108, 3) := by decide +kernel
theorem dX11_ends_83 : decode cX11_ends 83 = .ok (.aload_n 0, 1) := by decide +kernel
theorem dX11_ends_84 : decode cX11_ends 84 = .ok (.bipush 93, 2) := by decide +kernel
theorem dX11_ends_86 : decode cX11_ends 86 = .ok (.invokevirtual 108, 3) := by decide +kernel
theorem dX11_ends_89 : decode cX11_ends 89 = .ok (.iinc 4 1, 3) := by decide +kernel
theorem dX11_ends_92 : decode cX11_ends 92 = .ok (.goto (-83), 3) := by decide +kernel
theorem dX11_ends_95 : decode cX11_ends 95 = .ok (.return_, 1) := by decide +kernel
set_option maxRecDepth 20000 in
theorem ggX11_opens_X11_part : GoodIn wsX11_opens wsX11_part := goodIn_r _ [7] (by decide +kernel) (by decide +kernel)
set_option maxRecDepth 20000 in
theorem gX11_opens_X11_part : GoodIn wsX11_opens (va_wsS RX11 95 yX11_part wsX11_part) := goodIn_app (goodIn_of _ (by decide +kernel)) ggX11_opens_X11_part
set_option maxRecDepth 20000 in
theorem ggX11_opens_X11_puts : GoodIn wsX11_opens wsX11_puts := goodIn_r _ [11, 12, 13, 24, 25, 26, 27, 28, 29, 30, 31, 32, 33, 34, 35, 36, 37, 38, 39, 40, 41, 42, 43, 44, 45, 46, 47, 48, 49, 50, 51, 52] (by decide +kernel) (by decide +kernel)
set_option maxRecDepth 20000 in
theorem gX11_opens_X11_puts : GoodIn wsX11_opens (wsV RX11 118 RX11 yX11_puts wsX11_puts) := goodIn_app (goodIn_of _ (by decide +kernel)) ggX11_opens_X11_puts
set_option maxRecDepth 20000 in
theorem ggX11_opens_X11_writes : GoodIn wsX11_opens wsX11_writes := goodIn_r _ [17, 18, 19, 24, 25, 26, 27, 28, 29, 30, 31, 32, 33, 34, 35, 36, 37, 38, 39, 40, 41, 42, 43, 44, 45, 46, 47, 48, 49, 50, 51, 52] (by decide +kernel) (by decide +kernel)
set_option maxRecDepth 20000 in
theorem gX11_opens_X11_writes : GoodIn wsX11_opens (wsV RX11 108 RX11 yX11_writes wsX11_writes) := goodIn_app (goodIn_of _ (by decide +kernel)) ggX11_opens_X11_writes
set_option maxRecDepth 20000 in
theorem ggX11_opens_X11_number : GoodIn wsX11_opens wsX11_number := goodIn_r _ [23, 14, 15, 16, 6, 17, 18, 19, 24, 25, 26, 27, 28, 29, 30, 31, 32, 33, 34, 35, 36, 37, 38, 39, 40, 41, 42, 43, 44, 45, 46, 47, 48, 49, 50, 51, 52] (by decide +kernel) (by decide +kernel)
set_option maxRecDepth 20000 in
theorem gX11_opens_X11_number : GoodIn wsX11_opens (wsV RX11 115 RX11 yX11_number wsX11_number) := goodIn_app (goodIn_of _ (by decide +kernel)) ggX11_opens_X11_number
theorem dX11_opens_0 : decode cX11_opens 0 = .ok (.aload_n 0, 1) := by decide +kernel
theorem dX11_opens_1 : decode cX11_opens 1 = .ok (.getfield 29, 3) := by decide +kernel
theorem dX11_opens_4 : decode cX11_opens 4 = .ok (.iload_n 3, 1) := by decide +kernel
theorem dX11_opens_5 : decode cX11_opens 5 = .ok (.iload_n 1, 1) := by decide +kernel
theorem dX11_opens_6 : decode cX11_opens 6 = .ok (.iload_n 2, 1) := by decide +kernel
theorem dX11_opens_7 : decode cX11_opens 7 = .ok (.invokestatic 95, 3) := by decide +kernel
theorem dX11_opens_10 : decode cX11_opens 10 = .ok (.iaload, 1) := by decide +kernel
theorem dX11_opens_11 : decode cX11_opens 11 = .ok (.istore 4, 2) := by decide +kernel
theorem dX11_opens_13 : decode cX11_opens 13 = .ok (.aload_n 0, 1) := by decide +kernel
theorem dX11_opens_14 : decode cX11_opens 14 = .ok (.iconst 0, 1) := by decide +kernel
theorem dX11_opens_15 : decode cX11_opens 15 = .ok (.iload_n 1, 1) := by decide +kernel
theorem dX11_opens_16 : decode cX11_opens 16 = .ok (.iload 4, 2) := by decide +kernel
theorem dX11_opens_18 : decode cX11_opens 18 = .ok (.iadd, 1) := by decide +kernel
theorem dX11_opens_19 : decode cX11_opens 19 = .ok (.iload_n 2, 1) := by decide +kernel
theorem dX11_opens_20 : decode cX11_opens 20 = .ok (.iload_n 3, 1) := by decide +kernel
theorem dX11_opens_21 : decode cX11_opens 21 = .ok (.invokevirtual 118, 3) := by decide +kernel
theorem dX11_opens_24 : decode cX11_opens 24 = .ok (.iload 4, 2) := by decide +kernel
theorem dX11_opens_26 : decode cX11_opens 26 = .ok (.iconst 1, 1) := by decide +kernel
theorem dX11_opens_27 : decode cX11_opens 27 = .ok (.if_icmp .ne 22, 3) := by decide +kernel
theorem dX11_opens_30 : decode cX11_opens 30 = .ok (.aload_n 0, 1) := by decide +kernel
theorem dX11_opens_31 : decode cX11_opens 31 = .ok (.bipush 97, 2) := by decide +kernel
theorem dX11_opens_33 : decode cX11_opens 33 = .ok (.aload_n 0, 1) := by decide +kernel
theorem dX11_opens_34 : decode cX11_opens 34 = .ok (.getfield 7, 3) := by decide +kernel
theorem dX11_opens_37 : decode cX11_opens 37 = .ok (.bipush 6, 2) := by decide +kernel
theorem dX11_opens_39 : decode cX11_opens 39 = .ok (.iload_n 1, 1) := by decide +kernel
theorem dX11_opens_40 : decode cX11_opens 40 = .ok (.iadd, 1) := by decide +kernel
theorem dX11_opens_41 : decode cX11_opens 41 = .ok (.iaload, 1) := by decide +kernel
theorem dX11_opens_42 : decode cX11_opens 42 = .ok (.iadd, 1) := by decide +kernel
theorem dX11_opens_43 : decode cX11_opens 43 = .ok (.invokevirtual 108, 3) := by decide +kernel
theorem dX11_opens_46 : decode cX11_opens 46 = .ok (.goto 57, 3) := by decide +kernel
theorem dX11_opens_49 : decode cX11_opens 49 = .ok (.aload_n 0, 1) := by decide +kernel
theorem dX11_opens_50 : decode cX11_opens 50 = .ok (.getfield 32, 3) := by decide +kernel
theorem dX11_opens_53 : decode cX11_opens 53 = .ok (.iload_n 3, 1) := by decide +kernel
theorem dX11_opens_54 : decode cX11_opens 54 = .ok (.iload_n 1, 1) := by decide +kernel
theorem dX11_opens_55 : decode cX11_opens 55 = .ok (.iload_n 2, 1) := by decide +kernel
theorem dX11_opens_56 : decode cX11_opens 56 = .ok (.invokestatic 95, 3) := by decide +kernel
theorem dX11_opens_59 : decode cX11_opens 59 = .ok (.iaload, 1) := by decide +kernel
theorem dX11_opens_60 : decode cX11_opens 60 = .ok (.istore 5, 2) := by decide +kernel
theorem dX11_opens_62 : decode cX11_opens 62 = .ok (.aload_n 0, 1) := by decide +kernel
theorem dX11_opens_63 : decode cX11_opens 63 = .ok (.iload 4, 2) := by decide +kernel
theorem dX11_opens_65 : decode cX11_opens 65 = .ok (.iload 5, 2) := by decide +kernel
theorem dX11_opens_67 : decode cX11_opens 67 = .ok (.idiv, 1) := by decide +kernel
theorem dX11_opens_68 : decode cX11_opens 68 = .ok (.invokevirtual 115, 3) := by decide +kernel
theorem dX11_opens_71 : decode cX11_opens 71 = .ok (.aload_n 0, 1) := by decide +kernel
theorem dX11_opens_72 : decode cX11_opens 72 = .ok (.bipush 40, 2) := by decide +kernel
theorem dX11_opens_74 : decode cX11_opens 74 = .ok (.invokevirtual 108, 3) := by decide +kernel
theorem dX11_opens_77 : decode cX11_opens 77 = .ok (.aload_n 0, 1) := by decide +kernel
theorem dX11_opens_78 : decode cX11_opens 78 = .ok (.iconst 1, 1) := by decide +kernel
theorem dX11_opens_79 : decode cX11_opens 79 = .ok (.iload_n 1, 1) := by decide +kernel
theorem dX11_opens_80 : decode cX11_opens 80 = .ok (.iload 5, 2) := by decide +kernel
theorem dX11_opens_82 : decode cX11_opens 82 = .ok (.iload 4, 2) := by decide +kernel
theorem dX11_opens_84 : decode cX11_opens 84 = .ok (.iload 5, 2) := by decide +kernel
theorem dX11_opens_86 : decode cX11_opens 86 = .ok (.idiv, 1) := by decide +kernel
theorem dX11_opens_87 : decode cX11_opens 87 = .ok (.invokevirtual 118, 3) := by decide +kernel
theorem dX11_opens_90 : decode cX11_opens 90 = .ok (.aload_n 0, 1) := by decide +kernel
theorem dX11_opens_91 : decode cX11_opens 91 = .ok (.iconst 0, 1) := by decide +kernel
theorem dX11_opens_92 : decode cX11_opens 92 = .ok (.iload_n 1, 1) := by decide +kernel
theorem dX11_opens_93 : decode cX11_opens 93 = .ok (.iload_n 1, 1) := by decide +kernel
theorem dX11_opens_94 : decode cX11_opens 94 = .ok (.iload 5, 2) := by decide +kernel
theorem dX11_opens_96 : decode cX11_opens 96 = .ok (.iadd, 1) := by decide +kernel
theorem dX11_opens_97 : decode cX11_opens 97 = .ok (.iload_n 3, 1) := by decide +kernel
theorem dX11_opens_98 : decode cX11_opens 98 = .ok (.iconst 1, 1) := by decide +kernel
theorem dX11_opens_99 : decode cX11_opens 99 = .ok (.isub, 1) := by decide +kernel
theorem dX11_opens_100 : decode cX11_opens 100 = .ok (.invokevirtual 118, 3) := by decide +kernel
theorem dX11_opens_103 : decode cX11_opens 103 = .ok (.return_, 1) := by decide +kernel
set_option maxRecDepth 20000 in
theorem ggX11_describes_X11_puts : GoodIn wsX11_describes wsX11_puts := goodIn_r _ [9, 4, 2, 32, 33, 34, 35, 36, 37, 38, 39, 40, 41, 42, 43, 44, 45, 46, 47, 48, 49, 50, 51, 52, 53, 54, 55, 56, 57, 58, 59, 60] (by decide +kernel) (by decide +kernel)
set_option maxRecDepth 20000 in
theorem gX11_describes_X11_puts : GoodIn wsX11_describes (wsV RX11 118 RX11 yX11_puts wsX11_puts) := goodIn_app (goodIn_of _ (by decide +kernel)) ggX11_describes_X11_puts
set_option maxRecDepth 20000 in
theorem ggX11_describes_X11_ends : GoodIn wsX11_describes wsX11_ends := goodIn_r _ [13, 3, 14, 15, 16, 8, 17, 18, 1, 19, 20, 21, 22, 32, 33, 34, 35, 36, 37, 38, 39, 40, 41, 42, 43, 44, 45, 46, 47, 48, 49, 50, 51, 52, 53, 54, 55, 56, 57, 58, 59, 60] (by decide +kernel) (by decide +kernel)
set_option maxRecDepth 20000 in
theorem gX11_describes_X11_ends : GoodIn wsX11_describes (wsV RX11 122 RX11 yX11_ends wsX11_ends) := goodIn_app (goodIn_of _ (by decide +kernel)) ggX11_describes_X11_ends
set_option maxRecDepth 20000 in
theorem ggX11_describes_X11_opens : GoodIn wsX11_describes wsX11_opens := goodIn_r _ [26, 27, 3, 28, 29, 30, 8, 31, 5, 6, 7, 9, 4, 2, 14, 15, 16, 17, 18, 1, 19, 20, 21, 22, 32, 33, 34, 35, 36, 37, 38, 39, 40, 41, 42, 43, 44, 45, 46, 47, 48, 49, 50, 51, 52, 53, 54, 55, 56, 57, 58, 59, 60] (by decide +kernel) (by decide +kernel)
set_option maxRecDepth 20000 in
theorem gX11_describes_X11_opens : GoodIn wsX11_describes (wsV RX11 125 RX11 yX11_opens wsX11_opens) := goodIn_app (goodIn_of _ (by decide +kernel)) ggX11_describes_X11_opens
theorem dX11_describes_0 : decode cX11_describes 0 = .ok (.aload_n 0, 1) := by decide +kernel
theorem dX11_describes_1 : decode cX11_describes 1 = .ok (.iconst 0, 1) := by decide +kernel
theorem dX11_describes_2 : decode cX11_describes 2 = .ok (.putfield 105, 3) := by decide +kernel
theorem dX11_describes_5 : decode cX11_describes 5 = .ok (.aload_n 0, 1) := by decide +kernel
theorem dX11_describes_6 : decode cX11_describes 6 = .ok (.iconst 0, 1) := by decide +kernel
theorem dX11_describes_7 : decode cX11_describes 7 = .ok (.putfield 112, 3) := by decide +kernel
theorem dX11_describes_10 : decode cX11_describes 10 = .ok (.aload_n 0, 1) := by decide +kernel
theorem dX11_describes_11 : decode cX11_describes 11 = .ok (.iconst 0, 1) := by decide +kernel
theorem dX11_describes_12 : decode cX11_describes 12 = .ok (.iload_n 1, 1) := by decide +kernel
theorem dX11_describes_13 : decode cX11_describes 13 = .ok (.iload_n 2, 1) := by decide +kernel
theorem dX11_describes_14 : decode cX11_describes 14 = .ok (.aload_n 0, 1) := by decide +kernel
theorem dX11_describes_15 : decode cX11_describes 15 = .ok (.getfield 7, 3) := by decide +kernel
theorem dX11_describes_18 : decode cX11_describes 18 = .ok (.iconst 5, 1) := by decide +kernel
theorem dX11_describes_19 : decode cX11_describes 19 = .ok (.iaload, 1) := by decide +kernel
theorem dX11_describes_20 : decode cX11_describes 20 = .ok (.invokevirtual 118, 3) := by decide +kernel
theorem dX11_describes_23 : decode cX11_describes 23 = .ok (.aload_n 0, 1) := by decide +kernel
theorem dX11_describes_24 : decode cX11_describes 24 = .ok (.getfield 112, 3) := by decide +kernel
theorem dX11_describes_27 : decode cX11_describes 27 = .ok (.ifCond .le 102, 3) := by decide +kernel
theorem dX11_describes_30 : decode cX11_describes 30 = .ok (.aload_n 0, 1) := by decide +kernel
theorem dX11_describes_31 : decode cX11_describes 31 = .ok (.dup, 1) := by decide +kernel
theorem dX11_describes_32 : decode cX11_describes 32 = .ok (.getfield 112, 3) := by decide +kernel
theorem dX11_describes_35 : decode cX11_describes 35 = .ok (.iconst 1, 1) := by decide +kernel
theorem dX11_describes_36 : decode cX11_describes 36 = .ok (.isub, 1) := by decide +kernel
theorem dX11_describes_37 : decode cX11_describes 37 = .ok (.putfield 112, 3) := by decide +kernel
theorem dX11_describes_40 : decode cX11_describes 40 = .ok (.aload_n 0, 1) := by decide +kernel
theorem dX11_describes_41 : decode cX11_describes 41 = .ok (.getfield 39, 3) := by decide +kernel
theorem dX11_describes_44 : decode cX11_describes 44 = .ok (.iconst 4, 1) := by decide +kernel
theorem dX11_describes_45 : decode cX11_describes 45 = .ok (.aload_n 0, 1) := by decide +kernel
theorem dX11_describes_46 : decode cX11_describes 46 = .ok (.getfield 112, 3) := by decide +kernel
theorem dX11_describes_49 : decode cX11_describes 49 = .ok (.imul, 1) := by decide +kernel
theorem dX11_describes_50 : decode cX11_describes 50 = .ok (.iconst 1, 1) := by decide +kernel
theorem dX11_describes_51 : decode cX11_describes 51 = .ok (.iadd, 1) := by decide +kernel
theorem dX11_describes_52 : decode cX11_describes 52 = .ok (.iaload, 1) := by decide +kernel
theorem dX11_describes_53 : decode cX11_describes 53 = .ok (.istore_n 3, 1) := by decide +kernel
theorem dX11_describes_54 : decode cX11_describes 54 = .ok (.aload_n 0, 1) := by decide +kernel
theorem dX11_describes_55 : decode cX11_describes 55 = .ok (.getfield 39, 3) := by decide +kernel
theorem dX11_describes_58 : decode cX11_describes 58 = .ok (.iconst 4, 1) := by decide +kernel
theorem dX11_describes_59 : decode cX11_describes 59 = .ok (.aload_n 0, 1) := by decide +kernel
theorem dX11_describes_60 : decode cX11_describes 60 = .ok (.getfield 112, 3) := by decide +kernel
theorem dX11_describes_63 : decode cX11_describes 63 = .ok (.imul, 1) := by decide +kernel
theorem dX11_describes_64 : decode cX11_describes 64 = .ok (.iconst 2, 1) := by decide +kernel
theorem dX11_describes_65 : decode cX11_describes 65 = .ok (.iadd, 1) := by decide +kernel
theorem dX11_describes_66 : decode cX11_describes 66 = .ok (.iaload, 1) := by decide +kernel
theorem dX11_describes_67 : decode cX11_describes 67 = .ok (.istore 4, 2) := by decide +kernel
theorem dX11_describes_69 : decode cX11_describes 69 = .ok (.aload_n 0, 1) := by decide +kernel
theorem dX11_describes_70 : decode cX11_describes 70 = .ok (.getfield 39, 3) := by decide +kernel
theorem dX11_describes_73 : decode cX11_describes 73 = .ok (.iconst 4, 1) := by decide +kernel
theorem dX11_describes_74 : decode cX11_describes 74 = .ok (.aload_n 0, 1) := by decide +kernel
theorem dX11_describes_75 : decode cX11_describes 75 = .ok (.getfield 112, 3) := by decide +kernel
theorem dX11_describes_78 : decode cX11_describes 78 = .ok (.imul, 1) := by decide +kernel
theorem dX11_describes_79 : decode cX11_describes 79 = .ok (.iconst 3, 1) := by decide +kernel
theorem dX11_describes_80 : decode cX11_describes 80 = .ok (.iadd, 1) := by decide +kernel
theorem dX11_describes_81 : decode cX11_describes 81 = .ok (.iaload, 1) := by decide +kernel
theorem dX11_describes_82 : decode cX11_describes 82 = .ok (.istore 5, 2) := by decide +kernel
theorem dX11_describes_84 : decode cX11_describes 84 = .ok (.aload_n 0, 1) := by decide +kernel
theorem dX11_describes_85 : decode cX11_describes 85 = .ok (.getfield 39, 3) := by decide +kernel
theorem dX11_describes_88 : decode cX11_describes 88 = .ok (.iconst 4, 1) := by decide +kernel
theorem dX11_describes_89 : decode cX11_describes 89 = .ok (.aload_n 0, 1) := by decide +kernel
theorem dX11_describes_90 : decode cX11_describes 90 = .ok (.getfield 112, 3) := by decide +kernel
theorem dX11_describes_93 : decode cX11_describes 93 = .ok (.imul, 1) := by decide +kernel
theorem dX11_describes_94 : decode cX11_describes 94 = .ok (.iaload, 1) := by decide +kernel
theorem dX11_describes_95 : decode cX11_describes 95 = .ok (.iconst 1, 1) := by decide +kernel
theorem dX11_describes_96 : decode cX11_describes 96 = .ok (.if_icmp .ne 15, 3) := by decide +kernel
theorem dX11_describes_99 : decode cX11_describes 99 = .ok (.aload_n 0, 1) := by decide +kernel
theorem dX11_describes_100 : decode cX11_describes 100 = .ok (.iload_n 3, 1) := by decide +kernel
theorem dX11_describes_101 : decode cX11_describes 101 = .ok (.iload 4, 2) := by decide +kernel
theorem dX11_describes_103 : decode cX11_describes 103 = .ok (.iload 5, 2) := by decide +kernel
theorem dX11_describes_105 : decode cX11_describes 105 = .ok (.invokevirtual 122, 3) := by decide +kernel
theorem dX11_describes_108 : decode cX11_describes 108 = .ok (.goto 18, 3) := by decide +kernel
theorem dX11_describes_111 : decode cX11_describes 111 = .ok (.iload_n 3, 1) := by decide +kernel
theorem dX11_describes_112 : decode cX11_describes 112 = .ok (.iload 4, 2) := by decide +kernel
theorem dX11_describes_114 : decode cX11_describes 114 = .ok (.if_icmp .ge 12, 3) := by decide +kernel
theorem dX11_describes_117 : decode cX11_describes 117 = .ok (.aload_n 0, 1) := by decide +kernel
theorem dX11_describes_118 : decode cX11_describes 118 = .ok (.iload_n 3, 1) := by decide +kernel
theorem dX11_describes_119 : decode cX11_describes 119 = .ok (.iload 4, 2) := by decide +kernel
theorem dX11_describes_121 : decode cX11_describes 121 = .ok (.iload 5, 2) := by decide +kernel
theorem dX11_describes_123 : decode cX11_describes 123 = .ok (.invokevirtual 125, 3) := by decide +kernel
theorem dX11_describes_126 : decode cX11_describes 126 = .ok (.goto (-103), 3) := by decide +kernel
theorem dX11_describes_129 : decode cX11_describes 129 = .ok (.return_, 1) := by decide +kernel
theorem dX11_signs_0 : decode cX11_signs 0 = .ok (.iconst 0, 1) := by decide +kernel
theorem dX11_signs_1 : decode cX11_signs 1 = .ok (.istore_n 2, 1) := by decide +kernel
theorem dX11_signs_2 : decode cX11_signs 2 = .ok (.iconst 0, 1) := by decide +kernel
theorem dX11_signs_3 : decode cX11_signs 3 = .ok (.istore_n 3, 1) := by decide +kernel
theorem dX11_signs_4 : decode cX11_signs 4 = .ok (.iload_n 3, 1) := by decide +kernel
theorem dX11_signs_5 : decode cX11_signs 5 = .ok (.aload_n 0, 1) := by decide +kernel
theorem dX11_signs_6 : decode cX11_signs 6 = .ok (.getfield 105, 3) := by decide +kernel
theorem dX11_signs_9 : decode cX11_signs 9 = .ok (.if_icmp .ge 27, 3) := by decide +kernel
theorem dX11_signs_12 : decode cX11_signs 12 = .ok (.iload_n 2, 1) := by decide +kernel
theorem dX11_signs_13 : decode cX11_signs 13 = .ok (.aload_n 0, 1) := by decide +kernel
theorem dX11_signs_14 : decode cX11_signs 14 = .ok (.getfield 42, 3) := by decide +kernel
theorem dX11_signs_17 : decode cX11_signs 17 = .ok (.iload_n 3, 1) := by decide +kernel
theorem dX11_signs_18 : decode cX11_signs 18 = .ok (.caload, 1) := by decide +kernel
theorem dX11_signs_19 : decode cX11_signs 19 = .ok (.iload_n 1, 1) := by decide +kernel
theorem dX11_signs_20 : decode cX11_signs 20 = .ok (.if_icmp .ne 7, 3) := by decide +kernel
theorem dX11_signs_23 : decode cX11_signs 23 = .ok (.iconst 1, 1) := by decide +kernel
theorem dX11_signs_24 : decode cX11_signs 24 = .ok (.goto 4, 3) := by decide +kernel
theorem dX11_signs_27 : decode cX11_signs 27 = .ok (.iconst 0, 1) := by decide +kernel
theorem dX11_signs_28 : decode cX11_signs 28 = .ok (.iadd, 1) := by decide +kernel
theorem dX11_signs_29 : decode cX11_signs 29 = .ok (.istore_n 2, 1) := by decide +kernel
theorem dX11_signs_30 : decode cX11_signs 30 = .ok (.iinc 3 1, 3) := by decide +kernel
theorem dX11_signs_33 : decode cX11_signs 33 = .ok (.goto (-29), 3) := by decide +kernel
theorem dX11_signs_36 : decode cX11_signs 36 = .ok (.iload_n 2, 1) := by decide +kernel
theorem dX11_signs_37 : decode cX11_signs 37 = .ok (.ireturn, 1) := by decide +kernel
set_option maxRecDepth 20000 in
theorem ggX11_levels_X11_in : GoodIn wsX11_levels wsX11_in := goodIn_r _ [6] (by decide +kernel) (by decide +kernel)
set_option maxRecDepth 20000 in
theorem gX11_levels_X11_in : GoodIn wsX11_levels (va_wsS RX11 62 yX11_in wsX11_in) := goodIn_app (goodIn_of _ (by decide +kernel)) ggX11_levels_X11_in
theorem dX11_levels_0 : decode cX11_levels 0 = .ok (.iconst 0, 1) := by decide +kernel
theorem dX11_levels_1 : decode cX11_levels 1 = .ok (.istore_n 2, 1) := by decide +kernel
theorem dX11_levels_2 : decode cX11_levels 2 = .ok (.iconst 0, 1) := by decide +kernel
theorem dX11_levels_3 : decode cX11_levels 3 = .ok (.istore_n 3, 1) := by decide +kernel
theorem dX11_levels_4 : decode cX11_levels 4 = .ok (.iconst 0, 1) := by decide +kernel
theorem dX11_levels_5 : decode cX11_levels 5 = .ok (.istore 4, 2) := by decide +kernel
theorem dX11_levels_7 : decode cX11_levels 7 = .ok (.iconst 0, 1) := by decide +kernel
theorem dX11_levels_8 : decode cX11_levels 8 = .ok (.istore 5, 2) := by decide +kernel
theorem dX11_levels_10 : decode cX11_levels 10 = .ok (.iconst 0, 1) := by decide +kernel
theorem dX11_levels_11 : decode cX11_levels 11 = .ok (.istore 6, 2) := by decide +kernel
theorem dX11_levels_13 : decode cX11_levels 13 = .ok (.iload 6, 2) := by decide +kernel
theorem dX11_levels_15 : decode cX11_levels 15 = .ok (.aload_n 0, 1) := by decide +kernel
theorem dX11_levels_16 : decode cX11_levels 16 = .ok (.getfield 105, 3) := by decide +kernel
theorem dX11_levels_19 : decode cX11_levels 19 = .ok (.if_icmp .ge 119, 3) := by decide +kernel
theorem dX11_levels_22 : decode cX11_levels 22 = .ok (.aload_n 0, 1) := by decide +kernel
theorem dX11_levels_23 : decode cX11_levels 23 = .ok (.getfield 42, 3) := by decide +kernel
theorem dX11_levels_26 : decode cX11_levels 26 = .ok (.iload 6, 2) := by decide +kernel
theorem dX11_levels_28 : decode cX11_levels 28 = .ok (.caload, 1) := by decide +kernel
theorem dX11_levels_29 : decode cX11_levels 29 = .ok (.istore 7, 2) := by decide +kernel
theorem dX11_levels_31 : decode cX11_levels 31 = .ok (.iload 7, 2) := by decide +kernel
theorem dX11_levels_33 : decode cX11_levels 33 = .ok (.bipush 91, 2) := by decide +kernel
theorem dX11_levels_35 : decode cX11_levels 35 = .ok (.if_icmp .eq 15, 3) := by decide +kernel
theorem dX11_levels_38 : decode cX11_levels 38 = .ok (.iload 5, 2) := by decide +kernel
theorem dX11_levels_40 : decode cX11_levels 40 = .ok (.ifCond .eq 14, 3) := by decide +kernel
theorem dX11_levels_43 : decode cX11_levels 43 = .ok (.iload 7, 2) := by decide +kernel
theorem dX11_levels_45 : decode cX11_levels 45 = .ok (.bipush 93, 2) := by decide +kernel
theorem dX11_levels_47 : decode cX11_levels 47 = .ok (.if_icmp .eq 7, 3) := by decide +kernel
theorem dX11_levels_50 : decode cX11_levels 50 = .ok (.iconst 1, 1) := by decide +kernel
theorem dX11_levels_51 : decode cX11_levels 51 = .ok (.goto 4, 3) := by decide +kernel
theorem dX11_levels_54 : decode cX11_levels 54 = .ok (.iconst 0, 1) := by decide +kernel
theorem dX11_levels_55 : decode cX11_levels 55 = .ok (.istore 5, 2) := by decide +kernel
theorem dX11_levels_57 : decode cX11_levels 57 = .ok (.iload 4, 2) := by decide +kernel
theorem dX11_levels_59 : decode cX11_levels 59 = .ok (.iload_n 2, 1) := by decide +kernel
theorem dX11_levels_60 : decode cX11_levels 60 = .ok (.ifCond .ne 31, 3) := by decide +kernel
theorem dX11_levels_63 : decode cX11_levels 63 = .ok (.iload 7, 2) := by decide +kernel
theorem dX11_levels_65 : decode cX11_levels 65 = .ok (.bipush 40, 2) := by decide +kernel
theorem dX11_levels_67 : decode cX11_levels 67 = .ok (.if_icmp .eq 20, 3) := by decide +kernel
theorem dX11_levels_70 : decode cX11_levels 70 = .ok (.iload 7, 2) := by decide +kernel
theorem dX11_levels_72 : decode cX11_levels 72 = .ok (.bipush 97, 2) := by decide +kernel
theorem dX11_levels_74 : decode cX11_levels 74 = .ok (.bipush 100, 2) := by decide +kernel
theorem dX11_levels_76 : decode cX11_levels 76 = .ok (.invokestatic 62, 3) := by decide +kernel
theorem dX11_levels_79 : decode cX11_levels 79 = .ok (.ifCond .eq 12, 3) := by decide +kernel
theorem dX11_levels_82 : decode cX11_levels 82 = .ok (.iload 5, 2) := by decide +kernel
theorem dX11_levels_84 : decode cX11_levels 84 = .ok (.ifCond .ne 7, 3) := by decide +kernel
theorem dX11_levels_87 : decode cX11_levels 87 = .ok (.iconst 1, 1) := by decide +kernel
theorem dX11_levels_88 : decode cX11_levels 88 = .ok (.goto 4, 3) := by decide +kernel
theorem dX11_levels_91 : decode cX11_levels 91 = .ok (.iconst 0, 1) := by decide +kernel
theorem dX11_levels_92 : decode cX11_levels 92 = .ok (.iadd, 1) := by decide +kernel
theorem dX11_levels_93 : decode cX11_levels 93 = .ok (.istore 4, 2) := by decide +kernel
theorem dX11_levels_95 : decode cX11_levels 95 = .ok (.iload_n 2, 1) := by decide +kernel
theorem dX11_levels_96 : decode cX11_levels 96 = .ok (.iload 7, 2) := by decide +kernel
theorem dX11_levels_98 : decode cX11_levels 98 = .ok (.bipush 40, 2) := by decide +kernel
theorem dX11_levels_100 : decode cX11_levels 100 = .ok (.if_icmp .ne 7, 3) := by decide +kernel
theorem dX11_levels_103 : decode cX11_levels 103 = .ok (.iconst 1, 1) := by decide +kernel
theorem dX11_levels_104 : decode cX11_levels 104 = .ok (.goto 15, 3) := by decide +kernel
theorem dX11_levels_107 : decode cX11_levels 107 = .ok (.iload 7, 2) := by decide +kernel
theorem dX11_levels_109 : decode cX11_levels 109 = .ok (.bipush 41, 2) := by decide +kernel
theorem dX11_levels_111 : decode cX11_levels 111 = .ok (.if_icmp .ne 7, 3) := by decide +kernel
theorem dX11_levels_114 : decode cX11_levels 114 = .ok (.iconst (-1), 1) := by decide +kernel
theorem dX11_levels_115 : decode cX11_levels 115 = .ok (.goto 4, 3) := by decide +kernel
theorem dX11_levels_118 : decode cX11_levels 118 = .ok (.iconst 0, 1) := by decide +kernel
theorem dX11_levels_119 : decode cX11_levels 119 = .ok (.iadd, 1) := by decide +kernel
theorem dX11_levels_120 : decode cX11_levels 120 = .ok (.istore_n 2, 1) := by decide +kernel
theorem dX11_levels_121 : decode cX11_levels 121 = .ok (.iload_n 2, 1) := by decide +kernel
theorem dX11_levels_122 : decode cX11_levels 122 = .ok (.iload_n 3, 1) := by decide +kernel
theorem dX11_levels_123 : decode cX11_levels 123 = .ok (.if_icmp .le 7, 3) := by decide +kernel
theorem dX11_levels_126 : decode cX11_levels 126 = .ok (.iload_n 2, 1) := by decide +kernel
theorem dX11_levels_127 : decode cX11_levels 127 = .ok (.goto 4, 3) := by decide +kernel
theorem dX11_levels_130 : decode cX11_levels 130 = .ok (.iload_n 3, 1) := by decide +kernel
theorem dX11_levels_131 : decode cX11_levels 131 = .ok (.istore_n 3, 1) := by decide +kernel
theorem dX11_levels_132 : decode cX11_levels 132 = .ok (.iinc 6 1, 3) := by decide +kernel
theorem dX11_levels_135 : decode cX11_levels 135 = .ok (.goto (-122), 3) := by decide +kernel
theorem dX11_levels_138 : decode cX11_levels 138 = .ok (.iload_n 1, 1) := by decide +kernel
theorem dX11_levels_139 : decode cX11_levels 139 = .ok (.ifCond .eq 7, 3) := by decide +kernel
theorem dX11_levels_142 : decode cX11_levels 142 = .ok (.iload_n 3, 1) := by decide +kernel
theorem dX11_levels_143 : decode cX11_levels 143 = .ok (.goto 5, 3) := by decide +kernel
theorem dX11_levels_146 : decode cX11_levels 146 = .ok (.iload 4, 2) := by decide +kernel
theorem dX11_levels_148 : decode cX11_levels 148 = .ok (.ireturn, 1) := by decide +kernel
set_option maxRecDepth 20000 in
theorem ggX11_cheapest_X11_isPart : GoodIn wsX11_cheapest wsX11_isPart := goodIn_r _ [11, 2, 67, 68, 69, 70, 71, 72, 73, 74, 75, 76, 77, 78, 79, 80, 81, 82, 83, 84, 85, 86, 87, 88, 89, 90, 91, 92, 93, 94, 95] (by decide +kernel) (by decide +kernel)
set_option maxRecDepth 20000 in
theorem gX11_cheapest_X11_isPart : GoodIn wsX11_cheapest (wsV RX11 80 RX11 yX11_isPart wsX11_isPart) := goodIn_app (goodIn_of _ (by decide +kernel)) ggX11_cheapest_X11_isPart
set_option maxRecDepth 20000 in
theorem ggX11_cheapest_X11_in : GoodIn wsX11_cheapest wsX11_in := goodIn_r _ [14] (by decide +kernel) (by decide +kernel)
set_option maxRecDepth 20000 in
theorem gX11_cheapest_X11_in : GoodIn wsX11_cheapest (va_wsS RX11 62 yX11_in wsX11_in) := goodIn_app (goodIn_of _ (by decide +kernel)) ggX11_cheapest_X11_in
set_option maxRecDepth 20000 in
theorem ggX11_cheapest_X11_lays : GoodIn wsX11_cheapest wsX11_lays := goodIn_r _ [18, 2, 3, 19, 20, 21, 10, 22, 23, 24, 25, 26, 27, 28, 29, 30, 31, 5, 6, 67, 68, 69, 70, 71, 72, 73, 74, 75, 76, 77, 78, 79, 80, 81, 82, 83, 84, 85, 86, 87, 88, 89, 90, 91, 92, 93, 94, 95] (by decide +kernel) (by decide +kernel)
set_option maxRecDepth 20000 in
theorem gX11_cheapest_X11_lays : GoodIn wsX11_cheapest (wsV RX11 128 RX11 yX11_lays wsX11_lays) := goodIn_app (goodIn_of _ (by decide +kernel)) ggX11_cheapest_X11_lays
set_option maxRecDepth 20000 in
theorem ggX11_cheapest_X11_describes : GoodIn wsX11_cheapest wsX11_describes := goodIn_r _ [35, 4, 36, 2, 37, 38, 39, 40, 10, 41, 42, 43, 44, 45, 46, 47, 48, 49, 50, 51, 52, 53, 54, 55, 56, 57, 58, 5, 6, 24, 25, 26, 67, 68, 69, 70, 71, 72, 73, 74, 75, 76, 77, 78, 79, 80, 81, 82, 83, 84, 85, 86, 87, 88, 89, 90, 91, 92, 93, 94, 95] (by decide +kernel) (by decide +kernel)
set_option maxRecDepth 20000 in
theorem gX11_cheapest_X11_describes : GoodIn wsX11_cheapest (wsV RX11 131 RX11 yX11_describes wsX11_describes) := goodIn_app (goodIn_of _ (by decide +kernel)) ggX11_cheapest_X11_describes
set_option maxRecDepth 20000 in
theorem ggX11_cheapest_X11_part : GoodIn wsX11_cheapest wsX11_part := goodIn_r _ [26] (by decide +kernel) (by decide +kernel)
set_option maxRecDepth 20000 in
theorem gX11_cheapest_X11_part : GoodIn wsX11_cheapest (va_wsS RX11 95 yX11_part wsX11_part) := goodIn_app (goodIn_of _ (by decide +kernel)) ggX11_cheapest_X11_part
set_option maxRecDepth 20000 in
theorem ggX11_cheapest_X11_levels : GoodIn wsX11_cheapest wsX11_levels := goodIn_r _ [62, 4, 50, 12, 13, 10, 14, 67, 68, 69, 70, 71, 72, 73, 74, 75, 76, 77, 78, 79, 80, 81, 82, 83, 84, 85, 86, 87, 88, 89, 90, 91, 92, 93, 94, 95] (by decide +kernel) (by decide +kernel)
set_option maxRecDepth 20000 in
theorem gX11_cheapest_X11_levels : GoodIn wsX11_cheapest (wsV RX11 135 RX11 yX11_levels wsX11_levels) := goodIn_app (goodIn_of _ (by decide +kernel)) ggX11_cheapest_X11_levels
set_option maxRecDepth 20000 in
theorem ggX11_cheapest_X11_signs : GoodIn wsX11_cheapest wsX11_signs := goodIn_r _ [66, 4, 50, 67, 68, 69, 70, 71, 72, 73, 74, 75, 76, 77, 78, 79, 80, 81, 82, 83, 84, 85, 86, 87, 88, 89, 90, 91, 92, 93, 94, 95] (by decide +kernel) (by decide +kernel)
set_option maxRecDepth 20000 in
theorem gX11_cheapest_X11_signs : GoodIn wsX11_cheapest (wsV RX11 139 RX11 yX11_signs wsX11_signs) := goodIn_app (goodIn_of _ (by decide +kernel)) ggX11_cheapest_X11_signs
theorem dX11_cheapest_0 : decode cX11_cheapest 0 = .ok (.aload_n 0, 1) := by decide +kernel
theorem dX11_cheapest_1 : decode cX11_cheapest 1 = .ok (.iload_n 1, 1) := by decide +kernel
theorem dX11_cheapest_2 : decode cX11_cheapest 2 = .ok (.iload_n 2, 1) := by decide +kernel
theorem dX11_cheapest_3 : decode cX11_cheapest 3 = .ok (.invokevirtual 80, 3) := by decide +kernel
theorem dX11_cheapest_6 : decode cX11_cheapest 6 = .ok (.ifCond .eq 13, 3) := by decide +kernel
theorem dX11_cheapest_9 : decode cX11_cheapest 9 = .ok (.iload_n 3, 1) := by decide +kernel
theorem dX11_cheapest_10 : decode cX11_cheapest 10 = .ok (.iconst 0, 1) := by decide +kernel
theorem dX11_cheapest_11 : decode cX11_cheapest 11 = .ok (.bipush 7, 2) := by decide +kernel
theorem dX11_cheapest_13 : decode cX11_cheapest 13 = .ok (.invokestatic 62, 3) := by decide +kernel
theorem dX11_cheapest_16 : decode cX11_cheapest 16 = .ok (.ifCond .ne 6, 3) := by decide +kernel
theorem dX11_cheapest_19 : decode cX11_cheapest 19 = .ok (.ldc 57, 2) := by decide +kernel
theorem dX11_cheapest_21 : decode cX11_cheapest 21 = .ok (.ireturn, 1) := by decide +kernel
theorem dX11_cheapest_22 : decode cX11_cheapest 22 = .ok (.aload_n 0, 1) := by decide +kernel
theorem dX11_cheapest_23 : decode cX11_cheapest 23 = .ok (.invokevirtual 128, 3) := by decide +kernel
theorem dX11_cheapest_26 : decode cX11_cheapest 26 = .ok (.aload_n 0, 1) := by decide +kernel
theorem dX11_cheapest_27 : decode cX11_cheapest 27 = .ok (.iload_n 1, 1) := by decide +kernel
theorem dX11_cheapest_28 : decode cX11_cheapest 28 = .ok (.iload_n 2, 1) := by decide +kernel
theorem dX11_cheapest_29 : decode cX11_cheapest 29 = .ok (.invokevirtual 131, 3) := by decide +kernel
theorem dX11_cheapest_32 : decode cX11_cheapest 32 = .ok (.aload_n 0, 1) := by decide +kernel
theorem dX11_cheapest_33 : decode cX11_cheapest 33 = .ok (.getfield 7, 3) := by decide +kernel
theorem dX11_cheapest_36 : decode cX11_cheapest 36 = .ok (.iconst 5, 1) := by decide +kernel
theorem dX11_cheapest_37 : decode cX11_cheapest 37 = .ok (.iaload, 1) := by decide +kernel
theorem dX11_cheapest_38 : decode cX11_cheapest 38 = .ok (.iload_n 1, 1) := by decide +kernel
theorem dX11_cheapest_39 : decode cX11_cheapest 39 = .ok (.iload_n 2, 1) := by decide +kernel
theorem dX11_cheapest_40 : decode cX11_cheapest 40 = .ok (.invokestatic 95, 3) := by decide +kernel
theorem dX11_cheapest_43 : decode cX11_cheapest 43 = .ok (.istore 4, 2) := by decide +kernel
theorem dX11_cheapest_45 : decode cX11_cheapest 45 = .ok (.iload_n 3, 1) := by decide +kernel
theorem dX11_cheapest_46 : decode cX11_cheapest 46 = .ok (.tableswitch 89 0 6 #[42, 50, 56, 62, 69, 76, 81], 42) := by decide +kernel
theorem dX11_cheapest_88 : decode cX11_cheapest 88 = .ok (.aload_n 0, 1) := by decide +kernel
theorem dX11_cheapest_89 : decode cX11_cheapest 89 = .ok (.getfield 26, 3) := by decide +kernel
theorem dX11_cheapest_92 : decode cX11_cheapest 92 = .ok (.iload 4, 2) := by decide +kernel
theorem dX11_cheapest_94 : decode cX11_cheapest 94 = .ok (.iaload, 1) := by decide +kernel
theorem dX11_cheapest_95 : decode cX11_cheapest 95 = .ok (.ireturn, 1) := by decide +kernel
theorem dX11_cheapest_96 : decode cX11_cheapest 96 = .ok (.aload_n 0, 1) := by decide +kernel
theorem dX11_cheapest_97 : decode cX11_cheapest 97 = .ok (.iconst 0, 1) := by decide +kernel
theorem dX11_cheapest_98 : decode cX11_cheapest 98 = .ok (.invokevirtual 135, 3) := by decide +kernel
theorem dX11_cheapest_101 : decode cX11_cheapest 101 = .ok (.ireturn, 1) := by decide +kernel
theorem dX11_cheapest_102 : decode cX11_cheapest 102 = .ok (.aload_n 0, 1) := by decide +kernel
theorem dX11_cheapest_103 : decode cX11_cheapest 103 = .ok (.iconst 1, 1) := by decide +kernel
theorem dX11_cheapest_104 : decode cX11_cheapest 104 = .ok (.invokevirtual 135, 3) := by decide +kernel
theorem dX11_cheapest_107 : decode cX11_cheapest 107 = .ok (.ireturn, 1) := by decide +kernel
theorem dX11_cheapest_108 : decode cX11_cheapest 108 = .ok (.aload_n 0, 1) := by decide +kernel
theorem dX11_cheapest_109 : decode cX11_cheapest 109 = .ok (.bipush 40, 2) := by decide +kernel
theorem dX11_cheapest_111 : decode cX11_cheapest 111 = .ok (.invokevirtual 139, 3) := by decide +kernel
theorem dX11_cheapest_114 : decode cX11_cheapest 114 = .ok (.ireturn, 1) := by decide +kernel
theorem dX11_cheapest_115 : decode cX11_cheapest 115 = .ok (.aload_n 0, 1) := by decide +kernel
theorem dX11_cheapest_116 : decode cX11_cheapest 116 = .ok (.bipush 91, 2) := by decide +kernel
theorem dX11_cheapest_118 : decode cX11_cheapest 118 = .ok (.invokevirtual 139, 3) := by decide +kernel
theorem dX11_cheapest_121 : decode cX11_cheapest 121 = .ok (.ireturn, 1) := by decide +kernel
theorem dX11_cheapest_122 : decode cX11_cheapest 122 = .ok (.aload_n 0, 1) := by decide +kernel
theorem dX11_cheapest_123 : decode cX11_cheapest 123 = .ok (.getfield 105, 3) := by decide +kernel
theorem dX11_cheapest_126 : decode cX11_cheapest 126 = .ok (.ireturn, 1) := by decide +kernel
theorem dX11_cheapest_127 : decode cX11_cheapest 127 = .ok (.aload_n 0, 1) := by decide +kernel
theorem dX11_cheapest_128 : decode cX11_cheapest 128 = .ok (.getfield 29, 3) := by decide +kernel
theorem dX11_cheapest_131 : decode cX11_cheapest 131 = .ok (.iload 4, 2) := by decide +kernel
theorem dX11_cheapest_133 : decode cX11_cheapest 133 = .ok (.iaload, 1) := by decide +kernel
theorem dX11_cheapest_134 : decode cX11_cheapest 134 = .ok (.ireturn, 1) := by decide +kernel
theorem dX11_cheapest_135 : decode cX11_cheapest 135 = .ok (.aload_n 0, 1) := by decide +kernel
theorem dX11_cheapest_136 : decode cX11_cheapest 136 = .ok (.getfield 29, 3) := by decide +kernel
theorem dX11_cheapest_139 : decode cX11_cheapest 139 = .ok (.iload 4, 2) := by decide +kernel
theorem dX11_cheapest_141 : decode cX11_cheapest 141 = .ok (.iaload, 1) := by decide +kernel
theorem dX11_cheapest_142 : decode cX11_cheapest 142 = .ok (.iconst 1, 1) := by decide +kernel
theorem dX11_cheapest_143 : decode cX11_cheapest 143 = .ok (.if_icmp .ne 7, 3) := by decide +kernel
theorem dX11_cheapest_146 : decode cX11_cheapest 146 = .ok (.iconst 1, 1) := by decide +kernel
theorem dX11_cheapest_147 : decode cX11_cheapest 147 = .ok (.goto 18, 3) := by decide +kernel
theorem dX11_cheapest_150 : decode cX11_cheapest 150 = .ok (.aload_n 0, 1) := by decide +kernel
theorem dX11_cheapest_151 : decode cX11_cheapest 151 = .ok (.getfield 29, 3) := by decide +kernel
theorem dX11_cheapest_154 : decode cX11_cheapest 154 = .ok (.iload 4, 2) := by decide +kernel
theorem dX11_cheapest_156 : decode cX11_cheapest 156 = .ok (.iaload, 1) := by decide +kernel
theorem dX11_cheapest_157 : decode cX11_cheapest 157 = .ok (.aload_n 0, 1) := by decide +kernel
theorem dX11_cheapest_158 : decode cX11_cheapest 158 = .ok (.getfield 32, 3) := by decide +kernel
theorem dX11_cheapest_161 : decode cX11_cheapest 161 = .ok (.iload 4, 2) := by decide +kernel
theorem dX11_cheapest_163 : decode cX11_cheapest 163 = .ok (.iaload, 1) := by decide +kernel
theorem dX11_cheapest_164 : decode cX11_cheapest 164 = .ok (.idiv, 1) := by decide +kernel
theorem dX11_cheapest_165 : decode cX11_cheapest 165 = .ok (.ireturn, 1) := by decide +kernel
set_option maxRecDepth 20000 in
theorem ggX11_textAt_X11_lays : GoodIn wsX11_textAt wsX11_lays := goodIn_r _ [10, 2, 11, 12, 13, 14, 9, 15, 16, 17, 18, 19, 20, 21, 22, 23, 24, 25, 26, 53, 54, 55, 56, 57, 58, 59, 60, 61, 62, 63, 64, 65, 66, 67, 68, 69, 70, 71, 72, 73, 74, 75, 76, 77, 78, 79, 80, 81] (by decide +kernel) (by decide +kernel)
set_option maxRecDepth 20000 in
theorem gX11_textAt_X11_lays : GoodIn wsX11_textAt (wsV RX11 128 RX11 yX11_lays wsX11_lays) := goodIn_app (goodIn_of _ (by decide +kernel)) ggX11_textAt_X11_lays
set_option maxRecDepth 20000 in
theorem ggX11_textAt_X11_describes : GoodIn wsX11_textAt wsX11_describes := goodIn_r _ [30, 3, 31, 2, 32, 33, 34, 35, 9, 36, 37, 38, 39, 40, 41, 42, 43, 44, 4, 45, 46, 47, 48, 49, 50, 51, 52, 25, 26, 17, 18, 19, 53, 54, 55, 56, 57, 58, 59, 60, 61, 62, 63, 64, 65, 66, 67, 68, 69, 70, 71, 72, 73, 74, 75, 76, 77, 78, 79, 80, 81] (by decide +kernel) (by decide +kernel)
set_option maxRecDepth 20000 in
theorem gX11_textAt_X11_describes : GoodIn wsX11_textAt (wsV RX11 131 RX11 yX11_describes wsX11_describes) := goodIn_app (goodIn_of _ (by decide +kernel)) ggX11_textAt_X11_describes
theorem dX11_textAt_0 : decode cX11_textAt 0 = .ok (.iload_n 1, 1) := by decide +kernel
theorem dX11_textAt_1 : decode cX11_textAt 1 = .ok (.ifCond .ge 6, 3) := by decide +kernel
theorem dX11_textAt_4 : decode cX11_textAt 4 = .ok (.ldc 57, 2) := by decide +kernel
theorem dX11_textAt_6 : decode cX11_textAt 6 = .ok (.ireturn, 1) := by decide +kernel
theorem dX11_textAt_7 : decode cX11_textAt 7 = .ok (.aload_n 0, 1) := by decide +kernel
theorem dX11_textAt_8 : decode cX11_textAt 8 = .ok (.invokevirtual 128, 3) := by decide +kernel
theorem dX11_textAt_11 : decode cX11_textAt 11 = .ok (.aload_n 0, 1) := by decide +kernel
theorem dX11_textAt_12 : decode cX11_textAt 12 = .ok (.iconst 0, 1) := by decide +kernel
theorem dX11_textAt_13 : decode cX11_textAt 13 = .ok (.aload_n 0, 1) := by decide +kernel
theorem dX11_textAt_14 : decode cX11_textAt 14 = .ok (.getfield 7, 3) := by decide +kernel
theorem dX11_textAt_17 : decode cX11_textAt 17 = .ok (.iconst 0, 1) := by decide +kernel
theorem dX11_textAt_18 : decode cX11_textAt 18 = .ok (.iaload, 1) := by decide +kernel
theorem dX11_textAt_19 : decode cX11_textAt 19 = .ok (.invokevirtual 131, 3) := by decide +kernel
theorem dX11_textAt_22 : decode cX11_textAt 22 = .ok (.iload_n 1, 1) := by decide +kernel
theorem dX11_textAt_23 : decode cX11_textAt 23 = .ok (.aload_n 0, 1) := by decide +kernel
theorem dX11_textAt_24 : decode cX11_textAt 24 = .ok (.getfield 105, 3) := by decide +kernel
theorem dX11_textAt_27 : decode cX11_textAt 27 = .ok (.if_icmp .ge 12, 3) := by decide +kernel
theorem dX11_textAt_30 : decode cX11_textAt 30 = .ok (.aload_n 0, 1) := by decide +kernel
theorem dX11_textAt_31 : decode cX11_textAt 31 = .ok (.getfield 42, 3) := by decide +kernel
theorem dX11_textAt_34 : decode cX11_textAt 34 = .ok (.iload_n 1, 1) := by decide +kernel
theorem dX11_textAt_35 : decode cX11_textAt 35 = .ok (.caload, 1) := by decide +kernel
theorem dX11_textAt_36 : decode cX11_textAt 36 = .ok (.goto 5, 3) := by decide +kernel
theorem dX11_textAt_39 : decode cX11_textAt 39 = .ok (.ldc 79, 2) := by decide +kernel
theorem dX11_textAt_41 : decode cX11_textAt 41 = .ok (.ireturn, 1) := by decide +kernel
set_option maxRecDepth 20000 in
theorem ggX11_counts_X11_part : GoodIn wsX11_counts wsX11_part := goodIn_r _ [7] (by decide +kernel) (by decide +kernel)
set_option maxRecDepth 20000 in
theorem gX11_counts_X11_part : GoodIn wsX11_counts (va_wsS RX11 95 yX11_part wsX11_part) := goodIn_app (goodIn_of _ (by decide +kernel)) ggX11_counts_X11_part
theorem dX11_counts_0 : decode cX11_counts 0 = .ok (.aload_n 0, 1) := by decide +kernel
theorem dX11_counts_1 : decode cX11_counts 1 = .ok (.getfield 35, 3) := by decide +kernel
theorem dX11_counts_4 : decode cX11_counts 4 = .ok (.iload_n 1, 1) := by decide +kernel
theorem dX11_counts_5 : decode cX11_counts 5 = .ok (.iload_n 2, 1) := by decide +kernel
theorem dX11_counts_6 : decode cX11_counts 6 = .ok (.iconst 1, 1) := by decide +kernel
theorem dX11_counts_7 : decode cX11_counts 7 = .ok (.iadd, 1) := by decide +kernel
theorem dX11_counts_8 : decode cX11_counts 8 = .ok (.iload_n 3, 1) := by decide +kernel
theorem dX11_counts_9 : decode cX11_counts 9 = .ok (.invokestatic 95, 3) := by decide +kernel
theorem dX11_counts_12 : decode cX11_counts 12 = .ok (.laload, 1) := by decide +kernel
theorem dX11_counts_13 : decode cX11_counts 13 = .ok (.lstore 4, 2) := by decide +kernel
theorem dX11_counts_15 : decode cX11_counts 15 = .ok (.iconst 1, 1) := by decide +kernel
theorem dX11_counts_16 : decode cX11_counts 16 = .ok (.istore 6, 2) := by decide +kernel
theorem dX11_counts_18 : decode cX11_counts 18 = .ok (.iload_n 2, 1) := by decide +kernel
theorem dX11_counts_19 : decode cX11_counts 19 = .ok (.iconst 2, 1) := by decide +kernel
theorem dX11_counts_20 : decode cX11_counts 20 = .ok (.iload 6, 2) := by decide +kernel
theorem dX11_counts_22 : decode cX11_counts 22 = .ok (.imul, 1) := by decide +kernel
theorem dX11_counts_23 : decode cX11_counts 23 = .ok (.iadd, 1) := by decide +kernel
theorem dX11_counts_24 : decode cX11_counts 24 = .ok (.iload_n 3, 1) := by decide +kernel
theorem dX11_counts_25 : decode cX11_counts 25 = .ok (.if_icmp .gt 116, 3) := by decide +kernel
theorem dX11_counts_28 : decode cX11_counts 28 = .ok (.iload_n 1, 1) := by decide +kernel
theorem dX11_counts_29 : decode cX11_counts 29 = .ok (.ifCond .le 112, 3) := by decide +kernel
theorem dX11_counts_32 : decode cX11_counts 32 = .ok (.iconst 2, 1) := by decide +kernel
theorem dX11_counts_33 : decode cX11_counts 33 = .ok (.istore 7, 2) := by decide +kernel
theorem dX11_counts_35 : decode cX11_counts 35 = .ok (.iload_n 2, 1) := by decide +kernel
theorem dX11_counts_36 : decode cX11_counts 36 = .ok (.iload 7, 2) := by decide +kernel
theorem dX11_counts_38 : decode cX11_counts 38 = .ok (.iload 6, 2) := by decide +kernel
theorem dX11_counts_40 : decode cX11_counts 40 = .ok (.imul, 1) := by decide +kernel
theorem dX11_counts_41 : decode cX11_counts 41 = .ok (.iadd, 1) := by decide +kernel
theorem dX11_counts_42 : decode cX11_counts 42 = .ok (.iload_n 3, 1) := by decide +kernel
theorem dX11_counts_43 : decode cX11_counts 43 = .ok (.if_icmp .gt 92, 3) := by decide +kernel
theorem dX11_counts_46 : decode cX11_counts 46 = .ok (.aload_n 0, 1) := by decide +kernel
theorem dX11_counts_47 : decode cX11_counts 47 = .ok (.getfield 23, 3) := by decide +kernel
theorem dX11_counts_50 : decode cX11_counts 50 = .ok (.sipush 625, 3) := by decide +kernel
theorem dX11_counts_53 : decode cX11_counts 53 = .ok (.iload_n 2, 1) := by decide +kernel
theorem dX11_counts_54 : decode cX11_counts 54 = .ok (.imul, 1) := by decide +kernel
theorem dX11_counts_55 : decode cX11_counts 55 = .ok (.bipush 25, 2) := by decide +kernel
theorem dX11_counts_57 : decode cX11_counts 57 = .ok (.iload 6, 2) := by decide +kernel
theorem dX11_counts_59 : decode cX11_counts 59 = .ok (.imul, 1) := by decide +kernel
theorem dX11_counts_60 : decode cX11_counts 60 = .ok (.iadd, 1) := by decide +kernel
theorem dX11_counts_61 : decode cX11_counts 61 = .ok (.iload 7, 2) := by decide +kernel
theorem dX11_counts_63 : decode cX11_counts 63 = .ok (.iadd, 1) := by decide +kernel
theorem dX11_counts_64 : decode cX11_counts 64 = .ok (.iaload, 1) := by decide +kernel
theorem dX11_counts_65 : decode cX11_counts 65 = .ok (.aload_n 0, 1) := by decide +kernel
theorem dX11_counts_66 : decode cX11_counts 66 = .ok (.getfield 7, 3) := by decide +kernel
theorem dX11_counts_69 : decode cX11_counts 69 = .ok (.iconst 4, 1) := by decide +kernel
theorem dX11_counts_70 : decode cX11_counts 70 = .ok (.iaload, 1) := by decide +kernel
theorem dX11_counts_71 : decode cX11_counts 71 = .ok (.if_icmp .gt 7, 3) := by decide +kernel
theorem dX11_counts_74 : decode cX11_counts 74 = .ok (.iconst 1, 1) := by decide +kernel
theorem dX11_counts_75 : decode cX11_counts 75 = .ok (.goto 4, 3) := by decide +kernel
theorem dX11_counts_78 : decode cX11_counts 78 = .ok (.iconst 0, 1) := by decide +kernel
theorem dX11_counts_79 : decode cX11_counts 79 = .ok (.istore 8, 2) := by decide +kernel
theorem dX11_counts_81 : decode cX11_counts 81 = .ok (.lload 4, 2) := by decide +kernel
theorem dX11_counts_83 : decode cX11_counts 83 = .ok (.iload 8, 2) := by decide +kernel
theorem dX11_counts_85 : decode cX11_counts 85 = .ok (.ifCond .eq 40, 3) := by decide +kernel
theorem dX11_counts_88 : decode cX11_counts 88 = .ok (.aload_n 0, 1) := by decide +kernel
theorem dX11_counts_89 : decode cX11_counts 89 = .ok (.getfield 35, 3) := by decide +kernel
theorem dX11_counts_92 : decode cX11_counts 92 = .ok (.iload_n 1, 1) := by decide +kernel
theorem dX11_counts_93 : decode cX11_counts 93 = .ok (.iconst 1, 1) := by decide +kernel
theorem dX11_counts_94 : decode cX11_counts 94 = .ok (.isub, 1) := by decide +kernel
theorem dX11_counts_95 : decode cX11_counts 95 = .ok (.iload_n 2, 1) := by decide +kernel
theorem dX11_counts_96 : decode cX11_counts 96 = .ok (.iload_n 2, 1) := by decide +kernel
theorem dX11_counts_97 : decode cX11_counts 97 = .ok (.iload 6, 2) := by decide +kernel
theorem dX11_counts_99 : decode cX11_counts 99 = .ok (.iadd, 1) := by decide +kernel
theorem dX11_counts_100 : decode cX11_counts 100 = .ok (.invokestatic 95, 3) := by decide +kernel
theorem dX11_counts_103 : decode cX11_counts 103 = .ok (.laload, 1) := by decide +kernel
theorem dX11_counts_104 : decode cX11_counts 104 = .ok (.aload_n 0, 1) := by decide +kernel
theorem dX11_counts_105 : decode cX11_counts 105 = .ok (.getfield 35, 3) := by decide +kernel
theorem dX11_counts_108 : decode cX11_counts 108 = .ok (.iload_n 1, 1) := by decide +kernel
theorem dX11_counts_109 : decode cX11_counts 109 = .ok (.iload_n 2, 1) := by decide +kernel
theorem dX11_counts_110 : decode cX11_counts 110 = .ok (.iload 7, 2) := by decide +kernel
theorem dX11_counts_112 : decode cX11_counts 112 = .ok (.iload 6, 2) := by decide +kernel
theorem dX11_counts_114 : decode cX11_counts 114 = .ok (.imul, 1) := by decide +kernel
theorem dX11_counts_115 : decode cX11_counts 115 = .ok (.iadd, 1) := by decide +kernel
theorem dX11_counts_116 : decode cX11_counts 116 = .ok (.iload_n 3, 1) := by decide +kernel
theorem dX11_counts_117 : decode cX11_counts 117 = .ok (.invokestatic 95, 3) := by decide +kernel
theorem dX11_counts_120 : decode cX11_counts 120 = .ok (.laload, 1) := by decide +kernel
theorem dX11_counts_121 : decode cX11_counts 121 = .ok (.lmul, 1) := by decide +kernel
theorem dX11_counts_122 : decode cX11_counts 122 = .ok (.goto 4, 3) := by decide +kernel
theorem dX11_counts_125 : decode cX11_counts 125 = .ok (.lconst 0, 1) := by decide +kernel
theorem dX11_counts_126 : decode cX11_counts 126 = .ok (.ladd, 1) := by decide +kernel
theorem dX11_counts_127 : decode cX11_counts 127 = .ok (.lstore 4, 2) := by decide +kernel
theorem dX11_counts_129 : decode cX11_counts 129 = .ok (.iinc 7 1, 3) := by decide +kernel
theorem dX11_counts_132 : decode cX11_counts 132 = .ok (.goto (-97), 3) := by decide +kernel
theorem dX11_counts_135 : decode cX11_counts 135 = .ok (.iinc 6 1, 3) := by decide +kernel
theorem dX11_counts_138 : decode cX11_counts 138 = .ok (.goto (-120), 3) := by decide +kernel
theorem dX11_counts_141 : decode cX11_counts 141 = .ok (.aload_n 0, 1) := by decide +kernel
theorem dX11_counts_142 : decode cX11_counts 142 = .ok (.getfield 35, 3) := by decide +kernel
theorem dX11_counts_145 : decode cX11_counts 145 = .ok (.iload_n 1, 1) := by decide +kernel
theorem dX11_counts_146 : decode cX11_counts 146 = .ok (.iload_n 2, 1) := by decide +kernel
theorem dX11_counts_147 : decode cX11_counts 147 = .ok (.iload_n 3, 1) := by decide +kernel
theorem dX11_counts_148 : decode cX11_counts 148 = .ok (.invokestatic 95, 3) := by decide +kernel
theorem dX11_counts_151 : decode cX11_counts 151 = .ok (.lload 4, 2) := by decide +kernel
theorem dX11_counts_153 : decode cX11_counts 153 = .ok (.lastore, 1) := by decide +kernel
theorem dX11_counts_154 : decode cX11_counts 154 = .ok (.return_, 1) := by decide +kernel
set_option maxRecDepth 20000 in
theorem ggX11_descriptions_X11_isPart : GoodIn wsX11_descriptions wsX11_isPart := goodIn_r _ [8, 2, 21, 22, 23, 24, 25, 26, 27, 28, 29, 30, 31, 32, 33, 34, 35, 36, 37, 38, 39, 40, 41, 42, 43, 44, 45, 46, 47, 48, 49] (by decide +kernel) (by decide +kernel)
set_option maxRecDepth 20000 in
theorem gX11_descriptions_X11_isPart : GoodIn wsX11_descriptions (wsV RX11 80 RX11 yX11_isPart wsX11_isPart) := goodIn_app (goodIn_of _ (by decide +kernel)) ggX11_descriptions_X11_isPart
set_option maxRecDepth 20000 in
theorem ggX11_descriptions_X11_corrects : GoodIn wsX11_descriptions wsX11_corrects := goodIn_r _ [12, 2, 13, 21, 22, 23, 24, 25, 26, 27, 28, 29, 30, 31, 32, 33, 34, 35, 36, 37, 38, 39, 40, 41, 42, 43, 44, 45, 46, 47, 48, 49] (by decide +kernel) (by decide +kernel)
set_option maxRecDepth 20000 in
theorem gX11_descriptions_X11_corrects : GoodIn wsX11_descriptions (wsV RX11 98 RX11 yX11_corrects wsX11_corrects) := goodIn_app (goodIn_of _ (by decide +kernel)) ggX11_descriptions_X11_corrects
set_option maxRecDepth 20000 in
theorem ggX11_descriptions_X11_part : GoodIn wsX11_descriptions wsX11_part := goodIn_r _ [16] (by decide +kernel) (by decide +kernel)
set_option maxRecDepth 20000 in
theorem gX11_descriptions_X11_part : GoodIn wsX11_descriptions (va_wsS RX11 95 yX11_part wsX11_part) := goodIn_app (goodIn_of _ (by decide +kernel)) ggX11_descriptions_X11_part
set_option maxRecDepth 20000 in
theorem ggX11_descriptions_X11_counts : GoodIn wsX11_descriptions wsX11_counts := goodIn_r _ [20, 3, 13, 2, 14, 15, 7, 16, 21, 22, 23, 24, 25, 26, 27, 28, 29, 30, 31, 32, 33, 34, 35, 36, 37, 38, 39, 40, 41, 42, 43, 44, 45, 46, 47, 48, 49] (by decide +kernel) (by decide +kernel)
set_option maxRecDepth 20000 in
theorem gX11_descriptions_X11_counts : GoodIn wsX11_descriptions (wsV RX11 145 RX11 yX11_counts wsX11_counts) := goodIn_app (goodIn_of _ (by decide +kernel)) ggX11_descriptions_X11_counts
theorem dX11_descriptions_0 : decode cX11_descriptions 0 = .ok (.aload_n 0, 1) := by decide +kernel
theorem dX11_descriptions_1 : decode cX11_descriptions 1 = .ok (.iload_n 1, 1) := by decide +kernel
theorem dX11_descriptions_2 : decode cX11_descriptions 2 = .ok (.iload_n 2, 1) := by decide +kernel
theorem dX11_descriptions_3 : decode cX11_descriptions 3 = .ok (.invokevirtual 80, 3) := by decide +kernel
theorem dX11_descriptions_6 : decode cX11_descriptions 6 = .ok (.ifCond .ne 7, 3) := by decide +kernel
theorem dX11_descriptions_9 : decode cX11_descriptions 9 = .ok (.ldc2_w 143, 3) := by decide +kernel
theorem dX11_descriptions_12 : decode cX11_descriptions 12 = .ok (.lreturn, 1) := by decide +kernel
theorem dX11_descriptions_13 : decode cX11_descriptions 13 = .ok (.aload_n 0, 1) := by decide +kernel
theorem dX11_descriptions_14 : decode cX11_descriptions 14 = .ok (.invokevirtual 98, 3) := by decide +kernel
theorem dX11_descriptions_17 : decode cX11_descriptions 17 = .ok (.iconst 0, 1) := by decide +kernel
theorem dX11_descriptions_18 : decode cX11_descriptions 18 = .ok (.istore_n 3, 1) := by decide +kernel
theorem dX11_descriptions_19 : decode cX11_descriptions 19 = .ok (.iload_n 3, 1) := by decide +kernel
theorem dX11_descriptions_20 : decode cX11_descriptions 20 = .ok (.aload_n 0, 1) := by decide +kernel
theorem dX11_descriptions_21 : decode cX11_descriptions 21 = .ok (.getfield 7, 3) := by decide +kernel
theorem dX11_descriptions_24 : decode cX11_descriptions 24 = .ok (.iconst 5, 1) := by decide +kernel
theorem dX11_descriptions_25 : decode cX11_descriptions 25 = .ok (.iaload, 1) := by decide +kernel
theorem dX11_descriptions_26 : decode cX11_descriptions 26 = .ok (.if_icmp .gt 74, 3) := by decide +kernel
theorem dX11_descriptions_29 : decode cX11_descriptions 29 = .ok (.aload_n 0, 1) := by decide +kernel
theorem dX11_descriptions_30 : decode cX11_descriptions 30 = .ok (.getfield 7, 3) := by decide +kernel
theorem dX11_descriptions_33 : decode cX11_descriptions 33 = .ok (.iconst 0, 1) := by decide +kernel
theorem dX11_descriptions_34 : decode cX11_descriptions 34 = .ok (.iaload, 1) := by decide +kernel
theorem dX11_descriptions_35 : decode cX11_descriptions 35 = .ok (.istore 4, 2) := by decide +kernel
theorem dX11_descriptions_37 : decode cX11_descriptions 37 = .ok (.iload 4, 2) := by decide +kernel
theorem dX11_descriptions_39 : decode cX11_descriptions 39 = .ok (.ifCond .lt 55, 3) := by decide +kernel
theorem dX11_descriptions_42 : decode cX11_descriptions 42 = .ok (.aload_n 0, 1) := by decide +kernel
theorem dX11_descriptions_43 : decode cX11_descriptions 43 = .ok (.getfield 35, 3) := by decide +kernel
theorem dX11_descriptions_46 : decode cX11_descriptions 46 = .ok (.iload_n 3, 1) := by decide +kernel
theorem dX11_descriptions_47 : decode cX11_descriptions 47 = .ok (.iload 4, 2) := by decide +kernel
theorem dX11_descriptions_49 : decode cX11_descriptions 49 = .ok (.iload 4, 2) := by decide +kernel
theorem dX11_descriptions_51 : decode cX11_descriptions 51 = .ok (.invokestatic 95, 3) := by decide +kernel
theorem dX11_descriptions_54 : decode cX11_descriptions 54 = .ok (.lconst 1, 1) := by decide +kernel
theorem dX11_descriptions_55 : decode cX11_descriptions 55 = .ok (.lastore, 1) := by decide +kernel
theorem dX11_descriptions_56 : decode cX11_descriptions 56 = .ok (.iload 4, 2) := by decide +kernel
theorem dX11_descriptions_58 : decode cX11_descriptions 58 = .ok (.iconst 1, 1) := by decide +kernel
theorem dX11_descriptions_59 : decode cX11_descriptions 59 = .ok (.iadd, 1) := by decide +kernel
theorem dX11_descriptions_60 : decode cX11_descriptions 60 = .ok (.istore 5, 2) := by decide +kernel
theorem dX11_descriptions_62 : decode cX11_descriptions 62 = .ok (.iload 5, 2) := by decide +kernel
theorem dX11_descriptions_64 : decode cX11_descriptions 64 = .ok (.aload_n 0, 1) := by decide +kernel
theorem dX11_descriptions_65 : decode cX11_descriptions 65 = .ok (.getfield 7, 3) := by decide +kernel
theorem dX11_descriptions_68 : decode cX11_descriptions 68 = .ok (.iconst 0, 1) := by decide +kernel
theorem dX11_descriptions_69 : decode cX11_descriptions 69 = .ok (.iaload, 1) := by decide +kernel
theorem dX11_descriptions_70 : decode cX11_descriptions 70 = .ok (.if_icmp .gt 18, 3) := by decide +kernel
theorem dX11_descriptions_73 : decode cX11_descriptions 73 = .ok (.aload_n 0, 1) := by decide +kernel
theorem dX11_descriptions_74 : decode cX11_descriptions 74 = .ok (.iload_n 3, 1) := by decide +kernel
theorem dX11_descriptions_75 : decode cX11_descriptions 75 = .ok (.iload 4, 2) := by decide +kernel
theorem dX11_descriptions_77 : decode cX11_descriptions 77 = .ok (.iload 5, 2) := by decide +kernel
theorem dX11_descriptions_79 : decode cX11_descriptions 79 = .ok (.invokevirtual 145, 3) := by decide +kernel
theorem dX11_descriptions_82 : decode cX11_descriptions 82 = .ok (.iinc 5 1, 3) := by decide +kernel
theorem dX11_descriptions_85 : decode cX11_descriptions 85 = .ok (.goto (-23), 3) := by decide +kernel
theorem dX11_descriptions_88 : decode cX11_descriptions 88 = .ok (.iinc 4 (-1), 3) := by decide +kernel
theorem dX11_descriptions_91 : decode cX11_descriptions 91 = .ok (.goto (-54), 3) := by decide +kernel
theorem dX11_descriptions_94 : decode cX11_descriptions 94 = .ok (.iinc 3 1, 3) := by decide +kernel
theorem dX11_descriptions_97 : decode cX11_descriptions 97 = .ok (.goto (-78), 3) := by decide +kernel
theorem dX11_descriptions_100 : decode cX11_descriptions 100 = .ok (.aload_n 0, 1) := by decide +kernel
theorem dX11_descriptions_101 : decode cX11_descriptions 101 = .ok (.getfield 35, 3) := by decide +kernel
theorem dX11_descriptions_104 : decode cX11_descriptions 104 = .ok (.aload_n 0, 1) := by decide +kernel
theorem dX11_descriptions_105 : decode cX11_descriptions 105 = .ok (.getfield 7, 3) := by decide +kernel
theorem dX11_descriptions_108 : decode cX11_descriptions 108 = .ok (.iconst 5, 1) := by decide +kernel
theorem dX11_descriptions_109 : decode cX11_descriptions 109 = .ok (.iaload, 1) := by decide +kernel
theorem dX11_descriptions_110 : decode cX11_descriptions 110 = .ok (.iload_n 1, 1) := by decide +kernel
theorem dX11_descriptions_111 : decode cX11_descriptions 111 = .ok (.iload_n 2, 1) := by decide +kernel
theorem dX11_descriptions_112 : decode cX11_descriptions 112 = .ok (.invokestatic 95, 3) := by decide +kernel
theorem dX11_descriptions_115 : decode cX11_descriptions 115 = .ok (.laload, 1) := by decide +kernel
theorem dX11_descriptions_116 : decode cX11_descriptions 116 = .ok (.lreturn, 1) := by decide +kernel
set_option maxRecDepth 20000 in
theorem ggX11_costs_X11_lays : GoodIn wsX11_costs wsX11_lays := goodIn_r _ [7, 2, 1, 8, 9, 10, 6, 11, 12, 13, 14, 15, 16, 17, 18, 19, 20, 21, 22, 23, 24, 25, 26, 27, 28, 29, 30, 31, 32, 33, 34, 35, 36, 37, 38, 39, 40, 41, 42, 43, 44, 45, 46, 47, 48, 49, 50, 51] (by decide +kernel) (by decide +kernel)
set_option maxRecDepth 20000 in
theorem gX11_costs_X11_lays : GoodIn wsX11_costs (wsV RX11 128 RX11 yX11_lays wsX11_lays) := goodIn_app (goodIn_of _ (by decide +kernel)) ggX11_costs_X11_lays
set_option maxRecDepth 20000 in
theorem ggX11_costs_X11_part : GoodIn wsX11_costs wsX11_part := goodIn_r _ [15] (by decide +kernel) (by decide +kernel)
set_option maxRecDepth 20000 in
theorem gX11_costs_X11_part : GoodIn wsX11_costs (va_wsS RX11 95 yX11_part wsX11_part) := goodIn_app (goodIn_of _ (by decide +kernel)) ggX11_costs_X11_part
theorem dX11_costs_0 : decode cX11_costs 0 = .ok (.aload_n 0, 1) := by decide +kernel
theorem dX11_costs_1 : decode cX11_costs 1 = .ok (.invokevirtual 128, 3) := by decide +kernel
theorem dX11_costs_4 : decode cX11_costs 4 = .ok (.aload_n 0, 1) := by decide +kernel
theorem dX11_costs_5 : decode cX11_costs 5 = .ok (.getfield 26, 3) := by decide +kernel
theorem dX11_costs_8 : decode cX11_costs 8 = .ok (.aload_n 0, 1) := by decide +kernel
theorem dX11_costs_9 : decode cX11_costs 9 = .ok (.getfield 7, 3) := by decide +kernel
theorem dX11_costs_12 : decode cX11_costs 12 = .ok (.iconst 5, 1) := by decide +kernel
theorem dX11_costs_13 : decode cX11_costs 13 = .ok (.iaload, 1) := by decide +kernel
theorem dX11_costs_14 : decode cX11_costs 14 = .ok (.iconst 0, 1) := by decide +kernel
theorem dX11_costs_15 : decode cX11_costs 15 = .ok (.aload_n 0, 1) := by decide +kernel
theorem dX11_costs_16 : decode cX11_costs 16 = .ok (.getfield 7, 3) := by decide +kernel
theorem dX11_costs_19 : decode cX11_costs 19 = .ok (.iconst 0, 1) := by decide +kernel
theorem dX11_costs_20 : decode cX11_costs 20 = .ok (.iaload, 1) := by decide +kernel
theorem dX11_costs_21 : decode cX11_costs 21 = .ok (.invokestatic 95, 3) := by decide +kernel
theorem dX11_costs_24 : decode cX11_costs 24 = .ok (.iaload, 1) := by decide +kernel
theorem dX11_costs_25 : decode cX11_costs 25 = .ok (.ireturn, 1) := by decide +kernel
set_option maxRecDepth 20000 in
theorem ggX11_costsWith_X11_costs : GoodIn wsX11_costsWith wsX11_costs := goodIn_r _ [6, 7, 1, 8, 9, 10, 5, 11, 12, 13, 14, 15, 16, 17, 18, 19, 20, 21, 22, 23, 24, 25, 26, 27, 28, 29, 30, 31, 32, 33, 34, 35, 36, 37, 38, 39, 40, 41, 42, 43, 44, 45, 46, 47, 48, 49, 50, 51, 52, 53, 54, 55] (by decide +kernel) (by decide +kernel)
set_option maxRecDepth 20000 in
theorem gX11_costsWith_X11_costs : GoodIn wsX11_costsWith (wsV RX11 148 RX11 yX11_costs wsX11_costs) := goodIn_app (goodIn_of _ (by decide +kernel)) ggX11_costsWith_X11_costs
theorem dX11_costsWith_0 : decode cX11_costsWith 0 = .ok (.aload_n 0, 1) := by decide +kernel
theorem dX11_costsWith_1 : decode cX11_costsWith 1 = .ok (.getfield 7, 3) := by decide +kernel
theorem dX11_costsWith_4 : decode cX11_costsWith 4 = .ok (.bipush 6, 2) := by decide +kernel
theorem dX11_costsWith_6 : decode cX11_costsWith 6 = .ok (.iload_n 1, 1) := by decide +kernel
theorem dX11_costsWith_7 : decode cX11_costsWith 7 = .ok (.iadd, 1) := by decide +kernel
theorem dX11_costsWith_8 : decode cX11_costsWith 8 = .ok (.iaload, 1) := by decide +kernel
theorem dX11_costsWith_9 : decode cX11_costsWith 9 = .ok (.istore_n 3, 1) := by decide +kernel
theorem dX11_costsWith_10 : decode cX11_costsWith 10 = .ok (.aload_n 0, 1) := by decide +kernel
theorem dX11_costsWith_11 : decode cX11_costsWith 11 = .ok (.getfield 7, 3) := by decide +kernel
theorem dX11_costsWith_14 : decode cX11_costsWith 14 = .ok (.bipush 6, 2) := by decide +kernel
theorem dX11_costsWith_16 : decode cX11_costsWith 16 = .ok (.iload_n 1, 1) := by decide +kernel
