theorem dX11_puts_26 : decode cX11_puts 26 = .ok (.aload_n 0, 1) := by decide +kernel
theorem dX11_puts_27 : decode cX11_puts 27 = .ok (.getfield 39, 3) := by decide +kernel
theorem dX11_puts_30 : decode cX11_puts 30 = .ok (.iconst 4, 1) := by decide +kernel
theorem dX11_puts_31 : decode cX11_puts 31 = .ok (.aload_n 0, 1) := by decide +kernel
theorem dX11_puts_32 : decode cX11_puts 32 = .ok (.getfield 112, 3) := by decide +kernel
theorem dX11_puts_35 : decode cX11_puts 35 = .ok (.imul, 1) := by decide +kernel
theorem dX11_puts_36 : decode cX11_puts 36 = .ok (.iconst 2, 1) := by decide +kernel
theorem dX11_puts_37 : decode cX11_puts 37 = .ok (.iadd, 1) := by decide +kernel
theorem dX11_puts_38 : decode cX11_puts 38 = .ok (.iload_n 3, 1) := by decide +kernel
theorem dX11_puts_39 : decode cX11_puts 39 = .ok (.iastore, 1) := by decide +kernel
theorem dX11_puts_40 : decode cX11_puts 40 = .ok (.aload_n 0, 1) := by decide +kernel
theorem dX11_puts_41 : decode cX11_puts 41 = .ok (.getfield 39, 3) := by decide +kernel
theorem dX11_puts_44 : decode cX11_puts 44 = .ok (.iconst 4, 1) := by decide +kernel
theorem dX11_puts_45 : decode cX11_puts 45 = .ok (.aload_n 0, 1) := by decide +kernel
theorem dX11_puts_46 : decode cX11_puts 46 = .ok (.getfield 112, 3) := by decide +kernel
theorem dX11_puts_49 : decode cX11_puts 49 = .ok (.imul, 1) := by decide +kernel
theorem dX11_puts_50 : decode cX11_puts 50 = .ok (.iconst 3, 1) := by decide +kernel
theorem dX11_puts_51 : decode cX11_puts 51 = .ok (.iadd, 1) := by decide +kernel
theorem dX11_puts_52 : decode cX11_puts 52 = .ok (.iload 4, 2) := by decide +kernel
theorem dX11_puts_54 : decode cX11_puts 54 = .ok (.iastore, 1) := by decide +kernel
theorem dX11_puts_55 : decode cX11_puts 55 = .ok (.aload_n 0, 1) := by decide +kernel
theorem dX11_puts_56 : decode cX11_puts 56 = .ok (.dup, 1) := by decide +kernel
theorem dX11_puts_57 : decode cX11_puts 57 = .ok (.getfield 112, 3) := by decide +kernel
theorem dX11_puts_60 : decode cX11_puts 60 = .ok (.iconst 1, 1) := by decide +kernel
theorem dX11_puts_61 : decode cX11_puts 61 = .ok (.iadd, 1) := by decide +kernel
theorem dX11_puts_62 : decode cX11_puts 62 = .ok (.putfield 112, 3) := by decide +kernel
theorem dX11_puts_65 : decode cX11_puts 65 = .ok (.return_, 1) := by decide +kernel
set_option maxRecDepth 20000 in
theorem ggX11_ends_X11_writes : GoodIn wsX11_ends wsX11_writes := goodIn_r _ [6, 7, 8, 13, 14, 15, 16, 17, 18, 19, 20, 21, 22, 23, 24, 25, 26, 27, 28, 29, 30, 31, 32, 33, 34, 35, 36, 37, 38, 39, 40, 41] (by decide +kernel) (by decide +kernel)
set_option maxRecDepth 20000 in
theorem gX11_ends_X11_writes : GoodIn wsX11_ends (wsV RX11 108 RX11 yX11_writes wsX11_writes) := goodIn_app (goodIn_of _ (by decide +kernel)) ggX11_ends_X11_writes
set_option maxRecDepth 20000 in
theorem ggX11_ends_X11_number : GoodIn wsX11_ends wsX11_number := goodIn_r _ [12, 2, 3, 4, 5, 6, 7, 8, 13, 14, 15, 16, 17, 18, 19, 20, 21, 22, 23, 24, 25, 26, 27, 28, 29, 30, 31, 32, 33, 34, 35, 36, 37, 38, 39, 40, 41] (by decide +kernel) (by decide +kernel)
set_option maxRecDepth 20000 in
theorem gX11_ends_X11_number : GoodIn wsX11_ends (wsV RX11 115 RX11 yX11_number wsX11_number) := goodIn_app (goodIn_of _ (by decide +kernel)) ggX11_ends_X11_number
theorem dX11_ends_0 : decode cX11_ends 0 = .ok (.aload_n 0, 1) := by decide +kernel
theorem dX11_ends_1 : decode cX11_ends 1 = .ok (.bipush 41, 2) := by decide +kernel
theorem dX11_ends_3 : decode cX11_ends 3 = .ok (.invokevirtual 108, 3) := by decide +kernel
theorem dX11_ends_6 : decode cX11_ends 6 = .ok (.iload_n 2, 1) := by decide +kernel
theorem dX11_ends_7 : decode cX11_ends 7 = .ok (.istore 4, 2) := by decide +kernel
theorem dX11_ends_9 : decode cX11_ends 9 = .ok (.iload 4, 2) := by decide +kernel
theorem dX11_ends_11 : decode cX11_ends 11 = .ok (.iload_n 2, 1) := by decide +kernel
theorem dX11_ends_12 : decode cX11_ends 12 = .ok (.iload_n 3, 1) := by decide +kernel
theorem dX11_ends_13 : decode cX11_ends 13 = .ok (.imul, 1) := by decide +kernel
theorem dX11_ends_14 : decode cX11_ends 14 = .ok (.if_icmp .ge 81, 3) := by decide +kernel
theorem dX11_ends_17 : decode cX11_ends 17 = .ok (.aload_n 0, 1) := by decide +kernel
theorem dX11_ends_18 : decode cX11_ends 18 = .ok (.getfield 7, 3) := by decide +kernel
theorem dX11_ends_21 : decode cX11_ends 21 = .ok (.bipush 6, 2) := by decide +kernel
theorem dX11_ends_23 : decode cX11_ends 23 = .ok (.iload_n 1, 1) := by decide +kernel
theorem dX11_ends_24 : decode cX11_ends 24 = .ok (.iadd, 1) := by decide +kernel
theorem dX11_ends_25 : decode cX11_ends 25 = .ok (.iload 4, 2) := by decide +kernel
theorem dX11_ends_27 : decode cX11_ends 27 = .ok (.iadd, 1) := by decide +kernel
theorem dX11_ends_28 : decode cX11_ends 28 = .ok (.iaload, 1) := by decide +kernel
theorem dX11_ends_29 : decode cX11_ends 29 = .ok (.aload_n 0, 1) := by decide +kernel
theorem dX11_ends_30 : decode cX11_ends 30 = .ok (.getfield 7, 3) := by decide +kernel
theorem dX11_ends_33 : decode cX11_ends 33 = .ok (.bipush 6, 2) := by decide +kernel
theorem dX11_ends_35 : decode cX11_ends 35 = .ok (.iload_n 1, 1) := by decide +kernel
theorem dX11_ends_36 : decode cX11_ends 36 = .ok (.iadd, 1) := by decide +kernel
theorem dX11_ends_37 : decode cX11_ends 37 = .ok (.iload 4, 2) := by decide +kernel
theorem dX11_ends_39 : decode cX11_ends 39 = .ok (.iload_n 2, 1) := by decide +kernel
theorem dX11_ends_40 : decode cX11_ends 40 = .ok (.irem, 1) := by decide +kernel
theorem dX11_ends_41 : decode cX11_ends 41 = .ok (.iadd, 1) := by decide +kernel
theorem dX11_ends_42 : decode cX11_ends 42 = .ok (.iaload, 1) := by decide +kernel
theorem dX11_ends_43 : decode cX11_ends 43 = .ok (.if_icmp .eq 46, 3) := by decide +kernel
theorem dX11_ends_46 : decode cX11_ends 46 = .ok (.aload_n 0, 1) := by decide +kernel
theorem dX11_ends_47 : decode cX11_ends 47 = .ok (.bipush 91, 2) := by decide +kernel
theorem dX11_ends_49 : decode cX11_ends 49 = .ok (.invokevirtual 108, 3) := by decide +kernel
theorem dX11_ends_52 : decode cX11_ends 52 = .ok (.aload_n 0, 1) := by decide +kernel
theorem dX11_ends_53 : decode cX11_ends 53 = .ok (.iload 4, 2) := by decide +kernel
theorem dX11_ends_55 : decode cX11_ends 55 = .ok (.invokevirtual 115, 3) := by decide +kernel
theorem dX11_ends_58 : decode cX11_ends 58 = .ok (.aload_n 0, 1) := by decide +kernel
theorem dX11_ends_59 : decode cX11_ends 59 = .ok (.bipush 44, 2) := by decide +kernel
theorem dX11_ends_61 : decode cX11_ends 61 = .ok (.invokevirtual 108, 3) := by decide +kernel
theorem dX11_ends_64 : decode cX11_ends 64 = .ok (.aload_n 0, 1) := by decide +kernel
theorem dX11_ends_65 : decode cX11_ends 65 = .ok (.bipush 97, 2) := by decide +kernel
theorem dX11_ends_67 : decode cX11_ends 67 = .ok (.aload_n 0, 1) := by decide +kernel
theorem dX11_ends_68 : decode cX11_ends 68 = .ok (.getfield 7, 3) := by decide +kernel
theorem dX11_ends_71 : decode cX11_ends 71 = .ok (.bipush 6, 2) := by decide +kernel
theorem dX11_ends_73 : decode cX11_ends 73 = .ok (.iload_n 1, 1) := by decide +kernel
theorem dX11_ends_74 : decode cX11_ends 74 = .ok (.iadd, 1) := by decide +kernel
theorem dX11_ends_75 : decode cX11_ends 75 = .ok (.iload 4, 2) := by decide +kernel
theorem dX11_ends_77 : decode cX11_ends 77 = .ok (.iadd, 1) := by decide +kernel
theorem dX11_ends_78 : decode cX11_ends 78 = .ok (.iaload, 1) := by decide +kernel
theorem dX11_ends_79 : decode cX11_ends 79 = .ok (.iadd, 1) := by decide +kernel
theorem dX11_ends_80 : decode cX11_ends 80 = .ok (.invokevirtual 108, 3) := by decide +kernel
theorem dX11_ends_83 : decode cX11_ends 83 = .ok (.aload_n 0, 1) := by decide +kernel
theorem dX11_ends_84 : decode cX11_ends 84 = .ok (.bipush 93, 2) := by decide +kernel
theorem dX11_ends_86 : decode cX11_ends 86 = .ok (.invokevirtual 108, 3) := by decide +kernel
theorem dX11_ends_89 : decode cX11_ends 89 = .ok (.iinc 4 1, 3) := by decide +kernel
theorem dX11_ends_92 : decode cX11_ends 92 = .ok (.goto (-83), 3) := by decide +kernel
theorem dX11_ends_95 : decode cX11_ends 95 = .ok (.return_, 1) := by decide +kernel
set_option maxRecDepth 20000 in
theorem ggX11_opens_X11_part : GoodIn wsX11_opens wsX11_part := goodIn_r _ [7] (by decide +kernel) (by decide +kernel)
set_option maxRecDepth 20000 in
theorem gX11_opens_X11_part : GoodIn wsX11_opens (va_wsS RX11 95 yX11_part wsX11_part) := goodIn_app (goodIn_of _ (by decide +kernel)) ggX11_opens_X11_part
set_option maxRecDepth 20000 in
theorem ggX11_opens_X11_puts : GoodIn wsX11_opens wsX11_puts := goodIn_r _ [11, 12, 13, 24, 25, 26, 27, 28, 29, 30, 31, 32, 33, 34, 35, 36, 37, 38, 39, 40, 41, 42, 43, 44, 45, 46, 47, 48, 49, 50, 51, 52] (by decide +kernel) (by decide +kernel)
set_option maxRecDepth 20000 in
theorem gX11_opens_X11_puts : GoodIn wsX11_opens (wsV RX11 118 RX11 yX11_puts wsX11_puts) := goodIn_app (goodIn_of _ (by decide +kernel)) ggX11_opens_X11_puts
set_option maxRecDepth 20000 in
theorem ggX11_opens_X11_writes : GoodIn wsX11_opens wsX11_writes := goodIn_r _ [17, 18, 19, 24, 25, 26, 27, 28, 29, 30, 31, 32, 33, 34, 35, 36, 37, 38, 39, 40, 41, 42, 43, 44, 45, 46, 47, 48, 49, 50, 51, 52] (by decide +kernel) (by decide +kernel)
set_option maxRecDepth 20000 in
theorem gX11_opens_X11_writes : GoodIn wsX11_opens (wsV RX11 108 RX11 yX11_writes wsX11_writes) := goodIn_app (goodIn_of _ (by decide +kernel)) ggX11_opens_X11_writes
set_option maxRecDepth 20000 in
theorem ggX11_opens_X11_number : GoodIn wsX11_opens wsX11_number := goodIn_r _ [23, 14, 15, 16, 6, 17, 18, 19, 24, 25, 26, 27, 28, 29, 30, 31, 32, 33, 34, 35, 36, 37, 38, 39, 40, 41, 42, 43, 44, 45, 46, 47, 48, 49, 50, 51, 52] (by decide +kernel) (by decide +kernel)
set_option maxRecDepth 20000 in
theorem gX11_opens_X11_number : GoodIn wsX11_opens (wsV RX11 115 RX11 yX11_number wsX11_number) := goodIn_app (goodIn_of _ (by decide +kernel)) ggX11_opens_X11_number
theorem dX11_opens_0 : decode cX11_opens 0 = .ok (.aload_n 0, 1) := by decide +kernel
theorem dX11_opens_1 : decode cX11_opens 1 = .ok (.getfield 29, 3) := by decide +kernel
theorem dX11_opens_4 : decode cX11_opens 4 = .ok (.iload_n 3, 1) := by decide +kernel
theorem dX11_opens_5 : decode cX11_opens 5 = .ok (.iload_n 1, 1) := by decide +kernel
theorem dX11_opens_6 : decode cX11_opens 6 = .ok (.iload_n 2, 1) := by decide +kernel
theorem dX11_opens_7 : decode cX11_opens 7 = .ok (.invokestatic 95, 3) := by decide +kernel
theorem dX11_opens_10 : decode cX11_opens 10 = .ok (.iaload, 1) := by decide +kernel
theorem dX11_opens_11 : decode cX11_opens 11 = .ok (.istore 4, 2) := by decide +kernel
theorem dX11_opens_13 : decode cX11_opens 13 = .ok (.aload_n 0, 1) := by decide +kernel
theorem dX11_opens_14 : decode cX11_opens 14 = .ok (.iconst 0, 1) := by decide +kernel
theorem dX11_opens_15 : decode cX11_opens 15 = .ok (.iload_n 1, 1) := by decide +kernel
theorem dX11_opens_16 : decode cX11_opens 16 = .ok (.iload 4, 2) := by decide +kernel
theorem dX11_opens_18 : decode cX11_opens 18 = .ok (.iadd, 1) := by decide +kernel
theorem dX11_opens_19 : decode cX11_opens 19 = .ok (.iload_n 2, 1) := by decide +kernel
theorem dX11_opens_20 : decode cX11_opens 20 = .ok (.iload_n 3, 1) := by decide +kernel
theorem dX11_opens_21 : decode cX11_opens 21 = .ok (.invokevirtual 118, 3) := by decide +kernel
theorem dX11_opens_24 : decode cX11_opens 24 = .ok (.iload 4, 2) := by decide +kernel
theorem dX11_opens_26 : decode cX11_opens 26 = .ok (.iconst 1, 1) := by decide +kernel
theorem dX11_opens_27 : decode cX11_opens 27 = .ok (.if_icmp .ne 22, 3) := by decide +kernel
theorem dX11_opens_30 : decode cX11_opens 30 = .ok (.aload_n 0, 1) := by decide +kernel
theorem dX11_opens_31 : decode cX11_opens 31 = .ok (.bipush 97, 2) := by decide +kernel
theorem dX11_opens_33 : decode cX11_opens 33 = .ok (.aload_n 0, 1) := by decide +kernel
theorem dX11_opens_34 : decode cX11_opens 34 = .ok (.getfield 7, 3) := by decide +kernel
theorem dX11_opens_37 : decode cX11_opens 37 = .ok (.bipush 6, 2) := by decide +kernel
theorem dX11_opens_39 : decode cX11_opens 39 = .ok (.iload_n 1, 1) := by decide +kernel
theorem dX11_opens_40 : decode cX11_opens 40 = .ok (.iadd, 1) := by decide +kernel
theorem dX11_opens_41 : decode cX11_opens 41 = .ok (.iaload, 1) := by decide +kernel
theorem dX11_opens_42 : decode cX11_opens 42 = .ok (.iadd, 1) := by decide +kernel
theorem dX11_opens_43 : decode cX11_opens 43 = .ok (.invokevirtual 108, 3) := by decide +kernel
theorem dX11_opens_46 : decode cX11_opens 46 = .ok (.goto 57, 3) := by decide +kernel
theorem dX11_opens_49 : decode cX11_opens 49 = .ok (.aload_n 0, 1) := by decide +kernel
theorem dX11_opens_50 : decode cX11_opens 50 = .ok (.getfield 32, 3) := by decide +kernel
theorem dX11_opens_53 : decode cX11_opens 53 = .ok (.iload_n 3, 1) := by decide +kernel
theorem dX11_opens_54 : decode cX11_opens 54 = .ok (.iload_n 1, 1) := by decide +kernel
theorem dX11_opens_55 : decode cX11_opens 55 = .ok (.iload_n 2, 1) := by decide +kernel
theorem dX11_opens_56 : decode cX11_opens 56 = .ok (.invokestatic 95, 3) := by decide +kernel
theorem dX11_opens_59 : decode cX11_opens 59 = .ok (.iaload, 1) := by decide +kernel
theorem dX11_opens_60 : decode cX11_opens 60 = .ok (.istore 5, 2) := by decide +kernel
theorem dX11_opens_62 : decode cX11_opens 62 = .ok (.aload_n 0, 1) := by decide +kernel
theorem dX11_opens_63 : decode cX11_opens 63 = .ok (.iload 4, 2) := by decide +kernel
theorem dX11_opens_65 : decode cX11_opens 65 = .ok (.iload 5, 2) := by decide +kernel
theorem dX11_opens_67 : decode cX11_opens 67 = .ok (.idiv, 1) := by decide +kernel
theorem dX11_opens_68 : decode cX11_opens 68 = .ok (.invokevirtual 115, 3) := by decide +kernel
theorem dX11_opens_71 : decode cX11_opens 71 = .ok (.aload_n 0, 1) := by decide +kernel
theorem dX11_opens_72 : decode cX11_opens 72 = .ok (.bipush 40, 2) := by decide +kernel
theorem dX11_opens_74 : decode cX11_opens 74 = .ok (.invokevirtual 108, 3) := by decide +kernel
theorem dX11_opens_77 : decode cX11_opens 77 = .ok (.aload_n 0, 1) := by decide +kernel
theorem dX11_opens_78 : decode cX11_opens 78 = .ok (.iconst 1, 1) := by decide +kernel
theorem dX11_opens_79 : decode cX11_opens 79 = .ok (.iload_n 1, 1) := by decide +kernel
theorem dX11_opens_80 : decode cX11_opens 80 = .ok (.iload 5, 2) := by decide +kernel
theorem dX11_opens_82 : decode cX11_opens 82 = .ok (.iload 4, 2) := by decide +kernel
theorem dX11_opens_84 : decode cX11_opens 84 = .ok (.iload 5, 2) := by decide +kernel
theorem dX11_opens_86 : decode cX11_opens 86 = .ok (.idiv, 1) := by decide +kernel
theorem dX11_opens_87 : decode cX11_opens 87 = .ok (.invokevirtual 118, 3) := by decide +kernel
theorem dX11_opens_90 : decode cX11_opens 90 = .ok (.aload_n 0, 1) := by decide +kernel
theorem dX11_opens_91 : decode cX11_opens 91 = .ok (.iconst 0, 1) := by decide +kernel
theorem dX11_opens_92 : decode cX11_opens 92 = .ok (.iload_n 1, 1) := by decide +kernel
theorem dX11_opens_93 : decode cX11_opens 93 = .ok (.iload_n 1, 1) := by decide +kernel
theorem dX11_opens_94 : decode cX11_opens 94 = .ok (.iload 5, 2) := by decide +kernel
theorem dX11_opens_96 : decode cX11_opens 96 = .ok (.iadd, 1) := by decide +kernel
theorem dX11_opens_97 : decode cX11_opens 97 = .ok (.iload_n 3, 1) := by decide +kernel
theorem dX11_opens_98 : decode cX11_opens 98 = .ok (.iconst 1, 1) := by decide +kernel
theorem dX11_opens_99 : decode cX11_opens 99 = .ok (.isub, 1) := by decide +kernel
theorem dX11_opens_100 : decode cX11_opens 100 = .ok (.invokevirtual 118, 3) := by decide +kernel
theorem dX11_opens_103 : decode cX11_opens 103 = .ok (.return_, 1) := by decide +kernel
set_option maxRecDepth 20000 in
theorem ggX11_describes_X11_puts : GoodIn wsX11_describes wsX11_puts := goodIn_r _ [9, 4, 2, 32, 33, 34, 35, 36, 37, 38, 39, 40, 41, 42, 43, 44, 45, 46, 47, 48, 49, 50, 51, 52, 53, 54, 55, 56, 57, 58, 59, 60] (by decide +kernel) (by decide +kernel)
set_option maxRecDepth 20000 in
theorem gX11_describes_X11_puts : GoodIn wsX11_describes (wsV RX11 118 RX11 yX11_puts wsX11_puts) := goodIn_app (goodIn_of _ (by decide +kernel)) ggX11_describes_X11_puts
set_option maxRecDepth 20000 in
theorem ggX11_describes_X11_ends : GoodIn wsX11_describes wsX11_ends := goodIn_r _ [13, 3, 14, 15, 16, 8, 17, 18, 1, 19, 20, 21, 22, 32, 33, 34, 35, 36, 37, 38, 39, 40, 41, 42, 43, 44, 45, 46, 47, 48, 49, 50, 51, 52, 53, 54, 55, 56, 57, 58, 59, 60] (by decide +kernel) (by decide +kernel)
set_option maxRecDepth 20000 in
theorem gX11_describes_X11_ends : GoodIn wsX11_describes (wsV RX11 122 RX11 yX11_ends wsX11_ends) := goodIn_app (goodIn_of _ (by decide +kernel)) ggX11_describes_X11_ends
set_option maxRecDepth 20000 in
theorem ggX11_describes_X11_opens : GoodIn wsX11_describes wsX11_opens := goodIn_r _ [26, 27, 3, 28, 29, 30, 8, 31, 5, 6, 7, 9, 4, 2, 14, 15, 16, 17, 18, 1, 19, 20, 21, 22, 32, 33, 34, 35, 36, 37, 38, 39, 40, 41, 42, 43, 44, 45, 46, 47, 48, 49, 50, 51, 52, 53, 54, 55, 56, 57, 58, 59, 60] (by decide +kernel) (by decide +kernel)
set_option maxRecDepth 20000 in
theorem gX11_describes_X11_opens : GoodIn wsX11_describes (wsV RX11 125 RX11 yX11_opens wsX11_opens) := goodIn_app (goodIn_of _ (by decide +kernel)) ggX11_describes_X11_opens
theorem dX11_describes_0 : decode cX11_describes 0 = .ok (.aload_n 0, 1) := by decide +kernel
theorem dX11_describes_1 : decode cX11_describes 1 = .ok (.iconst 0, 1) := by decide +kernel
theorem dX11_describes_2 : decode cX11_describes 2 = .ok (.putfield 105, 3) := by decide +kernel
theorem dX11_describes_5 : decode cX11_describes 5 = .ok (.aload_n 0, 1) := by decide +kernel
theorem dX11_describes_6 : decode cX11_describes 6 = .ok (.iconst 0, 1) := by decide +kernel
theorem dX11_describes_7 : decode cX11_describes 7 = .ok (.putfield 112, 3) := by decide +kernel
theorem dX11_describes_10 : decode cX11_describes 10 = .ok (.aload_n 0, 1) := by decide +kernel
theorem dX11_describes_11 : decode cX11_describes 11 = .ok (.iconst 0, 1) := by decide +kernel
theorem dX11_describes_12 : decode cX11_describes 12 = .ok (.iload_n 1, 1) := by decide +kernel
theorem dX11_describes_13 : decode cX11_describes 13 = .ok (.iload_n 2, 1) := by decide +kernel
theorem dX11_describes_14 : decode cX11_describes 14 = .ok (.aload_n 0, 1) := by decide +kernel
theorem dX11_describes_15 : decode cX11_describes 15 = .ok (.getfield 7, 3) := by decide +kernel
theorem dX11_describes_18 : decode cX11_describes 18 = .ok (.iconst 5, 1) := by decide +kernel
theorem dX11_describes_19 : decode cX11_describes 19 = .ok (.iaload, 1) := by decide +kernel
theorem dX11_describes_20 : decode cX11_describes 20 = .ok (.invokevirtual 118, 3) := by decide +kernel
theorem dX11_describes_23 : decode cX11_describes 23 = .ok (.aload_n 0, 1) := by decide +kernel
theorem dX11_describes_24 : decode cX11_describes 24 = .ok (.getfield 112, 3) := by decide +kernel
theorem dX11_describes_27 : decode cX11_describes 27 = .ok (.ifCond .le 102, 3) := by decide +kernel
theorem dX11_describes_30 : decode cX11_describes 30 = .ok (.aload_n 0, 1) := by decide +kernel
theorem dX11_describes_31 : decode cX11_describes 31 = .ok (.dup, 1) := by decide +kernel
theorem dX11_describes_32 : decode cX11_describes 32 = .ok (.getfield 112, 3) := by decide +kernel
theorem dX11_describes_35 : decode cX11_describes 35 = .ok (.iconst 1, 1) := by decide +kernel
theorem dX11_describes_36 : decode cX11_describes 36 = .ok (.isub, 1) := by decide +kernel
theorem dX11_describes_37 : decode cX11_describes 37 = .ok (.putfield 112, 3) := by decide +kernel
theorem dX11_describes_40 : decode cX11_describes 40 = .ok (.aload_n 0, 1) := by decide +kernel
theorem dX11_describes_41 : decode cX11_describes 41 = .ok (.getfield 39, 3) := by decide +kernel
theorem dX11_describes_44 : decode cX11_describes 44 = .ok (.iconst 4, 1) := by decide +kernel
theorem dX11_describes_45 : decode cX11_describes 45 = .ok (.aload_n 0, 1) := by decide +kernel
theorem dX11_describes_46 : decode cX11_describes 46 = .ok (.getfield 112, 3) := by decide +kernel
theorem dX11_describes_49 : decode cX11_describes 49 = .ok (.imul, 1) := by decide +kernel
theorem dX11_describes_50 : decode cX11_describes 50 = .ok (.iconst 1, 1) := by decide +kernel
theorem dX11_describes_51 : decode cX11_describes 51 = .ok (.iadd, 1) := by decide +kernel
theorem dX11_describes_52 : decode cX11_describes 52 = .ok (.iaload, 1) := by decide +kernel
theorem dX11_describes_53 : decode cX11_describes 53 = .ok (.istore_n 3, 1) := by decide +kernel
theorem dX11_describes_54 : decode cX11_describes 54 = .ok (.aload_n 0, 1) := by decide +kernel
theorem dX11_describes_55 : decode cX11_describes 55 = .ok (.getfield 39, 3) := by decide +kernel
theorem dX11_describes_58 : decode cX11_describes 58 = .ok (.iconst 4, 1) := by decide +kernel
theorem dX11_describes_59 : decode cX11_describes 59 = .ok (.aload_n 0, 1) := by decide +kernel
theorem dX11_describes_60 : decode cX11_describes 60 = .ok (.getfield 112, 3) := by decide +kernel
theorem dX11_describes_63 : decode cX11_describes 63 = .ok (.imul, 1) := by decide +kernel
theorem dX11_describes_64 : decode cX11_describes 64 = .ok (.iconst 2, 1) := by decide +kernel
theorem dX11_describes_65 : decode cX11_describes 65 = .ok (.iadd, 1) := by decide +kernel
theorem dX11_describes_66 : decode cX11_describes 66 = .ok (.iaload, 1) := by decide +kernel
theorem dX11_describes_67 : decode cX11_describes 67 = .ok (.istore 4, 2) := by decide +kernel
theorem dX11_describes_69 : decode cX11_describes 69 = .ok (.aload_n 0, 1) := by decide +kernel
theorem dX11_describes_70 : decode cX11_describes 70 = .ok (.getfield 39, 3) := by decide +kernel
theorem dX11_describes_73 : decode cX11_describes 73 = .ok (.iconst 4, 1) := by decide +kernel
theorem dX11_describes_74 : decode cX11_describes 74 = .ok (.aload_n 0, 1) := by decide +kernel
theorem dX11_describes_75 : decode cX11_describes 75 = .ok (.getfield 112, 3) := by decide +kernel
theorem dX11_describes_78 : decode cX11_describes 78 = .ok (.imul, 1) := by decide +kernel
theorem dX11_describes_79 : decode cX11_describes 79 = .ok (.iconst 3, 1) := by decide +kernel
theorem dX11_describes_80 : decode cX11_describes 80 = .ok (.iadd, 1) := by decide +kernel
theorem dX11_describes_81 : decode cX11_describes 81 = .ok (.iaload, 1) := by decide +kernel
theorem dX11_describes_82 : decode cX11_describes 82 = .ok (.istore 5, 2) := by decide +kernel
theorem dX11_describes_84 : decode cX11_describes 84 = .ok (.aload_n 0, 1) := by decide +kernel
theorem dX11_describes_85 : decode cX11_describes 85 = .ok (.getfield 39, 3) := by decide +kernel
theorem dX11_describes_88 : decode cX11_describes 88 = .ok (.iconst 4, 1) := by decide +kernel
theorem dX11_describes_89 : decode cX11_describes 89 = .ok (.aload_n 0, 1) := by decide +kernel
theorem dX11_describes_90 : decode cX11_describes 90 = .ok (.getfield 112, 3) := by decide +kernel
theorem dX11_describes_93 : decode cX11_describes 93 = .ok (.imul, 1) := by decide +kernel
theorem dX11_describes_94 : decode cX11_describes 94 = .ok (.iaload, 1) := by decide +kernel
theorem dX11_describes_95 : decode cX11_describes 95 = .ok (.iconst 1, 1) := by decide +kernel
theorem dX11_describes_96 : decode cX11_describes 96 = .ok (.if_icmp .ne 15, 3) := by decide +kernel
theorem dX11_describes_99 : decode cX11_describes 99 = .ok (.aload_n 0, 1) := by decide +kernel
theorem dX11_describes_100 : decode cX11_describes 100 = .ok (.iload_n 3, 1) := by decide +kernel
theorem dX11_describes_101 : decode cX11_describes 101 = .ok (.iload 4, 2) := by decide +kernel
theorem dX11_describes_103 : decode cX11_describes 103 = .ok (.iload 5, 2) := by decide +kernel
theorem dX11_describes_105 : decode cX11_describes 105 = .ok (.invokevirtual 122, 3) := by decide +kernel
theorem dX11_describes_108 : decode cX11_describes 108 = .ok (.goto 18, 3) := by decide +kernel
theorem dX11_describes_111 : decode cX11_describes 111 = .ok (.iload_n 3, 1) := by decide +kernel
theorem dX11_describes_112 : decode cX11_describes 112 = .ok (.iload 4, 2) := by decide +kernel
theorem dX11_describes_114 : decode cX11_describes 114 = .ok (.if_icmp .ge 12, 3) := by decide +kernel
theorem dX11_describes_117 : decode cX11_describes 117 = .ok (.aload_n 0, 1) := by decide +kernel
theorem dX11_describes_118 : decode cX11_describes 118 = .ok (.iload_n 3, 1) := by decide +kernel
theorem dX11_describes_119 : decode cX11_describes 119 = .ok (.iload 4, 2) := by decide +kernel
theorem dX11_describes_121 : decode cX11_describes 121 = .ok (.iload 5, 2) := by decide +kernel
theorem dX11_describes_123 : decode cX11_describes 123 = .ok (.invokevirtual 125, 3) := by decide +kernel
theorem dX11_describes_126 : decode cX11_describes 126 = .ok (.goto (-103), 3) := by decide +kernel
theorem dX11_describes_129 : decode cX11_describes 129 = .ok (.return_, 1) := by decide +kernel
theorem dX11_signs_0 : decode cX11_signs 0 = .ok (.iconst 0, 1) := by decide +kernel
theorem dX11_signs_1 : decode cX11_signs 1 = .ok (.istore_n 2, 1) := by decide +kernel
theorem dX11_signs_2 : decode cX11_signs 2 = .ok (.iconst 0, 1) := by decide +kernel
theorem dX11_signs_3 : decode cX11_signs 3 = .ok (.istore_n 3, 1) := by decide +kernel
theorem dX11_signs_4 : decode cX11_signs 4 = .ok (.iload_n 3, 1) := by decide +kernel
theorem dX11_signs_5 : decode cX11_signs 5 = .ok (.aload_n 0, 1) := by decide +kernel
theorem dX11_signs_6 : decode cX11_signs 6 = .ok (.getfield 105, 3) := by decide +kernel
theorem dX11_signs_9 : decode cX11_signs 9 = .ok (.if_icmp .ge 27, 3) := by decide +kernel
theorem dX11_signs_12 : decode cX11_signs 12 = .ok (.iload_n 2, 1) := by decide +kernel
theorem dX11_signs_13 : decode cX11_signs 13 = .ok (.aload_n 0, 1) := by decide +kernel
theorem dX11_signs_14 : decode cX11_signs 14 = .ok (.getfield 42, 3) := by decide +kernel
theorem dX11_signs_17 : decode cX11_signs 17 = .ok (.iload_n 3, 1) := by decide +kernel
theorem dX11_signs_18 : decode cX11_signs 18 = .ok (.caload, 1) := by decide +kernel
theorem dX11_signs_19 : decode cX11_signs 19 = .ok (.iload_n 1, 1) := by decide +kernel
theorem dX11_signs_20 : decode cX11_signs 20 = .ok (.if_icmp .ne 7, 3) := by decide +kernel
theorem dX11_signs_23 : decode cX11_signs 23 = .ok (.iconst 1, 1) := by decide +kernel
theorem dX11_signs_24 : decode cX11_signs 24 = .ok (.goto 4, 3) := by decide +kernel
theorem dX11_signs_27 : decode cX11_signs 27 = .ok (.iconst 0, 1) := by decide +kernel
theorem dX11_signs_28 : decode cX11_signs 28 = .ok (.iadd, 1) := by decide +kernel
theorem dX11_signs_29 : decode cX11_signs 29 = .ok (.istore_n 2, 1) := by decide +kernel
theorem dX11_signs_30 : decode cX11_signs 30 = .ok (.iinc 3 1, 3) := by decide +kernel
theorem dX11_signs_33 : decode cX11_signs 33 = .ok (.goto (-29), 3) := by decide +kernel
theorem dX11_signs_36 : decode cX11_signs 36 = .ok (.iload_n 2, 1) := by decide +kernel
theorem dX11_signs_37 : decode cX11_signs 37 = .ok (.ireturn, 1) := by decide +kernel
set_option maxRecDepth 20000 in
theorem ggX11_levels_X11_in : GoodIn wsX11_levels wsX11_in := goodIn_r _ [6] (by decide +kernel) (by decide +kernel)
set_option maxRecDepth 20000 in
theorem gX11_levels_X11_in : GoodIn wsX11_levels (va_wsS RX11 62 yX11_in wsX11_in) := goodIn_app (goodIn_of _ (by decide +kernel)) ggX11_levels_X11_in
theorem dX11_levels_0 : decode cX11_levels 0 = .ok (.iconst 0, 1) := by decide +kernel
theorem dX11_levels_1 : decode cX11_levels 1 = .ok (.istore_n 2, 1) := by decide +kernel
theorem dX11_levels_2 : decode cX11_levels 2 = .ok (.iconst 0, 1) := by decide +kernel
theorem dX11_levels_3 : decode cX11_levels 3 = .ok (.istore_n 3, 1) := by decide +kernel
theorem dX11_levels_4 : decode cX11_levels 4 = .ok (.iconst 0, 1) := by decide +kernel
theorem dX11_levels_5 : decode cX11_levels 5 = .ok (.istore 4, 2) := by decide +kernel
theorem dX11_levels_7 : decode cX11_levels 7 = .ok (.iconst 0, 1) := by decide +kernel
theorem dX11_levels_8 : decode cX11_levels 8 = .ok (.istore 5, 2) := by decide +kernel
theorem dX11_levels_10 : decode cX11_levels 10 = .ok (.iconst 0, 1) := by decide +kernel
theorem dX11_levels_11 : decode cX11_levels 11 = .ok (.istore 6, 2) := by decide +kernel
theorem dX11_levels_13 : decode cX11_levels 13 = .ok (.iload 6, 2) := by decide +kernel
theorem dX11_levels_15 : decode cX11_levels 15 = .ok (.aload_n 0, 1) := by decide +kernel
theorem dX11_levels_16 : decode cX11_levels 16 = .ok (.getfield 105, 3) := by decide +kernel
theorem dX11_levels_19 : decode cX11_levels 19 = .ok (.if_icmp .ge 119, 3) := by decide +kernel
theorem dX11_levels_22 : decode cX11_levels 22 = .ok (.aload_n 0, 1) := by decide +kernel
theorem dX11_levels_23 : decode cX11_levels 23 = .ok (.getfield 42, 3) := by decide +kernel
theorem dX11_levels_26 : decode cX11_levels 26 = .ok (.iload 6, 2) := by decide +kernel
theorem dX11_levels_28 : decode cX11_levels 28 = .ok (.caload, 1) := by decide +kernel
theorem dX11_levels_29 : decode cX11_levels 29 = .ok (.istore 7, 2) := by decide +kernel
theorem dX11_levels_31 : decode cX11_levels 31 = .ok (.iload 7, 2) := by decide +kernel
theorem dX11_levels_33 : decode cX11_levels 33 = .ok (.bipush 91, 2) := by decide +kernel
theorem dX11_levels_35 : decode cX11_levels 35 = .ok (.if_icmp .eq 15, 3) := by decide +kernel
theorem dX11_levels_38 : decode cX11_levels 38 = .ok (.iload 5, 2) := by decide +kernel
theorem dX11_levels_40 : decode cX11_levels 40 = .ok (.ifCond .eq 14, 3) := by decide +kernel
theorem dX11_levels_43 : decode cX11_levels 43 = .ok (.iload 7, 2) := by decide +kernel
theorem dX11_levels_45 : decode cX11_levels 45 = .ok (.bipush 93, 2) := by decide +kernel
theorem dX11_levels_47 : decode cX11_levels 47 = .ok (.if_icmp .eq 7, 3) := by decide +kernel
theorem dX11_levels_50 : decode cX11_levels 50 = .ok (.iconst 1, 1) := by decide +kernel
theorem dX11_levels_51 : decode cX11_levels 51 = .ok (.goto 4, 3) := by decide +kernel
theorem dX11_levels_54 : decode cX11_levels 54 = .ok (.iconst 0, 1) := by decide +kernel
theorem dX11_levels_55 : decode cX11_levels 55 = .ok (.istore 5, 2) := by decide +kernel
theorem dX11_levels_57 : decode cX11_levels 57 = .ok (.iload 4, 2) := by decide +kernel
theorem dX11_levels_59 : decode cX11_levels 59 = .ok (.iload_n 2, 1) := by decide +kernel
theorem dX11_levels_60 : decode cX11_levels 60 = .ok (.ifCond .ne 31, 3) := by decide +kernel
theorem dX11_levels_63 : decode cX11_levels 63 = .ok (.iload 7, 2) := by decide +kernel
theorem dX11_levels_65 : decode cX11_levels 65 = .ok (.bipush 40, 2) := by decide +kernel
theorem dX11_levels_67 : decode cX11_levels 67 = .ok (.if_icmp .eq 20, 3) := by decide +kernel
theorem dX11_levels_70 : decode cX11_levels 70 = .ok (.iload 7, 2) := by decide +kernel
theorem dX11_levels_72 : decode cX11_levels 72 = .ok (.bipush 97, 2) := by decide +kernel
theorem dX11_levels_74 : decode cX11_levels 74 = .ok (.bipush 100, 2) := by decide +kernel
theorem dX11_levels_76 : decode cX11_levels 76 = .ok (.invokestatic 62, 3) := by decide +kernel
theorem dX11_levels_79 : decode cX11_levels 79 = .ok (.ifCond .eq 12, 3) := by decide +kernel
theorem dX11_levels_82 : decode cX11_levels 82 = .ok (.iload 5, 2) := by decide +kernel
theorem dX11_levels_84 : decode cX11_levels 84 = .ok (.ifCond .ne 7, 3) := by decide +kernel
theorem dX11_levels_87 : decode cX11_levels 87 = .ok (.iconst 1, 1) := by decide +kernel
theorem dX11_levels_88 : decode cX11_levels 88 = .ok (.goto 4, 3) := by decide +kernel
theorem dX11_levels_91 : decode cX11_levels 91 = .ok (.iconst 0, 1) := by decide +kernel
theorem dX11_levels_92 : decode cX11_levels 92 = .ok (.iadd, 1) := by decide +kernel
theorem dX11_levels_93 : decode cX11_levels 93 = .ok (.istore 4, 2) := by decide +kernel
theorem dX11_levels_95 : decode cX11_levels 95 = .ok (.iload_n 2, 1) := by decide +kernel
theorem dX11_levels_96 : decode cX11_levels 96 = .ok (.iload 7, 2) := by decide +kernel
theorem dX11_levels_98 : decode cX11_levels 98 = .ok (.bipush 40, 2) := by decide +kernel
theorem dX11_levels_100 : decode cX11_levels 100 = .ok (.if_icmp .ne 7, 3) := by decide +kernel
theorem dX11_levels_103 : decode cX11_levels 103 = .ok (.iconst 1, 1) := by decide +kernel
theorem dX11_levels_104 : decode cX11_levels 104 = .ok (.goto 15, 3) := by decide +kernel
theorem dX11_levels_107 : decode cX11_levels 107 = .ok (.iload 7, 2) := by decide +kernel
theorem dX11_levels_109 : decode cX11_levels 109 = .ok (.bipush 41, 2) := by decide +kernel
theorem dX11_levels_111 : decode cX11_levels 111 = .ok (.if_icmp .ne 7, 3) := by decide +kernel
theorem dX11_levels_114 : decode cX11_levels 114 = .ok (.iconst (-1), 1) := by decide +kernel
theorem dX11_levels_115 : decode cX11_levels 115 = .ok (.goto 4, 3) := by decide +kernel
theorem dX11_levels_118 : decode cX11_levels 118 = .ok (.iconst 0, 1) := by decide +kernel
theorem dX11_levels_119 : decode cX11_levels 119 = .ok (.iadd, 1) := by decide +kernel
theorem dX11_levels_120 : decode cX11_levels 120 = .ok (.istore_n 2, 1) := by decide +kernel
theorem dX11_levels_121 : decode cX11_levels 121 = .ok (.iload_n 2, 1) := by decide +kernel
theorem dX11_levels_122 : decode cX11_levels 122 = .ok (.iload_n 3, 1) := by decide +kernel
theorem dX11_levels_123 : decode cX11_levels 123 = .ok (.if_icmp .le 7, 3) := by decide +kernel
theorem dX11_levels_126 : decode cX11_levels 126 = .ok (.iload_n 2, 1) := by decide +kernel
theorem dX11_levels_127 : decode cX11_levels 127 = .ok (.goto 4, 3) := by decide +kernel
theorem dX11_levels_130 : decode cX11_levels 130 = .ok (.iload_n 3, 1) := by decide +kernel
theorem dX11_levels_131 : decode cX11_levels 131 = .ok (.istore_n 3, 1) := by decide +kernel
theorem dX11_levels_132 : decode cX11_levels 132 = .ok (.iinc 6 1, 3) := by decide +kernel
theorem dX11_levels_135 : decode cX11_levels 135 = .ok (.goto (-122), 3) := by decide +kernel
theorem dX11_levels_138 : decode cX11_levels 138 = .ok (.iload_n 1, 1) := by decide +kernel
theorem dX11_levels_139 : decode cX11_levels 139 = .ok (.ifCond .eq 7, 3) := by decide +kernel
theorem dX11_levels_142 : decode cX11_levels 142 = .ok (.iload_n 3, 1) := by decide +kernel
theorem dX11_levels_143 : decode cX11_levels 143 = .ok (.goto 5, 3) := by decide +kernel
theorem dX11_levels_146 : decode cX11_levels 146 = .ok (.iload 4, 2) := by decide +kernel
theorem dX11_levels_148 : decode cX11_levels 148 = .ok (.ireturn, 1) := by decide +kernel
set_option maxRecDepth 20000 in
theorem ggX11_cheapest_X11_isPart : GoodIn wsX11_cheapest wsX11_isPart := goodIn_r _ [11, 2, 67, 68, 69, 70, 71, 72, 73, 74, 75, 76, 77, 78, 79, 80, 81, 82, 83, 84, 85, 86, 87, 88, 89, 90, 91, 92, 93, 94, 95] (by decide +kernel) (by decide +kernel)
set_option maxRecDepth 20000 in
theorem gX11_cheapest_X11_isPart : GoodIn wsX11_cheapest (wsV RX11 80 RX11 yX11_isPart wsX11_isPart) := goodIn_app (goodIn_of _ (by decide +kernel)) ggX11_cheapest_X11_isPart
set_option maxRecDepth 20000 in
theorem ggX11_cheapest_X11_in : GoodIn wsX11_cheapest wsX11_in := goodIn_r _ [14] (by decide +kernel) (by decide +kernel)
set_option maxRecDepth 20000 in
theorem gX11_cheapest_X11_in : GoodIn wsX11_cheapest (va_wsS RX11 62 yX11_in wsX11_in) := goodIn_app (goodIn_of _ (by decide +kernel)) ggX11_cheapest_X11_in
set_option maxRecDepth 20000 in
theorem ggX11_cheapest_X11_lays : GoodIn wsX11_cheapest wsX11_lays := goodIn_r _ [18, 2, 3, 19, 20, 21, 10, 22, 23, 24, 25, 26, 27, 28, 29, 30, 31, 5, 6, 67, 68, 69, 70, 71, 72, 73, 74, 75, 76, 77, 78, 79, 80, 81, 82, 83, 84, 85, 86, 87, 88, 89, 90, 91, 92, 93, 94, 95] (by decide +kernel) (by decide +kernel)
set_option maxRecDepth 20000 in
theorem gX11_cheapest_X11_lays : GoodIn wsX11_cheapest (wsV RX11 128 RX11 yX11_lays wsX11_lays) := goodIn_app (goodIn_of _ (by decide +kernel)) ggX11_cheapest_X11_lays
set_option maxRecDepth 20000 in
theorem ggX11_cheapest_X11_describes : GoodIn wsX11_cheapest wsX11_describes := goodIn_r _ [35, 4, 36, 2, 37, 38, 39, 40, 10, 41, 42, 43, 44, 45, 46, 47, 48, 49, 50, 51, 52, 53, 54, 55, 56, 57, 58, 5, 6, 24, 25, 26, 67, 68, 69, 70, 71, 72, 73, 74, 75, 76, 77, 78, 79, 80, 81, 82, 83, 84, 85, 86, 87, 88, 89, 90, 91, 92, 93, 94, 95] (by decide +kernel) (by decide +kernel)
set_option maxRecDepth 20000 in
theorem gX11_cheapest_X11_describes : GoodIn wsX11_cheapest (wsV RX11 131 RX11 yX11_describes wsX11_describes) := goodIn_app (goodIn_of _ (by decide +kernel)) ggX11_cheapest_X11_describes
set_option maxRecDepth 20000 in
theorem ggX11_cheapest_X11_part : GoodIn wsX11_cheapest wsX11_part := goodIn_r _ [26] (by decide +kernel) (by decide +kernel)
set_option maxRecDepth 20000 in
theorem gX11_cheapest_X11_part : GoodIn wsX11_cheapest (va_wsS RX11 95 yX11_part wsX11_part) := goodIn_app (goodIn_of _ (by decide +kernel)) ggX11_cheapest_X11_part
set_option maxRecDepth 20000 in
theorem ggX11_cheapest_X11_levels : GoodIn wsX11_cheapest wsX11_levels := goodIn_r _ [62, 4, 50, 12, 13, 10, 14, 67, 68, 69, 70, 71, 72, 73, 74, 75, 76, 77, 78, 79, 80, 81, 82, 83, 84, 85, 86, 87, 88, 89, 90, 91, 92, 93, 94, 95] (by decide +kernel) (by decide +kernel)
set_option maxRecDepth 20000 in
theorem gX11_cheapest_X11_levels : GoodIn wsX11_cheapest (wsV RX11 135 RX11 yX11_levels wsX11_levels) := goodIn_app (goodIn_of _ (by decide +kernel)) ggX11_cheapest_X11_levels
set_option maxRecDepth 20000 in
theorem ggX11_cheapest_X11_signs : GoodIn wsX11_cheapest wsX11_signs := goodIn_r _ [66, 4, 50, 67, 68, 69, 70, 71, 72, 73, 74, 75, 76, 77, 78, 79, 80, 81, 82, 83, 84, 85, 86, 87, 88, 89, 90, 91, 92, 93, 94, 95] (by decide +kernel) (by decide +kernel)
set_option maxRecDepth 20000 in
theorem gX11_cheapest_X11_signs : GoodIn wsX11_cheapest (wsV RX11 139 RX11 yX11_signs wsX11_signs) := goodIn_app (goodIn_of _ (by decide +kernel)) ggX11_cheapest_X11_signs
theorem dX11_cheapest_0 : decode cX11_cheapest 0 = .ok (.aload_n 0, 1) := by decide +kernel
theorem dX11_cheapest_1 : decode cX11_cheapest 1 = .ok (.iload_n 1, 1) := by decide +kernel
theorem dX11_cheapest_2 : decode cX11_cheapest 2 = .ok (.iload_n 2, 1) := by decide +kernel
theorem dX11_cheapest_3 : decode cX11_cheapest 3 = .ok (.invokevirtual 80, 3) := by decide +kernel
theorem dX11_cheapest_6 : decode cX11_cheapest 6 = .ok (.ifCond .eq 13, 3) := by decide +kernel
theorem dX11_cheapest_9 : decode cX11_cheapest 9 = .ok (.iload_n 3, 1) := by decide +kernel
theorem dX11_cheapest_10 : decode cX11_cheapest 10 = .ok (.iconst 0, 1) := by decide +kernel
theorem dX11_cheapest_11 : decode cX11_cheapest 11 = .ok (.bipush 7, 2) := by decide +kernel
theorem dX11_cheapest_13 : decode cX11_cheapest 13 = .ok (.invokestatic 62, 3) := by decide +kernel
theorem dX11_cheapest_16 : decode cX11_cheapest 16 = .ok (.ifCond .ne 6, 3) := by decide +kernel
theorem dX11_cheapest_19 : decode cX11_cheapest 19 = .ok (.ldc 57, 2) := by decide +kernel
theorem dX11_cheapest_21 : decode cX11_cheapest 21 = .ok (.ireturn, 1) := by decide +kernel
theorem dX11_cheapest_22 : decode cX11_cheapest 22 = .ok (.aload_n 0, 1) := by decide +kernel
theorem dX11_cheapest_23 : decode cX11_cheapest 23 = .ok (.invokevirtual 128, 3) := by decide +kernel
theorem dX11_cheapest_26 : decode cX11_cheapest 26 = .ok (.aload_n 0, 1) := by decide +kernel
theorem dX11_cheapest_27 : decode cX11_cheapest 27 = .ok (.iload_n 1, 1) := by decide +kernel
theorem dX11_cheapest_28 : decode cX11_cheapest 28 = .ok (.iload_n 2, 1) := by decide +kernel
theorem dX11_cheapest_29 : decode cX11_cheapest 29 = .ok (.invokevirtual 131, 3) := by decide +kernel
theorem dX11_cheapest_32 : decode cX11_cheapest 32 = .ok (.aload_n 0, 1) := by decide +kernel
theorem dX11_cheapest_33 : decode cX11_cheapest 33 = .ok (.getfield 7, 3) := by decide +kernel
theorem dX11_cheapest_36 : decode cX11_cheapest 36 = .ok (.iconst 5, 1) := by decide +kernel
theorem dX11_cheapest_37 : decode cX11_cheapest 37 = .ok (.iaload, 1) := by decide +kernel
theorem dX11_cheapest_38 : decode cX11_cheapest 38 = .ok (.iload_n 1, 1) := by decide +kernel
theorem dX11_cheapest_39 : decode cX11_cheapest 39 = .ok (.iload_n 2, 1) := by decide +kernel
theorem dX11_cheapest_40 : decode cX11_cheapest 40 = .ok (.invokestatic 95, 3) := by decide +kernel
theorem dX11_cheapest_43 : decode cX11_cheapest 43 = .ok (.istore 4, 2) := by decide +kernel
theorem dX11_cheapest_45 : decode cX11_cheapest 45 = .ok (.iload_n 3, 1) := by decide +kernel
theorem dX11_cheapest_46 : decode cX11_cheapest 46 = .ok (.tableswitch 89 0 6 #[42, 50, 56, 62, 69, 76, 81], 42) := by decide +kernel
theorem dX11_cheapest_88 : decode cX11_cheapest 88 = .ok (.aload_n 0, 1) := by decide +kernel
theorem dX11_cheapest_89 : decode cX11_cheapest 89 = .ok (.getfield 26, 3) := by decide +kernel
theorem dX11_cheapest_92 : decode cX11_cheapest 92 = .ok (.iload 4, 2) := by decide +kernel
theorem dX11_cheapest_94 : decode cX11_cheapest 94 = .ok (.iaload, 1) := by decide +kernel
theorem dX11_cheapest_95 : decode cX11_cheapest 95 = .ok (.ireturn, 1) := by decide +kernel
theorem dX11_cheapest_96 : decode cX11_cheapest 96 = .ok (.aload_n 0, 1) := by decide +kernel
theorem dX11_cheapest_97 : decode cX11_cheapest 97 = .ok (.iconst 0, 1) := by decide +kernel
theorem dX11_cheapest_98 : decode cX11_cheapest 98 = .ok (.invokevirtual 135, 3) := by decide +kernel
theorem dX11_cheapest_101 : decode cX11_cheapest 101 = .ok (.ireturn, 1) := by decide +kernel
theorem dX11_cheapest_102 : decode cX11_cheapest 102 = .ok (.aload_n 0, 1) := by decide +kernel
theorem dX11_cheapest_103 : decode cX11_cheapest 103 = .ok (.iconst 1, 1) := by decide +kernel
theorem dX11_cheapest_104 : decode cX11_cheapest 104 = .ok (.invokevirtual 135, 3) := by decide +kernel
theorem dX11_cheapest_107 : decode cX11_cheapest 107 = .ok (.ireturn, 1) := by decide +kernel
theorem dX11_cheapest_108 : decode cX11_cheapest 108 = .ok (.aload_n 0, 1) := by decide +kernel
theorem dX11_cheapest_109 : decode cX11_cheapest 109 = .ok (.bipush 40, 2) := by decide +kernel
theorem dX11_cheapest_111 : decode cX11_cheapest 111 = .ok (.invokevirtual 139, 3) := by decide +kernel
theorem dX11_cheapest_114 : decode cX11_cheapest 114 = .ok (.ireturn, 1) := by decide +kernel
theorem dX11_cheapest_115 : decode cX11_cheapest 115 = .ok (.aload_n 0, 1) := by decide +kernel
theorem dX11_cheapest_116 : decode cX11_cheapest 116 = .ok (.bipush 91, 2) := by decide +kernel
theorem dX11_cheapest_118 : decode cX11_cheapest 118 = .ok (.invokevirtual 139, 3) := by decide +kernel
theorem dX11_cheapest_121 : decode cX11_cheapest 121 = .ok (.ireturn, 1) := by decide +kernel
theorem dX11_cheapest_122 : decode cX11_cheapest 122 = .ok (.aload_n 0, 1) := by decide +kernel
theorem dX11_cheapest_123 : decode cX11_cheapest 123 = .ok (.getfield 105, 3) := by decide +kernel
theorem dX11_cheapest_126 : decode cX11_cheapest 126 = .ok (.ireturn, 1) := by decide +kernel
theorem dX11_cheapest_127 : decode cX11_cheapest 127 = .ok (.aload_n 0, 1) := by decide +kernel
theorem dX11_cheapest_128 : decode cX11_cheapest 128 = .ok (.getfield 29, 3) := by decide +kernel
theorem dX11_cheapest_131 : decode cX11_cheapest 131 = .ok (.iload 4, 2) := by decide +kernel
theorem dX11_cheapest_133 : decode cX11_cheapest 133 = .ok (.iaload, 1) := by decide +kernel
theorem dX11_cheapest_134 : decode cX11_cheapest 134 = .ok (.ireturn, 1) := by decide +kernel
theorem dX11_cheapest_135 : decode cX11_cheapest 135 = .ok (.aload_n 0, 1) := by decide +kernel
theorem dX11_cheapest_136 : decode cX11_cheapest 136 = .ok (.getfield 29, 3) := by decide +kernel
theorem dX11_cheapest_139 : decode cX11_cheapest 139 = .ok (.iload 4, 2) := by decide +kernel
theorem dX11_cheapest_141 : decode cX11_cheapest 141 = .ok (.iaload, 1) := by decide +kernel
theorem dX11_cheapest_142 : decode cX11_cheapest 142 = .ok (.iconst 1, 1) := by decide +kernel
theorem dX11_cheapest_143 : decode cX11_cheapest 143 = .ok (.if_icmp .ne 7, 3) := by decide +kernel
theorem dX11_cheapest_146 : decode cX11_cheapest 146 = .ok (.iconst 1, 1) := by decide +kernel
theorem dX11_cheapest_147 : decode cX11_cheapest 147 = .ok (.goto 18, 3) := by decide +kernel
theorem dX11_cheapest_150 : decode cX11_cheapest 150 = .ok (.aload_n 0, 1) := by decide +kernel
theorem dX11_cheapest_151 : decode cX11_cheapest 151 = .ok (.getfield 29, 3) := by decide +kernel
theorem dX11_cheapest_154 : decode cX11_cheapest 154 = .ok (.iload 4, 2) := by decide +kernel
theorem dX11_cheapest_156 : decode cX11_cheapest 156 = .ok (.iaload, 1) := by decide +kernel
theorem dX11_cheapest_157 : decode cX11_cheapest 157 = .ok (.aload_n 0, 1) := by decide +kernel
theorem dX11_cheapest_158 : decode cX11_cheapest 158 = .ok (.getfield 32, 3) := by decide +kernel
theorem dX11_cheapest_161 : decode cX11_cheapest 161 = .ok (.iload 4, 2) := by decide +kernel
theorem dX11_cheapest_163 : decode cX11_cheapest 163 = .ok (.iaload, 1) := by decide +kernel
theorem dX11_cheapest_164 : decode cX11_cheapest 164 = .ok (.idiv, 1) := by decide +kernel
theorem dX11_cheapest_165 : decode cX11_cheapest 165 = .ok (.ireturn, 1) := by decide +kernel
set_option maxRecDepth 20000 in
theorem ggX11_textAt_X11_lays : GoodIn wsX11_textAt wsX11_lays := goodIn_r _ [10, 2, 11, 12, 13, 14, 9, 15, 16, 17, 18, 19, 20, 21, 22, 23, 24, 25, 26, 53, 54, 55, 56, 57, 58, 59, 60, 61, 62, 63, 64, 65, 66, 67, 68, 69, 70, 71, 72, 73, 74, 75, 76, 77, 78, 79, 80, 81] (by decide +kernel) (by decide +kernel)
set_option maxRecDepth 20000 in
theorem gX11_textAt_X11_lays : GoodIn wsX11_textAt (wsV RX11 128 RX11 yX11_lays wsX11_lays) := goodIn_app (goodIn_of _ (by decide +kernel)) ggX11_textAt_X11_lays
set_option maxRecDepth 20000 in
theorem ggX11_textAt_X11_describes : GoodIn wsX11_textAt wsX11_describes := goodIn_r _ [30, 3, 31, 2, 32, 33, 34, 35, 9, 36, 37, 38, 39, 40, 41, 42, 43, 44, 4, 45, 46, 47, 48, 49, 50, 51, 52, 25, 26, 17, 18, 19, 53, 54, 55, 56, 57, 58, 59, 60, 61, 62, 63, 64, 65, 66, 67, 68, 69, 70, 71, 72, 73, 74, 75, 76, 77, 78, 79, 80, 81] (by decide +kernel) (by decide +kernel)
set_option maxRecDepth 20000 in
theorem gX11_textAt_X11_describes : GoodIn wsX11_textAt (wsV RX11 131 RX11 yX11_describes wsX11_describes) := goodIn_app (goodIn_of _ (by decide +kernel)) ggX11_textAt_X11_describes
theorem dX11_textAt_0 : decode cX11_textAt 0 = .ok (.iload_n 1, 1) := by decide +kernel
theorem dX11_textAt_1 : decode cX11_textAt 1 = .ok (.ifCond .ge 6, 3) := by decide +kernel
theorem dX11_textAt_4 : decode cX11_textAt 4 = .ok (.ldc 57, 2) := by decide +kernel
theorem dX11_textAt_6 : decode cX11_textAt 6 = .ok (.ireturn, 1) := by decide +kernel
theorem dX11_textAt_7 : decode cX11_textAt 7 = .ok (.aload_n 0, 1) := by decide +kernel
theorem dX11_textAt_8 : decode cX11_textAt 8 = .ok (.invokevirtual 128, 3) := by decide +kernel
theorem dX11_textAt_11 : decode cX11_textAt 11 = .ok (.aload_n 0, 1) := by decide +kernel
theorem dX11_textAt_12 : decode cX11_textAt 12 = .ok (.iconst 0, 1) := by decide +kernel
theorem dX11_textAt_13 : decode cX11_textAt 13 = .ok (.aload_n 0, 1) := by decide +kernel
theorem dX11_textAt_14 : decode cX11_textAt 14 = .ok (.getfield 7, 3) := by decide +kernel
theorem dX11_textAt_17 : decode cX11_textAt 17 = .ok (.iconst 0, 1) := by decide +kernel
theorem dX11_textAt_18 : decode cX11_textAt 18 = .ok (.iaload, 1) := by decide +kernel
theorem dX11_textAt_19 : decode cX11_textAt 19 = .ok (.invokevirtual 131, 3) := by decide +kernel
theorem dX11_textAt_22 : decode cX11_textAt 22 = .ok (.iload_n 1, 1) := by decide +kernel
theorem dX11_textAt_23 : decode cX11_textAt 23 = .ok (.aload_n 0, 1) := by decide +kernel
theorem dX11_textAt_24 : decode cX11_textAt 24 = .ok (.getfield 105, 3) := by decide +kernel
theorem dX11_textAt_27 : decode cX11_textAt 27 = .ok (.if_icmp .ge 12, 3) := by decide +kernel
theorem dX11_textAt_30 : decode cX11_textAt 30 = .ok (.aload_n 0, 1) := by decide +kernel
theorem dX11_textAt_31 : decode cX11_textAt 31 = .ok (.getfield 42, 3) := by decide +kernel
theorem dX11_textAt_34 : decode cX11_textAt 34 = .ok (.iload_n 1, 1) := by decide +kernel
theorem dX11_textAt_35 : decode cX11_textAt 35 = .ok (.caload, 1) := by decide +kernel
theorem dX11_textAt_36 : decode cX11_textAt 36 = .ok (.goto 5, 3) := by decide +kernel
theorem dX11_textAt_39 : decode cX11_textAt 39 = .ok (.ldc 79, 2) := by decide +kernel
theorem dX11_textAt_41 : decode cX11_textAt 41 = .ok (.ireturn, 1) := by decide +kernel
set_option maxRecDepth 20000 in
theorem ggX11_counts_X11_part : GoodIn wsX11_counts wsX11_part := goodIn_r _ [7] (by decide +kernel) (by decide +kernel)
set_option maxRecDepth 20000 in
theorem gX11_counts_X11_part : GoodIn wsX11_counts (va_wsS RX11 95 yX11_part wsX11_part) := goodIn_app (goodIn_of _ (by decide +kernel)) ggX11_counts_X11_part
theorem dX11_counts_0 : decode cX11_counts 0 = .ok (.aload_n 0, 1) := by decide +kernel
theorem dX11_counts_1 : decode cX11_counts 1 = .ok (.getfield 35, 3) := by decide +kernel
theorem dX11_counts_4 : decode cX11_counts 4 = .ok (.iload_n 1, 1) := by decide +kernel
theorem dX11_counts_5 : decode cX11_counts 5 = .ok (.iload_n 2, 1) := by decide +kernel
theorem dX11_counts_6 : decode cX11_counts 6 = .ok (.iconst 1, 1) := by decide +kernel
theorem dX11_counts_7 : decode cX11_counts 7 = .ok (.iadd, 1) := by decide +kernel
theorem dX11_counts_8 : decode cX11_counts 8 = .ok (.iload_n 3, 1) := by decide +kernel
theorem dX11_counts_9 : decode cX11_counts 9 = .ok (.invokestatic 95, 3) := by decide +kernel
theorem dX11_counts_12 : decode cX11_counts 12 = .ok (.laload, 1) := by decide +kernel
theorem dX11_counts_13 : decode cX11_counts 13 = .ok (.lstore 4, 2) := by decide +kernel
theorem dX11_counts_15 : decode cX11_counts 15 = .ok (.iconst 1, 1) := by decide +kernel
theorem dX11_counts_16 : decode cX11_counts 16 = .ok (.istore 6, 2) := by decide +kernel
theorem dX11_counts_18 : decode cX11_counts 18 = .ok (.iload_n 2, 1) := by decide +kernel
theorem dX11_counts_19 : decode cX11_counts 19 = .ok (.iconst 2, 1) := by decide +kernel
theorem dX11_counts_20 : decode cX11_counts 20 = .ok (.iload 6, 2) := by decide +kernel
theorem dX11_counts_22 : decode cX11_counts 22 = .ok (.imul, 1) := by decide +kernel
theorem dX11_counts_23 : decode cX11_counts 23 = .ok (.iadd, 1) := by decide +kernel
theorem dX11_counts_24 : decode cX11_counts 24 = .ok (.iload_n 3, 1) := by decide +kernel
theorem dX11_counts_25 : decode cX11_counts 25 = .ok (.if_icmp .gt 116, 3) := by decide +kernel
theorem dX11_counts_28 : decode cX11_counts 28 = .ok (.iload_n 1, 1) := by decide +kernel
theorem dX11_counts_29 : decode cX11_counts 29 = .ok (.ifCond .le 112, 3) := by decide +kernel
theorem dX11_counts_32 : decode cX11_counts 32 = .ok (.iconst 2, 1) := by decide +kernel
theorem dX11_counts_33 : decode cX11_counts 33 = .ok (.istore 7, 2) := by decide +kernel
theorem dX11_counts_35 : decode cX11_counts 35 = .ok (.iload_n 2, 1) := by decide +kernel
theorem dX11_counts_36 : decode cX11_counts 36 = .ok (.iload 7, 2) := by decide +kernel
theorem dX11_counts_38 : decode cX11_counts 38 = .ok (.iload 6, 2) := by decide +kernel
theorem dX11_counts_40 : decode cX11_counts 40 = .ok (.imul, 1) := by decide +kernel
theorem dX11_counts_41 : decode cX11_counts 41 = .ok (.iadd, 1) := by decide +kernel
theorem dX11_counts_42 : decode cX11_counts 42 = .ok (.iload_n 3, 1) := by decide +kernel
theorem dX11_counts_43 : decode cX11_counts 43 = .ok (.if_icmp .gt 92, 3) := by decide +kernel
theorem dX11_counts_46 : decode cX11_counts 46 = .ok (.aload_n 0, 1) := by decide +kernel
theorem dX11_counts_47 : decode cX11_counts 47 = .ok (.getfield 23, 3) := by decide +kernel
theorem dX11_counts_50 : decode cX11_counts 50 = .ok (.sipush 625, 3) := by decide +kernel
theorem dX11_counts_53 : decode cX11_counts 53 = .ok (.iload_n 2, 1) := by decide +kernel
theorem dX11_counts_54 : decode cX11_counts 54 = .ok (.imul, 1) := by decide +kernel
theorem dX11_counts_55 : decode cX11_counts 55 = .ok (.bipush 25, 2) := by decide +kernel
theorem dX11_counts_57 : decode cX11_counts 57 = .ok (.iload 6, 2) := by decide +kernel
theorem dX11_counts_59 : decode cX11_counts 59 = .ok (.imul, 1) := by decide +kernel
theorem dX11_counts_60 : decode cX11_counts 60 = .ok (.iadd, 1) := by decide +kernel
theorem dX11_counts_61 : decode cX11_counts 61 = .ok (.iload 7, 2) := by decide +kernel
theorem dX11_counts_63 : decode cX11_counts 63 = .ok (.iadd, 1) := by decide +kernel
theorem dX11_counts_64 : decode cX11_counts 64 = .ok (.iaload, 1) := by decide +kernel
theorem dX11_counts_65 : decode cX11_counts 65 = .ok (.aload_n 0, 1) := by decide +kernel
theorem dX11_counts_66 : decode cX11_counts 66 = .ok (.getfield 7, 3) := by decide +kernel
theorem dX11_counts_69 : decode cX11_counts 69 = .ok (.iconst 4, 1) := by decide +kernel
theorem dX11_counts_70 : decode cX11_counts 70 = .ok (.iaload, 1) := by decide +kernel
theorem dX11_counts_71 : decode cX11_counts 71 = .ok (.if_icmp .gt 7, 3) := by decide +kernel
theorem dX11_counts_74 : decode cX11_counts 74 = .ok (.iconst 1, 1) := by decide +kernel
theorem dX11_counts_75 : decode cX11_counts 75 = .ok (.goto 4, 3) := by decide +kernel
theorem dX11_counts_78 : decode cX11_counts 78 = .ok (.iconst 0, 1) := by decide +kernel
theorem dX11_counts_79 : decode cX11_counts 79 = .ok (.istore 8, 2) := by decide +kernel
theorem dX11_counts_81 : decode cX11_counts 81 = .ok (.lload 4, 2) := by decide +kernel
theorem dX11_counts_83 : decode cX11_counts 83 = .ok (.iload 8, 2) := by decide +kernel
theorem dX11_counts_85 : decode cX11_counts 85 = .ok (.ifCond .eq 40, 3) := by decide +kernel
theorem dX11_counts_88 : decode cX11_counts 88 = .ok (.aload_n 0, 1) := by decide +kernel
theorem dX11_counts_89 : decode cX11_counts 89 = .ok (.getfield 35, 3) := by decide +kernel
theorem dX11_counts_92 : decode cX11_counts 92 = .ok (.iload_n 1, 1) := by decide +kernel
theorem dX11_counts_93 : decode cX11_counts 93 = .ok (.iconst 1, 1) := by decide +kernel
theorem dX11_counts_94 : decode cX11_counts 94 = .ok (.isub, 1) := by decide +kernel
theorem dX11_counts_95 : decode cX11_counts 95 = .ok (.iload_n 2, 1) := by decide +kernel
theorem dX11_counts_96 : decode cX11_counts 96 = .ok (.iload_n 2, 1) := by decide +kernel
theorem dX11_counts_97 : decode cX11_counts 97 = .ok (.iload 6, 2) := by decide +kernel
theorem dX11_counts_99 : decode cX11_counts 99 = .ok (.iadd, 1) := by decide +kernel
theorem dX11_counts_100 : decode cX11_counts 100 = .ok (.invokestatic 95, 3) := by decide +kernel
theorem dX11_counts_103 : decode cX11_counts 103 = .ok (.laload, 1) := by decide +kernel
theorem dX11_counts_104 : decode cX11_counts 104 = .ok (.aload_n 0, 1) := by decide +kernel
theorem dX11_counts_105 : decode cX11_counts 105 = .ok (.getfield 35, 3) := by decide +kernel
theorem dX11_counts_108 : decode cX11_counts 108 = .ok (.iload_n 1, 1) := by decide +kernel
theorem dX11_counts_109 : decode cX11_counts 109 = .ok (.iload_n 2, 1) := by decide +kernel
theorem dX11_counts_110 : decode cX11_counts 110 = .ok (.iload 7, 2) := by decide +kernel
theorem dX11_counts_112 : decode cX11_counts 112 = .ok (.iload 6, 2) := by decide +kernel
theorem dX11_counts_114 : decode cX11_counts 114 = .ok (.imul, 1) := by decide +kernel
theorem dX11_counts_115 : decode cX11_counts 115 = .ok (.iadd, 1) := by decide +kernel
theorem dX11_counts_116 : decode cX11_counts 116 = .ok (.iload_n 3, 1) := by decide +kernel
theorem dX11_counts_117 : decode cX11_counts 117 = .ok (.invokestatic 95, 3) := by decide +kernel
theorem dX11_counts_120 : decode cX11_counts 120 = .ok (.laload, 1) := by decide +kernel
theorem dX11_counts_121 : decode cX11_counts 121 = .ok (.lmul, 1) := by decide +kernel
theorem dX11_counts_122 : decode cX11_counts 122 = .ok (.goto 4, 3) := by decide +kernel
theorem dX11_counts_125 : decode cX11_counts 125 = .ok (.lconst 0, 1) := by decide +kernel
theorem dX11_counts_126 : decode cX11_counts 126 = .ok (.ladd, 1) := by decide +kernel
theorem dX11_counts_127 : decode cX11_counts 127 = .ok (.lstore 4, 2) := by decide +kernel
theorem dX11_counts_129 : decode cX11_counts 129 = .ok (.iinc 7 1, 3) := by decide +kernel
theorem dX11_counts_132 : decode cX11_counts 132 = .ok (.goto (-97), 3) := by decide +kernel
theorem dX11_counts_135 : decode cX11_counts 135 = .ok (.iinc 6 1, 3) := by decide +kernel
theorem dX11_counts_138 : decode cX11_counts 138 = .ok (.goto (-120), 3) := by decide +kernel
theorem dX11_counts_141 : decode cX11_counts 141 = .ok (.aload_n 0, 1) := by decide +kernel
theorem dX11_counts_142 : decode cX11_counts 142 = .ok (.getfield 35, 3) := by decide +kernel
theorem dX11_counts_145 : decode cX11_counts 145 = .ok (.iload_n 1, 1) := by decide +kernel
theorem dX11_counts_146 : decode cX11_counts 146 = .ok (.iload_n 2, 1) := by decide +kernel
theorem dX11_counts_147 : decode cX11_counts 147 = .ok (.iload_n 3, 1) := by decide +kernel
theorem dX11_counts_148 : decode cX11_counts 148 = .ok (.invokestatic 95, 3) := by decide +kernel
theorem dX11_counts_151 : decode cX11_counts 151 = .ok (.lload 4, 2) := by decide +kernel
theorem dX11_counts_153 : decode cX11_counts 153 = .ok (.lastore, 1) := by decide +kernel
theorem dX11_counts_154 : decode cX11_counts 154 = .ok (.return_, 1) := by decide +kernel
set_option maxRecDepth 20000 in
theorem ggX11_descriptions_X11_isPart : GoodIn wsX11_descriptions wsX11_isPart := goodIn_r _ [8, 2, 21, 22, 23, 24, 25, 26, 27, 28, 29, 30, 31, 32, 33, 34, 35, 36, 37, 38, 39, 40, 41, 42, 43, 44, 45, 46, 47, 48, 49] (by decide +kernel) (by decide +kernel)
set_option maxRecDepth 20000 in
theorem gX11_descriptions_X11_isPart : GoodIn wsX11_descriptions (wsV RX11 80 RX11 yX11_isPart wsX11_isPart) := goodIn_app (goodIn_of _ (by decide +kernel)) ggX11_descriptions_X11_isPart
set_option maxRecDepth 20000 in
theorem ggX11_descriptions_X11_corrects : GoodIn wsX11_descriptions wsX11_corrects := goodIn_r _ [12, 2, 13, 21, 22, 23, 24, 25, 26, 27, 28, 29, 30, 31, 32, 33, 34, 35, 36, 37, 38, 39, 40, 41, 42, 43, 44, 45, 46, 47, 48, 49] (by decide +kernel) (by decide +kernel)
set_option maxRecDepth 20000 in
theorem gX11_descriptions_X11_corrects : GoodIn wsX11_descriptions (wsV RX11 98 RX11 yX11_corrects wsX11_corrects) := goodIn_app (goodIn_of _ (by decide +kernel)) ggX11_descriptions_X11_corrects
set_option maxRecDepth 20000 in
theorem ggX11_descriptions_X11_part : GoodIn wsX11_descriptions wsX11_part := goodIn_r _ [16] (by decide +kernel) (by decide +kernel)
set_option maxRecDepth 20000 in
theorem gX11_descriptions_X11_part : GoodIn wsX11_descriptions (va_wsS RX11 95 yX11_part wsX11_part) := goodIn_app (goodIn_of _ (by decide +kernel)) ggX11_descriptions_X11_part
set_option maxRecDepth 20000 in
theorem ggX11_descriptions_X11_counts : GoodIn wsX11_descriptions wsX11_counts := goodIn_r _ [20, 3, 13, 2, 14, 15, 7, 16, 21, 22, 23, 24, 25, 26, 27, 28, 29, 30, 31, 32, 33, 34, 35, 36, 37, 38, 39, 40, 41, 42, 43, 44, 45, 46, 47, 48, 49] (by decide +kernel) (by decide +kernel)
set_option maxRecDepth 20000 in
theorem gX11_descriptions_X11_counts : GoodIn wsX11_descriptions (wsV RX11 145 RX11 yX11_counts wsX11_counts) := goodIn_app (goodIn_of _ (by decide +kernel)) ggX11_descriptions_X11_counts
theorem dX11_descriptions_0 : decode cX11_descriptions 0 = .ok (.aload_n 0, 1) := by decide +kernel
theorem dX11_descriptions_1 : decode cX11_descriptions 1 = .ok (.iload_n 1, 1) := by decide +kernel
theorem dX11_descriptions_2 : decode cX11_descriptions 2 = .ok (.iload_n 2, 1) := by decide +kernel
theorem dX11_descriptions_3 : decode cX11_descriptions 3 = .ok (.invokevirtual 80, 3) := by decide +kernel
theorem dX11_descriptions_6 : decode cX11_descriptions 6 = .ok (.ifCond .ne 7, 3) := by decide +kernel
theorem dX11_descriptions_9 : decode cX11_descriptions 9 = .ok (.ldc2_w 143, 3) := by decide +kernel
theorem dX11_descriptions_12 : decode cX11_descriptions 12 = .ok (.lreturn, 1) := by decide +kernel
theorem dX11_descriptions_13 : decode cX11_descriptions 13 = .ok (.aload_n 0, 1) := by decide +kernel
theorem dX11_descriptions_14 : decode cX11_descriptions 14 = .ok (.invokevirtual 98, 3) := by decide +kernel
theorem dX11_descriptions_17 : decode cX11_descriptions 17 = .ok (.iconst 0, 1) := by decide +kernel
theorem dX11_descriptions_18 : decode cX11_descriptions 18 = .ok (.istore_n 3, 1) := by decide +kernel
theorem dX11_descriptions_19 : decode cX11_descriptions 19 = .ok (.iload_n 3, 1) := by decide +kernel
theorem dX11_descriptions_20 : decode cX11_descriptions 20 = .ok (.aload_n 0, 1) := by decide +kernel
theorem dX11_descriptions_21 : decode cX11_descriptions 21 = .ok (.getfield 7, 3) := by decide +kernel
theorem dX11_descriptions_24 : decode cX11_descriptions 24 = .ok (.iconst 5, 1) := by decide +kernel
theorem dX11_descriptions_25 : decode cX11_descriptions 25 = .ok (.iaload, 1) := by decide +kernel
theorem dX11_descriptions_26 : decode cX11_descriptions 26 = .ok (.if_icmp .gt 74, 3) := by decide +kernel
theorem dX11_descriptions_29 : decode cX11_descriptions 29 = .ok (.aload_n 0, 1) := by decide +kernel
theorem dX11_descriptions_30 : decode cX11_descriptions 30 = .ok (.getfield 7, 3) := by decide +kernel
theorem dX11_descriptions_33 : decode cX11_descriptions 33 = .ok (.iconst 0, 1) := by decide +kernel
theorem dX11_descriptions_34 : decode cX11_descriptions 34 = .ok (.iaload, 1) := by decide +kernel
theorem dX11_descriptions_35 : decode cX11_descriptions 35 = .ok (.istore 4, 2) := by decide +kernel
theorem dX11_descriptions_37 : decode cX11_descriptions 37 = .ok (.iload 4, 2) := by decide +kernel
theorem dX11_descriptions_39 : decode cX11_descriptions 39 = .ok (.ifCond .lt 55, 3) := by decide +kernel
theorem dX11_descriptions_42 : decode cX11_descriptions 42 = .ok (.aload_n 0, 1) := by decide +kernel
theorem dX11_descriptions_43 : decode cX11_descriptions 43 = .ok (.getfield 35, 3) := by decide +kernel
theorem dX11_descriptions_46 : decode cX11_descriptions 46 = .ok (.iload_n 3, 1) := by decide +kernel
theorem dX11_descriptions_47 : decode cX11_descriptions 47 = .ok (.iload 4, 2) := by decide +kernel
theorem dX11_descriptions_49 : decode cX11_descriptions 49 = .ok (.iload 4, 2) := by decide +kernel
theorem dX11_descriptions_51 : decode cX11_descriptions 51 = .ok (.invokestatic 95, 3) := by decide +kernel
theorem dX11_descriptions_54 : decode cX11_descriptions 54 = .ok (.lconst 1, 1) := by decide +kernel
theorem dX11_descriptions_55 : decode cX11_descriptions 55 = .ok (.lastore, 1) := by decide +kernel
theorem dX11_descriptions_56 : decode cX11_descriptions 56 = .ok (.iload 4, 2) := by decide +kernel
theorem dX11_descriptions_58 : decode cX11_descriptions 58 = .ok (.iconst 1, 1) := by decide +kernel
theorem dX11_descriptions_59 : decode cX11_descriptions 59 = .ok (.iadd, 1) := by decide +kernel
theorem dX11_descriptions_60 : decode cX11_descriptions 60 = .ok (.istore 5, 2) := by decide +kernel
theorem dX11_descriptions_62 : decode cX11_descriptions 62 = .ok (.iload 5, 2) := by decide +kernel
theorem dX11_descriptions_64 : decode cX11_descriptions 64 = .ok (.aload_n 0, 1) := by decide +kernel
theorem dX11_descriptions_65 : decode cX11_descriptions 65 = .ok (.getfield 7, 3) := by decide +kernel
theorem dX11_descriptions_68 : decode cX11_descriptions 68 = .ok (.iconst 0, 1) := by decide +kernel
theorem dX11_descriptions_69 : decode cX11_descriptions 69 = .ok (.iaload, 1) := by decide +kernel
theorem dX11_descriptions_70 : decode cX11_descriptions 70 = .ok (.if_icmp .gt 18, 3) := by decide +kernel
theorem dX11_descriptions_73 : decode cX11_descriptions 73 = .ok (.aload_n 0, 1) := by decide +kernel
theorem dX11_descriptions_74 : decode cX11_descriptions 74 = .ok (.iload_n 3, 1) := by decide +kernel
theorem dX11_descriptions_75 : decode cX11_descriptions 75 = .ok (.iload 4, 2) := by decide +kernel
theorem dX11_descriptions_77 : decode cX11_descriptions 77 = .ok (.iload 5, 2) := by decide +kernel
theorem dX11_descriptions_79 : decode cX11_descriptions 79 = .ok (.invokevirtual 145, 3) := by decide +kernel
theorem dX11_descriptions_82 : decode cX11_descriptions 82 = .ok (.iinc 5 1, 3) := by decide +kernel
theorem dX11_descriptions_85 : decode cX11_descriptions 85 = .ok (.goto (-23), 3) := by decide +kernel
theorem dX11_descriptions_88 : decode cX11_descriptions 88 = .ok (.iinc 4 (-1), 3) := by decide +kernel
theorem dX11_descriptions_91 : decode cX11_descriptions 91 = .ok (.goto (-54), 3) := by decide +kernel
theorem dX11_descriptions_94 : decode cX11_descriptions 94 = .ok (.iinc 3 1, 3) := by decide +kernel
theorem dX11_descriptions_97 : decode cX11_descriptions 97 = .ok (.goto (-78), 3) := by decide +kernel
theorem dX11_descriptions_100 : decode cX11_descriptions 100 = .ok (.aload_n 0, 1) := by decide +kernel
theorem dX11_descriptions_101 : decode cX11_descriptions 101 = .ok (.getfield 35, 3) := by decide +kernel
theorem dX11_descriptions_104 : decode cX11_descriptions 104 = .ok (.aload_n 0, 1) := by decide +kernel
theorem dX11_descriptions_105 : decode cX11_descriptions 105 = .ok (.getfield 7, 3) := by decide +kernel
theorem dX11_descriptions_108 : decode cX11_descriptions 108 = .ok (.iconst 5, 1) := by decide +kernel
theorem dX11_descriptions_109 : decode cX11_descriptions 109 = .ok (.iaload, 1) := by decide +kernel
theorem dX11_descriptions_110 : decode cX11_descriptions 110 = .ok (.iload_n 1, 1) := by decide +kernel
theorem dX11_descriptions_111 : decode cX11_descriptions 111 = .ok (.iload_n 2, 1) := by decide +kernel
theorem dX11_descriptions_112 : decode cX11_descriptions 112 = .ok (.invokestatic 95, 3) := by decide +kernel
theorem dX11_descriptions_115 : decode cX11_descriptions 115 = .ok (.laload, 1) := by decide +kernel
theorem dX11_descriptions_116 : decode cX11_descriptions 116 = .ok (.lreturn, 1) := by decide +kernel
set_option maxRecDepth 20000 in
theorem ggX11_costs_X11_lays : GoodIn wsX11_costs wsX11_lays := goodIn_r _ [7, 2, 1, 8, 9, 10, 6, 11, 12, 13, 14, 15, 16, 17, 18, 19, 20, 21, 22, 23, 24, 25, 26, 27, 28, 29, 30, 31, 32, 33, 34, 35, 36, 37, 38, 39, 40, 41, 42, 43, 44, 45, 46, 47, 48, 49, 50, 51] (by decide +kernel) (by decide +kernel)
set_option maxRecDepth 20000 in
theorem gX11_costs_X11_lays : GoodIn wsX11_costs (wsV RX11 128 RX11 yX11_lays wsX11_lays) := goodIn_app (goodIn_of _ (by decide +kernel)) ggX11_costs_X11_lays
set_option maxRecDepth 20000 in
theorem ggX11_costs_X11_part : GoodIn wsX11_costs wsX11_part := goodIn_r _ [15] (by decide +kernel) (by decide +kernel)
set_option maxRecDepth 20000 in
theorem gX11_costs_X11_part : GoodIn wsX11_costs (va_wsS RX11 95 yX11_part wsX11_part) := goodIn_app (goodIn_of _ (by decide +kernel)) ggX11_costs_X11_part
theorem dX11_costs_0 : decode cX11_costs 0 = .ok (.aload_n 0, 1) := by decide +kernel
theorem dX11_costs_1 : decode cX11_costs 1 = .ok (.invokevirtual 128, 3) := by decide +kernel
theorem dX11_costs_4 : decode cX11_costs 4 = .ok (.aload_n 0, 1) := by decide +kernel
theorem dX11_costs_5 : decode cX11_costs 5 = .ok (.getfield 26, 3) := by decide +kernel
theorem dX11_costs_8 : decode cX11_costs 8 = .ok (.aload_n 0, 1) := by decide +kernel
theorem dX11_costs_9 : decode cX11_costs 9 = .ok (.getfield 7, 3) := by decide +kernel
theorem dX11_costs_12 : decode cX11_costs 12 = .ok (.iconst 5, 1) := by decide +kernel
theorem dX11_costs_13 : decode cX11_costs 13 = .ok (.iaload, 1) := by decide +kernel
theorem dX11_costs_14 : decode cX11_costs 14 = .ok (.iconst 0, 1) := by decide +kernel
theorem dX11_costs_15 : decode cX11_costs 15 = .ok (.aload_n 0, 1) := by decide +kernel
theorem dX11_costs_16 : decode cX11_costs 16 = .ok (.getfield 7, 3) := by decide +kernel
theorem dX11_costs_19 : decode cX11_costs 19 = .ok (.iconst 0, 1) := by decide +kernel
theorem dX11_costs_20 : decode cX11_costs 20 = .ok (.iaload, 1) := by decide +kernel
theorem dX11_costs_21 : decode cX11_costs 21 = .ok (.invokestatic 95, 3) := by decide +kernel
theorem dX11_costs_24 : decode cX11_costs 24 = .ok (.iaload, 1) := by decide +kernel
theorem dX11_costs_25 : decode cX11_costs 25 = .ok (.ireturn, 1) := by decide +kernel
set_option maxRecDepth 20000 in
theorem ggX11_costsWith_X11_costs : GoodIn wsX11_costsWith wsX11_costs := goodIn_r _ [6, 7, 1, 8, 9, 10, 5, 11, 12, 13, 14, 15, 16, 17, 18, 19, 20, 21, 22, 23, 24, 25, 26, 27, 28, 29, 30, 31, 32, 33, 34, 35, 36, 37, 38, 39, 40, 41, 42, 43, 44, 45, 46, 47, 48, 49, 50, 51, 52, 53, 54, 55] (by decide +kernel) (by decide +kernel)
set_option maxRecDepth 20000 in
theorem gX11_costsWith_X11_costs : GoodIn wsX11_costsWith (wsV RX11 148 RX11 yX11_costs wsX11_costs) := goodIn_app (goodIn_of _ (by decide +kernel)) ggX11_costsWith_X11_costs
theorem dX11_costsWith_0 : decode cX11_costsWith 0 = .ok (.aload_n 0, 1) := by decide +kernel
theorem dX11_costsWith_1 : decode cX11_costsWith 1 = .ok (.getfield 7, 3) := by decide +kernel
theorem dX11_costsWith_4 : decode cX11_costsWith 4 = .ok (.bipush 6, 2) := by decide +kernel
theorem dX11_costsWith_6 : decode cX11_costsWith 6 = .ok (.iload_n 1, 1) := by decide +kernel
theorem dX11_costsWith_7 : decode cX11_costsWith 7 = .ok (.iadd, 1) := by decide +kernel
theorem dX11_costsWith_8 : decode cX11_costsWith 8 = .ok (.iaload, 1) := by decide +kernel
theorem dX11_costsWith_9 : decode cX11_costsWith 9 = .ok (.istore_n 3, 1) := by decide +kernel
theorem dX11_costsWith_10 : decode cX11_costsWith 10 = .ok (.aload_n 0, 1) := by decide +kernel
theorem dX11_costsWith_11 : decode cX11_costsWith 11 = .ok (.getfield 7, 3) := by decide +kernel
theorem dX11_costsWith_14 : decode cX11_costsWith 14 = .ok (.bipush 6, 2) := by decide +kernel
theorem dX11_costsWith_16 : decode cX11_costsWith 16 = .ok (.iload_n 1, 1) := by decide +kernel
theorem dX11_costsWith_17 : decode cX11_costsWith 17 = .ok (.iadd, 1) := by decide +kernel
theorem dX11_costsWith_18 : decode cX11_costsWith 18 = .ok (.iload_n 2, 1) := by decide +kernel
theorem dX11_costsWith_19 : decode cX11_costsWith 19 = .ok (.iastore, 1) := by decide +kernel
theorem dX11_costsWith_20 : decode cX11_costsWith 20 = .ok (.aload_n 0, 1) := by decide +kernel
theorem dX11_costsWith_21 : decode cX11_costsWith 21 = .ok (.invokevirtual 148, 3) := by decide +kernel
theorem dX11_costsWith_24 : decode cX11_costsWith 24 = .ok (.istore 4, 2) := by decide +kernel
theorem dX11_costsWith_26 : decode cX11_costsWith 26 = .ok (.aload_n 0, 1) := by decide +kernel
theorem dX11_costsWith_27 : decode cX11_costsWith 27 = .ok (.getfield 7, 3) := by decide +kernel
theorem dX11_costsWith_30 : decode cX11_costsWith 30 = .ok (.bipush 6, 2) := by decide +kernel
theorem dX11_costsWith_32 : decode cX11_costsWith 32 = .ok (.iload_n 1, 1) := by decide +kernel
theorem dX11_costsWith_33 : decode cX11_costsWith 33 = .ok (.iadd, 1) := by decide +kernel
theorem dX11_costsWith_34 : decode cX11_costsWith 34 = .ok (.iload_n 3, 1) := by decide +kernel
theorem dX11_costsWith_35 : decode cX11_costsWith 35 = .ok (.iastore, 1) := by decide +kernel
theorem dX11_costsWith_36 : decode cX11_costsWith 36 = .ok (.iload 4, 2) := by decide +kernel
theorem dX11_costsWith_38 : decode cX11_costsWith 38 = .ok (.ireturn, 1) := by decide +kernel
set_option maxRecDepth 20000 in
theorem ggX11_would_X11_in : GoodIn wsX11_would wsX11_in := goodIn_r _ [6] (by decide +kernel) (by decide +kernel)
set_option maxRecDepth 20000 in
theorem gX11_would_X11_in : GoodIn wsX11_would (va_wsS RX11 62 yX11_in wsX11_in) := goodIn_app (goodIn_of _ (by decide +kernel)) ggX11_would_X11_in
set_option maxRecDepth 20000 in
theorem ggX11_would_X11_costsWith : GoodIn wsX11_would wsX11_costsWith := goodIn_r _ [10, 1, 11, 12, 13, 5, 14, 15, 16, 17, 18, 19, 20, 21, 22, 23, 24, 25, 26, 27, 28, 29, 30, 31, 32, 33, 34, 35, 36, 37, 38, 39, 40, 41, 42, 43, 44, 45, 46, 47, 48, 49, 50, 51, 52, 53, 54, 55, 56, 57, 58, 59, 60, 61, 62, 63] (by decide +kernel) (by decide +kernel)
set_option maxRecDepth 20000 in
theorem gX11_would_X11_costsWith : GoodIn wsX11_would (wsV RX11 152 RX11 yX11_costsWith wsX11_costsWith) := goodIn_app (goodIn_of _ (by decide +kernel)) ggX11_would_X11_costsWith
theorem dX11_would_0 : decode cX11_would 0 = .ok (.iload_n 1, 1) := by decide +kernel
theorem dX11_would_1 : decode cX11_would 1 = .ok (.iconst 0, 1) := by decide +kernel
theorem dX11_would_2 : decode cX11_would 2 = .ok (.aload_n 0, 1) := by decide +kernel
theorem dX11_would_3 : decode cX11_would 3 = .ok (.getfield 7, 3) := by decide +kernel
theorem dX11_would_6 : decode cX11_would 6 = .ok (.iconst 0, 1) := by decide +kernel
theorem dX11_would_7 : decode cX11_would 7 = .ok (.iaload, 1) := by decide +kernel
theorem dX11_would_8 : decode cX11_would 8 = .ok (.iconst 1, 1) := by decide +kernel
theorem dX11_would_9 : decode cX11_would 9 = .ok (.isub, 1) := by decide +kernel
theorem dX11_would_10 : decode cX11_would 10 = .ok (.invokestatic 62, 3) := by decide +kernel
theorem dX11_would_13 : decode cX11_would 13 = .ok (.ifCond .eq 21, 3) := by decide +kernel
theorem dX11_would_16 : decode cX11_would 16 = .ok (.iload_n 2, 1) := by decide +kernel
theorem dX11_would_17 : decode cX11_would 17 = .ok (.iconst 0, 1) := by decide +kernel
theorem dX11_would_18 : decode cX11_would 18 = .ok (.iconst 3, 1) := by decide +kernel
theorem dX11_would_19 : decode cX11_would 19 = .ok (.invokestatic 62, 3) := by decide +kernel
theorem dX11_would_22 : decode cX11_would 22 = .ok (.ifCond .eq 12, 3) := by decide +kernel
theorem dX11_would_25 : decode cX11_would 25 = .ok (.aload_n 0, 1) := by decide +kernel
theorem dX11_would_26 : decode cX11_would 26 = .ok (.iload_n 1, 1) := by decide +kernel
theorem dX11_would_27 : decode cX11_would 27 = .ok (.iload_n 2, 1) := by decide +kernel
theorem dX11_would_28 : decode cX11_would 28 = .ok (.invokevirtual 152, 3) := by decide +kernel
theorem dX11_would_31 : decode cX11_would 31 = .ok (.goto 5, 3) := by decide +kernel
theorem dX11_would_34 : decode cX11_would 34 = .ok (.ldc 57, 2) := by decide +kernel
theorem dX11_would_36 : decode cX11_would 36 = .ok (.ireturn, 1) := by decide +kernel
set_option maxRecDepth 20000 in
theorem ggX11_bestChange_X11_in : GoodIn wsX11_bestChange wsX11_in := goodIn_r _ [7] (by decide +kernel) (by decide +kernel)
set_option maxRecDepth 20000 in
theorem gX11_bestChange_X11_in : GoodIn wsX11_bestChange (va_wsS RX11 62 yX11_in wsX11_in) := goodIn_app (goodIn_of _ (by decide +kernel)) ggX11_bestChange_X11_in
set_option maxRecDepth 20000 in
theorem ggX11_bestChange_X11_costs : GoodIn wsX11_bestChange wsX11_costs := goodIn_r _ [11, 12, 3, 13, 14, 15, 6, 16, 17, 18, 19, 20, 21, 22, 23, 24, 25, 26, 27, 28, 29, 30, 31, 36, 37, 38, 39, 40, 41, 42, 43, 44, 45, 46, 47, 48, 49, 50, 51, 52, 53, 54, 55, 56, 57, 58, 59, 60, 61, 62, 63, 64] (by decide +kernel) (by decide +kernel)
set_option maxRecDepth 20000 in
theorem gX11_bestChange_X11_costs : GoodIn wsX11_bestChange (wsV RX11 148 RX11 yX11_costs wsX11_costs) := goodIn_app (goodIn_of _ (by decide +kernel)) ggX11_bestChange_X11_costs
set_option maxRecDepth 20000 in
theorem ggX11_bestChange_X11_costsWith : GoodIn wsX11_bestChange wsX11_costsWith := goodIn_r _ [35, 3, 8, 9, 10, 6, 11, 12, 13, 14, 15, 16, 17, 18, 19, 20, 21, 22, 23, 24, 25, 26, 27, 28, 29, 30, 31, 36, 37, 38, 39, 40, 41, 42, 43, 44, 45, 46, 47, 48, 49, 50, 51, 52, 53, 54, 55, 56, 57, 58, 59, 60, 61, 62, 63, 64] (by decide +kernel) (by decide +kernel)
set_option maxRecDepth 20000 in
theorem gX11_bestChange_X11_costsWith : GoodIn wsX11_bestChange (wsV RX11 152 RX11 yX11_costsWith wsX11_costsWith) := goodIn_app (goodIn_of _ (by decide +kernel)) ggX11_bestChange_X11_costsWith
theorem dX11_bestChange_0 : decode cX11_bestChange 0 = .ok (.iload_n 1, 1) := by decide +kernel
theorem dX11_bestChange_1 : decode cX11_bestChange 1 = .ok (.iconst 0, 1) := by decide +kernel
theorem dX11_bestChange_2 : decode cX11_bestChange 2 = .ok (.iconst 2, 1) := by decide +kernel
theorem dX11_bestChange_3 : decode cX11_bestChange 3 = .ok (.invokestatic 62, 3) := by decide +kernel
theorem dX11_bestChange_6 : decode cX11_bestChange 6 = .ok (.ifCond .ne 6, 3) := by decide +kernel
theorem dX11_bestChange_9 : decode cX11_bestChange 9 = .ok (.ldc 57, 2) := by decide +kernel
theorem dX11_bestChange_11 : decode cX11_bestChange 11 = .ok (.ireturn, 1) := by decide +kernel
theorem dX11_bestChange_12 : decode cX11_bestChange 12 = .ok (.aload_n 0, 1) := by decide +kernel
theorem dX11_bestChange_13 : decode cX11_bestChange 13 = .ok (.invokevirtual 148, 3) := by decide +kernel
theorem dX11_bestChange_16 : decode cX11_bestChange 16 = .ok (.istore_n 2, 1) := by decide +kernel
theorem dX11_bestChange_17 : decode cX11_bestChange 17 = .ok (.ldc 79, 2) := by decide +kernel
theorem dX11_bestChange_19 : decode cX11_bestChange 19 = .ok (.istore_n 3, 1) := by decide +kernel
theorem dX11_bestChange_20 : decode cX11_bestChange 20 = .ok (.iconst 0, 1) := by decide +kernel
theorem dX11_bestChange_21 : decode cX11_bestChange 21 = .ok (.istore 4, 2) := by decide +kernel
theorem dX11_bestChange_23 : decode cX11_bestChange 23 = .ok (.iload 4, 2) := by decide +kernel
theorem dX11_bestChange_25 : decode cX11_bestChange 25 = .ok (.aload_n 0, 1) := by decide +kernel
theorem dX11_bestChange_26 : decode cX11_bestChange 26 = .ok (.getfield 7, 3) := by decide +kernel
theorem dX11_bestChange_29 : decode cX11_bestChange 29 = .ok (.iconst 0, 1) := by decide +kernel
theorem dX11_bestChange_30 : decode cX11_bestChange 30 = .ok (.iaload, 1) := by decide +kernel
theorem dX11_bestChange_31 : decode cX11_bestChange 31 = .ok (.if_icmp .ge 65, 3) := by decide +kernel
theorem dX11_bestChange_34 : decode cX11_bestChange 34 = .ok (.iconst 0, 1) := by decide +kernel
theorem dX11_bestChange_35 : decode cX11_bestChange 35 = .ok (.istore 5, 2) := by decide +kernel
theorem dX11_bestChange_37 : decode cX11_bestChange 37 = .ok (.iload 5, 2) := by decide +kernel
theorem dX11_bestChange_39 : decode cX11_bestChange 39 = .ok (.iconst 4, 1) := by decide +kernel
theorem dX11_bestChange_40 : decode cX11_bestChange 40 = .ok (.if_icmp .ge 50, 3) := by decide +kernel
theorem dX11_bestChange_43 : decode cX11_bestChange 43 = .ok (.aload_n 0, 1) := by decide +kernel
theorem dX11_bestChange_44 : decode cX11_bestChange 44 = .ok (.iload 4, 2) := by decide +kernel
theorem dX11_bestChange_46 : decode cX11_bestChange 46 = .ok (.iload 5, 2) := by decide +kernel
theorem dX11_bestChange_48 : decode cX11_bestChange 48 = .ok (.invokevirtual 152, 3) := by decide +kernel
theorem dX11_bestChange_51 : decode cX11_bestChange 51 = .ok (.istore 6, 2) := by decide +kernel
theorem dX11_bestChange_53 : decode cX11_bestChange 53 = .ok (.iload 6, 2) := by decide +kernel
theorem dX11_bestChange_55 : decode cX11_bestChange 55 = .ok (.iload_n 2, 1) := by decide +kernel
theorem dX11_bestChange_56 : decode cX11_bestChange 56 = .ok (.if_icmp .ge 13, 3) := by decide +kernel
theorem dX11_bestChange_59 : decode cX11_bestChange 59 = .ok (.iconst 4, 1) := by decide +kernel
theorem dX11_bestChange_60 : decode cX11_bestChange 60 = .ok (.iload 4, 2) := by decide +kernel
theorem dX11_bestChange_62 : decode cX11_bestChange 62 = .ok (.imul, 1) := by decide +kernel
theorem dX11_bestChange_63 : decode cX11_bestChange 63 = .ok (.iload 5, 2) := by decide +kernel
theorem dX11_bestChange_65 : decode cX11_bestChange 65 = .ok (.iadd, 1) := by decide +kernel
theorem dX11_bestChange_66 : decode cX11_bestChange 66 = .ok (.goto 4, 3) := by decide +kernel
theorem dX11_bestChange_69 : decode cX11_bestChange 69 = .ok (.iload_n 3, 1) := by decide +kernel
theorem dX11_bestChange_70 : decode cX11_bestChange 70 = .ok (.istore_n 3, 1) := by decide +kernel
theorem dX11_bestChange_71 : decode cX11_bestChange 71 = .ok (.iload 6, 2) := by decide +kernel
theorem dX11_bestChange_73 : decode cX11_bestChange 73 = .ok (.iload_n 2, 1) := by decide +kernel
theorem dX11_bestChange_74 : decode cX11_bestChange 74 = .ok (.if_icmp .ge 8, 3) := by decide +kernel
theorem dX11_bestChange_77 : decode cX11_bestChange 77 = .ok (.iload 6, 2) := by decide +kernel
theorem dX11_bestChange_79 : decode cX11_bestChange 79 = .ok (.goto 4, 3) := by decide +kernel
theorem dX11_bestChange_82 : decode cX11_bestChange 82 = .ok (.iload_n 2, 1) := by decide +kernel
theorem dX11_bestChange_83 : decode cX11_bestChange 83 = .ok (.istore_n 2, 1) := by decide +kernel
theorem dX11_bestChange_84 : decode cX11_bestChange 84 = .ok (.iinc 5 1, 3) := by decide +kernel
theorem dX11_bestChange_87 : decode cX11_bestChange 87 = .ok (.goto (-50), 3) := by decide +kernel
theorem dX11_bestChange_90 : decode cX11_bestChange 90 = .ok (.iinc 4 1, 3) := by decide +kernel
theorem dX11_bestChange_93 : decode cX11_bestChange 93 = .ok (.goto (-70), 3) := by decide +kernel
theorem dX11_bestChange_96 : decode cX11_bestChange 96 = .ok (.iload_n 3, 1) := by decide +kernel
theorem dX11_bestChange_97 : decode cX11_bestChange 97 = .ok (.ldc 79, 2) := by decide +kernel
theorem dX11_bestChange_99 : decode cX11_bestChange 99 = .ok (.if_icmp .ne 8, 3) := by decide +kernel
theorem dX11_bestChange_102 : decode cX11_bestChange 102 = .ok (.ldc 79, 2) := by decide +kernel
theorem dX11_bestChange_104 : decode cX11_bestChange 104 = .ok (.goto 25, 3) := by decide +kernel
theorem dX11_bestChange_107 : decode cX11_bestChange 107 = .ok (.iload_n 1, 1) := by decide +kernel
theorem dX11_bestChange_108 : decode cX11_bestChange 108 = .ok (.ifCond .ne 9, 3) := by decide +kernel
theorem dX11_bestChange_111 : decode cX11_bestChange 111 = .ok (.iload_n 3, 1) := by decide +kernel
theorem dX11_bestChange_112 : decode cX11_bestChange 112 = .ok (.iconst 4, 1) := by decide +kernel
theorem dX11_bestChange_113 : decode cX11_bestChange 113 = .ok (.idiv, 1) := by decide +kernel
theorem dX11_bestChange_114 : decode cX11_bestChange 114 = .ok (.goto 15, 3) := by decide +kernel
theorem dX11_bestChange_117 : decode cX11_bestChange 117 = .ok (.iload_n 1, 1) := by decide +kernel
theorem dX11_bestChange_118 : decode cX11_bestChange 118 = .ok (.iconst 1, 1) := by decide +kernel
theorem dX11_bestChange_119 : decode cX11_bestChange 119 = .ok (.if_icmp .ne 9, 3) := by decide +kernel
theorem dX11_bestChange_122 : decode cX11_bestChange 122 = .ok (.iload_n 3, 1) := by decide +kernel
theorem dX11_bestChange_123 : decode cX11_bestChange 123 = .ok (.iconst 4, 1) := by decide +kernel
theorem dX11_bestChange_124 : decode cX11_bestChange 124 = .ok (.irem, 1) := by decide +kernel
theorem dX11_bestChange_125 : decode cX11_bestChange 125 = .ok (.goto 4, 3) := by decide +kernel
theorem dX11_bestChange_128 : decode cX11_bestChange 128 = .ok (.iload_n 2, 1) := by decide +kernel
theorem dX11_bestChange_129 : decode cX11_bestChange 129 = .ok (.ireturn, 1) := by decide +kernel
set_option maxRecDepth 20000 in
theorem ggX11_type_X11_in : GoodIn wsX11_type wsX11_in := goodIn_r _ [8] (by decide +kernel) (by decide +kernel)
set_option maxRecDepth 20000 in
theorem gX11_type_X11_in : GoodIn wsX11_type (va_wsS RX11 62 yX11_in wsX11_in) := goodIn_app (goodIn_of _ (by decide +kernel)) ggX11_type_X11_in
theorem dX11_type_0 : decode cX11_type 0 = .ok (.iload_n 1, 1) := by decide +kernel
theorem dX11_type_1 : decode cX11_type 1 = .ok (.bipush 32, 2) := by decide +kernel
theorem dX11_type_3 : decode cX11_type 3 = .ok (.bipush 126, 2) := by decide +kernel
theorem dX11_type_5 : decode cX11_type 5 = .ok (.invokestatic 62, 3) := by decide +kernel
theorem dX11_type_8 : decode cX11_type 8 = .ok (.ifCond .ne 6, 3) := by decide +kernel
theorem dX11_type_11 : decode cX11_type 11 = .ok (.ldc 57, 2) := by decide +kernel
theorem dX11_type_13 : decode cX11_type 13 = .ok (.ireturn, 1) := by decide +kernel
theorem dX11_type_14 : decode cX11_type 14 = .ok (.aload_n 0, 1) := by decide +kernel
theorem dX11_type_15 : decode cX11_type 15 = .ok (.getfield 155, 3) := by decide +kernel
theorem dX11_type_18 : decode cX11_type 18 = .ok (.bipush 60, 2) := by decide +kernel
theorem dX11_type_20 : decode cX11_type 20 = .ok (.if_icmp .ne 6, 3) := by decide +kernel
theorem dX11_type_23 : decode cX11_type 23 = .ok (.ldc 66, 2) := by decide +kernel
theorem dX11_type_25 : decode cX11_type 25 = .ok (.ireturn, 1) := by decide +kernel
theorem dX11_type_26 : decode cX11_type 26 = .ok (.aload_n 0, 1) := by decide +kernel
theorem dX11_type_27 : decode cX11_type 27 = .ok (.getfield 19, 3) := by decide +kernel
theorem dX11_type_30 : decode cX11_type 30 = .ok (.aload_n 0, 1) := by decide +kernel
theorem dX11_type_31 : decode cX11_type 31 = .ok (.getfield 155, 3) := by decide +kernel
theorem dX11_type_34 : decode cX11_type 34 = .ok (.iload_n 1, 1) := by decide +kernel
theorem dX11_type_35 : decode cX11_type 35 = .ok (.i2c, 1) := by decide +kernel
theorem dX11_type_36 : decode cX11_type 36 = .ok (.castore, 1) := by decide +kernel
theorem dX11_type_37 : decode cX11_type 37 = .ok (.aload_n 0, 1) := by decide +kernel
theorem dX11_type_38 : decode cX11_type 38 = .ok (.dup, 1) := by decide +kernel
theorem dX11_type_39 : decode cX11_type 39 = .ok (.getfield 155, 3) := by decide +kernel
theorem dX11_type_42 : decode cX11_type 42 = .ok (.iconst 1, 1) := by decide +kernel
theorem dX11_type_43 : decode cX11_type 43 = .ok (.iadd, 1) := by decide +kernel
theorem dX11_type_44 : decode cX11_type 44 = .ok (.putfield 155, 3) := by decide +kernel
theorem dX11_type_47 : decode cX11_type 47 = .ok (.aload_n 0, 1) := by decide +kernel
theorem dX11_type_48 : decode cX11_type 48 = .ok (.getfield 155, 3) := by decide +kernel
theorem dX11_type_51 : decode cX11_type 51 = .ok (.ireturn, 1) := by decide +kernel
theorem dX11_clearText_0 : decode cX11_clearText 0 = .ok (.aload_n 0, 1) := by decide +kernel
theorem dX11_clearText_1 : decode cX11_clearText 1 = .ok (.getfield 155, 3) := by decide +kernel
theorem dX11_clearText_4 : decode cX11_clearText 4 = .ok (.istore_n 1, 1) := by decide +kernel
theorem dX11_clearText_5 : decode cX11_clearText 5 = .ok (.aload_n 0, 1) := by decide +kernel
theorem dX11_clearText_6 : decode cX11_clearText 6 = .ok (.iconst 0, 1) := by decide +kernel
theorem dX11_clearText_7 : decode cX11_clearText 7 = .ok (.putfield 155, 3) := by decide +kernel
theorem dX11_clearText_10 : decode cX11_clearText 10 = .ok (.iload_n 1, 1) := by decide +kernel
theorem dX11_clearText_11 : decode cX11_clearText 11 = .ok (.ireturn, 1) := by decide +kernel
theorem dX11_sign_0 : decode cX11_sign 0 = .ok (.aload_n 0, 1) := by decide +kernel
theorem dX11_sign_1 : decode cX11_sign 1 = .ok (.getfield 158, 3) := by decide +kernel
theorem dX11_sign_4 : decode cX11_sign 4 = .ok (.aload_n 0, 1) := by decide +kernel
theorem dX11_sign_5 : decode cX11_sign 5 = .ok (.getfield 155, 3) := by decide +kernel
theorem dX11_sign_8 : decode cX11_sign 8 = .ok (.if_icmp .ge 15, 3) := by decide +kernel
theorem dX11_sign_11 : decode cX11_sign 11 = .ok (.aload_n 0, 1) := by decide +kernel
theorem dX11_sign_12 : decode cX11_sign 12 = .ok (.getfield 19, 3) := by decide +kernel
theorem dX11_sign_15 : decode cX11_sign 15 = .ok (.aload_n 0, 1) := by decide +kernel
theorem dX11_sign_16 : decode cX11_sign 16 = .ok (.getfield 158, 3) := by decide +kernel
theorem dX11_sign_19 : decode cX11_sign 19 = .ok (.caload, 1) := by decide +kernel
theorem dX11_sign_20 : decode cX11_sign 20 = .ok (.goto 4, 3) := by decide +kernel
theorem dX11_sign_23 : decode cX11_sign 23 = .ok (.iconst (-1), 1) := by decide +kernel
theorem dX11_sign_24 : decode cX11_sign 24 = .ok (.ireturn, 1) := by decide +kernel
theorem dX11_faulty_0 : decode cX11_faulty 0 = .ok (.aload_n 0, 1) := by decide +kernel
theorem dX11_faulty_1 : decode cX11_faulty 1 = .ok (.iload_n 1, 1) := by decide +kernel
theorem dX11_faulty_2 : decode cX11_faulty 2 = .ok (.putfield 161, 3) := by decide +kernel
theorem dX11_faulty_5 : decode cX11_faulty 5 = .ok (.aload_n 0, 1) := by decide +kernel
theorem dX11_faulty_6 : decode cX11_faulty 6 = .ok (.iload_n 2, 1) := by decide +kernel
theorem dX11_faulty_7 : decode cX11_faulty 7 = .ok (.putfield 164, 3) := by decide +kernel
theorem dX11_faulty_10 : decode cX11_faulty 10 = .ok (.iconst 0, 1) := by decide +kernel
theorem dX11_faulty_11 : decode cX11_faulty 11 = .ok (.ireturn, 1) := by decide +kernel
set_option maxRecDepth 20000 in
theorem ggX11_takes_X11_sign : GoodIn wsX11_takes wsX11_sign := goodIn_r _ [6, 1, 7, 8, 15, 16, 17, 18, 19, 20, 21, 22, 23, 24, 25, 26, 27, 28, 29, 30, 31, 32, 33, 34, 35, 36, 37, 38, 39, 40, 41, 42, 43] (by decide +kernel) (by decide +kernel)
set_option maxRecDepth 20000 in
theorem gX11_takes_X11_sign : GoodIn wsX11_takes (wsV RX11 167 RX11 yX11_sign wsX11_sign) := goodIn_app (goodIn_of _ (by decide +kernel)) ggX11_takes_X11_sign
set_option maxRecDepth 20000 in
theorem ggX11_takes_X11_faulty : GoodIn wsX11_takes wsX11_faulty := goodIn_r _ [12, 13, 14, 15, 16, 17, 18, 19, 20, 21, 22, 23, 24, 25, 26, 27, 28, 29, 30, 31, 32, 33, 34, 35, 36, 37, 38, 39, 40, 41, 42, 43] (by decide +kernel) (by decide +kernel)
set_option maxRecDepth 20000 in
theorem gX11_takes_X11_faulty : GoodIn wsX11_takes (wsV RX11 170 RX11 yX11_faulty wsX11_faulty) := goodIn_app (goodIn_of _ (by decide +kernel)) ggX11_takes_X11_faulty
theorem dX11_takes_0 : decode cX11_takes 0 = .ok (.aload_n 0, 1) := by decide +kernel
theorem dX11_takes_1 : decode cX11_takes 1 = .ok (.invokevirtual 167, 3) := by decide +kernel
theorem dX11_takes_4 : decode cX11_takes 4 = .ok (.iload_n 1, 1) := by decide +kernel
theorem dX11_takes_5 : decode cX11_takes 5 = .ok (.if_icmp .eq 13, 3) := by decide +kernel
theorem dX11_takes_8 : decode cX11_takes 8 = .ok (.aload_n 0, 1) := by decide +kernel
theorem dX11_takes_9 : decode cX11_takes 9 = .ok (.aload_n 0, 1) := by decide +kernel
theorem dX11_takes_10 : decode cX11_takes 10 = .ok (.getfield 158, 3) := by decide +kernel
theorem dX11_takes_13 : decode cX11_takes 13 = .ok (.iconst 1, 1) := by decide +kernel
theorem dX11_takes_14 : decode cX11_takes 14 = .ok (.invokevirtual 170, 3) := by decide +kernel
theorem dX11_takes_17 : decode cX11_takes 17 = .ok (.ireturn, 1) := by decide +kernel
theorem dX11_takes_18 : decode cX11_takes 18 = .ok (.aload_n 0, 1) := by decide +kernel
theorem dX11_takes_19 : decode cX11_takes 19 = .ok (.dup, 1) := by decide +kernel
theorem dX11_takes_20 : decode cX11_takes 20 = .ok (.getfield 158, 3) := by decide +kernel
theorem dX11_takes_23 : decode cX11_takes 23 = .ok (.iconst 1, 1) := by decide +kernel
theorem dX11_takes_24 : decode cX11_takes 24 = .ok (.iadd, 1) := by decide +kernel
theorem dX11_takes_25 : decode cX11_takes 25 = .ok (.putfield 158, 3) := by decide +kernel
theorem dX11_takes_28 : decode cX11_takes 28 = .ok (.iconst 1, 1) := by decide +kernel
theorem dX11_takes_29 : decode cX11_takes 29 = .ok (.ireturn, 1) := by decide +kernel
set_option maxRecDepth 20000 in
theorem ggX11_readsLetter_X11_faulty : GoodIn wsX11_readsLetter wsX11_faulty := goodIn_r _ [11, 12, 13, 20, 21, 22, 23, 24, 25, 26, 27, 28, 29, 30, 31, 32, 33, 34, 35, 36, 37, 38, 39, 40, 41, 42, 43, 44, 45, 46, 47, 48] (by decide +kernel) (by decide +kernel)
set_option maxRecDepth 20000 in
theorem gX11_readsLetter_X11_faulty : GoodIn wsX11_readsLetter (wsV RX11 170 RX11 yX11_faulty wsX11_faulty) := goodIn_app (goodIn_of _ (by decide +kernel)) ggX11_readsLetter_X11_faulty
set_option maxRecDepth 20000 in
theorem ggX11_readsLetter_X11_sign : GoodIn wsX11_readsLetter wsX11_sign := goodIn_r _ [17, 4, 18, 19, 20, 21, 22, 23, 24, 25, 26, 27, 28, 29, 30, 31, 32, 33, 34, 35, 36, 37, 38, 39, 40, 41, 42, 43, 44, 45, 46, 47, 48] (by decide +kernel) (by decide +kernel)
set_option maxRecDepth 20000 in
theorem gX11_readsLetter_X11_sign : GoodIn wsX11_readsLetter (wsV RX11 167 RX11 yX11_sign wsX11_sign) := goodIn_app (goodIn_of _ (by decide +kernel)) ggX11_readsLetter_X11_sign
theorem dX11_readsLetter_0 : decode cX11_readsLetter 0 = .ok (.aload_n 0, 1) := by decide +kernel
theorem dX11_readsLetter_1 : decode cX11_readsLetter 1 = .ok (.getfield 173, 3) := by decide +kernel
theorem dX11_readsLetter_4 : decode cX11_readsLetter 4 = .ok (.aload_n 0, 1) := by decide +kernel
theorem dX11_readsLetter_5 : decode cX11_readsLetter 5 = .ok (.getfield 48, 3) := by decide +kernel
theorem dX11_readsLetter_8 : decode cX11_readsLetter 8 = .ok (.aload_n 0, 1) := by decide +kernel
theorem dX11_readsLetter_9 : decode cX11_readsLetter 9 = .ok (.getfield 176, 3) := by decide +kernel
theorem dX11_readsLetter_12 : decode cX11_readsLetter 12 = .ok (.iaload, 1) := by decide +kernel
theorem dX11_readsLetter_13 : decode cX11_readsLetter 13 = .ok (.isub, 1) := by decide +kernel
theorem dX11_readsLetter_14 : decode cX11_readsLetter 14 = .ok (.bipush 24, 2) := by decide +kernel
theorem dX11_readsLetter_16 : decode cX11_readsLetter 16 = .ok (.if_icmp .ne 13, 3) := by decide +kernel
theorem dX11_readsLetter_19 : decode cX11_readsLetter 19 = .ok (.aload_n 0, 1) := by decide +kernel
theorem dX11_readsLetter_20 : decode cX11_readsLetter 20 = .ok (.aload_n 0, 1) := by decide +kernel
theorem dX11_readsLetter_21 : decode cX11_readsLetter 21 = .ok (.getfield 158, 3) := by decide +kernel
theorem dX11_readsLetter_24 : decode cX11_readsLetter 24 = .ok (.iconst 4, 1) := by decide +kernel
theorem dX11_readsLetter_25 : decode cX11_readsLetter 25 = .ok (.invokevirtual 170, 3) := by decide +kernel
theorem dX11_readsLetter_28 : decode cX11_readsLetter 28 = .ok (.ireturn, 1) := by decide +kernel
theorem dX11_readsLetter_29 : decode cX11_readsLetter 29 = .ok (.aload_n 0, 1) := by decide +kernel
theorem dX11_readsLetter_30 : decode cX11_readsLetter 30 = .ok (.getfield 45, 3) := by decide +kernel
theorem dX11_readsLetter_33 : decode cX11_readsLetter 33 = .ok (.aload_n 0, 1) := by decide +kernel
theorem dX11_readsLetter_34 : decode cX11_readsLetter 34 = .ok (.getfield 173, 3) := by decide +kernel
theorem dX11_readsLetter_37 : decode cX11_readsLetter 37 = .ok (.aload_n 0, 1) := by decide +kernel
theorem dX11_readsLetter_38 : decode cX11_readsLetter 38 = .ok (.invokevirtual 167, 3) := by decide +kernel
theorem dX11_readsLetter_41 : decode cX11_readsLetter 41 = .ok (.bipush 97, 2) := by decide +kernel
theorem dX11_readsLetter_43 : decode cX11_readsLetter 43 = .ok (.isub, 1) := by decide +kernel
theorem dX11_readsLetter_44 : decode cX11_readsLetter 44 = .ok (.iastore, 1) := by decide +kernel
theorem dX11_readsLetter_45 : decode cX11_readsLetter 45 = .ok (.aload_n 0, 1) := by decide +kernel
theorem dX11_readsLetter_46 : decode cX11_readsLetter 46 = .ok (.dup, 1) := by decide +kernel
theorem dX11_readsLetter_47 : decode cX11_readsLetter 47 = .ok (.getfield 173, 3) := by decide +kernel
theorem dX11_readsLetter_50 : decode cX11_readsLetter 50 = .ok (.iconst 1, 1) := by decide +kernel
theorem dX11_readsLetter_51 : decode cX11_readsLetter 51 = .ok (.iadd, 1) := by decide +kernel
theorem dX11_readsLetter_52 : decode cX11_readsLetter 52 = .ok (.putfield 173, 3) := by decide +kernel
theorem dX11_readsLetter_55 : decode cX11_readsLetter 55 = .ok (.aload_n 0, 1) := by decide +kernel
theorem dX11_readsLetter_56 : decode cX11_readsLetter 56 = .ok (.dup, 1) := by decide +kernel
theorem dX11_readsLetter_57 : decode cX11_readsLetter 57 = .ok (.getfield 179, 3) := by decide +kernel
theorem dX11_readsLetter_60 : decode cX11_readsLetter 60 = .ok (.iconst 1, 1) := by decide +kernel
theorem dX11_readsLetter_61 : decode cX11_readsLetter 61 = .ok (.iadd, 1) := by decide +kernel
theorem dX11_readsLetter_62 : decode cX11_readsLetter 62 = .ok (.putfield 179, 3) := by decide +kernel
theorem dX11_readsLetter_65 : decode cX11_readsLetter 65 = .ok (.aload_n 0, 1) := by decide +kernel
theorem dX11_readsLetter_66 : decode cX11_readsLetter 66 = .ok (.dup, 1) := by decide +kernel
theorem dX11_readsLetter_67 : decode cX11_readsLetter 67 = .ok (.getfield 158, 3) := by decide +kernel
theorem dX11_readsLetter_70 : decode cX11_readsLetter 70 = .ok (.iconst 1, 1) := by decide +kernel
theorem dX11_readsLetter_71 : decode cX11_readsLetter 71 = .ok (.iadd, 1) := by decide +kernel
theorem dX11_readsLetter_72 : decode cX11_readsLetter 72 = .ok (.putfield 158, 3) := by decide +kernel
theorem dX11_readsLetter_75 : decode cX11_readsLetter 75 = .ok (.iconst 1, 1) := by decide +kernel
theorem dX11_readsLetter_76 : decode cX11_readsLetter 76 = .ok (.ireturn, 1) := by decide +kernel
set_option maxRecDepth 20000 in
theorem ggX11_opensBlock_X11_sign : GoodIn wsX11_opensBlock wsX11_sign := goodIn_r _ [13, 1, 14, 15, 29, 30, 31, 32, 33, 34, 35, 36, 37, 38, 39, 40, 41, 42, 43, 44, 45, 46, 47, 48, 49, 50, 51, 52, 53, 54, 55, 56, 57] (by decide +kernel) (by decide +kernel)
set_option maxRecDepth 20000 in
theorem gX11_opensBlock_X11_sign : GoodIn wsX11_opensBlock (wsV RX11 167 RX11 yX11_sign wsX11_sign) := goodIn_app (goodIn_of _ (by decide +kernel)) ggX11_opensBlock_X11_sign
set_option maxRecDepth 20000 in
theorem ggX11_opensBlock_X11_in : GoodIn wsX11_opensBlock wsX11_in := goodIn_r _ [18] (by decide +kernel) (by decide +kernel)
set_option maxRecDepth 20000 in
theorem gX11_opensBlock_X11_in : GoodIn wsX11_opensBlock (va_wsS RX11 62 yX11_in wsX11_in) := goodIn_app (goodIn_of _ (by decide +kernel)) ggX11_opensBlock_X11_in
set_option maxRecDepth 20000 in
theorem ggX11_opensBlock_X11_takes : GoodIn wsX11_opensBlock wsX11_takes := goodIn_r _ [22, 1, 9, 10, 11, 12, 13, 14, 15, 23, 24, 25, 26, 27, 28, 29, 30, 31, 32, 33, 34, 35, 36, 37, 38, 39, 40, 41, 42, 43, 44, 45, 46, 47, 48, 49, 50, 51, 52, 53, 54, 55, 56, 57] (by decide +kernel) (by decide +kernel)
set_option maxRecDepth 20000 in
theorem gX11_opensBlock_X11_takes : GoodIn wsX11_opensBlock (wsV RX11 182 RX11 yX11_takes wsX11_takes) := goodIn_app (goodIn_of _ (by decide +kernel)) ggX11_opensBlock_X11_takes
set_option maxRecDepth 20000 in
theorem ggX11_opensBlock_X11_faulty : GoodIn wsX11_opensBlock wsX11_faulty := goodIn_r _ [26, 27, 28, 29, 30, 31, 32, 33, 34, 35, 36, 37, 38, 39, 40, 41, 42, 43, 44, 45, 46, 47, 48, 49, 50, 51, 52, 53, 54, 55, 56, 57] (by decide +kernel) (by decide +kernel)
set_option maxRecDepth 20000 in
theorem gX11_opensBlock_X11_faulty : GoodIn wsX11_opensBlock (wsV RX11 170 RX11 yX11_faulty wsX11_faulty) := goodIn_app (goodIn_of _ (by decide +kernel)) ggX11_opensBlock_X11_faulty
theorem dX11_opensBlock_0 : decode cX11_opensBlock 0 = .ok (.aload_n 0, 1) := by decide +kernel
theorem dX11_opensBlock_1 : decode cX11_opensBlock 1 = .ok (.getfield 158, 3) := by decide +kernel
theorem dX11_opensBlock_4 : decode cX11_opensBlock 4 = .ok (.istore_n 1, 1) := by decide +kernel
theorem dX11_opensBlock_5 : decode cX11_opensBlock 5 = .ok (.iconst 0, 1) := by decide +kernel
theorem dX11_opensBlock_6 : decode cX11_opensBlock 6 = .ok (.istore_n 2, 1) := by decide +kernel
theorem dX11_opensBlock_7 : decode cX11_opensBlock 7 = .ok (.aload_n 0, 1) := by decide +kernel
theorem dX11_opensBlock_8 : decode cX11_opensBlock 8 = .ok (.invokevirtual 167, 3) := by decide +kernel
theorem dX11_opensBlock_11 : decode cX11_opensBlock 11 = .ok (.bipush 48, 2) := by decide +kernel
theorem dX11_opensBlock_13 : decode cX11_opensBlock 13 = .ok (.bipush 57, 2) := by decide +kernel
theorem dX11_opensBlock_15 : decode cX11_opensBlock 15 = .ok (.invokestatic 62, 3) := by decide +kernel
theorem dX11_opensBlock_18 : decode cX11_opensBlock 18 = .ok (.ifCond .eq 39, 3) := by decide +kernel
theorem dX11_opensBlock_21 : decode cX11_opensBlock 21 = .ok (.aload_n 0, 1) := by decide +kernel
theorem dX11_opensBlock_22 : decode cX11_opensBlock 22 = .ok (.getfield 158, 3) := by decide +kernel
theorem dX11_opensBlock_25 : decode cX11_opensBlock 25 = .ok (.iload_n 1, 1) := by decide +kernel
theorem dX11_opensBlock_26 : decode cX11_opensBlock 26 = .ok (.iconst 2, 1) := by decide +kernel
theorem dX11_opensBlock_27 : decode cX11_opensBlock 27 = .ok (.iadd, 1) := by decide +kernel
theorem dX11_opensBlock_28 : decode cX11_opensBlock 28 = .ok (.if_icmp .ge 29, 3) := by decide +kernel
theorem dX11_opensBlock_31 : decode cX11_opensBlock 31 = .ok (.bipush 10, 2) := by decide +kernel
theorem dX11_opensBlock_33 : decode cX11_opensBlock 33 = .ok (.iload_n 2, 1) := by decide +kernel
theorem dX11_opensBlock_34 : decode cX11_opensBlock 34 = .ok (.imul, 1) := by decide +kernel
theorem dX11_opensBlock_35 : decode cX11_opensBlock 35 = .ok (.aload_n 0, 1) := by decide +kernel
theorem dX11_opensBlock_36 : decode cX11_opensBlock 36 = .ok (.invokevirtual 167, 3) := by decide +kernel
theorem dX11_opensBlock_39 : decode cX11_opensBlock 39 = .ok (.iadd, 1) := by decide +kernel
theorem dX11_opensBlock_40 : decode cX11_opensBlock 40 = .ok (.bipush 48, 2) := by decide +kernel
theorem dX11_opensBlock_42 : decode cX11_opensBlock 42 = .ok (.isub, 1) := by decide +kernel
theorem dX11_opensBlock_43 : decode cX11_opensBlock 43 = .ok (.istore_n 2, 1) := by decide +kernel
theorem dX11_opensBlock_44 : decode cX11_opensBlock 44 = .ok (.aload_n 0, 1) := by decide +kernel
theorem dX11_opensBlock_45 : decode cX11_opensBlock 45 = .ok (.dup, 1) := by decide +kernel
theorem dX11_opensBlock_46 : decode cX11_opensBlock 46 = .ok (.getfield 158, 3) := by decide +kernel
theorem dX11_opensBlock_49 : decode cX11_opensBlock 49 = .ok (.iconst 1, 1) := by decide +kernel
theorem dX11_opensBlock_50 : decode cX11_opensBlock 50 = .ok (.iadd, 1) := by decide +kernel
theorem dX11_opensBlock_51 : decode cX11_opensBlock 51 = .ok (.putfield 158, 3) := by decide +kernel
theorem dX11_opensBlock_54 : decode cX11_opensBlock 54 = .ok (.goto (-47), 3) := by decide +kernel
theorem dX11_opensBlock_57 : decode cX11_opensBlock 57 = .ok (.aload_n 0, 1) := by decide +kernel
theorem dX11_opensBlock_58 : decode cX11_opensBlock 58 = .ok (.bipush 40, 2) := by decide +kernel
theorem dX11_opensBlock_60 : decode cX11_opensBlock 60 = .ok (.invokevirtual 182, 3) := by decide +kernel
theorem dX11_opensBlock_63 : decode cX11_opensBlock 63 = .ok (.ifCond .ne 5, 3) := by decide +kernel
theorem dX11_opensBlock_66 : decode cX11_opensBlock 66 = .ok (.iconst 0, 1) := by decide +kernel
theorem dX11_opensBlock_67 : decode cX11_opensBlock 67 = .ok (.ireturn, 1) := by decide +kernel
theorem dX11_opensBlock_68 : decode cX11_opensBlock 68 = .ok (.iload_n 2, 1) := by decide +kernel
theorem dX11_opensBlock_69 : decode cX11_opensBlock 69 = .ok (.iconst 2, 1) := by decide +kernel
theorem dX11_opensBlock_70 : decode cX11_opensBlock 70 = .ok (.bipush 24, 2) := by decide +kernel
theorem dX11_opensBlock_72 : decode cX11_opensBlock 72 = .ok (.invokestatic 62, 3) := by decide +kernel
theorem dX11_opensBlock_75 : decode cX11_opensBlock 75 = .ok (.ifCond .ne 10, 3) := by decide +kernel
theorem dX11_opensBlock_78 : decode cX11_opensBlock 78 = .ok (.aload_n 0, 1) := by decide +kernel
theorem dX11_opensBlock_79 : decode cX11_opensBlock 79 = .ok (.iload_n 1, 1) := by decide +kernel
theorem dX11_opensBlock_80 : decode cX11_opensBlock 80 = .ok (.iconst 2, 1) := by decide +kernel
theorem dX11_opensBlock_81 : decode cX11_opensBlock 81 = .ok (.invokevirtual 170, 3) := by decide +kernel
theorem dX11_opensBlock_84 : decode cX11_opensBlock 84 = .ok (.ireturn, 1) := by decide +kernel
theorem dX11_opensBlock_85 : decode cX11_opensBlock 85 = .ok (.aload_n 0, 1) := by decide +kernel
theorem dX11_opensBlock_86 : decode cX11_opensBlock 86 = .ok (.dup, 1) := by decide +kernel
theorem dX11_opensBlock_87 : decode cX11_opensBlock 87 = .ok (.getfield 176, 3) := by decide +kernel
theorem dX11_opensBlock_90 : decode cX11_opensBlock 90 = .ok (.iconst 1, 1) := by decide +kernel
theorem dX11_opensBlock_91 : decode cX11_opensBlock 91 = .ok (.iadd, 1) := by decide +kernel
theorem dX11_opensBlock_92 : decode cX11_opensBlock 92 = .ok (.putfield 176, 3) := by decide +kernel
theorem dX11_opensBlock_95 : decode cX11_opensBlock 95 = .ok (.aload_n 0, 1) := by decide +kernel
theorem dX11_opensBlock_96 : decode cX11_opensBlock 96 = .ok (.aload_n 0, 1) := by decide +kernel
theorem dX11_opensBlock_97 : decode cX11_opensBlock 97 = .ok (.getfield 176, 3) := by decide +kernel
theorem dX11_opensBlock_100 : decode cX11_opensBlock 100 = .ok (.aload_n 0, 1) := by decide +kernel
theorem dX11_opensBlock_101 : decode cX11_opensBlock 101 = .ok (.getfield 186, 3) := by decide +kernel
theorem dX11_opensBlock_104 : decode cX11_opensBlock 104 = .ok (.if_icmp .le 10, 3) := by decide +kernel
theorem dX11_opensBlock_107 : decode cX11_opensBlock 107 = .ok (.aload_n 0, 1) := by decide +kernel
theorem dX11_opensBlock_108 : decode cX11_opensBlock 108 = .ok (.getfield 176, 3) := by decide +kernel
theorem dX11_opensBlock_111 : decode cX11_opensBlock 111 = .ok (.goto 7, 3) := by decide +kernel
theorem dX11_opensBlock_114 : decode cX11_opensBlock 114 = .ok (.aload_n 0, 1) := by decide +kernel
theorem dX11_opensBlock_115 : decode cX11_opensBlock 115 = .ok (.getfield 186, 3) := by decide +kernel
theorem dX11_opensBlock_118 : decode cX11_opensBlock 118 = .ok (.putfield 186, 3) := by decide +kernel
theorem dX11_opensBlock_121 : decode cX11_opensBlock 121 = .ok (.aload_n 0, 1) := by decide +kernel
theorem dX11_opensBlock_122 : decode cX11_opensBlock 122 = .ok (.getfield 48, 3) := by decide +kernel
theorem dX11_opensBlock_125 : decode cX11_opensBlock 125 = .ok (.aload_n 0, 1) := by decide +kernel
theorem dX11_opensBlock_126 : decode cX11_opensBlock 126 = .ok (.getfield 176, 3) := by decide +kernel
theorem dX11_opensBlock_129 : decode cX11_opensBlock 129 = .ok (.aload_n 0, 1) := by decide +kernel
theorem dX11_opensBlock_130 : decode cX11_opensBlock 130 = .ok (.getfield 173, 3) := by decide +kernel
theorem dX11_opensBlock_133 : decode cX11_opensBlock 133 = .ok (.iastore, 1) := by decide +kernel
theorem dX11_opensBlock_134 : decode cX11_opensBlock 134 = .ok (.aload_n 0, 1) := by decide +kernel
theorem dX11_opensBlock_135 : decode cX11_opensBlock 135 = .ok (.getfield 51, 3) := by decide +kernel
theorem dX11_opensBlock_138 : decode cX11_opensBlock 138 = .ok (.aload_n 0, 1) := by decide +kernel
theorem dX11_opensBlock_139 : decode cX11_opensBlock 139 = .ok (.getfield 176, 3) := by decide +kernel
theorem dX11_opensBlock_142 : decode cX11_opensBlock 142 = .ok (.iload_n 1, 1) := by decide +kernel
theorem dX11_opensBlock_143 : decode cX11_opensBlock 143 = .ok (.iastore, 1) := by decide +kernel
theorem dX11_opensBlock_144 : decode cX11_opensBlock 144 = .ok (.aload_n 0, 1) := by decide +kernel
theorem dX11_opensBlock_145 : decode cX11_opensBlock 145 = .ok (.getfield 54, 3) := by decide +kernel
theorem dX11_opensBlock_148 : decode cX11_opensBlock 148 = .ok (.aload_n 0, 1) := by decide +kernel
theorem dX11_opensBlock_149 : decode cX11_opensBlock 149 = .ok (.getfield 176, 3) := by decide +kernel
theorem dX11_opensBlock_152 : decode cX11_opensBlock 152 = .ok (.iload_n 2, 1) := by decide +kernel
theorem dX11_opensBlock_153 : decode cX11_opensBlock 153 = .ok (.iastore, 1) := by decide +kernel
theorem dX11_opensBlock_154 : decode cX11_opensBlock 154 = .ok (.aload_n 0, 1) := by decide +kernel
theorem dX11_opensBlock_155 : decode cX11_opensBlock 155 = .ok (.dup, 1) := by decide +kernel
theorem dX11_opensBlock_156 : decode cX11_opensBlock 156 = .ok (.getfield 189, 3) := by decide +kernel
theorem dX11_opensBlock_159 : decode cX11_opensBlock 159 = .ok (.iconst 1, 1) := by decide +kernel
theorem dX11_opensBlock_160 : decode cX11_opensBlock 160 = .ok (.iadd, 1) := by decide +kernel
theorem dX11_opensBlock_161 : decode cX11_opensBlock 161 = .ok (.putfield 189, 3) := by decide +kernel
theorem dX11_opensBlock_164 : decode cX11_opensBlock 164 = .ok (.iconst 1, 1) := by decide +kernel
theorem dX11_opensBlock_165 : decode cX11_opensBlock 165 = .ok (.ireturn, 1) := by decide +kernel
set_option maxRecDepth 20000 in
theorem ggX11_correction_X11_sign : GoodIn wsX11_correction wsX11_sign := goodIn_r _ [8, 1, 9, 10, 24, 25, 26, 27, 28, 29, 30, 31, 32, 33, 34, 35, 36, 37, 38, 39, 40, 41, 42, 43, 44, 45, 46, 47, 48, 49, 50, 51, 52] (by decide +kernel) (by decide +kernel)
set_option maxRecDepth 20000 in
theorem gX11_correction_X11_sign : GoodIn wsX11_correction (wsV RX11 167 RX11 yX11_sign wsX11_sign) := goodIn_app (goodIn_of _ (by decide +kernel)) ggX11_correction_X11_sign
set_option maxRecDepth 20000 in
theorem ggX11_correction_X11_in : GoodIn wsX11_correction wsX11_in := goodIn_r _ [13] (by decide +kernel) (by decide +kernel)
set_option maxRecDepth 20000 in
theorem gX11_correction_X11_in : GoodIn wsX11_correction (va_wsS RX11 62 yX11_in wsX11_in) := goodIn_app (goodIn_of _ (by decide +kernel)) ggX11_correction_X11_in
set_option maxRecDepth 20000 in
theorem ggX11_correction_X11_faulty : GoodIn wsX11_correction wsX11_faulty := goodIn_r _ [17, 18, 19, 24, 25, 26, 27, 28, 29, 30, 31, 32, 33, 34, 35, 36, 37, 38, 39, 40, 41, 42, 43, 44, 45, 46, 47, 48, 49, 50, 51, 52] (by decide +kernel) (by decide +kernel)
set_option maxRecDepth 20000 in
theorem gX11_correction_X11_faulty : GoodIn wsX11_correction (wsV RX11 170 RX11 yX11_faulty wsX11_faulty) := goodIn_app (goodIn_of _ (by decide +kernel)) ggX11_correction_X11_faulty
set_option maxRecDepth 20000 in
theorem ggX11_correction_X11_takes : GoodIn wsX11_correction wsX11_takes := goodIn_r _ [23, 1, 4, 5, 6, 7, 8, 9, 10, 14, 15, 16, 17, 18, 19, 24, 25, 26, 27, 28, 29, 30, 31, 32, 33, 34, 35, 36, 37, 38, 39, 40, 41, 42, 43, 44, 45, 46, 47, 48, 49, 50, 51, 52] (by decide +kernel) (by decide +kernel)
set_option maxRecDepth 20000 in
theorem gX11_correction_X11_takes : GoodIn wsX11_correction (wsV RX11 182 RX11 yX11_takes wsX11_takes) := goodIn_app (goodIn_of _ (by decide +kernel)) ggX11_correction_X11_takes
theorem dX11_correction_0 : decode cX11_correction 0 = .ok (.aload_n 0, 1) := by decide +kernel
theorem dX11_correction_1 : decode cX11_correction 1 = .ok (.getfield 158, 3) := by decide +kernel
theorem dX11_correction_4 : decode cX11_correction 4 = .ok (.istore 5, 2) := by decide +kernel
theorem dX11_correction_6 : decode cX11_correction 6 = .ok (.aload_n 0, 1) := by decide +kernel
theorem dX11_correction_7 : decode cX11_correction 7 = .ok (.dup, 1) := by decide +kernel
theorem dX11_correction_8 : decode cX11_correction 8 = .ok (.getfield 158, 3) := by decide +kernel
theorem dX11_correction_11 : decode cX11_correction 11 = .ok (.iconst 1, 1) := by decide +kernel
theorem dX11_correction_12 : decode cX11_correction 12 = .ok (.iadd, 1) := by decide +kernel
theorem dX11_correction_13 : decode cX11_correction 13 = .ok (.putfield 158, 3) := by decide +kernel
theorem dX11_correction_16 : decode cX11_correction 16 = .ok (.aload_n 0, 1) := by decide +kernel
theorem dX11_correction_17 : decode cX11_correction 17 = .ok (.invokevirtual 167, 3) := by decide +kernel
theorem dX11_correction_20 : decode cX11_correction 20 = .ok (.istore 6, 2) := by decide +kernel
theorem dX11_correction_22 : decode cX11_correction 22 = .ok (.iload 6, 2) := by decide +kernel
theorem dX11_correction_24 : decode cX11_correction 24 = .ok (.bipush 48, 2) := by decide +kernel
theorem dX11_correction_26 : decode cX11_correction 26 = .ok (.bipush 57, 2) := by decide +kernel
theorem dX11_correction_28 : decode cX11_correction 28 = .ok (.invokestatic 62, 3) := by decide +kernel
theorem dX11_correction_31 : decode cX11_correction 31 = .ok (.ifCond .ne 13, 3) := by decide +kernel
theorem dX11_correction_34 : decode cX11_correction 34 = .ok (.aload_n 0, 1) := by decide +kernel
theorem dX11_correction_35 : decode cX11_correction 35 = .ok (.aload_n 0, 1) := by decide +kernel
theorem dX11_correction_36 : decode cX11_correction 36 = .ok (.getfield 158, 3) := by decide +kernel
theorem dX11_correction_39 : decode cX11_correction 39 = .ok (.iconst 1, 1) := by decide +kernel
theorem dX11_correction_40 : decode cX11_correction 40 = .ok (.invokevirtual 170, 3) := by decide +kernel
theorem dX11_correction_43 : decode cX11_correction 43 = .ok (.ireturn, 1) := by decide +kernel
theorem dX11_correction_44 : decode cX11_correction 44 = .ok (.iload 6, 2) := by decide +kernel
theorem dX11_correction_46 : decode cX11_correction 46 = .ok (.bipush 48, 2) := by decide +kernel
theorem dX11_correction_48 : decode cX11_correction 48 = .ok (.isub, 1) := by decide +kernel
theorem dX11_correction_49 : decode cX11_correction 49 = .ok (.istore 7, 2) := by decide +kernel
theorem dX11_correction_51 : decode cX11_correction 51 = .ok (.aload_n 0, 1) := by decide +kernel
theorem dX11_correction_52 : decode cX11_correction 52 = .ok (.dup, 1) := by decide +kernel
theorem dX11_correction_53 : decode cX11_correction 53 = .ok (.getfield 158, 3) := by decide +kernel
theorem dX11_correction_56 : decode cX11_correction 56 = .ok (.iconst 1, 1) := by decide +kernel
theorem dX11_correction_57 : decode cX11_correction 57 = .ok (.iadd, 1) := by decide +kernel
theorem dX11_correction_58 : decode cX11_correction 58 = .ok (.putfield 158, 3) := by decide +kernel
theorem dX11_correction_61 : decode cX11_correction 61 = .ok (.aload_n 0, 1) := by decide +kernel
theorem dX11_correction_62 : decode cX11_correction 62 = .ok (.invokevirtual 167, 3) := by decide +kernel
theorem dX11_correction_65 : decode cX11_correction 65 = .ok (.bipush 48, 2) := by decide +kernel
theorem dX11_correction_67 : decode cX11_correction 67 = .ok (.bipush 57, 2) := by decide +kernel
theorem dX11_correction_69 : decode cX11_correction 69 = .ok (.invokestatic 62, 3) := by decide +kernel
theorem dX11_correction_72 : decode cX11_correction 72 = .ok (.ifCond .eq 33, 3) := by decide +kernel
theorem dX11_correction_75 : decode cX11_correction 75 = .ok (.iload 7, 2) := by decide +kernel
theorem dX11_correction_77 : decode cX11_correction 77 = .ok (.ifCond .le 28, 3) := by decide +kernel
theorem dX11_correction_80 : decode cX11_correction 80 = .ok (.bipush 10, 2) := by decide +kernel
theorem dX11_correction_82 : decode cX11_correction 82 = .ok (.iload 7, 2) := by decide +kernel
theorem dX11_correction_84 : decode cX11_correction 84 = .ok (.imul, 1) := by decide +kernel
theorem dX11_correction_85 : decode cX11_correction 85 = .ok (.aload_n 0, 1) := by decide +kernel
theorem dX11_correction_86 : decode cX11_correction 86 = .ok (.invokevirtual 167, 3) := by decide +kernel
theorem dX11_correction_89 : decode cX11_correction 89 = .ok (.iadd, 1) := by decide +kernel
theorem dX11_correction_90 : decode cX11_correction 90 = .ok (.bipush 48, 2) := by decide +kernel
theorem dX11_correction_92 : decode cX11_correction 92 = .ok (.isub, 1) := by decide +kernel
theorem dX11_correction_93 : decode cX11_correction 93 = .ok (.istore 7, 2) := by decide +kernel
theorem dX11_correction_95 : decode cX11_correction 95 = .ok (.aload_n 0, 1) := by decide +kernel
theorem dX11_correction_96 : decode cX11_correction 96 = .ok (.dup, 1) := by decide +kernel
theorem dX11_correction_97 : decode cX11_correction 97 = .ok (.getfield 158, 3) := by decide +kernel
theorem dX11_correction_100 : decode cX11_correction 100 = .ok (.iconst 1, 1) := by decide +kernel
theorem dX11_correction_101 : decode cX11_correction 101 = .ok (.iadd, 1) := by decide +kernel
theorem dX11_correction_102 : decode cX11_correction 102 = .ok (.putfield 158, 3) := by decide +kernel
theorem dX11_correction_105 : decode cX11_correction 105 = .ok (.aload_n 0, 1) := by decide +kernel
theorem dX11_correction_106 : decode cX11_correction 106 = .ok (.bipush 44, 2) := by decide +kernel
theorem dX11_correction_108 : decode cX11_correction 108 = .ok (.invokevirtual 182, 3) := by decide +kernel
theorem dX11_correction_111 : decode cX11_correction 111 = .ok (.ifCond .ne 5, 3) := by decide +kernel
theorem dX11_correction_114 : decode cX11_correction 114 = .ok (.iconst 0, 1) := by decide +kernel
theorem dX11_correction_115 : decode cX11_correction 115 = .ok (.ireturn, 1) := by decide +kernel
theorem dX11_correction_116 : decode cX11_correction 116 = .ok (.aload_n 0, 1) := by decide +kernel
theorem dX11_correction_117 : decode cX11_correction 117 = .ok (.invokevirtual 167, 3) := by decide +kernel
theorem dX11_correction_120 : decode cX11_correction 120 = .ok (.bipush 97, 2) := by decide +kernel
theorem dX11_correction_122 : decode cX11_correction 122 = .ok (.isub, 1) := by decide +kernel
theorem dX11_correction_123 : decode cX11_correction 123 = .ok (.istore 8, 2) := by decide +kernel
theorem dX11_correction_125 : decode cX11_correction 125 = .ok (.iload 8, 2) := by decide +kernel
theorem dX11_correction_127 : decode cX11_correction 127 = .ok (.iconst 0, 1) := by decide +kernel
theorem dX11_correction_128 : decode cX11_correction 128 = .ok (.iconst 3, 1) := by decide +kernel
theorem dX11_correction_129 : decode cX11_correction 129 = .ok (.invokestatic 62, 3) := by decide +kernel
theorem dX11_correction_132 : decode cX11_correction 132 = .ok (.ifCond .ne 13, 3) := by decide +kernel
theorem dX11_correction_135 : decode cX11_correction 135 = .ok (.aload_n 0, 1) := by decide +kernel
theorem dX11_correction_136 : decode cX11_correction 136 = .ok (.aload_n 0, 1) := by decide +kernel
theorem dX11_correction_137 : decode cX11_correction 137 = .ok (.getfield 158, 3) := by decide +kernel
theorem dX11_correction_140 : decode cX11_correction 140 = .ok (.iconst 1, 1) := by decide +kernel
theorem dX11_correction_141 : decode cX11_correction 141 = .ok (.invokevirtual 170, 3) := by decide +kernel
theorem dX11_correction_144 : decode cX11_correction 144 = .ok (.ireturn, 1) := by decide +kernel
theorem dX11_correction_145 : decode cX11_correction 145 = .ok (.aload_n 0, 1) := by decide +kernel
theorem dX11_correction_146 : decode cX11_correction 146 = .ok (.dup, 1) := by decide +kernel
theorem dX11_correction_147 : decode cX11_correction 147 = .ok (.getfield 158, 3) := by decide +kernel
theorem dX11_correction_150 : decode cX11_correction 150 = .ok (.iconst 1, 1) := by decide +kernel
theorem dX11_correction_151 : decode cX11_correction 151 = .ok (.iadd, 1) := by decide +kernel
theorem dX11_correction_152 : decode cX11_correction 152 = .ok (.putfield 158, 3) := by decide +kernel
theorem dX11_correction_155 : decode cX11_correction 155 = .ok (.aload_n 0, 1) := by decide +kernel
theorem dX11_correction_156 : decode cX11_correction 156 = .ok (.bipush 93, 2) := by decide +kernel
theorem dX11_correction_158 : decode cX11_correction 158 = .ok (.invokevirtual 182, 3) := by decide +kernel
theorem dX11_correction_161 : decode cX11_correction 161 = .ok (.ifCond .ne 5, 3) := by decide +kernel
theorem dX11_correction_164 : decode cX11_correction 164 = .ok (.iconst 0, 1) := by decide +kernel
theorem dX11_correction_165 : decode cX11_correction 165 = .ok (.ireturn, 1) := by decide +kernel
theorem dX11_correction_166 : decode cX11_correction 166 = .ok (.iload 7, 2) := by decide +kernel
theorem dX11_correction_168 : decode cX11_correction 168 = .ok (.iload_n 2, 1) := by decide +kernel
theorem dX11_correction_169 : decode cX11_correction 169 = .ok (.iload_n 2, 1) := by decide +kernel
theorem dX11_correction_170 : decode cX11_correction 170 = .ok (.iload_n 3, 1) := by decide +kernel
theorem dX11_correction_171 : decode cX11_correction 171 = .ok (.imul, 1) := by decide +kernel
theorem dX11_correction_172 : decode cX11_correction 172 = .ok (.iconst 1, 1) := by decide +kernel
theorem dX11_correction_173 : decode cX11_correction 173 = .ok (.isub, 1) := by decide +kernel
theorem dX11_correction_174 : decode cX11_correction 174 = .ok (.invokestatic 62, 3) := by decide +kernel
theorem dX11_correction_177 : decode cX11_correction 177 = .ok (.ifCond .eq 26, 3) := by decide +kernel
theorem dX11_correction_180 : decode cX11_correction 180 = .ok (.iload 7, 2) := by decide +kernel
theorem dX11_correction_182 : decode cX11_correction 182 = .ok (.iload 4, 2) := by decide +kernel
theorem dX11_correction_184 : decode cX11_correction 184 = .ok (.if_icmp .le 19, 3) := by decide +kernel
theorem dX11_correction_187 : decode cX11_correction 187 = .ok (.aload_n 0, 1) := by decide +kernel
theorem dX11_correction_188 : decode cX11_correction 188 = .ok (.getfield 45, 3) := by decide +kernel
theorem dX11_correction_191 : decode cX11_correction 191 = .ok (.iload_n 1, 1) := by decide +kernel
theorem dX11_correction_192 : decode cX11_correction 192 = .ok (.iload 7, 2) := by decide +kernel
theorem dX11_correction_194 : decode cX11_correction 194 = .ok (.iload_n 2, 1) := by decide +kernel
theorem dX11_correction_195 : decode cX11_correction 195 = .ok (.irem, 1) := by decide +kernel
theorem dX11_correction_196 : decode cX11_correction 196 = .ok (.iadd, 1) := by decide +kernel
theorem dX11_correction_197 : decode cX11_correction 197 = .ok (.iaload, 1) := by decide +kernel
theorem dX11_correction_198 : decode cX11_correction 198 = .ok (.iload 8, 2) := by decide +kernel
theorem dX11_correction_200 : decode cX11_correction 200 = .ok (.if_icmp .ne 11, 3) := by decide +kernel
theorem dX11_correction_203 : decode cX11_correction 203 = .ok (.aload_n 0, 1) := by decide +kernel
theorem dX11_correction_204 : decode cX11_correction 204 = .ok (.iload 5, 2) := by decide +kernel
theorem dX11_correction_206 : decode cX11_correction 206 = .ok (.iconst 3, 1) := by decide +kernel
theorem dX11_correction_207 : decode cX11_correction 207 = .ok (.invokevirtual 170, 3) := by decide +kernel
theorem dX11_correction_210 : decode cX11_correction 210 = .ok (.ireturn, 1) := by decide +kernel
theorem dX11_correction_211 : decode cX11_correction 211 = .ok (.aload_n 0, 1) := by decide +kernel
theorem dX11_correction_212 : decode cX11_correction 212 = .ok (.getfield 45, 3) := by decide +kernel
theorem dX11_correction_215 : decode cX11_correction 215 = .ok (.iload_n 1, 1) := by decide +kernel
theorem dX11_correction_216 : decode cX11_correction 216 = .ok (.iload 7, 2) := by decide +kernel
theorem dX11_correction_218 : decode cX11_correction 218 = .ok (.iadd, 1) := by decide +kernel
theorem dX11_correction_219 : decode cX11_correction 219 = .ok (.iload 8, 2) := by decide +kernel
theorem dX11_correction_221 : decode cX11_correction 221 = .ok (.iastore, 1) := by decide +kernel
theorem dX11_correction_222 : decode cX11_correction 222 = .ok (.aload_n 0, 1) := by decide +kernel
theorem dX11_correction_223 : decode cX11_correction 223 = .ok (.dup, 1) := by decide +kernel
theorem dX11_correction_224 : decode cX11_correction 224 = .ok (.getfield 192, 3) := by decide +kernel
theorem dX11_correction_227 : decode cX11_correction 227 = .ok (.iconst 1, 1) := by decide +kernel
theorem dX11_correction_228 : decode cX11_correction 228 = .ok (.iadd, 1) := by decide +kernel
theorem dX11_correction_229 : decode cX11_correction 229 = .ok (.putfield 192, 3) := by decide +kernel
theorem dX11_correction_232 : decode cX11_correction 232 = .ok (.iconst 1, 1) := by decide +kernel
theorem dX11_correction_233 : decode cX11_correction 233 = .ok (.ireturn, 1) := by decide +kernel
set_option maxRecDepth 20000 in
theorem ggX11_endsBlock_X11_faulty : GoodIn wsX11_endsBlock wsX11_faulty := goodIn_r _ [14, 15, 16, 34, 35, 36, 37, 38, 39, 40, 41, 42, 43, 44, 45, 46, 47, 48, 49, 50, 51, 52, 53, 54, 55, 56, 57, 58, 59, 60, 61, 62] (by decide +kernel) (by decide +kernel)
set_option maxRecDepth 20000 in
theorem gX11_endsBlock_X11_faulty : GoodIn wsX11_endsBlock (wsV RX11 170 RX11 yX11_faulty wsX11_faulty) := goodIn_app (goodIn_of _ (by decide +kernel)) ggX11_endsBlock_X11_faulty
set_option maxRecDepth 20000 in
theorem ggX11_endsBlock_X11_sign : GoodIn wsX11_endsBlock wsX11_sign := goodIn_r _ [20, 6, 21, 8, 34, 35, 36, 37, 38, 39, 40, 41, 42, 43, 44, 45, 46, 47, 48, 49, 50, 51, 52, 53, 54, 55, 56, 57, 58, 59, 60, 61, 62] (by decide +kernel) (by decide +kernel)
set_option maxRecDepth 20000 in
theorem gX11_endsBlock_X11_sign : GoodIn wsX11_endsBlock (wsV RX11 167 RX11 yX11_sign wsX11_sign) := goodIn_app (goodIn_of _ (by decide +kernel)) ggX11_endsBlock_X11_sign
set_option maxRecDepth 20000 in
theorem ggX11_endsBlock_X11_correction : GoodIn wsX11_endsBlock wsX11_correction := goodIn_r _ [25, 6, 7, 26, 17, 18, 19, 13, 20, 21, 8, 27, 28, 29, 10, 11, 12, 14, 15, 16, 30, 31, 32, 33, 34, 35, 36, 37, 38, 39, 40, 41, 42, 43, 44, 45, 46, 47, 48, 49, 50, 51, 52, 53, 54, 55, 56, 57, 58, 59, 60, 61, 62] (by decide +kernel) (by decide +kernel)
set_option maxRecDepth 20000 in
theorem gX11_endsBlock_X11_correction : GoodIn wsX11_endsBlock (wsV RX11 195 RX11 yX11_correction wsX11_correction) := goodIn_app (goodIn_of _ (by decide +kernel)) ggX11_endsBlock_X11_correction
