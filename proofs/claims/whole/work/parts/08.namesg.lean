theorem dX11_endsBlock_0 : decode cX11_endsBlock 0 = .ok (.aload_n 0, 1) := by decide +kernel
theorem dX11_endsBlock_1 : decode cX11_endsBlock 1 = .ok (.getfield 48, 3) := by decide +kernel
theorem dX11_endsBlock_4 : decode cX11_endsBlock 4 = .ok (.aload_n 0, 1) := by decide +kernel
theorem dX11_endsBlock_5 : decode cX11_endsBlock 5 = .ok (.getfield 176, 3) := by decide +kernel
theorem dX11_endsBlock_8 : decode cX11_endsBlock 8 = .ok (.iaload, 1) := by decide +kernel
theorem dX11_endsBlock_9 : decode cX11_endsBlock 9 = .ok (.istore_n 1, 1) := by decide +kernel
theorem dX11_endsBlock_10 : decode cX11_endsBlock 10 = .ok (.aload_n 0, 1) := by decide +kernel
theorem dX11_endsBlock_11 : decode cX11_endsBlock 11 = .ok (.getfield 173, 3) := by decide +kernel
theorem dX11_endsBlock_14 : decode cX11_endsBlock 14 = .ok (.iload_n 1, 1) := by decide +kernel
theorem dX11_endsBlock_15 : decode cX11_endsBlock 15 = .ok (.isub, 1) := by decide +kernel
theorem dX11_endsBlock_16 : decode cX11_endsBlock 16 = .ok (.istore_n 2, 1) := by decide +kernel
theorem dX11_endsBlock_17 : decode cX11_endsBlock 17 = .ok (.aload_n 0, 1) := by decide +kernel
theorem dX11_endsBlock_18 : decode cX11_endsBlock 18 = .ok (.getfield 54, 3) := by decide +kernel
theorem dX11_endsBlock_21 : decode cX11_endsBlock 21 = .ok (.aload_n 0, 1) := by decide +kernel
theorem dX11_endsBlock_22 : decode cX11_endsBlock 22 = .ok (.getfield 176, 3) := by decide +kernel
theorem dX11_endsBlock_25 : decode cX11_endsBlock 25 = .ok (.iaload, 1) := by decide +kernel
theorem dX11_endsBlock_26 : decode cX11_endsBlock 26 = .ok (.istore_n 3, 1) := by decide +kernel
theorem dX11_endsBlock_27 : decode cX11_endsBlock 27 = .ok (.aload_n 0, 1) := by decide +kernel
theorem dX11_endsBlock_28 : decode cX11_endsBlock 28 = .ok (.getfield 51, 3) := by decide +kernel
theorem dX11_endsBlock_31 : decode cX11_endsBlock 31 = .ok (.aload_n 0, 1) := by decide +kernel
theorem dX11_endsBlock_32 : decode cX11_endsBlock 32 = .ok (.getfield 176, 3) := by decide +kernel
theorem dX11_endsBlock_35 : decode cX11_endsBlock 35 = .ok (.iaload, 1) := by decide +kernel
theorem dX11_endsBlock_36 : decode cX11_endsBlock 36 = .ok (.istore 4, 2) := by decide +kernel
theorem dX11_endsBlock_38 : decode cX11_endsBlock 38 = .ok (.iload_n 2, 1) := by decide +kernel
theorem dX11_endsBlock_39 : decode cX11_endsBlock 39 = .ok (.ifCond .ne 13, 3) := by decide +kernel
theorem dX11_endsBlock_42 : decode cX11_endsBlock 42 = .ok (.aload_n 0, 1) := by decide +kernel
theorem dX11_endsBlock_43 : decode cX11_endsBlock 43 = .ok (.aload_n 0, 1) := by decide +kernel
theorem dX11_endsBlock_44 : decode cX11_endsBlock 44 = .ok (.getfield 158, 3) := by decide +kernel
theorem dX11_endsBlock_47 : decode cX11_endsBlock 47 = .ok (.iconst 1, 1) := by decide +kernel
theorem dX11_endsBlock_48 : decode cX11_endsBlock 48 = .ok (.invokevirtual 170, 3) := by decide +kernel
theorem dX11_endsBlock_51 : decode cX11_endsBlock 51 = .ok (.ireturn, 1) := by decide +kernel
theorem dX11_endsBlock_52 : decode cX11_endsBlock 52 = .ok (.aload_n 0, 1) := by decide +kernel
theorem dX11_endsBlock_53 : decode cX11_endsBlock 53 = .ok (.dup, 1) := by decide +kernel
theorem dX11_endsBlock_54 : decode cX11_endsBlock 54 = .ok (.getfield 158, 3) := by decide +kernel
theorem dX11_endsBlock_57 : decode cX11_endsBlock 57 = .ok (.iconst 1, 1) := by decide +kernel
theorem dX11_endsBlock_58 : decode cX11_endsBlock 58 = .ok (.iadd, 1) := by decide +kernel
theorem dX11_endsBlock_59 : decode cX11_endsBlock 59 = .ok (.putfield 158, 3) := by decide +kernel
theorem dX11_endsBlock_62 : decode cX11_endsBlock 62 = .ok (.aload_n 0, 1) := by decide +kernel
theorem dX11_endsBlock_63 : decode cX11_endsBlock 63 = .ok (.dup, 1) := by decide +kernel
theorem dX11_endsBlock_64 : decode cX11_endsBlock 64 = .ok (.getfield 176, 3) := by decide +kernel
theorem dX11_endsBlock_67 : decode cX11_endsBlock 67 = .ok (.iconst 1, 1) := by decide +kernel
theorem dX11_endsBlock_68 : decode cX11_endsBlock 68 = .ok (.isub, 1) := by decide +kernel
theorem dX11_endsBlock_69 : decode cX11_endsBlock 69 = .ok (.putfield 176, 3) := by decide +kernel
theorem dX11_endsBlock_72 : decode cX11_endsBlock 72 = .ok (.iload_n 1, 1) := by decide +kernel
theorem dX11_endsBlock_73 : decode cX11_endsBlock 73 = .ok (.aload_n 0, 1) := by decide +kernel
theorem dX11_endsBlock_74 : decode cX11_endsBlock 74 = .ok (.getfield 48, 3) := by decide +kernel
theorem dX11_endsBlock_77 : decode cX11_endsBlock 77 = .ok (.aload_n 0, 1) := by decide +kernel
theorem dX11_endsBlock_78 : decode cX11_endsBlock 78 = .ok (.getfield 176, 3) := by decide +kernel
theorem dX11_endsBlock_81 : decode cX11_endsBlock 81 = .ok (.iaload, 1) := by decide +kernel
theorem dX11_endsBlock_82 : decode cX11_endsBlock 82 = .ok (.isub, 1) := by decide +kernel
theorem dX11_endsBlock_83 : decode cX11_endsBlock 83 = .ok (.iload_n 2, 1) := by decide +kernel
theorem dX11_endsBlock_84 : decode cX11_endsBlock 84 = .ok (.iload_n 3, 1) := by decide +kernel
theorem dX11_endsBlock_85 : decode cX11_endsBlock 85 = .ok (.imul, 1) := by decide +kernel
theorem dX11_endsBlock_86 : decode cX11_endsBlock 86 = .ok (.iadd, 1) := by decide +kernel
theorem dX11_endsBlock_87 : decode cX11_endsBlock 87 = .ok (.bipush 24, 2) := by decide +kernel
theorem dX11_endsBlock_89 : decode cX11_endsBlock 89 = .ok (.if_icmp .le 11, 3) := by decide +kernel
theorem dX11_endsBlock_92 : decode cX11_endsBlock 92 = .ok (.aload_n 0, 1) := by decide +kernel
theorem dX11_endsBlock_93 : decode cX11_endsBlock 93 = .ok (.iload 4, 2) := by decide +kernel
theorem dX11_endsBlock_95 : decode cX11_endsBlock 95 = .ok (.iconst 4, 1) := by decide +kernel
theorem dX11_endsBlock_96 : decode cX11_endsBlock 96 = .ok (.invokevirtual 170, 3) := by decide +kernel
theorem dX11_endsBlock_99 : decode cX11_endsBlock 99 = .ok (.ireturn, 1) := by decide +kernel
theorem dX11_endsBlock_100 : decode cX11_endsBlock 100 = .ok (.iload_n 2, 1) := by decide +kernel
theorem dX11_endsBlock_101 : decode cX11_endsBlock 101 = .ok (.istore 5, 2) := by decide +kernel
theorem dX11_endsBlock_103 : decode cX11_endsBlock 103 = .ok (.iload 5, 2) := by decide +kernel
theorem dX11_endsBlock_105 : decode cX11_endsBlock 105 = .ok (.iload_n 2, 1) := by decide +kernel
theorem dX11_endsBlock_106 : decode cX11_endsBlock 106 = .ok (.iload_n 3, 1) := by decide +kernel
theorem dX11_endsBlock_107 : decode cX11_endsBlock 107 = .ok (.imul, 1) := by decide +kernel
theorem dX11_endsBlock_108 : decode cX11_endsBlock 108 = .ok (.if_icmp .ge 29, 3) := by decide +kernel
theorem dX11_endsBlock_111 : decode cX11_endsBlock 111 = .ok (.aload_n 0, 1) := by decide +kernel
theorem dX11_endsBlock_112 : decode cX11_endsBlock 112 = .ok (.getfield 45, 3) := by decide +kernel
theorem dX11_endsBlock_115 : decode cX11_endsBlock 115 = .ok (.iload_n 1, 1) := by decide +kernel
theorem dX11_endsBlock_116 : decode cX11_endsBlock 116 = .ok (.iload 5, 2) := by decide +kernel
theorem dX11_endsBlock_118 : decode cX11_endsBlock 118 = .ok (.iadd, 1) := by decide +kernel
theorem dX11_endsBlock_119 : decode cX11_endsBlock 119 = .ok (.aload_n 0, 1) := by decide +kernel
theorem dX11_endsBlock_120 : decode cX11_endsBlock 120 = .ok (.getfield 45, 3) := by decide +kernel
theorem dX11_endsBlock_123 : decode cX11_endsBlock 123 = .ok (.iload_n 1, 1) := by decide +kernel
theorem dX11_endsBlock_124 : decode cX11_endsBlock 124 = .ok (.iload 5, 2) := by decide +kernel
theorem dX11_endsBlock_126 : decode cX11_endsBlock 126 = .ok (.iadd, 1) := by decide +kernel
theorem dX11_endsBlock_127 : decode cX11_endsBlock 127 = .ok (.iload_n 2, 1) := by decide +kernel
theorem dX11_endsBlock_128 : decode cX11_endsBlock 128 = .ok (.isub, 1) := by decide +kernel
theorem dX11_endsBlock_129 : decode cX11_endsBlock 129 = .ok (.iaload, 1) := by decide +kernel
theorem dX11_endsBlock_130 : decode cX11_endsBlock 130 = .ok (.iastore, 1) := by decide +kernel
theorem dX11_endsBlock_131 : decode cX11_endsBlock 131 = .ok (.iinc 5 1, 3) := by decide +kernel
theorem dX11_endsBlock_134 : decode cX11_endsBlock 134 = .ok (.goto (-31), 3) := by decide +kernel
theorem dX11_endsBlock_137 : decode cX11_endsBlock 137 = .ok (.aload_n 0, 1) := by decide +kernel
theorem dX11_endsBlock_138 : decode cX11_endsBlock 138 = .ok (.iload_n 1, 1) := by decide +kernel
theorem dX11_endsBlock_139 : decode cX11_endsBlock 139 = .ok (.iload_n 2, 1) := by decide +kernel
theorem dX11_endsBlock_140 : decode cX11_endsBlock 140 = .ok (.iload_n 3, 1) := by decide +kernel
theorem dX11_endsBlock_141 : decode cX11_endsBlock 141 = .ok (.imul, 1) := by decide +kernel
theorem dX11_endsBlock_142 : decode cX11_endsBlock 142 = .ok (.iadd, 1) := by decide +kernel
theorem dX11_endsBlock_143 : decode cX11_endsBlock 143 = .ok (.putfield 173, 3) := by decide +kernel
theorem dX11_endsBlock_146 : decode cX11_endsBlock 146 = .ok (.iconst 0, 1) := by decide +kernel
theorem dX11_endsBlock_147 : decode cX11_endsBlock 147 = .ok (.istore 5, 2) := by decide +kernel
theorem dX11_endsBlock_149 : decode cX11_endsBlock 149 = .ok (.iconst (-1), 1) := by decide +kernel
theorem dX11_endsBlock_150 : decode cX11_endsBlock 150 = .ok (.istore 6, 2) := by decide +kernel
theorem dX11_endsBlock_152 : decode cX11_endsBlock 152 = .ok (.aload_n 0, 1) := by decide +kernel
theorem dX11_endsBlock_153 : decode cX11_endsBlock 153 = .ok (.invokevirtual 167, 3) := by decide +kernel
theorem dX11_endsBlock_156 : decode cX11_endsBlock 156 = .ok (.bipush 91, 2) := by decide +kernel
theorem dX11_endsBlock_158 : decode cX11_endsBlock 158 = .ok (.if_icmp .ne 88, 3) := by decide +kernel
theorem dX11_endsBlock_161 : decode cX11_endsBlock 161 = .ok (.aload_n 0, 1) := by decide +kernel
theorem dX11_endsBlock_162 : decode cX11_endsBlock 162 = .ok (.getfield 158, 3) := by decide +kernel
theorem dX11_endsBlock_165 : decode cX11_endsBlock 165 = .ok (.istore 7, 2) := by decide +kernel
theorem dX11_endsBlock_167 : decode cX11_endsBlock 167 = .ok (.aload_n 0, 1) := by decide +kernel
theorem dX11_endsBlock_168 : decode cX11_endsBlock 168 = .ok (.iload_n 1, 1) := by decide +kernel
theorem dX11_endsBlock_169 : decode cX11_endsBlock 169 = .ok (.iload_n 2, 1) := by decide +kernel
theorem dX11_endsBlock_170 : decode cX11_endsBlock 170 = .ok (.iload_n 3, 1) := by decide +kernel
theorem dX11_endsBlock_171 : decode cX11_endsBlock 171 = .ok (.iload 6, 2) := by decide +kernel
theorem dX11_endsBlock_173 : decode cX11_endsBlock 173 = .ok (.invokevirtual 195, 3) := by decide +kernel
theorem dX11_endsBlock_176 : decode cX11_endsBlock 176 = .ok (.ifCond .ne 5, 3) := by decide +kernel
theorem dX11_endsBlock_179 : decode cX11_endsBlock 179 = .ok (.iconst 0, 1) := by decide +kernel
theorem dX11_endsBlock_180 : decode cX11_endsBlock 180 = .ok (.ireturn, 1) := by decide +kernel
theorem dX11_endsBlock_181 : decode cX11_endsBlock 181 = .ok (.aload_n 0, 1) := by decide +kernel
theorem dX11_endsBlock_182 : decode cX11_endsBlock 182 = .ok (.getfield 19, 3) := by decide +kernel
theorem dX11_endsBlock_185 : decode cX11_endsBlock 185 = .ok (.iload 7, 2) := by decide +kernel
theorem dX11_endsBlock_187 : decode cX11_endsBlock 187 = .ok (.iconst 2, 1) := by decide +kernel
theorem dX11_endsBlock_188 : decode cX11_endsBlock 188 = .ok (.iadd, 1) := by decide +kernel
theorem dX11_endsBlock_189 : decode cX11_endsBlock 189 = .ok (.caload, 1) := by decide +kernel
theorem dX11_endsBlock_190 : decode cX11_endsBlock 190 = .ok (.bipush 44, 2) := by decide +kernel
theorem dX11_endsBlock_192 : decode cX11_endsBlock 192 = .ok (.if_icmp .ne 18, 3) := by decide +kernel
theorem dX11_endsBlock_195 : decode cX11_endsBlock 195 = .ok (.aload_n 0, 1) := by decide +kernel
theorem dX11_endsBlock_196 : decode cX11_endsBlock 196 = .ok (.getfield 19, 3) := by decide +kernel
theorem dX11_endsBlock_199 : decode cX11_endsBlock 199 = .ok (.iload 7, 2) := by decide +kernel
theorem dX11_endsBlock_201 : decode cX11_endsBlock 201 = .ok (.iconst 1, 1) := by decide +kernel
theorem dX11_endsBlock_202 : decode cX11_endsBlock 202 = .ok (.iadd, 1) := by decide +kernel
theorem dX11_endsBlock_203 : decode cX11_endsBlock 203 = .ok (.caload, 1) := by decide +kernel
theorem dX11_endsBlock_204 : decode cX11_endsBlock 204 = .ok (.bipush 48, 2) := by decide +kernel
theorem dX11_endsBlock_206 : decode cX11_endsBlock 206 = .ok (.isub, 1) := by decide +kernel
theorem dX11_endsBlock_207 : decode cX11_endsBlock 207 = .ok (.goto 31, 3) := by decide +kernel
theorem dX11_endsBlock_210 : decode cX11_endsBlock 210 = .ok (.bipush 10, 2) := by decide +kernel
theorem dX11_endsBlock_212 : decode cX11_endsBlock 212 = .ok (.aload_n 0, 1) := by decide +kernel
theorem dX11_endsBlock_213 : decode cX11_endsBlock 213 = .ok (.getfield 19, 3) := by decide +kernel
theorem dX11_endsBlock_216 : decode cX11_endsBlock 216 = .ok (.iload 7, 2) := by decide +kernel
theorem dX11_endsBlock_218 : decode cX11_endsBlock 218 = .ok (.iconst 1, 1) := by decide +kernel
theorem dX11_endsBlock_219 : decode cX11_endsBlock 219 = .ok (.iadd, 1) := by decide +kernel
theorem dX11_endsBlock_220 : decode cX11_endsBlock 220 = .ok (.caload, 1) := by decide +kernel
theorem dX11_endsBlock_221 : decode cX11_endsBlock 221 = .ok (.bipush 48, 2) := by decide +kernel
theorem dX11_endsBlock_223 : decode cX11_endsBlock 223 = .ok (.isub, 1) := by decide +kernel
theorem dX11_endsBlock_224 : decode cX11_endsBlock 224 = .ok (.imul, 1) := by decide +kernel
theorem dX11_endsBlock_225 : decode cX11_endsBlock 225 = .ok (.aload_n 0, 1) := by decide +kernel
theorem dX11_endsBlock_226 : decode cX11_endsBlock 226 = .ok (.getfield 19, 3) := by decide +kernel
theorem dX11_endsBlock_229 : decode cX11_endsBlock 229 = .ok (.iload 7, 2) := by decide +kernel
theorem dX11_endsBlock_231 : decode cX11_endsBlock 231 = .ok (.iconst 2, 1) := by decide +kernel
theorem dX11_endsBlock_232 : decode cX11_endsBlock 232 = .ok (.iadd, 1) := by decide +kernel
theorem dX11_endsBlock_233 : decode cX11_endsBlock 233 = .ok (.caload, 1) := by decide +kernel
theorem dX11_endsBlock_234 : decode cX11_endsBlock 234 = .ok (.iadd, 1) := by decide +kernel
theorem dX11_endsBlock_235 : decode cX11_endsBlock 235 = .ok (.bipush 48, 2) := by decide +kernel
theorem dX11_endsBlock_237 : decode cX11_endsBlock 237 = .ok (.isub, 1) := by decide +kernel
theorem dX11_endsBlock_238 : decode cX11_endsBlock 238 = .ok (.istore 6, 2) := by decide +kernel
theorem dX11_endsBlock_240 : decode cX11_endsBlock 240 = .ok (.iinc 5 1, 3) := by decide +kernel
theorem dX11_endsBlock_243 : decode cX11_endsBlock 243 = .ok (.goto (-91), 3) := by decide +kernel
theorem dX11_endsBlock_246 : decode cX11_endsBlock 246 = .ok (.aload_n 0, 1) := by decide +kernel
theorem dX11_endsBlock_247 : decode cX11_endsBlock 247 = .ok (.iload 5, 2) := by decide +kernel
theorem dX11_endsBlock_249 : decode cX11_endsBlock 249 = .ok (.aload_n 0, 1) := by decide +kernel
theorem dX11_endsBlock_250 : decode cX11_endsBlock 250 = .ok (.getfield 199, 3) := by decide +kernel
theorem dX11_endsBlock_253 : decode cX11_endsBlock 253 = .ok (.if_icmp .le 8, 3) := by decide +kernel
theorem dX11_endsBlock_256 : decode cX11_endsBlock 256 = .ok (.iload 5, 2) := by decide +kernel
theorem dX11_endsBlock_258 : decode cX11_endsBlock 258 = .ok (.goto 7, 3) := by decide +kernel
theorem dX11_endsBlock_261 : decode cX11_endsBlock 261 = .ok (.aload_n 0, 1) := by decide +kernel
theorem dX11_endsBlock_262 : decode cX11_endsBlock 262 = .ok (.getfield 199, 3) := by decide +kernel
theorem dX11_endsBlock_265 : decode cX11_endsBlock 265 = .ok (.putfield 199, 3) := by decide +kernel
theorem dX11_endsBlock_268 : decode cX11_endsBlock 268 = .ok (.iconst 1, 1) := by decide +kernel
theorem dX11_endsBlock_269 : decode cX11_endsBlock 269 = .ok (.ireturn, 1) := by decide +kernel
set_option maxRecDepth 20000 in
theorem ggX11_reads_X11_sign : GoodIn wsX11_reads wsX11_sign := goodIn_r _ [15, 1, 10, 16, 49, 50, 51, 52, 53, 54, 55, 56, 57, 58, 59, 60, 61, 62, 63, 64, 65, 66, 67, 68, 69, 70, 71, 72, 73, 74, 75, 76, 77] (by decide +kernel) (by decide +kernel)
set_option maxRecDepth 20000 in
theorem gX11_reads_X11_sign : GoodIn wsX11_reads (wsV RX11 167 RX11 yX11_sign wsX11_sign) := goodIn_app (goodIn_of _ (by decide +kernel)) ggX11_reads_X11_sign
set_option maxRecDepth 20000 in
theorem ggX11_reads_X11_in : GoodIn wsX11_reads wsX11_in := goodIn_r _ [19] (by decide +kernel) (by decide +kernel)
set_option maxRecDepth 20000 in
theorem gX11_reads_X11_in : GoodIn wsX11_reads (va_wsS RX11 62 yX11_in wsX11_in) := goodIn_app (goodIn_of _ (by decide +kernel)) ggX11_reads_X11_in
set_option maxRecDepth 20000 in
theorem ggX11_reads_X11_readsLetter : GoodIn wsX11_reads wsX11_readsLetter := goodIn_r _ [23, 2, 9, 3, 1, 24, 5, 25, 26, 27, 14, 28, 29, 30, 11, 12, 13, 15, 10, 16, 49, 50, 51, 52, 53, 54, 55, 56, 57, 58, 59, 60, 61, 62, 63, 64, 65, 66, 67, 68, 69, 70, 71, 72, 73, 74, 75, 76, 77] (by decide +kernel) (by decide +kernel)
set_option maxRecDepth 20000 in
theorem gX11_reads_X11_readsLetter : GoodIn wsX11_reads (wsV RX11 202 RX11 yX11_readsLetter wsX11_readsLetter) := goodIn_app (goodIn_of _ (by decide +kernel)) ggX11_reads_X11_readsLetter
set_option maxRecDepth 20000 in
theorem ggX11_reads_X11_opensBlock : GoodIn wsX11_reads wsX11_opensBlock := goodIn_r _ [34, 1, 3, 4, 9, 2, 35, 36, 6, 11, 12, 13, 14, 15, 10, 16, 17, 18, 19, 37, 38, 39, 40, 25, 26, 27, 28, 29, 30, 49, 50, 51, 52, 53, 54, 55, 56, 57, 58, 59, 60, 61, 62, 63, 64, 65, 66, 67, 68, 69, 70, 71, 72, 73, 74, 75, 76, 77] (by decide +kernel) (by decide +kernel)
set_option maxRecDepth 20000 in
theorem gX11_reads_X11_opensBlock : GoodIn wsX11_reads (wsV RX11 206 RX11 yX11_opensBlock wsX11_opensBlock) := goodIn_app (goodIn_of _ (by decide +kernel)) ggX11_reads_X11_opensBlock
set_option maxRecDepth 20000 in
theorem ggX11_reads_X11_endsBlock : GoodIn wsX11_reads wsX11_endsBlock := goodIn_r _ [44, 9, 3, 2, 36, 35, 1, 24, 16, 8, 25, 26, 27, 14, 28, 29, 30, 11, 12, 13, 15, 10, 45, 46, 47, 48, 7, 17, 18, 19, 37, 38, 39, 40, 49, 50, 51, 52, 53, 54, 55, 56, 57, 58, 59, 60, 61, 62, 63, 64, 65, 66, 67, 68, 69, 70, 71, 72, 73, 74, 75, 76, 77] (by decide +kernel) (by decide +kernel)
set_option maxRecDepth 20000 in
theorem gX11_reads_X11_endsBlock : GoodIn wsX11_reads (wsV RX11 209 RX11 yX11_endsBlock wsX11_endsBlock) := goodIn_app (goodIn_of _ (by decide +kernel)) ggX11_reads_X11_endsBlock
set_option maxRecDepth 20000 in
theorem ggX11_reads_X11_faulty : GoodIn wsX11_reads wsX11_faulty := goodIn_r _ [28, 29, 30, 49, 50, 51, 52, 53, 54, 55, 56, 57, 58, 59, 60, 61, 62, 63, 64, 65, 66, 67, 68, 69, 70, 71, 72, 73, 74, 75, 76, 77] (by decide +kernel) (by decide +kernel)
set_option maxRecDepth 20000 in
theorem gX11_reads_X11_faulty : GoodIn wsX11_reads (wsV RX11 170 RX11 yX11_faulty wsX11_faulty) := goodIn_app (goodIn_of _ (by decide +kernel)) ggX11_reads_X11_faulty
theorem dX11_reads_0 : decode cX11_reads 0 = .ok (.aload_n 0, 1) := by decide +kernel
theorem dX11_reads_1 : decode cX11_reads 1 = .ok (.iconst 0, 1) := by decide +kernel
theorem dX11_reads_2 : decode cX11_reads 2 = .ok (.putfield 158, 3) := by decide +kernel
theorem dX11_reads_5 : decode cX11_reads 5 = .ok (.aload_n 0, 1) := by decide +kernel
theorem dX11_reads_6 : decode cX11_reads 6 = .ok (.iconst 0, 1) := by decide +kernel
theorem dX11_reads_7 : decode cX11_reads 7 = .ok (.putfield 173, 3) := by decide +kernel
theorem dX11_reads_10 : decode cX11_reads 10 = .ok (.aload_n 0, 1) := by decide +kernel
theorem dX11_reads_11 : decode cX11_reads 11 = .ok (.iconst 0, 1) := by decide +kernel
theorem dX11_reads_12 : decode cX11_reads 12 = .ok (.putfield 176, 3) := by decide +kernel
theorem dX11_reads_15 : decode cX11_reads 15 = .ok (.aload_n 0, 1) := by decide +kernel
theorem dX11_reads_16 : decode cX11_reads 16 = .ok (.iconst 0, 1) := by decide +kernel
theorem dX11_reads_17 : decode cX11_reads 17 = .ok (.putfield 186, 3) := by decide +kernel
theorem dX11_reads_20 : decode cX11_reads 20 = .ok (.aload_n 0, 1) := by decide +kernel
theorem dX11_reads_21 : decode cX11_reads 21 = .ok (.iconst 0, 1) := by decide +kernel
theorem dX11_reads_22 : decode cX11_reads 22 = .ok (.putfield 179, 3) := by decide +kernel
theorem dX11_reads_25 : decode cX11_reads 25 = .ok (.aload_n 0, 1) := by decide +kernel
theorem dX11_reads_26 : decode cX11_reads 26 = .ok (.iconst 0, 1) := by decide +kernel
theorem dX11_reads_27 : decode cX11_reads 27 = .ok (.putfield 189, 3) := by decide +kernel
theorem dX11_reads_30 : decode cX11_reads 30 = .ok (.aload_n 0, 1) := by decide +kernel
theorem dX11_reads_31 : decode cX11_reads 31 = .ok (.iconst 0, 1) := by decide +kernel
theorem dX11_reads_32 : decode cX11_reads 32 = .ok (.putfield 192, 3) := by decide +kernel
theorem dX11_reads_35 : decode cX11_reads 35 = .ok (.aload_n 0, 1) := by decide +kernel
theorem dX11_reads_36 : decode cX11_reads 36 = .ok (.iconst 0, 1) := by decide +kernel
theorem dX11_reads_37 : decode cX11_reads 37 = .ok (.putfield 199, 3) := by decide +kernel
theorem dX11_reads_40 : decode cX11_reads 40 = .ok (.aload_n 0, 1) := by decide +kernel
theorem dX11_reads_41 : decode cX11_reads 41 = .ok (.getfield 48, 3) := by decide +kernel
theorem dX11_reads_44 : decode cX11_reads 44 = .ok (.iconst 0, 1) := by decide +kernel
theorem dX11_reads_45 : decode cX11_reads 45 = .ok (.iconst 0, 1) := by decide +kernel
theorem dX11_reads_46 : decode cX11_reads 46 = .ok (.iastore, 1) := by decide +kernel
theorem dX11_reads_47 : decode cX11_reads 47 = .ok (.iconst 1, 1) := by decide +kernel
theorem dX11_reads_48 : decode cX11_reads 48 = .ok (.istore_n 1, 1) := by decide +kernel
theorem dX11_reads_49 : decode cX11_reads 49 = .ok (.iload_n 1, 1) := by decide +kernel
theorem dX11_reads_50 : decode cX11_reads 50 = .ok (.ifCond .eq 88, 3) := by decide +kernel
theorem dX11_reads_53 : decode cX11_reads 53 = .ok (.aload_n 0, 1) := by decide +kernel
theorem dX11_reads_54 : decode cX11_reads 54 = .ok (.getfield 158, 3) := by decide +kernel
theorem dX11_reads_57 : decode cX11_reads 57 = .ok (.aload_n 0, 1) := by decide +kernel
theorem dX11_reads_58 : decode cX11_reads 58 = .ok (.getfield 155, 3) := by decide +kernel
theorem dX11_reads_61 : decode cX11_reads 61 = .ok (.if_icmp .ge 77, 3) := by decide +kernel
theorem dX11_reads_64 : decode cX11_reads 64 = .ok (.aload_n 0, 1) := by decide +kernel
theorem dX11_reads_65 : decode cX11_reads 65 = .ok (.invokevirtual 167, 3) := by decide +kernel
theorem dX11_reads_68 : decode cX11_reads 68 = .ok (.istore_n 2, 1) := by decide +kernel
theorem dX11_reads_69 : decode cX11_reads 69 = .ok (.iload_n 2, 1) := by decide +kernel
theorem dX11_reads_70 : decode cX11_reads 70 = .ok (.bipush 97, 2) := by decide +kernel
theorem dX11_reads_72 : decode cX11_reads 72 = .ok (.bipush 100, 2) := by decide +kernel
theorem dX11_reads_74 : decode cX11_reads 74 = .ok (.invokestatic 62, 3) := by decide +kernel
theorem dX11_reads_77 : decode cX11_reads 77 = .ok (.ifCond .eq 10, 3) := by decide +kernel
theorem dX11_reads_80 : decode cX11_reads 80 = .ok (.aload_n 0, 1) := by decide +kernel
theorem dX11_reads_81 : decode cX11_reads 81 = .ok (.invokevirtual 202, 3) := by decide +kernel
theorem dX11_reads_84 : decode cX11_reads 84 = .ok (.goto 50, 3) := by decide +kernel
theorem dX11_reads_87 : decode cX11_reads 87 = .ok (.iload_n 2, 1) := by decide +kernel
theorem dX11_reads_88 : decode cX11_reads 88 = .ok (.bipush 49, 2) := by decide +kernel
theorem dX11_reads_90 : decode cX11_reads 90 = .ok (.bipush 57, 2) := by decide +kernel
theorem dX11_reads_92 : decode cX11_reads 92 = .ok (.invokestatic 62, 3) := by decide +kernel
theorem dX11_reads_95 : decode cX11_reads 95 = .ok (.ifCond .eq 10, 3) := by decide +kernel
theorem dX11_reads_98 : decode cX11_reads 98 = .ok (.aload_n 0, 1) := by decide +kernel
theorem dX11_reads_99 : decode cX11_reads 99 = .ok (.invokevirtual 206, 3) := by decide +kernel
theorem dX11_reads_102 : decode cX11_reads 102 = .ok (.goto 32, 3) := by decide +kernel
theorem dX11_reads_105 : decode cX11_reads 105 = .ok (.iload_n 2, 1) := by decide +kernel
theorem dX11_reads_106 : decode cX11_reads 106 = .ok (.bipush 41, 2) := by decide +kernel
theorem dX11_reads_108 : decode cX11_reads 108 = .ok (.if_icmp .ne 17, 3) := by decide +kernel
theorem dX11_reads_111 : decode cX11_reads 111 = .ok (.aload_n 0, 1) := by decide +kernel
theorem dX11_reads_112 : decode cX11_reads 112 = .ok (.getfield 176, 3) := by decide +kernel
theorem dX11_reads_115 : decode cX11_reads 115 = .ok (.ifCond .le 10, 3) := by decide +kernel
theorem dX11_reads_118 : decode cX11_reads 118 = .ok (.aload_n 0, 1) := by decide +kernel
theorem dX11_reads_119 : decode cX11_reads 119 = .ok (.invokevirtual 209, 3) := by decide +kernel
theorem dX11_reads_122 : decode cX11_reads 122 = .ok (.goto 12, 3) := by decide +kernel
theorem dX11_reads_125 : decode cX11_reads 125 = .ok (.aload_n 0, 1) := by decide +kernel
theorem dX11_reads_126 : decode cX11_reads 126 = .ok (.aload_n 0, 1) := by decide +kernel
theorem dX11_reads_127 : decode cX11_reads 127 = .ok (.getfield 158, 3) := by decide +kernel
theorem dX11_reads_130 : decode cX11_reads 130 = .ok (.iconst 1, 1) := by decide +kernel
theorem dX11_reads_131 : decode cX11_reads 131 = .ok (.invokevirtual 170, 3) := by decide +kernel
theorem dX11_reads_134 : decode cX11_reads 134 = .ok (.istore_n 1, 1) := by decide +kernel
theorem dX11_reads_135 : decode cX11_reads 135 = .ok (.goto (-86), 3) := by decide +kernel
theorem dX11_reads_138 : decode cX11_reads 138 = .ok (.iload_n 1, 1) := by decide +kernel
theorem dX11_reads_139 : decode cX11_reads 139 = .ok (.ifCond .eq 33, 3) := by decide +kernel
theorem dX11_reads_142 : decode cX11_reads 142 = .ok (.aload_n 0, 1) := by decide +kernel
theorem dX11_reads_143 : decode cX11_reads 143 = .ok (.getfield 176, 3) := by decide +kernel
theorem dX11_reads_146 : decode cX11_reads 146 = .ok (.ifCond .gt 10, 3) := by decide +kernel
theorem dX11_reads_149 : decode cX11_reads 149 = .ok (.aload_n 0, 1) := by decide +kernel
theorem dX11_reads_150 : decode cX11_reads 150 = .ok (.getfield 155, 3) := by decide +kernel
theorem dX11_reads_153 : decode cX11_reads 153 = .ok (.ifCond .ne 15, 3) := by decide +kernel
theorem dX11_reads_156 : decode cX11_reads 156 = .ok (.aload_n 0, 1) := by decide +kernel
theorem dX11_reads_157 : decode cX11_reads 157 = .ok (.aload_n 0, 1) := by decide +kernel
theorem dX11_reads_158 : decode cX11_reads 158 = .ok (.getfield 155, 3) := by decide +kernel
theorem dX11_reads_161 : decode cX11_reads 161 = .ok (.iconst 1, 1) := by decide +kernel
theorem dX11_reads_162 : decode cX11_reads 162 = .ok (.invokevirtual 170, 3) := by decide +kernel
theorem dX11_reads_165 : decode cX11_reads 165 = .ok (.ifCond .eq 7, 3) := by decide +kernel
theorem dX11_reads_168 : decode cX11_reads 168 = .ok (.iconst 1, 1) := by decide +kernel
theorem dX11_reads_169 : decode cX11_reads 169 = .ok (.goto 4, 3) := by decide +kernel
theorem dX11_reads_172 : decode cX11_reads 172 = .ok (.iconst 0, 1) := by decide +kernel
theorem dX11_reads_173 : decode cX11_reads 173 = .ok (.ireturn, 1) := by decide +kernel
set_option maxRecDepth 20000 in
theorem ggX11_fault_X11_in : GoodIn wsX11_fault wsX11_in := goodIn_r _ [8] (by decide +kernel) (by decide +kernel)
set_option maxRecDepth 20000 in
theorem gX11_fault_X11_in : GoodIn wsX11_fault (va_wsS RX11 62 yX11_in wsX11_in) := goodIn_app (goodIn_of _ (by decide +kernel)) ggX11_fault_X11_in
set_option maxRecDepth 20000 in
theorem ggX11_fault_X11_reads : GoodIn wsX11_fault wsX11_reads := goodIn_r _ [12, 13, 14, 15, 16, 17, 18, 19, 20, 21, 22, 23, 24, 25, 7, 26, 27, 5, 6, 8, 28, 29, 30, 31, 32, 33, 34, 35, 36, 3, 4, 37, 38, 39, 40, 41, 42, 43, 44, 45, 46, 47, 48, 49, 50, 51, 52, 53, 54, 55, 56, 57, 58, 59, 60, 61, 62, 63, 64, 65, 66, 67, 68, 69, 70, 71, 72, 73, 74, 75, 76, 77, 78, 79, 80, 81, 82, 83] (by decide +kernel) (by decide +kernel)
set_option maxRecDepth 20000 in
theorem gX11_fault_X11_reads : GoodIn wsX11_fault (wsV RX11 212 RX11 yX11_reads wsX11_reads) := goodIn_app (goodIn_of _ (by decide +kernel)) ggX11_fault_X11_reads
theorem dX11_fault_0 : decode cX11_fault 0 = .ok (.iload_n 1, 1) := by decide +kernel
theorem dX11_fault_1 : decode cX11_fault 1 = .ok (.iconst 0, 1) := by decide +kernel
theorem dX11_fault_2 : decode cX11_fault 2 = .ok (.iconst 1, 1) := by decide +kernel
theorem dX11_fault_3 : decode cX11_fault 3 = .ok (.invokestatic 62, 3) := by decide +kernel
theorem dX11_fault_6 : decode cX11_fault 6 = .ok (.ifCond .ne 6, 3) := by decide +kernel
theorem dX11_fault_9 : decode cX11_fault 9 = .ok (.ldc 57, 2) := by decide +kernel
theorem dX11_fault_11 : decode cX11_fault 11 = .ok (.ireturn, 1) := by decide +kernel
theorem dX11_fault_12 : decode cX11_fault 12 = .ok (.aload_n 0, 1) := by decide +kernel
theorem dX11_fault_13 : decode cX11_fault 13 = .ok (.invokevirtual 212, 3) := by decide +kernel
theorem dX11_fault_16 : decode cX11_fault 16 = .ok (.ifCond .eq 8, 3) := by decide +kernel
theorem dX11_fault_19 : decode cX11_fault 19 = .ok (.ldc 79, 2) := by decide +kernel
theorem dX11_fault_21 : decode cX11_fault 21 = .ok (.goto 18, 3) := by decide +kernel
theorem dX11_fault_24 : decode cX11_fault 24 = .ok (.iload_n 1, 1) := by decide +kernel
theorem dX11_fault_25 : decode cX11_fault 25 = .ok (.ifCond .ne 10, 3) := by decide +kernel
theorem dX11_fault_28 : decode cX11_fault 28 = .ok (.aload_n 0, 1) := by decide +kernel
theorem dX11_fault_29 : decode cX11_fault 29 = .ok (.getfield 161, 3) := by decide +kernel
theorem dX11_fault_32 : decode cX11_fault 32 = .ok (.goto 7, 3) := by decide +kernel
theorem dX11_fault_35 : decode cX11_fault 35 = .ok (.aload_n 0, 1) := by decide +kernel
theorem dX11_fault_36 : decode cX11_fault 36 = .ok (.getfield 164, 3) := by decide +kernel
theorem dX11_fault_39 : decode cX11_fault 39 = .ok (.ireturn, 1) := by decide +kernel
theorem dX11_isRow_0 : decode cX11_isRow 0 = .ok (.aload_n 0, 1) := by decide +kernel
theorem dX11_isRow_1 : decode cX11_isRow 1 = .ok (.getfield 173, 3) := by decide +kernel
theorem dX11_isRow_4 : decode cX11_isRow 4 = .ok (.aload_n 0, 1) := by decide +kernel
theorem dX11_isRow_5 : decode cX11_isRow 5 = .ok (.getfield 7, 3) := by decide +kernel
theorem dX11_isRow_8 : decode cX11_isRow 8 = .ok (.iconst 0, 1) := by decide +kernel
theorem dX11_isRow_9 : decode cX11_isRow 9 = .ok (.iaload, 1) := by decide +kernel
theorem dX11_isRow_10 : decode cX11_isRow 10 = .ok (.if_icmp .ne 7, 3) := by decide +kernel
theorem dX11_isRow_13 : decode cX11_isRow 13 = .ok (.iconst 1, 1) := by decide +kernel
theorem dX11_isRow_14 : decode cX11_isRow 14 = .ok (.goto 4, 3) := by decide +kernel
theorem dX11_isRow_17 : decode cX11_isRow 17 = .ok (.iconst 0, 1) := by decide +kernel
theorem dX11_isRow_18 : decode cX11_isRow 18 = .ok (.istore_n 1, 1) := by decide +kernel
theorem dX11_isRow_19 : decode cX11_isRow 19 = .ok (.iconst 0, 1) := by decide +kernel
theorem dX11_isRow_20 : decode cX11_isRow 20 = .ok (.istore_n 2, 1) := by decide +kernel
theorem dX11_isRow_21 : decode cX11_isRow 21 = .ok (.iload_n 2, 1) := by decide +kernel
theorem dX11_isRow_22 : decode cX11_isRow 22 = .ok (.aload_n 0, 1) := by decide +kernel
theorem dX11_isRow_23 : decode cX11_isRow 23 = .ok (.getfield 7, 3) := by decide +kernel
theorem dX11_isRow_26 : decode cX11_isRow 26 = .ok (.iconst 0, 1) := by decide +kernel
theorem dX11_isRow_27 : decode cX11_isRow 27 = .ok (.iaload, 1) := by decide +kernel
theorem dX11_isRow_28 : decode cX11_isRow 28 = .ok (.if_icmp .ge 37, 3) := by decide +kernel
theorem dX11_isRow_31 : decode cX11_isRow 31 = .ok (.iload_n 1, 1) := by decide +kernel
theorem dX11_isRow_32 : decode cX11_isRow 32 = .ok (.ifCond .eq 33, 3) := by decide +kernel
theorem dX11_isRow_35 : decode cX11_isRow 35 = .ok (.aload_n 0, 1) := by decide +kernel
theorem dX11_isRow_36 : decode cX11_isRow 36 = .ok (.getfield 45, 3) := by decide +kernel
theorem dX11_isRow_39 : decode cX11_isRow 39 = .ok (.iload_n 2, 1) := by decide +kernel
theorem dX11_isRow_40 : decode cX11_isRow 40 = .ok (.iaload, 1) := by decide +kernel
theorem dX11_isRow_41 : decode cX11_isRow 41 = .ok (.aload_n 0, 1) := by decide +kernel
theorem dX11_isRow_42 : decode cX11_isRow 42 = .ok (.getfield 7, 3) := by decide +kernel
theorem dX11_isRow_45 : decode cX11_isRow 45 = .ok (.bipush 6, 2) := by decide +kernel
theorem dX11_isRow_47 : decode cX11_isRow 47 = .ok (.iload_n 2, 1) := by decide +kernel
theorem dX11_isRow_48 : decode cX11_isRow 48 = .ok (.iadd, 1) := by decide +kernel
theorem dX11_isRow_49 : decode cX11_isRow 49 = .ok (.iaload, 1) := by decide +kernel
theorem dX11_isRow_50 : decode cX11_isRow 50 = .ok (.if_icmp .ne 7, 3) := by decide +kernel
theorem dX11_isRow_53 : decode cX11_isRow 53 = .ok (.iconst 1, 1) := by decide +kernel
theorem dX11_isRow_54 : decode cX11_isRow 54 = .ok (.goto 4, 3) := by decide +kernel
theorem dX11_isRow_57 : decode cX11_isRow 57 = .ok (.iconst 0, 1) := by decide +kernel
theorem dX11_isRow_58 : decode cX11_isRow 58 = .ok (.istore_n 1, 1) := by decide +kernel
theorem dX11_isRow_59 : decode cX11_isRow 59 = .ok (.iinc 2 1, 3) := by decide +kernel
theorem dX11_isRow_62 : decode cX11_isRow 62 = .ok (.goto (-41), 3) := by decide +kernel
theorem dX11_isRow_65 : decode cX11_isRow 65 = .ok (.iload_n 1, 1) := by decide +kernel
theorem dX11_isRow_66 : decode cX11_isRow 66 = .ok (.ireturn, 1) := by decide +kernel
set_option maxRecDepth 20000 in
theorem ggX11_told_X11_in : GoodIn wsX11_told wsX11_in := goodIn_r _ [15] (by decide +kernel) (by decide +kernel)
set_option maxRecDepth 20000 in
theorem gX11_told_X11_in : GoodIn wsX11_told (va_wsS RX11 62 yX11_in wsX11_in) := goodIn_app (goodIn_of _ (by decide +kernel)) ggX11_told_X11_in
set_option maxRecDepth 20000 in
theorem ggX11_told_X11_reads : GoodIn wsX11_told wsX11_reads := goodIn_r _ [19, 20, 7, 21, 8, 3, 5, 6, 9, 22, 23, 24, 25, 26, 14, 27, 28, 12, 13, 15, 29, 30, 31, 32, 10, 33, 34, 35, 36, 37, 38, 39, 40, 41, 42, 43, 44, 45, 46, 47, 48, 49, 50, 51, 52, 53, 54, 55, 56, 61, 62, 63, 64, 65, 66, 67, 68, 69, 70, 71, 72, 73, 74, 75, 76, 77, 78, 79, 80, 81, 82, 83, 84, 85, 86, 87, 88, 89] (by decide +kernel) (by decide +kernel)
set_option maxRecDepth 20000 in
theorem gX11_told_X11_reads : GoodIn wsX11_told (wsV RX11 212 RX11 yX11_reads wsX11_reads) := goodIn_app (goodIn_of _ (by decide +kernel)) ggX11_told_X11_reads
set_option maxRecDepth 20000 in
theorem ggX11_told_X11_isRow : GoodIn wsX11_told wsX11_isRow := goodIn_r _ [60, 7, 4, 10, 61, 62, 63, 64, 65, 66, 67, 68, 69, 70, 71, 72, 73, 74, 75, 76, 77, 78, 79, 80, 81, 82, 83, 84, 85, 86, 87, 88, 89] (by decide +kernel) (by decide +kernel)
set_option maxRecDepth 20000 in
theorem gX11_told_X11_isRow : GoodIn wsX11_told (wsV RX11 215 RX11 yX11_isRow wsX11_isRow) := goodIn_app (goodIn_of _ (by decide +kernel)) ggX11_told_X11_isRow
theorem dX11_told_0 : decode cX11_told 0 = .ok (.iload_n 1, 1) := by decide +kernel
theorem dX11_told_1 : decode cX11_told 1 = .ok (.iconst 0, 1) := by decide +kernel
theorem dX11_told_2 : decode cX11_told 2 = .ok (.iconst 5, 1) := by decide +kernel
theorem dX11_told_3 : decode cX11_told 3 = .ok (.invokestatic 62, 3) := by decide +kernel
theorem dX11_told_6 : decode cX11_told 6 = .ok (.ifCond .ne 17, 3) := by decide +kernel
theorem dX11_told_9 : decode cX11_told 9 = .ok (.iload_n 1, 1) := by decide +kernel
theorem dX11_told_10 : decode cX11_told 10 = .ok (.bipush 100, 2) := by decide +kernel
theorem dX11_told_12 : decode cX11_told 12 = .ok (.bipush 123, 2) := by decide +kernel
theorem dX11_told_14 : decode cX11_told 14 = .ok (.invokestatic 62, 3) := by decide +kernel
theorem dX11_told_17 : decode cX11_told 17 = .ok (.ifCond .ne 6, 3) := by decide +kernel
theorem dX11_told_20 : decode cX11_told 20 = .ok (.ldc 57, 2) := by decide +kernel
theorem dX11_told_22 : decode cX11_told 22 = .ok (.ireturn, 1) := by decide +kernel
theorem dX11_told_23 : decode cX11_told 23 = .ok (.aload_n 0, 1) := by decide +kernel
theorem dX11_told_24 : decode cX11_told 24 = .ok (.invokevirtual 212, 3) := by decide +kernel
theorem dX11_told_27 : decode cX11_told 27 = .ok (.ifCond .ne 6, 3) := by decide +kernel
theorem dX11_told_30 : decode cX11_told 30 = .ok (.ldc 74, 2) := by decide +kernel
theorem dX11_told_32 : decode cX11_told 32 = .ok (.ireturn, 1) := by decide +kernel
theorem dX11_told_33 : decode cX11_told 33 = .ok (.iload_n 1, 1) := by decide +kernel
theorem dX11_told_34 : decode cX11_told 34 = .ok (.tableswitch 107 0 5 #[38, 74, 79, 84, 89, 94], 38) := by decide +kernel
theorem dX11_told_72 : decode cX11_told 72 = .ok (.aload_n 0, 1) := by decide +kernel
theorem dX11_told_73 : decode cX11_told 73 = .ok (.getfield 179, 3) := by decide +kernel
theorem dX11_told_76 : decode cX11_told 76 = .ok (.aload_n 0, 1) := by decide +kernel
theorem dX11_told_77 : decode cX11_told 77 = .ok (.getfield 7, 3) := by decide +kernel
theorem dX11_told_80 : decode cX11_told 80 = .ok (.iconst 1, 1) := by decide +kernel
theorem dX11_told_81 : decode cX11_told 81 = .ok (.iaload, 1) := by decide +kernel
theorem dX11_told_82 : decode cX11_told 82 = .ok (.imul, 1) := by decide +kernel
theorem dX11_told_83 : decode cX11_told 83 = .ok (.aload_n 0, 1) := by decide +kernel
theorem dX11_told_84 : decode cX11_told 84 = .ok (.getfield 189, 3) := by decide +kernel
theorem dX11_told_87 : decode cX11_told 87 = .ok (.aload_n 0, 1) := by decide +kernel
theorem dX11_told_88 : decode cX11_told 88 = .ok (.getfield 7, 3) := by decide +kernel
theorem dX11_told_91 : decode cX11_told 91 = .ok (.iconst 2, 1) := by decide +kernel
theorem dX11_told_92 : decode cX11_told 92 = .ok (.iaload, 1) := by decide +kernel
theorem dX11_told_93 : decode cX11_told 93 = .ok (.imul, 1) := by decide +kernel
theorem dX11_told_94 : decode cX11_told 94 = .ok (.iadd, 1) := by decide +kernel
theorem dX11_told_95 : decode cX11_told 95 = .ok (.aload_n 0, 1) := by decide +kernel
theorem dX11_told_96 : decode cX11_told 96 = .ok (.getfield 192, 3) := by decide +kernel
theorem dX11_told_99 : decode cX11_told 99 = .ok (.aload_n 0, 1) := by decide +kernel
theorem dX11_told_100 : decode cX11_told 100 = .ok (.getfield 7, 3) := by decide +kernel
theorem dX11_told_103 : decode cX11_told 103 = .ok (.iconst 3, 1) := by decide +kernel
theorem dX11_told_104 : decode cX11_told 104 = .ok (.iaload, 1) := by decide +kernel
theorem dX11_told_105 : decode cX11_told 105 = .ok (.imul, 1) := by decide +kernel
theorem dX11_told_106 : decode cX11_told 106 = .ok (.iadd, 1) := by decide +kernel
theorem dX11_told_107 : decode cX11_told 107 = .ok (.ireturn, 1) := by decide +kernel
theorem dX11_told_108 : decode cX11_told 108 = .ok (.aload_n 0, 1) := by decide +kernel
theorem dX11_told_109 : decode cX11_told 109 = .ok (.getfield 173, 3) := by decide +kernel
theorem dX11_told_112 : decode cX11_told 112 = .ok (.ireturn, 1) := by decide +kernel
theorem dX11_told_113 : decode cX11_told 113 = .ok (.aload_n 0, 1) := by decide +kernel
theorem dX11_told_114 : decode cX11_told 114 = .ok (.getfield 186, 3) := by decide +kernel
theorem dX11_told_117 : decode cX11_told 117 = .ok (.ireturn, 1) := by decide +kernel
theorem dX11_told_118 : decode cX11_told 118 = .ok (.aload_n 0, 1) := by decide +kernel
theorem dX11_told_119 : decode cX11_told 119 = .ok (.getfield 192, 3) := by decide +kernel
theorem dX11_told_122 : decode cX11_told 122 = .ok (.ireturn, 1) := by decide +kernel
theorem dX11_told_123 : decode cX11_told 123 = .ok (.aload_n 0, 1) := by decide +kernel
theorem dX11_told_124 : decode cX11_told 124 = .ok (.getfield 199, 3) := by decide +kernel
theorem dX11_told_127 : decode cX11_told 127 = .ok (.ireturn, 1) := by decide +kernel
theorem dX11_told_128 : decode cX11_told 128 = .ok (.aload_n 0, 1) := by decide +kernel
theorem dX11_told_129 : decode cX11_told 129 = .ok (.invokevirtual 215, 3) := by decide +kernel
theorem dX11_told_132 : decode cX11_told 132 = .ok (.ifCond .eq 7, 3) := by decide +kernel
theorem dX11_told_135 : decode cX11_told 135 = .ok (.iconst 1, 1) := by decide +kernel
theorem dX11_told_136 : decode cX11_told 136 = .ok (.goto 4, 3) := by decide +kernel
theorem dX11_told_139 : decode cX11_told 139 = .ok (.iconst 0, 1) := by decide +kernel
theorem dX11_told_140 : decode cX11_told 140 = .ok (.ireturn, 1) := by decide +kernel
theorem dX11_told_141 : decode cX11_told 141 = .ok (.iload_n 1, 1) := by decide +kernel
theorem dX11_told_142 : decode cX11_told 142 = .ok (.bipush 100, 2) := by decide +kernel
theorem dX11_told_144 : decode cX11_told 144 = .ok (.isub, 1) := by decide +kernel
theorem dX11_told_145 : decode cX11_told 145 = .ok (.aload_n 0, 1) := by decide +kernel
theorem dX11_told_146 : decode cX11_told 146 = .ok (.getfield 173, 3) := by decide +kernel
theorem dX11_told_149 : decode cX11_told 149 = .ok (.if_icmp .ge 15, 3) := by decide +kernel
theorem dX11_told_152 : decode cX11_told 152 = .ok (.aload_n 0, 1) := by decide +kernel
theorem dX11_told_153 : decode cX11_told 153 = .ok (.getfield 45, 3) := by decide +kernel
theorem dX11_told_156 : decode cX11_told 156 = .ok (.iload_n 1, 1) := by decide +kernel
theorem dX11_told_157 : decode cX11_told 157 = .ok (.bipush 100, 2) := by decide +kernel
theorem dX11_told_159 : decode cX11_told 159 = .ok (.isub, 1) := by decide +kernel
theorem dX11_told_160 : decode cX11_told 160 = .ok (.iaload, 1) := by decide +kernel
theorem dX11_told_161 : decode cX11_told 161 = .ok (.goto 5, 3) := by decide +kernel
theorem dX11_told_164 : decode cX11_told 164 = .ok (.ldc 79, 2) := by decide +kernel
theorem dX11_told_166 : decode cX11_told 166 = .ok (.ireturn, 1) := by decide +kernel
set_option maxRecDepth 20000 in
theorem ggX11_adopt_X11_reads : GoodIn wsX11_adopt wsX11_reads := goodIn_r _ [9, 10, 2, 11, 12, 13, 14, 15, 16, 17, 18, 19, 20, 21, 8, 22, 23, 24, 25, 26, 27, 28, 29, 30, 4, 31, 32, 33, 34, 35, 36, 37, 38, 39, 40, 41, 42, 43, 44, 45, 46, 47, 48, 49, 50, 51, 52, 53, 54, 67, 68, 69, 70, 71, 72, 73, 74, 75, 76, 77, 78, 79, 80, 81, 82, 83, 84, 85, 86, 87, 88, 89, 90, 91, 92, 93, 94, 95] (by decide +kernel) (by decide +kernel)
set_option maxRecDepth 20000 in
theorem gX11_adopt_X11_reads : GoodIn wsX11_adopt (wsV RX11 212 RX11 yX11_reads wsX11_reads) := goodIn_app (goodIn_of _ (by decide +kernel)) ggX11_adopt_X11_reads
set_option maxRecDepth 20000 in
theorem ggX11_adopt_X11_keeps : GoodIn wsX11_adopt wsX11_keeps := goodIn_r _ [58, 59, 3, 67, 68, 69, 70, 71, 72, 73, 74, 75, 76, 77, 78, 79, 80, 81, 82, 83, 84, 85, 86, 87, 88, 89, 90, 91, 92, 93, 94, 95] (by decide +kernel) (by decide +kernel)
set_option maxRecDepth 20000 in
theorem gX11_adopt_X11_keeps : GoodIn wsX11_adopt (wsV RX11 67 RX11 yX11_keeps wsX11_keeps) := goodIn_app (goodIn_of _ (by decide +kernel)) ggX11_adopt_X11_keeps
set_option maxRecDepth 20000 in
theorem ggX11_adopt_X11_acted : GoodIn wsX11_adopt wsX11_acted := goodIn_r _ [63, 64, 65, 66, 59, 67, 68, 69, 70, 71, 72, 73, 74, 75, 76, 77, 78, 79, 80, 81, 82, 83, 84, 85, 86, 87, 88, 89, 90, 91, 92, 93, 94, 95] (by decide +kernel) (by decide +kernel)
set_option maxRecDepth 20000 in
theorem gX11_adopt_X11_acted : GoodIn wsX11_adopt (wsV RX11 70 RX11 yX11_acted wsX11_acted) := goodIn_app (goodIn_of _ (by decide +kernel)) ggX11_adopt_X11_acted
theorem dX11_adopt_0 : decode cX11_adopt 0 = .ok (.aload_n 0, 1) := by decide +kernel
theorem dX11_adopt_1 : decode cX11_adopt 1 = .ok (.invokevirtual 212, 3) := by decide +kernel
theorem dX11_adopt_4 : decode cX11_adopt 4 = .ok (.ifCond .ne 6, 3) := by decide +kernel
theorem dX11_adopt_7 : decode cX11_adopt 7 = .ok (.ldc 74, 2) := by decide +kernel
theorem dX11_adopt_9 : decode cX11_adopt 9 = .ok (.ireturn, 1) := by decide +kernel
theorem dX11_adopt_10 : decode cX11_adopt 10 = .ok (.aload_n 0, 1) := by decide +kernel
theorem dX11_adopt_11 : decode cX11_adopt 11 = .ok (.invokevirtual 67, 3) := by decide +kernel
theorem dX11_adopt_14 : decode cX11_adopt 14 = .ok (.iconst 0, 1) := by decide +kernel
theorem dX11_adopt_15 : decode cX11_adopt 15 = .ok (.istore_n 1, 1) := by decide +kernel
theorem dX11_adopt_16 : decode cX11_adopt 16 = .ok (.iload_n 1, 1) := by decide +kernel
theorem dX11_adopt_17 : decode cX11_adopt 17 = .ok (.aload_n 0, 1) := by decide +kernel
theorem dX11_adopt_18 : decode cX11_adopt 18 = .ok (.getfield 173, 3) := by decide +kernel
theorem dX11_adopt_21 : decode cX11_adopt 21 = .ok (.if_icmp .ge 24, 3) := by decide +kernel
theorem dX11_adopt_24 : decode cX11_adopt 24 = .ok (.aload_n 0, 1) := by decide +kernel
theorem dX11_adopt_25 : decode cX11_adopt 25 = .ok (.getfield 7, 3) := by decide +kernel
theorem dX11_adopt_28 : decode cX11_adopt 28 = .ok (.bipush 6, 2) := by decide +kernel
theorem dX11_adopt_30 : decode cX11_adopt 30 = .ok (.iload_n 1, 1) := by decide +kernel
theorem dX11_adopt_31 : decode cX11_adopt 31 = .ok (.iadd, 1) := by decide +kernel
theorem dX11_adopt_32 : decode cX11_adopt 32 = .ok (.aload_n 0, 1) := by decide +kernel
theorem dX11_adopt_33 : decode cX11_adopt 33 = .ok (.getfield 45, 3) := by decide +kernel
theorem dX11_adopt_36 : decode cX11_adopt 36 = .ok (.iload_n 1, 1) := by decide +kernel
theorem dX11_adopt_37 : decode cX11_adopt 37 = .ok (.iaload, 1) := by decide +kernel
theorem dX11_adopt_38 : decode cX11_adopt 38 = .ok (.iastore, 1) := by decide +kernel
theorem dX11_adopt_39 : decode cX11_adopt 39 = .ok (.iinc 1 1, 3) := by decide +kernel
theorem dX11_adopt_42 : decode cX11_adopt 42 = .ok (.goto (-26), 3) := by decide +kernel
theorem dX11_adopt_45 : decode cX11_adopt 45 = .ok (.aload_n 0, 1) := by decide +kernel
theorem dX11_adopt_46 : decode cX11_adopt 46 = .ok (.getfield 7, 3) := by decide +kernel
theorem dX11_adopt_49 : decode cX11_adopt 49 = .ok (.iconst 0, 1) := by decide +kernel
theorem dX11_adopt_50 : decode cX11_adopt 50 = .ok (.aload_n 0, 1) := by decide +kernel
theorem dX11_adopt_51 : decode cX11_adopt 51 = .ok (.getfield 173, 3) := by decide +kernel
theorem dX11_adopt_54 : decode cX11_adopt 54 = .ok (.iastore, 1) := by decide +kernel
theorem dX11_adopt_55 : decode cX11_adopt 55 = .ok (.aload_n 0, 1) := by decide +kernel
theorem dX11_adopt_56 : decode cX11_adopt 56 = .ok (.aload_n 0, 1) := by decide +kernel
theorem dX11_adopt_57 : decode cX11_adopt 57 = .ok (.getfield 173, 3) := by decide +kernel
theorem dX11_adopt_60 : decode cX11_adopt 60 = .ok (.invokevirtual 70, 3) := by decide +kernel
theorem dX11_adopt_63 : decode cX11_adopt 63 = .ok (.ireturn, 1) := by decide +kernel
set_option maxRecDepth 20000 in
theorem ggX11_count_X11_runs : GoodIn wsX11_count wsX11_runs := goodIn_r _ [9, 1, 10, 11, 12, 8, 13, 14, 15, 16, 17, 18, 19, 20, 21, 25, 26, 27, 28, 29, 30, 31, 32, 33, 34, 35, 36, 37, 38, 39, 40, 41, 42, 43, 44, 45, 46, 47, 48, 49, 50, 51, 52, 53] (by decide +kernel) (by decide +kernel)
set_option maxRecDepth 20000 in
theorem gX11_count_X11_runs : GoodIn wsX11_count (wsV RX11 218 RX11 yX11_runs wsX11_runs) := goodIn_app (goodIn_of _ (by decide +kernel)) ggX11_count_X11_runs
set_option maxRecDepth 20000 in
theorem ggX11_count_X11_in : GoodIn wsX11_count wsX11_in := goodIn_r _ [24] (by decide +kernel) (by decide +kernel)
set_option maxRecDepth 20000 in
theorem gX11_count_X11_in : GoodIn wsX11_count (va_wsS RX11 62 yX11_in wsX11_in) := goodIn_app (goodIn_of _ (by decide +kernel)) ggX11_count_X11_in
theorem dX11_count_0 : decode cX11_count 0 = .ok (.iload_n 1, 1) := by decide +kernel
theorem dX11_count_1 : decode cX11_count 1 = .ok (.tableswitch 53 0 3 #[31, 38, 43, 48], 31) := by decide +kernel
theorem dX11_count_32 : decode cX11_count 32 = .ok (.aload_n 0, 1) := by decide +kernel
theorem dX11_count_33 : decode cX11_count 33 = .ok (.getfield 7, 3) := by decide +kernel
theorem dX11_count_36 : decode cX11_count 36 = .ok (.iconst 0, 1) := by decide +kernel
theorem dX11_count_37 : decode cX11_count 37 = .ok (.iaload, 1) := by decide +kernel
theorem dX11_count_38 : decode cX11_count 38 = .ok (.ireturn, 1) := by decide +kernel
theorem dX11_count_39 : decode cX11_count 39 = .ok (.aload_n 0, 1) := by decide +kernel
theorem dX11_count_40 : decode cX11_count 40 = .ok (.invokevirtual 218, 3) := by decide +kernel
theorem dX11_count_43 : decode cX11_count 43 = .ok (.ireturn, 1) := by decide +kernel
theorem dX11_count_44 : decode cX11_count 44 = .ok (.aload_n 0, 1) := by decide +kernel
theorem dX11_count_45 : decode cX11_count 45 = .ok (.getfield 58, 3) := by decide +kernel
theorem dX11_count_48 : decode cX11_count 48 = .ok (.ireturn, 1) := by decide +kernel
theorem dX11_count_49 : decode cX11_count 49 = .ok (.aload_n 0, 1) := by decide +kernel
theorem dX11_count_50 : decode cX11_count 50 = .ok (.getfield 155, 3) := by decide +kernel
theorem dX11_count_53 : decode cX11_count 53 = .ok (.ireturn, 1) := by decide +kernel
theorem dX11_count_54 : decode cX11_count 54 = .ok (.iload_n 1, 1) := by decide +kernel
theorem dX11_count_55 : decode cX11_count 55 = .ok (.bipush 20, 2) := by decide +kernel
theorem dX11_count_57 : decode cX11_count 57 = .ok (.bipush 24, 2) := by decide +kernel
theorem dX11_count_59 : decode cX11_count 59 = .ok (.invokestatic 62, 3) := by decide +kernel
theorem dX11_count_62 : decode cX11_count 62 = .ok (.ifCond .eq 17, 3) := by decide +kernel
theorem dX11_count_65 : decode cX11_count 65 = .ok (.aload_n 0, 1) := by decide +kernel
theorem dX11_count_66 : decode cX11_count 66 = .ok (.getfield 7, 3) := by decide +kernel
theorem dX11_count_69 : decode cX11_count 69 = .ok (.iconst 1, 1) := by decide +kernel
theorem dX11_count_70 : decode cX11_count 70 = .ok (.iload_n 1, 1) := by decide +kernel
theorem dX11_count_71 : decode cX11_count 71 = .ok (.iadd, 1) := by decide +kernel
theorem dX11_count_72 : decode cX11_count 72 = .ok (.bipush 20, 2) := by decide +kernel
theorem dX11_count_74 : decode cX11_count 74 = .ok (.isub, 1) := by decide +kernel
theorem dX11_count_75 : decode cX11_count 75 = .ok (.iaload, 1) := by decide +kernel
theorem dX11_count_76 : decode cX11_count 76 = .ok (.goto 5, 3) := by decide +kernel
theorem dX11_count_79 : decode cX11_count 79 = .ok (.ldc 57, 2) := by decide +kernel
theorem dX11_count_81 : decode cX11_count 81 = .ok (.ireturn, 1) := by decide +kernel
theorem dX11_undo_0 : decode cX11_undo 0 = .ok (.aload_n 0, 1) := by decide +kernel
theorem dX11_undo_1 : decode cX11_undo 1 = .ok (.getfield 58, 3) := by decide +kernel
theorem dX11_undo_4 : decode cX11_undo 4 = .ok (.ifCond .ne 6, 3) := by decide +kernel
theorem dX11_undo_7 : decode cX11_undo 7 = .ok (.ldc 74, 2) := by decide +kernel
theorem dX11_undo_9 : decode cX11_undo 9 = .ok (.ireturn, 1) := by decide +kernel
theorem dX11_undo_10 : decode cX11_undo 10 = .ok (.aload_n 0, 1) := by decide +kernel
theorem dX11_undo_11 : decode cX11_undo 11 = .ok (.dup, 1) := by decide +kernel
theorem dX11_undo_12 : decode cX11_undo 12 = .ok (.getfield 58, 3) := by decide +kernel
theorem dX11_undo_15 : decode cX11_undo 15 = .ok (.iconst 1, 1) := by decide +kernel
theorem dX11_undo_16 : decode cX11_undo 16 = .ok (.isub, 1) := by decide +kernel
theorem dX11_undo_17 : decode cX11_undo 17 = .ok (.putfield 58, 3) := by decide +kernel
theorem dX11_undo_20 : decode cX11_undo 20 = .ok (.iconst 0, 1) := by decide +kernel
theorem dX11_undo_21 : decode cX11_undo 21 = .ok (.istore_n 1, 1) := by decide +kernel
theorem dX11_undo_22 : decode cX11_undo 22 = .ok (.iload_n 1, 1) := by decide +kernel
theorem dX11_undo_23 : decode cX11_undo 23 = .ok (.bipush 30, 2) := by decide +kernel
theorem dX11_undo_25 : decode cX11_undo 25 = .ok (.if_icmp .ge 29, 3) := by decide +kernel
theorem dX11_undo_28 : decode cX11_undo 28 = .ok (.aload_n 0, 1) := by decide +kernel
theorem dX11_undo_29 : decode cX11_undo 29 = .ok (.getfield 7, 3) := by decide +kernel
theorem dX11_undo_32 : decode cX11_undo 32 = .ok (.iload_n 1, 1) := by decide +kernel
theorem dX11_undo_33 : decode cX11_undo 33 = .ok (.aload_n 0, 1) := by decide +kernel
theorem dX11_undo_34 : decode cX11_undo 34 = .ok (.getfield 13, 3) := by decide +kernel
theorem dX11_undo_37 : decode cX11_undo 37 = .ok (.bipush 30, 2) := by decide +kernel
theorem dX11_undo_39 : decode cX11_undo 39 = .ok (.aload_n 0, 1) := by decide +kernel
theorem dX11_undo_40 : decode cX11_undo 40 = .ok (.getfield 58, 3) := by decide +kernel
theorem dX11_undo_43 : decode cX11_undo 43 = .ok (.imul, 1) := by decide +kernel
theorem dX11_undo_44 : decode cX11_undo 44 = .ok (.iload_n 1, 1) := by decide +kernel
theorem dX11_undo_45 : decode cX11_undo 45 = .ok (.iadd, 1) := by decide +kernel
theorem dX11_undo_46 : decode cX11_undo 46 = .ok (.iaload, 1) := by decide +kernel
theorem dX11_undo_47 : decode cX11_undo 47 = .ok (.iastore, 1) := by decide +kernel
theorem dX11_undo_48 : decode cX11_undo 48 = .ok (.iinc 1 1, 3) := by decide +kernel
theorem dX11_undo_51 : decode cX11_undo 51 = .ok (.goto (-29), 3) := by decide +kernel
theorem dX11_undo_54 : decode cX11_undo 54 = .ok (.aload_n 0, 1) := by decide +kernel
theorem dX11_undo_55 : decode cX11_undo 55 = .ok (.getfield 58, 3) := by decide +kernel
theorem dX11_undo_58 : decode cX11_undo 58 = .ok (.ireturn, 1) := by decide +kernel
theorem dJ6_bitCount_0f7a4_0 : decode cJ6_bitCount_0f7a4 0 = .ok (.iload_n 0, 1) := by decide +kernel
theorem dJ6_bitCount_0f7a4_1 : decode cJ6_bitCount_0f7a4 1 = .ok (.iload_n 0, 1) := by decide +kernel
theorem dJ6_bitCount_0f7a4_2 : decode cJ6_bitCount_0f7a4 2 = .ok (.iconst 1, 1) := by decide +kernel
theorem dJ6_bitCount_0f7a4_3 : decode cJ6_bitCount_0f7a4 3 = .ok (.iushr, 1) := by decide +kernel
theorem dJ6_bitCount_0f7a4_4 : decode cJ6_bitCount_0f7a4 4 = .ok (.ldc_w 265, 3) := by decide +kernel
theorem dJ6_bitCount_0f7a4_7 : decode cJ6_bitCount_0f7a4 7 = .ok (.iand, 1) := by decide +kernel
theorem dJ6_bitCount_0f7a4_8 : decode cJ6_bitCount_0f7a4 8 = .ok (.isub, 1) := by decide +kernel
theorem dJ6_bitCount_0f7a4_9 : decode cJ6_bitCount_0f7a4 9 = .ok (.istore_n 0, 1) := by decide +kernel
theorem dJ6_bitCount_0f7a4_10 : decode cJ6_bitCount_0f7a4 10 = .ok (.iload_n 0, 1) := by decide +kernel
theorem dJ6_bitCount_0f7a4_11 : decode cJ6_bitCount_0f7a4 11 = .ok (.ldc_w 266, 3) := by decide +kernel
theorem dJ6_bitCount_0f7a4_14 : decode cJ6_bitCount_0f7a4 14 = .ok (.iand, 1) := by decide +kernel
theorem dJ6_bitCount_0f7a4_15 : decode cJ6_bitCount_0f7a4 15 = .ok (.iload_n 0, 1) := by decide +kernel
theorem dJ6_bitCount_0f7a4_16 : decode cJ6_bitCount_0f7a4 16 = .ok (.iconst 2, 1) := by decide +kernel
theorem dJ6_bitCount_0f7a4_17 : decode cJ6_bitCount_0f7a4 17 = .ok (.iushr, 1) := by decide +kernel
theorem dJ6_bitCount_0f7a4_18 : decode cJ6_bitCount_0f7a4 18 = .ok (.ldc_w 266, 3) := by decide +kernel
theorem dJ6_bitCount_0f7a4_21 : decode cJ6_bitCount_0f7a4 21 = .ok (.iand, 1) := by decide +kernel
theorem dJ6_bitCount_0f7a4_22 : decode cJ6_bitCount_0f7a4 22 = .ok (.iadd, 1) := by decide +kernel
theorem dJ6_bitCount_0f7a4_23 : decode cJ6_bitCount_0f7a4 23 = .ok (.istore_n 0, 1) := by decide +kernel
theorem dJ6_bitCount_0f7a4_24 : decode cJ6_bitCount_0f7a4 24 = .ok (.iload_n 0, 1) := by decide +kernel
theorem dJ6_bitCount_0f7a4_25 : decode cJ6_bitCount_0f7a4 25 = .ok (.iload_n 0, 1) := by decide +kernel
theorem dJ6_bitCount_0f7a4_26 : decode cJ6_bitCount_0f7a4 26 = .ok (.iconst 4, 1) := by decide +kernel
theorem dJ6_bitCount_0f7a4_27 : decode cJ6_bitCount_0f7a4 27 = .ok (.iushr, 1) := by decide +kernel
theorem dJ6_bitCount_0f7a4_28 : decode cJ6_bitCount_0f7a4 28 = .ok (.iadd, 1) := by decide +kernel
theorem dJ6_bitCount_0f7a4_29 : decode cJ6_bitCount_0f7a4 29 = .ok (.ldc_w 267, 3) := by decide +kernel
theorem dJ6_bitCount_0f7a4_32 : decode cJ6_bitCount_0f7a4 32 = .ok (.iand, 1) := by decide +kernel
theorem dJ6_bitCount_0f7a4_33 : decode cJ6_bitCount_0f7a4 33 = .ok (.istore_n 0, 1) := by decide +kernel
theorem dJ6_bitCount_0f7a4_34 : decode cJ6_bitCount_0f7a4 34 = .ok (.iload_n 0, 1) := by decide +kernel
theorem dJ6_bitCount_0f7a4_35 : decode cJ6_bitCount_0f7a4 35 = .ok (.iload_n 0, 1) := by decide +kernel
theorem dJ6_bitCount_0f7a4_36 : decode cJ6_bitCount_0f7a4 36 = .ok (.bipush 8, 2) := by decide +kernel
theorem dJ6_bitCount_0f7a4_38 : decode cJ6_bitCount_0f7a4 38 = .ok (.iushr, 1) := by decide +kernel
theorem dJ6_bitCount_0f7a4_39 : decode cJ6_bitCount_0f7a4 39 = .ok (.iadd, 1) := by decide +kernel
theorem dJ6_bitCount_0f7a4_40 : decode cJ6_bitCount_0f7a4 40 = .ok (.istore_n 0, 1) := by decide +kernel
theorem dJ6_bitCount_0f7a4_41 : decode cJ6_bitCount_0f7a4 41 = .ok (.iload_n 0, 1) := by decide +kernel
theorem dJ6_bitCount_0f7a4_42 : decode cJ6_bitCount_0f7a4 42 = .ok (.iload_n 0, 1) := by decide +kernel
theorem dJ6_bitCount_0f7a4_43 : decode cJ6_bitCount_0f7a4 43 = .ok (.bipush 16, 2) := by decide +kernel
theorem dJ6_bitCount_0f7a4_45 : decode cJ6_bitCount_0f7a4 45 = .ok (.iushr, 1) := by decide +kernel
theorem dJ6_bitCount_0f7a4_46 : decode cJ6_bitCount_0f7a4 46 = .ok (.iadd, 1) := by decide +kernel
theorem dJ6_bitCount_0f7a4_47 : decode cJ6_bitCount_0f7a4 47 = .ok (.istore_n 0, 1) := by decide +kernel
theorem dJ6_bitCount_0f7a4_48 : decode cJ6_bitCount_0f7a4 48 = .ok (.iload_n 0, 1) := by decide +kernel
theorem dJ6_bitCount_0f7a4_49 : decode cJ6_bitCount_0f7a4 49 = .ok (.bipush 63, 2) := by decide +kernel
theorem dJ6_bitCount_0f7a4_51 : decode cJ6_bitCount_0f7a4 51 = .ok (.iand, 1) := by decide +kernel
theorem dJ6_bitCount_0f7a4_52 : decode cJ6_bitCount_0f7a4 52 = .ok (.ireturn, 1) := by decide +kernel
theorem dJ9_max_7cf53_0 : decode cJ9_max_7cf53 0 = .ok (.iload_n 0, 1) := by decide +kernel
theorem dJ9_max_7cf53_1 : decode cJ9_max_7cf53 1 = .ok (.iload_n 1, 1) := by decide +kernel
theorem dJ9_max_7cf53_2 : decode cJ9_max_7cf53 2 = .ok (.if_icmp .lt 7, 3) := by decide +kernel
theorem dJ9_max_7cf53_5 : decode cJ9_max_7cf53 5 = .ok (.iload_n 0, 1) := by decide +kernel
theorem dJ9_max_7cf53_6 : decode cJ9_max_7cf53 6 = .ok (.goto 4, 3) := by decide +kernel
theorem dJ9_max_7cf53_9 : decode cJ9_max_7cf53 9 = .ok (.iload_n 1, 1) := by decide +kernel
theorem dJ9_max_7cf53_10 : decode cJ9_max_7cf53 10 = .ok (.ireturn, 1) := by decide +kernel
theorem dJ9_min_7cf53_0 : decode cJ9_min_7cf53 0 = .ok (.iload_n 0, 1) := by decide +kernel
theorem dJ9_min_7cf53_1 : decode cJ9_min_7cf53 1 = .ok (.iload_n 1, 1) := by decide +kernel
theorem dJ9_min_7cf53_2 : decode cJ9_min_7cf53 2 = .ok (.if_icmp .gt 7, 3) := by decide +kernel
theorem dJ9_min_7cf53_5 : decode cJ9_min_7cf53 5 = .ok (.iload_n 0, 1) := by decide +kernel
theorem dJ9_min_7cf53_6 : decode cJ9_min_7cf53 6 = .ok (.goto 4, 3) := by decide +kernel
theorem dJ9_min_7cf53_9 : decode cJ9_min_7cf53 9 = .ok (.iload_n 1, 1) := by decide +kernel
theorem dJ9_min_7cf53_10 : decode cJ9_min_7cf53 10 = .ok (.ireturn, 1) := by decide +kernel
set_option maxRecDepth 20000 in
theorem ggL_law_X10_init : GoodIn wsL_law wsX10_init := goodIn_r _ [8, 9, 10, 11, 12, 13, 14, 15, 16, 17, 18, 19, 20, 21, 22, 23, 24, 25, 26, 27, 28, 29, 30, 31, 32, 33, 34, 35, 36, 37, 38, 39, 40, 41, 42, 43, 44, 45, 46, 47, 48, 49, 50, 51, 52, 53, 54, 55, 56, 57, 58, 59, 60, 61, 62, 63, 64, 65, 66, 67, 68, 69, 70, 71, 72, 73, 74, 75, 76, 77, 78, 79, 80, 81, 82, 83, 84, 85, 86, 87, 88, 89, 90, 91, 92, 93, 94, 95, 96, 97, 98, 99, 100, 2, 101, 102, 103, 104, 105, 106, 107, 108, 109, 110, 111, 112, 113, 114, 115, 116, 117, 118, 119, 120, 121, 122, 123, 124, 125, 126, 127, 128, 129, 130, 131, 132, 133, 134, 135, 136, 137, 138, 139, 140, 141, 142, 143, 144, 145, 146, 147, 148, 842, 843, 844, 805, 806, 807, 808, 809, 810, 811, 812, 845, 846, 847, 848, 849, 850, 851, 852, 853, 854, 855, 856, 857, 858, 859, 860, 861, 862, 863, 864, 865, 866, 867, 868, 869, 870, 871, 872, 873, 874, 875, 876, 877, 878, 879, 880, 881, 882, 883, 884, 885, 886, 887, 888, 889, 890, 891, 892, 893, 894, 895, 896, 897, 898, 899, 900, 901, 902, 903] (by decide +kernel) (by decide +kernel)
set_option maxRecDepth 20000 in
theorem gL_law_X10_init : GoodIn wsL_law (wsX10_init) := ggL_law_X10_init
set_option maxRecDepth 20000 in
theorem ggL_law_X11_init : GoodIn wsL_law wsX11_init := goodIn_r _ [151, 152, 10, 11, 48, 153, 154, 155, 156, 157, 158, 159, 160, 161, 97, 162, 163, 164, 165, 166, 167, 168, 813, 814, 815, 816, 817, 818, 819, 820, 821, 822, 823, 824, 825, 826, 827, 828, 829, 830, 831, 832, 833, 834, 835, 836, 837, 838, 839, 840, 841] (by decide +kernel) (by decide +kernel)
set_option maxRecDepth 20000 in
theorem gL_law_X11_init : GoodIn wsL_law (wsX11_init) := ggL_law_X11_init
set_option maxRecDepth 20000 in
theorem ggL_law_X10_append : GoodIn wsL_law wsX10_append := goodIn_r _ [172, 173, 15, 174, 175, 176, 2, 177, 178, 179, 180, 181, 19, 182, 183, 184, 18, 185, 58, 57, 186, 187, 188, 189, 190, 191, 192, 14, 193, 49, 50, 51, 194, 195, 196, 197, 23, 27, 198, 199, 31, 200, 201, 35, 39, 202, 203, 204, 205, 805, 806, 807, 808, 809, 810, 811, 812, 842, 843, 844, 845, 846, 847, 848, 849, 850, 851, 856, 857, 858, 859, 852, 853, 854, 855, 860, 861, 862, 863, 864, 865, 866, 867, 868, 869, 870, 871, 872, 873, 874, 875, 876, 877, 878, 879, 880] (by decide +kernel) (by decide +kernel)
set_option maxRecDepth 20000 in
theorem gL_law_X10_append : GoodIn wsL_law (wsV RL 13 RX10 yX10_append wsX10_append) := goodIn_app (goodIn_of _ (by decide +kernel)) ggL_law_X10_append
set_option maxRecDepth 20000 in
theorem ggL_law_X11_append : GoodIn wsL_law wsX11_append := goodIn_r _ [209, 210, 153, 211, 212, 213, 5, 214, 215, 216, 217, 218, 155, 219, 220, 221, 222, 223, 154, 813, 814, 815, 816, 817, 818, 819, 820, 821, 822, 823, 824, 825, 826, 827, 828, 829, 830, 831, 832, 833, 834, 835, 836, 837, 838, 839, 840, 841] (by decide +kernel) (by decide +kernel)
set_option maxRecDepth 20000 in
theorem gL_law_X11_append : GoodIn wsL_law (wsV RL 17 RX11 yX11_append wsX11_append) := goodIn_app (goodIn_of _ (by decide +kernel)) ggL_law_X11_append
set_option maxRecDepth 20000 in
theorem ggL_law_X10_cut : GoodIn wsL_law wsX10_cut := goodIn_r _ [227, 173, 15, 228, 178, 179, 180, 2, 181, 19, 182, 183, 184, 18, 185, 58, 57, 186, 187, 188, 189, 190, 191, 192, 14, 193, 49, 50, 51, 194, 195, 196, 197, 23, 27, 198, 199, 31, 200, 201, 35, 39, 805, 806, 807, 808, 809, 810, 811, 812, 842, 843, 844, 845, 846, 847, 848, 849, 850, 851, 856, 857, 858, 859, 852, 853, 854, 855, 860, 861, 862, 863, 864, 865, 866, 867, 868, 869, 870, 871, 872, 873, 874, 875, 876, 877, 878, 879, 880] (by decide +kernel) (by decide +kernel)
set_option maxRecDepth 20000 in
theorem gL_law_X10_cut : GoodIn wsL_law (wsV RL 18 RX10 yX10_cut wsX10_cut) := goodIn_app (goodIn_of _ (by decide +kernel)) ggL_law_X10_cut
set_option maxRecDepth 20000 in
theorem ggL_law_X11_cut : GoodIn wsL_law wsX11_cut := goodIn_r _ [232, 210, 153, 233, 212, 213, 5, 214, 215, 216, 217, 218, 155, 219, 220, 221, 222, 223, 154, 813, 814, 815, 816, 817, 818, 819, 820, 821, 822, 823, 824, 825, 826, 827, 828, 829, 830, 831, 832, 833, 834, 835, 836, 837, 838, 839, 840, 841] (by decide +kernel) (by decide +kernel)
set_option maxRecDepth 20000 in
theorem gL_law_X11_cut : GoodIn wsL_law (wsV RL 21 RX11 yX11_cut wsX11_cut) := goodIn_app (goodIn_of _ (by decide +kernel)) ggL_law_X11_cut
set_option maxRecDepth 20000 in
theorem ggL_law_X10_change : GoodIn wsL_law wsX10_change := goodIn_r _ [237, 15, 173, 238, 239, 240, 14, 241, 51, 175, 176, 2, 177, 178, 179, 180, 181, 19, 182, 183, 184, 18, 185, 58, 57, 186, 187, 188, 189, 190, 191, 192, 193, 49, 50, 194, 195, 196, 197, 23, 27, 198, 199, 31, 200, 201, 35, 39, 242, 243, 244, 245, 246, 247, 248, 249, 805, 806, 807, 808, 809, 810, 811, 812, 842, 843, 844, 845, 846, 847, 848, 849, 850, 851, 856, 857, 858, 859, 852, 853, 854, 855, 860, 861, 862, 863, 864, 865, 866, 867, 868, 869, 870, 871, 872, 873, 874, 875, 876, 877, 878, 879, 880] (by decide +kernel) (by decide +kernel)
set_option maxRecDepth 20000 in
theorem gL_law_X10_change : GoodIn wsL_law (wsV RL 22 RX10 yX10_change wsX10_change) := goodIn_app (goodIn_of _ (by decide +kernel)) ggL_law_X10_change
set_option maxRecDepth 20000 in
theorem ggL_law_X11_change : GoodIn wsL_law wsX11_change := goodIn_r _ [253, 153, 210, 212, 213, 5, 214, 215, 216, 217, 218, 155, 219, 220, 221, 222, 223, 154, 813, 814, 815, 816, 817, 818, 819, 820, 821, 822, 823, 824, 825, 826, 827, 828, 829, 830, 831, 832, 833, 834, 835, 836, 837, 838, 839, 840, 841] (by decide +kernel) (by decide +kernel)
set_option maxRecDepth 20000 in
theorem gL_law_X11_change : GoodIn wsL_law (wsV RL 26 RX11 yX11_change wsX11_change) := goodIn_app (goodIn_of _ (by decide +kernel)) ggL_law_X11_change
set_option maxRecDepth 20000 in
theorem ggL_law_X10_turn : GoodIn wsL_law wsX10_turn := goodIn_r _ [257, 15, 228, 178, 179, 180, 2, 181, 19, 182, 183, 184, 18, 185, 58, 57, 186, 187, 188, 189, 190, 191, 192, 14, 193, 49, 50, 51, 194, 195, 196, 197, 23, 27, 198, 199, 31, 200, 201, 35, 39, 258, 259, 260, 261, 262, 243, 244, 245, 263, 247, 248, 249, 242, 805, 806, 807, 808, 809, 810, 811, 812, 842, 843, 844, 845, 846, 847, 848, 849, 850, 851, 856, 857, 858, 859, 852, 853, 854, 855, 860, 861, 862, 863, 864, 865, 866, 867, 868, 869, 870, 871, 872, 873, 874, 875, 876, 877, 878, 879, 880] (by decide +kernel) (by decide +kernel)
set_option maxRecDepth 20000 in
theorem gL_law_X10_turn : GoodIn wsL_law (wsV RL 27 RX10 yX10_turn wsX10_turn) := goodIn_app (goodIn_of _ (by decide +kernel)) ggL_law_X10_turn
set_option maxRecDepth 20000 in
theorem ggL_law_X11_turn : GoodIn wsL_law wsX11_turn := goodIn_r _ [267, 153, 233, 155, 215, 216, 217, 5, 218, 219, 220, 221, 222, 210, 223, 154, 813, 814, 815, 816, 817, 818, 819, 820, 821, 822, 823, 824, 825, 826, 827, 828, 829, 830, 831, 832, 833, 834, 835, 836, 837, 838, 839, 840, 841] (by decide +kernel) (by decide +kernel)
set_option maxRecDepth 20000 in
theorem gL_law_X11_turn : GoodIn wsL_law (wsV RL 31 RX11 yX11_turn wsX11_turn) := goodIn_app (goodIn_of _ (by decide +kernel)) ggL_law_X11_turn
set_option maxRecDepth 20000 in
theorem ggL_law_X10_set : GoodIn wsL_law wsX10_set := goodIn_r _ [271, 272, 273, 173, 15, 178, 179, 180, 2, 181, 19, 182, 183, 184, 18, 185, 58, 57, 186, 187, 188, 189, 190, 191, 192, 14, 193, 49, 50, 51, 194, 195, 196, 197, 23, 27, 198, 199, 31, 200, 201, 35, 39, 274, 275, 276, 277, 278, 279, 280, 281, 805, 806, 807, 808, 809, 810, 811, 812, 845, 846, 842, 843, 844, 847, 848, 849, 850, 851, 856, 857, 858, 859, 852, 853, 854, 855, 860, 861, 862, 863, 864, 865, 866, 867, 868, 869, 870, 871, 872, 873, 874, 875, 876, 877, 878, 879, 880] (by decide +kernel) (by decide +kernel)
set_option maxRecDepth 20000 in
theorem gL_law_X10_set : GoodIn wsL_law (wsV RL 32 RX10 yX10_set wsX10_set) := goodIn_app (goodIn_of _ (by decide +kernel)) ggL_law_X10_set
set_option maxRecDepth 20000 in
theorem ggL_law_X11_set : GoodIn wsL_law wsX11_set := goodIn_r _ [285, 210, 153, 286, 287, 5, 288, 212, 213, 214, 215, 216, 217, 218, 155, 219, 220, 221, 222, 223, 154, 813, 814, 815, 816, 817, 818, 819, 820, 821, 822, 823, 824, 825, 826, 827, 828, 829, 830, 831, 832, 833, 834, 835, 836, 837, 838, 839, 840, 841] (by decide +kernel) (by decide +kernel)
set_option maxRecDepth 20000 in
theorem gL_law_X11_set : GoodIn wsL_law (wsV RL 35 RX11 yX11_set wsX11_set) := goodIn_app (goodIn_of _ (by decide +kernel)) ggL_law_X11_set
set_option maxRecDepth 20000 in
theorem ggL_law_X10_letterAt : GoodIn wsL_law wsX10_letterAt := goodIn_r _ [292, 173, 15, 293, 238, 239, 240, 14, 241, 51, 242, 243, 244, 245, 49, 805, 806, 807, 808, 809, 810, 811, 812, 842, 843, 844] (by decide +kernel) (by decide +kernel)
set_option maxRecDepth 20000 in
theorem gL_law_X10_letterAt : GoodIn wsL_law (wsV RL 36 RX10 yX10_letterAt wsX10_letterAt) := goodIn_app (goodIn_of _ (by decide +kernel)) ggL_law_X10_letterAt
set_option maxRecDepth 20000 in
theorem ggL_law_X11_letterAt : GoodIn wsL_law wsX11_letterAt := goodIn_r _ [297, 210, 153, 298, 813, 814, 815, 816, 817, 818, 819, 820, 821, 822, 823, 824, 825, 826, 827, 828, 829, 830, 831, 832, 833, 834, 835, 836, 837, 838, 839, 840, 841] (by decide +kernel) (by decide +kernel)
set_option maxRecDepth 20000 in
theorem gL_law_X11_letterAt : GoodIn wsL_law (wsV RL 39 RX11 yX11_letterAt wsX11_letterAt) := goodIn_app (goodIn_of _ (by decide +kernel)) ggL_law_X11_letterAt
set_option maxRecDepth 20000 in
theorem ggL_law_X10_unlike : GoodIn wsL_law wsX10_unlike := goodIn_r _ [302, 15, 173, 303, 304, 305, 14, 306, 51, 307, 308, 309, 310, 262, 243, 244, 245, 49, 805, 806, 807, 808, 809, 810, 811, 812, 842, 843, 844] (by decide +kernel) (by decide +kernel)
set_option maxRecDepth 20000 in
theorem gL_law_X10_unlike : GoodIn wsL_law (wsV RL 40 RX10 yX10_unlike wsX10_unlike) := goodIn_app (goodIn_of _ (by decide +kernel)) ggL_law_X10_unlike
set_option maxRecDepth 20000 in
theorem ggL_law_X11_unlike : GoodIn wsL_law wsX11_unlike := goodIn_r _ [314, 210, 315, 316, 317, 5, 318, 153, 212, 213, 214, 319, 320, 321, 322, 813, 814, 815, 816, 817, 818, 819, 820, 821, 822, 823, 824, 825, 826, 827, 828, 829, 830, 831, 832, 833, 834, 835, 836, 837, 838, 839, 840, 841] (by decide +kernel) (by decide +kernel)
set_option maxRecDepth 20000 in
theorem gL_law_X11_unlike : GoodIn wsL_law (wsV RL 44 RX11 yX11_unlike wsX11_unlike) := goodIn_app (goodIn_of _ (by decide +kernel)) ggL_law_X11_unlike
set_option maxRecDepth 20000 in
theorem ggL_law_X10_period : GoodIn wsL_law wsX10_period := goodIn_r _ [326, 15, 173, 303, 304, 305, 14, 306, 51, 327, 328, 329, 330, 331, 308, 309, 310, 262, 243, 244, 245, 49, 805, 806, 807, 808, 809, 810, 811, 812, 842, 843, 844] (by decide +kernel) (by decide +kernel)
set_option maxRecDepth 20000 in
theorem gL_law_X10_period : GoodIn wsL_law (wsV RL 45 RX10 yX10_period wsX10_period) := goodIn_app (goodIn_of _ (by decide +kernel)) ggL_law_X10_period
set_option maxRecDepth 20000 in
theorem ggL_law_X11_period : GoodIn wsL_law wsX11_period := goodIn_r _ [335, 210, 315, 316, 317, 5, 318, 153, 336, 337, 338, 339, 319, 320, 321, 322, 813, 814, 815, 816, 817, 818, 819, 820, 821, 822, 823, 824, 825, 826, 827, 828, 829, 830, 831, 832, 833, 834, 835, 836, 837, 838, 839, 840, 841] (by decide +kernel) (by decide +kernel)
set_option maxRecDepth 20000 in
theorem gL_law_X11_period : GoodIn wsL_law (wsV RL 48 RX11 yX11_period wsX11_period) := goodIn_app (goodIn_of _ (by decide +kernel)) ggL_law_X11_period
set_option maxRecDepth 20000 in
theorem ggL_law_X10_runOf : GoodIn wsL_law wsX10_runOf := goodIn_r _ [343, 173, 23, 15, 293, 344, 345, 346, 22, 347, 67, 66, 348, 349, 350, 351, 63, 64, 65, 352, 328, 329, 14, 330, 331, 308, 309, 310, 262, 243, 244, 245, 51, 49, 353, 354, 355, 356, 357, 358, 359, 360, 361, 805, 806, 807, 808, 809, 810, 811, 812, 847, 848, 849, 850, 851, 842, 843, 844] (by decide +kernel) (by decide +kernel)
set_option maxRecDepth 20000 in
theorem gL_law_X10_runOf : GoodIn wsL_law (wsV RL 49 RX10 yX10_runOf wsX10_runOf) := goodIn_app (goodIn_of _ (by decide +kernel)) ggL_law_X10_runOf
set_option maxRecDepth 20000 in
theorem ggL_law_X11_runOf : GoodIn wsL_law wsX11_runOf := goodIn_r _ [365, 210, 153, 298, 212, 213, 5, 214, 366, 367, 368, 369, 336, 337, 338, 339, 319, 320, 321, 322, 813, 814, 815, 816, 817, 818, 819, 820, 821, 822, 823, 824, 825, 826, 827, 828, 829, 830, 831, 832, 833, 834, 835, 836, 837, 838, 839, 840, 841] (by decide +kernel) (by decide +kernel)
set_option maxRecDepth 20000 in
theorem gL_law_X11_runOf : GoodIn wsL_law (wsV RL 52 RX11 yX11_runOf wsX11_runOf) := goodIn_app (goodIn_of _ (by decide +kernel)) ggL_law_X11_runOf
set_option maxRecDepth 20000 in
theorem ggL_law_X10_cheapest : GoodIn wsL_law wsX10_cheapest := goodIn_r _ [373, 15, 173, 27, 35, 303, 304, 305, 14, 306, 51, 374, 375, 376, 377, 73, 378, 80, 379, 380, 381, 382, 383, 79, 384, 385, 386, 387, 388, 389, 390, 78, 391, 89, 90, 91, 92, 84, 85, 392, 275, 276, 277, 50, 393, 243, 244, 245, 49, 176, 2, 177, 394, 395, 396, 397, 398, 93, 399, 400, 401, 402, 86, 87, 88, 403, 404, 405, 406, 407, 408, 409, 410, 411, 412, 413, 30, 414, 99, 415, 416, 98, 100, 101, 417, 418, 26, 419, 71, 420, 421, 422, 70, 423, 424, 425, 426, 427, 428, 429, 430, 431, 432, 274, 433, 434, 435, 436, 437, 438, 439, 34, 440, 119, 109, 110, 108, 113, 114, 106, 117, 115, 118, 116, 112, 441, 442, 443, 444, 445, 446, 447, 448, 449, 450, 451, 452, 453, 454, 455, 111, 456, 457, 458, 459, 460, 461, 462, 463, 107, 464, 465, 466, 467, 468, 469, 470, 471, 472, 473, 474, 475, 476, 805, 806, 807, 808, 809, 810, 811, 812, 842, 843, 844, 856, 857, 858, 859, 852, 853, 854, 855, 894, 895, 896, 897, 898, 899, 900, 901, 902, 903, 860, 861, 862, 863, 864, 865, 866, 867, 868, 869, 870, 871, 872, 873] (by decide +kernel) (by decide +kernel)
set_option maxRecDepth 20000 in
theorem gL_law_X10_cheapest : GoodIn wsL_law (wsV RL 53 RX10 yX10_cheapest wsX10_cheapest) := goodIn_app (goodIn_of _ (by decide +kernel)) ggL_law_X10_cheapest
set_option maxRecDepth 20000 in
theorem ggL_law_X11_cheapest : GoodIn wsL_law wsX11_cheapest := goodIn_r _ [480, 210, 153, 159, 481, 160, 161, 315, 316, 317, 5, 318, 212, 213, 214, 482, 483, 484, 485, 486, 487, 488, 489, 158, 490, 491, 492, 493, 494, 495, 496, 497, 498, 499, 500, 501, 502, 163, 503, 504, 505, 506, 507, 508, 509, 510, 511, 512, 513, 514, 164, 515, 516, 517, 518, 519, 520, 521, 522, 523, 524, 525, 526, 527, 528, 529, 530, 813, 814, 815, 816, 817, 818, 819, 820, 821, 822, 823, 824, 825, 826, 827, 828, 829, 830, 831, 832, 833, 834, 835, 836, 837, 838, 839, 840, 841] (by decide +kernel) (by decide +kernel)
set_option maxRecDepth 20000 in
theorem gL_law_X11_cheapest : GoodIn wsL_law (wsV RL 56 RX11 yX11_cheapest wsX11_cheapest) := goodIn_app (goodIn_of _ (by decide +kernel)) ggL_law_X11_cheapest
set_option maxRecDepth 20000 in
theorem ggL_law_X10_textAt : GoodIn wsL_law wsX10_textAt := goodIn_r _ [534, 173, 15, 293, 27, 35, 374, 375, 376, 377, 73, 378, 80, 379, 380, 381, 382, 383, 79, 384, 385, 386, 387, 388, 389, 390, 78, 391, 89, 90, 91, 92, 84, 85, 392, 275, 276, 14, 277, 50, 393, 243, 244, 245, 51, 49, 176, 2, 177, 394, 395, 396, 397, 398, 93, 399, 400, 401, 402, 86, 87, 88, 403, 404, 405, 406, 407, 408, 409, 410, 411, 412, 413, 30, 414, 99, 415, 416, 98, 100, 101, 417, 418, 26, 419, 71, 420, 421, 422, 70, 423, 424, 425, 426, 427, 428, 429, 430, 431, 432, 437, 438, 439, 34, 440, 119, 109, 110, 108, 113, 114, 106, 117, 115, 118, 116, 112, 441, 442, 443, 444, 445, 446, 447, 434, 435, 436, 448, 449, 450, 451, 452, 453, 454, 455, 111, 456, 457, 458, 459, 460, 461, 462, 463, 107, 464, 465, 466, 467, 468, 469, 470, 471, 472, 535, 536, 537, 538, 805, 806, 807, 808, 809, 810, 811, 812, 842, 843, 844, 860, 861, 862, 863, 864, 865, 866, 867, 868, 869, 870, 871, 872, 873, 856, 857, 858, 859, 852, 853, 854, 855, 894, 895, 896, 897, 898, 899, 900, 901, 902, 903] (by decide +kernel) (by decide +kernel)
set_option maxRecDepth 20000 in
theorem gL_law_X10_textAt : GoodIn wsL_law (wsV RL 57 RX10 yX10_textAt wsX10_textAt) := goodIn_app (goodIn_of _ (by decide +kernel)) ggL_law_X10_textAt
set_option maxRecDepth 20000 in
theorem ggL_law_X11_textAt : GoodIn wsL_law wsX11_textAt := goodIn_r _ [542, 210, 153, 481, 164, 298, 482, 483, 484, 5, 485, 159, 486, 487, 488, 489, 158, 490, 491, 492, 493, 494, 495, 496, 497, 160, 161, 498, 499, 500, 501, 502, 163, 503, 504, 505, 506, 507, 508, 509, 510, 511, 512, 513, 514, 515, 516, 517, 518, 519, 520, 521, 522, 813, 814, 815, 816, 817, 818, 819, 820, 821, 822, 823, 824, 825, 826, 827, 828, 829, 830, 831, 832, 833, 834, 835, 836, 837, 838, 839, 840, 841] (by decide +kernel) (by decide +kernel)
set_option maxRecDepth 20000 in
theorem gL_law_X11_textAt : GoodIn wsL_law (wsV RL 60 RX11 yX11_textAt wsX11_textAt) := goodIn_app (goodIn_of _ (by decide +kernel)) ggL_law_X11_textAt
set_option maxRecDepth 20000 in
theorem ggL_law_X10_descriptions : GoodIn wsL_law wsX10_descriptions := goodIn_r _ [546, 15, 547, 31, 303, 304, 305, 14, 306, 51, 548, 549, 550, 377, 73, 378, 80, 379, 380, 381, 382, 383, 79, 384, 385, 386, 387, 388, 389, 390, 78, 391, 89, 90, 91, 92, 84, 85, 392, 275, 276, 277, 50, 393, 243, 244, 245, 49, 176, 2, 177, 394, 395, 396, 397, 398, 93, 399, 400, 401, 402, 86, 87, 88, 403, 404, 405, 406, 407, 408, 409, 410, 411, 412, 413, 30, 414, 99, 415, 416, 98, 100, 101, 417, 418, 26, 419, 71, 420, 421, 422, 70, 423, 424, 425, 426, 427, 428, 429, 430, 431, 432, 274, 551, 552, 553, 554, 805, 806, 807, 808, 809, 810, 811, 812, 842, 843, 844, 856, 857, 858, 859, 852, 853, 854, 855, 894, 895, 896, 897, 898, 899, 900, 901, 902, 903] (by decide +kernel) (by decide +kernel)
set_option maxRecDepth 20000 in
theorem gL_law_X10_descriptions : GoodIn wsL_law (wsV RL 61 RX10 yX10_descriptions wsX10_descriptions) := goodIn_app (goodIn_of _ (by decide +kernel)) ggL_law_X10_descriptions
set_option maxRecDepth 20000 in
theorem ggL_law_X11_descriptions : GoodIn wsL_law wsX11_descriptions := goodIn_r _ [558, 559, 153, 162, 315, 316, 317, 5, 318, 486, 487, 488, 489, 158, 490, 491, 492, 560, 561, 562, 563, 813, 814, 815, 816, 817, 818, 819, 820, 821, 822, 823, 824, 825, 826, 827, 828, 829, 830, 831, 832, 833, 834, 835, 836, 837, 838, 839, 840, 841] (by decide +kernel) (by decide +kernel)
set_option maxRecDepth 20000 in
theorem gL_law_X11_descriptions : GoodIn wsL_law (wsV RL 65 RX11 yX11_descriptions wsX11_descriptions) := goodIn_app (goodIn_of _ (by decide +kernel)) ggL_law_X11_descriptions
set_option maxRecDepth 20000 in
theorem ggL_law_X10_would : GoodIn wsL_law wsX10_would := goodIn_r _ [567, 15, 173, 39, 238, 239, 240, 14, 241, 51, 175, 176, 2, 177, 568, 569, 570, 38, 571, 124, 126, 572, 191, 192, 193, 49, 50, 573, 247, 248, 249, 574, 575, 576, 382, 73, 383, 79, 384, 385, 386, 387, 388, 389, 390, 78, 391, 89, 90, 91, 92, 84, 85, 392, 275, 276, 277, 393, 243, 244, 245, 394, 395, 396, 397, 398, 93, 399, 400, 401, 402, 86, 87, 88, 403, 404, 405, 406, 407, 408, 409, 410, 411, 412, 413, 30, 414, 99, 415, 416, 98, 100, 101, 417, 418, 26, 419, 71, 420, 421, 422, 70, 423, 424, 425, 426, 427, 428, 429, 430, 431, 577, 578, 579, 580, 581, 434, 435, 436, 805, 806, 807, 808, 809, 810, 811, 812, 842, 843, 844, 874, 875, 876, 877, 878, 879, 880, 856, 857, 858, 859, 852, 853, 854, 855, 894, 895, 896, 897, 898, 899, 900, 901, 902, 903] (by decide +kernel) (by decide +kernel)
set_option maxRecDepth 20000 in
theorem gL_law_X10_would : GoodIn wsL_law (wsV RL 66 RX10 yX10_would wsX10_would) := goodIn_app (goodIn_of _ (by decide +kernel)) ggL_law_X10_would
set_option maxRecDepth 20000 in
theorem ggL_law_X11_would : GoodIn wsL_law wsX11_would := goodIn_r _ [585, 153, 210, 212, 213, 5, 214, 586, 587, 588, 589, 590, 591, 592, 593, 159, 482, 483, 484, 485, 486, 487, 488, 489, 158, 490, 491, 492, 493, 494, 495, 496, 497, 160, 161, 813, 814, 815, 816, 817, 818, 819, 820, 821, 822, 823, 824, 825, 826, 827, 828, 829, 830, 831, 832, 833, 834, 835, 836, 837, 838, 839, 840, 841] (by decide +kernel) (by decide +kernel)
set_option maxRecDepth 20000 in
theorem gL_law_X11_would : GoodIn wsL_law (wsV RL 69 RX11 yX11_would wsX11_would) := goodIn_app (goodIn_of _ (by decide +kernel)) ggL_law_X11_would
set_option maxRecDepth 20000 in
theorem ggL_law_X10_bestChange : GoodIn wsL_law wsX10_bestChange := goodIn_r _ [597, 173, 39, 15, 293, 598, 599, 600, 38, 601, 127, 128, 124, 126, 131, 572, 191, 192, 14, 193, 49, 50, 51, 574, 575, 576, 382, 73, 383, 79, 384, 385, 386, 387, 388, 389, 390, 78, 391, 89, 90, 91, 92, 84, 85, 392, 275, 276, 277, 393, 243, 244, 245, 176, 2, 177, 394, 395, 396, 397, 398, 93, 399, 400, 401, 402, 86, 87, 88, 403, 404, 405, 406, 407, 408, 409, 410, 411, 412, 413, 30, 414, 99, 415, 416, 98, 100, 101, 417, 418, 26, 419, 71, 420, 421, 422, 70, 423, 424, 425, 426, 427, 428, 429, 430, 431, 577, 578, 579, 580, 581, 434, 435, 436, 602, 573, 247, 248, 249, 603, 604, 605, 606, 129, 130, 805, 806, 807, 808, 809, 810, 811, 812, 874, 875, 876, 877, 878, 879, 880, 842, 843, 844, 856, 857, 858, 859, 852, 853, 854, 855, 894, 895, 896, 897, 898, 899, 900, 901, 902, 903] (by decide +kernel) (by decide +kernel)
set_option maxRecDepth 20000 in
theorem gL_law_X10_bestChange : GoodIn wsL_law (wsV RL 70 RX10 yX10_bestChange wsX10_bestChange) := goodIn_app (goodIn_of _ (by decide +kernel)) ggL_law_X10_bestChange
set_option maxRecDepth 20000 in
theorem ggL_law_X11_bestChange : GoodIn wsL_law wsX11_bestChange := goodIn_r _ [610, 210, 298, 153, 212, 213, 5, 214, 590, 591, 592, 593, 159, 482, 483, 484, 485, 486, 487, 488, 489, 158, 490, 491, 492, 493, 494, 495, 496, 497, 160, 161, 586, 587, 588, 589, 813, 814, 815, 816, 817, 818, 819, 820, 821, 822, 823, 824, 825, 826, 827, 828, 829, 830, 831, 832, 833, 834, 835, 836, 837, 838, 839, 840, 841] (by decide +kernel) (by decide +kernel)
set_option maxRecDepth 20000 in
theorem gL_law_X11_bestChange : GoodIn wsL_law (wsV RL 73 RX11 yX11_bestChange wsX11_bestChange) := goodIn_app (goodIn_of _ (by decide +kernel)) ggL_law_X11_bestChange
set_option maxRecDepth 20000 in
theorem ggL_law_X10_type : GoodIn wsL_law wsX10_type := goodIn_r _ [614, 173, 43, 174, 615, 616, 617, 42, 618, 138, 136, 148, 805, 806, 807, 808, 809, 810, 811, 812, 881, 882, 883, 884, 885, 886, 887, 888, 889, 890, 891, 892, 893] (by decide +kernel) (by decide +kernel)
set_option maxRecDepth 20000 in
theorem gL_law_X10_type : GoodIn wsL_law (wsV RL 74 RX10 yX10_type wsX10_type) := goodIn_app (goodIn_of _ (by decide +kernel)) ggL_law_X10_type
set_option maxRecDepth 20000 in
theorem ggL_law_X11_type : GoodIn wsL_law wsX11_type := goodIn_r _ [622, 210, 623, 211, 157, 212, 213, 5, 214, 813, 814, 815, 816, 817, 818, 819, 820, 821, 822, 823, 824, 825, 826, 827, 828, 829, 830, 831, 832, 833, 834, 835, 836, 837, 838, 839, 840, 841] (by decide +kernel) (by decide +kernel)
set_option maxRecDepth 20000 in
theorem gL_law_X11_type : GoodIn wsL_law (wsV RL 77 RX11 yX11_type wsX11_type) := goodIn_app (goodIn_of _ (by decide +kernel)) ggL_law_X11_type
set_option maxRecDepth 20000 in
theorem ggL_law_X10_clearText : GoodIn wsL_law wsX10_clearText := goodIn_r _ [627, 43, 628, 629, 630, 42, 631, 138, 148, 805, 806, 807, 808, 809, 810, 811, 812, 881, 882, 883, 884, 885, 886, 887, 888, 889, 890, 891, 892, 893] (by decide +kernel) (by decide +kernel)
set_option maxRecDepth 20000 in
theorem gL_law_X10_clearText : GoodIn wsL_law (wsV RL 78 RX10 yX10_clearText wsX10_clearText) := goodIn_app (goodIn_of _ (by decide +kernel)) ggL_law_X10_clearText
set_option maxRecDepth 20000 in
theorem ggL_law_X11_clearText : GoodIn wsL_law wsX11_clearText := goodIn_r _ [635, 623, 813, 814, 815, 816, 817, 818, 819, 820, 821, 822, 823, 824, 825, 826, 827, 828, 829, 830, 831, 832, 833, 834, 835, 836, 837, 838, 839, 840, 841] (by decide +kernel) (by decide +kernel)
set_option maxRecDepth 20000 in
theorem gL_law_X11_clearText : GoodIn wsL_law (wsV RL 81 RX11 yX11_clearText wsX11_clearText) := goodIn_app (goodIn_of _ (by decide +kernel)) ggL_law_X11_clearText
set_option maxRecDepth 20000 in
theorem ggL_law_X10_fault : GoodIn wsL_law wsX10_fault := goodIn_r _ [639, 173, 43, 293, 640, 641, 642, 42, 643, 148, 139, 140, 141, 142, 143, 144, 145, 146, 147, 644, 645, 646, 647, 648, 454, 386, 455, 138, 649, 650, 651, 652, 136, 653, 654, 655, 656, 657, 658, 659, 660, 661, 662, 663, 664, 665, 666, 667, 137, 668, 669, 670, 671, 672, 673, 674, 675, 676, 677, 678, 679, 680, 681, 682, 683, 684, 685, 686, 687, 688, 689, 690, 691, 692, 693, 694, 695, 696, 697, 698, 699, 700, 701, 702, 703, 805, 806, 807, 808, 809, 810, 811, 812, 881, 882, 883, 884, 885, 886, 887, 888, 889, 890, 891, 892, 893] (by decide +kernel) (by decide +kernel)
set_option maxRecDepth 20000 in
theorem gL_law_X10_fault : GoodIn wsL_law (wsV RL 82 RX10 yX10_fault wsX10_fault) := goodIn_app (goodIn_of _ (by decide +kernel)) ggL_law_X10_fault
set_option maxRecDepth 20000 in
theorem ggL_law_X11_fault : GoodIn wsL_law wsX11_fault := goodIn_r _ [707, 210, 298, 708, 709, 212, 213, 5, 214, 710, 711, 712, 713, 714, 715, 716, 717, 718, 719, 720, 721, 166, 623, 722, 723, 724, 725, 157, 726, 727, 728, 729, 165, 730, 731, 732, 733, 734, 735, 736, 737, 167, 168, 738, 739, 740, 741, 742, 743, 744, 745, 746, 747, 748, 749, 813, 814, 815, 816, 817, 818, 819, 820, 821, 822, 823, 824, 825, 826, 827, 828, 829, 830, 831, 832, 833, 834, 835, 836, 837, 838, 839, 840, 841] (by decide +kernel) (by decide +kernel)
set_option maxRecDepth 20000 in
theorem gL_law_X11_fault : GoodIn wsL_law (wsV RL 85 RX11 yX11_fault wsX11_fault) := goodIn_app (goodIn_of _ (by decide +kernel)) ggL_law_X11_fault
set_option maxRecDepth 20000 in
theorem ggL_law_X10_told : GoodIn wsL_law wsX10_told := goodIn_r _ [753, 173, 43, 228, 293, 15, 640, 641, 642, 42, 643, 148, 139, 140, 141, 142, 143, 144, 145, 146, 147, 644, 645, 646, 647, 648, 454, 386, 455, 138, 649, 650, 651, 652, 136, 653, 654, 655, 656, 657, 658, 659, 660, 661, 662, 663, 664, 665, 666, 667, 137, 668, 669, 670, 671, 672, 673, 674, 675, 676, 677, 678, 679, 680, 681, 682, 683, 684, 685, 686, 687, 688, 689, 690, 691, 692, 693, 694, 695, 696, 697, 698, 699, 700, 701, 702, 703, 754, 755, 756, 757, 758, 759, 275, 276, 14, 277, 50, 760, 761, 762, 763, 764, 243, 244, 245, 51, 49, 805, 806, 807, 808, 809, 810, 811, 812, 881, 882, 883, 884, 885, 886, 887, 888, 889, 890, 891, 892, 893, 842, 843, 844] (by decide +kernel) (by decide +kernel)
set_option maxRecDepth 20000 in
theorem gL_law_X10_told : GoodIn wsL_law (wsV RL 86 RX10 yX10_told wsX10_told) := goodIn_app (goodIn_of _ (by decide +kernel)) ggL_law_X10_told
set_option maxRecDepth 20000 in
theorem ggL_law_X11_told : GoodIn wsL_law wsX11_told := goodIn_r _ [768, 210, 233, 718, 153, 719, 720, 715, 717, 721, 165, 298, 212, 213, 5, 214, 710, 711, 712, 713, 714, 716, 166, 623, 722, 723, 724, 725, 157, 726, 727, 728, 729, 730, 731, 732, 733, 708, 709, 734, 735, 736, 737, 167, 168, 738, 739, 740, 741, 742, 743, 744, 745, 746, 747, 748, 749, 769, 770, 771, 772, 813, 814, 815, 816, 817, 818, 819, 820, 821, 822, 823, 824, 825, 826, 827, 828, 829, 830, 831, 832, 833, 834, 835, 836, 837, 838, 839, 840, 841] (by decide +kernel) (by decide +kernel)
set_option maxRecDepth 20000 in
theorem gL_law_X11_told : GoodIn wsL_law (wsV RL 89 RX11 yX11_told wsX11_told) := goodIn_app (goodIn_of _ (by decide +kernel)) ggL_law_X11_told
set_option maxRecDepth 20000 in
theorem ggL_law_X10_adopt : GoodIn wsL_law wsX10_adopt := goodIn_r _ [776, 43, 228, 15, 640, 641, 642, 42, 643, 148, 139, 140, 141, 142, 143, 144, 145, 146, 147, 644, 645, 646, 647, 648, 454, 386, 455, 138, 649, 650, 651, 652, 136, 653, 654, 655, 656, 657, 658, 659, 660, 661, 662, 663, 664, 665, 666, 667, 137, 668, 669, 670, 671, 672, 673, 674, 675, 676, 677, 678, 679, 680, 681, 682, 683, 684, 685, 686, 687, 688, 689, 690, 691, 692, 693, 694, 695, 696, 697, 698, 699, 700, 701, 702, 703, 178, 179, 180, 2, 181, 19, 182, 183, 184, 18, 185, 58, 57, 186, 187, 188, 189, 190, 191, 192, 14, 193, 49, 50, 51, 194, 195, 196, 197, 23, 27, 198, 199, 31, 200, 201, 35, 39, 754, 202, 203, 204, 205, 805, 806, 807, 808, 809, 810, 811, 812, 842, 843, 844, 881, 882, 883, 884, 885, 886, 887, 888, 889, 890, 891, 892, 893, 845, 846, 847, 848, 849, 850, 851, 856, 857, 858, 859, 852, 853, 854, 855, 860, 861, 862, 863, 864, 865, 866, 867, 868, 869, 870, 871, 872, 873, 874, 875, 876, 877, 878, 879, 880] (by decide +kernel) (by decide +kernel)
set_option maxRecDepth 20000 in
theorem gL_law_X10_adopt : GoodIn wsL_law (wsV RL 90 RX10 yX10_adopt wsX10_adopt) := goodIn_app (goodIn_of _ (by decide +kernel)) ggL_law_X10_adopt
set_option maxRecDepth 20000 in
theorem ggL_law_X11_adopt : GoodIn wsL_law wsX11_adopt := goodIn_r _ [780, 233, 715, 153, 165, 710, 711, 712, 5, 713, 714, 716, 717, 718, 719, 720, 721, 166, 623, 722, 723, 724, 725, 157, 212, 213, 214, 726, 727, 728, 729, 730, 731, 732, 733, 708, 709, 734, 735, 736, 737, 167, 168, 738, 739, 740, 741, 742, 743, 744, 745, 746, 747, 748, 749, 215, 216, 217, 218, 155, 219, 220, 221, 222, 210, 223, 154, 813, 814, 815, 816, 817, 818, 819, 820, 821, 822, 823, 824, 825, 826, 827, 828, 829, 830, 831, 832, 833, 834, 835, 836, 837, 838, 839, 840, 841] (by decide +kernel) (by decide +kernel)
set_option maxRecDepth 20000 in
theorem gL_law_X11_adopt : GoodIn wsL_law (wsV RL 93 RX11 yX11_adopt wsX11_adopt) := goodIn_app (goodIn_of _ (by decide +kernel)) ggL_law_X11_adopt
set_option maxRecDepth 20000 in
theorem ggL_law_X10_count : GoodIn wsL_law wsX10_count := goodIn_r _ [784, 15, 23, 19, 43, 173, 274, 275, 276, 14, 277, 50, 344, 345, 346, 22, 347, 67, 66, 348, 349, 350, 351, 63, 64, 65, 352, 328, 329, 330, 331, 308, 309, 310, 262, 243, 244, 245, 51, 49, 353, 354, 355, 356, 805, 806, 807, 808, 809, 810, 811, 812, 842, 843, 844, 847, 848, 849, 850, 851, 845, 846, 881, 882, 883, 884, 885, 886, 887, 888, 889, 890, 891, 892, 893] (by decide +kernel) (by decide +kernel)
set_option maxRecDepth 20000 in
theorem gL_law_X10_count : GoodIn wsL_law (wsV RL 94 RX10 yX10_count wsX10_count) := goodIn_app (goodIn_of _ (by decide +kernel)) ggL_law_X10_count
set_option maxRecDepth 20000 in
theorem ggL_law_X11_count : GoodIn wsL_law wsX11_count := goodIn_r _ [788, 153, 223, 623, 210, 789, 790, 791, 5, 792, 366, 367, 368, 369, 336, 337, 338, 339, 319, 320, 321, 322, 212, 213, 214, 813, 814, 815, 816, 817, 818, 819, 820, 821, 822, 823, 824, 825, 826, 827, 828, 829, 830, 831, 832, 833, 834, 835, 836, 837, 838, 839, 840, 841] (by decide +kernel) (by decide +kernel)
set_option maxRecDepth 20000 in
theorem gL_law_X11_count : GoodIn wsL_law (wsV RL 97 RX11 yX11_count wsX11_count) := goodIn_app (goodIn_of _ (by decide +kernel)) ggL_law_X11_count
set_option maxRecDepth 20000 in
theorem ggL_law_X10_undo : GoodIn wsL_law wsX10_undo := goodIn_r _ [796, 19, 228, 15, 797, 798, 799, 18, 800, 58, 57, 190, 191, 192, 14, 193, 49, 50, 51, 194, 195, 196, 2, 197, 23, 27, 198, 199, 31, 200, 201, 35, 39, 805, 806, 807, 808, 809, 810, 811, 812, 845, 846, 842, 843, 844, 847, 848, 849, 850, 851, 856, 857, 858, 859, 852, 853, 854, 855, 860, 861, 862, 863, 864, 865, 866, 867, 868, 869, 870, 871, 872, 873, 874, 875, 876, 877, 878, 879, 880] (by decide +kernel) (by decide +kernel)
set_option maxRecDepth 20000 in
theorem gL_law_X10_undo : GoodIn wsL_law (wsV RL 98 RX10 yX10_undo wsX10_undo) := goodIn_app (goodIn_of _ (by decide +kernel)) ggL_law_X10_undo
set_option maxRecDepth 20000 in
theorem ggL_law_X11_undo : GoodIn wsL_law wsX11_undo := goodIn_r _ [804, 223, 233, 153, 154, 813, 814, 815, 816, 817, 818, 819, 820, 821, 822, 823, 824, 825, 826, 827, 828, 829, 830, 831, 832, 833, 834, 835, 836, 837, 838, 839, 840, 841] (by decide +kernel) (by decide +kernel)
set_option maxRecDepth 20000 in
theorem gL_law_X11_undo : GoodIn wsL_law (wsV RL 101 RX11 yX11_undo wsX11_undo) := goodIn_app (goodIn_of _ (by decide +kernel)) ggL_law_X11_undo
theorem dL_law_0 : decode cL_law 0 = .ok (.new 7, 3) := by decide +kernel
theorem dL_law_3 : decode cL_law 3 = .ok (.dup, 1) := by decide +kernel
theorem dL_law_4 : decode cL_law 4 = .ok (.invokespecial 9, 3) := by decide +kernel
theorem dL_law_7 : decode cL_law 7 = .ok (.astore_n 1, 1) := by decide +kernel
theorem dL_law_8 : decode cL_law 8 = .ok (.new 10, 3) := by decide +kernel
theorem dL_law_11 : decode cL_law 11 = .ok (.dup, 1) := by decide +kernel
theorem dL_law_12 : decode cL_law 12 = .ok (.invokespecial 12, 3) := by decide +kernel
theorem dL_law_15 : decode cL_law 15 = .ok (.astore_n 2, 1) := by decide +kernel
theorem dL_law_16 : decode cL_law 16 = .ok (.iconst 0, 1) := by decide +kernel
theorem dL_law_17 : decode cL_law 17 = .ok (.istore_n 3, 1) := by decide +kernel
theorem dL_law_18 : decode cL_law 18 = .ok (.iload_n 3, 1) := by decide +kernel
theorem dL_law_19 : decode cL_law 19 = .ok (.aload_n 0, 1) := by decide +kernel
theorem dL_law_20 : decode cL_law 20 = .ok (.arraylength, 1) := by decide +kernel
theorem dL_law_21 : decode cL_law 21 = .ok (.iconst 4, 1) := by decide +kernel
theorem dL_law_22 : decode cL_law 22 = .ok (.isub, 1) := by decide +kernel
theorem dL_law_23 : decode cL_law 23 = .ok (.if_icmp .gt 659, 3) := by decide +kernel
theorem dL_law_26 : decode cL_law 26 = .ok (.aload_n 0, 1) := by decide +kernel
theorem dL_law_27 : decode cL_law 27 = .ok (.iload_n 3, 1) := by decide +kernel
theorem dL_law_28 : decode cL_law 28 = .ok (.iaload, 1) := by decide +kernel
theorem dL_law_29 : decode cL_law 29 = .ok (.bipush 31, 2) := by decide +kernel
theorem dL_law_31 : decode cL_law 31 = .ok (.iand, 1) := by decide +kernel
theorem dL_law_32 : decode cL_law 32 = .ok (.tableswitch 644 0 20 #[100, 123, 146, 179, 192, 225, 248, 291, 324, 357, 400, 423, 457, 490, 513, 536, 549, 572, 595, 608, 631], 100) := by decide +kernel
theorem dL_law_132 : decode cL_law 132 = .ok (.aload_n 1, 1) := by decide +kernel
theorem dL_law_133 : decode cL_law 133 = .ok (.aload_n 0, 1) := by decide +kernel
theorem dL_law_134 : decode cL_law 134 = .ok (.iload_n 3, 1) := by decide +kernel
theorem dL_law_135 : decode cL_law 135 = .ok (.iconst 1, 1) := by decide +kernel
theorem dL_law_136 : decode cL_law 136 = .ok (.iadd, 1) := by decide +kernel
theorem dL_law_137 : decode cL_law 137 = .ok (.iaload, 1) := by decide +kernel
theorem dL_law_138 : decode cL_law 138 = .ok (.invokevirtual 13, 3) := by decide +kernel
theorem dL_law_141 : decode cL_law 141 = .ok (.aload_n 2, 1) := by decide +kernel
theorem dL_law_142 : decode cL_law 142 = .ok (.aload_n 0, 1) := by decide +kernel
theorem dL_law_143 : decode cL_law 143 = .ok (.iload_n 3, 1) := by decide +kernel
theorem dL_law_144 : decode cL_law 144 = .ok (.iconst 1, 1) := by decide +kernel
theorem dL_law_145 : decode cL_law 145 = .ok (.iadd, 1) := by decide +kernel
theorem dL_law_146 : decode cL_law 146 = .ok (.iaload, 1) := by decide +kernel
theorem dL_law_147 : decode cL_law 147 = .ok (.invokevirtual 17, 3) := by decide +kernel
theorem dL_law_150 : decode cL_law 150 = .ok (.if_icmp .eq 526, 3) := by decide +kernel
theorem dL_law_153 : decode cL_law 153 = .ok (.iconst 0, 1) := by decide +kernel
theorem dL_law_154 : decode cL_law 154 = .ok (.ireturn, 1) := by decide +kernel
theorem dL_law_155 : decode cL_law 155 = .ok (.aload_n 1, 1) := by decide +kernel
theorem dL_law_156 : decode cL_law 156 = .ok (.aload_n 0, 1) := by decide +kernel
theorem dL_law_157 : decode cL_law 157 = .ok (.iload_n 3, 1) := by decide +kernel
theorem dL_law_158 : decode cL_law 158 = .ok (.iconst 1, 1) := by decide +kernel
theorem dL_law_159 : decode cL_law 159 = .ok (.iadd, 1) := by decide +kernel
theorem dL_law_160 : decode cL_law 160 = .ok (.iaload, 1) := by decide +kernel
theorem dL_law_161 : decode cL_law 161 = .ok (.invokevirtual 18, 3) := by decide +kernel
theorem dL_law_164 : decode cL_law 164 = .ok (.aload_n 2, 1) := by decide +kernel
theorem dL_law_165 : decode cL_law 165 = .ok (.aload_n 0, 1) := by decide +kernel
theorem dL_law_166 : decode cL_law 166 = .ok (.iload_n 3, 1) := by decide +kernel
theorem dL_law_167 : decode cL_law 167 = .ok (.iconst 1, 1) := by decide +kernel
theorem dL_law_168 : decode cL_law 168 = .ok (.iadd, 1) := by decide +kernel
theorem dL_law_169 : decode cL_law 169 = .ok (.iaload, 1) := by decide +kernel
theorem dL_law_170 : decode cL_law 170 = .ok (.invokevirtual 21, 3) := by decide +kernel
theorem dL_law_173 : decode cL_law 173 = .ok (.if_icmp .eq 503, 3) := by decide +kernel
theorem dL_law_176 : decode cL_law 176 = .ok (.iconst 0, 1) := by decide +kernel
theorem dL_law_177 : decode cL_law 177 = .ok (.ireturn, 1) := by decide +kernel
theorem dL_law_178 : decode cL_law 178 = .ok (.aload_n 1, 1) := by decide +kernel
theorem dL_law_179 : decode cL_law 179 = .ok (.aload_n 0, 1) := by decide +kernel
theorem dL_law_180 : decode cL_law 180 = .ok (.iload_n 3, 1) := by decide +kernel
theorem dL_law_181 : decode cL_law 181 = .ok (.iconst 1, 1) := by decide +kernel
theorem dL_law_182 : decode cL_law 182 = .ok (.iadd, 1) := by decide +kernel
theorem dL_law_183 : decode cL_law 183 = .ok (.iaload, 1) := by decide +kernel
theorem dL_law_184 : decode cL_law 184 = .ok (.aload_n 0, 1) := by decide +kernel
theorem dL_law_185 : decode cL_law 185 = .ok (.iload_n 3, 1) := by decide +kernel
theorem dL_law_186 : decode cL_law 186 = .ok (.iconst 2, 1) := by decide +kernel
theorem dL_law_187 : decode cL_law 187 = .ok (.iadd, 1) := by decide +kernel
theorem dL_law_188 : decode cL_law 188 = .ok (.iaload, 1) := by decide +kernel
theorem dL_law_189 : decode cL_law 189 = .ok (.invokevirtual 22, 3) := by decide +kernel
theorem dL_law_192 : decode cL_law 192 = .ok (.aload_n 2, 1) := by decide +kernel
theorem dL_law_193 : decode cL_law 193 = .ok (.aload_n 0, 1) := by decide +kernel
theorem dL_law_194 : decode cL_law 194 = .ok (.iload_n 3, 1) := by decide +kernel
theorem dL_law_195 : decode cL_law 195 = .ok (.iconst 1, 1) := by decide +kernel
theorem dL_law_196 : decode cL_law 196 = .ok (.iadd, 1) := by decide +kernel
theorem dL_law_197 : decode cL_law 197 = .ok (.iaload, 1) := by decide +kernel
theorem dL_law_198 : decode cL_law 198 = .ok (.aload_n 0, 1) := by decide +kernel
theorem dL_law_199 : decode cL_law 199 = .ok (.iload_n 3, 1) := by decide +kernel
theorem dL_law_200 : decode cL_law 200 = .ok (.iconst 2, 1) := by decide +kernel
theorem dL_law_201 : decode cL_law 201 = .ok (.iadd, 1) := by decide +kernel
theorem dL_law_202 : decode cL_law 202 = .ok (.iaload, 1) := by decide +kernel
theorem dL_law_203 : decode cL_law 203 = .ok (.invokevirtual 26, 3) := by decide +kernel
theorem dL_law_206 : decode cL_law 206 = .ok (.if_icmp .eq 470, 3) := by decide +kernel
theorem dL_law_209 : decode cL_law 209 = .ok (.iconst 0, 1) := by decide +kernel
theorem dL_law_210 : decode cL_law 210 = .ok (.ireturn, 1) := by decide +kernel
theorem dL_law_211 : decode cL_law 211 = .ok (.aload_n 1, 1) := by decide +kernel
theorem dL_law_212 : decode cL_law 212 = .ok (.invokevirtual 27, 3) := by decide +kernel
theorem dL_law_215 : decode cL_law 215 = .ok (.aload_n 2, 1) := by decide +kernel
theorem dL_law_216 : decode cL_law 216 = .ok (.invokevirtual 31, 3) := by decide +kernel
theorem dL_law_219 : decode cL_law 219 = .ok (.if_icmp .eq 457, 3) := by decide +kernel
theorem dL_law_222 : decode cL_law 222 = .ok (.iconst 0, 1) := by decide +kernel
theorem dL_law_223 : decode cL_law 223 = .ok (.ireturn, 1) := by decide +kernel
theorem dL_law_224 : decode cL_law 224 = .ok (.aload_n 1, 1) := by decide +kernel
theorem dL_law_225 : decode cL_law 225 = .ok (.aload_n 0, 1) := by decide +kernel
theorem dL_law_226 : decode cL_law 226 = .ok (.iload_n 3, 1) := by decide +kernel
theorem dL_law_227 : decode cL_law 227 = .ok (.iconst 1, 1) := by decide +kernel
theorem dL_law_228 : decode cL_law 228 = .ok (.iadd, 1) := by decide +kernel
theorem dL_law_229 : decode cL_law 229 = .ok (.iaload, 1) := by decide +kernel
theorem dL_law_230 : decode cL_law 230 = .ok (.aload_n 0, 1) := by decide +kernel
theorem dL_law_231 : decode cL_law 231 = .ok (.iload_n 3, 1) := by decide +kernel
theorem dL_law_232 : decode cL_law 232 = .ok (.iconst 2, 1) := by decide +kernel
theorem dL_law_233 : decode cL_law 233 = .ok (.iadd, 1) := by decide +kernel
theorem dL_law_234 : decode cL_law 234 = .ok (.iaload, 1) := by decide +kernel
theorem dL_law_235 : decode cL_law 235 = .ok (.invokevirtual 32, 3) := by decide +kernel
theorem dL_law_238 : decode cL_law 238 = .ok (.aload_n 2, 1) := by decide +kernel
theorem dL_law_239 : decode cL_law 239 = .ok (.aload_n 0, 1) := by decide +kernel
theorem dL_law_240 : decode cL_law 240 = .ok (.iload_n 3, 1) := by decide +kernel
theorem dL_law_241 : decode cL_law 241 = .ok (.iconst 1, 1) := by decide +kernel
theorem dL_law_242 : decode cL_law 242 = .ok (.iadd, 1) := by decide +kernel
theorem dL_law_243 : decode cL_law 243 = .ok (.iaload, 1) := by decide +kernel
theorem dL_law_244 : decode cL_law 244 = .ok (.aload_n 0, 1) := by decide +kernel
theorem dL_law_245 : decode cL_law 245 = .ok (.iload_n 3, 1) := by decide +kernel
theorem dL_law_246 : decode cL_law 246 = .ok (.iconst 2, 1) := by decide +kernel
theorem dL_law_247 : decode cL_law 247 = .ok (.iadd, 1) := by decide +kernel
theorem dL_law_248 : decode cL_law 248 = .ok (.iaload, 1) := by decide +kernel
theorem dL_law_249 : decode cL_law 249 = .ok (.invokevirtual 35, 3) := by decide +kernel
theorem dL_law_252 : decode cL_law 252 = .ok (.if_icmp .eq 424, 3) := by decide +kernel
theorem dL_law_255 : decode cL_law 255 = .ok (.iconst 0, 1) := by decide +kernel
theorem dL_law_256 : decode cL_law 256 = .ok (.ireturn, 1) := by decide +kernel
theorem dL_law_257 : decode cL_law 257 = .ok (.aload_n 1, 1) := by decide +kernel
theorem dL_law_258 : decode cL_law 258 = .ok (.aload_n 0, 1) := by decide +kernel
theorem dL_law_259 : decode cL_law 259 = .ok (.iload_n 3, 1) := by decide +kernel
theorem dL_law_260 : decode cL_law 260 = .ok (.iconst 1, 1) := by decide +kernel
theorem dL_law_261 : decode cL_law 261 = .ok (.iadd, 1) := by decide +kernel
theorem dL_law_262 : decode cL_law 262 = .ok (.iaload, 1) := by decide +kernel
theorem dL_law_263 : decode cL_law 263 = .ok (.invokevirtual 36, 3) := by decide +kernel
theorem dL_law_266 : decode cL_law 266 = .ok (.aload_n 2, 1) := by decide +kernel
theorem dL_law_267 : decode cL_law 267 = .ok (.aload_n 0, 1) := by decide +kernel
theorem dL_law_268 : decode cL_law 268 = .ok (.iload_n 3, 1) := by decide +kernel
theorem dL_law_269 : decode cL_law 269 = .ok (.iconst 1, 1) := by decide +kernel
theorem dL_law_270 : decode cL_law 270 = .ok (.iadd, 1) := by decide +kernel
theorem dL_law_271 : decode cL_law 271 = .ok (.iaload, 1) := by decide +kernel
theorem dL_law_272 : decode cL_law 272 = .ok (.invokevirtual 39, 3) := by decide +kernel
theorem dL_law_275 : decode cL_law 275 = .ok (.if_icmp .eq 401, 3) := by decide +kernel
theorem dL_law_278 : decode cL_law 278 = .ok (.iconst 0, 1) := by decide +kernel
theorem dL_law_279 : decode cL_law 279 = .ok (.ireturn, 1) := by decide +kernel
theorem dL_law_280 : decode cL_law 280 = .ok (.aload_n 1, 1) := by decide +kernel
theorem dL_law_281 : decode cL_law 281 = .ok (.aload_n 0, 1) := by decide +kernel
theorem dL_law_282 : decode cL_law 282 = .ok (.iload_n 3, 1) := by decide +kernel
theorem dL_law_283 : decode cL_law 283 = .ok (.iconst 1, 1) := by decide +kernel
theorem dL_law_284 : decode cL_law 284 = .ok (.iadd, 1) := by decide +kernel
theorem dL_law_285 : decode cL_law 285 = .ok (.iaload, 1) := by decide +kernel
theorem dL_law_286 : decode cL_law 286 = .ok (.aload_n 0, 1) := by decide +kernel
theorem dL_law_287 : decode cL_law 287 = .ok (.iload_n 3, 1) := by decide +kernel
theorem dL_law_288 : decode cL_law 288 = .ok (.iconst 2, 1) := by decide +kernel
theorem dL_law_289 : decode cL_law 289 = .ok (.iadd, 1) := by decide +kernel
theorem dL_law_290 : decode cL_law 290 = .ok (.iaload, 1) := by decide +kernel
theorem dL_law_291 : decode cL_law 291 = .ok (.aload_n 0, 1) := by decide +kernel
theorem dL_law_292 : decode cL_law 292 = .ok (.iload_n 3, 1) := by decide +kernel
theorem dL_law_293 : decode cL_law 293 = .ok (.iconst 3, 1) := by decide +kernel
theorem dL_law_294 : decode cL_law 294 = .ok (.iadd, 1) := by decide +kernel
theorem dL_law_295 : decode cL_law 295 = .ok (.iaload, 1) := by decide +kernel
theorem dL_law_296 : decode cL_law 296 = .ok (.invokevirtual 40, 3) := by decide +kernel
theorem dL_law_299 : decode cL_law 299 = .ok (.aload_n 2, 1) := by decide +kernel
theorem dL_law_300 : decode cL_law 300 = .ok (.aload_n 0, 1) := by decide +kernel
theorem dL_law_301 : decode cL_law 301 = .ok (.iload_n 3, 1) := by decide +kernel
theorem dL_law_302 : decode cL_law 302 = .ok (.iconst 1, 1) := by decide +kernel
theorem dL_law_303 : decode cL_law 303 = .ok (.iadd, 1) := by decide +kernel
theorem dL_law_304 : decode cL_law 304 = .ok (.iaload, 1) := by decide +kernel
theorem dL_law_305 : decode cL_law 305 = .ok (.aload_n 0, 1) := by decide +kernel
theorem dL_law_306 : decode cL_law 306 = .ok (.iload_n 3, 1) := by decide +kernel
theorem dL_law_307 : decode cL_law 307 = .ok (.iconst 2, 1) := by decide +kernel
theorem dL_law_308 : decode cL_law 308 = .ok (.iadd, 1) := by decide +kernel
theorem dL_law_309 : decode cL_law 309 = .ok (.iaload, 1) := by decide +kernel
theorem dL_law_310 : decode cL_law 310 = .ok (.aload_n 0, 1) := by decide +kernel
theorem dL_law_311 : decode cL_law 311 = .ok (.iload_n 3, 1) := by decide +kernel
theorem dL_law_312 : decode cL_law 312 = .ok (.iconst 3, 1) := by decide +kernel
theorem dL_law_313 : decode cL_law 313 = .ok (.iadd, 1) := by decide +kernel
theorem dL_law_314 : decode cL_law 314 = .ok (.iaload, 1) := by decide +kernel
theorem dL_law_315 : decode cL_law 315 = .ok (.invokevirtual 44, 3) := by decide +kernel
theorem dL_law_318 : decode cL_law 318 = .ok (.if_icmp .eq 358, 3) := by decide +kernel
theorem dL_law_321 : decode cL_law 321 = .ok (.iconst 0, 1) := by decide +kernel
theorem dL_law_322 : decode cL_law 322 = .ok (.ireturn, 1) := by decide +kernel
theorem dL_law_323 : decode cL_law 323 = .ok (.aload_n 1, 1) := by decide +kernel
theorem dL_law_324 : decode cL_law 324 = .ok (.aload_n 0, 1) := by decide +kernel
theorem dL_law_325 : decode cL_law 325 = .ok (.iload_n 3, 1) := by decide +kernel
theorem dL_law_326 : decode cL_law 326 = .ok (.iconst 1, 1) := by decide +kernel
theorem dL_law_327 : decode cL_law 327 = .ok (.iadd, 1) := by decide +kernel
theorem dL_law_328 : decode cL_law 328 = .ok (.iaload, 1) := by decide +kernel
theorem dL_law_329 : decode cL_law 329 = .ok (.aload_n 0, 1) := by decide +kernel
theorem dL_law_330 : decode cL_law 330 = .ok (.iload_n 3, 1) := by decide +kernel
theorem dL_law_331 : decode cL_law 331 = .ok (.iconst 2, 1) := by decide +kernel
theorem dL_law_332 : decode cL_law 332 = .ok (.iadd, 1) := by decide +kernel
theorem dL_law_333 : decode cL_law 333 = .ok (.iaload, 1) := by decide +kernel
theorem dL_law_334 : decode cL_law 334 = .ok (.invokevirtual 45, 3) := by decide +kernel
theorem dL_law_337 : decode cL_law 337 = .ok (.aload_n 2, 1) := by decide +kernel
theorem dL_law_338 : decode cL_law 338 = .ok (.aload_n 0, 1) := by decide +kernel
theorem dL_law_339 : decode cL_law 339 = .ok (.iload_n 3, 1) := by decide +kernel
theorem dL_law_340 : decode cL_law 340 = .ok (.iconst 1, 1) := by decide +kernel
theorem dL_law_341 : decode cL_law 341 = .ok (.iadd, 1) := by decide +kernel
theorem dL_law_342 : decode cL_law 342 = .ok (.iaload, 1) := by decide +kernel
theorem dL_law_343 : decode cL_law 343 = .ok (.aload_n 0, 1) := by decide +kernel
theorem dL_law_344 : decode cL_law 344 = .ok (.iload_n 3, 1) := by decide +kernel
theorem dL_law_345 : decode cL_law 345 = .ok (.iconst 2, 1) := by decide +kernel
theorem dL_law_346 : decode cL_law 346 = .ok (.iadd, 1) := by decide +kernel
theorem dL_law_347 : decode cL_law 347 = .ok (.iaload, 1) := by decide +kernel
theorem dL_law_348 : decode cL_law 348 = .ok (.invokevirtual 48, 3) := by decide +kernel
theorem dL_law_351 : decode cL_law 351 = .ok (.if_icmp .eq 325, 3) := by decide +kernel
theorem dL_law_354 : decode cL_law 354 = .ok (.iconst 0, 1) := by decide +kernel
theorem dL_law_355 : decode cL_law 355 = .ok (.ireturn, 1) := by decide +kernel
theorem dL_law_356 : decode cL_law 356 = .ok (.aload_n 1, 1) := by decide +kernel
theorem dL_law_357 : decode cL_law 357 = .ok (.aload_n 0, 1) := by decide +kernel
theorem dL_law_358 : decode cL_law 358 = .ok (.iload_n 3, 1) := by decide +kernel
theorem dL_law_359 : decode cL_law 359 = .ok (.iconst 1, 1) := by decide +kernel
theorem dL_law_360 : decode cL_law 360 = .ok (.iadd, 1) := by decide +kernel
theorem dL_law_361 : decode cL_law 361 = .ok (.iaload, 1) := by decide +kernel
theorem dL_law_362 : decode cL_law 362 = .ok (.aload_n 0, 1) := by decide +kernel
theorem dL_law_363 : decode cL_law 363 = .ok (.iload_n 3, 1) := by decide +kernel
theorem dL_law_364 : decode cL_law 364 = .ok (.iconst 2, 1) := by decide +kernel
theorem dL_law_365 : decode cL_law 365 = .ok (.iadd, 1) := by decide +kernel
theorem dL_law_366 : decode cL_law 366 = .ok (.iaload, 1) := by decide +kernel
theorem dL_law_367 : decode cL_law 367 = .ok (.invokevirtual 49, 3) := by decide +kernel
theorem dL_law_370 : decode cL_law 370 = .ok (.aload_n 2, 1) := by decide +kernel
theorem dL_law_371 : decode cL_law 371 = .ok (.aload_n 0, 1) := by decide +kernel
theorem dL_law_372 : decode cL_law 372 = .ok (.iload_n 3, 1) := by decide +kernel
theorem dL_law_373 : decode cL_law 373 = .ok (.iconst 1, 1) := by decide +kernel
theorem dL_law_374 : decode cL_law 374 = .ok (.iadd, 1) := by decide +kernel
theorem dL_law_375 : decode cL_law 375 = .ok (.iaload, 1) := by decide +kernel
theorem dL_law_376 : decode cL_law 376 = .ok (.aload_n 0, 1) := by decide +kernel
theorem dL_law_377 : decode cL_law 377 = .ok (.iload_n 3, 1) := by decide +kernel
theorem dL_law_378 : decode cL_law 378 = .ok (.iconst 2, 1) := by decide +kernel
theorem dL_law_379 : decode cL_law 379 = .ok (.iadd, 1) := by decide +kernel
theorem dL_law_380 : decode cL_law 380 = .ok (.iaload, 1) := by decide +kernel
theorem dL_law_381 : decode cL_law 381 = .ok (.invokevirtual 52, 3) := by decide +kernel
theorem dL_law_384 : decode cL_law 384 = .ok (.if_icmp .eq 292, 3) := by decide +kernel
theorem dL_law_387 : decode cL_law 387 = .ok (.iconst 0, 1) := by decide +kernel
theorem dL_law_388 : decode cL_law 388 = .ok (.ireturn, 1) := by decide +kernel
theorem dL_law_389 : decode cL_law 389 = .ok (.aload_n 1, 1) := by decide +kernel
theorem dL_law_390 : decode cL_law 390 = .ok (.aload_n 0, 1) := by decide +kernel
theorem dL_law_391 : decode cL_law 391 = .ok (.iload_n 3, 1) := by decide +kernel
theorem dL_law_392 : decode cL_law 392 = .ok (.iconst 1, 1) := by decide +kernel
theorem dL_law_393 : decode cL_law 393 = .ok (.iadd, 1) := by decide +kernel
theorem dL_law_394 : decode cL_law 394 = .ok (.iaload, 1) := by decide +kernel
theorem dL_law_395 : decode cL_law 395 = .ok (.aload_n 0, 1) := by decide +kernel
theorem dL_law_396 : decode cL_law 396 = .ok (.iload_n 3, 1) := by decide +kernel
theorem dL_law_397 : decode cL_law 397 = .ok (.iconst 2, 1) := by decide +kernel
theorem dL_law_398 : decode cL_law 398 = .ok (.iadd, 1) := by decide +kernel
theorem dL_law_399 : decode cL_law 399 = .ok (.iaload, 1) := by decide +kernel
theorem dL_law_400 : decode cL_law 400 = .ok (.aload_n 0, 1) := by decide +kernel
theorem dL_law_401 : decode cL_law 401 = .ok (.iload_n 3, 1) := by decide +kernel
theorem dL_law_402 : decode cL_law 402 = .ok (.iconst 3, 1) := by decide +kernel
theorem dL_law_403 : decode cL_law 403 = .ok (.iadd, 1) := by decide +kernel
theorem dL_law_404 : decode cL_law 404 = .ok (.iaload, 1) := by decide +kernel
theorem dL_law_405 : decode cL_law 405 = .ok (.invokevirtual 53, 3) := by decide +kernel
theorem dL_law_408 : decode cL_law 408 = .ok (.aload_n 2, 1) := by decide +kernel
theorem dL_law_409 : decode cL_law 409 = .ok (.aload_n 0, 1) := by decide +kernel
theorem dL_law_410 : decode cL_law 410 = .ok (.iload_n 3, 1) := by decide +kernel
theorem dL_law_411 : decode cL_law 411 = .ok (.iconst 1, 1) := by decide +kernel
theorem dL_law_412 : decode cL_law 412 = .ok (.iadd, 1) := by decide +kernel
theorem dL_law_413 : decode cL_law 413 = .ok (.iaload, 1) := by decide +kernel
theorem dL_law_414 : decode cL_law 414 = .ok (.aload_n 0, 1) := by decide +kernel
theorem dL_law_415 : decode cL_law 415 = .ok (.iload_n 3, 1) := by decide +kernel
theorem dL_law_416 : decode cL_law 416 = .ok (.iconst 2, 1) := by decide +kernel
theorem dL_law_417 : decode cL_law 417 = .ok (.iadd, 1) := by decide +kernel
theorem dL_law_418 : decode cL_law 418 = .ok (.iaload, 1) := by decide +kernel
theorem dL_law_419 : decode cL_law 419 = .ok (.aload_n 0, 1) := by decide +kernel
theorem dL_law_420 : decode cL_law 420 = .ok (.iload_n 3, 1) := by decide +kernel
theorem dL_law_421 : decode cL_law 421 = .ok (.iconst 3, 1) := by decide +kernel
theorem dL_law_422 : decode cL_law 422 = .ok (.iadd, 1) := by decide +kernel
theorem dL_law_423 : decode cL_law 423 = .ok (.iaload, 1) := by decide +kernel
theorem dL_law_424 : decode cL_law 424 = .ok (.invokevirtual 56, 3) := by decide +kernel
theorem dL_law_427 : decode cL_law 427 = .ok (.if_icmp .eq 249, 3) := by decide +kernel
theorem dL_law_430 : decode cL_law 430 = .ok (.iconst 0, 1) := by decide +kernel
theorem dL_law_431 : decode cL_law 431 = .ok (.ireturn, 1) := by decide +kernel
theorem dL_law_432 : decode cL_law 432 = .ok (.aload_n 1, 1) := by decide +kernel
theorem dL_law_433 : decode cL_law 433 = .ok (.aload_n 0, 1) := by decide +kernel
theorem dL_law_434 : decode cL_law 434 = .ok (.iload_n 3, 1) := by decide +kernel
theorem dL_law_435 : decode cL_law 435 = .ok (.iconst 1, 1) := by decide +kernel
theorem dL_law_436 : decode cL_law 436 = .ok (.iadd, 1) := by decide +kernel
theorem dL_law_437 : decode cL_law 437 = .ok (.iaload, 1) := by decide +kernel
theorem dL_law_438 : decode cL_law 438 = .ok (.invokevirtual 57, 3) := by decide +kernel
theorem dL_law_441 : decode cL_law 441 = .ok (.aload_n 2, 1) := by decide +kernel
theorem dL_law_442 : decode cL_law 442 = .ok (.aload_n 0, 1) := by decide +kernel
theorem dL_law_443 : decode cL_law 443 = .ok (.iload_n 3, 1) := by decide +kernel
theorem dL_law_444 : decode cL_law 444 = .ok (.iconst 1, 1) := by decide +kernel
theorem dL_law_445 : decode cL_law 445 = .ok (.iadd, 1) := by decide +kernel
theorem dL_law_446 : decode cL_law 446 = .ok (.iaload, 1) := by decide +kernel
theorem dL_law_447 : decode cL_law 447 = .ok (.invokevirtual 60, 3) := by decide +kernel
theorem dL_law_450 : decode cL_law 450 = .ok (.if_icmp .eq 226, 3) := by decide +kernel
theorem dL_law_453 : decode cL_law 453 = .ok (.iconst 0, 1) := by decide +kernel
theorem dL_law_454 : decode cL_law 454 = .ok (.ireturn, 1) := by decide +kernel
theorem dL_law_455 : decode cL_law 455 = .ok (.aload_n 1, 1) := by decide +kernel
theorem dL_law_456 : decode cL_law 456 = .ok (.aload_n 0, 1) := by decide +kernel
theorem dL_law_457 : decode cL_law 457 = .ok (.iload_n 3, 1) := by decide +kernel
theorem dL_law_458 : decode cL_law 458 = .ok (.iconst 1, 1) := by decide +kernel
theorem dL_law_459 : decode cL_law 459 = .ok (.iadd, 1) := by decide +kernel
theorem dL_law_460 : decode cL_law 460 = .ok (.iaload, 1) := by decide +kernel
theorem dL_law_461 : decode cL_law 461 = .ok (.aload_n 0, 1) := by decide +kernel
theorem dL_law_462 : decode cL_law 462 = .ok (.iload_n 3, 1) := by decide +kernel
theorem dL_law_463 : decode cL_law 463 = .ok (.iconst 2, 1) := by decide +kernel
theorem dL_law_464 : decode cL_law 464 = .ok (.iadd, 1) := by decide +kernel
theorem dL_law_465 : decode cL_law 465 = .ok (.iaload, 1) := by decide +kernel
theorem dL_law_466 : decode cL_law 466 = .ok (.invokevirtual 61, 3) := by decide +kernel
theorem dL_law_469 : decode cL_law 469 = .ok (.aload_n 2, 1) := by decide +kernel
theorem dL_law_470 : decode cL_law 470 = .ok (.aload_n 0, 1) := by decide +kernel
theorem dL_law_471 : decode cL_law 471 = .ok (.iload_n 3, 1) := by decide +kernel
theorem dL_law_472 : decode cL_law 472 = .ok (.iconst 1, 1) := by decide +kernel
theorem dL_law_473 : decode cL_law 473 = .ok (.iadd, 1) := by decide +kernel
theorem dL_law_474 : decode cL_law 474 = .ok (.iaload, 1) := by decide +kernel
theorem dL_law_475 : decode cL_law 475 = .ok (.aload_n 0, 1) := by decide +kernel
theorem dL_law_476 : decode cL_law 476 = .ok (.iload_n 3, 1) := by decide +kernel
theorem dL_law_477 : decode cL_law 477 = .ok (.iconst 2, 1) := by decide +kernel
theorem dL_law_478 : decode cL_law 478 = .ok (.iadd, 1) := by decide +kernel
theorem dL_law_479 : decode cL_law 479 = .ok (.iaload, 1) := by decide +kernel
theorem dL_law_480 : decode cL_law 480 = .ok (.invokevirtual 65, 3) := by decide +kernel
theorem dL_law_483 : decode cL_law 483 = .ok (.lcmp, 1) := by decide +kernel
theorem dL_law_484 : decode cL_law 484 = .ok (.ifCond .eq 192, 3) := by decide +kernel
theorem dL_law_487 : decode cL_law 487 = .ok (.iconst 0, 1) := by decide +kernel
theorem dL_law_488 : decode cL_law 488 = .ok (.ireturn, 1) := by decide +kernel
theorem dL_law_489 : decode cL_law 489 = .ok (.aload_n 1, 1) := by decide +kernel
theorem dL_law_490 : decode cL_law 490 = .ok (.aload_n 0, 1) := by decide +kernel
theorem dL_law_491 : decode cL_law 491 = .ok (.iload_n 3, 1) := by decide +kernel
theorem dL_law_492 : decode cL_law 492 = .ok (.iconst 1, 1) := by decide +kernel
theorem dL_law_493 : decode cL_law 493 = .ok (.iadd, 1) := by decide +kernel
theorem dL_law_494 : decode cL_law 494 = .ok (.iaload, 1) := by decide +kernel
theorem dL_law_495 : decode cL_law 495 = .ok (.aload_n 0, 1) := by decide +kernel
theorem dL_law_496 : decode cL_law 496 = .ok (.iload_n 3, 1) := by decide +kernel
theorem dL_law_497 : decode cL_law 497 = .ok (.iconst 2, 1) := by decide +kernel
theorem dL_law_498 : decode cL_law 498 = .ok (.iadd, 1) := by decide +kernel
theorem dL_law_499 : decode cL_law 499 = .ok (.iaload, 1) := by decide +kernel
theorem dL_law_500 : decode cL_law 500 = .ok (.invokevirtual 66, 3) := by decide +kernel
theorem dL_law_503 : decode cL_law 503 = .ok (.aload_n 2, 1) := by decide +kernel
theorem dL_law_504 : decode cL_law 504 = .ok (.aload_n 0, 1) := by decide +kernel
theorem dL_law_505 : decode cL_law 505 = .ok (.iload_n 3, 1) := by decide +kernel
theorem dL_law_506 : decode cL_law 506 = .ok (.iconst 1, 1) := by decide +kernel
theorem dL_law_507 : decode cL_law 507 = .ok (.iadd, 1) := by decide +kernel
theorem dL_law_508 : decode cL_law 508 = .ok (.iaload, 1) := by decide +kernel
theorem dL_law_509 : decode cL_law 509 = .ok (.aload_n 0, 1) := by decide +kernel
theorem dL_law_510 : decode cL_law 510 = .ok (.iload_n 3, 1) := by decide +kernel
theorem dL_law_511 : decode cL_law 511 = .ok (.iconst 2, 1) := by decide +kernel
theorem dL_law_512 : decode cL_law 512 = .ok (.iadd, 1) := by decide +kernel
theorem dL_law_513 : decode cL_law 513 = .ok (.iaload, 1) := by decide +kernel
theorem dL_law_514 : decode cL_law 514 = .ok (.invokevirtual 69, 3) := by decide +kernel
theorem dL_law_517 : decode cL_law 517 = .ok (.if_icmp .eq 159, 3) := by decide +kernel
theorem dL_law_520 : decode cL_law 520 = .ok (.iconst 0, 1) := by decide +kernel
theorem dL_law_521 : decode cL_law 521 = .ok (.ireturn, 1) := by decide +kernel
theorem dL_law_522 : decode cL_law 522 = .ok (.aload_n 1, 1) := by decide +kernel
theorem dL_law_523 : decode cL_law 523 = .ok (.aload_n 0, 1) := by decide +kernel
theorem dL_law_524 : decode cL_law 524 = .ok (.iload_n 3, 1) := by decide +kernel
theorem dL_law_525 : decode cL_law 525 = .ok (.iconst 1, 1) := by decide +kernel
theorem dL_law_526 : decode cL_law 526 = .ok (.iadd, 1) := by decide +kernel
theorem dL_law_527 : decode cL_law 527 = .ok (.iaload, 1) := by decide +kernel
theorem dL_law_528 : decode cL_law 528 = .ok (.invokevirtual 70, 3) := by decide +kernel
theorem dL_law_531 : decode cL_law 531 = .ok (.aload_n 2, 1) := by decide +kernel
theorem dL_law_532 : decode cL_law 532 = .ok (.aload_n 0, 1) := by decide +kernel
theorem dL_law_533 : decode cL_law 533 = .ok (.iload_n 3, 1) := by decide +kernel
theorem dL_law_534 : decode cL_law 534 = .ok (.iconst 1, 1) := by decide +kernel
theorem dL_law_535 : decode cL_law 535 = .ok (.iadd, 1) := by decide +kernel
theorem dL_law_536 : decode cL_law 536 = .ok (.iaload, 1) := by decide +kernel
theorem dL_law_537 : decode cL_law 537 = .ok (.invokevirtual 73, 3) := by decide +kernel
theorem dL_law_540 : decode cL_law 540 = .ok (.if_icmp .eq 136, 3) := by decide +kernel
theorem dL_law_543 : decode cL_law 543 = .ok (.iconst 0, 1) := by decide +kernel
theorem dL_law_544 : decode cL_law 544 = .ok (.ireturn, 1) := by decide +kernel
theorem dL_law_545 : decode cL_law 545 = .ok (.aload_n 1, 1) := by decide +kernel
theorem dL_law_546 : decode cL_law 546 = .ok (.aload_n 0, 1) := by decide +kernel
theorem dL_law_547 : decode cL_law 547 = .ok (.iload_n 3, 1) := by decide +kernel
theorem dL_law_548 : decode cL_law 548 = .ok (.iconst 1, 1) := by decide +kernel
theorem dL_law_549 : decode cL_law 549 = .ok (.iadd, 1) := by decide +kernel
theorem dL_law_550 : decode cL_law 550 = .ok (.iaload, 1) := by decide +kernel
theorem dL_law_551 : decode cL_law 551 = .ok (.invokevirtual 74, 3) := by decide +kernel
theorem dL_law_554 : decode cL_law 554 = .ok (.aload_n 2, 1) := by decide +kernel
theorem dL_law_555 : decode cL_law 555 = .ok (.aload_n 0, 1) := by decide +kernel
theorem dL_law_556 : decode cL_law 556 = .ok (.iload_n 3, 1) := by decide +kernel
theorem dL_law_557 : decode cL_law 557 = .ok (.iconst 1, 1) := by decide +kernel
theorem dL_law_558 : decode cL_law 558 = .ok (.iadd, 1) := by decide +kernel
theorem dL_law_559 : decode cL_law 559 = .ok (.iaload, 1) := by decide +kernel
theorem dL_law_560 : decode cL_law 560 = .ok (.invokevirtual 77, 3) := by decide +kernel
theorem dL_law_563 : decode cL_law 563 = .ok (.if_icmp .eq 113, 3) := by decide +kernel
theorem dL_law_566 : decode cL_law 566 = .ok (.iconst 0, 1) := by decide +kernel
theorem dL_law_567 : decode cL_law 567 = .ok (.ireturn, 1) := by decide +kernel
theorem dL_law_568 : decode cL_law 568 = .ok (.aload_n 1, 1) := by decide +kernel
theorem dL_law_569 : decode cL_law 569 = .ok (.invokevirtual 78, 3) := by decide +kernel
theorem dL_law_572 : decode cL_law 572 = .ok (.aload_n 2, 1) := by decide +kernel
theorem dL_law_573 : decode cL_law 573 = .ok (.invokevirtual 81, 3) := by decide +kernel
theorem dL_law_576 : decode cL_law 576 = .ok (.if_icmp .eq 100, 3) := by decide +kernel
theorem dL_law_579 : decode cL_law 579 = .ok (.iconst 0, 1) := by decide +kernel
theorem dL_law_580 : decode cL_law 580 = .ok (.ireturn, 1) := by decide +kernel
theorem dL_law_581 : decode cL_law 581 = .ok (.aload_n 1, 1) := by decide +kernel
theorem dL_law_582 : decode cL_law 582 = .ok (.aload_n 0, 1) := by decide +kernel
theorem dL_law_583 : decode cL_law 583 = .ok (.iload_n 3, 1) := by decide +kernel
theorem dL_law_584 : decode cL_law 584 = .ok (.iconst 1, 1) := by decide +kernel
theorem dL_law_585 : decode cL_law 585 = .ok (.iadd, 1) := by decide +kernel
theorem dL_law_586 : decode cL_law 586 = .ok (.iaload, 1) := by decide +kernel
theorem dL_law_587 : decode cL_law 587 = .ok (.invokevirtual 82, 3) := by decide +kernel
theorem dL_law_590 : decode cL_law 590 = .ok (.aload_n 2, 1) := by decide +kernel
theorem dL_law_591 : decode cL_law 591 = .ok (.aload_n 0, 1) := by decide +kernel
theorem dL_law_592 : decode cL_law 592 = .ok (.iload_n 3, 1) := by decide +kernel
theorem dL_law_593 : decode cL_law 593 = .ok (.iconst 1, 1) := by decide +kernel
theorem dL_law_594 : decode cL_law 594 = .ok (.iadd, 1) := by decide +kernel
theorem dL_law_595 : decode cL_law 595 = .ok (.iaload, 1) := by decide +kernel
theorem dL_law_596 : decode cL_law 596 = .ok (.invokevirtual 85, 3) := by decide +kernel
theorem dL_law_599 : decode cL_law 599 = .ok (.if_icmp .eq 77, 3) := by decide +kernel
theorem dL_law_602 : decode cL_law 602 = .ok (.iconst 0, 1) := by decide +kernel
theorem dL_law_603 : decode cL_law 603 = .ok (.ireturn, 1) := by decide +kernel
theorem dL_law_604 : decode cL_law 604 = .ok (.aload_n 1, 1) := by decide +kernel
theorem dL_law_605 : decode cL_law 605 = .ok (.aload_n 0, 1) := by decide +kernel
theorem dL_law_606 : decode cL_law 606 = .ok (.iload_n 3, 1) := by decide +kernel
theorem dL_law_607 : decode cL_law 607 = .ok (.iconst 1, 1) := by decide +kernel
theorem dL_law_608 : decode cL_law 608 = .ok (.iadd, 1) := by decide +kernel
theorem dL_law_609 : decode cL_law 609 = .ok (.iaload, 1) := by decide +kernel
theorem dL_law_610 : decode cL_law 610 = .ok (.invokevirtual 86, 3) := by decide +kernel
theorem dL_law_613 : decode cL_law 613 = .ok (.aload_n 2, 1) := by decide +kernel
theorem dL_law_614 : decode cL_law 614 = .ok (.aload_n 0, 1) := by decide +kernel
theorem dL_law_615 : decode cL_law 615 = .ok (.iload_n 3, 1) := by decide +kernel
theorem dL_law_616 : decode cL_law 616 = .ok (.iconst 1, 1) := by decide +kernel
theorem dL_law_617 : decode cL_law 617 = .ok (.iadd, 1) := by decide +kernel
theorem dL_law_618 : decode cL_law 618 = .ok (.iaload, 1) := by decide +kernel
theorem dL_law_619 : decode cL_law 619 = .ok (.invokevirtual 89, 3) := by decide +kernel
theorem dL_law_622 : decode cL_law 622 = .ok (.if_icmp .eq 54, 3) := by decide +kernel
theorem dL_law_625 : decode cL_law 625 = .ok (.iconst 0, 1) := by decide +kernel
theorem dL_law_626 : decode cL_law 626 = .ok (.ireturn, 1) := by decide +kernel
theorem dL_law_627 : decode cL_law 627 = .ok (.aload_n 1, 1) := by decide +kernel
theorem dL_law_628 : decode cL_law 628 = .ok (.invokevirtual 90, 3) := by decide +kernel
theorem dL_law_631 : decode cL_law 631 = .ok (.aload_n 2, 1) := by decide +kernel
theorem dL_law_632 : decode cL_law 632 = .ok (.invokevirtual 93, 3) := by decide +kernel
theorem dL_law_635 : decode cL_law 635 = .ok (.if_icmp .eq 41, 3) := by decide +kernel
theorem dL_law_638 : decode cL_law 638 = .ok (.iconst 0, 1) := by decide +kernel
theorem dL_law_639 : decode cL_law 639 = .ok (.ireturn, 1) := by decide +kernel
theorem dL_law_640 : decode cL_law 640 = .ok (.aload_n 1, 1) := by decide +kernel
theorem dL_law_641 : decode cL_law 641 = .ok (.aload_n 0, 1) := by decide +kernel
theorem dL_law_642 : decode cL_law 642 = .ok (.iload_n 3, 1) := by decide +kernel
theorem dL_law_643 : decode cL_law 643 = .ok (.iconst 1, 1) := by decide +kernel
theorem dL_law_644 : decode cL_law 644 = .ok (.iadd, 1) := by decide +kernel
theorem dL_law_645 : decode cL_law 645 = .ok (.iaload, 1) := by decide +kernel
theorem dL_law_646 : decode cL_law 646 = .ok (.invokevirtual 94, 3) := by decide +kernel
theorem dL_law_649 : decode cL_law 649 = .ok (.aload_n 2, 1) := by decide +kernel
theorem dL_law_650 : decode cL_law 650 = .ok (.aload_n 0, 1) := by decide +kernel
theorem dL_law_651 : decode cL_law 651 = .ok (.iload_n 3, 1) := by decide +kernel
theorem dL_law_652 : decode cL_law 652 = .ok (.iconst 1, 1) := by decide +kernel
theorem dL_law_653 : decode cL_law 653 = .ok (.iadd, 1) := by decide +kernel
theorem dL_law_654 : decode cL_law 654 = .ok (.iaload, 1) := by decide +kernel
theorem dL_law_655 : decode cL_law 655 = .ok (.invokevirtual 97, 3) := by decide +kernel
theorem dL_law_658 : decode cL_law 658 = .ok (.if_icmp .eq 18, 3) := by decide +kernel
theorem dL_law_661 : decode cL_law 661 = .ok (.iconst 0, 1) := by decide +kernel
theorem dL_law_662 : decode cL_law 662 = .ok (.ireturn, 1) := by decide +kernel
theorem dL_law_663 : decode cL_law 663 = .ok (.aload_n 1, 1) := by decide +kernel
theorem dL_law_664 : decode cL_law 664 = .ok (.invokevirtual 98, 3) := by decide +kernel
theorem dL_law_667 : decode cL_law 667 = .ok (.aload_n 2, 1) := by decide +kernel
theorem dL_law_668 : decode cL_law 668 = .ok (.invokevirtual 101, 3) := by decide +kernel
theorem dL_law_671 : decode cL_law 671 = .ok (.if_icmp .eq 5, 3) := by decide +kernel
theorem dL_law_674 : decode cL_law 674 = .ok (.iconst 0, 1) := by decide +kernel
theorem dL_law_675 : decode cL_law 675 = .ok (.ireturn, 1) := by decide +kernel
theorem dL_law_676 : decode cL_law 676 = .ok (.iinc 3 4, 3) := by decide +kernel
theorem dL_law_679 : decode cL_law 679 = .ok (.goto (-661), 3) := by decide +kernel
theorem dL_law_682 : decode cL_law 682 = .ok (.iconst 1, 1) := by decide +kernel
theorem dL_law_683 : decode cL_law 683 = .ok (.ireturn, 1) := by decide +kernel
