theorem dX9_declareCall_84 : decode cX9_declareCall 84 = .ok (.iaload, 1) := by decide +kernel
theorem dX9_declareCall_85 : decode cX9_declareCall 85 = .ok (.bipush 8, 2) := by decide +kernel
theorem dX9_declareCall_87 : decode cX9_declareCall 87 = .ok (.if_icmp .ne 6, 3) := by decide +kernel
theorem dX9_declareCall_90 : decode cX9_declareCall 90 = .ok (.bipush (-3), 2) := by decide +kernel
theorem dX9_declareCall_92 : decode cX9_declareCall 92 = .ok (.ireturn, 1) := by decide +kernel
theorem dX9_declareCall_93 : decode cX9_declareCall 93 = .ok (.aload_n 0, 1) := by decide +kernel
theorem dX9_declareCall_94 : decode cX9_declareCall 94 = .ok (.invokevirtual 86, 3) := by decide +kernel
theorem dX9_declareCall_97 : decode cX9_declareCall 97 = .ok (.aload_n 0, 1) := by decide +kernel
theorem dX9_declareCall_98 : decode cX9_declareCall 98 = .ok (.getfield 7, 3) := by decide +kernel
theorem dX9_declareCall_101 : decode cX9_declareCall 101 = .ok (.sipush 234, 3) := by decide +kernel
theorem dX9_declareCall_104 : decode cX9_declareCall 104 = .ok (.iaload, 1) := by decide +kernel
theorem dX9_declareCall_105 : decode cX9_declareCall 105 = .ok (.istore 6, 2) := by decide +kernel
theorem dX9_declareCall_107 : decode cX9_declareCall 107 = .ok (.iconst 0, 1) := by decide +kernel
theorem dX9_declareCall_108 : decode cX9_declareCall 108 = .ok (.istore 7, 2) := by decide +kernel
theorem dX9_declareCall_110 : decode cX9_declareCall 110 = .ok (.iload 7, 2) := by decide +kernel
theorem dX9_declareCall_112 : decode cX9_declareCall 112 = .ok (.bipush 29, 2) := by decide +kernel
theorem dX9_declareCall_114 : decode cX9_declareCall 114 = .ok (.if_icmp .ge 23, 3) := by decide +kernel
theorem dX9_declareCall_117 : decode cX9_declareCall 117 = .ok (.aload_n 0, 1) := by decide +kernel
theorem dX9_declareCall_118 : decode cX9_declareCall 118 = .ok (.getfield 7, 3) := by decide +kernel
theorem dX9_declareCall_121 : decode cX9_declareCall 121 = .ok (.aload_n 0, 1) := by decide +kernel
theorem dX9_declareCall_122 : decode cX9_declareCall 122 = .ok (.iload 6, 2) := by decide +kernel
theorem dX9_declareCall_124 : decode cX9_declareCall 124 = .ok (.iload 7, 2) := by decide +kernel
theorem dX9_declareCall_126 : decode cX9_declareCall 126 = .ok (.invokevirtual 111, 3) := by decide +kernel
theorem dX9_declareCall_129 : decode cX9_declareCall 129 = .ok (.iconst 0, 1) := by decide +kernel
theorem dX9_declareCall_130 : decode cX9_declareCall 130 = .ok (.iastore, 1) := by decide +kernel
theorem dX9_declareCall_131 : decode cX9_declareCall 131 = .ok (.iinc 7 1, 3) := by decide +kernel
theorem dX9_declareCall_134 : decode cX9_declareCall 134 = .ok (.goto (-24), 3) := by decide +kernel
theorem dX9_declareCall_137 : decode cX9_declareCall 137 = .ok (.aload_n 0, 1) := by decide +kernel
theorem dX9_declareCall_138 : decode cX9_declareCall 138 = .ok (.getfield 7, 3) := by decide +kernel
theorem dX9_declareCall_141 : decode cX9_declareCall 141 = .ok (.aload_n 0, 1) := by decide +kernel
theorem dX9_declareCall_142 : decode cX9_declareCall 142 = .ok (.iload 6, 2) := by decide +kernel
theorem dX9_declareCall_144 : decode cX9_declareCall 144 = .ok (.iconst 0, 1) := by decide +kernel
theorem dX9_declareCall_145 : decode cX9_declareCall 145 = .ok (.invokevirtual 111, 3) := by decide +kernel
theorem dX9_declareCall_148 : decode cX9_declareCall 148 = .ok (.iload_n 1, 1) := by decide +kernel
theorem dX9_declareCall_149 : decode cX9_declareCall 149 = .ok (.iastore, 1) := by decide +kernel
theorem dX9_declareCall_150 : decode cX9_declareCall 150 = .ok (.aload_n 0, 1) := by decide +kernel
theorem dX9_declareCall_151 : decode cX9_declareCall 151 = .ok (.getfield 7, 3) := by decide +kernel
theorem dX9_declareCall_154 : decode cX9_declareCall 154 = .ok (.aload_n 0, 1) := by decide +kernel
theorem dX9_declareCall_155 : decode cX9_declareCall 155 = .ok (.iload 6, 2) := by decide +kernel
theorem dX9_declareCall_157 : decode cX9_declareCall 157 = .ok (.iconst 1, 1) := by decide +kernel
theorem dX9_declareCall_158 : decode cX9_declareCall 158 = .ok (.invokevirtual 111, 3) := by decide +kernel
theorem dX9_declareCall_161 : decode cX9_declareCall 161 = .ok (.iload_n 2, 1) := by decide +kernel
theorem dX9_declareCall_162 : decode cX9_declareCall 162 = .ok (.iastore, 1) := by decide +kernel
theorem dX9_declareCall_163 : decode cX9_declareCall 163 = .ok (.aload_n 0, 1) := by decide +kernel
theorem dX9_declareCall_164 : decode cX9_declareCall 164 = .ok (.getfield 7, 3) := by decide +kernel
theorem dX9_declareCall_167 : decode cX9_declareCall 167 = .ok (.aload_n 0, 1) := by decide +kernel
theorem dX9_declareCall_168 : decode cX9_declareCall 168 = .ok (.iload 6, 2) := by decide +kernel
theorem dX9_declareCall_170 : decode cX9_declareCall 170 = .ok (.iconst 2, 1) := by decide +kernel
theorem dX9_declareCall_171 : decode cX9_declareCall 171 = .ok (.invokevirtual 111, 3) := by decide +kernel
theorem dX9_declareCall_174 : decode cX9_declareCall 174 = .ok (.iload 5, 2) := by decide +kernel
theorem dX9_declareCall_176 : decode cX9_declareCall 176 = .ok (.iastore, 1) := by decide +kernel
theorem dX9_declareCall_177 : decode cX9_declareCall 177 = .ok (.aload_n 0, 1) := by decide +kernel
theorem dX9_declareCall_178 : decode cX9_declareCall 178 = .ok (.getfield 7, 3) := by decide +kernel
theorem dX9_declareCall_181 : decode cX9_declareCall 181 = .ok (.aload_n 0, 1) := by decide +kernel
theorem dX9_declareCall_182 : decode cX9_declareCall 182 = .ok (.iload 6, 2) := by decide +kernel
theorem dX9_declareCall_184 : decode cX9_declareCall 184 = .ok (.iconst 4, 1) := by decide +kernel
theorem dX9_declareCall_185 : decode cX9_declareCall 185 = .ok (.invokevirtual 111, 3) := by decide +kernel
theorem dX9_declareCall_188 : decode cX9_declareCall 188 = .ok (.iload 4, 2) := by decide +kernel
theorem dX9_declareCall_190 : decode cX9_declareCall 190 = .ok (.iastore, 1) := by decide +kernel
theorem dX9_declareCall_191 : decode cX9_declareCall 191 = .ok (.iconst 0, 1) := by decide +kernel
theorem dX9_declareCall_192 : decode cX9_declareCall 192 = .ok (.istore 7, 2) := by decide +kernel
theorem dX9_declareCall_194 : decode cX9_declareCall 194 = .ok (.iload 7, 2) := by decide +kernel
theorem dX9_declareCall_196 : decode cX9_declareCall 196 = .ok (.iload 4, 2) := by decide +kernel
theorem dX9_declareCall_198 : decode cX9_declareCall 198 = .ok (.if_icmp .ge 35, 3) := by decide +kernel
theorem dX9_declareCall_201 : decode cX9_declareCall 201 = .ok (.aload_n 0, 1) := by decide +kernel
theorem dX9_declareCall_202 : decode cX9_declareCall 202 = .ok (.getfield 7, 3) := by decide +kernel
theorem dX9_declareCall_205 : decode cX9_declareCall 205 = .ok (.aload_n 0, 1) := by decide +kernel
theorem dX9_declareCall_206 : decode cX9_declareCall 206 = .ok (.iload 6, 2) := by decide +kernel
theorem dX9_declareCall_208 : decode cX9_declareCall 208 = .ok (.bipush 15, 2) := by decide +kernel
theorem dX9_declareCall_210 : decode cX9_declareCall 210 = .ok (.iload 7, 2) := by decide +kernel
theorem dX9_declareCall_212 : decode cX9_declareCall 212 = .ok (.iadd, 1) := by decide +kernel
theorem dX9_declareCall_213 : decode cX9_declareCall 213 = .ok (.invokevirtual 111, 3) := by decide +kernel
theorem dX9_declareCall_216 : decode cX9_declareCall 216 = .ok (.aload_n 0, 1) := by decide +kernel
theorem dX9_declareCall_217 : decode cX9_declareCall 217 = .ok (.iload 5, 2) := by decide +kernel
theorem dX9_declareCall_219 : decode cX9_declareCall 219 = .ok (.iconst 3, 1) := by decide +kernel
theorem dX9_declareCall_220 : decode cX9_declareCall 220 = .ok (.iload 7, 2) := by decide +kernel
theorem dX9_declareCall_222 : decode cX9_declareCall 222 = .ok (.iadd, 1) := by decide +kernel
theorem dX9_declareCall_223 : decode cX9_declareCall 223 = .ok (.invokevirtual 63, 3) := by decide +kernel
theorem dX9_declareCall_226 : decode cX9_declareCall 226 = .ok (.iastore, 1) := by decide +kernel
theorem dX9_declareCall_227 : decode cX9_declareCall 227 = .ok (.iinc 7 1, 3) := by decide +kernel
theorem dX9_declareCall_230 : decode cX9_declareCall 230 = .ok (.goto (-36), 3) := by decide +kernel
theorem dX9_declareCall_233 : decode cX9_declareCall 233 = .ok (.aload_n 0, 1) := by decide +kernel
theorem dX9_declareCall_234 : decode cX9_declareCall 234 = .ok (.getfield 7, 3) := by decide +kernel
theorem dX9_declareCall_237 : decode cX9_declareCall 237 = .ok (.sipush 234, 3) := by decide +kernel
theorem dX9_declareCall_240 : decode cX9_declareCall 240 = .ok (.dup2, 1) := by decide +kernel
theorem dX9_declareCall_241 : decode cX9_declareCall 241 = .ok (.iaload, 1) := by decide +kernel
theorem dX9_declareCall_242 : decode cX9_declareCall 242 = .ok (.iconst 1, 1) := by decide +kernel
theorem dX9_declareCall_243 : decode cX9_declareCall 243 = .ok (.iadd, 1) := by decide +kernel
theorem dX9_declareCall_244 : decode cX9_declareCall 244 = .ok (.iastore, 1) := by decide +kernel
theorem dX9_declareCall_245 : decode cX9_declareCall 245 = .ok (.iload 6, 2) := by decide +kernel
theorem dX9_declareCall_247 : decode cX9_declareCall 247 = .ok (.ireturn, 1) := by decide +kernel
set_option maxRecDepth 20000 in
theorem ggX9_isArgument_X9_isCall : GoodIn wsX9_isArgument wsX9_isCall := goodIn_r _ [6, 1, 7, 8, 5, 9, 14, 15, 16, 17, 18, 19, 20, 21, 22, 23, 24, 25, 26] (by decide +kernel) (by decide +kernel)
set_option maxRecDepth 20000 in
theorem gX9_isArgument_X9_isCall : GoodIn wsX9_isArgument (wsV RX9 117 RX9 yX9_isCall wsX9_isCall) := goodIn_app (goodIn_of _ (by decide +kernel)) ggX9_isArgument_X9_isCall
set_option maxRecDepth 20000 in
theorem ggX9_isArgument_X9_at : GoodIn wsX9_isArgument wsX9_at := goodIn_r _ [13] (by decide +kernel) (by decide +kernel)
set_option maxRecDepth 20000 in
theorem gX9_isArgument_X9_at : GoodIn wsX9_isArgument (wsV RX9 111 RX9 yX9_at wsX9_at) := goodIn_app (goodIn_of _ (by decide +kernel)) ggX9_isArgument_X9_at
set_option maxRecDepth 20000 in
theorem ggX9_isArgument_X9_in : GoodIn wsX9_isArgument wsX9_in := goodIn_r _ [9] (by decide +kernel) (by decide +kernel)
set_option maxRecDepth 20000 in
theorem gX9_isArgument_X9_in : GoodIn wsX9_isArgument (va_wsS RX9 44 yX9_in wsX9_in) := goodIn_app (goodIn_of _ (by decide +kernel)) ggX9_isArgument_X9_in
theorem dX9_isArgument_0 : decode cX9_isArgument 0 = .ok (.aload_n 0, 1) := by decide +kernel
theorem dX9_isArgument_1 : decode cX9_isArgument 1 = .ok (.iload_n 1, 1) := by decide +kernel
theorem dX9_isArgument_2 : decode cX9_isArgument 2 = .ok (.invokevirtual 117, 3) := by decide +kernel
theorem dX9_isArgument_5 : decode cX9_isArgument 5 = .ok (.ifCond .eq 28, 3) := by decide +kernel
theorem dX9_isArgument_8 : decode cX9_isArgument 8 = .ok (.iload_n 2, 1) := by decide +kernel
theorem dX9_isArgument_9 : decode cX9_isArgument 9 = .ok (.iconst 0, 1) := by decide +kernel
theorem dX9_isArgument_10 : decode cX9_isArgument 10 = .ok (.aload_n 0, 1) := by decide +kernel
theorem dX9_isArgument_11 : decode cX9_isArgument 11 = .ok (.getfield 7, 3) := by decide +kernel
theorem dX9_isArgument_14 : decode cX9_isArgument 14 = .ok (.aload_n 0, 1) := by decide +kernel
theorem dX9_isArgument_15 : decode cX9_isArgument 15 = .ok (.iload_n 1, 1) := by decide +kernel
theorem dX9_isArgument_16 : decode cX9_isArgument 16 = .ok (.iconst 4, 1) := by decide +kernel
theorem dX9_isArgument_17 : decode cX9_isArgument 17 = .ok (.invokevirtual 111, 3) := by decide +kernel
theorem dX9_isArgument_20 : decode cX9_isArgument 20 = .ok (.iaload, 1) := by decide +kernel
theorem dX9_isArgument_21 : decode cX9_isArgument 21 = .ok (.iconst 1, 1) := by decide +kernel
theorem dX9_isArgument_22 : decode cX9_isArgument 22 = .ok (.isub, 1) := by decide +kernel
theorem dX9_isArgument_23 : decode cX9_isArgument 23 = .ok (.invokestatic 44, 3) := by decide +kernel
theorem dX9_isArgument_26 : decode cX9_isArgument 26 = .ok (.ifCond .eq 7, 3) := by decide +kernel
theorem dX9_isArgument_29 : decode cX9_isArgument 29 = .ok (.iconst 1, 1) := by decide +kernel
theorem dX9_isArgument_30 : decode cX9_isArgument 30 = .ok (.goto 4, 3) := by decide +kernel
theorem dX9_isArgument_33 : decode cX9_isArgument 33 = .ok (.iconst 0, 1) := by decide +kernel
theorem dX9_isArgument_34 : decode cX9_isArgument 34 = .ok (.ireturn, 1) := by decide +kernel
set_option maxRecDepth 20000 in
theorem ggX9_setArgument_X9_isArgument : GoodIn wsX9_setArgument wsX9_isArgument := goodIn_r _ [6, 1, 7, 8, 9, 5, 10, 11, 12, 13, 14, 15, 16, 17, 29, 30, 31, 32, 33, 34, 35, 36, 37, 38, 39, 40, 41] (by decide +kernel) (by decide +kernel)
set_option maxRecDepth 20000 in
theorem gX9_setArgument_X9_isArgument : GoodIn wsX9_setArgument (wsV RX9 120 RX9 yX9_isArgument wsX9_isArgument) := goodIn_app (goodIn_of _ (by decide +kernel)) ggX9_setArgument_X9_isArgument
set_option maxRecDepth 20000 in
theorem ggX9_setArgument_X9_in : GoodIn wsX9_setArgument wsX9_in := goodIn_r _ [13] (by decide +kernel) (by decide +kernel)
set_option maxRecDepth 20000 in
theorem gX9_setArgument_X9_in : GoodIn wsX9_setArgument (va_wsS RX9 44 yX9_in wsX9_in) := goodIn_app (goodIn_of _ (by decide +kernel)) ggX9_setArgument_X9_in
set_option maxRecDepth 20000 in
theorem ggX9_setArgument_X9_at : GoodIn wsX9_setArgument wsX9_at := goodIn_r _ [17] (by decide +kernel) (by decide +kernel)
set_option maxRecDepth 20000 in
theorem gX9_setArgument_X9_at : GoodIn wsX9_setArgument (wsV RX9 111 RX9 yX9_at wsX9_at) := goodIn_app (goodIn_of _ (by decide +kernel)) ggX9_setArgument_X9_at
set_option maxRecDepth 20000 in
theorem ggX9_setArgument_X9_isFrozen : GoodIn wsX9_setArgument wsX9_isFrozen := goodIn_r _ [21, 1, 14, 15, 16, 5, 17, 29, 30, 31, 32, 33, 34, 35, 36, 37, 38, 39, 40, 41] (by decide +kernel) (by decide +kernel)
set_option maxRecDepth 20000 in
theorem gX9_setArgument_X9_isFrozen : GoodIn wsX9_setArgument (wsV RX9 123 RX9 yX9_isFrozen wsX9_isFrozen) := goodIn_app (goodIn_of _ (by decide +kernel)) ggX9_setArgument_X9_isFrozen
set_option maxRecDepth 20000 in
theorem ggX9_setArgument_X9_edit : GoodIn wsX9_setArgument wsX9_edit := goodIn_r _ [25, 26, 27, 28, 1, 29, 30, 31, 32, 33, 34, 35, 36, 37, 38, 39, 40, 41] (by decide +kernel) (by decide +kernel)
set_option maxRecDepth 20000 in
theorem gX9_setArgument_X9_edit : GoodIn wsX9_setArgument (wsV RX9 86 RX9 yX9_edit wsX9_edit) := goodIn_app (goodIn_of _ (by decide +kernel)) ggX9_setArgument_X9_edit
theorem dX9_setArgument_0 : decode cX9_setArgument 0 = .ok (.aload_n 0, 1) := by decide +kernel
theorem dX9_setArgument_1 : decode cX9_setArgument 1 = .ok (.iload_n 1, 1) := by decide +kernel
theorem dX9_setArgument_2 : decode cX9_setArgument 2 = .ok (.iload_n 2, 1) := by decide +kernel
theorem dX9_setArgument_3 : decode cX9_setArgument 3 = .ok (.invokevirtual 120, 3) := by decide +kernel
theorem dX9_setArgument_6 : decode cX9_setArgument 6 = .ok (.ifCond .eq 40, 3) := by decide +kernel
theorem dX9_setArgument_9 : decode cX9_setArgument 9 = .ok (.iload_n 3, 1) := by decide +kernel
theorem dX9_setArgument_10 : decode cX9_setArgument 10 = .ok (.iconst 0, 1) := by decide +kernel
theorem dX9_setArgument_11 : decode cX9_setArgument 11 = .ok (.iconst 2, 1) := by decide +kernel
theorem dX9_setArgument_12 : decode cX9_setArgument 12 = .ok (.invokestatic 44, 3) := by decide +kernel
theorem dX9_setArgument_15 : decode cX9_setArgument 15 = .ok (.ifCond .eq 31, 3) := by decide +kernel
theorem dX9_setArgument_18 : decode cX9_setArgument 18 = .ok (.iload 4, 2) := by decide +kernel
theorem dX9_setArgument_20 : decode cX9_setArgument 20 = .ok (.iload_n 3, 1) := by decide +kernel
theorem dX9_setArgument_21 : decode cX9_setArgument 21 = .ok (.ifCond .ne 8, 3) := by decide +kernel
theorem dX9_setArgument_24 : decode cX9_setArgument 24 = .ok (.bipush (-99), 2) := by decide +kernel
theorem dX9_setArgument_26 : decode cX9_setArgument 26 = .ok (.goto 4, 3) := by decide +kernel
theorem dX9_setArgument_29 : decode cX9_setArgument 29 = .ok (.iconst 0, 1) := by decide +kernel
theorem dX9_setArgument_30 : decode cX9_setArgument 30 = .ok (.iload_n 3, 1) := by decide +kernel
theorem dX9_setArgument_31 : decode cX9_setArgument 31 = .ok (.ifCond .ne 8, 3) := by decide +kernel
theorem dX9_setArgument_34 : decode cX9_setArgument 34 = .ok (.bipush 99, 2) := by decide +kernel
theorem dX9_setArgument_36 : decode cX9_setArgument 36 = .ok (.goto 4, 3) := by decide +kernel
theorem dX9_setArgument_39 : decode cX9_setArgument 39 = .ok (.iconst 0, 1) := by decide +kernel
theorem dX9_setArgument_40 : decode cX9_setArgument 40 = .ok (.invokestatic 44, 3) := by decide +kernel
theorem dX9_setArgument_43 : decode cX9_setArgument 43 = .ok (.ifCond .ne 5, 3) := by decide +kernel
theorem dX9_setArgument_46 : decode cX9_setArgument 46 = .ok (.iconst (-1), 1) := by decide +kernel
theorem dX9_setArgument_47 : decode cX9_setArgument 47 = .ok (.ireturn, 1) := by decide +kernel
theorem dX9_setArgument_48 : decode cX9_setArgument 48 = .ok (.aload_n 0, 1) := by decide +kernel
theorem dX9_setArgument_49 : decode cX9_setArgument 49 = .ok (.getfield 7, 3) := by decide +kernel
theorem dX9_setArgument_52 : decode cX9_setArgument 52 = .ok (.aload_n 0, 1) := by decide +kernel
theorem dX9_setArgument_53 : decode cX9_setArgument 53 = .ok (.iload_n 1, 1) := by decide +kernel
theorem dX9_setArgument_54 : decode cX9_setArgument 54 = .ok (.iconst 5, 1) := by decide +kernel
theorem dX9_setArgument_55 : decode cX9_setArgument 55 = .ok (.iload_n 2, 1) := by decide +kernel
theorem dX9_setArgument_56 : decode cX9_setArgument 56 = .ok (.iadd, 1) := by decide +kernel
theorem dX9_setArgument_57 : decode cX9_setArgument 57 = .ok (.invokevirtual 111, 3) := by decide +kernel
theorem dX9_setArgument_60 : decode cX9_setArgument 60 = .ok (.iaload, 1) := by decide +kernel
theorem dX9_setArgument_61 : decode cX9_setArgument 61 = .ok (.istore 5, 2) := by decide +kernel
theorem dX9_setArgument_63 : decode cX9_setArgument 63 = .ok (.aload_n 0, 1) := by decide +kernel
theorem dX9_setArgument_64 : decode cX9_setArgument 64 = .ok (.iload_n 1, 1) := by decide +kernel
theorem dX9_setArgument_65 : decode cX9_setArgument 65 = .ok (.invokevirtual 123, 3) := by decide +kernel
theorem dX9_setArgument_68 : decode cX9_setArgument 68 = .ok (.ifCond .ne 9, 3) := by decide +kernel
theorem dX9_setArgument_71 : decode cX9_setArgument 71 = .ok (.iload 5, 2) := by decide +kernel
theorem dX9_setArgument_73 : decode cX9_setArgument 73 = .ok (.iconst 3, 1) := by decide +kernel
theorem dX9_setArgument_74 : decode cX9_setArgument 74 = .ok (.if_icmp .ne 6, 3) := by decide +kernel
theorem dX9_setArgument_77 : decode cX9_setArgument 77 = .ok (.bipush (-2), 2) := by decide +kernel
theorem dX9_setArgument_79 : decode cX9_setArgument 79 = .ok (.ireturn, 1) := by decide +kernel
theorem dX9_setArgument_80 : decode cX9_setArgument 80 = .ok (.aload_n 0, 1) := by decide +kernel
theorem dX9_setArgument_81 : decode cX9_setArgument 81 = .ok (.invokevirtual 86, 3) := by decide +kernel
theorem dX9_setArgument_84 : decode cX9_setArgument 84 = .ok (.aload_n 0, 1) := by decide +kernel
theorem dX9_setArgument_85 : decode cX9_setArgument 85 = .ok (.getfield 7, 3) := by decide +kernel
theorem dX9_setArgument_88 : decode cX9_setArgument 88 = .ok (.aload_n 0, 1) := by decide +kernel
theorem dX9_setArgument_89 : decode cX9_setArgument 89 = .ok (.iload_n 1, 1) := by decide +kernel
theorem dX9_setArgument_90 : decode cX9_setArgument 90 = .ok (.iconst 5, 1) := by decide +kernel
theorem dX9_setArgument_91 : decode cX9_setArgument 91 = .ok (.iload_n 2, 1) := by decide +kernel
theorem dX9_setArgument_92 : decode cX9_setArgument 92 = .ok (.iadd, 1) := by decide +kernel
theorem dX9_setArgument_93 : decode cX9_setArgument 93 = .ok (.invokevirtual 111, 3) := by decide +kernel
theorem dX9_setArgument_96 : decode cX9_setArgument 96 = .ok (.iload_n 3, 1) := by decide +kernel
theorem dX9_setArgument_97 : decode cX9_setArgument 97 = .ok (.iastore, 1) := by decide +kernel
theorem dX9_setArgument_98 : decode cX9_setArgument 98 = .ok (.aload_n 0, 1) := by decide +kernel
theorem dX9_setArgument_99 : decode cX9_setArgument 99 = .ok (.getfield 7, 3) := by decide +kernel
theorem dX9_setArgument_102 : decode cX9_setArgument 102 = .ok (.aload_n 0, 1) := by decide +kernel
theorem dX9_setArgument_103 : decode cX9_setArgument 103 = .ok (.iload_n 1, 1) := by decide +kernel
theorem dX9_setArgument_104 : decode cX9_setArgument 104 = .ok (.bipush 10, 2) := by decide +kernel
theorem dX9_setArgument_106 : decode cX9_setArgument 106 = .ok (.iload_n 2, 1) := by decide +kernel
theorem dX9_setArgument_107 : decode cX9_setArgument 107 = .ok (.iadd, 1) := by decide +kernel
theorem dX9_setArgument_108 : decode cX9_setArgument 108 = .ok (.invokevirtual 111, 3) := by decide +kernel
theorem dX9_setArgument_111 : decode cX9_setArgument 111 = .ok (.iload 4, 2) := by decide +kernel
theorem dX9_setArgument_113 : decode cX9_setArgument 113 = .ok (.iastore, 1) := by decide +kernel
theorem dX9_setArgument_114 : decode cX9_setArgument 114 = .ok (.iload 5, 2) := by decide +kernel
theorem dX9_setArgument_116 : decode cX9_setArgument 116 = .ok (.ireturn, 1) := by decide +kernel
set_option maxRecDepth 20000 in
theorem ggX9_isUpToDate_X9_at : GoodIn wsX9_isUpToDate wsX9_at := goodIn_r _ [6] (by decide +kernel) (by decide +kernel)
set_option maxRecDepth 20000 in
theorem gX9_isUpToDate_X9_at : GoodIn wsX9_isUpToDate (wsV RX9 111 RX9 yX9_at wsX9_at) := goodIn_app (goodIn_of _ (by decide +kernel)) ggX9_isUpToDate_X9_at
set_option maxRecDepth 20000 in
theorem ggX9_isUpToDate_X9_of : GoodIn wsX9_isUpToDate wsX9_of := goodIn_r _ [10, 1, 11, 12, 13, 14, 15, 16, 17, 18, 19, 20, 21, 22, 23] (by decide +kernel) (by decide +kernel)
set_option maxRecDepth 20000 in
theorem gX9_isUpToDate_X9_of : GoodIn wsX9_isUpToDate (wsV RX9 63 RX9 yX9_of wsX9_of) := goodIn_app (goodIn_of _ (by decide +kernel)) ggX9_isUpToDate_X9_of
theorem dX9_isUpToDate_0 : decode cX9_isUpToDate 0 = .ok (.aload_n 0, 1) := by decide +kernel
theorem dX9_isUpToDate_1 : decode cX9_isUpToDate 1 = .ok (.getfield 7, 3) := by decide +kernel
theorem dX9_isUpToDate_4 : decode cX9_isUpToDate 4 = .ok (.aload_n 0, 1) := by decide +kernel
theorem dX9_isUpToDate_5 : decode cX9_isUpToDate 5 = .ok (.iload_n 1, 1) := by decide +kernel
theorem dX9_isUpToDate_6 : decode cX9_isUpToDate 6 = .ok (.iconst 2, 1) := by decide +kernel
theorem dX9_isUpToDate_7 : decode cX9_isUpToDate 7 = .ok (.invokevirtual 111, 3) := by decide +kernel
theorem dX9_isUpToDate_10 : decode cX9_isUpToDate 10 = .ok (.iaload, 1) := by decide +kernel
theorem dX9_isUpToDate_11 : decode cX9_isUpToDate 11 = .ok (.istore_n 2, 1) := by decide +kernel
theorem dX9_isUpToDate_12 : decode cX9_isUpToDate 12 = .ok (.aload_n 0, 1) := by decide +kernel
theorem dX9_isUpToDate_13 : decode cX9_isUpToDate 13 = .ok (.getfield 7, 3) := by decide +kernel
theorem dX9_isUpToDate_16 : decode cX9_isUpToDate 16 = .ok (.aload_n 0, 1) := by decide +kernel
theorem dX9_isUpToDate_17 : decode cX9_isUpToDate 17 = .ok (.iload_n 1, 1) := by decide +kernel
theorem dX9_isUpToDate_18 : decode cX9_isUpToDate 18 = .ok (.iconst 4, 1) := by decide +kernel
theorem dX9_isUpToDate_19 : decode cX9_isUpToDate 19 = .ok (.invokevirtual 111, 3) := by decide +kernel
theorem dX9_isUpToDate_22 : decode cX9_isUpToDate 22 = .ok (.iaload, 1) := by decide +kernel
theorem dX9_isUpToDate_23 : decode cX9_isUpToDate 23 = .ok (.istore_n 3, 1) := by decide +kernel
theorem dX9_isUpToDate_24 : decode cX9_isUpToDate 24 = .ok (.iload_n 3, 1) := by decide +kernel
theorem dX9_isUpToDate_25 : decode cX9_isUpToDate 25 = .ok (.aload_n 0, 1) := by decide +kernel
theorem dX9_isUpToDate_26 : decode cX9_isUpToDate 26 = .ok (.iload_n 2, 1) := by decide +kernel
theorem dX9_isUpToDate_27 : decode cX9_isUpToDate 27 = .ok (.iconst 2, 1) := by decide +kernel
theorem dX9_isUpToDate_28 : decode cX9_isUpToDate 28 = .ok (.invokevirtual 63, 3) := by decide +kernel
theorem dX9_isUpToDate_31 : decode cX9_isUpToDate 31 = .ok (.if_icmp .ne 7, 3) := by decide +kernel
theorem dX9_isUpToDate_34 : decode cX9_isUpToDate 34 = .ok (.iconst 1, 1) := by decide +kernel
theorem dX9_isUpToDate_35 : decode cX9_isUpToDate 35 = .ok (.goto 4, 3) := by decide +kernel
theorem dX9_isUpToDate_38 : decode cX9_isUpToDate 38 = .ok (.iconst 0, 1) := by decide +kernel
theorem dX9_isUpToDate_39 : decode cX9_isUpToDate 39 = .ok (.istore 4, 2) := by decide +kernel
theorem dX9_isUpToDate_41 : decode cX9_isUpToDate 41 = .ok (.iconst 0, 1) := by decide +kernel
theorem dX9_isUpToDate_42 : decode cX9_isUpToDate 42 = .ok (.istore 5, 2) := by decide +kernel
theorem dX9_isUpToDate_44 : decode cX9_isUpToDate 44 = .ok (.iload 5, 2) := by decide +kernel
theorem dX9_isUpToDate_46 : decode cX9_isUpToDate 46 = .ok (.iload_n 3, 1) := by decide +kernel
theorem dX9_isUpToDate_47 : decode cX9_isUpToDate 47 = .ok (.if_icmp .ge 48, 3) := by decide +kernel
theorem dX9_isUpToDate_50 : decode cX9_isUpToDate 50 = .ok (.iload 4, 2) := by decide +kernel
theorem dX9_isUpToDate_52 : decode cX9_isUpToDate 52 = .ok (.ifCond .eq 43, 3) := by decide +kernel
theorem dX9_isUpToDate_55 : decode cX9_isUpToDate 55 = .ok (.aload_n 0, 1) := by decide +kernel
theorem dX9_isUpToDate_56 : decode cX9_isUpToDate 56 = .ok (.getfield 7, 3) := by decide +kernel
theorem dX9_isUpToDate_59 : decode cX9_isUpToDate 59 = .ok (.aload_n 0, 1) := by decide +kernel
theorem dX9_isUpToDate_60 : decode cX9_isUpToDate 60 = .ok (.iload_n 1, 1) := by decide +kernel
theorem dX9_isUpToDate_61 : decode cX9_isUpToDate 61 = .ok (.bipush 15, 2) := by decide +kernel
theorem dX9_isUpToDate_63 : decode cX9_isUpToDate 63 = .ok (.iload 5, 2) := by decide +kernel
theorem dX9_isUpToDate_65 : decode cX9_isUpToDate 65 = .ok (.iadd, 1) := by decide +kernel
theorem dX9_isUpToDate_66 : decode cX9_isUpToDate 66 = .ok (.invokevirtual 111, 3) := by decide +kernel
theorem dX9_isUpToDate_69 : decode cX9_isUpToDate 69 = .ok (.iaload, 1) := by decide +kernel
theorem dX9_isUpToDate_70 : decode cX9_isUpToDate 70 = .ok (.aload_n 0, 1) := by decide +kernel
theorem dX9_isUpToDate_71 : decode cX9_isUpToDate 71 = .ok (.iload_n 2, 1) := by decide +kernel
theorem dX9_isUpToDate_72 : decode cX9_isUpToDate 72 = .ok (.iconst 3, 1) := by decide +kernel
theorem dX9_isUpToDate_73 : decode cX9_isUpToDate 73 = .ok (.iload 5, 2) := by decide +kernel
theorem dX9_isUpToDate_75 : decode cX9_isUpToDate 75 = .ok (.iadd, 1) := by decide +kernel
theorem dX9_isUpToDate_76 : decode cX9_isUpToDate 76 = .ok (.invokevirtual 63, 3) := by decide +kernel
theorem dX9_isUpToDate_79 : decode cX9_isUpToDate 79 = .ok (.if_icmp .ne 7, 3) := by decide +kernel
theorem dX9_isUpToDate_82 : decode cX9_isUpToDate 82 = .ok (.iconst 1, 1) := by decide +kernel
theorem dX9_isUpToDate_83 : decode cX9_isUpToDate 83 = .ok (.goto 4, 3) := by decide +kernel
theorem dX9_isUpToDate_86 : decode cX9_isUpToDate 86 = .ok (.iconst 0, 1) := by decide +kernel
theorem dX9_isUpToDate_87 : decode cX9_isUpToDate 87 = .ok (.istore 4, 2) := by decide +kernel
theorem dX9_isUpToDate_89 : decode cX9_isUpToDate 89 = .ok (.iinc 5 1, 3) := by decide +kernel
theorem dX9_isUpToDate_92 : decode cX9_isUpToDate 92 = .ok (.goto (-48), 3) := by decide +kernel
theorem dX9_isUpToDate_95 : decode cX9_isUpToDate 95 = .ok (.iload 4, 2) := by decide +kernel
theorem dX9_isUpToDate_97 : decode cX9_isUpToDate 97 = .ok (.ireturn, 1) := by decide +kernel
set_option maxRecDepth 20000 in
theorem ggX9_setFrozen_X9_isCall : GoodIn wsX9_setFrozen wsX9_isCall := goodIn_r _ [6, 1, 7, 8, 5, 9, 29, 30, 31, 32, 33, 34, 35, 36, 37, 38, 39, 40, 41] (by decide +kernel) (by decide +kernel)
set_option maxRecDepth 20000 in
theorem gX9_setFrozen_X9_isCall : GoodIn wsX9_setFrozen (wsV RX9 117 RX9 yX9_isCall wsX9_isCall) := goodIn_app (goodIn_of _ (by decide +kernel)) ggX9_setFrozen_X9_isCall
set_option maxRecDepth 20000 in
theorem ggX9_setFrozen_X9_in : GoodIn wsX9_setFrozen wsX9_in := goodIn_r _ [9] (by decide +kernel) (by decide +kernel)
set_option maxRecDepth 20000 in
theorem gX9_setFrozen_X9_in : GoodIn wsX9_setFrozen (va_wsS RX9 44 yX9_in wsX9_in) := goodIn_app (goodIn_of _ (by decide +kernel)) ggX9_setFrozen_X9_in
set_option maxRecDepth 20000 in
theorem ggX9_setFrozen_X9_at : GoodIn wsX9_setFrozen wsX9_at := goodIn_r _ [13] (by decide +kernel) (by decide +kernel)
set_option maxRecDepth 20000 in
theorem gX9_setFrozen_X9_at : GoodIn wsX9_setFrozen (wsV RX9 111 RX9 yX9_at wsX9_at) := goodIn_app (goodIn_of _ (by decide +kernel)) ggX9_setFrozen_X9_at
set_option maxRecDepth 20000 in
theorem ggX9_setFrozen_X9_isUpToDate : GoodIn wsX9_setFrozen wsX9_isUpToDate := goodIn_r _ [17, 1, 10, 11, 12, 5, 13, 18, 19, 20, 21, 29, 30, 31, 32, 33, 34, 35, 36, 37, 38, 39, 40, 41] (by decide +kernel) (by decide +kernel)
set_option maxRecDepth 20000 in
theorem gX9_setFrozen_X9_isUpToDate : GoodIn wsX9_setFrozen (wsV RX9 126 RX9 yX9_isUpToDate wsX9_isUpToDate) := goodIn_app (goodIn_of _ (by decide +kernel)) ggX9_setFrozen_X9_isUpToDate
set_option maxRecDepth 20000 in
theorem ggX9_setFrozen_X9_edit : GoodIn wsX9_setFrozen wsX9_edit := goodIn_r _ [25, 26, 27, 28, 1, 29, 30, 31, 32, 33, 34, 35, 36, 37, 38, 39, 40, 41] (by decide +kernel) (by decide +kernel)
set_option maxRecDepth 20000 in
theorem gX9_setFrozen_X9_edit : GoodIn wsX9_setFrozen (wsV RX9 86 RX9 yX9_edit wsX9_edit) := goodIn_app (goodIn_of _ (by decide +kernel)) ggX9_setFrozen_X9_edit
theorem dX9_setFrozen_0 : decode cX9_setFrozen 0 = .ok (.aload_n 0, 1) := by decide +kernel
theorem dX9_setFrozen_1 : decode cX9_setFrozen 1 = .ok (.iload_n 1, 1) := by decide +kernel
theorem dX9_setFrozen_2 : decode cX9_setFrozen 2 = .ok (.invokevirtual 117, 3) := by decide +kernel
theorem dX9_setFrozen_5 : decode cX9_setFrozen 5 = .ok (.ifCond .eq 12, 3) := by decide +kernel
theorem dX9_setFrozen_8 : decode cX9_setFrozen 8 = .ok (.iload_n 2, 1) := by decide +kernel
theorem dX9_setFrozen_9 : decode cX9_setFrozen 9 = .ok (.iconst 0, 1) := by decide +kernel
theorem dX9_setFrozen_10 : decode cX9_setFrozen 10 = .ok (.iconst 1, 1) := by decide +kernel
theorem dX9_setFrozen_11 : decode cX9_setFrozen 11 = .ok (.invokestatic 44, 3) := by decide +kernel
theorem dX9_setFrozen_14 : decode cX9_setFrozen 14 = .ok (.ifCond .ne 5, 3) := by decide +kernel
theorem dX9_setFrozen_17 : decode cX9_setFrozen 17 = .ok (.iconst (-1), 1) := by decide +kernel
theorem dX9_setFrozen_18 : decode cX9_setFrozen 18 = .ok (.ireturn, 1) := by decide +kernel
theorem dX9_setFrozen_19 : decode cX9_setFrozen 19 = .ok (.aload_n 0, 1) := by decide +kernel
theorem dX9_setFrozen_20 : decode cX9_setFrozen 20 = .ok (.getfield 7, 3) := by decide +kernel
theorem dX9_setFrozen_23 : decode cX9_setFrozen 23 = .ok (.aload_n 0, 1) := by decide +kernel
theorem dX9_setFrozen_24 : decode cX9_setFrozen 24 = .ok (.iload_n 1, 1) := by decide +kernel
theorem dX9_setFrozen_25 : decode cX9_setFrozen 25 = .ok (.iconst 3, 1) := by decide +kernel
theorem dX9_setFrozen_26 : decode cX9_setFrozen 26 = .ok (.invokevirtual 111, 3) := by decide +kernel
theorem dX9_setFrozen_29 : decode cX9_setFrozen 29 = .ok (.iaload, 1) := by decide +kernel
theorem dX9_setFrozen_30 : decode cX9_setFrozen 30 = .ok (.iload_n 2, 1) := by decide +kernel
theorem dX9_setFrozen_31 : decode cX9_setFrozen 31 = .ok (.if_icmp .eq 15, 3) := by decide +kernel
theorem dX9_setFrozen_34 : decode cX9_setFrozen 34 = .ok (.iload_n 2, 1) := by decide +kernel
theorem dX9_setFrozen_35 : decode cX9_setFrozen 35 = .ok (.ifCond .ne 14, 3) := by decide +kernel
theorem dX9_setFrozen_38 : decode cX9_setFrozen 38 = .ok (.aload_n 0, 1) := by decide +kernel
theorem dX9_setFrozen_39 : decode cX9_setFrozen 39 = .ok (.iload_n 1, 1) := by decide +kernel
theorem dX9_setFrozen_40 : decode cX9_setFrozen 40 = .ok (.invokevirtual 126, 3) := by decide +kernel
theorem dX9_setFrozen_43 : decode cX9_setFrozen 43 = .ok (.ifCond .ne 6, 3) := by decide +kernel
theorem dX9_setFrozen_46 : decode cX9_setFrozen 46 = .ok (.bipush (-2), 2) := by decide +kernel
theorem dX9_setFrozen_48 : decode cX9_setFrozen 48 = .ok (.ireturn, 1) := by decide +kernel
theorem dX9_setFrozen_49 : decode cX9_setFrozen 49 = .ok (.aload_n 0, 1) := by decide +kernel
theorem dX9_setFrozen_50 : decode cX9_setFrozen 50 = .ok (.invokevirtual 86, 3) := by decide +kernel
theorem dX9_setFrozen_53 : decode cX9_setFrozen 53 = .ok (.aload_n 0, 1) := by decide +kernel
theorem dX9_setFrozen_54 : decode cX9_setFrozen 54 = .ok (.getfield 7, 3) := by decide +kernel
theorem dX9_setFrozen_57 : decode cX9_setFrozen 57 = .ok (.aload_n 0, 1) := by decide +kernel
theorem dX9_setFrozen_58 : decode cX9_setFrozen 58 = .ok (.iload_n 1, 1) := by decide +kernel
theorem dX9_setFrozen_59 : decode cX9_setFrozen 59 = .ok (.iconst 3, 1) := by decide +kernel
theorem dX9_setFrozen_60 : decode cX9_setFrozen 60 = .ok (.invokevirtual 111, 3) := by decide +kernel
theorem dX9_setFrozen_63 : decode cX9_setFrozen 63 = .ok (.iload_n 2, 1) := by decide +kernel
theorem dX9_setFrozen_64 : decode cX9_setFrozen 64 = .ok (.iastore, 1) := by decide +kernel
theorem dX9_setFrozen_65 : decode cX9_setFrozen 65 = .ok (.iconst 0, 1) := by decide +kernel
theorem dX9_setFrozen_66 : decode cX9_setFrozen 66 = .ok (.istore_n 3, 1) := by decide +kernel
theorem dX9_setFrozen_67 : decode cX9_setFrozen 67 = .ok (.iconst 0, 1) := by decide +kernel
theorem dX9_setFrozen_68 : decode cX9_setFrozen 68 = .ok (.istore 4, 2) := by decide +kernel
theorem dX9_setFrozen_70 : decode cX9_setFrozen 70 = .ok (.iload 4, 2) := by decide +kernel
theorem dX9_setFrozen_72 : decode cX9_setFrozen 72 = .ok (.aload_n 0, 1) := by decide +kernel
theorem dX9_setFrozen_73 : decode cX9_setFrozen 73 = .ok (.getfield 7, 3) := by decide +kernel
theorem dX9_setFrozen_76 : decode cX9_setFrozen 76 = .ok (.sipush 234, 3) := by decide +kernel
theorem dX9_setFrozen_79 : decode cX9_setFrozen 79 = .ok (.iaload, 1) := by decide +kernel
theorem dX9_setFrozen_80 : decode cX9_setFrozen 80 = .ok (.if_icmp .ge 24, 3) := by decide +kernel
theorem dX9_setFrozen_83 : decode cX9_setFrozen 83 = .ok (.iload_n 3, 1) := by decide +kernel
theorem dX9_setFrozen_84 : decode cX9_setFrozen 84 = .ok (.aload_n 0, 1) := by decide +kernel
theorem dX9_setFrozen_85 : decode cX9_setFrozen 85 = .ok (.getfield 7, 3) := by decide +kernel
theorem dX9_setFrozen_88 : decode cX9_setFrozen 88 = .ok (.aload_n 0, 1) := by decide +kernel
theorem dX9_setFrozen_89 : decode cX9_setFrozen 89 = .ok (.iload 4, 2) := by decide +kernel
theorem dX9_setFrozen_91 : decode cX9_setFrozen 91 = .ok (.iconst 3, 1) := by decide +kernel
theorem dX9_setFrozen_92 : decode cX9_setFrozen 92 = .ok (.invokevirtual 111, 3) := by decide +kernel
theorem dX9_setFrozen_95 : decode cX9_setFrozen 95 = .ok (.iaload, 1) := by decide +kernel
theorem dX9_setFrozen_96 : decode cX9_setFrozen 96 = .ok (.iadd, 1) := by decide +kernel
theorem dX9_setFrozen_97 : decode cX9_setFrozen 97 = .ok (.istore_n 3, 1) := by decide +kernel
theorem dX9_setFrozen_98 : decode cX9_setFrozen 98 = .ok (.iinc 4 1, 3) := by decide +kernel
theorem dX9_setFrozen_101 : decode cX9_setFrozen 101 = .ok (.goto (-31), 3) := by decide +kernel
theorem dX9_setFrozen_104 : decode cX9_setFrozen 104 = .ok (.iload_n 3, 1) := by decide +kernel
theorem dX9_setFrozen_105 : decode cX9_setFrozen 105 = .ok (.ireturn, 1) := by decide +kernel
set_option maxRecDepth 20000 in
theorem ggX9_declaredBy_X9_of : GoodIn wsX9_declaredBy wsX9_of := goodIn_r _ [6, 1, 15, 16, 17, 18, 19, 20, 21, 22, 23, 24, 25, 26, 27] (by decide +kernel) (by decide +kernel)
set_option maxRecDepth 20000 in
theorem gX9_declaredBy_X9_of : GoodIn wsX9_declaredBy (wsV RX9 63 RX9 yX9_of wsX9_of) := goodIn_app (goodIn_of _ (by decide +kernel)) ggX9_declaredBy_X9_of
set_option maxRecDepth 20000 in
theorem ggX9_declaredBy_X9_areAlikeNamed : GoodIn wsX9_declaredBy wsX9_areAlikeNamed := goodIn_r _ [10, 2, 3, 4, 5, 6, 1, 11, 12, 13, 14, 15, 16, 17, 18, 19, 20, 21, 22, 23, 24, 25, 26, 27] (by decide +kernel) (by decide +kernel)
set_option maxRecDepth 20000 in
theorem gX9_declaredBy_X9_areAlikeNamed : GoodIn wsX9_declaredBy (wsV RX9 70 RX9 yX9_areAlikeNamed wsX9_areAlikeNamed) := goodIn_app (goodIn_of _ (by decide +kernel)) ggX9_declaredBy_X9_areAlikeNamed
theorem dX9_declaredBy_0 : decode cX9_declaredBy 0 = .ok (.iconst 0, 1) := by decide +kernel
theorem dX9_declaredBy_1 : decode cX9_declaredBy 1 = .ok (.istore_n 3, 1) := by decide +kernel
theorem dX9_declaredBy_2 : decode cX9_declaredBy 2 = .ok (.iload_n 3, 1) := by decide +kernel
theorem dX9_declaredBy_3 : decode cX9_declaredBy 3 = .ok (.aload_n 0, 1) := by decide +kernel
theorem dX9_declaredBy_4 : decode cX9_declaredBy 4 = .ok (.getfield 7, 3) := by decide +kernel
theorem dX9_declaredBy_7 : decode cX9_declaredBy 7 = .ok (.bipush 25, 2) := by decide +kernel
theorem dX9_declaredBy_9 : decode cX9_declaredBy 9 = .ok (.iaload, 1) := by decide +kernel
theorem dX9_declaredBy_10 : decode cX9_declaredBy 10 = .ok (.if_icmp .ge 30, 3) := by decide +kernel
theorem dX9_declaredBy_13 : decode cX9_declaredBy 13 = .ok (.aload_n 0, 1) := by decide +kernel
theorem dX9_declaredBy_14 : decode cX9_declaredBy 14 = .ok (.iload_n 3, 1) := by decide +kernel
theorem dX9_declaredBy_15 : decode cX9_declaredBy 15 = .ok (.iconst 0, 1) := by decide +kernel
theorem dX9_declaredBy_16 : decode cX9_declaredBy 16 = .ok (.invokevirtual 63, 3) := by decide +kernel
theorem dX9_declaredBy_19 : decode cX9_declaredBy 19 = .ok (.iload_n 1, 1) := by decide +kernel
theorem dX9_declaredBy_20 : decode cX9_declaredBy 20 = .ok (.if_icmp .ne 14, 3) := by decide +kernel
theorem dX9_declaredBy_23 : decode cX9_declaredBy 23 = .ok (.aload_n 0, 1) := by decide +kernel
theorem dX9_declaredBy_24 : decode cX9_declaredBy 24 = .ok (.iload_n 3, 1) := by decide +kernel
theorem dX9_declaredBy_25 : decode cX9_declaredBy 25 = .ok (.iload_n 2, 1) := by decide +kernel
theorem dX9_declaredBy_26 : decode cX9_declaredBy 26 = .ok (.invokevirtual 70, 3) := by decide +kernel
theorem dX9_declaredBy_29 : decode cX9_declaredBy 29 = .ok (.ifCond .eq 5, 3) := by decide +kernel
theorem dX9_declaredBy_32 : decode cX9_declaredBy 32 = .ok (.iload_n 3, 1) := by decide +kernel
theorem dX9_declaredBy_33 : decode cX9_declaredBy 33 = .ok (.ireturn, 1) := by decide +kernel
theorem dX9_declaredBy_34 : decode cX9_declaredBy 34 = .ok (.iinc 3 1, 3) := by decide +kernel
theorem dX9_declaredBy_37 : decode cX9_declaredBy 37 = .ok (.goto (-35), 3) := by decide +kernel
theorem dX9_declaredBy_40 : decode cX9_declaredBy 40 = .ok (.bipush (-9), 2) := by decide +kernel
theorem dX9_declaredBy_42 : decode cX9_declaredBy 42 = .ok (.ireturn, 1) := by decide +kernel
set_option maxRecDepth 20000 in
theorem ggX9_isOverridden_X9_of : GoodIn wsX9_isOverridden wsX9_of := goodIn_r _ [6, 1, 34, 35, 36, 37, 38, 39, 40, 41, 42, 43, 44, 45, 46] (by decide +kernel) (by decide +kernel)
set_option maxRecDepth 20000 in
theorem gX9_isOverridden_X9_of : GoodIn wsX9_isOverridden (wsV RX9 63 RX9 yX9_of wsX9_of) := goodIn_app (goodIn_of _ (by decide +kernel)) ggX9_isOverridden_X9_of
set_option maxRecDepth 20000 in
theorem ggX9_isOverridden_X9_isInterface : GoodIn wsX9_isOverridden wsX9_isInterface := goodIn_r _ [10, 1, 34, 35, 36, 37, 38, 39, 40, 41, 42, 43, 44, 45, 46] (by decide +kernel) (by decide +kernel)
set_option maxRecDepth 20000 in
theorem gX9_isOverridden_X9_isInterface : GoodIn wsX9_isOverridden (wsV RX9 59 RX9 yX9_isInterface wsX9_isInterface) := goodIn_app (goodIn_of _ (by decide +kernel)) ggX9_isOverridden_X9_isInterface
set_option maxRecDepth 20000 in
theorem ggX9_isOverridden_X9_supers : GoodIn wsX9_isOverridden wsX9_supers := goodIn_r _ [14, 15, 16, 17, 5, 18, 1, 19, 20, 21, 34, 35, 36, 37, 38, 39, 40, 41, 42, 43, 44, 45, 46] (by decide +kernel) (by decide +kernel)
set_option maxRecDepth 20000 in
theorem gX9_isOverridden_X9_supers : GoodIn wsX9_isOverridden (wsV RX9 56 RX9 yX9_supers wsX9_supers) := goodIn_app (goodIn_of _ (by decide +kernel)) ggX9_isOverridden_X9_supers
set_option maxRecDepth 20000 in
theorem ggX9_isOverridden_X9_has : GoodIn wsX9_isOverridden wsX9_has := goodIn_r _ [21] (by decide +kernel) (by decide +kernel)
set_option maxRecDepth 20000 in
theorem gX9_isOverridden_X9_has : GoodIn wsX9_isOverridden (va_wsS RX9 48 yX9_has wsX9_has) := goodIn_app (goodIn_of _ (by decide +kernel)) ggX9_isOverridden_X9_has
set_option maxRecDepth 20000 in
theorem ggX9_isOverridden_X9_declaredBy : GoodIn wsX9_isOverridden wsX9_declaredBy := goodIn_r _ [25, 1, 2, 3, 4, 5, 6, 26, 27, 28, 29, 30, 31, 32, 33, 34, 35, 36, 37, 38, 39, 40, 41, 42, 43, 44, 45, 46] (by decide +kernel) (by decide +kernel)
set_option maxRecDepth 20000 in
theorem gX9_isOverridden_X9_declaredBy : GoodIn wsX9_isOverridden (wsV RX9 129 RX9 yX9_declaredBy wsX9_declaredBy) := goodIn_app (goodIn_of _ (by decide +kernel)) ggX9_isOverridden_X9_declaredBy
theorem dX9_isOverridden_0 : decode cX9_isOverridden 0 = .ok (.iconst 0, 1) := by decide +kernel
theorem dX9_isOverridden_1 : decode cX9_isOverridden 1 = .ok (.istore 4, 2) := by decide +kernel
theorem dX9_isOverridden_3 : decode cX9_isOverridden 3 = .ok (.iconst 0, 1) := by decide +kernel
theorem dX9_isOverridden_4 : decode cX9_isOverridden 4 = .ok (.istore 5, 2) := by decide +kernel
theorem dX9_isOverridden_6 : decode cX9_isOverridden 6 = .ok (.iload 5, 2) := by decide +kernel
theorem dX9_isOverridden_8 : decode cX9_isOverridden 8 = .ok (.aload_n 0, 1) := by decide +kernel
theorem dX9_isOverridden_9 : decode cX9_isOverridden 9 = .ok (.getfield 7, 3) := by decide +kernel
theorem dX9_isOverridden_12 : decode cX9_isOverridden 12 = .ok (.iconst 0, 1) := by decide +kernel
theorem dX9_isOverridden_13 : decode cX9_isOverridden 13 = .ok (.iaload, 1) := by decide +kernel
theorem dX9_isOverridden_14 : decode cX9_isOverridden 14 = .ok (.if_icmp .ge 96, 3) := by decide +kernel
theorem dX9_isOverridden_17 : decode cX9_isOverridden 17 = .ok (.iload 5, 2) := by decide +kernel
theorem dX9_isOverridden_19 : decode cX9_isOverridden 19 = .ok (.aload_n 0, 1) := by decide +kernel
theorem dX9_isOverridden_20 : decode cX9_isOverridden 20 = .ok (.iload_n 1, 1) := by decide +kernel
theorem dX9_isOverridden_21 : decode cX9_isOverridden 21 = .ok (.iconst 0, 1) := by decide +kernel
theorem dX9_isOverridden_22 : decode cX9_isOverridden 22 = .ok (.invokevirtual 63, 3) := by decide +kernel
theorem dX9_isOverridden_25 : decode cX9_isOverridden 25 = .ok (.if_icmp .eq 41, 3) := by decide +kernel
theorem dX9_isOverridden_28 : decode cX9_isOverridden 28 = .ok (.aload_n 0, 1) := by decide +kernel
theorem dX9_isOverridden_29 : decode cX9_isOverridden 29 = .ok (.iload 5, 2) := by decide +kernel
theorem dX9_isOverridden_31 : decode cX9_isOverridden 31 = .ok (.invokevirtual 59, 3) := by decide +kernel
theorem dX9_isOverridden_34 : decode cX9_isOverridden 34 = .ok (.ifCond .eq 32, 3) := by decide +kernel
theorem dX9_isOverridden_37 : decode cX9_isOverridden 37 = .ok (.aload_n 0, 1) := by decide +kernel
theorem dX9_isOverridden_38 : decode cX9_isOverridden 38 = .ok (.iload_n 2, 1) := by decide +kernel
theorem dX9_isOverridden_39 : decode cX9_isOverridden 39 = .ok (.invokevirtual 56, 3) := by decide +kernel
theorem dX9_isOverridden_42 : decode cX9_isOverridden 42 = .ok (.iload 5, 2) := by decide +kernel
theorem dX9_isOverridden_44 : decode cX9_isOverridden 44 = .ok (.invokestatic 48, 3) := by decide +kernel
theorem dX9_isOverridden_47 : decode cX9_isOverridden 47 = .ok (.ifCond .eq 19, 3) := by decide +kernel
theorem dX9_isOverridden_50 : decode cX9_isOverridden 50 = .ok (.aload_n 0, 1) := by decide +kernel
theorem dX9_isOverridden_51 : decode cX9_isOverridden 51 = .ok (.iload 5, 2) := by decide +kernel
theorem dX9_isOverridden_53 : decode cX9_isOverridden 53 = .ok (.iload_n 3, 1) := by decide +kernel
theorem dX9_isOverridden_54 : decode cX9_isOverridden 54 = .ok (.invokevirtual 129, 3) := by decide +kernel
theorem dX9_isOverridden_57 : decode cX9_isOverridden 57 = .ok (.bipush (-9), 2) := by decide +kernel
theorem dX9_isOverridden_59 : decode cX9_isOverridden 59 = .ok (.if_icmp .eq 7, 3) := by decide +kernel
theorem dX9_isOverridden_62 : decode cX9_isOverridden 62 = .ok (.iconst 1, 1) := by decide +kernel
theorem dX9_isOverridden_63 : decode cX9_isOverridden 63 = .ok (.goto 4, 3) := by decide +kernel
theorem dX9_isOverridden_66 : decode cX9_isOverridden 66 = .ok (.iconst 0, 1) := by decide +kernel
theorem dX9_isOverridden_67 : decode cX9_isOverridden 67 = .ok (.istore 6, 2) := by decide +kernel
theorem dX9_isOverridden_69 : decode cX9_isOverridden 69 = .ok (.iload 4, 2) := by decide +kernel
theorem dX9_isOverridden_71 : decode cX9_isOverridden 71 = .ok (.ifCond .ne 26, 3) := by decide +kernel
theorem dX9_isOverridden_74 : decode cX9_isOverridden 74 = .ok (.iload 6, 2) := by decide +kernel
theorem dX9_isOverridden_76 : decode cX9_isOverridden 76 = .ok (.ifCond .eq 25, 3) := by decide +kernel
theorem dX9_isOverridden_79 : decode cX9_isOverridden 79 = .ok (.aload_n 0, 1) := by decide +kernel
theorem dX9_isOverridden_80 : decode cX9_isOverridden 80 = .ok (.iload 5, 2) := by decide +kernel
theorem dX9_isOverridden_82 : decode cX9_isOverridden 82 = .ok (.invokevirtual 56, 3) := by decide +kernel
theorem dX9_isOverridden_85 : decode cX9_isOverridden 85 = .ok (.aload_n 0, 1) := by decide +kernel
theorem dX9_isOverridden_86 : decode cX9_isOverridden 86 = .ok (.iload_n 1, 1) := by decide +kernel
theorem dX9_isOverridden_87 : decode cX9_isOverridden 87 = .ok (.iconst 0, 1) := by decide +kernel
theorem dX9_isOverridden_88 : decode cX9_isOverridden 88 = .ok (.invokevirtual 63, 3) := by decide +kernel
theorem dX9_isOverridden_91 : decode cX9_isOverridden 91 = .ok (.invokestatic 48, 3) := by decide +kernel
theorem dX9_isOverridden_94 : decode cX9_isOverridden 94 = .ok (.ifCond .eq 7, 3) := by decide +kernel
theorem dX9_isOverridden_97 : decode cX9_isOverridden 97 = .ok (.iconst 1, 1) := by decide +kernel
theorem dX9_isOverridden_98 : decode cX9_isOverridden 98 = .ok (.goto 4, 3) := by decide +kernel
theorem dX9_isOverridden_101 : decode cX9_isOverridden 101 = .ok (.iconst 0, 1) := by decide +kernel
theorem dX9_isOverridden_102 : decode cX9_isOverridden 102 = .ok (.istore 4, 2) := by decide +kernel
theorem dX9_isOverridden_104 : decode cX9_isOverridden 104 = .ok (.iinc 5 1, 3) := by decide +kernel
theorem dX9_isOverridden_107 : decode cX9_isOverridden 107 = .ok (.goto (-101), 3) := by decide +kernel
theorem dX9_isOverridden_110 : decode cX9_isOverridden 110 = .ok (.iload 4, 2) := by decide +kernel
theorem dX9_isOverridden_112 : decode cX9_isOverridden 112 = .ok (.ireturn, 1) := by decide +kernel
set_option maxRecDepth 20000 in
theorem ggX9_dispatched_X9_at : GoodIn wsX9_dispatched wsX9_at := goodIn_r _ [6] (by decide +kernel) (by decide +kernel)
set_option maxRecDepth 20000 in
theorem gX9_dispatched_X9_at : GoodIn wsX9_dispatched (wsV RX9 111 RX9 yX9_at wsX9_at) := goodIn_app (goodIn_of _ (by decide +kernel)) ggX9_dispatched_X9_at
set_option maxRecDepth 20000 in
theorem ggX9_dispatched_X9_declaredBy : GoodIn wsX9_dispatched wsX9_declaredBy := goodIn_r _ [10, 1, 11, 12, 13, 5, 14, 15, 16, 17, 18, 19, 20, 21, 22, 42, 43, 44, 45, 46, 47, 48, 49, 50, 51, 52, 53, 54] (by decide +kernel) (by decide +kernel)
set_option maxRecDepth 20000 in
theorem gX9_dispatched_X9_declaredBy : GoodIn wsX9_dispatched (wsV RX9 129 RX9 yX9_declaredBy wsX9_declaredBy) := goodIn_app (goodIn_of _ (by decide +kernel)) ggX9_dispatched_X9_declaredBy
set_option maxRecDepth 20000 in
theorem ggX9_dispatched_X9_isInterface : GoodIn wsX9_dispatched wsX9_isInterface := goodIn_r _ [26, 1, 42, 43, 44, 45, 46, 47, 48, 49, 50, 51, 52, 53, 54] (by decide +kernel) (by decide +kernel)
set_option maxRecDepth 20000 in
theorem gX9_dispatched_X9_isInterface : GoodIn wsX9_dispatched (wsV RX9 59 RX9 yX9_isInterface wsX9_isInterface) := goodIn_app (goodIn_of _ (by decide +kernel)) ggX9_dispatched_X9_isInterface
set_option maxRecDepth 20000 in
theorem ggX9_dispatched_X9_supers : GoodIn wsX9_dispatched wsX9_supers := goodIn_r _ [30, 31, 32, 33, 5, 34, 1, 35, 36, 37, 42, 43, 44, 45, 46, 47, 48, 49, 50, 51, 52, 53, 54] (by decide +kernel) (by decide +kernel)
set_option maxRecDepth 20000 in
theorem gX9_dispatched_X9_supers : GoodIn wsX9_dispatched (wsV RX9 56 RX9 yX9_supers wsX9_supers) := goodIn_app (goodIn_of _ (by decide +kernel)) ggX9_dispatched_X9_supers
set_option maxRecDepth 20000 in
theorem ggX9_dispatched_X9_has : GoodIn wsX9_dispatched wsX9_has := goodIn_r _ [37] (by decide +kernel) (by decide +kernel)
set_option maxRecDepth 20000 in
theorem gX9_dispatched_X9_has : GoodIn wsX9_dispatched (va_wsS RX9 48 yX9_has wsX9_has) := goodIn_app (goodIn_of _ (by decide +kernel)) ggX9_dispatched_X9_has
set_option maxRecDepth 20000 in
theorem ggX9_dispatched_X9_isOverridden : GoodIn wsX9_dispatched wsX9_isOverridden := goodIn_r _ [41, 1, 11, 12, 13, 5, 14, 23, 24, 25, 26, 27, 28, 29, 30, 31, 32, 33, 34, 35, 36, 37, 7, 8, 9, 10, 15, 16, 17, 18, 19, 20, 21, 22, 42, 43, 44, 45, 46, 47, 48, 49, 50, 51, 52, 53, 54] (by decide +kernel) (by decide +kernel)
set_option maxRecDepth 20000 in
theorem gX9_dispatched_X9_isOverridden : GoodIn wsX9_dispatched (wsV RX9 132 RX9 yX9_isOverridden wsX9_isOverridden) := goodIn_app (goodIn_of _ (by decide +kernel)) ggX9_dispatched_X9_isOverridden
theorem dX9_dispatched_0 : decode cX9_dispatched 0 = .ok (.aload_n 0, 1) := by decide +kernel
theorem dX9_dispatched_1 : decode cX9_dispatched 1 = .ok (.getfield 7, 3) := by decide +kernel
theorem dX9_dispatched_4 : decode cX9_dispatched 4 = .ok (.aload_n 0, 1) := by decide +kernel
theorem dX9_dispatched_5 : decode cX9_dispatched 5 = .ok (.iload_n 1, 1) := by decide +kernel
theorem dX9_dispatched_6 : decode cX9_dispatched 6 = .ok (.iconst 2, 1) := by decide +kernel
theorem dX9_dispatched_7 : decode cX9_dispatched 7 = .ok (.invokevirtual 111, 3) := by decide +kernel
theorem dX9_dispatched_10 : decode cX9_dispatched 10 = .ok (.iaload, 1) := by decide +kernel
theorem dX9_dispatched_11 : decode cX9_dispatched 11 = .ok (.istore_n 2, 1) := by decide +kernel
theorem dX9_dispatched_12 : decode cX9_dispatched 12 = .ok (.aload_n 0, 1) := by decide +kernel
theorem dX9_dispatched_13 : decode cX9_dispatched 13 = .ok (.getfield 7, 3) := by decide +kernel
theorem dX9_dispatched_16 : decode cX9_dispatched 16 = .ok (.aload_n 0, 1) := by decide +kernel
theorem dX9_dispatched_17 : decode cX9_dispatched 17 = .ok (.iload_n 1, 1) := by decide +kernel
theorem dX9_dispatched_18 : decode cX9_dispatched 18 = .ok (.iconst 1, 1) := by decide +kernel
theorem dX9_dispatched_19 : decode cX9_dispatched 19 = .ok (.invokevirtual 111, 3) := by decide +kernel
theorem dX9_dispatched_22 : decode cX9_dispatched 22 = .ok (.iaload, 1) := by decide +kernel
theorem dX9_dispatched_23 : decode cX9_dispatched 23 = .ok (.istore_n 3, 1) := by decide +kernel
theorem dX9_dispatched_24 : decode cX9_dispatched 24 = .ok (.iload_n 3, 1) := by decide +kernel
theorem dX9_dispatched_25 : decode cX9_dispatched 25 = .ok (.istore 4, 2) := by decide +kernel
theorem dX9_dispatched_27 : decode cX9_dispatched 27 = .ok (.iload 4, 2) := by decide +kernel
theorem dX9_dispatched_29 : decode cX9_dispatched 29 = .ok (.ifCond .lt 40, 3) := by decide +kernel
theorem dX9_dispatched_32 : decode cX9_dispatched 32 = .ok (.aload_n 0, 1) := by decide +kernel
theorem dX9_dispatched_33 : decode cX9_dispatched 33 = .ok (.iload 4, 2) := by decide +kernel
theorem dX9_dispatched_35 : decode cX9_dispatched 35 = .ok (.iload_n 2, 1) := by decide +kernel
theorem dX9_dispatched_36 : decode cX9_dispatched 36 = .ok (.invokevirtual 129, 3) := by decide +kernel
theorem dX9_dispatched_39 : decode cX9_dispatched 39 = .ok (.istore 5, 2) := by decide +kernel
theorem dX9_dispatched_41 : decode cX9_dispatched 41 = .ok (.iload 5, 2) := by decide +kernel
theorem dX9_dispatched_43 : decode cX9_dispatched 43 = .ok (.bipush (-9), 2) := by decide +kernel
theorem dX9_dispatched_45 : decode cX9_dispatched 45 = .ok (.if_icmp .eq 6, 3) := by decide +kernel
theorem dX9_dispatched_48 : decode cX9_dispatched 48 = .ok (.iload 5, 2) := by decide +kernel
theorem dX9_dispatched_50 : decode cX9_dispatched 50 = .ok (.ireturn, 1) := by decide +kernel
theorem dX9_dispatched_51 : decode cX9_dispatched 51 = .ok (.aload_n 0, 1) := by decide +kernel
theorem dX9_dispatched_52 : decode cX9_dispatched 52 = .ok (.getfield 7, 3) := by decide +kernel
theorem dX9_dispatched_55 : decode cX9_dispatched 55 = .ok (.iconst 1, 1) := by decide +kernel
theorem dX9_dispatched_56 : decode cX9_dispatched 56 = .ok (.iconst 3, 1) := by decide +kernel
theorem dX9_dispatched_57 : decode cX9_dispatched 57 = .ok (.iload 4, 2) := by decide +kernel
theorem dX9_dispatched_59 : decode cX9_dispatched 59 = .ok (.imul, 1) := by decide +kernel
theorem dX9_dispatched_60 : decode cX9_dispatched 60 = .ok (.iadd, 1) := by decide +kernel
theorem dX9_dispatched_61 : decode cX9_dispatched 61 = .ok (.iconst 1, 1) := by decide +kernel
theorem dX9_dispatched_62 : decode cX9_dispatched 62 = .ok (.iadd, 1) := by decide +kernel
theorem dX9_dispatched_63 : decode cX9_dispatched 63 = .ok (.iaload, 1) := by decide +kernel
theorem dX9_dispatched_64 : decode cX9_dispatched 64 = .ok (.istore 4, 2) := by decide +kernel
theorem dX9_dispatched_66 : decode cX9_dispatched 66 = .ok (.goto (-39), 3) := by decide +kernel
theorem dX9_dispatched_69 : decode cX9_dispatched 69 = .ok (.iconst 0, 1) := by decide +kernel
theorem dX9_dispatched_70 : decode cX9_dispatched 70 = .ok (.istore 4, 2) := by decide +kernel
theorem dX9_dispatched_72 : decode cX9_dispatched 72 = .ok (.iload 4, 2) := by decide +kernel
theorem dX9_dispatched_74 : decode cX9_dispatched 74 = .ok (.aload_n 0, 1) := by decide +kernel
theorem dX9_dispatched_75 : decode cX9_dispatched 75 = .ok (.getfield 7, 3) := by decide +kernel
theorem dX9_dispatched_78 : decode cX9_dispatched 78 = .ok (.iconst 0, 1) := by decide +kernel
theorem dX9_dispatched_79 : decode cX9_dispatched 79 = .ok (.iaload, 1) := by decide +kernel
theorem dX9_dispatched_80 : decode cX9_dispatched 80 = .ok (.if_icmp .ge 66, 3) := by decide +kernel
theorem dX9_dispatched_83 : decode cX9_dispatched 83 = .ok (.aload_n 0, 1) := by decide +kernel
theorem dX9_dispatched_84 : decode cX9_dispatched 84 = .ok (.iload 4, 2) := by decide +kernel
theorem dX9_dispatched_86 : decode cX9_dispatched 86 = .ok (.invokevirtual 59, 3) := by decide +kernel
theorem dX9_dispatched_89 : decode cX9_dispatched 89 = .ok (.ifCond .eq 26, 3) := by decide +kernel
theorem dX9_dispatched_92 : decode cX9_dispatched 92 = .ok (.aload_n 0, 1) := by decide +kernel
theorem dX9_dispatched_93 : decode cX9_dispatched 93 = .ok (.iload_n 3, 1) := by decide +kernel
theorem dX9_dispatched_94 : decode cX9_dispatched 94 = .ok (.invokevirtual 56, 3) := by decide +kernel
theorem dX9_dispatched_97 : decode cX9_dispatched 97 = .ok (.iload 4, 2) := by decide +kernel
theorem dX9_dispatched_99 : decode cX9_dispatched 99 = .ok (.invokestatic 48, 3) := by decide +kernel
theorem dX9_dispatched_102 : decode cX9_dispatched 102 = .ok (.ifCond .eq 13, 3) := by decide +kernel
theorem dX9_dispatched_105 : decode cX9_dispatched 105 = .ok (.aload_n 0, 1) := by decide +kernel
theorem dX9_dispatched_106 : decode cX9_dispatched 106 = .ok (.iload 4, 2) := by decide +kernel
theorem dX9_dispatched_108 : decode cX9_dispatched 108 = .ok (.iload_n 2, 1) := by decide +kernel
theorem dX9_dispatched_109 : decode cX9_dispatched 109 = .ok (.invokevirtual 129, 3) := by decide +kernel
theorem dX9_dispatched_112 : decode cX9_dispatched 112 = .ok (.goto 5, 3) := by decide +kernel
theorem dX9_dispatched_115 : decode cX9_dispatched 115 = .ok (.bipush (-9), 2) := by decide +kernel
theorem dX9_dispatched_117 : decode cX9_dispatched 117 = .ok (.istore 5, 2) := by decide +kernel
theorem dX9_dispatched_119 : decode cX9_dispatched 119 = .ok (.iload 5, 2) := by decide +kernel
theorem dX9_dispatched_121 : decode cX9_dispatched 121 = .ok (.bipush (-9), 2) := by decide +kernel
theorem dX9_dispatched_123 : decode cX9_dispatched 123 = .ok (.if_icmp .eq 17, 3) := by decide +kernel
theorem dX9_dispatched_126 : decode cX9_dispatched 126 = .ok (.aload_n 0, 1) := by decide +kernel
theorem dX9_dispatched_127 : decode cX9_dispatched 127 = .ok (.iload 5, 2) := by decide +kernel
theorem dX9_dispatched_129 : decode cX9_dispatched 129 = .ok (.iload_n 3, 1) := by decide +kernel
theorem dX9_dispatched_130 : decode cX9_dispatched 130 = .ok (.iload_n 2, 1) := by decide +kernel
theorem dX9_dispatched_131 : decode cX9_dispatched 131 = .ok (.invokevirtual 132, 3) := by decide +kernel
theorem dX9_dispatched_134 : decode cX9_dispatched 134 = .ok (.ifCond .ne 6, 3) := by decide +kernel
theorem dX9_dispatched_137 : decode cX9_dispatched 137 = .ok (.iload 5, 2) := by decide +kernel
theorem dX9_dispatched_139 : decode cX9_dispatched 139 = .ok (.ireturn, 1) := by decide +kernel
theorem dX9_dispatched_140 : decode cX9_dispatched 140 = .ok (.iinc 4 1, 3) := by decide +kernel
theorem dX9_dispatched_143 : decode cX9_dispatched 143 = .ok (.goto (-71), 3) := by decide +kernel
theorem dX9_dispatched_146 : decode cX9_dispatched 146 = .ok (.bipush (-9), 2) := by decide +kernel
theorem dX9_dispatched_148 : decode cX9_dispatched 148 = .ok (.ireturn, 1) := by decide +kernel
theorem dX9_evaluate_0 : decode cX9_evaluate 0 = .ok (.iload_n 1, 1) := by decide +kernel
theorem dX9_evaluate_1 : decode cX9_evaluate 1 = .ok (.iconst 1, 1) := by decide +kernel
theorem dX9_evaluate_2 : decode cX9_evaluate 2 = .ok (.if_icmp .ne 8, 3) := by decide +kernel
theorem dX9_evaluate_5 : decode cX9_evaluate 5 = .ok (.aload_n 0, 1) := by decide +kernel
theorem dX9_evaluate_6 : decode cX9_evaluate 6 = .ok (.getfield 135, 3) := by decide +kernel
theorem dX9_evaluate_9 : decode cX9_evaluate 9 = .ok (.ireturn, 1) := by decide +kernel
theorem dX9_evaluate_10 : decode cX9_evaluate 10 = .ok (.iload_n 1, 1) := by decide +kernel
theorem dX9_evaluate_11 : decode cX9_evaluate 11 = .ok (.iconst 2, 1) := by decide +kernel
theorem dX9_evaluate_12 : decode cX9_evaluate 12 = .ok (.if_icmp .ne 20, 3) := by decide +kernel
theorem dX9_evaluate_15 : decode cX9_evaluate 15 = .ok (.aload_n 0, 1) := by decide +kernel
theorem dX9_evaluate_16 : decode cX9_evaluate 16 = .ok (.dup, 1) := by decide +kernel
theorem dX9_evaluate_17 : decode cX9_evaluate 17 = .ok (.getfield 135, 3) := by decide +kernel
theorem dX9_evaluate_20 : decode cX9_evaluate 20 = .ok (.iconst 1, 1) := by decide +kernel
theorem dX9_evaluate_21 : decode cX9_evaluate 21 = .ok (.iadd, 1) := by decide +kernel
theorem dX9_evaluate_22 : decode cX9_evaluate 22 = .ok (.putfield 135, 3) := by decide +kernel
theorem dX9_evaluate_25 : decode cX9_evaluate 25 = .ok (.aload_n 0, 1) := by decide +kernel
theorem dX9_evaluate_26 : decode cX9_evaluate 26 = .ok (.getfield 135, 3) := by decide +kernel
theorem dX9_evaluate_29 : decode cX9_evaluate 29 = .ok (.iconst 1, 1) := by decide +kernel
theorem dX9_evaluate_30 : decode cX9_evaluate 30 = .ok (.isub, 1) := by decide +kernel
theorem dX9_evaluate_31 : decode cX9_evaluate 31 = .ok (.ireturn, 1) := by decide +kernel
theorem dX9_evaluate_32 : decode cX9_evaluate 32 = .ok (.iload_n 1, 1) := by decide +kernel
theorem dX9_evaluate_33 : decode cX9_evaluate 33 = .ok (.iconst 3, 1) := by decide +kernel
theorem dX9_evaluate_34 : decode cX9_evaluate 34 = .ok (.if_icmp .ne 12, 3) := by decide +kernel
theorem dX9_evaluate_37 : decode cX9_evaluate 37 = .ok (.aload_n 0, 1) := by decide +kernel
theorem dX9_evaluate_38 : decode cX9_evaluate 38 = .ok (.getfield 29, 3) := by decide +kernel
theorem dX9_evaluate_41 : decode cX9_evaluate 41 = .ok (.iload_n 2, 1) := by decide +kernel
theorem dX9_evaluate_42 : decode cX9_evaluate 42 = .ok (.iaload, 1) := by decide +kernel
theorem dX9_evaluate_43 : decode cX9_evaluate 43 = .ok (.goto 4, 3) := by decide +kernel
theorem dX9_evaluate_46 : decode cX9_evaluate 46 = .ok (.iload_n 2, 1) := by decide +kernel
theorem dX9_evaluate_47 : decode cX9_evaluate 47 = .ok (.ireturn, 1) := by decide +kernel
set_option maxRecDepth 20000 in
theorem ggX9_evaluateAll_X9_at : GoodIn wsX9_evaluateAll wsX9_at := goodIn_r _ [9] (by decide +kernel) (by decide +kernel)
set_option maxRecDepth 20000 in
theorem gX9_evaluateAll_X9_at : GoodIn wsX9_evaluateAll (wsV RX9 111 RX9 yX9_at wsX9_at) := goodIn_app (goodIn_of _ (by decide +kernel)) ggX9_evaluateAll_X9_at
set_option maxRecDepth 20000 in
theorem ggX9_evaluateAll_X9_evaluate : GoodIn wsX9_evaluateAll wsX9_evaluate := goodIn_r _ [13, 1, 3, 14, 15, 16, 17, 18, 19, 20, 21, 22, 23, 24, 25, 26] (by decide +kernel) (by decide +kernel)
set_option maxRecDepth 20000 in
theorem gX9_evaluateAll_X9_evaluate : GoodIn wsX9_evaluateAll (wsV RX9 138 RX9 yX9_evaluate wsX9_evaluate) := goodIn_app (goodIn_of _ (by decide +kernel)) ggX9_evaluateAll_X9_evaluate
theorem dX9_evaluateAll_0 : decode cX9_evaluateAll 0 = .ok (.aload_n 0, 1) := by decide +kernel
theorem dX9_evaluateAll_1 : decode cX9_evaluateAll 1 = .ok (.iconst 0, 1) := by decide +kernel
theorem dX9_evaluateAll_2 : decode cX9_evaluateAll 2 = .ok (.putfield 135, 3) := by decide +kernel
theorem dX9_evaluateAll_5 : decode cX9_evaluateAll 5 = .ok (.iconst 0, 1) := by decide +kernel
theorem dX9_evaluateAll_6 : decode cX9_evaluateAll 6 = .ok (.istore_n 2, 1) := by decide +kernel
theorem dX9_evaluateAll_7 : decode cX9_evaluateAll 7 = .ok (.iload_n 2, 1) := by decide +kernel
theorem dX9_evaluateAll_8 : decode cX9_evaluateAll 8 = .ok (.aload_n 0, 1) := by decide +kernel
theorem dX9_evaluateAll_9 : decode cX9_evaluateAll 9 = .ok (.getfield 7, 3) := by decide +kernel
theorem dX9_evaluateAll_12 : decode cX9_evaluateAll 12 = .ok (.aload_n 0, 1) := by decide +kernel
theorem dX9_evaluateAll_13 : decode cX9_evaluateAll 13 = .ok (.iload_n 1, 1) := by decide +kernel
theorem dX9_evaluateAll_14 : decode cX9_evaluateAll 14 = .ok (.bipush 20, 2) := by decide +kernel
theorem dX9_evaluateAll_16 : decode cX9_evaluateAll 16 = .ok (.invokevirtual 111, 3) := by decide +kernel
theorem dX9_evaluateAll_19 : decode cX9_evaluateAll 19 = .ok (.iaload, 1) := by decide +kernel
theorem dX9_evaluateAll_20 : decode cX9_evaluateAll 20 = .ok (.if_icmp .ge 34, 3) := by decide +kernel
theorem dX9_evaluateAll_23 : decode cX9_evaluateAll 23 = .ok (.aload_n 0, 1) := by decide +kernel
theorem dX9_evaluateAll_24 : decode cX9_evaluateAll 24 = .ok (.getfield 29, 3) := by decide +kernel
theorem dX9_evaluateAll_27 : decode cX9_evaluateAll 27 = .ok (.iload_n 2, 1) := by decide +kernel
theorem dX9_evaluateAll_28 : decode cX9_evaluateAll 28 = .ok (.aload_n 0, 1) := by decide +kernel
theorem dX9_evaluateAll_29 : decode cX9_evaluateAll 29 = .ok (.aload_n 0, 1) := by decide +kernel
theorem dX9_evaluateAll_30 : decode cX9_evaluateAll 30 = .ok (.getfield 7, 3) := by decide +kernel
theorem dX9_evaluateAll_33 : decode cX9_evaluateAll 33 = .ok (.aload_n 0, 1) := by decide +kernel
theorem dX9_evaluateAll_34 : decode cX9_evaluateAll 34 = .ok (.iload_n 1, 1) := by decide +kernel
theorem dX9_evaluateAll_35 : decode cX9_evaluateAll 35 = .ok (.bipush 21, 2) := by decide +kernel
theorem dX9_evaluateAll_37 : decode cX9_evaluateAll 37 = .ok (.iload_n 2, 1) := by decide +kernel
theorem dX9_evaluateAll_38 : decode cX9_evaluateAll 38 = .ok (.iadd, 1) := by decide +kernel
theorem dX9_evaluateAll_39 : decode cX9_evaluateAll 39 = .ok (.invokevirtual 111, 3) := by decide +kernel
theorem dX9_evaluateAll_42 : decode cX9_evaluateAll 42 = .ok (.iaload, 1) := by decide +kernel
theorem dX9_evaluateAll_43 : decode cX9_evaluateAll 43 = .ok (.iconst 0, 1) := by decide +kernel
theorem dX9_evaluateAll_44 : decode cX9_evaluateAll 44 = .ok (.invokevirtual 138, 3) := by decide +kernel
theorem dX9_evaluateAll_47 : decode cX9_evaluateAll 47 = .ok (.iastore, 1) := by decide +kernel
theorem dX9_evaluateAll_48 : decode cX9_evaluateAll 48 = .ok (.iinc 2 1, 3) := by decide +kernel
theorem dX9_evaluateAll_51 : decode cX9_evaluateAll 51 = .ok (.goto (-44), 3) := by decide +kernel
theorem dX9_evaluateAll_54 : decode cX9_evaluateAll 54 = .ok (.iconst 0, 1) := by decide +kernel
theorem dX9_evaluateAll_55 : decode cX9_evaluateAll 55 = .ok (.istore_n 2, 1) := by decide +kernel
theorem dX9_evaluateAll_56 : decode cX9_evaluateAll 56 = .ok (.iload_n 2, 1) := by decide +kernel
theorem dX9_evaluateAll_57 : decode cX9_evaluateAll 57 = .ok (.aload_n 0, 1) := by decide +kernel
theorem dX9_evaluateAll_58 : decode cX9_evaluateAll 58 = .ok (.getfield 7, 3) := by decide +kernel
theorem dX9_evaluateAll_61 : decode cX9_evaluateAll 61 = .ok (.aload_n 0, 1) := by decide +kernel
theorem dX9_evaluateAll_62 : decode cX9_evaluateAll 62 = .ok (.iload_n 1, 1) := by decide +kernel
theorem dX9_evaluateAll_63 : decode cX9_evaluateAll 63 = .ok (.iconst 4, 1) := by decide +kernel
theorem dX9_evaluateAll_64 : decode cX9_evaluateAll 64 = .ok (.invokevirtual 111, 3) := by decide +kernel
theorem dX9_evaluateAll_67 : decode cX9_evaluateAll 67 = .ok (.iaload, 1) := by decide +kernel
theorem dX9_evaluateAll_68 : decode cX9_evaluateAll 68 = .ok (.if_icmp .ge 46, 3) := by decide +kernel
theorem dX9_evaluateAll_71 : decode cX9_evaluateAll 71 = .ok (.aload_n 0, 1) := by decide +kernel
theorem dX9_evaluateAll_72 : decode cX9_evaluateAll 72 = .ok (.getfield 32, 3) := by decide +kernel
theorem dX9_evaluateAll_75 : decode cX9_evaluateAll 75 = .ok (.iload_n 2, 1) := by decide +kernel
theorem dX9_evaluateAll_76 : decode cX9_evaluateAll 76 = .ok (.aload_n 0, 1) := by decide +kernel
theorem dX9_evaluateAll_77 : decode cX9_evaluateAll 77 = .ok (.aload_n 0, 1) := by decide +kernel
theorem dX9_evaluateAll_78 : decode cX9_evaluateAll 78 = .ok (.getfield 7, 3) := by decide +kernel
theorem dX9_evaluateAll_81 : decode cX9_evaluateAll 81 = .ok (.aload_n 0, 1) := by decide +kernel
theorem dX9_evaluateAll_82 : decode cX9_evaluateAll 82 = .ok (.iload_n 1, 1) := by decide +kernel
theorem dX9_evaluateAll_83 : decode cX9_evaluateAll 83 = .ok (.iconst 5, 1) := by decide +kernel
theorem dX9_evaluateAll_84 : decode cX9_evaluateAll 84 = .ok (.iload_n 2, 1) := by decide +kernel
theorem dX9_evaluateAll_85 : decode cX9_evaluateAll 85 = .ok (.iadd, 1) := by decide +kernel
theorem dX9_evaluateAll_86 : decode cX9_evaluateAll 86 = .ok (.invokevirtual 111, 3) := by decide +kernel
theorem dX9_evaluateAll_89 : decode cX9_evaluateAll 89 = .ok (.iaload, 1) := by decide +kernel
theorem dX9_evaluateAll_90 : decode cX9_evaluateAll 90 = .ok (.aload_n 0, 1) := by decide +kernel
theorem dX9_evaluateAll_91 : decode cX9_evaluateAll 91 = .ok (.getfield 7, 3) := by decide +kernel
theorem dX9_evaluateAll_94 : decode cX9_evaluateAll 94 = .ok (.aload_n 0, 1) := by decide +kernel
theorem dX9_evaluateAll_95 : decode cX9_evaluateAll 95 = .ok (.iload_n 1, 1) := by decide +kernel
theorem dX9_evaluateAll_96 : decode cX9_evaluateAll 96 = .ok (.bipush 10, 2) := by decide +kernel
theorem dX9_evaluateAll_98 : decode cX9_evaluateAll 98 = .ok (.iload_n 2, 1) := by decide +kernel
theorem dX9_evaluateAll_99 : decode cX9_evaluateAll 99 = .ok (.iadd, 1) := by decide +kernel
theorem dX9_evaluateAll_100 : decode cX9_evaluateAll 100 = .ok (.invokevirtual 111, 3) := by decide +kernel
theorem dX9_evaluateAll_103 : decode cX9_evaluateAll 103 = .ok (.iaload, 1) := by decide +kernel
theorem dX9_evaluateAll_104 : decode cX9_evaluateAll 104 = .ok (.invokevirtual 138, 3) := by decide +kernel
theorem dX9_evaluateAll_107 : decode cX9_evaluateAll 107 = .ok (.iastore, 1) := by decide +kernel
theorem dX9_evaluateAll_108 : decode cX9_evaluateAll 108 = .ok (.iinc 2 1, 3) := by decide +kernel
theorem dX9_evaluateAll_111 : decode cX9_evaluateAll 111 = .ok (.goto (-55), 3) := by decide +kernel
theorem dX9_evaluateAll_114 : decode cX9_evaluateAll 114 = .ok (.return_, 1) := by decide +kernel
set_option maxRecDepth 20000 in
theorem ggX9_valueFor_X9_of : GoodIn wsX9_valueFor wsX9_of := goodIn_r _ [7, 1, 12, 13, 14, 15, 16, 17, 18, 19, 20, 21, 22, 23, 24] (by decide +kernel) (by decide +kernel)
set_option maxRecDepth 20000 in
theorem gX9_valueFor_X9_of : GoodIn wsX9_valueFor (wsV RX9 63 RX9 yX9_of wsX9_of) := goodIn_app (goodIn_of _ (by decide +kernel)) ggX9_valueFor_X9_of
set_option maxRecDepth 20000 in
theorem ggX9_valueFor_X9_at : GoodIn wsX9_valueFor wsX9_at := goodIn_r _ [11] (by decide +kernel) (by decide +kernel)
set_option maxRecDepth 20000 in
theorem gX9_valueFor_X9_at : GoodIn wsX9_valueFor (wsV RX9 111 RX9 yX9_at wsX9_at) := goodIn_app (goodIn_of _ (by decide +kernel)) ggX9_valueFor_X9_at
theorem dX9_valueFor_0 : decode cX9_valueFor 0 = .ok (.aload_n 0, 1) := by decide +kernel
theorem dX9_valueFor_1 : decode cX9_valueFor 1 = .ok (.iload_n 2, 1) := by decide +kernel
theorem dX9_valueFor_2 : decode cX9_valueFor 2 = .ok (.bipush 8, 2) := by decide +kernel
theorem dX9_valueFor_4 : decode cX9_valueFor 4 = .ok (.iload_n 3, 1) := by decide +kernel
theorem dX9_valueFor_5 : decode cX9_valueFor 5 = .ok (.iadd, 1) := by decide +kernel
theorem dX9_valueFor_6 : decode cX9_valueFor 6 = .ok (.invokevirtual 63, 3) := by decide +kernel
theorem dX9_valueFor_9 : decode cX9_valueFor 9 = .ok (.istore 4, 2) := by decide +kernel
theorem dX9_valueFor_11 : decode cX9_valueFor 11 = .ok (.iconst 0, 1) := by decide +kernel
theorem dX9_valueFor_12 : decode cX9_valueFor 12 = .ok (.istore 5, 2) := by decide +kernel
theorem dX9_valueFor_14 : decode cX9_valueFor 14 = .ok (.iload 5, 2) := by decide +kernel
theorem dX9_valueFor_16 : decode cX9_valueFor 16 = .ok (.aload_n 0, 1) := by decide +kernel
theorem dX9_valueFor_17 : decode cX9_valueFor 17 = .ok (.getfield 7, 3) := by decide +kernel
theorem dX9_valueFor_20 : decode cX9_valueFor 20 = .ok (.aload_n 0, 1) := by decide +kernel
theorem dX9_valueFor_21 : decode cX9_valueFor 21 = .ok (.iload_n 1, 1) := by decide +kernel
theorem dX9_valueFor_22 : decode cX9_valueFor 22 = .ok (.iconst 4, 1) := by decide +kernel
theorem dX9_valueFor_23 : decode cX9_valueFor 23 = .ok (.invokevirtual 111, 3) := by decide +kernel
theorem dX9_valueFor_26 : decode cX9_valueFor 26 = .ok (.iaload, 1) := by decide +kernel
theorem dX9_valueFor_27 : decode cX9_valueFor 27 = .ok (.if_icmp .ge 49, 3) := by decide +kernel
theorem dX9_valueFor_30 : decode cX9_valueFor 30 = .ok (.aload_n 0, 1) := by decide +kernel
theorem dX9_valueFor_31 : decode cX9_valueFor 31 = .ok (.getfield 7, 3) := by decide +kernel
theorem dX9_valueFor_34 : decode cX9_valueFor 34 = .ok (.aload_n 0, 1) := by decide +kernel
theorem dX9_valueFor_35 : decode cX9_valueFor 35 = .ok (.iload_n 1, 1) := by decide +kernel
theorem dX9_valueFor_36 : decode cX9_valueFor 36 = .ok (.bipush 15, 2) := by decide +kernel
theorem dX9_valueFor_38 : decode cX9_valueFor 38 = .ok (.iload 5, 2) := by decide +kernel
theorem dX9_valueFor_40 : decode cX9_valueFor 40 = .ok (.iadd, 1) := by decide +kernel
theorem dX9_valueFor_41 : decode cX9_valueFor 41 = .ok (.invokevirtual 111, 3) := by decide +kernel
theorem dX9_valueFor_44 : decode cX9_valueFor 44 = .ok (.iaload, 1) := by decide +kernel
theorem dX9_valueFor_45 : decode cX9_valueFor 45 = .ok (.aload_n 0, 1) := by decide +kernel
theorem dX9_valueFor_46 : decode cX9_valueFor 46 = .ok (.iload_n 2, 1) := by decide +kernel
theorem dX9_valueFor_47 : decode cX9_valueFor 47 = .ok (.iconst 3, 1) := by decide +kernel
theorem dX9_valueFor_48 : decode cX9_valueFor 48 = .ok (.iload_n 3, 1) := by decide +kernel
theorem dX9_valueFor_49 : decode cX9_valueFor 49 = .ok (.iadd, 1) := by decide +kernel
theorem dX9_valueFor_50 : decode cX9_valueFor 50 = .ok (.invokevirtual 63, 3) := by decide +kernel
theorem dX9_valueFor_53 : decode cX9_valueFor 53 = .ok (.if_icmp .ne 13, 3) := by decide +kernel
theorem dX9_valueFor_56 : decode cX9_valueFor 56 = .ok (.aload_n 0, 1) := by decide +kernel
theorem dX9_valueFor_57 : decode cX9_valueFor 57 = .ok (.getfield 32, 3) := by decide +kernel
theorem dX9_valueFor_60 : decode cX9_valueFor 60 = .ok (.iload 5, 2) := by decide +kernel
theorem dX9_valueFor_62 : decode cX9_valueFor 62 = .ok (.iaload, 1) := by decide +kernel
theorem dX9_valueFor_63 : decode cX9_valueFor 63 = .ok (.goto 5, 3) := by decide +kernel
theorem dX9_valueFor_66 : decode cX9_valueFor 66 = .ok (.iload 4, 2) := by decide +kernel
theorem dX9_valueFor_68 : decode cX9_valueFor 68 = .ok (.istore 4, 2) := by decide +kernel
theorem dX9_valueFor_70 : decode cX9_valueFor 70 = .ok (.iinc 5 1, 3) := by decide +kernel
theorem dX9_valueFor_73 : decode cX9_valueFor 73 = .ok (.goto (-59), 3) := by decide +kernel
theorem dX9_valueFor_76 : decode cX9_valueFor 76 = .ok (.iload 4, 2) := by decide +kernel
theorem dX9_valueFor_78 : decode cX9_valueFor 78 = .ok (.ireturn, 1) := by decide +kernel
set_option maxRecDepth 20000 in
theorem ggX9_dispatch_X9_isCall : GoodIn wsX9_dispatch wsX9_isCall := goodIn_r _ [5, 6, 7, 8, 4, 9, 53, 54, 55, 56, 57, 58, 59, 60, 61, 62, 63, 64, 65] (by decide +kernel) (by decide +kernel)
set_option maxRecDepth 20000 in
theorem gX9_dispatch_X9_isCall : GoodIn wsX9_dispatch (wsV RX9 117 RX9 yX9_isCall wsX9_isCall) := goodIn_app (goodIn_of _ (by decide +kernel)) ggX9_dispatch_X9_isCall
set_option maxRecDepth 20000 in
theorem ggX9_dispatch_X9_dispatched : GoodIn wsX9_dispatch wsX9_dispatched := goodIn_r _ [13, 6, 14, 15, 16, 4, 17, 18, 19, 20, 21, 22, 23, 24, 25, 26, 27, 28, 29, 30, 31, 32, 33, 34, 35, 36, 37, 38, 39, 40, 41, 42, 43, 44, 45, 46, 47, 48, 49, 50, 51, 52, 53, 54, 55, 56, 57, 58, 59, 60, 61, 62, 63, 64, 65] (by decide +kernel) (by decide +kernel)
set_option maxRecDepth 20000 in
theorem gX9_dispatch_X9_dispatched : GoodIn wsX9_dispatch (wsV RX9 141 RX9 yX9_dispatched wsX9_dispatched) := goodIn_app (goodIn_of _ (by decide +kernel)) ggX9_dispatch_X9_dispatched
theorem dX9_dispatch_0 : decode cX9_dispatch 0 = .ok (.aload_n 0, 1) := by decide +kernel
theorem dX9_dispatch_1 : decode cX9_dispatch 1 = .ok (.iload_n 1, 1) := by decide +kernel
theorem dX9_dispatch_2 : decode cX9_dispatch 2 = .ok (.invokevirtual 117, 3) := by decide +kernel
theorem dX9_dispatch_5 : decode cX9_dispatch 5 = .ok (.ifCond .eq 11, 3) := by decide +kernel
theorem dX9_dispatch_8 : decode cX9_dispatch 8 = .ok (.aload_n 0, 1) := by decide +kernel
theorem dX9_dispatch_9 : decode cX9_dispatch 9 = .ok (.iload_n 1, 1) := by decide +kernel
theorem dX9_dispatch_10 : decode cX9_dispatch 10 = .ok (.invokevirtual 141, 3) := by decide +kernel
theorem dX9_dispatch_13 : decode cX9_dispatch 13 = .ok (.goto 4, 3) := by decide +kernel
theorem dX9_dispatch_16 : decode cX9_dispatch 16 = .ok (.iconst (-1), 1) := by decide +kernel
theorem dX9_dispatch_17 : decode cX9_dispatch 17 = .ok (.ireturn, 1) := by decide +kernel
set_option maxRecDepth 20000 in
theorem ggX9_run_X9_isCall : GoodIn wsX9_run wsX9_isCall := goodIn_r _ [5, 6, 7, 8, 4, 9, 68, 69, 70, 71, 72, 73, 74, 75, 76, 77, 78, 79, 80] (by decide +kernel) (by decide +kernel)
set_option maxRecDepth 20000 in
theorem gX9_run_X9_isCall : GoodIn wsX9_run (wsV RX9 117 RX9 yX9_isCall wsX9_isCall) := goodIn_app (goodIn_of _ (by decide +kernel)) ggX9_run_X9_isCall
set_option maxRecDepth 20000 in
theorem ggX9_run_X9_dispatched : GoodIn wsX9_run wsX9_dispatched := goodIn_r _ [13, 6, 14, 15, 16, 4, 17, 18, 19, 20, 21, 22, 23, 24, 25, 26, 27, 28, 29, 30, 31, 32, 33, 34, 35, 36, 37, 38, 39, 40, 41, 42, 43, 44, 45, 46, 47, 48, 49, 50, 51, 52, 68, 69, 70, 71, 72, 73, 74, 75, 76, 77, 78, 79, 80] (by decide +kernel) (by decide +kernel)
set_option maxRecDepth 20000 in
theorem gX9_run_X9_dispatched : GoodIn wsX9_run (wsV RX9 141 RX9 yX9_dispatched wsX9_dispatched) := goodIn_app (goodIn_of _ (by decide +kernel)) ggX9_run_X9_dispatched
set_option maxRecDepth 20000 in
theorem ggX9_run_X9_evaluateAll : GoodIn wsX9_run wsX9_evaluateAll := goodIn_r _ [56, 57, 6, 58, 59, 14, 15, 16, 4, 17, 60, 61, 62, 63, 68, 69, 70, 71, 72, 73, 74, 75, 76, 77, 78, 79, 80] (by decide +kernel) (by decide +kernel)
set_option maxRecDepth 20000 in
theorem gX9_run_X9_evaluateAll : GoodIn wsX9_run (wsV RX9 144 RX9 yX9_evaluateAll wsX9_evaluateAll) := goodIn_app (goodIn_of _ (by decide +kernel)) ggX9_run_X9_evaluateAll
set_option maxRecDepth 20000 in
theorem ggX9_run_X9_of : GoodIn wsX9_run wsX9_of := goodIn_r _ [25, 6, 68, 69, 70, 71, 72, 73, 74, 75, 76, 77, 78, 79, 80] (by decide +kernel) (by decide +kernel)
set_option maxRecDepth 20000 in
theorem gX9_run_X9_of : GoodIn wsX9_run (wsV RX9 63 RX9 yX9_of wsX9_of) := goodIn_app (goodIn_of _ (by decide +kernel)) ggX9_run_X9_of
set_option maxRecDepth 20000 in
theorem ggX9_run_X9_valueFor : GoodIn wsX9_run wsX9_valueFor := goodIn_r _ [67, 6, 59, 22, 23, 24, 4, 25, 14, 15, 16, 17, 68, 69, 70, 71, 72, 73, 74, 75, 76, 77, 78, 79, 80] (by decide +kernel) (by decide +kernel)
set_option maxRecDepth 20000 in
theorem gX9_run_X9_valueFor : GoodIn wsX9_run (wsV RX9 148 RX9 yX9_valueFor wsX9_valueFor) := goodIn_app (goodIn_of _ (by decide +kernel)) ggX9_run_X9_valueFor
theorem dX9_run_0 : decode cX9_run 0 = .ok (.aload_n 0, 1) := by decide +kernel
theorem dX9_run_1 : decode cX9_run 1 = .ok (.iload_n 1, 1) := by decide +kernel
theorem dX9_run_2 : decode cX9_run 2 = .ok (.invokevirtual 117, 3) := by decide +kernel
theorem dX9_run_5 : decode cX9_run 5 = .ok (.ifCond .eq 11, 3) := by decide +kernel
theorem dX9_run_8 : decode cX9_run 8 = .ok (.aload_n 0, 1) := by decide +kernel
theorem dX9_run_9 : decode cX9_run 9 = .ok (.iload_n 1, 1) := by decide +kernel
theorem dX9_run_10 : decode cX9_run 10 = .ok (.invokevirtual 141, 3) := by decide +kernel
theorem dX9_run_13 : decode cX9_run 13 = .ok (.goto 5, 3) := by decide +kernel
theorem dX9_run_16 : decode cX9_run 16 = .ok (.bipush (-9), 2) := by decide +kernel
theorem dX9_run_18 : decode cX9_run 18 = .ok (.istore_n 2, 1) := by decide +kernel
theorem dX9_run_19 : decode cX9_run 19 = .ok (.iload_n 2, 1) := by decide +kernel
theorem dX9_run_20 : decode cX9_run 20 = .ok (.bipush (-9), 2) := by decide +kernel
theorem dX9_run_22 : decode cX9_run 22 = .ok (.if_icmp .ne 5, 3) := by decide +kernel
theorem dX9_run_25 : decode cX9_run 25 = .ok (.iconst 0, 1) := by decide +kernel
theorem dX9_run_26 : decode cX9_run 26 = .ok (.ireturn, 1) := by decide +kernel
theorem dX9_run_27 : decode cX9_run 27 = .ok (.aload_n 0, 1) := by decide +kernel
theorem dX9_run_28 : decode cX9_run 28 = .ok (.iload_n 1, 1) := by decide +kernel
theorem dX9_run_29 : decode cX9_run 29 = .ok (.invokevirtual 144, 3) := by decide +kernel
theorem dX9_run_32 : decode cX9_run 32 = .ok (.sipush 1000, 3) := by decide +kernel
theorem dX9_run_35 : decode cX9_run 35 = .ok (.aload_n 0, 1) := by decide +kernel
theorem dX9_run_36 : decode cX9_run 36 = .ok (.iload_n 2, 1) := by decide +kernel
theorem dX9_run_37 : decode cX9_run 37 = .ok (.iconst 0, 1) := by decide +kernel
theorem dX9_run_38 : decode cX9_run 38 = .ok (.invokevirtual 63, 3) := by decide +kernel
theorem dX9_run_41 : decode cX9_run 41 = .ok (.imul, 1) := by decide +kernel
theorem dX9_run_42 : decode cX9_run 42 = .ok (.istore_n 3, 1) := by decide +kernel
theorem dX9_run_43 : decode cX9_run 43 = .ok (.iconst 0, 1) := by decide +kernel
theorem dX9_run_44 : decode cX9_run 44 = .ok (.istore 4, 2) := by decide +kernel
theorem dX9_run_46 : decode cX9_run 46 = .ok (.iload 4, 2) := by decide +kernel
theorem dX9_run_48 : decode cX9_run 48 = .ok (.aload_n 0, 1) := by decide +kernel
theorem dX9_run_49 : decode cX9_run 49 = .ok (.iload_n 2, 1) := by decide +kernel
theorem dX9_run_50 : decode cX9_run 50 = .ok (.iconst 2, 1) := by decide +kernel
theorem dX9_run_51 : decode cX9_run 51 = .ok (.invokevirtual 63, 3) := by decide +kernel
theorem dX9_run_54 : decode cX9_run 54 = .ok (.if_icmp .ge 32, 3) := by decide +kernel
theorem dX9_run_57 : decode cX9_run 57 = .ok (.iload_n 3, 1) := by decide +kernel
theorem dX9_run_58 : decode cX9_run 58 = .ok (.aload_n 0, 1) := by decide +kernel
theorem dX9_run_59 : decode cX9_run 59 = .ok (.iload_n 2, 1) := by decide +kernel
theorem dX9_run_60 : decode cX9_run 60 = .ok (.iconst 3, 1) := by decide +kernel
theorem dX9_run_61 : decode cX9_run 61 = .ok (.iload 4, 2) := by decide +kernel
theorem dX9_run_63 : decode cX9_run 63 = .ok (.iadd, 1) := by decide +kernel
theorem dX9_run_64 : decode cX9_run 64 = .ok (.invokevirtual 63, 3) := by decide +kernel
theorem dX9_run_67 : decode cX9_run 67 = .ok (.iconst 1, 1) := by decide +kernel
theorem dX9_run_68 : decode cX9_run 68 = .ok (.iadd, 1) := by decide +kernel
theorem dX9_run_69 : decode cX9_run 69 = .ok (.aload_n 0, 1) := by decide +kernel
theorem dX9_run_70 : decode cX9_run 70 = .ok (.iload_n 1, 1) := by decide +kernel
theorem dX9_run_71 : decode cX9_run 71 = .ok (.iload_n 2, 1) := by decide +kernel
theorem dX9_run_72 : decode cX9_run 72 = .ok (.iload 4, 2) := by decide +kernel
theorem dX9_run_74 : decode cX9_run 74 = .ok (.invokevirtual 148, 3) := by decide +kernel
theorem dX9_run_77 : decode cX9_run 77 = .ok (.imul, 1) := by decide +kernel
theorem dX9_run_78 : decode cX9_run 78 = .ok (.iadd, 1) := by decide +kernel
theorem dX9_run_79 : decode cX9_run 79 = .ok (.istore_n 3, 1) := by decide +kernel
theorem dX9_run_80 : decode cX9_run 80 = .ok (.iinc 4 1, 3) := by decide +kernel
theorem dX9_run_83 : decode cX9_run 83 = .ok (.goto (-37), 3) := by decide +kernel
theorem dX9_run_86 : decode cX9_run 86 = .ok (.iload_n 3, 1) := by decide +kernel
theorem dX9_run_87 : decode cX9_run 87 = .ok (.ireturn, 1) := by decide +kernel
set_option maxRecDepth 20000 in
theorem ggX9_ticks_X9_isCall : GoodIn wsX9_ticks wsX9_isCall := goodIn_r _ [6, 7, 8, 9, 5, 10, 25, 26, 27, 28, 29, 30, 31, 32, 33, 34, 35, 36, 37] (by decide +kernel) (by decide +kernel)
set_option maxRecDepth 20000 in
theorem gX9_ticks_X9_isCall : GoodIn wsX9_ticks (wsV RX9 117 RX9 yX9_isCall wsX9_isCall) := goodIn_app (goodIn_of _ (by decide +kernel)) ggX9_ticks_X9_isCall
set_option maxRecDepth 20000 in
theorem ggX9_ticks_X9_evaluateAll : GoodIn wsX9_ticks wsX9_evaluateAll := goodIn_r _ [14, 1, 7, 15, 16, 17, 18, 19, 5, 20, 21, 22, 23, 24, 25, 26, 27, 28, 29, 30, 31, 32, 33, 34, 35, 36, 37] (by decide +kernel) (by decide +kernel)
set_option maxRecDepth 20000 in
theorem gX9_ticks_X9_evaluateAll : GoodIn wsX9_ticks (wsV RX9 144 RX9 yX9_evaluateAll wsX9_evaluateAll) := goodIn_app (goodIn_of _ (by decide +kernel)) ggX9_ticks_X9_evaluateAll
theorem dX9_ticks_0 : decode cX9_ticks 0 = .ok (.aload_n 0, 1) := by decide +kernel
theorem dX9_ticks_1 : decode cX9_ticks 1 = .ok (.iload_n 1, 1) := by decide +kernel
theorem dX9_ticks_2 : decode cX9_ticks 2 = .ok (.invokevirtual 117, 3) := by decide +kernel
theorem dX9_ticks_5 : decode cX9_ticks 5 = .ok (.ifCond .ne 5, 3) := by decide +kernel
theorem dX9_ticks_8 : decode cX9_ticks 8 = .ok (.iconst (-1), 1) := by decide +kernel
theorem dX9_ticks_9 : decode cX9_ticks 9 = .ok (.ireturn, 1) := by decide +kernel
theorem dX9_ticks_10 : decode cX9_ticks 10 = .ok (.aload_n 0, 1) := by decide +kernel
theorem dX9_ticks_11 : decode cX9_ticks 11 = .ok (.iload_n 1, 1) := by decide +kernel
theorem dX9_ticks_12 : decode cX9_ticks 12 = .ok (.invokevirtual 144, 3) := by decide +kernel
theorem dX9_ticks_15 : decode cX9_ticks 15 = .ok (.aload_n 0, 1) := by decide +kernel
theorem dX9_ticks_16 : decode cX9_ticks 16 = .ok (.getfield 135, 3) := by decide +kernel
theorem dX9_ticks_19 : decode cX9_ticks 19 = .ok (.ireturn, 1) := by decide +kernel
set_option maxRecDepth 20000 in
theorem ggX9_argumentCount_X9_isCall : GoodIn wsX9_argumentCount wsX9_isCall := goodIn_r _ [6, 1, 7, 8, 5, 9, 14, 15, 16, 17, 18, 19, 20, 21, 22, 23, 24, 25, 26] (by decide +kernel) (by decide +kernel)
set_option maxRecDepth 20000 in
theorem gX9_argumentCount_X9_isCall : GoodIn wsX9_argumentCount (wsV RX9 117 RX9 yX9_isCall wsX9_isCall) := goodIn_app (goodIn_of _ (by decide +kernel)) ggX9_argumentCount_X9_isCall
set_option maxRecDepth 20000 in
theorem ggX9_argumentCount_X9_at : GoodIn wsX9_argumentCount wsX9_at := goodIn_r _ [13] (by decide +kernel) (by decide +kernel)
set_option maxRecDepth 20000 in
theorem gX9_argumentCount_X9_at : GoodIn wsX9_argumentCount (wsV RX9 111 RX9 yX9_at wsX9_at) := goodIn_app (goodIn_of _ (by decide +kernel)) ggX9_argumentCount_X9_at
theorem dX9_argumentCount_0 : decode cX9_argumentCount 0 = .ok (.aload_n 0, 1) := by decide +kernel
theorem dX9_argumentCount_1 : decode cX9_argumentCount 1 = .ok (.iload_n 1, 1) := by decide +kernel
theorem dX9_argumentCount_2 : decode cX9_argumentCount 2 = .ok (.invokevirtual 117, 3) := by decide +kernel
theorem dX9_argumentCount_5 : decode cX9_argumentCount 5 = .ok (.ifCond .eq 17, 3) := by decide +kernel
theorem dX9_argumentCount_8 : decode cX9_argumentCount 8 = .ok (.aload_n 0, 1) := by decide +kernel
theorem dX9_argumentCount_9 : decode cX9_argumentCount 9 = .ok (.getfield 7, 3) := by decide +kernel
theorem dX9_argumentCount_12 : decode cX9_argumentCount 12 = .ok (.aload_n 0, 1) := by decide +kernel
theorem dX9_argumentCount_13 : decode cX9_argumentCount 13 = .ok (.iload_n 1, 1) := by decide +kernel
theorem dX9_argumentCount_14 : decode cX9_argumentCount 14 = .ok (.iconst 4, 1) := by decide +kernel
theorem dX9_argumentCount_15 : decode cX9_argumentCount 15 = .ok (.invokevirtual 111, 3) := by decide +kernel
theorem dX9_argumentCount_18 : decode cX9_argumentCount 18 = .ok (.iaload, 1) := by decide +kernel
theorem dX9_argumentCount_19 : decode cX9_argumentCount 19 = .ok (.goto 4, 3) := by decide +kernel
theorem dX9_argumentCount_22 : decode cX9_argumentCount 22 = .ok (.iconst (-1), 1) := by decide +kernel
theorem dX9_argumentCount_23 : decode cX9_argumentCount 23 = .ok (.ireturn, 1) := by decide +kernel
set_option maxRecDepth 20000 in
theorem ggX9_argumentKind_X9_isArgument : GoodIn wsX9_argumentKind wsX9_isArgument := goodIn_r _ [6, 1, 7, 8, 9, 5, 10, 11, 12, 13, 14, 15, 16, 17, 18, 19, 20, 21, 22, 23, 24, 25, 26, 27, 28, 29, 30] (by decide +kernel) (by decide +kernel)
set_option maxRecDepth 20000 in
theorem gX9_argumentKind_X9_isArgument : GoodIn wsX9_argumentKind (wsV RX9 120 RX9 yX9_isArgument wsX9_isArgument) := goodIn_app (goodIn_of _ (by decide +kernel)) ggX9_argumentKind_X9_isArgument
set_option maxRecDepth 20000 in
theorem ggX9_argumentKind_X9_at : GoodIn wsX9_argumentKind wsX9_at := goodIn_r _ [17] (by decide +kernel) (by decide +kernel)
set_option maxRecDepth 20000 in
theorem gX9_argumentKind_X9_at : GoodIn wsX9_argumentKind (wsV RX9 111 RX9 yX9_at wsX9_at) := goodIn_app (goodIn_of _ (by decide +kernel)) ggX9_argumentKind_X9_at
theorem dX9_argumentKind_0 : decode cX9_argumentKind 0 = .ok (.aload_n 0, 1) := by decide +kernel
theorem dX9_argumentKind_1 : decode cX9_argumentKind 1 = .ok (.iload_n 1, 1) := by decide +kernel
theorem dX9_argumentKind_2 : decode cX9_argumentKind 2 = .ok (.iload_n 2, 1) := by decide +kernel
theorem dX9_argumentKind_3 : decode cX9_argumentKind 3 = .ok (.invokevirtual 120, 3) := by decide +kernel
theorem dX9_argumentKind_6 : decode cX9_argumentKind 6 = .ok (.ifCond .eq 19, 3) := by decide +kernel
theorem dX9_argumentKind_9 : decode cX9_argumentKind 9 = .ok (.aload_n 0, 1) := by decide +kernel
theorem dX9_argumentKind_10 : decode cX9_argumentKind 10 = .ok (.getfield 7, 3) := by decide +kernel
theorem dX9_argumentKind_13 : decode cX9_argumentKind 13 = .ok (.aload_n 0, 1) := by decide +kernel
theorem dX9_argumentKind_14 : decode cX9_argumentKind 14 = .ok (.iload_n 1, 1) := by decide +kernel
theorem dX9_argumentKind_15 : decode cX9_argumentKind 15 = .ok (.iconst 5, 1) := by decide +kernel
theorem dX9_argumentKind_16 : decode cX9_argumentKind 16 = .ok (.iload_n 2, 1) := by decide +kernel
theorem dX9_argumentKind_17 : decode cX9_argumentKind 17 = .ok (.iadd, 1) := by decide +kernel
theorem dX9_argumentKind_18 : decode cX9_argumentKind 18 = .ok (.invokevirtual 111, 3) := by decide +kernel
theorem dX9_argumentKind_21 : decode cX9_argumentKind 21 = .ok (.iaload, 1) := by decide +kernel
theorem dX9_argumentKind_22 : decode cX9_argumentKind 22 = .ok (.goto 4, 3) := by decide +kernel
theorem dX9_argumentKind_25 : decode cX9_argumentKind 25 = .ok (.iconst (-1), 1) := by decide +kernel
theorem dX9_argumentKind_26 : decode cX9_argumentKind 26 = .ok (.ireturn, 1) := by decide +kernel
set_option maxRecDepth 20000 in
theorem ggX9_temporaryCount_X9_isCall : GoodIn wsX9_temporaryCount wsX9_isCall := goodIn_r _ [6, 1, 7, 8, 5, 9, 14, 15, 16, 17, 18, 19, 20, 21, 22, 23, 24, 25, 26] (by decide +kernel) (by decide +kernel)
set_option maxRecDepth 20000 in
theorem gX9_temporaryCount_X9_isCall : GoodIn wsX9_temporaryCount (wsV RX9 117 RX9 yX9_isCall wsX9_isCall) := goodIn_app (goodIn_of _ (by decide +kernel)) ggX9_temporaryCount_X9_isCall
set_option maxRecDepth 20000 in
theorem ggX9_temporaryCount_X9_at : GoodIn wsX9_temporaryCount wsX9_at := goodIn_r _ [13] (by decide +kernel) (by decide +kernel)
set_option maxRecDepth 20000 in
theorem gX9_temporaryCount_X9_at : GoodIn wsX9_temporaryCount (wsV RX9 111 RX9 yX9_at wsX9_at) := goodIn_app (goodIn_of _ (by decide +kernel)) ggX9_temporaryCount_X9_at
theorem dX9_temporaryCount_0 : decode cX9_temporaryCount 0 = .ok (.aload_n 0, 1) := by decide +kernel
theorem dX9_temporaryCount_1 : decode cX9_temporaryCount 1 = .ok (.iload_n 1, 1) := by decide +kernel
theorem dX9_temporaryCount_2 : decode cX9_temporaryCount 2 = .ok (.invokevirtual 117, 3) := by decide +kernel
theorem dX9_temporaryCount_5 : decode cX9_temporaryCount 5 = .ok (.ifCond .eq 18, 3) := by decide +kernel
theorem dX9_temporaryCount_8 : decode cX9_temporaryCount 8 = .ok (.aload_n 0, 1) := by decide +kernel
theorem dX9_temporaryCount_9 : decode cX9_temporaryCount 9 = .ok (.getfield 7, 3) := by decide +kernel
theorem dX9_temporaryCount_12 : decode cX9_temporaryCount 12 = .ok (.aload_n 0, 1) := by decide +kernel
theorem dX9_temporaryCount_13 : decode cX9_temporaryCount 13 = .ok (.iload_n 1, 1) := by decide +kernel
theorem dX9_temporaryCount_14 : decode cX9_temporaryCount 14 = .ok (.bipush 20, 2) := by decide +kernel
theorem dX9_temporaryCount_16 : decode cX9_temporaryCount 16 = .ok (.invokevirtual 111, 3) := by decide +kernel
theorem dX9_temporaryCount_19 : decode cX9_temporaryCount 19 = .ok (.iaload, 1) := by decide +kernel
theorem dX9_temporaryCount_20 : decode cX9_temporaryCount 20 = .ok (.goto 4, 3) := by decide +kernel
theorem dX9_temporaryCount_23 : decode cX9_temporaryCount 23 = .ok (.iconst (-1), 1) := by decide +kernel
theorem dX9_temporaryCount_24 : decode cX9_temporaryCount 24 = .ok (.ireturn, 1) := by decide +kernel
theorem dX9_ones_0 : decode cX9_ones 0 = .ok (.iconst 0, 1) := by decide +kernel
theorem dX9_ones_1 : decode cX9_ones 1 = .ok (.istore_n 1, 1) := by decide +kernel
theorem dX9_ones_2 : decode cX9_ones 2 = .ok (.iconst 0, 1) := by decide +kernel
theorem dX9_ones_3 : decode cX9_ones 3 = .ok (.istore_n 2, 1) := by decide +kernel
theorem dX9_ones_4 : decode cX9_ones 4 = .ok (.iload_n 2, 1) := by decide +kernel
theorem dX9_ones_5 : decode cX9_ones 5 = .ok (.bipush 16, 2) := by decide +kernel
theorem dX9_ones_7 : decode cX9_ones 7 = .ok (.if_icmp .ge 17, 3) := by decide +kernel
theorem dX9_ones_10 : decode cX9_ones 10 = .ok (.iload_n 1, 1) := by decide +kernel
theorem dX9_ones_11 : decode cX9_ones 11 = .ok (.iload_n 0, 1) := by decide +kernel
theorem dX9_ones_12 : decode cX9_ones 12 = .ok (.iload_n 2, 1) := by decide +kernel
theorem dX9_ones_13 : decode cX9_ones 13 = .ok (.ishr, 1) := by decide +kernel
theorem dX9_ones_14 : decode cX9_ones 14 = .ok (.iconst 1, 1) := by decide +kernel
theorem dX9_ones_15 : decode cX9_ones 15 = .ok (.iand, 1) := by decide +kernel
theorem dX9_ones_16 : decode cX9_ones 16 = .ok (.iadd, 1) := by decide +kernel
theorem dX9_ones_17 : decode cX9_ones 17 = .ok (.istore_n 1, 1) := by decide +kernel
theorem dX9_ones_18 : decode cX9_ones 18 = .ok (.iinc 2 1, 3) := by decide +kernel
theorem dX9_ones_21 : decode cX9_ones 21 = .ok (.goto (-17), 3) := by decide +kernel
theorem dX9_ones_24 : decode cX9_ones 24 = .ok (.iload_n 1, 1) := by decide +kernel
theorem dX9_ones_25 : decode cX9_ones 25 = .ok (.ireturn, 1) := by decide +kernel
set_option maxRecDepth 20000 in
theorem ggX9_startChange_X9_isMethod : GoodIn wsX9_startChange wsX9_isMethod := goodIn_r _ [7, 8, 9, 10, 6, 11, 46, 47, 48, 49, 50, 51, 52, 53, 54, 55, 56, 57, 58] (by decide +kernel) (by decide +kernel)
set_option maxRecDepth 20000 in
theorem gX9_startChange_X9_isMethod : GoodIn wsX9_startChange (wsV RX9 105 RX9 yX9_isMethod wsX9_isMethod) := goodIn_app (goodIn_of _ (by decide +kernel)) ggX9_startChange_X9_isMethod
set_option maxRecDepth 20000 in
theorem ggX9_startChange_X9_familyOf : GoodIn wsX9_startChange wsX9_familyOf := goodIn_r _ [15, 8, 16, 17, 6, 18, 19, 20, 21, 22, 23, 24, 25, 26, 27, 28, 29, 30, 31, 32, 33, 34, 35, 36, 37, 38, 39, 40, 41, 42, 46, 47, 48, 49, 50, 51, 52, 53, 54, 55, 56, 57, 58] (by decide +kernel) (by decide +kernel)
set_option maxRecDepth 20000 in
theorem gX9_startChange_X9_familyOf : GoodIn wsX9_startChange (wsV RX9 108 RX9 yX9_familyOf wsX9_familyOf) := goodIn_app (goodIn_of _ (by decide +kernel)) ggX9_startChange_X9_familyOf
set_option maxRecDepth 20000 in
theorem ggX9_startChange_X9_ones : GoodIn wsX9_startChange wsX9_ones := goodIn_r _ [45] (by decide +kernel) (by decide +kernel)
set_option maxRecDepth 20000 in
theorem gX9_startChange_X9_ones : GoodIn wsX9_startChange (va_wsS RX9 154 yX9_ones wsX9_ones) := goodIn_app (goodIn_of _ (by decide +kernel)) ggX9_startChange_X9_ones
theorem dX9_startChange_0 : decode cX9_startChange 0 = .ok (.aload_n 0, 1) := by decide +kernel
theorem dX9_startChange_1 : decode cX9_startChange 1 = .ok (.iload_n 1, 1) := by decide +kernel
theorem dX9_startChange_2 : decode cX9_startChange 2 = .ok (.invokevirtual 105, 3) := by decide +kernel
theorem dX9_startChange_5 : decode cX9_startChange 5 = .ok (.ifCond .ne 5, 3) := by decide +kernel
theorem dX9_startChange_8 : decode cX9_startChange 8 = .ok (.iconst (-1), 1) := by decide +kernel
theorem dX9_startChange_9 : decode cX9_startChange 9 = .ok (.ireturn, 1) := by decide +kernel
theorem dX9_startChange_10 : decode cX9_startChange 10 = .ok (.aload_n 0, 1) := by decide +kernel
theorem dX9_startChange_11 : decode cX9_startChange 11 = .ok (.iload_n 1, 1) := by decide +kernel
theorem dX9_startChange_12 : decode cX9_startChange 12 = .ok (.putfield 16, 3) := by decide +kernel
theorem dX9_startChange_15 : decode cX9_startChange 15 = .ok (.aload_n 0, 1) := by decide +kernel
theorem dX9_startChange_16 : decode cX9_startChange 16 = .ok (.iconst 0, 1) := by decide +kernel
theorem dX9_startChange_17 : decode cX9_startChange 17 = .ok (.putfield 151, 3) := by decide +kernel
theorem dX9_startChange_20 : decode cX9_startChange 20 = .ok (.aload_n 0, 1) := by decide +kernel
theorem dX9_startChange_21 : decode cX9_startChange 21 = .ok (.iload_n 1, 1) := by decide +kernel
theorem dX9_startChange_22 : decode cX9_startChange 22 = .ok (.invokevirtual 108, 3) := by decide +kernel
theorem dX9_startChange_25 : decode cX9_startChange 25 = .ok (.invokestatic 154, 3) := by decide +kernel
theorem dX9_startChange_28 : decode cX9_startChange 28 = .ok (.ireturn, 1) := by decide +kernel
theorem dX9_entryOf_0 : decode cX9_entryOf 0 = .ok (.iconst 0, 1) := by decide +kernel
theorem dX9_entryOf_1 : decode cX9_entryOf 1 = .ok (.istore_n 2, 1) := by decide +kernel
theorem dX9_entryOf_2 : decode cX9_entryOf 2 = .ok (.iload_n 2, 1) := by decide +kernel
theorem dX9_entryOf_3 : decode cX9_entryOf 3 = .ok (.aload_n 0, 1) := by decide +kernel
theorem dX9_entryOf_4 : decode cX9_entryOf 4 = .ok (.getfield 151, 3) := by decide +kernel
theorem dX9_entryOf_7 : decode cX9_entryOf 7 = .ok (.if_icmp .ge 21, 3) := by decide +kernel
theorem dX9_entryOf_10 : decode cX9_entryOf 10 = .ok (.aload_n 0, 1) := by decide +kernel
theorem dX9_entryOf_11 : decode cX9_entryOf 11 = .ok (.getfield 20, 3) := by decide +kernel
theorem dX9_entryOf_14 : decode cX9_entryOf 14 = .ok (.iload_n 2, 1) := by decide +kernel
theorem dX9_entryOf_15 : decode cX9_entryOf 15 = .ok (.iaload, 1) := by decide +kernel
theorem dX9_entryOf_16 : decode cX9_entryOf 16 = .ok (.iload_n 1, 1) := by decide +kernel
theorem dX9_entryOf_17 : decode cX9_entryOf 17 = .ok (.if_icmp .ne 5, 3) := by decide +kernel
theorem dX9_entryOf_20 : decode cX9_entryOf 20 = .ok (.iload_n 2, 1) := by decide +kernel
theorem dX9_entryOf_21 : decode cX9_entryOf 21 = .ok (.ireturn, 1) := by decide +kernel
theorem dX9_entryOf_22 : decode cX9_entryOf 22 = .ok (.iinc 2 1, 3) := by decide +kernel
theorem dX9_entryOf_25 : decode cX9_entryOf 25 = .ok (.goto (-23), 3) := by decide +kernel
theorem dX9_entryOf_28 : decode cX9_entryOf 28 = .ok (.bipush (-9), 2) := by decide +kernel
theorem dX9_entryOf_30 : decode cX9_entryOf 30 = .ok (.ireturn, 1) := by decide +kernel
set_option maxRecDepth 20000 in
theorem ggX9_keepParameter_X9_of : GoodIn wsX9_keepParameter wsX9_of := goodIn_r _ [10, 11, 19, 20, 21, 22, 23, 24, 25, 26, 27, 28, 29, 30, 31] (by decide +kernel) (by decide +kernel)
set_option maxRecDepth 20000 in
theorem gX9_keepParameter_X9_of : GoodIn wsX9_keepParameter (wsV RX9 63 RX9 yX9_of wsX9_of) := goodIn_app (goodIn_of _ (by decide +kernel)) ggX9_keepParameter_X9_of
set_option maxRecDepth 20000 in
theorem ggX9_keepParameter_X9_in : GoodIn wsX9_keepParameter wsX9_in := goodIn_r _ [14] (by decide +kernel) (by decide +kernel)
set_option maxRecDepth 20000 in
theorem gX9_keepParameter_X9_in : GoodIn wsX9_keepParameter (va_wsS RX9 44 yX9_in wsX9_in) := goodIn_app (goodIn_of _ (by decide +kernel)) ggX9_keepParameter_X9_in
set_option maxRecDepth 20000 in
theorem ggX9_keepParameter_X9_entryOf : GoodIn wsX9_keepParameter wsX9_entryOf := goodIn_r _ [18, 2, 3, 19, 20, 21, 22, 23, 24, 25, 26, 27, 28, 29, 30, 31] (by decide +kernel) (by decide +kernel)
set_option maxRecDepth 20000 in
theorem gX9_keepParameter_X9_entryOf : GoodIn wsX9_keepParameter (wsV RX9 157 RX9 yX9_entryOf wsX9_entryOf) := goodIn_app (goodIn_of _ (by decide +kernel)) ggX9_keepParameter_X9_entryOf
theorem dX9_keepParameter_0 : decode cX9_keepParameter 0 = .ok (.aload_n 0, 1) := by decide +kernel
theorem dX9_keepParameter_1 : decode cX9_keepParameter 1 = .ok (.getfield 16, 3) := by decide +kernel
theorem dX9_keepParameter_4 : decode cX9_keepParameter 4 = .ok (.bipush (-9), 2) := by decide +kernel
theorem dX9_keepParameter_6 : decode cX9_keepParameter 6 = .ok (.if_icmp .ne 6, 3) := by decide +kernel
theorem dX9_keepParameter_9 : decode cX9_keepParameter 9 = .ok (.bipush (-2), 2) := by decide +kernel
theorem dX9_keepParameter_11 : decode cX9_keepParameter 11 = .ok (.ireturn, 1) := by decide +kernel
theorem dX9_keepParameter_12 : decode cX9_keepParameter 12 = .ok (.iload_n 1, 1) := by decide +kernel
theorem dX9_keepParameter_13 : decode cX9_keepParameter 13 = .ok (.iconst 0, 1) := by decide +kernel
theorem dX9_keepParameter_14 : decode cX9_keepParameter 14 = .ok (.aload_n 0, 1) := by decide +kernel
theorem dX9_keepParameter_15 : decode cX9_keepParameter 15 = .ok (.aload_n 0, 1) := by decide +kernel
theorem dX9_keepParameter_16 : decode cX9_keepParameter 16 = .ok (.getfield 16, 3) := by decide +kernel
theorem dX9_keepParameter_19 : decode cX9_keepParameter 19 = .ok (.iconst 2, 1) := by decide +kernel
theorem dX9_keepParameter_20 : decode cX9_keepParameter 20 = .ok (.invokevirtual 63, 3) := by decide +kernel
theorem dX9_keepParameter_23 : decode cX9_keepParameter 23 = .ok (.iconst 1, 1) := by decide +kernel
theorem dX9_keepParameter_24 : decode cX9_keepParameter 24 = .ok (.isub, 1) := by decide +kernel
theorem dX9_keepParameter_25 : decode cX9_keepParameter 25 = .ok (.invokestatic 44, 3) := by decide +kernel
theorem dX9_keepParameter_28 : decode cX9_keepParameter 28 = .ok (.ifCond .ne 5, 3) := by decide +kernel
theorem dX9_keepParameter_31 : decode cX9_keepParameter 31 = .ok (.iconst (-1), 1) := by decide +kernel
theorem dX9_keepParameter_32 : decode cX9_keepParameter 32 = .ok (.ireturn, 1) := by decide +kernel
theorem dX9_keepParameter_33 : decode cX9_keepParameter 33 = .ok (.aload_n 0, 1) := by decide +kernel
theorem dX9_keepParameter_34 : decode cX9_keepParameter 34 = .ok (.iload_n 1, 1) := by decide +kernel
theorem dX9_keepParameter_35 : decode cX9_keepParameter 35 = .ok (.invokevirtual 157, 3) := by decide +kernel
theorem dX9_keepParameter_38 : decode cX9_keepParameter 38 = .ok (.bipush (-9), 2) := by decide +kernel
theorem dX9_keepParameter_40 : decode cX9_keepParameter 40 = .ok (.if_icmp .eq 6, 3) := by decide +kernel
theorem dX9_keepParameter_43 : decode cX9_keepParameter 43 = .ok (.bipush (-2), 2) := by decide +kernel
theorem dX9_keepParameter_45 : decode cX9_keepParameter 45 = .ok (.ireturn, 1) := by decide +kernel
theorem dX9_keepParameter_46 : decode cX9_keepParameter 46 = .ok (.aload_n 0, 1) := by decide +kernel
theorem dX9_keepParameter_47 : decode cX9_keepParameter 47 = .ok (.getfield 151, 3) := by decide +kernel
theorem dX9_keepParameter_50 : decode cX9_keepParameter 50 = .ok (.iconst 5, 1) := by decide +kernel
theorem dX9_keepParameter_51 : decode cX9_keepParameter 51 = .ok (.if_icmp .ne 6, 3) := by decide +kernel
theorem dX9_keepParameter_54 : decode cX9_keepParameter 54 = .ok (.bipush (-3), 2) := by decide +kernel
theorem dX9_keepParameter_56 : decode cX9_keepParameter 56 = .ok (.ireturn, 1) := by decide +kernel
theorem dX9_keepParameter_57 : decode cX9_keepParameter 57 = .ok (.aload_n 0, 1) := by decide +kernel
theorem dX9_keepParameter_58 : decode cX9_keepParameter 58 = .ok (.getfield 20, 3) := by decide +kernel
theorem dX9_keepParameter_61 : decode cX9_keepParameter 61 = .ok (.aload_n 0, 1) := by decide +kernel
theorem dX9_keepParameter_62 : decode cX9_keepParameter 62 = .ok (.getfield 151, 3) := by decide +kernel
theorem dX9_keepParameter_65 : decode cX9_keepParameter 65 = .ok (.iload_n 1, 1) := by decide +kernel
theorem dX9_keepParameter_66 : decode cX9_keepParameter 66 = .ok (.iastore, 1) := by decide +kernel
theorem dX9_keepParameter_67 : decode cX9_keepParameter 67 = .ok (.aload_n 0, 1) := by decide +kernel
theorem dX9_keepParameter_68 : decode cX9_keepParameter 68 = .ok (.getfield 23, 3) := by decide +kernel
theorem dX9_keepParameter_71 : decode cX9_keepParameter 71 = .ok (.aload_n 0, 1) := by decide +kernel
theorem dX9_keepParameter_72 : decode cX9_keepParameter 72 = .ok (.getfield 151, 3) := by decide +kernel
theorem dX9_keepParameter_75 : decode cX9_keepParameter 75 = .ok (.aload_n 0, 1) := by decide +kernel
theorem dX9_keepParameter_76 : decode cX9_keepParameter 76 = .ok (.aload_n 0, 1) := by decide +kernel
theorem dX9_keepParameter_77 : decode cX9_keepParameter 77 = .ok (.getfield 16, 3) := by decide +kernel
theorem dX9_keepParameter_80 : decode cX9_keepParameter 80 = .ok (.iconst 3, 1) := by decide +kernel
theorem dX9_keepParameter_81 : decode cX9_keepParameter 81 = .ok (.iload_n 1, 1) := by decide +kernel
theorem dX9_keepParameter_82 : decode cX9_keepParameter 82 = .ok (.iadd, 1) := by decide +kernel
theorem dX9_keepParameter_83 : decode cX9_keepParameter 83 = .ok (.invokevirtual 63, 3) := by decide +kernel
theorem dX9_keepParameter_86 : decode cX9_keepParameter 86 = .ok (.iastore, 1) := by decide +kernel
theorem dX9_keepParameter_87 : decode cX9_keepParameter 87 = .ok (.aload_n 0, 1) := by decide +kernel
theorem dX9_keepParameter_88 : decode cX9_keepParameter 88 = .ok (.getfield 26, 3) := by decide +kernel
theorem dX9_keepParameter_91 : decode cX9_keepParameter 91 = .ok (.aload_n 0, 1) := by decide +kernel
theorem dX9_keepParameter_92 : decode cX9_keepParameter 92 = .ok (.getfield 151, 3) := by decide +kernel
theorem dX9_keepParameter_95 : decode cX9_keepParameter 95 = .ok (.aload_n 0, 1) := by decide +kernel
theorem dX9_keepParameter_96 : decode cX9_keepParameter 96 = .ok (.aload_n 0, 1) := by decide +kernel
theorem dX9_keepParameter_97 : decode cX9_keepParameter 97 = .ok (.getfield 16, 3) := by decide +kernel
theorem dX9_keepParameter_100 : decode cX9_keepParameter 100 = .ok (.bipush 8, 2) := by decide +kernel
theorem dX9_keepParameter_102 : decode cX9_keepParameter 102 = .ok (.iload_n 1, 1) := by decide +kernel
theorem dX9_keepParameter_103 : decode cX9_keepParameter 103 = .ok (.iadd, 1) := by decide +kernel
theorem dX9_keepParameter_104 : decode cX9_keepParameter 104 = .ok (.invokevirtual 63, 3) := by decide +kernel
theorem dX9_keepParameter_107 : decode cX9_keepParameter 107 = .ok (.iastore, 1) := by decide +kernel
theorem dX9_keepParameter_108 : decode cX9_keepParameter 108 = .ok (.aload_n 0, 1) := by decide +kernel
theorem dX9_keepParameter_109 : decode cX9_keepParameter 109 = .ok (.dup, 1) := by decide +kernel
theorem dX9_keepParameter_110 : decode cX9_keepParameter 110 = .ok (.getfield 151, 3) := by decide +kernel
theorem dX9_keepParameter_113 : decode cX9_keepParameter 113 = .ok (.iconst 1, 1) := by decide +kernel
theorem dX9_keepParameter_114 : decode cX9_keepParameter 114 = .ok (.iadd, 1) := by decide +kernel
theorem dX9_keepParameter_115 : decode cX9_keepParameter 115 = .ok (.putfield 151, 3) := by decide +kernel
theorem dX9_keepParameter_118 : decode cX9_keepParameter 118 = .ok (.aload_n 0, 1) := by decide +kernel
theorem dX9_keepParameter_119 : decode cX9_keepParameter 119 = .ok (.getfield 151, 3) := by decide +kernel
theorem dX9_keepParameter_122 : decode cX9_keepParameter 122 = .ok (.ireturn, 1) := by decide +kernel
set_option maxRecDepth 20000 in
theorem ggX9_isTaken_X9_of : GoodIn wsX9_isTaken wsX9_of := goodIn_r _ [8, 9, 10, 11, 12, 13, 14, 15, 16, 17, 18, 19, 20, 21, 22] (by decide +kernel) (by decide +kernel)
set_option maxRecDepth 20000 in
theorem gX9_isTaken_X9_of : GoodIn wsX9_isTaken (wsV RX9 63 RX9 yX9_of wsX9_of) := goodIn_app (goodIn_of _ (by decide +kernel)) ggX9_isTaken_X9_of
theorem dX9_isTaken_0 : decode cX9_isTaken 0 = .ok (.iconst 0, 1) := by decide +kernel
theorem dX9_isTaken_1 : decode cX9_isTaken 1 = .ok (.istore_n 2, 1) := by decide +kernel
theorem dX9_isTaken_2 : decode cX9_isTaken 2 = .ok (.iconst 0, 1) := by decide +kernel
theorem dX9_isTaken_3 : decode cX9_isTaken 3 = .ok (.istore_n 3, 1) := by decide +kernel
theorem dX9_isTaken_4 : decode cX9_isTaken 4 = .ok (.iload_n 3, 1) := by decide +kernel
theorem dX9_isTaken_5 : decode cX9_isTaken 5 = .ok (.aload_n 0, 1) := by decide +kernel
theorem dX9_isTaken_6 : decode cX9_isTaken 6 = .ok (.aload_n 0, 1) := by decide +kernel
theorem dX9_isTaken_7 : decode cX9_isTaken 7 = .ok (.getfield 16, 3) := by decide +kernel
theorem dX9_isTaken_10 : decode cX9_isTaken 10 = .ok (.iconst 2, 1) := by decide +kernel
theorem dX9_isTaken_11 : decode cX9_isTaken 11 = .ok (.invokevirtual 63, 3) := by decide +kernel
theorem dX9_isTaken_14 : decode cX9_isTaken 14 = .ok (.if_icmp .ge 34, 3) := by decide +kernel
theorem dX9_isTaken_17 : decode cX9_isTaken 17 = .ok (.iload_n 2, 1) := by decide +kernel
theorem dX9_isTaken_18 : decode cX9_isTaken 18 = .ok (.ifCond .ne 18, 3) := by decide +kernel
theorem dX9_isTaken_21 : decode cX9_isTaken 21 = .ok (.aload_n 0, 1) := by decide +kernel
theorem dX9_isTaken_22 : decode cX9_isTaken 22 = .ok (.aload_n 0, 1) := by decide +kernel
theorem dX9_isTaken_23 : decode cX9_isTaken 23 = .ok (.getfield 16, 3) := by decide +kernel
theorem dX9_isTaken_26 : decode cX9_isTaken 26 = .ok (.iconst 3, 1) := by decide +kernel
theorem dX9_isTaken_27 : decode cX9_isTaken 27 = .ok (.iload_n 3, 1) := by decide +kernel
theorem dX9_isTaken_28 : decode cX9_isTaken 28 = .ok (.iadd, 1) := by decide +kernel
theorem dX9_isTaken_29 : decode cX9_isTaken 29 = .ok (.invokevirtual 63, 3) := by decide +kernel
theorem dX9_isTaken_32 : decode cX9_isTaken 32 = .ok (.iload_n 1, 1) := by decide +kernel
theorem dX9_isTaken_33 : decode cX9_isTaken 33 = .ok (.if_icmp .ne 7, 3) := by decide +kernel
theorem dX9_isTaken_36 : decode cX9_isTaken 36 = .ok (.iconst 1, 1) := by decide +kernel
theorem dX9_isTaken_37 : decode cX9_isTaken 37 = .ok (.goto 4, 3) := by decide +kernel
theorem dX9_isTaken_40 : decode cX9_isTaken 40 = .ok (.iconst 0, 1) := by decide +kernel
theorem dX9_isTaken_41 : decode cX9_isTaken 41 = .ok (.istore_n 2, 1) := by decide +kernel
theorem dX9_isTaken_42 : decode cX9_isTaken 42 = .ok (.iinc 3 1, 3) := by decide +kernel
theorem dX9_isTaken_45 : decode cX9_isTaken 45 = .ok (.goto (-41), 3) := by decide +kernel
theorem dX9_isTaken_48 : decode cX9_isTaken 48 = .ok (.iconst 0, 1) := by decide +kernel
theorem dX9_isTaken_49 : decode cX9_isTaken 49 = .ok (.istore_n 3, 1) := by decide +kernel
theorem dX9_isTaken_50 : decode cX9_isTaken 50 = .ok (.iload_n 3, 1) := by decide +kernel
theorem dX9_isTaken_51 : decode cX9_isTaken 51 = .ok (.aload_n 0, 1) := by decide +kernel
theorem dX9_isTaken_52 : decode cX9_isTaken 52 = .ok (.getfield 151, 3) := by decide +kernel
theorem dX9_isTaken_55 : decode cX9_isTaken 55 = .ok (.if_icmp .ge 29, 3) := by decide +kernel
theorem dX9_isTaken_58 : decode cX9_isTaken 58 = .ok (.iload_n 2, 1) := by decide +kernel
theorem dX9_isTaken_59 : decode cX9_isTaken 59 = .ok (.ifCond .ne 13, 3) := by decide +kernel
theorem dX9_isTaken_62 : decode cX9_isTaken 62 = .ok (.aload_n 0, 1) := by decide +kernel
theorem dX9_isTaken_63 : decode cX9_isTaken 63 = .ok (.getfield 23, 3) := by decide +kernel
theorem dX9_isTaken_66 : decode cX9_isTaken 66 = .ok (.iload_n 3, 1) := by decide +kernel
theorem dX9_isTaken_67 : decode cX9_isTaken 67 = .ok (.iaload, 1) := by decide +kernel
theorem dX9_isTaken_68 : decode cX9_isTaken 68 = .ok (.iload_n 1, 1) := by decide +kernel
theorem dX9_isTaken_69 : decode cX9_isTaken 69 = .ok (.if_icmp .ne 7, 3) := by decide +kernel
theorem dX9_isTaken_72 : decode cX9_isTaken 72 = .ok (.iconst 1, 1) := by decide +kernel
theorem dX9_isTaken_73 : decode cX9_isTaken 73 = .ok (.goto 4, 3) := by decide +kernel
theorem dX9_isTaken_76 : decode cX9_isTaken 76 = .ok (.iconst 0, 1) := by decide +kernel
theorem dX9_isTaken_77 : decode cX9_isTaken 77 = .ok (.istore_n 2, 1) := by decide +kernel
theorem dX9_isTaken_78 : decode cX9_isTaken 78 = .ok (.iinc 3 1, 3) := by decide +kernel
theorem dX9_isTaken_81 : decode cX9_isTaken 81 = .ok (.goto (-31), 3) := by decide +kernel
theorem dX9_isTaken_84 : decode cX9_isTaken 84 = .ok (.iload_n 2, 1) := by decide +kernel
theorem dX9_isTaken_85 : decode cX9_isTaken 85 = .ok (.ireturn, 1) := by decide +kernel
set_option maxRecDepth 20000 in
theorem ggX9_insertParameter_X9_in : GoodIn wsX9_insertParameter wsX9_in := goodIn_r _ [9] (by decide +kernel) (by decide +kernel)
set_option maxRecDepth 20000 in
theorem gX9_insertParameter_X9_in : GoodIn wsX9_insertParameter (va_wsS RX9 44 yX9_in wsX9_in) := goodIn_app (goodIn_of _ (by decide +kernel)) ggX9_insertParameter_X9_in
set_option maxRecDepth 20000 in
theorem ggX9_insertParameter_X9_isTaken : GoodIn wsX9_insertParameter wsX9_isTaken := goodIn_r _ [13, 1, 2, 4, 14, 15, 16, 8, 17, 18, 19, 20, 21, 22, 23, 24, 25, 26, 27, 28, 29, 30, 31] (by decide +kernel) (by decide +kernel)
set_option maxRecDepth 20000 in
theorem gX9_insertParameter_X9_isTaken : GoodIn wsX9_insertParameter (wsV RX9 160 RX9 yX9_isTaken wsX9_isTaken) := goodIn_app (goodIn_of _ (by decide +kernel)) ggX9_insertParameter_X9_isTaken
theorem dX9_insertParameter_0 : decode cX9_insertParameter 0 = .ok (.iload_n 1, 1) := by decide +kernel
theorem dX9_insertParameter_1 : decode cX9_insertParameter 1 = .ok (.bipush (-99), 2) := by decide +kernel
theorem dX9_insertParameter_3 : decode cX9_insertParameter 3 = .ok (.bipush 99, 2) := by decide +kernel
theorem dX9_insertParameter_5 : decode cX9_insertParameter 5 = .ok (.invokestatic 44, 3) := by decide +kernel
theorem dX9_insertParameter_8 : decode cX9_insertParameter 8 = .ok (.ifCond .ne 5, 3) := by decide +kernel
theorem dX9_insertParameter_11 : decode cX9_insertParameter 11 = .ok (.iconst (-1), 1) := by decide +kernel
theorem dX9_insertParameter_12 : decode cX9_insertParameter 12 = .ok (.ireturn, 1) := by decide +kernel
theorem dX9_insertParameter_13 : decode cX9_insertParameter 13 = .ok (.aload_n 0, 1) := by decide +kernel
theorem dX9_insertParameter_14 : decode cX9_insertParameter 14 = .ok (.getfield 16, 3) := by decide +kernel
theorem dX9_insertParameter_17 : decode cX9_insertParameter 17 = .ok (.bipush (-9), 2) := by decide +kernel
theorem dX9_insertParameter_19 : decode cX9_insertParameter 19 = .ok (.if_icmp .ne 6, 3) := by decide +kernel
theorem dX9_insertParameter_22 : decode cX9_insertParameter 22 = .ok (.bipush (-2), 2) := by decide +kernel
theorem dX9_insertParameter_24 : decode cX9_insertParameter 24 = .ok (.ireturn, 1) := by decide +kernel
theorem dX9_insertParameter_25 : decode cX9_insertParameter 25 = .ok (.aload_n 0, 1) := by decide +kernel
theorem dX9_insertParameter_26 : decode cX9_insertParameter 26 = .ok (.getfield 151, 3) := by decide +kernel
theorem dX9_insertParameter_29 : decode cX9_insertParameter 29 = .ok (.iconst 5, 1) := by decide +kernel
theorem dX9_insertParameter_30 : decode cX9_insertParameter 30 = .ok (.if_icmp .ne 6, 3) := by decide +kernel
theorem dX9_insertParameter_33 : decode cX9_insertParameter 33 = .ok (.bipush (-3), 2) := by decide +kernel
theorem dX9_insertParameter_35 : decode cX9_insertParameter 35 = .ok (.ireturn, 1) := by decide +kernel
theorem dX9_insertParameter_36 : decode cX9_insertParameter 36 = .ok (.iconst 0, 1) := by decide +kernel
theorem dX9_insertParameter_37 : decode cX9_insertParameter 37 = .ok (.istore_n 2, 1) := by decide +kernel
theorem dX9_insertParameter_38 : decode cX9_insertParameter 38 = .ok (.aload_n 0, 1) := by decide +kernel
theorem dX9_insertParameter_39 : decode cX9_insertParameter 39 = .ok (.iload_n 2, 1) := by decide +kernel
theorem dX9_insertParameter_40 : decode cX9_insertParameter 40 = .ok (.invokevirtual 160, 3) := by decide +kernel
theorem dX9_insertParameter_43 : decode cX9_insertParameter 43 = .ok (.ifCond .eq 9, 3) := by decide +kernel
theorem dX9_insertParameter_46 : decode cX9_insertParameter 46 = .ok (.iinc 2 1, 3) := by decide +kernel
theorem dX9_insertParameter_49 : decode cX9_insertParameter 49 = .ok (.goto (-11), 3) := by decide +kernel
theorem dX9_insertParameter_52 : decode cX9_insertParameter 52 = .ok (.aload_n 0, 1) := by decide +kernel
theorem dX9_insertParameter_53 : decode cX9_insertParameter 53 = .ok (.getfield 20, 3) := by decide +kernel
theorem dX9_insertParameter_56 : decode cX9_insertParameter 56 = .ok (.aload_n 0, 1) := by decide +kernel
theorem dX9_insertParameter_57 : decode cX9_insertParameter 57 = .ok (.getfield 151, 3) := by decide +kernel
theorem dX9_insertParameter_60 : decode cX9_insertParameter 60 = .ok (.bipush (-9), 2) := by decide +kernel
theorem dX9_insertParameter_62 : decode cX9_insertParameter 62 = .ok (.iastore, 1) := by decide +kernel
theorem dX9_insertParameter_63 : decode cX9_insertParameter 63 = .ok (.aload_n 0, 1) := by decide +kernel
theorem dX9_insertParameter_64 : decode cX9_insertParameter 64 = .ok (.getfield 23, 3) := by decide +kernel
theorem dX9_insertParameter_67 : decode cX9_insertParameter 67 = .ok (.aload_n 0, 1) := by decide +kernel
theorem dX9_insertParameter_68 : decode cX9_insertParameter 68 = .ok (.getfield 151, 3) := by decide +kernel
theorem dX9_insertParameter_71 : decode cX9_insertParameter 71 = .ok (.iload_n 2, 1) := by decide +kernel
theorem dX9_insertParameter_72 : decode cX9_insertParameter 72 = .ok (.iastore, 1) := by decide +kernel
theorem dX9_insertParameter_73 : decode cX9_insertParameter 73 = .ok (.aload_n 0, 1) := by decide +kernel
theorem dX9_insertParameter_74 : decode cX9_insertParameter 74 = .ok (.getfield 26, 3) := by decide +kernel
theorem dX9_insertParameter_77 : decode cX9_insertParameter 77 = .ok (.aload_n 0, 1) := by decide +kernel
theorem dX9_insertParameter_78 : decode cX9_insertParameter 78 = .ok (.getfield 151, 3) := by decide +kernel
theorem dX9_insertParameter_81 : decode cX9_insertParameter 81 = .ok (.iload_n 1, 1) := by decide +kernel
theorem dX9_insertParameter_82 : decode cX9_insertParameter 82 = .ok (.iastore, 1) := by decide +kernel
theorem dX9_insertParameter_83 : decode cX9_insertParameter 83 = .ok (.aload_n 0, 1) := by decide +kernel
theorem dX9_insertParameter_84 : decode cX9_insertParameter 84 = .ok (.dup, 1) := by decide +kernel
theorem dX9_insertParameter_85 : decode cX9_insertParameter 85 = .ok (.getfield 151, 3) := by decide +kernel
theorem dX9_insertParameter_88 : decode cX9_insertParameter 88 = .ok (.iconst 1, 1) := by decide +kernel
theorem dX9_insertParameter_89 : decode cX9_insertParameter 89 = .ok (.iadd, 1) := by decide +kernel
theorem dX9_insertParameter_90 : decode cX9_insertParameter 90 = .ok (.putfield 151, 3) := by decide +kernel
theorem dX9_insertParameter_93 : decode cX9_insertParameter 93 = .ok (.iload_n 2, 1) := by decide +kernel
theorem dX9_insertParameter_94 : decode cX9_insertParameter 94 = .ok (.ireturn, 1) := by decide +kernel
set_option maxRecDepth 20000 in
theorem ggX9_clashes_X9_has : GoodIn wsX9_clashes wsX9_has := goodIn_r _ [7] (by decide +kernel) (by decide +kernel)
set_option maxRecDepth 20000 in
theorem gX9_clashes_X9_has : GoodIn wsX9_clashes (va_wsS RX9 48 yX9_has wsX9_has) := goodIn_app (goodIn_of _ (by decide +kernel)) ggX9_clashes_X9_has
set_option maxRecDepth 20000 in
theorem ggX9_clashes_X9_of : GoodIn wsX9_clashes wsX9_of := goodIn_r _ [11, 3, 28, 29, 30, 31, 32, 33, 34, 35, 36, 37, 38, 39, 40] (by decide +kernel) (by decide +kernel)
set_option maxRecDepth 20000 in
theorem gX9_clashes_X9_of : GoodIn wsX9_clashes (wsV RX9 63 RX9 yX9_of wsX9_of) := goodIn_app (goodIn_of _ (by decide +kernel)) ggX9_clashes_X9_of
set_option maxRecDepth 20000 in
theorem ggX9_clashes_X9_isNamed : GoodIn wsX9_clashes wsX9_isNamed := goodIn_r _ [15, 8, 9, 10, 6, 11, 3, 28, 29, 30, 31, 32, 33, 34, 35, 36, 37, 38, 39, 40] (by decide +kernel) (by decide +kernel)
set_option maxRecDepth 20000 in
theorem gX9_clashes_X9_isNamed : GoodIn wsX9_clashes (wsV RX9 67 RX9 yX9_isNamed wsX9_isNamed) := goodIn_app (goodIn_of _ (by decide +kernel)) ggX9_clashes_X9_isNamed
set_option maxRecDepth 20000 in
theorem ggX9_clashes_X9_areConnected : GoodIn wsX9_clashes wsX9_areConnected := goodIn_r _ [19, 3, 20, 21, 22, 6, 23, 24, 25, 26, 27, 4, 5, 7, 28, 29, 30, 31, 32, 33, 34, 35, 36, 37, 38, 39, 40] (by decide +kernel) (by decide +kernel)
set_option maxRecDepth 20000 in
theorem gX9_clashes_X9_areConnected : GoodIn wsX9_clashes (wsV RX9 89 RX9 yX9_areConnected wsX9_areConnected) := goodIn_app (goodIn_of _ (by decide +kernel)) ggX9_clashes_X9_areConnected
theorem dX9_clashes_0 : decode cX9_clashes 0 = .ok (.iload_n 2, 1) := by decide +kernel
theorem dX9_clashes_1 : decode cX9_clashes 1 = .ok (.iload_n 1, 1) := by decide +kernel
theorem dX9_clashes_2 : decode cX9_clashes 2 = .ok (.invokestatic 48, 3) := by decide +kernel
theorem dX9_clashes_5 : decode cX9_clashes 5 = .ok (.ifCond .ne 24, 3) := by decide +kernel
theorem dX9_clashes_8 : decode cX9_clashes 8 = .ok (.aload_n 0, 1) := by decide +kernel
theorem dX9_clashes_9 : decode cX9_clashes 9 = .ok (.iload_n 1, 1) := by decide +kernel
theorem dX9_clashes_10 : decode cX9_clashes 10 = .ok (.aload_n 0, 1) := by decide +kernel
theorem dX9_clashes_11 : decode cX9_clashes 11 = .ok (.aload_n 0, 1) := by decide +kernel
theorem dX9_clashes_12 : decode cX9_clashes 12 = .ok (.getfield 16, 3) := by decide +kernel
theorem dX9_clashes_15 : decode cX9_clashes 15 = .ok (.iconst 1, 1) := by decide +kernel
theorem dX9_clashes_16 : decode cX9_clashes 16 = .ok (.invokevirtual 63, 3) := by decide +kernel
theorem dX9_clashes_19 : decode cX9_clashes 19 = .ok (.aload_n 0, 1) := by decide +kernel
theorem dX9_clashes_20 : decode cX9_clashes 20 = .ok (.getfield 151, 3) := by decide +kernel
theorem dX9_clashes_23 : decode cX9_clashes 23 = .ok (.invokevirtual 67, 3) := by decide +kernel
theorem dX9_clashes_26 : decode cX9_clashes 26 = .ok (.ifCond .ne 5, 3) := by decide +kernel
theorem dX9_clashes_29 : decode cX9_clashes 29 = .ok (.iconst 0, 1) := by decide +kernel
theorem dX9_clashes_30 : decode cX9_clashes 30 = .ok (.ireturn, 1) := by decide +kernel
theorem dX9_clashes_31 : decode cX9_clashes 31 = .ok (.iconst 0, 1) := by decide +kernel
theorem dX9_clashes_32 : decode cX9_clashes 32 = .ok (.istore_n 3, 1) := by decide +kernel
theorem dX9_clashes_33 : decode cX9_clashes 33 = .ok (.iconst 0, 1) := by decide +kernel
theorem dX9_clashes_34 : decode cX9_clashes 34 = .ok (.istore 4, 2) := by decide +kernel
theorem dX9_clashes_36 : decode cX9_clashes 36 = .ok (.iload 4, 2) := by decide +kernel
theorem dX9_clashes_38 : decode cX9_clashes 38 = .ok (.aload_n 0, 1) := by decide +kernel
theorem dX9_clashes_39 : decode cX9_clashes 39 = .ok (.getfield 7, 3) := by decide +kernel
theorem dX9_clashes_42 : decode cX9_clashes 42 = .ok (.bipush 25, 2) := by decide +kernel
theorem dX9_clashes_44 : decode cX9_clashes 44 = .ok (.iaload, 1) := by decide +kernel
theorem dX9_clashes_45 : decode cX9_clashes 45 = .ok (.if_icmp .ge 48, 3) := by decide +kernel
theorem dX9_clashes_48 : decode cX9_clashes 48 = .ok (.iload_n 3, 1) := by decide +kernel
theorem dX9_clashes_49 : decode cX9_clashes 49 = .ok (.ifCond .ne 32, 3) := by decide +kernel
theorem dX9_clashes_52 : decode cX9_clashes 52 = .ok (.iload_n 2, 1) := by decide +kernel
theorem dX9_clashes_53 : decode cX9_clashes 53 = .ok (.iload 4, 2) := by decide +kernel
theorem dX9_clashes_55 : decode cX9_clashes 55 = .ok (.invokestatic 48, 3) := by decide +kernel
theorem dX9_clashes_58 : decode cX9_clashes 58 = .ok (.ifCond .eq 27, 3) := by decide +kernel
theorem dX9_clashes_61 : decode cX9_clashes 61 = .ok (.aload_n 0, 1) := by decide +kernel
theorem dX9_clashes_62 : decode cX9_clashes 62 = .ok (.aload_n 0, 1) := by decide +kernel
theorem dX9_clashes_63 : decode cX9_clashes 63 = .ok (.iload_n 1, 1) := by decide +kernel
theorem dX9_clashes_64 : decode cX9_clashes 64 = .ok (.iconst 0, 1) := by decide +kernel
theorem dX9_clashes_65 : decode cX9_clashes 65 = .ok (.invokevirtual 63, 3) := by decide +kernel
theorem dX9_clashes_68 : decode cX9_clashes 68 = .ok (.aload_n 0, 1) := by decide +kernel
theorem dX9_clashes_69 : decode cX9_clashes 69 = .ok (.iload 4, 2) := by decide +kernel
theorem dX9_clashes_71 : decode cX9_clashes 71 = .ok (.iconst 0, 1) := by decide +kernel
theorem dX9_clashes_72 : decode cX9_clashes 72 = .ok (.invokevirtual 63, 3) := by decide +kernel
theorem dX9_clashes_75 : decode cX9_clashes 75 = .ok (.invokevirtual 89, 3) := by decide +kernel
theorem dX9_clashes_78 : decode cX9_clashes 78 = .ok (.ifCond .eq 7, 3) := by decide +kernel
theorem dX9_clashes_81 : decode cX9_clashes 81 = .ok (.iconst 1, 1) := by decide +kernel
theorem dX9_clashes_82 : decode cX9_clashes 82 = .ok (.goto 4, 3) := by decide +kernel
theorem dX9_clashes_85 : decode cX9_clashes 85 = .ok (.iconst 0, 1) := by decide +kernel
theorem dX9_clashes_86 : decode cX9_clashes 86 = .ok (.istore_n 3, 1) := by decide +kernel
theorem dX9_clashes_87 : decode cX9_clashes 87 = .ok (.iinc 4 1, 3) := by decide +kernel
theorem dX9_clashes_90 : decode cX9_clashes 90 = .ok (.goto (-54), 3) := by decide +kernel
theorem dX9_clashes_93 : decode cX9_clashes 93 = .ok (.iload_n 3, 1) := by decide +kernel
theorem dX9_clashes_94 : decode cX9_clashes 94 = .ok (.ireturn, 1) := by decide +kernel
set_option maxRecDepth 20000 in
theorem ggX9_clash_X9_familyOf : GoodIn wsX9_clash wsX9_familyOf := goodIn_r _ [7, 2, 8, 9, 6, 10, 11, 12, 13, 14, 15, 16, 17, 18, 19, 20, 21, 22, 23, 24, 25, 26, 27, 28, 29, 30, 31, 32, 33, 34, 40, 41, 42, 43, 44, 45, 46, 47, 48, 49, 50, 51, 52] (by decide +kernel) (by decide +kernel)
set_option maxRecDepth 20000 in
theorem gX9_clash_X9_familyOf : GoodIn wsX9_clash (wsV RX9 108 RX9 yX9_familyOf wsX9_familyOf) := goodIn_app (goodIn_of _ (by decide +kernel)) ggX9_clash_X9_familyOf
set_option maxRecDepth 20000 in
theorem ggX9_clash_X9_clashes : GoodIn wsX9_clash wsX9_clashes := goodIn_r _ [38, 1, 39, 2, 8, 9, 6, 10, 11, 12, 13, 14, 19, 20, 21, 22, 23, 24, 25, 26, 27, 28, 29, 30, 31, 32, 33, 34, 40, 41, 42, 43, 44, 45, 46, 47, 48, 49, 50, 51, 52] (by decide +kernel) (by decide +kernel)
set_option maxRecDepth 20000 in
theorem gX9_clash_X9_clashes : GoodIn wsX9_clash (wsV RX9 163 RX9 yX9_clashes wsX9_clashes) := goodIn_app (goodIn_of _ (by decide +kernel)) ggX9_clash_X9_clashes
theorem dX9_clash_0 : decode cX9_clash 0 = .ok (.aload_n 0, 1) := by decide +kernel
theorem dX9_clash_1 : decode cX9_clash 1 = .ok (.aload_n 0, 1) := by decide +kernel
theorem dX9_clash_2 : decode cX9_clash 2 = .ok (.getfield 16, 3) := by decide +kernel
theorem dX9_clash_5 : decode cX9_clash 5 = .ok (.invokevirtual 108, 3) := by decide +kernel
theorem dX9_clash_8 : decode cX9_clash 8 = .ok (.istore_n 1, 1) := by decide +kernel
theorem dX9_clash_9 : decode cX9_clash 9 = .ok (.iconst 0, 1) := by decide +kernel
theorem dX9_clash_10 : decode cX9_clash 10 = .ok (.istore_n 2, 1) := by decide +kernel
theorem dX9_clash_11 : decode cX9_clash 11 = .ok (.iload_n 2, 1) := by decide +kernel
theorem dX9_clash_12 : decode cX9_clash 12 = .ok (.aload_n 0, 1) := by decide +kernel
theorem dX9_clash_13 : decode cX9_clash 13 = .ok (.getfield 7, 3) := by decide +kernel
theorem dX9_clash_16 : decode cX9_clash 16 = .ok (.bipush 25, 2) := by decide +kernel
theorem dX9_clash_18 : decode cX9_clash 18 = .ok (.iaload, 1) := by decide +kernel
theorem dX9_clash_19 : decode cX9_clash 19 = .ok (.if_icmp .ge 20, 3) := by decide +kernel
theorem dX9_clash_22 : decode cX9_clash 22 = .ok (.aload_n 0, 1) := by decide +kernel
theorem dX9_clash_23 : decode cX9_clash 23 = .ok (.iload_n 2, 1) := by decide +kernel
theorem dX9_clash_24 : decode cX9_clash 24 = .ok (.iload_n 1, 1) := by decide +kernel
theorem dX9_clash_25 : decode cX9_clash 25 = .ok (.invokevirtual 163, 3) := by decide +kernel
theorem dX9_clash_28 : decode cX9_clash 28 = .ok (.ifCond .eq 5, 3) := by decide +kernel
theorem dX9_clash_31 : decode cX9_clash 31 = .ok (.iload_n 2, 1) := by decide +kernel
theorem dX9_clash_32 : decode cX9_clash 32 = .ok (.ireturn, 1) := by decide +kernel
theorem dX9_clash_33 : decode cX9_clash 33 = .ok (.iinc 2 1, 3) := by decide +kernel
theorem dX9_clash_36 : decode cX9_clash 36 = .ok (.goto (-25), 3) := by decide +kernel
theorem dX9_clash_39 : decode cX9_clash 39 = .ok (.bipush (-9), 2) := by decide +kernel
theorem dX9_clash_41 : decode cX9_clash 41 = .ok (.ireturn, 1) := by decide +kernel
set_option maxRecDepth 20000 in
theorem ggX9_clashingMethod_X9_clash : GoodIn wsX9_clashingMethod wsX9_clash := goodIn_r _ [6, 1, 7, 8, 9, 10, 5, 11, 12, 13, 14, 15, 16, 17, 18, 19, 20, 21, 22, 23, 24, 25, 26, 27, 28, 29, 30, 31, 32, 33, 34, 35, 36, 37, 38, 39, 40, 41, 42, 43, 44, 45, 46, 47, 48, 49, 50, 51, 52, 53, 54, 55, 56] (by decide +kernel) (by decide +kernel)
set_option maxRecDepth 20000 in
theorem gX9_clashingMethod_X9_clash : GoodIn wsX9_clashingMethod (wsV RX9 166 RX9 yX9_clash wsX9_clash) := goodIn_app (goodIn_of _ (by decide +kernel)) ggX9_clashingMethod_X9_clash
theorem dX9_clashingMethod_0 : decode cX9_clashingMethod 0 = .ok (.aload_n 0, 1) := by decide +kernel
theorem dX9_clashingMethod_1 : decode cX9_clashingMethod 1 = .ok (.getfield 16, 3) := by decide +kernel
theorem dX9_clashingMethod_4 : decode cX9_clashingMethod 4 = .ok (.bipush (-9), 2) := by decide +kernel
theorem dX9_clashingMethod_6 : decode cX9_clashingMethod 6 = .ok (.if_icmp .ne 8, 3) := by decide +kernel
theorem dX9_clashingMethod_9 : decode cX9_clashingMethod 9 = .ok (.bipush (-2), 2) := by decide +kernel
theorem dX9_clashingMethod_11 : decode cX9_clashingMethod 11 = .ok (.goto 7, 3) := by decide +kernel
theorem dX9_clashingMethod_14 : decode cX9_clashingMethod 14 = .ok (.aload_n 0, 1) := by decide +kernel
theorem dX9_clashingMethod_15 : decode cX9_clashingMethod 15 = .ok (.invokevirtual 166, 3) := by decide +kernel
theorem dX9_clashingMethod_18 : decode cX9_clashingMethod 18 = .ok (.ireturn, 1) := by decide +kernel
set_option maxRecDepth 20000 in
theorem ggX9_isConcerned_X9_familyOf : GoodIn wsX9_isConcerned wsX9_familyOf := goodIn_r _ [7, 2, 8, 9, 6, 10, 11, 12, 13, 14, 15, 16, 17, 18, 19, 20, 21, 22, 23, 24, 25, 26, 27, 28, 29, 30, 31, 32, 33, 34, 39, 40, 41, 42, 43, 44, 45, 46, 47, 48, 49, 50, 51] (by decide +kernel) (by decide +kernel)
set_option maxRecDepth 20000 in
theorem gX9_isConcerned_X9_familyOf : GoodIn wsX9_isConcerned (wsV RX9 108 RX9 yX9_familyOf wsX9_familyOf) := goodIn_app (goodIn_of _ (by decide +kernel)) ggX9_isConcerned_X9_familyOf
set_option maxRecDepth 20000 in
theorem ggX9_isConcerned_X9_at : GoodIn wsX9_isConcerned wsX9_at := goodIn_r _ [38] (by decide +kernel) (by decide +kernel)
set_option maxRecDepth 20000 in
theorem gX9_isConcerned_X9_at : GoodIn wsX9_isConcerned (wsV RX9 111 RX9 yX9_at wsX9_at) := goodIn_app (goodIn_of _ (by decide +kernel)) ggX9_isConcerned_X9_at
set_option maxRecDepth 20000 in
theorem ggX9_isConcerned_X9_has : GoodIn wsX9_isConcerned wsX9_has := goodIn_r _ [10] (by decide +kernel) (by decide +kernel)
set_option maxRecDepth 20000 in
theorem gX9_isConcerned_X9_has : GoodIn wsX9_isConcerned (va_wsS RX9 48 yX9_has wsX9_has) := goodIn_app (goodIn_of _ (by decide +kernel)) ggX9_isConcerned_X9_has
theorem dX9_isConcerned_0 : decode cX9_isConcerned 0 = .ok (.aload_n 0, 1) := by decide +kernel
theorem dX9_isConcerned_1 : decode cX9_isConcerned 1 = .ok (.aload_n 0, 1) := by decide +kernel
theorem dX9_isConcerned_2 : decode cX9_isConcerned 2 = .ok (.getfield 16, 3) := by decide +kernel
theorem dX9_isConcerned_5 : decode cX9_isConcerned 5 = .ok (.invokevirtual 108, 3) := by decide +kernel
theorem dX9_isConcerned_8 : decode cX9_isConcerned 8 = .ok (.aload_n 0, 1) := by decide +kernel
theorem dX9_isConcerned_9 : decode cX9_isConcerned 9 = .ok (.getfield 7, 3) := by decide +kernel
theorem dX9_isConcerned_12 : decode cX9_isConcerned 12 = .ok (.aload_n 0, 1) := by decide +kernel
theorem dX9_isConcerned_13 : decode cX9_isConcerned 13 = .ok (.iload_n 1, 1) := by decide +kernel
theorem dX9_isConcerned_14 : decode cX9_isConcerned 14 = .ok (.iconst 2, 1) := by decide +kernel
theorem dX9_isConcerned_15 : decode cX9_isConcerned 15 = .ok (.invokevirtual 111, 3) := by decide +kernel
theorem dX9_isConcerned_18 : decode cX9_isConcerned 18 = .ok (.iaload, 1) := by decide +kernel
theorem dX9_isConcerned_19 : decode cX9_isConcerned 19 = .ok (.invokestatic 48, 3) := by decide +kernel
theorem dX9_isConcerned_22 : decode cX9_isConcerned 22 = .ok (.ireturn, 1) := by decide +kernel
set_option maxRecDepth 20000 in
theorem ggX9_kindOf_X9_at : GoodIn wsX9_kindOf wsX9_at := goodIn_r _ [6] (by decide +kernel) (by decide +kernel)
set_option maxRecDepth 20000 in
theorem gX9_kindOf_X9_at : GoodIn wsX9_kindOf (wsV RX9 111 RX9 yX9_at wsX9_at) := goodIn_app (goodIn_of _ (by decide +kernel)) ggX9_kindOf_X9_at
theorem dX9_kindOf_0 : decode cX9_kindOf 0 = .ok (.aload_n 0, 1) := by decide +kernel
theorem dX9_kindOf_1 : decode cX9_kindOf 1 = .ok (.getfield 7, 3) := by decide +kernel
theorem dX9_kindOf_4 : decode cX9_kindOf 4 = .ok (.aload_n 0, 1) := by decide +kernel
theorem dX9_kindOf_5 : decode cX9_kindOf 5 = .ok (.iload_n 1, 1) := by decide +kernel
theorem dX9_kindOf_6 : decode cX9_kindOf 6 = .ok (.iconst 5, 1) := by decide +kernel
theorem dX9_kindOf_7 : decode cX9_kindOf 7 = .ok (.iload_n 2, 1) := by decide +kernel
theorem dX9_kindOf_8 : decode cX9_kindOf 8 = .ok (.iadd, 1) := by decide +kernel
theorem dX9_kindOf_9 : decode cX9_kindOf 9 = .ok (.invokevirtual 111, 3) := by decide +kernel
theorem dX9_kindOf_12 : decode cX9_kindOf 12 = .ok (.iaload, 1) := by decide +kernel
theorem dX9_kindOf_13 : decode cX9_kindOf 13 = .ok (.ireturn, 1) := by decide +kernel
set_option maxRecDepth 20000 in
theorem ggX9_doesCount_X9_kindOf : GoodIn wsX9_doesCount wsX9_kindOf := goodIn_r _ [5, 6, 7, 8, 9, 4, 10, 11, 12, 13, 14, 15, 16, 17, 18, 19, 20, 21, 22, 23] (by decide +kernel) (by decide +kernel)
set_option maxRecDepth 20000 in
theorem gX9_doesCount_X9_kindOf : GoodIn wsX9_doesCount (wsV RX9 169 RX9 yX9_kindOf wsX9_kindOf) := goodIn_app (goodIn_of _ (by decide +kernel)) ggX9_doesCount_X9_kindOf
theorem dX9_doesCount_0 : decode cX9_doesCount 0 = .ok (.aload_n 0, 1) := by decide +kernel
theorem dX9_doesCount_1 : decode cX9_doesCount 1 = .ok (.iload_n 1, 1) := by decide +kernel
theorem dX9_doesCount_2 : decode cX9_doesCount 2 = .ok (.iload_n 2, 1) := by decide +kernel
theorem dX9_doesCount_3 : decode cX9_doesCount 3 = .ok (.invokevirtual 169, 3) := by decide +kernel
theorem dX9_doesCount_6 : decode cX9_doesCount 6 = .ok (.iconst 1, 1) := by decide +kernel
theorem dX9_doesCount_7 : decode cX9_doesCount 7 = .ok (.if_icmp .eq 13, 3) := by decide +kernel
theorem dX9_doesCount_10 : decode cX9_doesCount 10 = .ok (.aload_n 0, 1) := by decide +kernel
theorem dX9_doesCount_11 : decode cX9_doesCount 11 = .ok (.iload_n 1, 1) := by decide +kernel
theorem dX9_doesCount_12 : decode cX9_doesCount 12 = .ok (.iload_n 2, 1) := by decide +kernel
theorem dX9_doesCount_13 : decode cX9_doesCount 13 = .ok (.invokevirtual 169, 3) := by decide +kernel
theorem dX9_doesCount_16 : decode cX9_doesCount 16 = .ok (.iconst 2, 1) := by decide +kernel
theorem dX9_doesCount_17 : decode cX9_doesCount 17 = .ok (.if_icmp .ne 7, 3) := by decide +kernel
theorem dX9_doesCount_20 : decode cX9_doesCount 20 = .ok (.iconst 1, 1) := by decide +kernel
theorem dX9_doesCount_21 : decode cX9_doesCount 21 = .ok (.goto 4, 3) := by decide +kernel
theorem dX9_doesCount_24 : decode cX9_doesCount 24 = .ok (.iconst 0, 1) := by decide +kernel
theorem dX9_doesCount_25 : decode cX9_doesCount 25 = .ok (.ireturn, 1) := by decide +kernel
set_option maxRecDepth 20000 in
theorem ggX9_turnOf_X9_has : GoodIn wsX9_turnOf wsX9_has := goodIn_r _ [4] (by decide +kernel) (by decide +kernel)
set_option maxRecDepth 20000 in
theorem gX9_turnOf_X9_has : GoodIn wsX9_turnOf (va_wsS RX9 48 yX9_has wsX9_has) := goodIn_app (goodIn_of _ (by decide +kernel)) ggX9_turnOf_X9_has
set_option maxRecDepth 20000 in
theorem ggX9_turnOf_X9_entryOf : GoodIn wsX9_turnOf wsX9_entryOf := goodIn_r _ [8, 9, 10, 11, 12, 13, 14, 15, 16, 17, 18, 19, 20, 21, 22, 23] (by decide +kernel) (by decide +kernel)
set_option maxRecDepth 20000 in
theorem gX9_turnOf_X9_entryOf : GoodIn wsX9_turnOf (wsV RX9 157 RX9 yX9_entryOf wsX9_entryOf) := goodIn_app (goodIn_of _ (by decide +kernel)) ggX9_turnOf_X9_entryOf
theorem dX9_turnOf_0 : decode cX9_turnOf 0 = .ok (.iload_n 2, 1) := by decide +kernel
theorem dX9_turnOf_1 : decode cX9_turnOf 1 = .ok (.iload_n 1, 1) := by decide +kernel
theorem dX9_turnOf_2 : decode cX9_turnOf 2 = .ok (.invokestatic 48, 3) := by decide +kernel
theorem dX9_turnOf_5 : decode cX9_turnOf 5 = .ok (.ifCond .eq 7, 3) := by decide +kernel
theorem dX9_turnOf_8 : decode cX9_turnOf 8 = .ok (.iload_n 1, 1) := by decide +kernel
theorem dX9_turnOf_9 : decode cX9_turnOf 9 = .ok (.goto 26, 3) := by decide +kernel
theorem dX9_turnOf_12 : decode cX9_turnOf 12 = .ok (.aload_n 0, 1) := by decide +kernel
theorem dX9_turnOf_13 : decode cX9_turnOf 13 = .ok (.iload_n 1, 1) := by decide +kernel
theorem dX9_turnOf_14 : decode cX9_turnOf 14 = .ok (.invokevirtual 157, 3) := by decide +kernel
theorem dX9_turnOf_17 : decode cX9_turnOf 17 = .ok (.bipush (-9), 2) := by decide +kernel
theorem dX9_turnOf_19 : decode cX9_turnOf 19 = .ok (.if_icmp .ne 8, 3) := by decide +kernel
theorem dX9_turnOf_22 : decode cX9_turnOf 22 = .ok (.bipush (-9), 2) := by decide +kernel
theorem dX9_turnOf_24 : decode cX9_turnOf 24 = .ok (.goto 11, 3) := by decide +kernel
theorem dX9_turnOf_27 : decode cX9_turnOf 27 = .ok (.bipush 10, 2) := by decide +kernel
theorem dX9_turnOf_29 : decode cX9_turnOf 29 = .ok (.aload_n 0, 1) := by decide +kernel
theorem dX9_turnOf_30 : decode cX9_turnOf 30 = .ok (.iload_n 1, 1) := by decide +kernel
theorem dX9_turnOf_31 : decode cX9_turnOf 31 = .ok (.invokevirtual 157, 3) := by decide +kernel
theorem dX9_turnOf_34 : decode cX9_turnOf 34 = .ok (.iadd, 1) := by decide +kernel
theorem dX9_turnOf_35 : decode cX9_turnOf 35 = .ok (.ireturn, 1) := by decide +kernel
set_option maxRecDepth 20000 in
theorem ggX9_mayHoist_X9_at : GoodIn wsX9_mayHoist wsX9_at := goodIn_r _ [6] (by decide +kernel) (by decide +kernel)
set_option maxRecDepth 20000 in
theorem gX9_mayHoist_X9_at : GoodIn wsX9_mayHoist (wsV RX9 111 RX9 yX9_at wsX9_at) := goodIn_app (goodIn_of _ (by decide +kernel)) ggX9_mayHoist_X9_at
set_option maxRecDepth 20000 in
theorem ggX9_mayHoist_X9_entryOf : GoodIn wsX9_mayHoist wsX9_entryOf := goodIn_r _ [10, 11, 12, 28, 29, 30, 31, 32, 33, 34, 35, 36, 37, 38, 39, 40] (by decide +kernel) (by decide +kernel)
set_option maxRecDepth 20000 in
theorem gX9_mayHoist_X9_entryOf : GoodIn wsX9_mayHoist (wsV RX9 157 RX9 yX9_entryOf wsX9_entryOf) := goodIn_app (goodIn_of _ (by decide +kernel)) ggX9_mayHoist_X9_entryOf
set_option maxRecDepth 20000 in
theorem ggX9_mayHoist_X9_has : GoodIn wsX9_mayHoist wsX9_has := goodIn_r _ [15] (by decide +kernel) (by decide +kernel)
set_option maxRecDepth 20000 in
theorem gX9_mayHoist_X9_has : GoodIn wsX9_mayHoist (va_wsS RX9 48 yX9_has wsX9_has) := goodIn_app (goodIn_of _ (by decide +kernel)) ggX9_mayHoist_X9_has
set_option maxRecDepth 20000 in
theorem ggX9_mayHoist_X9_doesCount : GoodIn wsX9_mayHoist wsX9_doesCount := goodIn_r _ [19, 20, 21, 22, 5, 23, 1, 2, 3, 4, 6, 28, 29, 30, 31, 32, 33, 34, 35, 36, 37, 38, 39, 40] (by decide +kernel) (by decide +kernel)
set_option maxRecDepth 20000 in
theorem gX9_mayHoist_X9_doesCount : GoodIn wsX9_mayHoist (wsV RX9 172 RX9 yX9_doesCount wsX9_doesCount) := goodIn_app (goodIn_of _ (by decide +kernel)) ggX9_mayHoist_X9_doesCount
set_option maxRecDepth 20000 in
theorem ggX9_mayHoist_X9_kindOf : GoodIn wsX9_mayHoist wsX9_kindOf := goodIn_r _ [23, 1, 2, 3, 4, 5, 6, 28, 29, 30, 31, 32, 33, 34, 35, 36, 37, 38, 39, 40] (by decide +kernel) (by decide +kernel)
set_option maxRecDepth 20000 in
theorem gX9_mayHoist_X9_kindOf : GoodIn wsX9_mayHoist (wsV RX9 169 RX9 yX9_kindOf wsX9_kindOf) := goodIn_app (goodIn_of _ (by decide +kernel)) ggX9_mayHoist_X9_kindOf
set_option maxRecDepth 20000 in
theorem ggX9_mayHoist_X9_turnOf : GoodIn wsX9_mayHoist wsX9_turnOf := goodIn_r _ [27, 13, 14, 5, 15, 7, 8, 9, 10, 11, 12, 28, 29, 30, 31, 32, 33, 34, 35, 36, 37, 38, 39, 40] (by decide +kernel) (by decide +kernel)
set_option maxRecDepth 20000 in
theorem gX9_mayHoist_X9_turnOf : GoodIn wsX9_mayHoist (wsV RX9 175 RX9 yX9_turnOf wsX9_turnOf) := goodIn_app (goodIn_of _ (by decide +kernel)) ggX9_mayHoist_X9_turnOf
theorem dX9_mayHoist_0 : decode cX9_mayHoist 0 = .ok (.aload_n 0, 1) := by decide +kernel
theorem dX9_mayHoist_1 : decode cX9_mayHoist 1 = .ok (.getfield 7, 3) := by decide +kernel
theorem dX9_mayHoist_4 : decode cX9_mayHoist 4 = .ok (.aload_n 0, 1) := by decide +kernel
theorem dX9_mayHoist_5 : decode cX9_mayHoist 5 = .ok (.iload_n 1, 1) := by decide +kernel
theorem dX9_mayHoist_6 : decode cX9_mayHoist 6 = .ok (.iconst 4, 1) := by decide +kernel
theorem dX9_mayHoist_7 : decode cX9_mayHoist 7 = .ok (.invokevirtual 111, 3) := by decide +kernel
theorem dX9_mayHoist_10 : decode cX9_mayHoist 10 = .ok (.iaload, 1) := by decide +kernel
theorem dX9_mayHoist_11 : decode cX9_mayHoist 11 = .ok (.istore_n 3, 1) := by decide +kernel
theorem dX9_mayHoist_12 : decode cX9_mayHoist 12 = .ok (.iconst 1, 1) := by decide +kernel
theorem dX9_mayHoist_13 : decode cX9_mayHoist 13 = .ok (.istore 4, 2) := by decide +kernel
theorem dX9_mayHoist_15 : decode cX9_mayHoist 15 = .ok (.iconst 0, 1) := by decide +kernel
theorem dX9_mayHoist_16 : decode cX9_mayHoist 16 = .ok (.istore 5, 2) := by decide +kernel
theorem dX9_mayHoist_18 : decode cX9_mayHoist 18 = .ok (.iload 5, 2) := by decide +kernel
theorem dX9_mayHoist_20 : decode cX9_mayHoist 20 = .ok (.iload_n 3, 1) := by decide +kernel
theorem dX9_mayHoist_21 : decode cX9_mayHoist 21 = .ok (.if_icmp .ge 239, 3) := by decide +kernel
theorem dX9_mayHoist_24 : decode cX9_mayHoist 24 = .ok (.aload_n 0, 1) := by decide +kernel
theorem dX9_mayHoist_25 : decode cX9_mayHoist 25 = .ok (.iload 5, 2) := by decide +kernel
theorem dX9_mayHoist_27 : decode cX9_mayHoist 27 = .ok (.invokevirtual 157, 3) := by decide +kernel
theorem dX9_mayHoist_30 : decode cX9_mayHoist 30 = .ok (.bipush (-9), 2) := by decide +kernel
theorem dX9_mayHoist_32 : decode cX9_mayHoist 32 = .ok (.if_icmp .ne 7, 3) := by decide +kernel
theorem dX9_mayHoist_35 : decode cX9_mayHoist 35 = .ok (.iconst 1, 1) := by decide +kernel
theorem dX9_mayHoist_36 : decode cX9_mayHoist 36 = .ok (.goto 4, 3) := by decide +kernel
theorem dX9_mayHoist_39 : decode cX9_mayHoist 39 = .ok (.iconst 0, 1) := by decide +kernel
theorem dX9_mayHoist_40 : decode cX9_mayHoist 40 = .ok (.istore 6, 2) := by decide +kernel
theorem dX9_mayHoist_42 : decode cX9_mayHoist 42 = .ok (.iload_n 2, 1) := by decide +kernel
theorem dX9_mayHoist_43 : decode cX9_mayHoist 43 = .ok (.iload 5, 2) := by decide +kernel
theorem dX9_mayHoist_45 : decode cX9_mayHoist 45 = .ok (.invokestatic 48, 3) := by decide +kernel
theorem dX9_mayHoist_48 : decode cX9_mayHoist 48 = .ok (.istore 7, 2) := by decide +kernel
theorem dX9_mayHoist_50 : decode cX9_mayHoist 50 = .ok (.iload 4, 2) := by decide +kernel
theorem dX9_mayHoist_52 : decode cX9_mayHoist 52 = .ok (.ifCond .eq 64, 3) := by decide +kernel
theorem dX9_mayHoist_55 : decode cX9_mayHoist 55 = .ok (.iload 7, 2) := by decide +kernel
theorem dX9_mayHoist_57 : decode cX9_mayHoist 57 = .ok (.ifCond .eq 13, 3) := by decide +kernel
theorem dX9_mayHoist_60 : decode cX9_mayHoist 60 = .ok (.aload_n 0, 1) := by decide +kernel
theorem dX9_mayHoist_61 : decode cX9_mayHoist 61 = .ok (.iload_n 1, 1) := by decide +kernel
theorem dX9_mayHoist_62 : decode cX9_mayHoist 62 = .ok (.iload 5, 2) := by decide +kernel
theorem dX9_mayHoist_64 : decode cX9_mayHoist 64 = .ok (.invokevirtual 172, 3) := by decide +kernel
theorem dX9_mayHoist_67 : decode cX9_mayHoist 67 = .ok (.ifCond .eq 49, 3) := by decide +kernel
theorem dX9_mayHoist_70 : decode cX9_mayHoist 70 = .ok (.aload_n 0, 1) := by decide +kernel
theorem dX9_mayHoist_71 : decode cX9_mayHoist 71 = .ok (.iload_n 1, 1) := by decide +kernel
theorem dX9_mayHoist_72 : decode cX9_mayHoist 72 = .ok (.iload 5, 2) := by decide +kernel
theorem dX9_mayHoist_74 : decode cX9_mayHoist 74 = .ok (.invokevirtual 169, 3) := by decide +kernel
theorem dX9_mayHoist_77 : decode cX9_mayHoist 77 = .ok (.iconst 2, 1) := by decide +kernel
theorem dX9_mayHoist_78 : decode cX9_mayHoist 78 = .ok (.if_icmp .ne 13, 3) := by decide +kernel
theorem dX9_mayHoist_81 : decode cX9_mayHoist 81 = .ok (.iload 6, 2) := by decide +kernel
theorem dX9_mayHoist_83 : decode cX9_mayHoist 83 = .ok (.ifCond .eq 8, 3) := by decide +kernel
theorem dX9_mayHoist_86 : decode cX9_mayHoist 86 = .ok (.iload 7, 2) := by decide +kernel
theorem dX9_mayHoist_88 : decode cX9_mayHoist 88 = .ok (.ifCond .eq 28, 3) := by decide +kernel
theorem dX9_mayHoist_91 : decode cX9_mayHoist 91 = .ok (.aload_n 0, 1) := by decide +kernel
theorem dX9_mayHoist_92 : decode cX9_mayHoist 92 = .ok (.iload_n 1, 1) := by decide +kernel
theorem dX9_mayHoist_93 : decode cX9_mayHoist 93 = .ok (.iload 5, 2) := by decide +kernel
theorem dX9_mayHoist_95 : decode cX9_mayHoist 95 = .ok (.invokevirtual 169, 3) := by decide +kernel
theorem dX9_mayHoist_98 : decode cX9_mayHoist 98 = .ok (.iconst 1, 1) := by decide +kernel
theorem dX9_mayHoist_99 : decode cX9_mayHoist 99 = .ok (.if_icmp .ne 13, 3) := by decide +kernel
theorem dX9_mayHoist_102 : decode cX9_mayHoist 102 = .ok (.iload 6, 2) := by decide +kernel
theorem dX9_mayHoist_104 : decode cX9_mayHoist 104 = .ok (.ifCond .eq 8, 3) := by decide +kernel
theorem dX9_mayHoist_107 : decode cX9_mayHoist 107 = .ok (.iload 7, 2) := by decide +kernel
theorem dX9_mayHoist_109 : decode cX9_mayHoist 109 = .ok (.ifCond .ne 7, 3) := by decide +kernel
theorem dX9_mayHoist_112 : decode cX9_mayHoist 112 = .ok (.iconst 1, 1) := by decide +kernel
theorem dX9_mayHoist_113 : decode cX9_mayHoist 113 = .ok (.goto 4, 3) := by decide +kernel
theorem dX9_mayHoist_116 : decode cX9_mayHoist 116 = .ok (.iconst 0, 1) := by decide +kernel
theorem dX9_mayHoist_117 : decode cX9_mayHoist 117 = .ok (.istore 4, 2) := by decide +kernel
theorem dX9_mayHoist_119 : decode cX9_mayHoist 119 = .ok (.iconst 0, 1) := by decide +kernel
theorem dX9_mayHoist_120 : decode cX9_mayHoist 120 = .ok (.istore 8, 2) := by decide +kernel
theorem dX9_mayHoist_122 : decode cX9_mayHoist 122 = .ok (.iload 8, 2) := by decide +kernel
theorem dX9_mayHoist_124 : decode cX9_mayHoist 124 = .ok (.iload 5, 2) := by decide +kernel
theorem dX9_mayHoist_126 : decode cX9_mayHoist 126 = .ok (.if_icmp .ge 128, 3) := by decide +kernel
theorem dX9_mayHoist_129 : decode cX9_mayHoist 129 = .ok (.aload_n 0, 1) := by decide +kernel
theorem dX9_mayHoist_130 : decode cX9_mayHoist 130 = .ok (.iload_n 1, 1) := by decide +kernel
theorem dX9_mayHoist_131 : decode cX9_mayHoist 131 = .ok (.iload 5, 2) := by decide +kernel
theorem dX9_mayHoist_133 : decode cX9_mayHoist 133 = .ok (.invokevirtual 172, 3) := by decide +kernel
theorem dX9_mayHoist_136 : decode cX9_mayHoist 136 = .ok (.ifCond .eq 39, 3) := by decide +kernel
theorem dX9_mayHoist_139 : decode cX9_mayHoist 139 = .ok (.aload_n 0, 1) := by decide +kernel
theorem dX9_mayHoist_140 : decode cX9_mayHoist 140 = .ok (.iload_n 1, 1) := by decide +kernel
theorem dX9_mayHoist_141 : decode cX9_mayHoist 141 = .ok (.iload 8, 2) := by decide +kernel
theorem dX9_mayHoist_143 : decode cX9_mayHoist 143 = .ok (.invokevirtual 172, 3) := by decide +kernel
theorem dX9_mayHoist_146 : decode cX9_mayHoist 146 = .ok (.ifCond .eq 29, 3) := by decide +kernel
theorem dX9_mayHoist_149 : decode cX9_mayHoist 149 = .ok (.aload_n 0, 1) := by decide +kernel
theorem dX9_mayHoist_150 : decode cX9_mayHoist 150 = .ok (.iload_n 1, 1) := by decide +kernel
theorem dX9_mayHoist_151 : decode cX9_mayHoist 151 = .ok (.iload 5, 2) := by decide +kernel
theorem dX9_mayHoist_153 : decode cX9_mayHoist 153 = .ok (.invokevirtual 169, 3) := by decide +kernel
theorem dX9_mayHoist_156 : decode cX9_mayHoist 156 = .ok (.iconst 2, 1) := by decide +kernel
theorem dX9_mayHoist_157 : decode cX9_mayHoist 157 = .ok (.if_icmp .eq 14, 3) := by decide +kernel
theorem dX9_mayHoist_160 : decode cX9_mayHoist 160 = .ok (.aload_n 0, 1) := by decide +kernel
theorem dX9_mayHoist_161 : decode cX9_mayHoist 161 = .ok (.iload_n 1, 1) := by decide +kernel
theorem dX9_mayHoist_162 : decode cX9_mayHoist 162 = .ok (.iload 8, 2) := by decide +kernel
theorem dX9_mayHoist_164 : decode cX9_mayHoist 164 = .ok (.invokevirtual 169, 3) := by decide +kernel
theorem dX9_mayHoist_167 : decode cX9_mayHoist 167 = .ok (.iconst 2, 1) := by decide +kernel
theorem dX9_mayHoist_168 : decode cX9_mayHoist 168 = .ok (.if_icmp .ne 7, 3) := by decide +kernel
theorem dX9_mayHoist_171 : decode cX9_mayHoist 171 = .ok (.iconst 1, 1) := by decide +kernel
theorem dX9_mayHoist_172 : decode cX9_mayHoist 172 = .ok (.goto 4, 3) := by decide +kernel
theorem dX9_mayHoist_175 : decode cX9_mayHoist 175 = .ok (.iconst 0, 1) := by decide +kernel
theorem dX9_mayHoist_176 : decode cX9_mayHoist 176 = .ok (.istore 9, 2) := by decide +kernel
theorem dX9_mayHoist_178 : decode cX9_mayHoist 178 = .ok (.aload_n 0, 1) := by decide +kernel
theorem dX9_mayHoist_179 : decode cX9_mayHoist 179 = .ok (.iload 5, 2) := by decide +kernel
theorem dX9_mayHoist_181 : decode cX9_mayHoist 181 = .ok (.iload_n 2, 1) := by decide +kernel
theorem dX9_mayHoist_182 : decode cX9_mayHoist 182 = .ok (.invokevirtual 175, 3) := by decide +kernel
theorem dX9_mayHoist_185 : decode cX9_mayHoist 185 = .ok (.bipush (-9), 2) := by decide +kernel
theorem dX9_mayHoist_187 : decode cX9_mayHoist 187 = .ok (.if_icmp .eq 19, 3) := by decide +kernel
theorem dX9_mayHoist_190 : decode cX9_mayHoist 190 = .ok (.aload_n 0, 1) := by decide +kernel
theorem dX9_mayHoist_191 : decode cX9_mayHoist 191 = .ok (.iload 8, 2) := by decide +kernel
theorem dX9_mayHoist_193 : decode cX9_mayHoist 193 = .ok (.iload_n 2, 1) := by decide +kernel
theorem dX9_mayHoist_194 : decode cX9_mayHoist 194 = .ok (.invokevirtual 175, 3) := by decide +kernel
theorem dX9_mayHoist_197 : decode cX9_mayHoist 197 = .ok (.bipush (-9), 2) := by decide +kernel
theorem dX9_mayHoist_199 : decode cX9_mayHoist 199 = .ok (.if_icmp .eq 7, 3) := by decide +kernel
theorem dX9_mayHoist_202 : decode cX9_mayHoist 202 = .ok (.iconst 1, 1) := by decide +kernel
theorem dX9_mayHoist_203 : decode cX9_mayHoist 203 = .ok (.goto 4, 3) := by decide +kernel
theorem dX9_mayHoist_206 : decode cX9_mayHoist 206 = .ok (.iconst 0, 1) := by decide +kernel
theorem dX9_mayHoist_207 : decode cX9_mayHoist 207 = .ok (.istore 10, 2) := by decide +kernel
theorem dX9_mayHoist_209 : decode cX9_mayHoist 209 = .ok (.iload 4, 2) := by decide +kernel
theorem dX9_mayHoist_211 : decode cX9_mayHoist 211 = .ok (.ifCond .eq 34, 3) := by decide +kernel
theorem dX9_mayHoist_214 : decode cX9_mayHoist 214 = .ok (.iload 9, 2) := by decide +kernel
theorem dX9_mayHoist_216 : decode cX9_mayHoist 216 = .ok (.ifCond .eq 25, 3) := by decide +kernel
theorem dX9_mayHoist_219 : decode cX9_mayHoist 219 = .ok (.iload 10, 2) := by decide +kernel
theorem dX9_mayHoist_221 : decode cX9_mayHoist 221 = .ok (.ifCond .eq 20, 3) := by decide +kernel
theorem dX9_mayHoist_224 : decode cX9_mayHoist 224 = .ok (.aload_n 0, 1) := by decide +kernel
theorem dX9_mayHoist_225 : decode cX9_mayHoist 225 = .ok (.iload 8, 2) := by decide +kernel
theorem dX9_mayHoist_227 : decode cX9_mayHoist 227 = .ok (.iload_n 2, 1) := by decide +kernel
theorem dX9_mayHoist_228 : decode cX9_mayHoist 228 = .ok (.invokevirtual 175, 3) := by decide +kernel
theorem dX9_mayHoist_231 : decode cX9_mayHoist 231 = .ok (.aload_n 0, 1) := by decide +kernel
theorem dX9_mayHoist_232 : decode cX9_mayHoist 232 = .ok (.iload 5, 2) := by decide +kernel
theorem dX9_mayHoist_234 : decode cX9_mayHoist 234 = .ok (.iload_n 2, 1) := by decide +kernel
theorem dX9_mayHoist_235 : decode cX9_mayHoist 235 = .ok (.invokevirtual 175, 3) := by decide +kernel
theorem dX9_mayHoist_238 : decode cX9_mayHoist 238 = .ok (.if_icmp .ge 7, 3) := by decide +kernel
theorem dX9_mayHoist_241 : decode cX9_mayHoist 241 = .ok (.iconst 1, 1) := by decide +kernel
theorem dX9_mayHoist_242 : decode cX9_mayHoist 242 = .ok (.goto 4, 3) := by decide +kernel
theorem dX9_mayHoist_245 : decode cX9_mayHoist 245 = .ok (.iconst 0, 1) := by decide +kernel
theorem dX9_mayHoist_246 : decode cX9_mayHoist 246 = .ok (.istore 4, 2) := by decide +kernel
theorem dX9_mayHoist_248 : decode cX9_mayHoist 248 = .ok (.iinc 8 1, 3) := by decide +kernel
theorem dX9_mayHoist_251 : decode cX9_mayHoist 251 = .ok (.goto (-129), 3) := by decide +kernel
theorem dX9_mayHoist_254 : decode cX9_mayHoist 254 = .ok (.iinc 5 1, 3) := by decide +kernel
theorem dX9_mayHoist_257 : decode cX9_mayHoist 257 = .ok (.goto (-239), 3) := by decide +kernel
theorem dX9_mayHoist_260 : decode cX9_mayHoist 260 = .ok (.iload 4, 2) := by decide +kernel
theorem dX9_mayHoist_262 : decode cX9_mayHoist 262 = .ok (.ireturn, 1) := by decide +kernel
set_option maxRecDepth 20000 in
theorem ggX9_hoistedOf_X9_at : GoodIn wsX9_hoistedOf wsX9_at := goodIn_r _ [6] (by decide +kernel) (by decide +kernel)
set_option maxRecDepth 20000 in
theorem gX9_hoistedOf_X9_at : GoodIn wsX9_hoistedOf (wsV RX9 111 RX9 yX9_at wsX9_at) := goodIn_app (goodIn_of _ (by decide +kernel)) ggX9_hoistedOf_X9_at
set_option maxRecDepth 20000 in
theorem ggX9_hoistedOf_X9_ones : GoodIn wsX9_hoistedOf wsX9_ones := goodIn_r _ [9] (by decide +kernel) (by decide +kernel)
set_option maxRecDepth 20000 in
theorem gX9_hoistedOf_X9_ones : GoodIn wsX9_hoistedOf (va_wsS RX9 154 yX9_ones wsX9_ones) := goodIn_app (goodIn_of _ (by decide +kernel)) ggX9_hoistedOf_X9_ones
set_option maxRecDepth 20000 in
theorem ggX9_hoistedOf_X9_mayHoist : GoodIn wsX9_hoistedOf wsX9_mayHoist := goodIn_r _ [13, 1, 2, 3, 4, 5, 6, 14, 15, 16, 17, 18, 19, 20, 21, 22, 23, 24, 25, 26, 27, 28, 29, 30, 31, 32, 33, 34, 35, 36, 37, 38, 39, 40, 41, 42, 43, 44, 45, 46, 47] (by decide +kernel) (by decide +kernel)
set_option maxRecDepth 20000 in
theorem gX9_hoistedOf_X9_mayHoist : GoodIn wsX9_hoistedOf (wsV RX9 178 RX9 yX9_mayHoist wsX9_mayHoist) := goodIn_app (goodIn_of _ (by decide +kernel)) ggX9_hoistedOf_X9_mayHoist
theorem dX9_hoistedOf_0 : decode cX9_hoistedOf 0 = .ok (.bipush (-9), 2) := by decide +kernel
theorem dX9_hoistedOf_2 : decode cX9_hoistedOf 2 = .ok (.istore_n 2, 1) := by decide +kernel
theorem dX9_hoistedOf_3 : decode cX9_hoistedOf 3 = .ok (.iconst 0, 1) := by decide +kernel
theorem dX9_hoistedOf_4 : decode cX9_hoistedOf 4 = .ok (.istore_n 3, 1) := by decide +kernel
theorem dX9_hoistedOf_5 : decode cX9_hoistedOf 5 = .ok (.iload_n 3, 1) := by decide +kernel
theorem dX9_hoistedOf_6 : decode cX9_hoistedOf 6 = .ok (.iconst 1, 1) := by decide +kernel
theorem dX9_hoistedOf_7 : decode cX9_hoistedOf 7 = .ok (.aload_n 0, 1) := by decide +kernel
theorem dX9_hoistedOf_8 : decode cX9_hoistedOf 8 = .ok (.getfield 7, 3) := by decide +kernel
theorem dX9_hoistedOf_11 : decode cX9_hoistedOf 11 = .ok (.aload_n 0, 1) := by decide +kernel
theorem dX9_hoistedOf_12 : decode cX9_hoistedOf 12 = .ok (.iload_n 1, 1) := by decide +kernel
theorem dX9_hoistedOf_13 : decode cX9_hoistedOf 13 = .ok (.iconst 4, 1) := by decide +kernel
theorem dX9_hoistedOf_14 : decode cX9_hoistedOf 14 = .ok (.invokevirtual 111, 3) := by decide +kernel
theorem dX9_hoistedOf_17 : decode cX9_hoistedOf 17 = .ok (.iaload, 1) := by decide +kernel
theorem dX9_hoistedOf_18 : decode cX9_hoistedOf 18 = .ok (.ishl, 1) := by decide +kernel
theorem dX9_hoistedOf_19 : decode cX9_hoistedOf 19 = .ok (.if_icmp .ge 53, 3) := by decide +kernel
theorem dX9_hoistedOf_22 : decode cX9_hoistedOf 22 = .ok (.iload_n 2, 1) := by decide +kernel
theorem dX9_hoistedOf_23 : decode cX9_hoistedOf 23 = .ok (.bipush (-9), 2) := by decide +kernel
theorem dX9_hoistedOf_25 : decode cX9_hoistedOf 25 = .ok (.if_icmp .eq 14, 3) := by decide +kernel
theorem dX9_hoistedOf_28 : decode cX9_hoistedOf 28 = .ok (.iload_n 3, 1) := by decide +kernel
theorem dX9_hoistedOf_29 : decode cX9_hoistedOf 29 = .ok (.invokestatic 154, 3) := by decide +kernel
theorem dX9_hoistedOf_32 : decode cX9_hoistedOf 32 = .ok (.iload_n 2, 1) := by decide +kernel
theorem dX9_hoistedOf_33 : decode cX9_hoistedOf 33 = .ok (.invokestatic 154, 3) := by decide +kernel
theorem dX9_hoistedOf_36 : decode cX9_hoistedOf 36 = .ok (.if_icmp .ge 7, 3) := by decide +kernel
theorem dX9_hoistedOf_39 : decode cX9_hoistedOf 39 = .ok (.iconst 1, 1) := by decide +kernel
theorem dX9_hoistedOf_40 : decode cX9_hoistedOf 40 = .ok (.goto 4, 3) := by decide +kernel
theorem dX9_hoistedOf_43 : decode cX9_hoistedOf 43 = .ok (.iconst 0, 1) := by decide +kernel
theorem dX9_hoistedOf_44 : decode cX9_hoistedOf 44 = .ok (.istore 4, 2) := by decide +kernel
theorem dX9_hoistedOf_46 : decode cX9_hoistedOf 46 = .ok (.iload 4, 2) := by decide +kernel
theorem dX9_hoistedOf_48 : decode cX9_hoistedOf 48 = .ok (.ifCond .eq 16, 3) := by decide +kernel
theorem dX9_hoistedOf_51 : decode cX9_hoistedOf 51 = .ok (.aload_n 0, 1) := by decide +kernel
theorem dX9_hoistedOf_52 : decode cX9_hoistedOf 52 = .ok (.iload_n 1, 1) := by decide +kernel
theorem dX9_hoistedOf_53 : decode cX9_hoistedOf 53 = .ok (.iload_n 3, 1) := by decide +kernel
theorem dX9_hoistedOf_54 : decode cX9_hoistedOf 54 = .ok (.invokevirtual 178, 3) := by decide +kernel
theorem dX9_hoistedOf_57 : decode cX9_hoistedOf 57 = .ok (.ifCond .eq 7, 3) := by decide +kernel
theorem dX9_hoistedOf_60 : decode cX9_hoistedOf 60 = .ok (.iload_n 3, 1) := by decide +kernel
theorem dX9_hoistedOf_61 : decode cX9_hoistedOf 61 = .ok (.goto 4, 3) := by decide +kernel
theorem dX9_hoistedOf_64 : decode cX9_hoistedOf 64 = .ok (.iload_n 2, 1) := by decide +kernel
theorem dX9_hoistedOf_65 : decode cX9_hoistedOf 65 = .ok (.istore_n 2, 1) := by decide +kernel
theorem dX9_hoistedOf_66 : decode cX9_hoistedOf 66 = .ok (.iinc 3 1, 3) := by decide +kernel
theorem dX9_hoistedOf_69 : decode cX9_hoistedOf 69 = .ok (.goto (-64), 3) := by decide +kernel
theorem dX9_hoistedOf_72 : decode cX9_hoistedOf 72 = .ok (.iload_n 2, 1) := by decide +kernel
theorem dX9_hoistedOf_73 : decode cX9_hoistedOf 73 = .ok (.ireturn, 1) := by decide +kernel
set_option maxRecDepth 20000 in
theorem ggX9_hoistedArguments_X9_isCall : GoodIn wsX9_hoistedArguments wsX9_isCall := goodIn_r _ [6, 7, 8, 9, 5, 10, 83, 84, 85, 86, 87, 88, 89, 90, 91, 92, 93, 94, 95] (by decide +kernel) (by decide +kernel)
set_option maxRecDepth 20000 in
theorem gX9_hoistedArguments_X9_isCall : GoodIn wsX9_hoistedArguments (wsV RX9 117 RX9 yX9_isCall wsX9_isCall) := goodIn_app (goodIn_of _ (by decide +kernel)) ggX9_hoistedArguments_X9_isCall
set_option maxRecDepth 20000 in
theorem ggX9_hoistedArguments_X9_isFrozen : GoodIn wsX9_hoistedArguments wsX9_isFrozen := goodIn_r _ [14, 7, 15, 16, 17, 5, 18, 83, 84, 85, 86, 87, 88, 89, 90, 91, 92, 93, 94, 95] (by decide +kernel) (by decide +kernel)
set_option maxRecDepth 20000 in
theorem gX9_hoistedArguments_X9_isFrozen : GoodIn wsX9_hoistedArguments (wsV RX9 123 RX9 yX9_isFrozen wsX9_isFrozen) := goodIn_app (goodIn_of _ (by decide +kernel)) ggX9_hoistedArguments_X9_isFrozen
set_option maxRecDepth 20000 in
theorem ggX9_hoistedArguments_X9_isConcerned : GoodIn wsX9_hoistedArguments wsX9_isConcerned := goodIn_r _ [22, 1, 7, 23, 24, 25, 5, 26, 27, 28, 29, 30, 31, 32, 33, 34, 35, 36, 37, 38, 39, 40, 41, 42, 43, 44, 45, 46, 47, 48, 49, 50, 51, 52, 53, 15, 16, 17, 18, 83, 84, 85, 86, 87, 88, 89, 90, 91, 92, 93, 94, 95] (by decide +kernel) (by decide +kernel)
set_option maxRecDepth 20000 in
theorem gX9_hoistedArguments_X9_isConcerned : GoodIn wsX9_hoistedArguments (wsV RX9 181 RX9 yX9_isConcerned wsX9_isConcerned) := goodIn_app (goodIn_of _ (by decide +kernel)) ggX9_hoistedArguments_X9_isConcerned
set_option maxRecDepth 20000 in
theorem ggX9_hoistedArguments_X9_hoistedOf : GoodIn wsX9_hoistedArguments wsX9_hoistedOf := goodIn_r _ [57, 7, 15, 16, 17, 5, 18, 58, 59, 60, 61, 62, 63, 64, 65, 66, 67, 68, 69, 70, 27, 28, 29, 71, 72, 73, 74, 75, 76, 77, 78, 79, 80, 81, 82, 83, 84, 85, 86, 87, 88, 89, 90, 91, 92, 93, 94, 95] (by decide +kernel) (by decide +kernel)
set_option maxRecDepth 20000 in
theorem gX9_hoistedArguments_X9_hoistedOf : GoodIn wsX9_hoistedArguments (wsV RX9 184 RX9 yX9_hoistedOf wsX9_hoistedOf) := goodIn_app (goodIn_of _ (by decide +kernel)) ggX9_hoistedArguments_X9_hoistedOf
theorem dX9_hoistedArguments_0 : decode cX9_hoistedArguments 0 = .ok (.aload_n 0, 1) := by decide +kernel
theorem dX9_hoistedArguments_1 : decode cX9_hoistedArguments 1 = .ok (.iload_n 1, 1) := by decide +kernel
theorem dX9_hoistedArguments_2 : decode cX9_hoistedArguments 2 = .ok (.invokevirtual 117, 3) := by decide +kernel
theorem dX9_hoistedArguments_5 : decode cX9_hoistedArguments 5 = .ok (.ifCond .ne 5, 3) := by decide +kernel
theorem dX9_hoistedArguments_8 : decode cX9_hoistedArguments 8 = .ok (.iconst (-1), 1) := by decide +kernel
theorem dX9_hoistedArguments_9 : decode cX9_hoistedArguments 9 = .ok (.ireturn, 1) := by decide +kernel
theorem dX9_hoistedArguments_10 : decode cX9_hoistedArguments 10 = .ok (.aload_n 0, 1) := by decide +kernel
theorem dX9_hoistedArguments_11 : decode cX9_hoistedArguments 11 = .ok (.getfield 16, 3) := by decide +kernel
theorem dX9_hoistedArguments_14 : decode cX9_hoistedArguments 14 = .ok (.bipush (-9), 2) := by decide +kernel
theorem dX9_hoistedArguments_16 : decode cX9_hoistedArguments 16 = .ok (.if_icmp .ne 6, 3) := by decide +kernel
theorem dX9_hoistedArguments_19 : decode cX9_hoistedArguments 19 = .ok (.bipush (-2), 2) := by decide +kernel
theorem dX9_hoistedArguments_21 : decode cX9_hoistedArguments 21 = .ok (.ireturn, 1) := by decide +kernel
theorem dX9_hoistedArguments_22 : decode cX9_hoistedArguments 22 = .ok (.aload_n 0, 1) := by decide +kernel
theorem dX9_hoistedArguments_23 : decode cX9_hoistedArguments 23 = .ok (.iload_n 1, 1) := by decide +kernel
theorem dX9_hoistedArguments_24 : decode cX9_hoistedArguments 24 = .ok (.invokevirtual 123, 3) := by decide +kernel
theorem dX9_hoistedArguments_27 : decode cX9_hoistedArguments 27 = .ok (.ifCond .ne 11, 3) := by decide +kernel
theorem dX9_hoistedArguments_30 : decode cX9_hoistedArguments 30 = .ok (.aload_n 0, 1) := by decide +kernel
theorem dX9_hoistedArguments_31 : decode cX9_hoistedArguments 31 = .ok (.iload_n 1, 1) := by decide +kernel
theorem dX9_hoistedArguments_32 : decode cX9_hoistedArguments 32 = .ok (.invokevirtual 181, 3) := by decide +kernel
theorem dX9_hoistedArguments_35 : decode cX9_hoistedArguments 35 = .ok (.ifCond .ne 7, 3) := by decide +kernel
theorem dX9_hoistedArguments_38 : decode cX9_hoistedArguments 38 = .ok (.iconst 0, 1) := by decide +kernel
theorem dX9_hoistedArguments_39 : decode cX9_hoistedArguments 39 = .ok (.goto 8, 3) := by decide +kernel
theorem dX9_hoistedArguments_42 : decode cX9_hoistedArguments 42 = .ok (.aload_n 0, 1) := by decide +kernel
theorem dX9_hoistedArguments_43 : decode cX9_hoistedArguments 43 = .ok (.iload_n 1, 1) := by decide +kernel
theorem dX9_hoistedArguments_44 : decode cX9_hoistedArguments 44 = .ok (.invokevirtual 184, 3) := by decide +kernel
theorem dX9_hoistedArguments_47 : decode cX9_hoistedArguments 47 = .ok (.ireturn, 1) := by decide +kernel
set_option maxRecDepth 20000 in
theorem ggX9_isServed_X9_at : GoodIn wsX9_isServed wsX9_at := goodIn_r _ [6] (by decide +kernel) (by decide +kernel)
set_option maxRecDepth 20000 in
theorem gX9_isServed_X9_at : GoodIn wsX9_isServed (wsV RX9 111 RX9 yX9_at wsX9_at) := goodIn_app (goodIn_of _ (by decide +kernel)) ggX9_isServed_X9_at
set_option maxRecDepth 20000 in
theorem ggX9_isServed_X9_supers : GoodIn wsX9_isServed wsX9_supers := goodIn_r _ [10, 11, 12, 13, 5, 14, 1, 15, 16, 17, 18, 19, 20, 21, 22, 23, 24, 25, 26, 27, 28, 29, 30] (by decide +kernel) (by decide +kernel)
set_option maxRecDepth 20000 in
theorem gX9_isServed_X9_supers : GoodIn wsX9_isServed (wsV RX9 56 RX9 yX9_supers wsX9_supers) := goodIn_app (goodIn_of _ (by decide +kernel)) ggX9_isServed_X9_supers
theorem dX9_isServed_0 : decode cX9_isServed 0 = .ok (.aload_n 0, 1) := by decide +kernel
theorem dX9_isServed_1 : decode cX9_isServed 1 = .ok (.aload_n 0, 1) := by decide +kernel
theorem dX9_isServed_2 : decode cX9_isServed 2 = .ok (.getfield 7, 3) := by decide +kernel
theorem dX9_isServed_5 : decode cX9_isServed 5 = .ok (.aload_n 0, 1) := by decide +kernel
theorem dX9_isServed_6 : decode cX9_isServed 6 = .ok (.iload_n 1, 1) := by decide +kernel
theorem dX9_isServed_7 : decode cX9_isServed 7 = .ok (.iconst 0, 1) := by decide +kernel
theorem dX9_isServed_8 : decode cX9_isServed 8 = .ok (.invokevirtual 111, 3) := by decide +kernel
theorem dX9_isServed_11 : decode cX9_isServed 11 = .ok (.iaload, 1) := by decide +kernel
theorem dX9_isServed_12 : decode cX9_isServed 12 = .ok (.invokevirtual 56, 3) := by decide +kernel
theorem dX9_isServed_15 : decode cX9_isServed 15 = .ok (.iload_n 2, 1) := by decide +kernel
theorem dX9_isServed_16 : decode cX9_isServed 16 = .ok (.iand, 1) := by decide +kernel
theorem dX9_isServed_17 : decode cX9_isServed 17 = .ok (.ifCond .eq 7, 3) := by decide +kernel
theorem dX9_isServed_20 : decode cX9_isServed 20 = .ok (.iconst 1, 1) := by decide +kernel
theorem dX9_isServed_21 : decode cX9_isServed 21 = .ok (.goto 4, 3) := by decide +kernel
theorem dX9_isServed_24 : decode cX9_isServed 24 = .ok (.iconst 0, 1) := by decide +kernel
theorem dX9_isServed_25 : decode cX9_isServed 25 = .ok (.ireturn, 1) := by decide +kernel
set_option maxRecDepth 20000 in
theorem ggX9_areSufficient_X9_isFrozen : GoodIn wsX9_areSufficient wsX9_isFrozen := goodIn_r _ [6, 1, 7, 8, 9, 5, 10, 51, 52, 53, 54, 55, 56, 57, 58, 59, 60, 61, 62, 63] (by decide +kernel) (by decide +kernel)
set_option maxRecDepth 20000 in
theorem gX9_areSufficient_X9_isFrozen : GoodIn wsX9_areSufficient (wsV RX9 123 RX9 yX9_isFrozen wsX9_isFrozen) := goodIn_app (goodIn_of _ (by decide +kernel)) ggX9_areSufficient_X9_isFrozen
set_option maxRecDepth 20000 in
theorem ggX9_areSufficient_X9_isConcerned : GoodIn wsX9_areSufficient wsX9_isConcerned := goodIn_r _ [14, 15, 1, 16, 17, 18, 5, 19, 20, 21, 22, 23, 24, 25, 26, 27, 28, 29, 30, 31, 32, 33, 34, 35, 36, 37, 38, 39, 40, 41, 42, 43, 44, 45, 46, 7, 8, 9, 10, 51, 52, 53, 54, 55, 56, 57, 58, 59, 60, 61, 62, 63] (by decide +kernel) (by decide +kernel)
set_option maxRecDepth 20000 in
theorem gX9_areSufficient_X9_isConcerned : GoodIn wsX9_areSufficient (wsV RX9 181 RX9 yX9_isConcerned wsX9_isConcerned) := goodIn_app (goodIn_of _ (by decide +kernel)) ggX9_areSufficient_X9_isConcerned
set_option maxRecDepth 20000 in
theorem ggX9_areSufficient_X9_isServed : GoodIn wsX9_areSufficient wsX9_isServed := goodIn_r _ [50, 1, 7, 8, 9, 5, 10, 39, 40, 41, 42, 43, 44, 45, 46, 20, 21, 22, 51, 52, 53, 54, 55, 56, 57, 58, 59, 60, 61, 62, 63] (by decide +kernel) (by decide +kernel)
set_option maxRecDepth 20000 in
theorem gX9_areSufficient_X9_isServed : GoodIn wsX9_areSufficient (wsV RX9 187 RX9 yX9_isServed wsX9_isServed) := goodIn_app (goodIn_of _ (by decide +kernel)) ggX9_areSufficient_X9_isServed
theorem dX9_areSufficient_0 : decode cX9_areSufficient 0 = .ok (.iconst 1, 1) := by decide +kernel
theorem dX9_areSufficient_1 : decode cX9_areSufficient 1 = .ok (.istore_n 2, 1) := by decide +kernel
theorem dX9_areSufficient_2 : decode cX9_areSufficient 2 = .ok (.iconst 0, 1) := by decide +kernel
theorem dX9_areSufficient_3 : decode cX9_areSufficient 3 = .ok (.istore_n 3, 1) := by decide +kernel
theorem dX9_areSufficient_4 : decode cX9_areSufficient 4 = .ok (.iload_n 3, 1) := by decide +kernel
theorem dX9_areSufficient_5 : decode cX9_areSufficient 5 = .ok (.aload_n 0, 1) := by decide +kernel
theorem dX9_areSufficient_6 : decode cX9_areSufficient 6 = .ok (.getfield 7, 3) := by decide +kernel
theorem dX9_areSufficient_9 : decode cX9_areSufficient 9 = .ok (.sipush 234, 3) := by decide +kernel
theorem dX9_areSufficient_12 : decode cX9_areSufficient 12 = .ok (.iaload, 1) := by decide +kernel
theorem dX9_areSufficient_13 : decode cX9_areSufficient 13 = .ok (.if_icmp .ge 44, 3) := by decide +kernel
theorem dX9_areSufficient_16 : decode cX9_areSufficient 16 = .ok (.iload_n 2, 1) := by decide +kernel
theorem dX9_areSufficient_17 : decode cX9_areSufficient 17 = .ok (.ifCond .eq 32, 3) := by decide +kernel
theorem dX9_areSufficient_20 : decode cX9_areSufficient 20 = .ok (.aload_n 0, 1) := by decide +kernel
theorem dX9_areSufficient_21 : decode cX9_areSufficient 21 = .ok (.iload_n 3, 1) := by decide +kernel
theorem dX9_areSufficient_22 : decode cX9_areSufficient 22 = .ok (.invokevirtual 123, 3) := by decide +kernel
theorem dX9_areSufficient_25 : decode cX9_areSufficient 25 = .ok (.ifCond .eq 20, 3) := by decide +kernel
theorem dX9_areSufficient_28 : decode cX9_areSufficient 28 = .ok (.aload_n 0, 1) := by decide +kernel
theorem dX9_areSufficient_29 : decode cX9_areSufficient 29 = .ok (.iload_n 3, 1) := by decide +kernel
theorem dX9_areSufficient_30 : decode cX9_areSufficient 30 = .ok (.invokevirtual 181, 3) := by decide +kernel
theorem dX9_areSufficient_33 : decode cX9_areSufficient 33 = .ok (.ifCond .eq 12, 3) := by decide +kernel
theorem dX9_areSufficient_36 : decode cX9_areSufficient 36 = .ok (.aload_n 0, 1) := by decide +kernel
theorem dX9_areSufficient_37 : decode cX9_areSufficient 37 = .ok (.iload_n 3, 1) := by decide +kernel
theorem dX9_areSufficient_38 : decode cX9_areSufficient 38 = .ok (.iload_n 1, 1) := by decide +kernel
theorem dX9_areSufficient_39 : decode cX9_areSufficient 39 = .ok (.invokevirtual 187, 3) := by decide +kernel
theorem dX9_areSufficient_42 : decode cX9_areSufficient 42 = .ok (.ifCond .eq 7, 3) := by decide +kernel
theorem dX9_areSufficient_45 : decode cX9_areSufficient 45 = .ok (.iconst 1, 1) := by decide +kernel
theorem dX9_areSufficient_46 : decode cX9_areSufficient 46 = .ok (.goto 4, 3) := by decide +kernel
theorem dX9_areSufficient_49 : decode cX9_areSufficient 49 = .ok (.iconst 0, 1) := by decide +kernel
theorem dX9_areSufficient_50 : decode cX9_areSufficient 50 = .ok (.istore_n 2, 1) := by decide +kernel
theorem dX9_areSufficient_51 : decode cX9_areSufficient 51 = .ok (.iinc 3 1, 3) := by decide +kernel
theorem dX9_areSufficient_54 : decode cX9_areSufficient 54 = .ok (.goto (-50), 3) := by decide +kernel
theorem dX9_areSufficient_57 : decode cX9_areSufficient 57 = .ok (.iload_n 2, 1) := by decide +kernel
theorem dX9_areSufficient_58 : decode cX9_areSufficient 58 = .ok (.ireturn, 1) := by decide +kernel
set_option maxRecDepth 20000 in
theorem ggX9_declaringTypes_X9_familyOf : GoodIn wsX9_declaringTypes wsX9_familyOf := goodIn_r _ [7, 2, 8, 9, 6, 10, 11, 12, 13, 14, 15, 16, 17, 18, 19, 20, 21, 22, 23, 24, 25, 26, 27, 28, 29, 30, 31, 32, 33, 34, 35, 36, 37, 38, 39, 40, 41, 42, 43, 44, 45, 46, 47] (by decide +kernel) (by decide +kernel)
set_option maxRecDepth 20000 in
theorem gX9_declaringTypes_X9_familyOf : GoodIn wsX9_declaringTypes (wsV RX9 108 RX9 yX9_familyOf wsX9_familyOf) := goodIn_app (goodIn_of _ (by decide +kernel)) ggX9_declaringTypes_X9_familyOf
set_option maxRecDepth 20000 in
theorem ggX9_declaringTypes_X9_has : GoodIn wsX9_declaringTypes wsX9_has := goodIn_r _ [10] (by decide +kernel) (by decide +kernel)
set_option maxRecDepth 20000 in
theorem gX9_declaringTypes_X9_has : GoodIn wsX9_declaringTypes (va_wsS RX9 48 yX9_has wsX9_has) := goodIn_app (goodIn_of _ (by decide +kernel)) ggX9_declaringTypes_X9_has
set_option maxRecDepth 20000 in
theorem ggX9_declaringTypes_X9_of : GoodIn wsX9_declaringTypes wsX9_of := goodIn_r _ [14, 2, 35, 36, 37, 38, 39, 40, 41, 42, 43, 44, 45, 46, 47] (by decide +kernel) (by decide +kernel)
set_option maxRecDepth 20000 in
theorem gX9_declaringTypes_X9_of : GoodIn wsX9_declaringTypes (wsV RX9 63 RX9 yX9_of wsX9_of) := goodIn_app (goodIn_of _ (by decide +kernel)) ggX9_declaringTypes_X9_of
theorem dX9_declaringTypes_0 : decode cX9_declaringTypes 0 = .ok (.aload_n 0, 1) := by decide +kernel
theorem dX9_declaringTypes_1 : decode cX9_declaringTypes 1 = .ok (.aload_n 0, 1) := by decide +kernel
theorem dX9_declaringTypes_2 : decode cX9_declaringTypes 2 = .ok (.getfield 16, 3) := by decide +kernel
theorem dX9_declaringTypes_5 : decode cX9_declaringTypes 5 = .ok (.invokevirtual 108, 3) := by decide +kernel
theorem dX9_declaringTypes_8 : decode cX9_declaringTypes 8 = .ok (.istore_n 1, 1) := by decide +kernel
theorem dX9_declaringTypes_9 : decode cX9_declaringTypes 9 = .ok (.iconst 0, 1) := by decide +kernel
theorem dX9_declaringTypes_10 : decode cX9_declaringTypes 10 = .ok (.istore_n 2, 1) := by decide +kernel
theorem dX9_declaringTypes_11 : decode cX9_declaringTypes 11 = .ok (.iconst 0, 1) := by decide +kernel
theorem dX9_declaringTypes_12 : decode cX9_declaringTypes 12 = .ok (.istore_n 3, 1) := by decide +kernel
theorem dX9_declaringTypes_13 : decode cX9_declaringTypes 13 = .ok (.iload_n 3, 1) := by decide +kernel
theorem dX9_declaringTypes_14 : decode cX9_declaringTypes 14 = .ok (.aload_n 0, 1) := by decide +kernel
theorem dX9_declaringTypes_15 : decode cX9_declaringTypes 15 = .ok (.getfield 7, 3) := by decide +kernel
theorem dX9_declaringTypes_18 : decode cX9_declaringTypes 18 = .ok (.bipush 25, 2) := by decide +kernel
theorem dX9_declaringTypes_20 : decode cX9_declaringTypes 20 = .ok (.iaload, 1) := by decide +kernel
theorem dX9_declaringTypes_21 : decode cX9_declaringTypes 21 = .ok (.if_icmp .ge 32, 3) := by decide +kernel
theorem dX9_declaringTypes_24 : decode cX9_declaringTypes 24 = .ok (.iload_n 2, 1) := by decide +kernel
theorem dX9_declaringTypes_25 : decode cX9_declaringTypes 25 = .ok (.iload_n 1, 1) := by decide +kernel
theorem dX9_declaringTypes_26 : decode cX9_declaringTypes 26 = .ok (.iload_n 3, 1) := by decide +kernel
theorem dX9_declaringTypes_27 : decode cX9_declaringTypes 27 = .ok (.invokestatic 48, 3) := by decide +kernel
theorem dX9_declaringTypes_30 : decode cX9_declaringTypes 30 = .ok (.ifCond .eq 14, 3) := by decide +kernel
theorem dX9_declaringTypes_33 : decode cX9_declaringTypes 33 = .ok (.iconst 1, 1) := by decide +kernel
theorem dX9_declaringTypes_34 : decode cX9_declaringTypes 34 = .ok (.aload_n 0, 1) := by decide +kernel
theorem dX9_declaringTypes_35 : decode cX9_declaringTypes 35 = .ok (.iload_n 3, 1) := by decide +kernel
theorem dX9_declaringTypes_36 : decode cX9_declaringTypes 36 = .ok (.iconst 0, 1) := by decide +kernel
theorem dX9_declaringTypes_37 : decode cX9_declaringTypes 37 = .ok (.invokevirtual 63, 3) := by decide +kernel
theorem dX9_declaringTypes_40 : decode cX9_declaringTypes 40 = .ok (.ishl, 1) := by decide +kernel
theorem dX9_declaringTypes_41 : decode cX9_declaringTypes 41 = .ok (.goto 4, 3) := by decide +kernel
theorem dX9_declaringTypes_44 : decode cX9_declaringTypes 44 = .ok (.iconst 0, 1) := by decide +kernel
theorem dX9_declaringTypes_45 : decode cX9_declaringTypes 45 = .ok (.ior, 1) := by decide +kernel
theorem dX9_declaringTypes_46 : decode cX9_declaringTypes 46 = .ok (.istore_n 2, 1) := by decide +kernel
theorem dX9_declaringTypes_47 : decode cX9_declaringTypes 47 = .ok (.iinc 3 1, 3) := by decide +kernel
theorem dX9_declaringTypes_50 : decode cX9_declaringTypes 50 = .ok (.goto (-37), 3) := by decide +kernel
theorem dX9_declaringTypes_53 : decode cX9_declaringTypes 53 = .ok (.iload_n 2, 1) := by decide +kernel
theorem dX9_declaringTypes_54 : decode cX9_declaringTypes 54 = .ok (.ireturn, 1) := by decide +kernel
set_option maxRecDepth 20000 in
theorem ggX9_bridgeTypes_X9_declaringTypes : GoodIn wsX9_bridgeTypes wsX9_declaringTypes := goodIn_r _ [6, 1, 7, 8, 9, 10, 5, 11, 12, 13, 14, 15, 16, 17, 18, 19, 20, 21, 22, 23, 24, 25, 26, 27, 28, 29, 30, 31, 32, 33, 34, 35, 36, 37, 38, 62, 63, 64, 65, 66, 67, 68, 69, 70, 71, 72, 73, 74] (by decide +kernel) (by decide +kernel)
set_option maxRecDepth 20000 in
theorem gX9_bridgeTypes_X9_declaringTypes : GoodIn wsX9_bridgeTypes (wsV RX9 190 RX9 yX9_declaringTypes wsX9_declaringTypes) := goodIn_app (goodIn_of _ (by decide +kernel)) ggX9_bridgeTypes_X9_declaringTypes
set_option maxRecDepth 20000 in
theorem ggX9_bridgeTypes_X9_ones : GoodIn wsX9_bridgeTypes wsX9_ones := goodIn_r _ [41] (by decide +kernel) (by decide +kernel)
set_option maxRecDepth 20000 in
theorem gX9_bridgeTypes_X9_ones : GoodIn wsX9_bridgeTypes (va_wsS RX9 154 yX9_ones wsX9_ones) := goodIn_app (goodIn_of _ (by decide +kernel)) ggX9_bridgeTypes_X9_ones
set_option maxRecDepth 20000 in
theorem ggX9_bridgeTypes_X9_areSufficient : GoodIn wsX9_bridgeTypes wsX9_areSufficient := goodIn_r _ [45, 7, 46, 47, 48, 5, 49, 50, 51, 52, 53, 54, 55, 56, 57, 1, 8, 9, 10, 11, 12, 13, 14, 15, 16, 17, 18, 19, 20, 21, 22, 23, 24, 25, 26, 27, 28, 29, 30, 31, 32, 33, 34, 35, 36, 37, 38, 58, 59, 60, 61, 62, 63, 64, 65, 66, 67, 68, 69, 70, 71, 72, 73, 74] (by decide +kernel) (by decide +kernel)
set_option maxRecDepth 20000 in
theorem gX9_bridgeTypes_X9_areSufficient : GoodIn wsX9_bridgeTypes (wsV RX9 193 RX9 yX9_areSufficient wsX9_areSufficient) := goodIn_app (goodIn_of _ (by decide +kernel)) ggX9_bridgeTypes_X9_areSufficient
theorem dX9_bridgeTypes_0 : decode cX9_bridgeTypes 0 = .ok (.aload_n 0, 1) := by decide +kernel
theorem dX9_bridgeTypes_1 : decode cX9_bridgeTypes 1 = .ok (.getfield 16, 3) := by decide +kernel
theorem dX9_bridgeTypes_4 : decode cX9_bridgeTypes 4 = .ok (.bipush (-9), 2) := by decide +kernel
theorem dX9_bridgeTypes_6 : decode cX9_bridgeTypes 6 = .ok (.if_icmp .ne 6, 3) := by decide +kernel
theorem dX9_bridgeTypes_9 : decode cX9_bridgeTypes 9 = .ok (.bipush (-2), 2) := by decide +kernel
theorem dX9_bridgeTypes_11 : decode cX9_bridgeTypes 11 = .ok (.ireturn, 1) := by decide +kernel
theorem dX9_bridgeTypes_12 : decode cX9_bridgeTypes 12 = .ok (.aload_n 0, 1) := by decide +kernel
theorem dX9_bridgeTypes_13 : decode cX9_bridgeTypes 13 = .ok (.invokevirtual 190, 3) := by decide +kernel
theorem dX9_bridgeTypes_16 : decode cX9_bridgeTypes 16 = .ok (.istore_n 1, 1) := by decide +kernel
theorem dX9_bridgeTypes_17 : decode cX9_bridgeTypes 17 = .ok (.bipush (-9), 2) := by decide +kernel
theorem dX9_bridgeTypes_19 : decode cX9_bridgeTypes 19 = .ok (.istore_n 2, 1) := by decide +kernel
theorem dX9_bridgeTypes_20 : decode cX9_bridgeTypes 20 = .ok (.iconst 0, 1) := by decide +kernel
theorem dX9_bridgeTypes_21 : decode cX9_bridgeTypes 21 = .ok (.istore_n 3, 1) := by decide +kernel
theorem dX9_bridgeTypes_22 : decode cX9_bridgeTypes 22 = .ok (.iload_n 3, 1) := by decide +kernel
theorem dX9_bridgeTypes_23 : decode cX9_bridgeTypes 23 = .ok (.iload_n 1, 1) := by decide +kernel
theorem dX9_bridgeTypes_24 : decode cX9_bridgeTypes 24 = .ok (.if_icmp .gt 60, 3) := by decide +kernel
theorem dX9_bridgeTypes_27 : decode cX9_bridgeTypes 27 = .ok (.iload_n 3, 1) := by decide +kernel
theorem dX9_bridgeTypes_28 : decode cX9_bridgeTypes 28 = .ok (.iload_n 1, 1) := by decide +kernel
theorem dX9_bridgeTypes_29 : decode cX9_bridgeTypes 29 = .ok (.iconst (-1), 1) := by decide +kernel
theorem dX9_bridgeTypes_30 : decode cX9_bridgeTypes 30 = .ok (.ixor, 1) := by decide +kernel
theorem dX9_bridgeTypes_31 : decode cX9_bridgeTypes 31 = .ok (.iand, 1) := by decide +kernel
theorem dX9_bridgeTypes_32 : decode cX9_bridgeTypes 32 = .ok (.ifCond .ne 24, 3) := by decide +kernel
theorem dX9_bridgeTypes_35 : decode cX9_bridgeTypes 35 = .ok (.iload_n 2, 1) := by decide +kernel
theorem dX9_bridgeTypes_36 : decode cX9_bridgeTypes 36 = .ok (.bipush (-9), 2) := by decide +kernel
theorem dX9_bridgeTypes_38 : decode cX9_bridgeTypes 38 = .ok (.if_icmp .eq 14, 3) := by decide +kernel
theorem dX9_bridgeTypes_41 : decode cX9_bridgeTypes 41 = .ok (.iload_n 3, 1) := by decide +kernel
theorem dX9_bridgeTypes_42 : decode cX9_bridgeTypes 42 = .ok (.invokestatic 154, 3) := by decide +kernel
theorem dX9_bridgeTypes_45 : decode cX9_bridgeTypes 45 = .ok (.iload_n 2, 1) := by decide +kernel
theorem dX9_bridgeTypes_46 : decode cX9_bridgeTypes 46 = .ok (.invokestatic 154, 3) := by decide +kernel
theorem dX9_bridgeTypes_49 : decode cX9_bridgeTypes 49 = .ok (.if_icmp .ge 7, 3) := by decide +kernel
theorem dX9_bridgeTypes_52 : decode cX9_bridgeTypes 52 = .ok (.iconst 1, 1) := by decide +kernel
theorem dX9_bridgeTypes_53 : decode cX9_bridgeTypes 53 = .ok (.goto 4, 3) := by decide +kernel
theorem dX9_bridgeTypes_56 : decode cX9_bridgeTypes 56 = .ok (.iconst 0, 1) := by decide +kernel
theorem dX9_bridgeTypes_57 : decode cX9_bridgeTypes 57 = .ok (.istore 4, 2) := by decide +kernel
theorem dX9_bridgeTypes_59 : decode cX9_bridgeTypes 59 = .ok (.iload 4, 2) := by decide +kernel
theorem dX9_bridgeTypes_61 : decode cX9_bridgeTypes 61 = .ok (.ifCond .eq 15, 3) := by decide +kernel
theorem dX9_bridgeTypes_64 : decode cX9_bridgeTypes 64 = .ok (.aload_n 0, 1) := by decide +kernel
theorem dX9_bridgeTypes_65 : decode cX9_bridgeTypes 65 = .ok (.iload_n 3, 1) := by decide +kernel
theorem dX9_bridgeTypes_66 : decode cX9_bridgeTypes 66 = .ok (.invokevirtual 193, 3) := by decide +kernel
theorem dX9_bridgeTypes_69 : decode cX9_bridgeTypes 69 = .ok (.ifCond .eq 7, 3) := by decide +kernel
theorem dX9_bridgeTypes_72 : decode cX9_bridgeTypes 72 = .ok (.iload_n 3, 1) := by decide +kernel
theorem dX9_bridgeTypes_73 : decode cX9_bridgeTypes 73 = .ok (.goto 4, 3) := by decide +kernel
theorem dX9_bridgeTypes_76 : decode cX9_bridgeTypes 76 = .ok (.iload_n 2, 1) := by decide +kernel
theorem dX9_bridgeTypes_77 : decode cX9_bridgeTypes 77 = .ok (.istore_n 2, 1) := by decide +kernel
theorem dX9_bridgeTypes_78 : decode cX9_bridgeTypes 78 = .ok (.iinc 3 1, 3) := by decide +kernel
theorem dX9_bridgeTypes_81 : decode cX9_bridgeTypes 81 = .ok (.goto (-59), 3) := by decide +kernel
theorem dX9_bridgeTypes_84 : decode cX9_bridgeTypes 84 = .ok (.iload_n 2, 1) := by decide +kernel
theorem dX9_bridgeTypes_85 : decode cX9_bridgeTypes 85 = .ok (.ireturn, 1) := by decide +kernel
set_option maxRecDepth 20000 in
theorem ggX9_hasSameKeys_X9_of : GoodIn wsX9_hasSameKeys wsX9_of := goodIn_r _ [8, 9, 10, 11, 12, 13, 14, 15, 16, 17, 18, 19, 20, 21, 22] (by decide +kernel) (by decide +kernel)
set_option maxRecDepth 20000 in
theorem gX9_hasSameKeys_X9_of : GoodIn wsX9_hasSameKeys (wsV RX9 63 RX9 yX9_of wsX9_of) := goodIn_app (goodIn_of _ (by decide +kernel)) ggX9_hasSameKeys_X9_of
theorem dX9_hasSameKeys_0 : decode cX9_hasSameKeys 0 = .ok (.aload_n 0, 1) := by decide +kernel
theorem dX9_hasSameKeys_1 : decode cX9_hasSameKeys 1 = .ok (.getfield 151, 3) := by decide +kernel
theorem dX9_hasSameKeys_4 : decode cX9_hasSameKeys 4 = .ok (.aload_n 0, 1) := by decide +kernel
theorem dX9_hasSameKeys_5 : decode cX9_hasSameKeys 5 = .ok (.aload_n 0, 1) := by decide +kernel
theorem dX9_hasSameKeys_6 : decode cX9_hasSameKeys 6 = .ok (.getfield 16, 3) := by decide +kernel
theorem dX9_hasSameKeys_9 : decode cX9_hasSameKeys 9 = .ok (.iconst 2, 1) := by decide +kernel
theorem dX9_hasSameKeys_10 : decode cX9_hasSameKeys 10 = .ok (.invokevirtual 63, 3) := by decide +kernel
theorem dX9_hasSameKeys_13 : decode cX9_hasSameKeys 13 = .ok (.if_icmp .ne 7, 3) := by decide +kernel
theorem dX9_hasSameKeys_16 : decode cX9_hasSameKeys 16 = .ok (.iconst 1, 1) := by decide +kernel
theorem dX9_hasSameKeys_17 : decode cX9_hasSameKeys 17 = .ok (.goto 4, 3) := by decide +kernel
theorem dX9_hasSameKeys_20 : decode cX9_hasSameKeys 20 = .ok (.iconst 0, 1) := by decide +kernel
theorem dX9_hasSameKeys_21 : decode cX9_hasSameKeys 21 = .ok (.istore_n 1, 1) := by decide +kernel
theorem dX9_hasSameKeys_22 : decode cX9_hasSameKeys 22 = .ok (.iconst 0, 1) := by decide +kernel
theorem dX9_hasSameKeys_23 : decode cX9_hasSameKeys 23 = .ok (.istore_n 2, 1) := by decide +kernel
theorem dX9_hasSameKeys_24 : decode cX9_hasSameKeys 24 = .ok (.iload_n 2, 1) := by decide +kernel
theorem dX9_hasSameKeys_25 : decode cX9_hasSameKeys 25 = .ok (.aload_n 0, 1) := by decide +kernel
theorem dX9_hasSameKeys_26 : decode cX9_hasSameKeys 26 = .ok (.getfield 151, 3) := by decide +kernel
theorem dX9_hasSameKeys_29 : decode cX9_hasSameKeys 29 = .ok (.if_icmp .ge 39, 3) := by decide +kernel
theorem dX9_hasSameKeys_32 : decode cX9_hasSameKeys 32 = .ok (.iload_n 1, 1) := by decide +kernel
theorem dX9_hasSameKeys_33 : decode cX9_hasSameKeys 33 = .ok (.ifCond .eq 35, 3) := by decide +kernel
theorem dX9_hasSameKeys_36 : decode cX9_hasSameKeys 36 = .ok (.aload_n 0, 1) := by decide +kernel
theorem dX9_hasSameKeys_37 : decode cX9_hasSameKeys 37 = .ok (.getfield 23, 3) := by decide +kernel
theorem dX9_hasSameKeys_40 : decode cX9_hasSameKeys 40 = .ok (.iload_n 2, 1) := by decide +kernel
theorem dX9_hasSameKeys_41 : decode cX9_hasSameKeys 41 = .ok (.iaload, 1) := by decide +kernel
theorem dX9_hasSameKeys_42 : decode cX9_hasSameKeys 42 = .ok (.aload_n 0, 1) := by decide +kernel
theorem dX9_hasSameKeys_43 : decode cX9_hasSameKeys 43 = .ok (.aload_n 0, 1) := by decide +kernel
theorem dX9_hasSameKeys_44 : decode cX9_hasSameKeys 44 = .ok (.getfield 16, 3) := by decide +kernel
theorem dX9_hasSameKeys_47 : decode cX9_hasSameKeys 47 = .ok (.iconst 3, 1) := by decide +kernel
theorem dX9_hasSameKeys_48 : decode cX9_hasSameKeys 48 = .ok (.iload_n 2, 1) := by decide +kernel
theorem dX9_hasSameKeys_49 : decode cX9_hasSameKeys 49 = .ok (.iadd, 1) := by decide +kernel
theorem dX9_hasSameKeys_50 : decode cX9_hasSameKeys 50 = .ok (.invokevirtual 63, 3) := by decide +kernel
theorem dX9_hasSameKeys_53 : decode cX9_hasSameKeys 53 = .ok (.if_icmp .ne 7, 3) := by decide +kernel
theorem dX9_hasSameKeys_56 : decode cX9_hasSameKeys 56 = .ok (.iconst 1, 1) := by decide +kernel
theorem dX9_hasSameKeys_57 : decode cX9_hasSameKeys 57 = .ok (.goto 4, 3) := by decide +kernel
theorem dX9_hasSameKeys_60 : decode cX9_hasSameKeys 60 = .ok (.iconst 0, 1) := by decide +kernel
theorem dX9_hasSameKeys_61 : decode cX9_hasSameKeys 61 = .ok (.istore_n 1, 1) := by decide +kernel
theorem dX9_hasSameKeys_62 : decode cX9_hasSameKeys 62 = .ok (.iinc 2 1, 3) := by decide +kernel
theorem dX9_hasSameKeys_65 : decode cX9_hasSameKeys 65 = .ok (.goto (-41), 3) := by decide +kernel
theorem dX9_hasSameKeys_68 : decode cX9_hasSameKeys 68 = .ok (.iload_n 1, 1) := by decide +kernel
theorem dX9_hasSameKeys_69 : decode cX9_hasSameKeys 69 = .ok (.ireturn, 1) := by decide +kernel
set_option maxRecDepth 20000 in
theorem ggX9_isBarred_X9_isFrozen : GoodIn wsX9_isBarred wsX9_isFrozen := goodIn_r _ [8, 1, 9, 10, 11, 7, 12, 53, 54, 55, 56, 57, 58, 59, 60, 61, 62, 63, 64, 65] (by decide +kernel) (by decide +kernel)
set_option maxRecDepth 20000 in
theorem gX9_isBarred_X9_isFrozen : GoodIn wsX9_isBarred (wsV RX9 123 RX9 yX9_isFrozen wsX9_isFrozen) := goodIn_app (goodIn_of _ (by decide +kernel)) ggX9_isBarred_X9_isFrozen
set_option maxRecDepth 20000 in
theorem ggX9_isBarred_X9_isConcerned : GoodIn wsX9_isBarred wsX9_isConcerned := goodIn_r _ [16, 3, 1, 17, 18, 19, 7, 20, 21, 22, 23, 24, 25, 26, 27, 28, 29, 30, 31, 32, 33, 34, 35, 36, 37, 38, 39, 40, 41, 42, 43, 44, 45, 46, 47, 9, 10, 11, 12, 53, 54, 55, 56, 57, 58, 59, 60, 61, 62, 63, 64, 65] (by decide +kernel) (by decide +kernel)
set_option maxRecDepth 20000 in
theorem gX9_isBarred_X9_isConcerned : GoodIn wsX9_isBarred (wsV RX9 181 RX9 yX9_isConcerned wsX9_isConcerned) := goodIn_app (goodIn_of _ (by decide +kernel)) ggX9_isBarred_X9_isConcerned
set_option maxRecDepth 20000 in
theorem ggX9_isBarred_X9_of : GoodIn wsX9_isBarred wsX9_of := goodIn_r _ [27, 1, 53, 54, 55, 56, 57, 58, 59, 60, 61, 62, 63, 64, 65] (by decide +kernel) (by decide +kernel)
set_option maxRecDepth 20000 in
theorem gX9_isBarred_X9_of : GoodIn wsX9_isBarred (wsV RX9 63 RX9 yX9_of wsX9_of) := goodIn_app (goodIn_of _ (by decide +kernel)) ggX9_isBarred_X9_of
set_option maxRecDepth 20000 in
theorem ggX9_isBarred_X9_hasSameKeys : GoodIn wsX9_isBarred wsX9_hasSameKeys := goodIn_r _ [51, 2, 3, 52, 24, 25, 26, 7, 27, 1, 53, 54, 55, 56, 57, 58, 59, 60, 61, 62, 63, 64, 65] (by decide +kernel) (by decide +kernel)
set_option maxRecDepth 20000 in
theorem gX9_isBarred_X9_hasSameKeys : GoodIn wsX9_isBarred (wsV RX9 196 RX9 yX9_hasSameKeys wsX9_hasSameKeys) := goodIn_app (goodIn_of _ (by decide +kernel)) ggX9_isBarred_X9_hasSameKeys
theorem dX9_isBarred_0 : decode cX9_isBarred 0 = .ok (.iconst 0, 1) := by decide +kernel
theorem dX9_isBarred_1 : decode cX9_isBarred 1 = .ok (.istore_n 1, 1) := by decide +kernel
theorem dX9_isBarred_2 : decode cX9_isBarred 2 = .ok (.iconst 0, 1) := by decide +kernel
theorem dX9_isBarred_3 : decode cX9_isBarred 3 = .ok (.istore_n 2, 1) := by decide +kernel
theorem dX9_isBarred_4 : decode cX9_isBarred 4 = .ok (.iload_n 2, 1) := by decide +kernel
theorem dX9_isBarred_5 : decode cX9_isBarred 5 = .ok (.aload_n 0, 1) := by decide +kernel
theorem dX9_isBarred_6 : decode cX9_isBarred 6 = .ok (.getfield 7, 3) := by decide +kernel
theorem dX9_isBarred_9 : decode cX9_isBarred 9 = .ok (.sipush 234, 3) := by decide +kernel
theorem dX9_isBarred_12 : decode cX9_isBarred 12 = .ok (.iaload, 1) := by decide +kernel
theorem dX9_isBarred_13 : decode cX9_isBarred 13 = .ok (.if_icmp .ge 58, 3) := by decide +kernel
theorem dX9_isBarred_16 : decode cX9_isBarred 16 = .ok (.iload_n 1, 1) := by decide +kernel
theorem dX9_isBarred_17 : decode cX9_isBarred 17 = .ok (.ifCond .ne 42, 3) := by decide +kernel
theorem dX9_isBarred_20 : decode cX9_isBarred 20 = .ok (.aload_n 0, 1) := by decide +kernel
theorem dX9_isBarred_21 : decode cX9_isBarred 21 = .ok (.iload_n 2, 1) := by decide +kernel
theorem dX9_isBarred_22 : decode cX9_isBarred 22 = .ok (.invokevirtual 123, 3) := by decide +kernel
theorem dX9_isBarred_25 : decode cX9_isBarred 25 = .ok (.ifCond .eq 38, 3) := by decide +kernel
theorem dX9_isBarred_28 : decode cX9_isBarred 28 = .ok (.aload_n 0, 1) := by decide +kernel
theorem dX9_isBarred_29 : decode cX9_isBarred 29 = .ok (.iload_n 2, 1) := by decide +kernel
theorem dX9_isBarred_30 : decode cX9_isBarred 30 = .ok (.invokevirtual 181, 3) := by decide +kernel
theorem dX9_isBarred_33 : decode cX9_isBarred 33 = .ok (.ifCond .eq 30, 3) := by decide +kernel
theorem dX9_isBarred_36 : decode cX9_isBarred 36 = .ok (.aload_n 0, 1) := by decide +kernel
theorem dX9_isBarred_37 : decode cX9_isBarred 37 = .ok (.getfield 151, 3) := by decide +kernel
theorem dX9_isBarred_40 : decode cX9_isBarred 40 = .ok (.aload_n 0, 1) := by decide +kernel
theorem dX9_isBarred_41 : decode cX9_isBarred 41 = .ok (.aload_n 0, 1) := by decide +kernel
theorem dX9_isBarred_42 : decode cX9_isBarred 42 = .ok (.getfield 16, 3) := by decide +kernel
theorem dX9_isBarred_45 : decode cX9_isBarred 45 = .ok (.iconst 2, 1) := by decide +kernel
theorem dX9_isBarred_46 : decode cX9_isBarred 46 = .ok (.invokevirtual 63, 3) := by decide +kernel
theorem dX9_isBarred_49 : decode cX9_isBarred 49 = .ok (.if_icmp .ne 14, 3) := by decide +kernel
theorem dX9_isBarred_52 : decode cX9_isBarred 52 = .ok (.aload_n 0, 1) := by decide +kernel
theorem dX9_isBarred_53 : decode cX9_isBarred 53 = .ok (.invokevirtual 196, 3) := by decide +kernel
theorem dX9_isBarred_56 : decode cX9_isBarred 56 = .ok (.ifCond .ne 7, 3) := by decide +kernel
theorem dX9_isBarred_59 : decode cX9_isBarred 59 = .ok (.iconst 1, 1) := by decide +kernel
theorem dX9_isBarred_60 : decode cX9_isBarred 60 = .ok (.goto 4, 3) := by decide +kernel
theorem dX9_isBarred_63 : decode cX9_isBarred 63 = .ok (.iconst 0, 1) := by decide +kernel
theorem dX9_isBarred_64 : decode cX9_isBarred 64 = .ok (.istore_n 1, 1) := by decide +kernel
theorem dX9_isBarred_65 : decode cX9_isBarred 65 = .ok (.iinc 2 1, 3) := by decide +kernel
theorem dX9_isBarred_68 : decode cX9_isBarred 68 = .ok (.goto (-64), 3) := by decide +kernel
theorem dX9_isBarred_71 : decode cX9_isBarred 71 = .ok (.iload_n 1, 1) := by decide +kernel
theorem dX9_isBarred_72 : decode cX9_isBarred 72 = .ok (.ireturn, 1) := by decide +kernel
set_option maxRecDepth 20000 in
theorem ggX9_hasRoom_X9_isFrozen : GoodIn wsX9_hasRoom wsX9_isFrozen := goodIn_r _ [6, 1, 7, 8, 9, 5, 10, 76, 77, 78, 79, 80, 81, 82, 83, 84, 85, 86, 87, 88] (by decide +kernel) (by decide +kernel)
set_option maxRecDepth 20000 in
theorem gX9_hasRoom_X9_isFrozen : GoodIn wsX9_hasRoom (wsV RX9 123 RX9 yX9_isFrozen wsX9_isFrozen) := goodIn_app (goodIn_of _ (by decide +kernel)) ggX9_hasRoom_X9_isFrozen
set_option maxRecDepth 20000 in
theorem ggX9_hasRoom_X9_isConcerned : GoodIn wsX9_hasRoom wsX9_isConcerned := goodIn_r _ [14, 15, 1, 16, 17, 18, 5, 19, 20, 21, 22, 23, 24, 25, 26, 27, 28, 29, 30, 31, 32, 33, 34, 35, 36, 37, 38, 39, 40, 41, 42, 43, 44, 45, 46, 7, 8, 9, 10, 76, 77, 78, 79, 80, 81, 82, 83, 84, 85, 86, 87, 88] (by decide +kernel) (by decide +kernel)
set_option maxRecDepth 20000 in
theorem gX9_hasRoom_X9_isConcerned : GoodIn wsX9_hasRoom (wsV RX9 181 RX9 yX9_isConcerned wsX9_isConcerned) := goodIn_app (goodIn_of _ (by decide +kernel)) ggX9_hasRoom_X9_isConcerned
set_option maxRecDepth 20000 in
theorem ggX9_hasRoom_X9_at : GoodIn wsX9_hasRoom wsX9_at := goodIn_r _ [10] (by decide +kernel) (by decide +kernel)
set_option maxRecDepth 20000 in
theorem gX9_hasRoom_X9_at : GoodIn wsX9_hasRoom (wsV RX9 111 RX9 yX9_at wsX9_at) := goodIn_app (goodIn_of _ (by decide +kernel)) ggX9_hasRoom_X9_at
set_option maxRecDepth 20000 in
theorem ggX9_hasRoom_X9_hoistedOf : GoodIn wsX9_hasRoom wsX9_hoistedOf := goodIn_r _ [50, 1, 7, 8, 9, 5, 10, 51, 52, 53, 54, 55, 56, 57, 58, 59, 60, 61, 62, 63, 20, 21, 22, 64, 65, 66, 67, 68, 69, 70, 71, 72, 73, 74, 75, 76, 77, 78, 79, 80, 81, 82, 83, 84, 85, 86, 87, 88] (by decide +kernel) (by decide +kernel)
set_option maxRecDepth 20000 in
theorem gX9_hasRoom_X9_hoistedOf : GoodIn wsX9_hasRoom (wsV RX9 184 RX9 yX9_hoistedOf wsX9_hoistedOf) := goodIn_app (goodIn_of _ (by decide +kernel)) ggX9_hasRoom_X9_hoistedOf
set_option maxRecDepth 20000 in
theorem ggX9_hasRoom_X9_ones : GoodIn wsX9_hasRoom wsX9_ones := goodIn_r _ [53] (by decide +kernel) (by decide +kernel)
set_option maxRecDepth 20000 in
theorem gX9_hasRoom_X9_ones : GoodIn wsX9_hasRoom (va_wsS RX9 154 yX9_ones wsX9_ones) := goodIn_app (goodIn_of _ (by decide +kernel)) ggX9_hasRoom_X9_ones
theorem dX9_hasRoom_0 : decode cX9_hasRoom 0 = .ok (.iconst 1, 1) := by decide +kernel
theorem dX9_hasRoom_1 : decode cX9_hasRoom 1 = .ok (.istore_n 1, 1) := by decide +kernel
theorem dX9_hasRoom_2 : decode cX9_hasRoom 2 = .ok (.iconst 0, 1) := by decide +kernel
theorem dX9_hasRoom_3 : decode cX9_hasRoom 3 = .ok (.istore_n 2, 1) := by decide +kernel
theorem dX9_hasRoom_4 : decode cX9_hasRoom 4 = .ok (.iload_n 2, 1) := by decide +kernel
theorem dX9_hasRoom_5 : decode cX9_hasRoom 5 = .ok (.aload_n 0, 1) := by decide +kernel
theorem dX9_hasRoom_6 : decode cX9_hasRoom 6 = .ok (.getfield 7, 3) := by decide +kernel
theorem dX9_hasRoom_9 : decode cX9_hasRoom 9 = .ok (.sipush 234, 3) := by decide +kernel
theorem dX9_hasRoom_12 : decode cX9_hasRoom 12 = .ok (.iaload, 1) := by decide +kernel
theorem dX9_hasRoom_13 : decode cX9_hasRoom 13 = .ok (.if_icmp .ge 61, 3) := by decide +kernel
theorem dX9_hasRoom_16 : decode cX9_hasRoom 16 = .ok (.iload_n 1, 1) := by decide +kernel
theorem dX9_hasRoom_17 : decode cX9_hasRoom 17 = .ok (.ifCond .eq 49, 3) := by decide +kernel
theorem dX9_hasRoom_20 : decode cX9_hasRoom 20 = .ok (.aload_n 0, 1) := by decide +kernel
theorem dX9_hasRoom_21 : decode cX9_hasRoom 21 = .ok (.iload_n 2, 1) := by decide +kernel
theorem dX9_hasRoom_22 : decode cX9_hasRoom 22 = .ok (.invokevirtual 123, 3) := by decide +kernel
theorem dX9_hasRoom_25 : decode cX9_hasRoom 25 = .ok (.ifCond .ne 37, 3) := by decide +kernel
theorem dX9_hasRoom_28 : decode cX9_hasRoom 28 = .ok (.aload_n 0, 1) := by decide +kernel
theorem dX9_hasRoom_29 : decode cX9_hasRoom 29 = .ok (.iload_n 2, 1) := by decide +kernel
theorem dX9_hasRoom_30 : decode cX9_hasRoom 30 = .ok (.invokevirtual 181, 3) := by decide +kernel
theorem dX9_hasRoom_33 : decode cX9_hasRoom 33 = .ok (.ifCond .eq 29, 3) := by decide +kernel
theorem dX9_hasRoom_36 : decode cX9_hasRoom 36 = .ok (.aload_n 0, 1) := by decide +kernel
theorem dX9_hasRoom_37 : decode cX9_hasRoom 37 = .ok (.getfield 7, 3) := by decide +kernel
theorem dX9_hasRoom_40 : decode cX9_hasRoom 40 = .ok (.aload_n 0, 1) := by decide +kernel
theorem dX9_hasRoom_41 : decode cX9_hasRoom 41 = .ok (.iload_n 2, 1) := by decide +kernel
theorem dX9_hasRoom_42 : decode cX9_hasRoom 42 = .ok (.bipush 20, 2) := by decide +kernel
theorem dX9_hasRoom_44 : decode cX9_hasRoom 44 = .ok (.invokevirtual 111, 3) := by decide +kernel
theorem dX9_hasRoom_47 : decode cX9_hasRoom 47 = .ok (.iaload, 1) := by decide +kernel
theorem dX9_hasRoom_48 : decode cX9_hasRoom 48 = .ok (.aload_n 0, 1) := by decide +kernel
theorem dX9_hasRoom_49 : decode cX9_hasRoom 49 = .ok (.iload_n 2, 1) := by decide +kernel
theorem dX9_hasRoom_50 : decode cX9_hasRoom 50 = .ok (.invokevirtual 184, 3) := by decide +kernel
theorem dX9_hasRoom_53 : decode cX9_hasRoom 53 = .ok (.invokestatic 154, 3) := by decide +kernel
theorem dX9_hasRoom_56 : decode cX9_hasRoom 56 = .ok (.iadd, 1) := by decide +kernel
theorem dX9_hasRoom_57 : decode cX9_hasRoom 57 = .ok (.bipush 8, 2) := by decide +kernel
theorem dX9_hasRoom_59 : decode cX9_hasRoom 59 = .ok (.if_icmp .gt 7, 3) := by decide +kernel
theorem dX9_hasRoom_62 : decode cX9_hasRoom 62 = .ok (.iconst 1, 1) := by decide +kernel
theorem dX9_hasRoom_63 : decode cX9_hasRoom 63 = .ok (.goto 4, 3) := by decide +kernel
theorem dX9_hasRoom_66 : decode cX9_hasRoom 66 = .ok (.iconst 0, 1) := by decide +kernel
theorem dX9_hasRoom_67 : decode cX9_hasRoom 67 = .ok (.istore_n 1, 1) := by decide +kernel
theorem dX9_hasRoom_68 : decode cX9_hasRoom 68 = .ok (.iinc 2 1, 3) := by decide +kernel
theorem dX9_hasRoom_71 : decode cX9_hasRoom 71 = .ok (.goto (-67), 3) := by decide +kernel
theorem dX9_hasRoom_74 : decode cX9_hasRoom 74 = .ok (.iload_n 1, 1) := by decide +kernel
theorem dX9_hasRoom_75 : decode cX9_hasRoom 75 = .ok (.ireturn, 1) := by decide +kernel
set_option maxRecDepth 20000 in
theorem ggX9_rewrite_X9_hoistedOf : GoodIn wsX9_rewrite wsX9_hoistedOf := goodIn_r _ [12, 1, 13, 14, 15, 11, 16, 17, 18, 19, 20, 21, 22, 23, 24, 25, 26, 27, 4, 5, 28, 29, 30, 31, 32, 33, 34, 35, 36, 37, 38, 39, 40, 41, 42, 43, 44, 45, 46, 47, 48, 49, 50, 51, 52, 53, 54, 55] (by decide +kernel) (by decide +kernel)
set_option maxRecDepth 20000 in
theorem gX9_rewrite_X9_hoistedOf : GoodIn wsX9_rewrite (wsV RX9 184 RX9 yX9_hoistedOf wsX9_hoistedOf) := goodIn_app (goodIn_of _ (by decide +kernel)) ggX9_rewrite_X9_hoistedOf
set_option maxRecDepth 20000 in
theorem ggX9_rewrite_X9_at : GoodIn wsX9_rewrite wsX9_at := goodIn_r _ [16] (by decide +kernel) (by decide +kernel)
set_option maxRecDepth 20000 in
theorem gX9_rewrite_X9_at : GoodIn wsX9_rewrite (wsV RX9 111 RX9 yX9_at wsX9_at) := goodIn_app (goodIn_of _ (by decide +kernel)) ggX9_rewrite_X9_at
set_option maxRecDepth 20000 in
theorem ggX9_rewrite_X9_kindOf : GoodIn wsX9_rewrite wsX9_kindOf := goodIn_r _ [38, 1, 13, 14, 15, 11, 16, 43, 44, 45, 46, 47, 48, 49, 50, 51, 52, 53, 54, 55] (by decide +kernel) (by decide +kernel)
set_option maxRecDepth 20000 in
theorem gX9_rewrite_X9_kindOf : GoodIn wsX9_rewrite (wsV RX9 169 RX9 yX9_kindOf wsX9_kindOf) := goodIn_app (goodIn_of _ (by decide +kernel)) ggX9_rewrite_X9_kindOf
set_option maxRecDepth 20000 in
theorem ggX9_rewrite_X9_has : GoodIn wsX9_rewrite wsX9_has := goodIn_r _ [30] (by decide +kernel) (by decide +kernel)
set_option maxRecDepth 20000 in
theorem gX9_rewrite_X9_has : GoodIn wsX9_rewrite (va_wsS RX9 48 yX9_has wsX9_has) := goodIn_app (goodIn_of _ (by decide +kernel)) ggX9_rewrite_X9_has
theorem dX9_rewrite_0 : decode cX9_rewrite 0 = .ok (.aload_n 0, 1) := by decide +kernel
theorem dX9_rewrite_1 : decode cX9_rewrite 1 = .ok (.iload_n 1, 1) := by decide +kernel
theorem dX9_rewrite_2 : decode cX9_rewrite 2 = .ok (.invokevirtual 184, 3) := by decide +kernel
theorem dX9_rewrite_5 : decode cX9_rewrite 5 = .ok (.istore_n 2, 1) := by decide +kernel
theorem dX9_rewrite_6 : decode cX9_rewrite 6 = .ok (.aload_n 0, 1) := by decide +kernel
theorem dX9_rewrite_7 : decode cX9_rewrite 7 = .ok (.getfield 7, 3) := by decide +kernel
theorem dX9_rewrite_10 : decode cX9_rewrite 10 = .ok (.aload_n 0, 1) := by decide +kernel
theorem dX9_rewrite_11 : decode cX9_rewrite 11 = .ok (.iload_n 1, 1) := by decide +kernel
theorem dX9_rewrite_12 : decode cX9_rewrite 12 = .ok (.iconst 4, 1) := by decide +kernel
theorem dX9_rewrite_13 : decode cX9_rewrite 13 = .ok (.invokevirtual 111, 3) := by decide +kernel
theorem dX9_rewrite_16 : decode cX9_rewrite 16 = .ok (.iaload, 1) := by decide +kernel
theorem dX9_rewrite_17 : decode cX9_rewrite 17 = .ok (.istore_n 3, 1) := by decide +kernel
theorem dX9_rewrite_18 : decode cX9_rewrite 18 = .ok (.iconst 0, 1) := by decide +kernel
theorem dX9_rewrite_19 : decode cX9_rewrite 19 = .ok (.istore 4, 2) := by decide +kernel
theorem dX9_rewrite_21 : decode cX9_rewrite 21 = .ok (.iload 4, 2) := by decide +kernel
theorem dX9_rewrite_23 : decode cX9_rewrite 23 = .ok (.iload_n 3, 1) := by decide +kernel
theorem dX9_rewrite_24 : decode cX9_rewrite 24 = .ok (.if_icmp .ge 123, 3) := by decide +kernel
theorem dX9_rewrite_27 : decode cX9_rewrite 27 = .ok (.aload_n 0, 1) := by decide +kernel
theorem dX9_rewrite_28 : decode cX9_rewrite 28 = .ok (.getfield 35, 3) := by decide +kernel
theorem dX9_rewrite_31 : decode cX9_rewrite 31 = .ok (.iload 4, 2) := by decide +kernel
theorem dX9_rewrite_33 : decode cX9_rewrite 33 = .ok (.aload_n 0, 1) := by decide +kernel
theorem dX9_rewrite_34 : decode cX9_rewrite 34 = .ok (.iload_n 1, 1) := by decide +kernel
theorem dX9_rewrite_35 : decode cX9_rewrite 35 = .ok (.iload 4, 2) := by decide +kernel
theorem dX9_rewrite_37 : decode cX9_rewrite 37 = .ok (.invokevirtual 169, 3) := by decide +kernel
theorem dX9_rewrite_40 : decode cX9_rewrite 40 = .ok (.iastore, 1) := by decide +kernel
theorem dX9_rewrite_41 : decode cX9_rewrite 41 = .ok (.aload_n 0, 1) := by decide +kernel
theorem dX9_rewrite_42 : decode cX9_rewrite 42 = .ok (.getfield 38, 3) := by decide +kernel
theorem dX9_rewrite_45 : decode cX9_rewrite 45 = .ok (.iload 4, 2) := by decide +kernel
theorem dX9_rewrite_47 : decode cX9_rewrite 47 = .ok (.aload_n 0, 1) := by decide +kernel
theorem dX9_rewrite_48 : decode cX9_rewrite 48 = .ok (.getfield 7, 3) := by decide +kernel
theorem dX9_rewrite_51 : decode cX9_rewrite 51 = .ok (.aload_n 0, 1) := by decide +kernel
theorem dX9_rewrite_52 : decode cX9_rewrite 52 = .ok (.iload_n 1, 1) := by decide +kernel
theorem dX9_rewrite_53 : decode cX9_rewrite 53 = .ok (.bipush 10, 2) := by decide +kernel
theorem dX9_rewrite_55 : decode cX9_rewrite 55 = .ok (.iload 4, 2) := by decide +kernel
theorem dX9_rewrite_57 : decode cX9_rewrite 57 = .ok (.iadd, 1) := by decide +kernel
theorem dX9_rewrite_58 : decode cX9_rewrite 58 = .ok (.invokevirtual 111, 3) := by decide +kernel
theorem dX9_rewrite_61 : decode cX9_rewrite 61 = .ok (.iaload, 1) := by decide +kernel
theorem dX9_rewrite_62 : decode cX9_rewrite 62 = .ok (.iastore, 1) := by decide +kernel
theorem dX9_rewrite_63 : decode cX9_rewrite 63 = .ok (.iload_n 2, 1) := by decide +kernel
theorem dX9_rewrite_64 : decode cX9_rewrite 64 = .ok (.iload 4, 2) := by decide +kernel
theorem dX9_rewrite_66 : decode cX9_rewrite 66 = .ok (.invokestatic 48, 3) := by decide +kernel
theorem dX9_rewrite_69 : decode cX9_rewrite 69 = .ok (.ifCond .eq 72, 3) := by decide +kernel
theorem dX9_rewrite_72 : decode cX9_rewrite 72 = .ok (.aload_n 0, 1) := by decide +kernel
theorem dX9_rewrite_73 : decode cX9_rewrite 73 = .ok (.getfield 7, 3) := by decide +kernel
theorem dX9_rewrite_76 : decode cX9_rewrite 76 = .ok (.aload_n 0, 1) := by decide +kernel
theorem dX9_rewrite_77 : decode cX9_rewrite 77 = .ok (.iload_n 1, 1) := by decide +kernel
theorem dX9_rewrite_78 : decode cX9_rewrite 78 = .ok (.bipush 20, 2) := by decide +kernel
theorem dX9_rewrite_80 : decode cX9_rewrite 80 = .ok (.invokevirtual 111, 3) := by decide +kernel
theorem dX9_rewrite_83 : decode cX9_rewrite 83 = .ok (.iaload, 1) := by decide +kernel
theorem dX9_rewrite_84 : decode cX9_rewrite 84 = .ok (.istore 5, 2) := by decide +kernel
theorem dX9_rewrite_86 : decode cX9_rewrite 86 = .ok (.aload_n 0, 1) := by decide +kernel
theorem dX9_rewrite_87 : decode cX9_rewrite 87 = .ok (.getfield 7, 3) := by decide +kernel
theorem dX9_rewrite_90 : decode cX9_rewrite 90 = .ok (.aload_n 0, 1) := by decide +kernel
theorem dX9_rewrite_91 : decode cX9_rewrite 91 = .ok (.iload_n 1, 1) := by decide +kernel
theorem dX9_rewrite_92 : decode cX9_rewrite 92 = .ok (.bipush 21, 2) := by decide +kernel
theorem dX9_rewrite_94 : decode cX9_rewrite 94 = .ok (.iload 5, 2) := by decide +kernel
theorem dX9_rewrite_96 : decode cX9_rewrite 96 = .ok (.iadd, 1) := by decide +kernel
theorem dX9_rewrite_97 : decode cX9_rewrite 97 = .ok (.invokevirtual 111, 3) := by decide +kernel
theorem dX9_rewrite_100 : decode cX9_rewrite 100 = .ok (.aload_n 0, 1) := by decide +kernel
theorem dX9_rewrite_101 : decode cX9_rewrite 101 = .ok (.getfield 35, 3) := by decide +kernel
theorem dX9_rewrite_104 : decode cX9_rewrite 104 = .ok (.iload 4, 2) := by decide +kernel
theorem dX9_rewrite_106 : decode cX9_rewrite 106 = .ok (.iaload, 1) := by decide +kernel
theorem dX9_rewrite_107 : decode cX9_rewrite 107 = .ok (.iastore, 1) := by decide +kernel
theorem dX9_rewrite_108 : decode cX9_rewrite 108 = .ok (.aload_n 0, 1) := by decide +kernel
theorem dX9_rewrite_109 : decode cX9_rewrite 109 = .ok (.getfield 7, 3) := by decide +kernel
theorem dX9_rewrite_112 : decode cX9_rewrite 112 = .ok (.aload_n 0, 1) := by decide +kernel
theorem dX9_rewrite_113 : decode cX9_rewrite 113 = .ok (.iload_n 1, 1) := by decide +kernel
theorem dX9_rewrite_114 : decode cX9_rewrite 114 = .ok (.bipush 20, 2) := by decide +kernel
theorem dX9_rewrite_116 : decode cX9_rewrite 116 = .ok (.invokevirtual 111, 3) := by decide +kernel
theorem dX9_rewrite_119 : decode cX9_rewrite 119 = .ok (.dup2, 1) := by decide +kernel
theorem dX9_rewrite_120 : decode cX9_rewrite 120 = .ok (.iaload, 1) := by decide +kernel
theorem dX9_rewrite_121 : decode cX9_rewrite 121 = .ok (.iconst 1, 1) := by decide +kernel
theorem dX9_rewrite_122 : decode cX9_rewrite 122 = .ok (.iadd, 1) := by decide +kernel
theorem dX9_rewrite_123 : decode cX9_rewrite 123 = .ok (.iastore, 1) := by decide +kernel
theorem dX9_rewrite_124 : decode cX9_rewrite 124 = .ok (.aload_n 0, 1) := by decide +kernel
theorem dX9_rewrite_125 : decode cX9_rewrite 125 = .ok (.getfield 35, 3) := by decide +kernel
theorem dX9_rewrite_128 : decode cX9_rewrite 128 = .ok (.iload 4, 2) := by decide +kernel
theorem dX9_rewrite_130 : decode cX9_rewrite 130 = .ok (.iconst 3, 1) := by decide +kernel
theorem dX9_rewrite_131 : decode cX9_rewrite 131 = .ok (.iastore, 1) := by decide +kernel
theorem dX9_rewrite_132 : decode cX9_rewrite 132 = .ok (.aload_n 0, 1) := by decide +kernel
theorem dX9_rewrite_133 : decode cX9_rewrite 133 = .ok (.getfield 38, 3) := by decide +kernel
theorem dX9_rewrite_136 : decode cX9_rewrite 136 = .ok (.iload 4, 2) := by decide +kernel
theorem dX9_rewrite_138 : decode cX9_rewrite 138 = .ok (.iload 5, 2) := by decide +kernel
theorem dX9_rewrite_140 : decode cX9_rewrite 140 = .ok (.iastore, 1) := by decide +kernel
theorem dX9_rewrite_141 : decode cX9_rewrite 141 = .ok (.iinc 4 1, 3) := by decide +kernel
theorem dX9_rewrite_144 : decode cX9_rewrite 144 = .ok (.goto (-123), 3) := by decide +kernel
theorem dX9_rewrite_147 : decode cX9_rewrite 147 = .ok (.aload_n 0, 1) := by decide +kernel
theorem dX9_rewrite_148 : decode cX9_rewrite 148 = .ok (.getfield 7, 3) := by decide +kernel
theorem dX9_rewrite_151 : decode cX9_rewrite 151 = .ok (.aload_n 0, 1) := by decide +kernel
theorem dX9_rewrite_152 : decode cX9_rewrite 152 = .ok (.iload_n 1, 1) := by decide +kernel
theorem dX9_rewrite_153 : decode cX9_rewrite 153 = .ok (.iconst 4, 1) := by decide +kernel
theorem dX9_rewrite_154 : decode cX9_rewrite 154 = .ok (.invokevirtual 111, 3) := by decide +kernel
theorem dX9_rewrite_157 : decode cX9_rewrite 157 = .ok (.aload_n 0, 1) := by decide +kernel
theorem dX9_rewrite_158 : decode cX9_rewrite 158 = .ok (.getfield 151, 3) := by decide +kernel
theorem dX9_rewrite_161 : decode cX9_rewrite 161 = .ok (.iastore, 1) := by decide +kernel
theorem dX9_rewrite_162 : decode cX9_rewrite 162 = .ok (.iconst 0, 1) := by decide +kernel
theorem dX9_rewrite_163 : decode cX9_rewrite 163 = .ok (.istore 4, 2) := by decide +kernel
theorem dX9_rewrite_165 : decode cX9_rewrite 165 = .ok (.iload 4, 2) := by decide +kernel
theorem dX9_rewrite_167 : decode cX9_rewrite 167 = .ok (.iconst 5, 1) := by decide +kernel
theorem dX9_rewrite_168 : decode cX9_rewrite 168 = .ok (.if_icmp .ge 162, 3) := by decide +kernel
theorem dX9_rewrite_171 : decode cX9_rewrite 171 = .ok (.iload 4, 2) := by decide +kernel
theorem dX9_rewrite_173 : decode cX9_rewrite 173 = .ok (.aload_n 0, 1) := by decide +kernel
theorem dX9_rewrite_174 : decode cX9_rewrite 174 = .ok (.getfield 151, 3) := by decide +kernel
theorem dX9_rewrite_177 : decode cX9_rewrite 177 = .ok (.if_icmp .ge 19, 3) := by decide +kernel
theorem dX9_rewrite_180 : decode cX9_rewrite 180 = .ok (.aload_n 0, 1) := by decide +kernel
theorem dX9_rewrite_181 : decode cX9_rewrite 181 = .ok (.getfield 20, 3) := by decide +kernel
theorem dX9_rewrite_184 : decode cX9_rewrite 184 = .ok (.iload 4, 2) := by decide +kernel
theorem dX9_rewrite_186 : decode cX9_rewrite 186 = .ok (.iaload, 1) := by decide +kernel
theorem dX9_rewrite_187 : decode cX9_rewrite 187 = .ok (.bipush (-9), 2) := by decide +kernel
theorem dX9_rewrite_189 : decode cX9_rewrite 189 = .ok (.if_icmp .eq 7, 3) := by decide +kernel
theorem dX9_rewrite_192 : decode cX9_rewrite 192 = .ok (.iconst 1, 1) := by decide +kernel
theorem dX9_rewrite_193 : decode cX9_rewrite 193 = .ok (.goto 4, 3) := by decide +kernel
theorem dX9_rewrite_196 : decode cX9_rewrite 196 = .ok (.iconst 0, 1) := by decide +kernel
theorem dX9_rewrite_197 : decode cX9_rewrite 197 = .ok (.istore 5, 2) := by decide +kernel
theorem dX9_rewrite_199 : decode cX9_rewrite 199 = .ok (.aload_n 0, 1) := by decide +kernel
theorem dX9_rewrite_200 : decode cX9_rewrite 200 = .ok (.getfield 7, 3) := by decide +kernel
theorem dX9_rewrite_203 : decode cX9_rewrite 203 = .ok (.aload_n 0, 1) := by decide +kernel
theorem dX9_rewrite_204 : decode cX9_rewrite 204 = .ok (.iload_n 1, 1) := by decide +kernel
theorem dX9_rewrite_205 : decode cX9_rewrite 205 = .ok (.iconst 5, 1) := by decide +kernel
theorem dX9_rewrite_206 : decode cX9_rewrite 206 = .ok (.iload 4, 2) := by decide +kernel
theorem dX9_rewrite_208 : decode cX9_rewrite 208 = .ok (.iadd, 1) := by decide +kernel
theorem dX9_rewrite_209 : decode cX9_rewrite 209 = .ok (.invokevirtual 111, 3) := by decide +kernel
theorem dX9_rewrite_212 : decode cX9_rewrite 212 = .ok (.iload 5, 2) := by decide +kernel
theorem dX9_rewrite_214 : decode cX9_rewrite 214 = .ok (.ifCond .eq 18, 3) := by decide +kernel
theorem dX9_rewrite_217 : decode cX9_rewrite 217 = .ok (.aload_n 0, 1) := by decide +kernel
theorem dX9_rewrite_218 : decode cX9_rewrite 218 = .ok (.getfield 35, 3) := by decide +kernel
theorem dX9_rewrite_221 : decode cX9_rewrite 221 = .ok (.aload_n 0, 1) := by decide +kernel
theorem dX9_rewrite_222 : decode cX9_rewrite 222 = .ok (.getfield 20, 3) := by decide +kernel
theorem dX9_rewrite_225 : decode cX9_rewrite 225 = .ok (.iload 4, 2) := by decide +kernel
theorem dX9_rewrite_227 : decode cX9_rewrite 227 = .ok (.iaload, 1) := by decide +kernel
theorem dX9_rewrite_228 : decode cX9_rewrite 228 = .ok (.iaload, 1) := by decide +kernel
theorem dX9_rewrite_229 : decode cX9_rewrite 229 = .ok (.goto 4, 3) := by decide +kernel
theorem dX9_rewrite_232 : decode cX9_rewrite 232 = .ok (.iconst 0, 1) := by decide +kernel
theorem dX9_rewrite_233 : decode cX9_rewrite 233 = .ok (.iastore, 1) := by decide +kernel
theorem dX9_rewrite_234 : decode cX9_rewrite 234 = .ok (.aload_n 0, 1) := by decide +kernel
theorem dX9_rewrite_235 : decode cX9_rewrite 235 = .ok (.getfield 7, 3) := by decide +kernel
theorem dX9_rewrite_238 : decode cX9_rewrite 238 = .ok (.aload_n 0, 1) := by decide +kernel
theorem dX9_rewrite_239 : decode cX9_rewrite 239 = .ok (.iload_n 1, 1) := by decide +kernel
theorem dX9_rewrite_240 : decode cX9_rewrite 240 = .ok (.bipush 10, 2) := by decide +kernel
theorem dX9_rewrite_242 : decode cX9_rewrite 242 = .ok (.iload 4, 2) := by decide +kernel
theorem dX9_rewrite_244 : decode cX9_rewrite 244 = .ok (.iadd, 1) := by decide +kernel
theorem dX9_rewrite_245 : decode cX9_rewrite 245 = .ok (.invokevirtual 111, 3) := by decide +kernel
theorem dX9_rewrite_248 : decode cX9_rewrite 248 = .ok (.iload 5, 2) := by decide +kernel
theorem dX9_rewrite_250 : decode cX9_rewrite 250 = .ok (.ifCond .eq 18, 3) := by decide +kernel
theorem dX9_rewrite_253 : decode cX9_rewrite 253 = .ok (.aload_n 0, 1) := by decide +kernel
theorem dX9_rewrite_254 : decode cX9_rewrite 254 = .ok (.getfield 38, 3) := by decide +kernel
theorem dX9_rewrite_257 : decode cX9_rewrite 257 = .ok (.aload_n 0, 1) := by decide +kernel
theorem dX9_rewrite_258 : decode cX9_rewrite 258 = .ok (.getfield 20, 3) := by decide +kernel
theorem dX9_rewrite_261 : decode cX9_rewrite 261 = .ok (.iload 4, 2) := by decide +kernel
theorem dX9_rewrite_263 : decode cX9_rewrite 263 = .ok (.iaload, 1) := by decide +kernel
theorem dX9_rewrite_264 : decode cX9_rewrite 264 = .ok (.iaload, 1) := by decide +kernel
theorem dX9_rewrite_265 : decode cX9_rewrite 265 = .ok (.goto 23, 3) := by decide +kernel
theorem dX9_rewrite_268 : decode cX9_rewrite 268 = .ok (.iload 4, 2) := by decide +kernel
theorem dX9_rewrite_270 : decode cX9_rewrite 270 = .ok (.aload_n 0, 1) := by decide +kernel
theorem dX9_rewrite_271 : decode cX9_rewrite 271 = .ok (.getfield 151, 3) := by decide +kernel
theorem dX9_rewrite_274 : decode cX9_rewrite 274 = .ok (.if_icmp .ge 13, 3) := by decide +kernel
theorem dX9_rewrite_277 : decode cX9_rewrite 277 = .ok (.aload_n 0, 1) := by decide +kernel
theorem dX9_rewrite_278 : decode cX9_rewrite 278 = .ok (.getfield 26, 3) := by decide +kernel
theorem dX9_rewrite_281 : decode cX9_rewrite 281 = .ok (.iload 4, 2) := by decide +kernel
theorem dX9_rewrite_283 : decode cX9_rewrite 283 = .ok (.iaload, 1) := by decide +kernel
theorem dX9_rewrite_284 : decode cX9_rewrite 284 = .ok (.goto 4, 3) := by decide +kernel
theorem dX9_rewrite_287 : decode cX9_rewrite 287 = .ok (.iconst 0, 1) := by decide +kernel
theorem dX9_rewrite_288 : decode cX9_rewrite 288 = .ok (.iastore, 1) := by decide +kernel
theorem dX9_rewrite_289 : decode cX9_rewrite 289 = .ok (.aload_n 0, 1) := by decide +kernel
theorem dX9_rewrite_290 : decode cX9_rewrite 290 = .ok (.getfield 7, 3) := by decide +kernel
theorem dX9_rewrite_293 : decode cX9_rewrite 293 = .ok (.aload_n 0, 1) := by decide +kernel
theorem dX9_rewrite_294 : decode cX9_rewrite 294 = .ok (.iload_n 1, 1) := by decide +kernel
theorem dX9_rewrite_295 : decode cX9_rewrite 295 = .ok (.bipush 15, 2) := by decide +kernel
theorem dX9_rewrite_297 : decode cX9_rewrite 297 = .ok (.iload 4, 2) := by decide +kernel
theorem dX9_rewrite_299 : decode cX9_rewrite 299 = .ok (.iadd, 1) := by decide +kernel
theorem dX9_rewrite_300 : decode cX9_rewrite 300 = .ok (.invokevirtual 111, 3) := by decide +kernel
theorem dX9_rewrite_303 : decode cX9_rewrite 303 = .ok (.iload 4, 2) := by decide +kernel
theorem dX9_rewrite_305 : decode cX9_rewrite 305 = .ok (.aload_n 0, 1) := by decide +kernel
theorem dX9_rewrite_306 : decode cX9_rewrite 306 = .ok (.getfield 151, 3) := by decide +kernel
theorem dX9_rewrite_309 : decode cX9_rewrite 309 = .ok (.if_icmp .ge 13, 3) := by decide +kernel
theorem dX9_rewrite_312 : decode cX9_rewrite 312 = .ok (.aload_n 0, 1) := by decide +kernel
theorem dX9_rewrite_313 : decode cX9_rewrite 313 = .ok (.getfield 23, 3) := by decide +kernel
theorem dX9_rewrite_316 : decode cX9_rewrite 316 = .ok (.iload 4, 2) := by decide +kernel
theorem dX9_rewrite_318 : decode cX9_rewrite 318 = .ok (.iaload, 1) := by decide +kernel
theorem dX9_rewrite_319 : decode cX9_rewrite 319 = .ok (.goto 4, 3) := by decide +kernel
theorem dX9_rewrite_322 : decode cX9_rewrite 322 = .ok (.iconst 0, 1) := by decide +kernel
theorem dX9_rewrite_323 : decode cX9_rewrite 323 = .ok (.iastore, 1) := by decide +kernel
theorem dX9_rewrite_324 : decode cX9_rewrite 324 = .ok (.iinc 4 1, 3) := by decide +kernel
theorem dX9_rewrite_327 : decode cX9_rewrite 327 = .ok (.goto (-162), 3) := by decide +kernel
theorem dX9_rewrite_330 : decode cX9_rewrite 330 = .ok (.return_, 1) := by decide +kernel
theorem dX9_change_0 : decode cX9_change 0 = .ok (.bipush 26, 2) := by decide +kernel
theorem dX9_change_2 : decode cX9_change 2 = .ok (.bipush 13, 2) := by decide +kernel
theorem dX9_change_4 : decode cX9_change 4 = .ok (.iload_n 1, 1) := by decide +kernel
theorem dX9_change_5 : decode cX9_change 5 = .ok (.imul, 1) := by decide +kernel
theorem dX9_change_6 : decode cX9_change 6 = .ok (.iadd, 1) := by decide +kernel
theorem dX9_change_7 : decode cX9_change 7 = .ok (.istore_n 2, 1) := by decide +kernel
theorem dX9_change_8 : decode cX9_change 8 = .ok (.aload_n 0, 1) := by decide +kernel
theorem dX9_change_9 : decode cX9_change 9 = .ok (.getfield 7, 3) := by decide +kernel
theorem dX9_change_12 : decode cX9_change 12 = .ok (.iload_n 2, 1) := by decide +kernel
theorem dX9_change_13 : decode cX9_change 13 = .ok (.iconst 2, 1) := by decide +kernel
theorem dX9_change_14 : decode cX9_change 14 = .ok (.iadd, 1) := by decide +kernel
theorem dX9_change_15 : decode cX9_change 15 = .ok (.aload_n 0, 1) := by decide +kernel
theorem dX9_change_16 : decode cX9_change 16 = .ok (.getfield 151, 3) := by decide +kernel
theorem dX9_change_19 : decode cX9_change 19 = .ok (.iastore, 1) := by decide +kernel
theorem dX9_change_20 : decode cX9_change 20 = .ok (.iconst 0, 1) := by decide +kernel
theorem dX9_change_21 : decode cX9_change 21 = .ok (.istore_n 3, 1) := by decide +kernel
theorem dX9_change_22 : decode cX9_change 22 = .ok (.iload_n 3, 1) := by decide +kernel
theorem dX9_change_23 : decode cX9_change 23 = .ok (.iconst 5, 1) := by decide +kernel
theorem dX9_change_24 : decode cX9_change 24 = .ok (.if_icmp .ge 66, 3) := by decide +kernel
theorem dX9_change_27 : decode cX9_change 27 = .ok (.aload_n 0, 1) := by decide +kernel
theorem dX9_change_28 : decode cX9_change 28 = .ok (.getfield 7, 3) := by decide +kernel
theorem dX9_change_31 : decode cX9_change 31 = .ok (.iload_n 2, 1) := by decide +kernel
theorem dX9_change_32 : decode cX9_change 32 = .ok (.iconst 3, 1) := by decide +kernel
theorem dX9_change_33 : decode cX9_change 33 = .ok (.iadd, 1) := by decide +kernel
theorem dX9_change_34 : decode cX9_change 34 = .ok (.iload_n 3, 1) := by decide +kernel
theorem dX9_change_35 : decode cX9_change 35 = .ok (.iadd, 1) := by decide +kernel
theorem dX9_change_36 : decode cX9_change 36 = .ok (.iload_n 3, 1) := by decide +kernel
theorem dX9_change_37 : decode cX9_change 37 = .ok (.aload_n 0, 1) := by decide +kernel
theorem dX9_change_38 : decode cX9_change 38 = .ok (.getfield 151, 3) := by decide +kernel
theorem dX9_change_41 : decode cX9_change 41 = .ok (.if_icmp .ge 12, 3) := by decide +kernel
theorem dX9_change_44 : decode cX9_change 44 = .ok (.aload_n 0, 1) := by decide +kernel
theorem dX9_change_45 : decode cX9_change 45 = .ok (.getfield 23, 3) := by decide +kernel
theorem dX9_change_48 : decode cX9_change 48 = .ok (.iload_n 3, 1) := by decide +kernel
theorem dX9_change_49 : decode cX9_change 49 = .ok (.iaload, 1) := by decide +kernel
theorem dX9_change_50 : decode cX9_change 50 = .ok (.goto 4, 3) := by decide +kernel
theorem dX9_change_53 : decode cX9_change 53 = .ok (.iconst 0, 1) := by decide +kernel
theorem dX9_change_54 : decode cX9_change 54 = .ok (.iastore, 1) := by decide +kernel
theorem dX9_change_55 : decode cX9_change 55 = .ok (.aload_n 0, 1) := by decide +kernel
theorem dX9_change_56 : decode cX9_change 56 = .ok (.getfield 7, 3) := by decide +kernel
theorem dX9_change_59 : decode cX9_change 59 = .ok (.iload_n 2, 1) := by decide +kernel
theorem dX9_change_60 : decode cX9_change 60 = .ok (.bipush 8, 2) := by decide +kernel
theorem dX9_change_62 : decode cX9_change 62 = .ok (.iadd, 1) := by decide +kernel
theorem dX9_change_63 : decode cX9_change 63 = .ok (.iload_n 3, 1) := by decide +kernel
theorem dX9_change_64 : decode cX9_change 64 = .ok (.iadd, 1) := by decide +kernel
theorem dX9_change_65 : decode cX9_change 65 = .ok (.iload_n 3, 1) := by decide +kernel
theorem dX9_change_66 : decode cX9_change 66 = .ok (.aload_n 0, 1) := by decide +kernel
theorem dX9_change_67 : decode cX9_change 67 = .ok (.getfield 151, 3) := by decide +kernel
theorem dX9_change_70 : decode cX9_change 70 = .ok (.if_icmp .ge 12, 3) := by decide +kernel
theorem dX9_change_73 : decode cX9_change 73 = .ok (.aload_n 0, 1) := by decide +kernel
theorem dX9_change_74 : decode cX9_change 74 = .ok (.getfield 26, 3) := by decide +kernel
theorem dX9_change_77 : decode cX9_change 77 = .ok (.iload_n 3, 1) := by decide +kernel
theorem dX9_change_78 : decode cX9_change 78 = .ok (.iaload, 1) := by decide +kernel
theorem dX9_change_79 : decode cX9_change 79 = .ok (.goto 4, 3) := by decide +kernel
theorem dX9_change_82 : decode cX9_change 82 = .ok (.iconst 0, 1) := by decide +kernel
theorem dX9_change_83 : decode cX9_change 83 = .ok (.iastore, 1) := by decide +kernel
theorem dX9_change_84 : decode cX9_change 84 = .ok (.iinc 3 1, 3) := by decide +kernel
theorem dX9_change_87 : decode cX9_change 87 = .ok (.goto (-65), 3) := by decide +kernel
theorem dX9_change_90 : decode cX9_change 90 = .ok (.return_, 1) := by decide +kernel
set_option maxRecDepth 20000 in
theorem ggX9_applyChange_X9_clash : GoodIn wsX9_applyChange wsX9_clash := goodIn_r _ [7, 1, 2, 8, 9, 10, 6, 11, 12, 13, 14, 15, 16, 17, 18, 19, 20, 21, 22, 23, 24, 25, 26, 27, 28, 29, 30, 31, 32, 33, 34, 35, 36, 37, 38, 39, 40, 41, 42, 43, 114, 115, 116, 117, 118, 119, 120, 121, 122, 123, 124, 125, 126] (by decide +kernel) (by decide +kernel)
set_option maxRecDepth 20000 in
theorem gX9_applyChange_X9_clash : GoodIn wsX9_applyChange (wsV RX9 166 RX9 yX9_clash wsX9_clash) := goodIn_app (goodIn_of _ (by decide +kernel)) ggX9_applyChange_X9_clash
set_option maxRecDepth 20000 in
theorem ggX9_applyChange_X9_isBarred : GoodIn wsX9_applyChange wsX9_isBarred := goodIn_r _ [47, 2, 43, 1, 48, 49, 50, 6, 51, 52, 53, 54, 55, 56, 57, 58, 59, 8, 9, 10, 11, 12, 13, 14, 15, 16, 17, 18, 19, 20, 21, 22, 23, 24, 25, 26, 27, 28, 29, 30, 31, 32, 33, 34, 35, 36, 37, 38, 60, 61, 62, 63, 64, 114, 115, 116, 117, 118, 119, 120, 121, 122, 123, 124, 125, 126] (by decide +kernel) (by decide +kernel)
set_option maxRecDepth 20000 in
theorem gX9_applyChange_X9_isBarred : GoodIn wsX9_applyChange (wsV RX9 200 RX9 yX9_isBarred wsX9_isBarred) := goodIn_app (goodIn_of _ (by decide +kernel)) ggX9_applyChange_X9_isBarred
set_option maxRecDepth 20000 in
theorem ggX9_applyChange_X9_hasRoom : GoodIn wsX9_applyChange wsX9_hasRoom := goodIn_r _ [68, 2, 48, 49, 50, 6, 51, 52, 53, 54, 55, 56, 57, 58, 59, 1, 8, 9, 10, 11, 12, 13, 14, 15, 16, 17, 18, 19, 20, 21, 22, 23, 24, 25, 26, 27, 28, 29, 30, 31, 32, 33, 34, 35, 36, 37, 38, 69, 70, 71, 72, 73, 74, 75, 76, 77, 78, 79, 80, 81, 82, 83, 43, 84, 85, 86, 87, 88, 89, 90, 91, 92, 93, 94, 95, 96, 114, 115, 116, 117, 118, 119, 120, 121, 122, 123, 124, 125, 126] (by decide +kernel) (by decide +kernel)
set_option maxRecDepth 20000 in
theorem gX9_applyChange_X9_hasRoom : GoodIn wsX9_applyChange (wsV RX9 203 RX9 yX9_hasRoom wsX9_hasRoom) := goodIn_app (goodIn_of _ (by decide +kernel)) ggX9_applyChange_X9_hasRoom
set_option maxRecDepth 20000 in
theorem ggX9_applyChange_X9_edit : GoodIn wsX9_applyChange wsX9_edit := goodIn_r _ [100, 1, 101, 102, 2, 114, 115, 116, 117, 118, 119, 120, 121, 122, 123, 124, 125, 126] (by decide +kernel) (by decide +kernel)
set_option maxRecDepth 20000 in
theorem gX9_applyChange_X9_edit : GoodIn wsX9_applyChange (wsV RX9 86 RX9 yX9_edit wsX9_edit) := goodIn_app (goodIn_of _ (by decide +kernel)) ggX9_applyChange_X9_edit
set_option maxRecDepth 20000 in
theorem ggX9_applyChange_X9_familyOf : GoodIn wsX9_applyChange wsX9_familyOf := goodIn_r _ [11, 2, 12, 13, 6, 14, 15, 16, 17, 18, 19, 20, 21, 22, 23, 24, 25, 26, 27, 28, 29, 30, 31, 32, 33, 34, 35, 36, 37, 38, 114, 115, 116, 117, 118, 119, 120, 121, 122, 123, 124, 125, 126] (by decide +kernel) (by decide +kernel)
set_option maxRecDepth 20000 in
theorem gX9_applyChange_X9_familyOf : GoodIn wsX9_applyChange (wsV RX9 108 RX9 yX9_familyOf wsX9_familyOf) := goodIn_app (goodIn_of _ (by decide +kernel)) ggX9_applyChange_X9_familyOf
set_option maxRecDepth 20000 in
theorem ggX9_applyChange_X9_isFrozen : GoodIn wsX9_applyChange wsX9_isFrozen := goodIn_r _ [51, 2, 52, 53, 54, 6, 55, 114, 115, 116, 117, 118, 119, 120, 121, 122, 123, 124, 125, 126] (by decide +kernel) (by decide +kernel)
set_option maxRecDepth 20000 in
theorem gX9_applyChange_X9_isFrozen : GoodIn wsX9_applyChange (wsV RX9 123 RX9 yX9_isFrozen wsX9_isFrozen) := goodIn_app (goodIn_of _ (by decide +kernel)) ggX9_applyChange_X9_isFrozen
set_option maxRecDepth 20000 in
theorem ggX9_applyChange_X9_at : GoodIn wsX9_applyChange wsX9_at := goodIn_r _ [55] (by decide +kernel) (by decide +kernel)
set_option maxRecDepth 20000 in
theorem gX9_applyChange_X9_at : GoodIn wsX9_applyChange (wsV RX9 111 RX9 yX9_at wsX9_at) := goodIn_app (goodIn_of _ (by decide +kernel)) ggX9_applyChange_X9_at
set_option maxRecDepth 20000 in
theorem ggX9_applyChange_X9_has : GoodIn wsX9_applyChange wsX9_has := goodIn_r _ [14] (by decide +kernel) (by decide +kernel)
set_option maxRecDepth 20000 in
theorem gX9_applyChange_X9_has : GoodIn wsX9_applyChange (va_wsS RX9 48 yX9_has wsX9_has) := goodIn_app (goodIn_of _ (by decide +kernel)) ggX9_applyChange_X9_has
set_option maxRecDepth 20000 in
theorem ggX9_applyChange_X9_rewrite : GoodIn wsX9_applyChange wsX9_rewrite := goodIn_r _ [106, 2, 107, 108, 43, 84, 109, 64, 69, 70, 71, 6, 72, 52, 53, 54, 55, 73, 74, 75, 76, 77, 78, 79, 80, 81, 82, 83, 12, 13, 14, 85, 86, 87, 88, 89, 90, 91, 92, 93, 94, 95, 96, 114, 115, 116, 117, 118, 119, 120, 121, 122, 123, 124, 125, 126] (by decide +kernel) (by decide +kernel)
set_option maxRecDepth 20000 in
theorem gX9_applyChange_X9_rewrite : GoodIn wsX9_applyChange (wsV RX9 206 RX9 yX9_rewrite wsX9_rewrite) := goodIn_app (goodIn_of _ (by decide +kernel)) ggX9_applyChange_X9_rewrite
set_option maxRecDepth 20000 in
theorem ggX9_applyChange_X9_change : GoodIn wsX9_applyChange wsX9_change := goodIn_r _ [113, 2, 43, 64, 109, 114, 115, 116, 117, 118, 119, 120, 121, 122, 123, 124, 125, 126] (by decide +kernel) (by decide +kernel)
set_option maxRecDepth 20000 in
theorem gX9_applyChange_X9_change : GoodIn wsX9_applyChange (wsV RX9 209 RX9 yX9_change wsX9_change) := goodIn_app (goodIn_of _ (by decide +kernel)) ggX9_applyChange_X9_change
theorem dX9_applyChange_0 : decode cX9_applyChange 0 = .ok (.aload_n 0, 1) := by decide +kernel
theorem dX9_applyChange_1 : decode cX9_applyChange 1 = .ok (.getfield 16, 3) := by decide +kernel
theorem dX9_applyChange_4 : decode cX9_applyChange 4 = .ok (.bipush (-9), 2) := by decide +kernel
theorem dX9_applyChange_6 : decode cX9_applyChange 6 = .ok (.if_icmp .eq 19, 3) := by decide +kernel
theorem dX9_applyChange_9 : decode cX9_applyChange 9 = .ok (.aload_n 0, 1) := by decide +kernel
theorem dX9_applyChange_10 : decode cX9_applyChange 10 = .ok (.invokevirtual 166, 3) := by decide +kernel
theorem dX9_applyChange_13 : decode cX9_applyChange 13 = .ok (.bipush (-9), 2) := by decide +kernel
theorem dX9_applyChange_15 : decode cX9_applyChange 15 = .ok (.if_icmp .ne 10, 3) := by decide +kernel
theorem dX9_applyChange_18 : decode cX9_applyChange 18 = .ok (.aload_n 0, 1) := by decide +kernel
theorem dX9_applyChange_19 : decode cX9_applyChange 19 = .ok (.invokevirtual 200, 3) := by decide +kernel
theorem dX9_applyChange_22 : decode cX9_applyChange 22 = .ok (.ifCond .eq 6, 3) := by decide +kernel
theorem dX9_applyChange_25 : decode cX9_applyChange 25 = .ok (.bipush (-2), 2) := by decide +kernel
theorem dX9_applyChange_27 : decode cX9_applyChange 27 = .ok (.ireturn, 1) := by decide +kernel
theorem dX9_applyChange_28 : decode cX9_applyChange 28 = .ok (.aload_n 0, 1) := by decide +kernel
theorem dX9_applyChange_29 : decode cX9_applyChange 29 = .ok (.invokevirtual 203, 3) := by decide +kernel
theorem dX9_applyChange_32 : decode cX9_applyChange 32 = .ok (.ifCond .ne 6, 3) := by decide +kernel
theorem dX9_applyChange_35 : decode cX9_applyChange 35 = .ok (.bipush (-3), 2) := by decide +kernel
theorem dX9_applyChange_37 : decode cX9_applyChange 37 = .ok (.ireturn, 1) := by decide +kernel
theorem dX9_applyChange_38 : decode cX9_applyChange 38 = .ok (.aload_n 0, 1) := by decide +kernel
theorem dX9_applyChange_39 : decode cX9_applyChange 39 = .ok (.getfield 16, 3) := by decide +kernel
theorem dX9_applyChange_42 : decode cX9_applyChange 42 = .ok (.istore_n 1, 1) := by decide +kernel
theorem dX9_applyChange_43 : decode cX9_applyChange 43 = .ok (.aload_n 0, 1) := by decide +kernel
theorem dX9_applyChange_44 : decode cX9_applyChange 44 = .ok (.invokevirtual 86, 3) := by decide +kernel
theorem dX9_applyChange_47 : decode cX9_applyChange 47 = .ok (.aload_n 0, 1) := by decide +kernel
theorem dX9_applyChange_48 : decode cX9_applyChange 48 = .ok (.iload_n 1, 1) := by decide +kernel
theorem dX9_applyChange_49 : decode cX9_applyChange 49 = .ok (.putfield 16, 3) := by decide +kernel
theorem dX9_applyChange_52 : decode cX9_applyChange 52 = .ok (.aload_n 0, 1) := by decide +kernel
theorem dX9_applyChange_53 : decode cX9_applyChange 53 = .ok (.iload_n 1, 1) := by decide +kernel
theorem dX9_applyChange_54 : decode cX9_applyChange 54 = .ok (.invokevirtual 108, 3) := by decide +kernel
theorem dX9_applyChange_57 : decode cX9_applyChange 57 = .ok (.istore_n 2, 1) := by decide +kernel
theorem dX9_applyChange_58 : decode cX9_applyChange 58 = .ok (.iconst 0, 1) := by decide +kernel
theorem dX9_applyChange_59 : decode cX9_applyChange 59 = .ok (.istore_n 3, 1) := by decide +kernel
theorem dX9_applyChange_60 : decode cX9_applyChange 60 = .ok (.iconst 0, 1) := by decide +kernel
theorem dX9_applyChange_61 : decode cX9_applyChange 61 = .ok (.istore 4, 2) := by decide +kernel
theorem dX9_applyChange_63 : decode cX9_applyChange 63 = .ok (.iload 4, 2) := by decide +kernel
theorem dX9_applyChange_65 : decode cX9_applyChange 65 = .ok (.aload_n 0, 1) := by decide +kernel
theorem dX9_applyChange_66 : decode cX9_applyChange 66 = .ok (.getfield 7, 3) := by decide +kernel
theorem dX9_applyChange_69 : decode cX9_applyChange 69 = .ok (.sipush 234, 3) := by decide +kernel
theorem dX9_applyChange_72 : decode cX9_applyChange 72 = .ok (.iaload, 1) := by decide +kernel
theorem dX9_applyChange_73 : decode cX9_applyChange 73 = .ok (.if_icmp .ge 46, 3) := by decide +kernel
theorem dX9_applyChange_76 : decode cX9_applyChange 76 = .ok (.aload_n 0, 1) := by decide +kernel
theorem dX9_applyChange_77 : decode cX9_applyChange 77 = .ok (.iload 4, 2) := by decide +kernel
theorem dX9_applyChange_79 : decode cX9_applyChange 79 = .ok (.invokevirtual 123, 3) := by decide +kernel
theorem dX9_applyChange_82 : decode cX9_applyChange 82 = .ok (.ifCond .ne 31, 3) := by decide +kernel
theorem dX9_applyChange_85 : decode cX9_applyChange 85 = .ok (.iload_n 2, 1) := by decide +kernel
theorem dX9_applyChange_86 : decode cX9_applyChange 86 = .ok (.aload_n 0, 1) := by decide +kernel
theorem dX9_applyChange_87 : decode cX9_applyChange 87 = .ok (.getfield 7, 3) := by decide +kernel
theorem dX9_applyChange_90 : decode cX9_applyChange 90 = .ok (.aload_n 0, 1) := by decide +kernel
theorem dX9_applyChange_91 : decode cX9_applyChange 91 = .ok (.iload 4, 2) := by decide +kernel
theorem dX9_applyChange_93 : decode cX9_applyChange 93 = .ok (.iconst 2, 1) := by decide +kernel
theorem dX9_applyChange_94 : decode cX9_applyChange 94 = .ok (.invokevirtual 111, 3) := by decide +kernel
theorem dX9_applyChange_97 : decode cX9_applyChange 97 = .ok (.iaload, 1) := by decide +kernel
theorem dX9_applyChange_98 : decode cX9_applyChange 98 = .ok (.invokestatic 48, 3) := by decide +kernel
theorem dX9_applyChange_101 : decode cX9_applyChange 101 = .ok (.ifCond .eq 12, 3) := by decide +kernel
theorem dX9_applyChange_104 : decode cX9_applyChange 104 = .ok (.aload_n 0, 1) := by decide +kernel
theorem dX9_applyChange_105 : decode cX9_applyChange 105 = .ok (.iload 4, 2) := by decide +kernel
theorem dX9_applyChange_107 : decode cX9_applyChange 107 = .ok (.invokevirtual 206, 3) := by decide +kernel
theorem dX9_applyChange_110 : decode cX9_applyChange 110 = .ok (.iinc 3 1, 3) := by decide +kernel
theorem dX9_applyChange_113 : decode cX9_applyChange 113 = .ok (.iinc 4 1, 3) := by decide +kernel
theorem dX9_applyChange_116 : decode cX9_applyChange 116 = .ok (.goto (-53), 3) := by decide +kernel
theorem dX9_applyChange_119 : decode cX9_applyChange 119 = .ok (.iconst 0, 1) := by decide +kernel
theorem dX9_applyChange_120 : decode cX9_applyChange 120 = .ok (.istore 4, 2) := by decide +kernel
theorem dX9_applyChange_122 : decode cX9_applyChange 122 = .ok (.iload 4, 2) := by decide +kernel
theorem dX9_applyChange_124 : decode cX9_applyChange 124 = .ok (.aload_n 0, 1) := by decide +kernel
theorem dX9_applyChange_125 : decode cX9_applyChange 125 = .ok (.getfield 7, 3) := by decide +kernel
theorem dX9_applyChange_128 : decode cX9_applyChange 128 = .ok (.bipush 25, 2) := by decide +kernel
theorem dX9_applyChange_130 : decode cX9_applyChange 130 = .ok (.iaload, 1) := by decide +kernel
theorem dX9_applyChange_131 : decode cX9_applyChange 131 = .ok (.if_icmp .ge 24, 3) := by decide +kernel
theorem dX9_applyChange_134 : decode cX9_applyChange 134 = .ok (.iload_n 2, 1) := by decide +kernel
theorem dX9_applyChange_135 : decode cX9_applyChange 135 = .ok (.iload 4, 2) := by decide +kernel
theorem dX9_applyChange_137 : decode cX9_applyChange 137 = .ok (.invokestatic 48, 3) := by decide +kernel
theorem dX9_applyChange_140 : decode cX9_applyChange 140 = .ok (.ifCond .eq 9, 3) := by decide +kernel
theorem dX9_applyChange_143 : decode cX9_applyChange 143 = .ok (.aload_n 0, 1) := by decide +kernel
theorem dX9_applyChange_144 : decode cX9_applyChange 144 = .ok (.iload 4, 2) := by decide +kernel
theorem dX9_applyChange_146 : decode cX9_applyChange 146 = .ok (.invokevirtual 209, 3) := by decide +kernel
theorem dX9_applyChange_149 : decode cX9_applyChange 149 = .ok (.iinc 4 1, 3) := by decide +kernel
theorem dX9_applyChange_152 : decode cX9_applyChange 152 = .ok (.goto (-30), 3) := by decide +kernel
theorem dX9_applyChange_155 : decode cX9_applyChange 155 = .ok (.aload_n 0, 1) := by decide +kernel
theorem dX9_applyChange_156 : decode cX9_applyChange 156 = .ok (.bipush (-9), 2) := by decide +kernel
theorem dX9_applyChange_158 : decode cX9_applyChange 158 = .ok (.putfield 16, 3) := by decide +kernel
theorem dX9_applyChange_161 : decode cX9_applyChange 161 = .ok (.iload_n 3, 1) := by decide +kernel
theorem dX9_applyChange_162 : decode cX9_applyChange 162 = .ok (.ireturn, 1) := by decide +kernel
theorem dJ6_bitCount_0f7a4_0 : decode cJ6_bitCount_0f7a4 0 = .ok (.iload_n 0, 1) := by decide +kernel
theorem dJ6_bitCount_0f7a4_1 : decode cJ6_bitCount_0f7a4 1 = .ok (.iload_n 0, 1) := by decide +kernel
theorem dJ6_bitCount_0f7a4_2 : decode cJ6_bitCount_0f7a4 2 = .ok (.iconst 1, 1) := by decide +kernel
theorem dJ6_bitCount_0f7a4_3 : decode cJ6_bitCount_0f7a4 3 = .ok (.iushr, 1) := by decide +kernel
theorem dJ6_bitCount_0f7a4_4 : decode cJ6_bitCount_0f7a4 4 = .ok (.ldc_w 265, 3) := by decide +kernel
theorem dJ6_bitCount_0f7a4_7 : decode cJ6_bitCount_0f7a4 7 = .ok (.iand, 1) := by decide +kernel
theorem dJ6_bitCount_0f7a4_8 : decode cJ6_bitCount_0f7a4 8 = .ok (.isub, 1) := by decide +kernel
theorem dJ6_bitCount_0f7a4_9 : decode cJ6_bitCount_0f7a4 9 = .ok (.istore_n 0, 1) := by decide +kernel
theorem dJ6_bitCount_0f7a4_10 : decode cJ6_bitCount_0f7a4 10 = .ok (.iload_n 0, 1) := by decide +kernel
theorem dJ6_bitCount_0f7a4_11 : decode cJ6_bitCount_0f7a4 11 = .ok (.ldc_w 266, 3) := by decide +kernel
theorem dJ6_bitCount_0f7a4_14 : decode cJ6_bitCount_0f7a4 14 = .ok (.iand, 1) := by decide +kernel
theorem dJ6_bitCount_0f7a4_15 : decode cJ6_bitCount_0f7a4 15 = .ok (.iload_n 0, 1) := by decide +kernel
theorem dJ6_bitCount_0f7a4_16 : decode cJ6_bitCount_0f7a4 16 = .ok (.iconst 2, 1) := by decide +kernel
theorem dJ6_bitCount_0f7a4_17 : decode cJ6_bitCount_0f7a4 17 = .ok (.iushr, 1) := by decide +kernel
theorem dJ6_bitCount_0f7a4_18 : decode cJ6_bitCount_0f7a4 18 = .ok (.ldc_w 266, 3) := by decide +kernel
theorem dJ6_bitCount_0f7a4_21 : decode cJ6_bitCount_0f7a4 21 = .ok (.iand, 1) := by decide +kernel
theorem dJ6_bitCount_0f7a4_22 : decode cJ6_bitCount_0f7a4 22 = .ok (.iadd, 1) := by decide +kernel
theorem dJ6_bitCount_0f7a4_23 : decode cJ6_bitCount_0f7a4 23 = .ok (.istore_n 0, 1) := by decide +kernel
theorem dJ6_bitCount_0f7a4_24 : decode cJ6_bitCount_0f7a4 24 = .ok (.iload_n 0, 1) := by decide +kernel
theorem dJ6_bitCount_0f7a4_25 : decode cJ6_bitCount_0f7a4 25 = .ok (.iload_n 0, 1) := by decide +kernel
theorem dJ6_bitCount_0f7a4_26 : decode cJ6_bitCount_0f7a4 26 = .ok (.iconst 4, 1) := by decide +kernel
theorem dJ6_bitCount_0f7a4_27 : decode cJ6_bitCount_0f7a4 27 = .ok (.iushr, 1) := by decide +kernel
theorem dJ6_bitCount_0f7a4_28 : decode cJ6_bitCount_0f7a4 28 = .ok (.iadd, 1) := by decide +kernel
theorem dJ6_bitCount_0f7a4_29 : decode cJ6_bitCount_0f7a4 29 = .ok (.ldc_w 267, 3) := by decide +kernel
theorem dJ6_bitCount_0f7a4_32 : decode cJ6_bitCount_0f7a4 32 = .ok (.iand, 1) := by decide +kernel
theorem dJ6_bitCount_0f7a4_33 : decode cJ6_bitCount_0f7a4 33 = .ok (.istore_n 0, 1) := by decide +kernel
theorem dJ6_bitCount_0f7a4_34 : decode cJ6_bitCount_0f7a4 34 = .ok (.iload_n 0, 1) := by decide +kernel
theorem dJ6_bitCount_0f7a4_35 : decode cJ6_bitCount_0f7a4 35 = .ok (.iload_n 0, 1) := by decide +kernel
theorem dJ6_bitCount_0f7a4_36 : decode cJ6_bitCount_0f7a4 36 = .ok (.bipush 8, 2) := by decide +kernel
theorem dJ6_bitCount_0f7a4_38 : decode cJ6_bitCount_0f7a4 38 = .ok (.iushr, 1) := by decide +kernel
theorem dJ6_bitCount_0f7a4_39 : decode cJ6_bitCount_0f7a4 39 = .ok (.iadd, 1) := by decide +kernel
theorem dJ6_bitCount_0f7a4_40 : decode cJ6_bitCount_0f7a4 40 = .ok (.istore_n 0, 1) := by decide +kernel
theorem dJ6_bitCount_0f7a4_41 : decode cJ6_bitCount_0f7a4 41 = .ok (.iload_n 0, 1) := by decide +kernel
theorem dJ6_bitCount_0f7a4_42 : decode cJ6_bitCount_0f7a4 42 = .ok (.iload_n 0, 1) := by decide +kernel
theorem dJ6_bitCount_0f7a4_43 : decode cJ6_bitCount_0f7a4 43 = .ok (.bipush 16, 2) := by decide +kernel
theorem dJ6_bitCount_0f7a4_45 : decode cJ6_bitCount_0f7a4 45 = .ok (.iushr, 1) := by decide +kernel
theorem dJ6_bitCount_0f7a4_46 : decode cJ6_bitCount_0f7a4 46 = .ok (.iadd, 1) := by decide +kernel
theorem dJ6_bitCount_0f7a4_47 : decode cJ6_bitCount_0f7a4 47 = .ok (.istore_n 0, 1) := by decide +kernel
theorem dJ6_bitCount_0f7a4_48 : decode cJ6_bitCount_0f7a4 48 = .ok (.iload_n 0, 1) := by decide +kernel
theorem dJ6_bitCount_0f7a4_49 : decode cJ6_bitCount_0f7a4 49 = .ok (.bipush 63, 2) := by decide +kernel
theorem dJ6_bitCount_0f7a4_51 : decode cJ6_bitCount_0f7a4 51 = .ok (.iand, 1) := by decide +kernel
theorem dJ6_bitCount_0f7a4_52 : decode cJ6_bitCount_0f7a4 52 = .ok (.ireturn, 1) := by decide +kernel
theorem dJ9_min_7cf53_0 : decode cJ9_min_7cf53 0 = .ok (.iload_n 0, 1) := by decide +kernel
theorem dJ9_min_7cf53_1 : decode cJ9_min_7cf53 1 = .ok (.iload_n 1, 1) := by decide +kernel
theorem dJ9_min_7cf53_2 : decode cJ9_min_7cf53 2 = .ok (.if_icmp .gt 7, 3) := by decide +kernel
theorem dJ9_min_7cf53_5 : decode cJ9_min_7cf53 5 = .ok (.iload_n 0, 1) := by decide +kernel
theorem dJ9_min_7cf53_6 : decode cJ9_min_7cf53 6 = .ok (.goto 4, 3) := by decide +kernel
theorem dJ9_min_7cf53_9 : decode cJ9_min_7cf53 9 = .ok (.iload_n 1, 1) := by decide +kernel
theorem dJ9_min_7cf53_10 : decode cJ9_min_7cf53 10 = .ok (.ireturn, 1) := by decide +kernel
set_option maxRecDepth 20000 in
theorem ggL_law_X8_init : GoodIn wsL_law wsX8_init := goodIn_r _ [8, 9, 10, 11, 12, 13, 14, 15, 16, 17, 18, 19, 20, 21, 22, 23, 24, 25, 26, 27, 28, 29, 30, 31, 32, 33, 34, 35, 36, 37, 38, 39, 40, 41, 42, 43, 44, 45, 46, 47, 48, 49, 50, 51, 52, 53, 54, 55, 56, 57, 58, 59, 60, 61, 62, 63, 64, 65, 66, 67, 68, 69, 70, 71, 72, 73, 74, 75, 76, 77, 78, 79, 80, 81, 82, 83, 84, 85, 86, 87, 88, 89, 90, 91, 92, 93, 94, 95, 96, 941, 942, 943, 922, 923, 924, 925, 926, 927, 944, 945, 946, 947, 948, 949, 950, 951, 952, 953, 954, 955, 956, 957, 958, 959, 960, 961, 962, 963, 964, 965, 966, 967, 968, 969, 970, 971, 972, 973, 974, 975, 976, 977, 978, 979, 980, 981, 982, 983, 984, 985] (by decide +kernel) (by decide +kernel)
set_option maxRecDepth 20000 in
theorem gL_law_X8_init : GoodIn wsL_law (wsX8_init) := ggL_law_X8_init
set_option maxRecDepth 20000 in
theorem ggL_law_X9_init : GoodIn wsL_law wsX9_init := goodIn_r _ [99, 100, 10, 11, 32, 101, 102, 103, 104, 105, 106, 107, 108, 109, 110, 928, 929, 930, 931, 932, 933, 934, 935, 936, 937, 938, 939, 940] (by decide +kernel) (by decide +kernel)
set_option maxRecDepth 20000 in
theorem gL_law_X9_init : GoodIn wsL_law (wsX9_init) := ggL_law_X9_init
set_option maxRecDepth 20000 in
theorem ggL_law_X8_declareType : GoodIn wsL_law wsX8_declareType := goodIn_r _ [114, 15, 115, 116, 117, 118, 119, 120, 39, 121, 122, 123, 124, 125, 126, 127, 128, 129, 130, 131, 132, 2, 133, 134, 135, 136, 137, 138, 139, 140, 141, 52, 142, 143, 144, 43, 145, 146, 56, 57, 58, 147, 148, 149, 150, 151, 152, 153, 154, 155, 156, 157, 158, 159, 160, 161, 162, 163, 164, 165, 166, 167, 168, 59, 169, 170, 171, 172, 60, 173, 174, 175, 176, 23, 19, 177, 178, 179, 22, 180, 86, 181, 182, 183, 184, 185, 186, 187, 188, 189, 14, 190, 40, 44, 48, 191, 192, 193, 194, 195, 196, 197, 198, 199, 200, 201, 202, 203, 204, 205, 206, 207, 208, 47, 209, 210, 211, 64, 65, 66, 67, 68, 69, 70, 71, 72, 212, 213, 214, 18, 215, 216, 217, 218, 219, 220, 922, 923, 924, 925, 926, 927, 941, 942, 943, 964, 965, 966, 967, 968, 969, 970, 971, 972, 954, 955, 956, 973, 974, 975, 976, 977, 978, 979, 980, 981, 982, 983, 984, 985, 944, 945, 946, 947, 948, 949, 950, 951, 952, 953] (by decide +kernel) (by decide +kernel)
set_option maxRecDepth 20000 in
theorem gL_law_X8_declareType : GoodIn wsL_law (wsV RL 13 RX8 yX8_declareType wsX8_declareType) := goodIn_app (goodIn_of _ (by decide +kernel)) ggL_law_X8_declareType
set_option maxRecDepth 20000 in
theorem ggL_law_X9_declareType : GoodIn wsL_law wsX9_declareType := goodIn_r _ [224, 101, 225, 226, 5, 227, 228, 229, 230, 231, 232, 233, 234, 235, 236, 237, 238, 239, 240, 241, 242, 243, 244, 245, 246, 247, 248, 249, 250, 251, 252, 253, 254, 255, 256, 257, 258, 259, 260, 261, 262, 263, 264, 265, 266, 267, 268, 269, 270, 103, 271, 102, 928, 929, 930, 931, 932, 933, 934, 935, 936, 937, 938, 939, 940] (by decide +kernel) (by decide +kernel)
set_option maxRecDepth 20000 in
theorem gL_law_X9_declareType : GoodIn wsL_law (wsV RL 17 RX9 yX9_declareType wsX9_declareType) := goodIn_app (goodIn_of _ (by decide +kernel)) ggL_law_X9_declareType
set_option maxRecDepth 20000 in
theorem ggL_law_X8_declareMethod : GoodIn wsL_law wsX8_declareMethod := goodIn_r _ [275, 15, 116, 115, 276, 277, 128, 129, 39, 130, 131, 278, 279, 2, 280, 281, 151, 152, 282, 283, 284, 285, 52, 286, 148, 149, 43, 150, 146, 57, 58, 56, 132, 133, 287, 288, 289, 290, 147, 157, 158, 159, 160, 291, 154, 155, 156, 161, 162, 163, 164, 165, 166, 167, 168, 59, 169, 170, 171, 172, 60, 173, 174, 175, 176, 23, 19, 177, 178, 179, 22, 180, 86, 181, 182, 183, 184, 185, 186, 187, 188, 189, 14, 190, 40, 44, 48, 191, 192, 193, 194, 126, 195, 196, 197, 198, 199, 200, 201, 202, 203, 204, 205, 206, 207, 208, 47, 209, 210, 211, 64, 65, 66, 67, 68, 69, 70, 71, 72, 212, 213, 214, 18, 215, 216, 292, 293, 294, 295, 296, 297, 298, 299, 300, 922, 923, 924, 925, 926, 927, 941, 942, 943, 967, 968, 969, 970, 971, 972, 964, 965, 966, 954, 955, 956, 973, 974, 975, 976, 977, 978, 979, 980, 981, 982, 983, 984, 985, 944, 945, 946, 947, 948, 949, 950, 951, 952, 953] (by decide +kernel) (by decide +kernel)
set_option maxRecDepth 20000 in
theorem gL_law_X8_declareMethod : GoodIn wsL_law (wsV RL 18 RX8 yX8_declareMethod wsX8_declareMethod) := goodIn_app (goodIn_of _ (by decide +kernel)) ggL_law_X8_declareMethod
set_option maxRecDepth 20000 in
theorem ggL_law_X9_declareMethod : GoodIn wsL_law wsX9_declareMethod := goodIn_r _ [304, 101, 236, 237, 238, 5, 239, 225, 226, 227, 305, 306, 307, 308, 259, 260, 261, 262, 251, 252, 253, 254, 309, 310, 311, 312, 313, 314, 315, 316, 240, 241, 242, 243, 244, 245, 246, 317, 318, 319, 320, 321, 322, 323, 324, 325, 326, 327, 328, 263, 264, 265, 266, 267, 268, 269, 270, 103, 271, 102, 928, 929, 930, 931, 932, 933, 934, 935, 936, 937, 938, 939, 940] (by decide +kernel) (by decide +kernel)
set_option maxRecDepth 20000 in
theorem gL_law_X9_declareMethod : GoodIn wsL_law (wsV RL 21 RX9 yX9_declareMethod wsX9_declareMethod) := goodIn_app (goodIn_of _ (by decide +kernel)) ggL_law_X9_declareMethod
set_option maxRecDepth 20000 in
theorem ggL_law_X8_declareCall : GoodIn wsL_law wsX8_declareCall := goodIn_r _ [332, 15, 115, 333, 334, 116, 277, 128, 129, 39, 130, 131, 278, 279, 2, 280, 335, 336, 337, 14, 338, 44, 40, 339, 340, 148, 149, 43, 150, 146, 57, 58, 56, 132, 133, 151, 152, 341, 158, 159, 160, 342, 123, 124, 125, 126, 127, 343, 344, 345, 346, 52, 173, 174, 175, 176, 23, 19, 177, 178, 179, 22, 180, 86, 181, 182, 183, 184, 185, 186, 187, 188, 189, 190, 48, 191, 192, 193, 194, 195, 196, 197, 198, 199, 200, 201, 202, 203, 204, 205, 59, 60, 206, 207, 208, 47, 209, 210, 211, 64, 65, 66, 67, 68, 69, 70, 71, 72, 212, 213, 214, 18, 215, 216, 347, 348, 349, 350, 351, 352, 166, 167, 168, 353, 354, 355, 356, 922, 923, 924, 925, 926, 927, 941, 942, 943, 973, 974, 975, 976, 977, 978, 979, 980, 981, 982, 983, 984, 985, 964, 965, 966, 967, 968, 969, 970, 971, 972, 954, 955, 956, 944, 945, 946, 947, 948, 949, 950, 951, 952, 953] (by decide +kernel) (by decide +kernel)
set_option maxRecDepth 20000 in
theorem gL_law_X8_declareCall : GoodIn wsL_law (wsV RL 22 RX8 yX8_declareCall wsX8_declareCall) := goodIn_app (goodIn_of _ (by decide +kernel)) ggL_law_X8_declareCall
set_option maxRecDepth 20000 in
theorem ggL_law_X9_declareCall : GoodIn wsL_law wsX9_declareCall := goodIn_r _ [360, 101, 236, 237, 238, 5, 239, 225, 226, 227, 361, 362, 363, 364, 259, 260, 261, 262, 251, 252, 253, 254, 313, 314, 315, 316, 240, 241, 242, 243, 244, 245, 246, 232, 233, 234, 235, 267, 268, 269, 270, 103, 271, 102, 365, 366, 367, 368, 928, 929, 930, 931, 932, 933, 934, 935, 936, 937, 938, 939, 940] (by decide +kernel) (by decide +kernel)
set_option maxRecDepth 20000 in
theorem gL_law_X9_declareCall : GoodIn wsL_law (wsV RL 26 RX9 yX9_declareCall wsX9_declareCall) := goodIn_app (goodIn_of _ (by decide +kernel)) ggL_law_X9_declareCall
set_option maxRecDepth 20000 in
theorem ggL_law_X8_setArgument : GoodIn wsL_law wsX8_setArgument := goodIn_r _ [372, 15, 333, 373, 374, 375, 47, 376, 67, 377, 378, 379, 380, 210, 381, 382, 2, 383, 384, 385, 386, 387, 388, 389, 390, 70, 391, 392, 393, 394, 211, 132, 133, 173, 174, 175, 176, 23, 19, 177, 178, 179, 22, 180, 86, 181, 182, 183, 184, 185, 186, 187, 188, 189, 14, 190, 40, 44, 48, 191, 192, 193, 39, 194, 131, 126, 52, 195, 196, 197, 198, 199, 200, 201, 202, 203, 204, 43, 205, 146, 56, 57, 58, 59, 60, 206, 207, 208, 209, 64, 65, 66, 68, 69, 71, 72, 212, 213, 214, 18, 215, 216, 395, 354, 355, 356, 922, 923, 924, 925, 926, 927, 941, 942, 943, 973, 974, 975, 976, 977, 978, 979, 980, 981, 982, 983, 984, 985, 954, 955, 956, 964, 965, 966, 967, 968, 969, 970, 971, 972, 944, 945, 946, 947, 948, 949, 950, 951, 952, 953] (by decide +kernel) (by decide +kernel)
set_option maxRecDepth 20000 in
theorem gL_law_X8_setArgument : GoodIn wsL_law (wsV RL 27 RX8 yX8_setArgument wsX8_setArgument) := goodIn_app (goodIn_of _ (by decide +kernel)) ggL_law_X8_setArgument
set_option maxRecDepth 20000 in
theorem ggL_law_X9_setArgument : GoodIn wsL_law wsX9_setArgument := goodIn_r _ [399, 101, 400, 401, 402, 5, 403, 404, 405, 406, 407, 225, 226, 227, 365, 366, 367, 368, 408, 409, 410, 411, 267, 268, 269, 270, 103, 271, 102, 928, 929, 930, 931, 932, 933, 934, 935, 936, 937, 938, 939, 940] (by decide +kernel) (by decide +kernel)
set_option maxRecDepth 20000 in
theorem gL_law_X9_setArgument : GoodIn wsL_law (wsV RL 30 RX9 yX9_setArgument wsX9_setArgument) := goodIn_app (goodIn_of _ (by decide +kernel)) ggL_law_X9_setArgument
set_option maxRecDepth 20000 in
theorem ggL_law_X8_setFrozen : GoodIn wsL_law wsX8_setFrozen := goodIn_r _ [415, 15, 333, 116, 416, 417, 378, 379, 47, 380, 210, 391, 392, 393, 394, 211, 132, 2, 133, 418, 419, 420, 421, 66, 67, 351, 422, 423, 424, 425, 69, 352, 166, 167, 43, 168, 59, 173, 174, 175, 176, 23, 19, 177, 178, 179, 22, 180, 86, 181, 182, 183, 184, 185, 186, 187, 188, 189, 14, 190, 40, 44, 48, 191, 192, 193, 39, 194, 131, 126, 52, 195, 196, 197, 198, 199, 200, 201, 202, 203, 204, 205, 146, 56, 57, 58, 60, 206, 207, 208, 209, 64, 65, 68, 70, 71, 72, 212, 213, 214, 18, 215, 216, 281, 151, 152, 426, 427, 428, 429, 430, 431, 432, 922, 923, 924, 925, 926, 927, 941, 942, 943, 973, 974, 975, 976, 977, 978, 979, 980, 981, 982, 983, 984, 985, 967, 968, 969, 970, 971, 972, 954, 955, 956, 964, 965, 966, 944, 945, 946, 947, 948, 949, 950, 951, 952, 953] (by decide +kernel) (by decide +kernel)
set_option maxRecDepth 20000 in
theorem gL_law_X8_setFrozen : GoodIn wsL_law (wsV RL 31 RX8 yX8_setFrozen wsX8_setFrozen) := goodIn_app (goodIn_of _ (by decide +kernel)) ggL_law_X8_setFrozen
set_option maxRecDepth 20000 in
theorem ggL_law_X9_setFrozen : GoodIn wsL_law wsX9_setFrozen := goodIn_r _ [436, 101, 404, 405, 406, 5, 407, 225, 226, 227, 365, 366, 367, 368, 437, 438, 439, 440, 251, 252, 253, 254, 267, 268, 269, 270, 103, 271, 102, 928, 929, 930, 931, 932, 933, 934, 935, 936, 937, 938, 939, 940] (by decide +kernel) (by decide +kernel)
set_option maxRecDepth 20000 in
theorem gL_law_X9_setFrozen : GoodIn wsL_law (wsV RL 35 RX9 yX9_setFrozen wsX9_setFrozen) := goodIn_app (goodIn_of _ (by decide +kernel)) ggL_law_X9_setFrozen
set_option maxRecDepth 20000 in
theorem ggL_law_X8_typeCount : GoodIn wsL_law wsX8_typeCount := goodIn_r _ [444, 15, 115, 117, 922, 923, 924, 925, 926, 927, 941, 942, 943, 964, 965, 966] (by decide +kernel) (by decide +kernel)
set_option maxRecDepth 20000 in
theorem gL_law_X8_typeCount : GoodIn wsL_law (wsV RL 36 RX8 yX8_typeCount wsX8_typeCount) := goodIn_app (goodIn_of _ (by decide +kernel)) ggL_law_X8_typeCount
set_option maxRecDepth 20000 in
theorem ggL_law_X9_typeCount : GoodIn wsL_law wsX9_typeCount := goodIn_r _ [448, 101, 928, 929, 930, 931, 932, 933, 934, 935, 936, 937, 938, 939, 940] (by decide +kernel) (by decide +kernel)
set_option maxRecDepth 20000 in
theorem gL_law_X9_typeCount : GoodIn wsL_law (wsV RL 40 RX9 yX9_typeCount wsX9_typeCount) := goodIn_app (goodIn_of _ (by decide +kernel)) ggL_law_X9_typeCount
set_option maxRecDepth 20000 in
theorem ggL_law_X8_isSubtype : GoodIn wsL_law wsX8_isSubtype := goodIn_r _ [452, 15, 115, 277, 128, 129, 39, 130, 131, 343, 344, 345, 346, 52, 132, 2, 133, 922, 923, 924, 925, 926, 927, 941, 942, 943, 964, 965, 966] (by decide +kernel) (by decide +kernel)
set_option maxRecDepth 20000 in
theorem gL_law_X8_isSubtype : GoodIn wsL_law (wsV RL 41 RX8 yX8_isSubtype wsX8_isSubtype) := goodIn_app (goodIn_of _ (by decide +kernel)) ggL_law_X8_isSubtype
set_option maxRecDepth 20000 in
theorem ggL_law_X9_isSubtype : GoodIn wsL_law wsX9_isSubtype := goodIn_r _ [456, 236, 237, 238, 5, 239, 101, 225, 226, 227, 313, 314, 315, 316, 240, 241, 242, 243, 244, 245, 246, 928, 929, 930, 931, 932, 933, 934, 935, 936, 937, 938, 939, 940] (by decide +kernel) (by decide +kernel)
set_option maxRecDepth 20000 in
theorem gL_law_X9_isSubtype : GoodIn wsL_law (wsV RL 44 RX9 yX9_isSubtype wsX9_isSubtype) := goodIn_app (goodIn_of _ (by decide +kernel)) ggL_law_X9_isSubtype
set_option maxRecDepth 20000 in
theorem ggL_law_X8_family : GoodIn wsL_law wsX8_family := goodIn_r _ [460, 15, 116, 461, 462, 463, 43, 464, 146, 465, 466, 467, 14, 468, 44, 469, 470, 471, 40, 151, 2, 152, 472, 473, 474, 475, 56, 132, 133, 476, 283, 284, 39, 285, 131, 52, 340, 148, 149, 150, 57, 58, 922, 923, 924, 925, 926, 927, 941, 942, 943, 967, 968, 969, 970, 971, 972, 964, 965, 966] (by decide +kernel) (by decide +kernel)
set_option maxRecDepth 20000 in
theorem gL_law_X8_family : GoodIn wsL_law (wsV RL 45 RX8 yX8_family wsX8_family) := goodIn_app (goodIn_of _ (by decide +kernel)) ggL_law_X8_family
set_option maxRecDepth 20000 in
theorem ggL_law_X9_family : GoodIn wsL_law wsX9_family := goodIn_r _ [480, 481, 482, 483, 5, 484, 101, 225, 226, 227, 485, 486, 487, 488, 244, 245, 246, 251, 252, 253, 254, 305, 306, 307, 308, 259, 260, 261, 262, 309, 310, 311, 312, 313, 314, 315, 316, 240, 241, 242, 243, 928, 929, 930, 931, 932, 933, 934, 935, 936, 937, 938, 939, 940] (by decide +kernel) (by decide +kernel)
set_option maxRecDepth 20000 in
theorem gL_law_X9_family : GoodIn wsL_law (wsV RL 49 RX9 yX9_family wsX9_family) := goodIn_app (goodIn_of _ (by decide +kernel)) ggL_law_X9_family
set_option maxRecDepth 20000 in
theorem ggL_law_X8_parameterCount : GoodIn wsL_law wsX8_parameterCount := goodIn_r _ [492, 15, 116, 493, 461, 462, 463, 43, 464, 146, 922, 923, 924, 925, 926, 927, 941, 942, 943, 967, 968, 969, 970, 971, 972] (by decide +kernel) (by decide +kernel)
set_option maxRecDepth 20000 in
theorem gL_law_X8_parameterCount : GoodIn wsL_law (wsV RL 50 RX8 yX8_parameterCount wsX8_parameterCount) := goodIn_app (goodIn_of _ (by decide +kernel)) ggL_law_X8_parameterCount
set_option maxRecDepth 20000 in
theorem ggL_law_X9_parameterCount : GoodIn wsL_law wsX9_parameterCount := goodIn_r _ [497, 481, 482, 483, 5, 484, 101, 225, 226, 227, 251, 252, 253, 254, 928, 929, 930, 931, 932, 933, 934, 935, 936, 937, 938, 939, 940] (by decide +kernel) (by decide +kernel)
set_option maxRecDepth 20000 in
theorem gL_law_X9_parameterCount : GoodIn wsL_law (wsV RL 53 RX9 yX9_parameterCount wsX9_parameterCount) := goodIn_app (goodIn_of _ (by decide +kernel)) ggL_law_X9_parameterCount
set_option maxRecDepth 20000 in
theorem ggL_law_X8_parameterKey : GoodIn wsL_law wsX8_parameterKey := goodIn_r _ [501, 15, 116, 493, 461, 462, 463, 43, 464, 146, 502, 166, 167, 168, 59, 922, 923, 924, 925, 926, 927, 941, 942, 943, 967, 968, 969, 970, 971, 972] (by decide +kernel) (by decide +kernel)
set_option maxRecDepth 20000 in
theorem gL_law_X8_parameterKey : GoodIn wsL_law (wsV RL 54 RX8 yX8_parameterKey wsX8_parameterKey) := goodIn_app (goodIn_of _ (by decide +kernel)) ggL_law_X8_parameterKey
set_option maxRecDepth 20000 in
theorem ggL_law_X9_parameterKey : GoodIn wsL_law wsX9_parameterKey := goodIn_r _ [506, 481, 482, 483, 5, 484, 101, 225, 226, 227, 251, 252, 253, 254, 928, 929, 930, 931, 932, 933, 934, 935, 936, 937, 938, 939, 940] (by decide +kernel) (by decide +kernel)
set_option maxRecDepth 20000 in
theorem gL_law_X9_parameterKey : GoodIn wsL_law (wsV RL 57 RX9 yX9_parameterKey wsX9_parameterKey) := goodIn_app (goodIn_of _ (by decide +kernel)) ggL_law_X9_parameterKey
set_option maxRecDepth 20000 in
theorem ggL_law_X8_dispatch : GoodIn wsL_law wsX8_dispatch := goodIn_r _ [510, 15, 333, 417, 378, 379, 47, 380, 210, 511, 512, 513, 14, 514, 44, 469, 48, 515, 470, 40, 339, 516, 517, 518, 519, 520, 521, 522, 132, 2, 133, 523, 288, 289, 43, 290, 151, 152, 147, 148, 149, 150, 146, 57, 58, 56, 157, 158, 159, 160, 524, 525, 526, 527, 340, 472, 473, 474, 475, 528, 529, 530, 531, 532, 344, 345, 39, 346, 52, 922, 923, 924, 925, 926, 927, 941, 942, 943, 973, 974, 975, 976, 977, 978, 979, 980, 981, 982, 983, 984, 985, 967, 968, 969, 970, 971, 972, 964, 965, 966] (by decide +kernel) (by decide +kernel)
set_option maxRecDepth 20000 in
theorem gL_law_X8_dispatch : GoodIn wsL_law (wsV RL 58 RX8 yX8_dispatch wsX8_dispatch) := goodIn_app (goodIn_of _ (by decide +kernel)) ggL_law_X8_dispatch
set_option maxRecDepth 20000 in
theorem ggL_law_X9_dispatch : GoodIn wsL_law wsX9_dispatch := goodIn_r _ [536, 404, 405, 406, 5, 407, 101, 225, 226, 227, 537, 538, 539, 540, 365, 366, 367, 368, 541, 542, 543, 544, 251, 252, 253, 254, 255, 256, 257, 258, 259, 260, 261, 262, 232, 233, 234, 235, 313, 314, 315, 316, 240, 241, 242, 243, 244, 245, 246, 545, 546, 547, 548, 928, 929, 930, 931, 932, 933, 934, 935, 936, 937, 938, 939, 940] (by decide +kernel) (by decide +kernel)
set_option maxRecDepth 20000 in
theorem gL_law_X9_dispatch : GoodIn wsL_law (wsV RL 61 RX9 yX9_dispatch wsX9_dispatch) := goodIn_app (goodIn_of _ (by decide +kernel)) ggL_law_X9_dispatch
set_option maxRecDepth 20000 in
theorem ggL_law_X8_run : GoodIn wsL_law wsX8_run := goodIn_r _ [552, 15, 333, 27, 116, 417, 378, 379, 47, 380, 210, 511, 512, 513, 14, 514, 44, 469, 48, 515, 470, 40, 339, 516, 517, 518, 519, 520, 521, 522, 132, 2, 133, 523, 288, 289, 43, 290, 151, 152, 147, 148, 149, 150, 146, 57, 58, 56, 157, 158, 159, 160, 524, 525, 526, 527, 340, 472, 473, 474, 475, 528, 529, 530, 531, 532, 344, 345, 39, 346, 52, 553, 554, 555, 26, 556, 557, 558, 90, 559, 91, 560, 561, 562, 563, 72, 564, 565, 566, 567, 568, 388, 389, 390, 70, 569, 570, 571, 572, 71, 573, 574, 575, 576, 577, 578, 579, 580, 581, 582, 583, 166, 167, 168, 59, 584, 170, 171, 172, 60, 585, 586, 587, 588, 589, 423, 424, 425, 69, 922, 923, 924, 925, 926, 927, 941, 942, 943, 973, 974, 975, 976, 977, 978, 979, 980, 981, 982, 983, 984, 985, 967, 968, 969, 970, 971, 972, 964, 965, 966, 957, 958, 959] (by decide +kernel) (by decide +kernel)
set_option maxRecDepth 20000 in
theorem gL_law_X8_run : GoodIn wsL_law (wsV RL 62 RX8 yX8_run wsX8_run) := goodIn_app (goodIn_of _ (by decide +kernel)) ggL_law_X8_run
set_option maxRecDepth 20000 in
theorem ggL_law_X9_run : GoodIn wsL_law wsX9_run := goodIn_r _ [593, 404, 405, 406, 5, 407, 101, 225, 226, 227, 537, 538, 539, 540, 365, 366, 367, 368, 541, 542, 543, 544, 251, 252, 253, 254, 255, 256, 257, 258, 259, 260, 261, 262, 232, 233, 234, 235, 313, 314, 315, 316, 240, 241, 242, 243, 244, 245, 246, 545, 546, 547, 548, 594, 595, 596, 597, 598, 107, 108, 599, 600, 601, 602, 603, 604, 605, 606, 928, 929, 930, 931, 932, 933, 934, 935, 936, 937, 938, 939, 940] (by decide +kernel) (by decide +kernel)
set_option maxRecDepth 20000 in
theorem gL_law_X9_run : GoodIn wsL_law (wsV RL 65 RX9 yX9_run wsX9_run) := goodIn_app (goodIn_of _ (by decide +kernel)) ggL_law_X9_run
set_option maxRecDepth 20000 in
theorem ggL_law_X8_ticks : GoodIn wsL_law wsX8_ticks := goodIn_r _ [610, 15, 333, 27, 611, 417, 378, 379, 47, 380, 210, 553, 554, 555, 26, 556, 557, 558, 90, 559, 91, 560, 561, 562, 563, 72, 564, 565, 566, 567, 568, 388, 389, 390, 70, 569, 570, 571, 572, 71, 573, 574, 575, 576, 922, 923, 924, 925, 926, 927, 941, 942, 943, 957, 958, 959, 973, 974, 975, 976, 977, 978, 979, 980, 981, 982, 983, 984, 985] (by decide +kernel) (by decide +kernel)
set_option maxRecDepth 20000 in
theorem gL_law_X8_ticks : GoodIn wsL_law (wsV RL 66 RX8 yX8_ticks wsX8_ticks) := goodIn_app (goodIn_of _ (by decide +kernel)) ggL_law_X8_ticks
set_option maxRecDepth 20000 in
theorem ggL_law_X9_ticks : GoodIn wsL_law wsX9_ticks := goodIn_r _ [615, 598, 404, 405, 406, 5, 407, 101, 225, 226, 227, 594, 595, 596, 597, 107, 108, 365, 366, 367, 368, 599, 600, 601, 602, 928, 929, 930, 931, 932, 933, 934, 935, 936, 937, 938, 939, 940] (by decide +kernel) (by decide +kernel)
set_option maxRecDepth 20000 in
theorem gL_law_X9_ticks : GoodIn wsL_law (wsV RL 69 RX9 yX9_ticks wsX9_ticks) := goodIn_app (goodIn_of _ (by decide +kernel)) ggL_law_X9_ticks
set_option maxRecDepth 20000 in
theorem ggL_law_X8_argumentCount : GoodIn wsL_law wsX8_argumentCount := goodIn_r _ [619, 15, 333, 620, 417, 378, 379, 47, 380, 210, 922, 923, 924, 925, 926, 927, 941, 942, 943, 973, 974, 975, 976, 977, 978, 979, 980, 981, 982, 983, 984, 985] (by decide +kernel) (by decide +kernel)
set_option maxRecDepth 20000 in
theorem gL_law_X8_argumentCount : GoodIn wsL_law (wsV RL 70 RX8 yX8_argumentCount wsX8_argumentCount) := goodIn_app (goodIn_of _ (by decide +kernel)) ggL_law_X8_argumentCount
set_option maxRecDepth 20000 in
theorem ggL_law_X9_argumentCount : GoodIn wsL_law wsX9_argumentCount := goodIn_r _ [624, 101, 404, 405, 406, 5, 407, 225, 226, 227, 365, 366, 367, 368, 928, 929, 930, 931, 932, 933, 934, 935, 936, 937, 938, 939, 940] (by decide +kernel) (by decide +kernel)
set_option maxRecDepth 20000 in
theorem gL_law_X9_argumentCount : GoodIn wsL_law (wsV RL 73 RX9 yX9_argumentCount wsX9_argumentCount) := goodIn_app (goodIn_of _ (by decide +kernel)) ggL_law_X9_argumentCount
set_option maxRecDepth 20000 in
theorem ggL_law_X8_argumentKind : GoodIn wsL_law wsX8_argumentKind := goodIn_r _ [628, 15, 333, 373, 374, 375, 47, 376, 67, 377, 378, 379, 380, 210, 387, 388, 389, 390, 70, 922, 923, 924, 925, 926, 927, 941, 942, 943, 973, 974, 975, 976, 977, 978, 979, 980, 981, 982, 983, 984, 985] (by decide +kernel) (by decide +kernel)
set_option maxRecDepth 20000 in
theorem gL_law_X8_argumentKind : GoodIn wsL_law (wsV RL 74 RX8 yX8_argumentKind wsX8_argumentKind) := goodIn_app (goodIn_of _ (by decide +kernel)) ggL_law_X8_argumentKind
set_option maxRecDepth 20000 in
theorem ggL_law_X9_argumentKind : GoodIn wsL_law wsX9_argumentKind := goodIn_r _ [632, 101, 400, 401, 402, 5, 403, 404, 405, 406, 407, 225, 226, 227, 365, 366, 367, 368, 928, 929, 930, 931, 932, 933, 934, 935, 936, 937, 938, 939, 940] (by decide +kernel) (by decide +kernel)
set_option maxRecDepth 20000 in
theorem gL_law_X9_argumentKind : GoodIn wsL_law (wsV RL 77 RX9 yX9_argumentKind wsX9_argumentKind) := goodIn_app (goodIn_of _ (by decide +kernel)) ggL_law_X9_argumentKind
set_option maxRecDepth 20000 in
theorem ggL_law_X8_temporaryCount : GoodIn wsL_law wsX8_temporaryCount := goodIn_r _ [636, 15, 333, 637, 417, 378, 379, 47, 380, 210, 922, 923, 924, 925, 926, 927, 941, 942, 943, 973, 974, 975, 976, 977, 978, 979, 980, 981, 982, 983, 984, 985] (by decide +kernel) (by decide +kernel)
set_option maxRecDepth 20000 in
theorem gL_law_X8_temporaryCount : GoodIn wsL_law (wsV RL 78 RX8 yX8_temporaryCount wsX8_temporaryCount) := goodIn_app (goodIn_of _ (by decide +kernel)) ggL_law_X8_temporaryCount
set_option maxRecDepth 20000 in
theorem ggL_law_X9_temporaryCount : GoodIn wsL_law wsX9_temporaryCount := goodIn_r _ [641, 101, 404, 405, 406, 5, 407, 225, 226, 227, 365, 366, 367, 368, 928, 929, 930, 931, 932, 933, 934, 935, 936, 937, 938, 939, 940] (by decide +kernel) (by decide +kernel)
set_option maxRecDepth 20000 in
theorem gL_law_X9_temporaryCount : GoodIn wsL_law (wsV RL 81 RX9 yX9_temporaryCount wsX9_temporaryCount) := goodIn_app (goodIn_of _ (by decide +kernel)) ggL_law_X9_temporaryCount
set_option maxRecDepth 20000 in
theorem ggL_law_X8_startChange : GoodIn wsL_law wsX8_startChange := goodIn_r _ [645, 15, 116, 19, 461, 462, 463, 43, 464, 146, 465, 466, 467, 14, 468, 44, 469, 470, 471, 40, 151, 2, 152, 472, 473, 474, 475, 56, 132, 133, 476, 283, 284, 39, 285, 131, 52, 340, 148, 149, 150, 57, 58, 646, 647, 648, 18, 649, 216, 650, 651, 652, 653, 654, 655, 656, 657, 658, 659, 660, 165, 166, 167, 168, 59, 426, 427, 428, 429, 430, 431, 432, 922, 923, 924, 925, 926, 927, 941, 942, 943, 967, 968, 969, 970, 971, 972, 964, 965, 966, 944, 945, 946, 947, 948, 949, 950, 951, 952, 953] (by decide +kernel) (by decide +kernel)
set_option maxRecDepth 20000 in
theorem gL_law_X8_startChange : GoodIn wsL_law (wsV RL 82 RX8 yX8_startChange wsX8_startChange) := goodIn_app (goodIn_of _ (by decide +kernel)) ggL_law_X8_startChange
set_option maxRecDepth 20000 in
theorem ggL_law_X9_startChange : GoodIn wsL_law wsX9_startChange := goodIn_r _ [664, 103, 665, 481, 482, 483, 5, 484, 101, 225, 226, 227, 485, 486, 487, 488, 244, 245, 246, 251, 252, 253, 254, 305, 306, 307, 308, 259, 260, 261, 262, 309, 310, 311, 312, 313, 314, 315, 316, 240, 241, 242, 243, 666, 667, 668, 928, 929, 930, 931, 932, 933, 934, 935, 936, 937, 938, 939, 940] (by decide +kernel) (by decide +kernel)
set_option maxRecDepth 20000 in
theorem gL_law_X9_startChange : GoodIn wsL_law (wsV RL 85 RX9 yX9_startChange wsX9_startChange) := goodIn_app (goodIn_of _ (by decide +kernel)) ggL_law_X9_startChange
set_option maxRecDepth 20000 in
theorem ggL_law_X8_keepParameter : GoodIn wsL_law wsX8_keepParameter := goodIn_r _ [672, 19, 673, 674, 675, 676, 15, 116, 677, 132, 2, 133, 678, 679, 680, 18, 681, 654, 650, 655, 151, 152, 682, 166, 167, 43, 168, 59, 683, 170, 171, 172, 60, 684, 685, 686, 687, 78, 79, 80, 922, 923, 924, 925, 926, 927, 944, 945, 946, 947, 948, 949, 950, 951, 952, 953, 941, 942, 943, 967, 968, 969, 970, 971, 972] (by decide +kernel) (by decide +kernel)
set_option maxRecDepth 20000 in
theorem gL_law_X8_keepParameter : GoodIn wsL_law (wsV RL 86 RX8 yX8_keepParameter wsX8_keepParameter) := goodIn_app (goodIn_of _ (by decide +kernel)) ggL_law_X8_keepParameter
set_option maxRecDepth 20000 in
theorem ggL_law_X9_keepParameter : GoodIn wsL_law wsX9_keepParameter := goodIn_r _ [691, 103, 665, 104, 105, 106, 251, 252, 253, 5, 254, 101, 225, 226, 227, 692, 693, 694, 695, 928, 929, 930, 931, 932, 933, 934, 935, 936, 937, 938, 939, 940] (by decide +kernel) (by decide +kernel)
set_option maxRecDepth 20000 in
theorem gL_law_X9_keepParameter : GoodIn wsL_law (wsV RL 89 RX9 yX9_keepParameter wsX9_keepParameter) := goodIn_app (goodIn_of _ (by decide +kernel)) ggL_law_X9_keepParameter
set_option maxRecDepth 20000 in
theorem ggL_law_X8_insertParameter : GoodIn wsL_law wsX8_insertParameter := goodIn_r _ [699, 19, 673, 676, 384, 385, 2, 386, 700, 701, 702, 18, 703, 656, 704, 705, 706, 707, 132, 133, 151, 152, 684, 685, 686, 687, 78, 655, 79, 80, 922, 923, 924, 925, 926, 927, 944, 945, 946, 947, 948, 949, 950, 951, 952, 953] (by decide +kernel) (by decide +kernel)
set_option maxRecDepth 20000 in
theorem gL_law_X8_insertParameter : GoodIn wsL_law (wsV RL 90 RX8 yX8_insertParameter wsX8_insertParameter) := goodIn_app (goodIn_of _ (by decide +kernel)) ggL_law_X8_insertParameter
set_option maxRecDepth 20000 in
theorem ggL_law_X9_insertParameter : GoodIn wsL_law wsX9_insertParameter := goodIn_r _ [711, 103, 665, 104, 105, 106, 225, 226, 5, 227, 712, 713, 714, 715, 251, 252, 253, 254, 101, 928, 929, 930, 931, 932, 933, 934, 935, 936, 937, 938, 939, 940] (by decide +kernel) (by decide +kernel)
set_option maxRecDepth 20000 in
theorem gL_law_X9_insertParameter : GoodIn wsL_law (wsV RL 93 RX9 yX9_insertParameter wsX9_insertParameter) := goodIn_app (goodIn_of _ (by decide +kernel)) ggL_law_X9_insertParameter
set_option maxRecDepth 20000 in
theorem ggL_law_X8_clashingMethod : GoodIn wsL_law wsX8_clashingMethod := goodIn_r _ [719, 19, 673, 15, 720, 721, 722, 14, 723, 40, 44, 724, 469, 725, 726, 472, 473, 474, 43, 475, 146, 56, 132, 2, 133, 151, 152, 476, 283, 284, 39, 285, 131, 52, 340, 148, 149, 150, 57, 58, 341, 158, 159, 160, 922, 923, 924, 925, 926, 927, 944, 945, 946, 947, 948, 949, 950, 951, 952, 953, 941, 942, 943, 967, 968, 969, 970, 971, 972, 964, 965, 966] (by decide +kernel) (by decide +kernel)
set_option maxRecDepth 20000 in
theorem gL_law_X8_clashingMethod : GoodIn wsL_law (wsV RL 94 RX8 yX8_clashingMethod wsX8_clashingMethod) := goodIn_app (goodIn_of _ (by decide +kernel)) ggL_law_X8_clashingMethod
set_option maxRecDepth 20000 in
theorem ggL_law_X9_clashingMethod : GoodIn wsL_law wsX9_clashingMethod := goodIn_r _ [730, 103, 731, 732, 733, 5, 734, 101, 485, 486, 487, 488, 244, 245, 246, 251, 252, 253, 254, 305, 306, 307, 308, 259, 260, 261, 262, 309, 310, 311, 312, 313, 314, 315, 316, 240, 241, 242, 243, 735, 736, 737, 738, 665, 928, 929, 930, 931, 932, 933, 934, 935, 936, 937, 938, 939, 940] (by decide +kernel) (by decide +kernel)
set_option maxRecDepth 20000 in
theorem gL_law_X9_clashingMethod : GoodIn wsL_law (wsV RL 97 RX9 yX9_clashingMethod wsX9_clashingMethod) := goodIn_app (goodIn_of _ (by decide +kernel)) ggL_law_X9_clashingMethod
set_option maxRecDepth 20000 in
theorem ggL_law_X8_hoistedArguments : GoodIn wsL_law wsX8_hoistedArguments := goodIn_r _ [742, 15, 333, 19, 673, 31, 417, 378, 379, 47, 380, 210, 743, 744, 745, 2, 746, 747, 416, 748, 749, 750, 751, 66, 132, 133, 151, 152, 677, 752, 753, 754, 30, 755, 756, 757, 758, 759, 760, 761, 762, 763, 95, 764, 765, 96, 766, 388, 389, 390, 70, 767, 768, 769, 770, 771, 427, 428, 429, 430, 431, 432, 772, 773, 774, 775, 776, 777, 778, 779, 780, 781, 922, 923, 924, 925, 926, 927, 941, 942, 943, 944, 945, 946, 947, 948, 949, 950, 951, 952, 953, 973, 974, 975, 976, 977, 978, 979, 980, 981, 982, 983, 984, 985, 960, 961, 962, 963] (by decide +kernel) (by decide +kernel)
set_option maxRecDepth 20000 in
theorem gL_law_X8_hoistedArguments : GoodIn wsL_law (wsV RL 98 RX8 yX8_hoistedArguments wsX8_hoistedArguments) := goodIn_app (goodIn_of _ (by decide +kernel)) ggL_law_X8_hoistedArguments
set_option maxRecDepth 20000 in
theorem ggL_law_X9_hoistedArguments : GoodIn wsL_law wsX9_hoistedArguments := goodIn_r _ [785, 103, 404, 405, 406, 5, 407, 101, 225, 226, 227, 408, 409, 410, 411, 365, 366, 367, 368, 786, 787, 788, 789, 485, 486, 487, 488, 244, 245, 246, 251, 252, 253, 254, 305, 306, 307, 308, 259, 260, 261, 262, 309, 310, 311, 312, 313, 314, 315, 316, 240, 241, 242, 243, 790, 791, 792, 793, 666, 667, 668, 794, 795, 796, 797, 692, 693, 694, 695, 665, 104, 798, 799, 800, 801, 802, 803, 804, 805, 806, 807, 808, 809, 928, 929, 930, 931, 932, 933, 934, 935, 936, 937, 938, 939, 940] (by decide +kernel) (by decide +kernel)
set_option maxRecDepth 20000 in
theorem gL_law_X9_hoistedArguments : GoodIn wsL_law (wsV RL 101 RX9 yX9_hoistedArguments wsX9_hoistedArguments) := goodIn_app (goodIn_of _ (by decide +kernel)) ggL_law_X9_hoistedArguments
set_option maxRecDepth 20000 in
theorem ggL_law_X8_bridgeTypes : GoodIn wsL_law wsX8_bridgeTypes := goodIn_r _ [813, 19, 673, 15, 747, 814, 815, 816, 14, 817, 48, 818, 44, 819, 749, 750, 47, 751, 210, 66, 132, 2, 133, 151, 152, 472, 473, 474, 43, 475, 146, 56, 820, 427, 428, 429, 430, 431, 432, 821, 822, 823, 824, 825, 40, 339, 826, 922, 923, 924, 925, 926, 927, 944, 945, 946, 947, 948, 949, 950, 951, 952, 953, 941, 942, 943, 973, 974, 975, 976, 977, 978, 979, 980, 981, 982, 983, 984, 985, 967, 968, 969, 970, 971, 972, 964, 965, 966] (by decide +kernel) (by decide +kernel)
set_option maxRecDepth 20000 in
theorem gL_law_X8_bridgeTypes : GoodIn wsL_law (wsV RL 102 RX8 yX8_bridgeTypes wsX8_bridgeTypes) := goodIn_app (goodIn_of _ (by decide +kernel)) ggL_law_X8_bridgeTypes
set_option maxRecDepth 20000 in
theorem ggL_law_X9_bridgeTypes : GoodIn wsL_law wsX9_bridgeTypes := goodIn_r _ [830, 103, 831, 832, 833, 5, 834, 101, 485, 486, 487, 488, 244, 245, 246, 251, 252, 253, 254, 305, 306, 307, 308, 259, 260, 261, 262, 309, 310, 311, 312, 313, 314, 315, 316, 240, 241, 242, 243, 666, 667, 668, 835, 836, 837, 838, 408, 409, 410, 411, 365, 366, 367, 368, 786, 787, 788, 789, 839, 840, 841, 842, 928, 929, 930, 931, 932, 933, 934, 935, 936, 937, 938, 939, 940] (by decide +kernel) (by decide +kernel)
set_option maxRecDepth 20000 in
theorem gL_law_X9_bridgeTypes : GoodIn wsL_law (wsV RL 105 RX9 yX9_bridgeTypes wsX9_bridgeTypes) := goodIn_app (goodIn_of _ (by decide +kernel)) ggL_law_X9_bridgeTypes
set_option maxRecDepth 20000 in
theorem ggL_law_X8_applyChange : GoodIn wsL_law wsX8_applyChange := goodIn_r _ [846, 19, 673, 15, 23, 333, 33, 116, 720, 721, 722, 14, 723, 40, 44, 724, 469, 725, 726, 472, 473, 474, 43, 475, 146, 56, 132, 2, 133, 151, 152, 476, 283, 284, 39, 285, 131, 52, 340, 148, 149, 150, 57, 58, 341, 158, 159, 160, 847, 848, 849, 850, 747, 416, 676, 674, 748, 749, 750, 47, 751, 210, 66, 851, 852, 853, 18, 854, 655, 78, 653, 743, 744, 745, 746, 855, 856, 857, 858, 334, 31, 637, 677, 752, 753, 754, 30, 755, 756, 757, 758, 759, 760, 761, 762, 763, 95, 764, 765, 96, 766, 388, 389, 390, 70, 767, 768, 769, 770, 771, 427, 428, 429, 430, 431, 432, 772, 773, 774, 775, 776, 777, 778, 779, 780, 781, 426, 177, 178, 179, 22, 180, 86, 181, 182, 183, 184, 185, 186, 187, 188, 189, 190, 48, 191, 192, 193, 194, 126, 195, 196, 197, 198, 199, 200, 201, 202, 203, 204, 205, 59, 60, 206, 207, 208, 209, 211, 64, 65, 67, 68, 69, 71, 72, 859, 860, 861, 862, 863, 864, 865, 866, 867, 353, 354, 355, 356, 868, 869, 870, 871, 872, 873, 73, 74, 874, 875, 876, 570, 571, 572, 877, 878, 879, 880, 881, 882, 883, 884, 297, 298, 299, 300, 212, 213, 214, 215, 216, 922, 923, 924, 925, 926, 927, 944, 945, 946, 947, 948, 949, 950, 951, 952, 953, 941, 942, 943, 967, 968, 969, 970, 971, 972, 964, 965, 966, 973, 974, 975, 976, 977, 978, 979, 980, 981, 982, 983, 984, 985, 960, 961, 962, 963, 954, 955, 956] (by decide +kernel) (by decide +kernel)
set_option maxRecDepth 20000 in
theorem gL_law_X8_applyChange : GoodIn wsL_law (wsV RL 106 RX8 yX8_applyChange wsX8_applyChange) := goodIn_app (goodIn_of _ (by decide +kernel)) ggL_law_X8_applyChange
set_option maxRecDepth 20000 in
theorem ggL_law_X9_applyChange : GoodIn wsL_law wsX9_applyChange := goodIn_r _ [888, 103, 101, 731, 732, 733, 5, 734, 485, 486, 487, 488, 244, 245, 246, 251, 252, 253, 254, 305, 306, 307, 308, 259, 260, 261, 262, 309, 310, 311, 312, 313, 314, 315, 316, 240, 241, 242, 243, 735, 736, 737, 738, 665, 889, 890, 891, 892, 408, 409, 410, 411, 365, 366, 367, 368, 786, 787, 788, 789, 893, 894, 895, 896, 105, 897, 898, 899, 900, 790, 791, 792, 793, 666, 667, 668, 794, 795, 796, 797, 692, 693, 694, 695, 104, 798, 799, 800, 801, 802, 803, 804, 805, 806, 807, 808, 809, 267, 268, 269, 270, 271, 102, 901, 902, 903, 904, 109, 110, 106, 905, 906, 907, 908, 928, 929, 930, 931, 932, 933, 934, 935, 936, 937, 938, 939, 940] (by decide +kernel) (by decide +kernel)
set_option maxRecDepth 20000 in
theorem gL_law_X9_applyChange : GoodIn wsL_law (wsV RL 109 RX9 yX9_applyChange wsX9_applyChange) := goodIn_app (goodIn_of _ (by decide +kernel)) ggL_law_X9_applyChange
set_option maxRecDepth 20000 in
theorem ggL_law_X8_undo : GoodIn wsL_law wsX8_undo := goodIn_r _ [912, 23, 913, 19, 15, 212, 213, 214, 18, 215, 216, 914, 915, 916, 22, 917, 181, 86, 182, 187, 188, 189, 14, 190, 40, 44, 48, 191, 192, 193, 39, 194, 131, 126, 52, 195, 2, 196, 197, 184, 185, 186, 198, 199, 200, 201, 202, 203, 204, 43, 205, 146, 56, 57, 58, 59, 60, 206, 207, 208, 47, 209, 210, 211, 64, 65, 66, 67, 68, 69, 70, 71, 72, 922, 923, 924, 925, 926, 927, 954, 955, 956, 944, 945, 946, 947, 948, 949, 950, 951, 952, 953, 941, 942, 943, 964, 965, 966, 967, 968, 969, 970, 971, 972, 973, 974, 975, 976, 977, 978, 979, 980, 981, 982, 983, 984, 985] (by decide +kernel) (by decide +kernel)
set_option maxRecDepth 20000 in
theorem gL_law_X8_undo : GoodIn wsL_law (wsV RL 110 RX8 yX8_undo wsX8_undo) := goodIn_app (goodIn_of _ (by decide +kernel)) ggL_law_X8_undo
set_option maxRecDepth 20000 in
theorem ggL_law_X9_undo : GoodIn wsL_law wsX9_undo := goodIn_r _ [921, 271, 103, 101, 102, 928, 929, 930, 931, 932, 933, 934, 935, 936, 937, 938, 939, 940] (by decide +kernel) (by decide +kernel)
set_option maxRecDepth 20000 in
theorem gL_law_X9_undo : GoodIn wsL_law (wsV RL 113 RX9 yX9_undo wsX9_undo) := goodIn_app (goodIn_of _ (by decide +kernel)) ggL_law_X9_undo
