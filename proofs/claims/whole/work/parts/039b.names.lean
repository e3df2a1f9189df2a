theorem dX9_put_33 : decode cX9_put 33 = .ok (.goto 4, 3) := by decide +kernel
theorem dX9_put_36 : decode cX9_put 36 = .ok (.iconst 0, 1) := by decide +kernel
theorem dX9_put_37 : decode cX9_put 37 = .ok (.bastore, 1) := by decide +kernel
theorem dX9_put_38 : decode cX9_put 38 = .ok (.aload_n 0, 1) := by decide +kernel
theorem dX9_put_39 : decode cX9_put 39 = .ok (.dup, 1) := by decide +kernel
theorem dX9_put_40 : decode cX9_put 40 = .ok (.getfield 148, 3) := by decide +kernel
theorem dX9_put_43 : decode cX9_put 43 = .ok (.iconst 1, 1) := by decide +kernel
theorem dX9_put_44 : decode cX9_put 44 = .ok (.iadd, 1) := by decide +kernel
theorem dX9_put_45 : decode cX9_put 45 = .ok (.putfield 148, 3) := by decide +kernel
theorem dX9_put_48 : decode cX9_put 48 = .ok (.iinc 3 (-1), 3) := by decide +kernel
theorem dX9_put_51 : decode cX9_put 51 = .ok (.goto (-47), 3) := by decide +kernel
theorem dX9_put_54 : decode cX9_put 54 = .ok (.return_, 1) := by decide +kernel
set_option maxRecDepth 20000 in
theorem ggX9_lay_X9_marks : GoodIn wsX9_lay wsX9_marks := goodIn_r _ [15, 16, 17, 31, 32, 33, 34, 35, 36, 37, 38, 39, 40, 41, 42, 43, 44, 45, 46, 47, 48, 49, 50, 51, 52, 53, 54, 55, 56, 57, 58, 59, 60, 61, 62, 63] (by decide +kernel) (by decide +kernel)
set_option maxRecDepth 20000 in
theorem gX9_lay_X9_marks : GoodIn wsX9_lay (wsV RX9 151 RX9 yX9_marks wsX9_marks) := goodIn_app (goodIn_of _ (by decide +kernel)) ggX9_lay_X9_marks
set_option maxRecDepth 20000 in
theorem ggX9_lay_X9_put : GoodIn wsX9_lay wsX9_put := goodIn_r _ [21, 1, 22, 2, 31, 32, 33, 34, 35, 36, 37, 38, 39, 40, 41, 42, 43, 44, 45, 46, 47, 48, 49, 50, 51, 52, 53, 54, 55, 56, 57, 58, 59, 60, 61, 62, 63] (by decide +kernel) (by decide +kernel)
set_option maxRecDepth 20000 in
theorem gX9_lay_X9_put : GoodIn wsX9_lay (wsV RX9 154 RX9 yX9_put wsX9_put) := goodIn_app (goodIn_of _ (by decide +kernel)) ggX9_lay_X9_put
set_option maxRecDepth 20000 in
theorem ggX9_lay_X9_toFront : GoodIn wsX9_lay wsX9_toFront := goodIn_r _ [26] (by decide +kernel) (by decide +kernel)
set_option maxRecDepth 20000 in
theorem gX9_lay_X9_toFront : GoodIn wsX9_lay (wsV RX9 117 RX9 yX9_toFront wsX9_toFront) := goodIn_app (goodIn_of _ (by decide +kernel)) ggX9_lay_X9_toFront
set_option maxRecDepth 20000 in
theorem ggX9_lay_X9_layLengths : GoodIn wsX9_lay wsX9_layLengths := goodIn_r _ [30, 10, 16, 18, 19, 20, 14, 21, 1, 22, 2, 31, 32, 33, 34, 35, 36, 37, 38, 39, 40, 41, 42, 43, 44, 45, 46, 47, 48, 49, 50, 51, 52, 53, 54, 55, 56, 57, 58, 59, 60, 61, 62, 63] (by decide +kernel) (by decide +kernel)
set_option maxRecDepth 20000 in
theorem gX9_lay_X9_layLengths : GoodIn wsX9_lay (wsV RX9 157 RX9 yX9_layLengths wsX9_layLengths) := goodIn_app (goodIn_of _ (by decide +kernel)) ggX9_lay_X9_layLengths
theorem dX9_lay_0 : decode cX9_lay 0 = .ok (.aload_n 0, 1) := by decide +kernel
theorem dX9_lay_1 : decode cX9_lay 1 = .ok (.iload_n 1, 1) := by decide +kernel
theorem dX9_lay_2 : decode cX9_lay 2 = .ok (.putfield 145, 3) := by decide +kernel
theorem dX9_lay_5 : decode cX9_lay 5 = .ok (.aload_n 0, 1) := by decide +kernel
theorem dX9_lay_6 : decode cX9_lay 6 = .ok (.iconst 0, 1) := by decide +kernel
theorem dX9_lay_7 : decode cX9_lay 7 = .ok (.putfield 148, 3) := by decide +kernel
theorem dX9_lay_10 : decode cX9_lay 10 = .ok (.iconst 0, 1) := by decide +kernel
theorem dX9_lay_11 : decode cX9_lay 11 = .ok (.istore_n 2, 1) := by decide +kernel
theorem dX9_lay_12 : decode cX9_lay 12 = .ok (.iconst 0, 1) := by decide +kernel
theorem dX9_lay_13 : decode cX9_lay 13 = .ok (.istore_n 3, 1) := by decide +kernel
theorem dX9_lay_14 : decode cX9_lay 14 = .ok (.iload_n 3, 1) := by decide +kernel
theorem dX9_lay_15 : decode cX9_lay 15 = .ok (.bipush 16, 2) := by decide +kernel
theorem dX9_lay_17 : decode cX9_lay 17 = .ok (.if_icmp .ge 27, 3) := by decide +kernel
theorem dX9_lay_20 : decode cX9_lay 20 = .ok (.iconst 2, 1) := by decide +kernel
theorem dX9_lay_21 : decode cX9_lay 21 = .ok (.iload_n 2, 1) := by decide +kernel
theorem dX9_lay_22 : decode cX9_lay 22 = .ok (.imul, 1) := by decide +kernel
theorem dX9_lay_23 : decode cX9_lay 23 = .ok (.aload_n 0, 1) := by decide +kernel
theorem dX9_lay_24 : decode cX9_lay 24 = .ok (.iload_n 3, 1) := by decide +kernel
theorem dX9_lay_25 : decode cX9_lay 25 = .ok (.invokevirtual 151, 3) := by decide +kernel
theorem dX9_lay_28 : decode cX9_lay 28 = .ok (.ifCond .le 7, 3) := by decide +kernel
theorem dX9_lay_31 : decode cX9_lay 31 = .ok (.iconst 1, 1) := by decide +kernel
theorem dX9_lay_32 : decode cX9_lay 32 = .ok (.goto 4, 3) := by decide +kernel
theorem dX9_lay_35 : decode cX9_lay 35 = .ok (.iconst 0, 1) := by decide +kernel
theorem dX9_lay_36 : decode cX9_lay 36 = .ok (.iadd, 1) := by decide +kernel
theorem dX9_lay_37 : decode cX9_lay 37 = .ok (.istore_n 2, 1) := by decide +kernel
theorem dX9_lay_38 : decode cX9_lay 38 = .ok (.iinc 3 1, 3) := by decide +kernel
theorem dX9_lay_41 : decode cX9_lay 41 = .ok (.goto (-27), 3) := by decide +kernel
theorem dX9_lay_44 : decode cX9_lay 44 = .ok (.aload_n 0, 1) := by decide +kernel
theorem dX9_lay_45 : decode cX9_lay 45 = .ok (.iload_n 2, 1) := by decide +kernel
theorem dX9_lay_46 : decode cX9_lay 46 = .ok (.bipush 16, 2) := by decide +kernel
theorem dX9_lay_48 : decode cX9_lay 48 = .ok (.invokevirtual 154, 3) := by decide +kernel
theorem dX9_lay_51 : decode cX9_lay 51 = .ok (.iconst 0, 1) := by decide +kernel
theorem dX9_lay_52 : decode cX9_lay 52 = .ok (.istore_n 3, 1) := by decide +kernel
theorem dX9_lay_53 : decode cX9_lay 53 = .ok (.iload_n 3, 1) := by decide +kernel
theorem dX9_lay_54 : decode cX9_lay 54 = .ok (.bipush 16, 2) := by decide +kernel
theorem dX9_lay_56 : decode cX9_lay 56 = .ok (.if_icmp .ge 28, 3) := by decide +kernel
theorem dX9_lay_59 : decode cX9_lay 59 = .ok (.aload_n 0, 1) := by decide +kernel
theorem dX9_lay_60 : decode cX9_lay 60 = .ok (.iload_n 3, 1) := by decide +kernel
theorem dX9_lay_61 : decode cX9_lay 61 = .ok (.invokevirtual 151, 3) := by decide +kernel
theorem dX9_lay_64 : decode cX9_lay 64 = .ok (.ifCond .le 14, 3) := by decide +kernel
theorem dX9_lay_67 : decode cX9_lay 67 = .ok (.aload_n 0, 1) := by decide +kernel
theorem dX9_lay_68 : decode cX9_lay 68 = .ok (.aload_n 0, 1) := by decide +kernel
theorem dX9_lay_69 : decode cX9_lay 69 = .ok (.iload_n 3, 1) := by decide +kernel
theorem dX9_lay_70 : decode cX9_lay 70 = .ok (.invokevirtual 151, 3) := by decide +kernel
theorem dX9_lay_73 : decode cX9_lay 73 = .ok (.bipush 16, 2) := by decide +kernel
theorem dX9_lay_75 : decode cX9_lay 75 = .ok (.invokevirtual 154, 3) := by decide +kernel
theorem dX9_lay_78 : decode cX9_lay 78 = .ok (.iinc 3 1, 3) := by decide +kernel
theorem dX9_lay_81 : decode cX9_lay 81 = .ok (.goto (-28), 3) := by decide +kernel
theorem dX9_lay_84 : decode cX9_lay 84 = .ok (.aload_n 0, 1) := by decide +kernel
theorem dX9_lay_85 : decode cX9_lay 85 = .ok (.aload_n 0, 1) := by decide +kernel
theorem dX9_lay_86 : decode cX9_lay 86 = .ok (.getfield 92, 3) := by decide +kernel
theorem dX9_lay_89 : decode cX9_lay 89 = .ok (.iconst 2, 1) := by decide +kernel
theorem dX9_lay_90 : decode cX9_lay 90 = .ok (.invokevirtual 154, 3) := by decide +kernel
theorem dX9_lay_93 : decode cX9_lay 93 = .ok (.aload_n 0, 1) := by decide +kernel
theorem dX9_lay_94 : decode cX9_lay 94 = .ok (.aload_n 0, 1) := by decide +kernel
theorem dX9_lay_95 : decode cX9_lay 95 = .ok (.getfield 89, 3) := by decide +kernel
theorem dX9_lay_98 : decode cX9_lay 98 = .ok (.iconst 5, 1) := by decide +kernel
theorem dX9_lay_99 : decode cX9_lay 99 = .ok (.invokevirtual 154, 3) := by decide +kernel
theorem dX9_lay_102 : decode cX9_lay 102 = .ok (.iconst 0, 1) := by decide +kernel
theorem dX9_lay_103 : decode cX9_lay 103 = .ok (.istore_n 3, 1) := by decide +kernel
theorem dX9_lay_104 : decode cX9_lay 104 = .ok (.iload_n 3, 1) := by decide +kernel
theorem dX9_lay_105 : decode cX9_lay 105 = .ok (.aload_n 0, 1) := by decide +kernel
theorem dX9_lay_106 : decode cX9_lay 106 = .ok (.getfield 92, 3) := by decide +kernel
theorem dX9_lay_109 : decode cX9_lay 109 = .ok (.if_icmp .ge 16, 3) := by decide +kernel
theorem dX9_lay_112 : decode cX9_lay 112 = .ok (.aload_n 0, 1) := by decide +kernel
theorem dX9_lay_113 : decode cX9_lay 113 = .ok (.getfield 48, 3) := by decide +kernel
theorem dX9_lay_116 : decode cX9_lay 116 = .ok (.iload_n 3, 1) := by decide +kernel
theorem dX9_lay_117 : decode cX9_lay 117 = .ok (.iload_n 3, 1) := by decide +kernel
theorem dX9_lay_118 : decode cX9_lay 118 = .ok (.iastore, 1) := by decide +kernel
theorem dX9_lay_119 : decode cX9_lay 119 = .ok (.iinc 3 1, 3) := by decide +kernel
theorem dX9_lay_122 : decode cX9_lay 122 = .ok (.goto (-18), 3) := by decide +kernel
theorem dX9_lay_125 : decode cX9_lay 125 = .ok (.iconst 0, 1) := by decide +kernel
theorem dX9_lay_126 : decode cX9_lay 126 = .ok (.istore_n 3, 1) := by decide +kernel
theorem dX9_lay_127 : decode cX9_lay 127 = .ok (.iload_n 3, 1) := by decide +kernel
theorem dX9_lay_128 : decode cX9_lay 128 = .ok (.aload_n 0, 1) := by decide +kernel
theorem dX9_lay_129 : decode cX9_lay 129 = .ok (.getfield 89, 3) := by decide +kernel
theorem dX9_lay_132 : decode cX9_lay 132 = .ok (.if_icmp .ge 61, 3) := by decide +kernel
theorem dX9_lay_135 : decode cX9_lay 135 = .ok (.iconst 0, 1) := by decide +kernel
theorem dX9_lay_136 : decode cX9_lay 136 = .ok (.istore 4, 2) := by decide +kernel
theorem dX9_lay_138 : decode cX9_lay 138 = .ok (.aload_n 0, 1) := by decide +kernel
theorem dX9_lay_139 : decode cX9_lay 139 = .ok (.getfield 48, 3) := by decide +kernel
theorem dX9_lay_142 : decode cX9_lay 142 = .ok (.iload 4, 2) := by decide +kernel
theorem dX9_lay_144 : decode cX9_lay 144 = .ok (.iaload, 1) := by decide +kernel
theorem dX9_lay_145 : decode cX9_lay 145 = .ok (.aload_n 0, 1) := by decide +kernel
theorem dX9_lay_146 : decode cX9_lay 146 = .ok (.getfield 33, 3) := by decide +kernel
theorem dX9_lay_149 : decode cX9_lay 149 = .ok (.bipush 124, 2) := by decide +kernel
theorem dX9_lay_151 : decode cX9_lay 151 = .ok (.iload_n 3, 1) := by decide +kernel
theorem dX9_lay_152 : decode cX9_lay 152 = .ok (.iadd, 1) := by decide +kernel
theorem dX9_lay_153 : decode cX9_lay 153 = .ok (.iaload, 1) := by decide +kernel
theorem dX9_lay_154 : decode cX9_lay 154 = .ok (.if_icmp .eq 15, 3) := by decide +kernel
theorem dX9_lay_157 : decode cX9_lay 157 = .ok (.iinc 4 1, 3) := by decide +kernel
theorem dX9_lay_160 : decode cX9_lay 160 = .ok (.aload_n 0, 1) := by decide +kernel
theorem dX9_lay_161 : decode cX9_lay 161 = .ok (.iconst 1, 1) := by decide +kernel
theorem dX9_lay_162 : decode cX9_lay 162 = .ok (.iconst 1, 1) := by decide +kernel
theorem dX9_lay_163 : decode cX9_lay 163 = .ok (.invokevirtual 154, 3) := by decide +kernel
theorem dX9_lay_166 : decode cX9_lay 166 = .ok (.goto (-28), 3) := by decide +kernel
theorem dX9_lay_169 : decode cX9_lay 169 = .ok (.aload_n 0, 1) := by decide +kernel
theorem dX9_lay_170 : decode cX9_lay 170 = .ok (.iconst 0, 1) := by decide +kernel
theorem dX9_lay_171 : decode cX9_lay 171 = .ok (.iconst 1, 1) := by decide +kernel
theorem dX9_lay_172 : decode cX9_lay 172 = .ok (.invokevirtual 154, 3) := by decide +kernel
theorem dX9_lay_175 : decode cX9_lay 175 = .ok (.aload_n 0, 1) := by decide +kernel
theorem dX9_lay_176 : decode cX9_lay 176 = .ok (.aload_n 0, 1) := by decide +kernel
theorem dX9_lay_177 : decode cX9_lay 177 = .ok (.getfield 48, 3) := by decide +kernel
theorem dX9_lay_180 : decode cX9_lay 180 = .ok (.iload 4, 2) := by decide +kernel
theorem dX9_lay_182 : decode cX9_lay 182 = .ok (.invokevirtual 117, 3) := by decide +kernel
theorem dX9_lay_185 : decode cX9_lay 185 = .ok (.istore 5, 2) := by decide +kernel
theorem dX9_lay_187 : decode cX9_lay 187 = .ok (.iinc 3 1, 3) := by decide +kernel
theorem dX9_lay_190 : decode cX9_lay 190 = .ok (.goto (-63), 3) := by decide +kernel
theorem dX9_lay_193 : decode cX9_lay 193 = .ok (.iconst 0, 1) := by decide +kernel
theorem dX9_lay_194 : decode cX9_lay 194 = .ok (.istore_n 3, 1) := by decide +kernel
theorem dX9_lay_195 : decode cX9_lay 195 = .ok (.iload_n 3, 1) := by decide +kernel
theorem dX9_lay_196 : decode cX9_lay 196 = .ok (.aload_n 0, 1) := by decide +kernel
theorem dX9_lay_197 : decode cX9_lay 197 = .ok (.getfield 92, 3) := by decide +kernel
theorem dX9_lay_200 : decode cX9_lay 200 = .ok (.if_icmp .ge 21, 3) := by decide +kernel
theorem dX9_lay_203 : decode cX9_lay 203 = .ok (.aload_n 0, 1) := by decide +kernel
theorem dX9_lay_204 : decode cX9_lay 204 = .ok (.sipush 258, 3) := by decide +kernel
theorem dX9_lay_207 : decode cX9_lay 207 = .ok (.bipush 12, 2) := by decide +kernel
theorem dX9_lay_209 : decode cX9_lay 209 = .ok (.iload_n 3, 1) := by decide +kernel
theorem dX9_lay_210 : decode cX9_lay 210 = .ok (.iadd, 1) := by decide +kernel
theorem dX9_lay_211 : decode cX9_lay 211 = .ok (.imul, 1) := by decide +kernel
theorem dX9_lay_212 : decode cX9_lay 212 = .ok (.invokevirtual 157, 3) := by decide +kernel
theorem dX9_lay_215 : decode cX9_lay 215 = .ok (.iinc 3 1, 3) := by decide +kernel
theorem dX9_lay_218 : decode cX9_lay 218 = .ok (.goto (-23), 3) := by decide +kernel
theorem dX9_lay_221 : decode cX9_lay 221 = .ok (.iconst 0, 1) := by decide +kernel
theorem dX9_lay_222 : decode cX9_lay 222 = .ok (.istore_n 3, 1) := by decide +kernel
theorem dX9_lay_223 : decode cX9_lay 223 = .ok (.iload_n 3, 1) := by decide +kernel
theorem dX9_lay_224 : decode cX9_lay 224 = .ok (.aload_n 0, 1) := by decide +kernel
theorem dX9_lay_225 : decode cX9_lay 225 = .ok (.getfield 86, 3) := by decide +kernel
theorem dX9_lay_228 : decode cX9_lay 228 = .ok (.if_icmp .ge 66, 3) := by decide +kernel
theorem dX9_lay_231 : decode cX9_lay 231 = .ok (.aload_n 0, 1) := by decide +kernel
theorem dX9_lay_232 : decode cX9_lay 232 = .ok (.getfield 33, 3) := by decide +kernel
theorem dX9_lay_235 : decode cX9_lay 235 = .ok (.bipush 124, 2) := by decide +kernel
theorem dX9_lay_237 : decode cX9_lay 237 = .ok (.iload_n 3, 1) := by decide +kernel
theorem dX9_lay_238 : decode cX9_lay 238 = .ok (.bipush 10, 2) := by decide +kernel
theorem dX9_lay_240 : decode cX9_lay 240 = .ok (.idiv, 1) := by decide +kernel
theorem dX9_lay_241 : decode cX9_lay 241 = .ok (.iadd, 1) := by decide +kernel
theorem dX9_lay_242 : decode cX9_lay 242 = .ok (.iaload, 1) := by decide +kernel
theorem dX9_lay_243 : decode cX9_lay 243 = .ok (.istore 4, 2) := by decide +kernel
theorem dX9_lay_245 : decode cX9_lay 245 = .ok (.aload_n 0, 1) := by decide +kernel
theorem dX9_lay_246 : decode cX9_lay 246 = .ok (.aload_n 0, 1) := by decide +kernel
theorem dX9_lay_247 : decode cX9_lay 247 = .ok (.getfield 36, 3) := by decide +kernel
theorem dX9_lay_250 : decode cX9_lay 250 = .ok (.sipush 258, 3) := by decide +kernel
theorem dX9_lay_253 : decode cX9_lay 253 = .ok (.iload 4, 2) := by decide +kernel
theorem dX9_lay_255 : decode cX9_lay 255 = .ok (.imul, 1) := by decide +kernel
theorem dX9_lay_256 : decode cX9_lay 256 = .ok (.aload_n 0, 1) := by decide +kernel
theorem dX9_lay_257 : decode cX9_lay 257 = .ok (.getfield 27, 3) := by decide +kernel
theorem dX9_lay_260 : decode cX9_lay 260 = .ok (.iload_n 3, 1) := by decide +kernel
theorem dX9_lay_261 : decode cX9_lay 261 = .ok (.iaload, 1) := by decide +kernel
theorem dX9_lay_262 : decode cX9_lay 262 = .ok (.iadd, 1) := by decide +kernel
theorem dX9_lay_263 : decode cX9_lay 263 = .ok (.iaload, 1) := by decide +kernel
theorem dX9_lay_264 : decode cX9_lay 264 = .ok (.aload_n 0, 1) := by decide +kernel
theorem dX9_lay_265 : decode cX9_lay 265 = .ok (.getfield 30, 3) := by decide +kernel
theorem dX9_lay_268 : decode cX9_lay 268 = .ok (.sipush 258, 3) := by decide +kernel
theorem dX9_lay_271 : decode cX9_lay 271 = .ok (.bipush 12, 2) := by decide +kernel
theorem dX9_lay_273 : decode cX9_lay 273 = .ok (.iload 4, 2) := by decide +kernel
theorem dX9_lay_275 : decode cX9_lay 275 = .ok (.iadd, 1) := by decide +kernel
theorem dX9_lay_276 : decode cX9_lay 276 = .ok (.imul, 1) := by decide +kernel
theorem dX9_lay_277 : decode cX9_lay 277 = .ok (.aload_n 0, 1) := by decide +kernel
theorem dX9_lay_278 : decode cX9_lay 278 = .ok (.getfield 27, 3) := by decide +kernel
theorem dX9_lay_281 : decode cX9_lay 281 = .ok (.iload_n 3, 1) := by decide +kernel
theorem dX9_lay_282 : decode cX9_lay 282 = .ok (.iaload, 1) := by decide +kernel
theorem dX9_lay_283 : decode cX9_lay 283 = .ok (.iadd, 1) := by decide +kernel
theorem dX9_lay_284 : decode cX9_lay 284 = .ok (.iaload, 1) := by decide +kernel
theorem dX9_lay_285 : decode cX9_lay 285 = .ok (.invokevirtual 154, 3) := by decide +kernel
theorem dX9_lay_288 : decode cX9_lay 288 = .ok (.iinc 3 1, 3) := by decide +kernel
theorem dX9_lay_291 : decode cX9_lay 291 = .ok (.goto (-68), 3) := by decide +kernel
theorem dX9_lay_294 : decode cX9_lay 294 = .ok (.return_, 1) := by decide +kernel
theorem dX9_marks_0 : decode cX9_marks 0 = .ok (.iconst 0, 1) := by decide +kernel
theorem dX9_marks_1 : decode cX9_marks 1 = .ok (.istore_n 2, 1) := by decide +kernel
theorem dX9_marks_2 : decode cX9_marks 2 = .ok (.iconst 0, 1) := by decide +kernel
theorem dX9_marks_3 : decode cX9_marks 3 = .ok (.istore_n 3, 1) := by decide +kernel
theorem dX9_marks_4 : decode cX9_marks 4 = .ok (.iload_n 3, 1) := by decide +kernel
theorem dX9_marks_5 : decode cX9_marks 5 = .ok (.aload_n 0, 1) := by decide +kernel
theorem dX9_marks_6 : decode cX9_marks 6 = .ok (.getfield 106, 3) := by decide +kernel
theorem dX9_marks_9 : decode cX9_marks 9 = .ok (.if_icmp .ge 43, 3) := by decide +kernel
theorem dX9_marks_12 : decode cX9_marks 12 = .ok (.iload_n 2, 1) := by decide +kernel
theorem dX9_marks_13 : decode cX9_marks 13 = .ok (.aload_n 0, 1) := by decide +kernel
theorem dX9_marks_14 : decode cX9_marks 14 = .ok (.getfield 21, 3) := by decide +kernel
theorem dX9_marks_17 : decode cX9_marks 17 = .ok (.iload_n 3, 1) := by decide +kernel
theorem dX9_marks_18 : decode cX9_marks 18 = .ok (.iaload, 1) := by decide +kernel
theorem dX9_marks_19 : decode cX9_marks 19 = .ok (.bipush 16, 2) := by decide +kernel
theorem dX9_marks_21 : decode cX9_marks 21 = .ok (.idiv, 1) := by decide +kernel
theorem dX9_marks_22 : decode cX9_marks 22 = .ok (.iload_n 1, 1) := by decide +kernel
theorem dX9_marks_23 : decode cX9_marks 23 = .ok (.if_icmp .ne 20, 3) := by decide +kernel
theorem dX9_marks_26 : decode cX9_marks 26 = .ok (.iconst 1, 1) := by decide +kernel
theorem dX9_marks_27 : decode cX9_marks 27 = .ok (.bipush 15, 2) := by decide +kernel
theorem dX9_marks_29 : decode cX9_marks 29 = .ok (.aload_n 0, 1) := by decide +kernel
theorem dX9_marks_30 : decode cX9_marks 30 = .ok (.getfield 21, 3) := by decide +kernel
theorem dX9_marks_33 : decode cX9_marks 33 = .ok (.iload_n 3, 1) := by decide +kernel
theorem dX9_marks_34 : decode cX9_marks 34 = .ok (.iaload, 1) := by decide +kernel
theorem dX9_marks_35 : decode cX9_marks 35 = .ok (.bipush 16, 2) := by decide +kernel
theorem dX9_marks_37 : decode cX9_marks 37 = .ok (.irem, 1) := by decide +kernel
theorem dX9_marks_38 : decode cX9_marks 38 = .ok (.isub, 1) := by decide +kernel
theorem dX9_marks_39 : decode cX9_marks 39 = .ok (.ishl, 1) := by decide +kernel
theorem dX9_marks_40 : decode cX9_marks 40 = .ok (.goto 4, 3) := by decide +kernel
theorem dX9_marks_43 : decode cX9_marks 43 = .ok (.iconst 0, 1) := by decide +kernel
theorem dX9_marks_44 : decode cX9_marks 44 = .ok (.iadd, 1) := by decide +kernel
theorem dX9_marks_45 : decode cX9_marks 45 = .ok (.istore_n 2, 1) := by decide +kernel
theorem dX9_marks_46 : decode cX9_marks 46 = .ok (.iinc 3 1, 3) := by decide +kernel
theorem dX9_marks_49 : decode cX9_marks 49 = .ok (.goto (-45), 3) := by decide +kernel
theorem dX9_marks_52 : decode cX9_marks 52 = .ok (.iload_n 2, 1) := by decide +kernel
theorem dX9_marks_53 : decode cX9_marks 53 = .ok (.ireturn, 1) := by decide +kernel
set_option maxRecDepth 20000 in
theorem ggX9_layLengths_X9_put : GoodIn wsX9_layLengths wsX9_put := goodIn_r _ [7, 8, 9, 10, 11, 12, 13, 14, 15, 16, 17, 18, 19, 20, 21, 22, 23, 24, 25, 26, 27, 28, 29, 30, 31, 32, 33, 34, 35, 36, 37, 38, 39, 40, 41, 42, 43] (by decide +kernel) (by decide +kernel)
set_option maxRecDepth 20000 in
theorem gX9_layLengths_X9_put : GoodIn wsX9_layLengths (wsV RX9 154 RX9 yX9_put wsX9_put) := goodIn_app (goodIn_of _ (by decide +kernel)) ggX9_layLengths_X9_put
theorem dX9_layLengths_0 : decode cX9_layLengths 0 = .ok (.aload_n 0, 1) := by decide +kernel
theorem dX9_layLengths_1 : decode cX9_layLengths 1 = .ok (.getfield 30, 3) := by decide +kernel
theorem dX9_layLengths_4 : decode cX9_layLengths 4 = .ok (.iload_n 1, 1) := by decide +kernel
theorem dX9_layLengths_5 : decode cX9_layLengths 5 = .ok (.iaload, 1) := by decide +kernel
theorem dX9_layLengths_6 : decode cX9_layLengths 6 = .ok (.istore_n 2, 1) := by decide +kernel
theorem dX9_layLengths_7 : decode cX9_layLengths 7 = .ok (.aload_n 0, 1) := by decide +kernel
theorem dX9_layLengths_8 : decode cX9_layLengths 8 = .ok (.iload_n 2, 1) := by decide +kernel
theorem dX9_layLengths_9 : decode cX9_layLengths 9 = .ok (.iconst 5, 1) := by decide +kernel
theorem dX9_layLengths_10 : decode cX9_layLengths 10 = .ok (.invokevirtual 154, 3) := by decide +kernel
theorem dX9_layLengths_13 : decode cX9_layLengths 13 = .ok (.iconst 0, 1) := by decide +kernel
theorem dX9_layLengths_14 : decode cX9_layLengths 14 = .ok (.istore_n 3, 1) := by decide +kernel
theorem dX9_layLengths_15 : decode cX9_layLengths 15 = .ok (.iload_n 3, 1) := by decide +kernel
theorem dX9_layLengths_16 : decode cX9_layLengths 16 = .ok (.aload_n 0, 1) := by decide +kernel
theorem dX9_layLengths_17 : decode cX9_layLengths 17 = .ok (.getfield 106, 3) := by decide +kernel
theorem dX9_layLengths_20 : decode cX9_layLengths 20 = .ok (.iconst 2, 1) := by decide +kernel
theorem dX9_layLengths_21 : decode cX9_layLengths 21 = .ok (.iadd, 1) := by decide +kernel
theorem dX9_layLengths_22 : decode cX9_layLengths 22 = .ok (.if_icmp .ge 63, 3) := by decide +kernel
theorem dX9_layLengths_25 : decode cX9_layLengths 25 = .ok (.iload_n 2, 1) := by decide +kernel
theorem dX9_layLengths_26 : decode cX9_layLengths 26 = .ok (.aload_n 0, 1) := by decide +kernel
theorem dX9_layLengths_27 : decode cX9_layLengths 27 = .ok (.getfield 30, 3) := by decide +kernel
theorem dX9_layLengths_30 : decode cX9_layLengths 30 = .ok (.iload_n 1, 1) := by decide +kernel
theorem dX9_layLengths_31 : decode cX9_layLengths 31 = .ok (.iload_n 3, 1) := by decide +kernel
theorem dX9_layLengths_32 : decode cX9_layLengths 32 = .ok (.iadd, 1) := by decide +kernel
theorem dX9_layLengths_33 : decode cX9_layLengths 33 = .ok (.iaload, 1) := by decide +kernel
theorem dX9_layLengths_34 : decode cX9_layLengths 34 = .ok (.if_icmp .ge 15, 3) := by decide +kernel
theorem dX9_layLengths_37 : decode cX9_layLengths 37 = .ok (.aload_n 0, 1) := by decide +kernel
theorem dX9_layLengths_38 : decode cX9_layLengths 38 = .ok (.iconst 2, 1) := by decide +kernel
theorem dX9_layLengths_39 : decode cX9_layLengths 39 = .ok (.iconst 2, 1) := by decide +kernel
theorem dX9_layLengths_40 : decode cX9_layLengths 40 = .ok (.invokevirtual 154, 3) := by decide +kernel
theorem dX9_layLengths_43 : decode cX9_layLengths 43 = .ok (.iinc 2 1, 3) := by decide +kernel
theorem dX9_layLengths_46 : decode cX9_layLengths 46 = .ok (.goto (-21), 3) := by decide +kernel
theorem dX9_layLengths_49 : decode cX9_layLengths 49 = .ok (.iload_n 2, 1) := by decide +kernel
theorem dX9_layLengths_50 : decode cX9_layLengths 50 = .ok (.aload_n 0, 1) := by decide +kernel
theorem dX9_layLengths_51 : decode cX9_layLengths 51 = .ok (.getfield 30, 3) := by decide +kernel
theorem dX9_layLengths_54 : decode cX9_layLengths 54 = .ok (.iload_n 1, 1) := by decide +kernel
theorem dX9_layLengths_55 : decode cX9_layLengths 55 = .ok (.iload_n 3, 1) := by decide +kernel
theorem dX9_layLengths_56 : decode cX9_layLengths 56 = .ok (.iadd, 1) := by decide +kernel
theorem dX9_layLengths_57 : decode cX9_layLengths 57 = .ok (.iaload, 1) := by decide +kernel
theorem dX9_layLengths_58 : decode cX9_layLengths 58 = .ok (.if_icmp .le 15, 3) := by decide +kernel
theorem dX9_layLengths_61 : decode cX9_layLengths 61 = .ok (.aload_n 0, 1) := by decide +kernel
theorem dX9_layLengths_62 : decode cX9_layLengths 62 = .ok (.iconst 3, 1) := by decide +kernel
theorem dX9_layLengths_63 : decode cX9_layLengths 63 = .ok (.iconst 2, 1) := by decide +kernel
theorem dX9_layLengths_64 : decode cX9_layLengths 64 = .ok (.invokevirtual 154, 3) := by decide +kernel
theorem dX9_layLengths_67 : decode cX9_layLengths 67 = .ok (.iinc 2 (-1), 3) := by decide +kernel
theorem dX9_layLengths_70 : decode cX9_layLengths 70 = .ok (.goto (-21), 3) := by decide +kernel
theorem dX9_layLengths_73 : decode cX9_layLengths 73 = .ok (.aload_n 0, 1) := by decide +kernel
theorem dX9_layLengths_74 : decode cX9_layLengths 74 = .ok (.iconst 0, 1) := by decide +kernel
theorem dX9_layLengths_75 : decode cX9_layLengths 75 = .ok (.iconst 1, 1) := by decide +kernel
theorem dX9_layLengths_76 : decode cX9_layLengths 76 = .ok (.invokevirtual 154, 3) := by decide +kernel
theorem dX9_layLengths_79 : decode cX9_layLengths 79 = .ok (.iinc 3 1, 3) := by decide +kernel
theorem dX9_layLengths_82 : decode cX9_layLengths 82 = .ok (.goto (-67), 3) := by decide +kernel
theorem dX9_layLengths_85 : decode cX9_layLengths 85 = .ok (.return_, 1) := by decide +kernel
set_option maxRecDepth 20000 in
theorem ggX9_cost_X9_work : GoodIn wsX9_cost wsX9_work := goodIn_r _ [7, 8, 9, 10, 11, 12, 13, 14, 15, 16, 17, 18, 6, 19, 20, 21, 22, 23, 24, 1, 25, 26, 27, 28, 29, 30, 31, 32, 33, 34, 35, 36, 37, 38, 39, 40, 41, 42, 43, 44, 45, 46, 47, 48, 49, 50, 51, 52, 53, 54, 55, 56, 57, 58, 59, 60, 61, 62, 63, 64, 65, 66, 67, 68, 69, 70, 71, 72, 73, 74, 75, 76, 96, 97, 98, 99, 100, 101, 102, 103, 104, 105, 106, 107, 108, 109, 110, 111, 112, 113, 114, 115, 116, 117, 118, 119, 120, 121, 122, 123, 124, 125, 126, 127, 128] (by decide +kernel) (by decide +kernel)
set_option maxRecDepth 20000 in
theorem gX9_cost_X9_work : GoodIn wsX9_cost (wsV RX9 135 RX9 yX9_work wsX9_work) := goodIn_app (goodIn_of _ (by decide +kernel)) ggX9_cost_X9_work
set_option maxRecDepth 20000 in
theorem ggX9_cost_X9_lay : GoodIn wsX9_cost wsX9_lay := goodIn_r _ [80, 81, 2, 11, 10, 82, 12, 9, 14, 40, 13, 83, 84, 85, 6, 86, 15, 20, 87, 88, 89, 90, 91, 32, 33, 34, 35, 92, 93, 94, 95, 96, 97, 98, 99, 100, 101, 102, 103, 104, 105, 106, 107, 108, 109, 110, 111, 112, 113, 114, 115, 116, 117, 118, 119, 120, 121, 122, 123, 124, 125, 126, 127, 128] (by decide +kernel) (by decide +kernel)
set_option maxRecDepth 20000 in
theorem gX9_cost_X9_lay : GoodIn wsX9_cost (wsV RX9 160 RX9 yX9_lay wsX9_lay) := goodIn_app (goodIn_of _ (by decide +kernel)) ggX9_cost_X9_lay
theorem dX9_cost_0 : decode cX9_cost 0 = .ok (.aload_n 0, 1) := by decide +kernel
theorem dX9_cost_1 : decode cX9_cost 1 = .ok (.getfield 70, 3) := by decide +kernel
theorem dX9_cost_4 : decode cX9_cost 4 = .ok (.ifCond .ne 6, 3) := by decide +kernel
theorem dX9_cost_7 : decode cX9_cost 7 = .ok (.bipush (-3), 2) := by decide +kernel
theorem dX9_cost_9 : decode cX9_cost 9 = .ok (.ireturn, 1) := by decide +kernel
theorem dX9_cost_10 : decode cX9_cost 10 = .ok (.aload_n 0, 1) := by decide +kernel
theorem dX9_cost_11 : decode cX9_cost 11 = .ok (.invokevirtual 135, 3) := by decide +kernel
theorem dX9_cost_14 : decode cX9_cost 14 = .ok (.aload_n 0, 1) := by decide +kernel
theorem dX9_cost_15 : decode cX9_cost 15 = .ok (.iconst 0, 1) := by decide +kernel
theorem dX9_cost_16 : decode cX9_cost 16 = .ok (.invokevirtual 160, 3) := by decide +kernel
theorem dX9_cost_19 : decode cX9_cost 19 = .ok (.aload_n 0, 1) := by decide +kernel
theorem dX9_cost_20 : decode cX9_cost 20 = .ok (.getfield 148, 3) := by decide +kernel
theorem dX9_cost_23 : decode cX9_cost 23 = .ok (.ireturn, 1) := by decide +kernel
set_option maxRecDepth 20000 in
theorem ggX9_write_X9_work : GoodIn wsX9_write wsX9_work := goodIn_r _ [8, 9, 10, 11, 12, 13, 14, 15, 16, 17, 18, 19, 7, 20, 21, 22, 23, 24, 25, 1, 26, 27, 28, 29, 30, 31, 32, 33, 34, 35, 36, 37, 38, 39, 40, 41, 42, 43, 44, 45, 46, 47, 48, 49, 50, 51, 52, 53, 54, 55, 56, 57, 58, 59, 60, 61, 62, 63, 64, 65, 66, 67, 68, 69, 70, 71, 72, 73, 74, 75, 76, 77, 97, 98, 99, 100, 101, 102, 103, 104, 105, 106, 107, 108, 109, 110, 111, 112, 113, 114, 115, 116, 117, 118, 119, 120, 121, 122, 123, 124, 125, 126, 127, 128, 129] (by decide +kernel) (by decide +kernel)
set_option maxRecDepth 20000 in
theorem gX9_write_X9_work : GoodIn wsX9_write (wsV RX9 135 RX9 yX9_work wsX9_work) := goodIn_app (goodIn_of _ (by decide +kernel)) ggX9_write_X9_work
set_option maxRecDepth 20000 in
theorem ggX9_write_X9_lay : GoodIn wsX9_write wsX9_lay := goodIn_r _ [81, 82, 2, 12, 11, 83, 13, 10, 15, 41, 14, 84, 85, 86, 7, 87, 16, 21, 88, 89, 90, 91, 92, 33, 34, 35, 36, 93, 94, 95, 96, 97, 98, 99, 100, 101, 102, 103, 104, 105, 106, 107, 108, 109, 110, 111, 112, 113, 114, 115, 116, 117, 118, 119, 120, 121, 122, 123, 124, 125, 126, 127, 128, 129] (by decide +kernel) (by decide +kernel)
set_option maxRecDepth 20000 in
theorem gX9_write_X9_lay : GoodIn wsX9_write (wsV RX9 160 RX9 yX9_lay wsX9_lay) := goodIn_app (goodIn_of _ (by decide +kernel)) ggX9_write_X9_lay
theorem dX9_write_0 : decode cX9_write 0 = .ok (.aload_n 0, 1) := by decide +kernel
theorem dX9_write_1 : decode cX9_write 1 = .ok (.getfield 70, 3) := by decide +kernel
theorem dX9_write_4 : decode cX9_write 4 = .ok (.ifCond .ne 6, 3) := by decide +kernel
theorem dX9_write_7 : decode cX9_write 7 = .ok (.bipush (-3), 2) := by decide +kernel
theorem dX9_write_9 : decode cX9_write 9 = .ok (.ireturn, 1) := by decide +kernel
theorem dX9_write_10 : decode cX9_write 10 = .ok (.aload_n 0, 1) := by decide +kernel
theorem dX9_write_11 : decode cX9_write 11 = .ok (.invokevirtual 135, 3) := by decide +kernel
theorem dX9_write_14 : decode cX9_write 14 = .ok (.aload_n 0, 1) := by decide +kernel
theorem dX9_write_15 : decode cX9_write 15 = .ok (.iconst 0, 1) := by decide +kernel
theorem dX9_write_16 : decode cX9_write 16 = .ok (.invokevirtual 160, 3) := by decide +kernel
theorem dX9_write_19 : decode cX9_write 19 = .ok (.aload_n 0, 1) := by decide +kernel
theorem dX9_write_20 : decode cX9_write 20 = .ok (.getfield 148, 3) := by decide +kernel
theorem dX9_write_23 : decode cX9_write 23 = .ok (.sipush 1500, 3) := by decide +kernel
theorem dX9_write_26 : decode cX9_write 26 = .ok (.if_icmp .le 6, 3) := by decide +kernel
theorem dX9_write_29 : decode cX9_write 29 = .ok (.bipush (-4), 2) := by decide +kernel
theorem dX9_write_31 : decode cX9_write 31 = .ok (.ireturn, 1) := by decide +kernel
theorem dX9_write_32 : decode cX9_write 32 = .ok (.aload_n 0, 1) := by decide +kernel
theorem dX9_write_33 : decode cX9_write 33 = .ok (.iconst 1, 1) := by decide +kernel
theorem dX9_write_34 : decode cX9_write 34 = .ok (.invokevirtual 160, 3) := by decide +kernel
theorem dX9_write_37 : decode cX9_write 37 = .ok (.aload_n 0, 1) := by decide +kernel
theorem dX9_write_38 : decode cX9_write 38 = .ok (.aload_n 0, 1) := by decide +kernel
theorem dX9_write_39 : decode cX9_write 39 = .ok (.getfield 148, 3) := by decide +kernel
theorem dX9_write_42 : decode cX9_write 42 = .ok (.putfield 138, 3) := by decide +kernel
theorem dX9_write_45 : decode cX9_write 45 = .ok (.aload_n 0, 1) := by decide +kernel
theorem dX9_write_46 : decode cX9_write 46 = .ok (.getfield 138, 3) := by decide +kernel
theorem dX9_write_49 : decode cX9_write 49 = .ok (.ireturn, 1) := by decide +kernel
theorem dX9_more_0 : decode cX9_more 0 = .ok (.aload_n 0, 1) := by decide +kernel
theorem dX9_more_1 : decode cX9_more 1 = .ok (.getfield 138, 3) := by decide +kernel
theorem dX9_more_4 : decode cX9_more 4 = .ok (.sipush 1500, 3) := by decide +kernel
theorem dX9_more_7 : decode cX9_more 7 = .ok (.if_icmp .ne 6, 3) := by decide +kernel
theorem dX9_more_10 : decode cX9_more 10 = .ok (.bipush (-4), 2) := by decide +kernel
theorem dX9_more_12 : decode cX9_more 12 = .ok (.ireturn, 1) := by decide +kernel
theorem dX9_more_13 : decode cX9_more 13 = .ok (.aload_n 0, 1) := by decide +kernel
theorem dX9_more_14 : decode cX9_more 14 = .ok (.getfield 13, 3) := by decide +kernel
theorem dX9_more_17 : decode cX9_more 17 = .ok (.aload_n 0, 1) := by decide +kernel
theorem dX9_more_18 : decode cX9_more 18 = .ok (.getfield 138, 3) := by decide +kernel
theorem dX9_more_21 : decode cX9_more 21 = .ok (.iload_n 1, 1) := by decide +kernel
theorem dX9_more_22 : decode cX9_more 22 = .ok (.bastore, 1) := by decide +kernel
theorem dX9_more_23 : decode cX9_more 23 = .ok (.aload_n 0, 1) := by decide +kernel
theorem dX9_more_24 : decode cX9_more 24 = .ok (.dup, 1) := by decide +kernel
theorem dX9_more_25 : decode cX9_more 25 = .ok (.getfield 138, 3) := by decide +kernel
theorem dX9_more_28 : decode cX9_more 28 = .ok (.iconst 1, 1) := by decide +kernel
theorem dX9_more_29 : decode cX9_more 29 = .ok (.iadd, 1) := by decide +kernel
theorem dX9_more_30 : decode cX9_more 30 = .ok (.putfield 138, 3) := by decide +kernel
theorem dX9_more_33 : decode cX9_more 33 = .ok (.aload_n 0, 1) := by decide +kernel
theorem dX9_more_34 : decode cX9_more 34 = .ok (.getfield 138, 3) := by decide +kernel
theorem dX9_more_37 : decode cX9_more 37 = .ok (.ireturn, 1) := by decide +kernel
set_option maxRecDepth 20000 in
theorem ggX9_cut_X9_within : GoodIn wsX9_cut wsX9_within := goodIn_r _ [5] (by decide +kernel) (by decide +kernel)
set_option maxRecDepth 20000 in
theorem gX9_cut_X9_within : GoodIn wsX9_cut (va_wsS RX9 66 yX9_within wsX9_within) := goodIn_app (goodIn_of _ (by decide +kernel)) ggX9_cut_X9_within
theorem dX9_cut_0 : decode cX9_cut 0 = .ok (.iload_n 1, 1) := by decide +kernel
theorem dX9_cut_1 : decode cX9_cut 1 = .ok (.iconst 0, 1) := by decide +kernel
theorem dX9_cut_2 : decode cX9_cut 2 = .ok (.aload_n 0, 1) := by decide +kernel
theorem dX9_cut_3 : decode cX9_cut 3 = .ok (.getfield 138, 3) := by decide +kernel
theorem dX9_cut_6 : decode cX9_cut 6 = .ok (.invokestatic 66, 3) := by decide +kernel
theorem dX9_cut_9 : decode cX9_cut 9 = .ok (.ifCond .ne 6, 3) := by decide +kernel
theorem dX9_cut_12 : decode cX9_cut 12 = .ok (.bipush (-2), 2) := by decide +kernel
theorem dX9_cut_14 : decode cX9_cut 14 = .ok (.ireturn, 1) := by decide +kernel
theorem dX9_cut_15 : decode cX9_cut 15 = .ok (.aload_n 0, 1) := by decide +kernel
theorem dX9_cut_16 : decode cX9_cut 16 = .ok (.getfield 138, 3) := by decide +kernel
theorem dX9_cut_19 : decode cX9_cut 19 = .ok (.iload_n 1, 1) := by decide +kernel
theorem dX9_cut_20 : decode cX9_cut 20 = .ok (.isub, 1) := by decide +kernel
theorem dX9_cut_21 : decode cX9_cut 21 = .ok (.istore_n 2, 1) := by decide +kernel
theorem dX9_cut_22 : decode cX9_cut 22 = .ok (.aload_n 0, 1) := by decide +kernel
theorem dX9_cut_23 : decode cX9_cut 23 = .ok (.iload_n 1, 1) := by decide +kernel
theorem dX9_cut_24 : decode cX9_cut 24 = .ok (.putfield 138, 3) := by decide +kernel
theorem dX9_cut_27 : decode cX9_cut 27 = .ok (.iload_n 2, 1) := by decide +kernel
theorem dX9_cut_28 : decode cX9_cut 28 = .ok (.ireturn, 1) := by decide +kernel
set_option maxRecDepth 20000 in
theorem ggX9_flip_X9_within : GoodIn wsX9_flip wsX9_within := goodIn_r _ [6] (by decide +kernel) (by decide +kernel)
set_option maxRecDepth 20000 in
theorem gX9_flip_X9_within : GoodIn wsX9_flip (va_wsS RX9 66 yX9_within wsX9_within) := goodIn_app (goodIn_of _ (by decide +kernel)) ggX9_flip_X9_within
theorem dX9_flip_0 : decode cX9_flip 0 = .ok (.iload_n 1, 1) := by decide +kernel
theorem dX9_flip_1 : decode cX9_flip 1 = .ok (.iconst 0, 1) := by decide +kernel
theorem dX9_flip_2 : decode cX9_flip 2 = .ok (.aload_n 0, 1) := by decide +kernel
theorem dX9_flip_3 : decode cX9_flip 3 = .ok (.getfield 138, 3) := by decide +kernel
theorem dX9_flip_6 : decode cX9_flip 6 = .ok (.iconst 1, 1) := by decide +kernel
theorem dX9_flip_7 : decode cX9_flip 7 = .ok (.isub, 1) := by decide +kernel
theorem dX9_flip_8 : decode cX9_flip 8 = .ok (.invokestatic 66, 3) := by decide +kernel
theorem dX9_flip_11 : decode cX9_flip 11 = .ok (.ifCond .ne 5, 3) := by decide +kernel
theorem dX9_flip_14 : decode cX9_flip 14 = .ok (.iconst (-1), 1) := by decide +kernel
theorem dX9_flip_15 : decode cX9_flip 15 = .ok (.ireturn, 1) := by decide +kernel
theorem dX9_flip_16 : decode cX9_flip 16 = .ok (.aload_n 0, 1) := by decide +kernel
theorem dX9_flip_17 : decode cX9_flip 17 = .ok (.getfield 13, 3) := by decide +kernel
theorem dX9_flip_20 : decode cX9_flip 20 = .ok (.iload_n 1, 1) := by decide +kernel
theorem dX9_flip_21 : decode cX9_flip 21 = .ok (.aload_n 0, 1) := by decide +kernel
theorem dX9_flip_22 : decode cX9_flip 22 = .ok (.getfield 13, 3) := by decide +kernel
theorem dX9_flip_25 : decode cX9_flip 25 = .ok (.iload_n 1, 1) := by decide +kernel
theorem dX9_flip_26 : decode cX9_flip 26 = .ok (.baload, 1) := by decide +kernel
theorem dX9_flip_27 : decode cX9_flip 27 = .ok (.ifCond .ne 7, 3) := by decide +kernel
theorem dX9_flip_30 : decode cX9_flip 30 = .ok (.iconst 1, 1) := by decide +kernel
theorem dX9_flip_31 : decode cX9_flip 31 = .ok (.goto 4, 3) := by decide +kernel
theorem dX9_flip_34 : decode cX9_flip 34 = .ok (.iconst 0, 1) := by decide +kernel
theorem dX9_flip_35 : decode cX9_flip 35 = .ok (.bastore, 1) := by decide +kernel
theorem dX9_flip_36 : decode cX9_flip 36 = .ok (.aload_n 0, 1) := by decide +kernel
theorem dX9_flip_37 : decode cX9_flip 37 = .ok (.getfield 13, 3) := by decide +kernel
theorem dX9_flip_40 : decode cX9_flip 40 = .ok (.iload_n 1, 1) := by decide +kernel
theorem dX9_flip_41 : decode cX9_flip 41 = .ok (.baload, 1) := by decide +kernel
theorem dX9_flip_42 : decode cX9_flip 42 = .ok (.ifCond .eq 7, 3) := by decide +kernel
theorem dX9_flip_45 : decode cX9_flip 45 = .ok (.iconst 1, 1) := by decide +kernel
theorem dX9_flip_46 : decode cX9_flip 46 = .ok (.goto 4, 3) := by decide +kernel
theorem dX9_flip_49 : decode cX9_flip 49 = .ok (.iconst 0, 1) := by decide +kernel
theorem dX9_flip_50 : decode cX9_flip 50 = .ok (.ireturn, 1) := by decide +kernel
set_option maxRecDepth 20000 in
theorem ggX9_bit_X9_within : GoodIn wsX9_bit wsX9_within := goodIn_r _ [6] (by decide +kernel) (by decide +kernel)
set_option maxRecDepth 20000 in
theorem gX9_bit_X9_within : GoodIn wsX9_bit (va_wsS RX9 66 yX9_within wsX9_within) := goodIn_app (goodIn_of _ (by decide +kernel)) ggX9_bit_X9_within
theorem dX9_bit_0 : decode cX9_bit 0 = .ok (.iload_n 1, 1) := by decide +kernel
theorem dX9_bit_1 : decode cX9_bit 1 = .ok (.iconst 0, 1) := by decide +kernel
theorem dX9_bit_2 : decode cX9_bit 2 = .ok (.aload_n 0, 1) := by decide +kernel
theorem dX9_bit_3 : decode cX9_bit 3 = .ok (.getfield 138, 3) := by decide +kernel
theorem dX9_bit_6 : decode cX9_bit 6 = .ok (.iconst 1, 1) := by decide +kernel
theorem dX9_bit_7 : decode cX9_bit 7 = .ok (.isub, 1) := by decide +kernel
theorem dX9_bit_8 : decode cX9_bit 8 = .ok (.invokestatic 66, 3) := by decide +kernel
theorem dX9_bit_11 : decode cX9_bit 11 = .ok (.ifCond .ne 7, 3) := by decide +kernel
theorem dX9_bit_14 : decode cX9_bit 14 = .ok (.iconst (-1), 1) := by decide +kernel
theorem dX9_bit_15 : decode cX9_bit 15 = .ok (.goto 17, 3) := by decide +kernel
theorem dX9_bit_18 : decode cX9_bit 18 = .ok (.aload_n 0, 1) := by decide +kernel
theorem dX9_bit_19 : decode cX9_bit 19 = .ok (.getfield 13, 3) := by decide +kernel
theorem dX9_bit_22 : decode cX9_bit 22 = .ok (.iload_n 1, 1) := by decide +kernel
theorem dX9_bit_23 : decode cX9_bit 23 = .ok (.baload, 1) := by decide +kernel
theorem dX9_bit_24 : decode cX9_bit 24 = .ok (.ifCond .eq 7, 3) := by decide +kernel
theorem dX9_bit_27 : decode cX9_bit 27 = .ok (.iconst 1, 1) := by decide +kernel
theorem dX9_bit_28 : decode cX9_bit 28 = .ok (.goto 4, 3) := by decide +kernel
theorem dX9_bit_31 : decode cX9_bit 31 = .ok (.iconst 0, 1) := by decide +kernel
theorem dX9_bit_32 : decode cX9_bit 32 = .ok (.ireturn, 1) := by decide +kernel
theorem dX9_take_0 : decode cX9_take 0 = .ok (.iconst 0, 1) := by decide +kernel
theorem dX9_take_1 : decode cX9_take 1 = .ok (.istore_n 2, 1) := by decide +kernel
theorem dX9_take_2 : decode cX9_take 2 = .ok (.iconst 0, 1) := by decide +kernel
theorem dX9_take_3 : decode cX9_take 3 = .ok (.istore_n 3, 1) := by decide +kernel
theorem dX9_take_4 : decode cX9_take 4 = .ok (.iload_n 3, 1) := by decide +kernel
theorem dX9_take_5 : decode cX9_take 5 = .ok (.iload_n 1, 1) := by decide +kernel
theorem dX9_take_6 : decode cX9_take 6 = .ok (.if_icmp .ge 66, 3) := by decide +kernel
theorem dX9_take_9 : decode cX9_take 9 = .ok (.aload_n 0, 1) := by decide +kernel
theorem dX9_take_10 : decode cX9_take 10 = .ok (.getfield 164, 3) := by decide +kernel
theorem dX9_take_13 : decode cX9_take 13 = .ok (.ifCond .ne 59, 3) := by decide +kernel
theorem dX9_take_16 : decode cX9_take 16 = .ok (.aload_n 0, 1) := by decide +kernel
theorem dX9_take_17 : decode cX9_take 17 = .ok (.getfield 167, 3) := by decide +kernel
theorem dX9_take_20 : decode cX9_take 20 = .ok (.aload_n 0, 1) := by decide +kernel
theorem dX9_take_21 : decode cX9_take 21 = .ok (.getfield 138, 3) := by decide +kernel
theorem dX9_take_24 : decode cX9_take 24 = .ok (.if_icmp .ne 10, 3) := by decide +kernel
theorem dX9_take_27 : decode cX9_take 27 = .ok (.aload_n 0, 1) := by decide +kernel
theorem dX9_take_28 : decode cX9_take 28 = .ok (.iconst 1, 1) := by decide +kernel
theorem dX9_take_29 : decode cX9_take 29 = .ok (.putfield 164, 3) := by decide +kernel
theorem dX9_take_32 : decode cX9_take 32 = .ok (.iconst 0, 1) := by decide +kernel
theorem dX9_take_33 : decode cX9_take 33 = .ok (.ireturn, 1) := by decide +kernel
theorem dX9_take_34 : decode cX9_take 34 = .ok (.iconst 2, 1) := by decide +kernel
theorem dX9_take_35 : decode cX9_take 35 = .ok (.iload_n 2, 1) := by decide +kernel
theorem dX9_take_36 : decode cX9_take 36 = .ok (.imul, 1) := by decide +kernel
theorem dX9_take_37 : decode cX9_take 37 = .ok (.aload_n 0, 1) := by decide +kernel
theorem dX9_take_38 : decode cX9_take 38 = .ok (.getfield 13, 3) := by decide +kernel
theorem dX9_take_41 : decode cX9_take 41 = .ok (.aload_n 0, 1) := by decide +kernel
theorem dX9_take_42 : decode cX9_take 42 = .ok (.getfield 167, 3) := by decide +kernel
theorem dX9_take_45 : decode cX9_take 45 = .ok (.baload, 1) := by decide +kernel
theorem dX9_take_46 : decode cX9_take 46 = .ok (.ifCond .eq 7, 3) := by decide +kernel
theorem dX9_take_49 : decode cX9_take 49 = .ok (.iconst 1, 1) := by decide +kernel
theorem dX9_take_50 : decode cX9_take 50 = .ok (.goto 4, 3) := by decide +kernel
theorem dX9_take_53 : decode cX9_take 53 = .ok (.iconst 0, 1) := by decide +kernel
theorem dX9_take_54 : decode cX9_take 54 = .ok (.iadd, 1) := by decide +kernel
theorem dX9_take_55 : decode cX9_take 55 = .ok (.istore_n 2, 1) := by decide +kernel
theorem dX9_take_56 : decode cX9_take 56 = .ok (.aload_n 0, 1) := by decide +kernel
theorem dX9_take_57 : decode cX9_take 57 = .ok (.dup, 1) := by decide +kernel
theorem dX9_take_58 : decode cX9_take 58 = .ok (.getfield 167, 3) := by decide +kernel
theorem dX9_take_61 : decode cX9_take 61 = .ok (.iconst 1, 1) := by decide +kernel
theorem dX9_take_62 : decode cX9_take 62 = .ok (.iadd, 1) := by decide +kernel
theorem dX9_take_63 : decode cX9_take 63 = .ok (.putfield 167, 3) := by decide +kernel
theorem dX9_take_66 : decode cX9_take 66 = .ok (.iinc 3 1, 3) := by decide +kernel
theorem dX9_take_69 : decode cX9_take 69 = .ok (.goto (-65), 3) := by decide +kernel
theorem dX9_take_72 : decode cX9_take 72 = .ok (.iload_n 2, 1) := by decide +kernel
theorem dX9_take_73 : decode cX9_take 73 = .ok (.ireturn, 1) := by decide +kernel
theorem dX9_fails_0 : decode cX9_fails 0 = .ok (.aload_n 0, 1) := by decide +kernel
theorem dX9_fails_1 : decode cX9_fails 1 = .ok (.aload_n 0, 1) := by decide +kernel
theorem dX9_fails_2 : decode cX9_fails 2 = .ok (.getfield 164, 3) := by decide +kernel
theorem dX9_fails_5 : decode cX9_fails 5 = .ok (.ifCond .ne 11, 3) := by decide +kernel
theorem dX9_fails_8 : decode cX9_fails 8 = .ok (.iload_n 1, 1) := by decide +kernel
theorem dX9_fails_9 : decode cX9_fails 9 = .ok (.ifCond .eq 7, 3) := by decide +kernel
theorem dX9_fails_12 : decode cX9_fails 12 = .ok (.iload_n 2, 1) := by decide +kernel
theorem dX9_fails_13 : decode cX9_fails 13 = .ok (.goto 7, 3) := by decide +kernel
theorem dX9_fails_16 : decode cX9_fails 16 = .ok (.aload_n 0, 1) := by decide +kernel
theorem dX9_fails_17 : decode cX9_fails 17 = .ok (.getfield 164, 3) := by decide +kernel
theorem dX9_fails_20 : decode cX9_fails 20 = .ok (.putfield 164, 3) := by decide +kernel
theorem dX9_fails_23 : decode cX9_fails 23 = .ok (.return_, 1) := by decide +kernel
set_option maxRecDepth 20000 in
theorem ggX9_readSigns_X9_take : GoodIn wsX9_readSigns wsX9_take := goodIn_r _ [8, 2, 9, 10, 11, 16, 17, 18, 19, 20, 21, 22, 23, 24, 25, 26, 27, 28, 29, 30, 31, 32, 33, 34, 35, 36, 37, 38, 39, 40, 41, 42, 43, 44, 45, 46, 47, 48] (by decide +kernel) (by decide +kernel)
set_option maxRecDepth 20000 in
theorem gX9_readSigns_X9_take : GoodIn wsX9_readSigns (wsV RX9 173 RX9 yX9_take wsX9_take) := goodIn_app (goodIn_of _ (by decide +kernel)) ggX9_readSigns_X9_take
set_option maxRecDepth 20000 in
theorem ggX9_readSigns_X9_fails : GoodIn wsX9_readSigns wsX9_fails := goodIn_r _ [15, 2, 16, 17, 18, 19, 20, 21, 22, 23, 24, 25, 26, 27, 28, 29, 30, 31, 32, 33, 34, 35, 36, 37, 38, 39, 40, 41, 42, 43, 44, 45, 46, 47, 48] (by decide +kernel) (by decide +kernel)
set_option maxRecDepth 20000 in
theorem gX9_readSigns_X9_fails : GoodIn wsX9_readSigns (wsV RX9 176 RX9 yX9_fails wsX9_fails) := goodIn_app (goodIn_of _ (by decide +kernel)) ggX9_readSigns_X9_fails
theorem dX9_readSigns_0 : decode cX9_readSigns 0 = .ok (.aload_n 0, 1) := by decide +kernel
theorem dX9_readSigns_1 : decode cX9_readSigns 1 = .ok (.iconst 0, 1) := by decide +kernel
theorem dX9_readSigns_2 : decode cX9_readSigns 2 = .ok (.putfield 170, 3) := by decide +kernel
theorem dX9_readSigns_5 : decode cX9_readSigns 5 = .ok (.aload_n 0, 1) := by decide +kernel
theorem dX9_readSigns_6 : decode cX9_readSigns 6 = .ok (.bipush 16, 2) := by decide +kernel
theorem dX9_readSigns_8 : decode cX9_readSigns 8 = .ok (.invokevirtual 173, 3) := by decide +kernel
theorem dX9_readSigns_11 : decode cX9_readSigns 11 = .ok (.istore_n 1, 1) := by decide +kernel
theorem dX9_readSigns_12 : decode cX9_readSigns 12 = .ok (.aload_n 0, 1) := by decide +kernel
theorem dX9_readSigns_13 : decode cX9_readSigns 13 = .ok (.iload_n 1, 1) := by decide +kernel
theorem dX9_readSigns_14 : decode cX9_readSigns 14 = .ok (.ifCond .ne 7, 3) := by decide +kernel
theorem dX9_readSigns_17 : decode cX9_readSigns 17 = .ok (.iconst 1, 1) := by decide +kernel
theorem dX9_readSigns_18 : decode cX9_readSigns 18 = .ok (.goto 4, 3) := by decide +kernel
theorem dX9_readSigns_21 : decode cX9_readSigns 21 = .ok (.iconst 0, 1) := by decide +kernel
theorem dX9_readSigns_22 : decode cX9_readSigns 22 = .ok (.iconst 2, 1) := by decide +kernel
theorem dX9_readSigns_23 : decode cX9_readSigns 23 = .ok (.invokevirtual 176, 3) := by decide +kernel
theorem dX9_readSigns_26 : decode cX9_readSigns 26 = .ok (.iconst 0, 1) := by decide +kernel
theorem dX9_readSigns_27 : decode cX9_readSigns 27 = .ok (.istore_n 2, 1) := by decide +kernel
theorem dX9_readSigns_28 : decode cX9_readSigns 28 = .ok (.iload_n 2, 1) := by decide +kernel
theorem dX9_readSigns_29 : decode cX9_readSigns 29 = .ok (.bipush 16, 2) := by decide +kernel
theorem dX9_readSigns_31 : decode cX9_readSigns 31 = .ok (.if_icmp .ge 104, 3) := by decide +kernel
theorem dX9_readSigns_34 : decode cX9_readSigns 34 = .ok (.aload_n 0, 1) := by decide +kernel
theorem dX9_readSigns_35 : decode cX9_readSigns 35 = .ok (.getfield 164, 3) := by decide +kernel
theorem dX9_readSigns_38 : decode cX9_readSigns 38 = .ok (.ifCond .ne 97, 3) := by decide +kernel
theorem dX9_readSigns_41 : decode cX9_readSigns 41 = .ok (.iload_n 1, 1) := by decide +kernel
theorem dX9_readSigns_42 : decode cX9_readSigns 42 = .ok (.bipush 15, 2) := by decide +kernel
theorem dX9_readSigns_44 : decode cX9_readSigns 44 = .ok (.iload_n 2, 1) := by decide +kernel
theorem dX9_readSigns_45 : decode cX9_readSigns 45 = .ok (.isub, 1) := by decide +kernel
theorem dX9_readSigns_46 : decode cX9_readSigns 46 = .ok (.ishr, 1) := by decide +kernel
theorem dX9_readSigns_47 : decode cX9_readSigns 47 = .ok (.iconst 1, 1) := by decide +kernel
theorem dX9_readSigns_48 : decode cX9_readSigns 48 = .ok (.iand, 1) := by decide +kernel
theorem dX9_readSigns_49 : decode cX9_readSigns 49 = .ok (.iconst 1, 1) := by decide +kernel
theorem dX9_readSigns_50 : decode cX9_readSigns 50 = .ok (.if_icmp .ne 79, 3) := by decide +kernel
theorem dX9_readSigns_53 : decode cX9_readSigns 53 = .ok (.aload_n 0, 1) := by decide +kernel
theorem dX9_readSigns_54 : decode cX9_readSigns 54 = .ok (.bipush 16, 2) := by decide +kernel
theorem dX9_readSigns_56 : decode cX9_readSigns 56 = .ok (.invokevirtual 173, 3) := by decide +kernel
theorem dX9_readSigns_59 : decode cX9_readSigns 59 = .ok (.istore_n 3, 1) := by decide +kernel
theorem dX9_readSigns_60 : decode cX9_readSigns 60 = .ok (.aload_n 0, 1) := by decide +kernel
theorem dX9_readSigns_61 : decode cX9_readSigns 61 = .ok (.iload_n 3, 1) := by decide +kernel
theorem dX9_readSigns_62 : decode cX9_readSigns 62 = .ok (.ifCond .ne 7, 3) := by decide +kernel
theorem dX9_readSigns_65 : decode cX9_readSigns 65 = .ok (.iconst 1, 1) := by decide +kernel
theorem dX9_readSigns_66 : decode cX9_readSigns 66 = .ok (.goto 4, 3) := by decide +kernel
theorem dX9_readSigns_69 : decode cX9_readSigns 69 = .ok (.iconst 0, 1) := by decide +kernel
theorem dX9_readSigns_70 : decode cX9_readSigns 70 = .ok (.iconst 2, 1) := by decide +kernel
theorem dX9_readSigns_71 : decode cX9_readSigns 71 = .ok (.invokevirtual 176, 3) := by decide +kernel
theorem dX9_readSigns_74 : decode cX9_readSigns 74 = .ok (.iconst 0, 1) := by decide +kernel
theorem dX9_readSigns_75 : decode cX9_readSigns 75 = .ok (.istore 4, 2) := by decide +kernel
theorem dX9_readSigns_77 : decode cX9_readSigns 77 = .ok (.iload 4, 2) := by decide +kernel
theorem dX9_readSigns_79 : decode cX9_readSigns 79 = .ok (.bipush 16, 2) := by decide +kernel
theorem dX9_readSigns_81 : decode cX9_readSigns 81 = .ok (.if_icmp .ge 48, 3) := by decide +kernel
theorem dX9_readSigns_84 : decode cX9_readSigns 84 = .ok (.iload_n 3, 1) := by decide +kernel
theorem dX9_readSigns_85 : decode cX9_readSigns 85 = .ok (.bipush 15, 2) := by decide +kernel
theorem dX9_readSigns_87 : decode cX9_readSigns 87 = .ok (.iload 4, 2) := by decide +kernel
theorem dX9_readSigns_89 : decode cX9_readSigns 89 = .ok (.isub, 1) := by decide +kernel
theorem dX9_readSigns_90 : decode cX9_readSigns 90 = .ok (.ishr, 1) := by decide +kernel
theorem dX9_readSigns_91 : decode cX9_readSigns 91 = .ok (.iconst 1, 1) := by decide +kernel
theorem dX9_readSigns_92 : decode cX9_readSigns 92 = .ok (.iand, 1) := by decide +kernel
theorem dX9_readSigns_93 : decode cX9_readSigns 93 = .ok (.iconst 1, 1) := by decide +kernel
theorem dX9_readSigns_94 : decode cX9_readSigns 94 = .ok (.if_icmp .ne 29, 3) := by decide +kernel
theorem dX9_readSigns_97 : decode cX9_readSigns 97 = .ok (.aload_n 0, 1) := by decide +kernel
theorem dX9_readSigns_98 : decode cX9_readSigns 98 = .ok (.getfield 51, 3) := by decide +kernel
theorem dX9_readSigns_101 : decode cX9_readSigns 101 = .ok (.aload_n 0, 1) := by decide +kernel
theorem dX9_readSigns_102 : decode cX9_readSigns 102 = .ok (.getfield 170, 3) := by decide +kernel
theorem dX9_readSigns_105 : decode cX9_readSigns 105 = .ok (.bipush 16, 2) := by decide +kernel
theorem dX9_readSigns_107 : decode cX9_readSigns 107 = .ok (.iload_n 2, 1) := by decide +kernel
theorem dX9_readSigns_108 : decode cX9_readSigns 108 = .ok (.imul, 1) := by decide +kernel
theorem dX9_readSigns_109 : decode cX9_readSigns 109 = .ok (.iload 4, 2) := by decide +kernel
theorem dX9_readSigns_111 : decode cX9_readSigns 111 = .ok (.iadd, 1) := by decide +kernel
theorem dX9_readSigns_112 : decode cX9_readSigns 112 = .ok (.iastore, 1) := by decide +kernel
theorem dX9_readSigns_113 : decode cX9_readSigns 113 = .ok (.aload_n 0, 1) := by decide +kernel
theorem dX9_readSigns_114 : decode cX9_readSigns 114 = .ok (.dup, 1) := by decide +kernel
theorem dX9_readSigns_115 : decode cX9_readSigns 115 = .ok (.getfield 170, 3) := by decide +kernel
theorem dX9_readSigns_118 : decode cX9_readSigns 118 = .ok (.iconst 1, 1) := by decide +kernel
theorem dX9_readSigns_119 : decode cX9_readSigns 119 = .ok (.iadd, 1) := by decide +kernel
theorem dX9_readSigns_120 : decode cX9_readSigns 120 = .ok (.putfield 170, 3) := by decide +kernel
theorem dX9_readSigns_123 : decode cX9_readSigns 123 = .ok (.iinc 4 1, 3) := by decide +kernel
theorem dX9_readSigns_126 : decode cX9_readSigns 126 = .ok (.goto (-49), 3) := by decide +kernel
theorem dX9_readSigns_129 : decode cX9_readSigns 129 = .ok (.iinc 2 1, 3) := by decide +kernel
theorem dX9_readSigns_132 : decode cX9_readSigns 132 = .ok (.goto (-104), 3) := by decide +kernel
theorem dX9_readSigns_135 : decode cX9_readSigns 135 = .ok (.return_, 1) := by decide +kernel
set_option maxRecDepth 20000 in
theorem ggX9_readTaken_X9_take : GoodIn wsX9_readTaken wsX9_take := goodIn_r _ [10, 4, 11, 12, 13, 22, 23, 24, 25, 26, 27, 28, 29, 30, 31, 32, 33, 34, 35, 36, 37, 38, 39, 40, 41, 42, 43, 44, 45, 46, 47, 48, 49, 50, 51, 52, 53, 54] (by decide +kernel) (by decide +kernel)
set_option maxRecDepth 20000 in
theorem gX9_readTaken_X9_take : GoodIn wsX9_readTaken (wsV RX9 173 RX9 yX9_take wsX9_take) := goodIn_app (goodIn_of _ (by decide +kernel)) ggX9_readTaken_X9_take
set_option maxRecDepth 20000 in
theorem ggX9_readTaken_X9_fails : GoodIn wsX9_readTaken wsX9_fails := goodIn_r _ [17, 4, 22, 23, 24, 25, 26, 27, 28, 29, 30, 31, 32, 33, 34, 35, 36, 37, 38, 39, 40, 41, 42, 43, 44, 45, 46, 47, 48, 49, 50, 51, 52, 53, 54] (by decide +kernel) (by decide +kernel)
set_option maxRecDepth 20000 in
theorem gX9_readTaken_X9_fails : GoodIn wsX9_readTaken (wsV RX9 176 RX9 yX9_fails wsX9_fails) := goodIn_app (goodIn_of _ (by decide +kernel)) ggX9_readTaken_X9_fails
set_option maxRecDepth 20000 in
theorem ggX9_readTaken_X9_toFront : GoodIn wsX9_readTaken wsX9_toFront := goodIn_r _ [21] (by decide +kernel) (by decide +kernel)
set_option maxRecDepth 20000 in
theorem gX9_readTaken_X9_toFront : GoodIn wsX9_readTaken (wsV RX9 117 RX9 yX9_toFront wsX9_toFront) := goodIn_app (goodIn_of _ (by decide +kernel)) ggX9_readTaken_X9_toFront
theorem dX9_readTaken_0 : decode cX9_readTaken 0 = .ok (.aload_n 0, 1) := by decide +kernel
theorem dX9_readTaken_1 : decode cX9_readTaken 1 = .ok (.aload_n 0, 1) := by decide +kernel
theorem dX9_readTaken_2 : decode cX9_readTaken 2 = .ok (.iconst 2, 1) := by decide +kernel
theorem dX9_readTaken_3 : decode cX9_readTaken 3 = .ok (.invokevirtual 173, 3) := by decide +kernel
theorem dX9_readTaken_6 : decode cX9_readTaken 6 = .ok (.putfield 180, 3) := by decide +kernel
theorem dX9_readTaken_9 : decode cX9_readTaken 9 = .ok (.aload_n 0, 1) := by decide +kernel
theorem dX9_readTaken_10 : decode cX9_readTaken 10 = .ok (.aload_n 0, 1) := by decide +kernel
theorem dX9_readTaken_11 : decode cX9_readTaken 11 = .ok (.iconst 5, 1) := by decide +kernel
theorem dX9_readTaken_12 : decode cX9_readTaken 12 = .ok (.invokevirtual 173, 3) := by decide +kernel
theorem dX9_readTaken_15 : decode cX9_readTaken 15 = .ok (.putfield 183, 3) := by decide +kernel
theorem dX9_readTaken_18 : decode cX9_readTaken 18 = .ok (.aload_n 0, 1) := by decide +kernel
theorem dX9_readTaken_19 : decode cX9_readTaken 19 = .ok (.aload_n 0, 1) := by decide +kernel
theorem dX9_readTaken_20 : decode cX9_readTaken 20 = .ok (.getfield 180, 3) := by decide +kernel
theorem dX9_readTaken_23 : decode cX9_readTaken 23 = .ok (.ifCond .eq 10, 3) := by decide +kernel
theorem dX9_readTaken_26 : decode cX9_readTaken 26 = .ok (.aload_n 0, 1) := by decide +kernel
theorem dX9_readTaken_27 : decode cX9_readTaken 27 = .ok (.getfield 183, 3) := by decide +kernel
theorem dX9_readTaken_30 : decode cX9_readTaken 30 = .ok (.ifCond .ne 7, 3) := by decide +kernel
theorem dX9_readTaken_33 : decode cX9_readTaken 33 = .ok (.iconst 1, 1) := by decide +kernel
theorem dX9_readTaken_34 : decode cX9_readTaken 34 = .ok (.goto 4, 3) := by decide +kernel
theorem dX9_readTaken_37 : decode cX9_readTaken 37 = .ok (.iconst 0, 1) := by decide +kernel
theorem dX9_readTaken_38 : decode cX9_readTaken 38 = .ok (.iconst 3, 1) := by decide +kernel
theorem dX9_readTaken_39 : decode cX9_readTaken 39 = .ok (.invokevirtual 176, 3) := by decide +kernel
theorem dX9_readTaken_42 : decode cX9_readTaken 42 = .ok (.iconst 0, 1) := by decide +kernel
theorem dX9_readTaken_43 : decode cX9_readTaken 43 = .ok (.istore_n 1, 1) := by decide +kernel
theorem dX9_readTaken_44 : decode cX9_readTaken 44 = .ok (.iload_n 1, 1) := by decide +kernel
theorem dX9_readTaken_45 : decode cX9_readTaken 45 = .ok (.iconst 3, 1) := by decide +kernel
theorem dX9_readTaken_46 : decode cX9_readTaken 46 = .ok (.if_icmp .ge 16, 3) := by decide +kernel
theorem dX9_readTaken_49 : decode cX9_readTaken 49 = .ok (.aload_n 0, 1) := by decide +kernel
theorem dX9_readTaken_50 : decode cX9_readTaken 50 = .ok (.getfield 48, 3) := by decide +kernel
theorem dX9_readTaken_53 : decode cX9_readTaken 53 = .ok (.iload_n 1, 1) := by decide +kernel
theorem dX9_readTaken_54 : decode cX9_readTaken 54 = .ok (.iload_n 1, 1) := by decide +kernel
theorem dX9_readTaken_55 : decode cX9_readTaken 55 = .ok (.iastore, 1) := by decide +kernel
theorem dX9_readTaken_56 : decode cX9_readTaken 56 = .ok (.iinc 1 1, 3) := by decide +kernel
theorem dX9_readTaken_59 : decode cX9_readTaken 59 = .ok (.goto (-15), 3) := by decide +kernel
theorem dX9_readTaken_62 : decode cX9_readTaken 62 = .ok (.iconst 0, 1) := by decide +kernel
theorem dX9_readTaken_63 : decode cX9_readTaken 63 = .ok (.istore_n 1, 1) := by decide +kernel
theorem dX9_readTaken_64 : decode cX9_readTaken 64 = .ok (.iload_n 1, 1) := by decide +kernel
theorem dX9_readTaken_65 : decode cX9_readTaken 65 = .ok (.aload_n 0, 1) := by decide +kernel
theorem dX9_readTaken_66 : decode cX9_readTaken 66 = .ok (.getfield 183, 3) := by decide +kernel
theorem dX9_readTaken_69 : decode cX9_readTaken 69 = .ok (.if_icmp .ge 80, 3) := by decide +kernel
theorem dX9_readTaken_72 : decode cX9_readTaken 72 = .ok (.aload_n 0, 1) := by decide +kernel
theorem dX9_readTaken_73 : decode cX9_readTaken 73 = .ok (.getfield 164, 3) := by decide +kernel
theorem dX9_readTaken_76 : decode cX9_readTaken 76 = .ok (.ifCond .ne 73, 3) := by decide +kernel
theorem dX9_readTaken_79 : decode cX9_readTaken 79 = .ok (.iconst 0, 1) := by decide +kernel
theorem dX9_readTaken_80 : decode cX9_readTaken 80 = .ok (.istore_n 2, 1) := by decide +kernel
theorem dX9_readTaken_81 : decode cX9_readTaken 81 = .ok (.aload_n 0, 1) := by decide +kernel
theorem dX9_readTaken_82 : decode cX9_readTaken 82 = .ok (.iconst 1, 1) := by decide +kernel
theorem dX9_readTaken_83 : decode cX9_readTaken 83 = .ok (.invokevirtual 173, 3) := by decide +kernel
theorem dX9_readTaken_86 : decode cX9_readTaken 86 = .ok (.iconst 1, 1) := by decide +kernel
theorem dX9_readTaken_87 : decode cX9_readTaken 87 = .ok (.if_icmp .ne 34, 3) := by decide +kernel
theorem dX9_readTaken_90 : decode cX9_readTaken 90 = .ok (.aload_n 0, 1) := by decide +kernel
theorem dX9_readTaken_91 : decode cX9_readTaken 91 = .ok (.getfield 164, 3) := by decide +kernel
theorem dX9_readTaken_94 : decode cX9_readTaken 94 = .ok (.ifCond .ne 27, 3) := by decide +kernel
theorem dX9_readTaken_97 : decode cX9_readTaken 97 = .ok (.iinc 2 1, 3) := by decide +kernel
theorem dX9_readTaken_100 : decode cX9_readTaken 100 = .ok (.aload_n 0, 1) := by decide +kernel
theorem dX9_readTaken_101 : decode cX9_readTaken 101 = .ok (.iload_n 2, 1) := by decide +kernel
theorem dX9_readTaken_102 : decode cX9_readTaken 102 = .ok (.aload_n 0, 1) := by decide +kernel
theorem dX9_readTaken_103 : decode cX9_readTaken 103 = .ok (.getfield 180, 3) := by decide +kernel
theorem dX9_readTaken_106 : decode cX9_readTaken 106 = .ok (.if_icmp .ne 7, 3) := by decide +kernel
theorem dX9_readTaken_109 : decode cX9_readTaken 109 = .ok (.iconst 1, 1) := by decide +kernel
theorem dX9_readTaken_110 : decode cX9_readTaken 110 = .ok (.goto 4, 3) := by decide +kernel
theorem dX9_readTaken_113 : decode cX9_readTaken 113 = .ok (.iconst 0, 1) := by decide +kernel
theorem dX9_readTaken_114 : decode cX9_readTaken 114 = .ok (.iconst 4, 1) := by decide +kernel
theorem dX9_readTaken_115 : decode cX9_readTaken 115 = .ok (.invokevirtual 176, 3) := by decide +kernel
theorem dX9_readTaken_118 : decode cX9_readTaken 118 = .ok (.goto (-37), 3) := by decide +kernel
theorem dX9_readTaken_121 : decode cX9_readTaken 121 = .ok (.aload_n 0, 1) := by decide +kernel
theorem dX9_readTaken_122 : decode cX9_readTaken 122 = .ok (.getfield 164, 3) := by decide +kernel
theorem dX9_readTaken_125 : decode cX9_readTaken 125 = .ok (.ifCond .ne 18, 3) := by decide +kernel
theorem dX9_readTaken_128 : decode cX9_readTaken 128 = .ok (.aload_n 0, 1) := by decide +kernel
theorem dX9_readTaken_129 : decode cX9_readTaken 129 = .ok (.getfield 54, 3) := by decide +kernel
theorem dX9_readTaken_132 : decode cX9_readTaken 132 = .ok (.iload_n 1, 1) := by decide +kernel
theorem dX9_readTaken_133 : decode cX9_readTaken 133 = .ok (.aload_n 0, 1) := by decide +kernel
theorem dX9_readTaken_134 : decode cX9_readTaken 134 = .ok (.aload_n 0, 1) := by decide +kernel
theorem dX9_readTaken_135 : decode cX9_readTaken 135 = .ok (.getfield 48, 3) := by decide +kernel
theorem dX9_readTaken_138 : decode cX9_readTaken 138 = .ok (.iload_n 2, 1) := by decide +kernel
theorem dX9_readTaken_139 : decode cX9_readTaken 139 = .ok (.invokevirtual 117, 3) := by decide +kernel
theorem dX9_readTaken_142 : decode cX9_readTaken 142 = .ok (.iastore, 1) := by decide +kernel
theorem dX9_readTaken_143 : decode cX9_readTaken 143 = .ok (.iinc 1 1, 3) := by decide +kernel
theorem dX9_readTaken_146 : decode cX9_readTaken 146 = .ok (.goto (-82), 3) := by decide +kernel
theorem dX9_readTaken_149 : decode cX9_readTaken 149 = .ok (.return_, 1) := by decide +kernel
set_option maxRecDepth 20000 in
theorem ggX9_readLengths_X9_take : GoodIn wsX9_readLengths wsX9_take := goodIn_r _ [10, 2, 11, 12, 13, 24, 25, 26, 27, 28, 29, 30, 31, 32, 33, 34, 35, 36, 37, 38, 39, 40, 41, 42, 43, 44, 45, 46, 47, 48, 49, 50, 51, 52, 53, 54, 55, 56] (by decide +kernel) (by decide +kernel)
set_option maxRecDepth 20000 in
theorem gX9_readLengths_X9_take : GoodIn wsX9_readLengths (wsV RX9 173 RX9 yX9_take wsX9_take) := goodIn_app (goodIn_of _ (by decide +kernel)) ggX9_readLengths_X9_take
set_option maxRecDepth 20000 in
theorem ggX9_readLengths_X9_within : GoodIn wsX9_readLengths wsX9_within := goodIn_r _ [16] (by decide +kernel) (by decide +kernel)
set_option maxRecDepth 20000 in
theorem gX9_readLengths_X9_within : GoodIn wsX9_readLengths (va_wsS RX9 66 yX9_within wsX9_within) := goodIn_app (goodIn_of _ (by decide +kernel)) ggX9_readLengths_X9_within
set_option maxRecDepth 20000 in
theorem ggX9_readLengths_X9_fails : GoodIn wsX9_readLengths wsX9_fails := goodIn_r _ [20, 2, 24, 25, 26, 27, 28, 29, 30, 31, 32, 33, 34, 35, 36, 37, 38, 39, 40, 41, 42, 43, 44, 45, 46, 47, 48, 49, 50, 51, 52, 53, 54, 55, 56] (by decide +kernel) (by decide +kernel)
set_option maxRecDepth 20000 in
theorem gX9_readLengths_X9_fails : GoodIn wsX9_readLengths (wsV RX9 176 RX9 yX9_fails wsX9_fails) := goodIn_app (goodIn_of _ (by decide +kernel)) ggX9_readLengths_X9_fails
set_option maxRecDepth 20000 in
theorem ggX9_readLengths_X9_findCodes : GoodIn wsX9_readLengths wsX9_findCodes := goodIn_r _ [23] (by decide +kernel) (by decide +kernel)
set_option maxRecDepth 20000 in
theorem gX9_readLengths_X9_findCodes : GoodIn wsX9_readLengths (va_wsS RX9 109 yX9_findCodes wsX9_findCodes) := goodIn_app (goodIn_of _ (by decide +kernel)) ggX9_readLengths_X9_findCodes
theorem dX9_readLengths_0 : decode cX9_readLengths 0 = .ok (.aload_n 0, 1) := by decide +kernel
theorem dX9_readLengths_1 : decode cX9_readLengths 1 = .ok (.iconst 5, 1) := by decide +kernel
theorem dX9_readLengths_2 : decode cX9_readLengths 2 = .ok (.invokevirtual 173, 3) := by decide +kernel
theorem dX9_readLengths_5 : decode cX9_readLengths 5 = .ok (.istore_n 2, 1) := by decide +kernel
theorem dX9_readLengths_6 : decode cX9_readLengths 6 = .ok (.aload_n 0, 1) := by decide +kernel
theorem dX9_readLengths_7 : decode cX9_readLengths 7 = .ok (.iload_n 2, 1) := by decide +kernel
theorem dX9_readLengths_8 : decode cX9_readLengths 8 = .ok (.iconst 1, 1) := by decide +kernel
theorem dX9_readLengths_9 : decode cX9_readLengths 9 = .ok (.bipush 20, 2) := by decide +kernel
theorem dX9_readLengths_11 : decode cX9_readLengths 11 = .ok (.invokestatic 66, 3) := by decide +kernel
theorem dX9_readLengths_14 : decode cX9_readLengths 14 = .ok (.ifCond .ne 7, 3) := by decide +kernel
theorem dX9_readLengths_17 : decode cX9_readLengths 17 = .ok (.iconst 1, 1) := by decide +kernel
theorem dX9_readLengths_18 : decode cX9_readLengths 18 = .ok (.goto 4, 3) := by decide +kernel
theorem dX9_readLengths_21 : decode cX9_readLengths 21 = .ok (.iconst 0, 1) := by decide +kernel
theorem dX9_readLengths_22 : decode cX9_readLengths 22 = .ok (.iconst 5, 1) := by decide +kernel
theorem dX9_readLengths_23 : decode cX9_readLengths 23 = .ok (.invokevirtual 176, 3) := by decide +kernel
theorem dX9_readLengths_26 : decode cX9_readLengths 26 = .ok (.iconst 0, 1) := by decide +kernel
theorem dX9_readLengths_27 : decode cX9_readLengths 27 = .ok (.istore_n 3, 1) := by decide +kernel
theorem dX9_readLengths_28 : decode cX9_readLengths 28 = .ok (.iload_n 3, 1) := by decide +kernel
theorem dX9_readLengths_29 : decode cX9_readLengths 29 = .ok (.aload_n 0, 1) := by decide +kernel
theorem dX9_readLengths_30 : decode cX9_readLengths 30 = .ok (.getfield 170, 3) := by decide +kernel
theorem dX9_readLengths_33 : decode cX9_readLengths 33 = .ok (.iconst 2, 1) := by decide +kernel
theorem dX9_readLengths_34 : decode cX9_readLengths 34 = .ok (.iadd, 1) := by decide +kernel
theorem dX9_readLengths_35 : decode cX9_readLengths 35 = .ok (.if_icmp .ge 100, 3) := by decide +kernel
theorem dX9_readLengths_38 : decode cX9_readLengths 38 = .ok (.aload_n 0, 1) := by decide +kernel
theorem dX9_readLengths_39 : decode cX9_readLengths 39 = .ok (.getfield 164, 3) := by decide +kernel
theorem dX9_readLengths_42 : decode cX9_readLengths 42 = .ok (.ifCond .ne 93, 3) := by decide +kernel
theorem dX9_readLengths_45 : decode cX9_readLengths 45 = .ok (.aload_n 0, 1) := by decide +kernel
theorem dX9_readLengths_46 : decode cX9_readLengths 46 = .ok (.getfield 164, 3) := by decide +kernel
theorem dX9_readLengths_49 : decode cX9_readLengths 49 = .ok (.ifCond .ne 67, 3) := by decide +kernel
theorem dX9_readLengths_52 : decode cX9_readLengths 52 = .ok (.aload_n 0, 1) := by decide +kernel
theorem dX9_readLengths_53 : decode cX9_readLengths 53 = .ok (.iconst 1, 1) := by decide +kernel
theorem dX9_readLengths_54 : decode cX9_readLengths 54 = .ok (.invokevirtual 173, 3) := by decide +kernel
theorem dX9_readLengths_57 : decode cX9_readLengths 57 = .ok (.iconst 1, 1) := by decide +kernel
theorem dX9_readLengths_58 : decode cX9_readLengths 58 = .ok (.if_icmp .ne 58, 3) := by decide +kernel
theorem dX9_readLengths_61 : decode cX9_readLengths 61 = .ok (.aload_n 0, 1) := by decide +kernel
theorem dX9_readLengths_62 : decode cX9_readLengths 62 = .ok (.iconst 1, 1) := by decide +kernel
theorem dX9_readLengths_63 : decode cX9_readLengths 63 = .ok (.invokevirtual 173, 3) := by decide +kernel
theorem dX9_readLengths_66 : decode cX9_readLengths 66 = .ok (.istore 4, 2) := by decide +kernel
theorem dX9_readLengths_68 : decode cX9_readLengths 68 = .ok (.iload_n 2, 1) := by decide +kernel
theorem dX9_readLengths_69 : decode cX9_readLengths 69 = .ok (.aload_n 0, 1) := by decide +kernel
theorem dX9_readLengths_70 : decode cX9_readLengths 70 = .ok (.getfield 164, 3) := by decide +kernel
theorem dX9_readLengths_73 : decode cX9_readLengths 73 = .ok (.ifCond .le 7, 3) := by decide +kernel
theorem dX9_readLengths_76 : decode cX9_readLengths 76 = .ok (.iconst 0, 1) := by decide +kernel
theorem dX9_readLengths_77 : decode cX9_readLengths 77 = .ok (.goto 14, 3) := by decide +kernel
theorem dX9_readLengths_80 : decode cX9_readLengths 80 = .ok (.iload 4, 2) := by decide +kernel
theorem dX9_readLengths_82 : decode cX9_readLengths 82 = .ok (.iconst 1, 1) := by decide +kernel
theorem dX9_readLengths_83 : decode cX9_readLengths 83 = .ok (.if_icmp .ne 7, 3) := by decide +kernel
theorem dX9_readLengths_86 : decode cX9_readLengths 86 = .ok (.iconst (-1), 1) := by decide +kernel
theorem dX9_readLengths_87 : decode cX9_readLengths 87 = .ok (.goto 4, 3) := by decide +kernel
theorem dX9_readLengths_90 : decode cX9_readLengths 90 = .ok (.iconst 1, 1) := by decide +kernel
theorem dX9_readLengths_91 : decode cX9_readLengths 91 = .ok (.iadd, 1) := by decide +kernel
theorem dX9_readLengths_92 : decode cX9_readLengths 92 = .ok (.istore_n 2, 1) := by decide +kernel
theorem dX9_readLengths_93 : decode cX9_readLengths 93 = .ok (.aload_n 0, 1) := by decide +kernel
theorem dX9_readLengths_94 : decode cX9_readLengths 94 = .ok (.iload_n 2, 1) := by decide +kernel
theorem dX9_readLengths_95 : decode cX9_readLengths 95 = .ok (.iconst 1, 1) := by decide +kernel
theorem dX9_readLengths_96 : decode cX9_readLengths 96 = .ok (.bipush 20, 2) := by decide +kernel
theorem dX9_readLengths_98 : decode cX9_readLengths 98 = .ok (.invokestatic 66, 3) := by decide +kernel
theorem dX9_readLengths_101 : decode cX9_readLengths 101 = .ok (.ifCond .ne 7, 3) := by decide +kernel
theorem dX9_readLengths_104 : decode cX9_readLengths 104 = .ok (.iconst 1, 1) := by decide +kernel
theorem dX9_readLengths_105 : decode cX9_readLengths 105 = .ok (.goto 4, 3) := by decide +kernel
theorem dX9_readLengths_108 : decode cX9_readLengths 108 = .ok (.iconst 0, 1) := by decide +kernel
theorem dX9_readLengths_109 : decode cX9_readLengths 109 = .ok (.iconst 5, 1) := by decide +kernel
theorem dX9_readLengths_110 : decode cX9_readLengths 110 = .ok (.invokevirtual 176, 3) := by decide +kernel
theorem dX9_readLengths_113 : decode cX9_readLengths 113 = .ok (.goto (-68), 3) := by decide +kernel
theorem dX9_readLengths_116 : decode cX9_readLengths 116 = .ok (.aload_n 0, 1) := by decide +kernel
theorem dX9_readLengths_117 : decode cX9_readLengths 117 = .ok (.getfield 57, 3) := by decide +kernel
theorem dX9_readLengths_120 : decode cX9_readLengths 120 = .ok (.sipush 258, 3) := by decide +kernel
theorem dX9_readLengths_123 : decode cX9_readLengths 123 = .ok (.iload_n 1, 1) := by decide +kernel
theorem dX9_readLengths_124 : decode cX9_readLengths 124 = .ok (.imul, 1) := by decide +kernel
theorem dX9_readLengths_125 : decode cX9_readLengths 125 = .ok (.iload_n 3, 1) := by decide +kernel
theorem dX9_readLengths_126 : decode cX9_readLengths 126 = .ok (.iadd, 1) := by decide +kernel
theorem dX9_readLengths_127 : decode cX9_readLengths 127 = .ok (.iload_n 2, 1) := by decide +kernel
theorem dX9_readLengths_128 : decode cX9_readLengths 128 = .ok (.iastore, 1) := by decide +kernel
theorem dX9_readLengths_129 : decode cX9_readLengths 129 = .ok (.iinc 3 1, 3) := by decide +kernel
theorem dX9_readLengths_132 : decode cX9_readLengths 132 = .ok (.goto (-104), 3) := by decide +kernel
theorem dX9_readLengths_135 : decode cX9_readLengths 135 = .ok (.lconst 0, 1) := by decide +kernel
theorem dX9_readLengths_136 : decode cX9_readLengths 136 = .ok (.lstore_n 3, 1) := by decide +kernel
theorem dX9_readLengths_137 : decode cX9_readLengths 137 = .ok (.iconst 0, 1) := by decide +kernel
theorem dX9_readLengths_138 : decode cX9_readLengths 138 = .ok (.istore 5, 2) := by decide +kernel
theorem dX9_readLengths_140 : decode cX9_readLengths 140 = .ok (.iload 5, 2) := by decide +kernel
theorem dX9_readLengths_142 : decode cX9_readLengths 142 = .ok (.aload_n 0, 1) := by decide +kernel
theorem dX9_readLengths_143 : decode cX9_readLengths 143 = .ok (.getfield 170, 3) := by decide +kernel
theorem dX9_readLengths_146 : decode cX9_readLengths 146 = .ok (.iconst 2, 1) := by decide +kernel
theorem dX9_readLengths_147 : decode cX9_readLengths 147 = .ok (.iadd, 1) := by decide +kernel
theorem dX9_readLengths_148 : decode cX9_readLengths 148 = .ok (.if_icmp .ge 37, 3) := by decide +kernel
theorem dX9_readLengths_151 : decode cX9_readLengths 151 = .ok (.aload_n 0, 1) := by decide +kernel
theorem dX9_readLengths_152 : decode cX9_readLengths 152 = .ok (.getfield 164, 3) := by decide +kernel
theorem dX9_readLengths_155 : decode cX9_readLengths 155 = .ok (.ifCond .ne 30, 3) := by decide +kernel
theorem dX9_readLengths_158 : decode cX9_readLengths 158 = .ok (.lload_n 3, 1) := by decide +kernel
theorem dX9_readLengths_159 : decode cX9_readLengths 159 = .ok (.lconst 1, 1) := by decide +kernel
theorem dX9_readLengths_160 : decode cX9_readLengths 160 = .ok (.bipush 20, 2) := by decide +kernel
theorem dX9_readLengths_162 : decode cX9_readLengths 162 = .ok (.aload_n 0, 1) := by decide +kernel
theorem dX9_readLengths_163 : decode cX9_readLengths 163 = .ok (.getfield 57, 3) := by decide +kernel
theorem dX9_readLengths_166 : decode cX9_readLengths 166 = .ok (.sipush 258, 3) := by decide +kernel
theorem dX9_readLengths_169 : decode cX9_readLengths 169 = .ok (.iload_n 1, 1) := by decide +kernel
theorem dX9_readLengths_170 : decode cX9_readLengths 170 = .ok (.imul, 1) := by decide +kernel
theorem dX9_readLengths_171 : decode cX9_readLengths 171 = .ok (.iload 5, 2) := by decide +kernel
theorem dX9_readLengths_173 : decode cX9_readLengths 173 = .ok (.iadd, 1) := by decide +kernel
theorem dX9_readLengths_174 : decode cX9_readLengths 174 = .ok (.iaload, 1) := by decide +kernel
theorem dX9_readLengths_175 : decode cX9_readLengths 175 = .ok (.isub, 1) := by decide +kernel
theorem dX9_readLengths_176 : decode cX9_readLengths 176 = .ok (.lshl, 1) := by decide +kernel
theorem dX9_readLengths_177 : decode cX9_readLengths 177 = .ok (.ladd, 1) := by decide +kernel
theorem dX9_readLengths_178 : decode cX9_readLengths 178 = .ok (.lstore_n 3, 1) := by decide +kernel
theorem dX9_readLengths_179 : decode cX9_readLengths 179 = .ok (.iinc 5 1, 3) := by decide +kernel
theorem dX9_readLengths_182 : decode cX9_readLengths 182 = .ok (.goto (-42), 3) := by decide +kernel
theorem dX9_readLengths_185 : decode cX9_readLengths 185 = .ok (.aload_n 0, 1) := by decide +kernel
theorem dX9_readLengths_186 : decode cX9_readLengths 186 = .ok (.lload_n 3, 1) := by decide +kernel
theorem dX9_readLengths_187 : decode cX9_readLengths 187 = .ok (.ldc2_w 186, 3) := by decide +kernel
theorem dX9_readLengths_190 : decode cX9_readLengths 190 = .ok (.lcmp, 1) := by decide +kernel
theorem dX9_readLengths_191 : decode cX9_readLengths 191 = .ok (.ifCond .le 7, 3) := by decide +kernel
theorem dX9_readLengths_194 : decode cX9_readLengths 194 = .ok (.iconst 1, 1) := by decide +kernel
theorem dX9_readLengths_195 : decode cX9_readLengths 195 = .ok (.goto 4, 3) := by decide +kernel
theorem dX9_readLengths_198 : decode cX9_readLengths 198 = .ok (.iconst 0, 1) := by decide +kernel
theorem dX9_readLengths_199 : decode cX9_readLengths 199 = .ok (.bipush 6, 2) := by decide +kernel
theorem dX9_readLengths_201 : decode cX9_readLengths 201 = .ok (.invokevirtual 176, 3) := by decide +kernel
theorem dX9_readLengths_204 : decode cX9_readLengths 204 = .ok (.aload_n 0, 1) := by decide +kernel
theorem dX9_readLengths_205 : decode cX9_readLengths 205 = .ok (.getfield 164, 3) := by decide +kernel
theorem dX9_readLengths_208 : decode cX9_readLengths 208 = .ok (.ifCond .ne 30, 3) := by decide +kernel
theorem dX9_readLengths_211 : decode cX9_readLengths 211 = .ok (.aload_n 0, 1) := by decide +kernel
theorem dX9_readLengths_212 : decode cX9_readLengths 212 = .ok (.getfield 57, 3) := by decide +kernel
theorem dX9_readLengths_215 : decode cX9_readLengths 215 = .ok (.sipush 258, 3) := by decide +kernel
theorem dX9_readLengths_218 : decode cX9_readLengths 218 = .ok (.iload_n 1, 1) := by decide +kernel
theorem dX9_readLengths_219 : decode cX9_readLengths 219 = .ok (.imul, 1) := by decide +kernel
theorem dX9_readLengths_220 : decode cX9_readLengths 220 = .ok (.aload_n 0, 1) := by decide +kernel
theorem dX9_readLengths_221 : decode cX9_readLengths 221 = .ok (.getfield 60, 3) := by decide +kernel
theorem dX9_readLengths_224 : decode cX9_readLengths 224 = .ok (.sipush 258, 3) := by decide +kernel
theorem dX9_readLengths_227 : decode cX9_readLengths 227 = .ok (.iload_n 1, 1) := by decide +kernel
theorem dX9_readLengths_228 : decode cX9_readLengths 228 = .ok (.imul, 1) := by decide +kernel
theorem dX9_readLengths_229 : decode cX9_readLengths 229 = .ok (.aload_n 0, 1) := by decide +kernel
theorem dX9_readLengths_230 : decode cX9_readLengths 230 = .ok (.getfield 170, 3) := by decide +kernel
theorem dX9_readLengths_233 : decode cX9_readLengths 233 = .ok (.iconst 2, 1) := by decide +kernel
theorem dX9_readLengths_234 : decode cX9_readLengths 234 = .ok (.iadd, 1) := by decide +kernel
theorem dX9_readLengths_235 : decode cX9_readLengths 235 = .ok (.invokestatic 109, 3) := by decide +kernel
theorem dX9_readLengths_238 : decode cX9_readLengths 238 = .ok (.return_, 1) := by decide +kernel
set_option maxRecDepth 20000 in
theorem ggX9_readSymbol_X9_take : GoodIn wsX9_readSymbol wsX9_take := goodIn_r _ [9, 1, 10, 11, 12, 17, 18, 19, 20, 21, 22, 23, 24, 25, 26, 27, 28, 29, 30, 31, 32, 33, 34, 35, 36, 37, 38, 39, 40, 41, 42, 43, 44, 45, 46, 47, 48, 49] (by decide +kernel) (by decide +kernel)
set_option maxRecDepth 20000 in
theorem gX9_readSymbol_X9_take : GoodIn wsX9_readSymbol (wsV RX9 173 RX9 yX9_take wsX9_take) := goodIn_app (goodIn_of _ (by decide +kernel)) ggX9_readSymbol_X9_take
set_option maxRecDepth 20000 in
theorem ggX9_readSymbol_X9_fails : GoodIn wsX9_readSymbol wsX9_fails := goodIn_r _ [16, 1, 17, 18, 19, 20, 21, 22, 23, 24, 25, 26, 27, 28, 29, 30, 31, 32, 33, 34, 35, 36, 37, 38, 39, 40, 41, 42, 43, 44, 45, 46, 47, 48, 49] (by decide +kernel) (by decide +kernel)
set_option maxRecDepth 20000 in
theorem gX9_readSymbol_X9_fails : GoodIn wsX9_readSymbol (wsV RX9 176 RX9 yX9_fails wsX9_fails) := goodIn_app (goodIn_of _ (by decide +kernel)) ggX9_readSymbol_X9_fails
theorem dX9_readSymbol_0 : decode cX9_readSymbol 0 = .ok (.iconst 0, 1) := by decide +kernel
theorem dX9_readSymbol_1 : decode cX9_readSymbol 1 = .ok (.istore_n 2, 1) := by decide +kernel
theorem dX9_readSymbol_2 : decode cX9_readSymbol 2 = .ok (.iconst 1, 1) := by decide +kernel
theorem dX9_readSymbol_3 : decode cX9_readSymbol 3 = .ok (.istore_n 3, 1) := by decide +kernel
theorem dX9_readSymbol_4 : decode cX9_readSymbol 4 = .ok (.aload_n 0, 1) := by decide +kernel
theorem dX9_readSymbol_5 : decode cX9_readSymbol 5 = .ok (.getfield 164, 3) := by decide +kernel
theorem dX9_readSymbol_8 : decode cX9_readSymbol 8 = .ok (.ifCond .ne 146, 3) := by decide +kernel
theorem dX9_readSymbol_11 : decode cX9_readSymbol 11 = .ok (.iconst 2, 1) := by decide +kernel
theorem dX9_readSymbol_12 : decode cX9_readSymbol 12 = .ok (.iload_n 2, 1) := by decide +kernel
theorem dX9_readSymbol_13 : decode cX9_readSymbol 13 = .ok (.imul, 1) := by decide +kernel
theorem dX9_readSymbol_14 : decode cX9_readSymbol 14 = .ok (.aload_n 0, 1) := by decide +kernel
theorem dX9_readSymbol_15 : decode cX9_readSymbol 15 = .ok (.iconst 1, 1) := by decide +kernel
theorem dX9_readSymbol_16 : decode cX9_readSymbol 16 = .ok (.invokevirtual 173, 3) := by decide +kernel
theorem dX9_readSymbol_19 : decode cX9_readSymbol 19 = .ok (.iadd, 1) := by decide +kernel
theorem dX9_readSymbol_20 : decode cX9_readSymbol 20 = .ok (.istore_n 2, 1) := by decide +kernel
theorem dX9_readSymbol_21 : decode cX9_readSymbol 21 = .ok (.iconst 0, 1) := by decide +kernel
theorem dX9_readSymbol_22 : decode cX9_readSymbol 22 = .ok (.istore 4, 2) := by decide +kernel
theorem dX9_readSymbol_24 : decode cX9_readSymbol 24 = .ok (.iconst 0, 1) := by decide +kernel
theorem dX9_readSymbol_25 : decode cX9_readSymbol 25 = .ok (.istore 5, 2) := by decide +kernel
theorem dX9_readSymbol_27 : decode cX9_readSymbol 27 = .ok (.iload 5, 2) := by decide +kernel
theorem dX9_readSymbol_29 : decode cX9_readSymbol 29 = .ok (.aload_n 0, 1) := by decide +kernel
theorem dX9_readSymbol_30 : decode cX9_readSymbol 30 = .ok (.getfield 170, 3) := by decide +kernel
theorem dX9_readSymbol_33 : decode cX9_readSymbol 33 = .ok (.iconst 2, 1) := by decide +kernel
theorem dX9_readSymbol_34 : decode cX9_readSymbol 34 = .ok (.iadd, 1) := by decide +kernel
theorem dX9_readSymbol_35 : decode cX9_readSymbol 35 = .ok (.if_icmp .ge 97, 3) := by decide +kernel
theorem dX9_readSymbol_38 : decode cX9_readSymbol 38 = .ok (.aload_n 0, 1) := by decide +kernel
theorem dX9_readSymbol_39 : decode cX9_readSymbol 39 = .ok (.getfield 164, 3) := by decide +kernel
theorem dX9_readSymbol_42 : decode cX9_readSymbol 42 = .ok (.ifCond .ne 90, 3) := by decide +kernel
theorem dX9_readSymbol_45 : decode cX9_readSymbol 45 = .ok (.aload_n 0, 1) := by decide +kernel
theorem dX9_readSymbol_46 : decode cX9_readSymbol 46 = .ok (.getfield 57, 3) := by decide +kernel
theorem dX9_readSymbol_49 : decode cX9_readSymbol 49 = .ok (.sipush 258, 3) := by decide +kernel
theorem dX9_readSymbol_52 : decode cX9_readSymbol 52 = .ok (.iload_n 1, 1) := by decide +kernel
theorem dX9_readSymbol_53 : decode cX9_readSymbol 53 = .ok (.imul, 1) := by decide +kernel
theorem dX9_readSymbol_54 : decode cX9_readSymbol 54 = .ok (.iload 5, 2) := by decide +kernel
theorem dX9_readSymbol_56 : decode cX9_readSymbol 56 = .ok (.iadd, 1) := by decide +kernel
theorem dX9_readSymbol_57 : decode cX9_readSymbol 57 = .ok (.iaload, 1) := by decide +kernel
theorem dX9_readSymbol_58 : decode cX9_readSymbol 58 = .ok (.istore 6, 2) := by decide +kernel
theorem dX9_readSymbol_60 : decode cX9_readSymbol 60 = .ok (.iload 6, 2) := by decide +kernel
theorem dX9_readSymbol_62 : decode cX9_readSymbol 62 = .ok (.iload_n 3, 1) := by decide +kernel
theorem dX9_readSymbol_63 : decode cX9_readSymbol 63 = .ok (.if_icmp .ne 23, 3) := by decide +kernel
theorem dX9_readSymbol_66 : decode cX9_readSymbol 66 = .ok (.aload_n 0, 1) := by decide +kernel
theorem dX9_readSymbol_67 : decode cX9_readSymbol 67 = .ok (.getfield 60, 3) := by decide +kernel
theorem dX9_readSymbol_70 : decode cX9_readSymbol 70 = .ok (.sipush 258, 3) := by decide +kernel
theorem dX9_readSymbol_73 : decode cX9_readSymbol 73 = .ok (.iload_n 1, 1) := by decide +kernel
theorem dX9_readSymbol_74 : decode cX9_readSymbol 74 = .ok (.imul, 1) := by decide +kernel
theorem dX9_readSymbol_75 : decode cX9_readSymbol 75 = .ok (.iload 5, 2) := by decide +kernel
theorem dX9_readSymbol_77 : decode cX9_readSymbol 77 = .ok (.iadd, 1) := by decide +kernel
theorem dX9_readSymbol_78 : decode cX9_readSymbol 78 = .ok (.iaload, 1) := by decide +kernel
theorem dX9_readSymbol_79 : decode cX9_readSymbol 79 = .ok (.iload_n 2, 1) := by decide +kernel
theorem dX9_readSymbol_80 : decode cX9_readSymbol 80 = .ok (.if_icmp .ne 6, 3) := by decide +kernel
theorem dX9_readSymbol_83 : decode cX9_readSymbol 83 = .ok (.iload 5, 2) := by decide +kernel
theorem dX9_readSymbol_85 : decode cX9_readSymbol 85 = .ok (.ireturn, 1) := by decide +kernel
theorem dX9_readSymbol_86 : decode cX9_readSymbol 86 = .ok (.iload 4, 2) := by decide +kernel
theorem dX9_readSymbol_88 : decode cX9_readSymbol 88 = .ok (.ifCond .ne 31, 3) := by decide +kernel
theorem dX9_readSymbol_91 : decode cX9_readSymbol 91 = .ok (.iload 6, 2) := by decide +kernel
theorem dX9_readSymbol_93 : decode cX9_readSymbol 93 = .ok (.iload_n 3, 1) := by decide +kernel
theorem dX9_readSymbol_94 : decode cX9_readSymbol 94 = .ok (.if_icmp .le 29, 3) := by decide +kernel
theorem dX9_readSymbol_97 : decode cX9_readSymbol 97 = .ok (.aload_n 0, 1) := by decide +kernel
theorem dX9_readSymbol_98 : decode cX9_readSymbol 98 = .ok (.getfield 60, 3) := by decide +kernel
theorem dX9_readSymbol_101 : decode cX9_readSymbol 101 = .ok (.sipush 258, 3) := by decide +kernel
theorem dX9_readSymbol_104 : decode cX9_readSymbol 104 = .ok (.iload_n 1, 1) := by decide +kernel
theorem dX9_readSymbol_105 : decode cX9_readSymbol 105 = .ok (.imul, 1) := by decide +kernel
theorem dX9_readSymbol_106 : decode cX9_readSymbol 106 = .ok (.iload 5, 2) := by decide +kernel
theorem dX9_readSymbol_108 : decode cX9_readSymbol 108 = .ok (.iadd, 1) := by decide +kernel
theorem dX9_readSymbol_109 : decode cX9_readSymbol 109 = .ok (.iaload, 1) := by decide +kernel
theorem dX9_readSymbol_110 : decode cX9_readSymbol 110 = .ok (.iload 6, 2) := by decide +kernel
theorem dX9_readSymbol_112 : decode cX9_readSymbol 112 = .ok (.iload_n 3, 1) := by decide +kernel
theorem dX9_readSymbol_113 : decode cX9_readSymbol 113 = .ok (.isub, 1) := by decide +kernel
theorem dX9_readSymbol_114 : decode cX9_readSymbol 114 = .ok (.ishr, 1) := by decide +kernel
theorem dX9_readSymbol_115 : decode cX9_readSymbol 115 = .ok (.iload_n 2, 1) := by decide +kernel
theorem dX9_readSymbol_116 : decode cX9_readSymbol 116 = .ok (.if_icmp .ne 7, 3) := by decide +kernel
theorem dX9_readSymbol_119 : decode cX9_readSymbol 119 = .ok (.iconst 1, 1) := by decide +kernel
theorem dX9_readSymbol_120 : decode cX9_readSymbol 120 = .ok (.goto 4, 3) := by decide +kernel
theorem dX9_readSymbol_123 : decode cX9_readSymbol 123 = .ok (.iconst 0, 1) := by decide +kernel
theorem dX9_readSymbol_124 : decode cX9_readSymbol 124 = .ok (.istore 4, 2) := by decide +kernel
theorem dX9_readSymbol_126 : decode cX9_readSymbol 126 = .ok (.iinc 5 1, 3) := by decide +kernel
theorem dX9_readSymbol_129 : decode cX9_readSymbol 129 = .ok (.goto (-102), 3) := by decide +kernel
theorem dX9_readSymbol_132 : decode cX9_readSymbol 132 = .ok (.aload_n 0, 1) := by decide +kernel
theorem dX9_readSymbol_133 : decode cX9_readSymbol 133 = .ok (.iload 4, 2) := by decide +kernel
theorem dX9_readSymbol_135 : decode cX9_readSymbol 135 = .ok (.ifCond .ne 7, 3) := by decide +kernel
theorem dX9_readSymbol_138 : decode cX9_readSymbol 138 = .ok (.iconst 1, 1) := by decide +kernel
theorem dX9_readSymbol_139 : decode cX9_readSymbol 139 = .ok (.goto 4, 3) := by decide +kernel
theorem dX9_readSymbol_142 : decode cX9_readSymbol 142 = .ok (.iconst 0, 1) := by decide +kernel
theorem dX9_readSymbol_143 : decode cX9_readSymbol 143 = .ok (.bipush 7, 2) := by decide +kernel
theorem dX9_readSymbol_145 : decode cX9_readSymbol 145 = .ok (.invokevirtual 176, 3) := by decide +kernel
theorem dX9_readSymbol_148 : decode cX9_readSymbol 148 = .ok (.iinc 3 1, 3) := by decide +kernel
theorem dX9_readSymbol_151 : decode cX9_readSymbol 151 = .ok (.goto (-147), 3) := by decide +kernel
theorem dX9_readSymbol_154 : decode cX9_readSymbol 154 = .ok (.iconst (-1), 1) := by decide +kernel
theorem dX9_readSymbol_155 : decode cX9_readSymbol 155 = .ok (.ireturn, 1) := by decide +kernel
set_option maxRecDepth 20000 in
theorem ggX9_readBlock_X9_fails : GoodIn wsX9_readBlock wsX9_fails := goodIn_r _ [15, 5, 31, 32, 33, 34, 35, 36, 37, 38, 39, 40, 41, 42, 43, 44, 45, 46, 47, 48, 49, 50, 51, 52, 53, 54, 55, 56, 57, 58, 59, 60, 61, 62, 63] (by decide +kernel) (by decide +kernel)
set_option maxRecDepth 20000 in
theorem gX9_readBlock_X9_fails : GoodIn wsX9_readBlock (wsV RX9 176 RX9 yX9_fails wsX9_fails) := goodIn_app (goodIn_of _ (by decide +kernel)) ggX9_readBlock_X9_fails
set_option maxRecDepth 20000 in
theorem ggX9_readBlock_X9_readSymbol : GoodIn wsX9_readBlock wsX9_readSymbol := goodIn_r _ [19, 5, 1, 20, 21, 22, 23, 24, 14, 25, 9, 10, 26, 11, 12, 13, 15, 31, 32, 33, 34, 35, 36, 37, 38, 39, 40, 41, 42, 43, 44, 45, 46, 47, 48, 49, 50, 51, 52, 53, 54, 55, 56, 57, 58, 59, 60, 61, 62, 63] (by decide +kernel) (by decide +kernel)
set_option maxRecDepth 20000 in
theorem gX9_readBlock_X9_readSymbol : GoodIn wsX9_readBlock (wsV RX9 191 RX9 yX9_readSymbol wsX9_readSymbol) := goodIn_app (goodIn_of _ (by decide +kernel)) ggX9_readBlock_X9_readSymbol
set_option maxRecDepth 20000 in
theorem ggX9_readBlock_X9_toFront : GoodIn wsX9_readBlock wsX9_toFront := goodIn_r _ [30] (by decide +kernel) (by decide +kernel)
set_option maxRecDepth 20000 in
theorem gX9_readBlock_X9_toFront : GoodIn wsX9_readBlock (wsV RX9 117 RX9 yX9_toFront wsX9_toFront) := goodIn_app (goodIn_of _ (by decide +kernel)) ggX9_readBlock_X9_toFront
theorem dX9_readBlock_0 : decode cX9_readBlock 0 = .ok (.iconst 0, 1) := by decide +kernel
theorem dX9_readBlock_1 : decode cX9_readBlock 1 = .ok (.istore_n 1, 1) := by decide +kernel
theorem dX9_readBlock_2 : decode cX9_readBlock 2 = .ok (.iload_n 1, 1) := by decide +kernel
theorem dX9_readBlock_3 : decode cX9_readBlock 3 = .ok (.aload_n 0, 1) := by decide +kernel
theorem dX9_readBlock_4 : decode cX9_readBlock 4 = .ok (.getfield 170, 3) := by decide +kernel
theorem dX9_readBlock_7 : decode cX9_readBlock 7 = .ok (.if_icmp .ge 21, 3) := by decide +kernel
theorem dX9_readBlock_10 : decode cX9_readBlock 10 = .ok (.aload_n 0, 1) := by decide +kernel
theorem dX9_readBlock_11 : decode cX9_readBlock 11 = .ok (.getfield 39, 3) := by decide +kernel
theorem dX9_readBlock_14 : decode cX9_readBlock 14 = .ok (.iload_n 1, 1) := by decide +kernel
theorem dX9_readBlock_15 : decode cX9_readBlock 15 = .ok (.aload_n 0, 1) := by decide +kernel
theorem dX9_readBlock_16 : decode cX9_readBlock 16 = .ok (.getfield 51, 3) := by decide +kernel
theorem dX9_readBlock_19 : decode cX9_readBlock 19 = .ok (.iload_n 1, 1) := by decide +kernel
theorem dX9_readBlock_20 : decode cX9_readBlock 20 = .ok (.iaload, 1) := by decide +kernel
theorem dX9_readBlock_21 : decode cX9_readBlock 21 = .ok (.iastore, 1) := by decide +kernel
theorem dX9_readBlock_22 : decode cX9_readBlock 22 = .ok (.iinc 1 1, 3) := by decide +kernel
theorem dX9_readBlock_25 : decode cX9_readBlock 25 = .ok (.goto (-23), 3) := by decide +kernel
theorem dX9_readBlock_28 : decode cX9_readBlock 28 = .ok (.aload_n 0, 1) := by decide +kernel
theorem dX9_readBlock_29 : decode cX9_readBlock 29 = .ok (.iconst 0, 1) := by decide +kernel
theorem dX9_readBlock_30 : decode cX9_readBlock 30 = .ok (.putfield 188, 3) := by decide +kernel
theorem dX9_readBlock_33 : decode cX9_readBlock 33 = .ok (.iconst 0, 1) := by decide +kernel
theorem dX9_readBlock_34 : decode cX9_readBlock 34 = .ok (.istore_n 1, 1) := by decide +kernel
theorem dX9_readBlock_35 : decode cX9_readBlock 35 = .ok (.iconst 1, 1) := by decide +kernel
theorem dX9_readBlock_36 : decode cX9_readBlock 36 = .ok (.istore_n 2, 1) := by decide +kernel
theorem dX9_readBlock_37 : decode cX9_readBlock 37 = .ok (.iconst 0, 1) := by decide +kernel
theorem dX9_readBlock_38 : decode cX9_readBlock 38 = .ok (.istore_n 3, 1) := by decide +kernel
theorem dX9_readBlock_39 : decode cX9_readBlock 39 = .ok (.iconst 0, 1) := by decide +kernel
theorem dX9_readBlock_40 : decode cX9_readBlock 40 = .ok (.istore 4, 2) := by decide +kernel
theorem dX9_readBlock_42 : decode cX9_readBlock 42 = .ok (.iload_n 3, 1) := by decide +kernel
theorem dX9_readBlock_43 : decode cX9_readBlock 43 = .ok (.ifCond .ne 269, 3) := by decide +kernel
theorem dX9_readBlock_46 : decode cX9_readBlock 46 = .ok (.aload_n 0, 1) := by decide +kernel
theorem dX9_readBlock_47 : decode cX9_readBlock 47 = .ok (.getfield 164, 3) := by decide +kernel
theorem dX9_readBlock_50 : decode cX9_readBlock 50 = .ok (.ifCond .ne 262, 3) := by decide +kernel
theorem dX9_readBlock_53 : decode cX9_readBlock 53 = .ok (.aload_n 0, 1) := by decide +kernel
theorem dX9_readBlock_54 : decode cX9_readBlock 54 = .ok (.iload 4, 2) := by decide +kernel
theorem dX9_readBlock_56 : decode cX9_readBlock 56 = .ok (.bipush 10, 2) := by decide +kernel
theorem dX9_readBlock_58 : decode cX9_readBlock 58 = .ok (.aload_n 0, 1) := by decide +kernel
theorem dX9_readBlock_59 : decode cX9_readBlock 59 = .ok (.getfield 183, 3) := by decide +kernel
theorem dX9_readBlock_62 : decode cX9_readBlock 62 = .ok (.imul, 1) := by decide +kernel
theorem dX9_readBlock_63 : decode cX9_readBlock 63 = .ok (.if_icmp .ne 7, 3) := by decide +kernel
theorem dX9_readBlock_66 : decode cX9_readBlock 66 = .ok (.iconst 1, 1) := by decide +kernel
theorem dX9_readBlock_67 : decode cX9_readBlock 67 = .ok (.goto 4, 3) := by decide +kernel
theorem dX9_readBlock_70 : decode cX9_readBlock 70 = .ok (.iconst 0, 1) := by decide +kernel
theorem dX9_readBlock_71 : decode cX9_readBlock 71 = .ok (.bipush 9, 2) := by decide +kernel
theorem dX9_readBlock_73 : decode cX9_readBlock 73 = .ok (.invokevirtual 176, 3) := by decide +kernel
theorem dX9_readBlock_76 : decode cX9_readBlock 76 = .ok (.aload_n 0, 1) := by decide +kernel
theorem dX9_readBlock_77 : decode cX9_readBlock 77 = .ok (.getfield 164, 3) := by decide +kernel
theorem dX9_readBlock_80 : decode cX9_readBlock 80 = .ok (.ifCond .ne 20, 3) := by decide +kernel
theorem dX9_readBlock_83 : decode cX9_readBlock 83 = .ok (.aload_n 0, 1) := by decide +kernel
theorem dX9_readBlock_84 : decode cX9_readBlock 84 = .ok (.aload_n 0, 1) := by decide +kernel
theorem dX9_readBlock_85 : decode cX9_readBlock 85 = .ok (.getfield 54, 3) := by decide +kernel
theorem dX9_readBlock_88 : decode cX9_readBlock 88 = .ok (.iload 4, 2) := by decide +kernel
theorem dX9_readBlock_90 : decode cX9_readBlock 90 = .ok (.bipush 10, 2) := by decide +kernel
theorem dX9_readBlock_92 : decode cX9_readBlock 92 = .ok (.idiv, 1) := by decide +kernel
theorem dX9_readBlock_93 : decode cX9_readBlock 93 = .ok (.iaload, 1) := by decide +kernel
theorem dX9_readBlock_94 : decode cX9_readBlock 94 = .ok (.invokevirtual 191, 3) := by decide +kernel
theorem dX9_readBlock_97 : decode cX9_readBlock 97 = .ok (.goto 4, 3) := by decide +kernel
theorem dX9_readBlock_100 : decode cX9_readBlock 100 = .ok (.iconst (-1), 1) := by decide +kernel
theorem dX9_readBlock_101 : decode cX9_readBlock 101 = .ok (.istore 5, 2) := by decide +kernel
theorem dX9_readBlock_103 : decode cX9_readBlock 103 = .ok (.iinc 4 1, 3) := by decide +kernel
theorem dX9_readBlock_106 : decode cX9_readBlock 106 = .ok (.aload_n 0, 1) := by decide +kernel
theorem dX9_readBlock_107 : decode cX9_readBlock 107 = .ok (.getfield 164, 3) := by decide +kernel
theorem dX9_readBlock_110 : decode cX9_readBlock 110 = .ok (.ifCond .le 4, 3) := by decide +kernel
theorem dX9_readBlock_113 : decode cX9_readBlock 113 = .ok (.return_, 1) := by decide +kernel
theorem dX9_readBlock_114 : decode cX9_readBlock 114 = .ok (.iload 5, 2) := by decide +kernel
theorem dX9_readBlock_116 : decode cX9_readBlock 116 = .ok (.iconst 2, 1) := by decide +kernel
theorem dX9_readBlock_117 : decode cX9_readBlock 117 = .ok (.if_icmp .ge 48, 3) := by decide +kernel
theorem dX9_readBlock_120 : decode cX9_readBlock 120 = .ok (.iload_n 1, 1) := by decide +kernel
theorem dX9_readBlock_121 : decode cX9_readBlock 121 = .ok (.iload 5, 2) := by decide +kernel
theorem dX9_readBlock_123 : decode cX9_readBlock 123 = .ok (.ifCond .ne 7, 3) := by decide +kernel
theorem dX9_readBlock_126 : decode cX9_readBlock 126 = .ok (.iload_n 2, 1) := by decide +kernel
theorem dX9_readBlock_127 : decode cX9_readBlock 127 = .ok (.goto 6, 3) := by decide +kernel
theorem dX9_readBlock_130 : decode cX9_readBlock 130 = .ok (.iconst 2, 1) := by decide +kernel
theorem dX9_readBlock_131 : decode cX9_readBlock 131 = .ok (.iload_n 2, 1) := by decide +kernel
theorem dX9_readBlock_132 : decode cX9_readBlock 132 = .ok (.imul, 1) := by decide +kernel
theorem dX9_readBlock_133 : decode cX9_readBlock 133 = .ok (.iadd, 1) := by decide +kernel
theorem dX9_readBlock_134 : decode cX9_readBlock 134 = .ok (.istore_n 1, 1) := by decide +kernel
theorem dX9_readBlock_135 : decode cX9_readBlock 135 = .ok (.iconst 2, 1) := by decide +kernel
theorem dX9_readBlock_136 : decode cX9_readBlock 136 = .ok (.iload_n 2, 1) := by decide +kernel
theorem dX9_readBlock_137 : decode cX9_readBlock 137 = .ok (.imul, 1) := by decide +kernel
theorem dX9_readBlock_138 : decode cX9_readBlock 138 = .ok (.istore_n 2, 1) := by decide +kernel
theorem dX9_readBlock_139 : decode cX9_readBlock 139 = .ok (.aload_n 0, 1) := by decide +kernel
theorem dX9_readBlock_140 : decode cX9_readBlock 140 = .ok (.aload_n 0, 1) := by decide +kernel
theorem dX9_readBlock_141 : decode cX9_readBlock 141 = .ok (.getfield 188, 3) := by decide +kernel
theorem dX9_readBlock_144 : decode cX9_readBlock 144 = .ok (.iload_n 1, 1) := by decide +kernel
theorem dX9_readBlock_145 : decode cX9_readBlock 145 = .ok (.iadd, 1) := by decide +kernel
theorem dX9_readBlock_146 : decode cX9_readBlock 146 = .ok (.sipush 300, 3) := by decide +kernel
theorem dX9_readBlock_149 : decode cX9_readBlock 149 = .ok (.if_icmp .le 7, 3) := by decide +kernel
theorem dX9_readBlock_152 : decode cX9_readBlock 152 = .ok (.iconst 1, 1) := by decide +kernel
theorem dX9_readBlock_153 : decode cX9_readBlock 153 = .ok (.goto 4, 3) := by decide +kernel
theorem dX9_readBlock_156 : decode cX9_readBlock 156 = .ok (.iconst 0, 1) := by decide +kernel
theorem dX9_readBlock_157 : decode cX9_readBlock 157 = .ok (.bipush 8, 2) := by decide +kernel
theorem dX9_readBlock_159 : decode cX9_readBlock 159 = .ok (.invokevirtual 176, 3) := by decide +kernel
theorem dX9_readBlock_162 : decode cX9_readBlock 162 = .ok (.goto 147, 3) := by decide +kernel
theorem dX9_readBlock_165 : decode cX9_readBlock 165 = .ok (.aload_n 0, 1) := by decide +kernel
theorem dX9_readBlock_166 : decode cX9_readBlock 166 = .ok (.iload 5, 2) := by decide +kernel
theorem dX9_readBlock_168 : decode cX9_readBlock 168 = .ok (.aload_n 0, 1) := by decide +kernel
theorem dX9_readBlock_169 : decode cX9_readBlock 169 = .ok (.getfield 170, 3) := by decide +kernel
theorem dX9_readBlock_172 : decode cX9_readBlock 172 = .ok (.if_icmp .gt 21, 3) := by decide +kernel
theorem dX9_readBlock_175 : decode cX9_readBlock 175 = .ok (.aload_n 0, 1) := by decide +kernel
theorem dX9_readBlock_176 : decode cX9_readBlock 176 = .ok (.getfield 188, 3) := by decide +kernel
theorem dX9_readBlock_179 : decode cX9_readBlock 179 = .ok (.iload_n 1, 1) := by decide +kernel
theorem dX9_readBlock_180 : decode cX9_readBlock 180 = .ok (.iadd, 1) := by decide +kernel
theorem dX9_readBlock_181 : decode cX9_readBlock 181 = .ok (.iconst 1, 1) := by decide +kernel
theorem dX9_readBlock_182 : decode cX9_readBlock 182 = .ok (.iadd, 1) := by decide +kernel
theorem dX9_readBlock_183 : decode cX9_readBlock 183 = .ok (.sipush 300, 3) := by decide +kernel
theorem dX9_readBlock_186 : decode cX9_readBlock 186 = .ok (.if_icmp .le 7, 3) := by decide +kernel
theorem dX9_readBlock_189 : decode cX9_readBlock 189 = .ok (.iconst 1, 1) := by decide +kernel
theorem dX9_readBlock_190 : decode cX9_readBlock 190 = .ok (.goto 4, 3) := by decide +kernel
theorem dX9_readBlock_193 : decode cX9_readBlock 193 = .ok (.iconst 0, 1) := by decide +kernel
theorem dX9_readBlock_194 : decode cX9_readBlock 194 = .ok (.bipush 8, 2) := by decide +kernel
theorem dX9_readBlock_196 : decode cX9_readBlock 196 = .ok (.invokevirtual 176, 3) := by decide +kernel
theorem dX9_readBlock_199 : decode cX9_readBlock 199 = .ok (.iconst 0, 1) := by decide +kernel
theorem dX9_readBlock_200 : decode cX9_readBlock 200 = .ok (.istore 6, 2) := by decide +kernel
theorem dX9_readBlock_202 : decode cX9_readBlock 202 = .ok (.iload 6, 2) := by decide +kernel
theorem dX9_readBlock_204 : decode cX9_readBlock 204 = .ok (.iload_n 1, 1) := by decide +kernel
theorem dX9_readBlock_205 : decode cX9_readBlock 205 = .ok (.if_icmp .ge 41, 3) := by decide +kernel
theorem dX9_readBlock_208 : decode cX9_readBlock 208 = .ok (.aload_n 0, 1) := by decide +kernel
theorem dX9_readBlock_209 : decode cX9_readBlock 209 = .ok (.getfield 164, 3) := by decide +kernel
theorem dX9_readBlock_212 : decode cX9_readBlock 212 = .ok (.ifCond .ne 34, 3) := by decide +kernel
theorem dX9_readBlock_215 : decode cX9_readBlock 215 = .ok (.aload_n 0, 1) := by decide +kernel
theorem dX9_readBlock_216 : decode cX9_readBlock 216 = .ok (.getfield 63, 3) := by decide +kernel
theorem dX9_readBlock_219 : decode cX9_readBlock 219 = .ok (.aload_n 0, 1) := by decide +kernel
theorem dX9_readBlock_220 : decode cX9_readBlock 220 = .ok (.getfield 188, 3) := by decide +kernel
theorem dX9_readBlock_223 : decode cX9_readBlock 223 = .ok (.aload_n 0, 1) := by decide +kernel
theorem dX9_readBlock_224 : decode cX9_readBlock 224 = .ok (.getfield 39, 3) := by decide +kernel
theorem dX9_readBlock_227 : decode cX9_readBlock 227 = .ok (.iconst 0, 1) := by decide +kernel
theorem dX9_readBlock_228 : decode cX9_readBlock 228 = .ok (.iaload, 1) := by decide +kernel
theorem dX9_readBlock_229 : decode cX9_readBlock 229 = .ok (.iastore, 1) := by decide +kernel
theorem dX9_readBlock_230 : decode cX9_readBlock 230 = .ok (.aload_n 0, 1) := by decide +kernel
theorem dX9_readBlock_231 : decode cX9_readBlock 231 = .ok (.dup, 1) := by decide +kernel
theorem dX9_readBlock_232 : decode cX9_readBlock 232 = .ok (.getfield 188, 3) := by decide +kernel
theorem dX9_readBlock_235 : decode cX9_readBlock 235 = .ok (.iconst 1, 1) := by decide +kernel
theorem dX9_readBlock_236 : decode cX9_readBlock 236 = .ok (.iadd, 1) := by decide +kernel
theorem dX9_readBlock_237 : decode cX9_readBlock 237 = .ok (.putfield 188, 3) := by decide +kernel
theorem dX9_readBlock_240 : decode cX9_readBlock 240 = .ok (.iinc 6 1, 3) := by decide +kernel
theorem dX9_readBlock_243 : decode cX9_readBlock 243 = .ok (.goto (-41), 3) := by decide +kernel
theorem dX9_readBlock_246 : decode cX9_readBlock 246 = .ok (.iconst 0, 1) := by decide +kernel
theorem dX9_readBlock_247 : decode cX9_readBlock 247 = .ok (.istore_n 1, 1) := by decide +kernel
theorem dX9_readBlock_248 : decode cX9_readBlock 248 = .ok (.iconst 1, 1) := by decide +kernel
theorem dX9_readBlock_249 : decode cX9_readBlock 249 = .ok (.istore_n 2, 1) := by decide +kernel
theorem dX9_readBlock_250 : decode cX9_readBlock 250 = .ok (.iload 5, 2) := by decide +kernel
theorem dX9_readBlock_252 : decode cX9_readBlock 252 = .ok (.aload_n 0, 1) := by decide +kernel
theorem dX9_readBlock_253 : decode cX9_readBlock 253 = .ok (.getfield 170, 3) := by decide +kernel
theorem dX9_readBlock_256 : decode cX9_readBlock 256 = .ok (.iconst 1, 1) := by decide +kernel
theorem dX9_readBlock_257 : decode cX9_readBlock 257 = .ok (.iadd, 1) := by decide +kernel
theorem dX9_readBlock_258 : decode cX9_readBlock 258 = .ok (.if_icmp .ne 7, 3) := by decide +kernel
theorem dX9_readBlock_261 : decode cX9_readBlock 261 = .ok (.iconst 1, 1) := by decide +kernel
theorem dX9_readBlock_262 : decode cX9_readBlock 262 = .ok (.goto 4, 3) := by decide +kernel
theorem dX9_readBlock_265 : decode cX9_readBlock 265 = .ok (.iconst 0, 1) := by decide +kernel
theorem dX9_readBlock_266 : decode cX9_readBlock 266 = .ok (.istore_n 3, 1) := by decide +kernel
theorem dX9_readBlock_267 : decode cX9_readBlock 267 = .ok (.iload_n 3, 1) := by decide +kernel
theorem dX9_readBlock_268 : decode cX9_readBlock 268 = .ok (.ifCond .ne 41, 3) := by decide +kernel
theorem dX9_readBlock_271 : decode cX9_readBlock 271 = .ok (.aload_n 0, 1) := by decide +kernel
theorem dX9_readBlock_272 : decode cX9_readBlock 272 = .ok (.getfield 164, 3) := by decide +kernel
theorem dX9_readBlock_275 : decode cX9_readBlock 275 = .ok (.ifCond .ne 34, 3) := by decide +kernel
theorem dX9_readBlock_278 : decode cX9_readBlock 278 = .ok (.aload_n 0, 1) := by decide +kernel
theorem dX9_readBlock_279 : decode cX9_readBlock 279 = .ok (.getfield 63, 3) := by decide +kernel
theorem dX9_readBlock_282 : decode cX9_readBlock 282 = .ok (.aload_n 0, 1) := by decide +kernel
theorem dX9_readBlock_283 : decode cX9_readBlock 283 = .ok (.getfield 188, 3) := by decide +kernel
theorem dX9_readBlock_286 : decode cX9_readBlock 286 = .ok (.aload_n 0, 1) := by decide +kernel
theorem dX9_readBlock_287 : decode cX9_readBlock 287 = .ok (.aload_n 0, 1) := by decide +kernel
theorem dX9_readBlock_288 : decode cX9_readBlock 288 = .ok (.getfield 39, 3) := by decide +kernel
theorem dX9_readBlock_291 : decode cX9_readBlock 291 = .ok (.iload 5, 2) := by decide +kernel
theorem dX9_readBlock_293 : decode cX9_readBlock 293 = .ok (.iconst 1, 1) := by decide +kernel
theorem dX9_readBlock_294 : decode cX9_readBlock 294 = .ok (.isub, 1) := by decide +kernel
theorem dX9_readBlock_295 : decode cX9_readBlock 295 = .ok (.invokevirtual 117, 3) := by decide +kernel
theorem dX9_readBlock_298 : decode cX9_readBlock 298 = .ok (.iastore, 1) := by decide +kernel
theorem dX9_readBlock_299 : decode cX9_readBlock 299 = .ok (.aload_n 0, 1) := by decide +kernel
theorem dX9_readBlock_300 : decode cX9_readBlock 300 = .ok (.dup, 1) := by decide +kernel
theorem dX9_readBlock_301 : decode cX9_readBlock 301 = .ok (.getfield 188, 3) := by decide +kernel
theorem dX9_readBlock_304 : decode cX9_readBlock 304 = .ok (.iconst 1, 1) := by decide +kernel
theorem dX9_readBlock_305 : decode cX9_readBlock 305 = .ok (.iadd, 1) := by decide +kernel
theorem dX9_readBlock_306 : decode cX9_readBlock 306 = .ok (.putfield 188, 3) := by decide +kernel
theorem dX9_readBlock_309 : decode cX9_readBlock 309 = .ok (.goto (-267), 3) := by decide +kernel
theorem dX9_readBlock_312 : decode cX9_readBlock 312 = .ok (.aload_n 0, 1) := by decide +kernel
theorem dX9_readBlock_313 : decode cX9_readBlock 313 = .ok (.aload_n 0, 1) := by decide +kernel
theorem dX9_readBlock_314 : decode cX9_readBlock 314 = .ok (.getfield 188, 3) := by decide +kernel
theorem dX9_readBlock_317 : decode cX9_readBlock 317 = .ok (.ifCond .ne 7, 3) := by decide +kernel
theorem dX9_readBlock_320 : decode cX9_readBlock 320 = .ok (.iconst 1, 1) := by decide +kernel
theorem dX9_readBlock_321 : decode cX9_readBlock 321 = .ok (.goto 4, 3) := by decide +kernel
theorem dX9_readBlock_324 : decode cX9_readBlock 324 = .ok (.iconst 0, 1) := by decide +kernel
theorem dX9_readBlock_325 : decode cX9_readBlock 325 = .ok (.bipush 9, 2) := by decide +kernel
theorem dX9_readBlock_327 : decode cX9_readBlock 327 = .ok (.invokevirtual 176, 3) := by decide +kernel
theorem dX9_readBlock_330 : decode cX9_readBlock 330 = .ok (.aload_n 0, 1) := by decide +kernel
theorem dX9_readBlock_331 : decode cX9_readBlock 331 = .ok (.iload 4, 2) := by decide +kernel
theorem dX9_readBlock_333 : decode cX9_readBlock 333 = .ok (.bipush 9, 2) := by decide +kernel
theorem dX9_readBlock_335 : decode cX9_readBlock 335 = .ok (.iadd, 1) := by decide +kernel
theorem dX9_readBlock_336 : decode cX9_readBlock 336 = .ok (.bipush 10, 2) := by decide +kernel
theorem dX9_readBlock_338 : decode cX9_readBlock 338 = .ok (.idiv, 1) := by decide +kernel
theorem dX9_readBlock_339 : decode cX9_readBlock 339 = .ok (.aload_n 0, 1) := by decide +kernel
theorem dX9_readBlock_340 : decode cX9_readBlock 340 = .ok (.getfield 183, 3) := by decide +kernel
theorem dX9_readBlock_343 : decode cX9_readBlock 343 = .ok (.if_icmp .lt 14, 3) := by decide +kernel
theorem dX9_readBlock_346 : decode cX9_readBlock 346 = .ok (.aload_n 0, 1) := by decide +kernel
theorem dX9_readBlock_347 : decode cX9_readBlock 347 = .ok (.getfield 167, 3) := by decide +kernel
theorem dX9_readBlock_350 : decode cX9_readBlock 350 = .ok (.aload_n 0, 1) := by decide +kernel
theorem dX9_readBlock_351 : decode cX9_readBlock 351 = .ok (.getfield 138, 3) := by decide +kernel
theorem dX9_readBlock_354 : decode cX9_readBlock 354 = .ok (.if_icmp .ge 7, 3) := by decide +kernel
theorem dX9_readBlock_357 : decode cX9_readBlock 357 = .ok (.iconst 1, 1) := by decide +kernel
theorem dX9_readBlock_358 : decode cX9_readBlock 358 = .ok (.goto 4, 3) := by decide +kernel
theorem dX9_readBlock_361 : decode cX9_readBlock 361 = .ok (.iconst 0, 1) := by decide +kernel
theorem dX9_readBlock_362 : decode cX9_readBlock 362 = .ok (.bipush 10, 2) := by decide +kernel
theorem dX9_readBlock_364 : decode cX9_readBlock 364 = .ok (.invokevirtual 176, 3) := by decide +kernel
theorem dX9_readBlock_367 : decode cX9_readBlock 367 = .ok (.return_, 1) := by decide +kernel
set_option maxRecDepth 20000 in
theorem ggX9_read_X9_readSigns : GoodIn wsX9_read wsX9_readSigns := goodIn_r _ [14, 15, 2, 16, 17, 18, 19, 13, 20, 1, 21, 22, 23, 24, 25, 26, 60, 61, 62, 63, 64, 65, 66, 67, 68, 69, 70, 71, 72, 73, 74, 75, 76, 77, 78, 79, 80, 81, 82, 83, 84, 85, 86, 87, 88, 89, 90, 91, 92] (by decide +kernel) (by decide +kernel)
set_option maxRecDepth 20000 in
theorem gX9_read_X9_readSigns : GoodIn wsX9_read (wsV RX9 194 RX9 yX9_readSigns wsX9_readSigns) := goodIn_app (goodIn_of _ (by decide +kernel)) ggX9_read_X9_readSigns
set_option maxRecDepth 20000 in
theorem ggX9_read_X9_readTaken : GoodIn wsX9_read wsX9_readTaken := goodIn_r _ [30, 3, 31, 32, 2, 33, 17, 18, 19, 13, 20, 1, 21, 22, 23, 24, 25, 26, 34, 35, 36, 37, 60, 61, 62, 63, 64, 65, 66, 67, 68, 69, 70, 71, 72, 73, 74, 75, 76, 77, 78, 79, 80, 81, 82, 83, 84, 85, 86, 87, 88, 89, 90, 91, 92] (by decide +kernel) (by decide +kernel)
set_option maxRecDepth 20000 in
theorem gX9_read_X9_readTaken : GoodIn wsX9_read (wsV RX9 197 RX9 yX9_readTaken wsX9_readTaken) := goodIn_app (goodIn_of _ (by decide +kernel)) ggX9_read_X9_readTaken
set_option maxRecDepth 20000 in
theorem ggX9_read_X9_readLengths : GoodIn wsX9_read wsX9_readLengths := goodIn_r _ [41, 15, 2, 42, 43, 44, 17, 18, 19, 13, 20, 1, 21, 22, 45, 46, 47, 23, 24, 25, 26, 48, 49, 50, 60, 61, 62, 63, 64, 65, 66, 67, 68, 69, 70, 71, 72, 73, 74, 75, 76, 77, 78, 79, 80, 81, 82, 83, 84, 85, 86, 87, 88, 89, 90, 91, 92] (by decide +kernel) (by decide +kernel)
set_option maxRecDepth 20000 in
theorem gX9_read_X9_readLengths : GoodIn wsX9_read (wsV RX9 199 RX9 yX9_readLengths wsX9_readLengths) := goodIn_app (goodIn_of _ (by decide +kernel)) ggX9_read_X9_readLengths
set_option maxRecDepth 20000 in
theorem ggX9_read_X9_readBlock : GoodIn wsX9_read wsX9_readBlock := goodIn_r _ [54, 15, 55, 16, 5, 2, 31, 33, 8, 1, 21, 23, 24, 25, 13, 26, 56, 57, 58, 59, 42, 44, 17, 18, 19, 20, 22, 34, 35, 36, 37, 60, 61, 62, 63, 64, 65, 66, 67, 68, 69, 70, 71, 72, 73, 74, 75, 76, 77, 78, 79, 80, 81, 82, 83, 84, 85, 86, 87, 88, 89, 90, 91, 92] (by decide +kernel) (by decide +kernel)
set_option maxRecDepth 20000 in
theorem gX9_read_X9_readBlock : GoodIn wsX9_read (wsV RX9 201 RX9 yX9_readBlock wsX9_readBlock) := goodIn_app (goodIn_of _ (by decide +kernel)) ggX9_read_X9_readBlock
theorem dX9_read_0 : decode cX9_read 0 = .ok (.aload_n 0, 1) := by decide +kernel
theorem dX9_read_1 : decode cX9_read 1 = .ok (.iconst 0, 1) := by decide +kernel
theorem dX9_read_2 : decode cX9_read 2 = .ok (.putfield 167, 3) := by decide +kernel
theorem dX9_read_5 : decode cX9_read 5 = .ok (.aload_n 0, 1) := by decide +kernel
theorem dX9_read_6 : decode cX9_read 6 = .ok (.iconst 0, 1) := by decide +kernel
theorem dX9_read_7 : decode cX9_read 7 = .ok (.putfield 164, 3) := by decide +kernel
theorem dX9_read_10 : decode cX9_read 10 = .ok (.aload_n 0, 1) := by decide +kernel
theorem dX9_read_11 : decode cX9_read 11 = .ok (.invokevirtual 194, 3) := by decide +kernel
theorem dX9_read_14 : decode cX9_read 14 = .ok (.aload_n 0, 1) := by decide +kernel
theorem dX9_read_15 : decode cX9_read 15 = .ok (.getfield 164, 3) := by decide +kernel
theorem dX9_read_18 : decode cX9_read 18 = .ok (.ifCond .ne 7, 3) := by decide +kernel
theorem dX9_read_21 : decode cX9_read 21 = .ok (.aload_n 0, 1) := by decide +kernel
theorem dX9_read_22 : decode cX9_read 22 = .ok (.invokevirtual 197, 3) := by decide +kernel
theorem dX9_read_25 : decode cX9_read 25 = .ok (.iconst 0, 1) := by decide +kernel
theorem dX9_read_26 : decode cX9_read 26 = .ok (.istore_n 1, 1) := by decide +kernel
theorem dX9_read_27 : decode cX9_read 27 = .ok (.iload_n 1, 1) := by decide +kernel
theorem dX9_read_28 : decode cX9_read 28 = .ok (.aload_n 0, 1) := by decide +kernel
theorem dX9_read_29 : decode cX9_read 29 = .ok (.getfield 180, 3) := by decide +kernel
theorem dX9_read_32 : decode cX9_read 32 = .ok (.if_icmp .ge 21, 3) := by decide +kernel
theorem dX9_read_35 : decode cX9_read 35 = .ok (.aload_n 0, 1) := by decide +kernel
theorem dX9_read_36 : decode cX9_read 36 = .ok (.getfield 164, 3) := by decide +kernel
theorem dX9_read_39 : decode cX9_read 39 = .ok (.ifCond .ne 14, 3) := by decide +kernel
theorem dX9_read_42 : decode cX9_read 42 = .ok (.aload_n 0, 1) := by decide +kernel
theorem dX9_read_43 : decode cX9_read 43 = .ok (.iload_n 1, 1) := by decide +kernel
theorem dX9_read_44 : decode cX9_read 44 = .ok (.invokevirtual 199, 3) := by decide +kernel
theorem dX9_read_47 : decode cX9_read 47 = .ok (.iinc 1 1, 3) := by decide +kernel
theorem dX9_read_50 : decode cX9_read 50 = .ok (.goto (-23), 3) := by decide +kernel
theorem dX9_read_53 : decode cX9_read 53 = .ok (.aload_n 0, 1) := by decide +kernel
theorem dX9_read_54 : decode cX9_read 54 = .ok (.getfield 164, 3) := by decide +kernel
theorem dX9_read_57 : decode cX9_read 57 = .ok (.ifCond .ne 7, 3) := by decide +kernel
theorem dX9_read_60 : decode cX9_read 60 = .ok (.aload_n 0, 1) := by decide +kernel
theorem dX9_read_61 : decode cX9_read 61 = .ok (.invokevirtual 201, 3) := by decide +kernel
theorem dX9_read_64 : decode cX9_read 64 = .ok (.aload_n 0, 1) := by decide +kernel
theorem dX9_read_65 : decode cX9_read 65 = .ok (.aload_n 0, 1) := by decide +kernel
theorem dX9_read_66 : decode cX9_read 66 = .ok (.getfield 164, 3) := by decide +kernel
theorem dX9_read_69 : decode cX9_read 69 = .ok (.ifCond .ne 7, 3) := by decide +kernel
theorem dX9_read_72 : decode cX9_read 72 = .ok (.iconst (-1), 1) := by decide +kernel
theorem dX9_read_73 : decode cX9_read 73 = .ok (.goto 7, 3) := by decide +kernel
theorem dX9_read_76 : decode cX9_read 76 = .ok (.aload_n 0, 1) := by decide +kernel
theorem dX9_read_77 : decode cX9_read 77 = .ok (.getfield 167, 3) := by decide +kernel
theorem dX9_read_80 : decode cX9_read 80 = .ok (.putfield 17, 3) := by decide +kernel
theorem dX9_read_83 : decode cX9_read 83 = .ok (.aload_n 0, 1) := by decide +kernel
theorem dX9_read_84 : decode cX9_read 84 = .ok (.getfield 164, 3) := by decide +kernel
theorem dX9_read_87 : decode cX9_read 87 = .ok (.ifCond .le 11, 3) := by decide +kernel
theorem dX9_read_90 : decode cX9_read 90 = .ok (.bipush (-10), 2) := by decide +kernel
theorem dX9_read_92 : decode cX9_read 92 = .ok (.aload_n 0, 1) := by decide +kernel
theorem dX9_read_93 : decode cX9_read 93 = .ok (.getfield 164, 3) := by decide +kernel
theorem dX9_read_96 : decode cX9_read 96 = .ok (.isub, 1) := by decide +kernel
theorem dX9_read_97 : decode cX9_read 97 = .ok (.ireturn, 1) := by decide +kernel
theorem dX9_read_98 : decode cX9_read 98 = .ok (.aload_n 0, 1) := by decide +kernel
theorem dX9_read_99 : decode cX9_read 99 = .ok (.aload_n 0, 1) := by decide +kernel
theorem dX9_read_100 : decode cX9_read 100 = .ok (.getfield 188, 3) := by decide +kernel
theorem dX9_read_103 : decode cX9_read 103 = .ok (.putfield 70, 3) := by decide +kernel
theorem dX9_read_106 : decode cX9_read 106 = .ok (.iconst 0, 1) := by decide +kernel
theorem dX9_read_107 : decode cX9_read 107 = .ok (.istore_n 1, 1) := by decide +kernel
theorem dX9_read_108 : decode cX9_read 108 = .ok (.iload_n 1, 1) := by decide +kernel
theorem dX9_read_109 : decode cX9_read 109 = .ok (.aload_n 0, 1) := by decide +kernel
theorem dX9_read_110 : decode cX9_read 110 = .ok (.getfield 188, 3) := by decide +kernel
theorem dX9_read_113 : decode cX9_read 113 = .ok (.if_icmp .ge 21, 3) := by decide +kernel
theorem dX9_read_116 : decode cX9_read 116 = .ok (.aload_n 0, 1) := by decide +kernel
theorem dX9_read_117 : decode cX9_read 117 = .ok (.getfield 7, 3) := by decide +kernel
theorem dX9_read_120 : decode cX9_read 120 = .ok (.iload_n 1, 1) := by decide +kernel
theorem dX9_read_121 : decode cX9_read 121 = .ok (.aload_n 0, 1) := by decide +kernel
theorem dX9_read_122 : decode cX9_read 122 = .ok (.getfield 63, 3) := by decide +kernel
theorem dX9_read_125 : decode cX9_read 125 = .ok (.iload_n 1, 1) := by decide +kernel
theorem dX9_read_126 : decode cX9_read 126 = .ok (.iaload, 1) := by decide +kernel
theorem dX9_read_127 : decode cX9_read 127 = .ok (.iastore, 1) := by decide +kernel
theorem dX9_read_128 : decode cX9_read 128 = .ok (.iinc 1 1, 3) := by decide +kernel
theorem dX9_read_131 : decode cX9_read 131 = .ok (.goto (-23), 3) := by decide +kernel
theorem dX9_read_134 : decode cX9_read 134 = .ok (.aload_n 0, 1) := by decide +kernel
theorem dX9_read_135 : decode cX9_read 135 = .ok (.iconst 0, 1) := by decide +kernel
theorem dX9_read_136 : decode cX9_read 136 = .ok (.putfield 73, 3) := by decide +kernel
theorem dX9_read_139 : decode cX9_read 139 = .ok (.aload_n 0, 1) := by decide +kernel
theorem dX9_read_140 : decode cX9_read 140 = .ok (.getfield 70, 3) := by decide +kernel
theorem dX9_read_143 : decode cX9_read 143 = .ok (.ireturn, 1) := by decide +kernel
theorem dX9_fault_0 : decode cX9_fault 0 = .ok (.aload_n 0, 1) := by decide +kernel
theorem dX9_fault_1 : decode cX9_fault 1 = .ok (.getfield 17, 3) := by decide +kernel
theorem dX9_fault_4 : decode cX9_fault 4 = .ok (.ireturn, 1) := by decide +kernel
