theorem dX9_run_0 : decode cX9_run 0 = .ok (.iload_n 2, 1) := by decide +kernel
theorem dX9_run_1 : decode cX9_run 1 = .ok (.invokestatic 40, 3) := by decide +kernel
theorem dX9_run_4 : decode cX9_run 4 = .ok (.istore 5, 2) := by decide +kernel
theorem dX9_run_6 : decode cX9_run 6 = .ok (.iload_n 1, 1) := by decide +kernel
theorem dX9_run_7 : decode cX9_run 7 = .ok (.lookupswitch 283 #[(10, 113), (11, 120), (12, 135), (13, 153), (20, 159), (21, 172), (30, 196), (40, 209), (50, 222), (51, 235), (60, 251), (70, 264), (71, 267)], 113) := by decide +kernel
theorem dX9_run_120 : decode cX9_run 120 = .ok (.iload_n 3, 1) := by decide +kernel
theorem dX9_run_121 : decode cX9_run 121 = .ok (.aload_n 0, 1) := by decide +kernel
theorem dX9_run_122 : decode cX9_run 122 = .ok (.getfield 24, 3) := by decide +kernel
theorem dX9_run_125 : decode cX9_run 125 = .ok (.iadd, 1) := by decide +kernel
theorem dX9_run_126 : decode cX9_run 126 = .ok (.ireturn, 1) := by decide +kernel
theorem dX9_run_127 : decode cX9_run 127 = .ok (.aload_n 0, 1) := by decide +kernel
theorem dX9_run_128 : decode cX9_run 128 = .ok (.aload_n 0, 1) := by decide +kernel
theorem dX9_run_129 : decode cX9_run 129 = .ok (.getfield 21, 3) := by decide +kernel
theorem dX9_run_132 : decode cX9_run 132 = .ok (.iconst 0, 1) := by decide +kernel
theorem dX9_run_133 : decode cX9_run 133 = .ok (.iload_n 3, 1) := by decide +kernel
theorem dX9_run_134 : decode cX9_run 134 = .ok (.iload 4, 2) := by decide +kernel
theorem dX9_run_136 : decode cX9_run 136 = .ok (.invokevirtual 30, 3) := by decide +kernel
theorem dX9_run_139 : decode cX9_run 139 = .ok (.iconst 2, 1) := by decide +kernel
theorem dX9_run_140 : decode cX9_run 140 = .ok (.imul, 1) := by decide +kernel
theorem dX9_run_141 : decode cX9_run 141 = .ok (.ireturn, 1) := by decide +kernel
theorem dX9_run_142 : decode cX9_run 142 = .ok (.aload_n 0, 1) := by decide +kernel
theorem dX9_run_143 : decode cX9_run 143 = .ok (.aload_n 0, 1) := by decide +kernel
theorem dX9_run_144 : decode cX9_run 144 = .ok (.getfield 21, 3) := by decide +kernel
theorem dX9_run_147 : decode cX9_run 147 = .ok (.iconst 1, 1) := by decide +kernel
theorem dX9_run_148 : decode cX9_run 148 = .ok (.iload_n 3, 1) := by decide +kernel
theorem dX9_run_149 : decode cX9_run 149 = .ok (.iload 4, 2) := by decide +kernel
theorem dX9_run_151 : decode cX9_run 151 = .ok (.invokevirtual 30, 3) := by decide +kernel
theorem dX9_run_154 : decode cX9_run 154 = .ok (.aload_n 0, 1) := by decide +kernel
theorem dX9_run_155 : decode cX9_run 155 = .ok (.getfield 27, 3) := by decide +kernel
theorem dX9_run_158 : decode cX9_run 158 = .ok (.isub, 1) := by decide +kernel
theorem dX9_run_159 : decode cX9_run 159 = .ok (.ireturn, 1) := by decide +kernel
theorem dX9_run_160 : decode cX9_run 160 = .ok (.aload_n 0, 1) := by decide +kernel
theorem dX9_run_161 : decode cX9_run 161 = .ok (.iload_n 3, 1) := by decide +kernel
theorem dX9_run_162 : decode cX9_run 162 = .ok (.invokevirtual 54, 3) := by decide +kernel
theorem dX9_run_165 : decode cX9_run 165 = .ok (.ireturn, 1) := by decide +kernel
theorem dX9_run_166 : decode cX9_run 166 = .ok (.aload_n 0, 1) := by decide +kernel
theorem dX9_run_167 : decode cX9_run 167 = .ok (.iload 5, 2) := by decide +kernel
theorem dX9_run_169 : decode cX9_run 169 = .ok (.iconst 0, 1) := by decide +kernel
theorem dX9_run_170 : decode cX9_run 170 = .ok (.iload_n 3, 1) := by decide +kernel
theorem dX9_run_171 : decode cX9_run 171 = .ok (.iload 4, 2) := by decide +kernel
theorem dX9_run_173 : decode cX9_run 173 = .ok (.invokevirtual 30, 3) := by decide +kernel
theorem dX9_run_176 : decode cX9_run 176 = .ok (.iconst 4, 1) := by decide +kernel
theorem dX9_run_177 : decode cX9_run 177 = .ok (.isub, 1) := by decide +kernel
theorem dX9_run_178 : decode cX9_run 178 = .ok (.ireturn, 1) := by decide +kernel
theorem dX9_run_179 : decode cX9_run 179 = .ok (.aload_n 0, 1) := by decide +kernel
theorem dX9_run_180 : decode cX9_run 180 = .ok (.iload 5, 2) := by decide +kernel
theorem dX9_run_182 : decode cX9_run 182 = .ok (.iconst 3, 1) := by decide +kernel
theorem dX9_run_183 : decode cX9_run 183 = .ok (.iload_n 3, 1) := by decide +kernel
theorem dX9_run_184 : decode cX9_run 184 = .ok (.iload 4, 2) := by decide +kernel
theorem dX9_run_186 : decode cX9_run 186 = .ok (.invokevirtual 30, 3) := by decide +kernel
theorem dX9_run_189 : decode cX9_run 189 = .ok (.aload_n 0, 1) := by decide +kernel
theorem dX9_run_190 : decode cX9_run 190 = .ok (.aload_n 0, 1) := by decide +kernel
theorem dX9_run_191 : decode cX9_run 191 = .ok (.getfield 21, 3) := by decide +kernel
theorem dX9_run_194 : decode cX9_run 194 = .ok (.iconst 1, 1) := by decide +kernel
theorem dX9_run_195 : decode cX9_run 195 = .ok (.iconst 1, 1) := by decide +kernel
theorem dX9_run_196 : decode cX9_run 196 = .ok (.iload 4, 2) := by decide +kernel
theorem dX9_run_198 : decode cX9_run 198 = .ok (.invokevirtual 30, 3) := by decide +kernel
theorem dX9_run_201 : decode cX9_run 201 = .ok (.iadd, 1) := by decide +kernel
theorem dX9_run_202 : decode cX9_run 202 = .ok (.ireturn, 1) := by decide +kernel
theorem dX9_run_203 : decode cX9_run 203 = .ok (.iconst 0, 1) := by decide +kernel
theorem dX9_run_204 : decode cX9_run 204 = .ok (.aload_n 0, 1) := by decide +kernel
theorem dX9_run_205 : decode cX9_run 205 = .ok (.iload 5, 2) := by decide +kernel
theorem dX9_run_207 : decode cX9_run 207 = .ok (.iconst 1, 1) := by decide +kernel
theorem dX9_run_208 : decode cX9_run 208 = .ok (.iload_n 3, 1) := by decide +kernel
theorem dX9_run_209 : decode cX9_run 209 = .ok (.iload 4, 2) := by decide +kernel
theorem dX9_run_211 : decode cX9_run 211 = .ok (.invokevirtual 30, 3) := by decide +kernel
theorem dX9_run_214 : decode cX9_run 214 = .ok (.isub, 1) := by decide +kernel
theorem dX9_run_215 : decode cX9_run 215 = .ok (.ireturn, 1) := by decide +kernel
theorem dX9_run_216 : decode cX9_run 216 = .ok (.aload_n 0, 1) := by decide +kernel
theorem dX9_run_217 : decode cX9_run 217 = .ok (.iload 5, 2) := by decide +kernel
theorem dX9_run_219 : decode cX9_run 219 = .ok (.iconst 2, 1) := by decide +kernel
theorem dX9_run_220 : decode cX9_run 220 = .ok (.iload_n 3, 1) := by decide +kernel
theorem dX9_run_221 : decode cX9_run 221 = .ok (.iconst 2, 1) := by decide +kernel
theorem dX9_run_222 : decode cX9_run 222 = .ok (.idiv, 1) := by decide +kernel
theorem dX9_run_223 : decode cX9_run 223 = .ok (.iload 4, 2) := by decide +kernel
theorem dX9_run_225 : decode cX9_run 225 = .ok (.invokevirtual 30, 3) := by decide +kernel
theorem dX9_run_228 : decode cX9_run 228 = .ok (.ireturn, 1) := by decide +kernel
theorem dX9_run_229 : decode cX9_run 229 = .ok (.aload_n 0, 1) := by decide +kernel
theorem dX9_run_230 : decode cX9_run 230 = .ok (.iload 5, 2) := by decide +kernel
theorem dX9_run_232 : decode cX9_run 232 = .ok (.iconst 0, 1) := by decide +kernel
theorem dX9_run_233 : decode cX9_run 233 = .ok (.iload_n 3, 1) := by decide +kernel
theorem dX9_run_234 : decode cX9_run 234 = .ok (.iload 4, 2) := by decide +kernel
theorem dX9_run_236 : decode cX9_run 236 = .ok (.invokevirtual 30, 3) := by decide +kernel
theorem dX9_run_239 : decode cX9_run 239 = .ok (.iconst 3, 1) := by decide +kernel
theorem dX9_run_240 : decode cX9_run 240 = .ok (.imul, 1) := by decide +kernel
theorem dX9_run_241 : decode cX9_run 241 = .ok (.ireturn, 1) := by decide +kernel
theorem dX9_run_242 : decode cX9_run 242 = .ok (.aload_n 0, 1) := by decide +kernel
theorem dX9_run_243 : decode cX9_run 243 = .ok (.iload 5, 2) := by decide +kernel
theorem dX9_run_245 : decode cX9_run 245 = .ok (.iconst 2, 1) := by decide +kernel
theorem dX9_run_246 : decode cX9_run 246 = .ok (.iload_n 3, 1) := by decide +kernel
theorem dX9_run_247 : decode cX9_run 247 = .ok (.iload 4, 2) := by decide +kernel
theorem dX9_run_249 : decode cX9_run 249 = .ok (.invokevirtual 30, 3) := by decide +kernel
theorem dX9_run_252 : decode cX9_run 252 = .ok (.aload_n 0, 1) := by decide +kernel
theorem dX9_run_253 : decode cX9_run 253 = .ok (.getfield 24, 3) := by decide +kernel
theorem dX9_run_256 : decode cX9_run 256 = .ok (.ixor, 1) := by decide +kernel
theorem dX9_run_257 : decode cX9_run 257 = .ok (.ireturn, 1) := by decide +kernel
theorem dX9_run_258 : decode cX9_run 258 = .ok (.aload_n 0, 1) := by decide +kernel
theorem dX9_run_259 : decode cX9_run 259 = .ok (.iload 5, 2) := by decide +kernel
theorem dX9_run_261 : decode cX9_run 261 = .ok (.iconst 1, 1) := by decide +kernel
theorem dX9_run_262 : decode cX9_run 262 = .ok (.iload_n 3, 1) := by decide +kernel
theorem dX9_run_263 : decode cX9_run 263 = .ok (.iconst 1, 1) := by decide +kernel
theorem dX9_run_264 : decode cX9_run 264 = .ok (.iadd, 1) := by decide +kernel
theorem dX9_run_265 : decode cX9_run 265 = .ok (.iload 4, 2) := by decide +kernel
theorem dX9_run_267 : decode cX9_run 267 = .ok (.invokevirtual 30, 3) := by decide +kernel
theorem dX9_run_270 : decode cX9_run 270 = .ok (.ireturn, 1) := by decide +kernel
theorem dX9_run_271 : decode cX9_run 271 = .ok (.bipush 9, 2) := by decide +kernel
theorem dX9_run_273 : decode cX9_run 273 = .ok (.ireturn, 1) := by decide +kernel
theorem dX9_run_274 : decode cX9_run 274 = .ok (.aload_n 0, 1) := by decide +kernel
theorem dX9_run_275 : decode cX9_run 275 = .ok (.iload 5, 2) := by decide +kernel
theorem dX9_run_277 : decode cX9_run 277 = .ok (.iconst 1, 1) := by decide +kernel
theorem dX9_run_278 : decode cX9_run 278 = .ok (.iload_n 3, 1) := by decide +kernel
theorem dX9_run_279 : decode cX9_run 279 = .ok (.iload 4, 2) := by decide +kernel
theorem dX9_run_281 : decode cX9_run 281 = .ok (.invokevirtual 30, 3) := by decide +kernel
theorem dX9_run_284 : decode cX9_run 284 = .ok (.aload_n 0, 1) := by decide +kernel
theorem dX9_run_285 : decode cX9_run 285 = .ok (.getfield 27, 3) := by decide +kernel
theorem dX9_run_288 : decode cX9_run 288 = .ok (.iadd, 1) := by decide +kernel
theorem dX9_run_289 : decode cX9_run 289 = .ok (.ireturn, 1) := by decide +kernel
theorem dX9_run_290 : decode cX9_run 290 = .ok (.iconst 0, 1) := by decide +kernel
theorem dX9_run_291 : decode cX9_run 291 = .ok (.ireturn, 1) := by decide +kernel
theorem dX9_partsOf_0 : decode cX9_partsOf 0 = .ok (.aload_n 0, 1) := by decide +kernel
theorem dX9_partsOf_1 : decode cX9_partsOf 1 = .ok (.getfield 27, 3) := by decide +kernel
theorem dX9_partsOf_4 : decode cX9_partsOf 4 = .ok (.aload_n 0, 1) := by decide +kernel
theorem dX9_partsOf_5 : decode cX9_partsOf 5 = .ok (.getfield 24, 3) := by decide +kernel
theorem dX9_partsOf_8 : decode cX9_partsOf 8 = .ok (.isub, 1) := by decide +kernel
theorem dX9_partsOf_9 : decode cX9_partsOf 9 = .ok (.istore_n 2, 1) := by decide +kernel
theorem dX9_partsOf_10 : decode cX9_partsOf 10 = .ok (.iload_n 2, 1) := by decide +kernel
theorem dX9_partsOf_11 : decode cX9_partsOf 11 = .ok (.ifCond .ne 10, 3) := by decide +kernel
theorem dX9_partsOf_14 : decode cX9_partsOf 14 = .ok (.aload_n 0, 1) := by decide +kernel
theorem dX9_partsOf_15 : decode cX9_partsOf 15 = .ok (.iconst 1, 1) := by decide +kernel
theorem dX9_partsOf_16 : decode cX9_partsOf 16 = .ok (.putfield 7, 3) := by decide +kernel
theorem dX9_partsOf_19 : decode cX9_partsOf 19 = .ok (.iconst 0, 1) := by decide +kernel
theorem dX9_partsOf_20 : decode cX9_partsOf 20 = .ok (.ireturn, 1) := by decide +kernel
theorem dX9_partsOf_21 : decode cX9_partsOf 21 = .ok (.iload_n 1, 1) := by decide +kernel
theorem dX9_partsOf_22 : decode cX9_partsOf 22 = .ok (.iload_n 2, 1) := by decide +kernel
theorem dX9_partsOf_23 : decode cX9_partsOf 23 = .ok (.idiv, 1) := by decide +kernel
theorem dX9_partsOf_24 : decode cX9_partsOf 24 = .ok (.ireturn, 1) := by decide +kernel
set_option maxRecDepth 20000 in
theorem ggX10_init_X1_init : GoodIn wsX10_init wsX1_init := goodIn_r _ [33, 34, 2, 3, 35, 36, 37, 38, 39, 40, 41, 42, 43, 44, 45, 46, 47, 48, 49, 50, 29, 51, 52, 53, 54, 55, 56, 57, 58, 59, 60, 61, 62, 63, 64, 65, 66, 67, 149, 150, 151, 152, 153, 154, 155, 107, 108, 109, 110, 111, 112, 113, 114, 115, 116, 156, 157, 158] (by decide +kernel) (by decide +kernel)
set_option maxRecDepth 20000 in
theorem gX10_init_X1_init_n9 : GoodIn wsX10_init (wsX1_init) := ggX10_init_X1_init
set_option maxRecDepth 20000 in
theorem ggX10_init_X6_init : GoodIn wsX10_init wsX6_init := goodIn_r _ [69, 70, 2, 3, 29, 71, 72, 73, 39, 74, 75, 76, 77, 126, 127, 128, 129, 130, 131, 132] (by decide +kernel) (by decide +kernel)
set_option maxRecDepth 20000 in
theorem gX10_init_X6_init_n21 : GoodIn wsX10_init (wsX6_init) := ggX10_init_X6_init
set_option maxRecDepth 20000 in
theorem ggX10_init_X8_init : GoodIn wsX10_init wsX8_init := goodIn_r _ [79, 80, 2, 3, 81, 36, 37, 82, 29, 83, 84, 85, 86, 52, 53, 54, 55, 56, 57, 58, 59, 60, 61, 149, 150, 151, 152, 153, 154, 155, 133, 134, 135, 136, 137] (by decide +kernel) (by decide +kernel)
set_option maxRecDepth 20000 in
theorem gX10_init_X8_init_n28 : GoodIn wsX10_init (wsX8_init) := ggX10_init_X8_init
set_option maxRecDepth 20000 in
theorem ggX10_init_X3_init : GoodIn wsX10_init wsX3_init := goodIn_r _ [88, 89, 2, 3, 29, 90, 91, 138, 139] (by decide +kernel) (by decide +kernel)
set_option maxRecDepth 20000 in
theorem gX10_init_X3_init_n35 : GoodIn wsX10_init (wsX3_init) := ggX10_init_X3_init
set_option maxRecDepth 20000 in
theorem ggX10_init_X9_init : GoodIn wsX10_init wsX9_init := goodIn_r _ [93, 94, 2, 3, 95, 96, 29, 97, 98, 99, 100, 140, 141, 142, 143, 144, 145] (by decide +kernel) (by decide +kernel)
set_option maxRecDepth 20000 in
theorem gX10_init_X9_init_n42 : GoodIn wsX10_init (wsX9_init) := ggX10_init_X9_init
set_option maxRecDepth 20000 in
theorem ggX10_init_X5_init : GoodIn wsX10_init wsX5_init := goodIn_r _ [102, 103, 2, 3, 29, 104, 105, 106, 146, 147, 148] (by decide +kernel) (by decide +kernel)
set_option maxRecDepth 20000 in
theorem gX10_init_X5_init_n49 : GoodIn wsX10_init (wsX5_init) := ggX10_init_X5_init
theorem dX10_init_0 : decode cX10_init 0 = .ok (.aload_n 0, 1) := by decide +kernel
theorem dX10_init_1 : decode cX10_init 1 = .ok (.invokespecial 1, 3) := by decide +kernel
theorem dX10_init_4 : decode cX10_init 4 = .ok (.aload_n 0, 1) := by decide +kernel
theorem dX10_init_5 : decode cX10_init 5 = .ok (.new 7, 3) := by decide +kernel
theorem dX10_init_8 : decode cX10_init 8 = .ok (.dup, 1) := by decide +kernel
theorem dX10_init_9 : decode cX10_init 9 = .ok (.invokespecial 9, 3) := by decide +kernel
theorem dX10_init_12 : decode cX10_init 12 = .ok (.putfield 10, 3) := by decide +kernel
theorem dX10_init_15 : decode cX10_init 15 = .ok (.aload_n 0, 1) := by decide +kernel
theorem dX10_init_16 : decode cX10_init 16 = .ok (.new 7, 3) := by decide +kernel
theorem dX10_init_19 : decode cX10_init 19 = .ok (.dup, 1) := by decide +kernel
theorem dX10_init_20 : decode cX10_init 20 = .ok (.invokespecial 9, 3) := by decide +kernel
theorem dX10_init_23 : decode cX10_init 23 = .ok (.putfield 16, 3) := by decide +kernel
theorem dX10_init_26 : decode cX10_init 26 = .ok (.aload_n 0, 1) := by decide +kernel
theorem dX10_init_27 : decode cX10_init 27 = .ok (.new 19, 3) := by decide +kernel
theorem dX10_init_30 : decode cX10_init 30 = .ok (.dup, 1) := by decide +kernel
theorem dX10_init_31 : decode cX10_init 31 = .ok (.invokespecial 21, 3) := by decide +kernel
theorem dX10_init_34 : decode cX10_init 34 = .ok (.putfield 22, 3) := by decide +kernel
theorem dX10_init_37 : decode cX10_init 37 = .ok (.aload_n 0, 1) := by decide +kernel
theorem dX10_init_38 : decode cX10_init 38 = .ok (.new 26, 3) := by decide +kernel
theorem dX10_init_41 : decode cX10_init 41 = .ok (.dup, 1) := by decide +kernel
theorem dX10_init_42 : decode cX10_init 42 = .ok (.invokespecial 28, 3) := by decide +kernel
theorem dX10_init_45 : decode cX10_init 45 = .ok (.putfield 29, 3) := by decide +kernel
theorem dX10_init_48 : decode cX10_init 48 = .ok (.aload_n 0, 1) := by decide +kernel
theorem dX10_init_49 : decode cX10_init 49 = .ok (.new 33, 3) := by decide +kernel
theorem dX10_init_52 : decode cX10_init 52 = .ok (.dup, 1) := by decide +kernel
theorem dX10_init_53 : decode cX10_init 53 = .ok (.invokespecial 35, 3) := by decide +kernel
theorem dX10_init_56 : decode cX10_init 56 = .ok (.putfield 36, 3) := by decide +kernel
theorem dX10_init_59 : decode cX10_init 59 = .ok (.aload_n 0, 1) := by decide +kernel
theorem dX10_init_60 : decode cX10_init 60 = .ok (.new 40, 3) := by decide +kernel
theorem dX10_init_63 : decode cX10_init 63 = .ok (.dup, 1) := by decide +kernel
theorem dX10_init_64 : decode cX10_init 64 = .ok (.invokespecial 42, 3) := by decide +kernel
theorem dX10_init_67 : decode cX10_init 67 = .ok (.putfield 43, 3) := by decide +kernel
theorem dX10_init_70 : decode cX10_init 70 = .ok (.aload_n 0, 1) := by decide +kernel
theorem dX10_init_71 : decode cX10_init 71 = .ok (.new 47, 3) := by decide +kernel
theorem dX10_init_74 : decode cX10_init 74 = .ok (.dup, 1) := by decide +kernel
theorem dX10_init_75 : decode cX10_init 75 = .ok (.invokespecial 49, 3) := by decide +kernel
theorem dX10_init_78 : decode cX10_init 78 = .ok (.putfield 50, 3) := by decide +kernel
theorem dX10_init_81 : decode cX10_init 81 = .ok (.aload_n 0, 1) := by decide +kernel
theorem dX10_init_82 : decode cX10_init 82 = .ok (.bipush 7, 2) := by decide +kernel
theorem dX10_init_84 : decode cX10_init 84 = .ok (.newarray .int, 2) := by decide +kernel
theorem dX10_init_86 : decode cX10_init 86 = .ok (.putfield 54, 3) := by decide +kernel
theorem dX10_init_89 : decode cX10_init 89 = .ok (.aload_n 0, 1) := by decide +kernel
theorem dX10_init_90 : decode cX10_init 90 = .ok (.iconst 0, 1) := by decide +kernel
theorem dX10_init_91 : decode cX10_init 91 = .ok (.putfield 58, 3) := by decide +kernel
theorem dX10_init_94 : decode cX10_init 94 = .ok (.return_, 1) := by decide +kernel
set_option maxRecDepth 20000 in
theorem ggX10_wall_X0_isCell : GoodIn wsX10_wall wsX0_isCell := goodIn_r _ [6] (by decide +kernel) (by decide +kernel)
set_option maxRecDepth 20000 in
theorem gX10_wall_X0_isCell : GoodIn wsX10_wall (va_wsS RX10 62 yX0_isCell wsX0_isCell) := goodIn_app (goodIn_of _ (by decide +kernel)) ggX10_wall_X0_isCell
set_option maxRecDepth 20000 in
theorem ggX10_wall_X10_error : GoodIn wsX10_wall wsX10_error := goodIn_r _ [11, 12, 13, 35, 36, 37, 38, 39, 40, 41, 42, 43] (by decide +kernel) (by decide +kernel)
set_option maxRecDepth 20000 in
theorem gX10_wall_X10_error : GoodIn wsX10_wall (wsV RX10 68 RX10 yX10_error wsX10_error) := goodIn_app (goodIn_of _ (by decide +kernel)) ggX10_wall_X10_error
set_option maxRecDepth 20000 in
theorem ggX10_wall_X7_inCell : GoodIn wsX10_wall wsX7_inCell := goodIn_r _ [18, 19, 20, 54, 55, 56, 57, 58, 59, 60] (by decide +kernel) (by decide +kernel)
set_option maxRecDepth 20000 in
theorem gX10_wall_X7_inCell : GoodIn wsX10_wall (wsV RX10 76 RX7 yX7_inCell wsX7_inCell) := goodIn_app (goodIn_of _ (by decide +kernel)) ggX10_wall_X7_inCell
set_option maxRecDepth 20000 in
theorem ggX10_wall_X1_wallAt : GoodIn wsX10_wall wsX1_wallAt := goodIn_r _ [25, 26, 27, 28, 5, 29, 44, 45, 46, 47, 48, 49, 50, 51, 52, 53] (by decide +kernel) (by decide +kernel)
set_option maxRecDepth 20000 in
theorem gX10_wall_X1_wallAt : GoodIn wsX10_wall (wsV RX10 81 RX1 yX1_wallAt wsX1_wallAt) := goodIn_app (goodIn_of _ (by decide +kernel)) ggX10_wall_X1_wallAt
set_option maxRecDepth 20000 in
theorem ggX10_wall_X1_setWall : GoodIn wsX10_wall wsX1_setWall := goodIn_r _ [33, 26, 34, 44, 45, 46, 47, 48, 49, 50, 51, 52, 53] (by decide +kernel) (by decide +kernel)
set_option maxRecDepth 20000 in
theorem gX10_wall_X1_setWall : GoodIn wsX10_wall (wsV RX10 84 RX1 yX1_setWall wsX1_setWall) := goodIn_app (goodIn_of _ (by decide +kernel)) ggX10_wall_X1_setWall
theorem dX10_wall_0 : decode cX10_wall 0 = .ok (.iload_n 1, 1) := by decide +kernel
theorem dX10_wall_1 : decode cX10_wall 1 = .ok (.invokestatic 62, 3) := by decide +kernel
theorem dX10_wall_4 : decode cX10_wall 4 = .ok (.ifCond .eq 12, 3) := by decide +kernel
theorem dX10_wall_7 : decode cX10_wall 7 = .ok (.iload_n 2, 1) := by decide +kernel
theorem dX10_wall_8 : decode cX10_wall 8 = .ok (.ifCond .lt 8, 3) := by decide +kernel
theorem dX10_wall_11 : decode cX10_wall 11 = .ok (.iload_n 2, 1) := by decide +kernel
theorem dX10_wall_12 : decode cX10_wall 12 = .ok (.iconst 1, 1) := by decide +kernel
theorem dX10_wall_13 : decode cX10_wall 13 = .ok (.if_icmp .le 9, 3) := by decide +kernel
theorem dX10_wall_16 : decode cX10_wall 16 = .ok (.aload_n 0, 1) := by decide +kernel
theorem dX10_wall_17 : decode cX10_wall 17 = .ok (.iconst 1, 1) := by decide +kernel
theorem dX10_wall_18 : decode cX10_wall 18 = .ok (.invokevirtual 68, 3) := by decide +kernel
theorem dX10_wall_21 : decode cX10_wall 21 = .ok (.ireturn, 1) := by decide +kernel
theorem dX10_wall_22 : decode cX10_wall 22 = .ok (.iload_n 2, 1) := by decide +kernel
theorem dX10_wall_23 : decode cX10_wall 23 = .ok (.iconst 1, 1) := by decide +kernel
theorem dX10_wall_24 : decode cX10_wall 24 = .ok (.if_icmp .ne 23, 3) := by decide +kernel
theorem dX10_wall_27 : decode cX10_wall 27 = .ok (.aload_n 0, 1) := by decide +kernel
theorem dX10_wall_28 : decode cX10_wall 28 = .ok (.getfield 10, 3) := by decide +kernel
theorem dX10_wall_31 : decode cX10_wall 31 = .ok (.getfield 72, 3) := by decide +kernel
theorem dX10_wall_34 : decode cX10_wall 34 = .ok (.iload_n 1, 1) := by decide +kernel
theorem dX10_wall_35 : decode cX10_wall 35 = .ok (.invokevirtual 76, 3) := by decide +kernel
theorem dX10_wall_38 : decode cX10_wall 38 = .ok (.ifCond .lt 9, 3) := by decide +kernel
theorem dX10_wall_41 : decode cX10_wall 41 = .ok (.aload_n 0, 1) := by decide +kernel
theorem dX10_wall_42 : decode cX10_wall 42 = .ok (.iconst 3, 1) := by decide +kernel
theorem dX10_wall_43 : decode cX10_wall 43 = .ok (.invokevirtual 68, 3) := by decide +kernel
theorem dX10_wall_46 : decode cX10_wall 46 = .ok (.ireturn, 1) := by decide +kernel
theorem dX10_wall_47 : decode cX10_wall 47 = .ok (.aload_n 0, 1) := by decide +kernel
theorem dX10_wall_48 : decode cX10_wall 48 = .ok (.getfield 10, 3) := by decide +kernel
theorem dX10_wall_51 : decode cX10_wall 51 = .ok (.iload_n 1, 1) := by decide +kernel
theorem dX10_wall_52 : decode cX10_wall 52 = .ok (.invokevirtual 81, 3) := by decide +kernel
theorem dX10_wall_55 : decode cX10_wall 55 = .ok (.istore_n 3, 1) := by decide +kernel
theorem dX10_wall_56 : decode cX10_wall 56 = .ok (.aload_n 0, 1) := by decide +kernel
theorem dX10_wall_57 : decode cX10_wall 57 = .ok (.getfield 10, 3) := by decide +kernel
theorem dX10_wall_60 : decode cX10_wall 60 = .ok (.iload_n 1, 1) := by decide +kernel
theorem dX10_wall_61 : decode cX10_wall 61 = .ok (.iload_n 2, 1) := by decide +kernel
theorem dX10_wall_62 : decode cX10_wall 62 = .ok (.invokevirtual 84, 3) := by decide +kernel
theorem dX10_wall_65 : decode cX10_wall 65 = .ok (.iload_n 3, 1) := by decide +kernel
theorem dX10_wall_66 : decode cX10_wall 66 = .ok (.ireturn, 1) := by decide +kernel
set_option maxRecDepth 20000 in
theorem ggX10_cellIs_X0_isCell : GoodIn wsX10_cellIs wsX0_isCell := goodIn_r _ [6] (by decide +kernel) (by decide +kernel)
set_option maxRecDepth 20000 in
theorem gX10_cellIs_X0_isCell : GoodIn wsX10_cellIs (va_wsS RX10 62 yX0_isCell wsX0_isCell) := goodIn_app (goodIn_of _ (by decide +kernel)) ggX10_cellIs_X0_isCell
set_option maxRecDepth 20000 in
theorem ggX10_cellIs_X10_error : GoodIn wsX10_cellIs wsX10_error := goodIn_r _ [11, 12, 13, 30, 31, 32, 33, 34, 35, 36, 37, 38] (by decide +kernel) (by decide +kernel)
set_option maxRecDepth 20000 in
theorem gX10_cellIs_X10_error : GoodIn wsX10_cellIs (wsV RX10 68 RX10 yX10_error wsX10_error) := goodIn_app (goodIn_of _ (by decide +kernel)) ggX10_cellIs_X10_error
set_option maxRecDepth 20000 in
theorem ggX10_cellIs_X1_wallAt : GoodIn wsX10_cellIs wsX1_wallAt := goodIn_r _ [18, 19, 20, 21, 5, 22, 39, 40, 41, 42, 43, 44, 45, 46, 47, 48] (by decide +kernel) (by decide +kernel)
set_option maxRecDepth 20000 in
theorem gX10_cellIs_X1_wallAt : GoodIn wsX10_cellIs (wsV RX10 81 RX1 yX1_wallAt wsX1_wallAt) := goodIn_app (goodIn_of _ (by decide +kernel)) ggX10_cellIs_X1_wallAt
set_option maxRecDepth 20000 in
theorem ggX10_cellIs_X7_inCell : GoodIn wsX10_cellIs wsX7_inCell := goodIn_r _ [27, 28, 29, 49, 50, 51, 52, 53, 54, 55] (by decide +kernel) (by decide +kernel)
set_option maxRecDepth 20000 in
theorem gX10_cellIs_X7_inCell : GoodIn wsX10_cellIs (wsV RX10 76 RX7 yX7_inCell wsX7_inCell) := goodIn_app (goodIn_of _ (by decide +kernel)) ggX10_cellIs_X7_inCell
theorem dX10_cellIs_0 : decode cX10_cellIs 0 = .ok (.iload_n 1, 1) := by decide +kernel
theorem dX10_cellIs_1 : decode cX10_cellIs 1 = .ok (.invokestatic 62, 3) := by decide +kernel
theorem dX10_cellIs_4 : decode cX10_cellIs 4 = .ok (.ifCond .eq 12, 3) := by decide +kernel
theorem dX10_cellIs_7 : decode cX10_cellIs 7 = .ok (.iload_n 2, 1) := by decide +kernel
theorem dX10_cellIs_8 : decode cX10_cellIs 8 = .ok (.ifCond .lt 8, 3) := by decide +kernel
theorem dX10_cellIs_11 : decode cX10_cellIs 11 = .ok (.iload_n 2, 1) := by decide +kernel
theorem dX10_cellIs_12 : decode cX10_cellIs 12 = .ok (.iconst 1, 1) := by decide +kernel
theorem dX10_cellIs_13 : decode cX10_cellIs 13 = .ok (.if_icmp .le 9, 3) := by decide +kernel
theorem dX10_cellIs_16 : decode cX10_cellIs 16 = .ok (.aload_n 0, 1) := by decide +kernel
theorem dX10_cellIs_17 : decode cX10_cellIs 17 = .ok (.iconst 1, 1) := by decide +kernel
theorem dX10_cellIs_18 : decode cX10_cellIs 18 = .ok (.invokevirtual 68, 3) := by decide +kernel
theorem dX10_cellIs_21 : decode cX10_cellIs 21 = .ok (.ireturn, 1) := by decide +kernel
theorem dX10_cellIs_22 : decode cX10_cellIs 22 = .ok (.iload_n 2, 1) := by decide +kernel
theorem dX10_cellIs_23 : decode cX10_cellIs 23 = .ok (.ifCond .ne 14, 3) := by decide +kernel
theorem dX10_cellIs_26 : decode cX10_cellIs 26 = .ok (.aload_n 0, 1) := by decide +kernel
theorem dX10_cellIs_27 : decode cX10_cellIs 27 = .ok (.getfield 10, 3) := by decide +kernel
theorem dX10_cellIs_30 : decode cX10_cellIs 30 = .ok (.iload_n 1, 1) := by decide +kernel
theorem dX10_cellIs_31 : decode cX10_cellIs 31 = .ok (.invokevirtual 81, 3) := by decide +kernel
theorem dX10_cellIs_34 : decode cX10_cellIs 34 = .ok (.goto 14, 3) := by decide +kernel
theorem dX10_cellIs_37 : decode cX10_cellIs 37 = .ok (.aload_n 0, 1) := by decide +kernel
theorem dX10_cellIs_38 : decode cX10_cellIs 38 = .ok (.getfield 10, 3) := by decide +kernel
theorem dX10_cellIs_41 : decode cX10_cellIs 41 = .ok (.getfield 72, 3) := by decide +kernel
theorem dX10_cellIs_44 : decode cX10_cellIs 44 = .ok (.iload_n 1, 1) := by decide +kernel
theorem dX10_cellIs_45 : decode cX10_cellIs 45 = .ok (.invokevirtual 76, 3) := by decide +kernel
theorem dX10_cellIs_48 : decode cX10_cellIs 48 = .ok (.ireturn, 1) := by decide +kernel
set_option maxRecDepth 20000 in
theorem ggX10_thing_X2_isKindAndNumber : GoodIn wsX10_thing wsX2_isKindAndNumber := goodIn_r _ [6] (by decide +kernel) (by decide +kernel)
set_option maxRecDepth 20000 in
theorem gX10_thing_X2_isKindAndNumber : GoodIn wsX10_thing (va_wsS RX10 88 yX2_isKindAndNumber wsX2_isKindAndNumber) := goodIn_app (goodIn_of _ (by decide +kernel)) ggX10_thing_X2_isKindAndNumber
set_option maxRecDepth 20000 in
theorem ggX10_thing_X0_isCell : GoodIn wsX10_thing wsX0_isCell := goodIn_r _ [10] (by decide +kernel) (by decide +kernel)
set_option maxRecDepth 20000 in
theorem gX10_thing_X0_isCell : GoodIn wsX10_thing (va_wsS RX10 62 yX0_isCell wsX0_isCell) := goodIn_app (goodIn_of _ (by decide +kernel)) ggX10_thing_X0_isCell
set_option maxRecDepth 20000 in
theorem ggX10_thing_X10_error : GoodIn wsX10_thing wsX10_error := goodIn_r _ [15, 16, 17, 56, 57, 58, 59, 60, 61, 62, 63, 64] (by decide +kernel) (by decide +kernel)
set_option maxRecDepth 20000 in
theorem gX10_thing_X10_error : GoodIn wsX10_thing (wsV RX10 68 RX10 yX10_error wsX10_error) := goodIn_app (goodIn_of _ (by decide +kernel)) ggX10_thing_X10_error
set_option maxRecDepth 20000 in
theorem ggX10_thing_X7_isFull : GoodIn wsX10_thing wsX7_isFull := goodIn_r _ [22, 23, 75, 76, 77, 78, 79, 80, 81] (by decide +kernel) (by decide +kernel)
set_option maxRecDepth 20000 in
theorem gX10_thing_X7_isFull : GoodIn wsX10_thing (wsV RX10 93 RX7 yX7_isFull wsX7_isFull) := goodIn_app (goodIn_of _ (by decide +kernel)) ggX10_thing_X7_isFull
set_option maxRecDepth 20000 in
theorem ggX10_thing_X1_wallAt : GoodIn wsX10_thing wsX1_wallAt := goodIn_r _ [28, 29, 30, 31, 9, 32, 65, 66, 67, 68, 69, 70, 71, 72, 73, 74] (by decide +kernel) (by decide +kernel)
set_option maxRecDepth 20000 in
theorem gX10_thing_X1_wallAt : GoodIn wsX10_thing (wsV RX10 81 RX1 yX1_wallAt wsX1_wallAt) := goodIn_app (goodIn_of _ (by decide +kernel)) ggX10_thing_X1_wallAt
set_option maxRecDepth 20000 in
theorem ggX10_thing_X7_inCell : GoodIn wsX10_thing wsX7_inCell := goodIn_r _ [36, 23, 37, 75, 76, 77, 78, 79, 80, 81] (by decide +kernel) (by decide +kernel)
set_option maxRecDepth 20000 in
theorem gX10_thing_X7_inCell : GoodIn wsX10_thing (wsV RX10 76 RX7 yX7_inCell wsX7_inCell) := goodIn_app (goodIn_of _ (by decide +kernel)) ggX10_thing_X7_inCell
set_option maxRecDepth 20000 in
theorem ggX10_thing_X7_add : GoodIn wsX10_thing wsX7_add := goodIn_r _ [41, 23, 37, 42, 43, 44, 45, 19, 20, 21, 22, 46, 47, 48, 49, 50, 51, 52, 53, 54, 55, 75, 76, 77, 78, 79, 80, 81] (by decide +kernel) (by decide +kernel)
set_option maxRecDepth 20000 in
theorem gX10_thing_X7_add : GoodIn wsX10_thing (wsV RX10 97 RX7 yX7_add wsX7_add) := goodIn_app (goodIn_of _ (by decide +kernel)) ggX10_thing_X7_add
theorem dX10_thing_0 : decode cX10_thing 0 = .ok (.iload_n 1, 1) := by decide +kernel
theorem dX10_thing_1 : decode cX10_thing 1 = .ok (.invokestatic 88, 3) := by decide +kernel
theorem dX10_thing_4 : decode cX10_thing 4 = .ok (.ifCond .eq 10, 3) := by decide +kernel
theorem dX10_thing_7 : decode cX10_thing 7 = .ok (.iload_n 2, 1) := by decide +kernel
theorem dX10_thing_8 : decode cX10_thing 8 = .ok (.invokestatic 62, 3) := by decide +kernel
theorem dX10_thing_11 : decode cX10_thing 11 = .ok (.ifCond .ne 9, 3) := by decide +kernel
theorem dX10_thing_14 : decode cX10_thing 14 = .ok (.aload_n 0, 1) := by decide +kernel
theorem dX10_thing_15 : decode cX10_thing 15 = .ok (.iconst 1, 1) := by decide +kernel
theorem dX10_thing_16 : decode cX10_thing 16 = .ok (.invokevirtual 68, 3) := by decide +kernel
theorem dX10_thing_19 : decode cX10_thing 19 = .ok (.ireturn, 1) := by decide +kernel
theorem dX10_thing_20 : decode cX10_thing 20 = .ok (.aload_n 0, 1) := by decide +kernel
theorem dX10_thing_21 : decode cX10_thing 21 = .ok (.getfield 10, 3) := by decide +kernel
theorem dX10_thing_24 : decode cX10_thing 24 = .ok (.getfield 72, 3) := by decide +kernel
theorem dX10_thing_27 : decode cX10_thing 27 = .ok (.invokevirtual 93, 3) := by decide +kernel
theorem dX10_thing_30 : decode cX10_thing 30 = .ok (.ifCond .eq 9, 3) := by decide +kernel
theorem dX10_thing_33 : decode cX10_thing 33 = .ok (.aload_n 0, 1) := by decide +kernel
theorem dX10_thing_34 : decode cX10_thing 34 = .ok (.iconst 4, 1) := by decide +kernel
theorem dX10_thing_35 : decode cX10_thing 35 = .ok (.invokevirtual 68, 3) := by decide +kernel
theorem dX10_thing_38 : decode cX10_thing 38 = .ok (.ireturn, 1) := by decide +kernel
theorem dX10_thing_39 : decode cX10_thing 39 = .ok (.aload_n 0, 1) := by decide +kernel
theorem dX10_thing_40 : decode cX10_thing 40 = .ok (.getfield 10, 3) := by decide +kernel
theorem dX10_thing_43 : decode cX10_thing 43 = .ok (.iload_n 2, 1) := by decide +kernel
theorem dX10_thing_44 : decode cX10_thing 44 = .ok (.invokevirtual 81, 3) := by decide +kernel
theorem dX10_thing_47 : decode cX10_thing 47 = .ok (.iconst 1, 1) := by decide +kernel
theorem dX10_thing_48 : decode cX10_thing 48 = .ok (.if_icmp .eq 17, 3) := by decide +kernel
theorem dX10_thing_51 : decode cX10_thing 51 = .ok (.aload_n 0, 1) := by decide +kernel
theorem dX10_thing_52 : decode cX10_thing 52 = .ok (.getfield 10, 3) := by decide +kernel
theorem dX10_thing_55 : decode cX10_thing 55 = .ok (.getfield 72, 3) := by decide +kernel
theorem dX10_thing_58 : decode cX10_thing 58 = .ok (.iload_n 2, 1) := by decide +kernel
theorem dX10_thing_59 : decode cX10_thing 59 = .ok (.invokevirtual 76, 3) := by decide +kernel
theorem dX10_thing_62 : decode cX10_thing 62 = .ok (.ifCond .lt 9, 3) := by decide +kernel
theorem dX10_thing_65 : decode cX10_thing 65 = .ok (.aload_n 0, 1) := by decide +kernel
theorem dX10_thing_66 : decode cX10_thing 66 = .ok (.iconst 3, 1) := by decide +kernel
theorem dX10_thing_67 : decode cX10_thing 67 = .ok (.invokevirtual 68, 3) := by decide +kernel
theorem dX10_thing_70 : decode cX10_thing 70 = .ok (.ireturn, 1) := by decide +kernel
theorem dX10_thing_71 : decode cX10_thing 71 = .ok (.aload_n 0, 1) := by decide +kernel
theorem dX10_thing_72 : decode cX10_thing 72 = .ok (.getfield 10, 3) := by decide +kernel
theorem dX10_thing_75 : decode cX10_thing 75 = .ok (.getfield 72, 3) := by decide +kernel
theorem dX10_thing_78 : decode cX10_thing 78 = .ok (.iload_n 1, 1) := by decide +kernel
theorem dX10_thing_79 : decode cX10_thing 79 = .ok (.iload_n 2, 1) := by decide +kernel
theorem dX10_thing_80 : decode cX10_thing 80 = .ok (.invokevirtual 97, 3) := by decide +kernel
theorem dX10_thing_83 : decode cX10_thing 83 = .ok (.ireturn, 1) := by decide +kernel
set_option maxRecDepth 20000 in
theorem ggX10_thingIs_X7_has : GoodIn wsX10_thingIs wsX7_has := goodIn_r _ [7, 8, 45, 46, 47, 48, 49, 50, 51] (by decide +kernel) (by decide +kernel)
set_option maxRecDepth 20000 in
theorem gX10_thingIs_X7_has : GoodIn wsX10_thingIs (wsV RX10 101 RX7 yX7_has wsX7_has) := goodIn_app (goodIn_of _ (by decide +kernel)) ggX10_thingIs_X7_has
set_option maxRecDepth 20000 in
theorem ggX10_thingIs_X10_error : GoodIn wsX10_thingIs wsX10_error := goodIn_r _ [13, 14, 15, 26, 27, 28, 29, 30, 31, 32, 33, 34] (by decide +kernel) (by decide +kernel)
set_option maxRecDepth 20000 in
theorem gX10_thingIs_X10_error : GoodIn wsX10_thingIs (wsV RX10 68 RX10 yX10_error wsX10_error) := goodIn_app (goodIn_of _ (by decide +kernel)) ggX10_thingIs_X10_error
set_option maxRecDepth 20000 in
theorem ggX10_thingIs_X7_ofThing : GoodIn wsX10_thingIs wsX7_ofThing := goodIn_r _ [19, 20, 21, 22, 23, 24, 25, 4, 5, 6, 7, 8, 45, 46, 47, 48, 49, 50, 51] (by decide +kernel) (by decide +kernel)
set_option maxRecDepth 20000 in
theorem gX10_thingIs_X7_ofThing : GoodIn wsX10_thingIs (wsV RX10 104 RX7 yX7_ofThing wsX7_ofThing) := goodIn_app (goodIn_of _ (by decide +kernel)) ggX10_thingIs_X7_ofThing
theorem dX10_thingIs_0 : decode cX10_thingIs 0 = .ok (.aload_n 0, 1) := by decide +kernel
theorem dX10_thingIs_1 : decode cX10_thingIs 1 = .ok (.getfield 10, 3) := by decide +kernel
theorem dX10_thingIs_4 : decode cX10_thingIs 4 = .ok (.getfield 72, 3) := by decide +kernel
theorem dX10_thingIs_7 : decode cX10_thingIs 7 = .ok (.iload_n 1, 1) := by decide +kernel
theorem dX10_thingIs_8 : decode cX10_thingIs 8 = .ok (.invokevirtual 101, 3) := by decide +kernel
theorem dX10_thingIs_11 : decode cX10_thingIs 11 = .ok (.ifCond .eq 12, 3) := by decide +kernel
theorem dX10_thingIs_14 : decode cX10_thingIs 14 = .ok (.iload_n 2, 1) := by decide +kernel
theorem dX10_thingIs_15 : decode cX10_thingIs 15 = .ok (.ifCond .lt 8, 3) := by decide +kernel
theorem dX10_thingIs_18 : decode cX10_thingIs 18 = .ok (.iload_n 2, 1) := by decide +kernel
theorem dX10_thingIs_19 : decode cX10_thingIs 19 = .ok (.iconst 4, 1) := by decide +kernel
theorem dX10_thingIs_20 : decode cX10_thingIs 20 = .ok (.if_icmp .le 9, 3) := by decide +kernel
theorem dX10_thingIs_23 : decode cX10_thingIs 23 = .ok (.aload_n 0, 1) := by decide +kernel
theorem dX10_thingIs_24 : decode cX10_thingIs 24 = .ok (.iconst 1, 1) := by decide +kernel
theorem dX10_thingIs_25 : decode cX10_thingIs 25 = .ok (.invokevirtual 68, 3) := by decide +kernel
theorem dX10_thingIs_28 : decode cX10_thingIs 28 = .ok (.ireturn, 1) := by decide +kernel
theorem dX10_thingIs_29 : decode cX10_thingIs 29 = .ok (.aload_n 0, 1) := by decide +kernel
theorem dX10_thingIs_30 : decode cX10_thingIs 30 = .ok (.getfield 10, 3) := by decide +kernel
theorem dX10_thingIs_33 : decode cX10_thingIs 33 = .ok (.getfield 72, 3) := by decide +kernel
theorem dX10_thingIs_36 : decode cX10_thingIs 36 = .ok (.iload_n 1, 1) := by decide +kernel
theorem dX10_thingIs_37 : decode cX10_thingIs 37 = .ok (.iload_n 2, 1) := by decide +kernel
theorem dX10_thingIs_38 : decode cX10_thingIs 38 = .ok (.invokevirtual 104, 3) := by decide +kernel
theorem dX10_thingIs_41 : decode cX10_thingIs 41 = .ok (.ireturn, 1) := by decide +kernel
set_option maxRecDepth 20000 in
theorem ggX10_become_X7_has : GoodIn wsX10_become wsX7_has := goodIn_r _ [8, 9, 47, 48, 49, 50, 51, 52, 53] (by decide +kernel) (by decide +kernel)
set_option maxRecDepth 20000 in
theorem gX10_become_X7_has : GoodIn wsX10_become (wsV RX10 101 RX7 yX7_has wsX7_has) := goodIn_app (goodIn_of _ (by decide +kernel)) ggX10_become_X7_has
set_option maxRecDepth 20000 in
theorem ggX10_become_X2_isKindAndNumber : GoodIn wsX10_become wsX2_isKindAndNumber := goodIn_r _ [13] (by decide +kernel) (by decide +kernel)
set_option maxRecDepth 20000 in
theorem gX10_become_X2_isKindAndNumber : GoodIn wsX10_become (va_wsS RX10 88 yX2_isKindAndNumber wsX2_isKindAndNumber) := goodIn_app (goodIn_of _ (by decide +kernel)) ggX10_become_X2_isKindAndNumber
set_option maxRecDepth 20000 in
theorem ggX10_become_X10_error : GoodIn wsX10_become wsX10_error := goodIn_r _ [18, 19, 20, 28, 29, 30, 31, 32, 33, 34, 35, 36] (by decide +kernel) (by decide +kernel)
set_option maxRecDepth 20000 in
theorem gX10_become_X10_error : GoodIn wsX10_become (wsV RX10 68 RX10 yX10_error wsX10_error) := goodIn_app (goodIn_of _ (by decide +kernel)) ggX10_become_X10_error
set_option maxRecDepth 20000 in
theorem ggX10_become_X7_setKind : GoodIn wsX10_become wsX7_setKind := goodIn_r _ [24, 25, 26, 27, 5, 6, 7, 8, 9, 47, 48, 49, 50, 51, 52, 53] (by decide +kernel) (by decide +kernel)
set_option maxRecDepth 20000 in
theorem gX10_become_X7_setKind : GoodIn wsX10_become (wsV RX10 110 RX7 yX7_setKind wsX7_setKind) := goodIn_app (goodIn_of _ (by decide +kernel)) ggX10_become_X7_setKind
theorem dX10_become_0 : decode cX10_become 0 = .ok (.aload_n 0, 1) := by decide +kernel
theorem dX10_become_1 : decode cX10_become 1 = .ok (.getfield 10, 3) := by decide +kernel
theorem dX10_become_4 : decode cX10_become 4 = .ok (.getfield 72, 3) := by decide +kernel
theorem dX10_become_7 : decode cX10_become 7 = .ok (.iload_n 1, 1) := by decide +kernel
theorem dX10_become_8 : decode cX10_become 8 = .ok (.invokevirtual 101, 3) := by decide +kernel
theorem dX10_become_11 : decode cX10_become 11 = .ok (.ifCond .eq 10, 3) := by decide +kernel
theorem dX10_become_14 : decode cX10_become 14 = .ok (.iload_n 2, 1) := by decide +kernel
theorem dX10_become_15 : decode cX10_become 15 = .ok (.invokestatic 88, 3) := by decide +kernel
theorem dX10_become_18 : decode cX10_become 18 = .ok (.ifCond .ne 9, 3) := by decide +kernel
theorem dX10_become_21 : decode cX10_become 21 = .ok (.aload_n 0, 1) := by decide +kernel
theorem dX10_become_22 : decode cX10_become 22 = .ok (.iconst 1, 1) := by decide +kernel
theorem dX10_become_23 : decode cX10_become 23 = .ok (.invokevirtual 68, 3) := by decide +kernel
theorem dX10_become_26 : decode cX10_become 26 = .ok (.ireturn, 1) := by decide +kernel
theorem dX10_become_27 : decode cX10_become 27 = .ok (.aload_n 0, 1) := by decide +kernel
theorem dX10_become_28 : decode cX10_become 28 = .ok (.getfield 10, 3) := by decide +kernel
theorem dX10_become_31 : decode cX10_become 31 = .ok (.getfield 72, 3) := by decide +kernel
theorem dX10_become_34 : decode cX10_become 34 = .ok (.getfield 107, 3) := by decide +kernel
theorem dX10_become_37 : decode cX10_become 37 = .ok (.iload_n 1, 1) := by decide +kernel
theorem dX10_become_38 : decode cX10_become 38 = .ok (.iaload, 1) := by decide +kernel
theorem dX10_become_39 : decode cX10_become 39 = .ok (.istore_n 3, 1) := by decide +kernel
theorem dX10_become_40 : decode cX10_become 40 = .ok (.aload_n 0, 1) := by decide +kernel
theorem dX10_become_41 : decode cX10_become 41 = .ok (.getfield 10, 3) := by decide +kernel
theorem dX10_become_44 : decode cX10_become 44 = .ok (.getfield 72, 3) := by decide +kernel
theorem dX10_become_47 : decode cX10_become 47 = .ok (.iload_n 1, 1) := by decide +kernel
theorem dX10_become_48 : decode cX10_become 48 = .ok (.iload_n 2, 1) := by decide +kernel
theorem dX10_become_49 : decode cX10_become 49 = .ok (.invokevirtual 110, 3) := by decide +kernel
theorem dX10_become_52 : decode cX10_become 52 = .ok (.iload_n 3, 1) := by decide +kernel
theorem dX10_become_53 : decode cX10_become 53 = .ok (.ireturn, 1) := by decide +kernel
set_option maxRecDepth 20000 in
theorem ggX10_as_X7_has : GoodIn wsX10_as wsX7_has := goodIn_r _ [9, 10, 49, 50, 51, 52, 53, 54, 55] (by decide +kernel) (by decide +kernel)
set_option maxRecDepth 20000 in
theorem gX10_as_X7_has : GoodIn wsX10_as (wsV RX10 101 RX7 yX7_has wsX7_has) := goodIn_app (goodIn_of _ (by decide +kernel)) ggX10_as_X7_has
set_option maxRecDepth 20000 in
theorem ggX10_as_X2_isKind : GoodIn wsX10_as wsX2_isKind := goodIn_r _ [14] (by decide +kernel) (by decide +kernel)
set_option maxRecDepth 20000 in
theorem gX10_as_X2_isKind : GoodIn wsX10_as (va_wsS RX10 113 yX2_isKind wsX2_isKind) := goodIn_app (goodIn_of _ (by decide +kernel)) ggX10_as_X2_isKind
set_option maxRecDepth 20000 in
theorem ggX10_as_X10_error : GoodIn wsX10_as wsX10_error := goodIn_r _ [19, 20, 21, 30, 31, 32, 33, 34, 35, 36, 37, 38] (by decide +kernel) (by decide +kernel)
set_option maxRecDepth 20000 in
theorem gX10_as_X10_error : GoodIn wsX10_as (wsV RX10 68 RX10 yX10_error wsX10_error) := goodIn_app (goodIn_of _ (by decide +kernel)) ggX10_as_X10_error
set_option maxRecDepth 20000 in
theorem ggX10_as_X2_isUnder : GoodIn wsX10_as wsX2_isUnder := goodIn_r _ [24, 25, 26, 13, 27, 28, 29, 12, 14] (by decide +kernel) (by decide +kernel)
set_option maxRecDepth 20000 in
theorem gX10_as_X2_isUnder : GoodIn wsX10_as (va_wsS RX10 116 yX2_isUnder wsX2_isUnder) := goodIn_app (goodIn_of _ (by decide +kernel)) ggX10_as_X2_isUnder
theorem dX10_as_0 : decode cX10_as 0 = .ok (.aload_n 0, 1) := by decide +kernel
theorem dX10_as_1 : decode cX10_as 1 = .ok (.getfield 10, 3) := by decide +kernel
theorem dX10_as_4 : decode cX10_as 4 = .ok (.getfield 72, 3) := by decide +kernel
theorem dX10_as_7 : decode cX10_as 7 = .ok (.iload_n 1, 1) := by decide +kernel
theorem dX10_as_8 : decode cX10_as 8 = .ok (.invokevirtual 101, 3) := by decide +kernel
theorem dX10_as_11 : decode cX10_as 11 = .ok (.ifCond .eq 10, 3) := by decide +kernel
theorem dX10_as_14 : decode cX10_as 14 = .ok (.iload_n 2, 1) := by decide +kernel
theorem dX10_as_15 : decode cX10_as 15 = .ok (.invokestatic 113, 3) := by decide +kernel
theorem dX10_as_18 : decode cX10_as 18 = .ok (.ifCond .ne 9, 3) := by decide +kernel
theorem dX10_as_21 : decode cX10_as 21 = .ok (.aload_n 0, 1) := by decide +kernel
theorem dX10_as_22 : decode cX10_as 22 = .ok (.iconst 1, 1) := by decide +kernel
theorem dX10_as_23 : decode cX10_as 23 = .ok (.invokevirtual 68, 3) := by decide +kernel
theorem dX10_as_26 : decode cX10_as 26 = .ok (.ireturn, 1) := by decide +kernel
theorem dX10_as_27 : decode cX10_as 27 = .ok (.aload_n 0, 1) := by decide +kernel
theorem dX10_as_28 : decode cX10_as 28 = .ok (.getfield 10, 3) := by decide +kernel
theorem dX10_as_31 : decode cX10_as 31 = .ok (.getfield 72, 3) := by decide +kernel
theorem dX10_as_34 : decode cX10_as 34 = .ok (.getfield 107, 3) := by decide +kernel
theorem dX10_as_37 : decode cX10_as 37 = .ok (.iload_n 1, 1) := by decide +kernel
theorem dX10_as_38 : decode cX10_as 38 = .ok (.iaload, 1) := by decide +kernel
theorem dX10_as_39 : decode cX10_as 39 = .ok (.iload_n 2, 1) := by decide +kernel
theorem dX10_as_40 : decode cX10_as 40 = .ok (.invokestatic 116, 3) := by decide +kernel
theorem dX10_as_43 : decode cX10_as 43 = .ok (.ifCond .ne 9, 3) := by decide +kernel
theorem dX10_as_46 : decode cX10_as 46 = .ok (.aload_n 0, 1) := by decide +kernel
theorem dX10_as_47 : decode cX10_as 47 = .ok (.iconst 5, 1) := by decide +kernel
theorem dX10_as_48 : decode cX10_as 48 = .ok (.invokevirtual 68, 3) := by decide +kernel
theorem dX10_as_51 : decode cX10_as 51 = .ok (.ireturn, 1) := by decide +kernel
theorem dX10_as_52 : decode cX10_as 52 = .ok (.aload_n 0, 1) := by decide +kernel
theorem dX10_as_53 : decode cX10_as 53 = .ok (.getfield 10, 3) := by decide +kernel
theorem dX10_as_56 : decode cX10_as 56 = .ok (.getfield 72, 3) := by decide +kernel
theorem dX10_as_59 : decode cX10_as 59 = .ok (.getfield 120, 3) := by decide +kernel
theorem dX10_as_62 : decode cX10_as 62 = .ok (.iload_n 1, 1) := by decide +kernel
theorem dX10_as_63 : decode cX10_as 63 = .ok (.iaload, 1) := by decide +kernel
theorem dX10_as_64 : decode cX10_as 64 = .ok (.ireturn, 1) := by decide +kernel
set_option maxRecDepth 20000 in
theorem ggX10_carry_X7_has : GoodIn wsX10_carry wsX7_has := goodIn_r _ [8, 9, 61, 62, 63, 64, 65, 66, 67] (by decide +kernel) (by decide +kernel)
set_option maxRecDepth 20000 in
theorem gX10_carry_X7_has : GoodIn wsX10_carry (wsV RX10 101 RX7 yX7_has wsX7_has) := goodIn_app (goodIn_of _ (by decide +kernel)) ggX10_carry_X7_has
set_option maxRecDepth 20000 in
theorem ggX10_carry_X0_isCell : GoodIn wsX10_carry wsX0_isCell := goodIn_r _ [13] (by decide +kernel) (by decide +kernel)
set_option maxRecDepth 20000 in
theorem gX10_carry_X0_isCell : GoodIn wsX10_carry (va_wsS RX10 62 yX0_isCell wsX0_isCell) := goodIn_app (goodIn_of _ (by decide +kernel)) ggX10_carry_X0_isCell
set_option maxRecDepth 20000 in
theorem ggX10_carry_X10_error : GoodIn wsX10_carry wsX10_error := goodIn_r _ [18, 19, 20, 42, 43, 44, 45, 46, 47, 48, 49, 50] (by decide +kernel) (by decide +kernel)
set_option maxRecDepth 20000 in
theorem gX10_carry_X10_error : GoodIn wsX10_carry (wsV RX10 68 RX10 yX10_error wsX10_error) := goodIn_app (goodIn_of _ (by decide +kernel)) ggX10_carry_X10_error
set_option maxRecDepth 20000 in
theorem ggX10_carry_X7_inCell : GoodIn wsX10_carry wsX7_inCell := goodIn_r _ [24, 9, 25, 61, 62, 63, 64, 65, 66, 67] (by decide +kernel) (by decide +kernel)
set_option maxRecDepth 20000 in
theorem gX10_carry_X7_inCell : GoodIn wsX10_carry (wsV RX10 76 RX7 yX7_inCell wsX7_inCell) := goodIn_app (goodIn_of _ (by decide +kernel)) ggX10_carry_X7_inCell
set_option maxRecDepth 20000 in
theorem ggX10_carry_X1_wallAt : GoodIn wsX10_carry wsX1_wallAt := goodIn_r _ [30, 31, 32, 33, 12, 34, 51, 52, 53, 54, 55, 56, 57, 58, 59, 60] (by decide +kernel) (by decide +kernel)
set_option maxRecDepth 20000 in
theorem gX10_carry_X1_wallAt : GoodIn wsX10_carry (wsV RX10 81 RX1 yX1_wallAt wsX1_wallAt) := goodIn_app (goodIn_of _ (by decide +kernel)) ggX10_carry_X1_wallAt
set_option maxRecDepth 20000 in
theorem ggX10_carry_X7_place : GoodIn wsX10_carry wsX7_place := goodIn_r _ [38, 39, 25, 40, 41, 5, 6, 7, 8, 9, 61, 62, 63, 64, 65, 66, 67] (by decide +kernel) (by decide +kernel)
set_option maxRecDepth 20000 in
theorem gX10_carry_X7_place : GoodIn wsX10_carry (wsV RX10 126 RX7 yX7_place wsX7_place) := goodIn_app (goodIn_of _ (by decide +kernel)) ggX10_carry_X7_place
theorem dX10_carry_0 : decode cX10_carry 0 = .ok (.aload_n 0, 1) := by decide +kernel
theorem dX10_carry_1 : decode cX10_carry 1 = .ok (.getfield 10, 3) := by decide +kernel
theorem dX10_carry_4 : decode cX10_carry 4 = .ok (.getfield 72, 3) := by decide +kernel
theorem dX10_carry_7 : decode cX10_carry 7 = .ok (.iload_n 1, 1) := by decide +kernel
theorem dX10_carry_8 : decode cX10_carry 8 = .ok (.invokevirtual 101, 3) := by decide +kernel
theorem dX10_carry_11 : decode cX10_carry 11 = .ok (.ifCond .eq 10, 3) := by decide +kernel
theorem dX10_carry_14 : decode cX10_carry 14 = .ok (.iload_n 2, 1) := by decide +kernel
theorem dX10_carry_15 : decode cX10_carry 15 = .ok (.invokestatic 62, 3) := by decide +kernel
theorem dX10_carry_18 : decode cX10_carry 18 = .ok (.ifCond .ne 9, 3) := by decide +kernel
theorem dX10_carry_21 : decode cX10_carry 21 = .ok (.aload_n 0, 1) := by decide +kernel
theorem dX10_carry_22 : decode cX10_carry 22 = .ok (.iconst 1, 1) := by decide +kernel
theorem dX10_carry_23 : decode cX10_carry 23 = .ok (.invokevirtual 68, 3) := by decide +kernel
theorem dX10_carry_26 : decode cX10_carry 26 = .ok (.ireturn, 1) := by decide +kernel
theorem dX10_carry_27 : decode cX10_carry 27 = .ok (.aload_n 0, 1) := by decide +kernel
theorem dX10_carry_28 : decode cX10_carry 28 = .ok (.getfield 10, 3) := by decide +kernel
theorem dX10_carry_31 : decode cX10_carry 31 = .ok (.getfield 72, 3) := by decide +kernel
theorem dX10_carry_34 : decode cX10_carry 34 = .ok (.iload_n 2, 1) := by decide +kernel
theorem dX10_carry_35 : decode cX10_carry 35 = .ok (.invokevirtual 76, 3) := by decide +kernel
theorem dX10_carry_38 : decode cX10_carry 38 = .ok (.istore_n 3, 1) := by decide +kernel
theorem dX10_carry_39 : decode cX10_carry 39 = .ok (.aload_n 0, 1) := by decide +kernel
theorem dX10_carry_40 : decode cX10_carry 40 = .ok (.getfield 10, 3) := by decide +kernel
theorem dX10_carry_43 : decode cX10_carry 43 = .ok (.iload_n 2, 1) := by decide +kernel
theorem dX10_carry_44 : decode cX10_carry 44 = .ok (.invokevirtual 81, 3) := by decide +kernel
theorem dX10_carry_47 : decode cX10_carry 47 = .ok (.iconst 1, 1) := by decide +kernel
theorem dX10_carry_48 : decode cX10_carry 48 = .ok (.if_icmp .eq 12, 3) := by decide +kernel
theorem dX10_carry_51 : decode cX10_carry 51 = .ok (.iload_n 3, 1) := by decide +kernel
theorem dX10_carry_52 : decode cX10_carry 52 = .ok (.ifCond .lt 14, 3) := by decide +kernel
theorem dX10_carry_55 : decode cX10_carry 55 = .ok (.iload_n 3, 1) := by decide +kernel
theorem dX10_carry_56 : decode cX10_carry 56 = .ok (.iload_n 1, 1) := by decide +kernel
theorem dX10_carry_57 : decode cX10_carry 57 = .ok (.if_icmp .eq 9, 3) := by decide +kernel
theorem dX10_carry_60 : decode cX10_carry 60 = .ok (.aload_n 0, 1) := by decide +kernel
theorem dX10_carry_61 : decode cX10_carry 61 = .ok (.iconst 3, 1) := by decide +kernel
theorem dX10_carry_62 : decode cX10_carry 62 = .ok (.invokevirtual 68, 3) := by decide +kernel
theorem dX10_carry_65 : decode cX10_carry 65 = .ok (.ireturn, 1) := by decide +kernel
theorem dX10_carry_66 : decode cX10_carry 66 = .ok (.aload_n 0, 1) := by decide +kernel
theorem dX10_carry_67 : decode cX10_carry 67 = .ok (.getfield 10, 3) := by decide +kernel
theorem dX10_carry_70 : decode cX10_carry 70 = .ok (.getfield 72, 3) := by decide +kernel
theorem dX10_carry_73 : decode cX10_carry 73 = .ok (.getfield 123, 3) := by decide +kernel
theorem dX10_carry_76 : decode cX10_carry 76 = .ok (.iload_n 1, 1) := by decide +kernel
theorem dX10_carry_77 : decode cX10_carry 77 = .ok (.iaload, 1) := by decide +kernel
theorem dX10_carry_78 : decode cX10_carry 78 = .ok (.istore 4, 2) := by decide +kernel
theorem dX10_carry_80 : decode cX10_carry 80 = .ok (.aload_n 0, 1) := by decide +kernel
theorem dX10_carry_81 : decode cX10_carry 81 = .ok (.getfield 10, 3) := by decide +kernel
theorem dX10_carry_84 : decode cX10_carry 84 = .ok (.getfield 72, 3) := by decide +kernel
theorem dX10_carry_87 : decode cX10_carry 87 = .ok (.iload_n 1, 1) := by decide +kernel
theorem dX10_carry_88 : decode cX10_carry 88 = .ok (.iload_n 2, 1) := by decide +kernel
theorem dX10_carry_89 : decode cX10_carry 89 = .ok (.invokevirtual 126, 3) := by decide +kernel
theorem dX10_carry_92 : decode cX10_carry 92 = .ok (.iload 4, 2) := by decide +kernel
theorem dX10_carry_94 : decode cX10_carry 94 = .ok (.ireturn, 1) := by decide +kernel
set_option maxRecDepth 20000 in
theorem ggX10_clock_X10_error : GoodIn wsX10_clock wsX10_error := goodIn_r _ [7, 8, 9, 10, 11, 12, 13, 14, 15, 16, 17, 18] (by decide +kernel) (by decide +kernel)
set_option maxRecDepth 20000 in
theorem gX10_clock_X10_error : GoodIn wsX10_clock (wsV RX10 68 RX10 yX10_error wsX10_error) := goodIn_app (goodIn_of _ (by decide +kernel)) ggX10_clock_X10_error
theorem dX10_clock_0 : decode cX10_clock 0 = .ok (.iload_n 1, 1) := by decide +kernel
theorem dX10_clock_1 : decode cX10_clock 1 = .ok (.ifCond .lt 10, 3) := by decide +kernel
theorem dX10_clock_4 : decode cX10_clock 4 = .ok (.iload_n 1, 1) := by decide +kernel
theorem dX10_clock_5 : decode cX10_clock 5 = .ok (.sipush 9999, 3) := by decide +kernel
theorem dX10_clock_8 : decode cX10_clock 8 = .ok (.if_icmp .le 9, 3) := by decide +kernel
theorem dX10_clock_11 : decode cX10_clock 11 = .ok (.aload_n 0, 1) := by decide +kernel
theorem dX10_clock_12 : decode cX10_clock 12 = .ok (.iconst 1, 1) := by decide +kernel
theorem dX10_clock_13 : decode cX10_clock 13 = .ok (.invokevirtual 68, 3) := by decide +kernel
theorem dX10_clock_16 : decode cX10_clock 16 = .ok (.ireturn, 1) := by decide +kernel
theorem dX10_clock_17 : decode cX10_clock 17 = .ok (.aload_n 0, 1) := by decide +kernel
theorem dX10_clock_18 : decode cX10_clock 18 = .ok (.getfield 10, 3) := by decide +kernel
theorem dX10_clock_21 : decode cX10_clock 21 = .ok (.getfield 129, 3) := by decide +kernel
theorem dX10_clock_24 : decode cX10_clock 24 = .ok (.istore_n 2, 1) := by decide +kernel
theorem dX10_clock_25 : decode cX10_clock 25 = .ok (.aload_n 0, 1) := by decide +kernel
theorem dX10_clock_26 : decode cX10_clock 26 = .ok (.getfield 10, 3) := by decide +kernel
theorem dX10_clock_29 : decode cX10_clock 29 = .ok (.iload_n 1, 1) := by decide +kernel
theorem dX10_clock_30 : decode cX10_clock 30 = .ok (.putfield 129, 3) := by decide +kernel
theorem dX10_clock_33 : decode cX10_clock 33 = .ok (.iload_n 2, 1) := by decide +kernel
theorem dX10_clock_34 : decode cX10_clock 34 = .ok (.ireturn, 1) := by decide +kernel
set_option maxRecDepth 20000 in
theorem ggX10_feed_X10_error : GoodIn wsX10_feed wsX10_error := goodIn_r _ [7, 8, 9, 21, 22, 23, 24, 25, 26, 27, 28, 29] (by decide +kernel) (by decide +kernel)
set_option maxRecDepth 20000 in
theorem gX10_feed_X10_error : GoodIn wsX10_feed (wsV RX10 68 RX10 yX10_error wsX10_error) := goodIn_app (goodIn_of _ (by decide +kernel)) ggX10_feed_X10_error
set_option maxRecDepth 20000 in
theorem ggX10_feed_X1_tapeHasRoom : GoodIn wsX10_feed wsX1_tapeHasRoom := goodIn_r _ [14, 15, 30, 31, 32, 33, 34, 35, 36, 37, 38, 39] (by decide +kernel) (by decide +kernel)
set_option maxRecDepth 20000 in
theorem gX10_feed_X1_tapeHasRoom : GoodIn wsX10_feed (wsV RX10 132 RX1 yX1_tapeHasRoom wsX1_tapeHasRoom) := goodIn_app (goodIn_of _ (by decide +kernel)) ggX10_feed_X1_tapeHasRoom
set_option maxRecDepth 20000 in
theorem ggX10_feed_X1_addToTape : GoodIn wsX10_feed wsX1_addToTape := goodIn_r _ [19, 15, 20, 30, 31, 32, 33, 34, 35, 36, 37, 38, 39] (by decide +kernel) (by decide +kernel)
set_option maxRecDepth 20000 in
theorem gX10_feed_X1_addToTape : GoodIn wsX10_feed (wsV RX10 135 RX1 yX1_addToTape wsX1_addToTape) := goodIn_app (goodIn_of _ (by decide +kernel)) ggX10_feed_X1_addToTape
theorem dX10_feed_0 : decode cX10_feed 0 = .ok (.iload_n 3, 1) := by decide +kernel
theorem dX10_feed_1 : decode cX10_feed 1 = .ok (.iconst 1, 1) := by decide +kernel
theorem dX10_feed_2 : decode cX10_feed 2 = .ok (.if_icmp .lt 9, 3) := by decide +kernel
theorem dX10_feed_5 : decode cX10_feed 5 = .ok (.iload_n 3, 1) := by decide +kernel
theorem dX10_feed_6 : decode cX10_feed 6 = .ok (.bipush 8, 2) := by decide +kernel
theorem dX10_feed_8 : decode cX10_feed 8 = .ok (.if_icmp .le 9, 3) := by decide +kernel
theorem dX10_feed_11 : decode cX10_feed 11 = .ok (.aload_n 0, 1) := by decide +kernel
theorem dX10_feed_12 : decode cX10_feed 12 = .ok (.iconst 1, 1) := by decide +kernel
theorem dX10_feed_13 : decode cX10_feed 13 = .ok (.invokevirtual 68, 3) := by decide +kernel
theorem dX10_feed_16 : decode cX10_feed 16 = .ok (.ireturn, 1) := by decide +kernel
theorem dX10_feed_17 : decode cX10_feed 17 = .ok (.aload_n 0, 1) := by decide +kernel
theorem dX10_feed_18 : decode cX10_feed 18 = .ok (.getfield 10, 3) := by decide +kernel
theorem dX10_feed_21 : decode cX10_feed 21 = .ok (.iload_n 3, 1) := by decide +kernel
theorem dX10_feed_22 : decode cX10_feed 22 = .ok (.invokevirtual 132, 3) := by decide +kernel
theorem dX10_feed_25 : decode cX10_feed 25 = .ok (.ifCond .ne 9, 3) := by decide +kernel
theorem dX10_feed_28 : decode cX10_feed 28 = .ok (.aload_n 0, 1) := by decide +kernel
theorem dX10_feed_29 : decode cX10_feed 29 = .ok (.iconst 4, 1) := by decide +kernel
theorem dX10_feed_30 : decode cX10_feed 30 = .ok (.invokevirtual 68, 3) := by decide +kernel
theorem dX10_feed_33 : decode cX10_feed 33 = .ok (.ireturn, 1) := by decide +kernel
theorem dX10_feed_34 : decode cX10_feed 34 = .ok (.aload_n 0, 1) := by decide +kernel
theorem dX10_feed_35 : decode cX10_feed 35 = .ok (.getfield 10, 3) := by decide +kernel
theorem dX10_feed_38 : decode cX10_feed 38 = .ok (.lload_n 1, 1) := by decide +kernel
theorem dX10_feed_39 : decode cX10_feed 39 = .ok (.iload_n 3, 1) := by decide +kernel
theorem dX10_feed_40 : decode cX10_feed 40 = .ok (.invokevirtual 135, 3) := by decide +kernel
theorem dX10_feed_43 : decode cX10_feed 43 = .ok (.aload_n 0, 1) := by decide +kernel
theorem dX10_feed_44 : decode cX10_feed 44 = .ok (.getfield 10, 3) := by decide +kernel
theorem dX10_feed_47 : decode cX10_feed 47 = .ok (.getfield 139, 3) := by decide +kernel
theorem dX10_feed_50 : decode cX10_feed 50 = .ok (.ireturn, 1) := by decide +kernel
set_option maxRecDepth 20000 in
theorem ggX10_text_X10_isUse : GoodIn wsX10_text wsX10_isUse := goodIn_r _ [11] (by decide +kernel) (by decide +kernel)
set_option maxRecDepth 20000 in
theorem gX10_text_X10_isUse : GoodIn wsX10_text (va_wsS RX10 142 yX10_isUse wsX10_isUse) := goodIn_app (goodIn_of _ (by decide +kernel)) ggX10_text_X10_isUse
set_option maxRecDepth 20000 in
theorem ggX10_text_X10_error : GoodIn wsX10_text wsX10_error := goodIn_r _ [15, 16, 17, 91, 92, 93, 94, 95, 96, 97, 98, 99] (by decide +kernel) (by decide +kernel)
set_option maxRecDepth 20000 in
theorem gX10_text_X10_error : GoodIn wsX10_text (wsV RX10 68 RX10 yX10_error wsX10_error) := goodIn_app (goodIn_of _ (by decide +kernel)) ggX10_text_X10_error
set_option maxRecDepth 20000 in
theorem ggX10_text_X6_read : GoodIn wsX10_text wsX6_read := goodIn_r _ [22, 23, 24, 25, 26, 27, 28, 29, 30, 31, 32, 33, 34, 35, 21, 36, 37, 38, 39, 40, 41, 42, 43, 44, 45, 46, 47, 48, 49, 50, 51, 52, 53, 54, 55, 56, 57, 58, 59, 60, 61, 62, 63, 64, 65, 66, 67, 68, 69, 70, 71, 72, 73, 74, 75, 110, 111, 112, 113, 114, 115, 116] (by decide +kernel) (by decide +kernel)
set_option maxRecDepth 20000 in
theorem gX10_text_X6_read : GoodIn wsX10_text (wsV RX10 149 RX6 yX6_read wsX6_read) := goodIn_app (goodIn_of _ (by decide +kernel)) ggX10_text_X6_read
set_option maxRecDepth 20000 in
theorem ggX10_text_X1_lawOf : GoodIn wsX10_text wsX1_lawOf := goodIn_r _ [80, 81, 82, 100, 101, 102, 103, 104, 105, 106, 107, 108, 109] (by decide +kernel) (by decide +kernel)
set_option maxRecDepth 20000 in
theorem gX10_text_X1_lawOf : GoodIn wsX10_text (wsV RX10 156 RX1 yX1_lawOf wsX1_lawOf) := goodIn_app (goodIn_of _ (by decide +kernel)) ggX10_text_X1_lawOf
set_option maxRecDepth 20000 in
theorem ggX10_text_X4_learn : GoodIn wsX10_text wsX4_learn := goodIn_r _ [87, 88, 25, 26, 27, 89, 90, 117, 118, 119] (by decide +kernel) (by decide +kernel)
set_option maxRecDepth 20000 in
theorem gX10_text_X4_learn : GoodIn wsX10_text (wsV RX10 166 RX4 yX4_learn wsX4_learn) := goodIn_app (goodIn_of _ (by decide +kernel)) ggX10_text_X4_learn
theorem dX10_text_0 : decode cX10_text 0 = .ok (.iload_n 1, 1) := by decide +kernel
theorem dX10_text_1 : decode cX10_text 1 = .ok (.invokestatic 142, 3) := by decide +kernel
theorem dX10_text_4 : decode cX10_text 4 = .ok (.ifCond .ne 9, 3) := by decide +kernel
theorem dX10_text_7 : decode cX10_text 7 = .ok (.aload_n 0, 1) := by decide +kernel
theorem dX10_text_8 : decode cX10_text 8 = .ok (.iconst 1, 1) := by decide +kernel
theorem dX10_text_9 : decode cX10_text 9 = .ok (.invokevirtual 68, 3) := by decide +kernel
theorem dX10_text_12 : decode cX10_text 12 = .ok (.ireturn, 1) := by decide +kernel
theorem dX10_text_13 : decode cX10_text 13 = .ok (.aload_n 0, 1) := by decide +kernel
theorem dX10_text_14 : decode cX10_text 14 = .ok (.getfield 22, 3) := by decide +kernel
theorem dX10_text_17 : decode cX10_text 17 = .ok (.aload_n 0, 1) := by decide +kernel
theorem dX10_text_18 : decode cX10_text 18 = .ok (.getfield 10, 3) := by decide +kernel
theorem dX10_text_21 : decode cX10_text 21 = .ok (.getfield 145, 3) := by decide +kernel
theorem dX10_text_24 : decode cX10_text 24 = .ok (.aload_n 0, 1) := by decide +kernel
theorem dX10_text_25 : decode cX10_text 25 = .ok (.getfield 10, 3) := by decide +kernel
theorem dX10_text_28 : decode cX10_text 28 = .ok (.getfield 139, 3) := by decide +kernel
theorem dX10_text_31 : decode cX10_text 31 = .ok (.iload_n 1, 1) := by decide +kernel
theorem dX10_text_32 : decode cX10_text 32 = .ok (.invokevirtual 149, 3) := by decide +kernel
theorem dX10_text_35 : decode cX10_text 35 = .ok (.aload_n 0, 1) := by decide +kernel
theorem dX10_text_36 : decode cX10_text 36 = .ok (.getfield 10, 3) := by decide +kernel
theorem dX10_text_39 : decode cX10_text 39 = .ok (.iconst 0, 1) := by decide +kernel
theorem dX10_text_40 : decode cX10_text 40 = .ok (.putfield 139, 3) := by decide +kernel
theorem dX10_text_43 : decode cX10_text 43 = .ok (.aload_n 0, 1) := by decide +kernel
theorem dX10_text_44 : decode cX10_text 44 = .ok (.getfield 22, 3) := by decide +kernel
theorem dX10_text_47 : decode cX10_text 47 = .ok (.getfield 153, 3) := by decide +kernel
theorem dX10_text_50 : decode cX10_text 50 = .ok (.ifCond .lt 14, 3) := by decide +kernel
theorem dX10_text_53 : decode cX10_text 53 = .ok (.bipush (-10), 2) := by decide +kernel
theorem dX10_text_55 : decode cX10_text 55 = .ok (.aload_n 0, 1) := by decide +kernel
theorem dX10_text_56 : decode cX10_text 56 = .ok (.getfield 22, 3) := by decide +kernel
theorem dX10_text_59 : decode cX10_text 59 = .ok (.getfield 153, 3) := by decide +kernel
theorem dX10_text_62 : decode cX10_text 62 = .ok (.isub, 1) := by decide +kernel
theorem dX10_text_63 : decode cX10_text 63 = .ok (.ireturn, 1) := by decide +kernel
theorem dX10_text_64 : decode cX10_text 64 = .ok (.aload_n 0, 1) := by decide +kernel
theorem dX10_text_65 : decode cX10_text 65 = .ok (.getfield 10, 3) := by decide +kernel
theorem dX10_text_68 : decode cX10_text 68 = .ok (.iload_n 1, 1) := by decide +kernel
theorem dX10_text_69 : decode cX10_text 69 = .ok (.invokevirtual 156, 3) := by decide +kernel
theorem dX10_text_72 : decode cX10_text 72 = .ok (.aload_n 0, 1) := by decide +kernel
theorem dX10_text_73 : decode cX10_text 73 = .ok (.getfield 22, 3) := by decide +kernel
theorem dX10_text_76 : decode cX10_text 76 = .ok (.getfield 160, 3) := by decide +kernel
theorem dX10_text_79 : decode cX10_text 79 = .ok (.aload_n 0, 1) := by decide +kernel
theorem dX10_text_80 : decode cX10_text 80 = .ok (.getfield 22, 3) := by decide +kernel
theorem dX10_text_83 : decode cX10_text 83 = .ok (.getfield 163, 3) := by decide +kernel
theorem dX10_text_86 : decode cX10_text 86 = .ok (.invokevirtual 166, 3) := by decide +kernel
theorem dX10_text_89 : decode cX10_text 89 = .ok (.iconst 1, 1) := by decide +kernel
theorem dX10_text_90 : decode cX10_text 90 = .ok (.ireturn, 1) := by decide +kernel
set_option maxRecDepth 20000 in
theorem ggX10_untell_X10_isUse : GoodIn wsX10_untell wsX10_isUse := goodIn_r _ [5] (by decide +kernel) (by decide +kernel)
set_option maxRecDepth 20000 in
theorem gX10_untell_X10_isUse : GoodIn wsX10_untell (va_wsS RX10 142 yX10_isUse wsX10_isUse) := goodIn_app (goodIn_of _ (by decide +kernel)) ggX10_untell_X10_isUse
set_option maxRecDepth 20000 in
theorem ggX10_untell_X10_error : GoodIn wsX10_untell wsX10_error := goodIn_r _ [9, 10, 11, 29, 30, 31, 32, 33, 34, 35, 36, 37] (by decide +kernel) (by decide +kernel)
set_option maxRecDepth 20000 in
theorem gX10_untell_X10_error : GoodIn wsX10_untell (wsV RX10 68 RX10 yX10_error wsX10_error) := goodIn_app (goodIn_of _ (by decide +kernel)) ggX10_untell_X10_error
set_option maxRecDepth 20000 in
theorem ggX10_untell_X1_lawOf : GoodIn wsX10_untell wsX1_lawOf := goodIn_r _ [16, 17, 18, 38, 39, 40, 41, 42, 43, 44, 45, 46, 47] (by decide +kernel) (by decide +kernel)
set_option maxRecDepth 20000 in
theorem gX10_untell_X1_lawOf : GoodIn wsX10_untell (wsV RX10 156 RX1 yX1_lawOf wsX1_lawOf) := goodIn_app (goodIn_of _ (by decide +kernel)) ggX10_untell_X1_lawOf
set_option maxRecDepth 20000 in
theorem ggX10_untell_X4_isTold : GoodIn wsX10_untell wsX4_isTold := goodIn_r _ [23, 24, 48, 49, 50] (by decide +kernel) (by decide +kernel)
set_option maxRecDepth 20000 in
theorem gX10_untell_X4_isTold : GoodIn wsX10_untell (wsV RX10 172 RX4 yX4_isTold wsX4_isTold) := goodIn_app (goodIn_of _ (by decide +kernel)) ggX10_untell_X4_isTold
set_option maxRecDepth 20000 in
theorem ggX10_untell_X4_forget : GoodIn wsX10_untell wsX4_forget := goodIn_r _ [28, 24, 48, 49, 50] (by decide +kernel) (by decide +kernel)
set_option maxRecDepth 20000 in
theorem gX10_untell_X4_forget : GoodIn wsX10_untell (wsV RX10 175 RX4 yX4_forget wsX4_forget) := goodIn_app (goodIn_of _ (by decide +kernel)) ggX10_untell_X4_forget
theorem dX10_untell_0 : decode cX10_untell 0 = .ok (.iload_n 1, 1) := by decide +kernel
theorem dX10_untell_1 : decode cX10_untell 1 = .ok (.invokestatic 142, 3) := by decide +kernel
theorem dX10_untell_4 : decode cX10_untell 4 = .ok (.ifCond .ne 9, 3) := by decide +kernel
theorem dX10_untell_7 : decode cX10_untell 7 = .ok (.aload_n 0, 1) := by decide +kernel
theorem dX10_untell_8 : decode cX10_untell 8 = .ok (.iconst 1, 1) := by decide +kernel
theorem dX10_untell_9 : decode cX10_untell 9 = .ok (.invokevirtual 68, 3) := by decide +kernel
theorem dX10_untell_12 : decode cX10_untell 12 = .ok (.ireturn, 1) := by decide +kernel
theorem dX10_untell_13 : decode cX10_untell 13 = .ok (.aload_n 0, 1) := by decide +kernel
theorem dX10_untell_14 : decode cX10_untell 14 = .ok (.getfield 10, 3) := by decide +kernel
theorem dX10_untell_17 : decode cX10_untell 17 = .ok (.iload_n 1, 1) := by decide +kernel
theorem dX10_untell_18 : decode cX10_untell 18 = .ok (.invokevirtual 156, 3) := by decide +kernel
theorem dX10_untell_21 : decode cX10_untell 21 = .ok (.invokevirtual 172, 3) := by decide +kernel
theorem dX10_untell_24 : decode cX10_untell 24 = .ok (.ifCond .eq 7, 3) := by decide +kernel
theorem dX10_untell_27 : decode cX10_untell 27 = .ok (.iconst 1, 1) := by decide +kernel
theorem dX10_untell_28 : decode cX10_untell 28 = .ok (.goto 4, 3) := by decide +kernel
theorem dX10_untell_31 : decode cX10_untell 31 = .ok (.iconst 0, 1) := by decide +kernel
theorem dX10_untell_32 : decode cX10_untell 32 = .ok (.istore_n 2, 1) := by decide +kernel
theorem dX10_untell_33 : decode cX10_untell 33 = .ok (.aload_n 0, 1) := by decide +kernel
theorem dX10_untell_34 : decode cX10_untell 34 = .ok (.getfield 10, 3) := by decide +kernel
theorem dX10_untell_37 : decode cX10_untell 37 = .ok (.iload_n 1, 1) := by decide +kernel
theorem dX10_untell_38 : decode cX10_untell 38 = .ok (.invokevirtual 156, 3) := by decide +kernel
theorem dX10_untell_41 : decode cX10_untell 41 = .ok (.invokevirtual 175, 3) := by decide +kernel
theorem dX10_untell_44 : decode cX10_untell 44 = .ok (.iload_n 2, 1) := by decide +kernel
theorem dX10_untell_45 : decode cX10_untell 45 = .ok (.ireturn, 1) := by decide +kernel
set_option maxRecDepth 20000 in
theorem ggX10_law_X10_isUse : GoodIn wsX10_law wsX10_isUse := goodIn_r _ [5] (by decide +kernel) (by decide +kernel)
set_option maxRecDepth 20000 in
theorem gX10_law_X10_isUse : GoodIn wsX10_law (va_wsS RX10 142 yX10_isUse wsX10_isUse) := goodIn_app (goodIn_of _ (by decide +kernel)) ggX10_law_X10_isUse
set_option maxRecDepth 20000 in
theorem ggX10_law_X10_error : GoodIn wsX10_law wsX10_error := goodIn_r _ [9, 10, 11, 45, 46, 47, 48, 49, 50, 51, 52, 53] (by decide +kernel) (by decide +kernel)
set_option maxRecDepth 20000 in
theorem gX10_law_X10_error : GoodIn wsX10_law (wsV RX10 68 RX10 yX10_error wsX10_error) := goodIn_app (goodIn_of _ (by decide +kernel)) ggX10_law_X10_error
set_option maxRecDepth 20000 in
theorem ggX10_law_X1_pullBy : GoodIn wsX10_law wsX1_pullBy := goodIn_r _ [16, 17, 18, 19, 20, 21, 22, 23, 24, 25, 26, 27, 28, 29, 30, 31, 32, 33, 34, 35, 36, 37, 38, 39, 54, 55, 56, 57, 58, 59, 60, 61, 62, 63, 64, 65, 66] (by decide +kernel) (by decide +kernel)
set_option maxRecDepth 20000 in
theorem gX10_law_X1_pullBy : GoodIn wsX10_law (wsV RX10 178 RX1 yX1_pullBy wsX1_pullBy) := goodIn_app (goodIn_of _ (by decide +kernel)) ggX10_law_X1_pullBy
set_option maxRecDepth 20000 in
theorem ggX10_law_X1_breaksBy : GoodIn wsX10_law wsX1_breaksBy := goodIn_r _ [43, 44, 18, 19, 20, 21, 22, 23, 24, 25, 26, 27, 28, 29, 30, 31, 32, 33, 34, 35, 54, 55, 56, 57, 58, 59, 60, 61, 62, 63, 64, 65, 66] (by decide +kernel) (by decide +kernel)
set_option maxRecDepth 20000 in
theorem gX10_law_X1_breaksBy : GoodIn wsX10_law (wsV RX10 182 RX1 yX1_breaksBy wsX1_breaksBy) := goodIn_app (goodIn_of _ (by decide +kernel)) ggX10_law_X1_breaksBy
theorem dX10_law_0 : decode cX10_law 0 = .ok (.iload_n 1, 1) := by decide +kernel
theorem dX10_law_1 : decode cX10_law 1 = .ok (.invokestatic 142, 3) := by decide +kernel
theorem dX10_law_4 : decode cX10_law 4 = .ok (.ifCond .ne 9, 3) := by decide +kernel
theorem dX10_law_7 : decode cX10_law 7 = .ok (.aload_n 0, 1) := by decide +kernel
theorem dX10_law_8 : decode cX10_law 8 = .ok (.iconst 1, 1) := by decide +kernel
theorem dX10_law_9 : decode cX10_law 9 = .ok (.invokevirtual 68, 3) := by decide +kernel
theorem dX10_law_12 : decode cX10_law 12 = .ok (.ireturn, 1) := by decide +kernel
theorem dX10_law_13 : decode cX10_law 13 = .ok (.iload_n 1, 1) := by decide +kernel
theorem dX10_law_14 : decode cX10_law 14 = .ok (.ifCond .ne 15, 3) := by decide +kernel
theorem dX10_law_17 : decode cX10_law 17 = .ok (.aload_n 0, 1) := by decide +kernel
theorem dX10_law_18 : decode cX10_law 18 = .ok (.getfield 10, 3) := by decide +kernel
theorem dX10_law_21 : decode cX10_law 21 = .ok (.iload_n 2, 1) := by decide +kernel
theorem dX10_law_22 : decode cX10_law 22 = .ok (.iload_n 3, 1) := by decide +kernel
theorem dX10_law_23 : decode cX10_law 23 = .ok (.iload 4, 2) := by decide +kernel
theorem dX10_law_25 : decode cX10_law 25 = .ok (.invokevirtual 178, 3) := by decide +kernel
theorem dX10_law_28 : decode cX10_law 28 = .ok (.ireturn, 1) := by decide +kernel
theorem dX10_law_29 : decode cX10_law 29 = .ok (.aload_n 0, 1) := by decide +kernel
theorem dX10_law_30 : decode cX10_law 30 = .ok (.getfield 10, 3) := by decide +kernel
theorem dX10_law_33 : decode cX10_law 33 = .ok (.iload_n 2, 1) := by decide +kernel
theorem dX10_law_34 : decode cX10_law 34 = .ok (.iload_n 3, 1) := by decide +kernel
theorem dX10_law_35 : decode cX10_law 35 = .ok (.iload 4, 2) := by decide +kernel
theorem dX10_law_37 : decode cX10_law 37 = .ok (.invokevirtual 182, 3) := by decide +kernel
theorem dX10_law_40 : decode cX10_law 40 = .ok (.ifCond .eq 7, 3) := by decide +kernel
theorem dX10_law_43 : decode cX10_law 43 = .ok (.iconst 1, 1) := by decide +kernel
theorem dX10_law_44 : decode cX10_law 44 = .ok (.goto 4, 3) := by decide +kernel
theorem dX10_law_47 : decode cX10_law 47 = .ok (.iconst 0, 1) := by decide +kernel
theorem dX10_law_48 : decode cX10_law 48 = .ok (.ireturn, 1) := by decide +kernel
set_option maxRecDepth 20000 in
theorem ggX10_hours_X10_error : GoodIn wsX10_hours wsX10_error := goodIn_r _ [8, 9, 10, 106, 107, 108, 109, 110, 111, 112, 113, 114] (by decide +kernel) (by decide +kernel)
set_option maxRecDepth 20000 in
theorem gX10_hours_X10_error : GoodIn wsX10_hours (wsV RX10 68 RX10 yX10_error wsX10_error) := goodIn_app (goodIn_of _ (by decide +kernel)) ggX10_hours_X10_error
set_option maxRecDepth 20000 in
theorem ggX10_hours_X1_pullAt : GoodIn wsX10_hours wsX1_pullAt := goodIn_r _ [15, 16, 17, 18, 19, 20, 14, 21, 22, 23, 24, 25, 26, 27, 28, 29, 30, 31, 32, 33, 34, 35, 36, 37, 38, 39, 40, 41, 42, 43, 44, 115, 116, 117, 118, 119, 120, 121, 122, 123, 124, 125, 126, 127, 128, 129, 130, 131, 132, 133, 134] (by decide +kernel) (by decide +kernel)
set_option maxRecDepth 20000 in
theorem gX10_hours_X1_pullAt : GoodIn wsX10_hours (wsV RX10 186 RX1 yX1_pullAt wsX1_pullAt) := goodIn_app (goodIn_of _ (by decide +kernel)) ggX10_hours_X1_pullAt
set_option maxRecDepth 20000 in
theorem ggX10_hours_X1_passHour : GoodIn wsX10_hours wsX1_passHour := goodIn_r _ [48, 16, 17, 49, 50, 51, 52, 53, 54, 55, 56, 57, 58, 59, 60, 61, 62, 63, 64, 65, 66, 67, 68, 69, 70, 71, 72, 73, 74, 75, 76, 77, 78, 79, 80, 81, 82, 83, 84, 85, 86, 87, 88, 89, 90, 91, 92, 93, 94, 95, 96, 97, 98, 14, 99, 100, 23, 24, 25, 26, 27, 28, 29, 30, 31, 32, 33, 34, 35, 36, 37, 38, 39, 40, 115, 116, 117, 118, 119, 120, 121, 122, 123, 124, 125, 126, 127, 128, 129, 130, 131, 132, 133, 134] (by decide +kernel) (by decide +kernel)
set_option maxRecDepth 20000 in
theorem gX10_hours_X1_passHour : GoodIn wsX10_hours (wsV RX10 189 RX1 yX1_passHour wsX1_passHour) := goodIn_app (goodIn_of _ (by decide +kernel)) ggX10_hours_X1_passHour
set_option maxRecDepth 20000 in
theorem ggX10_hours_X7_brokenCount : GoodIn wsX10_hours wsX7_brokenCount := goodIn_r _ [104, 70, 105, 125, 126, 127, 128, 129, 130, 131] (by decide +kernel) (by decide +kernel)
set_option maxRecDepth 20000 in
theorem gX10_hours_X7_brokenCount : GoodIn wsX10_hours (wsV RX10 193 RX7 yX7_brokenCount wsX7_brokenCount) := goodIn_app (goodIn_of _ (by decide +kernel)) ggX10_hours_X7_brokenCount
theorem dX10_hours_0 : decode cX10_hours 0 = .ok (.iload_n 1, 1) := by decide +kernel
theorem dX10_hours_1 : decode cX10_hours 1 = .ok (.iconst 1, 1) := by decide +kernel
theorem dX10_hours_2 : decode cX10_hours 2 = .ok (.if_icmp .lt 9, 3) := by decide +kernel
theorem dX10_hours_5 : decode cX10_hours 5 = .ok (.iload_n 1, 1) := by decide +kernel
theorem dX10_hours_6 : decode cX10_hours 6 = .ok (.bipush 100, 2) := by decide +kernel
theorem dX10_hours_8 : decode cX10_hours 8 = .ok (.if_icmp .le 9, 3) := by decide +kernel
theorem dX10_hours_11 : decode cX10_hours 11 = .ok (.aload_n 0, 1) := by decide +kernel
theorem dX10_hours_12 : decode cX10_hours 12 = .ok (.iconst 1, 1) := by decide +kernel
theorem dX10_hours_13 : decode cX10_hours 13 = .ok (.invokevirtual 68, 3) := by decide +kernel
theorem dX10_hours_16 : decode cX10_hours 16 = .ok (.ireturn, 1) := by decide +kernel
theorem dX10_hours_17 : decode cX10_hours 17 = .ok (.aload_n 0, 1) := by decide +kernel
theorem dX10_hours_18 : decode cX10_hours 18 = .ok (.getfield 10, 3) := by decide +kernel
theorem dX10_hours_21 : decode cX10_hours 21 = .ok (.getfield 129, 3) := by decide +kernel
theorem dX10_hours_24 : decode cX10_hours 24 = .ok (.iload_n 1, 1) := by decide +kernel
theorem dX10_hours_25 : decode cX10_hours 25 = .ok (.iadd, 1) := by decide +kernel
theorem dX10_hours_26 : decode cX10_hours 26 = .ok (.sipush 9999, 3) := by decide +kernel
theorem dX10_hours_29 : decode cX10_hours 29 = .ok (.if_icmp .le 9, 3) := by decide +kernel
theorem dX10_hours_32 : decode cX10_hours 32 = .ok (.aload_n 0, 1) := by decide +kernel
theorem dX10_hours_33 : decode cX10_hours 33 = .ok (.iconst 3, 1) := by decide +kernel
theorem dX10_hours_34 : decode cX10_hours 34 = .ok (.invokevirtual 68, 3) := by decide +kernel
theorem dX10_hours_37 : decode cX10_hours 37 = .ok (.ireturn, 1) := by decide +kernel
theorem dX10_hours_38 : decode cX10_hours 38 = .ok (.iconst 0, 1) := by decide +kernel
theorem dX10_hours_39 : decode cX10_hours 39 = .ok (.istore_n 2, 1) := by decide +kernel
theorem dX10_hours_40 : decode cX10_hours 40 = .ok (.iload_n 2, 1) := by decide +kernel
theorem dX10_hours_41 : decode cX10_hours 41 = .ok (.iload_n 1, 1) := by decide +kernel
theorem dX10_hours_42 : decode cX10_hours 42 = .ok (.if_icmp .ge 30, 3) := by decide +kernel
theorem dX10_hours_45 : decode cX10_hours 45 = .ok (.aload_n 0, 1) := by decide +kernel
theorem dX10_hours_46 : decode cX10_hours 46 = .ok (.getfield 10, 3) := by decide +kernel
theorem dX10_hours_49 : decode cX10_hours 49 = .ok (.aload_n 0, 1) := by decide +kernel
theorem dX10_hours_50 : decode cX10_hours 50 = .ok (.getfield 10, 3) := by decide +kernel
theorem dX10_hours_53 : decode cX10_hours 53 = .ok (.aload_n 0, 1) := by decide +kernel
theorem dX10_hours_54 : decode cX10_hours 54 = .ok (.getfield 10, 3) := by decide +kernel
theorem dX10_hours_57 : decode cX10_hours 57 = .ok (.getfield 129, 3) := by decide +kernel
theorem dX10_hours_60 : decode cX10_hours 60 = .ok (.invokevirtual 186, 3) := by decide +kernel
theorem dX10_hours_63 : decode cX10_hours 63 = .ok (.invokevirtual 189, 3) := by decide +kernel
theorem dX10_hours_66 : decode cX10_hours 66 = .ok (.iinc 2 1, 3) := by decide +kernel
theorem dX10_hours_69 : decode cX10_hours 69 = .ok (.goto (-29), 3) := by decide +kernel
theorem dX10_hours_72 : decode cX10_hours 72 = .ok (.aload_n 0, 1) := by decide +kernel
theorem dX10_hours_73 : decode cX10_hours 73 = .ok (.getfield 10, 3) := by decide +kernel
theorem dX10_hours_76 : decode cX10_hours 76 = .ok (.getfield 72, 3) := by decide +kernel
theorem dX10_hours_79 : decode cX10_hours 79 = .ok (.invokevirtual 193, 3) := by decide +kernel
theorem dX10_hours_82 : decode cX10_hours 82 = .ok (.ireturn, 1) := by decide +kernel
set_option maxRecDepth 20000 in
theorem ggX10_shakes_X10_error : GoodIn wsX10_shakes wsX10_error := goodIn_r _ [8, 9, 10, 99, 100, 101, 102, 103, 104, 105, 106, 107] (by decide +kernel) (by decide +kernel)
set_option maxRecDepth 20000 in
theorem gX10_shakes_X10_error : GoodIn wsX10_shakes (wsV RX10 68 RX10 yX10_error wsX10_error) := goodIn_app (goodIn_of _ (by decide +kernel)) ggX10_shakes_X10_error
set_option maxRecDepth 20000 in
theorem ggX10_shakes_X1_draw : GoodIn wsX10_shakes wsX1_draw := goodIn_r _ [15, 16, 17, 108, 109, 110, 111, 112, 113, 114, 115, 116, 117] (by decide +kernel) (by decide +kernel)
set_option maxRecDepth 20000 in
theorem gX10_shakes_X1_draw : GoodIn wsX10_shakes (wsV RX10 197 RX1 yX1_draw wsX1_draw) := goodIn_app (goodIn_of _ (by decide +kernel)) ggX10_shakes_X1_draw
set_option maxRecDepth 20000 in
theorem ggX10_shakes_X1_passHour : GoodIn wsX10_shakes wsX1_passHour := goodIn_r _ [21, 22, 23, 24, 25, 26, 27, 28, 29, 30, 31, 32, 33, 34, 35, 36, 37, 38, 39, 40, 41, 42, 43, 44, 45, 46, 47, 48, 49, 50, 51, 52, 53, 54, 55, 56, 57, 58, 59, 60, 61, 62, 63, 64, 65, 66, 67, 68, 69, 70, 71, 72, 73, 14, 74, 75, 76, 77, 78, 79, 80, 81, 82, 83, 84, 85, 86, 87, 88, 89, 90, 91, 92, 93, 108, 109, 110, 111, 112, 113, 114, 115, 116, 117, 118, 119, 120, 121, 122, 123, 124, 125, 126, 127] (by decide +kernel) (by decide +kernel)
set_option maxRecDepth 20000 in
theorem gX10_shakes_X1_passHour : GoodIn wsX10_shakes (wsV RX10 189 RX1 yX1_passHour wsX1_passHour) := goodIn_app (goodIn_of _ (by decide +kernel)) ggX10_shakes_X1_passHour
set_option maxRecDepth 20000 in
theorem ggX10_shakes_X7_brokenCount : GoodIn wsX10_shakes wsX7_brokenCount := goodIn_r _ [97, 45, 98, 118, 119, 120, 121, 122, 123, 124] (by decide +kernel) (by decide +kernel)
set_option maxRecDepth 20000 in
theorem gX10_shakes_X7_brokenCount : GoodIn wsX10_shakes (wsV RX10 193 RX7 yX7_brokenCount wsX7_brokenCount) := goodIn_app (goodIn_of _ (by decide +kernel)) ggX10_shakes_X7_brokenCount
theorem dX10_shakes_0 : decode cX10_shakes 0 = .ok (.iload_n 1, 1) := by decide +kernel
theorem dX10_shakes_1 : decode cX10_shakes 1 = .ok (.iconst 1, 1) := by decide +kernel
theorem dX10_shakes_2 : decode cX10_shakes 2 = .ok (.if_icmp .lt 9, 3) := by decide +kernel
theorem dX10_shakes_5 : decode cX10_shakes 5 = .ok (.iload_n 1, 1) := by decide +kernel
theorem dX10_shakes_6 : decode cX10_shakes 6 = .ok (.bipush 40, 2) := by decide +kernel
theorem dX10_shakes_8 : decode cX10_shakes 8 = .ok (.if_icmp .le 9, 3) := by decide +kernel
theorem dX10_shakes_11 : decode cX10_shakes 11 = .ok (.aload_n 0, 1) := by decide +kernel
theorem dX10_shakes_12 : decode cX10_shakes 12 = .ok (.iconst 1, 1) := by decide +kernel
theorem dX10_shakes_13 : decode cX10_shakes 13 = .ok (.invokevirtual 68, 3) := by decide +kernel
theorem dX10_shakes_16 : decode cX10_shakes 16 = .ok (.ireturn, 1) := by decide +kernel
theorem dX10_shakes_17 : decode cX10_shakes 17 = .ok (.aload_n 0, 1) := by decide +kernel
theorem dX10_shakes_18 : decode cX10_shakes 18 = .ok (.getfield 10, 3) := by decide +kernel
theorem dX10_shakes_21 : decode cX10_shakes 21 = .ok (.getfield 129, 3) := by decide +kernel
theorem dX10_shakes_24 : decode cX10_shakes 24 = .ok (.iload_n 1, 1) := by decide +kernel
theorem dX10_shakes_25 : decode cX10_shakes 25 = .ok (.iadd, 1) := by decide +kernel
theorem dX10_shakes_26 : decode cX10_shakes 26 = .ok (.sipush 9999, 3) := by decide +kernel
theorem dX10_shakes_29 : decode cX10_shakes 29 = .ok (.if_icmp .le 9, 3) := by decide +kernel
theorem dX10_shakes_32 : decode cX10_shakes 32 = .ok (.aload_n 0, 1) := by decide +kernel
theorem dX10_shakes_33 : decode cX10_shakes 33 = .ok (.iconst 3, 1) := by decide +kernel
theorem dX10_shakes_34 : decode cX10_shakes 34 = .ok (.invokevirtual 68, 3) := by decide +kernel
theorem dX10_shakes_37 : decode cX10_shakes 37 = .ok (.ireturn, 1) := by decide +kernel
theorem dX10_shakes_38 : decode cX10_shakes 38 = .ok (.iconst 0, 1) := by decide +kernel
theorem dX10_shakes_39 : decode cX10_shakes 39 = .ok (.istore_n 2, 1) := by decide +kernel
theorem dX10_shakes_40 : decode cX10_shakes 40 = .ok (.iload_n 2, 1) := by decide +kernel
theorem dX10_shakes_41 : decode cX10_shakes 41 = .ok (.iload_n 1, 1) := by decide +kernel
theorem dX10_shakes_42 : decode cX10_shakes 42 = .ok (.if_icmp .ge 25, 3) := by decide +kernel
theorem dX10_shakes_45 : decode cX10_shakes 45 = .ok (.aload_n 0, 1) := by decide +kernel
theorem dX10_shakes_46 : decode cX10_shakes 46 = .ok (.getfield 10, 3) := by decide +kernel
theorem dX10_shakes_49 : decode cX10_shakes 49 = .ok (.aload_n 0, 1) := by decide +kernel
theorem dX10_shakes_50 : decode cX10_shakes 50 = .ok (.getfield 10, 3) := by decide +kernel
theorem dX10_shakes_53 : decode cX10_shakes 53 = .ok (.invokevirtual 197, 3) := by decide +kernel
theorem dX10_shakes_56 : decode cX10_shakes 56 = .ok (.iconst 3, 1) := by decide +kernel
theorem dX10_shakes_57 : decode cX10_shakes 57 = .ok (.iand, 1) := by decide +kernel
theorem dX10_shakes_58 : decode cX10_shakes 58 = .ok (.invokevirtual 189, 3) := by decide +kernel
theorem dX10_shakes_61 : decode cX10_shakes 61 = .ok (.iinc 2 1, 3) := by decide +kernel
theorem dX10_shakes_64 : decode cX10_shakes 64 = .ok (.goto (-24), 3) := by decide +kernel
theorem dX10_shakes_67 : decode cX10_shakes 67 = .ok (.aload_n 0, 1) := by decide +kernel
theorem dX10_shakes_68 : decode cX10_shakes 68 = .ok (.getfield 10, 3) := by decide +kernel
theorem dX10_shakes_71 : decode cX10_shakes 71 = .ok (.getfield 72, 3) := by decide +kernel
theorem dX10_shakes_74 : decode cX10_shakes 74 = .ok (.invokevirtual 193, 3) := by decide +kernel
theorem dX10_shakes_77 : decode cX10_shakes 77 = .ok (.ireturn, 1) := by decide +kernel
theorem dX10_seed_0 : decode cX10_seed 0 = .ok (.aload_n 0, 1) := by decide +kernel
theorem dX10_seed_1 : decode cX10_seed 1 = .ok (.getfield 10, 3) := by decide +kernel
theorem dX10_seed_4 : decode cX10_seed 4 = .ok (.getfield 200, 3) := by decide +kernel
theorem dX10_seed_7 : decode cX10_seed 7 = .ok (.istore_n 2, 1) := by decide +kernel
theorem dX10_seed_8 : decode cX10_seed 8 = .ok (.aload_n 0, 1) := by decide +kernel
theorem dX10_seed_9 : decode cX10_seed 9 = .ok (.getfield 10, 3) := by decide +kernel
theorem dX10_seed_12 : decode cX10_seed 12 = .ok (.iload_n 1, 1) := by decide +kernel
theorem dX10_seed_13 : decode cX10_seed 13 = .ok (.putfield 200, 3) := by decide +kernel
theorem dX10_seed_16 : decode cX10_seed 16 = .ok (.iload_n 2, 1) := by decide +kernel
theorem dX10_seed_17 : decode cX10_seed 17 = .ok (.ireturn, 1) := by decide +kernel
set_option maxRecDepth 20000 in
theorem ggX10_pull_X10_error : GoodIn wsX10_pull wsX10_error := goodIn_r _ [6, 7, 8, 43, 44, 45, 46, 47, 48, 49, 50, 51] (by decide +kernel) (by decide +kernel)
set_option maxRecDepth 20000 in
theorem gX10_pull_X10_error : GoodIn wsX10_pull (wsV RX10 68 RX10 yX10_error wsX10_error) := goodIn_app (goodIn_of _ (by decide +kernel)) ggX10_pull_X10_error
set_option maxRecDepth 20000 in
theorem ggX10_pull_X1_pullAt : GoodIn wsX10_pull wsX1_pullAt := goodIn_r _ [13, 14, 15, 16, 17, 18, 12, 19, 20, 21, 22, 23, 24, 25, 26, 27, 28, 29, 30, 31, 32, 33, 34, 35, 36, 37, 38, 39, 40, 41, 42, 52, 53, 54, 55, 56, 57, 58, 59, 60, 61, 62, 63, 64, 65, 66, 67, 68, 69, 70, 71] (by decide +kernel) (by decide +kernel)
set_option maxRecDepth 20000 in
theorem gX10_pull_X1_pullAt : GoodIn wsX10_pull (wsV RX10 186 RX1 yX1_pullAt wsX1_pullAt) := goodIn_app (goodIn_of _ (by decide +kernel)) ggX10_pull_X1_pullAt
theorem dX10_pull_0 : decode cX10_pull 0 = .ok (.iload_n 1, 1) := by decide +kernel
theorem dX10_pull_1 : decode cX10_pull 1 = .ok (.ifCond .lt 10, 3) := by decide +kernel
theorem dX10_pull_4 : decode cX10_pull 4 = .ok (.iload_n 1, 1) := by decide +kernel
theorem dX10_pull_5 : decode cX10_pull 5 = .ok (.sipush 9999, 3) := by decide +kernel
theorem dX10_pull_8 : decode cX10_pull 8 = .ok (.if_icmp .le 9, 3) := by decide +kernel
theorem dX10_pull_11 : decode cX10_pull 11 = .ok (.aload_n 0, 1) := by decide +kernel
theorem dX10_pull_12 : decode cX10_pull 12 = .ok (.iconst 1, 1) := by decide +kernel
theorem dX10_pull_13 : decode cX10_pull 13 = .ok (.invokevirtual 68, 3) := by decide +kernel
theorem dX10_pull_16 : decode cX10_pull 16 = .ok (.ireturn, 1) := by decide +kernel
theorem dX10_pull_17 : decode cX10_pull 17 = .ok (.aload_n 0, 1) := by decide +kernel
theorem dX10_pull_18 : decode cX10_pull 18 = .ok (.getfield 10, 3) := by decide +kernel
theorem dX10_pull_21 : decode cX10_pull 21 = .ok (.iload_n 1, 1) := by decide +kernel
theorem dX10_pull_22 : decode cX10_pull 22 = .ok (.invokevirtual 186, 3) := by decide +kernel
theorem dX10_pull_25 : decode cX10_pull 25 = .ok (.ireturn, 1) := by decide +kernel
set_option maxRecDepth 20000 in
theorem ggX10_then_X7_has : GoodIn wsX10_then wsX7_has := goodIn_r _ [9, 10, 139, 140, 141, 142, 143, 144, 145] (by decide +kernel) (by decide +kernel)
set_option maxRecDepth 20000 in
theorem gX10_then_X7_has : GoodIn wsX10_then (wsV RX10 101 RX7 yX7_has wsX7_has) := goodIn_app (goodIn_of _ (by decide +kernel)) ggX10_then_X7_has
set_option maxRecDepth 20000 in
theorem ggX10_then_X10_error : GoodIn wsX10_then wsX10_error := goodIn_r _ [15, 16, 17, 120, 121, 122, 123, 124, 125, 126, 127, 128] (by decide +kernel) (by decide +kernel)
set_option maxRecDepth 20000 in
theorem gX10_then_X10_error : GoodIn wsX10_then (wsV RX10 68 RX10 yX10_error wsX10_error) := goodIn_app (goodIn_of _ (by decide +kernel)) ggX10_then_X10_error
set_option maxRecDepth 20000 in
theorem ggX10_then_X8_foresee : GoodIn wsX10_then wsX8_foresee := goodIn_r _ [22, 23, 24, 25, 26, 27, 28, 29, 30, 31, 32, 33, 34, 35, 36, 37, 38, 39, 40, 41, 42, 43, 44, 45, 46, 47, 48, 49, 50, 51, 52, 53, 54, 55, 56, 57, 146, 147, 148, 149, 150, 129, 130, 131, 132, 133, 134, 135, 136, 137, 138, 139, 140, 141, 142, 143, 144, 145, 151, 152, 153] (by decide +kernel) (by decide +kernel)
set_option maxRecDepth 20000 in
theorem gX10_then_X8_foresee : GoodIn wsX10_then (wsV RX10 203 RX8 yX8_foresee wsX8_foresee) := goodIn_app (goodIn_of _ (by decide +kernel)) ggX10_then_X8_foresee
set_option maxRecDepth 20000 in
theorem ggX10_then_X8_cellBehind : GoodIn wsX10_then wsX8_cellBehind := goodIn_r _ [61, 62, 63, 64, 65, 66, 67, 8, 68, 10, 69, 70, 71, 72, 73, 74, 75, 76, 77, 21, 78, 79, 80, 81, 82, 83, 84, 85, 86, 87, 88, 89, 23, 90, 91, 92, 93, 94, 95, 6, 7, 9, 96, 97, 98, 99, 100, 101, 102, 103, 104, 105, 106, 107, 108, 109, 110, 111, 112, 113, 114, 115, 116, 117, 118, 119, 146, 147, 148, 149, 150, 129, 130, 131, 132, 133, 134, 135, 136, 137, 138, 139, 140, 141, 142, 143, 144, 145] (by decide +kernel) (by decide +kernel)
set_option maxRecDepth 20000 in
theorem gX10_then_X8_cellBehind : GoodIn wsX10_then (wsV RX10 207 RX8 yX8_cellBehind wsX8_cellBehind) := goodIn_app (goodIn_of _ (by decide +kernel)) ggX10_then_X8_cellBehind
theorem dX10_then_0 : decode cX10_then 0 = .ok (.aload_n 0, 1) := by decide +kernel
theorem dX10_then_1 : decode cX10_then 1 = .ok (.getfield 10, 3) := by decide +kernel
theorem dX10_then_4 : decode cX10_then 4 = .ok (.getfield 72, 3) := by decide +kernel
theorem dX10_then_7 : decode cX10_then 7 = .ok (.iload_n 1, 1) := by decide +kernel
theorem dX10_then_8 : decode cX10_then 8 = .ok (.invokevirtual 101, 3) := by decide +kernel
theorem dX10_then_11 : decode cX10_then 11 = .ok (.ifCond .eq 13, 3) := by decide +kernel
theorem dX10_then_14 : decode cX10_then 14 = .ok (.iload_n 2, 1) := by decide +kernel
theorem dX10_then_15 : decode cX10_then 15 = .ok (.ifCond .lt 9, 3) := by decide +kernel
theorem dX10_then_18 : decode cX10_then 18 = .ok (.iload_n 2, 1) := by decide +kernel
theorem dX10_then_19 : decode cX10_then 19 = .ok (.bipush 100, 2) := by decide +kernel
theorem dX10_then_21 : decode cX10_then 21 = .ok (.if_icmp .le 9, 3) := by decide +kernel
theorem dX10_then_24 : decode cX10_then 24 = .ok (.aload_n 0, 1) := by decide +kernel
theorem dX10_then_25 : decode cX10_then 25 = .ok (.iconst 1, 1) := by decide +kernel
theorem dX10_then_26 : decode cX10_then 26 = .ok (.invokevirtual 68, 3) := by decide +kernel
theorem dX10_then_29 : decode cX10_then 29 = .ok (.ireturn, 1) := by decide +kernel
theorem dX10_then_30 : decode cX10_then 30 = .ok (.aload_n 0, 1) := by decide +kernel
theorem dX10_then_31 : decode cX10_then 31 = .ok (.getfield 29, 3) := by decide +kernel
theorem dX10_then_34 : decode cX10_then 34 = .ok (.aload_n 0, 1) := by decide +kernel
theorem dX10_then_35 : decode cX10_then 35 = .ok (.getfield 10, 3) := by decide +kernel
theorem dX10_then_38 : decode cX10_then 38 = .ok (.aload_n 0, 1) := by decide +kernel
theorem dX10_then_39 : decode cX10_then 39 = .ok (.getfield 10, 3) := by decide +kernel
theorem dX10_then_42 : decode cX10_then 42 = .ok (.getfield 129, 3) := by decide +kernel
theorem dX10_then_45 : decode cX10_then 45 = .ok (.iload_n 2, 1) := by decide +kernel
theorem dX10_then_46 : decode cX10_then 46 = .ok (.invokevirtual 203, 3) := by decide +kernel
theorem dX10_then_49 : decode cX10_then 49 = .ok (.aload_n 0, 1) := by decide +kernel
theorem dX10_then_50 : decode cX10_then 50 = .ok (.getfield 29, 3) := by decide +kernel
theorem dX10_then_53 : decode cX10_then 53 = .ok (.aload_n 0, 1) := by decide +kernel
theorem dX10_then_54 : decode cX10_then 54 = .ok (.getfield 10, 3) := by decide +kernel
theorem dX10_then_57 : decode cX10_then 57 = .ok (.iload_n 1, 1) := by decide +kernel
theorem dX10_then_58 : decode cX10_then 58 = .ok (.iload_n 2, 1) := by decide +kernel
theorem dX10_then_59 : decode cX10_then 59 = .ok (.invokevirtual 207, 3) := by decide +kernel
theorem dX10_then_62 : decode cX10_then 62 = .ok (.ireturn, 1) := by decide +kernel
set_option maxRecDepth 20000 in
theorem ggX10_when_X7_has : GoodIn wsX10_when wsX7_has := goodIn_r _ [9, 10, 144, 145, 146, 147, 148, 149, 150] (by decide +kernel) (by decide +kernel)
set_option maxRecDepth 20000 in
theorem gX10_when_X7_has : GoodIn wsX10_when (wsV RX10 101 RX7 yX7_has wsX7_has) := goodIn_app (goodIn_of _ (by decide +kernel)) ggX10_when_X7_has
set_option maxRecDepth 20000 in
theorem ggX10_when_X0_isCell : GoodIn wsX10_when wsX0_isCell := goodIn_r _ [14] (by decide +kernel) (by decide +kernel)
set_option maxRecDepth 20000 in
theorem gX10_when_X0_isCell : GoodIn wsX10_when (va_wsS RX10 62 yX0_isCell wsX0_isCell) := goodIn_app (goodIn_of _ (by decide +kernel)) ggX10_when_X0_isCell
set_option maxRecDepth 20000 in
theorem ggX10_when_X10_error : GoodIn wsX10_when wsX10_error := goodIn_r _ [19, 20, 21, 125, 126, 127, 128, 129, 130, 131, 132, 133] (by decide +kernel) (by decide +kernel)
set_option maxRecDepth 20000 in
theorem gX10_when_X10_error : GoodIn wsX10_when (wsV RX10 68 RX10 yX10_error wsX10_error) := goodIn_app (goodIn_of _ (by decide +kernel)) ggX10_when_X10_error
set_option maxRecDepth 20000 in
theorem ggX10_when_X8_foresee : GoodIn wsX10_when wsX8_foresee := goodIn_r _ [26, 27, 28, 29, 30, 31, 32, 33, 34, 35, 36, 37, 38, 39, 40, 41, 42, 43, 44, 45, 46, 47, 48, 49, 50, 51, 52, 53, 54, 55, 56, 57, 58, 59, 60, 61, 151, 152, 153, 154, 155, 134, 135, 136, 137, 138, 139, 140, 141, 142, 143, 144, 145, 146, 147, 148, 149, 150, 156, 157, 158] (by decide +kernel) (by decide +kernel)
set_option maxRecDepth 20000 in
theorem gX10_when_X8_foresee : GoodIn wsX10_when (wsV RX10 203 RX8 yX8_foresee wsX8_foresee) := goodIn_app (goodIn_of _ (by decide +kernel)) ggX10_when_X8_foresee
set_option maxRecDepth 20000 in
theorem ggX10_when_X8_hoursUntil : GoodIn wsX10_when wsX8_hoursUntil := goodIn_r _ [65, 66, 67, 68, 69, 70, 8, 71, 10, 72, 73, 74, 75, 76, 77, 78, 79, 80, 81, 82, 83, 84, 25, 85, 86, 87, 88, 89, 90, 91, 92, 93, 94, 95, 96, 27, 97, 98, 99, 100, 101, 102, 6, 7, 9, 103, 104, 105, 106, 107, 108, 109, 110, 111, 112, 113, 13, 114, 115, 116, 117, 118, 119, 120, 121, 122, 123, 124, 151, 152, 153, 154, 155, 134, 135, 136, 137, 138, 139, 140, 141, 142, 143, 144, 145, 146, 147, 148, 149, 150] (by decide +kernel) (by decide +kernel)
set_option maxRecDepth 20000 in
theorem gX10_when_X8_hoursUntil : GoodIn wsX10_when (wsV RX10 211 RX8 yX8_hoursUntil wsX8_hoursUntil) := goodIn_app (goodIn_of _ (by decide +kernel)) ggX10_when_X8_hoursUntil
theorem dX10_when_0 : decode cX10_when 0 = .ok (.aload_n 0, 1) := by decide +kernel
theorem dX10_when_1 : decode cX10_when 1 = .ok (.getfield 10, 3) := by decide +kernel
theorem dX10_when_4 : decode cX10_when 4 = .ok (.getfield 72, 3) := by decide +kernel
theorem dX10_when_7 : decode cX10_when 7 = .ok (.iload_n 1, 1) := by decide +kernel
theorem dX10_when_8 : decode cX10_when 8 = .ok (.invokevirtual 101, 3) := by decide +kernel
theorem dX10_when_11 : decode cX10_when 11 = .ok (.ifCond .eq 10, 3) := by decide +kernel
theorem dX10_when_14 : decode cX10_when 14 = .ok (.iload_n 2, 1) := by decide +kernel
theorem dX10_when_15 : decode cX10_when 15 = .ok (.invokestatic 62, 3) := by decide +kernel
theorem dX10_when_18 : decode cX10_when 18 = .ok (.ifCond .ne 9, 3) := by decide +kernel
theorem dX10_when_21 : decode cX10_when 21 = .ok (.aload_n 0, 1) := by decide +kernel
theorem dX10_when_22 : decode cX10_when 22 = .ok (.iconst 1, 1) := by decide +kernel
theorem dX10_when_23 : decode cX10_when 23 = .ok (.invokevirtual 68, 3) := by decide +kernel
theorem dX10_when_26 : decode cX10_when 26 = .ok (.ireturn, 1) := by decide +kernel
theorem dX10_when_27 : decode cX10_when 27 = .ok (.aload_n 0, 1) := by decide +kernel
theorem dX10_when_28 : decode cX10_when 28 = .ok (.getfield 29, 3) := by decide +kernel
theorem dX10_when_31 : decode cX10_when 31 = .ok (.aload_n 0, 1) := by decide +kernel
theorem dX10_when_32 : decode cX10_when 32 = .ok (.getfield 10, 3) := by decide +kernel
theorem dX10_when_35 : decode cX10_when 35 = .ok (.aload_n 0, 1) := by decide +kernel
theorem dX10_when_36 : decode cX10_when 36 = .ok (.getfield 10, 3) := by decide +kernel
theorem dX10_when_39 : decode cX10_when 39 = .ok (.getfield 129, 3) := by decide +kernel
theorem dX10_when_42 : decode cX10_when 42 = .ok (.bipush 100, 2) := by decide +kernel
theorem dX10_when_44 : decode cX10_when 44 = .ok (.invokevirtual 203, 3) := by decide +kernel
theorem dX10_when_47 : decode cX10_when 47 = .ok (.aload_n 0, 1) := by decide +kernel
theorem dX10_when_48 : decode cX10_when 48 = .ok (.getfield 29, 3) := by decide +kernel
theorem dX10_when_51 : decode cX10_when 51 = .ok (.aload_n 0, 1) := by decide +kernel
theorem dX10_when_52 : decode cX10_when 52 = .ok (.getfield 10, 3) := by decide +kernel
theorem dX10_when_55 : decode cX10_when 55 = .ok (.iload_n 1, 1) := by decide +kernel
theorem dX10_when_56 : decode cX10_when 56 = .ok (.iload_n 2, 1) := by decide +kernel
theorem dX10_when_57 : decode cX10_when 57 = .ok (.bipush 100, 2) := by decide +kernel
theorem dX10_when_59 : decode cX10_when 59 = .ok (.invokevirtual 211, 3) := by decide +kernel
theorem dX10_when_62 : decode cX10_when 62 = .ok (.istore_n 3, 1) := by decide +kernel
theorem dX10_when_63 : decode cX10_when 63 = .ok (.iload_n 3, 1) := by decide +kernel
theorem dX10_when_64 : decode cX10_when 64 = .ok (.ifCond .ge 11, 3) := by decide +kernel
theorem dX10_when_67 : decode cX10_when 67 = .ok (.aload_n 0, 1) := by decide +kernel
theorem dX10_when_68 : decode cX10_when 68 = .ok (.iconst 2, 1) := by decide +kernel
theorem dX10_when_69 : decode cX10_when 69 = .ok (.invokevirtual 68, 3) := by decide +kernel
theorem dX10_when_72 : decode cX10_when 72 = .ok (.goto 4, 3) := by decide +kernel
theorem dX10_when_75 : decode cX10_when 75 = .ok (.iload_n 3, 1) := by decide +kernel
theorem dX10_when_76 : decode cX10_when 76 = .ok (.ireturn, 1) := by decide +kernel
set_option maxRecDepth 20000 in
theorem ggX10_farthest_X10_error : GoodIn wsX10_farthest wsX10_error := goodIn_r _ [11, 12, 13, 126, 127, 128, 129, 130, 131, 132, 133, 134] (by decide +kernel) (by decide +kernel)
set_option maxRecDepth 20000 in
theorem gX10_farthest_X10_error : GoodIn wsX10_farthest (wsV RX10 68 RX10 yX10_error wsX10_error) := goodIn_app (goodIn_of _ (by decide +kernel)) ggX10_farthest_X10_error
set_option maxRecDepth 20000 in
theorem ggX10_farthest_X8_foresee : GoodIn wsX10_farthest wsX8_foresee := goodIn_r _ [18, 19, 20, 21, 22, 23, 24, 25, 26, 27, 28, 29, 30, 31, 32, 33, 34, 35, 36, 37, 38, 39, 40, 41, 42, 43, 44, 45, 46, 47, 48, 49, 50, 51, 52, 53, 145, 146, 147, 148, 149, 135, 136, 137, 138, 139, 140, 141, 142, 143, 144, 150, 151, 152, 153, 154, 155, 156, 157, 158, 159] (by decide +kernel) (by decide +kernel)
set_option maxRecDepth 20000 in
theorem gX10_farthest_X8_foresee : GoodIn wsX10_farthest (wsV RX10 203 RX8 yX8_foresee wsX8_foresee) := goodIn_app (goodIn_of _ (by decide +kernel)) ggX10_farthest_X8_foresee
set_option maxRecDepth 20000 in
theorem ggX10_farthest_X8_fallFarthest : GoodIn wsX10_farthest wsX8_fallFarthest := goodIn_r _ [57, 58, 59, 60, 61, 62, 63, 64, 65, 66, 67, 68, 69, 70, 71, 72, 73, 74, 75, 76, 77, 17, 78, 79, 80, 81, 82, 83, 84, 85, 86, 87, 88, 89, 19, 90, 91, 92, 93, 94, 95, 96, 97, 98, 99, 100, 101, 102, 103, 104, 105, 106, 107, 108, 109, 110, 111, 112, 113, 114, 115, 116, 117, 118, 119, 120, 121, 122, 123, 124, 125, 145, 146, 147, 148, 149, 135, 136, 137, 138, 139, 140, 141, 142, 143, 144, 150, 151, 152, 153, 154, 155, 156] (by decide +kernel) (by decide +kernel)
set_option maxRecDepth 20000 in
theorem gX10_farthest_X8_fallFarthest : GoodIn wsX10_farthest (wsV RX10 215 RX8 yX8_fallFarthest wsX8_fallFarthest) := goodIn_app (goodIn_of _ (by decide +kernel)) ggX10_farthest_X8_fallFarthest
theorem dX10_farthest_0 : decode cX10_farthest 0 = .ok (.iload_n 1, 1) := by decide +kernel
theorem dX10_farthest_1 : decode cX10_farthest 1 = .ok (.iconst 1, 1) := by decide +kernel
theorem dX10_farthest_2 : decode cX10_farthest 2 = .ok (.if_icmp .lt 18, 3) := by decide +kernel
theorem dX10_farthest_5 : decode cX10_farthest 5 = .ok (.iload_n 1, 1) := by decide +kernel
theorem dX10_farthest_6 : decode cX10_farthest 6 = .ok (.bipush 60, 2) := by decide +kernel
theorem dX10_farthest_8 : decode cX10_farthest 8 = .ok (.if_icmp .gt 12, 3) := by decide +kernel
theorem dX10_farthest_11 : decode cX10_farthest 11 = .ok (.iload_n 2, 1) := by decide +kernel
theorem dX10_farthest_12 : decode cX10_farthest 12 = .ok (.ifCond .lt 8, 3) := by decide +kernel
theorem dX10_farthest_15 : decode cX10_farthest 15 = .ok (.iload_n 2, 1) := by decide +kernel
theorem dX10_farthest_16 : decode cX10_farthest 16 = .ok (.iconst 2, 1) := by decide +kernel
theorem dX10_farthest_17 : decode cX10_farthest 17 = .ok (.if_icmp .le 9, 3) := by decide +kernel
theorem dX10_farthest_20 : decode cX10_farthest 20 = .ok (.aload_n 0, 1) := by decide +kernel
theorem dX10_farthest_21 : decode cX10_farthest 21 = .ok (.iconst 1, 1) := by decide +kernel
theorem dX10_farthest_22 : decode cX10_farthest 22 = .ok (.invokevirtual 68, 3) := by decide +kernel
theorem dX10_farthest_25 : decode cX10_farthest 25 = .ok (.ireturn, 1) := by decide +kernel
theorem dX10_farthest_26 : decode cX10_farthest 26 = .ok (.aload_n 0, 1) := by decide +kernel
theorem dX10_farthest_27 : decode cX10_farthest 27 = .ok (.getfield 29, 3) := by decide +kernel
theorem dX10_farthest_30 : decode cX10_farthest 30 = .ok (.aload_n 0, 1) := by decide +kernel
theorem dX10_farthest_31 : decode cX10_farthest 31 = .ok (.getfield 10, 3) := by decide +kernel
theorem dX10_farthest_34 : decode cX10_farthest 34 = .ok (.aload_n 0, 1) := by decide +kernel
theorem dX10_farthest_35 : decode cX10_farthest 35 = .ok (.getfield 10, 3) := by decide +kernel
theorem dX10_farthest_38 : decode cX10_farthest 38 = .ok (.getfield 129, 3) := by decide +kernel
theorem dX10_farthest_41 : decode cX10_farthest 41 = .ok (.iload_n 1, 1) := by decide +kernel
theorem dX10_farthest_42 : decode cX10_farthest 42 = .ok (.invokevirtual 203, 3) := by decide +kernel
theorem dX10_farthest_45 : decode cX10_farthest 45 = .ok (.aload_n 0, 1) := by decide +kernel
theorem dX10_farthest_46 : decode cX10_farthest 46 = .ok (.getfield 29, 3) := by decide +kernel
theorem dX10_farthest_49 : decode cX10_farthest 49 = .ok (.aload_n 0, 1) := by decide +kernel
theorem dX10_farthest_50 : decode cX10_farthest 50 = .ok (.getfield 10, 3) := by decide +kernel
theorem dX10_farthest_53 : decode cX10_farthest 53 = .ok (.iload_n 1, 1) := by decide +kernel
theorem dX10_farthest_54 : decode cX10_farthest 54 = .ok (.invokevirtual 215, 3) := by decide +kernel
theorem dX10_farthest_57 : decode cX10_farthest 57 = .ok (.iload_n 2, 1) := by decide +kernel
theorem dX10_farthest_58 : decode cX10_farthest 58 = .ok (.ifCond .ne 11, 3) := by decide +kernel
theorem dX10_farthest_61 : decode cX10_farthest 61 = .ok (.aload_n 0, 1) := by decide +kernel
theorem dX10_farthest_62 : decode cX10_farthest 62 = .ok (.getfield 29, 3) := by decide +kernel
theorem dX10_farthest_65 : decode cX10_farthest 65 = .ok (.getfield 219, 3) := by decide +kernel
theorem dX10_farthest_68 : decode cX10_farthest 68 = .ok (.ireturn, 1) := by decide +kernel
theorem dX10_farthest_69 : decode cX10_farthest 69 = .ok (.iload_n 2, 1) := by decide +kernel
theorem dX10_farthest_70 : decode cX10_farthest 70 = .ok (.iconst 1, 1) := by decide +kernel
theorem dX10_farthest_71 : decode cX10_farthest 71 = .ok (.if_icmp .ne 13, 3) := by decide +kernel
theorem dX10_farthest_74 : decode cX10_farthest 74 = .ok (.aload_n 0, 1) := by decide +kernel
theorem dX10_farthest_75 : decode cX10_farthest 75 = .ok (.getfield 29, 3) := by decide +kernel
theorem dX10_farthest_78 : decode cX10_farthest 78 = .ok (.getfield 222, 3) := by decide +kernel
theorem dX10_farthest_81 : decode cX10_farthest 81 = .ok (.goto 10, 3) := by decide +kernel
theorem dX10_farthest_84 : decode cX10_farthest 84 = .ok (.aload_n 0, 1) := by decide +kernel
theorem dX10_farthest_85 : decode cX10_farthest 85 = .ok (.getfield 29, 3) := by decide +kernel
theorem dX10_farthest_88 : decode cX10_farthest 88 = .ok (.getfield 225, 3) := by decide +kernel
theorem dX10_farthest_91 : decode cX10_farthest 91 = .ok (.ireturn, 1) := by decide +kernel
set_option maxRecDepth 20000 in
theorem ggX10_screws_X10_error : GoodIn wsX10_screws wsX10_error := goodIn_r _ [10, 11, 12, 125, 126, 127, 128, 129, 130, 131, 132, 133] (by decide +kernel) (by decide +kernel)
set_option maxRecDepth 20000 in
theorem gX10_screws_X10_error : GoodIn wsX10_screws (wsV RX10 68 RX10 yX10_error wsX10_error) := goodIn_app (goodIn_of _ (by decide +kernel)) ggX10_screws_X10_error
set_option maxRecDepth 20000 in
theorem ggX10_screws_X8_foresee : GoodIn wsX10_screws wsX8_foresee := goodIn_r _ [17, 18, 19, 20, 21, 22, 23, 24, 25, 26, 27, 28, 29, 30, 31, 32, 33, 34, 35, 36, 37, 38, 39, 40, 41, 42, 43, 44, 45, 46, 47, 48, 49, 50, 51, 52, 151, 152, 153, 154, 155, 134, 135, 136, 137, 138, 139, 140, 141, 142, 143, 144, 145, 146, 147, 148, 149, 150, 156, 157, 158] (by decide +kernel) (by decide +kernel)
set_option maxRecDepth 20000 in
theorem gX10_screws_X8_foresee : GoodIn wsX10_screws (wsV RX10 203 RX8 yX8_foresee wsX8_foresee) := goodIn_app (goodIn_of _ (by decide +kernel)) ggX10_screws_X8_foresee
set_option maxRecDepth 20000 in
theorem ggX10_screws_J6_bitCount_0f7a4 : GoodIn wsX10_screws wsJ6_bitCount_0f7a4 := goodIn_r _ [56, 57, 58, 59] (by decide +kernel) (by decide +kernel)
set_option maxRecDepth 20000 in
theorem gX10_screws_J6_bitCount_0f7a4 : GoodIn wsX10_screws (va_wsS RX10 231 yJ6_bitCount_0f7a4 wsJ6_bitCount_0f7a4) := goodIn_app (goodIn_of _ (by decide +kernel)) ggX10_screws_J6_bitCount_0f7a4
set_option maxRecDepth 20000 in
theorem ggX10_screws_X8_staysWithin : GoodIn wsX10_screws wsX8_staysWithin := goodIn_r _ [63, 64, 65, 66, 67, 68, 69, 70, 71, 72, 73, 74, 75, 76, 77, 78, 79, 80, 16, 81, 82, 83, 84, 85, 86, 87, 88, 89, 90, 91, 92, 18, 93, 94, 95, 96, 97, 98, 99, 100, 101, 102, 103, 104, 105, 106, 107, 108, 109, 110, 111, 112, 113, 114, 115, 116, 117, 118, 119, 120, 121, 122, 123, 124, 151, 152, 153, 154, 155, 134, 135, 136, 137, 138, 139, 140, 141, 142, 143, 144, 145, 146, 147, 148, 149, 150] (by decide +kernel) (by decide +kernel)
set_option maxRecDepth 20000 in
theorem gX10_screws_X8_staysWithin : GoodIn wsX10_screws (wsV RX10 236 RX8 yX8_staysWithin wsX8_staysWithin) := goodIn_app (goodIn_of _ (by decide +kernel)) ggX10_screws_X8_staysWithin
theorem dX10_screws_0 : decode cX10_screws 0 = .ok (.iload_n 1, 1) := by decide +kernel
theorem dX10_screws_1 : decode cX10_screws 1 = .ok (.iconst 1, 1) := by decide +kernel
theorem dX10_screws_2 : decode cX10_screws 2 = .ok (.if_icmp .lt 27, 3) := by decide +kernel
theorem dX10_screws_5 : decode cX10_screws 5 = .ok (.iload_n 1, 1) := by decide +kernel
theorem dX10_screws_6 : decode cX10_screws 6 = .ok (.bipush 60, 2) := by decide +kernel
theorem dX10_screws_8 : decode cX10_screws 8 = .ok (.if_icmp .gt 21, 3) := by decide +kernel
theorem dX10_screws_11 : decode cX10_screws 11 = .ok (.iload_n 2, 1) := by decide +kernel
theorem dX10_screws_12 : decode cX10_screws 12 = .ok (.ifCond .lt 17, 3) := by decide +kernel
theorem dX10_screws_15 : decode cX10_screws 15 = .ok (.iload_n 2, 1) := by decide +kernel
theorem dX10_screws_16 : decode cX10_screws 16 = .ok (.iconst 5, 1) := by decide +kernel
theorem dX10_screws_17 : decode cX10_screws 17 = .ok (.if_icmp .gt 12, 3) := by decide +kernel
theorem dX10_screws_20 : decode cX10_screws 20 = .ok (.iload_n 3, 1) := by decide +kernel
theorem dX10_screws_21 : decode cX10_screws 21 = .ok (.ifCond .lt 8, 3) := by decide +kernel
theorem dX10_screws_24 : decode cX10_screws 24 = .ok (.iload_n 3, 1) := by decide +kernel
theorem dX10_screws_25 : decode cX10_screws 25 = .ok (.iconst 1, 1) := by decide +kernel
theorem dX10_screws_26 : decode cX10_screws 26 = .ok (.if_icmp .le 9, 3) := by decide +kernel
theorem dX10_screws_29 : decode cX10_screws 29 = .ok (.aload_n 0, 1) := by decide +kernel
theorem dX10_screws_30 : decode cX10_screws 30 = .ok (.iconst 1, 1) := by decide +kernel
theorem dX10_screws_31 : decode cX10_screws 31 = .ok (.invokevirtual 68, 3) := by decide +kernel
theorem dX10_screws_34 : decode cX10_screws 34 = .ok (.ireturn, 1) := by decide +kernel
theorem dX10_screws_35 : decode cX10_screws 35 = .ok (.aload_n 0, 1) := by decide +kernel
theorem dX10_screws_36 : decode cX10_screws 36 = .ok (.getfield 29, 3) := by decide +kernel
theorem dX10_screws_39 : decode cX10_screws 39 = .ok (.aload_n 0, 1) := by decide +kernel
theorem dX10_screws_40 : decode cX10_screws 40 = .ok (.getfield 10, 3) := by decide +kernel
theorem dX10_screws_43 : decode cX10_screws 43 = .ok (.aload_n 0, 1) := by decide +kernel
theorem dX10_screws_44 : decode cX10_screws 44 = .ok (.getfield 10, 3) := by decide +kernel
theorem dX10_screws_47 : decode cX10_screws 47 = .ok (.getfield 129, 3) := by decide +kernel
theorem dX10_screws_50 : decode cX10_screws 50 = .ok (.iload_n 1, 1) := by decide +kernel
theorem dX10_screws_51 : decode cX10_screws 51 = .ok (.invokevirtual 203, 3) := by decide +kernel
theorem dX10_screws_54 : decode cX10_screws 54 = .ok (.aload_n 0, 1) := by decide +kernel
theorem dX10_screws_55 : decode cX10_screws 55 = .ok (.getfield 10, 3) := by decide +kernel
theorem dX10_screws_58 : decode cX10_screws 58 = .ok (.getfield 72, 3) := by decide +kernel
theorem dX10_screws_61 : decode cX10_screws 61 = .ok (.getfield 228, 3) := by decide +kernel
theorem dX10_screws_64 : decode cX10_screws 64 = .ok (.istore 4, 2) := by decide +kernel
theorem dX10_screws_66 : decode cX10_screws 66 = .ok (.iconst 1, 1) := by decide +kernel
theorem dX10_screws_67 : decode cX10_screws 67 = .ok (.iload 4, 2) := by decide +kernel
theorem dX10_screws_69 : decode cX10_screws 69 = .ok (.ishl, 1) := by decide +kernel
theorem dX10_screws_70 : decode cX10_screws 70 = .ok (.iconst 1, 1) := by decide +kernel
theorem dX10_screws_71 : decode cX10_screws 71 = .ok (.isub, 1) := by decide +kernel
theorem dX10_screws_72 : decode cX10_screws 72 = .ok (.istore 5, 2) := by decide +kernel
theorem dX10_screws_74 : decode cX10_screws 74 = .ok (.iconst 0, 1) := by decide +kernel
theorem dX10_screws_75 : decode cX10_screws 75 = .ok (.istore 6, 2) := by decide +kernel
theorem dX10_screws_77 : decode cX10_screws 77 = .ok (.iload 6, 2) := by decide +kernel
theorem dX10_screws_79 : decode cX10_screws 79 = .ok (.iload 4, 2) := by decide +kernel
theorem dX10_screws_81 : decode cX10_screws 81 = .ok (.if_icmp .ge 65, 3) := by decide +kernel
theorem dX10_screws_84 : decode cX10_screws 84 = .ok (.iconst 0, 1) := by decide +kernel
theorem dX10_screws_85 : decode cX10_screws 85 = .ok (.istore 7, 2) := by decide +kernel
theorem dX10_screws_87 : decode cX10_screws 87 = .ok (.iload 7, 2) := by decide +kernel
theorem dX10_screws_89 : decode cX10_screws 89 = .ok (.iload 5, 2) := by decide +kernel
theorem dX10_screws_91 : decode cX10_screws 91 = .ok (.if_icmp .ge 49, 3) := by decide +kernel
theorem dX10_screws_94 : decode cX10_screws 94 = .ok (.iload 7, 2) := by decide +kernel
theorem dX10_screws_96 : decode cX10_screws 96 = .ok (.invokestatic 231, 3) := by decide +kernel
theorem dX10_screws_99 : decode cX10_screws 99 = .ok (.iload 6, 2) := by decide +kernel
theorem dX10_screws_101 : decode cX10_screws 101 = .ok (.if_icmp .ne 33, 3) := by decide +kernel
theorem dX10_screws_104 : decode cX10_screws 104 = .ok (.aload_n 0, 1) := by decide +kernel
theorem dX10_screws_105 : decode cX10_screws 105 = .ok (.getfield 29, 3) := by decide +kernel
theorem dX10_screws_108 : decode cX10_screws 108 = .ok (.aload_n 0, 1) := by decide +kernel
theorem dX10_screws_109 : decode cX10_screws 109 = .ok (.getfield 10, 3) := by decide +kernel
theorem dX10_screws_112 : decode cX10_screws 112 = .ok (.iload_n 1, 1) := by decide +kernel
theorem dX10_screws_113 : decode cX10_screws 113 = .ok (.iload_n 2, 1) := by decide +kernel
theorem dX10_screws_114 : decode cX10_screws 114 = .ok (.iload 7, 2) := by decide +kernel
theorem dX10_screws_116 : decode cX10_screws 116 = .ok (.invokevirtual 236, 3) := by decide +kernel
theorem dX10_screws_119 : decode cX10_screws 119 = .ok (.ifCond .eq 15, 3) := by decide +kernel
theorem dX10_screws_122 : decode cX10_screws 122 = .ok (.iload_n 3, 1) := by decide +kernel
theorem dX10_screws_123 : decode cX10_screws 123 = .ok (.ifCond .ne 8, 3) := by decide +kernel
theorem dX10_screws_126 : decode cX10_screws 126 = .ok (.iload 6, 2) := by decide +kernel
theorem dX10_screws_128 : decode cX10_screws 128 = .ok (.goto 5, 3) := by decide +kernel
theorem dX10_screws_131 : decode cX10_screws 131 = .ok (.iload 7, 2) := by decide +kernel
theorem dX10_screws_133 : decode cX10_screws 133 = .ok (.ireturn, 1) := by decide +kernel
theorem dX10_screws_134 : decode cX10_screws 134 = .ok (.iinc 7 1, 3) := by decide +kernel
theorem dX10_screws_137 : decode cX10_screws 137 = .ok (.goto (-50), 3) := by decide +kernel
theorem dX10_screws_140 : decode cX10_screws 140 = .ok (.iinc 6 1, 3) := by decide +kernel
theorem dX10_screws_143 : decode cX10_screws 143 = .ok (.goto (-66), 3) := by decide +kernel
theorem dX10_screws_146 : decode cX10_screws 146 = .ok (.iload_n 3, 1) := by decide +kernel
theorem dX10_screws_147 : decode cX10_screws 147 = .ok (.ifCond .ne 8, 3) := by decide +kernel
theorem dX10_screws_150 : decode cX10_screws 150 = .ok (.iload 4, 2) := by decide +kernel
theorem dX10_screws_152 : decode cX10_screws 152 = .ok (.goto 5, 3) := by decide +kernel
theorem dX10_screws_155 : decode cX10_screws 155 = .ok (.iload 5, 2) := by decide +kernel
theorem dX10_screws_157 : decode cX10_screws 157 = .ok (.ireturn, 1) := by decide +kernel
set_option maxRecDepth 20000 in
theorem ggX10_lands_X0_isCell : GoodIn wsX10_lands wsX0_isCell := goodIn_r _ [6] (by decide +kernel) (by decide +kernel)
set_option maxRecDepth 20000 in
theorem gX10_lands_X0_isCell : GoodIn wsX10_lands (va_wsS RX10 62 yX0_isCell wsX0_isCell) := goodIn_app (goodIn_of _ (by decide +kernel)) ggX10_lands_X0_isCell
set_option maxRecDepth 20000 in
theorem ggX10_lands_X0_isWay : GoodIn wsX10_lands wsX0_isWay := goodIn_r _ [9] (by decide +kernel) (by decide +kernel)
set_option maxRecDepth 20000 in
theorem gX10_lands_X0_isWay : GoodIn wsX10_lands (va_wsS RX10 240 yX0_isWay wsX0_isWay) := goodIn_app (goodIn_of _ (by decide +kernel)) ggX10_lands_X0_isWay
set_option maxRecDepth 20000 in
theorem ggX10_lands_X10_error : GoodIn wsX10_lands wsX10_error := goodIn_r _ [14, 15, 16, 33, 34, 35, 36, 37, 38, 39, 40, 41] (by decide +kernel) (by decide +kernel)
set_option maxRecDepth 20000 in
theorem gX10_lands_X10_error : GoodIn wsX10_lands (wsV RX10 68 RX10 yX10_error wsX10_error) := goodIn_app (goodIn_of _ (by decide +kernel)) ggX10_lands_X10_error
set_option maxRecDepth 20000 in
theorem ggX10_lands_X1_wallAt : GoodIn wsX10_lands wsX1_wallAt := goodIn_r _ [21, 22, 23, 24, 5, 25, 42, 43, 44, 45, 46, 47, 48, 49, 50, 51] (by decide +kernel) (by decide +kernel)
set_option maxRecDepth 20000 in
theorem gX10_lands_X1_wallAt : GoodIn wsX10_lands (wsV RX10 81 RX1 yX1_wallAt wsX1_wallAt) := goodIn_app (goodIn_of _ (by decide +kernel)) ggX10_lands_X1_wallAt
set_option maxRecDepth 20000 in
theorem ggX10_lands_X0_rest : GoodIn wsX10_lands wsX0_rest := goodIn_r _ [28, 29, 30, 5, 31, 32, 24, 25] (by decide +kernel) (by decide +kernel)
set_option maxRecDepth 20000 in
theorem gX10_lands_X0_rest : GoodIn wsX10_lands (va_wsS RX10 247 yX0_rest wsX0_rest) := goodIn_app (goodIn_of _ (by decide +kernel)) ggX10_lands_X0_rest
theorem dX10_lands_0 : decode cX10_lands 0 = .ok (.iload_n 1, 1) := by decide +kernel
theorem dX10_lands_1 : decode cX10_lands 1 = .ok (.invokestatic 62, 3) := by decide +kernel
theorem dX10_lands_4 : decode cX10_lands 4 = .ok (.ifCond .eq 10, 3) := by decide +kernel
theorem dX10_lands_7 : decode cX10_lands 7 = .ok (.iload_n 2, 1) := by decide +kernel
theorem dX10_lands_8 : decode cX10_lands 8 = .ok (.invokestatic 240, 3) := by decide +kernel
theorem dX10_lands_11 : decode cX10_lands 11 = .ok (.ifCond .ne 9, 3) := by decide +kernel
theorem dX10_lands_14 : decode cX10_lands 14 = .ok (.aload_n 0, 1) := by decide +kernel
theorem dX10_lands_15 : decode cX10_lands 15 = .ok (.iconst 1, 1) := by decide +kernel
theorem dX10_lands_16 : decode cX10_lands 16 = .ok (.invokevirtual 68, 3) := by decide +kernel
theorem dX10_lands_19 : decode cX10_lands 19 = .ok (.ireturn, 1) := by decide +kernel
theorem dX10_lands_20 : decode cX10_lands 20 = .ok (.aload_n 0, 1) := by decide +kernel
theorem dX10_lands_21 : decode cX10_lands 21 = .ok (.getfield 10, 3) := by decide +kernel
theorem dX10_lands_24 : decode cX10_lands 24 = .ok (.iload_n 1, 1) := by decide +kernel
theorem dX10_lands_25 : decode cX10_lands 25 = .ok (.invokevirtual 81, 3) := by decide +kernel
theorem dX10_lands_28 : decode cX10_lands 28 = .ok (.iconst 1, 1) := by decide +kernel
theorem dX10_lands_29 : decode cX10_lands 29 = .ok (.if_icmp .ne 9, 3) := by decide +kernel
theorem dX10_lands_32 : decode cX10_lands 32 = .ok (.aload_n 0, 1) := by decide +kernel
theorem dX10_lands_33 : decode cX10_lands 33 = .ok (.iconst 3, 1) := by decide +kernel
theorem dX10_lands_34 : decode cX10_lands 34 = .ok (.invokevirtual 68, 3) := by decide +kernel
theorem dX10_lands_37 : decode cX10_lands 37 = .ok (.ireturn, 1) := by decide +kernel
theorem dX10_lands_38 : decode cX10_lands 38 = .ok (.aload_n 0, 1) := by decide +kernel
theorem dX10_lands_39 : decode cX10_lands 39 = .ok (.getfield 10, 3) := by decide +kernel
theorem dX10_lands_42 : decode cX10_lands 42 = .ok (.getfield 243, 3) := by decide +kernel
theorem dX10_lands_45 : decode cX10_lands 45 = .ok (.iload_n 1, 1) := by decide +kernel
theorem dX10_lands_46 : decode cX10_lands 46 = .ok (.iload_n 2, 1) := by decide +kernel
theorem dX10_lands_47 : decode cX10_lands 47 = .ok (.invokestatic 247, 3) := by decide +kernel
theorem dX10_lands_50 : decode cX10_lands 50 = .ok (.ireturn, 1) := by decide +kernel
set_option maxRecDepth 20000 in
theorem ggX10_sources_X0_isCell : GoodIn wsX10_sources wsX0_isCell := goodIn_r _ [7] (by decide +kernel) (by decide +kernel)
set_option maxRecDepth 20000 in
theorem gX10_sources_X0_isCell : GoodIn wsX10_sources (va_wsS RX10 62 yX0_isCell wsX0_isCell) := goodIn_app (goodIn_of _ (by decide +kernel)) ggX10_sources_X0_isCell
set_option maxRecDepth 20000 in
theorem ggX10_sources_X0_isWay : GoodIn wsX10_sources wsX0_isWay := goodIn_r _ [10] (by decide +kernel) (by decide +kernel)
set_option maxRecDepth 20000 in
theorem gX10_sources_X0_isWay : GoodIn wsX10_sources (va_wsS RX10 240 yX0_isWay wsX0_isWay) := goodIn_app (goodIn_of _ (by decide +kernel)) ggX10_sources_X0_isWay
set_option maxRecDepth 20000 in
theorem ggX10_sources_X10_error : GoodIn wsX10_sources wsX10_error := goodIn_r _ [15, 16, 17, 50, 51, 52, 53, 54, 55, 56, 57, 58] (by decide +kernel) (by decide +kernel)
set_option maxRecDepth 20000 in
theorem gX10_sources_X10_error : GoodIn wsX10_sources (wsV RX10 68 RX10 yX10_error wsX10_error) := goodIn_app (goodIn_of _ (by decide +kernel)) ggX10_sources_X10_error
set_option maxRecDepth 20000 in
theorem ggX10_sources_X1_wallAt : GoodIn wsX10_sources wsX1_wallAt := goodIn_r _ [22, 23, 24, 25, 6, 26, 59, 60, 61, 62, 63, 64, 65, 66, 67, 68] (by decide +kernel) (by decide +kernel)
set_option maxRecDepth 20000 in
theorem gX10_sources_X1_wallAt : GoodIn wsX10_sources (wsV RX10 81 RX1 yX1_wallAt wsX1_wallAt) := goodIn_app (goodIn_of _ (by decide +kernel)) ggX10_sources_X1_wallAt
set_option maxRecDepth 20000 in
theorem ggX10_sources_X3_learn : GoodIn wsX10_sources wsX3_learn := goodIn_r _ [31, 32, 33, 34, 35, 6, 36, 37, 38, 39, 40, 25, 26, 69, 70] (by decide +kernel) (by decide +kernel)
set_option maxRecDepth 20000 in
theorem gX10_sources_X3_learn : GoodIn wsX10_sources (wsV RX10 251 RX3 yX3_learn wsX3_learn) := goodIn_app (goodIn_of _ (by decide +kernel)) ggX10_sources_X3_learn
set_option maxRecDepth 20000 in
theorem ggX10_sources_X3_gather : GoodIn wsX10_sources wsX3_gather := goodIn_r _ [44, 32, 45, 25, 6, 26, 46, 47, 48, 30, 49, 33, 69, 70] (by decide +kernel) (by decide +kernel)
set_option maxRecDepth 20000 in
theorem gX10_sources_X3_gather : GoodIn wsX10_sources (wsV RX10 254 RX3 yX3_gather wsX3_gather) := goodIn_app (goodIn_of _ (by decide +kernel)) ggX10_sources_X3_gather
theorem dX10_sources_0 : decode cX10_sources 0 = .ok (.iload_n 1, 1) := by decide +kernel
theorem dX10_sources_1 : decode cX10_sources 1 = .ok (.invokestatic 62, 3) := by decide +kernel
theorem dX10_sources_4 : decode cX10_sources 4 = .ok (.ifCond .eq 10, 3) := by decide +kernel
theorem dX10_sources_7 : decode cX10_sources 7 = .ok (.iload_n 2, 1) := by decide +kernel
theorem dX10_sources_8 : decode cX10_sources 8 = .ok (.invokestatic 240, 3) := by decide +kernel
theorem dX10_sources_11 : decode cX10_sources 11 = .ok (.ifCond .ne 10, 3) := by decide +kernel
theorem dX10_sources_14 : decode cX10_sources 14 = .ok (.aload_n 0, 1) := by decide +kernel
theorem dX10_sources_15 : decode cX10_sources 15 = .ok (.iconst 1, 1) := by decide +kernel
theorem dX10_sources_16 : decode cX10_sources 16 = .ok (.invokevirtual 68, 3) := by decide +kernel
theorem dX10_sources_19 : decode cX10_sources 19 = .ok (.i2l, 1) := by decide +kernel
theorem dX10_sources_20 : decode cX10_sources 20 = .ok (.lreturn, 1) := by decide +kernel
theorem dX10_sources_21 : decode cX10_sources 21 = .ok (.aload_n 0, 1) := by decide +kernel
theorem dX10_sources_22 : decode cX10_sources 22 = .ok (.getfield 10, 3) := by decide +kernel
theorem dX10_sources_25 : decode cX10_sources 25 = .ok (.iload_n 1, 1) := by decide +kernel
theorem dX10_sources_26 : decode cX10_sources 26 = .ok (.invokevirtual 81, 3) := by decide +kernel
theorem dX10_sources_29 : decode cX10_sources 29 = .ok (.iconst 1, 1) := by decide +kernel
theorem dX10_sources_30 : decode cX10_sources 30 = .ok (.if_icmp .ne 10, 3) := by decide +kernel
theorem dX10_sources_33 : decode cX10_sources 33 = .ok (.aload_n 0, 1) := by decide +kernel
theorem dX10_sources_34 : decode cX10_sources 34 = .ok (.iconst 3, 1) := by decide +kernel
theorem dX10_sources_35 : decode cX10_sources 35 = .ok (.invokevirtual 68, 3) := by decide +kernel
theorem dX10_sources_38 : decode cX10_sources 38 = .ok (.i2l, 1) := by decide +kernel
theorem dX10_sources_39 : decode cX10_sources 39 = .ok (.lreturn, 1) := by decide +kernel
theorem dX10_sources_40 : decode cX10_sources 40 = .ok (.aload_n 0, 1) := by decide +kernel
theorem dX10_sources_41 : decode cX10_sources 41 = .ok (.getfield 36, 3) := by decide +kernel
theorem dX10_sources_44 : decode cX10_sources 44 = .ok (.aload_n 0, 1) := by decide +kernel
theorem dX10_sources_45 : decode cX10_sources 45 = .ok (.getfield 10, 3) := by decide +kernel
theorem dX10_sources_48 : decode cX10_sources 48 = .ok (.getfield 243, 3) := by decide +kernel
theorem dX10_sources_51 : decode cX10_sources 51 = .ok (.invokevirtual 251, 3) := by decide +kernel
theorem dX10_sources_54 : decode cX10_sources 54 = .ok (.aload_n 0, 1) := by decide +kernel
theorem dX10_sources_55 : decode cX10_sources 55 = .ok (.getfield 36, 3) := by decide +kernel
theorem dX10_sources_58 : decode cX10_sources 58 = .ok (.lconst 1, 1) := by decide +kernel
theorem dX10_sources_59 : decode cX10_sources 59 = .ok (.iload_n 1, 1) := by decide +kernel
theorem dX10_sources_60 : decode cX10_sources 60 = .ok (.lshl, 1) := by decide +kernel
theorem dX10_sources_61 : decode cX10_sources 61 = .ok (.iload_n 2, 1) := by decide +kernel
theorem dX10_sources_62 : decode cX10_sources 62 = .ok (.invokevirtual 254, 3) := by decide +kernel
theorem dX10_sources_65 : decode cX10_sources 65 = .ok (.lreturn, 1) := by decide +kernel
set_option maxRecDepth 20000 in
theorem ggX10_rooms_X0_isCell : GoodIn wsX10_rooms wsX0_isCell := goodIn_r _ [9] (by decide +kernel) (by decide +kernel)
set_option maxRecDepth 20000 in
theorem gX10_rooms_X0_isCell : GoodIn wsX10_rooms (va_wsS RX10 62 yX0_isCell wsX0_isCell) := goodIn_app (goodIn_of _ (by decide +kernel)) ggX10_rooms_X0_isCell
set_option maxRecDepth 20000 in
theorem ggX10_rooms_X10_error : GoodIn wsX10_rooms wsX10_error := goodIn_r _ [14, 15, 16, 92, 93, 94, 95, 96, 97, 98, 99, 100] (by decide +kernel) (by decide +kernel)
set_option maxRecDepth 20000 in
theorem gX10_rooms_X10_error : GoodIn wsX10_rooms (wsV RX10 68 RX10 yX10_error wsX10_error) := goodIn_app (goodIn_of _ (by decide +kernel)) ggX10_rooms_X10_error
set_option maxRecDepth 20000 in
theorem ggX10_rooms_X1_wallAt : GoodIn wsX10_rooms wsX1_wallAt := goodIn_r _ [21, 22, 23, 24, 8, 25, 101, 102, 103, 104, 105, 106, 107, 108, 109, 110] (by decide +kernel) (by decide +kernel)
set_option maxRecDepth 20000 in
theorem gX10_rooms_X1_wallAt : GoodIn wsX10_rooms (wsV RX10 81 RX1 yX1_wallAt wsX1_wallAt) := goodIn_app (goodIn_of _ (by decide +kernel)) ggX10_rooms_X1_wallAt
set_option maxRecDepth 20000 in
theorem ggX10_rooms_X8_foresee : GoodIn wsX10_rooms wsX8_foresee := goodIn_r _ [30, 31, 32, 33, 34, 20, 35, 36, 37, 38, 39, 40, 41, 42, 43, 44, 45, 46, 47, 48, 49, 50, 51, 52, 53, 54, 55, 56, 57, 58, 59, 60, 61, 62, 63, 64, 111, 112, 113, 114, 115, 101, 102, 103, 104, 105, 106, 107, 108, 109, 110, 116, 117, 118, 119, 120, 121, 122, 123, 124, 125] (by decide +kernel) (by decide +kernel)
set_option maxRecDepth 20000 in
theorem gX10_rooms_X8_foresee : GoodIn wsX10_rooms (wsV RX10 203 RX8 yX8_foresee wsX8_foresee) := goodIn_app (goodIn_of _ (by decide +kernel)) ggX10_rooms_X8_foresee
set_option maxRecDepth 20000 in
theorem ggX10_rooms_X3_learn : GoodIn wsX10_rooms wsX3_learn := goodIn_r _ [69, 70, 71, 72, 73, 8, 74, 75, 76, 77, 78, 24, 25, 126, 127] (by decide +kernel) (by decide +kernel)
set_option maxRecDepth 20000 in
theorem gX10_rooms_X3_learn : GoodIn wsX10_rooms (wsV RX10 251 RX3 yX3_learn wsX3_learn) := goodIn_app (goodIn_of _ (by decide +kernel)) ggX10_rooms_X3_learn
set_option maxRecDepth 20000 in
theorem ggX10_rooms_X8_pullOf : GoodIn wsX10_rooms wsX8_pullOf := goodIn_r _ [82, 31, 111, 112, 113, 114, 115] (by decide +kernel) (by decide +kernel)
set_option maxRecDepth 20000 in
theorem gX10_rooms_X8_pullOf : GoodIn wsX10_rooms (wsV RX10 258 RX8 yX8_pullOf wsX8_pullOf) := goodIn_app (goodIn_of _ (by decide +kernel)) ggX10_rooms_X8_pullOf
set_option maxRecDepth 20000 in
theorem ggX10_rooms_X3_spread : GoodIn wsX10_rooms wsX3_spread := goodIn_r _ [86, 87, 24, 8, 25, 88, 89, 90, 68, 91, 71, 126, 127] (by decide +kernel) (by decide +kernel)
set_option maxRecDepth 20000 in
theorem gX10_rooms_X3_spread : GoodIn wsX10_rooms (wsV RX10 261 RX3 yX3_spread wsX3_spread) := goodIn_app (goodIn_of _ (by decide +kernel)) ggX10_rooms_X3_spread
theorem dX10_rooms_0 : decode cX10_rooms 0 = .ok (.iload_n 1, 1) := by decide +kernel
theorem dX10_rooms_1 : decode cX10_rooms 1 = .ok (.invokestatic 62, 3) := by decide +kernel
theorem dX10_rooms_4 : decode cX10_rooms 4 = .ok (.ifCond .eq 13, 3) := by decide +kernel
theorem dX10_rooms_7 : decode cX10_rooms 7 = .ok (.iload_n 2, 1) := by decide +kernel
theorem dX10_rooms_8 : decode cX10_rooms 8 = .ok (.ifCond .lt 9, 3) := by decide +kernel
theorem dX10_rooms_11 : decode cX10_rooms 11 = .ok (.iload_n 2, 1) := by decide +kernel
theorem dX10_rooms_12 : decode cX10_rooms 12 = .ok (.bipush 100, 2) := by decide +kernel
theorem dX10_rooms_14 : decode cX10_rooms 14 = .ok (.if_icmp .le 10, 3) := by decide +kernel
theorem dX10_rooms_17 : decode cX10_rooms 17 = .ok (.aload_n 0, 1) := by decide +kernel
theorem dX10_rooms_18 : decode cX10_rooms 18 = .ok (.iconst 1, 1) := by decide +kernel
theorem dX10_rooms_19 : decode cX10_rooms 19 = .ok (.invokevirtual 68, 3) := by decide +kernel
theorem dX10_rooms_22 : decode cX10_rooms 22 = .ok (.i2l, 1) := by decide +kernel
theorem dX10_rooms_23 : decode cX10_rooms 23 = .ok (.lreturn, 1) := by decide +kernel
theorem dX10_rooms_24 : decode cX10_rooms 24 = .ok (.aload_n 0, 1) := by decide +kernel
theorem dX10_rooms_25 : decode cX10_rooms 25 = .ok (.getfield 10, 3) := by decide +kernel
theorem dX10_rooms_28 : decode cX10_rooms 28 = .ok (.iload_n 1, 1) := by decide +kernel
theorem dX10_rooms_29 : decode cX10_rooms 29 = .ok (.invokevirtual 81, 3) := by decide +kernel
theorem dX10_rooms_32 : decode cX10_rooms 32 = .ok (.iconst 1, 1) := by decide +kernel
theorem dX10_rooms_33 : decode cX10_rooms 33 = .ok (.if_icmp .ne 10, 3) := by decide +kernel
theorem dX10_rooms_36 : decode cX10_rooms 36 = .ok (.aload_n 0, 1) := by decide +kernel
theorem dX10_rooms_37 : decode cX10_rooms 37 = .ok (.iconst 3, 1) := by decide +kernel
theorem dX10_rooms_38 : decode cX10_rooms 38 = .ok (.invokevirtual 68, 3) := by decide +kernel
theorem dX10_rooms_41 : decode cX10_rooms 41 = .ok (.i2l, 1) := by decide +kernel
theorem dX10_rooms_42 : decode cX10_rooms 42 = .ok (.lreturn, 1) := by decide +kernel
theorem dX10_rooms_43 : decode cX10_rooms 43 = .ok (.aload_n 0, 1) := by decide +kernel
theorem dX10_rooms_44 : decode cX10_rooms 44 = .ok (.getfield 29, 3) := by decide +kernel
theorem dX10_rooms_47 : decode cX10_rooms 47 = .ok (.aload_n 0, 1) := by decide +kernel
theorem dX10_rooms_48 : decode cX10_rooms 48 = .ok (.getfield 10, 3) := by decide +kernel
theorem dX10_rooms_51 : decode cX10_rooms 51 = .ok (.aload_n 0, 1) := by decide +kernel
theorem dX10_rooms_52 : decode cX10_rooms 52 = .ok (.getfield 10, 3) := by decide +kernel
theorem dX10_rooms_55 : decode cX10_rooms 55 = .ok (.getfield 129, 3) := by decide +kernel
theorem dX10_rooms_58 : decode cX10_rooms 58 = .ok (.iload_n 2, 1) := by decide +kernel
theorem dX10_rooms_59 : decode cX10_rooms 59 = .ok (.invokevirtual 203, 3) := by decide +kernel
theorem dX10_rooms_62 : decode cX10_rooms 62 = .ok (.aload_n 0, 1) := by decide +kernel
theorem dX10_rooms_63 : decode cX10_rooms 63 = .ok (.getfield 36, 3) := by decide +kernel
theorem dX10_rooms_66 : decode cX10_rooms 66 = .ok (.aload_n 0, 1) := by decide +kernel
theorem dX10_rooms_67 : decode cX10_rooms 67 = .ok (.getfield 10, 3) := by decide +kernel
theorem dX10_rooms_70 : decode cX10_rooms 70 = .ok (.getfield 243, 3) := by decide +kernel
theorem dX10_rooms_73 : decode cX10_rooms 73 = .ok (.invokevirtual 251, 3) := by decide +kernel
theorem dX10_rooms_76 : decode cX10_rooms 76 = .ok (.lconst 1, 1) := by decide +kernel
theorem dX10_rooms_77 : decode cX10_rooms 77 = .ok (.iload_n 1, 1) := by decide +kernel
theorem dX10_rooms_78 : decode cX10_rooms 78 = .ok (.lshl, 1) := by decide +kernel
theorem dX10_rooms_79 : decode cX10_rooms 79 = .ok (.lstore_n 3, 1) := by decide +kernel
theorem dX10_rooms_80 : decode cX10_rooms 80 = .ok (.iconst 0, 1) := by decide +kernel
theorem dX10_rooms_81 : decode cX10_rooms 81 = .ok (.istore 5, 2) := by decide +kernel
theorem dX10_rooms_83 : decode cX10_rooms 83 = .ok (.iload 5, 2) := by decide +kernel
theorem dX10_rooms_85 : decode cX10_rooms 85 = .ok (.iload_n 2, 1) := by decide +kernel
theorem dX10_rooms_86 : decode cX10_rooms 86 = .ok (.if_icmp .ge 29, 3) := by decide +kernel
theorem dX10_rooms_89 : decode cX10_rooms 89 = .ok (.lload_n 3, 1) := by decide +kernel
theorem dX10_rooms_90 : decode cX10_rooms 90 = .ok (.aload_n 0, 1) := by decide +kernel
theorem dX10_rooms_91 : decode cX10_rooms 91 = .ok (.getfield 36, 3) := by decide +kernel
theorem dX10_rooms_94 : decode cX10_rooms 94 = .ok (.lload_n 3, 1) := by decide +kernel
theorem dX10_rooms_95 : decode cX10_rooms 95 = .ok (.aload_n 0, 1) := by decide +kernel
theorem dX10_rooms_96 : decode cX10_rooms 96 = .ok (.getfield 29, 3) := by decide +kernel
theorem dX10_rooms_99 : decode cX10_rooms 99 = .ok (.iload 5, 2) := by decide +kernel
theorem dX10_rooms_101 : decode cX10_rooms 101 = .ok (.invokevirtual 258, 3) := by decide +kernel
theorem dX10_rooms_104 : decode cX10_rooms 104 = .ok (.invokevirtual 261, 3) := by decide +kernel
theorem dX10_rooms_107 : decode cX10_rooms 107 = .ok (.lor, 1) := by decide +kernel
theorem dX10_rooms_108 : decode cX10_rooms 108 = .ok (.lstore_n 3, 1) := by decide +kernel
theorem dX10_rooms_109 : decode cX10_rooms 109 = .ok (.iinc 5 1, 3) := by decide +kernel
theorem dX10_rooms_112 : decode cX10_rooms 112 = .ok (.goto (-29), 3) := by decide +kernel
theorem dX10_rooms_115 : decode cX10_rooms 115 = .ok (.lload_n 3, 1) := by decide +kernel
theorem dX10_rooms_116 : decode cX10_rooms 116 = .ok (.lreturn, 1) := by decide +kernel
set_option maxRecDepth 20000 in
theorem ggX10_soonest_X0_isCell : GoodIn wsX10_soonest wsX0_isCell := goodIn_r _ [9] (by decide +kernel) (by decide +kernel)
set_option maxRecDepth 20000 in
theorem gX10_soonest_X0_isCell : GoodIn wsX10_soonest (va_wsS RX10 62 yX0_isCell wsX0_isCell) := goodIn_app (goodIn_of _ (by decide +kernel)) ggX10_soonest_X0_isCell
set_option maxRecDepth 20000 in
theorem ggX10_soonest_X10_error : GoodIn wsX10_soonest wsX10_error := goodIn_r _ [14, 15, 16, 93, 94, 95, 96, 97, 98, 99, 100, 101] (by decide +kernel) (by decide +kernel)
set_option maxRecDepth 20000 in
theorem gX10_soonest_X10_error : GoodIn wsX10_soonest (wsV RX10 68 RX10 yX10_error wsX10_error) := goodIn_app (goodIn_of _ (by decide +kernel)) ggX10_soonest_X10_error
set_option maxRecDepth 20000 in
theorem ggX10_soonest_X1_wallAt : GoodIn wsX10_soonest wsX1_wallAt := goodIn_r _ [21, 22, 23, 24, 8, 25, 102, 103, 104, 105, 106, 107, 108, 109, 110, 111] (by decide +kernel) (by decide +kernel)
set_option maxRecDepth 20000 in
theorem gX10_soonest_X1_wallAt : GoodIn wsX10_soonest (wsV RX10 81 RX1 yX1_wallAt wsX1_wallAt) := goodIn_app (goodIn_of _ (by decide +kernel)) ggX10_soonest_X1_wallAt
set_option maxRecDepth 20000 in
theorem ggX10_soonest_X8_foresee : GoodIn wsX10_soonest wsX8_foresee := goodIn_r _ [30, 31, 32, 33, 34, 20, 35, 36, 37, 38, 39, 40, 41, 42, 43, 44, 45, 46, 47, 48, 49, 50, 51, 52, 53, 54, 55, 56, 57, 58, 59, 60, 61, 62, 63, 64, 112, 113, 114, 115, 116, 102, 103, 104, 105, 106, 107, 108, 109, 110, 111, 117, 118, 119, 120, 121, 122, 123, 124, 125, 126] (by decide +kernel) (by decide +kernel)
set_option maxRecDepth 20000 in
theorem gX10_soonest_X8_foresee : GoodIn wsX10_soonest (wsV RX10 203 RX8 yX8_foresee wsX8_foresee) := goodIn_app (goodIn_of _ (by decide +kernel)) ggX10_soonest_X8_foresee
set_option maxRecDepth 20000 in
theorem ggX10_soonest_X3_learn : GoodIn wsX10_soonest wsX3_learn := goodIn_r _ [69, 70, 71, 72, 73, 8, 74, 75, 76, 77, 78, 24, 25, 127, 128] (by decide +kernel) (by decide +kernel)
set_option maxRecDepth 20000 in
theorem gX10_soonest_X3_learn : GoodIn wsX10_soonest (wsV RX10 251 RX3 yX3_learn wsX3_learn) := goodIn_app (goodIn_of _ (by decide +kernel)) ggX10_soonest_X3_learn
set_option maxRecDepth 20000 in
theorem ggX10_soonest_X0_isIn : GoodIn wsX10_soonest wsX0_isIn := goodIn_r _ [25] (by decide +kernel) (by decide +kernel)
set_option maxRecDepth 20000 in
theorem gX10_soonest_X0_isIn : GoodIn wsX10_soonest (va_wsS RX10 264 yX0_isIn wsX0_isIn) := goodIn_app (goodIn_of _ (by decide +kernel)) ggX10_soonest_X0_isIn
set_option maxRecDepth 20000 in
theorem ggX10_soonest_X8_pullOf : GoodIn wsX10_soonest wsX8_pullOf := goodIn_r _ [83, 31, 112, 113, 114, 115, 116] (by decide +kernel) (by decide +kernel)
set_option maxRecDepth 20000 in
theorem gX10_soonest_X8_pullOf : GoodIn wsX10_soonest (wsV RX10 258 RX8 yX8_pullOf wsX8_pullOf) := goodIn_app (goodIn_of _ (by decide +kernel)) ggX10_soonest_X8_pullOf
set_option maxRecDepth 20000 in
theorem ggX10_soonest_X3_spread : GoodIn wsX10_soonest wsX3_spread := goodIn_r _ [87, 88, 24, 8, 25, 89, 90, 91, 68, 92, 71, 127, 128] (by decide +kernel) (by decide +kernel)
set_option maxRecDepth 20000 in
theorem gX10_soonest_X3_spread : GoodIn wsX10_soonest (wsV RX10 261 RX3 yX3_spread wsX3_spread) := goodIn_app (goodIn_of _ (by decide +kernel)) ggX10_soonest_X3_spread
theorem dX10_soonest_0 : decode cX10_soonest 0 = .ok (.iload_n 1, 1) := by decide +kernel
theorem dX10_soonest_1 : decode cX10_soonest 1 = .ok (.invokestatic 62, 3) := by decide +kernel
theorem dX10_soonest_4 : decode cX10_soonest 4 = .ok (.ifCond .eq 10, 3) := by decide +kernel
theorem dX10_soonest_7 : decode cX10_soonest 7 = .ok (.iload_n 2, 1) := by decide +kernel
theorem dX10_soonest_8 : decode cX10_soonest 8 = .ok (.invokestatic 62, 3) := by decide +kernel
theorem dX10_soonest_11 : decode cX10_soonest 11 = .ok (.ifCond .ne 9, 3) := by decide +kernel
theorem dX10_soonest_14 : decode cX10_soonest 14 = .ok (.aload_n 0, 1) := by decide +kernel
theorem dX10_soonest_15 : decode cX10_soonest 15 = .ok (.iconst 1, 1) := by decide +kernel
theorem dX10_soonest_16 : decode cX10_soonest 16 = .ok (.invokevirtual 68, 3) := by decide +kernel
theorem dX10_soonest_19 : decode cX10_soonest 19 = .ok (.ireturn, 1) := by decide +kernel
theorem dX10_soonest_20 : decode cX10_soonest 20 = .ok (.aload_n 0, 1) := by decide +kernel
theorem dX10_soonest_21 : decode cX10_soonest 21 = .ok (.getfield 10, 3) := by decide +kernel
theorem dX10_soonest_24 : decode cX10_soonest 24 = .ok (.iload_n 1, 1) := by decide +kernel
theorem dX10_soonest_25 : decode cX10_soonest 25 = .ok (.invokevirtual 81, 3) := by decide +kernel
theorem dX10_soonest_28 : decode cX10_soonest 28 = .ok (.iconst 1, 1) := by decide +kernel
theorem dX10_soonest_29 : decode cX10_soonest 29 = .ok (.if_icmp .eq 15, 3) := by decide +kernel
theorem dX10_soonest_32 : decode cX10_soonest 32 = .ok (.aload_n 0, 1) := by decide +kernel
theorem dX10_soonest_33 : decode cX10_soonest 33 = .ok (.getfield 10, 3) := by decide +kernel
theorem dX10_soonest_36 : decode cX10_soonest 36 = .ok (.iload_n 2, 1) := by decide +kernel
theorem dX10_soonest_37 : decode cX10_soonest 37 = .ok (.invokevirtual 81, 3) := by decide +kernel
theorem dX10_soonest_40 : decode cX10_soonest 40 = .ok (.iconst 1, 1) := by decide +kernel
theorem dX10_soonest_41 : decode cX10_soonest 41 = .ok (.if_icmp .ne 9, 3) := by decide +kernel
theorem dX10_soonest_44 : decode cX10_soonest 44 = .ok (.aload_n 0, 1) := by decide +kernel
theorem dX10_soonest_45 : decode cX10_soonest 45 = .ok (.iconst 3, 1) := by decide +kernel
theorem dX10_soonest_46 : decode cX10_soonest 46 = .ok (.invokevirtual 68, 3) := by decide +kernel
theorem dX10_soonest_49 : decode cX10_soonest 49 = .ok (.ireturn, 1) := by decide +kernel
theorem dX10_soonest_50 : decode cX10_soonest 50 = .ok (.aload_n 0, 1) := by decide +kernel
theorem dX10_soonest_51 : decode cX10_soonest 51 = .ok (.getfield 29, 3) := by decide +kernel
theorem dX10_soonest_54 : decode cX10_soonest 54 = .ok (.aload_n 0, 1) := by decide +kernel
theorem dX10_soonest_55 : decode cX10_soonest 55 = .ok (.getfield 10, 3) := by decide +kernel
theorem dX10_soonest_58 : decode cX10_soonest 58 = .ok (.aload_n 0, 1) := by decide +kernel
theorem dX10_soonest_59 : decode cX10_soonest 59 = .ok (.getfield 10, 3) := by decide +kernel
theorem dX10_soonest_62 : decode cX10_soonest 62 = .ok (.getfield 129, 3) := by decide +kernel
theorem dX10_soonest_65 : decode cX10_soonest 65 = .ok (.bipush 100, 2) := by decide +kernel
theorem dX10_soonest_67 : decode cX10_soonest 67 = .ok (.invokevirtual 203, 3) := by decide +kernel
theorem dX10_soonest_70 : decode cX10_soonest 70 = .ok (.aload_n 0, 1) := by decide +kernel
theorem dX10_soonest_71 : decode cX10_soonest 71 = .ok (.getfield 36, 3) := by decide +kernel
theorem dX10_soonest_74 : decode cX10_soonest 74 = .ok (.aload_n 0, 1) := by decide +kernel
theorem dX10_soonest_75 : decode cX10_soonest 75 = .ok (.getfield 10, 3) := by decide +kernel
theorem dX10_soonest_78 : decode cX10_soonest 78 = .ok (.getfield 243, 3) := by decide +kernel
theorem dX10_soonest_81 : decode cX10_soonest 81 = .ok (.invokevirtual 251, 3) := by decide +kernel
theorem dX10_soonest_84 : decode cX10_soonest 84 = .ok (.lconst 1, 1) := by decide +kernel
theorem dX10_soonest_85 : decode cX10_soonest 85 = .ok (.iload_n 1, 1) := by decide +kernel
theorem dX10_soonest_86 : decode cX10_soonest 86 = .ok (.lshl, 1) := by decide +kernel
theorem dX10_soonest_87 : decode cX10_soonest 87 = .ok (.lstore_n 3, 1) := by decide +kernel
theorem dX10_soonest_88 : decode cX10_soonest 88 = .ok (.iconst 0, 1) := by decide +kernel
theorem dX10_soonest_89 : decode cX10_soonest 89 = .ok (.istore 5, 2) := by decide +kernel
theorem dX10_soonest_91 : decode cX10_soonest 91 = .ok (.iload 5, 2) := by decide +kernel
theorem dX10_soonest_93 : decode cX10_soonest 93 = .ok (.bipush 100, 2) := by decide +kernel
theorem dX10_soonest_95 : decode cX10_soonest 95 = .ok (.if_icmp .ge 40, 3) := by decide +kernel
theorem dX10_soonest_98 : decode cX10_soonest 98 = .ok (.lload_n 3, 1) := by decide +kernel
theorem dX10_soonest_99 : decode cX10_soonest 99 = .ok (.iload_n 2, 1) := by decide +kernel
theorem dX10_soonest_100 : decode cX10_soonest 100 = .ok (.invokestatic 264, 3) := by decide +kernel
theorem dX10_soonest_103 : decode cX10_soonest 103 = .ok (.ifCond .eq 6, 3) := by decide +kernel
theorem dX10_soonest_106 : decode cX10_soonest 106 = .ok (.iload 5, 2) := by decide +kernel
theorem dX10_soonest_108 : decode cX10_soonest 108 = .ok (.ireturn, 1) := by decide +kernel
theorem dX10_soonest_109 : decode cX10_soonest 109 = .ok (.lload_n 3, 1) := by decide +kernel
theorem dX10_soonest_110 : decode cX10_soonest 110 = .ok (.aload_n 0, 1) := by decide +kernel
theorem dX10_soonest_111 : decode cX10_soonest 111 = .ok (.getfield 36, 3) := by decide +kernel
theorem dX10_soonest_114 : decode cX10_soonest 114 = .ok (.lload_n 3, 1) := by decide +kernel
theorem dX10_soonest_115 : decode cX10_soonest 115 = .ok (.aload_n 0, 1) := by decide +kernel
theorem dX10_soonest_116 : decode cX10_soonest 116 = .ok (.getfield 29, 3) := by decide +kernel
theorem dX10_soonest_119 : decode cX10_soonest 119 = .ok (.iload 5, 2) := by decide +kernel
theorem dX10_soonest_121 : decode cX10_soonest 121 = .ok (.invokevirtual 258, 3) := by decide +kernel
theorem dX10_soonest_124 : decode cX10_soonest 124 = .ok (.invokevirtual 261, 3) := by decide +kernel
theorem dX10_soonest_127 : decode cX10_soonest 127 = .ok (.lor, 1) := by decide +kernel
theorem dX10_soonest_128 : decode cX10_soonest 128 = .ok (.lstore_n 3, 1) := by decide +kernel
theorem dX10_soonest_129 : decode cX10_soonest 129 = .ok (.iinc 5 1, 3) := by decide +kernel
theorem dX10_soonest_132 : decode cX10_soonest 132 = .ok (.goto (-41), 3) := by decide +kernel
theorem dX10_soonest_135 : decode cX10_soonest 135 = .ok (.lload_n 3, 1) := by decide +kernel
theorem dX10_soonest_136 : decode cX10_soonest 136 = .ok (.iload_n 2, 1) := by decide +kernel
theorem dX10_soonest_137 : decode cX10_soonest 137 = .ok (.invokestatic 264, 3) := by decide +kernel
theorem dX10_soonest_140 : decode cX10_soonest 140 = .ok (.ifCond .eq 8, 3) := by decide +kernel
theorem dX10_soonest_143 : decode cX10_soonest 143 = .ok (.bipush 100, 2) := by decide +kernel
theorem dX10_soonest_145 : decode cX10_soonest 145 = .ok (.goto 8, 3) := by decide +kernel
theorem dX10_soonest_148 : decode cX10_soonest 148 = .ok (.aload_n 0, 1) := by decide +kernel
theorem dX10_soonest_149 : decode cX10_soonest 149 = .ok (.iconst 2, 1) := by decide +kernel
theorem dX10_soonest_150 : decode cX10_soonest 150 = .ok (.invokevirtual 68, 3) := by decide +kernel
theorem dX10_soonest_153 : decode cX10_soonest 153 = .ok (.ireturn, 1) := by decide +kernel
set_option maxRecDepth 20000 in
theorem ggX10_shut_X0_isCell : GoodIn wsX10_shut wsX0_isCell := goodIn_r _ [11] (by decide +kernel) (by decide +kernel)
set_option maxRecDepth 20000 in
theorem gX10_shut_X0_isCell : GoodIn wsX10_shut (va_wsS RX10 62 yX0_isCell wsX0_isCell) := goodIn_app (goodIn_of _ (by decide +kernel)) ggX10_shut_X0_isCell
set_option maxRecDepth 20000 in
theorem ggX10_shut_X10_error : GoodIn wsX10_shut wsX10_error := goodIn_r _ [16, 17, 18, 94, 95, 96, 97, 98, 99, 100, 101, 102] (by decide +kernel) (by decide +kernel)
set_option maxRecDepth 20000 in
theorem gX10_shut_X10_error : GoodIn wsX10_shut (wsV RX10 68 RX10 yX10_error wsX10_error) := goodIn_app (goodIn_of _ (by decide +kernel)) ggX10_shut_X10_error
set_option maxRecDepth 20000 in
theorem ggX10_shut_X1_wallAt : GoodIn wsX10_shut wsX1_wallAt := goodIn_r _ [23, 24, 25, 26, 10, 27, 103, 104, 105, 106, 107, 108, 109, 110, 111, 112] (by decide +kernel) (by decide +kernel)
set_option maxRecDepth 20000 in
theorem gX10_shut_X1_wallAt : GoodIn wsX10_shut (wsV RX10 81 RX1 yX1_wallAt wsX1_wallAt) := goodIn_app (goodIn_of _ (by decide +kernel)) ggX10_shut_X1_wallAt
set_option maxRecDepth 20000 in
theorem ggX10_shut_X8_foresee : GoodIn wsX10_shut wsX8_foresee := goodIn_r _ [32, 33, 34, 35, 36, 22, 37, 38, 39, 40, 41, 42, 43, 44, 45, 46, 47, 48, 49, 50, 51, 52, 53, 54, 55, 56, 57, 58, 59, 60, 61, 62, 63, 64, 65, 66, 113, 114, 115, 116, 117, 103, 104, 105, 106, 107, 108, 109, 110, 111, 112, 118, 119, 120, 121, 122, 123, 124, 125, 126, 127] (by decide +kernel) (by decide +kernel)
set_option maxRecDepth 20000 in
theorem gX10_shut_X8_foresee : GoodIn wsX10_shut (wsV RX10 203 RX8 yX8_foresee wsX8_foresee) := goodIn_app (goodIn_of _ (by decide +kernel)) ggX10_shut_X8_foresee
set_option maxRecDepth 20000 in
theorem ggX10_shut_X3_learn : GoodIn wsX10_shut wsX3_learn := goodIn_r _ [71, 72, 73, 74, 75, 10, 76, 77, 78, 79, 80, 26, 27, 128, 129] (by decide +kernel) (by decide +kernel)
set_option maxRecDepth 20000 in
theorem gX10_shut_X3_learn : GoodIn wsX10_shut (wsV RX10 251 RX3 yX3_learn wsX3_learn) := goodIn_app (goodIn_of _ (by decide +kernel)) ggX10_shut_X3_learn
set_option maxRecDepth 20000 in
theorem ggX10_shut_X8_pullOf : GoodIn wsX10_shut wsX8_pullOf := goodIn_r _ [84, 33, 113, 114, 115, 116, 117] (by decide +kernel) (by decide +kernel)
set_option maxRecDepth 20000 in
theorem gX10_shut_X8_pullOf : GoodIn wsX10_shut (wsV RX10 258 RX8 yX8_pullOf wsX8_pullOf) := goodIn_app (goodIn_of _ (by decide +kernel)) ggX10_shut_X8_pullOf
set_option maxRecDepth 20000 in
theorem ggX10_shut_X3_gather : GoodIn wsX10_shut wsX3_gather := goodIn_r _ [88, 72, 89, 26, 10, 27, 90, 91, 92, 70, 93, 73, 128, 129] (by decide +kernel) (by decide +kernel)
set_option maxRecDepth 20000 in
theorem gX10_shut_X3_gather : GoodIn wsX10_shut (wsV RX10 254 RX3 yX3_gather wsX3_gather) := goodIn_app (goodIn_of _ (by decide +kernel)) ggX10_shut_X3_gather
theorem dX10_shut_0 : decode cX10_shut 0 = .ok (.iload_n 1, 1) := by decide +kernel
theorem dX10_shut_1 : decode cX10_shut 1 = .ok (.invokestatic 62, 3) := by decide +kernel
theorem dX10_shut_4 : decode cX10_shut 4 = .ok (.ifCond .ne 10, 3) := by decide +kernel
theorem dX10_shut_7 : decode cX10_shut 7 = .ok (.aload_n 0, 1) := by decide +kernel
theorem dX10_shut_8 : decode cX10_shut 8 = .ok (.iconst 1, 1) := by decide +kernel
theorem dX10_shut_9 : decode cX10_shut 9 = .ok (.invokevirtual 68, 3) := by decide +kernel
theorem dX10_shut_12 : decode cX10_shut 12 = .ok (.i2l, 1) := by decide +kernel
theorem dX10_shut_13 : decode cX10_shut 13 = .ok (.lreturn, 1) := by decide +kernel
theorem dX10_shut_14 : decode cX10_shut 14 = .ok (.aload_n 0, 1) := by decide +kernel
theorem dX10_shut_15 : decode cX10_shut 15 = .ok (.getfield 10, 3) := by decide +kernel
theorem dX10_shut_18 : decode cX10_shut 18 = .ok (.iload_n 1, 1) := by decide +kernel
theorem dX10_shut_19 : decode cX10_shut 19 = .ok (.invokevirtual 81, 3) := by decide +kernel
theorem dX10_shut_22 : decode cX10_shut 22 = .ok (.iconst 1, 1) := by decide +kernel
theorem dX10_shut_23 : decode cX10_shut 23 = .ok (.if_icmp .ne 10, 3) := by decide +kernel
theorem dX10_shut_26 : decode cX10_shut 26 = .ok (.aload_n 0, 1) := by decide +kernel
theorem dX10_shut_27 : decode cX10_shut 27 = .ok (.iconst 3, 1) := by decide +kernel
theorem dX10_shut_28 : decode cX10_shut 28 = .ok (.invokevirtual 68, 3) := by decide +kernel
theorem dX10_shut_31 : decode cX10_shut 31 = .ok (.i2l, 1) := by decide +kernel
theorem dX10_shut_32 : decode cX10_shut 32 = .ok (.lreturn, 1) := by decide +kernel
theorem dX10_shut_33 : decode cX10_shut 33 = .ok (.aload_n 0, 1) := by decide +kernel
theorem dX10_shut_34 : decode cX10_shut 34 = .ok (.getfield 29, 3) := by decide +kernel
theorem dX10_shut_37 : decode cX10_shut 37 = .ok (.aload_n 0, 1) := by decide +kernel
theorem dX10_shut_38 : decode cX10_shut 38 = .ok (.getfield 10, 3) := by decide +kernel
theorem dX10_shut_41 : decode cX10_shut 41 = .ok (.aload_n 0, 1) := by decide +kernel
theorem dX10_shut_42 : decode cX10_shut 42 = .ok (.getfield 10, 3) := by decide +kernel
theorem dX10_shut_45 : decode cX10_shut 45 = .ok (.getfield 129, 3) := by decide +kernel
theorem dX10_shut_48 : decode cX10_shut 48 = .ok (.bipush 100, 2) := by decide +kernel
theorem dX10_shut_50 : decode cX10_shut 50 = .ok (.invokevirtual 203, 3) := by decide +kernel
theorem dX10_shut_53 : decode cX10_shut 53 = .ok (.aload_n 0, 1) := by decide +kernel
theorem dX10_shut_54 : decode cX10_shut 54 = .ok (.getfield 36, 3) := by decide +kernel
theorem dX10_shut_57 : decode cX10_shut 57 = .ok (.aload_n 0, 1) := by decide +kernel
theorem dX10_shut_58 : decode cX10_shut 58 = .ok (.getfield 10, 3) := by decide +kernel
theorem dX10_shut_61 : decode cX10_shut 61 = .ok (.getfield 243, 3) := by decide +kernel
theorem dX10_shut_64 : decode cX10_shut 64 = .ok (.invokevirtual 251, 3) := by decide +kernel
theorem dX10_shut_67 : decode cX10_shut 67 = .ok (.lconst 1, 1) := by decide +kernel
theorem dX10_shut_68 : decode cX10_shut 68 = .ok (.iload_n 1, 1) := by decide +kernel
theorem dX10_shut_69 : decode cX10_shut 69 = .ok (.lshl, 1) := by decide +kernel
theorem dX10_shut_70 : decode cX10_shut 70 = .ok (.lstore_n 2, 1) := by decide +kernel
theorem dX10_shut_71 : decode cX10_shut 71 = .ok (.bipush 99, 2) := by decide +kernel
theorem dX10_shut_73 : decode cX10_shut 73 = .ok (.istore 4, 2) := by decide +kernel
theorem dX10_shut_75 : decode cX10_shut 75 = .ok (.iload 4, 2) := by decide +kernel
theorem dX10_shut_77 : decode cX10_shut 77 = .ok (.ifCond .lt 29, 3) := by decide +kernel
theorem dX10_shut_80 : decode cX10_shut 80 = .ok (.lload_n 2, 1) := by decide +kernel
theorem dX10_shut_81 : decode cX10_shut 81 = .ok (.aload_n 0, 1) := by decide +kernel
theorem dX10_shut_82 : decode cX10_shut 82 = .ok (.getfield 36, 3) := by decide +kernel
theorem dX10_shut_85 : decode cX10_shut 85 = .ok (.lload_n 2, 1) := by decide +kernel
theorem dX10_shut_86 : decode cX10_shut 86 = .ok (.aload_n 0, 1) := by decide +kernel
theorem dX10_shut_87 : decode cX10_shut 87 = .ok (.getfield 29, 3) := by decide +kernel
theorem dX10_shut_90 : decode cX10_shut 90 = .ok (.iload 4, 2) := by decide +kernel
theorem dX10_shut_92 : decode cX10_shut 92 = .ok (.invokevirtual 258, 3) := by decide +kernel
theorem dX10_shut_95 : decode cX10_shut 95 = .ok (.invokevirtual 254, 3) := by decide +kernel
theorem dX10_shut_98 : decode cX10_shut 98 = .ok (.lor, 1) := by decide +kernel
theorem dX10_shut_99 : decode cX10_shut 99 = .ok (.lstore_n 2, 1) := by decide +kernel
theorem dX10_shut_100 : decode cX10_shut 100 = .ok (.iinc 4 (-1), 3) := by decide +kernel
theorem dX10_shut_103 : decode cX10_shut 103 = .ok (.goto (-28), 3) := by decide +kernel
theorem dX10_shut_106 : decode cX10_shut 106 = .ok (.ldc2_w 268, 3) := by decide +kernel
theorem dX10_shut_109 : decode cX10_shut 109 = .ok (.aload_n 0, 1) := by decide +kernel
theorem dX10_shut_110 : decode cX10_shut 110 = .ok (.getfield 10, 3) := by decide +kernel
theorem dX10_shut_113 : decode cX10_shut 113 = .ok (.getfield 243, 3) := by decide +kernel
theorem dX10_shut_116 : decode cX10_shut 116 = .ok (.ldc2_w 270, 3) := by decide +kernel
theorem dX10_shut_119 : decode cX10_shut 119 = .ok (.lxor, 1) := by decide +kernel
theorem dX10_shut_120 : decode cX10_shut 120 = .ok (.land, 1) := by decide +kernel
theorem dX10_shut_121 : decode cX10_shut 121 = .ok (.lload_n 2, 1) := by decide +kernel
theorem dX10_shut_122 : decode cX10_shut 122 = .ok (.ldc2_w 270, 3) := by decide +kernel
theorem dX10_shut_125 : decode cX10_shut 125 = .ok (.lxor, 1) := by decide +kernel
theorem dX10_shut_126 : decode cX10_shut 126 = .ok (.land, 1) := by decide +kernel
theorem dX10_shut_127 : decode cX10_shut 127 = .ok (.lreturn, 1) := by decide +kernel
set_option maxRecDepth 20000 in
theorem ggX10_fits_X5_isSheet : GoodIn wsX10_fits wsX5_isSheet := goodIn_r _ [10] (by decide +kernel) (by decide +kernel)
set_option maxRecDepth 20000 in
theorem gX10_fits_X5_isSheet : GoodIn wsX10_fits (va_wsS RX10 272 yX5_isSheet wsX5_isSheet) := goodIn_app (goodIn_of _ (by decide +kernel)) ggX10_fits_X5_isSheet
set_option maxRecDepth 20000 in
theorem ggX10_fits_X10_error : GoodIn wsX10_fits wsX10_error := goodIn_r _ [15, 16, 17, 112, 113, 114, 115, 116, 117, 118, 119, 120] (by decide +kernel) (by decide +kernel)
set_option maxRecDepth 20000 in
theorem gX10_fits_X10_error : GoodIn wsX10_fits (wsV RX10 68 RX10 yX10_error wsX10_error) := goodIn_app (goodIn_of _ (by decide +kernel)) ggX10_fits_X10_error
set_option maxRecDepth 20000 in
theorem ggX10_fits_X5_isMissing : GoodIn wsX10_fits wsX5_isMissing := goodIn_r _ [21, 22, 23, 8, 9, 10, 121, 122, 123] (by decide +kernel) (by decide +kernel)
set_option maxRecDepth 20000 in
theorem gX10_fits_X5_isMissing : GoodIn wsX10_fits (wsV RX10 275 RX5 yX5_isMissing wsX5_isMissing) := goodIn_app (goodIn_of _ (by decide +kernel)) ggX10_fits_X5_isMissing
set_option maxRecDepth 20000 in
theorem ggX10_fits_X5_numberAt : GoodIn wsX10_fits wsX5_numberAt := goodIn_r _ [27, 28, 29, 30, 31, 9, 32, 33, 23, 8, 10, 121, 122, 123] (by decide +kernel) (by decide +kernel)
set_option maxRecDepth 20000 in
theorem gX10_fits_X5_numberAt : GoodIn wsX10_fits (wsV RX10 281 RX5 yX5_numberAt wsX5_numberAt) := goodIn_app (goodIn_of _ (by decide +kernel)) ggX10_fits_X5_numberAt
set_option maxRecDepth 20000 in
theorem ggX10_fits_X0_isCell : GoodIn wsX10_fits wsX0_isCell := goodIn_r _ [37] (by decide +kernel) (by decide +kernel)
set_option maxRecDepth 20000 in
theorem gX10_fits_X0_isCell : GoodIn wsX10_fits (va_wsS RX10 62 yX0_isCell wsX0_isCell) := goodIn_app (goodIn_of _ (by decide +kernel)) ggX10_fits_X0_isCell
set_option maxRecDepth 20000 in
theorem ggX10_fits_X1_wallAt : GoodIn wsX10_fits wsX1_wallAt := goodIn_r _ [42, 43, 44, 45, 36, 46, 124, 125, 126, 127, 128, 129, 130, 131, 132, 133] (by decide +kernel) (by decide +kernel)
set_option maxRecDepth 20000 in
theorem gX10_fits_X1_wallAt : GoodIn wsX10_fits (wsV RX10 81 RX1 yX1_wallAt wsX1_wallAt) := goodIn_app (goodIn_of _ (by decide +kernel)) ggX10_fits_X1_wallAt
set_option maxRecDepth 20000 in
theorem ggX10_fits_X8_foresee : GoodIn wsX10_fits wsX8_foresee := goodIn_r _ [51, 52, 53, 54, 55, 41, 56, 57, 58, 59, 60, 61, 62, 63, 64, 65, 66, 67, 68, 69, 70, 71, 72, 73, 74, 75, 76, 77, 78, 79, 80, 81, 82, 83, 84, 85, 134, 135, 136, 137, 138, 124, 125, 126, 127, 128, 129, 130, 131, 132, 133, 139, 140, 141, 142, 143, 144, 145, 146, 147, 148] (by decide +kernel) (by decide +kernel)
set_option maxRecDepth 20000 in
theorem gX10_fits_X8_foresee : GoodIn wsX10_fits (wsV RX10 203 RX8 yX8_foresee wsX8_foresee) := goodIn_app (goodIn_of _ (by decide +kernel)) ggX10_fits_X8_foresee
set_option maxRecDepth 20000 in
theorem ggX10_fits_X3_learn : GoodIn wsX10_fits wsX3_learn := goodIn_r _ [90, 91, 92, 93, 94, 36, 95, 96, 97, 98, 99, 45, 46, 149, 150] (by decide +kernel) (by decide +kernel)
set_option maxRecDepth 20000 in
theorem gX10_fits_X3_learn : GoodIn wsX10_fits (wsV RX10 251 RX3 yX3_learn wsX3_learn) := goodIn_app (goodIn_of _ (by decide +kernel)) ggX10_fits_X3_learn
set_option maxRecDepth 20000 in
theorem ggX10_fits_X10_fitsFrom : GoodIn wsX10_fits wsX10_fitsFrom := goodIn_r _ [103, 1, 2, 5, 4, 24, 25, 26, 9, 27, 28, 29, 30, 31, 32, 33, 23, 8, 10, 104, 105, 106, 50, 107, 52, 108, 109, 110, 89, 111, 92, 112, 113, 114, 115, 116, 117, 118, 119, 120, 121, 122, 123, 134, 135, 136, 137, 138, 149, 150] (by decide +kernel) (by decide +kernel)
set_option maxRecDepth 20000 in
theorem gX10_fits_X10_fitsFrom : GoodIn wsX10_fits (wsV RX10 284 RX10 yX10_fitsFrom wsX10_fitsFrom) := goodIn_app (goodIn_of _ (by decide +kernel)) ggX10_fits_X10_fitsFrom
theorem dX10_fits_0 : decode cX10_fits 0 = .ok (.iload_n 1, 1) := by decide +kernel
theorem dX10_fits_1 : decode cX10_fits 1 = .ok (.invokestatic 272, 3) := by decide +kernel
theorem dX10_fits_4 : decode cX10_fits 4 = .ok (.ifCond .ne 9, 3) := by decide +kernel
theorem dX10_fits_7 : decode cX10_fits 7 = .ok (.aload_n 0, 1) := by decide +kernel
theorem dX10_fits_8 : decode cX10_fits 8 = .ok (.iconst 1, 1) := by decide +kernel
theorem dX10_fits_9 : decode cX10_fits 9 = .ok (.invokevirtual 68, 3) := by decide +kernel
theorem dX10_fits_12 : decode cX10_fits 12 = .ok (.ireturn, 1) := by decide +kernel
theorem dX10_fits_13 : decode cX10_fits 13 = .ok (.aload_n 0, 1) := by decide +kernel
theorem dX10_fits_14 : decode cX10_fits 14 = .ok (.getfield 50, 3) := by decide +kernel
theorem dX10_fits_17 : decode cX10_fits 17 = .ok (.iload_n 1, 1) := by decide +kernel
theorem dX10_fits_18 : decode cX10_fits 18 = .ok (.invokevirtual 275, 3) := by decide +kernel
theorem dX10_fits_21 : decode cX10_fits 21 = .ok (.ifCond .ne 15, 3) := by decide +kernel
theorem dX10_fits_24 : decode cX10_fits 24 = .ok (.aload_n 0, 1) := by decide +kernel
theorem dX10_fits_25 : decode cX10_fits 25 = .ok (.getfield 50, 3) := by decide +kernel
theorem dX10_fits_28 : decode cX10_fits 28 = .ok (.getfield 278, 3) := by decide +kernel
theorem dX10_fits_31 : decode cX10_fits 31 = .ok (.iload_n 1, 1) := by decide +kernel
theorem dX10_fits_32 : decode cX10_fits 32 = .ok (.iaload, 1) := by decide +kernel
theorem dX10_fits_33 : decode cX10_fits 33 = .ok (.ifCond .ne 9, 3) := by decide +kernel
theorem dX10_fits_36 : decode cX10_fits 36 = .ok (.aload_n 0, 1) := by decide +kernel
theorem dX10_fits_37 : decode cX10_fits 37 = .ok (.iconst 2, 1) := by decide +kernel
theorem dX10_fits_38 : decode cX10_fits 38 = .ok (.invokevirtual 68, 3) := by decide +kernel
theorem dX10_fits_41 : decode cX10_fits 41 = .ok (.ireturn, 1) := by decide +kernel
theorem dX10_fits_42 : decode cX10_fits 42 = .ok (.aload_n 0, 1) := by decide +kernel
theorem dX10_fits_43 : decode cX10_fits 43 = .ok (.getfield 50, 3) := by decide +kernel
theorem dX10_fits_46 : decode cX10_fits 46 = .ok (.iload_n 1, 1) := by decide +kernel
theorem dX10_fits_47 : decode cX10_fits 47 = .ok (.iconst 0, 1) := by decide +kernel
theorem dX10_fits_48 : decode cX10_fits 48 = .ok (.invokevirtual 281, 3) := by decide +kernel
theorem dX10_fits_51 : decode cX10_fits 51 = .ok (.istore_n 2, 1) := by decide +kernel
theorem dX10_fits_52 : decode cX10_fits 52 = .ok (.iload_n 2, 1) := by decide +kernel
theorem dX10_fits_53 : decode cX10_fits 53 = .ok (.invokestatic 62, 3) := by decide +kernel
theorem dX10_fits_56 : decode cX10_fits 56 = .ok (.ifCond .eq 15, 3) := by decide +kernel
theorem dX10_fits_59 : decode cX10_fits 59 = .ok (.aload_n 0, 1) := by decide +kernel
theorem dX10_fits_60 : decode cX10_fits 60 = .ok (.getfield 10, 3) := by decide +kernel
theorem dX10_fits_63 : decode cX10_fits 63 = .ok (.iload_n 2, 1) := by decide +kernel
theorem dX10_fits_64 : decode cX10_fits 64 = .ok (.invokevirtual 81, 3) := by decide +kernel
theorem dX10_fits_67 : decode cX10_fits 67 = .ok (.iconst 1, 1) := by decide +kernel
theorem dX10_fits_68 : decode cX10_fits 68 = .ok (.if_icmp .ne 5, 3) := by decide +kernel
theorem dX10_fits_71 : decode cX10_fits 71 = .ok (.iconst 0, 1) := by decide +kernel
theorem dX10_fits_72 : decode cX10_fits 72 = .ok (.ireturn, 1) := by decide +kernel
theorem dX10_fits_73 : decode cX10_fits 73 = .ok (.aload_n 0, 1) := by decide +kernel
theorem dX10_fits_74 : decode cX10_fits 74 = .ok (.getfield 29, 3) := by decide +kernel
theorem dX10_fits_77 : decode cX10_fits 77 = .ok (.aload_n 0, 1) := by decide +kernel
theorem dX10_fits_78 : decode cX10_fits 78 = .ok (.getfield 10, 3) := by decide +kernel
theorem dX10_fits_81 : decode cX10_fits 81 = .ok (.iconst 0, 1) := by decide +kernel
theorem dX10_fits_82 : decode cX10_fits 82 = .ok (.bipush 36, 2) := by decide +kernel
theorem dX10_fits_84 : decode cX10_fits 84 = .ok (.invokevirtual 203, 3) := by decide +kernel
theorem dX10_fits_87 : decode cX10_fits 87 = .ok (.aload_n 0, 1) := by decide +kernel
theorem dX10_fits_88 : decode cX10_fits 88 = .ok (.getfield 36, 3) := by decide +kernel
theorem dX10_fits_91 : decode cX10_fits 91 = .ok (.aload_n 0, 1) := by decide +kernel
theorem dX10_fits_92 : decode cX10_fits 92 = .ok (.getfield 10, 3) := by decide +kernel
theorem dX10_fits_95 : decode cX10_fits 95 = .ok (.getfield 243, 3) := by decide +kernel
theorem dX10_fits_98 : decode cX10_fits 98 = .ok (.invokevirtual 251, 3) := by decide +kernel
theorem dX10_fits_101 : decode cX10_fits 101 = .ok (.iconst 0, 1) := by decide +kernel
theorem dX10_fits_102 : decode cX10_fits 102 = .ok (.istore_n 3, 1) := by decide +kernel
theorem dX10_fits_103 : decode cX10_fits 103 = .ok (.iconst 0, 1) := by decide +kernel
theorem dX10_fits_104 : decode cX10_fits 104 = .ok (.istore 4, 2) := by decide +kernel
theorem dX10_fits_106 : decode cX10_fits 106 = .ok (.iload 4, 2) := by decide +kernel
theorem dX10_fits_108 : decode cX10_fits 108 = .ok (.bipush 12, 2) := by decide +kernel
theorem dX10_fits_110 : decode cX10_fits 110 = .ok (.if_icmp .ge 26, 3) := by decide +kernel
theorem dX10_fits_113 : decode cX10_fits 113 = .ok (.aload_n 0, 1) := by decide +kernel
theorem dX10_fits_114 : decode cX10_fits 114 = .ok (.iload_n 1, 1) := by decide +kernel
theorem dX10_fits_115 : decode cX10_fits 115 = .ok (.iload 4, 2) := by decide +kernel
theorem dX10_fits_117 : decode cX10_fits 117 = .ok (.invokevirtual 284, 3) := by decide +kernel
theorem dX10_fits_120 : decode cX10_fits 120 = .ok (.ifCond .eq 10, 3) := by decide +kernel
theorem dX10_fits_123 : decode cX10_fits 123 = .ok (.iload_n 3, 1) := by decide +kernel
theorem dX10_fits_124 : decode cX10_fits 124 = .ok (.iconst 1, 1) := by decide +kernel
theorem dX10_fits_125 : decode cX10_fits 125 = .ok (.iload 4, 2) := by decide +kernel
theorem dX10_fits_127 : decode cX10_fits 127 = .ok (.ishl, 1) := by decide +kernel
theorem dX10_fits_128 : decode cX10_fits 128 = .ok (.ior, 1) := by decide +kernel
theorem dX10_fits_129 : decode cX10_fits 129 = .ok (.istore_n 3, 1) := by decide +kernel
theorem dX10_fits_130 : decode cX10_fits 130 = .ok (.iinc 4 1, 3) := by decide +kernel
theorem dX10_fits_133 : decode cX10_fits 133 = .ok (.goto (-27), 3) := by decide +kernel
theorem dX10_fits_136 : decode cX10_fits 136 = .ok (.iload_n 3, 1) := by decide +kernel
theorem dX10_fits_137 : decode cX10_fits 137 = .ok (.ireturn, 1) := by decide +kernel
set_option maxRecDepth 20000 in
theorem ggX10_voice_X7_has : GoodIn wsX10_voice wsX7_has := goodIn_r _ [11, 12, 78, 79, 80, 81, 82, 83, 84] (by decide +kernel) (by decide +kernel)
set_option maxRecDepth 20000 in
theorem gX10_voice_X7_has : GoodIn wsX10_voice (wsV RX10 101 RX7 yX7_has wsX7_has) := goodIn_app (goodIn_of _ (by decide +kernel)) ggX10_voice_X7_has
set_option maxRecDepth 20000 in
theorem ggX10_voice_X10_error : GoodIn wsX10_voice wsX10_error := goodIn_r _ [17, 18, 19, 59, 60, 61, 62, 63, 64, 65, 66, 67] (by decide +kernel) (by decide +kernel)
set_option maxRecDepth 20000 in
theorem gX10_voice_X10_error : GoodIn wsX10_voice (wsV RX10 68 RX10 yX10_error wsX10_error) := goodIn_app (goodIn_of _ (by decide +kernel)) ggX10_voice_X10_error
set_option maxRecDepth 20000 in
theorem ggX10_voice_X9_speak : GoodIn wsX10_voice wsX9_speak := goodIn_r _ [24, 25, 26, 27, 28, 29, 30, 31, 32, 23, 33, 34, 35, 36, 37, 38, 39, 40, 41, 42, 43, 44, 45, 46, 47, 48, 49, 50, 51, 52, 53, 54, 55, 56, 57, 58, 85, 86, 87, 88, 89, 90] (by decide +kernel) (by decide +kernel)
set_option maxRecDepth 20000 in
theorem gX10_voice_X9_speak : GoodIn wsX10_voice (wsV RX10 287 RX9 yX9_speak wsX9_speak) := goodIn_app (goodIn_of _ (by decide +kernel)) ggX10_voice_X9_speak
theorem dX10_voice_0 : decode cX10_voice 0 = .ok (.aload_n 0, 1) := by decide +kernel
theorem dX10_voice_1 : decode cX10_voice 1 = .ok (.getfield 10, 3) := by decide +kernel
theorem dX10_voice_4 : decode cX10_voice 4 = .ok (.getfield 72, 3) := by decide +kernel
theorem dX10_voice_7 : decode cX10_voice 7 = .ok (.iload_n 1, 1) := by decide +kernel
theorem dX10_voice_8 : decode cX10_voice 8 = .ok (.invokevirtual 101, 3) := by decide +kernel
theorem dX10_voice_11 : decode cX10_voice 11 = .ok (.ifCond .eq 12, 3) := by decide +kernel
theorem dX10_voice_14 : decode cX10_voice 14 = .ok (.iload_n 2, 1) := by decide +kernel
theorem dX10_voice_15 : decode cX10_voice 15 = .ok (.ifCond .lt 8, 3) := by decide +kernel
theorem dX10_voice_18 : decode cX10_voice 18 = .ok (.iload_n 2, 1) := by decide +kernel
theorem dX10_voice_19 : decode cX10_voice 19 = .ok (.iconst 3, 1) := by decide +kernel
theorem dX10_voice_20 : decode cX10_voice 20 = .ok (.if_icmp .le 9, 3) := by decide +kernel
theorem dX10_voice_23 : decode cX10_voice 23 = .ok (.aload_n 0, 1) := by decide +kernel
theorem dX10_voice_24 : decode cX10_voice 24 = .ok (.iconst 1, 1) := by decide +kernel
theorem dX10_voice_25 : decode cX10_voice 25 = .ok (.invokevirtual 68, 3) := by decide +kernel
theorem dX10_voice_28 : decode cX10_voice 28 = .ok (.ireturn, 1) := by decide +kernel
theorem dX10_voice_29 : decode cX10_voice 29 = .ok (.aload_n 0, 1) := by decide +kernel
theorem dX10_voice_30 : decode cX10_voice 30 = .ok (.getfield 43, 3) := by decide +kernel
theorem dX10_voice_33 : decode cX10_voice 33 = .ok (.aload_n 0, 1) := by decide +kernel
theorem dX10_voice_34 : decode cX10_voice 34 = .ok (.getfield 10, 3) := by decide +kernel
theorem dX10_voice_37 : decode cX10_voice 37 = .ok (.getfield 72, 3) := by decide +kernel
theorem dX10_voice_40 : decode cX10_voice 40 = .ok (.getfield 107, 3) := by decide +kernel
theorem dX10_voice_43 : decode cX10_voice 43 = .ok (.iload_n 1, 1) := by decide +kernel
theorem dX10_voice_44 : decode cX10_voice 44 = .ok (.iaload, 1) := by decide +kernel
theorem dX10_voice_45 : decode cX10_voice 45 = .ok (.iload_n 1, 1) := by decide +kernel
theorem dX10_voice_46 : decode cX10_voice 46 = .ok (.aload_n 0, 1) := by decide +kernel
theorem dX10_voice_47 : decode cX10_voice 47 = .ok (.getfield 10, 3) := by decide +kernel
theorem dX10_voice_50 : decode cX10_voice 50 = .ok (.getfield 72, 3) := by decide +kernel
theorem dX10_voice_53 : decode cX10_voice 53 = .ok (.getfield 120, 3) := by decide +kernel
theorem dX10_voice_56 : decode cX10_voice 56 = .ok (.iload_n 1, 1) := by decide +kernel
theorem dX10_voice_57 : decode cX10_voice 57 = .ok (.iaload, 1) := by decide +kernel
theorem dX10_voice_58 : decode cX10_voice 58 = .ok (.iload_n 2, 1) := by decide +kernel
theorem dX10_voice_59 : decode cX10_voice 59 = .ok (.iload_n 3, 1) := by decide +kernel
theorem dX10_voice_60 : decode cX10_voice 60 = .ok (.invokevirtual 287, 3) := by decide +kernel
theorem dX10_voice_63 : decode cX10_voice 63 = .ok (.istore 4, 2) := by decide +kernel
theorem dX10_voice_65 : decode cX10_voice 65 = .ok (.aload_n 0, 1) := by decide +kernel
theorem dX10_voice_66 : decode cX10_voice 66 = .ok (.getfield 43, 3) := by decide +kernel
theorem dX10_voice_69 : decode cX10_voice 69 = .ok (.getfield 291, 3) := by decide +kernel
theorem dX10_voice_72 : decode cX10_voice 72 = .ok (.ifCond .eq 12, 3) := by decide +kernel
theorem dX10_voice_75 : decode cX10_voice 75 = .ok (.aload_n 0, 1) := by decide +kernel
theorem dX10_voice_76 : decode cX10_voice 76 = .ok (.bipush 6, 2) := by decide +kernel
theorem dX10_voice_78 : decode cX10_voice 78 = .ok (.invokevirtual 68, 3) := by decide +kernel
theorem dX10_voice_81 : decode cX10_voice 81 = .ok (.goto 5, 3) := by decide +kernel
theorem dX10_voice_84 : decode cX10_voice 84 = .ok (.iload 4, 2) := by decide +kernel
theorem dX10_voice_86 : decode cX10_voice 86 = .ok (.ireturn, 1) := by decide +kernel
set_option maxRecDepth 20000 in
theorem ggX10_body_X10_error : GoodIn wsX10_body wsX10_error := goodIn_r _ [7, 8, 9, 17, 18, 19, 20, 21, 22, 23, 24, 25] (by decide +kernel) (by decide +kernel)
set_option maxRecDepth 20000 in
theorem gX10_body_X10_error : GoodIn wsX10_body (wsV RX10 68 RX10 yX10_error wsX10_error) := goodIn_app (goodIn_of _ (by decide +kernel)) ggX10_body_X10_error
set_option maxRecDepth 20000 in
theorem ggX10_body_X9_bodyInTrace : GoodIn wsX10_body wsX9_bodyInTrace := goodIn_r _ [14, 15, 16, 26, 27, 28, 29, 30, 31] (by decide +kernel) (by decide +kernel)
set_option maxRecDepth 20000 in
theorem gX10_body_X9_bodyInTrace : GoodIn wsX10_body (wsV RX10 298 RX9 yX9_bodyInTrace wsX9_bodyInTrace) := goodIn_app (goodIn_of _ (by decide +kernel)) ggX10_body_X9_bodyInTrace
theorem dX10_body_0 : decode cX10_body 0 = .ok (.iload_n 1, 1) := by decide +kernel
theorem dX10_body_1 : decode cX10_body 1 = .ok (.ifCond .lt 14, 3) := by decide +kernel
theorem dX10_body_4 : decode cX10_body 4 = .ok (.iload_n 1, 1) := by decide +kernel
theorem dX10_body_5 : decode cX10_body 5 = .ok (.aload_n 0, 1) := by decide +kernel
theorem dX10_body_6 : decode cX10_body 6 = .ok (.getfield 43, 3) := by decide +kernel
theorem dX10_body_9 : decode cX10_body 9 = .ok (.getfield 295, 3) := by decide +kernel
theorem dX10_body_12 : decode cX10_body 12 = .ok (.if_icmp .lt 9, 3) := by decide +kernel
theorem dX10_body_15 : decode cX10_body 15 = .ok (.aload_n 0, 1) := by decide +kernel
theorem dX10_body_16 : decode cX10_body 16 = .ok (.iconst 2, 1) := by decide +kernel
theorem dX10_body_17 : decode cX10_body 17 = .ok (.invokevirtual 68, 3) := by decide +kernel
theorem dX10_body_20 : decode cX10_body 20 = .ok (.ireturn, 1) := by decide +kernel
theorem dX10_body_21 : decode cX10_body 21 = .ok (.aload_n 0, 1) := by decide +kernel
theorem dX10_body_22 : decode cX10_body 22 = .ok (.getfield 43, 3) := by decide +kernel
theorem dX10_body_25 : decode cX10_body 25 = .ok (.iload_n 1, 1) := by decide +kernel
theorem dX10_body_26 : decode cX10_body 26 = .ok (.invokevirtual 298, 3) := by decide +kernel
theorem dX10_body_29 : decode cX10_body 29 = .ok (.ireturn, 1) := by decide +kernel
set_option maxRecDepth 20000 in
theorem ggX10_sheet_X5_isSheet : GoodIn wsX10_sheet wsX5_isSheet := goodIn_r _ [5] (by decide +kernel) (by decide +kernel)
set_option maxRecDepth 20000 in
theorem gX10_sheet_X5_isSheet : GoodIn wsX10_sheet (va_wsS RX10 272 yX5_isSheet wsX5_isSheet) := goodIn_app (goodIn_of _ (by decide +kernel)) ggX10_sheet_X5_isSheet
set_option maxRecDepth 20000 in
theorem ggX10_sheet_X5_isWidth : GoodIn wsX10_sheet wsX5_isWidth := goodIn_r _ [8] (by decide +kernel) (by decide +kernel)
set_option maxRecDepth 20000 in
theorem gX10_sheet_X5_isWidth : GoodIn wsX10_sheet (va_wsS RX10 301 yX5_isWidth wsX5_isWidth) := goodIn_app (goodIn_of _ (by decide +kernel)) ggX10_sheet_X5_isWidth
set_option maxRecDepth 20000 in
theorem ggX10_sheet_X10_error : GoodIn wsX10_sheet wsX10_error := goodIn_r _ [13, 14, 15, 28, 29, 30, 31, 32, 33, 34, 35, 36] (by decide +kernel) (by decide +kernel)
set_option maxRecDepth 20000 in
theorem gX10_sheet_X10_error : GoodIn wsX10_sheet (wsV RX10 68 RX10 yX10_error wsX10_error) := goodIn_app (goodIn_of _ (by decide +kernel)) ggX10_sheet_X10_error
set_option maxRecDepth 20000 in
theorem ggX10_sheet_X5_take : GoodIn wsX10_sheet wsX5_take := goodIn_r _ [19, 20, 21, 22, 3, 4, 5, 37, 38, 39] (by decide +kernel) (by decide +kernel)
set_option maxRecDepth 20000 in
theorem gX10_sheet_X5_take : GoodIn wsX10_sheet (wsV RX10 304 RX5 yX5_take wsX5_take) := goodIn_app (goodIn_of _ (by decide +kernel)) ggX10_sheet_X5_take
set_option maxRecDepth 20000 in
theorem ggX10_sheet_X5_lay : GoodIn wsX10_sheet wsX5_lay := goodIn_r _ [26, 20, 21, 27, 22, 3, 4, 5, 37, 38, 39] (by decide +kernel) (by decide +kernel)
set_option maxRecDepth 20000 in
theorem gX10_sheet_X5_lay : GoodIn wsX10_sheet (wsV RX10 307 RX5 yX5_lay wsX5_lay) := goodIn_app (goodIn_of _ (by decide +kernel)) ggX10_sheet_X5_lay
theorem dX10_sheet_0 : decode cX10_sheet 0 = .ok (.iload_n 1, 1) := by decide +kernel
theorem dX10_sheet_1 : decode cX10_sheet 1 = .ok (.invokestatic 272, 3) := by decide +kernel
theorem dX10_sheet_4 : decode cX10_sheet 4 = .ok (.ifCond .eq 14, 3) := by decide +kernel
theorem dX10_sheet_7 : decode cX10_sheet 7 = .ok (.iload_n 2, 1) := by decide +kernel
theorem dX10_sheet_8 : decode cX10_sheet 8 = .ok (.ifCond .eq 16, 3) := by decide +kernel
theorem dX10_sheet_11 : decode cX10_sheet 11 = .ok (.iload_n 2, 1) := by decide +kernel
theorem dX10_sheet_12 : decode cX10_sheet 12 = .ok (.invokestatic 301, 3) := by decide +kernel
theorem dX10_sheet_15 : decode cX10_sheet 15 = .ok (.ifCond .ne 9, 3) := by decide +kernel
theorem dX10_sheet_18 : decode cX10_sheet 18 = .ok (.aload_n 0, 1) := by decide +kernel
theorem dX10_sheet_19 : decode cX10_sheet 19 = .ok (.iconst 1, 1) := by decide +kernel
theorem dX10_sheet_20 : decode cX10_sheet 20 = .ok (.invokevirtual 68, 3) := by decide +kernel
theorem dX10_sheet_23 : decode cX10_sheet 23 = .ok (.ireturn, 1) := by decide +kernel
theorem dX10_sheet_24 : decode cX10_sheet 24 = .ok (.iload_n 2, 1) := by decide +kernel
theorem dX10_sheet_25 : decode cX10_sheet 25 = .ok (.ifCond .ne 13, 3) := by decide +kernel
theorem dX10_sheet_28 : decode cX10_sheet 28 = .ok (.aload_n 0, 1) := by decide +kernel
theorem dX10_sheet_29 : decode cX10_sheet 29 = .ok (.getfield 50, 3) := by decide +kernel
theorem dX10_sheet_32 : decode cX10_sheet 32 = .ok (.iload_n 1, 1) := by decide +kernel
theorem dX10_sheet_33 : decode cX10_sheet 33 = .ok (.invokevirtual 304, 3) := by decide +kernel
theorem dX10_sheet_36 : decode cX10_sheet 36 = .ok (.iconst 1, 1) := by decide +kernel
theorem dX10_sheet_37 : decode cX10_sheet 37 = .ok (.ireturn, 1) := by decide +kernel
theorem dX10_sheet_38 : decode cX10_sheet 38 = .ok (.iload_n 3, 1) := by decide +kernel
theorem dX10_sheet_39 : decode cX10_sheet 39 = .ok (.ifCond .ge 9, 3) := by decide +kernel
theorem dX10_sheet_42 : decode cX10_sheet 42 = .ok (.aload_n 0, 1) := by decide +kernel
theorem dX10_sheet_43 : decode cX10_sheet 43 = .ok (.iconst 3, 1) := by decide +kernel
theorem dX10_sheet_44 : decode cX10_sheet 44 = .ok (.invokevirtual 68, 3) := by decide +kernel
theorem dX10_sheet_47 : decode cX10_sheet 47 = .ok (.ireturn, 1) := by decide +kernel
theorem dX10_sheet_48 : decode cX10_sheet 48 = .ok (.iload_n 3, 1) := by decide +kernel
theorem dX10_sheet_49 : decode cX10_sheet 49 = .ok (.bipush 24, 2) := by decide +kernel
theorem dX10_sheet_51 : decode cX10_sheet 51 = .ok (.if_icmp .le 9, 3) := by decide +kernel
theorem dX10_sheet_54 : decode cX10_sheet 54 = .ok (.aload_n 0, 1) := by decide +kernel
theorem dX10_sheet_55 : decode cX10_sheet 55 = .ok (.iconst 1, 1) := by decide +kernel
theorem dX10_sheet_56 : decode cX10_sheet 56 = .ok (.invokevirtual 68, 3) := by decide +kernel
theorem dX10_sheet_59 : decode cX10_sheet 59 = .ok (.ireturn, 1) := by decide +kernel
theorem dX10_sheet_60 : decode cX10_sheet 60 = .ok (.aload_n 0, 1) := by decide +kernel
theorem dX10_sheet_61 : decode cX10_sheet 61 = .ok (.getfield 50, 3) := by decide +kernel
theorem dX10_sheet_64 : decode cX10_sheet 64 = .ok (.iload_n 1, 1) := by decide +kernel
theorem dX10_sheet_65 : decode cX10_sheet 65 = .ok (.iload_n 2, 1) := by decide +kernel
theorem dX10_sheet_66 : decode cX10_sheet 66 = .ok (.iload_n 3, 1) := by decide +kernel
theorem dX10_sheet_67 : decode cX10_sheet 67 = .ok (.invokevirtual 307, 3) := by decide +kernel
theorem dX10_sheet_70 : decode cX10_sheet 70 = .ok (.iconst 1, 1) := by decide +kernel
theorem dX10_sheet_71 : decode cX10_sheet 71 = .ok (.ireturn, 1) := by decide +kernel
set_option maxRecDepth 20000 in
theorem ggX10_put_X5_isSheet : GoodIn wsX10_put wsX5_isSheet := goodIn_r _ [6] (by decide +kernel) (by decide +kernel)
set_option maxRecDepth 20000 in
theorem gX10_put_X5_isSheet : GoodIn wsX10_put (va_wsS RX10 272 yX5_isSheet wsX5_isSheet) := goodIn_app (goodIn_of _ (by decide +kernel)) ggX10_put_X5_isSheet
set_option maxRecDepth 20000 in
theorem ggX10_put_X10_error : GoodIn wsX10_put wsX10_error := goodIn_r _ [11, 12, 13, 33, 34, 35, 36, 37, 38, 39, 40, 41] (by decide +kernel) (by decide +kernel)
set_option maxRecDepth 20000 in
theorem gX10_put_X10_error : GoodIn wsX10_put (wsV RX10 68 RX10 yX10_error wsX10_error) := goodIn_app (goodIn_of _ (by decide +kernel)) ggX10_put_X10_error
set_option maxRecDepth 20000 in
theorem ggX10_put_X5_isMissing : GoodIn wsX10_put wsX5_isMissing := goodIn_r _ [17, 18, 19, 4, 5, 6, 42, 43, 44] (by decide +kernel) (by decide +kernel)
set_option maxRecDepth 20000 in
theorem gX10_put_X5_isMissing : GoodIn wsX10_put (wsV RX10 275 RX5 yX5_isMissing wsX5_isMissing) := goodIn_app (goodIn_of _ (by decide +kernel)) ggX10_put_X5_isMissing
set_option maxRecDepth 20000 in
theorem ggX10_put_X5_write : GoodIn wsX10_put wsX5_write := goodIn_r _ [23, 24, 18, 25, 26, 27, 5, 28, 29, 19, 4, 6, 30, 31, 32, 42, 43, 44] (by decide +kernel) (by decide +kernel)
set_option maxRecDepth 20000 in
theorem gX10_put_X5_write : GoodIn wsX10_put (wsV RX10 311 RX5 yX5_write wsX5_write) := goodIn_app (goodIn_of _ (by decide +kernel)) ggX10_put_X5_write
theorem dX10_put_0 : decode cX10_put 0 = .ok (.iload_n 1, 1) := by decide +kernel
theorem dX10_put_1 : decode cX10_put 1 = .ok (.invokestatic 272, 3) := by decide +kernel
theorem dX10_put_4 : decode cX10_put 4 = .ok (.ifCond .ne 9, 3) := by decide +kernel
theorem dX10_put_7 : decode cX10_put 7 = .ok (.aload_n 0, 1) := by decide +kernel
theorem dX10_put_8 : decode cX10_put 8 = .ok (.iconst 1, 1) := by decide +kernel
theorem dX10_put_9 : decode cX10_put 9 = .ok (.invokevirtual 68, 3) := by decide +kernel
theorem dX10_put_12 : decode cX10_put 12 = .ok (.ireturn, 1) := by decide +kernel
theorem dX10_put_13 : decode cX10_put 13 = .ok (.aload_n 0, 1) := by decide +kernel
theorem dX10_put_14 : decode cX10_put 14 = .ok (.getfield 50, 3) := by decide +kernel
theorem dX10_put_17 : decode cX10_put 17 = .ok (.iload_n 1, 1) := by decide +kernel
theorem dX10_put_18 : decode cX10_put 18 = .ok (.invokevirtual 275, 3) := by decide +kernel
theorem dX10_put_21 : decode cX10_put 21 = .ok (.ifCond .eq 9, 3) := by decide +kernel
theorem dX10_put_24 : decode cX10_put 24 = .ok (.aload_n 0, 1) := by decide +kernel
theorem dX10_put_25 : decode cX10_put 25 = .ok (.iconst 2, 1) := by decide +kernel
theorem dX10_put_26 : decode cX10_put 26 = .ok (.invokevirtual 68, 3) := by decide +kernel
theorem dX10_put_29 : decode cX10_put 29 = .ok (.ireturn, 1) := by decide +kernel
theorem dX10_put_30 : decode cX10_put 30 = .ok (.iload_n 2, 1) := by decide +kernel
theorem dX10_put_31 : decode cX10_put 31 = .ok (.ifCond .lt 16, 3) := by decide +kernel
theorem dX10_put_34 : decode cX10_put 34 = .ok (.iload_n 2, 1) := by decide +kernel
theorem dX10_put_35 : decode cX10_put 35 = .ok (.aload_n 0, 1) := by decide +kernel
theorem dX10_put_36 : decode cX10_put 36 = .ok (.getfield 50, 3) := by decide +kernel
theorem dX10_put_39 : decode cX10_put 39 = .ok (.getfield 278, 3) := by decide +kernel
theorem dX10_put_42 : decode cX10_put 42 = .ok (.iload_n 1, 1) := by decide +kernel
theorem dX10_put_43 : decode cX10_put 43 = .ok (.iaload, 1) := by decide +kernel
theorem dX10_put_44 : decode cX10_put 44 = .ok (.if_icmp .lt 9, 3) := by decide +kernel
theorem dX10_put_47 : decode cX10_put 47 = .ok (.aload_n 0, 1) := by decide +kernel
theorem dX10_put_48 : decode cX10_put 48 = .ok (.iconst 1, 1) := by decide +kernel
theorem dX10_put_49 : decode cX10_put 49 = .ok (.invokevirtual 68, 3) := by decide +kernel
theorem dX10_put_52 : decode cX10_put 52 = .ok (.ireturn, 1) := by decide +kernel
theorem dX10_put_53 : decode cX10_put 53 = .ok (.aload_n 0, 1) := by decide +kernel
theorem dX10_put_54 : decode cX10_put 54 = .ok (.getfield 50, 3) := by decide +kernel
theorem dX10_put_57 : decode cX10_put 57 = .ok (.iload_n 1, 1) := by decide +kernel
theorem dX10_put_58 : decode cX10_put 58 = .ok (.iload_n 2, 1) := by decide +kernel
theorem dX10_put_59 : decode cX10_put 59 = .ok (.iload_n 3, 1) := by decide +kernel
theorem dX10_put_60 : decode cX10_put 60 = .ok (.invokevirtual 311, 3) := by decide +kernel
theorem dX10_put_63 : decode cX10_put 63 = .ok (.iconst 1, 1) := by decide +kernel
theorem dX10_put_64 : decode cX10_put 64 = .ok (.ireturn, 1) := by decide +kernel
set_option maxRecDepth 20000 in
theorem ggX10_move_X5_isSheet : GoodIn wsX10_move wsX5_isSheet := goodIn_r _ [6] (by decide +kernel) (by decide +kernel)
set_option maxRecDepth 20000 in
theorem gX10_move_X5_isSheet : GoodIn wsX10_move (va_wsS RX10 272 yX5_isSheet wsX5_isSheet) := goodIn_app (goodIn_of _ (by decide +kernel)) ggX10_move_X5_isSheet
set_option maxRecDepth 20000 in
theorem ggX10_move_X10_error : GoodIn wsX10_move wsX10_error := goodIn_r _ [11, 12, 13, 35, 36, 37, 38, 39, 40, 41, 42, 43] (by decide +kernel) (by decide +kernel)
set_option maxRecDepth 20000 in
theorem gX10_move_X10_error : GoodIn wsX10_move (wsV RX10 68 RX10 yX10_error wsX10_error) := goodIn_app (goodIn_of _ (by decide +kernel)) ggX10_move_X10_error
set_option maxRecDepth 20000 in
theorem ggX10_move_X5_isMissing : GoodIn wsX10_move wsX5_isMissing := goodIn_r _ [17, 18, 19, 4, 5, 6, 44, 45, 46] (by decide +kernel) (by decide +kernel)
set_option maxRecDepth 20000 in
theorem gX10_move_X5_isMissing : GoodIn wsX10_move (wsV RX10 275 RX5 yX5_isMissing wsX5_isMissing) := goodIn_app (goodIn_of _ (by decide +kernel)) ggX10_move_X5_isMissing
set_option maxRecDepth 20000 in
theorem ggX10_move_X5_standThere : GoodIn wsX10_move wsX5_standThere := goodIn_r _ [23, 24, 19, 4, 5, 6, 44, 45, 46] (by decide +kernel) (by decide +kernel)
set_option maxRecDepth 20000 in
theorem gX10_move_X5_standThere : GoodIn wsX10_move (wsV RX10 317 RX5 yX5_standThere wsX5_standThere) := goodIn_app (goodIn_of _ (by decide +kernel)) ggX10_move_X5_standThere
set_option maxRecDepth 20000 in
theorem ggX10_move_X5_copyNumbers : GoodIn wsX10_move wsX5_copyNumbers := goodIn_r _ [28, 29, 30, 31, 32, 33, 34, 21, 22, 5, 23, 24, 19, 4, 6, 44, 45, 46] (by decide +kernel) (by decide +kernel)
set_option maxRecDepth 20000 in
theorem gX10_move_X5_copyNumbers : GoodIn wsX10_move (wsV RX10 320 RX5 yX5_copyNumbers wsX5_copyNumbers) := goodIn_app (goodIn_of _ (by decide +kernel)) ggX10_move_X5_copyNumbers
theorem dX10_move_0 : decode cX10_move 0 = .ok (.iload_n 1, 1) := by decide +kernel
theorem dX10_move_1 : decode cX10_move 1 = .ok (.invokestatic 272, 3) := by decide +kernel
theorem dX10_move_4 : decode cX10_move 4 = .ok (.ifCond .eq 10, 3) := by decide +kernel
theorem dX10_move_7 : decode cX10_move 7 = .ok (.iload_n 3, 1) := by decide +kernel
theorem dX10_move_8 : decode cX10_move 8 = .ok (.invokestatic 272, 3) := by decide +kernel
theorem dX10_move_11 : decode cX10_move 11 = .ok (.ifCond .ne 9, 3) := by decide +kernel
theorem dX10_move_14 : decode cX10_move 14 = .ok (.aload_n 0, 1) := by decide +kernel
theorem dX10_move_15 : decode cX10_move 15 = .ok (.iconst 1, 1) := by decide +kernel
theorem dX10_move_16 : decode cX10_move 16 = .ok (.invokevirtual 68, 3) := by decide +kernel
theorem dX10_move_19 : decode cX10_move 19 = .ok (.ireturn, 1) := by decide +kernel
theorem dX10_move_20 : decode cX10_move 20 = .ok (.aload_n 0, 1) := by decide +kernel
theorem dX10_move_21 : decode cX10_move 21 = .ok (.getfield 50, 3) := by decide +kernel
theorem dX10_move_24 : decode cX10_move 24 = .ok (.iload_n 1, 1) := by decide +kernel
theorem dX10_move_25 : decode cX10_move 25 = .ok (.invokevirtual 275, 3) := by decide +kernel
theorem dX10_move_28 : decode cX10_move 28 = .ok (.ifCond .ne 14, 3) := by decide +kernel
theorem dX10_move_31 : decode cX10_move 31 = .ok (.aload_n 0, 1) := by decide +kernel
theorem dX10_move_32 : decode cX10_move 32 = .ok (.getfield 50, 3) := by decide +kernel
theorem dX10_move_35 : decode cX10_move 35 = .ok (.iload_n 3, 1) := by decide +kernel
theorem dX10_move_36 : decode cX10_move 36 = .ok (.invokevirtual 275, 3) := by decide +kernel
theorem dX10_move_39 : decode cX10_move 39 = .ok (.ifCond .eq 9, 3) := by decide +kernel
theorem dX10_move_42 : decode cX10_move 42 = .ok (.aload_n 0, 1) := by decide +kernel
theorem dX10_move_43 : decode cX10_move 43 = .ok (.iconst 2, 1) := by decide +kernel
theorem dX10_move_44 : decode cX10_move 44 = .ok (.invokevirtual 68, 3) := by decide +kernel
theorem dX10_move_47 : decode cX10_move 47 = .ok (.ireturn, 1) := by decide +kernel
theorem dX10_move_48 : decode cX10_move 48 = .ok (.aload_n 0, 1) := by decide +kernel
theorem dX10_move_49 : decode cX10_move 49 = .ok (.getfield 50, 3) := by decide +kernel
theorem dX10_move_52 : decode cX10_move 52 = .ok (.getfield 314, 3) := by decide +kernel
theorem dX10_move_55 : decode cX10_move 55 = .ok (.iload_n 1, 1) := by decide +kernel
theorem dX10_move_56 : decode cX10_move 56 = .ok (.iaload, 1) := by decide +kernel
theorem dX10_move_57 : decode cX10_move 57 = .ok (.aload_n 0, 1) := by decide +kernel
theorem dX10_move_58 : decode cX10_move 58 = .ok (.getfield 50, 3) := by decide +kernel
theorem dX10_move_61 : decode cX10_move 61 = .ok (.getfield 314, 3) := by decide +kernel
theorem dX10_move_64 : decode cX10_move 64 = .ok (.iload_n 3, 1) := by decide +kernel
theorem dX10_move_65 : decode cX10_move 65 = .ok (.iaload, 1) := by decide +kernel
theorem dX10_move_66 : decode cX10_move 66 = .ok (.if_icmp .eq 9, 3) := by decide +kernel
theorem dX10_move_69 : decode cX10_move 69 = .ok (.aload_n 0, 1) := by decide +kernel
theorem dX10_move_70 : decode cX10_move 70 = .ok (.iconst 5, 1) := by decide +kernel
theorem dX10_move_71 : decode cX10_move 71 = .ok (.invokevirtual 68, 3) := by decide +kernel
theorem dX10_move_74 : decode cX10_move 74 = .ok (.ireturn, 1) := by decide +kernel
theorem dX10_move_75 : decode cX10_move 75 = .ok (.aload_n 0, 1) := by decide +kernel
theorem dX10_move_76 : decode cX10_move 76 = .ok (.getfield 50, 3) := by decide +kernel
theorem dX10_move_79 : decode cX10_move 79 = .ok (.iload_n 1, 1) := by decide +kernel
theorem dX10_move_80 : decode cX10_move 80 = .ok (.iload_n 2, 1) := by decide +kernel
theorem dX10_move_81 : decode cX10_move 81 = .ok (.iload 5, 2) := by decide +kernel
theorem dX10_move_83 : decode cX10_move 83 = .ok (.invokevirtual 317, 3) := by decide +kernel
theorem dX10_move_86 : decode cX10_move 86 = .ok (.ifCond .eq 18, 3) := by decide +kernel
theorem dX10_move_89 : decode cX10_move 89 = .ok (.aload_n 0, 1) := by decide +kernel
theorem dX10_move_90 : decode cX10_move 90 = .ok (.getfield 50, 3) := by decide +kernel
theorem dX10_move_93 : decode cX10_move 93 = .ok (.iload_n 3, 1) := by decide +kernel
theorem dX10_move_94 : decode cX10_move 94 = .ok (.iload 4, 2) := by decide +kernel
theorem dX10_move_96 : decode cX10_move 96 = .ok (.iload 5, 2) := by decide +kernel
theorem dX10_move_98 : decode cX10_move 98 = .ok (.invokevirtual 317, 3) := by decide +kernel
theorem dX10_move_101 : decode cX10_move 101 = .ok (.ifCond .ne 9, 3) := by decide +kernel
theorem dX10_move_104 : decode cX10_move 104 = .ok (.aload_n 0, 1) := by decide +kernel
theorem dX10_move_105 : decode cX10_move 105 = .ok (.iconst 1, 1) := by decide +kernel
theorem dX10_move_106 : decode cX10_move 106 = .ok (.invokevirtual 68, 3) := by decide +kernel
theorem dX10_move_109 : decode cX10_move 109 = .ok (.ireturn, 1) := by decide +kernel
theorem dX10_move_110 : decode cX10_move 110 = .ok (.aload_n 0, 1) := by decide +kernel
theorem dX10_move_111 : decode cX10_move 111 = .ok (.getfield 50, 3) := by decide +kernel
theorem dX10_move_114 : decode cX10_move 114 = .ok (.iload_n 1, 1) := by decide +kernel
theorem dX10_move_115 : decode cX10_move 115 = .ok (.iload_n 2, 1) := by decide +kernel
theorem dX10_move_116 : decode cX10_move 116 = .ok (.iload_n 3, 1) := by decide +kernel
theorem dX10_move_117 : decode cX10_move 117 = .ok (.iload 4, 2) := by decide +kernel
theorem dX10_move_119 : decode cX10_move 119 = .ok (.iload 5, 2) := by decide +kernel
theorem dX10_move_121 : decode cX10_move 121 = .ok (.invokevirtual 320, 3) := by decide +kernel
theorem dX10_move_124 : decode cX10_move 124 = .ok (.iload 5, 2) := by decide +kernel
theorem dX10_move_126 : decode cX10_move 126 = .ok (.ireturn, 1) := by decide +kernel
set_option maxRecDepth 20000 in
theorem ggX10_walls_X5_isSheet : GoodIn wsX10_walls wsX5_isSheet := goodIn_r _ [8] (by decide +kernel) (by decide +kernel)
set_option maxRecDepth 20000 in
theorem gX10_walls_X5_isSheet : GoodIn wsX10_walls (va_wsS RX10 272 yX5_isSheet wsX5_isSheet) := goodIn_app (goodIn_of _ (by decide +kernel)) ggX10_walls_X5_isSheet
set_option maxRecDepth 20000 in
theorem ggX10_walls_X10_error : GoodIn wsX10_walls wsX10_error := goodIn_r _ [13, 14, 15, 50, 51, 52, 53, 54, 55, 56, 57, 58] (by decide +kernel) (by decide +kernel)
set_option maxRecDepth 20000 in
theorem gX10_walls_X10_error : GoodIn wsX10_walls (wsV RX10 68 RX10 yX10_error wsX10_error) := goodIn_app (goodIn_of _ (by decide +kernel)) ggX10_walls_X10_error
set_option maxRecDepth 20000 in
theorem ggX10_walls_X5_isMissing : GoodIn wsX10_walls wsX5_isMissing := goodIn_r _ [19, 20, 21, 6, 7, 8, 59, 60, 61] (by decide +kernel) (by decide +kernel)
set_option maxRecDepth 20000 in
theorem gX10_walls_X5_isMissing : GoodIn wsX10_walls (wsV RX10 275 RX5 yX5_isMissing wsX5_isMissing) := goodIn_app (goodIn_of _ (by decide +kernel)) ggX10_walls_X5_isMissing
set_option maxRecDepth 20000 in
theorem ggX10_walls_X5_numberAt : GoodIn wsX10_walls wsX5_numberAt := goodIn_r _ [25, 26, 27, 28, 29, 7, 30, 31, 21, 6, 8, 59, 60, 61] (by decide +kernel) (by decide +kernel)
set_option maxRecDepth 20000 in
theorem gX10_walls_X5_numberAt : GoodIn wsX10_walls (wsV RX10 281 RX5 yX5_numberAt wsX5_numberAt) := goodIn_app (goodIn_of _ (by decide +kernel)) ggX10_walls_X5_numberAt
set_option maxRecDepth 20000 in
theorem ggX10_walls_X0_isCell : GoodIn wsX10_walls wsX0_isCell := goodIn_r _ [35] (by decide +kernel) (by decide +kernel)
set_option maxRecDepth 20000 in
theorem gX10_walls_X0_isCell : GoodIn wsX10_walls (va_wsS RX10 62 yX0_isCell wsX0_isCell) := goodIn_app (goodIn_of _ (by decide +kernel)) ggX10_walls_X0_isCell
set_option maxRecDepth 20000 in
theorem ggX10_walls_X7_inCell : GoodIn wsX10_walls wsX7_inCell := goodIn_r _ [40, 41, 42, 72, 73, 74, 75, 76, 77, 78] (by decide +kernel) (by decide +kernel)
set_option maxRecDepth 20000 in
theorem gX10_walls_X7_inCell : GoodIn wsX10_walls (wsV RX10 76 RX7 yX7_inCell wsX7_inCell) := goodIn_app (goodIn_of _ (by decide +kernel)) ggX10_walls_X7_inCell
set_option maxRecDepth 20000 in
theorem ggX10_walls_X1_setWall : GoodIn wsX10_walls wsX1_setWall := goodIn_r _ [47, 48, 49, 62, 63, 64, 65, 66, 67, 68, 69, 70, 71] (by decide +kernel) (by decide +kernel)
set_option maxRecDepth 20000 in
theorem gX10_walls_X1_setWall : GoodIn wsX10_walls (wsV RX10 84 RX1 yX1_setWall wsX1_setWall) := goodIn_app (goodIn_of _ (by decide +kernel)) ggX10_walls_X1_setWall
theorem dX10_walls_0 : decode cX10_walls 0 = .ok (.iload_n 1, 1) := by decide +kernel
theorem dX10_walls_1 : decode cX10_walls 1 = .ok (.invokestatic 272, 3) := by decide +kernel
theorem dX10_walls_4 : decode cX10_walls 4 = .ok (.ifCond .ne 9, 3) := by decide +kernel
theorem dX10_walls_7 : decode cX10_walls 7 = .ok (.aload_n 0, 1) := by decide +kernel
theorem dX10_walls_8 : decode cX10_walls 8 = .ok (.iconst 1, 1) := by decide +kernel
theorem dX10_walls_9 : decode cX10_walls 9 = .ok (.invokevirtual 68, 3) := by decide +kernel
theorem dX10_walls_12 : decode cX10_walls 12 = .ok (.ireturn, 1) := by decide +kernel
theorem dX10_walls_13 : decode cX10_walls 13 = .ok (.aload_n 0, 1) := by decide +kernel
theorem dX10_walls_14 : decode cX10_walls 14 = .ok (.getfield 50, 3) := by decide +kernel
theorem dX10_walls_17 : decode cX10_walls 17 = .ok (.iload_n 1, 1) := by decide +kernel
theorem dX10_walls_18 : decode cX10_walls 18 = .ok (.invokevirtual 275, 3) := by decide +kernel
theorem dX10_walls_21 : decode cX10_walls 21 = .ok (.ifCond .eq 9, 3) := by decide +kernel
theorem dX10_walls_24 : decode cX10_walls 24 = .ok (.aload_n 0, 1) := by decide +kernel
theorem dX10_walls_25 : decode cX10_walls 25 = .ok (.iconst 2, 1) := by decide +kernel
theorem dX10_walls_26 : decode cX10_walls 26 = .ok (.invokevirtual 68, 3) := by decide +kernel
theorem dX10_walls_29 : decode cX10_walls 29 = .ok (.ireturn, 1) := by decide +kernel
theorem dX10_walls_30 : decode cX10_walls 30 = .ok (.aload_n 0, 1) := by decide +kernel
theorem dX10_walls_31 : decode cX10_walls 31 = .ok (.getfield 50, 3) := by decide +kernel
theorem dX10_walls_34 : decode cX10_walls 34 = .ok (.getfield 278, 3) := by decide +kernel
theorem dX10_walls_37 : decode cX10_walls 37 = .ok (.iload_n 1, 1) := by decide +kernel
theorem dX10_walls_38 : decode cX10_walls 38 = .ok (.iaload, 1) := by decide +kernel
theorem dX10_walls_39 : decode cX10_walls 39 = .ok (.istore_n 2, 1) := by decide +kernel
theorem dX10_walls_40 : decode cX10_walls 40 = .ok (.iconst 0, 1) := by decide +kernel
theorem dX10_walls_41 : decode cX10_walls 41 = .ok (.istore_n 3, 1) := by decide +kernel
theorem dX10_walls_42 : decode cX10_walls 42 = .ok (.iload_n 3, 1) := by decide +kernel
theorem dX10_walls_43 : decode cX10_walls 43 = .ok (.iload_n 2, 1) := by decide +kernel
theorem dX10_walls_44 : decode cX10_walls 44 = .ok (.if_icmp .ge 82, 3) := by decide +kernel
theorem dX10_walls_47 : decode cX10_walls 47 = .ok (.aload_n 0, 1) := by decide +kernel
theorem dX10_walls_48 : decode cX10_walls 48 = .ok (.getfield 50, 3) := by decide +kernel
theorem dX10_walls_51 : decode cX10_walls 51 = .ok (.iload_n 1, 1) := by decide +kernel
theorem dX10_walls_52 : decode cX10_walls 52 = .ok (.iload_n 3, 1) := by decide +kernel
theorem dX10_walls_53 : decode cX10_walls 53 = .ok (.invokevirtual 281, 3) := by decide +kernel
theorem dX10_walls_56 : decode cX10_walls 56 = .ok (.istore 4, 2) := by decide +kernel
theorem dX10_walls_58 : decode cX10_walls 58 = .ok (.iload_n 3, 1) := by decide +kernel
theorem dX10_walls_59 : decode cX10_walls 59 = .ok (.invokestatic 62, 3) := by decide +kernel
theorem dX10_walls_62 : decode cX10_walls 62 = .ok (.ifCond .eq 18, 3) := by decide +kernel
theorem dX10_walls_65 : decode cX10_walls 65 = .ok (.iload 4, 2) := by decide +kernel
theorem dX10_walls_67 : decode cX10_walls 67 = .ok (.ifCond .eq 9, 3) := by decide +kernel
theorem dX10_walls_70 : decode cX10_walls 70 = .ok (.iload 4, 2) := by decide +kernel
theorem dX10_walls_72 : decode cX10_walls 72 = .ok (.iconst 1, 1) := by decide +kernel
theorem dX10_walls_73 : decode cX10_walls 73 = .ok (.if_icmp .ne 7, 3) := by decide +kernel
theorem dX10_walls_76 : decode cX10_walls 76 = .ok (.iconst 1, 1) := by decide +kernel
theorem dX10_walls_77 : decode cX10_walls 77 = .ok (.goto 4, 3) := by decide +kernel
theorem dX10_walls_80 : decode cX10_walls 80 = .ok (.iconst 0, 1) := by decide +kernel
theorem dX10_walls_81 : decode cX10_walls 81 = .ok (.istore 5, 2) := by decide +kernel
theorem dX10_walls_83 : decode cX10_walls 83 = .ok (.iload 5, 2) := by decide +kernel
theorem dX10_walls_85 : decode cX10_walls 85 = .ok (.ifCond .eq 23, 3) := by decide +kernel
theorem dX10_walls_88 : decode cX10_walls 88 = .ok (.iload 4, 2) := by decide +kernel
theorem dX10_walls_90 : decode cX10_walls 90 = .ok (.iconst 1, 1) := by decide +kernel
theorem dX10_walls_91 : decode cX10_walls 91 = .ok (.if_icmp .ne 19, 3) := by decide +kernel
theorem dX10_walls_94 : decode cX10_walls 94 = .ok (.aload_n 0, 1) := by decide +kernel
theorem dX10_walls_95 : decode cX10_walls 95 = .ok (.getfield 10, 3) := by decide +kernel
theorem dX10_walls_98 : decode cX10_walls 98 = .ok (.getfield 72, 3) := by decide +kernel
theorem dX10_walls_101 : decode cX10_walls 101 = .ok (.iload_n 3, 1) := by decide +kernel
theorem dX10_walls_102 : decode cX10_walls 102 = .ok (.invokevirtual 76, 3) := by decide +kernel
theorem dX10_walls_105 : decode cX10_walls 105 = .ok (.ifCond .lt 5, 3) := by decide +kernel
theorem dX10_walls_108 : decode cX10_walls 108 = .ok (.iload_n 3, 1) := by decide +kernel
theorem dX10_walls_109 : decode cX10_walls 109 = .ok (.ireturn, 1) := by decide +kernel
theorem dX10_walls_110 : decode cX10_walls 110 = .ok (.aload_n 0, 1) := by decide +kernel
theorem dX10_walls_111 : decode cX10_walls 111 = .ok (.getfield 10, 3) := by decide +kernel
theorem dX10_walls_114 : decode cX10_walls 114 = .ok (.iload_n 3, 1) := by decide +kernel
theorem dX10_walls_115 : decode cX10_walls 115 = .ok (.iload 4, 2) := by decide +kernel
theorem dX10_walls_117 : decode cX10_walls 117 = .ok (.invokevirtual 84, 3) := by decide +kernel
theorem dX10_walls_120 : decode cX10_walls 120 = .ok (.iinc 3 1, 3) := by decide +kernel
theorem dX10_walls_123 : decode cX10_walls 123 = .ok (.goto (-81), 3) := by decide +kernel
theorem dX10_walls_126 : decode cX10_walls 126 = .ok (.iload_n 2, 1) := by decide +kernel
theorem dX10_walls_127 : decode cX10_walls 127 = .ok (.ireturn, 1) := by decide +kernel
set_option maxRecDepth 20000 in
theorem ggX10_judge_X5_isSheet : GoodIn wsX10_judge wsX5_isSheet := goodIn_r _ [8] (by decide +kernel) (by decide +kernel)
set_option maxRecDepth 20000 in
theorem gX10_judge_X5_isSheet : GoodIn wsX10_judge (va_wsS RX10 272 yX5_isSheet wsX5_isSheet) := goodIn_app (goodIn_of _ (by decide +kernel)) ggX10_judge_X5_isSheet
set_option maxRecDepth 20000 in
theorem ggX10_judge_X10_error : GoodIn wsX10_judge wsX10_error := goodIn_r _ [13, 14, 15, 66, 67, 68, 69, 70, 71, 72, 73, 74] (by decide +kernel) (by decide +kernel)
set_option maxRecDepth 20000 in
theorem gX10_judge_X10_error : GoodIn wsX10_judge (wsV RX10 68 RX10 yX10_error wsX10_error) := goodIn_app (goodIn_of _ (by decide +kernel)) ggX10_judge_X10_error
set_option maxRecDepth 20000 in
theorem ggX10_judge_X5_isMissing : GoodIn wsX10_judge wsX5_isMissing := goodIn_r _ [19, 20, 21, 6, 7, 8, 75, 76, 77] (by decide +kernel) (by decide +kernel)
set_option maxRecDepth 20000 in
theorem gX10_judge_X5_isMissing : GoodIn wsX10_judge (wsV RX10 275 RX5 yX5_isMissing wsX5_isMissing) := goodIn_app (goodIn_of _ (by decide +kernel)) ggX10_judge_X5_isMissing
set_option maxRecDepth 20000 in
theorem ggX10_judge_X5_numberAt : GoodIn wsX10_judge wsX5_numberAt := goodIn_r _ [25, 26, 27, 28, 29, 7, 30, 31, 21, 6, 8, 75, 76, 77] (by decide +kernel) (by decide +kernel)
set_option maxRecDepth 20000 in
theorem gX10_judge_X5_numberAt : GoodIn wsX10_judge (wsV RX10 281 RX5 yX5_numberAt wsX5_numberAt) := goodIn_app (goodIn_of _ (by decide +kernel)) ggX10_judge_X5_numberAt
set_option maxRecDepth 20000 in
theorem ggX10_judge_X1_pullAt : GoodIn wsX10_judge wsX1_pullAt := goodIn_r _ [36, 37, 38, 39, 40, 41, 35, 42, 43, 44, 45, 46, 47, 48, 49, 50, 51, 52, 53, 54, 55, 56, 57, 58, 59, 60, 61, 62, 63, 64, 65, 78, 79, 80, 81, 82, 83, 84, 85, 86, 87, 88, 89, 90, 91, 92, 93, 94, 95, 96, 97] (by decide +kernel) (by decide +kernel)
set_option maxRecDepth 20000 in
theorem gX10_judge_X1_pullAt : GoodIn wsX10_judge (wsV RX10 186 RX1 yX1_pullAt wsX1_pullAt) := goodIn_app (goodIn_of _ (by decide +kernel)) ggX10_judge_X1_pullAt
theorem dX10_judge_0 : decode cX10_judge 0 = .ok (.iload_n 1, 1) := by decide +kernel
theorem dX10_judge_1 : decode cX10_judge 1 = .ok (.invokestatic 272, 3) := by decide +kernel
theorem dX10_judge_4 : decode cX10_judge 4 = .ok (.ifCond .ne 9, 3) := by decide +kernel
theorem dX10_judge_7 : decode cX10_judge 7 = .ok (.aload_n 0, 1) := by decide +kernel
theorem dX10_judge_8 : decode cX10_judge 8 = .ok (.iconst 1, 1) := by decide +kernel
theorem dX10_judge_9 : decode cX10_judge 9 = .ok (.invokevirtual 68, 3) := by decide +kernel
theorem dX10_judge_12 : decode cX10_judge 12 = .ok (.ireturn, 1) := by decide +kernel
theorem dX10_judge_13 : decode cX10_judge 13 = .ok (.aload_n 0, 1) := by decide +kernel
theorem dX10_judge_14 : decode cX10_judge 14 = .ok (.getfield 50, 3) := by decide +kernel
theorem dX10_judge_17 : decode cX10_judge 17 = .ok (.iload_n 1, 1) := by decide +kernel
theorem dX10_judge_18 : decode cX10_judge 18 = .ok (.invokevirtual 275, 3) := by decide +kernel
theorem dX10_judge_21 : decode cX10_judge 21 = .ok (.ifCond .eq 9, 3) := by decide +kernel
theorem dX10_judge_24 : decode cX10_judge 24 = .ok (.aload_n 0, 1) := by decide +kernel
theorem dX10_judge_25 : decode cX10_judge 25 = .ok (.iconst 2, 1) := by decide +kernel
theorem dX10_judge_26 : decode cX10_judge 26 = .ok (.invokevirtual 68, 3) := by decide +kernel
theorem dX10_judge_29 : decode cX10_judge 29 = .ok (.ireturn, 1) := by decide +kernel
theorem dX10_judge_30 : decode cX10_judge 30 = .ok (.aload_n 0, 1) := by decide +kernel
theorem dX10_judge_31 : decode cX10_judge 31 = .ok (.getfield 50, 3) := by decide +kernel
theorem dX10_judge_34 : decode cX10_judge 34 = .ok (.getfield 278, 3) := by decide +kernel
theorem dX10_judge_37 : decode cX10_judge 37 = .ok (.iload_n 1, 1) := by decide +kernel
theorem dX10_judge_38 : decode cX10_judge 38 = .ok (.iaload, 1) := by decide +kernel
theorem dX10_judge_39 : decode cX10_judge 39 = .ok (.istore_n 2, 1) := by decide +kernel
theorem dX10_judge_40 : decode cX10_judge 40 = .ok (.iconst 0, 1) := by decide +kernel
theorem dX10_judge_41 : decode cX10_judge 41 = .ok (.istore_n 3, 1) := by decide +kernel
theorem dX10_judge_42 : decode cX10_judge 42 = .ok (.iload_n 3, 1) := by decide +kernel
theorem dX10_judge_43 : decode cX10_judge 43 = .ok (.iload_n 2, 1) := by decide +kernel
theorem dX10_judge_44 : decode cX10_judge 44 = .ok (.if_icmp .ge 39, 3) := by decide +kernel
theorem dX10_judge_47 : decode cX10_judge 47 = .ok (.aload_n 0, 1) := by decide +kernel
theorem dX10_judge_48 : decode cX10_judge 48 = .ok (.getfield 50, 3) := by decide +kernel
theorem dX10_judge_51 : decode cX10_judge 51 = .ok (.iload_n 1, 1) := by decide +kernel
theorem dX10_judge_52 : decode cX10_judge 52 = .ok (.iload_n 3, 1) := by decide +kernel
theorem dX10_judge_53 : decode cX10_judge 53 = .ok (.invokevirtual 281, 3) := by decide +kernel
theorem dX10_judge_56 : decode cX10_judge 56 = .ok (.aload_n 0, 1) := by decide +kernel
theorem dX10_judge_57 : decode cX10_judge 57 = .ok (.getfield 10, 3) := by decide +kernel
theorem dX10_judge_60 : decode cX10_judge 60 = .ok (.aload_n 0, 1) := by decide +kernel
theorem dX10_judge_61 : decode cX10_judge 61 = .ok (.getfield 10, 3) := by decide +kernel
theorem dX10_judge_64 : decode cX10_judge 64 = .ok (.getfield 129, 3) := by decide +kernel
theorem dX10_judge_67 : decode cX10_judge 67 = .ok (.iload_n 3, 1) := by decide +kernel
theorem dX10_judge_68 : decode cX10_judge 68 = .ok (.iadd, 1) := by decide +kernel
theorem dX10_judge_69 : decode cX10_judge 69 = .ok (.invokevirtual 186, 3) := by decide +kernel
theorem dX10_judge_72 : decode cX10_judge 72 = .ok (.if_icmp .eq 5, 3) := by decide +kernel
theorem dX10_judge_75 : decode cX10_judge 75 = .ok (.iload_n 3, 1) := by decide +kernel
theorem dX10_judge_76 : decode cX10_judge 76 = .ok (.ireturn, 1) := by decide +kernel
theorem dX10_judge_77 : decode cX10_judge 77 = .ok (.iinc 3 1, 3) := by decide +kernel
theorem dX10_judge_80 : decode cX10_judge 80 = .ok (.goto (-38), 3) := by decide +kernel
theorem dX10_judge_83 : decode cX10_judge 83 = .ok (.iload_n 2, 1) := by decide +kernel
theorem dX10_judge_84 : decode cX10_judge 84 = .ok (.ireturn, 1) := by decide +kernel
set_option maxRecDepth 20000 in
theorem ggX10_image_X1_takeOver : GoodIn wsX10_image wsX1_takeOver := goodIn_r _ [8, 9, 10, 11, 12, 13, 14, 15, 16, 17, 18, 19, 20, 21, 22, 23, 24, 25, 26, 27, 28, 29, 30, 31, 32, 33, 34, 35, 36, 37, 38, 39, 40, 41, 42, 43, 44, 45, 55, 56, 57, 58, 59, 60, 61, 62, 63, 64, 65, 66, 67, 68, 69, 70, 71, 72, 73, 74] (by decide +kernel) (by decide +kernel)
set_option maxRecDepth 20000 in
theorem gX10_image_X1_takeOver : GoodIn wsX10_image (wsV RX10 324 RX1 yX1_takeOver wsX1_takeOver) := goodIn_app (goodIn_of _ (by decide +kernel)) ggX10_image_X1_takeOver
theorem dX10_image_0 : decode cX10_image 0 = .ok (.aload_n 0, 1) := by decide +kernel
theorem dX10_image_1 : decode cX10_image 1 = .ok (.getfield 16, 3) := by decide +kernel
theorem dX10_image_4 : decode cX10_image 4 = .ok (.aload_n 0, 1) := by decide +kernel
theorem dX10_image_5 : decode cX10_image 5 = .ok (.getfield 10, 3) := by decide +kernel
theorem dX10_image_8 : decode cX10_image 8 = .ok (.invokevirtual 324, 3) := by decide +kernel
theorem dX10_image_11 : decode cX10_image 11 = .ok (.aload_n 0, 1) := by decide +kernel
theorem dX10_image_12 : decode cX10_image 12 = .ok (.dup, 1) := by decide +kernel
theorem dX10_image_13 : decode cX10_image 13 = .ok (.getfield 58, 3) := by decide +kernel
theorem dX10_image_16 : decode cX10_image 16 = .ok (.iconst 1, 1) := by decide +kernel
theorem dX10_image_17 : decode cX10_image 17 = .ok (.iadd, 1) := by decide +kernel
theorem dX10_image_18 : decode cX10_image 18 = .ok (.putfield 58, 3) := by decide +kernel
theorem dX10_image_21 : decode cX10_image 21 = .ok (.aload_n 0, 1) := by decide +kernel
theorem dX10_image_22 : decode cX10_image 22 = .ok (.getfield 58, 3) := by decide +kernel
theorem dX10_image_25 : decode cX10_image 25 = .ok (.ireturn, 1) := by decide +kernel
set_option maxRecDepth 20000 in
theorem ggX10_restore_X10_error : GoodIn wsX10_restore wsX10_error := goodIn_r _ [9, 10, 11, 54, 55, 56, 57, 58, 59, 60, 61, 62] (by decide +kernel) (by decide +kernel)
set_option maxRecDepth 20000 in
theorem gX10_restore_X10_error : GoodIn wsX10_restore (wsV RX10 68 RX10 yX10_error wsX10_error) := goodIn_app (goodIn_of _ (by decide +kernel)) ggX10_restore_X10_error
set_option maxRecDepth 20000 in
theorem ggX10_restore_X1_takeOver : GoodIn wsX10_restore wsX1_takeOver := goodIn_r _ [16, 17, 18, 19, 20, 21, 22, 23, 24, 25, 26, 27, 28, 29, 30, 31, 32, 33, 34, 35, 36, 37, 38, 39, 40, 41, 42, 43, 44, 45, 46, 47, 48, 49, 50, 51, 52, 53, 63, 64, 65, 66, 67, 68, 69, 70, 71, 72, 73, 74, 75, 76, 77, 78, 79, 80, 81, 82] (by decide +kernel) (by decide +kernel)
set_option maxRecDepth 20000 in
theorem gX10_restore_X1_takeOver : GoodIn wsX10_restore (wsV RX10 324 RX1 yX1_takeOver wsX1_takeOver) := goodIn_app (goodIn_of _ (by decide +kernel)) ggX10_restore_X1_takeOver
theorem dX10_restore_0 : decode cX10_restore 0 = .ok (.aload_n 0, 1) := by decide +kernel
theorem dX10_restore_1 : decode cX10_restore 1 = .ok (.getfield 58, 3) := by decide +kernel
theorem dX10_restore_4 : decode cX10_restore 4 = .ok (.ifCond .ne 9, 3) := by decide +kernel
theorem dX10_restore_7 : decode cX10_restore 7 = .ok (.aload_n 0, 1) := by decide +kernel
theorem dX10_restore_8 : decode cX10_restore 8 = .ok (.iconst 2, 1) := by decide +kernel
theorem dX10_restore_9 : decode cX10_restore 9 = .ok (.invokevirtual 68, 3) := by decide +kernel
theorem dX10_restore_12 : decode cX10_restore 12 = .ok (.ireturn, 1) := by decide +kernel
theorem dX10_restore_13 : decode cX10_restore 13 = .ok (.aload_n 0, 1) := by decide +kernel
theorem dX10_restore_14 : decode cX10_restore 14 = .ok (.getfield 10, 3) := by decide +kernel
theorem dX10_restore_17 : decode cX10_restore 17 = .ok (.aload_n 0, 1) := by decide +kernel
theorem dX10_restore_18 : decode cX10_restore 18 = .ok (.getfield 16, 3) := by decide +kernel
theorem dX10_restore_21 : decode cX10_restore 21 = .ok (.invokevirtual 324, 3) := by decide +kernel
theorem dX10_restore_24 : decode cX10_restore 24 = .ok (.aload_n 0, 1) := by decide +kernel
theorem dX10_restore_25 : decode cX10_restore 25 = .ok (.getfield 10, 3) := by decide +kernel
theorem dX10_restore_28 : decode cX10_restore 28 = .ok (.getfield 129, 3) := by decide +kernel
theorem dX10_restore_31 : decode cX10_restore 31 = .ok (.ireturn, 1) := by decide +kernel
set_option maxRecDepth 20000 in
theorem ggX10_tell_X10_error : GoodIn wsX10_tell wsX10_error := goodIn_r _ [7, 8, 9, 17, 18, 19, 20, 21, 22, 23, 24, 25] (by decide +kernel) (by decide +kernel)
set_option maxRecDepth 20000 in
theorem gX10_tell_X10_error : GoodIn wsX10_tell (wsV RX10 68 RX10 yX10_error wsX10_error) := goodIn_app (goodIn_of _ (by decide +kernel)) ggX10_tell_X10_error
set_option maxRecDepth 20000 in
theorem ggX10_tell_X1_addWaiting : GoodIn wsX10_tell wsX1_addWaiting := goodIn_r _ [14, 15, 16, 26, 27, 28, 29, 30, 31, 32, 33, 34, 35] (by decide +kernel) (by decide +kernel)
set_option maxRecDepth 20000 in
theorem gX10_tell_X1_addWaiting : GoodIn wsX10_tell (wsV RX10 331 RX1 yX1_addWaiting wsX1_addWaiting) := goodIn_app (goodIn_of _ (by decide +kernel)) ggX10_tell_X1_addWaiting
theorem dX10_tell_0 : decode cX10_tell 0 = .ok (.aload_n 0, 1) := by decide +kernel
theorem dX10_tell_1 : decode cX10_tell 1 = .ok (.getfield 10, 3) := by decide +kernel
theorem dX10_tell_4 : decode cX10_tell 4 = .ok (.getfield 328, 3) := by decide +kernel
theorem dX10_tell_7 : decode cX10_tell 7 = .ok (.bipush 24, 2) := by decide +kernel
theorem dX10_tell_9 : decode cX10_tell 9 = .ok (.if_icmp .lt 9, 3) := by decide +kernel
theorem dX10_tell_12 : decode cX10_tell 12 = .ok (.aload_n 0, 1) := by decide +kernel
theorem dX10_tell_13 : decode cX10_tell 13 = .ok (.iconst 4, 1) := by decide +kernel
theorem dX10_tell_14 : decode cX10_tell 14 = .ok (.invokevirtual 68, 3) := by decide +kernel
theorem dX10_tell_17 : decode cX10_tell 17 = .ok (.ireturn, 1) := by decide +kernel
theorem dX10_tell_18 : decode cX10_tell 18 = .ok (.aload_n 0, 1) := by decide +kernel
theorem dX10_tell_19 : decode cX10_tell 19 = .ok (.getfield 10, 3) := by decide +kernel
theorem dX10_tell_22 : decode cX10_tell 22 = .ok (.iload_n 1, 1) := by decide +kernel
theorem dX10_tell_23 : decode cX10_tell 23 = .ok (.invokevirtual 331, 3) := by decide +kernel
theorem dX10_tell_26 : decode cX10_tell 26 = .ok (.aload_n 0, 1) := by decide +kernel
theorem dX10_tell_27 : decode cX10_tell 27 = .ok (.getfield 10, 3) := by decide +kernel
theorem dX10_tell_30 : decode cX10_tell 30 = .ok (.getfield 328, 3) := by decide +kernel
theorem dX10_tell_33 : decode cX10_tell 33 = .ok (.ireturn, 1) := by decide +kernel
set_option maxRecDepth 20000 in
theorem ggX10_check_X1_firstWaitingWrong : GoodIn wsX10_check wsX1_firstWaitingWrong := goodIn_r _ [7, 8, 9, 10, 11, 12, 13, 14, 15, 16, 17, 27, 28, 29, 30, 31, 32, 33, 34, 35, 36, 37, 38, 39, 40, 41, 42, 43] (by decide +kernel) (by decide +kernel)
set_option maxRecDepth 20000 in
theorem gX10_check_X1_firstWaitingWrong : GoodIn wsX10_check (wsV RX10 334 RX1 yX1_firstWaitingWrong wsX1_firstWaitingWrong) := goodIn_app (goodIn_of _ (by decide +kernel)) ggX10_check_X1_firstWaitingWrong
theorem dX10_check_0 : decode cX10_check 0 = .ok (.aload_n 0, 1) := by decide +kernel
theorem dX10_check_1 : decode cX10_check 1 = .ok (.getfield 10, 3) := by decide +kernel
theorem dX10_check_4 : decode cX10_check 4 = .ok (.invokevirtual 334, 3) := by decide +kernel
theorem dX10_check_7 : decode cX10_check 7 = .ok (.istore_n 1, 1) := by decide +kernel
theorem dX10_check_8 : decode cX10_check 8 = .ok (.aload_n 0, 1) := by decide +kernel
theorem dX10_check_9 : decode cX10_check 9 = .ok (.getfield 10, 3) := by decide +kernel
theorem dX10_check_12 : decode cX10_check 12 = .ok (.iconst 0, 1) := by decide +kernel
theorem dX10_check_13 : decode cX10_check 13 = .ok (.putfield 328, 3) := by decide +kernel
theorem dX10_check_16 : decode cX10_check 16 = .ok (.iload_n 1, 1) := by decide +kernel
theorem dX10_check_17 : decode cX10_check 17 = .ok (.ifCond .ge 7, 3) := by decide +kernel
theorem dX10_check_20 : decode cX10_check 20 = .ok (.iconst 0, 1) := by decide +kernel
theorem dX10_check_21 : decode cX10_check 21 = .ok (.goto 6, 3) := by decide +kernel
theorem dX10_check_24 : decode cX10_check 24 = .ok (.iconst 1, 1) := by decide +kernel
theorem dX10_check_25 : decode cX10_check 25 = .ok (.iload_n 1, 1) := by decide +kernel
theorem dX10_check_26 : decode cX10_check 26 = .ok (.iadd, 1) := by decide +kernel
theorem dX10_check_27 : decode cX10_check 27 = .ok (.ireturn, 1) := by decide +kernel
set_option maxRecDepth 20000 in
theorem ggX10_count_X7_brokenCount : GoodIn wsX10_count wsX7_brokenCount := goodIn_r _ [15, 16, 17, 85, 86, 87, 88, 89, 90, 91] (by decide +kernel) (by decide +kernel)
set_option maxRecDepth 20000 in
theorem gX10_count_X7_brokenCount : GoodIn wsX10_count (wsV RX10 193 RX7 yX7_brokenCount wsX7_brokenCount) := goodIn_app (goodIn_of _ (by decide +kernel)) ggX10_count_X7_brokenCount
set_option maxRecDepth 20000 in
theorem ggX10_count_J13_bitCount_95d88 : GoodIn wsX10_count wsJ13_bitCount_95d88 := goodIn_r _ [21, 22, 23, 24] (by decide +kernel) (by decide +kernel)
set_option maxRecDepth 20000 in
theorem gX10_count_J13_bitCount_95d88 : GoodIn wsX10_count (va_wsS RX10 337 yJ13_bitCount_95d88 wsJ13_bitCount_95d88) := goodIn_app (goodIn_of _ (by decide +kernel)) ggX10_count_J13_bitCount_95d88
set_option maxRecDepth 20000 in
theorem ggX10_count_X1_pullAt : GoodIn wsX10_count wsX1_pullAt := goodIn_r _ [29, 30, 31, 32, 33, 34, 28, 35, 36, 37, 38, 39, 40, 41, 42, 43, 44, 45, 46, 47, 48, 49, 50, 51, 52, 53, 54, 55, 56, 57, 58, 75, 76, 77, 78, 79, 80, 81, 82, 83, 84, 85, 86, 87, 88, 89, 90, 91, 98, 99, 100] (by decide +kernel) (by decide +kernel)
set_option maxRecDepth 20000 in
theorem gX10_count_X1_pullAt : GoodIn wsX10_count (wsV RX10 186 RX1 yX1_pullAt wsX1_pullAt) := goodIn_app (goodIn_of _ (by decide +kernel)) ggX10_count_X1_pullAt
set_option maxRecDepth 20000 in
theorem ggX10_count_X10_error : GoodIn wsX10_count wsX10_error := goodIn_r _ [63, 64, 65, 66, 67, 68, 69, 70, 71, 72, 73, 74] (by decide +kernel) (by decide +kernel)
set_option maxRecDepth 20000 in
theorem gX10_count_X10_error : GoodIn wsX10_count (wsV RX10 68 RX10 yX10_error wsX10_error) := goodIn_app (goodIn_of _ (by decide +kernel)) ggX10_count_X10_error
theorem dX10_count_0 : decode cX10_count 0 = .ok (.iload_n 1, 1) := by decide +kernel
theorem dX10_count_1 : decode cX10_count 1 = .ok (.tableswitch 139 0 8 #[51, 62, 70, 81, 92, 107, 115, 123, 131], 51) := by decide +kernel
theorem dX10_count_52 : decode cX10_count 52 = .ok (.aload_n 0, 1) := by decide +kernel
theorem dX10_count_53 : decode cX10_count 53 = .ok (.getfield 10, 3) := by decide +kernel
theorem dX10_count_56 : decode cX10_count 56 = .ok (.getfield 72, 3) := by decide +kernel
theorem dX10_count_59 : decode cX10_count 59 = .ok (.getfield 228, 3) := by decide +kernel
theorem dX10_count_62 : decode cX10_count 62 = .ok (.ireturn, 1) := by decide +kernel
theorem dX10_count_63 : decode cX10_count 63 = .ok (.aload_n 0, 1) := by decide +kernel
theorem dX10_count_64 : decode cX10_count 64 = .ok (.getfield 10, 3) := by decide +kernel
theorem dX10_count_67 : decode cX10_count 67 = .ok (.getfield 129, 3) := by decide +kernel
theorem dX10_count_70 : decode cX10_count 70 = .ok (.ireturn, 1) := by decide +kernel
theorem dX10_count_71 : decode cX10_count 71 = .ok (.aload_n 0, 1) := by decide +kernel
theorem dX10_count_72 : decode cX10_count 72 = .ok (.getfield 10, 3) := by decide +kernel
theorem dX10_count_75 : decode cX10_count 75 = .ok (.getfield 72, 3) := by decide +kernel
theorem dX10_count_78 : decode cX10_count 78 = .ok (.invokevirtual 193, 3) := by decide +kernel
theorem dX10_count_81 : decode cX10_count 81 = .ok (.ireturn, 1) := by decide +kernel
theorem dX10_count_82 : decode cX10_count 82 = .ok (.aload_n 0, 1) := by decide +kernel
theorem dX10_count_83 : decode cX10_count 83 = .ok (.getfield 10, 3) := by decide +kernel
theorem dX10_count_86 : decode cX10_count 86 = .ok (.getfield 243, 3) := by decide +kernel
theorem dX10_count_89 : decode cX10_count 89 = .ok (.invokestatic 337, 3) := by decide +kernel
theorem dX10_count_92 : decode cX10_count 92 = .ok (.ireturn, 1) := by decide +kernel
theorem dX10_count_93 : decode cX10_count 93 = .ok (.aload_n 0, 1) := by decide +kernel
theorem dX10_count_94 : decode cX10_count 94 = .ok (.getfield 10, 3) := by decide +kernel
theorem dX10_count_97 : decode cX10_count 97 = .ok (.aload_n 0, 1) := by decide +kernel
theorem dX10_count_98 : decode cX10_count 98 = .ok (.getfield 10, 3) := by decide +kernel
theorem dX10_count_101 : decode cX10_count 101 = .ok (.getfield 129, 3) := by decide +kernel
theorem dX10_count_104 : decode cX10_count 104 = .ok (.invokevirtual 186, 3) := by decide +kernel
theorem dX10_count_107 : decode cX10_count 107 = .ok (.ireturn, 1) := by decide +kernel
theorem dX10_count_108 : decode cX10_count 108 = .ok (.aload_n 0, 1) := by decide +kernel
theorem dX10_count_109 : decode cX10_count 109 = .ok (.getfield 10, 3) := by decide +kernel
theorem dX10_count_112 : decode cX10_count 112 = .ok (.getfield 139, 3) := by decide +kernel
theorem dX10_count_115 : decode cX10_count 115 = .ok (.ireturn, 1) := by decide +kernel
theorem dX10_count_116 : decode cX10_count 116 = .ok (.aload_n 0, 1) := by decide +kernel
theorem dX10_count_117 : decode cX10_count 117 = .ok (.getfield 10, 3) := by decide +kernel
theorem dX10_count_120 : decode cX10_count 120 = .ok (.getfield 328, 3) := by decide +kernel
theorem dX10_count_123 : decode cX10_count 123 = .ok (.ireturn, 1) := by decide +kernel
theorem dX10_count_124 : decode cX10_count 124 = .ok (.aload_n 0, 1) := by decide +kernel
theorem dX10_count_125 : decode cX10_count 125 = .ok (.getfield 43, 3) := by decide +kernel
theorem dX10_count_128 : decode cX10_count 128 = .ok (.getfield 295, 3) := by decide +kernel
theorem dX10_count_131 : decode cX10_count 131 = .ok (.ireturn, 1) := by decide +kernel
theorem dX10_count_132 : decode cX10_count 132 = .ok (.aload_n 0, 1) := by decide +kernel
theorem dX10_count_133 : decode cX10_count 133 = .ok (.getfield 10, 3) := by decide +kernel
theorem dX10_count_136 : decode cX10_count 136 = .ok (.getfield 200, 3) := by decide +kernel
theorem dX10_count_139 : decode cX10_count 139 = .ok (.ireturn, 1) := by decide +kernel
theorem dX10_count_140 : decode cX10_count 140 = .ok (.aload_n 0, 1) := by decide +kernel
theorem dX10_count_141 : decode cX10_count 141 = .ok (.iconst 1, 1) := by decide +kernel
theorem dX10_count_142 : decode cX10_count 142 = .ok (.invokevirtual 68, 3) := by decide +kernel
theorem dX10_count_145 : decode cX10_count 145 = .ok (.ireturn, 1) := by decide +kernel
set_option maxRecDepth 20000 in
theorem ggX10_told_X10_error : GoodIn wsX10_told wsX10_error := goodIn_r _ [6, 1, 7, 8, 9, 10, 11, 12, 13, 14, 15, 16] (by decide +kernel) (by decide +kernel)
set_option maxRecDepth 20000 in
theorem gX10_told_X10_error : GoodIn wsX10_told (wsV RX10 68 RX10 yX10_error wsX10_error) := goodIn_app (goodIn_of _ (by decide +kernel)) ggX10_told_X10_error
theorem dX10_told_0 : decode cX10_told 0 = .ok (.iload_n 1, 1) := by decide +kernel
theorem dX10_told_1 : decode cX10_told 1 = .ok (.iconst 1, 1) := by decide +kernel
theorem dX10_told_2 : decode cX10_told 2 = .ok (.if_icmp .lt 9, 3) := by decide +kernel
theorem dX10_told_5 : decode cX10_told 5 = .ok (.iload_n 1, 1) := by decide +kernel
theorem dX10_told_6 : decode cX10_told 6 = .ok (.bipush 6, 2) := by decide +kernel
theorem dX10_told_8 : decode cX10_told 8 = .ok (.if_icmp .le 9, 3) := by decide +kernel
theorem dX10_told_11 : decode cX10_told 11 = .ok (.aload_n 0, 1) := by decide +kernel
theorem dX10_told_12 : decode cX10_told 12 = .ok (.iconst 1, 1) := by decide +kernel
theorem dX10_told_13 : decode cX10_told 13 = .ok (.invokevirtual 68, 3) := by decide +kernel
theorem dX10_told_16 : decode cX10_told 16 = .ok (.ireturn, 1) := by decide +kernel
theorem dX10_told_17 : decode cX10_told 17 = .ok (.aload_n 0, 1) := by decide +kernel
theorem dX10_told_18 : decode cX10_told 18 = .ok (.getfield 54, 3) := by decide +kernel
theorem dX10_told_21 : decode cX10_told 21 = .ok (.iload_n 1, 1) := by decide +kernel
theorem dX10_told_22 : decode cX10_told 22 = .ok (.iaload, 1) := by decide +kernel
theorem dX10_told_23 : decode cX10_told 23 = .ok (.ireturn, 1) := by decide +kernel
theorem dX10_error_0 : decode cX10_error 0 = .ok (.iload_n 1, 1) := by decide +kernel
theorem dX10_error_1 : decode cX10_error 1 = .ok (.ifCond .lt 22, 3) := by decide +kernel
theorem dX10_error_4 : decode cX10_error 4 = .ok (.iload_n 1, 1) := by decide +kernel
theorem dX10_error_5 : decode cX10_error 5 = .ok (.aload_n 0, 1) := by decide +kernel
theorem dX10_error_6 : decode cX10_error 6 = .ok (.getfield 54, 3) := by decide +kernel
theorem dX10_error_9 : decode cX10_error 9 = .ok (.arraylength, 1) := by decide +kernel
theorem dX10_error_10 : decode cX10_error 10 = .ok (.if_icmp .ge 13, 3) := by decide +kernel
theorem dX10_error_13 : decode cX10_error 13 = .ok (.aload_n 0, 1) := by decide +kernel
theorem dX10_error_14 : decode cX10_error 14 = .ok (.getfield 54, 3) := by decide +kernel
theorem dX10_error_17 : decode cX10_error 17 = .ok (.iload_n 1, 1) := by decide +kernel
theorem dX10_error_18 : decode cX10_error 18 = .ok (.dup2, 1) := by decide +kernel
theorem dX10_error_19 : decode cX10_error 19 = .ok (.iaload, 1) := by decide +kernel
theorem dX10_error_20 : decode cX10_error 20 = .ok (.iconst 1, 1) := by decide +kernel
theorem dX10_error_21 : decode cX10_error 21 = .ok (.iadd, 1) := by decide +kernel
theorem dX10_error_22 : decode cX10_error 22 = .ok (.iastore, 1) := by decide +kernel
theorem dX10_error_23 : decode cX10_error 23 = .ok (.ldc_w 342, 3) := by decide +kernel
theorem dX10_error_26 : decode cX10_error 26 = .ok (.iload_n 1, 1) := by decide +kernel
theorem dX10_error_27 : decode cX10_error 27 = .ok (.isub, 1) := by decide +kernel
theorem dX10_error_28 : decode cX10_error 28 = .ok (.ireturn, 1) := by decide +kernel
theorem dX10_isUse_0 : decode cX10_isUse 0 = .ok (.iload_n 0, 1) := by decide +kernel
theorem dX10_isUse_1 : decode cX10_isUse 1 = .ok (.ifCond .eq 8, 3) := by decide +kernel
theorem dX10_isUse_4 : decode cX10_isUse 4 = .ok (.iload_n 0, 1) := by decide +kernel
theorem dX10_isUse_5 : decode cX10_isUse 5 = .ok (.iconst 1, 1) := by decide +kernel
theorem dX10_isUse_6 : decode cX10_isUse 6 = .ok (.if_icmp .ne 7, 3) := by decide +kernel
theorem dX10_isUse_9 : decode cX10_isUse 9 = .ok (.iconst 1, 1) := by decide +kernel
theorem dX10_isUse_10 : decode cX10_isUse 10 = .ok (.goto 4, 3) := by decide +kernel
theorem dX10_isUse_13 : decode cX10_isUse 13 = .ok (.iconst 0, 1) := by decide +kernel
theorem dX10_isUse_14 : decode cX10_isUse 14 = .ok (.ireturn, 1) := by decide +kernel
set_option maxRecDepth 20000 in
theorem ggX10_fitsFrom_X5_numberAt : GoodIn wsX10_fitsFrom wsX5_numberAt := goodIn_r _ [9, 10, 11, 12, 13, 8, 14, 15, 16, 17, 18, 40, 41, 42] (by decide +kernel) (by decide +kernel)
set_option maxRecDepth 20000 in
theorem gX10_fitsFrom_X5_numberAt : GoodIn wsX10_fitsFrom (wsV RX10 281 RX5 yX5_numberAt wsX5_numberAt) := goodIn_app (goodIn_of _ (by decide +kernel)) ggX10_fitsFrom_X5_numberAt
set_option maxRecDepth 20000 in
theorem ggX10_fitsFrom_X8_pullOf : GoodIn wsX10_fitsFrom wsX8_pullOf := goodIn_r _ [23, 24, 43, 44, 45, 46, 47] (by decide +kernel) (by decide +kernel)
set_option maxRecDepth 20000 in
theorem gX10_fitsFrom_X8_pullOf : GoodIn wsX10_fitsFrom (wsV RX10 258 RX8 yX8_pullOf wsX8_pullOf) := goodIn_app (goodIn_of _ (by decide +kernel)) ggX10_fitsFrom_X8_pullOf
set_option maxRecDepth 20000 in
theorem ggX10_fitsFrom_X3_rest : GoodIn wsX10_fitsFrom wsX3_rest := goodIn_r _ [29, 30, 48, 49] (by decide +kernel) (by decide +kernel)
set_option maxRecDepth 20000 in
theorem gX10_fitsFrom_X3_rest : GoodIn wsX10_fitsFrom (wsV RX10 343 RX3 yX3_rest wsX3_rest) := goodIn_app (goodIn_of _ (by decide +kernel)) ggX10_fitsFrom_X3_rest
theorem dX10_fitsFrom_0 : decode cX10_fitsFrom 0 = .ok (.aload_n 0, 1) := by decide +kernel
theorem dX10_fitsFrom_1 : decode cX10_fitsFrom 1 = .ok (.getfield 50, 3) := by decide +kernel
theorem dX10_fitsFrom_4 : decode cX10_fitsFrom 4 = .ok (.iload_n 1, 1) := by decide +kernel
theorem dX10_fitsFrom_5 : decode cX10_fitsFrom 5 = .ok (.iconst 0, 1) := by decide +kernel
theorem dX10_fitsFrom_6 : decode cX10_fitsFrom 6 = .ok (.invokevirtual 281, 3) := by decide +kernel
theorem dX10_fitsFrom_9 : decode cX10_fitsFrom 9 = .ok (.istore_n 3, 1) := by decide +kernel
theorem dX10_fitsFrom_10 : decode cX10_fitsFrom 10 = .ok (.iconst 1, 1) := by decide +kernel
theorem dX10_fitsFrom_11 : decode cX10_fitsFrom 11 = .ok (.istore 4, 2) := by decide +kernel
theorem dX10_fitsFrom_13 : decode cX10_fitsFrom 13 = .ok (.iload 4, 2) := by decide +kernel
theorem dX10_fitsFrom_15 : decode cX10_fitsFrom 15 = .ok (.aload_n 0, 1) := by decide +kernel
theorem dX10_fitsFrom_16 : decode cX10_fitsFrom 16 = .ok (.getfield 50, 3) := by decide +kernel
theorem dX10_fitsFrom_19 : decode cX10_fitsFrom 19 = .ok (.getfield 278, 3) := by decide +kernel
theorem dX10_fitsFrom_22 : decode cX10_fitsFrom 22 = .ok (.iload_n 1, 1) := by decide +kernel
theorem dX10_fitsFrom_23 : decode cX10_fitsFrom 23 = .ok (.iaload, 1) := by decide +kernel
theorem dX10_fitsFrom_24 : decode cX10_fitsFrom 24 = .ok (.if_icmp .ge 47, 3) := by decide +kernel
theorem dX10_fitsFrom_27 : decode cX10_fitsFrom 27 = .ok (.aload_n 0, 1) := by decide +kernel
theorem dX10_fitsFrom_28 : decode cX10_fitsFrom 28 = .ok (.getfield 36, 3) := by decide +kernel
theorem dX10_fitsFrom_31 : decode cX10_fitsFrom 31 = .ok (.iload_n 3, 1) := by decide +kernel
theorem dX10_fitsFrom_32 : decode cX10_fitsFrom 32 = .ok (.aload_n 0, 1) := by decide +kernel
theorem dX10_fitsFrom_33 : decode cX10_fitsFrom 33 = .ok (.getfield 29, 3) := by decide +kernel
theorem dX10_fitsFrom_36 : decode cX10_fitsFrom 36 = .ok (.iload_n 2, 1) := by decide +kernel
theorem dX10_fitsFrom_37 : decode cX10_fitsFrom 37 = .ok (.iload 4, 2) := by decide +kernel
theorem dX10_fitsFrom_39 : decode cX10_fitsFrom 39 = .ok (.iadd, 1) := by decide +kernel
theorem dX10_fitsFrom_40 : decode cX10_fitsFrom 40 = .ok (.iconst 1, 1) := by decide +kernel
theorem dX10_fitsFrom_41 : decode cX10_fitsFrom 41 = .ok (.isub, 1) := by decide +kernel
theorem dX10_fitsFrom_42 : decode cX10_fitsFrom 42 = .ok (.invokevirtual 258, 3) := by decide +kernel
theorem dX10_fitsFrom_45 : decode cX10_fitsFrom 45 = .ok (.invokevirtual 343, 3) := by decide +kernel
theorem dX10_fitsFrom_48 : decode cX10_fitsFrom 48 = .ok (.istore_n 3, 1) := by decide +kernel
theorem dX10_fitsFrom_49 : decode cX10_fitsFrom 49 = .ok (.iload_n 3, 1) := by decide +kernel
theorem dX10_fitsFrom_50 : decode cX10_fitsFrom 50 = .ok (.aload_n 0, 1) := by decide +kernel
theorem dX10_fitsFrom_51 : decode cX10_fitsFrom 51 = .ok (.getfield 50, 3) := by decide +kernel
theorem dX10_fitsFrom_54 : decode cX10_fitsFrom 54 = .ok (.iload_n 1, 1) := by decide +kernel
theorem dX10_fitsFrom_55 : decode cX10_fitsFrom 55 = .ok (.iload 4, 2) := by decide +kernel
theorem dX10_fitsFrom_57 : decode cX10_fitsFrom 57 = .ok (.invokevirtual 281, 3) := by decide +kernel
theorem dX10_fitsFrom_60 : decode cX10_fitsFrom 60 = .ok (.if_icmp .eq 5, 3) := by decide +kernel
theorem dX10_fitsFrom_63 : decode cX10_fitsFrom 63 = .ok (.iconst 0, 1) := by decide +kernel
theorem dX10_fitsFrom_64 : decode cX10_fitsFrom 64 = .ok (.ireturn, 1) := by decide +kernel
theorem dX10_fitsFrom_65 : decode cX10_fitsFrom 65 = .ok (.iinc 4 1, 3) := by decide +kernel
theorem dX10_fitsFrom_68 : decode cX10_fitsFrom 68 = .ok (.goto (-55), 3) := by decide +kernel
theorem dX10_fitsFrom_71 : decode cX10_fitsFrom 71 = .ok (.iconst 1, 1) := by decide +kernel
theorem dX10_fitsFrom_72 : decode cX10_fitsFrom 72 = .ok (.ireturn, 1) := by decide +kernel
theorem dX11_init_0 : decode cX11_init 0 = .ok (.aload_n 0, 1) := by decide +kernel
theorem dX11_init_1 : decode cX11_init 1 = .ok (.invokespecial 3, 3) := by decide +kernel
theorem dX11_init_4 : decode cX11_init 4 = .ok (.aload_n 0, 1) := by decide +kernel
theorem dX11_init_5 : decode cX11_init 5 = .ok (.sipush 397, 3) := by decide +kernel
theorem dX11_init_8 : decode cX11_init 8 = .ok (.newarray .int, 2) := by decide +kernel
theorem dX11_init_10 : decode cX11_init 10 = .ok (.putfield 9, 3) := by decide +kernel
theorem dX11_init_13 : decode cX11_init 13 = .ok (.aload_n 0, 1) := by decide +kernel
theorem dX11_init_14 : decode cX11_init 14 = .ok (.sipush 397, 3) := by decide +kernel
theorem dX11_init_17 : decode cX11_init 17 = .ok (.newarray .int, 2) := by decide +kernel
theorem dX11_init_19 : decode cX11_init 19 = .ok (.putfield 13, 3) := by decide +kernel
theorem dX11_init_22 : decode cX11_init 22 = .ok (.aload_n 0, 1) := by decide +kernel
theorem dX11_init_23 : decode cX11_init 23 = .ok (.sipush 397, 3) := by decide +kernel
theorem dX11_init_26 : decode cX11_init 26 = .ok (.newarray .int, 2) := by decide +kernel
theorem dX11_init_28 : decode cX11_init 28 = .ok (.putfield 16, 3) := by decide +kernel
theorem dX11_init_31 : decode cX11_init 31 = .ok (.aload_n 0, 1) := by decide +kernel
theorem dX11_init_32 : decode cX11_init 32 = .ok (.bipush 7, 2) := by decide +kernel
theorem dX11_init_34 : decode cX11_init 34 = .ok (.newarray .int, 2) := by decide +kernel
theorem dX11_init_36 : decode cX11_init 36 = .ok (.putfield 19, 3) := by decide +kernel
theorem dX11_init_39 : decode cX11_init 39 = .ok (.aload_n 0, 1) := by decide +kernel
theorem dX11_init_40 : decode cX11_init 40 = .ok (.bipush 60, 2) := by decide +kernel
theorem dX11_init_42 : decode cX11_init 42 = .ok (.newarray .int, 2) := by decide +kernel
theorem dX11_init_44 : decode cX11_init 44 = .ok (.putfield 22, 3) := by decide +kernel
theorem dX11_init_47 : decode cX11_init 47 = .ok (.aload_n 0, 1) := by decide +kernel
theorem dX11_init_48 : decode cX11_init 48 = .ok (.bipush 60, 2) := by decide +kernel
theorem dX11_init_50 : decode cX11_init 50 = .ok (.newarray .int, 2) := by decide +kernel
theorem dX11_init_52 : decode cX11_init 52 = .ok (.putfield 25, 3) := by decide +kernel
theorem dX11_init_55 : decode cX11_init 55 = .ok (.aload_n 0, 1) := by decide +kernel
theorem dX11_init_56 : decode cX11_init 56 = .ok (.iconst 3, 1) := by decide +kernel
theorem dX11_init_57 : decode cX11_init 57 = .ok (.newarray .int, 2) := by decide +kernel
theorem dX11_init_59 : decode cX11_init 59 = .ok (.putfield 28, 3) := by decide +kernel
theorem dX11_init_62 : decode cX11_init 62 = .ok (.aload_n 0, 1) := by decide +kernel
theorem dX11_init_63 : decode cX11_init 63 = .ok (.bipush 60, 2) := by decide +kernel
theorem dX11_init_65 : decode cX11_init 65 = .ok (.newarray .int, 2) := by decide +kernel
theorem dX11_init_67 : decode cX11_init 67 = .ok (.putfield 31, 3) := by decide +kernel
theorem dX11_init_70 : decode cX11_init 70 = .ok (.aload_n 0, 1) := by decide +kernel
theorem dX11_init_71 : decode cX11_init 71 = .ok (.iconst 4, 1) := by decide +kernel
theorem dX11_init_72 : decode cX11_init 72 = .ok (.newarray .int, 2) := by decide +kernel
theorem dX11_init_74 : decode cX11_init 74 = .ok (.putfield 34, 3) := by decide +kernel
theorem dX11_init_77 : decode cX11_init 77 = .ok (.aload_n 0, 1) := by decide +kernel
theorem dX11_init_78 : decode cX11_init 78 = .ok (.iconst 4, 1) := by decide +kernel
theorem dX11_init_79 : decode cX11_init 79 = .ok (.newarray .int, 2) := by decide +kernel
theorem dX11_init_81 : decode cX11_init 81 = .ok (.putfield 37, 3) := by decide +kernel
theorem dX11_init_84 : decode cX11_init 84 = .ok (.aload_n 0, 1) := by decide +kernel
theorem dX11_init_85 : decode cX11_init 85 = .ok (.bipush 96, 2) := by decide +kernel
theorem dX11_init_87 : decode cX11_init 87 = .ok (.newarray .int, 2) := by decide +kernel
theorem dX11_init_89 : decode cX11_init 89 = .ok (.putfield 40, 3) := by decide +kernel
theorem dX11_init_92 : decode cX11_init 92 = .ok (.aload_n 0, 1) := by decide +kernel
theorem dX11_init_93 : decode cX11_init 93 = .ok (.bipush 30, 2) := by decide +kernel
theorem dX11_init_95 : decode cX11_init 95 = .ok (.newarray .int, 2) := by decide +kernel
theorem dX11_init_97 : decode cX11_init 97 = .ok (.putfield 43, 3) := by decide +kernel
theorem dX11_init_100 : decode cX11_init 100 = .ok (.aload_n 0, 1) := by decide +kernel
theorem dX11_init_101 : decode cX11_init 101 = .ok (.getfield 9, 3) := by decide +kernel
theorem dX11_init_104 : decode cX11_init 104 = .ok (.iconst 1, 1) := by decide +kernel
theorem dX11_init_105 : decode cX11_init 105 = .ok (.iconst 1, 1) := by decide +kernel
theorem dX11_init_106 : decode cX11_init 106 = .ok (.iastore, 1) := by decide +kernel
theorem dX11_init_107 : decode cX11_init 107 = .ok (.return_, 1) := by decide +kernel
theorem dX11_error_0 : decode cX11_error 0 = .ok (.aload_n 0, 1) := by decide +kernel
theorem dX11_error_1 : decode cX11_error 1 = .ok (.getfield 19, 3) := by decide +kernel
theorem dX11_error_4 : decode cX11_error 4 = .ok (.ldc 46, 2) := by decide +kernel
theorem dX11_error_6 : decode cX11_error 6 = .ok (.iload_n 1, 1) := by decide +kernel
theorem dX11_error_7 : decode cX11_error 7 = .ok (.isub, 1) := by decide +kernel
theorem dX11_error_8 : decode cX11_error 8 = .ok (.dup2, 1) := by decide +kernel
theorem dX11_error_9 : decode cX11_error 9 = .ok (.iaload, 1) := by decide +kernel
theorem dX11_error_10 : decode cX11_error 10 = .ok (.iconst 1, 1) := by decide +kernel
theorem dX11_error_11 : decode cX11_error 11 = .ok (.iadd, 1) := by decide +kernel
theorem dX11_error_12 : decode cX11_error 12 = .ok (.iastore, 1) := by decide +kernel
theorem dX11_error_13 : decode cX11_error 13 = .ok (.iload_n 1, 1) := by decide +kernel
theorem dX11_error_14 : decode cX11_error 14 = .ok (.ireturn, 1) := by decide +kernel
theorem dX11_in_0 : decode cX11_in 0 = .ok (.iload_n 0, 1) := by decide +kernel
theorem dX11_in_1 : decode cX11_in 1 = .ok (.iload_n 1, 1) := by decide +kernel
theorem dX11_in_2 : decode cX11_in 2 = .ok (.if_icmp .lt 12, 3) := by decide +kernel
theorem dX11_in_5 : decode cX11_in 5 = .ok (.iload_n 0, 1) := by decide +kernel
theorem dX11_in_6 : decode cX11_in 6 = .ok (.iload_n 2, 1) := by decide +kernel
theorem dX11_in_7 : decode cX11_in 7 = .ok (.if_icmp .gt 7, 3) := by decide +kernel
theorem dX11_in_10 : decode cX11_in 10 = .ok (.iconst 1, 1) := by decide +kernel
theorem dX11_in_11 : decode cX11_in 11 = .ok (.goto 4, 3) := by decide +kernel
theorem dX11_in_14 : decode cX11_in 14 = .ok (.iconst 0, 1) := by decide +kernel
theorem dX11_in_15 : decode cX11_in 15 = .ok (.ireturn, 1) := by decide +kernel
theorem dX11_copyAll_0 : decode cX11_copyAll 0 = .ok (.iconst 0, 1) := by decide +kernel
theorem dX11_copyAll_1 : decode cX11_copyAll 1 = .ok (.istore_n 2, 1) := by decide +kernel
theorem dX11_copyAll_2 : decode cX11_copyAll 2 = .ok (.iload_n 2, 1) := by decide +kernel
theorem dX11_copyAll_3 : decode cX11_copyAll 3 = .ok (.sipush 397, 3) := by decide +kernel
theorem dX11_copyAll_6 : decode cX11_copyAll 6 = .ok (.if_icmp .ge 15, 3) := by decide +kernel
theorem dX11_copyAll_9 : decode cX11_copyAll 9 = .ok (.aload_n 1, 1) := by decide +kernel
theorem dX11_copyAll_10 : decode cX11_copyAll 10 = .ok (.iload_n 2, 1) := by decide +kernel
theorem dX11_copyAll_11 : decode cX11_copyAll 11 = .ok (.aload_n 0, 1) := by decide +kernel
theorem dX11_copyAll_12 : decode cX11_copyAll 12 = .ok (.iload_n 2, 1) := by decide +kernel
theorem dX11_copyAll_13 : decode cX11_copyAll 13 = .ok (.iaload, 1) := by decide +kernel
theorem dX11_copyAll_14 : decode cX11_copyAll 14 = .ok (.iastore, 1) := by decide +kernel
theorem dX11_copyAll_15 : decode cX11_copyAll 15 = .ok (.iinc 2 1, 3) := by decide +kernel
theorem dX11_copyAll_18 : decode cX11_copyAll 18 = .ok (.goto (-16), 3) := by decide +kernel
theorem dX11_copyAll_21 : decode cX11_copyAll 21 = .ok (.return_, 1) := by decide +kernel
set_option maxRecDepth 20000 in
theorem ggX11_isCell_X11_in : GoodIn wsX11_isCell wsX11_in := goodIn_r _ [4] (by decide +kernel) (by decide +kernel)
set_option maxRecDepth 20000 in
theorem gX11_isCell_X11_in : GoodIn wsX11_isCell (va_wsS RX11 47 yX11_in wsX11_in) := goodIn_app (goodIn_of _ (by decide +kernel)) ggX11_isCell_X11_in
theorem dX11_isCell_0 : decode cX11_isCell 0 = .ok (.iload_n 0, 1) := by decide +kernel
theorem dX11_isCell_1 : decode cX11_isCell 1 = .ok (.iconst 0, 1) := by decide +kernel
theorem dX11_isCell_2 : decode cX11_isCell 2 = .ok (.bipush 35, 2) := by decide +kernel
theorem dX11_isCell_4 : decode cX11_isCell 4 = .ok (.invokestatic 47, 3) := by decide +kernel
theorem dX11_isCell_7 : decode cX11_isCell 7 = .ok (.ireturn, 1) := by decide +kernel
set_option maxRecDepth 20000 in
theorem ggX11_isThing_X11_in : GoodIn wsX11_isThing wsX11_in := goodIn_r _ [5] (by decide +kernel) (by decide +kernel)
set_option maxRecDepth 20000 in
theorem gX11_isThing_X11_in : GoodIn wsX11_isThing (va_wsS RX11 47 yX11_in wsX11_in) := goodIn_app (goodIn_of _ (by decide +kernel)) ggX11_isThing_X11_in
theorem dX11_isThing_0 : decode cX11_isThing 0 = .ok (.iload_n 1, 1) := by decide +kernel
theorem dX11_isThing_1 : decode cX11_isThing 1 = .ok (.iconst 0, 1) := by decide +kernel
theorem dX11_isThing_2 : decode cX11_isThing 2 = .ok (.aload_n 0, 1) := by decide +kernel
theorem dX11_isThing_3 : decode cX11_isThing 3 = .ok (.getfield 9, 3) := by decide +kernel
theorem dX11_isThing_6 : decode cX11_isThing 6 = .ok (.iconst 2, 1) := by decide +kernel
theorem dX11_isThing_7 : decode cX11_isThing 7 = .ok (.iaload, 1) := by decide +kernel
theorem dX11_isThing_8 : decode cX11_isThing 8 = .ok (.iconst 1, 1) := by decide +kernel
theorem dX11_isThing_9 : decode cX11_isThing 9 = .ok (.isub, 1) := by decide +kernel
theorem dX11_isThing_10 : decode cX11_isThing 10 = .ok (.invokestatic 47, 3) := by decide +kernel
theorem dX11_isThing_13 : decode cX11_isThing 13 = .ok (.ireturn, 1) := by decide +kernel
theorem dX11_becomes_0 : decode cX11_becomes 0 = .ok (.aload_n 0, 1) := by decide +kernel
theorem dX11_becomes_1 : decode cX11_becomes 1 = .ok (.getfield 9, 3) := by decide +kernel
theorem dX11_becomes_4 : decode cX11_becomes 4 = .ok (.iload_n 1, 1) := by decide +kernel
theorem dX11_becomes_5 : decode cX11_becomes 5 = .ok (.iaload, 1) := by decide +kernel
theorem dX11_becomes_6 : decode cX11_becomes 6 = .ok (.istore_n 3, 1) := by decide +kernel
theorem dX11_becomes_7 : decode cX11_becomes 7 = .ok (.aload_n 0, 1) := by decide +kernel
theorem dX11_becomes_8 : decode cX11_becomes 8 = .ok (.getfield 9, 3) := by decide +kernel
theorem dX11_becomes_11 : decode cX11_becomes 11 = .ok (.iload_n 1, 1) := by decide +kernel
theorem dX11_becomes_12 : decode cX11_becomes 12 = .ok (.iload_n 2, 1) := by decide +kernel
theorem dX11_becomes_13 : decode cX11_becomes 13 = .ok (.iastore, 1) := by decide +kernel
theorem dX11_becomes_14 : decode cX11_becomes 14 = .ok (.iload_n 3, 1) := by decide +kernel
theorem dX11_becomes_15 : decode cX11_becomes 15 = .ok (.ireturn, 1) := by decide +kernel
theorem dX11_of_0 : decode cX11_of 0 = .ok (.aload_n 0, 1) := by decide +kernel
theorem dX11_of_1 : decode cX11_of 1 = .ok (.getfield 9, 3) := by decide +kernel
theorem dX11_of_4 : decode cX11_of 4 = .ok (.bipush 41, 2) := by decide +kernel
theorem dX11_of_6 : decode cX11_of 6 = .ok (.iconst 5, 1) := by decide +kernel
theorem dX11_of_7 : decode cX11_of 7 = .ok (.iload_n 1, 1) := by decide +kernel
theorem dX11_of_8 : decode cX11_of 8 = .ok (.imul, 1) := by decide +kernel
theorem dX11_of_9 : decode cX11_of 9 = .ok (.iadd, 1) := by decide +kernel
theorem dX11_of_10 : decode cX11_of 10 = .ok (.iload_n 2, 1) := by decide +kernel
theorem dX11_of_11 : decode cX11_of 11 = .ok (.iadd, 1) := by decide +kernel
theorem dX11_of_12 : decode cX11_of 12 = .ok (.iaload, 1) := by decide +kernel
theorem dX11_of_13 : decode cX11_of 13 = .ok (.ireturn, 1) := by decide +kernel
theorem dX11_lay_0 : decode cX11_lay 0 = .ok (.aload_n 0, 1) := by decide +kernel
theorem dX11_lay_1 : decode cX11_lay 1 = .ok (.getfield 9, 3) := by decide +kernel
theorem dX11_lay_4 : decode cX11_lay 4 = .ok (.bipush 41, 2) := by decide +kernel
theorem dX11_lay_6 : decode cX11_lay 6 = .ok (.iconst 5, 1) := by decide +kernel
theorem dX11_lay_7 : decode cX11_lay 7 = .ok (.iload_n 1, 1) := by decide +kernel
theorem dX11_lay_8 : decode cX11_lay 8 = .ok (.imul, 1) := by decide +kernel
theorem dX11_lay_9 : decode cX11_lay 9 = .ok (.iadd, 1) := by decide +kernel
theorem dX11_lay_10 : decode cX11_lay 10 = .ok (.iload_n 2, 1) := by decide +kernel
theorem dX11_lay_11 : decode cX11_lay 11 = .ok (.iadd, 1) := by decide +kernel
theorem dX11_lay_12 : decode cX11_lay 12 = .ok (.iload_n 3, 1) := by decide +kernel
theorem dX11_lay_13 : decode cX11_lay 13 = .ok (.iastore, 1) := by decide +kernel
theorem dX11_lay_14 : decode cX11_lay 14 = .ok (.return_, 1) := by decide +kernel
theorem dX11_isWall_0 : decode cX11_isWall 0 = .ok (.aload_n 0, 1) := by decide +kernel
theorem dX11_isWall_1 : decode cX11_isWall 1 = .ok (.getfield 9, 3) := by decide +kernel
theorem dX11_isWall_4 : decode cX11_isWall 4 = .ok (.iconst 5, 1) := by decide +kernel
theorem dX11_isWall_5 : decode cX11_isWall 5 = .ok (.iload_n 1, 1) := by decide +kernel
theorem dX11_isWall_6 : decode cX11_isWall 6 = .ok (.iadd, 1) := by decide +kernel
theorem dX11_isWall_7 : decode cX11_isWall 7 = .ok (.iaload, 1) := by decide +kernel
theorem dX11_isWall_8 : decode cX11_isWall 8 = .ok (.iconst 1, 1) := by decide +kernel
theorem dX11_isWall_9 : decode cX11_isWall 9 = .ok (.if_icmp .ne 7, 3) := by decide +kernel
theorem dX11_isWall_12 : decode cX11_isWall 12 = .ok (.iconst 1, 1) := by decide +kernel
theorem dX11_isWall_13 : decode cX11_isWall 13 = .ok (.goto 4, 3) := by decide +kernel
theorem dX11_isWall_16 : decode cX11_isWall 16 = .ok (.iconst 0, 1) := by decide +kernel
theorem dX11_isWall_17 : decode cX11_isWall 17 = .ok (.ireturn, 1) := by decide +kernel
set_option maxRecDepth 20000 in
theorem ggX11_inCell_X11_of : GoodIn wsX11_inCell wsX11_of := goodIn_r _ [6, 1, 7, 8, 9, 10, 11, 12, 13, 14, 15, 16, 17, 18, 19, 20, 21, 22, 23, 24, 25, 26] (by decide +kernel) (by decide +kernel)
set_option maxRecDepth 20000 in
theorem gX11_inCell_X11_of : GoodIn wsX11_inCell (wsV RX11 51 RX11 yX11_of wsX11_of) := goodIn_app (goodIn_of _ (by decide +kernel)) ggX11_inCell_X11_of
theorem dX11_inCell_0 : decode cX11_inCell 0 = .ok (.iconst 0, 1) := by decide +kernel
theorem dX11_inCell_1 : decode cX11_inCell 1 = .ok (.istore_n 2, 1) := by decide +kernel
theorem dX11_inCell_2 : decode cX11_inCell 2 = .ok (.iload_n 2, 1) := by decide +kernel
theorem dX11_inCell_3 : decode cX11_inCell 3 = .ok (.aload_n 0, 1) := by decide +kernel
theorem dX11_inCell_4 : decode cX11_inCell 4 = .ok (.getfield 9, 3) := by decide +kernel
theorem dX11_inCell_7 : decode cX11_inCell 7 = .ok (.iconst 2, 1) := by decide +kernel
theorem dX11_inCell_8 : decode cX11_inCell 8 = .ok (.iaload, 1) := by decide +kernel
theorem dX11_inCell_9 : decode cX11_inCell 9 = .ok (.if_icmp .ge 21, 3) := by decide +kernel
theorem dX11_inCell_12 : decode cX11_inCell 12 = .ok (.aload_n 0, 1) := by decide +kernel
theorem dX11_inCell_13 : decode cX11_inCell 13 = .ok (.iload_n 2, 1) := by decide +kernel
theorem dX11_inCell_14 : decode cX11_inCell 14 = .ok (.iconst 2, 1) := by decide +kernel
theorem dX11_inCell_15 : decode cX11_inCell 15 = .ok (.invokevirtual 51, 3) := by decide +kernel
theorem dX11_inCell_18 : decode cX11_inCell 18 = .ok (.iload_n 1, 1) := by decide +kernel
theorem dX11_inCell_19 : decode cX11_inCell 19 = .ok (.if_icmp .ne 5, 3) := by decide +kernel
theorem dX11_inCell_22 : decode cX11_inCell 22 = .ok (.iload_n 2, 1) := by decide +kernel
theorem dX11_inCell_23 : decode cX11_inCell 23 = .ok (.ireturn, 1) := by decide +kernel
theorem dX11_inCell_24 : decode cX11_inCell 24 = .ok (.iinc 2 1, 3) := by decide +kernel
theorem dX11_inCell_27 : decode cX11_inCell 27 = .ok (.goto (-25), 3) := by decide +kernel
theorem dX11_inCell_30 : decode cX11_inCell 30 = .ok (.iconst (-1), 1) := by decide +kernel
theorem dX11_inCell_31 : decode cX11_inCell 31 = .ok (.ireturn, 1) := by decide +kernel
set_option maxRecDepth 20000 in
theorem ggX11_isFree_X11_isWall : GoodIn wsX11_isFree wsX11_isWall := goodIn_r _ [5, 6, 15, 16, 17, 18, 19, 20, 21, 22, 23, 24, 25, 26, 27, 28, 29, 30, 31, 32, 33, 34] (by decide +kernel) (by decide +kernel)
set_option maxRecDepth 20000 in
theorem gX11_isFree_X11_isWall : GoodIn wsX11_isFree (wsV RX11 55 RX11 yX11_isWall wsX11_isWall) := goodIn_app (goodIn_of _ (by decide +kernel)) ggX11_isFree_X11_isWall
set_option maxRecDepth 20000 in
theorem ggX11_isFree_X11_inCell : GoodIn wsX11_isFree wsX11_inCell := goodIn_r _ [10, 6, 11, 12, 13, 4, 14, 15, 16, 17, 18, 19, 20, 21, 22, 23, 24, 25, 26, 27, 28, 29, 30, 31, 32, 33, 34] (by decide +kernel) (by decide +kernel)
set_option maxRecDepth 20000 in
theorem gX11_isFree_X11_inCell : GoodIn wsX11_isFree (wsV RX11 59 RX11 yX11_inCell wsX11_inCell) := goodIn_app (goodIn_of _ (by decide +kernel)) ggX11_isFree_X11_inCell
theorem dX11_isFree_0 : decode cX11_isFree 0 = .ok (.aload_n 0, 1) := by decide +kernel
theorem dX11_isFree_1 : decode cX11_isFree 1 = .ok (.iload_n 1, 1) := by decide +kernel
theorem dX11_isFree_2 : decode cX11_isFree 2 = .ok (.invokevirtual 55, 3) := by decide +kernel
theorem dX11_isFree_5 : decode cX11_isFree 5 = .ok (.ifCond .ne 15, 3) := by decide +kernel
theorem dX11_isFree_8 : decode cX11_isFree 8 = .ok (.aload_n 0, 1) := by decide +kernel
theorem dX11_isFree_9 : decode cX11_isFree 9 = .ok (.iload_n 1, 1) := by decide +kernel
theorem dX11_isFree_10 : decode cX11_isFree 10 = .ok (.invokevirtual 59, 3) := by decide +kernel
theorem dX11_isFree_13 : decode cX11_isFree 13 = .ok (.ifCond .ge 7, 3) := by decide +kernel
theorem dX11_isFree_16 : decode cX11_isFree 16 = .ok (.iconst 1, 1) := by decide +kernel
theorem dX11_isFree_17 : decode cX11_isFree 17 = .ok (.goto 4, 3) := by decide +kernel
theorem dX11_isFree_20 : decode cX11_isFree 20 = .ok (.iconst 0, 1) := by decide +kernel
theorem dX11_isFree_21 : decode cX11_isFree 21 = .ok (.ireturn, 1) := by decide +kernel
theorem dX11_nextTo_0 : decode cX11_nextTo 0 = .ok (.iload_n 1, 1) := by decide +kernel
theorem dX11_nextTo_1 : decode cX11_nextTo 1 = .ok (.tableswitch 75 0 2 #[27, 45, 60], 27) := by decide +kernel
theorem dX11_nextTo_28 : decode cX11_nextTo 28 = .ok (.iload_n 0, 1) := by decide +kernel
theorem dX11_nextTo_29 : decode cX11_nextTo 29 = .ok (.bipush 6, 2) := by decide +kernel
theorem dX11_nextTo_31 : decode cX11_nextTo 31 = .ok (.iadd, 1) := by decide +kernel
theorem dX11_nextTo_32 : decode cX11_nextTo 32 = .ok (.bipush 36, 2) := by decide +kernel
theorem dX11_nextTo_34 : decode cX11_nextTo 34 = .ok (.if_icmp .ge 10, 3) := by decide +kernel
theorem dX11_nextTo_37 : decode cX11_nextTo 37 = .ok (.iload_n 0, 1) := by decide +kernel
theorem dX11_nextTo_38 : decode cX11_nextTo 38 = .ok (.bipush 6, 2) := by decide +kernel
theorem dX11_nextTo_40 : decode cX11_nextTo 40 = .ok (.iadd, 1) := by decide +kernel
theorem dX11_nextTo_41 : decode cX11_nextTo 41 = .ok (.goto 4, 3) := by decide +kernel
theorem dX11_nextTo_44 : decode cX11_nextTo 44 = .ok (.iconst (-1), 1) := by decide +kernel
theorem dX11_nextTo_45 : decode cX11_nextTo 45 = .ok (.ireturn, 1) := by decide +kernel
theorem dX11_nextTo_46 : decode cX11_nextTo 46 = .ok (.iload_n 0, 1) := by decide +kernel
theorem dX11_nextTo_47 : decode cX11_nextTo 47 = .ok (.bipush 6, 2) := by decide +kernel
theorem dX11_nextTo_49 : decode cX11_nextTo 49 = .ok (.irem, 1) := by decide +kernel
theorem dX11_nextTo_50 : decode cX11_nextTo 50 = .ok (.ifCond .le 9, 3) := by decide +kernel
theorem dX11_nextTo_53 : decode cX11_nextTo 53 = .ok (.iload_n 0, 1) := by decide +kernel
theorem dX11_nextTo_54 : decode cX11_nextTo 54 = .ok (.iconst 1, 1) := by decide +kernel
theorem dX11_nextTo_55 : decode cX11_nextTo 55 = .ok (.isub, 1) := by decide +kernel
theorem dX11_nextTo_56 : decode cX11_nextTo 56 = .ok (.goto 4, 3) := by decide +kernel
theorem dX11_nextTo_59 : decode cX11_nextTo 59 = .ok (.iconst (-1), 1) := by decide +kernel
theorem dX11_nextTo_60 : decode cX11_nextTo 60 = .ok (.ireturn, 1) := by decide +kernel
theorem dX11_nextTo_61 : decode cX11_nextTo 61 = .ok (.iload_n 0, 1) := by decide +kernel
theorem dX11_nextTo_62 : decode cX11_nextTo 62 = .ok (.bipush 6, 2) := by decide +kernel
theorem dX11_nextTo_64 : decode cX11_nextTo 64 = .ok (.if_icmp .lt 10, 3) := by decide +kernel
theorem dX11_nextTo_67 : decode cX11_nextTo 67 = .ok (.iload_n 0, 1) := by decide +kernel
theorem dX11_nextTo_68 : decode cX11_nextTo 68 = .ok (.bipush 6, 2) := by decide +kernel
theorem dX11_nextTo_70 : decode cX11_nextTo 70 = .ok (.isub, 1) := by decide +kernel
theorem dX11_nextTo_71 : decode cX11_nextTo 71 = .ok (.goto 4, 3) := by decide +kernel
theorem dX11_nextTo_74 : decode cX11_nextTo 74 = .ok (.iconst (-1), 1) := by decide +kernel
theorem dX11_nextTo_75 : decode cX11_nextTo 75 = .ok (.ireturn, 1) := by decide +kernel
theorem dX11_nextTo_76 : decode cX11_nextTo 76 = .ok (.iload_n 0, 1) := by decide +kernel
theorem dX11_nextTo_77 : decode cX11_nextTo 77 = .ok (.bipush 6, 2) := by decide +kernel
theorem dX11_nextTo_79 : decode cX11_nextTo 79 = .ok (.irem, 1) := by decide +kernel
theorem dX11_nextTo_80 : decode cX11_nextTo 80 = .ok (.iconst 5, 1) := by decide +kernel
theorem dX11_nextTo_81 : decode cX11_nextTo 81 = .ok (.if_icmp .ge 9, 3) := by decide +kernel
theorem dX11_nextTo_84 : decode cX11_nextTo 84 = .ok (.iload_n 0, 1) := by decide +kernel
theorem dX11_nextTo_85 : decode cX11_nextTo 85 = .ok (.iconst 1, 1) := by decide +kernel
theorem dX11_nextTo_86 : decode cX11_nextTo 86 = .ok (.iadd, 1) := by decide +kernel
theorem dX11_nextTo_87 : decode cX11_nextTo 87 = .ok (.goto 4, 3) := by decide +kernel
theorem dX11_nextTo_90 : decode cX11_nextTo 90 = .ok (.iconst (-1), 1) := by decide +kernel
theorem dX11_nextTo_91 : decode cX11_nextTo 91 = .ok (.ireturn, 1) := by decide +kernel
set_option maxRecDepth 20000 in
theorem ggX11_wall_X11_isCell : GoodIn wsX11_wall wsX11_isCell := goodIn_r _ [6, 7, 8, 5, 9] (by decide +kernel) (by decide +kernel)
set_option maxRecDepth 20000 in
theorem gX11_wall_X11_isCell : GoodIn wsX11_wall (va_wsS RX11 63 yX11_isCell wsX11_isCell) := goodIn_app (goodIn_of _ (by decide +kernel)) ggX11_wall_X11_isCell
set_option maxRecDepth 20000 in
theorem ggX11_wall_X11_in : GoodIn wsX11_wall wsX11_in := goodIn_r _ [9] (by decide +kernel) (by decide +kernel)
set_option maxRecDepth 20000 in
theorem gX11_wall_X11_in : GoodIn wsX11_wall (va_wsS RX11 47 yX11_in wsX11_in) := goodIn_app (goodIn_of _ (by decide +kernel)) ggX11_wall_X11_in
set_option maxRecDepth 20000 in
theorem ggX11_wall_X11_error : GoodIn wsX11_wall wsX11_error := goodIn_r _ [13, 14, 15, 29, 30, 31, 32, 33, 34, 35, 36, 37, 38, 39, 40, 41, 42, 43, 44, 45, 46, 47, 48] (by decide +kernel) (by decide +kernel)
set_option maxRecDepth 20000 in
theorem gX11_wall_X11_error : GoodIn wsX11_wall (wsV RX11 67 RX11 yX11_error wsX11_error) := goodIn_app (goodIn_of _ (by decide +kernel)) ggX11_wall_X11_error
set_option maxRecDepth 20000 in
theorem ggX11_wall_X11_inCell : GoodIn wsX11_wall wsX11_inCell := goodIn_r _ [19, 20, 21, 22, 23, 5, 24, 29, 30, 31, 32, 33, 34, 35, 36, 37, 38, 39, 40, 41, 42, 43, 44, 45, 46, 47, 48] (by decide +kernel) (by decide +kernel)
set_option maxRecDepth 20000 in
theorem gX11_wall_X11_inCell : GoodIn wsX11_wall (wsV RX11 59 RX11 yX11_inCell wsX11_inCell) := goodIn_app (goodIn_of _ (by decide +kernel)) ggX11_wall_X11_inCell
set_option maxRecDepth 20000 in
theorem ggX11_wall_X11_becomes : GoodIn wsX11_wall wsX11_becomes := goodIn_r _ [28, 20, 29, 30, 31, 32, 33, 34, 35, 36, 37, 38, 39, 40, 41, 42, 43, 44, 45, 46, 47, 48] (by decide +kernel) (by decide +kernel)
set_option maxRecDepth 20000 in
theorem gX11_wall_X11_becomes : GoodIn wsX11_wall (wsV RX11 71 RX11 yX11_becomes wsX11_becomes) := goodIn_app (goodIn_of _ (by decide +kernel)) ggX11_wall_X11_becomes
theorem dX11_wall_0 : decode cX11_wall 0 = .ok (.iload_n 1, 1) := by decide +kernel
theorem dX11_wall_1 : decode cX11_wall 1 = .ok (.invokestatic 63, 3) := by decide +kernel
theorem dX11_wall_4 : decode cX11_wall 4 = .ok (.ifCond .eq 12, 3) := by decide +kernel
theorem dX11_wall_7 : decode cX11_wall 7 = .ok (.iload_n 2, 1) := by decide +kernel
theorem dX11_wall_8 : decode cX11_wall 8 = .ok (.iconst 0, 1) := by decide +kernel
theorem dX11_wall_9 : decode cX11_wall 9 = .ok (.iconst 1, 1) := by decide +kernel
theorem dX11_wall_10 : decode cX11_wall 10 = .ok (.invokestatic 47, 3) := by decide +kernel
theorem dX11_wall_13 : decode cX11_wall 13 = .ok (.ifCond .ne 10, 3) := by decide +kernel
theorem dX11_wall_16 : decode cX11_wall 16 = .ok (.aload_n 0, 1) := by decide +kernel
theorem dX11_wall_17 : decode cX11_wall 17 = .ok (.ldc 66, 2) := by decide +kernel
theorem dX11_wall_19 : decode cX11_wall 19 = .ok (.invokevirtual 67, 3) := by decide +kernel
theorem dX11_wall_22 : decode cX11_wall 22 = .ok (.ireturn, 1) := by decide +kernel
theorem dX11_wall_23 : decode cX11_wall 23 = .ok (.iload_n 2, 1) := by decide +kernel
theorem dX11_wall_24 : decode cX11_wall 24 = .ok (.iconst 1, 1) := by decide +kernel
theorem dX11_wall_25 : decode cX11_wall 25 = .ok (.if_icmp .ne 20, 3) := by decide +kernel
theorem dX11_wall_28 : decode cX11_wall 28 = .ok (.aload_n 0, 1) := by decide +kernel
theorem dX11_wall_29 : decode cX11_wall 29 = .ok (.iload_n 1, 1) := by decide +kernel
theorem dX11_wall_30 : decode cX11_wall 30 = .ok (.invokevirtual 59, 3) := by decide +kernel
theorem dX11_wall_33 : decode cX11_wall 33 = .ok (.ifCond .lt 12, 3) := by decide +kernel
theorem dX11_wall_36 : decode cX11_wall 36 = .ok (.aload_n 0, 1) := by decide +kernel
theorem dX11_wall_37 : decode cX11_wall 37 = .ok (.ldc 70, 2) := by decide +kernel
theorem dX11_wall_39 : decode cX11_wall 39 = .ok (.invokevirtual 67, 3) := by decide +kernel
theorem dX11_wall_42 : decode cX11_wall 42 = .ok (.goto 11, 3) := by decide +kernel
theorem dX11_wall_45 : decode cX11_wall 45 = .ok (.aload_n 0, 1) := by decide +kernel
theorem dX11_wall_46 : decode cX11_wall 46 = .ok (.iconst 5, 1) := by decide +kernel
theorem dX11_wall_47 : decode cX11_wall 47 = .ok (.iload_n 1, 1) := by decide +kernel
theorem dX11_wall_48 : decode cX11_wall 48 = .ok (.iadd, 1) := by decide +kernel
theorem dX11_wall_49 : decode cX11_wall 49 = .ok (.iload_n 2, 1) := by decide +kernel
