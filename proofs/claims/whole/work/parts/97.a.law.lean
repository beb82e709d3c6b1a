/-! the law -/
abbrev b_Law_law : ByteArray := code
def y_Law_law : MethodName := ⟨"IntervalTextLaw", "law", "([I)Z"⟩
theorem d_Law_law_0 : decode b_Law_law 0 = .ok (.new 7, 3) := by decide +kernel
theorem d_Law_law_3 : decode b_Law_law 3 = .ok (.dup, 1) := by decide +kernel
theorem d_Law_law_4 : decode b_Law_law 4 = .ok (.invokespecial 9, 3) := by decide +kernel
theorem d_Law_law_7 : decode b_Law_law 7 = .ok (.astore_n 1, 1) := by decide +kernel
theorem d_Law_law_8 : decode b_Law_law 8 = .ok (.new 10, 3) := by decide +kernel
theorem d_Law_law_11 : decode b_Law_law 11 = .ok (.dup, 1) := by decide +kernel
theorem d_Law_law_12 : decode b_Law_law 12 = .ok (.invokespecial 12, 3) := by decide +kernel
theorem d_Law_law_15 : decode b_Law_law 15 = .ok (.astore_n 2, 1) := by decide +kernel
theorem d_Law_law_16 : decode b_Law_law 16 = .ok (.iconst 0, 1) := by decide +kernel
theorem d_Law_law_17 : decode b_Law_law 17 = .ok (.istore_n 3, 1) := by decide +kernel
theorem d_Law_law_18 : decode b_Law_law 18 = .ok (.iload_n 3, 1) := by decide +kernel
theorem d_Law_law_19 : decode b_Law_law 19 = .ok (.aload_n 0, 1) := by decide +kernel
theorem d_Law_law_20 : decode b_Law_law 20 = .ok (.arraylength, 1) := by decide +kernel
theorem d_Law_law_21 : decode b_Law_law 21 = .ok (.bipush 7, 2) := by decide +kernel
theorem d_Law_law_23 : decode b_Law_law 23 = .ok (.isub, 1) := by decide +kernel
theorem d_Law_law_24 : decode b_Law_law 24 = .ok (.if_icmp .gt 314, 3) := by decide +kernel
theorem d_Law_law_27 : decode b_Law_law 27 = .ok (.aload_n 0, 1) := by decide +kernel
theorem d_Law_law_28 : decode b_Law_law 28 = .ok (.iload_n 3, 1) := by decide +kernel
theorem d_Law_law_29 : decode b_Law_law 29 = .ok (.iaload, 1) := by decide +kernel
theorem d_Law_law_30 : decode b_Law_law 30 = .ok (.bipush 7, 2) := by decide +kernel
theorem d_Law_law_32 : decode b_Law_law 32 = .ok (.iand, 1) := by decide +kernel
theorem d_Law_law_33 : decode b_Law_law 33 = .ok (.tableswitch 299 0 6 #[43, 106, 119, 133, 147, 262, 275], 43) := by decide +kernel
theorem d_Law_law_76 : decode b_Law_law 76 = .ok (.aload_n 1, 1) := by decide +kernel
theorem d_Law_law_77 : decode b_Law_law 77 = .ok (.aload_n 0, 1) := by decide +kernel
theorem d_Law_law_78 : decode b_Law_law 78 = .ok (.iload_n 3, 1) := by decide +kernel
theorem d_Law_law_79 : decode b_Law_law 79 = .ok (.iconst 1, 1) := by decide +kernel
theorem d_Law_law_80 : decode b_Law_law 80 = .ok (.iadd, 1) := by decide +kernel
theorem d_Law_law_81 : decode b_Law_law 81 = .ok (.iaload, 1) := by decide +kernel
theorem d_Law_law_82 : decode b_Law_law 82 = .ok (.i2l, 1) := by decide +kernel
theorem d_Law_law_83 : decode b_Law_law 83 = .ok (.bipush 32, 2) := by decide +kernel
theorem d_Law_law_85 : decode b_Law_law 85 = .ok (.lshl, 1) := by decide +kernel
theorem d_Law_law_86 : decode b_Law_law 86 = .ok (.aload_n 0, 1) := by decide +kernel
theorem d_Law_law_87 : decode b_Law_law 87 = .ok (.iload_n 3, 1) := by decide +kernel
theorem d_Law_law_88 : decode b_Law_law 88 = .ok (.iconst 2, 1) := by decide +kernel
theorem d_Law_law_89 : decode b_Law_law 89 = .ok (.iadd, 1) := by decide +kernel
theorem d_Law_law_90 : decode b_Law_law 90 = .ok (.iaload, 1) := by decide +kernel
theorem d_Law_law_91 : decode b_Law_law 91 = .ok (.i2l, 1) := by decide +kernel
theorem d_Law_law_92 : decode b_Law_law 92 = .ok (.ldc2_w 13, 3) := by decide +kernel
theorem d_Law_law_95 : decode b_Law_law 95 = .ok (.land, 1) := by decide +kernel
theorem d_Law_law_96 : decode b_Law_law 96 = .ok (.lor, 1) := by decide +kernel
theorem d_Law_law_97 : decode b_Law_law 97 = .ok (.aload_n 0, 1) := by decide +kernel
theorem d_Law_law_98 : decode b_Law_law 98 = .ok (.iload_n 3, 1) := by decide +kernel
theorem d_Law_law_99 : decode b_Law_law 99 = .ok (.iconst 3, 1) := by decide +kernel
theorem d_Law_law_100 : decode b_Law_law 100 = .ok (.iadd, 1) := by decide +kernel
theorem d_Law_law_101 : decode b_Law_law 101 = .ok (.iaload, 1) := by decide +kernel
theorem d_Law_law_102 : decode b_Law_law 102 = .ok (.invokevirtual 15, 3) := by decide +kernel
theorem d_Law_law_105 : decode b_Law_law 105 = .ok (.aload_n 2, 1) := by decide +kernel
theorem d_Law_law_106 : decode b_Law_law 106 = .ok (.aload_n 0, 1) := by decide +kernel
theorem d_Law_law_107 : decode b_Law_law 107 = .ok (.iload_n 3, 1) := by decide +kernel
theorem d_Law_law_108 : decode b_Law_law 108 = .ok (.iconst 1, 1) := by decide +kernel
theorem d_Law_law_109 : decode b_Law_law 109 = .ok (.iadd, 1) := by decide +kernel
theorem d_Law_law_110 : decode b_Law_law 110 = .ok (.iaload, 1) := by decide +kernel
theorem d_Law_law_111 : decode b_Law_law 111 = .ok (.i2l, 1) := by decide +kernel
theorem d_Law_law_112 : decode b_Law_law 112 = .ok (.bipush 32, 2) := by decide +kernel
theorem d_Law_law_114 : decode b_Law_law 114 = .ok (.lshl, 1) := by decide +kernel
theorem d_Law_law_115 : decode b_Law_law 115 = .ok (.aload_n 0, 1) := by decide +kernel
theorem d_Law_law_116 : decode b_Law_law 116 = .ok (.iload_n 3, 1) := by decide +kernel
theorem d_Law_law_117 : decode b_Law_law 117 = .ok (.iconst 2, 1) := by decide +kernel
theorem d_Law_law_118 : decode b_Law_law 118 = .ok (.iadd, 1) := by decide +kernel
theorem d_Law_law_119 : decode b_Law_law 119 = .ok (.iaload, 1) := by decide +kernel
theorem d_Law_law_120 : decode b_Law_law 120 = .ok (.i2l, 1) := by decide +kernel
theorem d_Law_law_121 : decode b_Law_law 121 = .ok (.ldc2_w 13, 3) := by decide +kernel
theorem d_Law_law_124 : decode b_Law_law 124 = .ok (.land, 1) := by decide +kernel
theorem d_Law_law_125 : decode b_Law_law 125 = .ok (.lor, 1) := by decide +kernel
theorem d_Law_law_126 : decode b_Law_law 126 = .ok (.aload_n 0, 1) := by decide +kernel
theorem d_Law_law_127 : decode b_Law_law 127 = .ok (.iload_n 3, 1) := by decide +kernel
theorem d_Law_law_128 : decode b_Law_law 128 = .ok (.iconst 3, 1) := by decide +kernel
theorem d_Law_law_129 : decode b_Law_law 129 = .ok (.iadd, 1) := by decide +kernel
theorem d_Law_law_130 : decode b_Law_law 130 = .ok (.iaload, 1) := by decide +kernel
theorem d_Law_law_131 : decode b_Law_law 131 = .ok (.invokevirtual 19, 3) := by decide +kernel
theorem d_Law_law_134 : decode b_Law_law 134 = .ok (.if_icmp .eq 198, 3) := by decide +kernel
theorem d_Law_law_137 : decode b_Law_law 137 = .ok (.iconst 0, 1) := by decide +kernel
theorem d_Law_law_138 : decode b_Law_law 138 = .ok (.ireturn, 1) := by decide +kernel
theorem d_Law_law_139 : decode b_Law_law 139 = .ok (.aload_n 1, 1) := by decide +kernel
theorem d_Law_law_140 : decode b_Law_law 140 = .ok (.invokevirtual 20, 3) := by decide +kernel
theorem d_Law_law_143 : decode b_Law_law 143 = .ok (.aload_n 2, 1) := by decide +kernel
theorem d_Law_law_144 : decode b_Law_law 144 = .ok (.invokevirtual 24, 3) := by decide +kernel
theorem d_Law_law_147 : decode b_Law_law 147 = .ok (.if_icmp .eq 185, 3) := by decide +kernel
theorem d_Law_law_150 : decode b_Law_law 150 = .ok (.iconst 0, 1) := by decide +kernel
theorem d_Law_law_151 : decode b_Law_law 151 = .ok (.ireturn, 1) := by decide +kernel
theorem d_Law_law_152 : decode b_Law_law 152 = .ok (.aload_n 1, 1) := by decide +kernel
theorem d_Law_law_153 : decode b_Law_law 153 = .ok (.invokevirtual 25, 3) := by decide +kernel
theorem d_Law_law_156 : decode b_Law_law 156 = .ok (.aload_n 2, 1) := by decide +kernel
theorem d_Law_law_157 : decode b_Law_law 157 = .ok (.invokevirtual 29, 3) := by decide +kernel
theorem d_Law_law_160 : decode b_Law_law 160 = .ok (.lcmp, 1) := by decide +kernel
theorem d_Law_law_161 : decode b_Law_law 161 = .ok (.ifCond .eq 171, 3) := by decide +kernel
theorem d_Law_law_164 : decode b_Law_law 164 = .ok (.iconst 0, 1) := by decide +kernel
theorem d_Law_law_165 : decode b_Law_law 165 = .ok (.ireturn, 1) := by decide +kernel
theorem d_Law_law_166 : decode b_Law_law 166 = .ok (.aload_n 1, 1) := by decide +kernel
theorem d_Law_law_167 : decode b_Law_law 167 = .ok (.invokevirtual 30, 3) := by decide +kernel
theorem d_Law_law_170 : decode b_Law_law 170 = .ok (.aload_n 2, 1) := by decide +kernel
theorem d_Law_law_171 : decode b_Law_law 171 = .ok (.invokevirtual 33, 3) := by decide +kernel
theorem d_Law_law_174 : decode b_Law_law 174 = .ok (.lcmp, 1) := by decide +kernel
theorem d_Law_law_175 : decode b_Law_law 175 = .ok (.ifCond .eq 157, 3) := by decide +kernel
theorem d_Law_law_178 : decode b_Law_law 178 = .ok (.iconst 0, 1) := by decide +kernel
theorem d_Law_law_179 : decode b_Law_law 179 = .ok (.ireturn, 1) := by decide +kernel
theorem d_Law_law_180 : decode b_Law_law 180 = .ok (.aload_n 1, 1) := by decide +kernel
theorem d_Law_law_181 : decode b_Law_law 181 = .ok (.aload_n 0, 1) := by decide +kernel
theorem d_Law_law_182 : decode b_Law_law 182 = .ok (.iload_n 3, 1) := by decide +kernel
theorem d_Law_law_183 : decode b_Law_law 183 = .ok (.iconst 1, 1) := by decide +kernel
theorem d_Law_law_184 : decode b_Law_law 184 = .ok (.iadd, 1) := by decide +kernel
theorem d_Law_law_185 : decode b_Law_law 185 = .ok (.iaload, 1) := by decide +kernel
theorem d_Law_law_186 : decode b_Law_law 186 = .ok (.i2l, 1) := by decide +kernel
theorem d_Law_law_187 : decode b_Law_law 187 = .ok (.bipush 32, 2) := by decide +kernel
theorem d_Law_law_189 : decode b_Law_law 189 = .ok (.lshl, 1) := by decide +kernel
theorem d_Law_law_190 : decode b_Law_law 190 = .ok (.aload_n 0, 1) := by decide +kernel
theorem d_Law_law_191 : decode b_Law_law 191 = .ok (.iload_n 3, 1) := by decide +kernel
theorem d_Law_law_192 : decode b_Law_law 192 = .ok (.iconst 2, 1) := by decide +kernel
theorem d_Law_law_193 : decode b_Law_law 193 = .ok (.iadd, 1) := by decide +kernel
theorem d_Law_law_194 : decode b_Law_law 194 = .ok (.iaload, 1) := by decide +kernel
theorem d_Law_law_195 : decode b_Law_law 195 = .ok (.i2l, 1) := by decide +kernel
theorem d_Law_law_196 : decode b_Law_law 196 = .ok (.ldc2_w 13, 3) := by decide +kernel
theorem d_Law_law_199 : decode b_Law_law 199 = .ok (.land, 1) := by decide +kernel
theorem d_Law_law_200 : decode b_Law_law 200 = .ok (.lor, 1) := by decide +kernel
theorem d_Law_law_201 : decode b_Law_law 201 = .ok (.aload_n 0, 1) := by decide +kernel
theorem d_Law_law_202 : decode b_Law_law 202 = .ok (.iload_n 3, 1) := by decide +kernel
theorem d_Law_law_203 : decode b_Law_law 203 = .ok (.iconst 3, 1) := by decide +kernel
theorem d_Law_law_204 : decode b_Law_law 204 = .ok (.iadd, 1) := by decide +kernel
theorem d_Law_law_205 : decode b_Law_law 205 = .ok (.iaload, 1) := by decide +kernel
theorem d_Law_law_206 : decode b_Law_law 206 = .ok (.i2l, 1) := by decide +kernel
theorem d_Law_law_207 : decode b_Law_law 207 = .ok (.bipush 32, 2) := by decide +kernel
theorem d_Law_law_209 : decode b_Law_law 209 = .ok (.lshl, 1) := by decide +kernel
theorem d_Law_law_210 : decode b_Law_law 210 = .ok (.aload_n 0, 1) := by decide +kernel
theorem d_Law_law_211 : decode b_Law_law 211 = .ok (.iload_n 3, 1) := by decide +kernel
theorem d_Law_law_212 : decode b_Law_law 212 = .ok (.iconst 4, 1) := by decide +kernel
theorem d_Law_law_213 : decode b_Law_law 213 = .ok (.iadd, 1) := by decide +kernel
theorem d_Law_law_214 : decode b_Law_law 214 = .ok (.iaload, 1) := by decide +kernel
theorem d_Law_law_215 : decode b_Law_law 215 = .ok (.i2l, 1) := by decide +kernel
theorem d_Law_law_216 : decode b_Law_law 216 = .ok (.ldc2_w 13, 3) := by decide +kernel
theorem d_Law_law_219 : decode b_Law_law 219 = .ok (.land, 1) := by decide +kernel
theorem d_Law_law_220 : decode b_Law_law 220 = .ok (.lor, 1) := by decide +kernel
theorem d_Law_law_221 : decode b_Law_law 221 = .ok (.aload_n 0, 1) := by decide +kernel
theorem d_Law_law_222 : decode b_Law_law 222 = .ok (.iload_n 3, 1) := by decide +kernel
theorem d_Law_law_223 : decode b_Law_law 223 = .ok (.iconst 5, 1) := by decide +kernel
theorem d_Law_law_224 : decode b_Law_law 224 = .ok (.iadd, 1) := by decide +kernel
theorem d_Law_law_225 : decode b_Law_law 225 = .ok (.iaload, 1) := by decide +kernel
theorem d_Law_law_226 : decode b_Law_law 226 = .ok (.aload_n 0, 1) := by decide +kernel
theorem d_Law_law_227 : decode b_Law_law 227 = .ok (.iload_n 3, 1) := by decide +kernel
theorem d_Law_law_228 : decode b_Law_law 228 = .ok (.bipush 6, 2) := by decide +kernel
theorem d_Law_law_230 : decode b_Law_law 230 = .ok (.iadd, 1) := by decide +kernel
theorem d_Law_law_231 : decode b_Law_law 231 = .ok (.iaload, 1) := by decide +kernel
theorem d_Law_law_232 : decode b_Law_law 232 = .ok (.invokevirtual 34, 3) := by decide +kernel
theorem d_Law_law_235 : decode b_Law_law 235 = .ok (.aload_n 2, 1) := by decide +kernel
theorem d_Law_law_236 : decode b_Law_law 236 = .ok (.aload_n 0, 1) := by decide +kernel
theorem d_Law_law_237 : decode b_Law_law 237 = .ok (.iload_n 3, 1) := by decide +kernel
theorem d_Law_law_238 : decode b_Law_law 238 = .ok (.iconst 1, 1) := by decide +kernel
theorem d_Law_law_239 : decode b_Law_law 239 = .ok (.iadd, 1) := by decide +kernel
theorem d_Law_law_240 : decode b_Law_law 240 = .ok (.iaload, 1) := by decide +kernel
theorem d_Law_law_241 : decode b_Law_law 241 = .ok (.i2l, 1) := by decide +kernel
theorem d_Law_law_242 : decode b_Law_law 242 = .ok (.bipush 32, 2) := by decide +kernel
theorem d_Law_law_244 : decode b_Law_law 244 = .ok (.lshl, 1) := by decide +kernel
theorem d_Law_law_245 : decode b_Law_law 245 = .ok (.aload_n 0, 1) := by decide +kernel
theorem d_Law_law_246 : decode b_Law_law 246 = .ok (.iload_n 3, 1) := by decide +kernel
theorem d_Law_law_247 : decode b_Law_law 247 = .ok (.iconst 2, 1) := by decide +kernel
theorem d_Law_law_248 : decode b_Law_law 248 = .ok (.iadd, 1) := by decide +kernel
theorem d_Law_law_249 : decode b_Law_law 249 = .ok (.iaload, 1) := by decide +kernel
theorem d_Law_law_250 : decode b_Law_law 250 = .ok (.i2l, 1) := by decide +kernel
theorem d_Law_law_251 : decode b_Law_law 251 = .ok (.ldc2_w 13, 3) := by decide +kernel
theorem d_Law_law_254 : decode b_Law_law 254 = .ok (.land, 1) := by decide +kernel
theorem d_Law_law_255 : decode b_Law_law 255 = .ok (.lor, 1) := by decide +kernel
theorem d_Law_law_256 : decode b_Law_law 256 = .ok (.aload_n 0, 1) := by decide +kernel
theorem d_Law_law_257 : decode b_Law_law 257 = .ok (.iload_n 3, 1) := by decide +kernel
theorem d_Law_law_258 : decode b_Law_law 258 = .ok (.iconst 3, 1) := by decide +kernel
theorem d_Law_law_259 : decode b_Law_law 259 = .ok (.iadd, 1) := by decide +kernel
theorem d_Law_law_260 : decode b_Law_law 260 = .ok (.iaload, 1) := by decide +kernel
theorem d_Law_law_261 : decode b_Law_law 261 = .ok (.i2l, 1) := by decide +kernel
theorem d_Law_law_262 : decode b_Law_law 262 = .ok (.bipush 32, 2) := by decide +kernel
theorem d_Law_law_264 : decode b_Law_law 264 = .ok (.lshl, 1) := by decide +kernel
theorem d_Law_law_265 : decode b_Law_law 265 = .ok (.aload_n 0, 1) := by decide +kernel
theorem d_Law_law_266 : decode b_Law_law 266 = .ok (.iload_n 3, 1) := by decide +kernel
theorem d_Law_law_267 : decode b_Law_law 267 = .ok (.iconst 4, 1) := by decide +kernel
theorem d_Law_law_268 : decode b_Law_law 268 = .ok (.iadd, 1) := by decide +kernel
theorem d_Law_law_269 : decode b_Law_law 269 = .ok (.iaload, 1) := by decide +kernel
theorem d_Law_law_270 : decode b_Law_law 270 = .ok (.i2l, 1) := by decide +kernel
theorem d_Law_law_271 : decode b_Law_law 271 = .ok (.ldc2_w 13, 3) := by decide +kernel
theorem d_Law_law_274 : decode b_Law_law 274 = .ok (.land, 1) := by decide +kernel
theorem d_Law_law_275 : decode b_Law_law 275 = .ok (.lor, 1) := by decide +kernel
theorem d_Law_law_276 : decode b_Law_law 276 = .ok (.aload_n 0, 1) := by decide +kernel
theorem d_Law_law_277 : decode b_Law_law 277 = .ok (.iload_n 3, 1) := by decide +kernel
theorem d_Law_law_278 : decode b_Law_law 278 = .ok (.iconst 5, 1) := by decide +kernel
theorem d_Law_law_279 : decode b_Law_law 279 = .ok (.iadd, 1) := by decide +kernel
theorem d_Law_law_280 : decode b_Law_law 280 = .ok (.iaload, 1) := by decide +kernel
theorem d_Law_law_281 : decode b_Law_law 281 = .ok (.aload_n 0, 1) := by decide +kernel
theorem d_Law_law_282 : decode b_Law_law 282 = .ok (.iload_n 3, 1) := by decide +kernel
theorem d_Law_law_283 : decode b_Law_law 283 = .ok (.bipush 6, 2) := by decide +kernel
theorem d_Law_law_285 : decode b_Law_law 285 = .ok (.iadd, 1) := by decide +kernel
theorem d_Law_law_286 : decode b_Law_law 286 = .ok (.iaload, 1) := by decide +kernel
theorem d_Law_law_287 : decode b_Law_law 287 = .ok (.invokevirtual 38, 3) := by decide +kernel
theorem d_Law_law_290 : decode b_Law_law 290 = .ok (.if_icmp .eq 42, 3) := by decide +kernel
theorem d_Law_law_293 : decode b_Law_law 293 = .ok (.iconst 0, 1) := by decide +kernel
theorem d_Law_law_294 : decode b_Law_law 294 = .ok (.ireturn, 1) := by decide +kernel
theorem d_Law_law_295 : decode b_Law_law 295 = .ok (.aload_n 1, 1) := by decide +kernel
theorem d_Law_law_296 : decode b_Law_law 296 = .ok (.invokevirtual 39, 3) := by decide +kernel
theorem d_Law_law_299 : decode b_Law_law 299 = .ok (.aload_n 2, 1) := by decide +kernel
theorem d_Law_law_300 : decode b_Law_law 300 = .ok (.invokevirtual 42, 3) := by decide +kernel
theorem d_Law_law_303 : decode b_Law_law 303 = .ok (.if_icmp .eq 29, 3) := by decide +kernel
theorem d_Law_law_306 : decode b_Law_law 306 = .ok (.iconst 0, 1) := by decide +kernel
theorem d_Law_law_307 : decode b_Law_law 307 = .ok (.ireturn, 1) := by decide +kernel
theorem d_Law_law_308 : decode b_Law_law 308 = .ok (.aload_n 1, 1) := by decide +kernel
theorem d_Law_law_309 : decode b_Law_law 309 = .ok (.aload_n 0, 1) := by decide +kernel
theorem d_Law_law_310 : decode b_Law_law 310 = .ok (.iload_n 3, 1) := by decide +kernel
theorem d_Law_law_311 : decode b_Law_law 311 = .ok (.iconst 1, 1) := by decide +kernel
theorem d_Law_law_312 : decode b_Law_law 312 = .ok (.iadd, 1) := by decide +kernel
theorem d_Law_law_313 : decode b_Law_law 313 = .ok (.iaload, 1) := by decide +kernel
theorem d_Law_law_314 : decode b_Law_law 314 = .ok (.invokevirtual 43, 3) := by decide +kernel
theorem d_Law_law_317 : decode b_Law_law 317 = .ok (.aload_n 2, 1) := by decide +kernel
theorem d_Law_law_318 : decode b_Law_law 318 = .ok (.aload_n 0, 1) := by decide +kernel
theorem d_Law_law_319 : decode b_Law_law 319 = .ok (.iload_n 3, 1) := by decide +kernel
theorem d_Law_law_320 : decode b_Law_law 320 = .ok (.iconst 1, 1) := by decide +kernel
theorem d_Law_law_321 : decode b_Law_law 321 = .ok (.iadd, 1) := by decide +kernel
theorem d_Law_law_322 : decode b_Law_law 322 = .ok (.iaload, 1) := by decide +kernel
theorem d_Law_law_323 : decode b_Law_law 323 = .ok (.invokevirtual 47, 3) := by decide +kernel
theorem d_Law_law_326 : decode b_Law_law 326 = .ok (.lcmp, 1) := by decide +kernel
theorem d_Law_law_327 : decode b_Law_law 327 = .ok (.ifCond .eq 5, 3) := by decide +kernel
theorem d_Law_law_330 : decode b_Law_law 330 = .ok (.iconst 0, 1) := by decide +kernel
theorem d_Law_law_331 : decode b_Law_law 331 = .ok (.ireturn, 1) := by decide +kernel
theorem d_Law_law_332 : decode b_Law_law 332 = .ok (.iinc 3 7, 3) := by decide +kernel
theorem d_Law_law_335 : decode b_Law_law 335 = .ok (.goto (-317), 3) := by decide +kernel
theorem d_Law_law_338 : decode b_Law_law 338 = .ok (.iconst 1, 1) := by decide +kernel
theorem d_Law_law_339 : decode b_Law_law 339 = .ok (.ireturn, 1) := by decide +kernel
theorem cn_Law_7 : Cond.classLink "IntervalTextLaw" 7 R_IT ∈ TB ∧ Cond.instantiable R_IT 7 ∈ TB ∧ Cond.initialized R_IT ∈ TB := ⟨tb_t (List.mem_append_left _ (List.mem_of_getElem? (l := tables_1_1) (i := 16) rfl)) rfl, tb_t (List.mem_append_left _ (List.mem_of_getElem? (l := tables_1_1) (i := 17) rfl)) rfl, tb_t (List.mem_append_left _ (List.mem_of_getElem? (l := tables_1_1) (i := 1) rfl)) rfl⟩
theorem z_IT : ∀ j, j < 7 → defaultValue (t_IT j) = vp_V [.null, .null, .null, .null, .null, .long (lI 0), .long (lI 0)] j := by
  intro j hj
  match j, hj with
  | 0, _ => first | rfl | decide
  | 1, _ => first | rfl | decide
  | 2, _ => first | rfl | decide
  | 3, _ => first | rfl | decide
  | 4, _ => first | rfl | decide
  | 5, _ => first | rfl | decide
  | 6, _ => first | rfl | decide
  | j + 7, h => exact absurd h (by omega)
theorem cn_Law_10 : Cond.classLink "IntervalTextLaw" 10 R_Mo ∈ TB ∧ Cond.instantiable R_Mo 21 ∈ TB ∧ Cond.initialized R_Mo ∈ TB := ⟨tb_t (List.mem_append_right _ (List.mem_append_right _ (List.mem_append_left _ (List.mem_of_getElem? (l := tables_1_3) (i := 102) rfl)))) rfl, tb_t (List.mem_append_right _ (List.mem_append_right _ (List.mem_append_left _ (List.mem_of_getElem? (l := tables_1_3) (i := 103) rfl)))) rfl, tb_t (List.mem_append_left _ (List.mem_of_getElem? (l := tables_1_1) (i := 8) rfl)) rfl⟩
theorem z_Mo : ∀ j, j < 21 → defaultValue (t_Mo j) = vp_V [.null, .null, .null, .null, .int (iI 0), .null, .int (iI 0), .null, .long (lI 0), .long (lI 0), .int (bI false), .long (lI 0), .long (lI 0), .null, .null, .null, .null, .int (iI 0), .int (iI 0), .int (bI false), .int (bI false)] j := by
  intro j hj
  match j, hj with
  | 0, _ => first | rfl | decide
  | 1, _ => first | rfl | decide
  | 2, _ => first | rfl | decide
  | 3, _ => first | rfl | decide
  | 4, _ => first | rfl | decide
  | 5, _ => first | rfl | decide
  | 6, _ => first | rfl | decide
  | 7, _ => first | rfl | decide
  | 8, _ => first | rfl | decide
  | 9, _ => first | rfl | decide
  | 10, _ => first | rfl | decide
  | 11, _ => first | rfl | decide
  | 12, _ => first | rfl | decide
  | 13, _ => first | rfl | decide
  | 14, _ => first | rfl | decide
  | 15, _ => first | rfl | decide
  | 16, _ => first | rfl | decide
  | 17, _ => first | rfl | decide
  | 18, _ => first | rfl | decide
  | 19, _ => first | rfl | decide
  | 20, _ => first | rfl | decide
  | j + 21, h => exact absurd h (by omega)
theorem tw_Law_constantLong_13 : Cond.constantLong "IntervalTextLaw" 13 (4294967295 : Int64) ∈ TB := tb_t (List.mem_append_right _ (List.mem_append_right _ (List.mem_append_right _ (List.mem_append_right _ (List.mem_of_getElem? (l := tables_1_5) (i := 8) rfl))))) rfl
theorem cl_Law_9 : CLinkI TB "IntervalTextLaw" 9 y_IT_init b_IT_init 1 0 := ⟨⟨tb_t (List.mem_append_left _ (List.mem_of_getElem? (l := tables_1_1) (i := 18) rfl)) rfl, tb_t (List.mem_append_left _ (List.mem_of_getElem? (l := tables_1_1) (i := 1) rfl)) rfl, tb_t (List.mem_append_left _ (List.mem_of_getElem? (l := tables_1_1) (i := 20) rfl)) rfl, by decide +kernel, by decide +kernel, by decide +kernel⟩, rfl, tb_t (List.mem_append_left _ (List.mem_of_getElem? (l := tables_1_1) (i := 19) rfl)) rfl⟩
theorem cl_Law_12 : CLinkI TB "IntervalTextLaw" 12 y_Mo_init b_Mo_init 1 0 := ⟨⟨tb_t (List.mem_append_right _ (List.mem_append_right _ (List.mem_append_left _ (List.mem_of_getElem? (l := tables_1_3) (i := 104) rfl)))) rfl, tb_t (List.mem_append_left _ (List.mem_of_getElem? (l := tables_1_1) (i := 8) rfl)) rfl, tb_t (List.mem_append_right _ (List.mem_append_right _ (List.mem_append_left _ (List.mem_of_getElem? (l := tables_1_3) (i := 106) rfl)))) rfl, by decide +kernel, by decide +kernel, by decide +kernel⟩, rfl, tb_t (List.mem_append_right _ (List.mem_append_right _ (List.mem_append_left _ (List.mem_of_getElem? (l := tables_1_3) (i := 105) rfl)))) rfl⟩
theorem cl_Law_15 : CLinkV TB "IntervalTextLaw" 15 "IntervalText" y_IT_feed b_IT_feed 5 (some .int) 2 := ⟨⟨tb_t (List.mem_append_left _ (List.mem_of_getElem? (l := tables_1_1) (i := 205) rfl)) rfl, tb_t (List.mem_append_left _ (List.mem_of_getElem? (l := tables_1_1) (i := 1) rfl)) rfl, tb_t (List.mem_append_left _ (List.mem_of_getElem? (l := tables_1_1) (i := 208) rfl)) rfl, by decide +kernel, by decide +kernel, by decide +kernel⟩, tb_t (List.mem_append_left _ (List.mem_of_getElem? (l := tables_1_1) (i := 206) rfl)) rfl, tb_t (List.mem_append_left _ (List.mem_of_getElem? (l := tables_1_1) (i := 207) rfl)) rfl⟩
theorem cl_Law_19 : CLinkV TB "IntervalTextLaw" 19 "IntervalTextModel" y_Mo_feed b_Mo_feed 5 (some .int) 2 := ⟨⟨tb_t (List.mem_append_right _ (List.mem_append_right _ (List.mem_append_left _ (List.mem_of_getElem? (l := tables_1_3) (i := 213) rfl)))) rfl, tb_t (List.mem_append_left _ (List.mem_of_getElem? (l := tables_1_1) (i := 8) rfl)) rfl, tb_t (List.mem_append_right _ (List.mem_append_right _ (List.mem_append_left _ (List.mem_of_getElem? (l := tables_1_3) (i := 216) rfl)))) rfl, by decide +kernel, by decide +kernel, by decide +kernel⟩, tb_t (List.mem_append_right _ (List.mem_append_right _ (List.mem_append_left _ (List.mem_of_getElem? (l := tables_1_3) (i := 214) rfl)))) rfl, tb_t (List.mem_append_right _ (List.mem_append_right _ (List.mem_append_left _ (List.mem_of_getElem? (l := tables_1_3) (i := 215) rfl)))) rfl⟩
theorem cl_Law_20 : CLinkV TB "IntervalTextLaw" 20 "IntervalText" y_IT_read b_IT_read 7 (some .int) 0 := ⟨⟨tb_t (List.mem_append_left _ (List.mem_of_getElem? (l := tables_1_1) (i := 213) rfl)) rfl, tb_t (List.mem_append_left _ (List.mem_of_getElem? (l := tables_1_1) (i := 1) rfl)) rfl, tb_t (List.mem_append_left _ (List.mem_of_getElem? (l := tables_1_1) (i := 216) rfl)) rfl, by decide +kernel, by decide +kernel, by decide +kernel⟩, tb_t (List.mem_append_left _ (List.mem_of_getElem? (l := tables_1_1) (i := 214) rfl)) rfl, tb_t (List.mem_append_left _ (List.mem_of_getElem? (l := tables_1_1) (i := 215) rfl)) rfl⟩
theorem cl_Law_24 : CLinkV TB "IntervalTextLaw" 24 "IntervalTextModel" y_Mo_read b_Mo_read 7 (some .int) 0 := ⟨⟨tb_t (List.mem_append_right _ (List.mem_append_right _ (List.mem_append_left _ (List.mem_of_getElem? (l := tables_1_3) (i := 218) rfl)))) rfl, tb_t (List.mem_append_left _ (List.mem_of_getElem? (l := tables_1_1) (i := 8) rfl)) rfl, tb_t (List.mem_append_right _ (List.mem_append_right _ (List.mem_append_left _ (List.mem_of_getElem? (l := tables_1_3) (i := 221) rfl)))) rfl, by decide +kernel, by decide +kernel, by decide +kernel⟩, tb_t (List.mem_append_right _ (List.mem_append_right _ (List.mem_append_left _ (List.mem_of_getElem? (l := tables_1_3) (i := 219) rfl)))) rfl, tb_t (List.mem_append_right _ (List.mem_append_right _ (List.mem_append_left _ (List.mem_of_getElem? (l := tables_1_3) (i := 220) rfl)))) rfl⟩
theorem cl_Law_25 : CLinkV TB "IntervalTextLaw" 25 "IntervalText" y_IT_low b_IT_low 1 (some .long) 0 := ⟨⟨tb_t (List.mem_append_right _ (List.mem_append_right _ (List.mem_append_left _ (List.mem_of_getElem? (l := tables_1_3) (i := 3) rfl)))) rfl, tb_t (List.mem_append_left _ (List.mem_of_getElem? (l := tables_1_1) (i := 1) rfl)) rfl, tb_t (List.mem_append_right _ (List.mem_append_right _ (List.mem_append_left _ (List.mem_of_getElem? (l := tables_1_3) (i := 6) rfl)))) rfl, by decide +kernel, by decide +kernel, by decide +kernel⟩, tb_t (List.mem_append_right _ (List.mem_append_right _ (List.mem_append_left _ (List.mem_of_getElem? (l := tables_1_3) (i := 4) rfl)))) rfl, tb_t (List.mem_append_right _ (List.mem_append_right _ (List.mem_append_left _ (List.mem_of_getElem? (l := tables_1_3) (i := 5) rfl)))) rfl⟩
theorem cl_Law_29 : CLinkV TB "IntervalTextLaw" 29 "IntervalTextModel" y_Mo_low b_Mo_low 1 (some .long) 0 := ⟨⟨tb_t (List.mem_append_right _ (List.mem_append_right _ (List.mem_append_right _ (List.mem_append_left _ (List.mem_of_getElem? (l := tables_1_4) (i := 173) rfl))))) rfl, tb_t (List.mem_append_left _ (List.mem_of_getElem? (l := tables_1_1) (i := 8) rfl)) rfl, tb_t (List.mem_append_right _ (List.mem_append_right _ (List.mem_append_right _ (List.mem_append_left _ (List.mem_of_getElem? (l := tables_1_4) (i := 176) rfl))))) rfl, by decide +kernel, by decide +kernel, by decide +kernel⟩, tb_t (List.mem_append_right _ (List.mem_append_right _ (List.mem_append_right _ (List.mem_append_left _ (List.mem_of_getElem? (l := tables_1_4) (i := 174) rfl))))) rfl, tb_t (List.mem_append_right _ (List.mem_append_right _ (List.mem_append_right _ (List.mem_append_left _ (List.mem_of_getElem? (l := tables_1_4) (i := 175) rfl))))) rfl⟩
theorem cl_Law_30 : CLinkV TB "IntervalTextLaw" 30 "IntervalText" y_IT_high b_IT_high 1 (some .long) 0 := ⟨⟨tb_t (List.mem_append_right _ (List.mem_append_right _ (List.mem_append_left _ (List.mem_of_getElem? (l := tables_1_3) (i := 7) rfl)))) rfl, tb_t (List.mem_append_left _ (List.mem_of_getElem? (l := tables_1_1) (i := 1) rfl)) rfl, tb_t (List.mem_append_right _ (List.mem_append_right _ (List.mem_append_left _ (List.mem_of_getElem? (l := tables_1_3) (i := 10) rfl)))) rfl, by decide +kernel, by decide +kernel, by decide +kernel⟩, tb_t (List.mem_append_right _ (List.mem_append_right _ (List.mem_append_left _ (List.mem_of_getElem? (l := tables_1_3) (i := 8) rfl)))) rfl, tb_t (List.mem_append_right _ (List.mem_append_right _ (List.mem_append_left _ (List.mem_of_getElem? (l := tables_1_3) (i := 9) rfl)))) rfl⟩
theorem cl_Law_33 : CLinkV TB "IntervalTextLaw" 33 "IntervalTextModel" y_Mo_high b_Mo_high 1 (some .long) 0 := ⟨⟨tb_t (List.mem_append_right _ (List.mem_append_right _ (List.mem_append_right _ (List.mem_append_left _ (List.mem_of_getElem? (l := tables_1_4) (i := 177) rfl))))) rfl, tb_t (List.mem_append_left _ (List.mem_of_getElem? (l := tables_1_1) (i := 8) rfl)) rfl, tb_t (List.mem_append_right _ (List.mem_append_right _ (List.mem_append_right _ (List.mem_append_left _ (List.mem_of_getElem? (l := tables_1_4) (i := 180) rfl))))) rfl, by decide +kernel, by decide +kernel, by decide +kernel⟩, tb_t (List.mem_append_right _ (List.mem_append_right _ (List.mem_append_right _ (List.mem_append_left _ (List.mem_of_getElem? (l := tables_1_4) (i := 178) rfl))))) rfl, tb_t (List.mem_append_right _ (List.mem_append_right _ (List.mem_append_right _ (List.mem_append_left _ (List.mem_of_getElem? (l := tables_1_4) (i := 179) rfl))))) rfl⟩
theorem cl_Law_34 : CLinkV TB "IntervalTextLaw" 34 "IntervalText" y_IT_write b_IT_write 11 (some .int) 4 := ⟨⟨tb_t (List.mem_append_right _ (List.mem_append_right _ (List.mem_append_left _ (List.mem_of_getElem? (l := tables_1_3) (i := 11) rfl)))) rfl, tb_t (List.mem_append_left _ (List.mem_of_getElem? (l := tables_1_1) (i := 1) rfl)) rfl, tb_t (List.mem_append_right _ (List.mem_append_right _ (List.mem_append_left _ (List.mem_of_getElem? (l := tables_1_3) (i := 14) rfl)))) rfl, by decide +kernel, by decide +kernel, by decide +kernel⟩, tb_t (List.mem_append_right _ (List.mem_append_right _ (List.mem_append_left _ (List.mem_of_getElem? (l := tables_1_3) (i := 12) rfl)))) rfl, tb_t (List.mem_append_right _ (List.mem_append_right _ (List.mem_append_left _ (List.mem_of_getElem? (l := tables_1_3) (i := 13) rfl)))) rfl⟩
theorem cl_Law_38 : CLinkV TB "IntervalTextLaw" 38 "IntervalTextModel" y_Mo_write b_Mo_write 12 (some .int) 4 := ⟨⟨tb_t (List.mem_append_right _ (List.mem_append_right _ (List.mem_append_right _ (List.mem_append_left _ (List.mem_of_getElem? (l := tables_1_4) (i := 181) rfl))))) rfl, tb_t (List.mem_append_left _ (List.mem_of_getElem? (l := tables_1_1) (i := 8) rfl)) rfl, tb_t (List.mem_append_right _ (List.mem_append_right _ (List.mem_append_right _ (List.mem_append_left _ (List.mem_of_getElem? (l := tables_1_4) (i := 184) rfl))))) rfl, by decide +kernel, by decide +kernel, by decide +kernel⟩, tb_t (List.mem_append_right _ (List.mem_append_right _ (List.mem_append_right _ (List.mem_append_left _ (List.mem_of_getElem? (l := tables_1_4) (i := 182) rfl))))) rfl, tb_t (List.mem_append_right _ (List.mem_append_right _ (List.mem_append_right _ (List.mem_append_left _ (List.mem_of_getElem? (l := tables_1_4) (i := 183) rfl))))) rfl⟩
theorem cl_Law_39 : CLinkV TB "IntervalTextLaw" 39 "IntervalText" y_IT_back b_IT_back 2 (some .int) 0 := ⟨⟨tb_t (List.mem_append_right _ (List.mem_append_right _ (List.mem_append_left _ (List.mem_of_getElem? (l := tables_1_3) (i := 93) rfl)))) rfl, tb_t (List.mem_append_left _ (List.mem_of_getElem? (l := tables_1_1) (i := 1) rfl)) rfl, tb_t (List.mem_append_right _ (List.mem_append_right _ (List.mem_append_left _ (List.mem_of_getElem? (l := tables_1_3) (i := 96) rfl)))) rfl, by decide +kernel, by decide +kernel, by decide +kernel⟩, tb_t (List.mem_append_right _ (List.mem_append_right _ (List.mem_append_left _ (List.mem_of_getElem? (l := tables_1_3) (i := 94) rfl)))) rfl, tb_t (List.mem_append_right _ (List.mem_append_right _ (List.mem_append_left _ (List.mem_of_getElem? (l := tables_1_3) (i := 95) rfl)))) rfl⟩
theorem cl_Law_42 : CLinkV TB "IntervalTextLaw" 42 "IntervalTextModel" y_Mo_back b_Mo_back 2 (some .int) 0 := ⟨⟨tb_t (List.mem_append_right _ (List.mem_append_right _ (List.mem_append_right _ (List.mem_append_right _ (List.mem_of_getElem? (l := tables_1_5) (i := 0) rfl))))) rfl, tb_t (List.mem_append_left _ (List.mem_of_getElem? (l := tables_1_1) (i := 8) rfl)) rfl, tb_t (List.mem_append_right _ (List.mem_append_right _ (List.mem_append_right _ (List.mem_append_right _ (List.mem_of_getElem? (l := tables_1_5) (i := 3) rfl))))) rfl, by decide +kernel, by decide +kernel, by decide +kernel⟩, tb_t (List.mem_append_right _ (List.mem_append_right _ (List.mem_append_right _ (List.mem_append_right _ (List.mem_of_getElem? (l := tables_1_5) (i := 1) rfl))))) rfl, tb_t (List.mem_append_right _ (List.mem_append_right _ (List.mem_append_right _ (List.mem_append_right _ (List.mem_of_getElem? (l := tables_1_5) (i := 2) rfl))))) rfl⟩
theorem cl_Law_43 : CLinkV TB "IntervalTextLaw" 43 "IntervalText" y_IT_word b_IT_word 6 (some .long) 1 := ⟨⟨tb_t (List.mem_append_right _ (List.mem_append_right _ (List.mem_append_left _ (List.mem_of_getElem? (l := tables_1_3) (i := 98) rfl)))) rfl, tb_t (List.mem_append_left _ (List.mem_of_getElem? (l := tables_1_1) (i := 1) rfl)) rfl, tb_t (List.mem_append_right _ (List.mem_append_right _ (List.mem_append_left _ (List.mem_of_getElem? (l := tables_1_3) (i := 101) rfl)))) rfl, by decide +kernel, by decide +kernel, by decide +kernel⟩, tb_t (List.mem_append_right _ (List.mem_append_right _ (List.mem_append_left _ (List.mem_of_getElem? (l := tables_1_3) (i := 99) rfl)))) rfl, tb_t (List.mem_append_right _ (List.mem_append_right _ (List.mem_append_left _ (List.mem_of_getElem? (l := tables_1_3) (i := 100) rfl)))) rfl⟩
theorem cl_Law_47 : CLinkV TB "IntervalTextLaw" 47 "IntervalTextModel" y_Mo_word b_Mo_word 5 (some .long) 1 := ⟨⟨tb_t (List.mem_append_right _ (List.mem_append_right _ (List.mem_append_right _ (List.mem_append_right _ (List.mem_of_getElem? (l := tables_1_5) (i := 4) rfl))))) rfl, tb_t (List.mem_append_left _ (List.mem_of_getElem? (l := tables_1_1) (i := 8) rfl)) rfl, tb_t (List.mem_append_right _ (List.mem_append_right _ (List.mem_append_right _ (List.mem_append_right _ (List.mem_of_getElem? (l := tables_1_5) (i := 7) rfl))))) rfl, by decide +kernel, by decide +kernel, by decide +kernel⟩, tb_t (List.mem_append_right _ (List.mem_append_right _ (List.mem_append_right _ (List.mem_append_right _ (List.mem_of_getElem? (l := tables_1_5) (i := 5) rfl))))) rfl, tb_t (List.mem_append_right _ (List.mem_append_right _ (List.mem_append_right _ (List.mem_append_right _ (List.mem_of_getElem? (l := tables_1_5) (i := 6) rfl))))) rfl⟩
def LIH (l : Launch) (D : va_G) (E : EVt) (p : Program) (e : Env) (s : State) (m : MethodId) (args : Array Value) (below : List Frame) (meth : Method) (c : Code) (A : Nat → Prop) (Q : State → Prop) (b : Nat) (L : Nat) (xs : Nat → Int32) (fuel18 : Nat) : Prop := ∀ (i : Int) (xh : Nat) (tp : Nat) (ou : Nat) (ar : Nat) (sc : Nat) (pr : Nat) (le : Int) (ge : Int) (ta : Nat) (t : Int → Int) (n : Int) (oc : Nat) (ot : Int → Int) (Lo : List Int) (f1 : Nat) (f2 : Nat) (rd : Nat) (em : Bool) (ob : Bool) (oa : Bool) (pos : Int) (fr : Int) (ex : Int) (hp : Bool) (tn1 : Nat) (tb1 : Nat) (bn1 : Nat) (ba1 : Nat) (tg1 : Int → Int) (bg1 : Int → Int) (tk1 : Int) (bk1 : Int) (pw1 : Int) (neg1 : Bool) (tn2 : Nat) (tb2 : Nat) (bn2 : Nat) (ba2 : Nat) (tg2 : Int → Int) (bg2 : Int → Int) (tk2 : Int) (bk2 : Int) (pw2 : Int) (neg2 : Bool) (ln : Nat) (la : Nat) (rn : Nat) (ra : Nat) (lg : Int → Int) (rg : Int → Int) (lk : Int) (rk : Int) (quo : Int) (inx : Bool) (rda : Nat) (rdg : Int → Int) (rdk : Int) (rr : Nat) (tn3 : Nat) (tb3 : Nat) (bn3 : Nat) (ba3 : Nat) (tg3 : Int → Int) (bg3 : Int → Int) (tk3 : Int) (bk3 : Int) (pw3 : Int) (neg3 : Bool) (mh : Nat) (mlf : Nat) (mrt : Nat) (mpb : Nat) (mop : Nat) (mta : Nat) (moa : Nat) (mno : Bool) (mlo : Int) (mhi : Int) (mo1 : Nat) (mo2 : Nat) (mo3 : Nat) (mo4 : Nat) (mms : Int) (mex : Int) (mgd : Bool) (mon : Bool) (otr : Int → Int) (lar : Nat) (rar : Nat) (lgr : Int → Int) (rgr : Int → Int) (lkr : Int) (rkr : Int) (pn1 : Nat) (pa1 : Nat) (qn1 : Nat) (qa1 : Nat) (pg1 : Int → Int) (qg1 : Int → Int) (pk1 : Int) (qk1 : Int) (ee1 : Int) (be1 : Bool) (pn2 : Nat) (pa2 : Nat) (qn2 : Nat) (qa2 : Nat) (pg2 : Int → Int) (qg2 : Int → Int) (pk2 : Int) (qk2 : Int) (ee2 : Int) (be2 : Bool) (pn5 : Nat) (pa5 : Nat) (qn5 : Nat) (qa5 : Nat) (pg5 : Int → Int) (qg5 : Int → Int) (pk5 : Int) (qk5 : Int) (ee5 : Int) (be5 : Bool) (pn6 : Nat) (pa6 : Nat) (qn6 : Nat) (qa6 : Nat) (pg6 : Int → Int) (qg6 : Int → Int) (pk6 : Int) (qk6 : Int) (ee6 : Int) (be6 : Bool) (pn7 : Nat) (pa7 : Nat) (qn7 : Nat) (qa7 : Nat) (pg7 : Int → Int) (qg7 : Int → Int) (pk7 : Int) (qk7 : Int) (ee7 : Int) (be7 : Bool) (pn8 : Nat) (pa8 : Nat) (qn8 : Nat) (qa8 : Nat) (pg8 : Int → Int) (qg8 : Int → Int) (pk8 : Int) (qk8 : Int) (ee8 : Int) (be8 : Bool) (hi : 0 ≤ i ∧ i ≤ (L : Int)) (hn : 0 ≤ n ∧ n ≤ 400) (hT : Tx t n) (hLo : (Lo.length : Int) ≤ 64) (hbL : BdL Lo) (hle : -9223372036854775808 ≤ le ∧ le < 9223372036854775808) (hge : -9223372036854775808 ≤ ge ∧ ge < 9223372036854775808) (hf18 : (L : Int) - i < (fuel18 : Int)) (ls : Array Slot) (H : Heap) (locs : List Loc), lv_has ls 4 [(0, .ref b), (1, .ref xh), (2, .ref mh), (3, .int (iI i))] → va_P D classes [(xh, .inr (6, [.ref tp, .ref ou, .ref ar, .ref sc, .ref pr, .long (lI le), .long (lI ge)])), (tp, .inr (3, [.ref ta, .int (iI n)])), (ta, .inl (E.2.1, 400, .inl (ia t))), (oc, .inl (E.2.1, 64, .inl (ia (Wr ot 0 Lo)))), (ou, .inr (3, [.ref oc, .int (iI (Lo.length : Int))])), (sc, .inr (4, [.ref tp, .ref ar, .ref f1, .ref f2, .ref rd, .int (bI em), .int (bI ob), .int (bI oa), .int (iI pos), .int (iI fr), .int (iI ex), .int (bI hp)])), (f1, .inr (1, [.ref tn1, .ref bn1, .int (bI neg1), .int (iI pw1)])), (tn1, .inr (0, [.ref tb1, .int (iI tk1)])), (tb1, .inl (E.1, 224, .inl (ia tg1))), (bn1, .inr (0, [.ref ba1, .int (iI bk1)])), (ba1, .inl (E.1, 224, .inl (ia bg1))), (f2, .inr (1, [.ref tn2, .ref bn2, .int (bI neg2), .int (iI pw2)])), (tn2, .inr (0, [.ref tb2, .int (iI tk2)])), (tb2, .inl (E.1, 224, .inl (ia tg2))), (bn2, .inr (0, [.ref ba2, .int (iI bk2)])), (ba2, .inl (E.1, 224, .inl (ia bg2))), (ar, .inr (2, [.ref ln, .ref rn, .long (lI quo), .int (bI inx)])), (ln, .inr (0, [.ref la, .int (iI lk)])), (la, .inl (E.1, 224, .inl (ia lg))), (rn, .inr (0, [.ref ra, .int (iI rk)])), (ra, .inl (E.1, 224, .inl (ia rg))), (rd, .inr (0, [.ref rda, .int (iI rdk)])), (rda, .inl (E.1, 224, .inl (ia rdg))), (pr, .inr (5, [.ref ou, .ref ar, .ref rr])), (rr, .inr (1, [.ref tn3, .ref bn3, .int (bI neg3), .int (iI pw3)])), (tn3, .inr (0, [.ref tb3, .int (iI tk3)])), (tb3, .inl (E.1, 224, .inl (ia tg3))), (bn3, .inr (0, [.ref ba3, .int (iI bk3)])), (ba3, .inl (E.1, 224, .inl (ia bg3))), (mh, .inr (9, [.ref mlf, .ref mrt, .ref mpb, .ref mop, .int (iI n), .ref mta, .int (iI (Lo.length : Int)), .ref moa, .long (lI le), .long (lI ge), .int (bI mno), .long (lI mlo), .long (lI mhi), .ref mo1, .ref mo2, .ref mo3, .ref mo4, .int (iI mms), .int (iI mex), .int (bI mgd), .int (bI mon)])), (mta, .inl (E.1, 400, .inl (ia t))), (moa, .inl (E.1, 200, .inl (ia (Wr otr 0 Lo)))), (mlf, .inr (7, [.ref lar, .int (iI lkr)])), (lar, .inl (E.1, 640, .inl (ia lgr))), (mrt, .inr (7, [.ref rar, .int (iI rkr)])), (rar, .inl (E.1, 640, .inl (ia rgr))), (mpb, .inr (8, [.int (bI be1), .ref pn1, .ref qn1, .int (iI ee1)])), (pn1, .inr (7, [.ref pa1, .int (iI pk1)])), (pa1, .inl (E.1, 640, .inl (ia pg1))), (qn1, .inr (7, [.ref qa1, .int (iI qk1)])), (qa1, .inl (E.1, 640, .inl (ia qg1))), (mop, .inr (8, [.int (bI be2), .ref pn2, .ref qn2, .int (iI ee2)])), (pn2, .inr (7, [.ref pa2, .int (iI pk2)])), (pa2, .inl (E.1, 640, .inl (ia pg2))), (qn2, .inr (7, [.ref qa2, .int (iI qk2)])), (qa2, .inl (E.1, 640, .inl (ia qg2))), (mo1, .inr (8, [.int (bI be5), .ref pn5, .ref qn5, .int (iI ee5)])), (pn5, .inr (7, [.ref pa5, .int (iI pk5)])), (pa5, .inl (E.1, 640, .inl (ia pg5))), (qn5, .inr (7, [.ref qa5, .int (iI qk5)])), (qa5, .inl (E.1, 640, .inl (ia qg5))), (mo2, .inr (8, [.int (bI be6), .ref pn6, .ref qn6, .int (iI ee6)])), (pn6, .inr (7, [.ref pa6, .int (iI pk6)])), (pa6, .inl (E.1, 640, .inl (ia pg6))), (qn6, .inr (7, [.ref qa6, .int (iI qk6)])), (qa6, .inl (E.1, 640, .inl (ia qg6))), (mo3, .inr (8, [.int (bI be7), .ref pn7, .ref qn7, .int (iI ee7)])), (pn7, .inr (7, [.ref pa7, .int (iI pk7)])), (pa7, .inl (E.1, 640, .inl (ia pg7))), (qn7, .inr (7, [.ref qa7, .int (iI qk7)])), (qa7, .inl (E.1, 640, .inl (ia qg7))), (mo4, .inr (8, [.int (bI be8), .ref pn8, .ref qn8, .int (iI ee8)])), (pn8, .inr (7, [.ref pa8, .int (iI pk8)])), (pa8, .inl (E.1, 640, .inl (ia pg8))), (qn8, .inr (7, [.ref qa8, .int (iI qk8)])), (qa8, .inl (E.1, 640, .inl (ia qg8)))] H → va_D A [(xh, .inr (6, [.ref tp, .ref ou, .ref ar, .ref sc, .ref pr, .long (lI le), .long (lI ge)])), (tp, .inr (3, [.ref ta, .int (iI n)])), (ta, .inl (E.2.1, 400, .inl (ia t))), (oc, .inl (E.2.1, 64, .inl (ia (Wr ot 0 Lo)))), (ou, .inr (3, [.ref oc, .int (iI (Lo.length : Int))])), (sc, .inr (4, [.ref tp, .ref ar, .ref f1, .ref f2, .ref rd, .int (bI em), .int (bI ob), .int (bI oa), .int (iI pos), .int (iI fr), .int (iI ex), .int (bI hp)])), (f1, .inr (1, [.ref tn1, .ref bn1, .int (bI neg1), .int (iI pw1)])), (tn1, .inr (0, [.ref tb1, .int (iI tk1)])), (tb1, .inl (E.1, 224, .inl (ia tg1))), (bn1, .inr (0, [.ref ba1, .int (iI bk1)])), (ba1, .inl (E.1, 224, .inl (ia bg1))), (f2, .inr (1, [.ref tn2, .ref bn2, .int (bI neg2), .int (iI pw2)])), (tn2, .inr (0, [.ref tb2, .int (iI tk2)])), (tb2, .inl (E.1, 224, .inl (ia tg2))), (bn2, .inr (0, [.ref ba2, .int (iI bk2)])), (ba2, .inl (E.1, 224, .inl (ia bg2))), (ar, .inr (2, [.ref ln, .ref rn, .long (lI quo), .int (bI inx)])), (ln, .inr (0, [.ref la, .int (iI lk)])), (la, .inl (E.1, 224, .inl (ia lg))), (rn, .inr (0, [.ref ra, .int (iI rk)])), (ra, .inl (E.1, 224, .inl (ia rg))), (rd, .inr (0, [.ref rda, .int (iI rdk)])), (rda, .inl (E.1, 224, .inl (ia rdg))), (pr, .inr (5, [.ref ou, .ref ar, .ref rr])), (rr, .inr (1, [.ref tn3, .ref bn3, .int (bI neg3), .int (iI pw3)])), (tn3, .inr (0, [.ref tb3, .int (iI tk3)])), (tb3, .inl (E.1, 224, .inl (ia tg3))), (bn3, .inr (0, [.ref ba3, .int (iI bk3)])), (ba3, .inl (E.1, 224, .inl (ia bg3))), (mh, .inr (9, [.ref mlf, .ref mrt, .ref mpb, .ref mop, .int (iI n), .ref mta, .int (iI (Lo.length : Int)), .ref moa, .long (lI le), .long (lI ge), .int (bI mno), .long (lI mlo), .long (lI mhi), .ref mo1, .ref mo2, .ref mo3, .ref mo4, .int (iI mms), .int (iI mex), .int (bI mgd), .int (bI mon)])), (mta, .inl (E.1, 400, .inl (ia t))), (moa, .inl (E.1, 200, .inl (ia (Wr otr 0 Lo)))), (mlf, .inr (7, [.ref lar, .int (iI lkr)])), (lar, .inl (E.1, 640, .inl (ia lgr))), (mrt, .inr (7, [.ref rar, .int (iI rkr)])), (rar, .inl (E.1, 640, .inl (ia rgr))), (mpb, .inr (8, [.int (bI be1), .ref pn1, .ref qn1, .int (iI ee1)])), (pn1, .inr (7, [.ref pa1, .int (iI pk1)])), (pa1, .inl (E.1, 640, .inl (ia pg1))), (qn1, .inr (7, [.ref qa1, .int (iI qk1)])), (qa1, .inl (E.1, 640, .inl (ia qg1))), (mop, .inr (8, [.int (bI be2), .ref pn2, .ref qn2, .int (iI ee2)])), (pn2, .inr (7, [.ref pa2, .int (iI pk2)])), (pa2, .inl (E.1, 640, .inl (ia pg2))), (qn2, .inr (7, [.ref qa2, .int (iI qk2)])), (qa2, .inl (E.1, 640, .inl (ia qg2))), (mo1, .inr (8, [.int (bI be5), .ref pn5, .ref qn5, .int (iI ee5)])), (pn5, .inr (7, [.ref pa5, .int (iI pk5)])), (pa5, .inl (E.1, 640, .inl (ia pg5))), (qn5, .inr (7, [.ref qa5, .int (iI qk5)])), (qa5, .inl (E.1, 640, .inl (ia qg5))), (mo2, .inr (8, [.int (bI be6), .ref pn6, .ref qn6, .int (iI ee6)])), (pn6, .inr (7, [.ref pa6, .int (iI pk6)])), (pa6, .inl (E.1, 640, .inl (ia pg6))), (qn6, .inr (7, [.ref qa6, .int (iI qk6)])), (qa6, .inl (E.1, 640, .inl (ia qg6))), (mo3, .inr (8, [.int (bI be7), .ref pn7, .ref qn7, .int (iI ee7)])), (pn7, .inr (7, [.ref pa7, .int (iI pk7)])), (pa7, .inl (E.1, 640, .inl (ia pg7))), (qn7, .inr (7, [.ref qa7, .int (iI qk7)])), (qa7, .inl (E.1, 640, .inl (ia qg7))), (mo4, .inr (8, [.int (bI be8), .ref pn8, .ref qn8, .int (iI ee8)])), (pn8, .inr (7, [.ref pa8, .int (iI pk8)])), (pa8, .inl (E.1, 640, .inl (ia pg8))), (qn8, .inr (7, [.ref qa8, .int (iI qk8)])), (qa8, .inl (E.1, 640, .inl (ia qg8)))] → va_S A s.heap H locs → W p l e room_1 s m args below meth c H locs 66 12173 Q (F0 m 18 ls [])
