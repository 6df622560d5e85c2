/-! ===== the model is made ===== -/
theorem dX12_init_0 : decode mX12_init.cd 0 = .ok (.aload_n 0, 1) := by decide +kernel
theorem dX12_init_1 : decode mX12_init.cd 1 = .ok (.invokespecial 1, 3) := by decide +kernel
theorem dX12_init_4 : decode mX12_init.cd 4 = .ok (.aload_n 0, 1) := by decide +kernel
theorem dX12_init_5 : decode mX12_init.cd 5 = .ok (.iconst 1, 1) := by decide +kernel
theorem dX12_init_6 : decode mX12_init.cd 6 = .ok (.putfield 7, 3) := by decide +kernel
theorem dX12_init_9 : decode mX12_init.cd 9 = .ok (.aload_n 0, 1) := by decide +kernel
theorem dX12_init_10 : decode mX12_init.cd 10 = .ok (.bipush 16, 2) := by decide +kernel
theorem dX12_init_12 : decode mX12_init.cd 12 = .ok (.newarray .int, 2) := by decide +kernel
theorem dX12_init_14 : decode mX12_init.cd 14 = .ok (.putfield 13, 3) := by decide +kernel
theorem dX12_init_17 : decode mX12_init.cd 17 = .ok (.aload_n 0, 1) := by decide +kernel
theorem dX12_init_18 : decode mX12_init.cd 18 = .ok (.bipush 36, 2) := by decide +kernel
theorem dX12_init_20 : decode mX12_init.cd 20 = .ok (.newarray .int, 2) := by decide +kernel
theorem dX12_init_22 : decode mX12_init.cd 22 = .ok (.putfield 17, 3) := by decide +kernel
theorem dX12_init_25 : decode mX12_init.cd 25 = .ok (.aload_n 0, 1) := by decide +kernel
theorem dX12_init_26 : decode mX12_init.cd 26 = .ok (.bipush 48, 2) := by decide +kernel
theorem dX12_init_28 : decode mX12_init.cd 28 = .ok (.newarray .int, 2) := by decide +kernel
theorem dX12_init_30 : decode mX12_init.cd 30 = .ok (.putfield 20, 3) := by decide +kernel
theorem dX12_init_33 : decode mX12_init.cd 33 = .ok (.aload_n 0, 1) := by decide +kernel
theorem dX12_init_34 : decode mX12_init.cd 34 = .ok (.bipush 24, 2) := by decide +kernel
theorem dX12_init_36 : decode mX12_init.cd 36 = .ok (.newarray .int, 2) := by decide +kernel
theorem dX12_init_38 : decode mX12_init.cd 38 = .ok (.putfield 23, 3) := by decide +kernel
theorem dX12_init_41 : decode mX12_init.cd 41 = .ok (.aload_n 0, 1) := by decide +kernel
theorem dX12_init_42 : decode mX12_init.cd 42 = .ok (.iconst 3, 1) := by decide +kernel
theorem dX12_init_43 : decode mX12_init.cd 43 = .ok (.newarray .int, 2) := by decide +kernel
theorem dX12_init_45 : decode mX12_init.cd 45 = .ok (.putfield 26, 3) := by decide +kernel
theorem dX12_init_48 : decode mX12_init.cd 48 = .ok (.aload_n 0, 1) := by decide +kernel
theorem dX12_init_49 : decode mX12_init.cd 49 = .ok (.bipush 24, 2) := by decide +kernel
theorem dX12_init_51 : decode mX12_init.cd 51 = .ok (.newarray .int, 2) := by decide +kernel
theorem dX12_init_53 : decode mX12_init.cd 53 = .ok (.putfield 29, 3) := by decide +kernel
theorem dX12_init_56 : decode mX12_init.cd 56 = .ok (.aload_n 0, 1) := by decide +kernel
theorem dX12_init_57 : decode mX12_init.cd 57 = .ok (.bipush 8, 2) := by decide +kernel
theorem dX12_init_59 : decode mX12_init.cd 59 = .ok (.newarray .int, 2) := by decide +kernel
theorem dX12_init_61 : decode mX12_init.cd 61 = .ok (.putfield 32, 3) := by decide +kernel
theorem dX12_init_64 : decode mX12_init.cd 64 = .ok (.aload_n 0, 1) := by decide +kernel
theorem dX12_init_65 : decode mX12_init.cd 65 = .ok (.sipush 700, 3) := by decide +kernel
theorem dX12_init_68 : decode mX12_init.cd 68 = .ok (.newarray .int, 2) := by decide +kernel
theorem dX12_init_70 : decode mX12_init.cd 70 = .ok (.putfield 35, 3) := by decide +kernel
theorem dX12_init_73 : decode mX12_init.cd 73 = .ok (.aload_n 0, 1) := by decide +kernel
theorem dX12_init_74 : decode mX12_init.cd 74 = .ok (.iconst (-1), 1) := by decide +kernel
theorem dX12_init_75 : decode mX12_init.cd 75 = .ok (.putfield 38, 3) := by decide +kernel
theorem dX12_init_78 : decode mX12_init.cd 78 = .ok (.aload_n 0, 1) := by decide +kernel
theorem dX12_init_79 : decode mX12_init.cd 79 = .ok (.iconst 3, 1) := by decide +kernel
theorem dX12_init_80 : decode mX12_init.cd 80 = .ok (.newarray .int, 2) := by decide +kernel
theorem dX12_init_82 : decode mX12_init.cd 82 = .ok (.putfield 41, 3) := by decide +kernel
theorem dX12_init_85 : decode mX12_init.cd 85 = .ok (.aload_n 0, 1) := by decide +kernel
theorem dX12_init_86 : decode mX12_init.cd 86 = .ok (.bipush 16, 2) := by decide +kernel
theorem dX12_init_88 : decode mX12_init.cd 88 = .ok (.newarray .int, 2) := by decide +kernel
theorem dX12_init_90 : decode mX12_init.cd 90 = .ok (.putfield 44, 3) := by decide +kernel
theorem dX12_init_93 : decode mX12_init.cd 93 = .ok (.aload_n 0, 1) := by decide +kernel
theorem dX12_init_94 : decode mX12_init.cd 94 = .ok (.bipush 36, 2) := by decide +kernel
theorem dX12_init_96 : decode mX12_init.cd 96 = .ok (.newarray .int, 2) := by decide +kernel
theorem dX12_init_98 : decode mX12_init.cd 98 = .ok (.putfield 47, 3) := by decide +kernel
theorem dX12_init_101 : decode mX12_init.cd 101 = .ok (.aload_n 0, 1) := by decide +kernel
theorem dX12_init_102 : decode mX12_init.cd 102 = .ok (.bipush 48, 2) := by decide +kernel
theorem dX12_init_104 : decode mX12_init.cd 104 = .ok (.newarray .int, 2) := by decide +kernel
theorem dX12_init_106 : decode mX12_init.cd 106 = .ok (.putfield 50, 3) := by decide +kernel
theorem dX12_init_109 : decode mX12_init.cd 109 = .ok (.aload_n 0, 1) := by decide +kernel
theorem dX12_init_110 : decode mX12_init.cd 110 = .ok (.bipush 24, 2) := by decide +kernel
theorem dX12_init_112 : decode mX12_init.cd 112 = .ok (.newarray .int, 2) := by decide +kernel
theorem dX12_init_114 : decode mX12_init.cd 114 = .ok (.putfield 53, 3) := by decide +kernel
theorem dX12_init_117 : decode mX12_init.cd 117 = .ok (.aload_n 0, 1) := by decide +kernel
theorem dX12_init_118 : decode mX12_init.cd 118 = .ok (.iconst 3, 1) := by decide +kernel
theorem dX12_init_119 : decode mX12_init.cd 119 = .ok (.newarray .int, 2) := by decide +kernel
theorem dX12_init_121 : decode mX12_init.cd 121 = .ok (.putfield 56, 3) := by decide +kernel
theorem dX12_init_124 : decode mX12_init.cd 124 = .ok (.aload_n 0, 1) := by decide +kernel
theorem dX12_init_125 : decode mX12_init.cd 125 = .ok (.bipush 24, 2) := by decide +kernel
theorem dX12_init_127 : decode mX12_init.cd 127 = .ok (.newarray .int, 2) := by decide +kernel
theorem dX12_init_129 : decode mX12_init.cd 129 = .ok (.putfield 59, 3) := by decide +kernel
theorem dX12_init_132 : decode mX12_init.cd 132 = .ok (.aload_n 0, 1) := by decide +kernel
theorem dX12_init_133 : decode mX12_init.cd 133 = .ok (.bipush 8, 2) := by decide +kernel
theorem dX12_init_135 : decode mX12_init.cd 135 = .ok (.newarray .int, 2) := by decide +kernel
theorem dX12_init_137 : decode mX12_init.cd 137 = .ok (.putfield 62, 3) := by decide +kernel
theorem dX12_init_140 : decode mX12_init.cd 140 = .ok (.aload_n 0, 1) := by decide +kernel
theorem dX12_init_141 : decode mX12_init.cd 141 = .ok (.sipush 3200, 3) := by decide +kernel
theorem dX12_init_144 : decode mX12_init.cd 144 = .ok (.newarray .int, 2) := by decide +kernel
theorem dX12_init_146 : decode mX12_init.cd 146 = .ok (.putfield 65, 3) := by decide +kernel
theorem dX12_init_149 : decode mX12_init.cd 149 = .ok (.aload_n 0, 1) := by decide +kernel
theorem dX12_init_150 : decode mX12_init.cd 150 = .ok (.iconst (-1), 1) := by decide +kernel
theorem dX12_init_151 : decode mX12_init.cd 151 = .ok (.putfield 68, 3) := by decide +kernel
theorem dX12_init_154 : decode mX12_init.cd 154 = .ok (.aload_n 0, 1) := by decide +kernel
theorem dX12_init_155 : decode mX12_init.cd 155 = .ok (.sipush 200, 3) := by decide +kernel
theorem dX12_init_158 : decode mX12_init.cd 158 = .ok (.newarray .int, 2) := by decide +kernel
theorem dX12_init_160 : decode mX12_init.cd 160 = .ok (.putfield 71, 3) := by decide +kernel
theorem dX12_init_163 : decode mX12_init.cd 163 = .ok (.aload_n 0, 1) := by decide +kernel
theorem dX12_init_164 : decode mX12_init.cd 164 = .ok (.sipush 200, 3) := by decide +kernel
theorem dX12_init_167 : decode mX12_init.cd 167 = .ok (.newarray .int, 2) := by decide +kernel
theorem dX12_init_169 : decode mX12_init.cd 169 = .ok (.putfield 74, 3) := by decide +kernel
theorem dX12_init_172 : decode mX12_init.cd 172 = .ok (.aload_n 0, 1) := by decide +kernel
theorem dX12_init_173 : decode mX12_init.cd 173 = .ok (.iconst 3, 1) := by decide +kernel
theorem dX12_init_174 : decode mX12_init.cd 174 = .ok (.newarray .int, 2) := by decide +kernel
theorem dX12_init_176 : decode mX12_init.cd 176 = .ok (.putfield 77, 3) := by decide +kernel
theorem dX12_init_179 : decode mX12_init.cd 179 = .ok (.aload_n 0, 1) := by decide +kernel
theorem dX12_init_180 : decode mX12_init.cd 180 = .ok (.bipush 12, 2) := by decide +kernel
theorem dX12_init_182 : decode mX12_init.cd 182 = .ok (.newarray .int, 2) := by decide +kernel
theorem dX12_init_184 : decode mX12_init.cd 184 = .ok (.putfield 80, 3) := by decide +kernel
theorem dX12_init_187 : decode mX12_init.cd 187 = .ok (.aload_n 0, 1) := by decide +kernel
theorem dX12_init_188 : decode mX12_init.cd 188 = .ok (.sipush 160, 3) := by decide +kernel
theorem dX12_init_191 : decode mX12_init.cd 191 = .ok (.newarray .int, 2) := by decide +kernel
theorem dX12_init_193 : decode mX12_init.cd 193 = .ok (.putfield 83, 3) := by decide +kernel
theorem dX12_init_196 : decode mX12_init.cd 196 = .ok (.aload_n 0, 1) := by decide +kernel
theorem dX12_init_197 : decode mX12_init.cd 197 = .ok (.iconst 3, 1) := by decide +kernel
theorem dX12_init_198 : decode mX12_init.cd 198 = .ok (.newarray .int, 2) := by decide +kernel
theorem dX12_init_200 : decode mX12_init.cd 200 = .ok (.putfield 86, 3) := by decide +kernel
theorem dX12_init_203 : decode mX12_init.cd 203 = .ok (.aload_n 0, 1) := by decide +kernel
theorem dX12_init_204 : decode mX12_init.cd 204 = .ok (.bipush 6, 2) := by decide +kernel
theorem dX12_init_206 : decode mX12_init.cd 206 = .ok (.newarray .int, 2) := by decide +kernel
theorem dX12_init_208 : decode mX12_init.cd 208 = .ok (.putfield 89, 3) := by decide +kernel
theorem dX12_init_211 : decode mX12_init.cd 211 = .ok (.aload_n 0, 1) := by decide +kernel
theorem dX12_init_212 : decode mX12_init.cd 212 = .ok (.bipush 16, 2) := by decide +kernel
theorem dX12_init_214 : decode mX12_init.cd 214 = .ok (.newarray .int, 2) := by decide +kernel
theorem dX12_init_216 : decode mX12_init.cd 216 = .ok (.dup, 1) := by decide +kernel
theorem dX12_init_217 : decode mX12_init.cd 217 = .ok (.iconst 0, 1) := by decide +kernel
theorem dX12_init_218 : decode mX12_init.cd 218 = .ok (.iconst (-1), 1) := by decide +kernel
theorem dX12_init_219 : decode mX12_init.cd 219 = .ok (.iastore, 1) := by decide +kernel
theorem dX12_init_220 : decode mX12_init.cd 220 = .ok (.dup, 1) := by decide +kernel
theorem dX12_init_221 : decode mX12_init.cd 221 = .ok (.iconst 1, 1) := by decide +kernel
theorem dX12_init_222 : decode mX12_init.cd 222 = .ok (.iconst (-1), 1) := by decide +kernel
theorem dX12_init_223 : decode mX12_init.cd 223 = .ok (.iastore, 1) := by decide +kernel
theorem dX12_init_224 : decode mX12_init.cd 224 = .ok (.dup, 1) := by decide +kernel
theorem dX12_init_225 : decode mX12_init.cd 225 = .ok (.iconst 2, 1) := by decide +kernel
theorem dX12_init_226 : decode mX12_init.cd 226 = .ok (.iconst (-1), 1) := by decide +kernel
theorem dX12_init_227 : decode mX12_init.cd 227 = .ok (.iastore, 1) := by decide +kernel
theorem dX12_init_228 : decode mX12_init.cd 228 = .ok (.dup, 1) := by decide +kernel
theorem dX12_init_229 : decode mX12_init.cd 229 = .ok (.iconst 3, 1) := by decide +kernel
theorem dX12_init_230 : decode mX12_init.cd 230 = .ok (.iconst (-1), 1) := by decide +kernel
theorem dX12_init_231 : decode mX12_init.cd 231 = .ok (.iastore, 1) := by decide +kernel
theorem dX12_init_232 : decode mX12_init.cd 232 = .ok (.dup, 1) := by decide +kernel
theorem dX12_init_233 : decode mX12_init.cd 233 = .ok (.iconst 4, 1) := by decide +kernel
theorem dX12_init_234 : decode mX12_init.cd 234 = .ok (.iconst (-1), 1) := by decide +kernel
theorem dX12_init_235 : decode mX12_init.cd 235 = .ok (.iastore, 1) := by decide +kernel
theorem dX12_init_236 : decode mX12_init.cd 236 = .ok (.dup, 1) := by decide +kernel
theorem dX12_init_237 : decode mX12_init.cd 237 = .ok (.iconst 5, 1) := by decide +kernel
theorem dX12_init_238 : decode mX12_init.cd 238 = .ok (.iconst (-1), 1) := by decide +kernel
theorem dX12_init_239 : decode mX12_init.cd 239 = .ok (.iastore, 1) := by decide +kernel
theorem dX12_init_240 : decode mX12_init.cd 240 = .ok (.dup, 1) := by decide +kernel
theorem dX12_init_241 : decode mX12_init.cd 241 = .ok (.bipush 6, 2) := by decide +kernel
theorem dX12_init_243 : decode mX12_init.cd 243 = .ok (.iconst (-1), 1) := by decide +kernel
theorem dX12_init_244 : decode mX12_init.cd 244 = .ok (.iastore, 1) := by decide +kernel
theorem dX12_init_245 : decode mX12_init.cd 245 = .ok (.dup, 1) := by decide +kernel
theorem dX12_init_246 : decode mX12_init.cd 246 = .ok (.bipush 7, 2) := by decide +kernel
theorem dX12_init_248 : decode mX12_init.cd 248 = .ok (.iconst (-1), 1) := by decide +kernel
theorem dX12_init_249 : decode mX12_init.cd 249 = .ok (.iastore, 1) := by decide +kernel
theorem dX12_init_250 : decode mX12_init.cd 250 = .ok (.dup, 1) := by decide +kernel
theorem dX12_init_251 : decode mX12_init.cd 251 = .ok (.bipush 8, 2) := by decide +kernel
theorem dX12_init_253 : decode mX12_init.cd 253 = .ok (.iconst (-1), 1) := by decide +kernel
theorem dX12_init_254 : decode mX12_init.cd 254 = .ok (.iastore, 1) := by decide +kernel
theorem dX12_init_255 : decode mX12_init.cd 255 = .ok (.dup, 1) := by decide +kernel
theorem dX12_init_256 : decode mX12_init.cd 256 = .ok (.bipush 9, 2) := by decide +kernel
theorem dX12_init_258 : decode mX12_init.cd 258 = .ok (.iconst (-1), 1) := by decide +kernel
theorem dX12_init_259 : decode mX12_init.cd 259 = .ok (.iastore, 1) := by decide +kernel
theorem dX12_init_260 : decode mX12_init.cd 260 = .ok (.dup, 1) := by decide +kernel
theorem dX12_init_261 : decode mX12_init.cd 261 = .ok (.bipush 10, 2) := by decide +kernel
theorem dX12_init_263 : decode mX12_init.cd 263 = .ok (.iconst (-1), 1) := by decide +kernel
theorem dX12_init_264 : decode mX12_init.cd 264 = .ok (.iastore, 1) := by decide +kernel
theorem dX12_init_265 : decode mX12_init.cd 265 = .ok (.dup, 1) := by decide +kernel
theorem dX12_init_266 : decode mX12_init.cd 266 = .ok (.bipush 11, 2) := by decide +kernel
theorem dX12_init_268 : decode mX12_init.cd 268 = .ok (.iconst (-1), 1) := by decide +kernel
theorem dX12_init_269 : decode mX12_init.cd 269 = .ok (.iastore, 1) := by decide +kernel
theorem dX12_init_270 : decode mX12_init.cd 270 = .ok (.dup, 1) := by decide +kernel
theorem dX12_init_271 : decode mX12_init.cd 271 = .ok (.bipush 12, 2) := by decide +kernel
theorem dX12_init_273 : decode mX12_init.cd 273 = .ok (.iconst (-1), 1) := by decide +kernel
theorem dX12_init_274 : decode mX12_init.cd 274 = .ok (.iastore, 1) := by decide +kernel
theorem dX12_init_275 : decode mX12_init.cd 275 = .ok (.dup, 1) := by decide +kernel
theorem dX12_init_276 : decode mX12_init.cd 276 = .ok (.bipush 13, 2) := by decide +kernel
theorem dX12_init_278 : decode mX12_init.cd 278 = .ok (.iconst (-1), 1) := by decide +kernel
theorem dX12_init_279 : decode mX12_init.cd 279 = .ok (.iastore, 1) := by decide +kernel
theorem dX12_init_280 : decode mX12_init.cd 280 = .ok (.dup, 1) := by decide +kernel
theorem dX12_init_281 : decode mX12_init.cd 281 = .ok (.bipush 14, 2) := by decide +kernel
theorem dX12_init_283 : decode mX12_init.cd 283 = .ok (.iconst (-1), 1) := by decide +kernel
theorem dX12_init_284 : decode mX12_init.cd 284 = .ok (.iastore, 1) := by decide +kernel
theorem dX12_init_285 : decode mX12_init.cd 285 = .ok (.dup, 1) := by decide +kernel
theorem dX12_init_286 : decode mX12_init.cd 286 = .ok (.bipush 15, 2) := by decide +kernel
theorem dX12_init_288 : decode mX12_init.cd 288 = .ok (.iconst (-1), 1) := by decide +kernel
theorem dX12_init_289 : decode mX12_init.cd 289 = .ok (.iastore, 1) := by decide +kernel
theorem dX12_init_290 : decode mX12_init.cd 290 = .ok (.putfield 92, 3) := by decide +kernel
theorem dX12_init_293 : decode mX12_init.cd 293 = .ok (.aload_n 0, 1) := by decide +kernel
theorem dX12_init_294 : decode mX12_init.cd 294 = .ok (.bipush 60, 2) := by decide +kernel
theorem dX12_init_296 : decode mX12_init.cd 296 = .ok (.newarray .int, 2) := by decide +kernel
theorem dX12_init_298 : decode mX12_init.cd 298 = .ok (.putfield 95, 3) := by decide +kernel
theorem dX12_init_301 : decode mX12_init.cd 301 = .ok (.aload_n 0, 1) := by decide +kernel
theorem dX12_init_302 : decode mX12_init.cd 302 = .ok (.sipush 1351, 3) := by decide +kernel
theorem dX12_init_305 : decode mX12_init.cd 305 = .ok (.newarray .int, 2) := by decide +kernel
theorem dX12_init_307 : decode mX12_init.cd 307 = .ok (.putfield 98, 3) := by decide +kernel
theorem dX12_init_310 : decode mX12_init.cd 310 = .ok (.aload_n 0, 1) := by decide +kernel
theorem dX12_init_311 : decode mX12_init.cd 311 = .ok (.sipush 1351, 3) := by decide +kernel
theorem dX12_init_314 : decode mX12_init.cd 314 = .ok (.newarray .long, 2) := by decide +kernel
theorem dX12_init_316 : decode mX12_init.cd 316 = .ok (.putfield 101, 3) := by decide +kernel
theorem dX12_init_319 : decode mX12_init.cd 319 = .ok (.aload_n 0, 1) := by decide +kernel
theorem dX12_init_320 : decode mX12_init.cd 320 = .ok (.bipush 14, 2) := by decide +kernel
theorem dX12_init_322 : decode mX12_init.cd 322 = .ok (.newarray .int, 2) := by decide +kernel
theorem dX12_init_324 : decode mX12_init.cd 324 = .ok (.putfield 105, 3) := by decide +kernel
theorem dX12_init_327 : decode mX12_init.cd 327 = .ok (.aload_n 0, 1) := by decide +kernel
theorem dX12_init_328 : decode mX12_init.cd 328 = .ok (.bipush 6, 2) := by decide +kernel
theorem dX12_init_330 : decode mX12_init.cd 330 = .ok (.newarray .int, 2) := by decide +kernel
theorem dX12_init_332 : decode mX12_init.cd 332 = .ok (.putfield 108, 3) := by decide +kernel
theorem dX12_init_335 : decode mX12_init.cd 335 = .ok (.aload_n 0, 1) := by decide +kernel
theorem dX12_init_336 : decode mX12_init.cd 336 = .ok (.sipush 961, 3) := by decide +kernel
theorem dX12_init_339 : decode mX12_init.cd 339 = .ok (.newarray .boolean, 2) := by decide +kernel
theorem dX12_init_341 : decode mX12_init.cd 341 = .ok (.putfield 111, 3) := by decide +kernel
theorem dX12_init_344 : decode mX12_init.cd 344 = .ok (.aload_n 0, 1) := by decide +kernel
theorem dX12_init_345 : decode mX12_init.cd 345 = .ok (.sipush 961, 3) := by decide +kernel
theorem dX12_init_348 : decode mX12_init.cd 348 = .ok (.newarray .boolean, 2) := by decide +kernel
theorem dX12_init_350 : decode mX12_init.cd 350 = .ok (.putfield 115, 3) := by decide +kernel
theorem dX12_init_353 : decode mX12_init.cd 353 = .ok (.aload_n 0, 1) := by decide +kernel
theorem dX12_init_354 : decode mX12_init.cd 354 = .ok (.bipush 16, 2) := by decide +kernel
theorem dX12_init_356 : decode mX12_init.cd 356 = .ok (.newarray .int, 2) := by decide +kernel
theorem dX12_init_358 : decode mX12_init.cd 358 = .ok (.putfield 118, 3) := by decide +kernel
theorem dX12_init_361 : decode mX12_init.cd 361 = .ok (.aload_n 0, 1) := by decide +kernel
theorem dX12_init_362 : decode mX12_init.cd 362 = .ok (.sipush 200, 3) := by decide +kernel
theorem dX12_init_365 : decode mX12_init.cd 365 = .ok (.newarray .int, 2) := by decide +kernel
theorem dX12_init_367 : decode mX12_init.cd 367 = .ok (.putfield 121, 3) := by decide +kernel
theorem dX12_init_370 : decode mX12_init.cd 370 = .ok (.aload_n 0, 1) := by decide +kernel
theorem dX12_init_371 : decode mX12_init.cd 371 = .ok (.sipush 200, 3) := by decide +kernel
theorem dX12_init_374 : decode mX12_init.cd 374 = .ok (.newarray .int, 2) := by decide +kernel
theorem dX12_init_376 : decode mX12_init.cd 376 = .ok (.putfield 124, 3) := by decide +kernel
theorem dX12_init_379 : decode mX12_init.cd 379 = .ok (.aload_n 0, 1) := by decide +kernel
theorem dX12_init_380 : decode mX12_init.cd 380 = .ok (.bipush 60, 2) := by decide +kernel
theorem dX12_init_382 : decode mX12_init.cd 382 = .ok (.newarray .int, 2) := by decide +kernel
theorem dX12_init_384 : decode mX12_init.cd 384 = .ok (.putfield 127, 3) := by decide +kernel
theorem dX12_init_387 : decode mX12_init.cd 387 = .ok (.aload_n 0, 1) := by decide +kernel
theorem dX12_init_388 : decode mX12_init.cd 388 = .ok (.bipush 16, 2) := by decide +kernel
theorem dX12_init_390 : decode mX12_init.cd 390 = .ok (.newarray .int, 2) := by decide +kernel
theorem dX12_init_392 : decode mX12_init.cd 392 = .ok (.putfield 130, 3) := by decide +kernel
theorem dX12_init_395 : decode mX12_init.cd 395 = .ok (.aload_n 0, 1) := by decide +kernel
theorem dX12_init_396 : decode mX12_init.cd 396 = .ok (.bipush 6, 2) := by decide +kernel
theorem dX12_init_398 : decode mX12_init.cd 398 = .ok (.newarray .int, 2) := by decide +kernel
theorem dX12_init_400 : decode mX12_init.cd 400 = .ok (.putfield 133, 3) := by decide +kernel
theorem dX12_init_403 : decode mX12_init.cd 403 = .ok (.iconst 0, 1) := by decide +kernel
theorem dX12_init_404 : decode mX12_init.cd 404 = .ok (.istore_n 1, 1) := by decide +kernel
theorem dX12_init_405 : decode mX12_init.cd 405 = .ok (.iload_n 1, 1) := by decide +kernel
theorem dX12_init_406 : decode mX12_init.cd 406 = .ok (.bipush 24, 2) := by decide +kernel
theorem dX12_init_408 : decode mX12_init.cd 408 = .ok (.if_icmp .ge 17, 3) := by decide +kernel
theorem dX12_init_411 : decode mX12_init.cd 411 = .ok (.aload_n 0, 1) := by decide +kernel
theorem dX12_init_412 : decode mX12_init.cd 412 = .ok (.getfield 29, 3) := by decide +kernel
theorem dX12_init_415 : decode mX12_init.cd 415 = .ok (.iload_n 1, 1) := by decide +kernel
theorem dX12_init_416 : decode mX12_init.cd 416 = .ok (.bipush 100, 2) := by decide +kernel
theorem dX12_init_418 : decode mX12_init.cd 418 = .ok (.iastore, 1) := by decide +kernel
theorem dX12_init_419 : decode mX12_init.cd 419 = .ok (.iinc 1 1, 3) := by decide +kernel
theorem dX12_init_422 : decode mX12_init.cd 422 = .ok (.goto (-17), 3) := by decide +kernel
theorem dX12_init_425 : decode mX12_init.cd 425 = .ok (.return_, 1) := by decide +kernel
def hX12_init_98 (h : AH) : AH := fil (up (up (up (up (up (up (up (up (up (up (up (up (up (up (up (up (up (up (up (up (up (up (up (up (up (up (up (up (up (up (up (up (up (up (up (up (up (up (up (up (up (up (up (up (up (up (up (up (up (up (up (up (up (up (up (up (up h 98 5 1) 98 8 1) 98 9 1) 98 10 1) 98 11 1) 98 12 1) 98 13 1) 98 14 1) 98 15 1) 98 18 (-1)) 98 19 1) 98 37 1) 98 38 1) 98 39 1) 98 40 1) 98 41 1) 98 42 1) 98 43 1) 98 44 1) 98 47 (-1)) 98 51 1) 98 52 1) 98 54 1) 98 55 1) 98 56 1) 98 64 1) 98 65 1) 123 0 (-1)) 123 1 (-1)) 123 2 (-1)) 123 3 (-1)) 123 4 (-1)) 123 5 (-1)) 123 6 (-1)) 123 7 (-1)) 123 8 (-1)) 123 9 (-1)) 123 10 (-1)) 123 11 (-1)) 123 12 (-1)) 123 13 (-1)) 123 14 (-1)) 123 15 (-1)) 98 67 1) 98 69 1) 98 70 1) 98 71 1) 98 73 1) 98 74 1) 98 75 1) 98 76 1) 98 77 1) 98 82 1) 98 83 1) 98 84 1) 98 85 1) 98 86 1) 104 100 24
theorem n_X12_init_98 {fr : Nat} {h : AH} (hf : 1 ≤ fr) (fz : frz 98 h) : Sp mX12_init false fr 38 10023 [zR 98] 98 h (rF 136 (fun h9 => h9 = hX12_init_98 h)) := by
  refine Sp.mkF yX12_init_ok rfl rfl ?_
  show Wp _ _ _ _ 0 [zR 98, none] [] 98 _
  refine s_aload_n (x := 98) dX12_init_0 rfl ?_
  refine s_objInit dX12_init_1 we1314 we33 we34 (by decide) (show 1 ≤ fr by omega) (Nat.le_of_ble_eq_true rfl) ?_
  refine s_aload_n (x := 98) dX12_init_4 rfl ?_
  refine s_iconst dX12_init_5 ?_
  refine f_put (c := 98) (kz := 5) rfl dX12_init_6 iX12_7 ⟨by decide, by decide, rfl⟩ (by decide) fz (fun fz => ?_)
  refine s_aload_n (x := 98) dX12_init_9 rfl ?_
  refine s_bipush dX12_init_10 (by decide) ?_
  refine f_newarr (N := 16) (K := 100) dX12_init_12 we175 (Or.inl ⟨rfl, rfl⟩) rfl rfl rfl (by decide) (by decide) fz (fun fz => ?_)
  show Wp _ _ _ (37, 10007) _ _ [zR 99, zR 98] 99 _
  refine f_putF (c := 98) (kz := 8) rfl dX12_init_14 iX12_13 ⟨by decide, by decide, rfl⟩ rfl (by decide) (by decide) (fun T C N e => by rw [tc_X12 e]; rfl) (by decide) fz (fun fz => ?_)
  refine s_aload_n (x := 98) dX12_init_17 rfl ?_
  refine s_bipush dX12_init_18 (by decide) ?_
  refine f_newarr (N := 36) (K := 100) dX12_init_20 we175 (Or.inl ⟨rfl, rfl⟩) rfl rfl rfl (by decide) (by decide) fz (fun fz => ?_)
  show Wp _ _ _ (36, 9971) _ _ [zR 100, zR 98] 100 _
  refine f_putF (c := 98) (kz := 9) rfl dX12_init_22 iX12_17 ⟨by decide, by decide, rfl⟩ rfl (by decide) (by decide) (fun T C N e => by rw [tc_X12 e]; rfl) (by decide) fz (fun fz => ?_)
  refine s_aload_n (x := 98) dX12_init_25 rfl ?_
  refine s_bipush dX12_init_26 (by decide) ?_
  refine f_newarr (N := 48) (K := 100) dX12_init_28 we175 (Or.inl ⟨rfl, rfl⟩) rfl rfl rfl (by decide) (by decide) fz (fun fz => ?_)
  show Wp _ _ _ (35, 9923) _ _ [zR 101, zR 98] 101 _
  refine f_putF (c := 98) (kz := 10) rfl dX12_init_30 iX12_20 ⟨by decide, by decide, rfl⟩ rfl (by decide) (by decide) (fun T C N e => by rw [tc_X12 e]; rfl) (by decide) fz (fun fz => ?_)
  refine s_aload_n (x := 98) dX12_init_33 rfl ?_
  refine s_bipush dX12_init_34 (by decide) ?_
  refine f_newarr (N := 24) (K := 100) dX12_init_36 we175 (Or.inl ⟨rfl, rfl⟩) rfl rfl rfl (by decide) (by decide) fz (fun fz => ?_)
  show Wp _ _ _ (34, 9899) _ _ [zR 102, zR 98] 102 _
  refine f_putF (c := 98) (kz := 11) rfl dX12_init_38 iX12_23 ⟨by decide, by decide, rfl⟩ rfl (by decide) (by decide) (fun T C N e => by rw [tc_X12 e]; rfl) (by decide) fz (fun fz => ?_)
  refine s_aload_n (x := 98) dX12_init_41 rfl ?_
  refine s_iconst dX12_init_42 ?_
  refine f_newarr (N := 3) (K := 100) dX12_init_43 we175 (Or.inl ⟨rfl, rfl⟩) rfl rfl rfl (by decide) (by decide) fz (fun fz => ?_)
  show Wp _ _ _ (33, 9896) _ _ [zR 103, zR 98] 103 _
  refine f_putF (c := 98) (kz := 12) rfl dX12_init_45 iX12_26 ⟨by decide, by decide, rfl⟩ rfl (by decide) (by decide) (fun T C N e => by rw [tc_X12 e]; rfl) (by decide) fz (fun fz => ?_)
  refine s_aload_n (x := 98) dX12_init_48 rfl ?_
  refine s_bipush dX12_init_49 (by decide) ?_
  refine f_newarr (N := 24) (K := 100) dX12_init_51 we175 (Or.inl ⟨rfl, rfl⟩) rfl rfl rfl (by decide) (by decide) fz (fun fz => ?_)
  show Wp _ _ _ (32, 9872) _ _ [zR 104, zR 98] 104 _
  refine f_putF (c := 98) (kz := 13) rfl dX12_init_53 iX12_29 ⟨by decide, by decide, rfl⟩ rfl (by decide) (by decide) (fun T C N e => by rw [tc_X12 e]; rfl) (by decide) fz (fun fz => ?_)
  refine s_aload_n (x := 98) dX12_init_56 rfl ?_
  refine s_bipush dX12_init_57 (by decide) ?_
  refine f_newarr (N := 8) (K := 100) dX12_init_59 we175 (Or.inl ⟨rfl, rfl⟩) rfl rfl rfl (by decide) (by decide) fz (fun fz => ?_)
  show Wp _ _ _ (31, 9864) _ _ [zR 105, zR 98] 105 _
  refine f_putF (c := 98) (kz := 14) rfl dX12_init_61 iX12_32 ⟨by decide, by decide, rfl⟩ rfl (by decide) (by decide) (fun T C N e => by rw [tc_X12 e]; rfl) (by decide) fz (fun fz => ?_)
  refine s_aload_n (x := 98) dX12_init_64 rfl ?_
  refine s_sipush dX12_init_65 (by decide) ?_
  refine f_newarr (N := 700) (K := 100) dX12_init_68 we175 (Or.inl ⟨rfl, rfl⟩) rfl rfl rfl (by decide) (by decide) fz (fun fz => ?_)
  show Wp _ _ _ (30, 9164) _ _ [zR 106, zR 98] 106 _
  refine f_putF (c := 98) (kz := 15) rfl dX12_init_70 iX12_35 ⟨by decide, by decide, rfl⟩ rfl (by decide) (by decide) (fun T C N e => by rw [tc_X12 e]; rfl) (by decide) fz (fun fz => ?_)
  refine s_aload_n (x := 98) dX12_init_73 rfl ?_
  refine s_iconst dX12_init_74 ?_
  refine f_put (c := 98) (kz := 18) rfl dX12_init_75 iX12_38 ⟨by decide, by decide, rfl⟩ (by decide) fz (fun fz => ?_)
  refine s_aload_n (x := 98) dX12_init_78 rfl ?_
  refine s_iconst dX12_init_79 ?_
  refine f_newarr (N := 3) (K := 100) dX12_init_80 we175 (Or.inl ⟨rfl, rfl⟩) rfl rfl rfl (by decide) (by decide) fz (fun fz => ?_)
  show Wp _ _ _ (29, 9161) _ _ [zR 107, zR 98] 107 _
  refine f_putF (c := 98) (kz := 19) rfl dX12_init_82 iX12_41 ⟨by decide, by decide, rfl⟩ rfl (by decide) (by decide) (fun T C N e => by rw [tc_X12 e]; rfl) (by decide) fz (fun fz => ?_)
  refine s_aload_n (x := 98) dX12_init_85 rfl ?_
  refine s_bipush dX12_init_86 (by decide) ?_
  refine f_newarr (N := 16) (K := 100) dX12_init_88 we175 (Or.inl ⟨rfl, rfl⟩) rfl rfl rfl (by decide) (by decide) fz (fun fz => ?_)
  show Wp _ _ _ (28, 9145) _ _ [zR 108, zR 98] 108 _
  refine f_putF (c := 98) (kz := 37) rfl dX12_init_90 iX12_44 ⟨by decide, by decide, rfl⟩ rfl (by decide) (by decide) (fun T C N e => by rw [tc_X12 e]; rfl) (by decide) fz (fun fz => ?_)
  refine s_aload_n (x := 98) dX12_init_93 rfl ?_
  refine s_bipush dX12_init_94 (by decide) ?_
  refine f_newarr (N := 36) (K := 100) dX12_init_96 we175 (Or.inl ⟨rfl, rfl⟩) rfl rfl rfl (by decide) (by decide) fz (fun fz => ?_)
  show Wp _ _ _ (27, 9109) _ _ [zR 109, zR 98] 109 _
  refine f_putF (c := 98) (kz := 38) rfl dX12_init_98 iX12_47 ⟨by decide, by decide, rfl⟩ rfl (by decide) (by decide) (fun T C N e => by rw [tc_X12 e]; rfl) (by decide) fz (fun fz => ?_)
  refine s_aload_n (x := 98) dX12_init_101 rfl ?_
  refine s_bipush dX12_init_102 (by decide) ?_
  refine f_newarr (N := 48) (K := 100) dX12_init_104 we175 (Or.inl ⟨rfl, rfl⟩) rfl rfl rfl (by decide) (by decide) fz (fun fz => ?_)
  show Wp _ _ _ (26, 9061) _ _ [zR 110, zR 98] 110 _
  refine f_putF (c := 98) (kz := 39) rfl dX12_init_106 iX12_50 ⟨by decide, by decide, rfl⟩ rfl (by decide) (by decide) (fun T C N e => by rw [tc_X12 e]; rfl) (by decide) fz (fun fz => ?_)
  refine s_aload_n (x := 98) dX12_init_109 rfl ?_
  refine s_bipush dX12_init_110 (by decide) ?_
  refine f_newarr (N := 24) (K := 100) dX12_init_112 we175 (Or.inl ⟨rfl, rfl⟩) rfl rfl rfl (by decide) (by decide) fz (fun fz => ?_)
  show Wp _ _ _ (25, 9037) _ _ [zR 111, zR 98] 111 _
  refine f_putF (c := 98) (kz := 40) rfl dX12_init_114 iX12_53 ⟨by decide, by decide, rfl⟩ rfl (by decide) (by decide) (fun T C N e => by rw [tc_X12 e]; rfl) (by decide) fz (fun fz => ?_)
  refine s_aload_n (x := 98) dX12_init_117 rfl ?_
  refine s_iconst dX12_init_118 ?_
  refine f_newarr (N := 3) (K := 100) dX12_init_119 we175 (Or.inl ⟨rfl, rfl⟩) rfl rfl rfl (by decide) (by decide) fz (fun fz => ?_)
  show Wp _ _ _ (24, 9034) _ _ [zR 112, zR 98] 112 _
  refine f_putF (c := 98) (kz := 41) rfl dX12_init_121 iX12_56 ⟨by decide, by decide, rfl⟩ rfl (by decide) (by decide) (fun T C N e => by rw [tc_X12 e]; rfl) (by decide) fz (fun fz => ?_)
  refine s_aload_n (x := 98) dX12_init_124 rfl ?_
  refine s_bipush dX12_init_125 (by decide) ?_
  refine f_newarr (N := 24) (K := 100) dX12_init_127 we175 (Or.inl ⟨rfl, rfl⟩) rfl rfl rfl (by decide) (by decide) fz (fun fz => ?_)
  show Wp _ _ _ (23, 9010) _ _ [zR 113, zR 98] 113 _
  refine f_putF (c := 98) (kz := 42) rfl dX12_init_129 iX12_59 ⟨by decide, by decide, rfl⟩ rfl (by decide) (by decide) (fun T C N e => by rw [tc_X12 e]; rfl) (by decide) fz (fun fz => ?_)
  refine s_aload_n (x := 98) dX12_init_132 rfl ?_
  refine s_bipush dX12_init_133 (by decide) ?_
  refine f_newarr (N := 8) (K := 100) dX12_init_135 we175 (Or.inl ⟨rfl, rfl⟩) rfl rfl rfl (by decide) (by decide) fz (fun fz => ?_)
  show Wp _ _ _ (22, 9002) _ _ [zR 114, zR 98] 114 _
  refine f_putF (c := 98) (kz := 43) rfl dX12_init_137 iX12_62 ⟨by decide, by decide, rfl⟩ rfl (by decide) (by decide) (fun T C N e => by rw [tc_X12 e]; rfl) (by decide) fz (fun fz => ?_)
  refine s_aload_n (x := 98) dX12_init_140 rfl ?_
  refine s_sipush dX12_init_141 (by decide) ?_
  refine f_newarr (N := 3200) (K := 100) dX12_init_144 we175 (Or.inl ⟨rfl, rfl⟩) rfl rfl rfl (by decide) (by decide) fz (fun fz => ?_)
  show Wp _ _ _ (21, 5802) _ _ [zR 115, zR 98] 115 _
  refine f_putF (c := 98) (kz := 44) rfl dX12_init_146 iX12_65 ⟨by decide, by decide, rfl⟩ rfl (by decide) (by decide) (fun T C N e => by rw [tc_X12 e]; rfl) (by decide) fz (fun fz => ?_)
  refine s_aload_n (x := 98) dX12_init_149 rfl ?_
  refine s_iconst dX12_init_150 ?_
  refine f_put (c := 98) (kz := 47) rfl dX12_init_151 iX12_68 ⟨by decide, by decide, rfl⟩ (by decide) fz (fun fz => ?_)
  refine s_aload_n (x := 98) dX12_init_154 rfl ?_
  refine s_sipush dX12_init_155 (by decide) ?_
  refine f_newarr (N := 200) (K := 100) dX12_init_158 we175 (Or.inl ⟨rfl, rfl⟩) rfl rfl rfl (by decide) (by decide) fz (fun fz => ?_)
  show Wp _ _ _ (20, 5602) _ _ [zR 116, zR 98] 116 _
  refine f_putF (c := 98) (kz := 51) rfl dX12_init_160 iX12_71 ⟨by decide, by decide, rfl⟩ rfl (by decide) (by decide) (fun T C N e => by rw [tc_X12 e]; rfl) (by decide) fz (fun fz => ?_)
  refine s_aload_n (x := 98) dX12_init_163 rfl ?_
  refine s_sipush dX12_init_164 (by decide) ?_
  refine f_newarr (N := 200) (K := 100) dX12_init_167 we175 (Or.inl ⟨rfl, rfl⟩) rfl rfl rfl (by decide) (by decide) fz (fun fz => ?_)
  show Wp _ _ _ (19, 5402) _ _ [zR 117, zR 98] 117 _
  refine f_putF (c := 98) (kz := 52) rfl dX12_init_169 iX12_74 ⟨by decide, by decide, rfl⟩ rfl (by decide) (by decide) (fun T C N e => by rw [tc_X12 e]; rfl) (by decide) fz (fun fz => ?_)
  refine s_aload_n (x := 98) dX12_init_172 rfl ?_
  refine s_iconst dX12_init_173 ?_
  refine f_newarr (N := 3) (K := 100) dX12_init_174 we175 (Or.inl ⟨rfl, rfl⟩) rfl rfl rfl (by decide) (by decide) fz (fun fz => ?_)
  show Wp _ _ _ (18, 5399) _ _ [zR 118, zR 98] 118 _
  refine f_putF (c := 98) (kz := 54) rfl dX12_init_176 iX12_77 ⟨by decide, by decide, rfl⟩ rfl (by decide) (by decide) (fun T C N e => by rw [tc_X12 e]; rfl) (by decide) fz (fun fz => ?_)
  refine s_aload_n (x := 98) dX12_init_179 rfl ?_
  refine s_bipush dX12_init_180 (by decide) ?_
  refine f_newarr (N := 12) (K := 100) dX12_init_182 we175 (Or.inl ⟨rfl, rfl⟩) rfl rfl rfl (by decide) (by decide) fz (fun fz => ?_)
  show Wp _ _ _ (17, 5387) _ _ [zR 119, zR 98] 119 _
  refine f_putF (c := 98) (kz := 55) rfl dX12_init_184 iX12_80 ⟨by decide, by decide, rfl⟩ rfl (by decide) (by decide) (fun T C N e => by rw [tc_X12 e]; rfl) (by decide) fz (fun fz => ?_)
  refine s_aload_n (x := 98) dX12_init_187 rfl ?_
  refine s_sipush dX12_init_188 (by decide) ?_
  refine f_newarr (N := 160) (K := 100) dX12_init_191 we175 (Or.inl ⟨rfl, rfl⟩) rfl rfl rfl (by decide) (by decide) fz (fun fz => ?_)
  show Wp _ _ _ (16, 5227) _ _ [zR 120, zR 98] 120 _
  refine f_putF (c := 98) (kz := 56) rfl dX12_init_193 iX12_83 ⟨by decide, by decide, rfl⟩ rfl (by decide) (by decide) (fun T C N e => by rw [tc_X12 e]; rfl) (by decide) fz (fun fz => ?_)
  refine s_aload_n (x := 98) dX12_init_196 rfl ?_
  refine s_iconst dX12_init_197 ?_
  refine f_newarr (N := 3) (K := 100) dX12_init_198 we175 (Or.inl ⟨rfl, rfl⟩) rfl rfl rfl (by decide) (by decide) fz (fun fz => ?_)
  show Wp _ _ _ (15, 5224) _ _ [zR 121, zR 98] 121 _
  refine f_putF (c := 98) (kz := 64) rfl dX12_init_200 iX12_86 ⟨by decide, by decide, rfl⟩ rfl (by decide) (by decide) (fun T C N e => by rw [tc_X12 e]; rfl) (by decide) fz (fun fz => ?_)
  refine s_aload_n (x := 98) dX12_init_203 rfl ?_
  refine s_bipush dX12_init_204 (by decide) ?_
  refine f_newarr (N := 6) (K := 100) dX12_init_206 we175 (Or.inl ⟨rfl, rfl⟩) rfl rfl rfl (by decide) (by decide) fz (fun fz => ?_)
  show Wp _ _ _ (14, 5218) _ _ [zR 122, zR 98] 122 _
  refine f_putF (c := 98) (kz := 65) rfl dX12_init_208 iX12_89 ⟨by decide, by decide, rfl⟩ rfl (by decide) (by decide) (fun T C N e => by rw [tc_X12 e]; rfl) (by decide) fz (fun fz => ?_)
  refine s_aload_n (x := 98) dX12_init_211 rfl ?_
  refine s_bipush dX12_init_212 (by decide) ?_
  refine f_newarr (N := 16) (K := 100) dX12_init_214 we175 (Or.inl ⟨rfl, rfl⟩) rfl rfl rfl (by decide) (by decide) fz (fun fz => ?_)
  show Wp _ _ _ (13, 5202) _ _ [zR 123, zR 98] 123 _
  refine s_dup dX12_init_216 rfl ?_
  refine s_iconst dX12_init_217 ?_
  refine s_iconst dX12_init_218 ?_
  refine f_iast (c := 123) (i := 0) dX12_init_219 ⟨by decide, by decide, rfl⟩ (by decide) (by decide) (by decide) fz (fun fz => ?_)
  refine s_dup dX12_init_220 rfl ?_
  refine s_iconst dX12_init_221 ?_
  refine s_iconst dX12_init_222 ?_
  refine f_iast (c := 123) (i := 1) dX12_init_223 ⟨by decide, by decide, rfl⟩ (by decide) (by decide) (by decide) fz (fun fz => ?_)
  refine s_dup dX12_init_224 rfl ?_
  refine s_iconst dX12_init_225 ?_
  refine s_iconst dX12_init_226 ?_
  refine f_iast (c := 123) (i := 2) dX12_init_227 ⟨by decide, by decide, rfl⟩ (by decide) (by decide) (by decide) fz (fun fz => ?_)
  refine s_dup dX12_init_228 rfl ?_
  refine s_iconst dX12_init_229 ?_
  refine s_iconst dX12_init_230 ?_
  refine f_iast (c := 123) (i := 3) dX12_init_231 ⟨by decide, by decide, rfl⟩ (by decide) (by decide) (by decide) fz (fun fz => ?_)
  refine s_dup dX12_init_232 rfl ?_
  refine s_iconst dX12_init_233 ?_
  refine s_iconst dX12_init_234 ?_
  refine f_iast (c := 123) (i := 4) dX12_init_235 ⟨by decide, by decide, rfl⟩ (by decide) (by decide) (by decide) fz (fun fz => ?_)
  refine s_dup dX12_init_236 rfl ?_
  refine s_iconst dX12_init_237 ?_
  refine s_iconst dX12_init_238 ?_
  refine f_iast (c := 123) (i := 5) dX12_init_239 ⟨by decide, by decide, rfl⟩ (by decide) (by decide) (by decide) fz (fun fz => ?_)
  refine s_dup dX12_init_240 rfl ?_
  refine s_bipush dX12_init_241 (by decide) ?_
  refine s_iconst dX12_init_243 ?_
  refine f_iast (c := 123) (i := 6) dX12_init_244 ⟨by decide, by decide, rfl⟩ (by decide) (by decide) (by decide) fz (fun fz => ?_)
  refine s_dup dX12_init_245 rfl ?_
  refine s_bipush dX12_init_246 (by decide) ?_
  refine s_iconst dX12_init_248 ?_
  refine f_iast (c := 123) (i := 7) dX12_init_249 ⟨by decide, by decide, rfl⟩ (by decide) (by decide) (by decide) fz (fun fz => ?_)
  refine s_dup dX12_init_250 rfl ?_
  refine s_bipush dX12_init_251 (by decide) ?_
  refine s_iconst dX12_init_253 ?_
  refine f_iast (c := 123) (i := 8) dX12_init_254 ⟨by decide, by decide, rfl⟩ (by decide) (by decide) (by decide) fz (fun fz => ?_)
  refine s_dup dX12_init_255 rfl ?_
  refine s_bipush dX12_init_256 (by decide) ?_
  refine s_iconst dX12_init_258 ?_
  refine f_iast (c := 123) (i := 9) dX12_init_259 ⟨by decide, by decide, rfl⟩ (by decide) (by decide) (by decide) fz (fun fz => ?_)
  refine s_dup dX12_init_260 rfl ?_
  refine s_bipush dX12_init_261 (by decide) ?_
  refine s_iconst dX12_init_263 ?_
  refine f_iast (c := 123) (i := 10) dX12_init_264 ⟨by decide, by decide, rfl⟩ (by decide) (by decide) (by decide) fz (fun fz => ?_)
  refine s_dup dX12_init_265 rfl ?_
  refine s_bipush dX12_init_266 (by decide) ?_
  refine s_iconst dX12_init_268 ?_
  refine f_iast (c := 123) (i := 11) dX12_init_269 ⟨by decide, by decide, rfl⟩ (by decide) (by decide) (by decide) fz (fun fz => ?_)
  refine s_dup dX12_init_270 rfl ?_
  refine s_bipush dX12_init_271 (by decide) ?_
  refine s_iconst dX12_init_273 ?_
  refine f_iast (c := 123) (i := 12) dX12_init_274 ⟨by decide, by decide, rfl⟩ (by decide) (by decide) (by decide) fz (fun fz => ?_)
  refine s_dup dX12_init_275 rfl ?_
  refine s_bipush dX12_init_276 (by decide) ?_
  refine s_iconst dX12_init_278 ?_
  refine f_iast (c := 123) (i := 13) dX12_init_279 ⟨by decide, by decide, rfl⟩ (by decide) (by decide) (by decide) fz (fun fz => ?_)
  refine s_dup dX12_init_280 rfl ?_
  refine s_bipush dX12_init_281 (by decide) ?_
  refine s_iconst dX12_init_283 ?_
  refine f_iast (c := 123) (i := 14) dX12_init_284 ⟨by decide, by decide, rfl⟩ (by decide) (by decide) (by decide) fz (fun fz => ?_)
  refine s_dup dX12_init_285 rfl ?_
  refine s_bipush dX12_init_286 (by decide) ?_
  refine s_iconst dX12_init_288 ?_
  refine f_iast (c := 123) (i := 15) dX12_init_289 ⟨by decide, by decide, rfl⟩ (by decide) (by decide) (by decide) fz (fun fz => ?_)
  refine f_putF (c := 98) (kz := 67) rfl dX12_init_290 iX12_92 ⟨by decide, by decide, rfl⟩ rfl (by decide) (by decide) (fun T C N e => by rw [tc_X12 e]; rfl) (by decide) fz (fun fz => ?_)
  refine s_aload_n (x := 98) dX12_init_293 rfl ?_
  refine s_bipush dX12_init_294 (by decide) ?_
  refine f_newarr (N := 60) (K := 100) dX12_init_296 we175 (Or.inl ⟨rfl, rfl⟩) rfl rfl rfl (by decide) (by decide) fz (fun fz => ?_)
  show Wp _ _ _ (12, 5142) _ _ [zR 124, zR 98] 124 _
  refine f_putF (c := 98) (kz := 69) rfl dX12_init_298 iX12_95 ⟨by decide, by decide, rfl⟩ rfl (by decide) (by decide) (fun T C N e => by rw [tc_X12 e]; rfl) (by decide) fz (fun fz => ?_)
  refine s_aload_n (x := 98) dX12_init_301 rfl ?_
  refine s_sipush dX12_init_302 (by decide) ?_
  refine f_newarr (N := 1351) (K := 100) dX12_init_305 we175 (Or.inl ⟨rfl, rfl⟩) rfl rfl rfl (by decide) (by decide) fz (fun fz => ?_)
  show Wp _ _ _ (11, 3791) _ _ [zR 125, zR 98] 125 _
  refine f_putF (c := 98) (kz := 70) rfl dX12_init_307 iX12_98 ⟨by decide, by decide, rfl⟩ rfl (by decide) (by decide) (fun T C N e => by rw [tc_X12 e]; rfl) (by decide) fz (fun fz => ?_)
  refine s_aload_n (x := 98) dX12_init_310 rfl ?_
  refine s_sipush dX12_init_311 (by decide) ?_
  refine f_newarr (N := 1351) (K := 103) dX12_init_314 we1577 (Or.inr (Or.inr (Or.inr ⟨rfl, rfl⟩))) rfl rfl rfl (by decide) (by decide) fz (fun fz => ?_)
  show Wp _ _ _ (10, 2440) _ _ [zR 126, zR 98] 126 _
  refine f_putF (c := 98) (kz := 71) rfl dX12_init_316 iX12_101 ⟨by decide, by decide, rfl⟩ rfl (by decide) (by decide) (fun T C N e => by rw [tc_X12 e]; rfl) (by decide) fz (fun fz => ?_)
  refine s_aload_n (x := 98) dX12_init_319 rfl ?_
  refine s_bipush dX12_init_320 (by decide) ?_
  refine f_newarr (N := 14) (K := 100) dX12_init_322 we175 (Or.inl ⟨rfl, rfl⟩) rfl rfl rfl (by decide) (by decide) fz (fun fz => ?_)
  show Wp _ _ _ (9, 2426) _ _ [zR 127, zR 98] 127 _
  refine f_putF (c := 98) (kz := 73) rfl dX12_init_324 iX12_105 ⟨by decide, by decide, rfl⟩ rfl (by decide) (by decide) (fun T C N e => by rw [tc_X12 e]; rfl) (by decide) fz (fun fz => ?_)
  refine s_aload_n (x := 98) dX12_init_327 rfl ?_
  refine s_bipush dX12_init_328 (by decide) ?_
  refine f_newarr (N := 6) (K := 100) dX12_init_330 we175 (Or.inl ⟨rfl, rfl⟩) rfl rfl rfl (by decide) (by decide) fz (fun fz => ?_)
  show Wp _ _ _ (8, 2420) _ _ [zR 128, zR 98] 128 _
  refine f_putF (c := 98) (kz := 74) rfl dX12_init_332 iX12_108 ⟨by decide, by decide, rfl⟩ rfl (by decide) (by decide) (fun T C N e => by rw [tc_X12 e]; rfl) (by decide) fz (fun fz => ?_)
  refine s_aload_n (x := 98) dX12_init_335 rfl ?_
  refine s_sipush dX12_init_336 (by decide) ?_
  refine f_newarr (N := 961) (K := 102) dX12_init_339 we1578 (Or.inr (Or.inr (Or.inl ⟨rfl, rfl⟩))) rfl rfl rfl (by decide) (by decide) fz (fun fz => ?_)
  show Wp _ _ _ (7, 1459) _ _ [zR 129, zR 98] 129 _
  refine f_putF (c := 98) (kz := 75) rfl dX12_init_341 iX12_111 ⟨by decide, by decide, rfl⟩ rfl (by decide) (by decide) (fun T C N e => by rw [tc_X12 e]; rfl) (by decide) fz (fun fz => ?_)
  refine s_aload_n (x := 98) dX12_init_344 rfl ?_
  refine s_sipush dX12_init_345 (by decide) ?_
  refine f_newarr (N := 961) (K := 102) dX12_init_348 we1578 (Or.inr (Or.inr (Or.inl ⟨rfl, rfl⟩))) rfl rfl rfl (by decide) (by decide) fz (fun fz => ?_)
  show Wp _ _ _ (6, 498) _ _ [zR 130, zR 98] 130 _
  refine f_putF (c := 98) (kz := 76) rfl dX12_init_350 iX12_115 ⟨by decide, by decide, rfl⟩ rfl (by decide) (by decide) (fun T C N e => by rw [tc_X12 e]; rfl) (by decide) fz (fun fz => ?_)
  refine s_aload_n (x := 98) dX12_init_353 rfl ?_
  refine s_bipush dX12_init_354 (by decide) ?_
  refine f_newarr (N := 16) (K := 100) dX12_init_356 we175 (Or.inl ⟨rfl, rfl⟩) rfl rfl rfl (by decide) (by decide) fz (fun fz => ?_)
  show Wp _ _ _ (5, 482) _ _ [zR 131, zR 98] 131 _
  refine f_putF (c := 98) (kz := 77) rfl dX12_init_358 iX12_118 ⟨by decide, by decide, rfl⟩ rfl (by decide) (by decide) (fun T C N e => by rw [tc_X12 e]; rfl) (by decide) fz (fun fz => ?_)
  refine s_aload_n (x := 98) dX12_init_361 rfl ?_
  refine s_sipush dX12_init_362 (by decide) ?_
  refine f_newarr (N := 200) (K := 100) dX12_init_365 we175 (Or.inl ⟨rfl, rfl⟩) rfl rfl rfl (by decide) (by decide) fz (fun fz => ?_)
  show Wp _ _ _ (4, 282) _ _ [zR 132, zR 98] 132 _
  refine f_putF (c := 98) (kz := 82) rfl dX12_init_367 iX12_121 ⟨by decide, by decide, rfl⟩ rfl (by decide) (by decide) (fun T C N e => by rw [tc_X12 e]; rfl) (by decide) fz (fun fz => ?_)
  refine s_aload_n (x := 98) dX12_init_370 rfl ?_
  refine s_sipush dX12_init_371 (by decide) ?_
  refine f_newarr (N := 200) (K := 100) dX12_init_374 we175 (Or.inl ⟨rfl, rfl⟩) rfl rfl rfl (by decide) (by decide) fz (fun fz => ?_)
  show Wp _ _ _ (3, 82) _ _ [zR 133, zR 98] 133 _
  refine f_putF (c := 98) (kz := 83) rfl dX12_init_376 iX12_124 ⟨by decide, by decide, rfl⟩ rfl (by decide) (by decide) (fun T C N e => by rw [tc_X12 e]; rfl) (by decide) fz (fun fz => ?_)
  refine s_aload_n (x := 98) dX12_init_379 rfl ?_
  refine s_bipush dX12_init_380 (by decide) ?_
  refine f_newarr (N := 60) (K := 100) dX12_init_382 we175 (Or.inl ⟨rfl, rfl⟩) rfl rfl rfl (by decide) (by decide) fz (fun fz => ?_)
  show Wp _ _ _ (2, 22) _ _ [zR 134, zR 98] 134 _
  refine f_putF (c := 98) (kz := 84) rfl dX12_init_384 iX12_127 ⟨by decide, by decide, rfl⟩ rfl (by decide) (by decide) (fun T C N e => by rw [tc_X12 e]; rfl) (by decide) fz (fun fz => ?_)
  refine s_aload_n (x := 98) dX12_init_387 rfl ?_
  refine s_bipush dX12_init_388 (by decide) ?_
  refine f_newarr (N := 16) (K := 100) dX12_init_390 we175 (Or.inl ⟨rfl, rfl⟩) rfl rfl rfl (by decide) (by decide) fz (fun fz => ?_)
  show Wp _ _ _ (1, 6) _ _ [zR 135, zR 98] 135 _
  refine f_putF (c := 98) (kz := 85) rfl dX12_init_392 iX12_130 ⟨by decide, by decide, rfl⟩ rfl (by decide) (by decide) (fun T C N e => by rw [tc_X12 e]; rfl) (by decide) fz (fun fz => ?_)
  refine s_aload_n (x := 98) dX12_init_395 rfl ?_
  refine s_bipush dX12_init_396 (by decide) ?_
  refine f_newarr (N := 6) (K := 100) dX12_init_398 we175 (Or.inl ⟨rfl, rfl⟩) rfl rfl rfl (by decide) (by decide) fz (fun fz => ?_)
  show Wp _ _ _ (0, 0) _ _ [zR 136, zR 98] 136 _
  refine f_putF (c := 98) (kz := 86) rfl dX12_init_400 iX12_133 ⟨by decide, by decide, rfl⟩ rfl (by decide) (by decide) (fun T C N e => by rw [tc_X12 e]; rfl) (by decide) fz (fun fz => ?_)
  have nz0 : (up (up (up (up (up (up (up (up (up (up (up (up (up (up (up (up (up (up (up (up (up (up (up (up (up (up (up (up (up (up (up (up (up (up (up (up (up (up (up (up (up (up (up (up (up (up (up (up (up (up (up (up (up (up (up (up (up h 98 5 1) 98 8 1) 98 9 1) 98 10 1) 98 11 1) 98 12 1) 98 13 1) 98 14 1) 98 15 1) 98 18 (-1)) 98 19 1) 98 37 1) 98 38 1) 98 39 1) 98 40 1) 98 41 1) 98 42 1) 98 43 1) 98 44 1) 98 47 (-1)) 98 51 1) 98 52 1) 98 54 1) 98 55 1) 98 56 1) 98 64 1) 98 65 1) 123 0 (-1)) 123 1 (-1)) 123 2 (-1)) 123 3 (-1)) 123 4 (-1)) 123 5 (-1)) 123 6 (-1)) 123 7 (-1)) 123 8 (-1)) 123 9 (-1)) 123 10 (-1)) 123 11 (-1)) 123 12 (-1)) 123 13 (-1)) 123 14 (-1)) 123 15 (-1)) 98 67 1) 98 69 1) 98 70 1) 98 71 1) 98 73 1) 98 74 1) 98 75 1) 98 76 1) 98 77 1) 98 82 1) 98 83 1) 98 84 1) 98 85 1) 98 86 1) 98 13 ≠ 0 := (show (up (up (up (up (up (up (up (up (up (up (up (up (up (up (up (up (up (up (up (up (up (up (up (up (up (up (up (up (up (up (up (up (up (up (up (up (up (up (up (up (up (up (up (up (up (up (up (up (up (up (up (up (up (up (up (up (up h 98 5 1) 98 8 1) 98 9 1) 98 10 1) 98 11 1) 98 12 1) 98 13 1) 98 14 1) 98 15 1) 98 18 (-1)) 98 19 1) 98 37 1) 98 38 1) 98 39 1) 98 40 1) 98 41 1) 98 42 1) 98 43 1) 98 44 1) 98 47 (-1)) 98 51 1) 98 52 1) 98 54 1) 98 55 1) 98 56 1) 98 64 1) 98 65 1) 123 0 (-1)) 123 1 (-1)) 123 2 (-1)) 123 3 (-1)) 123 4 (-1)) 123 5 (-1)) 123 6 (-1)) 123 7 (-1)) 123 8 (-1)) 123 9 (-1)) 123 10 (-1)) 123 11 (-1)) 123 12 (-1)) 123 13 (-1)) 123 14 (-1)) 123 15 (-1)) 98 67 1) 98 69 1) 98 70 1) 98 71 1) 98 73 1) 98 74 1) 98 75 1) 98 76 1) 98 77 1) 98 82 1) 98 83 1) 98 84 1) 98 85 1) 98 86 1) 98 13 ≠ 0 by rw [up_cn (by decide), up_cn (by decide), up_cn (by decide), up_cn (by decide), up_cn (by decide), up_cn (by decide), up_cn (by decide), up_cn (by decide), up_cn (by decide), up_cn (by decide), up_cn (by decide), up_cn (by decide), up_cn (by decide), up_cn (by decide), up_n (by decide), up_n (by decide), up_n (by decide), up_n (by decide), up_n (by decide), up_n (by decide), up_n (by decide), up_n (by decide), up_n (by decide), up_n (by decide), up_n (by decide), up_n (by decide), up_n (by decide), up_n (by decide), up_n (by decide), up_n (by decide), up_cn (by decide), up_cn (by decide), up_cn (by decide), up_cn (by decide), up_cn (by decide), up_cn (by decide), up_cn (by decide), up_cn (by decide), up_cn (by decide), up_cn (by decide), up_cn (by decide), up_cn (by decide), up_cn (by decide), up_cn (by decide), up_cn (by decide), up_cn (by decide), up_cn (by decide), up_cn (by decide), up_cn (by decide), up_cn (by decide), up_ci]; decide)
  have ed : hX12_init_98 h = fil (up (up (up (up (up (up (up (up (up (up (up (up (up (up (up (up (up (up (up (up (up (up (up (up (up (up (up (up (up (up (up (up (up (up (up (up (up (up (up (up (up (up (up (up (up (up (up (up (up (up (up (up (up (up (up (up (up h 98 5 1) 98 8 1) 98 9 1) 98 10 1) 98 11 1) 98 12 1) 98 13 1) 98 14 1) 98 15 1) 98 18 (-1)) 98 19 1) 98 37 1) 98 38 1) 98 39 1) 98 40 1) 98 41 1) 98 42 1) 98 43 1) 98 44 1) 98 47 (-1)) 98 51 1) 98 52 1) 98 54 1) 98 55 1) 98 56 1) 98 64 1) 98 65 1) 123 0 (-1)) 123 1 (-1)) 123 2 (-1)) 123 3 (-1)) 123 4 (-1)) 123 5 (-1)) 123 6 (-1)) 123 7 (-1)) 123 8 (-1)) 123 9 (-1)) 123 10 (-1)) 123 11 (-1)) 123 12 (-1)) 123 13 (-1)) 123 14 (-1)) 123 15 (-1)) 98 67 1) 98 69 1) 98 70 1) 98 71 1) 98 73 1) 98 74 1) 98 75 1) 98 76 1) 98 77 1) 98 82 1) 98 83 1) 98 84 1) 98 85 1) 98 86 1) 104 100 24 := rfl
  generalize (up (up (up (up (up (up (up (up (up (up (up (up (up (up (up (up (up (up (up (up (up (up (up (up (up (up (up (up (up (up (up (up (up (up (up (up (up (up (up (up (up (up (up (up (up (up (up (up (up (up (up (up (up (up (up (up (up h 98 5 1) 98 8 1) 98 9 1) 98 10 1) 98 11 1) 98 12 1) 98 13 1) 98 14 1) 98 15 1) 98 18 (-1)) 98 19 1) 98 37 1) 98 38 1) 98 39 1) 98 40 1) 98 41 1) 98 42 1) 98 43 1) 98 44 1) 98 47 (-1)) 98 51 1) 98 52 1) 98 54 1) 98 55 1) 98 56 1) 98 64 1) 98 65 1) 123 0 (-1)) 123 1 (-1)) 123 2 (-1)) 123 3 (-1)) 123 4 (-1)) 123 5 (-1)) 123 6 (-1)) 123 7 (-1)) 123 8 (-1)) 123 9 (-1)) 123 10 (-1)) 123 11 (-1)) 123 12 (-1)) 123 13 (-1)) 123 14 (-1)) 123 15 (-1)) 98 67 1) 98 69 1) 98 70 1) 98 71 1) 98 73 1) 98 74 1) 98 75 1) 98 76 1) 98 77 1) 98 82 1) 98 83 1) 98 84 1) 98 85 1) 98 86 1) = h0 at fz nz0 ed ⊢
  show Wp _ _ _ (0, 0) 403 [zR 98, none] [] 136 _
  refine s_iconst dX12_init_403 ?_
  refine s_istore_n dX12_init_404 rfl (by decide) ?_
  generalize hQ : rF 136 (fun h9 => h9 = hX12_init_98 h) = Q
  suffices HY : ∀ (d i : Nat) (x1 : AV), i + d = 24 → Wp mX12_init (kF fr 38 10023) Q (0, 0) 405 [zR 98, zI i] [] 136 (fil h0 104 100 i) by
    have := HY 24 0 none (by decide)
    rw [fil_0] at this
    exact this
  intro d
  induction d with
  | zero =>
    intro i x1 hi
    refine s_iload_n (x := i) dX12_init_405 rfl ?_
    refine s_bipush dX12_init_406 (by decide) ?_
    refine s_icmp_ge (tgt := 425) dX12_init_408 (by decide) ⟨by omega, by omega⟩ ⟨by decide, by decide⟩ (fun q => ?_) (fun q => by omega)
    refine s_return dX12_init_425 rfl ?_ (fun _ => rfl)
    rw [← hQ]
    refine ⟨rfl, rfl, frz_fil fz (by decide), ?_⟩
    rw [ed, show i = 24 by omega]
  | succ d ih =>
    intro i x1 hi
    refine s_iload_n (x := i) dX12_init_405 rfl ?_
    refine s_bipush dX12_init_406 (by decide) ?_
    refine s_icmp_ge (tgt := 425) dX12_init_408 (by decide) ⟨by omega, by omega⟩ ⟨by decide, by decide⟩ (fun q => by omega) (fun q => ?_)
    refine s_aload_n (x := 98) dX12_init_411 rfl ?_
    refine s_getFd (c := 98) (d := 104) dX12_init_412 iX12_29 ⟨by decide, by decide, rfl⟩ (Or.inr (by rw [fil_nn (by decide)]; exact nz0)) (by decide) (by decide) ?_
    refine s_iload_n (x := i) dX12_init_415 rfl ?_
    refine s_bipush dX12_init_416 (by decide) ?_
    refine s_iast (N := 24) (c := 104) (i := i) dX12_init_418 ⟨by decide, by decide, rfl⟩ (by omega) (by omega) ?_
    refine s_iinc (x := i) dX12_init_419 rfl rfl (by decide) ?_
    refine s_goto (tgt := 405) dX12_init_422 (by decide) ?_
    have := ih (i + 1) none (by omega)
    rw [fil_s]
    exact this

