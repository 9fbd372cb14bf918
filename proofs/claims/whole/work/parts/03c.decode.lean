theorem dX7_init_0 : decode cX7_init 0 = .ok (.aload_n 0, 1) := by decide +kernel
theorem dX7_init_1 : decode cX7_init 1 = .ok (.invokespecial 1, 3) := by decide +kernel
theorem dX7_init_4 : decode cX7_init 4 = .ok (.aload_n 0, 1) := by decide +kernel
theorem dX7_init_5 : decode cX7_init 5 = .ok (.sipush 216, 3) := by decide +kernel
theorem dX7_init_8 : decode cX7_init 8 = .ok (.newarray .int, 2) := by decide +kernel
theorem dX7_init_10 : decode cX7_init 10 = .ok (.putfield 7, 3) := by decide +kernel
theorem dX7_init_13 : decode cX7_init 13 = .ok (.aload_n 0, 1) := by decide +kernel
theorem dX7_init_14 : decode cX7_init 14 = .ok (.sipush 216, 3) := by decide +kernel
theorem dX7_init_17 : decode cX7_init 17 = .ok (.newarray .int, 2) := by decide +kernel
theorem dX7_init_19 : decode cX7_init 19 = .ok (.putfield 13, 3) := by decide +kernel
theorem dX7_init_22 : decode cX7_init 22 = .ok (.aload_n 0, 1) := by decide +kernel
theorem dX7_init_23 : decode cX7_init 23 = .ok (.sipush 216, 3) := by decide +kernel
theorem dX7_init_26 : decode cX7_init 26 = .ok (.newarray .int, 2) := by decide +kernel
theorem dX7_init_28 : decode cX7_init 28 = .ok (.putfield 16, 3) := by decide +kernel
theorem dX7_init_31 : decode cX7_init 31 = .ok (.aload_n 0, 1) := by decide +kernel
theorem dX7_init_32 : decode cX7_init 32 = .ok (.bipush 8, 2) := by decide +kernel
theorem dX7_init_34 : decode cX7_init 34 = .ok (.newarray .int, 2) := by decide +kernel
theorem dX7_init_36 : decode cX7_init 36 = .ok (.putfield 19, 3) := by decide +kernel
theorem dX7_init_39 : decode cX7_init 39 = .ok (.aload_n 0, 1) := by decide +kernel
theorem dX7_init_40 : decode cX7_init 40 = .ok (.bipush 120, 2) := by decide +kernel
theorem dX7_init_42 : decode cX7_init 42 = .ok (.newarray .int, 2) := by decide +kernel
theorem dX7_init_44 : decode cX7_init 44 = .ok (.putfield 22, 3) := by decide +kernel
theorem dX7_init_47 : decode cX7_init 47 = .ok (.aload_n 0, 1) := by decide +kernel
theorem dX7_init_48 : decode cX7_init 48 = .ok (.iconst 4, 1) := by decide +kernel
theorem dX7_init_49 : decode cX7_init 49 = .ok (.newarray .int, 2) := by decide +kernel
theorem dX7_init_51 : decode cX7_init 51 = .ok (.dup, 1) := by decide +kernel
theorem dX7_init_52 : decode cX7_init 52 = .ok (.iconst 0, 1) := by decide +kernel
theorem dX7_init_53 : decode cX7_init 53 = .ok (.iconst (-1), 1) := by decide +kernel
theorem dX7_init_54 : decode cX7_init 54 = .ok (.iastore, 1) := by decide +kernel
theorem dX7_init_55 : decode cX7_init 55 = .ok (.dup, 1) := by decide +kernel
theorem dX7_init_56 : decode cX7_init 56 = .ok (.iconst 1, 1) := by decide +kernel
theorem dX7_init_57 : decode cX7_init 57 = .ok (.iconst (-1), 1) := by decide +kernel
theorem dX7_init_58 : decode cX7_init 58 = .ok (.iastore, 1) := by decide +kernel
theorem dX7_init_59 : decode cX7_init 59 = .ok (.dup, 1) := by decide +kernel
theorem dX7_init_60 : decode cX7_init 60 = .ok (.iconst 2, 1) := by decide +kernel
theorem dX7_init_61 : decode cX7_init 61 = .ok (.iconst (-1), 1) := by decide +kernel
theorem dX7_init_62 : decode cX7_init 62 = .ok (.iastore, 1) := by decide +kernel
theorem dX7_init_63 : decode cX7_init 63 = .ok (.dup, 1) := by decide +kernel
theorem dX7_init_64 : decode cX7_init 64 = .ok (.iconst 3, 1) := by decide +kernel
theorem dX7_init_65 : decode cX7_init 65 = .ok (.iconst (-1), 1) := by decide +kernel
theorem dX7_init_66 : decode cX7_init 66 = .ok (.iastore, 1) := by decide +kernel
theorem dX7_init_67 : decode cX7_init 67 = .ok (.putfield 25, 3) := by decide +kernel
theorem dX7_init_70 : decode cX7_init 70 = .ok (.aload_n 0, 1) := by decide +kernel
theorem dX7_init_71 : decode cX7_init 71 = .ok (.iconst 4, 1) := by decide +kernel
theorem dX7_init_72 : decode cX7_init 72 = .ok (.newarray .int, 2) := by decide +kernel
theorem dX7_init_74 : decode cX7_init 74 = .ok (.putfield 28, 3) := by decide +kernel
theorem dX7_init_77 : decode cX7_init 77 = .ok (.aload_n 0, 1) := by decide +kernel
theorem dX7_init_78 : decode cX7_init 78 = .ok (.sipush 160, 3) := by decide +kernel
theorem dX7_init_81 : decode cX7_init 81 = .ok (.newarray .long, 2) := by decide +kernel
theorem dX7_init_83 : decode cX7_init 83 = .ok (.putfield 31, 3) := by decide +kernel
theorem dX7_init_86 : decode cX7_init 86 = .ok (.aload_n 0, 1) := by decide +kernel
theorem dX7_init_87 : decode cX7_init 87 = .ok (.bipush 10, 2) := by decide +kernel
theorem dX7_init_89 : decode cX7_init 89 = .ok (.newarray .int, 2) := by decide +kernel
theorem dX7_init_91 : decode cX7_init 91 = .ok (.putfield 35, 3) := by decide +kernel
theorem dX7_init_94 : decode cX7_init 94 = .ok (.aload_n 0, 1) := by decide +kernel
theorem dX7_init_95 : decode cX7_init 95 = .ok (.sipush 1024, 3) := by decide +kernel
theorem dX7_init_98 : decode cX7_init 98 = .ok (.newarray .int, 2) := by decide +kernel
theorem dX7_init_100 : decode cX7_init 100 = .ok (.putfield 38, 3) := by decide +kernel
theorem dX7_init_103 : decode cX7_init 103 = .ok (.aload_n 0, 1) := by decide +kernel
theorem dX7_init_104 : decode cX7_init 104 = .ok (.sipush 1024, 3) := by decide +kernel
theorem dX7_init_107 : decode cX7_init 107 = .ok (.newarray .boolean, 2) := by decide +kernel
theorem dX7_init_109 : decode cX7_init 109 = .ok (.putfield 41, 3) := by decide +kernel
theorem dX7_init_112 : decode cX7_init 112 = .ok (.aload_n 0, 1) := by decide +kernel
theorem dX7_init_113 : decode cX7_init 113 = .ok (.sipush 450, 3) := by decide +kernel
theorem dX7_init_116 : decode cX7_init 116 = .ok (.newarray .int, 2) := by decide +kernel
theorem dX7_init_118 : decode cX7_init 118 = .ok (.putfield 45, 3) := by decide +kernel
theorem dX7_init_121 : decode cX7_init 121 = .ok (.aload_n 0, 1) := by decide +kernel
theorem dX7_init_122 : decode cX7_init 122 = .ok (.bipush 24, 2) := by decide +kernel
theorem dX7_init_124 : decode cX7_init 124 = .ok (.newarray .int, 2) := by decide +kernel
theorem dX7_init_126 : decode cX7_init 126 = .ok (.putfield 48, 3) := by decide +kernel
theorem dX7_init_129 : decode cX7_init 129 = .ok (.aload_n 0, 1) := by decide +kernel
theorem dX7_init_130 : decode cX7_init 130 = .ok (.bipush 70, 2) := by decide +kernel
theorem dX7_init_132 : decode cX7_init 132 = .ok (.newarray .int, 2) := by decide +kernel
theorem dX7_init_134 : decode cX7_init 134 = .ok (.dup, 1) := by decide +kernel
theorem dX7_init_135 : decode cX7_init 135 = .ok (.iconst 0, 1) := by decide +kernel
theorem dX7_init_136 : decode cX7_init 136 = .ok (.bipush 112, 2) := by decide +kernel
theorem dX7_init_138 : decode cX7_init 138 = .ok (.iastore, 1) := by decide +kernel
theorem dX7_init_139 : decode cX7_init 139 = .ok (.dup, 1) := by decide +kernel
theorem dX7_init_140 : decode cX7_init 140 = .ok (.iconst 1, 1) := by decide +kernel
theorem dX7_init_141 : decode cX7_init 141 = .ok (.bipush 97, 2) := by decide +kernel
theorem dX7_init_143 : decode cX7_init 143 = .ok (.iastore, 1) := by decide +kernel
theorem dX7_init_144 : decode cX7_init 144 = .ok (.dup, 1) := by decide +kernel
theorem dX7_init_145 : decode cX7_init 145 = .ok (.iconst 2, 1) := by decide +kernel
theorem dX7_init_146 : decode cX7_init 146 = .ok (.bipush 114, 2) := by decide +kernel
theorem dX7_init_148 : decode cX7_init 148 = .ok (.iastore, 1) := by decide +kernel
theorem dX7_init_149 : decode cX7_init 149 = .ok (.dup, 1) := by decide +kernel
theorem dX7_init_150 : decode cX7_init 150 = .ok (.iconst 3, 1) := by decide +kernel
theorem dX7_init_151 : decode cX7_init 151 = .ok (.bipush 116, 2) := by decide +kernel
theorem dX7_init_153 : decode cX7_init 153 = .ok (.iastore, 1) := by decide +kernel
theorem dX7_init_154 : decode cX7_init 154 = .ok (.dup, 1) := by decide +kernel
theorem dX7_init_155 : decode cX7_init 155 = .ok (.iconst 4, 1) := by decide +kernel
theorem dX7_init_156 : decode cX7_init 156 = .ok (.iconst 0, 1) := by decide +kernel
theorem dX7_init_157 : decode cX7_init 157 = .ok (.iastore, 1) := by decide +kernel
theorem dX7_init_158 : decode cX7_init 158 = .ok (.dup, 1) := by decide +kernel
theorem dX7_init_159 : decode cX7_init 159 = .ok (.iconst 5, 1) := by decide +kernel
theorem dX7_init_160 : decode cX7_init 160 = .ok (.bipush 112, 2) := by decide +kernel
theorem dX7_init_162 : decode cX7_init 162 = .ok (.iastore, 1) := by decide +kernel
theorem dX7_init_163 : decode cX7_init 163 = .ok (.dup, 1) := by decide +kernel
theorem dX7_init_164 : decode cX7_init 164 = .ok (.bipush 6, 2) := by decide +kernel
theorem dX7_init_166 : decode cX7_init 166 = .ok (.bipush 111, 2) := by decide +kernel
theorem dX7_init_168 : decode cX7_init 168 = .ok (.iastore, 1) := by decide +kernel
theorem dX7_init_169 : decode cX7_init 169 = .ok (.dup, 1) := by decide +kernel
theorem dX7_init_170 : decode cX7_init 170 = .ok (.bipush 7, 2) := by decide +kernel
theorem dX7_init_172 : decode cX7_init 172 = .ok (.bipush 108, 2) := by decide +kernel
theorem dX7_init_174 : decode cX7_init 174 = .ok (.iastore, 1) := by decide +kernel
theorem dX7_init_175 : decode cX7_init 175 = .ok (.dup, 1) := by decide +kernel
theorem dX7_init_176 : decode cX7_init 176 = .ok (.bipush 8, 2) := by decide +kernel
theorem dX7_init_178 : decode cX7_init 178 = .ok (.bipush 101, 2) := by decide +kernel
theorem dX7_init_180 : decode cX7_init 180 = .ok (.iastore, 1) := by decide +kernel
theorem dX7_init_181 : decode cX7_init 181 = .ok (.dup, 1) := by decide +kernel
theorem dX7_init_182 : decode cX7_init 182 = .ok (.bipush 9, 2) := by decide +kernel
theorem dX7_init_184 : decode cX7_init 184 = .ok (.iconst 0, 1) := by decide +kernel
theorem dX7_init_185 : decode cX7_init 185 = .ok (.iastore, 1) := by decide +kernel
theorem dX7_init_186 : decode cX7_init 186 = .ok (.dup, 1) := by decide +kernel
theorem dX7_init_187 : decode cX7_init 187 = .ok (.bipush 10, 2) := by decide +kernel
theorem dX7_init_189 : decode cX7_init 189 = .ok (.bipush 98, 2) := by decide +kernel
theorem dX7_init_191 : decode cX7_init 191 = .ok (.iastore, 1) := by decide +kernel
theorem dX7_init_192 : decode cX7_init 192 = .ok (.dup, 1) := by decide +kernel
theorem dX7_init_193 : decode cX7_init 193 = .ok (.bipush 11, 2) := by decide +kernel
theorem dX7_init_195 : decode cX7_init 195 = .ok (.bipush 97, 2) := by decide +kernel
theorem dX7_init_197 : decode cX7_init 197 = .ok (.iastore, 1) := by decide +kernel
theorem dX7_init_198 : decode cX7_init 198 = .ok (.dup, 1) := by decide +kernel
theorem dX7_init_199 : decode cX7_init 199 = .ok (.bipush 12, 2) := by decide +kernel
theorem dX7_init_201 : decode cX7_init 201 = .ok (.bipush 110, 2) := by decide +kernel
theorem dX7_init_203 : decode cX7_init 203 = .ok (.iastore, 1) := by decide +kernel
theorem dX7_init_204 : decode cX7_init 204 = .ok (.dup, 1) := by decide +kernel
theorem dX7_init_205 : decode cX7_init 205 = .ok (.bipush 13, 2) := by decide +kernel
theorem dX7_init_207 : decode cX7_init 207 = .ok (.bipush 100, 2) := by decide +kernel
theorem dX7_init_209 : decode cX7_init 209 = .ok (.iastore, 1) := by decide +kernel
theorem dX7_init_210 : decode cX7_init 210 = .ok (.dup, 1) := by decide +kernel
theorem dX7_init_211 : decode cX7_init 211 = .ok (.bipush 14, 2) := by decide +kernel
theorem dX7_init_213 : decode cX7_init 213 = .ok (.iconst 0, 1) := by decide +kernel
theorem dX7_init_214 : decode cX7_init 214 = .ok (.iastore, 1) := by decide +kernel
theorem dX7_init_215 : decode cX7_init 215 = .ok (.dup, 1) := by decide +kernel
theorem dX7_init_216 : decode cX7_init 216 = .ok (.bipush 15, 2) := by decide +kernel
theorem dX7_init_218 : decode cX7_init 218 = .ok (.bipush 115, 2) := by decide +kernel
theorem dX7_init_220 : decode cX7_init 220 = .ok (.iastore, 1) := by decide +kernel
theorem dX7_init_221 : decode cX7_init 221 = .ok (.dup, 1) := by decide +kernel
theorem dX7_init_222 : decode cX7_init 222 = .ok (.bipush 16, 2) := by decide +kernel
theorem dX7_init_224 : decode cX7_init 224 = .ok (.bipush 116, 2) := by decide +kernel
theorem dX7_init_226 : decode cX7_init 226 = .ok (.iastore, 1) := by decide +kernel
theorem dX7_init_227 : decode cX7_init 227 = .ok (.dup, 1) := by decide +kernel
theorem dX7_init_228 : decode cX7_init 228 = .ok (.bipush 17, 2) := by decide +kernel
theorem dX7_init_230 : decode cX7_init 230 = .ok (.bipush 111, 2) := by decide +kernel
theorem dX7_init_232 : decode cX7_init 232 = .ok (.iastore, 1) := by decide +kernel
theorem dX7_init_233 : decode cX7_init 233 = .ok (.dup, 1) := by decide +kernel
theorem dX7_init_234 : decode cX7_init 234 = .ok (.bipush 18, 2) := by decide +kernel
theorem dX7_init_236 : decode cX7_init 236 = .ok (.bipush 110, 2) := by decide +kernel
theorem dX7_init_238 : decode cX7_init 238 = .ok (.iastore, 1) := by decide +kernel
theorem dX7_init_239 : decode cX7_init 239 = .ok (.dup, 1) := by decide +kernel
theorem dX7_init_240 : decode cX7_init 240 = .ok (.bipush 19, 2) := by decide +kernel
theorem dX7_init_242 : decode cX7_init 242 = .ok (.bipush 101, 2) := by decide +kernel
theorem dX7_init_244 : decode cX7_init 244 = .ok (.iastore, 1) := by decide +kernel
theorem dX7_init_245 : decode cX7_init 245 = .ok (.dup, 1) := by decide +kernel
theorem dX7_init_246 : decode cX7_init 246 = .ok (.bipush 20, 2) := by decide +kernel
theorem dX7_init_248 : decode cX7_init 248 = .ok (.iconst 0, 1) := by decide +kernel
theorem dX7_init_249 : decode cX7_init 249 = .ok (.iastore, 1) := by decide +kernel
theorem dX7_init_250 : decode cX7_init 250 = .ok (.dup, 1) := by decide +kernel
theorem dX7_init_251 : decode cX7_init 251 = .ok (.bipush 21, 2) := by decide +kernel
theorem dX7_init_253 : decode cX7_init 253 = .ok (.bipush 102, 2) := by decide +kernel
theorem dX7_init_255 : decode cX7_init 255 = .ok (.iastore, 1) := by decide +kernel
theorem dX7_init_256 : decode cX7_init 256 = .ok (.dup, 1) := by decide +kernel
theorem dX7_init_257 : decode cX7_init 257 = .ok (.bipush 22, 2) := by decide +kernel
theorem dX7_init_259 : decode cX7_init 259 = .ok (.bipush 101, 2) := by decide +kernel
theorem dX7_init_261 : decode cX7_init 261 = .ok (.iastore, 1) := by decide +kernel
theorem dX7_init_262 : decode cX7_init 262 = .ok (.dup, 1) := by decide +kernel
theorem dX7_init_263 : decode cX7_init 263 = .ok (.bipush 23, 2) := by decide +kernel
theorem dX7_init_265 : decode cX7_init 265 = .ok (.bipush 108, 2) := by decide +kernel
theorem dX7_init_267 : decode cX7_init 267 = .ok (.iastore, 1) := by decide +kernel
theorem dX7_init_268 : decode cX7_init 268 = .ok (.dup, 1) := by decide +kernel
theorem dX7_init_269 : decode cX7_init 269 = .ok (.bipush 24, 2) := by decide +kernel
theorem dX7_init_271 : decode cX7_init 271 = .ok (.bipush 116, 2) := by decide +kernel
theorem dX7_init_273 : decode cX7_init 273 = .ok (.iastore, 1) := by decide +kernel
theorem dX7_init_274 : decode cX7_init 274 = .ok (.dup, 1) := by decide +kernel
theorem dX7_init_275 : decode cX7_init 275 = .ok (.bipush 25, 2) := by decide +kernel
theorem dX7_init_277 : decode cX7_init 277 = .ok (.iconst 0, 1) := by decide +kernel
theorem dX7_init_278 : decode cX7_init 278 = .ok (.iastore, 1) := by decide +kernel
theorem dX7_init_279 : decode cX7_init 279 = .ok (.dup, 1) := by decide +kernel
theorem dX7_init_280 : decode cX7_init 280 = .ok (.bipush 26, 2) := by decide +kernel
theorem dX7_init_282 : decode cX7_init 282 = .ok (.bipush 102, 2) := by decide +kernel
theorem dX7_init_284 : decode cX7_init 284 = .ok (.iastore, 1) := by decide +kernel
theorem dX7_init_285 : decode cX7_init 285 = .ok (.dup, 1) := by decide +kernel
theorem dX7_init_286 : decode cX7_init 286 = .ok (.bipush 27, 2) := by decide +kernel
theorem dX7_init_288 : decode cX7_init 288 = .ok (.bipush 108, 2) := by decide +kernel
theorem dX7_init_290 : decode cX7_init 290 = .ok (.iastore, 1) := by decide +kernel
theorem dX7_init_291 : decode cX7_init 291 = .ok (.dup, 1) := by decide +kernel
theorem dX7_init_292 : decode cX7_init 292 = .ok (.bipush 28, 2) := by decide +kernel
theorem dX7_init_294 : decode cX7_init 294 = .ok (.bipush 97, 2) := by decide +kernel
theorem dX7_init_296 : decode cX7_init 296 = .ok (.iastore, 1) := by decide +kernel
theorem dX7_init_297 : decode cX7_init 297 = .ok (.dup, 1) := by decide +kernel
theorem dX7_init_298 : decode cX7_init 298 = .ok (.bipush 29, 2) := by decide +kernel
theorem dX7_init_300 : decode cX7_init 300 = .ok (.bipush 112, 2) := by decide +kernel
theorem dX7_init_302 : decode cX7_init 302 = .ok (.iastore, 1) := by decide +kernel
theorem dX7_init_303 : decode cX7_init 303 = .ok (.dup, 1) := by decide +kernel
theorem dX7_init_304 : decode cX7_init 304 = .ok (.bipush 30, 2) := by decide +kernel
theorem dX7_init_306 : decode cX7_init 306 = .ok (.iconst 0, 1) := by decide +kernel
theorem dX7_init_307 : decode cX7_init 307 = .ok (.iastore, 1) := by decide +kernel
theorem dX7_init_308 : decode cX7_init 308 = .ok (.dup, 1) := by decide +kernel
theorem dX7_init_309 : decode cX7_init 309 = .ok (.bipush 31, 2) := by decide +kernel
theorem dX7_init_311 : decode cX7_init 311 = .ok (.bipush 114, 2) := by decide +kernel
theorem dX7_init_313 : decode cX7_init 313 = .ok (.iastore, 1) := by decide +kernel
theorem dX7_init_314 : decode cX7_init 314 = .ok (.dup, 1) := by decide +kernel
theorem dX7_init_315 : decode cX7_init 315 = .ok (.bipush 32, 2) := by decide +kernel
theorem dX7_init_317 : decode cX7_init 317 = .ok (.bipush 111, 2) := by decide +kernel
theorem dX7_init_319 : decode cX7_init 319 = .ok (.iastore, 1) := by decide +kernel
theorem dX7_init_320 : decode cX7_init 320 = .ok (.dup, 1) := by decide +kernel
theorem dX7_init_321 : decode cX7_init 321 = .ok (.bipush 33, 2) := by decide +kernel
theorem dX7_init_323 : decode cX7_init 323 = .ok (.bipush 112, 2) := by decide +kernel
theorem dX7_init_325 : decode cX7_init 325 = .ok (.iastore, 1) := by decide +kernel
theorem dX7_init_326 : decode cX7_init 326 = .ok (.dup, 1) := by decide +kernel
theorem dX7_init_327 : decode cX7_init 327 = .ok (.bipush 34, 2) := by decide +kernel
theorem dX7_init_329 : decode cX7_init 329 = .ok (.bipush 101, 2) := by decide +kernel
theorem dX7_init_331 : decode cX7_init 331 = .ok (.iastore, 1) := by decide +kernel
theorem dX7_init_332 : decode cX7_init 332 = .ok (.dup, 1) := by decide +kernel
theorem dX7_init_333 : decode cX7_init 333 = .ok (.bipush 35, 2) := by decide +kernel
theorem dX7_init_335 : decode cX7_init 335 = .ok (.iconst 0, 1) := by decide +kernel
theorem dX7_init_336 : decode cX7_init 336 = .ok (.iastore, 1) := by decide +kernel
theorem dX7_init_337 : decode cX7_init 337 = .ok (.dup, 1) := by decide +kernel
theorem dX7_init_338 : decode cX7_init 338 = .ok (.bipush 36, 2) := by decide +kernel
theorem dX7_init_340 : decode cX7_init 340 = .ok (.bipush 99, 2) := by decide +kernel
theorem dX7_init_342 : decode cX7_init 342 = .ok (.iastore, 1) := by decide +kernel
theorem dX7_init_343 : decode cX7_init 343 = .ok (.dup, 1) := by decide +kernel
theorem dX7_init_344 : decode cX7_init 344 = .ok (.bipush 37, 2) := by decide +kernel
theorem dX7_init_346 : decode cX7_init 346 = .ok (.bipush 97, 2) := by decide +kernel
theorem dX7_init_348 : decode cX7_init 348 = .ok (.iastore, 1) := by decide +kernel
theorem dX7_init_349 : decode cX7_init 349 = .ok (.dup, 1) := by decide +kernel
theorem dX7_init_350 : decode cX7_init 350 = .ok (.bipush 38, 2) := by decide +kernel
theorem dX7_init_352 : decode cX7_init 352 = .ok (.bipush 109, 2) := by decide +kernel
theorem dX7_init_354 : decode cX7_init 354 = .ok (.iastore, 1) := by decide +kernel
theorem dX7_init_355 : decode cX7_init 355 = .ok (.dup, 1) := by decide +kernel
theorem dX7_init_356 : decode cX7_init 356 = .ok (.bipush 39, 2) := by decide +kernel
theorem dX7_init_358 : decode cX7_init 358 = .ok (.bipush 112, 2) := by decide +kernel
theorem dX7_init_360 : decode cX7_init 360 = .ok (.iastore, 1) := by decide +kernel
theorem dX7_init_361 : decode cX7_init 361 = .ok (.dup, 1) := by decide +kernel
theorem dX7_init_362 : decode cX7_init 362 = .ok (.bipush 40, 2) := by decide +kernel
theorem dX7_init_364 : decode cX7_init 364 = .ok (.iconst 0, 1) := by decide +kernel
theorem dX7_init_365 : decode cX7_init 365 = .ok (.iastore, 1) := by decide +kernel
theorem dX7_init_366 : decode cX7_init 366 = .ok (.dup, 1) := by decide +kernel
theorem dX7_init_367 : decode cX7_init 367 = .ok (.bipush 41, 2) := by decide +kernel
theorem dX7_init_369 : decode cX7_init 369 = .ok (.bipush 98, 2) := by decide +kernel
theorem dX7_init_371 : decode cX7_init 371 = .ok (.iastore, 1) := by decide +kernel
theorem dX7_init_372 : decode cX7_init 372 = .ok (.dup, 1) := by decide +kernel
theorem dX7_init_373 : decode cX7_init 373 = .ok (.bipush 42, 2) := by decide +kernel
theorem dX7_init_375 : decode cX7_init 375 = .ok (.bipush 101, 2) := by decide +kernel
theorem dX7_init_377 : decode cX7_init 377 = .ok (.iastore, 1) := by decide +kernel
theorem dX7_init_378 : decode cX7_init 378 = .ok (.dup, 1) := by decide +kernel
theorem dX7_init_379 : decode cX7_init 379 = .ok (.bipush 43, 2) := by decide +kernel
theorem dX7_init_381 : decode cX7_init 381 = .ok (.bipush 97, 2) := by decide +kernel
theorem dX7_init_383 : decode cX7_init 383 = .ok (.iastore, 1) := by decide +kernel
theorem dX7_init_384 : decode cX7_init 384 = .ok (.dup, 1) := by decide +kernel
theorem dX7_init_385 : decode cX7_init 385 = .ok (.bipush 44, 2) := by decide +kernel
theorem dX7_init_387 : decode cX7_init 387 = .ok (.bipush 115, 2) := by decide +kernel
theorem dX7_init_389 : decode cX7_init 389 = .ok (.iastore, 1) := by decide +kernel
theorem dX7_init_390 : decode cX7_init 390 = .ok (.dup, 1) := by decide +kernel
theorem dX7_init_391 : decode cX7_init 391 = .ok (.bipush 45, 2) := by decide +kernel
theorem dX7_init_393 : decode cX7_init 393 = .ok (.bipush 116, 2) := by decide +kernel
theorem dX7_init_395 : decode cX7_init 395 = .ok (.iastore, 1) := by decide +kernel
theorem dX7_init_396 : decode cX7_init 396 = .ok (.dup, 1) := by decide +kernel
theorem dX7_init_397 : decode cX7_init 397 = .ok (.bipush 46, 2) := by decide +kernel
theorem dX7_init_399 : decode cX7_init 399 = .ok (.iconst 0, 1) := by decide +kernel
theorem dX7_init_400 : decode cX7_init 400 = .ok (.iastore, 1) := by decide +kernel
theorem dX7_init_401 : decode cX7_init 401 = .ok (.dup, 1) := by decide +kernel
theorem dX7_init_402 : decode cX7_init 402 = .ok (.bipush 47, 2) := by decide +kernel
theorem dX7_init_404 : decode cX7_init 404 = .ok (.bipush 100, 2) := by decide +kernel
theorem dX7_init_406 : decode cX7_init 406 = .ok (.iastore, 1) := by decide +kernel
theorem dX7_init_407 : decode cX7_init 407 = .ok (.dup, 1) := by decide +kernel
theorem dX7_init_408 : decode cX7_init 408 = .ok (.bipush 48, 2) := by decide +kernel
theorem dX7_init_410 : decode cX7_init 410 = .ok (.bipush 114, 2) := by decide +kernel
theorem dX7_init_412 : decode cX7_init 412 = .ok (.iastore, 1) := by decide +kernel
theorem dX7_init_413 : decode cX7_init 413 = .ok (.dup, 1) := by decide +kernel
theorem dX7_init_414 : decode cX7_init 414 = .ok (.bipush 49, 2) := by decide +kernel
theorem dX7_init_416 : decode cX7_init 416 = .ok (.bipush 97, 2) := by decide +kernel
theorem dX7_init_418 : decode cX7_init 418 = .ok (.iastore, 1) := by decide +kernel
theorem dX7_init_419 : decode cX7_init 419 = .ok (.dup, 1) := by decide +kernel
theorem dX7_init_420 : decode cX7_init 420 = .ok (.bipush 50, 2) := by decide +kernel
theorem dX7_init_422 : decode cX7_init 422 = .ok (.bipush 119, 2) := by decide +kernel
theorem dX7_init_424 : decode cX7_init 424 = .ok (.iastore, 1) := by decide +kernel
theorem dX7_init_425 : decode cX7_init 425 = .ok (.dup, 1) := by decide +kernel
theorem dX7_init_426 : decode cX7_init 426 = .ok (.bipush 51, 2) := by decide +kernel
theorem dX7_init_428 : decode cX7_init 428 = .ok (.iconst 0, 1) := by decide +kernel
theorem dX7_init_429 : decode cX7_init 429 = .ok (.iastore, 1) := by decide +kernel
theorem dX7_init_430 : decode cX7_init 430 = .ok (.dup, 1) := by decide +kernel
theorem dX7_init_431 : decode cX7_init 431 = .ok (.bipush 52, 2) := by decide +kernel
theorem dX7_init_433 : decode cX7_init 433 = .ok (.bipush 119, 2) := by decide +kernel
theorem dX7_init_435 : decode cX7_init 435 = .ok (.iastore, 1) := by decide +kernel
theorem dX7_init_436 : decode cX7_init 436 = .ok (.dup, 1) := by decide +kernel
theorem dX7_init_437 : decode cX7_init 437 = .ok (.bipush 53, 2) := by decide +kernel
theorem dX7_init_439 : decode cX7_init 439 = .ok (.bipush 101, 2) := by decide +kernel
theorem dX7_init_441 : decode cX7_init 441 = .ok (.iastore, 1) := by decide +kernel
theorem dX7_init_442 : decode cX7_init 442 = .ok (.dup, 1) := by decide +kernel
theorem dX7_init_443 : decode cX7_init 443 = .ok (.bipush 54, 2) := by decide +kernel
theorem dX7_init_445 : decode cX7_init 445 = .ok (.bipush 105, 2) := by decide +kernel
theorem dX7_init_447 : decode cX7_init 447 = .ok (.iastore, 1) := by decide +kernel
theorem dX7_init_448 : decode cX7_init 448 = .ok (.dup, 1) := by decide +kernel
theorem dX7_init_449 : decode cX7_init 449 = .ok (.bipush 55, 2) := by decide +kernel
theorem dX7_init_451 : decode cX7_init 451 = .ok (.bipush 103, 2) := by decide +kernel
theorem dX7_init_453 : decode cX7_init 453 = .ok (.iastore, 1) := by decide +kernel
theorem dX7_init_454 : decode cX7_init 454 = .ok (.dup, 1) := by decide +kernel
theorem dX7_init_455 : decode cX7_init 455 = .ok (.bipush 56, 2) := by decide +kernel
theorem dX7_init_457 : decode cX7_init 457 = .ok (.bipush 104, 2) := by decide +kernel
theorem dX7_init_459 : decode cX7_init 459 = .ok (.iastore, 1) := by decide +kernel
theorem dX7_init_460 : decode cX7_init 460 = .ok (.dup, 1) := by decide +kernel
theorem dX7_init_461 : decode cX7_init 461 = .ok (.bipush 57, 2) := by decide +kernel
theorem dX7_init_463 : decode cX7_init 463 = .ok (.bipush 116, 2) := by decide +kernel
theorem dX7_init_465 : decode cX7_init 465 = .ok (.iastore, 1) := by decide +kernel
theorem dX7_init_466 : decode cX7_init 466 = .ok (.dup, 1) := by decide +kernel
theorem dX7_init_467 : decode cX7_init 467 = .ok (.bipush 58, 2) := by decide +kernel
theorem dX7_init_469 : decode cX7_init 469 = .ok (.iconst 0, 1) := by decide +kernel
theorem dX7_init_470 : decode cX7_init 470 = .ok (.iastore, 1) := by decide +kernel
theorem dX7_init_471 : decode cX7_init 471 = .ok (.dup, 1) := by decide +kernel
theorem dX7_init_472 : decode cX7_init 472 = .ok (.bipush 59, 2) := by decide +kernel
theorem dX7_init_474 : decode cX7_init 474 = .ok (.bipush 119, 2) := by decide +kernel
theorem dX7_init_476 : decode cX7_init 476 = .ok (.iastore, 1) := by decide +kernel
theorem dX7_init_477 : decode cX7_init 477 = .ok (.dup, 1) := by decide +kernel
theorem dX7_init_478 : decode cX7_init 478 = .ok (.bipush 60, 2) := by decide +kernel
theorem dX7_init_480 : decode cX7_init 480 = .ok (.bipush 101, 2) := by decide +kernel
theorem dX7_init_482 : decode cX7_init 482 = .ok (.iastore, 1) := by decide +kernel
theorem dX7_init_483 : decode cX7_init 483 = .ok (.dup, 1) := by decide +kernel
theorem dX7_init_484 : decode cX7_init 484 = .ok (.bipush 61, 2) := by decide +kernel
theorem dX7_init_486 : decode cX7_init 486 = .ok (.bipush 97, 2) := by decide +kernel
theorem dX7_init_488 : decode cX7_init 488 = .ok (.iastore, 1) := by decide +kernel
theorem dX7_init_489 : decode cX7_init 489 = .ok (.dup, 1) := by decide +kernel
theorem dX7_init_490 : decode cX7_init 490 = .ok (.bipush 62, 2) := by decide +kernel
theorem dX7_init_492 : decode cX7_init 492 = .ok (.bipush 114, 2) := by decide +kernel
theorem dX7_init_494 : decode cX7_init 494 = .ok (.iastore, 1) := by decide +kernel
theorem dX7_init_495 : decode cX7_init 495 = .ok (.dup, 1) := by decide +kernel
theorem dX7_init_496 : decode cX7_init 496 = .ok (.bipush 63, 2) := by decide +kernel
theorem dX7_init_498 : decode cX7_init 498 = .ok (.iconst 0, 1) := by decide +kernel
theorem dX7_init_499 : decode cX7_init 499 = .ok (.iastore, 1) := by decide +kernel
theorem dX7_init_500 : decode cX7_init 500 = .ok (.dup, 1) := by decide +kernel
theorem dX7_init_501 : decode cX7_init 501 = .ok (.bipush 64, 2) := by decide +kernel
theorem dX7_init_503 : decode cX7_init 503 = .ok (.bipush 103, 2) := by decide +kernel
theorem dX7_init_505 : decode cX7_init 505 = .ok (.iastore, 1) := by decide +kernel
theorem dX7_init_506 : decode cX7_init 506 = .ok (.dup, 1) := by decide +kernel
theorem dX7_init_507 : decode cX7_init 507 = .ok (.bipush 65, 2) := by decide +kernel
theorem dX7_init_509 : decode cX7_init 509 = .ok (.bipush 114, 2) := by decide +kernel
theorem dX7_init_511 : decode cX7_init 511 = .ok (.iastore, 1) := by decide +kernel
theorem dX7_init_512 : decode cX7_init 512 = .ok (.dup, 1) := by decide +kernel
theorem dX7_init_513 : decode cX7_init 513 = .ok (.bipush 66, 2) := by decide +kernel
theorem dX7_init_515 : decode cX7_init 515 = .ok (.bipush 97, 2) := by decide +kernel
theorem dX7_init_517 : decode cX7_init 517 = .ok (.iastore, 1) := by decide +kernel
theorem dX7_init_518 : decode cX7_init 518 = .ok (.dup, 1) := by decide +kernel
theorem dX7_init_519 : decode cX7_init 519 = .ok (.bipush 67, 2) := by decide +kernel
theorem dX7_init_521 : decode cX7_init 521 = .ok (.bipush 115, 2) := by decide +kernel
theorem dX7_init_523 : decode cX7_init 523 = .ok (.iastore, 1) := by decide +kernel
theorem dX7_init_524 : decode cX7_init 524 = .ok (.dup, 1) := by decide +kernel
theorem dX7_init_525 : decode cX7_init 525 = .ok (.bipush 68, 2) := by decide +kernel
theorem dX7_init_527 : decode cX7_init 527 = .ok (.bipush 115, 2) := by decide +kernel
theorem dX7_init_529 : decode cX7_init 529 = .ok (.iastore, 1) := by decide +kernel
theorem dX7_init_530 : decode cX7_init 530 = .ok (.dup, 1) := by decide +kernel
theorem dX7_init_531 : decode cX7_init 531 = .ok (.bipush 69, 2) := by decide +kernel
theorem dX7_init_533 : decode cX7_init 533 = .ok (.iconst 0, 1) := by decide +kernel
theorem dX7_init_534 : decode cX7_init 534 = .ok (.iastore, 1) := by decide +kernel
theorem dX7_init_535 : decode cX7_init 535 = .ok (.putfield 51, 3) := by decide +kernel
theorem dX7_init_538 : decode cX7_init 538 = .ok (.aload_n 0, 1) := by decide +kernel
theorem dX7_init_539 : decode cX7_init 539 = .ok (.getfield 7, 3) := by decide +kernel
theorem dX7_init_542 : decode cX7_init 542 = .ok (.bipush 7, 2) := by decide +kernel
theorem dX7_init_544 : decode cX7_init 544 = .ok (.bipush 20, 2) := by decide +kernel
theorem dX7_init_546 : decode cX7_init 546 = .ok (.iastore, 1) := by decide +kernel
theorem dX7_init_547 : decode cX7_init 547 = .ok (.aload_n 0, 1) := by decide +kernel
theorem dX7_init_548 : decode cX7_init 548 = .ok (.getfield 7, 3) := by decide +kernel
theorem dX7_init_551 : decode cX7_init 551 = .ok (.bipush 8, 2) := by decide +kernel
theorem dX7_init_553 : decode cX7_init 553 = .ok (.bipush 20, 2) := by decide +kernel
theorem dX7_init_555 : decode cX7_init 555 = .ok (.iastore, 1) := by decide +kernel
theorem dX7_init_556 : decode cX7_init 556 = .ok (.aload_n 0, 1) := by decide +kernel
theorem dX7_init_557 : decode cX7_init 557 = .ok (.getfield 7, 3) := by decide +kernel
theorem dX7_init_560 : decode cX7_init 560 = .ok (.bipush 9, 2) := by decide +kernel
theorem dX7_init_562 : decode cX7_init 562 = .ok (.bipush 100, 2) := by decide +kernel
theorem dX7_init_564 : decode cX7_init 564 = .ok (.iastore, 1) := by decide +kernel
theorem dX7_init_565 : decode cX7_init 565 = .ok (.aload_n 0, 1) := by decide +kernel
theorem dX7_init_566 : decode cX7_init 566 = .ok (.getfield 7, 3) := by decide +kernel
theorem dX7_init_569 : decode cX7_init 569 = .ok (.bipush 10, 2) := by decide +kernel
theorem dX7_init_571 : decode cX7_init 571 = .ok (.iconst 2, 1) := by decide +kernel
theorem dX7_init_572 : decode cX7_init 572 = .ok (.iastore, 1) := by decide +kernel
theorem dX7_init_573 : decode cX7_init 573 = .ok (.aload_n 0, 1) := by decide +kernel
theorem dX7_init_574 : decode cX7_init 574 = .ok (.getfield 7, 3) := by decide +kernel
theorem dX7_init_577 : decode cX7_init 577 = .ok (.bipush 11, 2) := by decide +kernel
theorem dX7_init_579 : decode cX7_init 579 = .ok (.iconst 5, 1) := by decide +kernel
theorem dX7_init_580 : decode cX7_init 580 = .ok (.iastore, 1) := by decide +kernel
theorem dX7_init_581 : decode cX7_init 581 = .ok (.return_, 1) := by decide +kernel
theorem dX7_isIn_0 : decode cX7_isIn 0 = .ok (.lload_n 0, 1) := by decide +kernel
theorem dX7_isIn_1 : decode cX7_isIn 1 = .ok (.lload_n 2, 1) := by decide +kernel
theorem dX7_isIn_2 : decode cX7_isIn 2 = .ok (.lcmp, 1) := by decide +kernel
theorem dX7_isIn_3 : decode cX7_isIn 3 = .ok (.ifCond .lt 14, 3) := by decide +kernel
theorem dX7_isIn_6 : decode cX7_isIn 6 = .ok (.lload_n 0, 1) := by decide +kernel
theorem dX7_isIn_7 : decode cX7_isIn 7 = .ok (.lload 4, 2) := by decide +kernel
theorem dX7_isIn_9 : decode cX7_isIn 9 = .ok (.lcmp, 1) := by decide +kernel
theorem dX7_isIn_10 : decode cX7_isIn 10 = .ok (.ifCond .gt 7, 3) := by decide +kernel
theorem dX7_isIn_13 : decode cX7_isIn 13 = .ok (.iconst 1, 1) := by decide +kernel
theorem dX7_isIn_14 : decode cX7_isIn 14 = .ok (.goto 4, 3) := by decide +kernel
theorem dX7_isIn_17 : decode cX7_isIn 17 = .ok (.iconst 0, 1) := by decide +kernel
theorem dX7_isIn_18 : decode cX7_isIn 18 = .ok (.ireturn, 1) := by decide +kernel
theorem dX7_finds_0 : decode cX7_finds 0 = .ok (.aload_n 0, 1) := by decide +kernel
theorem dX7_finds_1 : decode cX7_finds 1 = .ok (.getfield 19, 3) := by decide +kernel
theorem dX7_finds_4 : decode cX7_finds 4 = .ok (.iconst 0, 1) := by decide +kernel
theorem dX7_finds_5 : decode cX7_finds 5 = .ok (.dup2, 1) := by decide +kernel
theorem dX7_finds_6 : decode cX7_finds 6 = .ok (.iaload, 1) := by decide +kernel
theorem dX7_finds_7 : decode cX7_finds 7 = .ok (.iconst 1, 1) := by decide +kernel
theorem dX7_finds_8 : decode cX7_finds 8 = .ok (.iadd, 1) := by decide +kernel
theorem dX7_finds_9 : decode cX7_finds 9 = .ok (.iastore, 1) := by decide +kernel
theorem dX7_finds_10 : decode cX7_finds 10 = .ok (.aload_n 0, 1) := by decide +kernel
theorem dX7_finds_11 : decode cX7_finds 11 = .ok (.getfield 19, 3) := by decide +kernel
theorem dX7_finds_14 : decode cX7_finds 14 = .ok (.ldc 54, 2) := by decide +kernel
theorem dX7_finds_16 : decode cX7_finds 16 = .ok (.iload_n 1, 1) := by decide +kernel
theorem dX7_finds_17 : decode cX7_finds 17 = .ok (.isub, 1) := by decide +kernel
theorem dX7_finds_18 : decode cX7_finds 18 = .ok (.iconst 1, 1) := by decide +kernel
theorem dX7_finds_19 : decode cX7_finds 19 = .ok (.iadd, 1) := by decide +kernel
theorem dX7_finds_20 : decode cX7_finds 20 = .ok (.dup2, 1) := by decide +kernel
theorem dX7_finds_21 : decode cX7_finds 21 = .ok (.iaload, 1) := by decide +kernel
theorem dX7_finds_22 : decode cX7_finds 22 = .ok (.iconst 1, 1) := by decide +kernel
theorem dX7_finds_23 : decode cX7_finds 23 = .ok (.iadd, 1) := by decide +kernel
theorem dX7_finds_24 : decode cX7_finds 24 = .ok (.iastore, 1) := by decide +kernel
theorem dX7_finds_25 : decode cX7_finds 25 = .ok (.iload_n 1, 1) := by decide +kernel
theorem dX7_finds_26 : decode cX7_finds 26 = .ok (.ireturn, 1) := by decide +kernel
theorem dX7_becomes_0 : decode cX7_becomes 0 = .ok (.aload_n 0, 1) := by decide +kernel
theorem dX7_becomes_1 : decode cX7_becomes 1 = .ok (.getfield 7, 3) := by decide +kernel
theorem dX7_becomes_4 : decode cX7_becomes 4 = .ok (.iload_n 1, 1) := by decide +kernel
theorem dX7_becomes_5 : decode cX7_becomes 5 = .ok (.iaload, 1) := by decide +kernel
theorem dX7_becomes_6 : decode cX7_becomes 6 = .ok (.istore_n 3, 1) := by decide +kernel
theorem dX7_becomes_7 : decode cX7_becomes 7 = .ok (.aload_n 0, 1) := by decide +kernel
theorem dX7_becomes_8 : decode cX7_becomes 8 = .ok (.getfield 7, 3) := by decide +kernel
theorem dX7_becomes_11 : decode cX7_becomes 11 = .ok (.iload_n 1, 1) := by decide +kernel
theorem dX7_becomes_12 : decode cX7_becomes 12 = .ok (.iload_n 2, 1) := by decide +kernel
theorem dX7_becomes_13 : decode cX7_becomes 13 = .ok (.iastore, 1) := by decide +kernel
theorem dX7_becomes_14 : decode cX7_becomes 14 = .ok (.iload_n 3, 1) := by decide +kernel
theorem dX7_becomes_15 : decode cX7_becomes 15 = .ok (.ireturn, 1) := by decide +kernel
theorem dX7_has_0 : decode cX7_has 0 = .ok (.aload_n 0, 1) := by decide +kernel
theorem dX7_has_1 : decode cX7_has 1 = .ok (.getfield 7, 3) := by decide +kernel
theorem dX7_has_4 : decode cX7_has 4 = .ok (.bipush 12, 2) := by decide +kernel
theorem dX7_has_6 : decode cX7_has 6 = .ok (.bipush 6, 2) := by decide +kernel
theorem dX7_has_8 : decode cX7_has 8 = .ok (.iload_n 1, 1) := by decide +kernel
theorem dX7_has_9 : decode cX7_has 9 = .ok (.imul, 1) := by decide +kernel
theorem dX7_has_10 : decode cX7_has 10 = .ok (.iadd, 1) := by decide +kernel
theorem dX7_has_11 : decode cX7_has 11 = .ok (.iload_n 2, 1) := by decide +kernel
theorem dX7_has_12 : decode cX7_has 12 = .ok (.iadd, 1) := by decide +kernel
theorem dX7_has_13 : decode cX7_has 13 = .ok (.iaload, 1) := by decide +kernel
theorem dX7_has_14 : decode cX7_has 14 = .ok (.ireturn, 1) := by decide +kernel
theorem dX7_gets_0 : decode cX7_gets 0 = .ok (.aload_n 0, 1) := by decide +kernel
theorem dX7_gets_1 : decode cX7_gets 1 = .ok (.getfield 7, 3) := by decide +kernel
theorem dX7_gets_4 : decode cX7_gets 4 = .ok (.bipush 12, 2) := by decide +kernel
theorem dX7_gets_6 : decode cX7_gets 6 = .ok (.bipush 6, 2) := by decide +kernel
theorem dX7_gets_8 : decode cX7_gets 8 = .ok (.iload_n 1, 1) := by decide +kernel
theorem dX7_gets_9 : decode cX7_gets 9 = .ok (.imul, 1) := by decide +kernel
theorem dX7_gets_10 : decode cX7_gets 10 = .ok (.iadd, 1) := by decide +kernel
theorem dX7_gets_11 : decode cX7_gets 11 = .ok (.iload_n 2, 1) := by decide +kernel
theorem dX7_gets_12 : decode cX7_gets 12 = .ok (.iadd, 1) := by decide +kernel
theorem dX7_gets_13 : decode cX7_gets 13 = .ok (.iload_n 3, 1) := by decide +kernel
theorem dX7_gets_14 : decode cX7_gets 14 = .ok (.iastore, 1) := by decide +kernel
theorem dX7_gets_15 : decode cX7_gets 15 = .ok (.return_, 1) := by decide +kernel
theorem dX7_isPart_0 : decode cX7_isPart 0 = .ok (.iload_n 1, 1) := by decide +kernel
theorem dX7_isPart_1 : decode cX7_isPart 1 = .ok (.ifCond .lt 17, 3) := by decide +kernel
theorem dX7_isPart_4 : decode cX7_isPart 4 = .ok (.iload_n 1, 1) := by decide +kernel
theorem dX7_isPart_5 : decode cX7_isPart 5 = .ok (.aload_n 0, 1) := by decide +kernel
theorem dX7_isPart_6 : decode cX7_isPart 6 = .ok (.getfield 7, 3) := by decide +kernel
theorem dX7_isPart_9 : decode cX7_isPart 9 = .ok (.iconst 0, 1) := by decide +kernel
theorem dX7_isPart_10 : decode cX7_isPart 10 = .ok (.iaload, 1) := by decide +kernel
theorem dX7_isPart_11 : decode cX7_isPart 11 = .ok (.if_icmp .ge 7, 3) := by decide +kernel
theorem dX7_isPart_14 : decode cX7_isPart 14 = .ok (.iconst 1, 1) := by decide +kernel
theorem dX7_isPart_15 : decode cX7_isPart 15 = .ok (.goto 4, 3) := by decide +kernel
theorem dX7_isPart_18 : decode cX7_isPart 18 = .ok (.iconst 0, 1) := by decide +kernel
theorem dX7_isPart_19 : decode cX7_isPart 19 = .ok (.ireturn, 1) := by decide +kernel
theorem dX7_isThere_0 : decode cX7_isThere 0 = .ok (.aload_n 0, 1) := by decide +kernel
theorem dX7_isThere_1 : decode cX7_isThere 1 = .ok (.iload_n 1, 1) := by decide +kernel
theorem dX7_isThere_2 : decode cX7_isThere 2 = .ok (.iconst 5, 1) := by decide +kernel
theorem dX7_isThere_3 : decode cX7_isThere 3 = .ok (.invokevirtual 55, 3) := by decide +kernel
theorem dX7_isThere_6 : decode cX7_isThere 6 = .ok (.iconst 1, 1) := by decide +kernel
theorem dX7_isThere_7 : decode cX7_isThere 7 = .ok (.if_icmp .ne 7, 3) := by decide +kernel
theorem dX7_isThere_10 : decode cX7_isThere 10 = .ok (.iconst 1, 1) := by decide +kernel
theorem dX7_isThere_11 : decode cX7_isThere 11 = .ok (.goto 4, 3) := by decide +kernel
theorem dX7_isThere_14 : decode cX7_isThere 14 = .ok (.iconst 0, 1) := by decide +kernel
theorem dX7_isThere_15 : decode cX7_isThere 15 = .ok (.ireturn, 1) := by decide +kernel
theorem dX7_comes_0 : decode cX7_comes 0 = .ok (.aload_n 0, 1) := by decide +kernel
theorem dX7_comes_1 : decode cX7_comes 1 = .ok (.getfield 7, 3) := by decide +kernel
theorem dX7_comes_4 : decode cX7_comes 4 = .ok (.iconst 0, 1) := by decide +kernel
theorem dX7_comes_5 : decode cX7_comes 5 = .ok (.iaload, 1) := by decide +kernel
theorem dX7_comes_6 : decode cX7_comes 6 = .ok (.istore 6, 2) := by decide +kernel
theorem dX7_comes_8 : decode cX7_comes 8 = .ok (.aload_n 0, 1) := by decide +kernel
theorem dX7_comes_9 : decode cX7_comes 9 = .ok (.iload 6, 2) := by decide +kernel
theorem dX7_comes_11 : decode cX7_comes 11 = .ok (.iconst 0, 1) := by decide +kernel
theorem dX7_comes_12 : decode cX7_comes 12 = .ok (.iload_n 1, 1) := by decide +kernel
theorem dX7_comes_13 : decode cX7_comes 13 = .ok (.invokevirtual 59, 3) := by decide +kernel
theorem dX7_comes_16 : decode cX7_comes 16 = .ok (.aload_n 0, 1) := by decide +kernel
theorem dX7_comes_17 : decode cX7_comes 17 = .ok (.iload 6, 2) := by decide +kernel
theorem dX7_comes_19 : decode cX7_comes 19 = .ok (.iconst 1, 1) := by decide +kernel
theorem dX7_comes_20 : decode cX7_comes 20 = .ok (.iload_n 2, 1) := by decide +kernel
theorem dX7_comes_21 : decode cX7_comes 21 = .ok (.invokevirtual 59, 3) := by decide +kernel
theorem dX7_comes_24 : decode cX7_comes 24 = .ok (.aload_n 0, 1) := by decide +kernel
theorem dX7_comes_25 : decode cX7_comes 25 = .ok (.iload 6, 2) := by decide +kernel
theorem dX7_comes_27 : decode cX7_comes 27 = .ok (.iconst 2, 1) := by decide +kernel
theorem dX7_comes_28 : decode cX7_comes 28 = .ok (.iload_n 3, 1) := by decide +kernel
theorem dX7_comes_29 : decode cX7_comes 29 = .ok (.invokevirtual 59, 3) := by decide +kernel
theorem dX7_comes_32 : decode cX7_comes 32 = .ok (.aload_n 0, 1) := by decide +kernel
theorem dX7_comes_33 : decode cX7_comes 33 = .ok (.iload 6, 2) := by decide +kernel
theorem dX7_comes_35 : decode cX7_comes 35 = .ok (.iconst 3, 1) := by decide +kernel
theorem dX7_comes_36 : decode cX7_comes 36 = .ok (.iload 4, 2) := by decide +kernel
theorem dX7_comes_38 : decode cX7_comes 38 = .ok (.invokevirtual 59, 3) := by decide +kernel
theorem dX7_comes_41 : decode cX7_comes 41 = .ok (.aload_n 0, 1) := by decide +kernel
theorem dX7_comes_42 : decode cX7_comes 42 = .ok (.iload 6, 2) := by decide +kernel
theorem dX7_comes_44 : decode cX7_comes 44 = .ok (.iconst 4, 1) := by decide +kernel
theorem dX7_comes_45 : decode cX7_comes 45 = .ok (.iload 5, 2) := by decide +kernel
theorem dX7_comes_47 : decode cX7_comes 47 = .ok (.invokevirtual 59, 3) := by decide +kernel
theorem dX7_comes_50 : decode cX7_comes 50 = .ok (.aload_n 0, 1) := by decide +kernel
theorem dX7_comes_51 : decode cX7_comes 51 = .ok (.iload 6, 2) := by decide +kernel
theorem dX7_comes_53 : decode cX7_comes 53 = .ok (.iconst 5, 1) := by decide +kernel
theorem dX7_comes_54 : decode cX7_comes 54 = .ok (.iconst 1, 1) := by decide +kernel
theorem dX7_comes_55 : decode cX7_comes 55 = .ok (.invokevirtual 59, 3) := by decide +kernel
theorem dX7_comes_58 : decode cX7_comes 58 = .ok (.aload_n 0, 1) := by decide +kernel
theorem dX7_comes_59 : decode cX7_comes 59 = .ok (.getfield 7, 3) := by decide +kernel
theorem dX7_comes_62 : decode cX7_comes 62 = .ok (.iconst 0, 1) := by decide +kernel
theorem dX7_comes_63 : decode cX7_comes 63 = .ok (.dup2, 1) := by decide +kernel
theorem dX7_comes_64 : decode cX7_comes 64 = .ok (.iaload, 1) := by decide +kernel
theorem dX7_comes_65 : decode cX7_comes 65 = .ok (.iconst 1, 1) := by decide +kernel
theorem dX7_comes_66 : decode cX7_comes 66 = .ok (.iadd, 1) := by decide +kernel
theorem dX7_comes_67 : decode cX7_comes 67 = .ok (.iastore, 1) := by decide +kernel
theorem dX7_comes_68 : decode cX7_comes 68 = .ok (.return_, 1) := by decide +kernel
theorem dX7_part_0 : decode cX7_part 0 = .ok (.iload_n 1, 1) := by decide +kernel
theorem dX7_part_1 : decode cX7_part 1 = .ok (.i2l, 1) := by decide +kernel
theorem dX7_part_2 : decode cX7_part 2 = .ok (.lconst 0, 1) := by decide +kernel
theorem dX7_part_3 : decode cX7_part 3 = .ok (.ldc2_w 63, 3) := by decide +kernel
theorem dX7_part_6 : decode cX7_part 6 = .ok (.invokestatic 65, 3) := by decide +kernel
theorem dX7_part_9 : decode cX7_part 9 = .ok (.ifCond .eq 40, 3) := by decide +kernel
theorem dX7_part_12 : decode cX7_part 12 = .ok (.iload_n 2, 1) := by decide +kernel
theorem dX7_part_13 : decode cX7_part 13 = .ok (.i2l, 1) := by decide +kernel
theorem dX7_part_14 : decode cX7_part 14 = .ok (.lconst 0, 1) := by decide +kernel
theorem dX7_part_15 : decode cX7_part 15 = .ok (.ldc2_w 69, 3) := by decide +kernel
theorem dX7_part_18 : decode cX7_part 18 = .ok (.invokestatic 65, 3) := by decide +kernel
theorem dX7_part_21 : decode cX7_part 21 = .ok (.ifCond .eq 28, 3) := by decide +kernel
theorem dX7_part_24 : decode cX7_part 24 = .ok (.iload_n 3, 1) := by decide +kernel
theorem dX7_part_25 : decode cX7_part 25 = .ok (.i2l, 1) := by decide +kernel
theorem dX7_part_26 : decode cX7_part 26 = .ok (.lconst 1, 1) := by decide +kernel
theorem dX7_part_27 : decode cX7_part 27 = .ok (.ldc2_w 71, 3) := by decide +kernel
theorem dX7_part_30 : decode cX7_part 30 = .ok (.invokestatic 65, 3) := by decide +kernel
theorem dX7_part_33 : decode cX7_part 33 = .ok (.ifCond .eq 16, 3) := by decide +kernel
theorem dX7_part_36 : decode cX7_part 36 = .ok (.iload 4, 2) := by decide +kernel
theorem dX7_part_38 : decode cX7_part 38 = .ok (.i2l, 1) := by decide +kernel
theorem dX7_part_39 : decode cX7_part 39 = .ok (.lconst 0, 1) := by decide +kernel
theorem dX7_part_40 : decode cX7_part 40 = .ok (.ldc2_w 73, 3) := by decide +kernel
theorem dX7_part_43 : decode cX7_part 43 = .ok (.invokestatic 65, 3) := by decide +kernel
theorem dX7_part_46 : decode cX7_part 46 = .ok (.ifCond .ne 10, 3) := by decide +kernel
theorem dX7_part_49 : decode cX7_part 49 = .ok (.aload_n 0, 1) := by decide +kernel
theorem dX7_part_50 : decode cX7_part 50 = .ok (.ldc 54, 2) := by decide +kernel
theorem dX7_part_52 : decode cX7_part 52 = .ok (.invokevirtual 75, 3) := by decide +kernel
theorem dX7_part_55 : decode cX7_part 55 = .ok (.ireturn, 1) := by decide +kernel
theorem dX7_part_56 : decode cX7_part 56 = .ok (.aload_n 0, 1) := by decide +kernel
theorem dX7_part_57 : decode cX7_part 57 = .ok (.getfield 7, 3) := by decide +kernel
theorem dX7_part_60 : decode cX7_part 60 = .ok (.iconst 0, 1) := by decide +kernel
theorem dX7_part_61 : decode cX7_part 61 = .ok (.iaload, 1) := by decide +kernel
theorem dX7_part_62 : decode cX7_part 62 = .ok (.bipush 20, 2) := by decide +kernel
theorem dX7_part_64 : decode cX7_part 64 = .ok (.if_icmp .ne 10, 3) := by decide +kernel
theorem dX7_part_67 : decode cX7_part 67 = .ok (.aload_n 0, 1) := by decide +kernel
theorem dX7_part_68 : decode cX7_part 68 = .ok (.ldc 79, 2) := by decide +kernel
theorem dX7_part_70 : decode cX7_part 70 = .ok (.invokevirtual 75, 3) := by decide +kernel
theorem dX7_part_73 : decode cX7_part 73 = .ok (.ireturn, 1) := by decide +kernel
theorem dX7_part_74 : decode cX7_part 74 = .ok (.aload_n 0, 1) := by decide +kernel
theorem dX7_part_75 : decode cX7_part 75 = .ok (.iload_n 1, 1) := by decide +kernel
theorem dX7_part_76 : decode cX7_part 76 = .ok (.iload_n 2, 1) := by decide +kernel
theorem dX7_part_77 : decode cX7_part 77 = .ok (.iload_n 3, 1) := by decide +kernel
theorem dX7_part_78 : decode cX7_part 78 = .ok (.iload 4, 2) := by decide +kernel
theorem dX7_part_80 : decode cX7_part 80 = .ok (.iconst 0, 1) := by decide +kernel
theorem dX7_part_81 : decode cX7_part 81 = .ok (.invokevirtual 80, 3) := by decide +kernel
theorem dX7_part_84 : decode cX7_part 84 = .ok (.aload_n 0, 1) := by decide +kernel
theorem dX7_part_85 : decode cX7_part 85 = .ok (.getfield 7, 3) := by decide +kernel
theorem dX7_part_88 : decode cX7_part 88 = .ok (.iconst 0, 1) := by decide +kernel
theorem dX7_part_89 : decode cX7_part 89 = .ok (.iaload, 1) := by decide +kernel
theorem dX7_part_90 : decode cX7_part 90 = .ok (.iconst 1, 1) := by decide +kernel
theorem dX7_part_91 : decode cX7_part 91 = .ok (.isub, 1) := by decide +kernel
theorem dX7_part_92 : decode cX7_part 92 = .ok (.ireturn, 1) := by decide +kernel
theorem dX7_good_0 : decode cX7_good 0 = .ok (.aload_n 0, 1) := by decide +kernel
theorem dX7_good_1 : decode cX7_good 1 = .ok (.iload_n 1, 1) := by decide +kernel
theorem dX7_good_2 : decode cX7_good 2 = .ok (.invokevirtual 84, 3) := by decide +kernel
theorem dX7_good_5 : decode cX7_good 5 = .ok (.ifCond .eq 25, 3) := by decide +kernel
theorem dX7_good_8 : decode cX7_good 8 = .ok (.aload_n 0, 1) := by decide +kernel
theorem dX7_good_9 : decode cX7_good 9 = .ok (.iload_n 1, 1) := by decide +kernel
theorem dX7_good_10 : decode cX7_good 10 = .ok (.iconst 2, 1) := by decide +kernel
theorem dX7_good_11 : decode cX7_good 11 = .ok (.invokevirtual 55, 3) := by decide +kernel
theorem dX7_good_14 : decode cX7_good 14 = .ok (.bipush 100, 2) := by decide +kernel
theorem dX7_good_16 : decode cX7_good 16 = .ok (.aload_n 0, 1) := by decide +kernel
theorem dX7_good_17 : decode cX7_good 17 = .ok (.iload_n 1, 1) := by decide +kernel
theorem dX7_good_18 : decode cX7_good 18 = .ok (.iconst 4, 1) := by decide +kernel
theorem dX7_good_19 : decode cX7_good 19 = .ok (.invokevirtual 55, 3) := by decide +kernel
theorem dX7_good_22 : decode cX7_good 22 = .ok (.isub, 1) := by decide +kernel
theorem dX7_good_23 : decode cX7_good 23 = .ok (.imul, 1) := by decide +kernel
theorem dX7_good_24 : decode cX7_good 24 = .ok (.bipush 100, 2) := by decide +kernel
theorem dX7_good_26 : decode cX7_good 26 = .ok (.idiv, 1) := by decide +kernel
theorem dX7_good_27 : decode cX7_good 27 = .ok (.goto 4, 3) := by decide +kernel
theorem dX7_good_30 : decode cX7_good 30 = .ok (.iconst 0, 1) := by decide +kernel
theorem dX7_good_31 : decode cX7_good 31 = .ok (.ireturn, 1) := by decide +kernel
theorem dX7_pushes_0 : decode cX7_pushes 0 = .ok (.aload_n 0, 1) := by decide +kernel
theorem dX7_pushes_1 : decode cX7_pushes 1 = .ok (.iload_n 1, 1) := by decide +kernel
theorem dX7_pushes_2 : decode cX7_pushes 2 = .ok (.iconst 0, 1) := by decide +kernel
theorem dX7_pushes_3 : decode cX7_pushes 3 = .ok (.invokevirtual 55, 3) := by decide +kernel
theorem dX7_pushes_6 : decode cX7_pushes 6 = .ok (.istore_n 2, 1) := by decide +kernel
theorem dX7_pushes_7 : decode cX7_pushes 7 = .ok (.iload_n 2, 1) := by decide +kernel
theorem dX7_pushes_8 : decode cX7_pushes 8 = .ok (.iconst 1, 1) := by decide +kernel
theorem dX7_pushes_9 : decode cX7_pushes 9 = .ok (.if_icmp .ne 31, 3) := by decide +kernel
theorem dX7_pushes_12 : decode cX7_pushes 12 = .ok (.aload_n 0, 1) := by decide +kernel
theorem dX7_pushes_13 : decode cX7_pushes 13 = .ok (.iload_n 1, 1) := by decide +kernel
theorem dX7_pushes_14 : decode cX7_pushes 14 = .ok (.invokevirtual 88, 3) := by decide +kernel
theorem dX7_pushes_17 : decode cX7_pushes 17 = .ok (.ifCond .le 21, 3) := by decide +kernel
theorem dX7_pushes_20 : decode cX7_pushes 20 = .ok (.aload_n 0, 1) := by decide +kernel
theorem dX7_pushes_21 : decode cX7_pushes 21 = .ok (.iload_n 1, 1) := by decide +kernel
theorem dX7_pushes_22 : decode cX7_pushes 22 = .ok (.invokevirtual 88, 3) := by decide +kernel
theorem dX7_pushes_25 : decode cX7_pushes 25 = .ok (.aload_n 0, 1) := by decide +kernel
theorem dX7_pushes_26 : decode cX7_pushes 26 = .ok (.getfield 7, 3) := by decide +kernel
theorem dX7_pushes_29 : decode cX7_pushes 29 = .ok (.bipush 6, 2) := by decide +kernel
theorem dX7_pushes_31 : decode cX7_pushes 31 = .ok (.iaload, 1) := by decide +kernel
theorem dX7_pushes_32 : decode cX7_pushes 32 = .ok (.iconst 4, 1) := by decide +kernel
theorem dX7_pushes_33 : decode cX7_pushes 33 = .ok (.idiv, 1) := by decide +kernel
theorem dX7_pushes_34 : decode cX7_pushes 34 = .ok (.iadd, 1) := by decide +kernel
theorem dX7_pushes_35 : decode cX7_pushes 35 = .ok (.goto 4, 3) := by decide +kernel
theorem dX7_pushes_38 : decode cX7_pushes 38 = .ok (.iconst 0, 1) := by decide +kernel
theorem dX7_pushes_39 : decode cX7_pushes 39 = .ok (.ireturn, 1) := by decide +kernel
theorem dX7_pushes_40 : decode cX7_pushes 40 = .ok (.iload_n 2, 1) := by decide +kernel
theorem dX7_pushes_41 : decode cX7_pushes 41 = .ok (.iconst 5, 1) := by decide +kernel
theorem dX7_pushes_42 : decode cX7_pushes 42 = .ok (.if_icmp .ne 35, 3) := by decide +kernel
theorem dX7_pushes_45 : decode cX7_pushes 45 = .ok (.aload_n 0, 1) := by decide +kernel
theorem dX7_pushes_46 : decode cX7_pushes 46 = .ok (.iload_n 1, 1) := by decide +kernel
theorem dX7_pushes_47 : decode cX7_pushes 47 = .ok (.invokevirtual 84, 3) := by decide +kernel
theorem dX7_pushes_50 : decode cX7_pushes 50 = .ok (.ifCond .eq 27, 3) := by decide +kernel
theorem dX7_pushes_53 : decode cX7_pushes 53 = .ok (.aload_n 0, 1) := by decide +kernel
theorem dX7_pushes_54 : decode cX7_pushes 54 = .ok (.getfield 7, 3) := by decide +kernel
theorem dX7_pushes_57 : decode cX7_pushes 57 = .ok (.iconst 4, 1) := by decide +kernel
theorem dX7_pushes_58 : decode cX7_pushes 58 = .ok (.iaload, 1) := by decide +kernel
theorem dX7_pushes_59 : decode cX7_pushes 59 = .ok (.aload_n 0, 1) := by decide +kernel
theorem dX7_pushes_60 : decode cX7_pushes 60 = .ok (.iload_n 1, 1) := by decide +kernel
theorem dX7_pushes_61 : decode cX7_pushes 61 = .ok (.iconst 1, 1) := by decide +kernel
theorem dX7_pushes_62 : decode cX7_pushes 62 = .ok (.invokevirtual 55, 3) := by decide +kernel
theorem dX7_pushes_65 : decode cX7_pushes 65 = .ok (.if_icmp .ne 12, 3) := by decide +kernel
theorem dX7_pushes_68 : decode cX7_pushes 68 = .ok (.aload_n 0, 1) := by decide +kernel
theorem dX7_pushes_69 : decode cX7_pushes 69 = .ok (.getfield 7, 3) := by decide +kernel
theorem dX7_pushes_72 : decode cX7_pushes 72 = .ok (.iconst 3, 1) := by decide +kernel
theorem dX7_pushes_73 : decode cX7_pushes 73 = .ok (.iaload, 1) := by decide +kernel
theorem dX7_pushes_74 : decode cX7_pushes 74 = .ok (.goto 4, 3) := by decide +kernel
theorem dX7_pushes_77 : decode cX7_pushes 77 = .ok (.iconst 0, 1) := by decide +kernel
theorem dX7_pushes_78 : decode cX7_pushes 78 = .ok (.ireturn, 1) := by decide +kernel
theorem dX7_holdsOf_0 : decode cX7_holdsOf 0 = .ok (.aload_n 0, 1) := by decide +kernel
theorem dX7_holdsOf_1 : decode cX7_holdsOf 1 = .ok (.iload_n 1, 1) := by decide +kernel
theorem dX7_holdsOf_2 : decode cX7_holdsOf 2 = .ok (.invokevirtual 88, 3) := by decide +kernel
theorem dX7_holdsOf_5 : decode cX7_holdsOf 5 = .ok (.aload_n 0, 1) := by decide +kernel
theorem dX7_holdsOf_6 : decode cX7_holdsOf 6 = .ok (.getfield 7, 3) := by decide +kernel
theorem dX7_holdsOf_9 : decode cX7_holdsOf 9 = .ok (.bipush 8, 2) := by decide +kernel
theorem dX7_holdsOf_11 : decode cX7_holdsOf 11 = .ok (.iaload, 1) := by decide +kernel
theorem dX7_holdsOf_12 : decode cX7_holdsOf 12 = .ok (.imul, 1) := by decide +kernel
theorem dX7_holdsOf_13 : decode cX7_holdsOf 13 = .ok (.bipush 20, 2) := by decide +kernel
theorem dX7_holdsOf_15 : decode cX7_holdsOf 15 = .ok (.idiv, 1) := by decide +kernel
theorem dX7_holdsOf_16 : decode cX7_holdsOf 16 = .ok (.istore_n 2, 1) := by decide +kernel
theorem dX7_holdsOf_17 : decode cX7_holdsOf 17 = .ok (.aload_n 0, 1) := by decide +kernel
theorem dX7_holdsOf_18 : decode cX7_holdsOf 18 = .ok (.iload_n 1, 1) := by decide +kernel
theorem dX7_holdsOf_19 : decode cX7_holdsOf 19 = .ok (.iconst 0, 1) := by decide +kernel
theorem dX7_holdsOf_20 : decode cX7_holdsOf 20 = .ok (.invokevirtual 55, 3) := by decide +kernel
theorem dX7_holdsOf_23 : decode cX7_holdsOf 23 = .ok (.tableswitch 77 2 6 #[33, 49, 68, 68, 35], 33) := by decide +kernel
theorem dX7_holdsOf_56 : decode cX7_holdsOf 56 = .ok (.iload_n 2, 1) := by decide +kernel
theorem dX7_holdsOf_57 : decode cX7_holdsOf 57 = .ok (.ireturn, 1) := by decide +kernel
theorem dX7_holdsOf_58 : decode cX7_holdsOf 58 = .ok (.iload_n 2, 1) := by decide +kernel
theorem dX7_holdsOf_59 : decode cX7_holdsOf 59 = .ok (.aload_n 0, 1) := by decide +kernel
theorem dX7_holdsOf_60 : decode cX7_holdsOf 60 = .ok (.getfield 7, 3) := by decide +kernel
theorem dX7_holdsOf_63 : decode cX7_holdsOf 63 = .ok (.iconst 5, 1) := by decide +kernel
theorem dX7_holdsOf_64 : decode cX7_holdsOf 64 = .ok (.iaload, 1) := by decide +kernel
theorem dX7_holdsOf_65 : decode cX7_holdsOf 65 = .ok (.iload_n 2, 1) := by decide +kernel
theorem dX7_holdsOf_66 : decode cX7_holdsOf 66 = .ok (.imul, 1) := by decide +kernel
theorem dX7_holdsOf_67 : decode cX7_holdsOf 67 = .ok (.bipush 10, 2) := by decide +kernel
theorem dX7_holdsOf_69 : decode cX7_holdsOf 69 = .ok (.idiv, 1) := by decide +kernel
theorem dX7_holdsOf_70 : decode cX7_holdsOf 70 = .ok (.isub, 1) := by decide +kernel
theorem dX7_holdsOf_71 : decode cX7_holdsOf 71 = .ok (.ireturn, 1) := by decide +kernel
theorem dX7_holdsOf_72 : decode cX7_holdsOf 72 = .ok (.aload_n 0, 1) := by decide +kernel
theorem dX7_holdsOf_73 : decode cX7_holdsOf 73 = .ok (.iload_n 1, 1) := by decide +kernel
theorem dX7_holdsOf_74 : decode cX7_holdsOf 74 = .ok (.invokevirtual 88, 3) := by decide +kernel
theorem dX7_holdsOf_77 : decode cX7_holdsOf 77 = .ok (.ifCond .le 12, 3) := by decide +kernel
theorem dX7_holdsOf_80 : decode cX7_holdsOf 80 = .ok (.aload_n 0, 1) := by decide +kernel
theorem dX7_holdsOf_81 : decode cX7_holdsOf 81 = .ok (.iload_n 1, 1) := by decide +kernel
theorem dX7_holdsOf_82 : decode cX7_holdsOf 82 = .ok (.iconst 3, 1) := by decide +kernel
theorem dX7_holdsOf_83 : decode cX7_holdsOf 83 = .ok (.invokevirtual 55, 3) := by decide +kernel
theorem dX7_holdsOf_86 : decode cX7_holdsOf 86 = .ok (.goto 4, 3) := by decide +kernel
theorem dX7_holdsOf_89 : decode cX7_holdsOf 89 = .ok (.iconst 0, 1) := by decide +kernel
theorem dX7_holdsOf_90 : decode cX7_holdsOf 90 = .ok (.ireturn, 1) := by decide +kernel
theorem dX7_holdsOf_91 : decode cX7_holdsOf 91 = .ok (.aload_n 0, 1) := by decide +kernel
theorem dX7_holdsOf_92 : decode cX7_holdsOf 92 = .ok (.iload_n 1, 1) := by decide +kernel
theorem dX7_holdsOf_93 : decode cX7_holdsOf 93 = .ok (.invokevirtual 88, 3) := by decide +kernel
theorem dX7_holdsOf_96 : decode cX7_holdsOf 96 = .ok (.bipush 10, 2) := by decide +kernel
theorem dX7_holdsOf_98 : decode cX7_holdsOf 98 = .ok (.idiv, 1) := by decide +kernel
theorem dX7_holdsOf_99 : decode cX7_holdsOf 99 = .ok (.ireturn, 1) := by decide +kernel
theorem dX7_holdsOf_100 : decode cX7_holdsOf 100 = .ok (.iconst 0, 1) := by decide +kernel
theorem dX7_holdsOf_101 : decode cX7_holdsOf 101 = .ok (.ireturn, 1) := by decide +kernel
theorem dX7_warms_0 : decode cX7_warms 0 = .ok (.aload_n 0, 1) := by decide +kernel
theorem dX7_warms_1 : decode cX7_warms 1 = .ok (.iload_n 1, 1) := by decide +kernel
theorem dX7_warms_2 : decode cX7_warms 2 = .ok (.iconst 0, 1) := by decide +kernel
theorem dX7_warms_3 : decode cX7_warms 3 = .ok (.invokevirtual 55, 3) := by decide +kernel
theorem dX7_warms_6 : decode cX7_warms 6 = .ok (.istore_n 2, 1) := by decide +kernel
theorem dX7_warms_7 : decode cX7_warms 7 = .ok (.iload_n 2, 1) := by decide +kernel
theorem dX7_warms_8 : decode cX7_warms 8 = .ok (.iconst 4, 1) := by decide +kernel
theorem dX7_warms_9 : decode cX7_warms 9 = .ok (.if_icmp .eq 10, 3) := by decide +kernel
theorem dX7_warms_12 : decode cX7_warms 12 = .ok (.iload_n 2, 1) := by decide +kernel
theorem dX7_warms_13 : decode cX7_warms 13 = .ok (.iconst 5, 1) := by decide +kernel
theorem dX7_warms_14 : decode cX7_warms 14 = .ok (.if_icmp .eq 5, 3) := by decide +kernel
theorem dX7_warms_17 : decode cX7_warms 17 = .ok (.iconst 0, 1) := by decide +kernel
theorem dX7_warms_18 : decode cX7_warms 18 = .ok (.ireturn, 1) := by decide +kernel
theorem dX7_warms_19 : decode cX7_warms 19 = .ok (.aload_n 0, 1) := by decide +kernel
theorem dX7_warms_20 : decode cX7_warms 20 = .ok (.getfield 7, 3) := by decide +kernel
theorem dX7_warms_23 : decode cX7_warms 23 = .ok (.iconst 5, 1) := by decide +kernel
theorem dX7_warms_24 : decode cX7_warms 24 = .ok (.iaload, 1) := by decide +kernel
theorem dX7_warms_25 : decode cX7_warms 25 = .ok (.iconst 5, 1) := by decide +kernel
theorem dX7_warms_26 : decode cX7_warms 26 = .ok (.if_icmp .lt 15, 3) := by decide +kernel
theorem dX7_warms_29 : decode cX7_warms 29 = .ok (.aload_n 0, 1) := by decide +kernel
theorem dX7_warms_30 : decode cX7_warms 30 = .ok (.iload_n 1, 1) := by decide +kernel
theorem dX7_warms_31 : decode cX7_warms 31 = .ok (.invokevirtual 88, 3) := by decide +kernel
theorem dX7_warms_34 : decode cX7_warms 34 = .ok (.iconst 5, 1) := by decide +kernel
theorem dX7_warms_35 : decode cX7_warms 35 = .ok (.idiv, 1) := by decide +kernel
theorem dX7_warms_36 : decode cX7_warms 36 = .ok (.iconst 2, 1) := by decide +kernel
theorem dX7_warms_37 : decode cX7_warms 37 = .ok (.idiv, 1) := by decide +kernel
theorem dX7_warms_38 : decode cX7_warms 38 = .ok (.goto 10, 3) := by decide +kernel
theorem dX7_warms_41 : decode cX7_warms 41 = .ok (.aload_n 0, 1) := by decide +kernel
theorem dX7_warms_42 : decode cX7_warms 42 = .ok (.iload_n 1, 1) := by decide +kernel
theorem dX7_warms_43 : decode cX7_warms 43 = .ok (.invokevirtual 88, 3) := by decide +kernel
theorem dX7_warms_46 : decode cX7_warms 46 = .ok (.iconst 5, 1) := by decide +kernel
theorem dX7_warms_47 : decode cX7_warms 47 = .ok (.idiv, 1) := by decide +kernel
theorem dX7_warms_48 : decode cX7_warms 48 = .ok (.istore_n 3, 1) := by decide +kernel
theorem dX7_warms_49 : decode cX7_warms 49 = .ok (.iload_n 3, 1) := by decide +kernel
theorem dX7_warms_50 : decode cX7_warms 50 = .ok (.aload_n 0, 1) := by decide +kernel
theorem dX7_warms_51 : decode cX7_warms 51 = .ok (.getfield 7, 3) := by decide +kernel
theorem dX7_warms_54 : decode cX7_warms 54 = .ok (.iconst 3, 1) := by decide +kernel
theorem dX7_warms_55 : decode cX7_warms 55 = .ok (.iaload, 1) := by decide +kernel
theorem dX7_warms_56 : decode cX7_warms 56 = .ok (.bipush 10, 2) := by decide +kernel
theorem dX7_warms_58 : decode cX7_warms 58 = .ok (.idiv, 1) := by decide +kernel
theorem dX7_warms_59 : decode cX7_warms 59 = .ok (.isub, 1) := by decide +kernel
theorem dX7_warms_60 : decode cX7_warms 60 = .ok (.istore 4, 2) := by decide +kernel
theorem dX7_warms_62 : decode cX7_warms 62 = .ok (.iload_n 2, 1) := by decide +kernel
theorem dX7_warms_63 : decode cX7_warms 63 = .ok (.iconst 4, 1) := by decide +kernel
theorem dX7_warms_64 : decode cX7_warms 64 = .ok (.if_icmp .ne 7, 3) := by decide +kernel
theorem dX7_warms_67 : decode cX7_warms 67 = .ok (.iload_n 3, 1) := by decide +kernel
theorem dX7_warms_68 : decode cX7_warms 68 = .ok (.goto 14, 3) := by decide +kernel
theorem dX7_warms_71 : decode cX7_warms 71 = .ok (.iload 4, 2) := by decide +kernel
theorem dX7_warms_73 : decode cX7_warms 73 = .ok (.ifCond .ge 7, 3) := by decide +kernel
theorem dX7_warms_76 : decode cX7_warms 76 = .ok (.iconst 0, 1) := by decide +kernel
theorem dX7_warms_77 : decode cX7_warms 77 = .ok (.goto 5, 3) := by decide +kernel
theorem dX7_warms_80 : decode cX7_warms 80 = .ok (.iload 4, 2) := by decide +kernel
theorem dX7_warms_82 : decode cX7_warms 82 = .ok (.ireturn, 1) := by decide +kernel
theorem dX7_of_0 : decode cX7_of 0 = .ok (.aload_n 0, 1) := by decide +kernel
theorem dX7_of_1 : decode cX7_of 1 = .ok (.iload_n 1, 1) := by decide +kernel
theorem dX7_of_2 : decode cX7_of 2 = .ok (.invokevirtual 91, 3) := by decide +kernel
theorem dX7_of_5 : decode cX7_of 5 = .ok (.ifCond .eq 15, 3) := by decide +kernel
theorem dX7_of_8 : decode cX7_of 8 = .ok (.iload_n 2, 1) := by decide +kernel
theorem dX7_of_9 : decode cX7_of 9 = .ok (.i2l, 1) := by decide +kernel
theorem dX7_of_10 : decode cX7_of 10 = .ok (.lconst 0, 1) := by decide +kernel
theorem dX7_of_11 : decode cX7_of 11 = .ok (.ldc2_w 94, 3) := by decide +kernel
theorem dX7_of_14 : decode cX7_of 14 = .ok (.invokestatic 65, 3) := by decide +kernel
theorem dX7_of_17 : decode cX7_of 17 = .ok (.ifCond .ne 10, 3) := by decide +kernel
theorem dX7_of_20 : decode cX7_of 20 = .ok (.aload_n 0, 1) := by decide +kernel
theorem dX7_of_21 : decode cX7_of 21 = .ok (.ldc 54, 2) := by decide +kernel
theorem dX7_of_23 : decode cX7_of 23 = .ok (.invokevirtual 75, 3) := by decide +kernel
theorem dX7_of_26 : decode cX7_of 26 = .ok (.ireturn, 1) := by decide +kernel
theorem dX7_of_27 : decode cX7_of 27 = .ok (.iload_n 2, 1) := by decide +kernel
theorem dX7_of_28 : decode cX7_of 28 = .ok (.bipush 6, 2) := by decide +kernel
theorem dX7_of_30 : decode cX7_of 30 = .ok (.if_icmp .ge 12, 3) := by decide +kernel
theorem dX7_of_33 : decode cX7_of 33 = .ok (.aload_n 0, 1) := by decide +kernel
theorem dX7_of_34 : decode cX7_of 34 = .ok (.iload_n 1, 1) := by decide +kernel
theorem dX7_of_35 : decode cX7_of 35 = .ok (.iload_n 2, 1) := by decide +kernel
theorem dX7_of_36 : decode cX7_of 36 = .ok (.invokevirtual 55, 3) := by decide +kernel
theorem dX7_of_39 : decode cX7_of 39 = .ok (.goto 50, 3) := by decide +kernel
theorem dX7_of_42 : decode cX7_of 42 = .ok (.iload_n 2, 1) := by decide +kernel
theorem dX7_of_43 : decode cX7_of 43 = .ok (.bipush 6, 2) := by decide +kernel
theorem dX7_of_45 : decode cX7_of 45 = .ok (.if_icmp .ne 11, 3) := by decide +kernel
theorem dX7_of_48 : decode cX7_of 48 = .ok (.aload_n 0, 1) := by decide +kernel
theorem dX7_of_49 : decode cX7_of 49 = .ok (.iload_n 1, 1) := by decide +kernel
theorem dX7_of_50 : decode cX7_of 50 = .ok (.invokevirtual 88, 3) := by decide +kernel
theorem dX7_of_53 : decode cX7_of 53 = .ok (.goto 36, 3) := by decide +kernel
theorem dX7_of_56 : decode cX7_of 56 = .ok (.iload_n 2, 1) := by decide +kernel
theorem dX7_of_57 : decode cX7_of 57 = .ok (.bipush 7, 2) := by decide +kernel
theorem dX7_of_59 : decode cX7_of 59 = .ok (.if_icmp .ne 11, 3) := by decide +kernel
theorem dX7_of_62 : decode cX7_of 62 = .ok (.aload_n 0, 1) := by decide +kernel
theorem dX7_of_63 : decode cX7_of 63 = .ok (.iload_n 1, 1) := by decide +kernel
theorem dX7_of_64 : decode cX7_of 64 = .ok (.invokevirtual 96, 3) := by decide +kernel
theorem dX7_of_67 : decode cX7_of 67 = .ok (.goto 22, 3) := by decide +kernel
theorem dX7_of_70 : decode cX7_of 70 = .ok (.iload_n 2, 1) := by decide +kernel
theorem dX7_of_71 : decode cX7_of 71 = .ok (.bipush 8, 2) := by decide +kernel
theorem dX7_of_73 : decode cX7_of 73 = .ok (.if_icmp .ne 11, 3) := by decide +kernel
theorem dX7_of_76 : decode cX7_of 76 = .ok (.aload_n 0, 1) := by decide +kernel
theorem dX7_of_77 : decode cX7_of 77 = .ok (.iload_n 1, 1) := by decide +kernel
theorem dX7_of_78 : decode cX7_of 78 = .ok (.invokevirtual 99, 3) := by decide +kernel
theorem dX7_of_81 : decode cX7_of 81 = .ok (.goto 8, 3) := by decide +kernel
theorem dX7_of_84 : decode cX7_of 84 = .ok (.aload_n 0, 1) := by decide +kernel
theorem dX7_of_85 : decode cX7_of 85 = .ok (.iload_n 1, 1) := by decide +kernel
theorem dX7_of_86 : decode cX7_of 86 = .ok (.invokevirtual 102, 3) := by decide +kernel
theorem dX7_of_89 : decode cX7_of 89 = .ok (.ireturn, 1) := by decide +kernel
theorem dX7_set_0 : decode cX7_set 0 = .ok (.aload_n 0, 1) := by decide +kernel
theorem dX7_set_1 : decode cX7_set 1 = .ok (.iload_n 1, 1) := by decide +kernel
theorem dX7_set_2 : decode cX7_set 2 = .ok (.invokevirtual 91, 3) := by decide +kernel
theorem dX7_set_5 : decode cX7_set 5 = .ok (.ifCond .eq 49, 3) := by decide +kernel
theorem dX7_set_8 : decode cX7_set 8 = .ok (.iload_n 2, 1) := by decide +kernel
theorem dX7_set_9 : decode cX7_set 9 = .ok (.i2l, 1) := by decide +kernel
theorem dX7_set_10 : decode cX7_set 10 = .ok (.ldc2_w 105, 3) := by decide +kernel
theorem dX7_set_13 : decode cX7_set 13 = .ok (.ldc2_w 107, 3) := by decide +kernel
theorem dX7_set_16 : decode cX7_set 16 = .ok (.invokestatic 65, 3) := by decide +kernel
theorem dX7_set_19 : decode cX7_set 19 = .ok (.ifCond .eq 35, 3) := by decide +kernel
theorem dX7_set_22 : decode cX7_set 22 = .ok (.iload_n 3, 1) := by decide +kernel
theorem dX7_set_23 : decode cX7_set 23 = .ok (.i2l, 1) := by decide +kernel
theorem dX7_set_24 : decode cX7_set 24 = .ok (.iload_n 2, 1) := by decide +kernel
theorem dX7_set_25 : decode cX7_set 25 = .ok (.iconst 2, 1) := by decide +kernel
theorem dX7_set_26 : decode cX7_set 26 = .ok (.if_icmp .ne 7, 3) := by decide +kernel
theorem dX7_set_29 : decode cX7_set 29 = .ok (.lconst 1, 1) := by decide +kernel
theorem dX7_set_30 : decode cX7_set 30 = .ok (.goto 4, 3) := by decide +kernel
theorem dX7_set_33 : decode cX7_set 33 = .ok (.lconst 0, 1) := by decide +kernel
theorem dX7_set_34 : decode cX7_set 34 = .ok (.iload_n 2, 1) := by decide +kernel
theorem dX7_set_35 : decode cX7_set 35 = .ok (.iconst 2, 1) := by decide +kernel
theorem dX7_set_36 : decode cX7_set 36 = .ok (.if_icmp .ne 9, 3) := by decide +kernel
theorem dX7_set_39 : decode cX7_set 39 = .ok (.ldc2_w 71, 3) := by decide +kernel
theorem dX7_set_42 : decode cX7_set 42 = .ok (.goto 6, 3) := by decide +kernel
theorem dX7_set_45 : decode cX7_set 45 = .ok (.ldc2_w 73, 3) := by decide +kernel
theorem dX7_set_48 : decode cX7_set 48 = .ok (.invokestatic 65, 3) := by decide +kernel
theorem dX7_set_51 : decode cX7_set 51 = .ok (.ifCond .ne 10, 3) := by decide +kernel
theorem dX7_set_54 : decode cX7_set 54 = .ok (.aload_n 0, 1) := by decide +kernel
theorem dX7_set_55 : decode cX7_set 55 = .ok (.ldc 54, 2) := by decide +kernel
theorem dX7_set_57 : decode cX7_set 57 = .ok (.invokevirtual 75, 3) := by decide +kernel
theorem dX7_set_60 : decode cX7_set 60 = .ok (.ireturn, 1) := by decide +kernel
theorem dX7_set_61 : decode cX7_set 61 = .ok (.aload_n 0, 1) := by decide +kernel
theorem dX7_set_62 : decode cX7_set 62 = .ok (.bipush 12, 2) := by decide +kernel
theorem dX7_set_64 : decode cX7_set 64 = .ok (.bipush 6, 2) := by decide +kernel
theorem dX7_set_66 : decode cX7_set 66 = .ok (.iload_n 1, 1) := by decide +kernel
theorem dX7_set_67 : decode cX7_set 67 = .ok (.imul, 1) := by decide +kernel
theorem dX7_set_68 : decode cX7_set 68 = .ok (.iadd, 1) := by decide +kernel
theorem dX7_set_69 : decode cX7_set 69 = .ok (.iload_n 2, 1) := by decide +kernel
theorem dX7_set_70 : decode cX7_set 70 = .ok (.iadd, 1) := by decide +kernel
theorem dX7_set_71 : decode cX7_set 71 = .ok (.iload_n 3, 1) := by decide +kernel
theorem dX7_set_72 : decode cX7_set 72 = .ok (.invokevirtual 109, 3) := by decide +kernel
theorem dX7_set_75 : decode cX7_set 75 = .ok (.ireturn, 1) := by decide +kernel
theorem dX7_want_0 : decode cX7_want 0 = .ok (.aload_n 0, 1) := by decide +kernel
theorem dX7_want_1 : decode cX7_want 1 = .ok (.iload_n 1, 1) := by decide +kernel
theorem dX7_want_2 : decode cX7_want 2 = .ok (.invokevirtual 91, 3) := by decide +kernel
theorem dX7_want_5 : decode cX7_want 5 = .ok (.ifCond .ne 10, 3) := by decide +kernel
theorem dX7_want_8 : decode cX7_want 8 = .ok (.aload_n 0, 1) := by decide +kernel
theorem dX7_want_9 : decode cX7_want 9 = .ok (.ldc 54, 2) := by decide +kernel
theorem dX7_want_11 : decode cX7_want 11 = .ok (.invokevirtual 75, 3) := by decide +kernel
theorem dX7_want_14 : decode cX7_want 14 = .ok (.ireturn, 1) := by decide +kernel
theorem dX7_want_15 : decode cX7_want 15 = .ok (.iload_n 2, 1) := by decide +kernel
theorem dX7_want_16 : decode cX7_want 16 = .ok (.ifCond .eq 7, 3) := by decide +kernel
theorem dX7_want_19 : decode cX7_want 19 = .ok (.iconst 1, 1) := by decide +kernel
theorem dX7_want_20 : decode cX7_want 20 = .ok (.goto 4, 3) := by decide +kernel
theorem dX7_want_23 : decode cX7_want 23 = .ok (.iconst 0, 1) := by decide +kernel
theorem dX7_want_24 : decode cX7_want 24 = .ok (.istore_n 3, 1) := by decide +kernel
theorem dX7_want_25 : decode cX7_want 25 = .ok (.aload_n 0, 1) := by decide +kernel
theorem dX7_want_26 : decode cX7_want 26 = .ok (.bipush 12, 2) := by decide +kernel
theorem dX7_want_28 : decode cX7_want 28 = .ok (.bipush 6, 2) := by decide +kernel
theorem dX7_want_30 : decode cX7_want 30 = .ok (.iload_n 1, 1) := by decide +kernel
theorem dX7_want_31 : decode cX7_want 31 = .ok (.imul, 1) := by decide +kernel
theorem dX7_want_32 : decode cX7_want 32 = .ok (.iadd, 1) := by decide +kernel
theorem dX7_want_33 : decode cX7_want 33 = .ok (.iconst 5, 1) := by decide +kernel
theorem dX7_want_34 : decode cX7_want 34 = .ok (.iadd, 1) := by decide +kernel
theorem dX7_want_35 : decode cX7_want 35 = .ok (.iload_n 3, 1) := by decide +kernel
theorem dX7_want_36 : decode cX7_want 36 = .ok (.invokevirtual 109, 3) := by decide +kernel
theorem dX7_want_39 : decode cX7_want 39 = .ok (.iload_n 3, 1) := by decide +kernel
theorem dX7_want_40 : decode cX7_want 40 = .ok (.if_icmp .ne 7, 3) := by decide +kernel
theorem dX7_want_43 : decode cX7_want 43 = .ok (.iconst 0, 1) := by decide +kernel
theorem dX7_want_44 : decode cX7_want 44 = .ok (.goto 4, 3) := by decide +kernel
theorem dX7_want_47 : decode cX7_want 47 = .ok (.iconst 1, 1) := by decide +kernel
theorem dX7_want_48 : decode cX7_want 48 = .ok (.ireturn, 1) := by decide +kernel
theorem dX7_as_0 : decode cX7_as 0 = .ok (.aload_n 0, 1) := by decide +kernel
theorem dX7_as_1 : decode cX7_as 1 = .ok (.iload_n 1, 1) := by decide +kernel
theorem dX7_as_2 : decode cX7_as 2 = .ok (.invokevirtual 91, 3) := by decide +kernel
theorem dX7_as_5 : decode cX7_as 5 = .ok (.ifCond .eq 15, 3) := by decide +kernel
theorem dX7_as_8 : decode cX7_as 8 = .ok (.iload_n 2, 1) := by decide +kernel
theorem dX7_as_9 : decode cX7_as 9 = .ok (.i2l, 1) := by decide +kernel
theorem dX7_as_10 : decode cX7_as 10 = .ok (.lconst 0, 1) := by decide +kernel
theorem dX7_as_11 : decode cX7_as 11 = .ok (.ldc2_w 63, 3) := by decide +kernel
theorem dX7_as_14 : decode cX7_as 14 = .ok (.invokestatic 65, 3) := by decide +kernel
theorem dX7_as_17 : decode cX7_as 17 = .ok (.ifCond .ne 10, 3) := by decide +kernel
theorem dX7_as_20 : decode cX7_as 20 = .ok (.aload_n 0, 1) := by decide +kernel
theorem dX7_as_21 : decode cX7_as 21 = .ok (.ldc 54, 2) := by decide +kernel
theorem dX7_as_23 : decode cX7_as 23 = .ok (.invokevirtual 75, 3) := by decide +kernel
theorem dX7_as_26 : decode cX7_as 26 = .ok (.ireturn, 1) := by decide +kernel
theorem dX7_as_27 : decode cX7_as 27 = .ok (.aload_n 0, 1) := by decide +kernel
theorem dX7_as_28 : decode cX7_as 28 = .ok (.iload_n 1, 1) := by decide +kernel
theorem dX7_as_29 : decode cX7_as 29 = .ok (.iconst 0, 1) := by decide +kernel
theorem dX7_as_30 : decode cX7_as 30 = .ok (.invokevirtual 55, 3) := by decide +kernel
theorem dX7_as_33 : decode cX7_as 33 = .ok (.istore_n 3, 1) := by decide +kernel
theorem dX7_as_34 : decode cX7_as 34 = .ok (.iload_n 3, 1) := by decide +kernel
theorem dX7_as_35 : decode cX7_as 35 = .ok (.iload_n 2, 1) := by decide +kernel
theorem dX7_as_36 : decode cX7_as 36 = .ok (.if_icmp .eq 28, 3) := by decide +kernel
theorem dX7_as_39 : decode cX7_as 39 = .ok (.iload_n 2, 1) := by decide +kernel
theorem dX7_as_40 : decode cX7_as 40 = .ok (.ifCond .eq 24, 3) := by decide +kernel
theorem dX7_as_43 : decode cX7_as 43 = .ok (.iload_n 2, 1) := by decide +kernel
theorem dX7_as_44 : decode cX7_as 44 = .ok (.iconst 4, 1) := by decide +kernel
theorem dX7_as_45 : decode cX7_as 45 = .ok (.if_icmp .ne 8, 3) := by decide +kernel
theorem dX7_as_48 : decode cX7_as 48 = .ok (.iload_n 3, 1) := by decide +kernel
theorem dX7_as_49 : decode cX7_as 49 = .ok (.iconst 5, 1) := by decide +kernel
theorem dX7_as_50 : decode cX7_as 50 = .ok (.if_icmp .eq 14, 3) := by decide +kernel
theorem dX7_as_53 : decode cX7_as 53 = .ok (.iload_n 2, 1) := by decide +kernel
theorem dX7_as_54 : decode cX7_as 54 = .ok (.iconst 2, 1) := by decide +kernel
theorem dX7_as_55 : decode cX7_as 55 = .ok (.if_icmp .ne 13, 3) := by decide +kernel
theorem dX7_as_58 : decode cX7_as 58 = .ok (.iload_n 3, 1) := by decide +kernel
theorem dX7_as_59 : decode cX7_as 59 = .ok (.bipush 6, 2) := by decide +kernel
theorem dX7_as_61 : decode cX7_as 61 = .ok (.if_icmp .ne 7, 3) := by decide +kernel
theorem dX7_as_64 : decode cX7_as 64 = .ok (.iconst 1, 1) := by decide +kernel
theorem dX7_as_65 : decode cX7_as 65 = .ok (.goto 4, 3) := by decide +kernel
theorem dX7_as_68 : decode cX7_as 68 = .ok (.iconst 0, 1) := by decide +kernel
theorem dX7_as_69 : decode cX7_as 69 = .ok (.istore 4, 2) := by decide +kernel
theorem dX7_as_71 : decode cX7_as 71 = .ok (.iload 4, 2) := by decide +kernel
theorem dX7_as_73 : decode cX7_as 73 = .ok (.ifCond .eq 11, 3) := by decide +kernel
theorem dX7_as_76 : decode cX7_as 76 = .ok (.aload_n 0, 1) := by decide +kernel
theorem dX7_as_77 : decode cX7_as 77 = .ok (.iload_n 1, 1) := by decide +kernel
theorem dX7_as_78 : decode cX7_as 78 = .ok (.invokevirtual 88, 3) := by decide +kernel
theorem dX7_as_81 : decode cX7_as 81 = .ok (.goto 9, 3) := by decide +kernel
theorem dX7_as_84 : decode cX7_as 84 = .ok (.aload_n 0, 1) := by decide +kernel
theorem dX7_as_85 : decode cX7_as 85 = .ok (.ldc 112, 2) := by decide +kernel
theorem dX7_as_87 : decode cX7_as 87 = .ok (.invokevirtual 75, 3) := by decide +kernel
theorem dX7_as_90 : decode cX7_as 90 = .ok (.ireturn, 1) := by decide +kernel
theorem dX7_mostSky_0 : decode cX7_mostSky 0 = .ok (.iload_n 0, 1) := by decide +kernel
theorem dX7_mostSky_1 : decode cX7_mostSky 1 = .ok (.iconst 1, 1) := by decide +kernel
theorem dX7_mostSky_2 : decode cX7_mostSky 2 = .ok (.if_icmp .ne 8, 3) := by decide +kernel
theorem dX7_mostSky_5 : decode cX7_mostSky 5 = .ok (.bipush 7, 2) := by decide +kernel
theorem dX7_mostSky_7 : decode cX7_mostSky 7 = .ok (.goto 25, 3) := by decide +kernel
theorem dX7_mostSky_10 : decode cX7_mostSky 10 = .ok (.iload_n 0, 1) := by decide +kernel
theorem dX7_mostSky_11 : decode cX7_mostSky 11 = .ok (.iconst 2, 1) := by decide +kernel
theorem dX7_mostSky_12 : decode cX7_mostSky 12 = .ok (.if_icmp .ne 8, 3) := by decide +kernel
theorem dX7_mostSky_15 : decode cX7_mostSky 15 = .ok (.bipush 9, 2) := by decide +kernel
theorem dX7_mostSky_17 : decode cX7_mostSky 17 = .ok (.goto 15, 3) := by decide +kernel
theorem dX7_mostSky_20 : decode cX7_mostSky 20 = .ok (.iload_n 0, 1) := by decide +kernel
theorem dX7_mostSky_21 : decode cX7_mostSky 21 = .ok (.iconst 4, 1) := by decide +kernel
theorem dX7_mostSky_22 : decode cX7_mostSky 22 = .ok (.if_icmp .ne 8, 3) := by decide +kernel
theorem dX7_mostSky_25 : decode cX7_mostSky 25 = .ok (.bipush 60, 2) := by decide +kernel
theorem dX7_mostSky_27 : decode cX7_mostSky 27 = .ok (.goto 5, 3) := by decide +kernel
theorem dX7_mostSky_30 : decode cX7_mostSky 30 = .ok (.bipush 99, 2) := by decide +kernel
theorem dX7_mostSky_32 : decode cX7_mostSky 32 = .ok (.ireturn, 1) := by decide +kernel
theorem dX7_sky_0 : decode cX7_sky 0 = .ok (.iload_n 1, 1) := by decide +kernel
theorem dX7_sky_1 : decode cX7_sky 1 = .ok (.i2l, 1) := by decide +kernel
theorem dX7_sky_2 : decode cX7_sky 2 = .ok (.lconst 0, 1) := by decide +kernel
theorem dX7_sky_3 : decode cX7_sky 3 = .ok (.ldc2_w 107, 3) := by decide +kernel
theorem dX7_sky_6 : decode cX7_sky 6 = .ok (.invokestatic 65, 3) := by decide +kernel
theorem dX7_sky_9 : decode cX7_sky 9 = .ok (.ifCond .eq 28, 3) := by decide +kernel
theorem dX7_sky_12 : decode cX7_sky 12 = .ok (.iload_n 2, 1) := by decide +kernel
theorem dX7_sky_13 : decode cX7_sky 13 = .ok (.i2l, 1) := by decide +kernel
theorem dX7_sky_14 : decode cX7_sky 14 = .ok (.lconst 0, 1) := by decide +kernel
theorem dX7_sky_15 : decode cX7_sky 15 = .ok (.iload_n 1, 1) := by decide +kernel
theorem dX7_sky_16 : decode cX7_sky 16 = .ok (.invokestatic 113, 3) := by decide +kernel
theorem dX7_sky_19 : decode cX7_sky 19 = .ok (.i2l, 1) := by decide +kernel
theorem dX7_sky_20 : decode cX7_sky 20 = .ok (.invokestatic 65, 3) := by decide +kernel
theorem dX7_sky_23 : decode cX7_sky 23 = .ok (.ifCond .eq 14, 3) := by decide +kernel
theorem dX7_sky_26 : decode cX7_sky 26 = .ok (.aload_n 0, 1) := by decide +kernel
theorem dX7_sky_27 : decode cX7_sky 27 = .ok (.iconst 3, 1) := by decide +kernel
theorem dX7_sky_28 : decode cX7_sky 28 = .ok (.iload_n 1, 1) := by decide +kernel
theorem dX7_sky_29 : decode cX7_sky 29 = .ok (.iadd, 1) := by decide +kernel
theorem dX7_sky_30 : decode cX7_sky 30 = .ok (.iload_n 2, 1) := by decide +kernel
theorem dX7_sky_31 : decode cX7_sky 31 = .ok (.invokevirtual 109, 3) := by decide +kernel
theorem dX7_sky_34 : decode cX7_sky 34 = .ok (.goto 9, 3) := by decide +kernel
theorem dX7_sky_37 : decode cX7_sky 37 = .ok (.aload_n 0, 1) := by decide +kernel
theorem dX7_sky_38 : decode cX7_sky 38 = .ok (.ldc 54, 2) := by decide +kernel
theorem dX7_sky_40 : decode cX7_sky 40 = .ok (.invokevirtual 75, 3) := by decide +kernel
theorem dX7_sky_43 : decode cX7_sky 43 = .ok (.ireturn, 1) := by decide +kernel
theorem dX7_draw_0 : decode cX7_draw 0 = .ok (.iload_n 1, 1) := by decide +kernel
theorem dX7_draw_1 : decode cX7_draw 1 = .ok (.i2l, 1) := by decide +kernel
theorem dX7_draw_2 : decode cX7_draw 2 = .ok (.lconst 0, 1) := by decide +kernel
theorem dX7_draw_3 : decode cX7_draw 3 = .ok (.ldc2_w 73, 3) := by decide +kernel
theorem dX7_draw_6 : decode cX7_draw 6 = .ok (.invokestatic 65, 3) := by decide +kernel
theorem dX7_draw_9 : decode cX7_draw 9 = .ok (.ifCond .eq 13, 3) := by decide +kernel
theorem dX7_draw_12 : decode cX7_draw 12 = .ok (.aload_n 0, 1) := by decide +kernel
theorem dX7_draw_13 : decode cX7_draw 13 = .ok (.bipush 8, 2) := by decide +kernel
theorem dX7_draw_15 : decode cX7_draw 15 = .ok (.iload_n 1, 1) := by decide +kernel
theorem dX7_draw_16 : decode cX7_draw 16 = .ok (.invokevirtual 109, 3) := by decide +kernel
theorem dX7_draw_19 : decode cX7_draw 19 = .ok (.goto 9, 3) := by decide +kernel
theorem dX7_draw_22 : decode cX7_draw 22 = .ok (.aload_n 0, 1) := by decide +kernel
theorem dX7_draw_23 : decode cX7_draw 23 = .ok (.ldc 54, 2) := by decide +kernel
theorem dX7_draw_25 : decode cX7_draw 25 = .ok (.invokevirtual 75, 3) := by decide +kernel
theorem dX7_draw_28 : decode cX7_draw 28 = .ok (.ireturn, 1) := by decide +kernel
theorem dX7_age_0 : decode cX7_age 0 = .ok (.iload_n 1, 1) := by decide +kernel
theorem dX7_age_1 : decode cX7_age 1 = .ok (.i2l, 1) := by decide +kernel
theorem dX7_age_2 : decode cX7_age 2 = .ok (.lconst 1, 1) := by decide +kernel
theorem dX7_age_3 : decode cX7_age 3 = .ok (.ldc2_w 116, 3) := by decide +kernel
theorem dX7_age_6 : decode cX7_age 6 = .ok (.invokestatic 65, 3) := by decide +kernel
theorem dX7_age_9 : decode cX7_age 9 = .ok (.ifCond .ne 10, 3) := by decide +kernel
theorem dX7_age_12 : decode cX7_age 12 = .ok (.aload_n 0, 1) := by decide +kernel
theorem dX7_age_13 : decode cX7_age 13 = .ok (.ldc 54, 2) := by decide +kernel
theorem dX7_age_15 : decode cX7_age 15 = .ok (.invokevirtual 75, 3) := by decide +kernel
theorem dX7_age_18 : decode cX7_age 18 = .ok (.ireturn, 1) := by decide +kernel
theorem dX7_age_19 : decode cX7_age 19 = .ok (.iconst 0, 1) := by decide +kernel
theorem dX7_age_20 : decode cX7_age 20 = .ok (.istore_n 2, 1) := by decide +kernel
theorem dX7_age_21 : decode cX7_age 21 = .ok (.iconst 0, 1) := by decide +kernel
theorem dX7_age_22 : decode cX7_age 22 = .ok (.istore_n 3, 1) := by decide +kernel
theorem dX7_age_23 : decode cX7_age 23 = .ok (.iload_n 3, 1) := by decide +kernel
theorem dX7_age_24 : decode cX7_age 24 = .ok (.iload_n 1, 1) := by decide +kernel
theorem dX7_age_25 : decode cX7_age 25 = .ok (.if_icmp .ge 117, 3) := by decide +kernel
theorem dX7_age_28 : decode cX7_age 28 = .ok (.iconst 0, 1) := by decide +kernel
theorem dX7_age_29 : decode cX7_age 29 = .ok (.istore 4, 2) := by decide +kernel
theorem dX7_age_31 : decode cX7_age 31 = .ok (.iload 4, 2) := by decide +kernel
theorem dX7_age_33 : decode cX7_age 33 = .ok (.aload_n 0, 1) := by decide +kernel
theorem dX7_age_34 : decode cX7_age 34 = .ok (.getfield 7, 3) := by decide +kernel
theorem dX7_age_37 : decode cX7_age 37 = .ok (.iconst 0, 1) := by decide +kernel
theorem dX7_age_38 : decode cX7_age 38 = .ok (.iaload, 1) := by decide +kernel
theorem dX7_age_39 : decode cX7_age 39 = .ok (.if_icmp .ge 97, 3) := by decide +kernel
theorem dX7_age_42 : decode cX7_age 42 = .ok (.aload_n 0, 1) := by decide +kernel
theorem dX7_age_43 : decode cX7_age 43 = .ok (.iload 4, 2) := by decide +kernel
theorem dX7_age_45 : decode cX7_age 45 = .ok (.invokevirtual 84, 3) := by decide +kernel
theorem dX7_age_48 : decode cX7_age 48 = .ok (.ifCond .eq 82, 3) := by decide +kernel
theorem dX7_age_51 : decode cX7_age 51 = .ok (.aload_n 0, 1) := by decide +kernel
theorem dX7_age_52 : decode cX7_age 52 = .ok (.iload 4, 2) := by decide +kernel
theorem dX7_age_54 : decode cX7_age 54 = .ok (.iconst 4, 1) := by decide +kernel
theorem dX7_age_55 : decode cX7_age 55 = .ok (.invokevirtual 55, 3) := by decide +kernel
theorem dX7_age_58 : decode cX7_age 58 = .ok (.aload_n 0, 1) := by decide +kernel
theorem dX7_age_59 : decode cX7_age 59 = .ok (.getfield 7, 3) := by decide +kernel
theorem dX7_age_62 : decode cX7_age 62 = .ok (.iconst 5, 1) := by decide +kernel
theorem dX7_age_63 : decode cX7_age 63 = .ok (.iaload, 1) := by decide +kernel
theorem dX7_age_64 : decode cX7_age 64 = .ok (.iconst 4, 1) := by decide +kernel
theorem dX7_age_65 : decode cX7_age 65 = .ok (.if_icmp .le 7, 3) := by decide +kernel
theorem dX7_age_68 : decode cX7_age 68 = .ok (.iconst 2, 1) := by decide +kernel
theorem dX7_age_69 : decode cX7_age 69 = .ok (.goto 4, 3) := by decide +kernel
theorem dX7_age_72 : decode cX7_age 72 = .ok (.iconst 1, 1) := by decide +kernel
theorem dX7_age_73 : decode cX7_age 73 = .ok (.iadd, 1) := by decide +kernel
theorem dX7_age_74 : decode cX7_age 74 = .ok (.istore 5, 2) := by decide +kernel
theorem dX7_age_76 : decode cX7_age 76 = .ok (.aload_n 0, 1) := by decide +kernel
theorem dX7_age_77 : decode cX7_age 77 = .ok (.iload 4, 2) := by decide +kernel
theorem dX7_age_79 : decode cX7_age 79 = .ok (.iconst 4, 1) := by decide +kernel
theorem dX7_age_80 : decode cX7_age 80 = .ok (.iload 5, 2) := by decide +kernel
theorem dX7_age_82 : decode cX7_age 82 = .ok (.bipush 99, 2) := by decide +kernel
theorem dX7_age_84 : decode cX7_age 84 = .ok (.if_icmp .le 7, 3) := by decide +kernel
theorem dX7_age_87 : decode cX7_age 87 = .ok (.iconst 0, 1) := by decide +kernel
theorem dX7_age_88 : decode cX7_age 88 = .ok (.goto 5, 3) := by decide +kernel
theorem dX7_age_91 : decode cX7_age 91 = .ok (.iload 5, 2) := by decide +kernel
theorem dX7_age_93 : decode cX7_age 93 = .ok (.invokevirtual 59, 3) := by decide +kernel
theorem dX7_age_96 : decode cX7_age 96 = .ok (.aload_n 0, 1) := by decide +kernel
theorem dX7_age_97 : decode cX7_age 97 = .ok (.iload 4, 2) := by decide +kernel
theorem dX7_age_99 : decode cX7_age 99 = .ok (.iconst 5, 1) := by decide +kernel
theorem dX7_age_100 : decode cX7_age 100 = .ok (.iload 5, 2) := by decide +kernel
theorem dX7_age_102 : decode cX7_age 102 = .ok (.bipush 99, 2) := by decide +kernel
theorem dX7_age_104 : decode cX7_age 104 = .ok (.if_icmp .le 7, 3) := by decide +kernel
theorem dX7_age_107 : decode cX7_age 107 = .ok (.iconst 0, 1) := by decide +kernel
theorem dX7_age_108 : decode cX7_age 108 = .ok (.goto 4, 3) := by decide +kernel
theorem dX7_age_111 : decode cX7_age 111 = .ok (.iconst 1, 1) := by decide +kernel
theorem dX7_age_112 : decode cX7_age 112 = .ok (.invokevirtual 59, 3) := by decide +kernel
theorem dX7_age_115 : decode cX7_age 115 = .ok (.iload_n 2, 1) := by decide +kernel
theorem dX7_age_116 : decode cX7_age 116 = .ok (.iload 5, 2) := by decide +kernel
theorem dX7_age_118 : decode cX7_age 118 = .ok (.bipush 99, 2) := by decide +kernel
theorem dX7_age_120 : decode cX7_age 120 = .ok (.if_icmp .le 7, 3) := by decide +kernel
theorem dX7_age_123 : decode cX7_age 123 = .ok (.iconst 1, 1) := by decide +kernel
theorem dX7_age_124 : decode cX7_age 124 = .ok (.goto 4, 3) := by decide +kernel
theorem dX7_age_127 : decode cX7_age 127 = .ok (.iconst 0, 1) := by decide +kernel
theorem dX7_age_128 : decode cX7_age 128 = .ok (.iadd, 1) := by decide +kernel
theorem dX7_age_129 : decode cX7_age 129 = .ok (.istore_n 2, 1) := by decide +kernel
theorem dX7_age_130 : decode cX7_age 130 = .ok (.iinc 4 1, 3) := by decide +kernel
theorem dX7_age_133 : decode cX7_age 133 = .ok (.goto (-102), 3) := by decide +kernel
theorem dX7_age_136 : decode cX7_age 136 = .ok (.iinc 3 1, 3) := by decide +kernel
theorem dX7_age_139 : decode cX7_age 139 = .ok (.goto (-116), 3) := by decide +kernel
theorem dX7_age_142 : decode cX7_age 142 = .ok (.iload_n 2, 1) := by decide +kernel
theorem dX7_age_143 : decode cX7_age 143 = .ok (.ireturn, 1) := by decide +kernel
theorem dX7_strain_0 : decode cX7_strain 0 = .ok (.iconst 0, 1) := by decide +kernel
theorem dX7_strain_1 : decode cX7_strain 1 = .ok (.istore_n 2, 1) := by decide +kernel
theorem dX7_strain_2 : decode cX7_strain 2 = .ok (.iconst 0, 1) := by decide +kernel
theorem dX7_strain_3 : decode cX7_strain 3 = .ok (.istore_n 3, 1) := by decide +kernel
theorem dX7_strain_4 : decode cX7_strain 4 = .ok (.iload_n 3, 1) := by decide +kernel
theorem dX7_strain_5 : decode cX7_strain 5 = .ok (.aload_n 0, 1) := by decide +kernel
theorem dX7_strain_6 : decode cX7_strain 6 = .ok (.getfield 7, 3) := by decide +kernel
theorem dX7_strain_9 : decode cX7_strain 9 = .ok (.iconst 0, 1) := by decide +kernel
theorem dX7_strain_10 : decode cX7_strain 10 = .ok (.iaload, 1) := by decide +kernel
theorem dX7_strain_11 : decode cX7_strain 11 = .ok (.if_icmp .ge 31, 3) := by decide +kernel
theorem dX7_strain_14 : decode cX7_strain 14 = .ok (.iload_n 2, 1) := by decide +kernel
theorem dX7_strain_15 : decode cX7_strain 15 = .ok (.aload_n 0, 1) := by decide +kernel
theorem dX7_strain_16 : decode cX7_strain 16 = .ok (.iload_n 3, 1) := by decide +kernel
theorem dX7_strain_17 : decode cX7_strain 17 = .ok (.iconst 1, 1) := by decide +kernel
theorem dX7_strain_18 : decode cX7_strain 18 = .ok (.invokevirtual 55, 3) := by decide +kernel
theorem dX7_strain_21 : decode cX7_strain 21 = .ok (.iload_n 1, 1) := by decide +kernel
theorem dX7_strain_22 : decode cX7_strain 22 = .ok (.if_icmp .ne 11, 3) := by decide +kernel
theorem dX7_strain_25 : decode cX7_strain 25 = .ok (.aload_n 0, 1) := by decide +kernel
theorem dX7_strain_26 : decode cX7_strain 26 = .ok (.iload_n 3, 1) := by decide +kernel
theorem dX7_strain_27 : decode cX7_strain 27 = .ok (.invokevirtual 96, 3) := by decide +kernel
theorem dX7_strain_30 : decode cX7_strain 30 = .ok (.goto 4, 3) := by decide +kernel
theorem dX7_strain_33 : decode cX7_strain 33 = .ok (.iconst 0, 1) := by decide +kernel
theorem dX7_strain_34 : decode cX7_strain 34 = .ok (.iadd, 1) := by decide +kernel
theorem dX7_strain_35 : decode cX7_strain 35 = .ok (.istore_n 2, 1) := by decide +kernel
theorem dX7_strain_36 : decode cX7_strain 36 = .ok (.iinc 3 1, 3) := by decide +kernel
theorem dX7_strain_39 : decode cX7_strain 39 = .ok (.goto (-35), 3) := by decide +kernel
theorem dX7_strain_42 : decode cX7_strain 42 = .ok (.iload_n 1, 1) := by decide +kernel
theorem dX7_strain_43 : decode cX7_strain 43 = .ok (.bipush 8, 2) := by decide +kernel
theorem dX7_strain_45 : decode cX7_strain 45 = .ok (.iadd, 1) := by decide +kernel
theorem dX7_strain_46 : decode cX7_strain 46 = .ok (.aload_n 0, 1) := by decide +kernel
theorem dX7_strain_47 : decode cX7_strain 47 = .ok (.getfield 7, 3) := by decide +kernel
theorem dX7_strain_50 : decode cX7_strain 50 = .ok (.iconst 4, 1) := by decide +kernel
theorem dX7_strain_51 : decode cX7_strain 51 = .ok (.iaload, 1) := by decide +kernel
theorem dX7_strain_52 : decode cX7_strain 52 = .ok (.isub, 1) := by decide +kernel
theorem dX7_strain_53 : decode cX7_strain 53 = .ok (.bipush 8, 2) := by decide +kernel
theorem dX7_strain_55 : decode cX7_strain 55 = .ok (.irem, 1) := by decide +kernel
theorem dX7_strain_56 : decode cX7_strain 56 = .ok (.istore_n 3, 1) := by decide +kernel
theorem dX7_strain_57 : decode cX7_strain 57 = .ok (.iload_n 2, 1) := by decide +kernel
theorem dX7_strain_58 : decode cX7_strain 58 = .ok (.iload_n 3, 1) := by decide +kernel
theorem dX7_strain_59 : decode cX7_strain 59 = .ok (.iconst 4, 1) := by decide +kernel
theorem dX7_strain_60 : decode cX7_strain 60 = .ok (.if_icmp .ne 12, 3) := by decide +kernel
theorem dX7_strain_63 : decode cX7_strain 63 = .ok (.aload_n 0, 1) := by decide +kernel
theorem dX7_strain_64 : decode cX7_strain 64 = .ok (.getfield 7, 3) := by decide +kernel
theorem dX7_strain_67 : decode cX7_strain 67 = .ok (.iconst 3, 1) := by decide +kernel
theorem dX7_strain_68 : decode cX7_strain 68 = .ok (.iaload, 1) := by decide +kernel
theorem dX7_strain_69 : decode cX7_strain 69 = .ok (.goto 26, 3) := by decide +kernel
theorem dX7_strain_72 : decode cX7_strain 72 = .ok (.iload_n 3, 1) := by decide +kernel
theorem dX7_strain_73 : decode cX7_strain 73 = .ok (.ifCond .ne 14, 3) := by decide +kernel
theorem dX7_strain_76 : decode cX7_strain 76 = .ok (.aload_n 0, 1) := by decide +kernel
theorem dX7_strain_77 : decode cX7_strain 77 = .ok (.getfield 7, 3) := by decide +kernel
theorem dX7_strain_80 : decode cX7_strain 80 = .ok (.iconst 3, 1) := by decide +kernel
theorem dX7_strain_81 : decode cX7_strain 81 = .ok (.iaload, 1) := by decide +kernel
theorem dX7_strain_82 : decode cX7_strain 82 = .ok (.iconst 2, 1) := by decide +kernel
theorem dX7_strain_83 : decode cX7_strain 83 = .ok (.idiv, 1) := by decide +kernel
theorem dX7_strain_84 : decode cX7_strain 84 = .ok (.goto 11, 3) := by decide +kernel
theorem dX7_strain_87 : decode cX7_strain 87 = .ok (.aload_n 0, 1) := by decide +kernel
theorem dX7_strain_88 : decode cX7_strain 88 = .ok (.getfield 7, 3) := by decide +kernel
theorem dX7_strain_91 : decode cX7_strain 91 = .ok (.iconst 3, 1) := by decide +kernel
theorem dX7_strain_92 : decode cX7_strain 92 = .ok (.iaload, 1) := by decide +kernel
theorem dX7_strain_93 : decode cX7_strain 93 = .ok (.iconst 4, 1) := by decide +kernel
theorem dX7_strain_94 : decode cX7_strain 94 = .ok (.idiv, 1) := by decide +kernel
theorem dX7_strain_95 : decode cX7_strain 95 = .ok (.iadd, 1) := by decide +kernel
theorem dX7_strain_96 : decode cX7_strain 96 = .ok (.ireturn, 1) := by decide +kernel
theorem dX7_ownHold_0 : decode cX7_ownHold 0 = .ok (.iconst 0, 1) := by decide +kernel
theorem dX7_ownHold_1 : decode cX7_ownHold 1 = .ok (.istore_n 2, 1) := by decide +kernel
theorem dX7_ownHold_2 : decode cX7_ownHold 2 = .ok (.iconst 0, 1) := by decide +kernel
theorem dX7_ownHold_3 : decode cX7_ownHold 3 = .ok (.istore_n 3, 1) := by decide +kernel
theorem dX7_ownHold_4 : decode cX7_ownHold 4 = .ok (.iload_n 3, 1) := by decide +kernel
theorem dX7_ownHold_5 : decode cX7_ownHold 5 = .ok (.aload_n 0, 1) := by decide +kernel
theorem dX7_ownHold_6 : decode cX7_ownHold 6 = .ok (.getfield 7, 3) := by decide +kernel
theorem dX7_ownHold_9 : decode cX7_ownHold 9 = .ok (.iconst 0, 1) := by decide +kernel
theorem dX7_ownHold_10 : decode cX7_ownHold 10 = .ok (.iaload, 1) := by decide +kernel
theorem dX7_ownHold_11 : decode cX7_ownHold 11 = .ok (.if_icmp .ge 31, 3) := by decide +kernel
theorem dX7_ownHold_14 : decode cX7_ownHold 14 = .ok (.iload_n 2, 1) := by decide +kernel
theorem dX7_ownHold_15 : decode cX7_ownHold 15 = .ok (.aload_n 0, 1) := by decide +kernel
theorem dX7_ownHold_16 : decode cX7_ownHold 16 = .ok (.iload_n 3, 1) := by decide +kernel
theorem dX7_ownHold_17 : decode cX7_ownHold 17 = .ok (.iconst 1, 1) := by decide +kernel
theorem dX7_ownHold_18 : decode cX7_ownHold 18 = .ok (.invokevirtual 55, 3) := by decide +kernel
theorem dX7_ownHold_21 : decode cX7_ownHold 21 = .ok (.iload_n 1, 1) := by decide +kernel
theorem dX7_ownHold_22 : decode cX7_ownHold 22 = .ok (.if_icmp .ne 11, 3) := by decide +kernel
theorem dX7_ownHold_25 : decode cX7_ownHold 25 = .ok (.aload_n 0, 1) := by decide +kernel
theorem dX7_ownHold_26 : decode cX7_ownHold 26 = .ok (.iload_n 3, 1) := by decide +kernel
theorem dX7_ownHold_27 : decode cX7_ownHold 27 = .ok (.invokevirtual 99, 3) := by decide +kernel
theorem dX7_ownHold_30 : decode cX7_ownHold 30 = .ok (.goto 4, 3) := by decide +kernel
theorem dX7_ownHold_33 : decode cX7_ownHold 33 = .ok (.iconst 0, 1) := by decide +kernel
theorem dX7_ownHold_34 : decode cX7_ownHold 34 = .ok (.iadd, 1) := by decide +kernel
theorem dX7_ownHold_35 : decode cX7_ownHold 35 = .ok (.istore_n 2, 1) := by decide +kernel
theorem dX7_ownHold_36 : decode cX7_ownHold 36 = .ok (.iinc 3 1, 3) := by decide +kernel
theorem dX7_ownHold_39 : decode cX7_ownHold 39 = .ok (.goto (-35), 3) := by decide +kernel
theorem dX7_ownHold_42 : decode cX7_ownHold 42 = .ok (.iload_n 2, 1) := by decide +kernel
theorem dX7_ownHold_43 : decode cX7_ownHold 43 = .ok (.ireturn, 1) := by decide +kernel
theorem dX7_holdOf_0 : decode cX7_holdOf 0 = .ok (.aload_n 0, 1) := by decide +kernel
theorem dX7_holdOf_1 : decode cX7_holdOf 1 = .ok (.iload_n 1, 1) := by decide +kernel
theorem dX7_holdOf_2 : decode cX7_holdOf 2 = .ok (.invokevirtual 118, 3) := by decide +kernel
theorem dX7_holdOf_5 : decode cX7_holdOf 5 = .ok (.aload_n 0, 1) := by decide +kernel
theorem dX7_holdOf_6 : decode cX7_holdOf 6 = .ok (.iload_n 1, 1) := by decide +kernel
theorem dX7_holdOf_7 : decode cX7_holdOf 7 = .ok (.iconst 1, 1) := by decide +kernel
theorem dX7_holdOf_8 : decode cX7_holdOf 8 = .ok (.iadd, 1) := by decide +kernel
theorem dX7_holdOf_9 : decode cX7_holdOf 9 = .ok (.bipush 8, 2) := by decide +kernel
theorem dX7_holdOf_11 : decode cX7_holdOf 11 = .ok (.irem, 1) := by decide +kernel
theorem dX7_holdOf_12 : decode cX7_holdOf 12 = .ok (.invokevirtual 118, 3) := by decide +kernel
theorem dX7_holdOf_15 : decode cX7_holdOf 15 = .ok (.aload_n 0, 1) := by decide +kernel
theorem dX7_holdOf_16 : decode cX7_holdOf 16 = .ok (.iload_n 1, 1) := by decide +kernel
theorem dX7_holdOf_17 : decode cX7_holdOf 17 = .ok (.bipush 7, 2) := by decide +kernel
theorem dX7_holdOf_19 : decode cX7_holdOf 19 = .ok (.iadd, 1) := by decide +kernel
theorem dX7_holdOf_20 : decode cX7_holdOf 20 = .ok (.bipush 8, 2) := by decide +kernel
theorem dX7_holdOf_22 : decode cX7_holdOf 22 = .ok (.irem, 1) := by decide +kernel
theorem dX7_holdOf_23 : decode cX7_holdOf 23 = .ok (.invokevirtual 118, 3) := by decide +kernel
theorem dX7_holdOf_26 : decode cX7_holdOf 26 = .ok (.iadd, 1) := by decide +kernel
theorem dX7_holdOf_27 : decode cX7_holdOf 27 = .ok (.iconst 2, 1) := by decide +kernel
theorem dX7_holdOf_28 : decode cX7_holdOf 28 = .ok (.idiv, 1) := by decide +kernel
theorem dX7_holdOf_29 : decode cX7_holdOf 29 = .ok (.iadd, 1) := by decide +kernel
theorem dX7_holdOf_30 : decode cX7_holdOf 30 = .ok (.ireturn, 1) := by decide +kernel
theorem dX7_spare_0 : decode cX7_spare 0 = .ok (.aload_n 0, 1) := by decide +kernel
theorem dX7_spare_1 : decode cX7_spare 1 = .ok (.iload_n 1, 1) := by decide +kernel
theorem dX7_spare_2 : decode cX7_spare 2 = .ok (.invokevirtual 121, 3) := by decide +kernel
theorem dX7_spare_5 : decode cX7_spare 5 = .ok (.aload_n 0, 1) := by decide +kernel
theorem dX7_spare_6 : decode cX7_spare 6 = .ok (.iload_n 1, 1) := by decide +kernel
theorem dX7_spare_7 : decode cX7_spare 7 = .ok (.invokevirtual 124, 3) := by decide +kernel
theorem dX7_spare_10 : decode cX7_spare 10 = .ok (.isub, 1) := by decide +kernel
theorem dX7_spare_11 : decode cX7_spare 11 = .ok (.ireturn, 1) := by decide +kernel
theorem dX7_side_0 : decode cX7_side 0 = .ok (.iload_n 1, 1) := by decide +kernel
theorem dX7_side_1 : decode cX7_side 1 = .ok (.i2l, 1) := by decide +kernel
theorem dX7_side_2 : decode cX7_side 2 = .ok (.lconst 0, 1) := by decide +kernel
theorem dX7_side_3 : decode cX7_side 3 = .ok (.ldc2_w 69, 3) := by decide +kernel
theorem dX7_side_6 : decode cX7_side 6 = .ok (.invokestatic 65, 3) := by decide +kernel
theorem dX7_side_9 : decode cX7_side 9 = .ok (.ifCond .eq 15, 3) := by decide +kernel
theorem dX7_side_12 : decode cX7_side 12 = .ok (.iload_n 2, 1) := by decide +kernel
theorem dX7_side_13 : decode cX7_side 13 = .ok (.i2l, 1) := by decide +kernel
theorem dX7_side_14 : decode cX7_side 14 = .ok (.lconst 0, 1) := by decide +kernel
theorem dX7_side_15 : decode cX7_side 15 = .ok (.ldc2_w 105, 3) := by decide +kernel
theorem dX7_side_18 : decode cX7_side 18 = .ok (.invokestatic 65, 3) := by decide +kernel
theorem dX7_side_21 : decode cX7_side 21 = .ok (.ifCond .ne 10, 3) := by decide +kernel
theorem dX7_side_24 : decode cX7_side 24 = .ok (.aload_n 0, 1) := by decide +kernel
theorem dX7_side_25 : decode cX7_side 25 = .ok (.ldc 54, 2) := by decide +kernel
theorem dX7_side_27 : decode cX7_side 27 = .ok (.invokevirtual 75, 3) := by decide +kernel
theorem dX7_side_30 : decode cX7_side 30 = .ok (.ireturn, 1) := by decide +kernel
theorem dX7_side_31 : decode cX7_side 31 = .ok (.iload_n 2, 1) := by decide +kernel
theorem dX7_side_32 : decode cX7_side 32 = .ok (.ifCond .ne 11, 3) := by decide +kernel
theorem dX7_side_35 : decode cX7_side 35 = .ok (.aload_n 0, 1) := by decide +kernel
theorem dX7_side_36 : decode cX7_side 36 = .ok (.iload_n 1, 1) := by decide +kernel
theorem dX7_side_37 : decode cX7_side 37 = .ok (.invokevirtual 124, 3) := by decide +kernel
theorem dX7_side_40 : decode cX7_side 40 = .ok (.goto 21, 3) := by decide +kernel
theorem dX7_side_43 : decode cX7_side 43 = .ok (.iload_n 2, 1) := by decide +kernel
theorem dX7_side_44 : decode cX7_side 44 = .ok (.iconst 1, 1) := by decide +kernel
theorem dX7_side_45 : decode cX7_side 45 = .ok (.if_icmp .ne 11, 3) := by decide +kernel
theorem dX7_side_48 : decode cX7_side 48 = .ok (.aload_n 0, 1) := by decide +kernel
theorem dX7_side_49 : decode cX7_side 49 = .ok (.iload_n 1, 1) := by decide +kernel
theorem dX7_side_50 : decode cX7_side 50 = .ok (.invokevirtual 121, 3) := by decide +kernel
theorem dX7_side_53 : decode cX7_side 53 = .ok (.goto 8, 3) := by decide +kernel
theorem dX7_side_56 : decode cX7_side 56 = .ok (.aload_n 0, 1) := by decide +kernel
theorem dX7_side_57 : decode cX7_side 57 = .ok (.iload_n 1, 1) := by decide +kernel
theorem dX7_side_58 : decode cX7_side 58 = .ok (.invokevirtual 127, 3) := by decide +kernel
theorem dX7_side_61 : decode cX7_side 61 = .ok (.ireturn, 1) := by decide +kernel
theorem dX7_isStanding_0 : decode cX7_isStanding 0 = .ok (.iconst 0, 1) := by decide +kernel
theorem dX7_isStanding_1 : decode cX7_isStanding 1 = .ok (.istore_n 1, 1) := by decide +kernel
theorem dX7_isStanding_2 : decode cX7_isStanding 2 = .ok (.iconst 0, 1) := by decide +kernel
theorem dX7_isStanding_3 : decode cX7_isStanding 3 = .ok (.istore_n 2, 1) := by decide +kernel
theorem dX7_isStanding_4 : decode cX7_isStanding 4 = .ok (.iload_n 2, 1) := by decide +kernel
theorem dX7_isStanding_5 : decode cX7_isStanding 5 = .ok (.aload_n 0, 1) := by decide +kernel
theorem dX7_isStanding_6 : decode cX7_isStanding 6 = .ok (.getfield 7, 3) := by decide +kernel
theorem dX7_isStanding_9 : decode cX7_isStanding 9 = .ok (.iconst 0, 1) := by decide +kernel
theorem dX7_isStanding_10 : decode cX7_isStanding 10 = .ok (.iaload, 1) := by decide +kernel
theorem dX7_isStanding_11 : decode cX7_isStanding 11 = .ok (.if_icmp .ge 85, 3) := by decide +kernel
theorem dX7_isStanding_14 : decode cX7_isStanding 14 = .ok (.aload_n 0, 1) := by decide +kernel
theorem dX7_isStanding_15 : decode cX7_isStanding 15 = .ok (.iload_n 2, 1) := by decide +kernel
theorem dX7_isStanding_16 : decode cX7_isStanding 16 = .ok (.iconst 0, 1) := by decide +kernel
theorem dX7_isStanding_17 : decode cX7_isStanding 17 = .ok (.invokevirtual 55, 3) := by decide +kernel
theorem dX7_isStanding_20 : decode cX7_isStanding 20 = .ok (.istore_n 3, 1) := by decide +kernel
theorem dX7_isStanding_21 : decode cX7_isStanding 21 = .ok (.iload_n 3, 1) := by decide +kernel
theorem dX7_isStanding_22 : decode cX7_isStanding 22 = .ok (.iconst 2, 1) := by decide +kernel
theorem dX7_isStanding_23 : decode cX7_isStanding 23 = .ok (.if_icmp .eq 9, 3) := by decide +kernel
theorem dX7_isStanding_26 : decode cX7_isStanding 26 = .ok (.iload_n 3, 1) := by decide +kernel
theorem dX7_isStanding_27 : decode cX7_isStanding 27 = .ok (.bipush 6, 2) := by decide +kernel
theorem dX7_isStanding_29 : decode cX7_isStanding 29 = .ok (.if_icmp .ne 33, 3) := by decide +kernel
theorem dX7_isStanding_32 : decode cX7_isStanding 32 = .ok (.aload_n 0, 1) := by decide +kernel
theorem dX7_isStanding_33 : decode cX7_isStanding 33 = .ok (.iload_n 2, 1) := by decide +kernel
theorem dX7_isStanding_34 : decode cX7_isStanding 34 = .ok (.invokevirtual 84, 3) := by decide +kernel
theorem dX7_isStanding_37 : decode cX7_isStanding 37 = .ok (.ifCond .eq 25, 3) := by decide +kernel
theorem dX7_isStanding_40 : decode cX7_isStanding 40 = .ok (.aload_n 0, 1) := by decide +kernel
theorem dX7_isStanding_41 : decode cX7_isStanding 41 = .ok (.getfield 7, 3) := by decide +kernel
theorem dX7_isStanding_44 : decode cX7_isStanding 44 = .ok (.bipush 8, 2) := by decide +kernel
theorem dX7_isStanding_46 : decode cX7_isStanding 46 = .ok (.iaload, 1) := by decide +kernel
theorem dX7_isStanding_47 : decode cX7_isStanding 47 = .ok (.aload_n 0, 1) := by decide +kernel
theorem dX7_isStanding_48 : decode cX7_isStanding 48 = .ok (.iload_n 2, 1) := by decide +kernel
theorem dX7_isStanding_49 : decode cX7_isStanding 49 = .ok (.invokevirtual 88, 3) := by decide +kernel
theorem dX7_isStanding_52 : decode cX7_isStanding 52 = .ok (.iconst 2, 1) := by decide +kernel
theorem dX7_isStanding_53 : decode cX7_isStanding 53 = .ok (.idiv, 1) := by decide +kernel
theorem dX7_isStanding_54 : decode cX7_isStanding 54 = .ok (.bipush 20, 2) := by decide +kernel
theorem dX7_isStanding_56 : decode cX7_isStanding 56 = .ok (.iadd, 1) := by decide +kernel
theorem dX7_isStanding_57 : decode cX7_isStanding 57 = .ok (.if_icmp .le 5, 3) := by decide +kernel
theorem dX7_isStanding_60 : decode cX7_isStanding 60 = .ok (.iconst 0, 1) := by decide +kernel
theorem dX7_isStanding_61 : decode cX7_isStanding 61 = .ok (.ireturn, 1) := by decide +kernel
theorem dX7_isStanding_62 : decode cX7_isStanding 62 = .ok (.iload_n 1, 1) := by decide +kernel
theorem dX7_isStanding_63 : decode cX7_isStanding 63 = .ok (.iload_n 3, 1) := by decide +kernel
theorem dX7_isStanding_64 : decode cX7_isStanding 64 = .ok (.iconst 1, 1) := by decide +kernel
theorem dX7_isStanding_65 : decode cX7_isStanding 65 = .ok (.if_icmp .ne 22, 3) := by decide +kernel
theorem dX7_isStanding_68 : decode cX7_isStanding 68 = .ok (.aload_n 0, 1) := by decide +kernel
theorem dX7_isStanding_69 : decode cX7_isStanding 69 = .ok (.iload_n 2, 1) := by decide +kernel
theorem dX7_isStanding_70 : decode cX7_isStanding 70 = .ok (.invokevirtual 88, 3) := by decide +kernel
theorem dX7_isStanding_73 : decode cX7_isStanding 73 = .ok (.ifCond .le 14, 3) := by decide +kernel
theorem dX7_isStanding_76 : decode cX7_isStanding 76 = .ok (.iconst 1, 1) := by decide +kernel
theorem dX7_isStanding_77 : decode cX7_isStanding 77 = .ok (.aload_n 0, 1) := by decide +kernel
theorem dX7_isStanding_78 : decode cX7_isStanding 78 = .ok (.iload_n 2, 1) := by decide +kernel
theorem dX7_isStanding_79 : decode cX7_isStanding 79 = .ok (.iconst 1, 1) := by decide +kernel
theorem dX7_isStanding_80 : decode cX7_isStanding 80 = .ok (.invokevirtual 55, 3) := by decide +kernel
theorem dX7_isStanding_83 : decode cX7_isStanding 83 = .ok (.ishl, 1) := by decide +kernel
theorem dX7_isStanding_84 : decode cX7_isStanding 84 = .ok (.goto 4, 3) := by decide +kernel
theorem dX7_isStanding_87 : decode cX7_isStanding 87 = .ok (.iconst 0, 1) := by decide +kernel
theorem dX7_isStanding_88 : decode cX7_isStanding 88 = .ok (.ior, 1) := by decide +kernel
theorem dX7_isStanding_89 : decode cX7_isStanding 89 = .ok (.istore_n 1, 1) := by decide +kernel
theorem dX7_isStanding_90 : decode cX7_isStanding 90 = .ok (.iinc 2 1, 3) := by decide +kernel
theorem dX7_isStanding_93 : decode cX7_isStanding 93 = .ok (.goto (-89), 3) := by decide +kernel
theorem dX7_isStanding_96 : decode cX7_isStanding 96 = .ok (.iconst 0, 1) := by decide +kernel
theorem dX7_isStanding_97 : decode cX7_isStanding 97 = .ok (.istore_n 2, 1) := by decide +kernel
theorem dX7_isStanding_98 : decode cX7_isStanding 98 = .ok (.iconst 1, 1) := by decide +kernel
theorem dX7_isStanding_99 : decode cX7_isStanding 99 = .ok (.istore_n 3, 1) := by decide +kernel
theorem dX7_isStanding_100 : decode cX7_isStanding 100 = .ok (.iconst 0, 1) := by decide +kernel
theorem dX7_isStanding_101 : decode cX7_isStanding 101 = .ok (.istore 4, 2) := by decide +kernel
theorem dX7_isStanding_103 : decode cX7_isStanding 103 = .ok (.iload 4, 2) := by decide +kernel
theorem dX7_isStanding_105 : decode cX7_isStanding 105 = .ok (.bipush 8, 2) := by decide +kernel
theorem dX7_isStanding_107 : decode cX7_isStanding 107 = .ok (.if_icmp .ge 37, 3) := by decide +kernel
theorem dX7_isStanding_110 : decode cX7_isStanding 110 = .ok (.iload_n 2, 1) := by decide +kernel
theorem dX7_isStanding_111 : decode cX7_isStanding 111 = .ok (.iload_n 1, 1) := by decide +kernel
theorem dX7_isStanding_112 : decode cX7_isStanding 112 = .ok (.iload 4, 2) := by decide +kernel
theorem dX7_isStanding_114 : decode cX7_isStanding 114 = .ok (.ishr, 1) := by decide +kernel
theorem dX7_isStanding_115 : decode cX7_isStanding 115 = .ok (.iconst 1, 1) := by decide +kernel
theorem dX7_isStanding_116 : decode cX7_isStanding 116 = .ok (.iand, 1) := by decide +kernel
theorem dX7_isStanding_117 : decode cX7_isStanding 117 = .ok (.iadd, 1) := by decide +kernel
theorem dX7_isStanding_118 : decode cX7_isStanding 118 = .ok (.istore_n 2, 1) := by decide +kernel
theorem dX7_isStanding_119 : decode cX7_isStanding 119 = .ok (.iload_n 3, 1) := by decide +kernel
theorem dX7_isStanding_120 : decode cX7_isStanding 120 = .ok (.ifCond .eq 16, 3) := by decide +kernel
theorem dX7_isStanding_123 : decode cX7_isStanding 123 = .ok (.aload_n 0, 1) := by decide +kernel
theorem dX7_isStanding_124 : decode cX7_isStanding 124 = .ok (.iload 4, 2) := by decide +kernel
theorem dX7_isStanding_126 : decode cX7_isStanding 126 = .ok (.invokevirtual 127, 3) := by decide +kernel
theorem dX7_isStanding_129 : decode cX7_isStanding 129 = .ok (.ifCond .lt 7, 3) := by decide +kernel
theorem dX7_isStanding_132 : decode cX7_isStanding 132 = .ok (.iconst 1, 1) := by decide +kernel
theorem dX7_isStanding_133 : decode cX7_isStanding 133 = .ok (.goto 4, 3) := by decide +kernel
theorem dX7_isStanding_136 : decode cX7_isStanding 136 = .ok (.iconst 0, 1) := by decide +kernel
theorem dX7_isStanding_137 : decode cX7_isStanding 137 = .ok (.istore_n 3, 1) := by decide +kernel
theorem dX7_isStanding_138 : decode cX7_isStanding 138 = .ok (.iinc 4 1, 3) := by decide +kernel
theorem dX7_isStanding_141 : decode cX7_isStanding 141 = .ok (.goto (-38), 3) := by decide +kernel
theorem dX7_isStanding_144 : decode cX7_isStanding 144 = .ok (.iload_n 3, 1) := by decide +kernel
theorem dX7_isStanding_145 : decode cX7_isStanding 145 = .ok (.ifCond .eq 12, 3) := by decide +kernel
theorem dX7_isStanding_148 : decode cX7_isStanding 148 = .ok (.iload_n 2, 1) := by decide +kernel
theorem dX7_isStanding_149 : decode cX7_isStanding 149 = .ok (.iconst 3, 1) := by decide +kernel
theorem dX7_isStanding_150 : decode cX7_isStanding 150 = .ok (.if_icmp .lt 7, 3) := by decide +kernel
theorem dX7_isStanding_153 : decode cX7_isStanding 153 = .ok (.iconst 1, 1) := by decide +kernel
theorem dX7_isStanding_154 : decode cX7_isStanding 154 = .ok (.goto 4, 3) := by decide +kernel
theorem dX7_isStanding_157 : decode cX7_isStanding 157 = .ok (.iconst 0, 1) := by decide +kernel
theorem dX7_isStanding_158 : decode cX7_isStanding 158 = .ok (.ireturn, 1) := by decide +kernel
theorem dX7_stands_0 : decode cX7_stands 0 = .ok (.aload_n 0, 1) := by decide +kernel
theorem dX7_stands_1 : decode cX7_stands 1 = .ok (.invokevirtual 130, 3) := by decide +kernel
theorem dX7_stands_4 : decode cX7_stands 4 = .ok (.ifCond .eq 7, 3) := by decide +kernel
theorem dX7_stands_7 : decode cX7_stands 7 = .ok (.iconst 1, 1) := by decide +kernel
theorem dX7_stands_8 : decode cX7_stands 8 = .ok (.goto 4, 3) := by decide +kernel
theorem dX7_stands_11 : decode cX7_stands 11 = .ok (.iconst 0, 1) := by decide +kernel
theorem dX7_stands_12 : decode cX7_stands 12 = .ok (.ireturn, 1) := by decide +kernel
theorem dX7_leastSpare_0 : decode cX7_leastSpare 0 = .ok (.iconst 0, 1) := by decide +kernel
theorem dX7_leastSpare_1 : decode cX7_leastSpare 1 = .ok (.istore_n 1, 1) := by decide +kernel
theorem dX7_leastSpare_2 : decode cX7_leastSpare 2 = .ok (.iconst 1, 1) := by decide +kernel
theorem dX7_leastSpare_3 : decode cX7_leastSpare 3 = .ok (.istore_n 2, 1) := by decide +kernel
theorem dX7_leastSpare_4 : decode cX7_leastSpare 4 = .ok (.iload_n 2, 1) := by decide +kernel
theorem dX7_leastSpare_5 : decode cX7_leastSpare 5 = .ok (.bipush 8, 2) := by decide +kernel
theorem dX7_leastSpare_7 : decode cX7_leastSpare 7 = .ok (.if_icmp .ge 28, 3) := by decide +kernel
theorem dX7_leastSpare_10 : decode cX7_leastSpare 10 = .ok (.aload_n 0, 1) := by decide +kernel
theorem dX7_leastSpare_11 : decode cX7_leastSpare 11 = .ok (.iload_n 2, 1) := by decide +kernel
theorem dX7_leastSpare_12 : decode cX7_leastSpare 12 = .ok (.invokevirtual 127, 3) := by decide +kernel
theorem dX7_leastSpare_15 : decode cX7_leastSpare 15 = .ok (.aload_n 0, 1) := by decide +kernel
theorem dX7_leastSpare_16 : decode cX7_leastSpare 16 = .ok (.iload_n 1, 1) := by decide +kernel
theorem dX7_leastSpare_17 : decode cX7_leastSpare 17 = .ok (.invokevirtual 127, 3) := by decide +kernel
theorem dX7_leastSpare_20 : decode cX7_leastSpare 20 = .ok (.if_icmp .ge 7, 3) := by decide +kernel
theorem dX7_leastSpare_23 : decode cX7_leastSpare 23 = .ok (.iload_n 2, 1) := by decide +kernel
theorem dX7_leastSpare_24 : decode cX7_leastSpare 24 = .ok (.goto 4, 3) := by decide +kernel
theorem dX7_leastSpare_27 : decode cX7_leastSpare 27 = .ok (.iload_n 1, 1) := by decide +kernel
theorem dX7_leastSpare_28 : decode cX7_leastSpare 28 = .ok (.istore_n 1, 1) := by decide +kernel
theorem dX7_leastSpare_29 : decode cX7_leastSpare 29 = .ok (.iinc 2 1, 3) := by decide +kernel
theorem dX7_leastSpare_32 : decode cX7_leastSpare 32 = .ok (.goto (-28), 3) := by decide +kernel
theorem dX7_leastSpare_35 : decode cX7_leastSpare 35 = .ok (.iload_n 1, 1) := by decide +kernel
theorem dX7_leastSpare_36 : decode cX7_leastSpare 36 = .ok (.ireturn, 1) := by decide +kernel
theorem dX7_first_0 : decode cX7_first 0 = .ok (.aload_n 0, 1) := by decide +kernel
theorem dX7_first_1 : decode cX7_first 1 = .ok (.invokevirtual 134, 3) := by decide +kernel
theorem dX7_first_4 : decode cX7_first 4 = .ok (.ireturn, 1) := by decide +kernel
theorem dX7_gust_0 : decode cX7_gust 0 = .ok (.aload_n 0, 1) := by decide +kernel
theorem dX7_gust_1 : decode cX7_gust 1 = .ok (.getfield 7, 3) := by decide +kernel
theorem dX7_gust_4 : decode cX7_gust 4 = .ok (.iconst 3, 1) := by decide +kernel
theorem dX7_gust_5 : decode cX7_gust 5 = .ok (.iaload, 1) := by decide +kernel
theorem dX7_gust_6 : decode cX7_gust 6 = .ok (.istore_n 1, 1) := by decide +kernel
theorem dX7_gust_7 : decode cX7_gust 7 = .ok (.iconst (-1), 1) := by decide +kernel
theorem dX7_gust_8 : decode cX7_gust 8 = .ok (.istore_n 2, 1) := by decide +kernel
theorem dX7_gust_9 : decode cX7_gust 9 = .ok (.iconst 0, 1) := by decide +kernel
theorem dX7_gust_10 : decode cX7_gust 10 = .ok (.istore_n 3, 1) := by decide +kernel
theorem dX7_gust_11 : decode cX7_gust 11 = .ok (.iload_n 3, 1) := by decide +kernel
theorem dX7_gust_12 : decode cX7_gust 12 = .ok (.bipush 100, 2) := by decide +kernel
theorem dX7_gust_14 : decode cX7_gust 14 = .ok (.if_icmp .ge 33, 3) := by decide +kernel
theorem dX7_gust_17 : decode cX7_gust 17 = .ok (.iload_n 2, 1) := by decide +kernel
theorem dX7_gust_18 : decode cX7_gust 18 = .ok (.ifCond .ge 29, 3) := by decide +kernel
theorem dX7_gust_21 : decode cX7_gust 21 = .ok (.aload_n 0, 1) := by decide +kernel
theorem dX7_gust_22 : decode cX7_gust 22 = .ok (.getfield 7, 3) := by decide +kernel
theorem dX7_gust_25 : decode cX7_gust 25 = .ok (.iconst 3, 1) := by decide +kernel
theorem dX7_gust_26 : decode cX7_gust 26 = .ok (.iload_n 3, 1) := by decide +kernel
theorem dX7_gust_27 : decode cX7_gust 27 = .ok (.iastore, 1) := by decide +kernel
theorem dX7_gust_28 : decode cX7_gust 28 = .ok (.aload_n 0, 1) := by decide +kernel
theorem dX7_gust_29 : decode cX7_gust 29 = .ok (.invokevirtual 130, 3) := by decide +kernel
theorem dX7_gust_32 : decode cX7_gust 32 = .ok (.ifCond .eq 7, 3) := by decide +kernel
theorem dX7_gust_35 : decode cX7_gust 35 = .ok (.iconst (-1), 1) := by decide +kernel
theorem dX7_gust_36 : decode cX7_gust 36 = .ok (.goto 4, 3) := by decide +kernel
theorem dX7_gust_39 : decode cX7_gust 39 = .ok (.iload_n 3, 1) := by decide +kernel
theorem dX7_gust_40 : decode cX7_gust 40 = .ok (.istore_n 2, 1) := by decide +kernel
theorem dX7_gust_41 : decode cX7_gust 41 = .ok (.iinc 3 1, 3) := by decide +kernel
theorem dX7_gust_44 : decode cX7_gust 44 = .ok (.goto (-33), 3) := by decide +kernel
theorem dX7_gust_47 : decode cX7_gust 47 = .ok (.aload_n 0, 1) := by decide +kernel
theorem dX7_gust_48 : decode cX7_gust 48 = .ok (.getfield 7, 3) := by decide +kernel
theorem dX7_gust_51 : decode cX7_gust 51 = .ok (.iconst 3, 1) := by decide +kernel
theorem dX7_gust_52 : decode cX7_gust 52 = .ok (.iload_n 1, 1) := by decide +kernel
theorem dX7_gust_53 : decode cX7_gust 53 = .ok (.iastore, 1) := by decide +kernel
theorem dX7_gust_54 : decode cX7_gust 54 = .ok (.iload_n 2, 1) := by decide +kernel
theorem dX7_gust_55 : decode cX7_gust 55 = .ok (.ifCond .ge 12, 3) := by decide +kernel
theorem dX7_gust_58 : decode cX7_gust 58 = .ok (.aload_n 0, 1) := by decide +kernel
theorem dX7_gust_59 : decode cX7_gust 59 = .ok (.ldc 138, 2) := by decide +kernel
theorem dX7_gust_61 : decode cX7_gust 61 = .ok (.invokevirtual 75, 3) := by decide +kernel
theorem dX7_gust_64 : decode cX7_gust 64 = .ok (.goto 4, 3) := by decide +kernel
theorem dX7_gust_67 : decode cX7_gust 67 = .ok (.iload_n 2, 1) := by decide +kernel
theorem dX7_gust_68 : decode cX7_gust 68 = .ok (.ireturn, 1) := by decide +kernel
theorem dX7_canWant_0 : decode cX7_canWant 0 = .ok (.iconst 0, 1) := by decide +kernel
theorem dX7_canWant_1 : decode cX7_canWant 1 = .ok (.istore_n 1, 1) := by decide +kernel
theorem dX7_canWant_2 : decode cX7_canWant 2 = .ok (.iconst 0, 1) := by decide +kernel
theorem dX7_canWant_3 : decode cX7_canWant 3 = .ok (.istore_n 2, 1) := by decide +kernel
theorem dX7_canWant_4 : decode cX7_canWant 4 = .ok (.iload_n 2, 1) := by decide +kernel
theorem dX7_canWant_5 : decode cX7_canWant 5 = .ok (.aload_n 0, 1) := by decide +kernel
theorem dX7_canWant_6 : decode cX7_canWant 6 = .ok (.getfield 7, 3) := by decide +kernel
theorem dX7_canWant_9 : decode cX7_canWant 9 = .ok (.iconst 0, 1) := by decide +kernel
theorem dX7_canWant_10 : decode cX7_canWant 10 = .ok (.iaload, 1) := by decide +kernel
theorem dX7_canWant_11 : decode cX7_canWant 11 = .ok (.if_icmp .ge 48, 3) := by decide +kernel
theorem dX7_canWant_14 : decode cX7_canWant 14 = .ok (.aload_n 0, 1) := by decide +kernel
theorem dX7_canWant_15 : decode cX7_canWant 15 = .ok (.iload_n 2, 1) := by decide +kernel
theorem dX7_canWant_16 : decode cX7_canWant 16 = .ok (.invokevirtual 84, 3) := by decide +kernel
theorem dX7_canWant_19 : decode cX7_canWant 19 = .ok (.ifCond .eq 34, 3) := by decide +kernel
theorem dX7_canWant_22 : decode cX7_canWant 22 = .ok (.aload_n 0, 1) := by decide +kernel
theorem dX7_canWant_23 : decode cX7_canWant 23 = .ok (.iload_n 2, 1) := by decide +kernel
theorem dX7_canWant_24 : decode cX7_canWant 24 = .ok (.iconst 5, 1) := by decide +kernel
theorem dX7_canWant_25 : decode cX7_canWant 25 = .ok (.iconst 0, 1) := by decide +kernel
theorem dX7_canWant_26 : decode cX7_canWant 26 = .ok (.invokevirtual 59, 3) := by decide +kernel
theorem dX7_canWant_29 : decode cX7_canWant 29 = .ok (.iload_n 1, 1) := by decide +kernel
theorem dX7_canWant_30 : decode cX7_canWant 30 = .ok (.aload_n 0, 1) := by decide +kernel
theorem dX7_canWant_31 : decode cX7_canWant 31 = .ok (.invokevirtual 130, 3) := by decide +kernel
theorem dX7_canWant_34 : decode cX7_canWant 34 = .ok (.ifCond .eq 9, 3) := by decide +kernel
theorem dX7_canWant_37 : decode cX7_canWant 37 = .ok (.iconst 1, 1) := by decide +kernel
theorem dX7_canWant_38 : decode cX7_canWant 38 = .ok (.iload_n 2, 1) := by decide +kernel
theorem dX7_canWant_39 : decode cX7_canWant 39 = .ok (.ishl, 1) := by decide +kernel
theorem dX7_canWant_40 : decode cX7_canWant 40 = .ok (.goto 4, 3) := by decide +kernel
theorem dX7_canWant_43 : decode cX7_canWant 43 = .ok (.iconst 0, 1) := by decide +kernel
theorem dX7_canWant_44 : decode cX7_canWant 44 = .ok (.ior, 1) := by decide +kernel
theorem dX7_canWant_45 : decode cX7_canWant 45 = .ok (.istore_n 1, 1) := by decide +kernel
theorem dX7_canWant_46 : decode cX7_canWant 46 = .ok (.aload_n 0, 1) := by decide +kernel
theorem dX7_canWant_47 : decode cX7_canWant 47 = .ok (.iload_n 2, 1) := by decide +kernel
theorem dX7_canWant_48 : decode cX7_canWant 48 = .ok (.iconst 5, 1) := by decide +kernel
theorem dX7_canWant_49 : decode cX7_canWant 49 = .ok (.iconst 1, 1) := by decide +kernel
theorem dX7_canWant_50 : decode cX7_canWant 50 = .ok (.invokevirtual 59, 3) := by decide +kernel
theorem dX7_canWant_53 : decode cX7_canWant 53 = .ok (.iinc 2 1, 3) := by decide +kernel
theorem dX7_canWant_56 : decode cX7_canWant 56 = .ok (.goto (-52), 3) := by decide +kernel
theorem dX7_canWant_59 : decode cX7_canWant 59 = .ok (.iload_n 1, 1) := by decide +kernel
theorem dX7_canWant_60 : decode cX7_canWant 60 = .ok (.ireturn, 1) := by decide +kernel
theorem dX7_span_0 : decode cX7_span 0 = .ok (.iload_n 1, 1) := by decide +kernel
theorem dX7_span_1 : decode cX7_span 1 = .ok (.i2l, 1) := by decide +kernel
theorem dX7_span_2 : decode cX7_span 2 = .ok (.lconst 0, 1) := by decide +kernel
theorem dX7_span_3 : decode cX7_span 3 = .ok (.lconst 1, 1) := by decide +kernel
theorem dX7_span_4 : decode cX7_span 4 = .ok (.invokestatic 65, 3) := by decide +kernel
theorem dX7_span_7 : decode cX7_span 7 = .ok (.ifCond .ne 10, 3) := by decide +kernel
theorem dX7_span_10 : decode cX7_span 10 = .ok (.aload_n 0, 1) := by decide +kernel
theorem dX7_span_11 : decode cX7_span 11 = .ok (.ldc 54, 2) := by decide +kernel
theorem dX7_span_13 : decode cX7_span 13 = .ok (.invokevirtual 75, 3) := by decide +kernel
theorem dX7_span_16 : decode cX7_span 16 = .ok (.ireturn, 1) := by decide +kernel
theorem dX7_span_17 : decode cX7_span 17 = .ok (.aload_n 0, 1) := by decide +kernel
theorem dX7_span_18 : decode cX7_span 18 = .ok (.getfield 7, 3) := by decide +kernel
theorem dX7_span_21 : decode cX7_span 21 = .ok (.bipush 8, 2) := by decide +kernel
theorem dX7_span_23 : decode cX7_span 23 = .ok (.iaload, 1) := by decide +kernel
theorem dX7_span_24 : decode cX7_span 24 = .ok (.istore_n 2, 1) := by decide +kernel
theorem dX7_span_25 : decode cX7_span 25 = .ok (.iconst (-1), 1) := by decide +kernel
theorem dX7_span_26 : decode cX7_span 26 = .ok (.istore_n 3, 1) := by decide +kernel
theorem dX7_span_27 : decode cX7_span 27 = .ok (.iconst (-1), 1) := by decide +kernel
theorem dX7_span_28 : decode cX7_span 28 = .ok (.istore 4, 2) := by decide +kernel
theorem dX7_span_30 : decode cX7_span 30 = .ok (.iconst 0, 1) := by decide +kernel
theorem dX7_span_31 : decode cX7_span 31 = .ok (.istore 5, 2) := by decide +kernel
theorem dX7_span_33 : decode cX7_span 33 = .ok (.iload 5, 2) := by decide +kernel
theorem dX7_span_35 : decode cX7_span 35 = .ok (.bipush 100, 2) := by decide +kernel
theorem dX7_span_37 : decode cX7_span 37 = .ok (.if_icmp .ge 40, 3) := by decide +kernel
theorem dX7_span_40 : decode cX7_span 40 = .ok (.aload_n 0, 1) := by decide +kernel
theorem dX7_span_41 : decode cX7_span 41 = .ok (.getfield 7, 3) := by decide +kernel
theorem dX7_span_44 : decode cX7_span 44 = .ok (.bipush 8, 2) := by decide +kernel
theorem dX7_span_46 : decode cX7_span 46 = .ok (.iload 5, 2) := by decide +kernel
theorem dX7_span_48 : decode cX7_span 48 = .ok (.iastore, 1) := by decide +kernel
theorem dX7_span_49 : decode cX7_span 49 = .ok (.aload_n 0, 1) := by decide +kernel
theorem dX7_span_50 : decode cX7_span 50 = .ok (.invokevirtual 130, 3) := by decide +kernel
theorem dX7_span_53 : decode cX7_span 53 = .ok (.ifCond .eq 18, 3) := by decide +kernel
theorem dX7_span_56 : decode cX7_span 56 = .ok (.iload_n 3, 1) := by decide +kernel
theorem dX7_span_57 : decode cX7_span 57 = .ok (.ifCond .ge 8, 3) := by decide +kernel
theorem dX7_span_60 : decode cX7_span 60 = .ok (.iload 5, 2) := by decide +kernel
theorem dX7_span_62 : decode cX7_span 62 = .ok (.goto 4, 3) := by decide +kernel
theorem dX7_span_65 : decode cX7_span 65 = .ok (.iload_n 3, 1) := by decide +kernel
theorem dX7_span_66 : decode cX7_span 66 = .ok (.istore_n 3, 1) := by decide +kernel
theorem dX7_span_67 : decode cX7_span 67 = .ok (.iload 5, 2) := by decide +kernel
theorem dX7_span_69 : decode cX7_span 69 = .ok (.istore 4, 2) := by decide +kernel
theorem dX7_span_71 : decode cX7_span 71 = .ok (.iinc 5 1, 3) := by decide +kernel
theorem dX7_span_74 : decode cX7_span 74 = .ok (.goto (-41), 3) := by decide +kernel
theorem dX7_span_77 : decode cX7_span 77 = .ok (.aload_n 0, 1) := by decide +kernel
theorem dX7_span_78 : decode cX7_span 78 = .ok (.getfield 7, 3) := by decide +kernel
theorem dX7_span_81 : decode cX7_span 81 = .ok (.bipush 8, 2) := by decide +kernel
theorem dX7_span_83 : decode cX7_span 83 = .ok (.iload_n 2, 1) := by decide +kernel
theorem dX7_span_84 : decode cX7_span 84 = .ok (.iastore, 1) := by decide +kernel
theorem dX7_span_85 : decode cX7_span 85 = .ok (.iload_n 3, 1) := by decide +kernel
theorem dX7_span_86 : decode cX7_span 86 = .ok (.ifCond .ge 12, 3) := by decide +kernel
theorem dX7_span_89 : decode cX7_span 89 = .ok (.aload_n 0, 1) := by decide +kernel
theorem dX7_span_90 : decode cX7_span 90 = .ok (.ldc 138, 2) := by decide +kernel
theorem dX7_span_92 : decode cX7_span 92 = .ok (.invokevirtual 75, 3) := by decide +kernel
theorem dX7_span_95 : decode cX7_span 95 = .ok (.goto 13, 3) := by decide +kernel
theorem dX7_span_98 : decode cX7_span 98 = .ok (.iload_n 1, 1) := by decide +kernel
theorem dX7_span_99 : decode cX7_span 99 = .ok (.ifCond .ne 7, 3) := by decide +kernel
theorem dX7_span_102 : decode cX7_span 102 = .ok (.iload_n 3, 1) := by decide +kernel
theorem dX7_span_103 : decode cX7_span 103 = .ok (.goto 5, 3) := by decide +kernel
theorem dX7_span_106 : decode cX7_span 106 = .ok (.iload 4, 2) := by decide +kernel
theorem dX7_span_108 : decode cX7_span 108 = .ok (.ireturn, 1) := by decide +kernel
theorem dX7_worst_0 : decode cX7_worst 0 = .ok (.aload_n 0, 1) := by decide +kernel
theorem dX7_worst_1 : decode cX7_worst 1 = .ok (.getfield 7, 3) := by decide +kernel
theorem dX7_worst_4 : decode cX7_worst 4 = .ok (.iconst 4, 1) := by decide +kernel
theorem dX7_worst_5 : decode cX7_worst 5 = .ok (.iaload, 1) := by decide +kernel
theorem dX7_worst_6 : decode cX7_worst 6 = .ok (.istore_n 1, 1) := by decide +kernel
theorem dX7_worst_7 : decode cX7_worst 7 = .ok (.iconst (-1), 1) := by decide +kernel
theorem dX7_worst_8 : decode cX7_worst 8 = .ok (.istore_n 2, 1) := by decide +kernel
theorem dX7_worst_9 : decode cX7_worst 9 = .ok (.iconst 0, 1) := by decide +kernel
theorem dX7_worst_10 : decode cX7_worst 10 = .ok (.istore_n 3, 1) := by decide +kernel
theorem dX7_worst_11 : decode cX7_worst 11 = .ok (.iconst 0, 1) := by decide +kernel
theorem dX7_worst_12 : decode cX7_worst 12 = .ok (.istore 4, 2) := by decide +kernel
theorem dX7_worst_14 : decode cX7_worst 14 = .ok (.iload 4, 2) := by decide +kernel
theorem dX7_worst_16 : decode cX7_worst 16 = .ok (.bipush 8, 2) := by decide +kernel
theorem dX7_worst_18 : decode cX7_worst 18 = .ok (.if_icmp .ge 43, 3) := by decide +kernel
theorem dX7_worst_21 : decode cX7_worst 21 = .ok (.aload_n 0, 1) := by decide +kernel
theorem dX7_worst_22 : decode cX7_worst 22 = .ok (.getfield 7, 3) := by decide +kernel
theorem dX7_worst_25 : decode cX7_worst 25 = .ok (.iconst 4, 1) := by decide +kernel
theorem dX7_worst_26 : decode cX7_worst 26 = .ok (.iload 4, 2) := by decide +kernel
theorem dX7_worst_28 : decode cX7_worst 28 = .ok (.iastore, 1) := by decide +kernel
theorem dX7_worst_29 : decode cX7_worst 29 = .ok (.aload_n 0, 1) := by decide +kernel
theorem dX7_worst_30 : decode cX7_worst 30 = .ok (.aload_n 0, 1) := by decide +kernel
theorem dX7_worst_31 : decode cX7_worst 31 = .ok (.invokevirtual 134, 3) := by decide +kernel
theorem dX7_worst_34 : decode cX7_worst 34 = .ok (.invokevirtual 127, 3) := by decide +kernel
theorem dX7_worst_37 : decode cX7_worst 37 = .ok (.istore 5, 2) := by decide +kernel
theorem dX7_worst_39 : decode cX7_worst 39 = .ok (.iload_n 2, 1) := by decide +kernel
theorem dX7_worst_40 : decode cX7_worst 40 = .ok (.ifCond .lt 9, 3) := by decide +kernel
theorem dX7_worst_43 : decode cX7_worst 43 = .ok (.iload 5, 2) := by decide +kernel
theorem dX7_worst_45 : decode cX7_worst 45 = .ok (.iload_n 3, 1) := by decide +kernel
theorem dX7_worst_46 : decode cX7_worst 46 = .ok (.if_icmp .ge 9, 3) := by decide +kernel
theorem dX7_worst_49 : decode cX7_worst 49 = .ok (.iload 4, 2) := by decide +kernel
theorem dX7_worst_51 : decode cX7_worst 51 = .ok (.istore_n 2, 1) := by decide +kernel
theorem dX7_worst_52 : decode cX7_worst 52 = .ok (.iload 5, 2) := by decide +kernel
theorem dX7_worst_54 : decode cX7_worst 54 = .ok (.istore_n 3, 1) := by decide +kernel
theorem dX7_worst_55 : decode cX7_worst 55 = .ok (.iinc 4 1, 3) := by decide +kernel
theorem dX7_worst_58 : decode cX7_worst 58 = .ok (.goto (-44), 3) := by decide +kernel
theorem dX7_worst_61 : decode cX7_worst 61 = .ok (.aload_n 0, 1) := by decide +kernel
theorem dX7_worst_62 : decode cX7_worst 62 = .ok (.getfield 7, 3) := by decide +kernel
theorem dX7_worst_65 : decode cX7_worst 65 = .ok (.iconst 4, 1) := by decide +kernel
theorem dX7_worst_66 : decode cX7_worst 66 = .ok (.iload_n 1, 1) := by decide +kernel
theorem dX7_worst_67 : decode cX7_worst 67 = .ok (.iastore, 1) := by decide +kernel
theorem dX7_worst_68 : decode cX7_worst 68 = .ok (.iload_n 2, 1) := by decide +kernel
theorem dX7_worst_69 : decode cX7_worst 69 = .ok (.ireturn, 1) := by decide +kernel
theorem dX7_warmthNow_0 : decode cX7_warmthNow 0 = .ok (.iconst 0, 1) := by decide +kernel
theorem dX7_warmthNow_1 : decode cX7_warmthNow 1 = .ok (.istore_n 1, 1) := by decide +kernel
theorem dX7_warmthNow_2 : decode cX7_warmthNow 2 = .ok (.iconst 0, 1) := by decide +kernel
theorem dX7_warmthNow_3 : decode cX7_warmthNow 3 = .ok (.istore_n 2, 1) := by decide +kernel
theorem dX7_warmthNow_4 : decode cX7_warmthNow 4 = .ok (.iload_n 2, 1) := by decide +kernel
theorem dX7_warmthNow_5 : decode cX7_warmthNow 5 = .ok (.aload_n 0, 1) := by decide +kernel
theorem dX7_warmthNow_6 : decode cX7_warmthNow 6 = .ok (.getfield 7, 3) := by decide +kernel
theorem dX7_warmthNow_9 : decode cX7_warmthNow 9 = .ok (.iconst 0, 1) := by decide +kernel
theorem dX7_warmthNow_10 : decode cX7_warmthNow 10 = .ok (.iaload, 1) := by decide +kernel
theorem dX7_warmthNow_11 : decode cX7_warmthNow 11 = .ok (.if_icmp .ge 17, 3) := by decide +kernel
theorem dX7_warmthNow_14 : decode cX7_warmthNow 14 = .ok (.iload_n 1, 1) := by decide +kernel
theorem dX7_warmthNow_15 : decode cX7_warmthNow 15 = .ok (.aload_n 0, 1) := by decide +kernel
theorem dX7_warmthNow_16 : decode cX7_warmthNow 16 = .ok (.iload_n 2, 1) := by decide +kernel
theorem dX7_warmthNow_17 : decode cX7_warmthNow 17 = .ok (.invokevirtual 102, 3) := by decide +kernel
theorem dX7_warmthNow_20 : decode cX7_warmthNow 20 = .ok (.iadd, 1) := by decide +kernel
theorem dX7_warmthNow_21 : decode cX7_warmthNow 21 = .ok (.istore_n 1, 1) := by decide +kernel
theorem dX7_warmthNow_22 : decode cX7_warmthNow 22 = .ok (.iinc 2 1, 3) := by decide +kernel
theorem dX7_warmthNow_25 : decode cX7_warmthNow 25 = .ok (.goto (-21), 3) := by decide +kernel
theorem dX7_warmthNow_28 : decode cX7_warmthNow 28 = .ok (.iload_n 1, 1) := by decide +kernel
theorem dX7_warmthNow_29 : decode cX7_warmthNow 29 = .ok (.aload_n 0, 1) := by decide +kernel
theorem dX7_warmthNow_30 : decode cX7_warmthNow 30 = .ok (.getfield 7, 3) := by decide +kernel
theorem dX7_warmthNow_33 : decode cX7_warmthNow 33 = .ok (.iconst 3, 1) := by decide +kernel
theorem dX7_warmthNow_34 : decode cX7_warmthNow 34 = .ok (.iaload, 1) := by decide +kernel
theorem dX7_warmthNow_35 : decode cX7_warmthNow 35 = .ok (.iconst 5, 1) := by decide +kernel
theorem dX7_warmthNow_36 : decode cX7_warmthNow 36 = .ok (.idiv, 1) := by decide +kernel
theorem dX7_warmthNow_37 : decode cX7_warmthNow 37 = .ok (.isub, 1) := by decide +kernel
theorem dX7_warmthNow_38 : decode cX7_warmthNow 38 = .ok (.aload_n 0, 1) := by decide +kernel
theorem dX7_warmthNow_39 : decode cX7_warmthNow 39 = .ok (.getfield 7, 3) := by decide +kernel
theorem dX7_warmthNow_42 : decode cX7_warmthNow 42 = .ok (.bipush 6, 2) := by decide +kernel
theorem dX7_warmthNow_44 : decode cX7_warmthNow 44 = .ok (.iaload, 1) := by decide +kernel
theorem dX7_warmthNow_45 : decode cX7_warmthNow 45 = .ok (.iconst 3, 1) := by decide +kernel
theorem dX7_warmthNow_46 : decode cX7_warmthNow 46 = .ok (.idiv, 1) := by decide +kernel
theorem dX7_warmthNow_47 : decode cX7_warmthNow 47 = .ok (.isub, 1) := by decide +kernel
theorem dX7_warmthNow_48 : decode cX7_warmthNow 48 = .ok (.ireturn, 1) := by decide +kernel
theorem dX7_fuel_0 : decode cX7_fuel 0 = .ok (.bipush 10, 2) := by decide +kernel
theorem dX7_fuel_2 : decode cX7_fuel 2 = .ok (.aload_n 0, 1) := by decide +kernel
theorem dX7_fuel_3 : decode cX7_fuel 3 = .ok (.getfield 7, 3) := by decide +kernel
theorem dX7_fuel_6 : decode cX7_fuel 6 = .ok (.bipush 7, 2) := by decide +kernel
theorem dX7_fuel_8 : decode cX7_fuel 8 = .ok (.iaload, 1) := by decide +kernel
theorem dX7_fuel_9 : decode cX7_fuel 9 = .ok (.imul, 1) := by decide +kernel
theorem dX7_fuel_10 : decode cX7_fuel 10 = .ok (.aload_n 0, 1) := by decide +kernel
theorem dX7_fuel_11 : decode cX7_fuel 11 = .ok (.invokevirtual 139, 3) := by decide +kernel
theorem dX7_fuel_14 : decode cX7_fuel 14 = .ok (.isub, 1) := by decide +kernel
theorem dX7_fuel_15 : decode cX7_fuel 15 = .ok (.istore_n 1, 1) := by decide +kernel
theorem dX7_fuel_16 : decode cX7_fuel 16 = .ok (.iload_n 1, 1) := by decide +kernel
theorem dX7_fuel_17 : decode cX7_fuel 17 = .ok (.ifCond .le 12, 3) := by decide +kernel
theorem dX7_fuel_20 : decode cX7_fuel 20 = .ok (.iload_n 1, 1) := by decide +kernel
theorem dX7_fuel_21 : decode cX7_fuel 21 = .ok (.bipush 20, 2) := by decide +kernel
theorem dX7_fuel_23 : decode cX7_fuel 23 = .ok (.idiv, 1) := by decide +kernel
theorem dX7_fuel_24 : decode cX7_fuel 24 = .ok (.iconst 1, 1) := by decide +kernel
theorem dX7_fuel_25 : decode cX7_fuel 25 = .ok (.iadd, 1) := by decide +kernel
theorem dX7_fuel_26 : decode cX7_fuel 26 = .ok (.goto 4, 3) := by decide +kernel
theorem dX7_fuel_29 : decode cX7_fuel 29 = .ok (.iconst 0, 1) := by decide +kernel
theorem dX7_fuel_30 : decode cX7_fuel 30 = .ok (.ireturn, 1) := by decide +kernel
theorem dX7_warmth_0 : decode cX7_warmth 0 = .ok (.iload_n 1, 1) := by decide +kernel
theorem dX7_warmth_1 : decode cX7_warmth 1 = .ok (.ifCond .ne 10, 3) := by decide +kernel
theorem dX7_warmth_4 : decode cX7_warmth 4 = .ok (.aload_n 0, 1) := by decide +kernel
theorem dX7_warmth_5 : decode cX7_warmth 5 = .ok (.invokevirtual 139, 3) := by decide +kernel
theorem dX7_warmth_8 : decode cX7_warmth 8 = .ok (.goto 21, 3) := by decide +kernel
theorem dX7_warmth_11 : decode cX7_warmth 11 = .ok (.iload_n 1, 1) := by decide +kernel
theorem dX7_warmth_12 : decode cX7_warmth 12 = .ok (.iconst 1, 1) := by decide +kernel
theorem dX7_warmth_13 : decode cX7_warmth 13 = .ok (.if_icmp .ne 10, 3) := by decide +kernel
theorem dX7_warmth_16 : decode cX7_warmth 16 = .ok (.aload_n 0, 1) := by decide +kernel
theorem dX7_warmth_17 : decode cX7_warmth 17 = .ok (.invokevirtual 142, 3) := by decide +kernel
theorem dX7_warmth_20 : decode cX7_warmth 20 = .ok (.goto 9, 3) := by decide +kernel
theorem dX7_warmth_23 : decode cX7_warmth 23 = .ok (.aload_n 0, 1) := by decide +kernel
theorem dX7_warmth_24 : decode cX7_warmth 24 = .ok (.ldc 54, 2) := by decide +kernel
theorem dX7_warmth_26 : decode cX7_warmth 26 = .ok (.invokevirtual 75, 3) := by decide +kernel
theorem dX7_warmth_29 : decode cX7_warmth 29 = .ok (.ireturn, 1) := by decide +kernel
theorem dX7_idle_0 : decode cX7_idle 0 = .ok (.aload_n 0, 1) := by decide +kernel
theorem dX7_idle_1 : decode cX7_idle 1 = .ok (.invokevirtual 142, 3) := by decide +kernel
theorem dX7_idle_4 : decode cX7_idle 4 = .ok (.istore_n 1, 1) := by decide +kernel
theorem dX7_idle_5 : decode cX7_idle 5 = .ok (.iconst 0, 1) := by decide +kernel
theorem dX7_idle_6 : decode cX7_idle 6 = .ok (.istore_n 2, 1) := by decide +kernel
theorem dX7_idle_7 : decode cX7_idle 7 = .ok (.iconst 0, 1) := by decide +kernel
theorem dX7_idle_8 : decode cX7_idle 8 = .ok (.istore_n 3, 1) := by decide +kernel
theorem dX7_idle_9 : decode cX7_idle 9 = .ok (.iload_n 3, 1) := by decide +kernel
theorem dX7_idle_10 : decode cX7_idle 10 = .ok (.aload_n 0, 1) := by decide +kernel
theorem dX7_idle_11 : decode cX7_idle 11 = .ok (.getfield 7, 3) := by decide +kernel
theorem dX7_idle_14 : decode cX7_idle 14 = .ok (.iconst 0, 1) := by decide +kernel
theorem dX7_idle_15 : decode cX7_idle 15 = .ok (.iaload, 1) := by decide +kernel
theorem dX7_idle_16 : decode cX7_idle 16 = .ok (.if_icmp .ge 49, 3) := by decide +kernel
theorem dX7_idle_19 : decode cX7_idle 19 = .ok (.aload_n 0, 1) := by decide +kernel
theorem dX7_idle_20 : decode cX7_idle 20 = .ok (.iload_n 3, 1) := by decide +kernel
theorem dX7_idle_21 : decode cX7_idle 21 = .ok (.invokevirtual 84, 3) := by decide +kernel
theorem dX7_idle_24 : decode cX7_idle 24 = .ok (.ifCond .eq 35, 3) := by decide +kernel
theorem dX7_idle_27 : decode cX7_idle 27 = .ok (.aload_n 0, 1) := by decide +kernel
theorem dX7_idle_28 : decode cX7_idle 28 = .ok (.iload_n 3, 1) := by decide +kernel
theorem dX7_idle_29 : decode cX7_idle 29 = .ok (.iconst 5, 1) := by decide +kernel
theorem dX7_idle_30 : decode cX7_idle 30 = .ok (.iconst 0, 1) := by decide +kernel
theorem dX7_idle_31 : decode cX7_idle 31 = .ok (.invokevirtual 59, 3) := by decide +kernel
theorem dX7_idle_34 : decode cX7_idle 34 = .ok (.iload_n 2, 1) := by decide +kernel
theorem dX7_idle_35 : decode cX7_idle 35 = .ok (.aload_n 0, 1) := by decide +kernel
theorem dX7_idle_36 : decode cX7_idle 36 = .ok (.invokevirtual 142, 3) := by decide +kernel
theorem dX7_idle_39 : decode cX7_idle 39 = .ok (.iload_n 1, 1) := by decide +kernel
theorem dX7_idle_40 : decode cX7_idle 40 = .ok (.if_icmp .ne 9, 3) := by decide +kernel
theorem dX7_idle_43 : decode cX7_idle 43 = .ok (.iconst 1, 1) := by decide +kernel
theorem dX7_idle_44 : decode cX7_idle 44 = .ok (.iload_n 3, 1) := by decide +kernel
theorem dX7_idle_45 : decode cX7_idle 45 = .ok (.ishl, 1) := by decide +kernel
theorem dX7_idle_46 : decode cX7_idle 46 = .ok (.goto 4, 3) := by decide +kernel
theorem dX7_idle_49 : decode cX7_idle 49 = .ok (.iconst 0, 1) := by decide +kernel
theorem dX7_idle_50 : decode cX7_idle 50 = .ok (.ior, 1) := by decide +kernel
theorem dX7_idle_51 : decode cX7_idle 51 = .ok (.istore_n 2, 1) := by decide +kernel
theorem dX7_idle_52 : decode cX7_idle 52 = .ok (.aload_n 0, 1) := by decide +kernel
theorem dX7_idle_53 : decode cX7_idle 53 = .ok (.iload_n 3, 1) := by decide +kernel
theorem dX7_idle_54 : decode cX7_idle 54 = .ok (.iconst 5, 1) := by decide +kernel
theorem dX7_idle_55 : decode cX7_idle 55 = .ok (.iconst 1, 1) := by decide +kernel
theorem dX7_idle_56 : decode cX7_idle 56 = .ok (.invokevirtual 59, 3) := by decide +kernel
theorem dX7_idle_59 : decode cX7_idle 59 = .ok (.iinc 3 1, 3) := by decide +kernel
theorem dX7_idle_62 : decode cX7_idle 62 = .ok (.goto (-53), 3) := by decide +kernel
theorem dX7_idle_65 : decode cX7_idle 65 = .ok (.iload_n 2, 1) := by decide +kernel
theorem dX7_idle_66 : decode cX7_idle 66 = .ok (.ireturn, 1) := by decide +kernel
theorem dX7_beast_0 : decode cX7_beast 0 = .ok (.iload_n 1, 1) := by decide +kernel
theorem dX7_beast_1 : decode cX7_beast 1 = .ok (.i2l, 1) := by decide +kernel
theorem dX7_beast_2 : decode cX7_beast 2 = .ok (.lconst 1, 1) := by decide +kernel
theorem dX7_beast_3 : decode cX7_beast 3 = .ok (.ldc2_w 71, 3) := by decide +kernel
theorem dX7_beast_6 : decode cX7_beast 6 = .ok (.invokestatic 65, 3) := by decide +kernel
theorem dX7_beast_9 : decode cX7_beast 9 = .ok (.ifCond .ne 10, 3) := by decide +kernel
theorem dX7_beast_12 : decode cX7_beast 12 = .ok (.aload_n 0, 1) := by decide +kernel
theorem dX7_beast_13 : decode cX7_beast 13 = .ok (.ldc 54, 2) := by decide +kernel
theorem dX7_beast_15 : decode cX7_beast 15 = .ok (.invokevirtual 75, 3) := by decide +kernel
theorem dX7_beast_18 : decode cX7_beast 18 = .ok (.ireturn, 1) := by decide +kernel
theorem dX7_beast_19 : decode cX7_beast 19 = .ok (.aload_n 0, 1) := by decide +kernel
theorem dX7_beast_20 : decode cX7_beast 20 = .ok (.getfield 7, 3) := by decide +kernel
theorem dX7_beast_23 : decode cX7_beast 23 = .ok (.iconst 1, 1) := by decide +kernel
theorem dX7_beast_24 : decode cX7_beast 24 = .ok (.iaload, 1) := by decide +kernel
theorem dX7_beast_25 : decode cX7_beast 25 = .ok (.bipush 6, 2) := by decide +kernel
theorem dX7_beast_27 : decode cX7_beast 27 = .ok (.if_icmp .ne 10, 3) := by decide +kernel
theorem dX7_beast_30 : decode cX7_beast 30 = .ok (.aload_n 0, 1) := by decide +kernel
theorem dX7_beast_31 : decode cX7_beast 31 = .ok (.ldc 79, 2) := by decide +kernel
theorem dX7_beast_33 : decode cX7_beast 33 = .ok (.invokevirtual 75, 3) := by decide +kernel
theorem dX7_beast_36 : decode cX7_beast 36 = .ok (.ireturn, 1) := by decide +kernel
theorem dX7_beast_37 : decode cX7_beast 37 = .ok (.aload_n 0, 1) := by decide +kernel
theorem dX7_beast_38 : decode cX7_beast 38 = .ok (.getfield 7, 3) := by decide +kernel
theorem dX7_beast_41 : decode cX7_beast 41 = .ok (.sipush 132, 3) := by decide +kernel
theorem dX7_beast_44 : decode cX7_beast 44 = .ok (.aload_n 0, 1) := by decide +kernel
theorem dX7_beast_45 : decode cX7_beast 45 = .ok (.getfield 7, 3) := by decide +kernel
theorem dX7_beast_48 : decode cX7_beast 48 = .ok (.iconst 1, 1) := by decide +kernel
theorem dX7_beast_49 : decode cX7_beast 49 = .ok (.iaload, 1) := by decide +kernel
theorem dX7_beast_50 : decode cX7_beast 50 = .ok (.iadd, 1) := by decide +kernel
theorem dX7_beast_51 : decode cX7_beast 51 = .ok (.iload_n 1, 1) := by decide +kernel
theorem dX7_beast_52 : decode cX7_beast 52 = .ok (.iastore, 1) := by decide +kernel
theorem dX7_beast_53 : decode cX7_beast 53 = .ok (.aload_n 0, 1) := by decide +kernel
theorem dX7_beast_54 : decode cX7_beast 54 = .ok (.getfield 7, 3) := by decide +kernel
theorem dX7_beast_57 : decode cX7_beast 57 = .ok (.iconst 1, 1) := by decide +kernel
theorem dX7_beast_58 : decode cX7_beast 58 = .ok (.dup2, 1) := by decide +kernel
theorem dX7_beast_59 : decode cX7_beast 59 = .ok (.iaload, 1) := by decide +kernel
theorem dX7_beast_60 : decode cX7_beast 60 = .ok (.iconst 1, 1) := by decide +kernel
theorem dX7_beast_61 : decode cX7_beast 61 = .ok (.iadd, 1) := by decide +kernel
theorem dX7_beast_62 : decode cX7_beast 62 = .ok (.iastore, 1) := by decide +kernel
theorem dX7_beast_63 : decode cX7_beast 63 = .ok (.aload_n 0, 1) := by decide +kernel
theorem dX7_beast_64 : decode cX7_beast 64 = .ok (.getfield 7, 3) := by decide +kernel
theorem dX7_beast_67 : decode cX7_beast 67 = .ok (.iconst 1, 1) := by decide +kernel
theorem dX7_beast_68 : decode cX7_beast 68 = .ok (.iaload, 1) := by decide +kernel
theorem dX7_beast_69 : decode cX7_beast 69 = .ok (.iconst 1, 1) := by decide +kernel
theorem dX7_beast_70 : decode cX7_beast 70 = .ok (.isub, 1) := by decide +kernel
theorem dX7_beast_71 : decode cX7_beast 71 = .ok (.ireturn, 1) := by decide +kernel
theorem dX7_cap_0 : decode cX7_cap 0 = .ok (.iload_n 1, 1) := by decide +kernel
theorem dX7_cap_1 : decode cX7_cap 1 = .ok (.ifCond .lt 26, 3) := by decide +kernel
theorem dX7_cap_4 : decode cX7_cap 4 = .ok (.iload_n 1, 1) := by decide +kernel
theorem dX7_cap_5 : decode cX7_cap 5 = .ok (.aload_n 0, 1) := by decide +kernel
theorem dX7_cap_6 : decode cX7_cap 6 = .ok (.getfield 7, 3) := by decide +kernel
theorem dX7_cap_9 : decode cX7_cap 9 = .ok (.iconst 1, 1) := by decide +kernel
theorem dX7_cap_10 : decode cX7_cap 10 = .ok (.iaload, 1) := by decide +kernel
theorem dX7_cap_11 : decode cX7_cap 11 = .ok (.if_icmp .ge 16, 3) := by decide +kernel
theorem dX7_cap_14 : decode cX7_cap 14 = .ok (.aload_n 0, 1) := by decide +kernel
theorem dX7_cap_15 : decode cX7_cap 15 = .ok (.getfield 7, 3) := by decide +kernel
theorem dX7_cap_18 : decode cX7_cap 18 = .ok (.sipush 132, 3) := by decide +kernel
theorem dX7_cap_21 : decode cX7_cap 21 = .ok (.iload_n 1, 1) := by decide +kernel
theorem dX7_cap_22 : decode cX7_cap 22 = .ok (.iadd, 1) := by decide +kernel
theorem dX7_cap_23 : decode cX7_cap 23 = .ok (.iaload, 1) := by decide +kernel
theorem dX7_cap_24 : decode cX7_cap 24 = .ok (.goto 9, 3) := by decide +kernel
theorem dX7_cap_27 : decode cX7_cap 27 = .ok (.aload_n 0, 1) := by decide +kernel
theorem dX7_cap_28 : decode cX7_cap 28 = .ok (.ldc 54, 2) := by decide +kernel
theorem dX7_cap_30 : decode cX7_cap 30 = .ok (.invokevirtual 75, 3) := by decide +kernel
theorem dX7_cap_33 : decode cX7_cap 33 = .ok (.ireturn, 1) := by decide +kernel
theorem dX7_isLoad_0 : decode cX7_isLoad 0 = .ok (.iload_n 1, 1) := by decide +kernel
theorem dX7_isLoad_1 : decode cX7_isLoad 1 = .ok (.ifCond .lt 19, 3) := by decide +kernel
theorem dX7_isLoad_4 : decode cX7_isLoad 4 = .ok (.iload_n 1, 1) := by decide +kernel
theorem dX7_isLoad_5 : decode cX7_isLoad 5 = .ok (.iconst 1, 1) := by decide +kernel
theorem dX7_isLoad_6 : decode cX7_isLoad 6 = .ok (.aload_n 0, 1) := by decide +kernel
theorem dX7_isLoad_7 : decode cX7_isLoad 7 = .ok (.getfield 7, 3) := by decide +kernel
theorem dX7_isLoad_10 : decode cX7_isLoad 10 = .ok (.iconst 0, 1) := by decide +kernel
theorem dX7_isLoad_11 : decode cX7_isLoad 11 = .ok (.iaload, 1) := by decide +kernel
theorem dX7_isLoad_12 : decode cX7_isLoad 12 = .ok (.ishl, 1) := by decide +kernel
theorem dX7_isLoad_13 : decode cX7_isLoad 13 = .ok (.if_icmp .ge 7, 3) := by decide +kernel
theorem dX7_isLoad_16 : decode cX7_isLoad 16 = .ok (.iconst 1, 1) := by decide +kernel
theorem dX7_isLoad_17 : decode cX7_isLoad 17 = .ok (.goto 4, 3) := by decide +kernel
theorem dX7_isLoad_20 : decode cX7_isLoad 20 = .ok (.iconst 0, 1) := by decide +kernel
theorem dX7_isLoad_21 : decode cX7_isLoad 21 = .ok (.istore_n 2, 1) := by decide +kernel
theorem dX7_isLoad_22 : decode cX7_isLoad 22 = .ok (.iconst 0, 1) := by decide +kernel
theorem dX7_isLoad_23 : decode cX7_isLoad 23 = .ok (.istore_n 3, 1) := by decide +kernel
theorem dX7_isLoad_24 : decode cX7_isLoad 24 = .ok (.iload_n 3, 1) := by decide +kernel
theorem dX7_isLoad_25 : decode cX7_isLoad 25 = .ok (.aload_n 0, 1) := by decide +kernel
theorem dX7_isLoad_26 : decode cX7_isLoad 26 = .ok (.getfield 7, 3) := by decide +kernel
theorem dX7_isLoad_29 : decode cX7_isLoad 29 = .ok (.iconst 0, 1) := by decide +kernel
theorem dX7_isLoad_30 : decode cX7_isLoad 30 = .ok (.iaload, 1) := by decide +kernel
theorem dX7_isLoad_31 : decode cX7_isLoad 31 = .ok (.if_icmp .ge 35, 3) := by decide +kernel
theorem dX7_isLoad_34 : decode cX7_isLoad 34 = .ok (.iload_n 2, 1) := by decide +kernel
theorem dX7_isLoad_35 : decode cX7_isLoad 35 = .ok (.ifCond .eq 31, 3) := by decide +kernel
theorem dX7_isLoad_38 : decode cX7_isLoad 38 = .ok (.iload_n 1, 1) := by decide +kernel
theorem dX7_isLoad_39 : decode cX7_isLoad 39 = .ok (.iload_n 3, 1) := by decide +kernel
theorem dX7_isLoad_40 : decode cX7_isLoad 40 = .ok (.ishr, 1) := by decide +kernel
theorem dX7_isLoad_41 : decode cX7_isLoad 41 = .ok (.iconst 1, 1) := by decide +kernel
theorem dX7_isLoad_42 : decode cX7_isLoad 42 = .ok (.iand, 1) := by decide +kernel
theorem dX7_isLoad_43 : decode cX7_isLoad 43 = .ok (.ifCond .eq 11, 3) := by decide +kernel
theorem dX7_isLoad_46 : decode cX7_isLoad 46 = .ok (.aload_n 0, 1) := by decide +kernel
theorem dX7_isLoad_47 : decode cX7_isLoad 47 = .ok (.iload_n 3, 1) := by decide +kernel
theorem dX7_isLoad_48 : decode cX7_isLoad 48 = .ok (.invokevirtual 84, 3) := by decide +kernel
theorem dX7_isLoad_51 : decode cX7_isLoad 51 = .ok (.ifCond .eq 7, 3) := by decide +kernel
theorem dX7_isLoad_54 : decode cX7_isLoad 54 = .ok (.iconst 1, 1) := by decide +kernel
theorem dX7_isLoad_55 : decode cX7_isLoad 55 = .ok (.goto 4, 3) := by decide +kernel
theorem dX7_isLoad_58 : decode cX7_isLoad 58 = .ok (.iconst 0, 1) := by decide +kernel
theorem dX7_isLoad_59 : decode cX7_isLoad 59 = .ok (.istore_n 2, 1) := by decide +kernel
theorem dX7_isLoad_60 : decode cX7_isLoad 60 = .ok (.iinc 3 1, 3) := by decide +kernel
theorem dX7_isLoad_63 : decode cX7_isLoad 63 = .ok (.goto (-39), 3) := by decide +kernel
theorem dX7_isLoad_66 : decode cX7_isLoad 66 = .ok (.iload_n 2, 1) := by decide +kernel
theorem dX7_isLoad_67 : decode cX7_isLoad 67 = .ok (.ireturn, 1) := by decide +kernel
theorem dX7_findLoad_0 : decode cX7_findLoad 0 = .ok (.aload_n 0, 1) := by decide +kernel
theorem dX7_findLoad_1 : decode cX7_findLoad 1 = .ok (.iconst 0, 1) := by decide +kernel
theorem dX7_findLoad_2 : decode cX7_findLoad 2 = .ok (.putfield 145, 3) := by decide +kernel
theorem dX7_findLoad_5 : decode cX7_findLoad 5 = .ok (.iconst 0, 1) := by decide +kernel
theorem dX7_findLoad_6 : decode cX7_findLoad 6 = .ok (.istore_n 2, 1) := by decide +kernel
theorem dX7_findLoad_7 : decode cX7_findLoad 7 = .ok (.iconst 0, 1) := by decide +kernel
theorem dX7_findLoad_8 : decode cX7_findLoad 8 = .ok (.istore_n 3, 1) := by decide +kernel
theorem dX7_findLoad_9 : decode cX7_findLoad 9 = .ok (.iload_n 3, 1) := by decide +kernel
theorem dX7_findLoad_10 : decode cX7_findLoad 10 = .ok (.aload_n 0, 1) := by decide +kernel
theorem dX7_findLoad_11 : decode cX7_findLoad 11 = .ok (.getfield 7, 3) := by decide +kernel
theorem dX7_findLoad_14 : decode cX7_findLoad 14 = .ok (.iconst 0, 1) := by decide +kernel
theorem dX7_findLoad_15 : decode cX7_findLoad 15 = .ok (.iaload, 1) := by decide +kernel
theorem dX7_findLoad_16 : decode cX7_findLoad 16 = .ok (.if_icmp .ge 44, 3) := by decide +kernel
theorem dX7_findLoad_19 : decode cX7_findLoad 19 = .ok (.iload_n 1, 1) := by decide +kernel
theorem dX7_findLoad_20 : decode cX7_findLoad 20 = .ok (.iload_n 3, 1) := by decide +kernel
theorem dX7_findLoad_21 : decode cX7_findLoad 21 = .ok (.ishr, 1) := by decide +kernel
theorem dX7_findLoad_22 : decode cX7_findLoad 22 = .ok (.iconst 1, 1) := by decide +kernel
theorem dX7_findLoad_23 : decode cX7_findLoad 23 = .ok (.iand, 1) := by decide +kernel
theorem dX7_findLoad_24 : decode cX7_findLoad 24 = .ok (.iconst 1, 1) := by decide +kernel
theorem dX7_findLoad_25 : decode cX7_findLoad 25 = .ok (.if_icmp .ne 29, 3) := by decide +kernel
theorem dX7_findLoad_28 : decode cX7_findLoad 28 = .ok (.iload_n 2, 1) := by decide +kernel
theorem dX7_findLoad_29 : decode cX7_findLoad 29 = .ok (.bipush 10, 2) := by decide +kernel
theorem dX7_findLoad_31 : decode cX7_findLoad 31 = .ok (.if_icmp .ge 20, 3) := by decide +kernel
theorem dX7_findLoad_34 : decode cX7_findLoad 34 = .ok (.aload_n 0, 1) := by decide +kernel
theorem dX7_findLoad_35 : decode cX7_findLoad 35 = .ok (.getfield 35, 3) := by decide +kernel
theorem dX7_findLoad_38 : decode cX7_findLoad 38 = .ok (.iload_n 2, 1) := by decide +kernel
theorem dX7_findLoad_39 : decode cX7_findLoad 39 = .ok (.iload_n 3, 1) := by decide +kernel
theorem dX7_findLoad_40 : decode cX7_findLoad 40 = .ok (.iastore, 1) := by decide +kernel
theorem dX7_findLoad_41 : decode cX7_findLoad 41 = .ok (.aload_n 0, 1) := by decide +kernel
theorem dX7_findLoad_42 : decode cX7_findLoad 42 = .ok (.dup, 1) := by decide +kernel
theorem dX7_findLoad_43 : decode cX7_findLoad 43 = .ok (.getfield 145, 3) := by decide +kernel
theorem dX7_findLoad_46 : decode cX7_findLoad 46 = .ok (.iconst 1, 1) := by decide +kernel
theorem dX7_findLoad_47 : decode cX7_findLoad 47 = .ok (.iadd, 1) := by decide +kernel
theorem dX7_findLoad_48 : decode cX7_findLoad 48 = .ok (.putfield 145, 3) := by decide +kernel
theorem dX7_findLoad_51 : decode cX7_findLoad 51 = .ok (.iinc 2 1, 3) := by decide +kernel
theorem dX7_findLoad_54 : decode cX7_findLoad 54 = .ok (.iinc 3 1, 3) := by decide +kernel
theorem dX7_findLoad_57 : decode cX7_findLoad 57 = .ok (.goto (-48), 3) := by decide +kernel
theorem dX7_findLoad_60 : decode cX7_findLoad 60 = .ok (.iconst 0, 1) := by decide +kernel
theorem dX7_findLoad_61 : decode cX7_findLoad 61 = .ok (.istore_n 3, 1) := by decide +kernel
theorem dX7_findLoad_62 : decode cX7_findLoad 62 = .ok (.iload_n 3, 1) := by decide +kernel
theorem dX7_findLoad_63 : decode cX7_findLoad 63 = .ok (.iconst 1, 1) := by decide +kernel
theorem dX7_findLoad_64 : decode cX7_findLoad 64 = .ok (.aload_n 0, 1) := by decide +kernel
theorem dX7_findLoad_65 : decode cX7_findLoad 65 = .ok (.getfield 145, 3) := by decide +kernel
theorem dX7_findLoad_68 : decode cX7_findLoad 68 = .ok (.ishl, 1) := by decide +kernel
theorem dX7_findLoad_69 : decode cX7_findLoad 69 = .ok (.if_icmp .ge 75, 3) := by decide +kernel
theorem dX7_findLoad_72 : decode cX7_findLoad 72 = .ok (.iload_n 2, 1) := by decide +kernel
theorem dX7_findLoad_73 : decode cX7_findLoad 73 = .ok (.bipush 10, 2) := by decide +kernel
theorem dX7_findLoad_75 : decode cX7_findLoad 75 = .ok (.if_icmp .gt 69, 3) := by decide +kernel
theorem dX7_findLoad_78 : decode cX7_findLoad 78 = .ok (.iconst 0, 1) := by decide +kernel
theorem dX7_findLoad_79 : decode cX7_findLoad 79 = .ok (.istore 4, 2) := by decide +kernel
theorem dX7_findLoad_81 : decode cX7_findLoad 81 = .ok (.iconst 0, 1) := by decide +kernel
theorem dX7_findLoad_82 : decode cX7_findLoad 82 = .ok (.istore 5, 2) := by decide +kernel
theorem dX7_findLoad_84 : decode cX7_findLoad 84 = .ok (.iload 5, 2) := by decide +kernel
theorem dX7_findLoad_86 : decode cX7_findLoad 86 = .ok (.aload_n 0, 1) := by decide +kernel
theorem dX7_findLoad_87 : decode cX7_findLoad 87 = .ok (.getfield 145, 3) := by decide +kernel
theorem dX7_findLoad_90 : decode cX7_findLoad 90 = .ok (.if_icmp .ge 40, 3) := by decide +kernel
theorem dX7_findLoad_93 : decode cX7_findLoad 93 = .ok (.iload 4, 2) := by decide +kernel
theorem dX7_findLoad_95 : decode cX7_findLoad 95 = .ok (.iload_n 3, 1) := by decide +kernel
theorem dX7_findLoad_96 : decode cX7_findLoad 96 = .ok (.iload 5, 2) := by decide +kernel
theorem dX7_findLoad_98 : decode cX7_findLoad 98 = .ok (.ishr, 1) := by decide +kernel
theorem dX7_findLoad_99 : decode cX7_findLoad 99 = .ok (.iconst 1, 1) := by decide +kernel
theorem dX7_findLoad_100 : decode cX7_findLoad 100 = .ok (.iand, 1) := by decide +kernel
theorem dX7_findLoad_101 : decode cX7_findLoad 101 = .ok (.iconst 1, 1) := by decide +kernel
theorem dX7_findLoad_102 : decode cX7_findLoad 102 = .ok (.if_icmp .ne 18, 3) := by decide +kernel
theorem dX7_findLoad_105 : decode cX7_findLoad 105 = .ok (.aload_n 0, 1) := by decide +kernel
theorem dX7_findLoad_106 : decode cX7_findLoad 106 = .ok (.aload_n 0, 1) := by decide +kernel
theorem dX7_findLoad_107 : decode cX7_findLoad 107 = .ok (.getfield 35, 3) := by decide +kernel
theorem dX7_findLoad_110 : decode cX7_findLoad 110 = .ok (.iload 5, 2) := by decide +kernel
theorem dX7_findLoad_112 : decode cX7_findLoad 112 = .ok (.iaload, 1) := by decide +kernel
theorem dX7_findLoad_113 : decode cX7_findLoad 113 = .ok (.iconst 3, 1) := by decide +kernel
theorem dX7_findLoad_114 : decode cX7_findLoad 114 = .ok (.invokevirtual 55, 3) := by decide +kernel
theorem dX7_findLoad_117 : decode cX7_findLoad 117 = .ok (.goto 4, 3) := by decide +kernel
theorem dX7_findLoad_120 : decode cX7_findLoad 120 = .ok (.iconst 0, 1) := by decide +kernel
theorem dX7_findLoad_121 : decode cX7_findLoad 121 = .ok (.iadd, 1) := by decide +kernel
theorem dX7_findLoad_122 : decode cX7_findLoad 122 = .ok (.istore 4, 2) := by decide +kernel
theorem dX7_findLoad_124 : decode cX7_findLoad 124 = .ok (.iinc 5 1, 3) := by decide +kernel
theorem dX7_findLoad_127 : decode cX7_findLoad 127 = .ok (.goto (-43), 3) := by decide +kernel
theorem dX7_findLoad_130 : decode cX7_findLoad 130 = .ok (.aload_n 0, 1) := by decide +kernel
theorem dX7_findLoad_131 : decode cX7_findLoad 131 = .ok (.getfield 38, 3) := by decide +kernel
theorem dX7_findLoad_134 : decode cX7_findLoad 134 = .ok (.iload_n 3, 1) := by decide +kernel
theorem dX7_findLoad_135 : decode cX7_findLoad 135 = .ok (.iload 4, 2) := by decide +kernel
theorem dX7_findLoad_137 : decode cX7_findLoad 137 = .ok (.iastore, 1) := by decide +kernel
theorem dX7_findLoad_138 : decode cX7_findLoad 138 = .ok (.iinc 3 1, 3) := by decide +kernel
theorem dX7_findLoad_141 : decode cX7_findLoad 141 = .ok (.goto (-79), 3) := by decide +kernel
theorem dX7_findLoad_144 : decode cX7_findLoad 144 = .ok (.iload_n 2, 1) := by decide +kernel
theorem dX7_findLoad_145 : decode cX7_findLoad 145 = .ok (.bipush 10, 2) := by decide +kernel
theorem dX7_findLoad_147 : decode cX7_findLoad 147 = .ok (.if_icmp .gt 7, 3) := by decide +kernel
theorem dX7_findLoad_150 : decode cX7_findLoad 150 = .ok (.iconst 1, 1) := by decide +kernel
theorem dX7_findLoad_151 : decode cX7_findLoad 151 = .ok (.goto 4, 3) := by decide +kernel
theorem dX7_findLoad_154 : decode cX7_findLoad 154 = .ok (.iconst 0, 1) := by decide +kernel
theorem dX7_findLoad_155 : decode cX7_findLoad 155 = .ok (.ireturn, 1) := by decide +kernel
theorem dX7_beasts_0 : decode cX7_beasts 0 = .ok (.aload_n 0, 1) := by decide +kernel
theorem dX7_beasts_1 : decode cX7_beasts 1 = .ok (.iload_n 1, 1) := by decide +kernel
theorem dX7_beasts_2 : decode cX7_beasts 2 = .ok (.invokevirtual 149, 3) := by decide +kernel
theorem dX7_beasts_5 : decode cX7_beasts 5 = .ok (.ifCond .ne 10, 3) := by decide +kernel
theorem dX7_beasts_8 : decode cX7_beasts 8 = .ok (.aload_n 0, 1) := by decide +kernel
theorem dX7_beasts_9 : decode cX7_beasts 9 = .ok (.ldc 54, 2) := by decide +kernel
theorem dX7_beasts_11 : decode cX7_beasts 11 = .ok (.invokevirtual 75, 3) := by decide +kernel
theorem dX7_beasts_14 : decode cX7_beasts 14 = .ok (.ireturn, 1) := by decide +kernel
theorem dX7_beasts_15 : decode cX7_beasts 15 = .ok (.aload_n 0, 1) := by decide +kernel
theorem dX7_beasts_16 : decode cX7_beasts 16 = .ok (.iload_n 1, 1) := by decide +kernel
theorem dX7_beasts_17 : decode cX7_beasts 17 = .ok (.invokevirtual 152, 3) := by decide +kernel
theorem dX7_beasts_20 : decode cX7_beasts 20 = .ok (.ifCond .ne 10, 3) := by decide +kernel
theorem dX7_beasts_23 : decode cX7_beasts 23 = .ok (.aload_n 0, 1) := by decide +kernel
theorem dX7_beasts_24 : decode cX7_beasts 24 = .ok (.ldc 155, 2) := by decide +kernel
theorem dX7_beasts_26 : decode cX7_beasts 26 = .ok (.invokevirtual 75, 3) := by decide +kernel
theorem dX7_beasts_29 : decode cX7_beasts 29 = .ok (.ireturn, 1) := by decide +kernel
theorem dX7_beasts_30 : decode cX7_beasts 30 = .ok (.iconst 1, 1) := by decide +kernel
theorem dX7_beasts_31 : decode cX7_beasts 31 = .ok (.aload_n 0, 1) := by decide +kernel
theorem dX7_beasts_32 : decode cX7_beasts 32 = .ok (.getfield 145, 3) := by decide +kernel
theorem dX7_beasts_35 : decode cX7_beasts 35 = .ok (.ishl, 1) := by decide +kernel
theorem dX7_beasts_36 : decode cX7_beasts 36 = .ok (.iconst 1, 1) := by decide +kernel
theorem dX7_beasts_37 : decode cX7_beasts 37 = .ok (.isub, 1) := by decide +kernel
theorem dX7_beasts_38 : decode cX7_beasts 38 = .ok (.istore_n 2, 1) := by decide +kernel
theorem dX7_beasts_39 : decode cX7_beasts 39 = .ok (.iconst 0, 1) := by decide +kernel
theorem dX7_beasts_40 : decode cX7_beasts 40 = .ok (.istore_n 3, 1) := by decide +kernel
theorem dX7_beasts_41 : decode cX7_beasts 41 = .ok (.iload_n 3, 1) := by decide +kernel
theorem dX7_beasts_42 : decode cX7_beasts 42 = .ok (.iload_n 2, 1) := by decide +kernel
theorem dX7_beasts_43 : decode cX7_beasts 43 = .ok (.if_icmp .gt 24, 3) := by decide +kernel
theorem dX7_beasts_46 : decode cX7_beasts 46 = .ok (.aload_n 0, 1) := by decide +kernel
theorem dX7_beasts_47 : decode cX7_beasts 47 = .ok (.getfield 41, 3) := by decide +kernel
theorem dX7_beasts_50 : decode cX7_beasts 50 = .ok (.iload_n 3, 1) := by decide +kernel
theorem dX7_beasts_51 : decode cX7_beasts 51 = .ok (.iload_n 3, 1) := by decide +kernel
theorem dX7_beasts_52 : decode cX7_beasts 52 = .ok (.ifCond .ne 7, 3) := by decide +kernel
theorem dX7_beasts_55 : decode cX7_beasts 55 = .ok (.iconst 1, 1) := by decide +kernel
theorem dX7_beasts_56 : decode cX7_beasts 56 = .ok (.goto 4, 3) := by decide +kernel
theorem dX7_beasts_59 : decode cX7_beasts 59 = .ok (.iconst 0, 1) := by decide +kernel
theorem dX7_beasts_60 : decode cX7_beasts 60 = .ok (.bastore, 1) := by decide +kernel
theorem dX7_beasts_61 : decode cX7_beasts 61 = .ok (.iinc 3 1, 3) := by decide +kernel
theorem dX7_beasts_64 : decode cX7_beasts 64 = .ok (.goto (-23), 3) := by decide +kernel
theorem dX7_beasts_67 : decode cX7_beasts 67 = .ok (.iconst 0, 1) := by decide +kernel
theorem dX7_beasts_68 : decode cX7_beasts 68 = .ok (.istore_n 3, 1) := by decide +kernel
theorem dX7_beasts_69 : decode cX7_beasts 69 = .ok (.aload_n 0, 1) := by decide +kernel
theorem dX7_beasts_70 : decode cX7_beasts 70 = .ok (.getfield 41, 3) := by decide +kernel
theorem dX7_beasts_73 : decode cX7_beasts 73 = .ok (.iload_n 2, 1) := by decide +kernel
theorem dX7_beasts_74 : decode cX7_beasts 74 = .ok (.baload, 1) := by decide +kernel
theorem dX7_beasts_75 : decode cX7_beasts 75 = .ok (.ifCond .ne 113, 3) := by decide +kernel
theorem dX7_beasts_78 : decode cX7_beasts 78 = .ok (.iload_n 3, 1) := by decide +kernel
theorem dX7_beasts_79 : decode cX7_beasts 79 = .ok (.aload_n 0, 1) := by decide +kernel
theorem dX7_beasts_80 : decode cX7_beasts 80 = .ok (.getfield 7, 3) := by decide +kernel
theorem dX7_beasts_83 : decode cX7_beasts 83 = .ok (.iconst 1, 1) := by decide +kernel
theorem dX7_beasts_84 : decode cX7_beasts 84 = .ok (.iaload, 1) := by decide +kernel
theorem dX7_beasts_85 : decode cX7_beasts 85 = .ok (.if_icmp .ge 103, 3) := by decide +kernel
theorem dX7_beasts_88 : decode cX7_beasts 88 = .ok (.aload_n 0, 1) := by decide +kernel
theorem dX7_beasts_89 : decode cX7_beasts 89 = .ok (.getfield 7, 3) := by decide +kernel
theorem dX7_beasts_92 : decode cX7_beasts 92 = .ok (.sipush 132, 3) := by decide +kernel
theorem dX7_beasts_95 : decode cX7_beasts 95 = .ok (.iload_n 3, 1) := by decide +kernel
theorem dX7_beasts_96 : decode cX7_beasts 96 = .ok (.iadd, 1) := by decide +kernel
theorem dX7_beasts_97 : decode cX7_beasts 97 = .ok (.iaload, 1) := by decide +kernel
theorem dX7_beasts_98 : decode cX7_beasts 98 = .ok (.istore 4, 2) := by decide +kernel
theorem dX7_beasts_100 : decode cX7_beasts 100 = .ok (.iload_n 2, 1) := by decide +kernel
theorem dX7_beasts_101 : decode cX7_beasts 101 = .ok (.istore 5, 2) := by decide +kernel
theorem dX7_beasts_103 : decode cX7_beasts 103 = .ok (.iload 5, 2) := by decide +kernel
theorem dX7_beasts_105 : decode cX7_beasts 105 = .ok (.ifCond .le 77, 3) := by decide +kernel
theorem dX7_beasts_108 : decode cX7_beasts 108 = .ok (.iload 5, 2) := by decide +kernel
theorem dX7_beasts_110 : decode cX7_beasts 110 = .ok (.istore 6, 2) := by decide +kernel
theorem dX7_beasts_112 : decode cX7_beasts 112 = .ok (.iload 6, 2) := by decide +kernel
theorem dX7_beasts_114 : decode cX7_beasts 114 = .ok (.ifCond .le 62, 3) := by decide +kernel
theorem dX7_beasts_117 : decode cX7_beasts 117 = .ok (.aload_n 0, 1) := by decide +kernel
theorem dX7_beasts_118 : decode cX7_beasts 118 = .ok (.getfield 41, 3) := by decide +kernel
theorem dX7_beasts_121 : decode cX7_beasts 121 = .ok (.iload 5, 2) := by decide +kernel
theorem dX7_beasts_123 : decode cX7_beasts 123 = .ok (.baload, 1) := by decide +kernel
theorem dX7_beasts_124 : decode cX7_beasts 124 = .ok (.ifCond .ne 52, 3) := by decide +kernel
theorem dX7_beasts_127 : decode cX7_beasts 127 = .ok (.aload_n 0, 1) := by decide +kernel
theorem dX7_beasts_128 : decode cX7_beasts 128 = .ok (.getfield 41, 3) := by decide +kernel
theorem dX7_beasts_131 : decode cX7_beasts 131 = .ok (.iload 5, 2) := by decide +kernel
theorem dX7_beasts_133 : decode cX7_beasts 133 = .ok (.aload_n 0, 1) := by decide +kernel
theorem dX7_beasts_134 : decode cX7_beasts 134 = .ok (.getfield 38, 3) := by decide +kernel
theorem dX7_beasts_137 : decode cX7_beasts 137 = .ok (.iload 6, 2) := by decide +kernel
theorem dX7_beasts_139 : decode cX7_beasts 139 = .ok (.iaload, 1) := by decide +kernel
theorem dX7_beasts_140 : decode cX7_beasts 140 = .ok (.iload 4, 2) := by decide +kernel
theorem dX7_beasts_142 : decode cX7_beasts 142 = .ok (.if_icmp .gt 20, 3) := by decide +kernel
theorem dX7_beasts_145 : decode cX7_beasts 145 = .ok (.aload_n 0, 1) := by decide +kernel
theorem dX7_beasts_146 : decode cX7_beasts 146 = .ok (.getfield 41, 3) := by decide +kernel
theorem dX7_beasts_149 : decode cX7_beasts 149 = .ok (.iload 5, 2) := by decide +kernel
theorem dX7_beasts_151 : decode cX7_beasts 151 = .ok (.iload 6, 2) := by decide +kernel
theorem dX7_beasts_153 : decode cX7_beasts 153 = .ok (.ixor, 1) := by decide +kernel
theorem dX7_beasts_154 : decode cX7_beasts 154 = .ok (.baload, 1) := by decide +kernel
theorem dX7_beasts_155 : decode cX7_beasts 155 = .ok (.ifCond .eq 7, 3) := by decide +kernel
theorem dX7_beasts_158 : decode cX7_beasts 158 = .ok (.iconst 1, 1) := by decide +kernel
theorem dX7_beasts_159 : decode cX7_beasts 159 = .ok (.goto 4, 3) := by decide +kernel
theorem dX7_beasts_162 : decode cX7_beasts 162 = .ok (.iconst 0, 1) := by decide +kernel
theorem dX7_beasts_163 : decode cX7_beasts 163 = .ok (.bastore, 1) := by decide +kernel
theorem dX7_beasts_164 : decode cX7_beasts 164 = .ok (.iload 6, 2) := by decide +kernel
theorem dX7_beasts_166 : decode cX7_beasts 166 = .ok (.iconst 1, 1) := by decide +kernel
theorem dX7_beasts_167 : decode cX7_beasts 167 = .ok (.isub, 1) := by decide +kernel
theorem dX7_beasts_168 : decode cX7_beasts 168 = .ok (.iload 5, 2) := by decide +kernel
theorem dX7_beasts_170 : decode cX7_beasts 170 = .ok (.iand, 1) := by decide +kernel
theorem dX7_beasts_171 : decode cX7_beasts 171 = .ok (.istore 6, 2) := by decide +kernel
theorem dX7_beasts_173 : decode cX7_beasts 173 = .ok (.goto (-61), 3) := by decide +kernel
theorem dX7_beasts_176 : decode cX7_beasts 176 = .ok (.iinc 5 (-1), 3) := by decide +kernel
theorem dX7_beasts_179 : decode cX7_beasts 179 = .ok (.goto (-76), 3) := by decide +kernel
theorem dX7_beasts_182 : decode cX7_beasts 182 = .ok (.iinc 3 1, 3) := by decide +kernel
theorem dX7_beasts_185 : decode cX7_beasts 185 = .ok (.goto (-116), 3) := by decide +kernel
theorem dX7_beasts_188 : decode cX7_beasts 188 = .ok (.aload_n 0, 1) := by decide +kernel
theorem dX7_beasts_189 : decode cX7_beasts 189 = .ok (.getfield 41, 3) := by decide +kernel
theorem dX7_beasts_192 : decode cX7_beasts 192 = .ok (.iload_n 2, 1) := by decide +kernel
theorem dX7_beasts_193 : decode cX7_beasts 193 = .ok (.baload, 1) := by decide +kernel
theorem dX7_beasts_194 : decode cX7_beasts 194 = .ok (.ifCond .eq 7, 3) := by decide +kernel
theorem dX7_beasts_197 : decode cX7_beasts 197 = .ok (.iload_n 3, 1) := by decide +kernel
theorem dX7_beasts_198 : decode cX7_beasts 198 = .ok (.goto 9, 3) := by decide +kernel
theorem dX7_beasts_201 : decode cX7_beasts 201 = .ok (.aload_n 0, 1) := by decide +kernel
theorem dX7_beasts_202 : decode cX7_beasts 202 = .ok (.ldc 138, 2) := by decide +kernel
theorem dX7_beasts_204 : decode cX7_beasts 204 = .ok (.invokevirtual 75, 3) := by decide +kernel
theorem dX7_beasts_207 : decode cX7_beasts 207 = .ok (.ireturn, 1) := by decide +kernel
theorem dX7_even_0 : decode cX7_even 0 = .ok (.aload_n 0, 1) := by decide +kernel
theorem dX7_even_1 : decode cX7_even 1 = .ok (.iload_n 1, 1) := by decide +kernel
theorem dX7_even_2 : decode cX7_even 2 = .ok (.invokevirtual 149, 3) := by decide +kernel
theorem dX7_even_5 : decode cX7_even 5 = .ok (.ifCond .eq 13, 3) := by decide +kernel
theorem dX7_even_8 : decode cX7_even 8 = .ok (.iload_n 2, 1) := by decide +kernel
theorem dX7_even_9 : decode cX7_even 9 = .ok (.i2l, 1) := by decide +kernel
theorem dX7_even_10 : decode cX7_even 10 = .ok (.lconst 0, 1) := by decide +kernel
theorem dX7_even_11 : decode cX7_even 11 = .ok (.lconst 1, 1) := by decide +kernel
theorem dX7_even_12 : decode cX7_even 12 = .ok (.invokestatic 65, 3) := by decide +kernel
theorem dX7_even_15 : decode cX7_even 15 = .ok (.ifCond .ne 10, 3) := by decide +kernel
theorem dX7_even_18 : decode cX7_even 18 = .ok (.aload_n 0, 1) := by decide +kernel
theorem dX7_even_19 : decode cX7_even 19 = .ok (.ldc 54, 2) := by decide +kernel
theorem dX7_even_21 : decode cX7_even 21 = .ok (.invokevirtual 75, 3) := by decide +kernel
theorem dX7_even_24 : decode cX7_even 24 = .ok (.ireturn, 1) := by decide +kernel
theorem dX7_even_25 : decode cX7_even 25 = .ok (.aload_n 0, 1) := by decide +kernel
theorem dX7_even_26 : decode cX7_even 26 = .ok (.iload_n 1, 1) := by decide +kernel
theorem dX7_even_27 : decode cX7_even 27 = .ok (.invokevirtual 152, 3) := by decide +kernel
theorem dX7_even_30 : decode cX7_even 30 = .ok (.ifCond .ne 10, 3) := by decide +kernel
theorem dX7_even_33 : decode cX7_even 33 = .ok (.aload_n 0, 1) := by decide +kernel
theorem dX7_even_34 : decode cX7_even 34 = .ok (.ldc 155, 2) := by decide +kernel
theorem dX7_even_36 : decode cX7_even 36 = .ok (.invokevirtual 75, 3) := by decide +kernel
theorem dX7_even_39 : decode cX7_even 39 = .ok (.ireturn, 1) := by decide +kernel
theorem dX7_even_40 : decode cX7_even 40 = .ok (.iconst 1, 1) := by decide +kernel
theorem dX7_even_41 : decode cX7_even 41 = .ok (.aload_n 0, 1) := by decide +kernel
theorem dX7_even_42 : decode cX7_even 42 = .ok (.getfield 145, 3) := by decide +kernel
theorem dX7_even_45 : decode cX7_even 45 = .ok (.ishl, 1) := by decide +kernel
theorem dX7_even_46 : decode cX7_even 46 = .ok (.iconst 1, 1) := by decide +kernel
theorem dX7_even_47 : decode cX7_even 47 = .ok (.isub, 1) := by decide +kernel
theorem dX7_even_48 : decode cX7_even 48 = .ok (.istore_n 3, 1) := by decide +kernel
theorem dX7_even_49 : decode cX7_even 49 = .ok (.iconst (-1), 1) := by decide +kernel
theorem dX7_even_50 : decode cX7_even 50 = .ok (.istore 4, 2) := by decide +kernel
theorem dX7_even_52 : decode cX7_even 52 = .ok (.iconst 0, 1) := by decide +kernel
theorem dX7_even_53 : decode cX7_even 53 = .ok (.istore 5, 2) := by decide +kernel
theorem dX7_even_55 : decode cX7_even 55 = .ok (.iconst 0, 1) := by decide +kernel
theorem dX7_even_56 : decode cX7_even 56 = .ok (.istore 6, 2) := by decide +kernel
theorem dX7_even_58 : decode cX7_even 58 = .ok (.iload 6, 2) := by decide +kernel
theorem dX7_even_60 : decode cX7_even 60 = .ok (.iload_n 3, 1) := by decide +kernel
theorem dX7_even_61 : decode cX7_even 61 = .ok (.if_icmp .gt 52, 3) := by decide +kernel
theorem dX7_even_64 : decode cX7_even 64 = .ok (.aload_n 0, 1) := by decide +kernel
theorem dX7_even_65 : decode cX7_even 65 = .ok (.getfield 38, 3) := by decide +kernel
theorem dX7_even_68 : decode cX7_even 68 = .ok (.iload_n 3, 1) := by decide +kernel
theorem dX7_even_69 : decode cX7_even 69 = .ok (.iaload, 1) := by decide +kernel
theorem dX7_even_70 : decode cX7_even 70 = .ok (.iconst 2, 1) := by decide +kernel
theorem dX7_even_71 : decode cX7_even 71 = .ok (.aload_n 0, 1) := by decide +kernel
theorem dX7_even_72 : decode cX7_even 72 = .ok (.getfield 38, 3) := by decide +kernel
theorem dX7_even_75 : decode cX7_even 75 = .ok (.iload 6, 2) := by decide +kernel
theorem dX7_even_77 : decode cX7_even 77 = .ok (.iaload, 1) := by decide +kernel
theorem dX7_even_78 : decode cX7_even 78 = .ok (.imul, 1) := by decide +kernel
theorem dX7_even_79 : decode cX7_even 79 = .ok (.isub, 1) := by decide +kernel
theorem dX7_even_80 : decode cX7_even 80 = .ok (.istore 7, 2) := by decide +kernel
theorem dX7_even_82 : decode cX7_even 82 = .ok (.iload 7, 2) := by decide +kernel
theorem dX7_even_84 : decode cX7_even 84 = .ok (.ifCond .lt 23, 3) := by decide +kernel
theorem dX7_even_87 : decode cX7_even 87 = .ok (.iload 4, 2) := by decide +kernel
theorem dX7_even_89 : decode cX7_even 89 = .ok (.ifCond .lt 10, 3) := by decide +kernel
theorem dX7_even_92 : decode cX7_even 92 = .ok (.iload 7, 2) := by decide +kernel
theorem dX7_even_94 : decode cX7_even 94 = .ok (.iload 5, 2) := by decide +kernel
theorem dX7_even_96 : decode cX7_even 96 = .ok (.if_icmp .ge 11, 3) := by decide +kernel
theorem dX7_even_99 : decode cX7_even 99 = .ok (.iload 6, 2) := by decide +kernel
theorem dX7_even_101 : decode cX7_even 101 = .ok (.istore 4, 2) := by decide +kernel
theorem dX7_even_103 : decode cX7_even 103 = .ok (.iload 7, 2) := by decide +kernel
theorem dX7_even_105 : decode cX7_even 105 = .ok (.istore 5, 2) := by decide +kernel
theorem dX7_even_107 : decode cX7_even 107 = .ok (.iinc 6 1, 3) := by decide +kernel
theorem dX7_even_110 : decode cX7_even 110 = .ok (.goto (-52), 3) := by decide +kernel
theorem dX7_even_113 : decode cX7_even 113 = .ok (.iconst 0, 1) := by decide +kernel
theorem dX7_even_114 : decode cX7_even 114 = .ok (.istore 6, 2) := by decide +kernel
theorem dX7_even_116 : decode cX7_even 116 = .ok (.iconst 0, 1) := by decide +kernel
theorem dX7_even_117 : decode cX7_even 117 = .ok (.istore 7, 2) := by decide +kernel
theorem dX7_even_119 : decode cX7_even 119 = .ok (.iload 7, 2) := by decide +kernel
theorem dX7_even_121 : decode cX7_even 121 = .ok (.aload_n 0, 1) := by decide +kernel
theorem dX7_even_122 : decode cX7_even 122 = .ok (.getfield 145, 3) := by decide +kernel
theorem dX7_even_125 : decode cX7_even 125 = .ok (.if_icmp .ge 38, 3) := by decide +kernel
theorem dX7_even_128 : decode cX7_even 128 = .ok (.iload 6, 2) := by decide +kernel
theorem dX7_even_130 : decode cX7_even 130 = .ok (.iload 4, 2) := by decide +kernel
theorem dX7_even_132 : decode cX7_even 132 = .ok (.iload 7, 2) := by decide +kernel
theorem dX7_even_134 : decode cX7_even 134 = .ok (.ishr, 1) := by decide +kernel
theorem dX7_even_135 : decode cX7_even 135 = .ok (.iconst 1, 1) := by decide +kernel
theorem dX7_even_136 : decode cX7_even 136 = .ok (.iand, 1) := by decide +kernel
theorem dX7_even_137 : decode cX7_even 137 = .ok (.iconst 1, 1) := by decide +kernel
theorem dX7_even_138 : decode cX7_even 138 = .ok (.if_icmp .ne 15, 3) := by decide +kernel
theorem dX7_even_141 : decode cX7_even 141 = .ok (.iconst 1, 1) := by decide +kernel
theorem dX7_even_142 : decode cX7_even 142 = .ok (.aload_n 0, 1) := by decide +kernel
theorem dX7_even_143 : decode cX7_even 143 = .ok (.getfield 35, 3) := by decide +kernel
theorem dX7_even_146 : decode cX7_even 146 = .ok (.iload 7, 2) := by decide +kernel
theorem dX7_even_148 : decode cX7_even 148 = .ok (.iaload, 1) := by decide +kernel
theorem dX7_even_149 : decode cX7_even 149 = .ok (.ishl, 1) := by decide +kernel
theorem dX7_even_150 : decode cX7_even 150 = .ok (.goto 4, 3) := by decide +kernel
theorem dX7_even_153 : decode cX7_even 153 = .ok (.iconst 0, 1) := by decide +kernel
theorem dX7_even_154 : decode cX7_even 154 = .ok (.ior, 1) := by decide +kernel
theorem dX7_even_155 : decode cX7_even 155 = .ok (.istore 6, 2) := by decide +kernel
theorem dX7_even_157 : decode cX7_even 157 = .ok (.iinc 7 1, 3) := by decide +kernel
theorem dX7_even_160 : decode cX7_even 160 = .ok (.goto (-41), 3) := by decide +kernel
theorem dX7_even_163 : decode cX7_even 163 = .ok (.iload_n 2, 1) := by decide +kernel
theorem dX7_even_164 : decode cX7_even 164 = .ok (.ifCond .ne 8, 3) := by decide +kernel
theorem dX7_even_167 : decode cX7_even 167 = .ok (.iload 5, 2) := by decide +kernel
theorem dX7_even_169 : decode cX7_even 169 = .ok (.goto 5, 3) := by decide +kernel
theorem dX7_even_172 : decode cX7_even 172 = .ok (.iload 6, 2) := by decide +kernel
theorem dX7_even_174 : decode cX7_even 174 = .ok (.ireturn, 1) := by decide +kernel
theorem dX7_isCamp_0 : decode cX7_isCamp 0 = .ok (.lload_n 1, 1) := by decide +kernel
theorem dX7_isCamp_1 : decode cX7_isCamp 1 = .ok (.lconst 0, 1) := by decide +kernel
theorem dX7_isCamp_2 : decode cX7_isCamp 2 = .ok (.lcmp, 1) := by decide +kernel
theorem dX7_isCamp_3 : decode cX7_isCamp 3 = .ok (.ifCond .lt 19, 3) := by decide +kernel
theorem dX7_isCamp_6 : decode cX7_isCamp 6 = .ok (.lload_n 1, 1) := by decide +kernel
theorem dX7_isCamp_7 : decode cX7_isCamp 7 = .ok (.aload_n 0, 1) := by decide +kernel
theorem dX7_isCamp_8 : decode cX7_isCamp 8 = .ok (.getfield 7, 3) := by decide +kernel
theorem dX7_isCamp_11 : decode cX7_isCamp 11 = .ok (.iconst 2, 1) := by decide +kernel
theorem dX7_isCamp_12 : decode cX7_isCamp 12 = .ok (.iaload, 1) := by decide +kernel
theorem dX7_isCamp_13 : decode cX7_isCamp 13 = .ok (.i2l, 1) := by decide +kernel
theorem dX7_isCamp_14 : decode cX7_isCamp 14 = .ok (.lcmp, 1) := by decide +kernel
theorem dX7_isCamp_15 : decode cX7_isCamp 15 = .ok (.ifCond .ge 7, 3) := by decide +kernel
theorem dX7_isCamp_18 : decode cX7_isCamp 18 = .ok (.iconst 1, 1) := by decide +kernel
theorem dX7_isCamp_19 : decode cX7_isCamp 19 = .ok (.goto 4, 3) := by decide +kernel
theorem dX7_isCamp_22 : decode cX7_isCamp 22 = .ok (.iconst 0, 1) := by decide +kernel
theorem dX7_isCamp_23 : decode cX7_isCamp 23 = .ok (.ireturn, 1) := by decide +kernel
theorem dX7_comesCamp_0 : decode cX7_comesCamp 0 = .ok (.sipush 138, 3) := by decide +kernel
theorem dX7_comesCamp_3 : decode cX7_comesCamp 3 = .ok (.bipush 13, 2) := by decide +kernel
theorem dX7_comesCamp_5 : decode cX7_comesCamp 5 = .ok (.aload_n 0, 1) := by decide +kernel
theorem dX7_comesCamp_6 : decode cX7_comesCamp 6 = .ok (.getfield 7, 3) := by decide +kernel
theorem dX7_comesCamp_9 : decode cX7_comesCamp 9 = .ok (.iconst 2, 1) := by decide +kernel
theorem dX7_comesCamp_10 : decode cX7_comesCamp 10 = .ok (.iaload, 1) := by decide +kernel
theorem dX7_comesCamp_11 : decode cX7_comesCamp 11 = .ok (.imul, 1) := by decide +kernel
theorem dX7_comesCamp_12 : decode cX7_comesCamp 12 = .ok (.iadd, 1) := by decide +kernel
theorem dX7_comesCamp_13 : decode cX7_comesCamp 13 = .ok (.istore_n 2, 1) := by decide +kernel
theorem dX7_comesCamp_14 : decode cX7_comesCamp 14 = .ok (.iconst 0, 1) := by decide +kernel
theorem dX7_comesCamp_15 : decode cX7_comesCamp 15 = .ok (.istore_n 3, 1) := by decide +kernel
theorem dX7_comesCamp_16 : decode cX7_comesCamp 16 = .ok (.iload_n 3, 1) := by decide +kernel
theorem dX7_comesCamp_17 : decode cX7_comesCamp 17 = .ok (.bipush 12, 2) := by decide +kernel
theorem dX7_comesCamp_19 : decode cX7_comesCamp 19 = .ok (.if_icmp .ge 18, 3) := by decide +kernel
theorem dX7_comesCamp_22 : decode cX7_comesCamp 22 = .ok (.aload_n 0, 1) := by decide +kernel
theorem dX7_comesCamp_23 : decode cX7_comesCamp 23 = .ok (.getfield 7, 3) := by decide +kernel
theorem dX7_comesCamp_26 : decode cX7_comesCamp 26 = .ok (.iload_n 2, 1) := by decide +kernel
theorem dX7_comesCamp_27 : decode cX7_comesCamp 27 = .ok (.iload_n 3, 1) := by decide +kernel
theorem dX7_comesCamp_28 : decode cX7_comesCamp 28 = .ok (.iadd, 1) := by decide +kernel
theorem dX7_comesCamp_29 : decode cX7_comesCamp 29 = .ok (.iconst 0, 1) := by decide +kernel
theorem dX7_comesCamp_30 : decode cX7_comesCamp 30 = .ok (.iastore, 1) := by decide +kernel
theorem dX7_comesCamp_31 : decode cX7_comesCamp 31 = .ok (.iinc 3 1, 3) := by decide +kernel
theorem dX7_comesCamp_34 : decode cX7_comesCamp 34 = .ok (.goto (-18), 3) := by decide +kernel
theorem dX7_comesCamp_37 : decode cX7_comesCamp 37 = .ok (.aload_n 0, 1) := by decide +kernel
theorem dX7_comesCamp_38 : decode cX7_comesCamp 38 = .ok (.getfield 7, 3) := by decide +kernel
theorem dX7_comesCamp_41 : decode cX7_comesCamp 41 = .ok (.iload_n 2, 1) := by decide +kernel
theorem dX7_comesCamp_42 : decode cX7_comesCamp 42 = .ok (.bipush 12, 2) := by decide +kernel
theorem dX7_comesCamp_44 : decode cX7_comesCamp 44 = .ok (.iadd, 1) := by decide +kernel
theorem dX7_comesCamp_45 : decode cX7_comesCamp 45 = .ok (.iload_n 1, 1) := by decide +kernel
theorem dX7_comesCamp_46 : decode cX7_comesCamp 46 = .ok (.iastore, 1) := by decide +kernel
theorem dX7_comesCamp_47 : decode cX7_comesCamp 47 = .ok (.aload_n 0, 1) := by decide +kernel
theorem dX7_comesCamp_48 : decode cX7_comesCamp 48 = .ok (.getfield 7, 3) := by decide +kernel
theorem dX7_comesCamp_51 : decode cX7_comesCamp 51 = .ok (.iconst 2, 1) := by decide +kernel
theorem dX7_comesCamp_52 : decode cX7_comesCamp 52 = .ok (.dup2, 1) := by decide +kernel
theorem dX7_comesCamp_53 : decode cX7_comesCamp 53 = .ok (.iaload, 1) := by decide +kernel
theorem dX7_comesCamp_54 : decode cX7_comesCamp 54 = .ok (.iconst 1, 1) := by decide +kernel
theorem dX7_comesCamp_55 : decode cX7_comesCamp 55 = .ok (.iadd, 1) := by decide +kernel
theorem dX7_comesCamp_56 : decode cX7_comesCamp 56 = .ok (.iastore, 1) := by decide +kernel
theorem dX7_comesCamp_57 : decode cX7_comesCamp 57 = .ok (.return_, 1) := by decide +kernel
theorem dX7_camp_0 : decode cX7_camp 0 = .ok (.iload_n 1, 1) := by decide +kernel
theorem dX7_camp_1 : decode cX7_camp 1 = .ok (.i2l, 1) := by decide +kernel
theorem dX7_camp_2 : decode cX7_camp 2 = .ok (.lconst 0, 1) := by decide +kernel
theorem dX7_camp_3 : decode cX7_camp 3 = .ok (.ldc2_w 73, 3) := by decide +kernel
theorem dX7_camp_6 : decode cX7_camp 6 = .ok (.invokestatic 65, 3) := by decide +kernel
theorem dX7_camp_9 : decode cX7_camp 9 = .ok (.ifCond .ne 10, 3) := by decide +kernel
theorem dX7_camp_12 : decode cX7_camp 12 = .ok (.aload_n 0, 1) := by decide +kernel
theorem dX7_camp_13 : decode cX7_camp 13 = .ok (.ldc 54, 2) := by decide +kernel
theorem dX7_camp_15 : decode cX7_camp 15 = .ok (.invokevirtual 75, 3) := by decide +kernel
theorem dX7_camp_18 : decode cX7_camp 18 = .ok (.ireturn, 1) := by decide +kernel
theorem dX7_camp_19 : decode cX7_camp 19 = .ok (.aload_n 0, 1) := by decide +kernel
theorem dX7_camp_20 : decode cX7_camp 20 = .ok (.getfield 7, 3) := by decide +kernel
theorem dX7_camp_23 : decode cX7_camp 23 = .ok (.iconst 2, 1) := by decide +kernel
theorem dX7_camp_24 : decode cX7_camp 24 = .ok (.iaload, 1) := by decide +kernel
theorem dX7_camp_25 : decode cX7_camp 25 = .ok (.bipush 6, 2) := by decide +kernel
theorem dX7_camp_27 : decode cX7_camp 27 = .ok (.if_icmp .ne 10, 3) := by decide +kernel
theorem dX7_camp_30 : decode cX7_camp 30 = .ok (.aload_n 0, 1) := by decide +kernel
theorem dX7_camp_31 : decode cX7_camp 31 = .ok (.ldc 79, 2) := by decide +kernel
theorem dX7_camp_33 : decode cX7_camp 33 = .ok (.invokevirtual 75, 3) := by decide +kernel
theorem dX7_camp_36 : decode cX7_camp 36 = .ok (.ireturn, 1) := by decide +kernel
theorem dX7_camp_37 : decode cX7_camp 37 = .ok (.aload_n 0, 1) := by decide +kernel
theorem dX7_camp_38 : decode cX7_camp 38 = .ok (.iload_n 1, 1) := by decide +kernel
theorem dX7_camp_39 : decode cX7_camp 39 = .ok (.invokevirtual 156, 3) := by decide +kernel
theorem dX7_camp_42 : decode cX7_camp 42 = .ok (.aload_n 0, 1) := by decide +kernel
theorem dX7_camp_43 : decode cX7_camp 43 = .ok (.getfield 7, 3) := by decide +kernel
theorem dX7_camp_46 : decode cX7_camp 46 = .ok (.iconst 2, 1) := by decide +kernel
theorem dX7_camp_47 : decode cX7_camp 47 = .ok (.iaload, 1) := by decide +kernel
theorem dX7_camp_48 : decode cX7_camp 48 = .ok (.iconst 1, 1) := by decide +kernel
theorem dX7_camp_49 : decode cX7_camp 49 = .ok (.isub, 1) := by decide +kernel
theorem dX7_camp_50 : decode cX7_camp 50 = .ok (.ireturn, 1) := by decide +kernel
theorem dX7_grass_0 : decode cX7_grass 0 = .ok (.aload_n 0, 1) := by decide +kernel
theorem dX7_grass_1 : decode cX7_grass 1 = .ok (.iload_n 1, 1) := by decide +kernel
theorem dX7_grass_2 : decode cX7_grass 2 = .ok (.i2l, 1) := by decide +kernel
theorem dX7_grass_3 : decode cX7_grass 3 = .ok (.invokevirtual 160, 3) := by decide +kernel
theorem dX7_grass_6 : decode cX7_grass 6 = .ok (.ifCond .eq 27, 3) := by decide +kernel
theorem dX7_grass_9 : decode cX7_grass 9 = .ok (.iload_n 2, 1) := by decide +kernel
theorem dX7_grass_10 : decode cX7_grass 10 = .ok (.i2l, 1) := by decide +kernel
theorem dX7_grass_11 : decode cX7_grass 11 = .ok (.lconst 0, 1) := by decide +kernel
theorem dX7_grass_12 : decode cX7_grass 12 = .ok (.ldc2_w 164, 3) := by decide +kernel
theorem dX7_grass_15 : decode cX7_grass 15 = .ok (.invokestatic 65, 3) := by decide +kernel
theorem dX7_grass_18 : decode cX7_grass 18 = .ok (.ifCond .eq 15, 3) := by decide +kernel
theorem dX7_grass_21 : decode cX7_grass 21 = .ok (.iload_n 3, 1) := by decide +kernel
theorem dX7_grass_22 : decode cX7_grass 22 = .ok (.i2l, 1) := by decide +kernel
theorem dX7_grass_23 : decode cX7_grass 23 = .ok (.lconst 0, 1) := by decide +kernel
theorem dX7_grass_24 : decode cX7_grass 24 = .ok (.ldc2_w 71, 3) := by decide +kernel
theorem dX7_grass_27 : decode cX7_grass 27 = .ok (.invokestatic 65, 3) := by decide +kernel
theorem dX7_grass_30 : decode cX7_grass 30 = .ok (.ifCond .ne 10, 3) := by decide +kernel
theorem dX7_grass_33 : decode cX7_grass 33 = .ok (.aload_n 0, 1) := by decide +kernel
theorem dX7_grass_34 : decode cX7_grass 34 = .ok (.ldc 54, 2) := by decide +kernel
theorem dX7_grass_36 : decode cX7_grass 36 = .ok (.invokevirtual 75, 3) := by decide +kernel
theorem dX7_grass_39 : decode cX7_grass 39 = .ok (.ireturn, 1) := by decide +kernel
theorem dX7_grass_40 : decode cX7_grass 40 = .ok (.aload_n 0, 1) := by decide +kernel
theorem dX7_grass_41 : decode cX7_grass 41 = .ok (.sipush 138, 3) := by decide +kernel
theorem dX7_grass_44 : decode cX7_grass 44 = .ok (.bipush 13, 2) := by decide +kernel
theorem dX7_grass_46 : decode cX7_grass 46 = .ok (.iload_n 1, 1) := by decide +kernel
theorem dX7_grass_47 : decode cX7_grass 47 = .ok (.imul, 1) := by decide +kernel
theorem dX7_grass_48 : decode cX7_grass 48 = .ok (.iadd, 1) := by decide +kernel
theorem dX7_grass_49 : decode cX7_grass 49 = .ok (.iload_n 2, 1) := by decide +kernel
theorem dX7_grass_50 : decode cX7_grass 50 = .ok (.iadd, 1) := by decide +kernel
theorem dX7_grass_51 : decode cX7_grass 51 = .ok (.iload_n 3, 1) := by decide +kernel
theorem dX7_grass_52 : decode cX7_grass 52 = .ok (.invokevirtual 109, 3) := by decide +kernel
theorem dX7_grass_55 : decode cX7_grass 55 = .ok (.ireturn, 1) := by decide +kernel
theorem dX7_campOf_0 : decode cX7_campOf 0 = .ok (.aload_n 0, 1) := by decide +kernel
theorem dX7_campOf_1 : decode cX7_campOf 1 = .ok (.iload_n 1, 1) := by decide +kernel
theorem dX7_campOf_2 : decode cX7_campOf 2 = .ok (.i2l, 1) := by decide +kernel
theorem dX7_campOf_3 : decode cX7_campOf 3 = .ok (.invokevirtual 160, 3) := by decide +kernel
theorem dX7_campOf_6 : decode cX7_campOf 6 = .ok (.ifCond .eq 33, 3) := by decide +kernel
theorem dX7_campOf_9 : decode cX7_campOf 9 = .ok (.iload_n 2, 1) := by decide +kernel
theorem dX7_campOf_10 : decode cX7_campOf 10 = .ok (.i2l, 1) := by decide +kernel
theorem dX7_campOf_11 : decode cX7_campOf 11 = .ok (.lconst 0, 1) := by decide +kernel
theorem dX7_campOf_12 : decode cX7_campOf 12 = .ok (.ldc2_w 166, 3) := by decide +kernel
theorem dX7_campOf_15 : decode cX7_campOf 15 = .ok (.invokestatic 65, 3) := by decide +kernel
theorem dX7_campOf_18 : decode cX7_campOf 18 = .ok (.ifCond .eq 21, 3) := by decide +kernel
theorem dX7_campOf_21 : decode cX7_campOf 21 = .ok (.aload_n 0, 1) := by decide +kernel
theorem dX7_campOf_22 : decode cX7_campOf 22 = .ok (.getfield 7, 3) := by decide +kernel
theorem dX7_campOf_25 : decode cX7_campOf 25 = .ok (.sipush 138, 3) := by decide +kernel
theorem dX7_campOf_28 : decode cX7_campOf 28 = .ok (.bipush 13, 2) := by decide +kernel
theorem dX7_campOf_30 : decode cX7_campOf 30 = .ok (.iload_n 1, 1) := by decide +kernel
theorem dX7_campOf_31 : decode cX7_campOf 31 = .ok (.imul, 1) := by decide +kernel
theorem dX7_campOf_32 : decode cX7_campOf 32 = .ok (.iadd, 1) := by decide +kernel
theorem dX7_campOf_33 : decode cX7_campOf 33 = .ok (.iload_n 2, 1) := by decide +kernel
theorem dX7_campOf_34 : decode cX7_campOf 34 = .ok (.iadd, 1) := by decide +kernel
theorem dX7_campOf_35 : decode cX7_campOf 35 = .ok (.iaload, 1) := by decide +kernel
theorem dX7_campOf_36 : decode cX7_campOf 36 = .ok (.goto 9, 3) := by decide +kernel
theorem dX7_campOf_39 : decode cX7_campOf 39 = .ok (.aload_n 0, 1) := by decide +kernel
theorem dX7_campOf_40 : decode cX7_campOf 40 = .ok (.ldc 54, 2) := by decide +kernel
theorem dX7_campOf_42 : decode cX7_campOf 42 = .ok (.invokevirtual 75, 3) := by decide +kernel
theorem dX7_campOf_45 : decode cX7_campOf 45 = .ok (.ireturn, 1) := by decide +kernel
theorem dX7_herd_0 : decode cX7_herd 0 = .ok (.iload_n 1, 1) := by decide +kernel
theorem dX7_herd_1 : decode cX7_herd 1 = .ok (.i2l, 1) := by decide +kernel
theorem dX7_herd_2 : decode cX7_herd 2 = .ok (.lconst 0, 1) := by decide +kernel
theorem dX7_herd_3 : decode cX7_herd 3 = .ok (.ldc2_w 105, 3) := by decide +kernel
theorem dX7_herd_6 : decode cX7_herd 6 = .ok (.invokestatic 65, 3) := by decide +kernel
theorem dX7_herd_9 : decode cX7_herd 9 = .ok (.ifCond .eq 38, 3) := by decide +kernel
theorem dX7_herd_12 : decode cX7_herd 12 = .ok (.iload_n 2, 1) := by decide +kernel
theorem dX7_herd_13 : decode cX7_herd 13 = .ok (.i2l, 1) := by decide +kernel
theorem dX7_herd_14 : decode cX7_herd 14 = .ok (.lconst 0, 1) := by decide +kernel
theorem dX7_herd_15 : decode cX7_herd 15 = .ok (.iload_n 1, 1) := by decide +kernel
theorem dX7_herd_16 : decode cX7_herd 16 = .ok (.iconst 1, 1) := by decide +kernel
theorem dX7_herd_17 : decode cX7_herd 17 = .ok (.if_icmp .ne 9, 3) := by decide +kernel
theorem dX7_herd_20 : decode cX7_herd 20 = .ok (.ldc2_w 73, 3) := by decide +kernel
theorem dX7_herd_23 : decode cX7_herd 23 = .ok (.goto 6, 3) := by decide +kernel
theorem dX7_herd_26 : decode cX7_herd 26 = .ok (.ldc2_w 71, 3) := by decide +kernel
theorem dX7_herd_29 : decode cX7_herd 29 = .ok (.invokestatic 65, 3) := by decide +kernel
theorem dX7_herd_32 : decode cX7_herd 32 = .ok (.ifCond .eq 15, 3) := by decide +kernel
theorem dX7_herd_35 : decode cX7_herd 35 = .ok (.aload_n 0, 1) := by decide +kernel
theorem dX7_herd_36 : decode cX7_herd 36 = .ok (.bipush 9, 2) := by decide +kernel
theorem dX7_herd_38 : decode cX7_herd 38 = .ok (.iload_n 1, 1) := by decide +kernel
theorem dX7_herd_39 : decode cX7_herd 39 = .ok (.iadd, 1) := by decide +kernel
theorem dX7_herd_40 : decode cX7_herd 40 = .ok (.iload_n 2, 1) := by decide +kernel
theorem dX7_herd_41 : decode cX7_herd 41 = .ok (.invokevirtual 109, 3) := by decide +kernel
theorem dX7_herd_44 : decode cX7_herd 44 = .ok (.goto 9, 3) := by decide +kernel
theorem dX7_herd_47 : decode cX7_herd 47 = .ok (.aload_n 0, 1) := by decide +kernel
theorem dX7_herd_48 : decode cX7_herd 48 = .ok (.ldc 54, 2) := by decide +kernel
theorem dX7_herd_50 : decode cX7_herd 50 = .ok (.invokevirtual 75, 3) := by decide +kernel
theorem dX7_herd_53 : decode cX7_herd 53 = .ok (.ireturn, 1) := by decide +kernel
theorem dX7_moveCost_0 : decode cX7_moveCost 0 = .ok (.aload_n 0, 1) := by decide +kernel
theorem dX7_moveCost_1 : decode cX7_moveCost 1 = .ok (.getfield 7, 3) := by decide +kernel
theorem dX7_moveCost_4 : decode cX7_moveCost 4 = .ok (.sipush 138, 3) := by decide +kernel
theorem dX7_moveCost_7 : decode cX7_moveCost 7 = .ok (.bipush 13, 2) := by decide +kernel
theorem dX7_moveCost_9 : decode cX7_moveCost 9 = .ok (.iload_n 1, 1) := by decide +kernel
theorem dX7_moveCost_10 : decode cX7_moveCost 10 = .ok (.imul, 1) := by decide +kernel
theorem dX7_moveCost_11 : decode cX7_moveCost 11 = .ok (.iadd, 1) := by decide +kernel
theorem dX7_moveCost_12 : decode cX7_moveCost 12 = .ok (.bipush 12, 2) := by decide +kernel
theorem dX7_moveCost_14 : decode cX7_moveCost 14 = .ok (.iadd, 1) := by decide +kernel
theorem dX7_moveCost_15 : decode cX7_moveCost 15 = .ok (.iaload, 1) := by decide +kernel
theorem dX7_moveCost_16 : decode cX7_moveCost 16 = .ok (.aload_n 0, 1) := by decide +kernel
theorem dX7_moveCost_17 : decode cX7_moveCost 17 = .ok (.getfield 7, 3) := by decide +kernel
theorem dX7_moveCost_20 : decode cX7_moveCost 20 = .ok (.sipush 138, 3) := by decide +kernel
theorem dX7_moveCost_23 : decode cX7_moveCost 23 = .ok (.bipush 13, 2) := by decide +kernel
theorem dX7_moveCost_25 : decode cX7_moveCost 25 = .ok (.iload_n 2, 1) := by decide +kernel
theorem dX7_moveCost_26 : decode cX7_moveCost 26 = .ok (.imul, 1) := by decide +kernel
theorem dX7_moveCost_27 : decode cX7_moveCost 27 = .ok (.iadd, 1) := by decide +kernel
theorem dX7_moveCost_28 : decode cX7_moveCost 28 = .ok (.bipush 12, 2) := by decide +kernel
theorem dX7_moveCost_30 : decode cX7_moveCost 30 = .ok (.iadd, 1) := by decide +kernel
theorem dX7_moveCost_31 : decode cX7_moveCost 31 = .ok (.iaload, 1) := by decide +kernel
theorem dX7_moveCost_32 : decode cX7_moveCost 32 = .ok (.isub, 1) := by decide +kernel
theorem dX7_moveCost_33 : decode cX7_moveCost 33 = .ok (.istore_n 3, 1) := by decide +kernel
theorem dX7_moveCost_34 : decode cX7_moveCost 34 = .ok (.aload_n 0, 1) := by decide +kernel
theorem dX7_moveCost_35 : decode cX7_moveCost 35 = .ok (.getfield 7, 3) := by decide +kernel
theorem dX7_moveCost_38 : decode cX7_moveCost 38 = .ok (.bipush 10, 2) := by decide +kernel
theorem dX7_moveCost_40 : decode cX7_moveCost 40 = .ok (.iaload, 1) := by decide +kernel
theorem dX7_moveCost_41 : decode cX7_moveCost 41 = .ok (.iload_n 3, 1) := by decide +kernel
theorem dX7_moveCost_42 : decode cX7_moveCost 42 = .ok (.ifCond .ge 8, 3) := by decide +kernel
theorem dX7_moveCost_45 : decode cX7_moveCost 45 = .ok (.iload_n 3, 1) := by decide +kernel
theorem dX7_moveCost_46 : decode cX7_moveCost 46 = .ok (.ineg, 1) := by decide +kernel
theorem dX7_moveCost_47 : decode cX7_moveCost 47 = .ok (.goto 4, 3) := by decide +kernel
theorem dX7_moveCost_50 : decode cX7_moveCost 50 = .ok (.iload_n 3, 1) := by decide +kernel
theorem dX7_moveCost_51 : decode cX7_moveCost 51 = .ok (.imul, 1) := by decide +kernel
theorem dX7_moveCost_52 : decode cX7_moveCost 52 = .ok (.aload_n 0, 1) := by decide +kernel
theorem dX7_moveCost_53 : decode cX7_moveCost 53 = .ok (.getfield 7, 3) := by decide +kernel
theorem dX7_moveCost_56 : decode cX7_moveCost 56 = .ok (.bipush 11, 2) := by decide +kernel
theorem dX7_moveCost_58 : decode cX7_moveCost 58 = .ok (.iaload, 1) := by decide +kernel
theorem dX7_moveCost_59 : decode cX7_moveCost 59 = .ok (.iadd, 1) := by decide +kernel
theorem dX7_moveCost_60 : decode cX7_moveCost 60 = .ok (.ireturn, 1) := by decide +kernel
theorem dX7_monthCost_0 : decode cX7_monthCost 0 = .ok (.aload_n 0, 1) := by decide +kernel
theorem dX7_monthCost_1 : decode cX7_monthCost 1 = .ok (.getfield 7, 3) := by decide +kernel
theorem dX7_monthCost_4 : decode cX7_monthCost 4 = .ok (.sipush 138, 3) := by decide +kernel
theorem dX7_monthCost_7 : decode cX7_monthCost 7 = .ok (.bipush 13, 2) := by decide +kernel
theorem dX7_monthCost_9 : decode cX7_monthCost 9 = .ok (.iload_n 1, 1) := by decide +kernel
theorem dX7_monthCost_10 : decode cX7_monthCost 10 = .ok (.imul, 1) := by decide +kernel
theorem dX7_monthCost_11 : decode cX7_monthCost 11 = .ok (.iadd, 1) := by decide +kernel
theorem dX7_monthCost_12 : decode cX7_monthCost 12 = .ok (.iload_n 2, 1) := by decide +kernel
theorem dX7_monthCost_13 : decode cX7_monthCost 13 = .ok (.bipush 12, 2) := by decide +kernel
theorem dX7_monthCost_15 : decode cX7_monthCost 15 = .ok (.irem, 1) := by decide +kernel
theorem dX7_monthCost_16 : decode cX7_monthCost 16 = .ok (.iadd, 1) := by decide +kernel
theorem dX7_monthCost_17 : decode cX7_monthCost 17 = .ok (.iaload, 1) := by decide +kernel
theorem dX7_monthCost_18 : decode cX7_monthCost 18 = .ok (.istore 4, 2) := by decide +kernel
theorem dX7_monthCost_20 : decode cX7_monthCost 20 = .ok (.aload_n 0, 1) := by decide +kernel
theorem dX7_monthCost_21 : decode cX7_monthCost 21 = .ok (.getfield 7, 3) := by decide +kernel
theorem dX7_monthCost_24 : decode cX7_monthCost 24 = .ok (.bipush 9, 2) := by decide +kernel
theorem dX7_monthCost_26 : decode cX7_monthCost 26 = .ok (.iaload, 1) := by decide +kernel
theorem dX7_monthCost_27 : decode cX7_monthCost 27 = .ok (.iload_n 3, 1) := by decide +kernel
theorem dX7_monthCost_28 : decode cX7_monthCost 28 = .ok (.iconst 1, 1) := by decide +kernel
theorem dX7_monthCost_29 : decode cX7_monthCost 29 = .ok (.if_icmp .ne 8, 3) := by decide +kernel
theorem dX7_monthCost_32 : decode cX7_monthCost 32 = .ok (.iload 4, 2) := by decide +kernel
theorem dX7_monthCost_34 : decode cX7_monthCost 34 = .ok (.goto 16, 3) := by decide +kernel
theorem dX7_monthCost_37 : decode cX7_monthCost 37 = .ok (.iload_n 3, 1) := by decide +kernel
theorem dX7_monthCost_38 : decode cX7_monthCost 38 = .ok (.iconst 2, 1) := by decide +kernel
theorem dX7_monthCost_39 : decode cX7_monthCost 39 = .ok (.if_icmp .ne 10, 3) := by decide +kernel
theorem dX7_monthCost_42 : decode cX7_monthCost 42 = .ok (.iload 4, 2) := by decide +kernel
theorem dX7_monthCost_44 : decode cX7_monthCost 44 = .ok (.iconst 2, 1) := by decide +kernel
theorem dX7_monthCost_45 : decode cX7_monthCost 45 = .ok (.idiv, 1) := by decide +kernel
theorem dX7_monthCost_46 : decode cX7_monthCost 46 = .ok (.goto 4, 3) := by decide +kernel
theorem dX7_monthCost_49 : decode cX7_monthCost 49 = .ok (.iconst 0, 1) := by decide +kernel
theorem dX7_monthCost_50 : decode cX7_monthCost 50 = .ok (.isub, 1) := by decide +kernel
theorem dX7_monthCost_51 : decode cX7_monthCost 51 = .ok (.istore 5, 2) := by decide +kernel
theorem dX7_monthCost_53 : decode cX7_monthCost 53 = .ok (.iload 5, 2) := by decide +kernel
theorem dX7_monthCost_55 : decode cX7_monthCost 55 = .ok (.ifCond .ge 7, 3) := by decide +kernel
theorem dX7_monthCost_58 : decode cX7_monthCost 58 = .ok (.iconst 0, 1) := by decide +kernel
theorem dX7_monthCost_59 : decode cX7_monthCost 59 = .ok (.goto 5, 3) := by decide +kernel
theorem dX7_monthCost_62 : decode cX7_monthCost 62 = .ok (.iload 5, 2) := by decide +kernel
theorem dX7_monthCost_64 : decode cX7_monthCost 64 = .ok (.ireturn, 1) := by decide +kernel
theorem dX7_placeOf_0 : decode cX7_placeOf 0 = .ok (.bipush 18, 2) := by decide +kernel
theorem dX7_placeOf_2 : decode cX7_placeOf 2 = .ok (.iload_n 0, 1) := by decide +kernel
theorem dX7_placeOf_3 : decode cX7_placeOf 3 = .ok (.imul, 1) := by decide +kernel
theorem dX7_placeOf_4 : decode cX7_placeOf 4 = .ok (.iconst 3, 1) := by decide +kernel
theorem dX7_placeOf_5 : decode cX7_placeOf 5 = .ok (.iload_n 1, 1) := by decide +kernel
theorem dX7_placeOf_6 : decode cX7_placeOf 6 = .ok (.imul, 1) := by decide +kernel
theorem dX7_placeOf_7 : decode cX7_placeOf 7 = .ok (.iadd, 1) := by decide +kernel
theorem dX7_placeOf_8 : decode cX7_placeOf 8 = .ok (.iload_n 2, 1) := by decide +kernel
theorem dX7_placeOf_9 : decode cX7_placeOf 9 = .ok (.iadd, 1) := by decide +kernel
theorem dX7_placeOf_10 : decode cX7_placeOf 10 = .ok (.iconst 1, 1) := by decide +kernel
theorem dX7_placeOf_11 : decode cX7_placeOf 11 = .ok (.isub, 1) := by decide +kernel
theorem dX7_placeOf_12 : decode cX7_placeOf 12 = .ok (.ireturn, 1) := by decide +kernel
theorem dX7_costNext_0 : decode cX7_costNext 0 = .ok (.iload_n 2, 1) := by decide +kernel
theorem dX7_costNext_1 : decode cX7_costNext 1 = .ok (.iload 4, 2) := by decide +kernel
theorem dX7_costNext_3 : decode cX7_costNext 3 = .ok (.if_icmp .ne 27, 3) := by decide +kernel
theorem dX7_costNext_6 : decode cX7_costNext 6 = .ok (.aload_n 0, 1) := by decide +kernel
theorem dX7_costNext_7 : decode cX7_costNext 7 = .ok (.getfield 45, 3) := by decide +kernel
theorem dX7_costNext_10 : decode cX7_costNext 10 = .ok (.iload_n 1, 1) := by decide +kernel
theorem dX7_costNext_11 : decode cX7_costNext 11 = .ok (.iload 4, 2) := by decide +kernel
theorem dX7_costNext_13 : decode cX7_costNext 13 = .ok (.iload_n 3, 1) := by decide +kernel
theorem dX7_costNext_14 : decode cX7_costNext 14 = .ok (.iconst 3, 1) := by decide +kernel
theorem dX7_costNext_15 : decode cX7_costNext 15 = .ok (.if_icmp .ge 9, 3) := by decide +kernel
theorem dX7_costNext_18 : decode cX7_costNext 18 = .ok (.iload_n 3, 1) := by decide +kernel
theorem dX7_costNext_19 : decode cX7_costNext 19 = .ok (.iconst 1, 1) := by decide +kernel
theorem dX7_costNext_20 : decode cX7_costNext 20 = .ok (.iadd, 1) := by decide +kernel
theorem dX7_costNext_21 : decode cX7_costNext 21 = .ok (.goto 4, 3) := by decide +kernel
theorem dX7_costNext_24 : decode cX7_costNext 24 = .ok (.iconst 3, 1) := by decide +kernel
theorem dX7_costNext_25 : decode cX7_costNext 25 = .ok (.invokestatic 168, 3) := by decide +kernel
theorem dX7_costNext_28 : decode cX7_costNext 28 = .ok (.iaload, 1) := by decide +kernel
theorem dX7_costNext_29 : decode cX7_costNext 29 = .ok (.ireturn, 1) := by decide +kernel
theorem dX7_costNext_30 : decode cX7_costNext 30 = .ok (.aload_n 0, 1) := by decide +kernel
theorem dX7_costNext_31 : decode cX7_costNext 31 = .ok (.getfield 45, 3) := by decide +kernel
theorem dX7_costNext_34 : decode cX7_costNext 34 = .ok (.iload_n 1, 1) := by decide +kernel
theorem dX7_costNext_35 : decode cX7_costNext 35 = .ok (.iload 4, 2) := by decide +kernel
theorem dX7_costNext_37 : decode cX7_costNext 37 = .ok (.iconst 1, 1) := by decide +kernel
theorem dX7_costNext_38 : decode cX7_costNext 38 = .ok (.invokestatic 168, 3) := by decide +kernel
theorem dX7_costNext_41 : decode cX7_costNext 41 = .ok (.iaload, 1) := by decide +kernel
theorem dX7_costNext_42 : decode cX7_costNext 42 = .ok (.iload_n 2, 1) := by decide +kernel
theorem dX7_costNext_43 : decode cX7_costNext 43 = .ok (.ifCond .ge 7, 3) := by decide +kernel
theorem dX7_costNext_46 : decode cX7_costNext 46 = .ok (.iconst 0, 1) := by decide +kernel
theorem dX7_costNext_47 : decode cX7_costNext 47 = .ok (.goto 10, 3) := by decide +kernel
theorem dX7_costNext_50 : decode cX7_costNext 50 = .ok (.aload_n 0, 1) := by decide +kernel
theorem dX7_costNext_51 : decode cX7_costNext 51 = .ok (.iload_n 2, 1) := by decide +kernel
theorem dX7_costNext_52 : decode cX7_costNext 52 = .ok (.iload 4, 2) := by decide +kernel
theorem dX7_costNext_54 : decode cX7_costNext 54 = .ok (.invokevirtual 172, 3) := by decide +kernel
theorem dX7_costNext_57 : decode cX7_costNext 57 = .ok (.iadd, 1) := by decide +kernel
theorem dX7_costNext_58 : decode cX7_costNext 58 = .ok (.ireturn, 1) := by decide +kernel
theorem dX7_nextCamp_0 : decode cX7_nextCamp 0 = .ok (.iconst 0, 1) := by decide +kernel
theorem dX7_nextCamp_1 : decode cX7_nextCamp 1 = .ok (.istore 4, 2) := by decide +kernel
theorem dX7_nextCamp_3 : decode cX7_nextCamp 3 = .ok (.iconst 1, 1) := by decide +kernel
theorem dX7_nextCamp_4 : decode cX7_nextCamp 4 = .ok (.istore 5, 2) := by decide +kernel
theorem dX7_nextCamp_6 : decode cX7_nextCamp 6 = .ok (.iload 5, 2) := by decide +kernel
theorem dX7_nextCamp_8 : decode cX7_nextCamp 8 = .ok (.aload_n 0, 1) := by decide +kernel
theorem dX7_nextCamp_9 : decode cX7_nextCamp 9 = .ok (.getfield 7, 3) := by decide +kernel
theorem dX7_nextCamp_12 : decode cX7_nextCamp 12 = .ok (.iconst 2, 1) := by decide +kernel
theorem dX7_nextCamp_13 : decode cX7_nextCamp 13 = .ok (.iaload, 1) := by decide +kernel
theorem dX7_nextCamp_14 : decode cX7_nextCamp 14 = .ok (.if_icmp .ge 39, 3) := by decide +kernel
theorem dX7_nextCamp_17 : decode cX7_nextCamp 17 = .ok (.aload_n 0, 1) := by decide +kernel
theorem dX7_nextCamp_18 : decode cX7_nextCamp 18 = .ok (.iload_n 1, 1) := by decide +kernel
theorem dX7_nextCamp_19 : decode cX7_nextCamp 19 = .ok (.iload_n 2, 1) := by decide +kernel
theorem dX7_nextCamp_20 : decode cX7_nextCamp 20 = .ok (.iload_n 3, 1) := by decide +kernel
theorem dX7_nextCamp_21 : decode cX7_nextCamp 21 = .ok (.iload 5, 2) := by decide +kernel
theorem dX7_nextCamp_23 : decode cX7_nextCamp 23 = .ok (.invokevirtual 175, 3) := by decide +kernel
theorem dX7_nextCamp_26 : decode cX7_nextCamp 26 = .ok (.aload_n 0, 1) := by decide +kernel
theorem dX7_nextCamp_27 : decode cX7_nextCamp 27 = .ok (.iload_n 1, 1) := by decide +kernel
theorem dX7_nextCamp_28 : decode cX7_nextCamp 28 = .ok (.iload_n 2, 1) := by decide +kernel
theorem dX7_nextCamp_29 : decode cX7_nextCamp 29 = .ok (.iload_n 3, 1) := by decide +kernel
theorem dX7_nextCamp_30 : decode cX7_nextCamp 30 = .ok (.iload 4, 2) := by decide +kernel
theorem dX7_nextCamp_32 : decode cX7_nextCamp 32 = .ok (.invokevirtual 175, 3) := by decide +kernel
theorem dX7_nextCamp_35 : decode cX7_nextCamp 35 = .ok (.if_icmp .ge 8, 3) := by decide +kernel
theorem dX7_nextCamp_38 : decode cX7_nextCamp 38 = .ok (.iload 5, 2) := by decide +kernel
theorem dX7_nextCamp_40 : decode cX7_nextCamp 40 = .ok (.goto 5, 3) := by decide +kernel
theorem dX7_nextCamp_43 : decode cX7_nextCamp 43 = .ok (.iload 4, 2) := by decide +kernel
theorem dX7_nextCamp_45 : decode cX7_nextCamp 45 = .ok (.istore 4, 2) := by decide +kernel
theorem dX7_nextCamp_47 : decode cX7_nextCamp 47 = .ok (.iinc 5 1, 3) := by decide +kernel
theorem dX7_nextCamp_50 : decode cX7_nextCamp 50 = .ok (.goto (-44), 3) := by decide +kernel
theorem dX7_nextCamp_53 : decode cX7_nextCamp 53 = .ok (.iload 4, 2) := by decide +kernel
theorem dX7_nextCamp_55 : decode cX7_nextCamp 55 = .ok (.ireturn, 1) := by decide +kernel
theorem dX7_findYear_0 : decode cX7_findYear 0 = .ok (.iload_n 2, 1) := by decide +kernel
theorem dX7_findYear_1 : decode cX7_findYear 1 = .ok (.iconst 1, 1) := by decide +kernel
theorem dX7_findYear_2 : decode cX7_findYear 2 = .ok (.isub, 1) := by decide +kernel
theorem dX7_findYear_3 : decode cX7_findYear 3 = .ok (.istore_n 3, 1) := by decide +kernel
theorem dX7_findYear_4 : decode cX7_findYear 4 = .ok (.iload_n 3, 1) := by decide +kernel
theorem dX7_findYear_5 : decode cX7_findYear 5 = .ok (.ifCond .lt 106, 3) := by decide +kernel
theorem dX7_findYear_8 : decode cX7_findYear 8 = .ok (.iconst 0, 1) := by decide +kernel
theorem dX7_findYear_9 : decode cX7_findYear 9 = .ok (.istore 4, 2) := by decide +kernel
theorem dX7_findYear_11 : decode cX7_findYear 11 = .ok (.iload 4, 2) := by decide +kernel
theorem dX7_findYear_13 : decode cX7_findYear 13 = .ok (.aload_n 0, 1) := by decide +kernel
theorem dX7_findYear_14 : decode cX7_findYear 14 = .ok (.getfield 7, 3) := by decide +kernel
theorem dX7_findYear_17 : decode cX7_findYear 17 = .ok (.iconst 2, 1) := by decide +kernel
theorem dX7_findYear_18 : decode cX7_findYear 18 = .ok (.iaload, 1) := by decide +kernel
theorem dX7_findYear_19 : decode cX7_findYear 19 = .ok (.if_icmp .ge 86, 3) := by decide +kernel
theorem dX7_findYear_22 : decode cX7_findYear 22 = .ok (.iconst 1, 1) := by decide +kernel
theorem dX7_findYear_23 : decode cX7_findYear 23 = .ok (.istore 5, 2) := by decide +kernel
theorem dX7_findYear_25 : decode cX7_findYear 25 = .ok (.iload 5, 2) := by decide +kernel
theorem dX7_findYear_27 : decode cX7_findYear 27 = .ok (.iconst 4, 1) := by decide +kernel
theorem dX7_findYear_28 : decode cX7_findYear 28 = .ok (.if_icmp .ge 71, 3) := by decide +kernel
theorem dX7_findYear_31 : decode cX7_findYear 31 = .ok (.iload_n 3, 1) := by decide +kernel
theorem dX7_findYear_32 : decode cX7_findYear 32 = .ok (.iload_n 2, 1) := by decide +kernel
theorem dX7_findYear_33 : decode cX7_findYear 33 = .ok (.iconst 1, 1) := by decide +kernel
theorem dX7_findYear_34 : decode cX7_findYear 34 = .ok (.isub, 1) := by decide +kernel
theorem dX7_findYear_35 : decode cX7_findYear 35 = .ok (.if_icmp .ne 7, 3) := by decide +kernel
theorem dX7_findYear_38 : decode cX7_findYear 38 = .ok (.iconst 0, 1) := by decide +kernel
theorem dX7_findYear_39 : decode cX7_findYear 39 = .ok (.goto 25, 3) := by decide +kernel
theorem dX7_findYear_42 : decode cX7_findYear 42 = .ok (.aload_n 0, 1) := by decide +kernel
theorem dX7_findYear_43 : decode cX7_findYear 43 = .ok (.iload_n 3, 1) := by decide +kernel
theorem dX7_findYear_44 : decode cX7_findYear 44 = .ok (.iconst 1, 1) := by decide +kernel
theorem dX7_findYear_45 : decode cX7_findYear 45 = .ok (.iadd, 1) := by decide +kernel
theorem dX7_findYear_46 : decode cX7_findYear 46 = .ok (.iload 4, 2) := by decide +kernel
theorem dX7_findYear_48 : decode cX7_findYear 48 = .ok (.iload 5, 2) := by decide +kernel
theorem dX7_findYear_50 : decode cX7_findYear 50 = .ok (.aload_n 0, 1) := by decide +kernel
theorem dX7_findYear_51 : decode cX7_findYear 51 = .ok (.iload_n 3, 1) := by decide +kernel
theorem dX7_findYear_52 : decode cX7_findYear 52 = .ok (.iconst 1, 1) := by decide +kernel
theorem dX7_findYear_53 : decode cX7_findYear 53 = .ok (.iadd, 1) := by decide +kernel
theorem dX7_findYear_54 : decode cX7_findYear 54 = .ok (.iload 4, 2) := by decide +kernel
theorem dX7_findYear_56 : decode cX7_findYear 56 = .ok (.iload 5, 2) := by decide +kernel
theorem dX7_findYear_58 : decode cX7_findYear 58 = .ok (.invokevirtual 179, 3) := by decide +kernel
theorem dX7_findYear_61 : decode cX7_findYear 61 = .ok (.invokevirtual 175, 3) := by decide +kernel
theorem dX7_findYear_64 : decode cX7_findYear 64 = .ok (.istore 6, 2) := by decide +kernel
theorem dX7_findYear_66 : decode cX7_findYear 66 = .ok (.aload_n 0, 1) := by decide +kernel
theorem dX7_findYear_67 : decode cX7_findYear 67 = .ok (.getfield 45, 3) := by decide +kernel
theorem dX7_findYear_70 : decode cX7_findYear 70 = .ok (.iload_n 3, 1) := by decide +kernel
theorem dX7_findYear_71 : decode cX7_findYear 71 = .ok (.iload 4, 2) := by decide +kernel
theorem dX7_findYear_73 : decode cX7_findYear 73 = .ok (.iload 5, 2) := by decide +kernel
theorem dX7_findYear_75 : decode cX7_findYear 75 = .ok (.invokestatic 168, 3) := by decide +kernel
theorem dX7_findYear_78 : decode cX7_findYear 78 = .ok (.aload_n 0, 1) := by decide +kernel
theorem dX7_findYear_79 : decode cX7_findYear 79 = .ok (.iload 4, 2) := by decide +kernel
theorem dX7_findYear_81 : decode cX7_findYear 81 = .ok (.iload_n 1, 1) := by decide +kernel
theorem dX7_findYear_82 : decode cX7_findYear 82 = .ok (.iload_n 3, 1) := by decide +kernel
theorem dX7_findYear_83 : decode cX7_findYear 83 = .ok (.iadd, 1) := by decide +kernel
theorem dX7_findYear_84 : decode cX7_findYear 84 = .ok (.iload 5, 2) := by decide +kernel
theorem dX7_findYear_86 : decode cX7_findYear 86 = .ok (.invokevirtual 182, 3) := by decide +kernel
theorem dX7_findYear_89 : decode cX7_findYear 89 = .ok (.iload 6, 2) := by decide +kernel
theorem dX7_findYear_91 : decode cX7_findYear 91 = .ok (.iadd, 1) := by decide +kernel
theorem dX7_findYear_92 : decode cX7_findYear 92 = .ok (.iastore, 1) := by decide +kernel
theorem dX7_findYear_93 : decode cX7_findYear 93 = .ok (.iinc 5 1, 3) := by decide +kernel
theorem dX7_findYear_96 : decode cX7_findYear 96 = .ok (.goto (-71), 3) := by decide +kernel
theorem dX7_findYear_99 : decode cX7_findYear 99 = .ok (.iinc 4 1, 3) := by decide +kernel
theorem dX7_findYear_102 : decode cX7_findYear 102 = .ok (.goto (-91), 3) := by decide +kernel
theorem dX7_findYear_105 : decode cX7_findYear 105 = .ok (.iinc 3 (-1), 3) := by decide +kernel
theorem dX7_findYear_108 : decode cX7_findYear 108 = .ok (.goto (-104), 3) := by decide +kernel
theorem dX7_findYear_111 : decode cX7_findYear 111 = .ok (.iconst (-1), 1) := by decide +kernel
theorem dX7_findYear_112 : decode cX7_findYear 112 = .ok (.istore_n 3, 1) := by decide +kernel
theorem dX7_findYear_113 : decode cX7_findYear 113 = .ok (.iconst 0, 1) := by decide +kernel
theorem dX7_findYear_114 : decode cX7_findYear 114 = .ok (.istore 4, 2) := by decide +kernel
theorem dX7_findYear_116 : decode cX7_findYear 116 = .ok (.iconst 0, 1) := by decide +kernel
theorem dX7_findYear_117 : decode cX7_findYear 117 = .ok (.istore 5, 2) := by decide +kernel
theorem dX7_findYear_119 : decode cX7_findYear 119 = .ok (.iload 5, 2) := by decide +kernel
theorem dX7_findYear_121 : decode cX7_findYear 121 = .ok (.iload_n 2, 1) := by decide +kernel
theorem dX7_findYear_122 : decode cX7_findYear 122 = .ok (.if_icmp .ge 57, 3) := by decide +kernel
theorem dX7_findYear_125 : decode cX7_findYear 125 = .ok (.aload_n 0, 1) := by decide +kernel
theorem dX7_findYear_126 : decode cX7_findYear 126 = .ok (.iload 5, 2) := by decide +kernel
theorem dX7_findYear_128 : decode cX7_findYear 128 = .ok (.iload_n 3, 1) := by decide +kernel
theorem dX7_findYear_129 : decode cX7_findYear 129 = .ok (.iload 4, 2) := by decide +kernel
theorem dX7_findYear_131 : decode cX7_findYear 131 = .ok (.invokevirtual 179, 3) := by decide +kernel
theorem dX7_findYear_134 : decode cX7_findYear 134 = .ok (.istore 6, 2) := by decide +kernel
theorem dX7_findYear_136 : decode cX7_findYear 136 = .ok (.iload 6, 2) := by decide +kernel
theorem dX7_findYear_138 : decode cX7_findYear 138 = .ok (.iload_n 3, 1) := by decide +kernel
theorem dX7_findYear_139 : decode cX7_findYear 139 = .ok (.if_icmp .eq 7, 3) := by decide +kernel
theorem dX7_findYear_142 : decode cX7_findYear 142 = .ok (.iconst 1, 1) := by decide +kernel
theorem dX7_findYear_143 : decode cX7_findYear 143 = .ok (.goto 17, 3) := by decide +kernel
theorem dX7_findYear_146 : decode cX7_findYear 146 = .ok (.iload 4, 2) := by decide +kernel
theorem dX7_findYear_148 : decode cX7_findYear 148 = .ok (.iconst 3, 1) := by decide +kernel
theorem dX7_findYear_149 : decode cX7_findYear 149 = .ok (.if_icmp .ge 10, 3) := by decide +kernel
theorem dX7_findYear_152 : decode cX7_findYear 152 = .ok (.iload 4, 2) := by decide +kernel
theorem dX7_findYear_154 : decode cX7_findYear 154 = .ok (.iconst 1, 1) := by decide +kernel
theorem dX7_findYear_155 : decode cX7_findYear 155 = .ok (.iadd, 1) := by decide +kernel
theorem dX7_findYear_156 : decode cX7_findYear 156 = .ok (.goto 4, 3) := by decide +kernel
theorem dX7_findYear_159 : decode cX7_findYear 159 = .ok (.iconst 3, 1) := by decide +kernel
theorem dX7_findYear_160 : decode cX7_findYear 160 = .ok (.istore 4, 2) := by decide +kernel
theorem dX7_findYear_162 : decode cX7_findYear 162 = .ok (.iload 6, 2) := by decide +kernel
theorem dX7_findYear_164 : decode cX7_findYear 164 = .ok (.istore_n 3, 1) := by decide +kernel
theorem dX7_findYear_165 : decode cX7_findYear 165 = .ok (.aload_n 0, 1) := by decide +kernel
theorem dX7_findYear_166 : decode cX7_findYear 166 = .ok (.getfield 48, 3) := by decide +kernel
theorem dX7_findYear_169 : decode cX7_findYear 169 = .ok (.iload 5, 2) := by decide +kernel
theorem dX7_findYear_171 : decode cX7_findYear 171 = .ok (.iload_n 3, 1) := by decide +kernel
theorem dX7_findYear_172 : decode cX7_findYear 172 = .ok (.iastore, 1) := by decide +kernel
theorem dX7_findYear_173 : decode cX7_findYear 173 = .ok (.iinc 5 1, 3) := by decide +kernel
theorem dX7_findYear_176 : decode cX7_findYear 176 = .ok (.goto (-57), 3) := by decide +kernel
theorem dX7_findYear_179 : decode cX7_findYear 179 = .ok (.aload_n 0, 1) := by decide +kernel
theorem dX7_findYear_180 : decode cX7_findYear 180 = .ok (.getfield 45, 3) := by decide +kernel
theorem dX7_findYear_183 : decode cX7_findYear 183 = .ok (.iconst 0, 1) := by decide +kernel
theorem dX7_findYear_184 : decode cX7_findYear 184 = .ok (.aload_n 0, 1) := by decide +kernel
theorem dX7_findYear_185 : decode cX7_findYear 185 = .ok (.getfield 48, 3) := by decide +kernel
theorem dX7_findYear_188 : decode cX7_findYear 188 = .ok (.iconst 0, 1) := by decide +kernel
theorem dX7_findYear_189 : decode cX7_findYear 189 = .ok (.iaload, 1) := by decide +kernel
theorem dX7_findYear_190 : decode cX7_findYear 190 = .ok (.iconst 1, 1) := by decide +kernel
theorem dX7_findYear_191 : decode cX7_findYear 191 = .ok (.invokestatic 168, 3) := by decide +kernel
theorem dX7_findYear_194 : decode cX7_findYear 194 = .ok (.iaload, 1) := by decide +kernel
theorem dX7_findYear_195 : decode cX7_findYear 195 = .ok (.ireturn, 1) := by decide +kernel
theorem dX7_year_0 : decode cX7_year 0 = .ok (.iload_n 1, 1) := by decide +kernel
theorem dX7_year_1 : decode cX7_year 1 = .ok (.i2l, 1) := by decide +kernel
theorem dX7_year_2 : decode cX7_year 2 = .ok (.lconst 0, 1) := by decide +kernel
theorem dX7_year_3 : decode cX7_year 3 = .ok (.ldc2_w 164, 3) := by decide +kernel
theorem dX7_year_6 : decode cX7_year 6 = .ok (.invokestatic 65, 3) := by decide +kernel
theorem dX7_year_9 : decode cX7_year 9 = .ok (.ifCond .eq 30, 3) := by decide +kernel
theorem dX7_year_12 : decode cX7_year 12 = .ok (.iload_n 2, 1) := by decide +kernel
theorem dX7_year_13 : decode cX7_year 13 = .ok (.i2l, 1) := by decide +kernel
theorem dX7_year_14 : decode cX7_year 14 = .ok (.lconst 1, 1) := by decide +kernel
theorem dX7_year_15 : decode cX7_year 15 = .ok (.ldc2_w 185, 3) := by decide +kernel
theorem dX7_year_18 : decode cX7_year 18 = .ok (.invokestatic 65, 3) := by decide +kernel
theorem dX7_year_21 : decode cX7_year 21 = .ok (.ifCond .eq 18, 3) := by decide +kernel
theorem dX7_year_24 : decode cX7_year 24 = .ok (.iload_n 3, 1) := by decide +kernel
theorem dX7_year_25 : decode cX7_year 25 = .ok (.i2l, 1) := by decide +kernel
theorem dX7_year_26 : decode cX7_year 26 = .ok (.ldc2_w 187, 3) := by decide +kernel
theorem dX7_year_29 : decode cX7_year 29 = .ok (.iload_n 2, 1) := by decide +kernel
theorem dX7_year_30 : decode cX7_year 30 = .ok (.iconst 1, 1) := by decide +kernel
theorem dX7_year_31 : decode cX7_year 31 = .ok (.isub, 1) := by decide +kernel
theorem dX7_year_32 : decode cX7_year 32 = .ok (.i2l, 1) := by decide +kernel
theorem dX7_year_33 : decode cX7_year 33 = .ok (.invokestatic 65, 3) := by decide +kernel
theorem dX7_year_36 : decode cX7_year 36 = .ok (.ifCond .ne 10, 3) := by decide +kernel
theorem dX7_year_39 : decode cX7_year 39 = .ok (.aload_n 0, 1) := by decide +kernel
theorem dX7_year_40 : decode cX7_year 40 = .ok (.ldc 54, 2) := by decide +kernel
theorem dX7_year_42 : decode cX7_year 42 = .ok (.invokevirtual 75, 3) := by decide +kernel
theorem dX7_year_45 : decode cX7_year 45 = .ok (.ireturn, 1) := by decide +kernel
theorem dX7_year_46 : decode cX7_year 46 = .ok (.aload_n 0, 1) := by decide +kernel
theorem dX7_year_47 : decode cX7_year 47 = .ok (.getfield 7, 3) := by decide +kernel
theorem dX7_year_50 : decode cX7_year 50 = .ok (.iconst 2, 1) := by decide +kernel
theorem dX7_year_51 : decode cX7_year 51 = .ok (.iaload, 1) := by decide +kernel
theorem dX7_year_52 : decode cX7_year 52 = .ok (.ifCond .ne 10, 3) := by decide +kernel
theorem dX7_year_55 : decode cX7_year 55 = .ok (.aload_n 0, 1) := by decide +kernel
theorem dX7_year_56 : decode cX7_year 56 = .ok (.ldc 138, 2) := by decide +kernel
theorem dX7_year_58 : decode cX7_year 58 = .ok (.invokevirtual 75, 3) := by decide +kernel
theorem dX7_year_61 : decode cX7_year 61 = .ok (.ireturn, 1) := by decide +kernel
theorem dX7_year_62 : decode cX7_year 62 = .ok (.aload_n 0, 1) := by decide +kernel
theorem dX7_year_63 : decode cX7_year 63 = .ok (.iload_n 1, 1) := by decide +kernel
theorem dX7_year_64 : decode cX7_year 64 = .ok (.iload_n 2, 1) := by decide +kernel
theorem dX7_year_65 : decode cX7_year 65 = .ok (.invokevirtual 189, 3) := by decide +kernel
theorem dX7_year_68 : decode cX7_year 68 = .ok (.istore 4, 2) := by decide +kernel
theorem dX7_year_70 : decode cX7_year 70 = .ok (.iload_n 3, 1) := by decide +kernel
theorem dX7_year_71 : decode cX7_year 71 = .ok (.ifCond .ge 8, 3) := by decide +kernel
theorem dX7_year_74 : decode cX7_year 74 = .ok (.iload 4, 2) := by decide +kernel
theorem dX7_year_76 : decode cX7_year 76 = .ok (.goto 9, 3) := by decide +kernel
theorem dX7_year_79 : decode cX7_year 79 = .ok (.aload_n 0, 1) := by decide +kernel
theorem dX7_year_80 : decode cX7_year 80 = .ok (.getfield 48, 3) := by decide +kernel
theorem dX7_year_83 : decode cX7_year 83 = .ok (.iload_n 3, 1) := by decide +kernel
theorem dX7_year_84 : decode cX7_year 84 = .ok (.iaload, 1) := by decide +kernel
theorem dX7_year_85 : decode cX7_year 85 = .ok (.ireturn, 1) := by decide +kernel
theorem dX7_moves_0 : decode cX7_moves 0 = .ok (.iload_n 1, 1) := by decide +kernel
theorem dX7_moves_1 : decode cX7_moves 1 = .ok (.i2l, 1) := by decide +kernel
theorem dX7_moves_2 : decode cX7_moves 2 = .ok (.lconst 0, 1) := by decide +kernel
theorem dX7_moves_3 : decode cX7_moves 3 = .ok (.ldc2_w 164, 3) := by decide +kernel
theorem dX7_moves_6 : decode cX7_moves 6 = .ok (.invokestatic 65, 3) := by decide +kernel
theorem dX7_moves_9 : decode cX7_moves 9 = .ok (.ifCond .eq 15, 3) := by decide +kernel
theorem dX7_moves_12 : decode cX7_moves 12 = .ok (.iload_n 2, 1) := by decide +kernel
theorem dX7_moves_13 : decode cX7_moves 13 = .ok (.i2l, 1) := by decide +kernel
theorem dX7_moves_14 : decode cX7_moves 14 = .ok (.lconst 1, 1) := by decide +kernel
theorem dX7_moves_15 : decode cX7_moves 15 = .ok (.ldc2_w 185, 3) := by decide +kernel
theorem dX7_moves_18 : decode cX7_moves 18 = .ok (.invokestatic 65, 3) := by decide +kernel
theorem dX7_moves_21 : decode cX7_moves 21 = .ok (.ifCond .ne 10, 3) := by decide +kernel
theorem dX7_moves_24 : decode cX7_moves 24 = .ok (.aload_n 0, 1) := by decide +kernel
theorem dX7_moves_25 : decode cX7_moves 25 = .ok (.ldc 54, 2) := by decide +kernel
theorem dX7_moves_27 : decode cX7_moves 27 = .ok (.invokevirtual 75, 3) := by decide +kernel
theorem dX7_moves_30 : decode cX7_moves 30 = .ok (.ireturn, 1) := by decide +kernel
theorem dX7_moves_31 : decode cX7_moves 31 = .ok (.aload_n 0, 1) := by decide +kernel
theorem dX7_moves_32 : decode cX7_moves 32 = .ok (.getfield 7, 3) := by decide +kernel
theorem dX7_moves_35 : decode cX7_moves 35 = .ok (.iconst 2, 1) := by decide +kernel
theorem dX7_moves_36 : decode cX7_moves 36 = .ok (.iaload, 1) := by decide +kernel
theorem dX7_moves_37 : decode cX7_moves 37 = .ok (.ifCond .ne 10, 3) := by decide +kernel
theorem dX7_moves_40 : decode cX7_moves 40 = .ok (.aload_n 0, 1) := by decide +kernel
theorem dX7_moves_41 : decode cX7_moves 41 = .ok (.ldc 138, 2) := by decide +kernel
theorem dX7_moves_43 : decode cX7_moves 43 = .ok (.invokevirtual 75, 3) := by decide +kernel
theorem dX7_moves_46 : decode cX7_moves 46 = .ok (.ireturn, 1) := by decide +kernel
theorem dX7_moves_47 : decode cX7_moves 47 = .ok (.aload_n 0, 1) := by decide +kernel
theorem dX7_moves_48 : decode cX7_moves 48 = .ok (.iload_n 1, 1) := by decide +kernel
theorem dX7_moves_49 : decode cX7_moves 49 = .ok (.iload_n 2, 1) := by decide +kernel
theorem dX7_moves_50 : decode cX7_moves 50 = .ok (.invokevirtual 189, 3) := by decide +kernel
theorem dX7_moves_53 : decode cX7_moves 53 = .ok (.istore_n 3, 1) := by decide +kernel
theorem dX7_moves_54 : decode cX7_moves 54 = .ok (.iconst 0, 1) := by decide +kernel
theorem dX7_moves_55 : decode cX7_moves 55 = .ok (.istore 4, 2) := by decide +kernel
theorem dX7_moves_57 : decode cX7_moves 57 = .ok (.iconst 1, 1) := by decide +kernel
theorem dX7_moves_58 : decode cX7_moves 58 = .ok (.istore 5, 2) := by decide +kernel
theorem dX7_moves_60 : decode cX7_moves 60 = .ok (.iload 5, 2) := by decide +kernel
theorem dX7_moves_62 : decode cX7_moves 62 = .ok (.iload_n 2, 1) := by decide +kernel
theorem dX7_moves_63 : decode cX7_moves 63 = .ok (.if_icmp .ge 38, 3) := by decide +kernel
theorem dX7_moves_66 : decode cX7_moves 66 = .ok (.iload 4, 2) := by decide +kernel
theorem dX7_moves_68 : decode cX7_moves 68 = .ok (.aload_n 0, 1) := by decide +kernel
theorem dX7_moves_69 : decode cX7_moves 69 = .ok (.getfield 48, 3) := by decide +kernel
theorem dX7_moves_72 : decode cX7_moves 72 = .ok (.iload 5, 2) := by decide +kernel
theorem dX7_moves_74 : decode cX7_moves 74 = .ok (.iaload, 1) := by decide +kernel
theorem dX7_moves_75 : decode cX7_moves 75 = .ok (.aload_n 0, 1) := by decide +kernel
theorem dX7_moves_76 : decode cX7_moves 76 = .ok (.getfield 48, 3) := by decide +kernel
theorem dX7_moves_79 : decode cX7_moves 79 = .ok (.iload 5, 2) := by decide +kernel
theorem dX7_moves_81 : decode cX7_moves 81 = .ok (.iconst 1, 1) := by decide +kernel
theorem dX7_moves_82 : decode cX7_moves 82 = .ok (.isub, 1) := by decide +kernel
theorem dX7_moves_83 : decode cX7_moves 83 = .ok (.iaload, 1) := by decide +kernel
theorem dX7_moves_84 : decode cX7_moves 84 = .ok (.if_icmp .eq 7, 3) := by decide +kernel
theorem dX7_moves_87 : decode cX7_moves 87 = .ok (.iconst 1, 1) := by decide +kernel
theorem dX7_moves_88 : decode cX7_moves 88 = .ok (.goto 4, 3) := by decide +kernel
theorem dX7_moves_91 : decode cX7_moves 91 = .ok (.iconst 0, 1) := by decide +kernel
theorem dX7_moves_92 : decode cX7_moves 92 = .ok (.iadd, 1) := by decide +kernel
theorem dX7_moves_93 : decode cX7_moves 93 = .ok (.istore 4, 2) := by decide +kernel
theorem dX7_moves_95 : decode cX7_moves 95 = .ok (.iinc 5 1, 3) := by decide +kernel
theorem dX7_moves_98 : decode cX7_moves 98 = .ok (.goto (-38), 3) := by decide +kernel
theorem dX7_moves_101 : decode cX7_moves 101 = .ok (.iload 4, 2) := by decide +kernel
theorem dX7_moves_103 : decode cX7_moves 103 = .ok (.ireturn, 1) := by decide +kernel
theorem dX7_feed_0 : decode cX7_feed 0 = .ok (.iload_n 2, 1) := by decide +kernel
theorem dX7_feed_1 : decode cX7_feed 1 = .ok (.i2l, 1) := by decide +kernel
theorem dX7_feed_2 : decode cX7_feed 2 = .ok (.lconst 1, 1) := by decide +kernel
theorem dX7_feed_3 : decode cX7_feed 3 = .ok (.ldc2_w 107, 3) := by decide +kernel
theorem dX7_feed_6 : decode cX7_feed 6 = .ok (.invokestatic 65, 3) := by decide +kernel
theorem dX7_feed_9 : decode cX7_feed 9 = .ok (.ifCond .ne 10, 3) := by decide +kernel
theorem dX7_feed_12 : decode cX7_feed 12 = .ok (.aload_n 0, 1) := by decide +kernel
theorem dX7_feed_13 : decode cX7_feed 13 = .ok (.ldc 54, 2) := by decide +kernel
theorem dX7_feed_15 : decode cX7_feed 15 = .ok (.invokevirtual 75, 3) := by decide +kernel
theorem dX7_feed_18 : decode cX7_feed 18 = .ok (.ireturn, 1) := by decide +kernel
theorem dX7_feed_19 : decode cX7_feed 19 = .ok (.aload_n 0, 1) := by decide +kernel
theorem dX7_feed_20 : decode cX7_feed 20 = .ok (.getfield 192, 3) := by decide +kernel
theorem dX7_feed_23 : decode cX7_feed 23 = .ok (.iload_n 2, 1) := by decide +kernel
theorem dX7_feed_24 : decode cX7_feed 24 = .ok (.iadd, 1) := by decide +kernel
theorem dX7_feed_25 : decode cX7_feed 25 = .ok (.bipush 120, 2) := by decide +kernel
theorem dX7_feed_27 : decode cX7_feed 27 = .ok (.if_icmp .le 10, 3) := by decide +kernel
theorem dX7_feed_30 : decode cX7_feed 30 = .ok (.aload_n 0, 1) := by decide +kernel
theorem dX7_feed_31 : decode cX7_feed 31 = .ok (.ldc 79, 2) := by decide +kernel
theorem dX7_feed_33 : decode cX7_feed 33 = .ok (.invokevirtual 75, 3) := by decide +kernel
theorem dX7_feed_36 : decode cX7_feed 36 = .ok (.ireturn, 1) := by decide +kernel
theorem dX7_feed_37 : decode cX7_feed 37 = .ok (.iload_n 2, 1) := by decide +kernel
theorem dX7_feed_38 : decode cX7_feed 38 = .ok (.iconst 1, 1) := by decide +kernel
theorem dX7_feed_39 : decode cX7_feed 39 = .ok (.isub, 1) := by decide +kernel
theorem dX7_feed_40 : decode cX7_feed 40 = .ok (.istore_n 3, 1) := by decide +kernel
theorem dX7_feed_41 : decode cX7_feed 41 = .ok (.iload_n 3, 1) := by decide +kernel
theorem dX7_feed_42 : decode cX7_feed 42 = .ok (.ifCond .lt 38, 3) := by decide +kernel
theorem dX7_feed_45 : decode cX7_feed 45 = .ok (.aload_n 0, 1) := by decide +kernel
theorem dX7_feed_46 : decode cX7_feed 46 = .ok (.getfield 22, 3) := by decide +kernel
theorem dX7_feed_49 : decode cX7_feed 49 = .ok (.aload_n 0, 1) := by decide +kernel
theorem dX7_feed_50 : decode cX7_feed 50 = .ok (.getfield 192, 3) := by decide +kernel
theorem dX7_feed_53 : decode cX7_feed 53 = .ok (.iload_n 1, 1) := by decide +kernel
theorem dX7_feed_54 : decode cX7_feed 54 = .ok (.bipush 8, 2) := by decide +kernel
theorem dX7_feed_56 : decode cX7_feed 56 = .ok (.iload_n 3, 1) := by decide +kernel
theorem dX7_feed_57 : decode cX7_feed 57 = .ok (.imul, 1) := by decide +kernel
theorem dX7_feed_58 : decode cX7_feed 58 = .ok (.ishr, 1) := by decide +kernel
theorem dX7_feed_59 : decode cX7_feed 59 = .ok (.sipush 255, 3) := by decide +kernel
theorem dX7_feed_62 : decode cX7_feed 62 = .ok (.iand, 1) := by decide +kernel
theorem dX7_feed_63 : decode cX7_feed 63 = .ok (.iastore, 1) := by decide +kernel
theorem dX7_feed_64 : decode cX7_feed 64 = .ok (.aload_n 0, 1) := by decide +kernel
theorem dX7_feed_65 : decode cX7_feed 65 = .ok (.dup, 1) := by decide +kernel
theorem dX7_feed_66 : decode cX7_feed 66 = .ok (.getfield 192, 3) := by decide +kernel
theorem dX7_feed_69 : decode cX7_feed 69 = .ok (.iconst 1, 1) := by decide +kernel
theorem dX7_feed_70 : decode cX7_feed 70 = .ok (.iadd, 1) := by decide +kernel
theorem dX7_feed_71 : decode cX7_feed 71 = .ok (.putfield 192, 3) := by decide +kernel
theorem dX7_feed_74 : decode cX7_feed 74 = .ok (.iinc 3 (-1), 3) := by decide +kernel
theorem dX7_feed_77 : decode cX7_feed 77 = .ok (.goto (-36), 3) := by decide +kernel
theorem dX7_feed_80 : decode cX7_feed 80 = .ok (.aload_n 0, 1) := by decide +kernel
theorem dX7_feed_81 : decode cX7_feed 81 = .ok (.getfield 192, 3) := by decide +kernel
theorem dX7_feed_84 : decode cX7_feed 84 = .ok (.ireturn, 1) := by decide +kernel
theorem dX7_wipe_0 : decode cX7_wipe 0 = .ok (.aload_n 0, 1) := by decide +kernel
theorem dX7_wipe_1 : decode cX7_wipe 1 = .ok (.getfield 192, 3) := by decide +kernel
theorem dX7_wipe_4 : decode cX7_wipe 4 = .ok (.istore_n 1, 1) := by decide +kernel
theorem dX7_wipe_5 : decode cX7_wipe 5 = .ok (.aload_n 0, 1) := by decide +kernel
theorem dX7_wipe_6 : decode cX7_wipe 6 = .ok (.iconst 0, 1) := by decide +kernel
theorem dX7_wipe_7 : decode cX7_wipe 7 = .ok (.putfield 192, 3) := by decide +kernel
theorem dX7_wipe_10 : decode cX7_wipe 10 = .ok (.iload_n 1, 1) := by decide +kernel
theorem dX7_wipe_11 : decode cX7_wipe 11 = .ok (.ireturn, 1) := by decide +kernel
theorem dX7_byteAt_0 : decode cX7_byteAt 0 = .ok (.iload_n 1, 1) := by decide +kernel
theorem dX7_byteAt_1 : decode cX7_byteAt 1 = .ok (.aload_n 0, 1) := by decide +kernel
theorem dX7_byteAt_2 : decode cX7_byteAt 2 = .ok (.getfield 192, 3) := by decide +kernel
theorem dX7_byteAt_5 : decode cX7_byteAt 5 = .ok (.if_icmp .ge 12, 3) := by decide +kernel
theorem dX7_byteAt_8 : decode cX7_byteAt 8 = .ok (.aload_n 0, 1) := by decide +kernel
theorem dX7_byteAt_9 : decode cX7_byteAt 9 = .ok (.getfield 22, 3) := by decide +kernel
theorem dX7_byteAt_12 : decode cX7_byteAt 12 = .ok (.iload_n 1, 1) := by decide +kernel
theorem dX7_byteAt_13 : decode cX7_byteAt 13 = .ok (.iaload, 1) := by decide +kernel
theorem dX7_byteAt_14 : decode cX7_byteAt 14 = .ok (.goto 4, 3) := by decide +kernel
theorem dX7_byteAt_17 : decode cX7_byteAt 17 = .ok (.iconst (-1), 1) := by decide +kernel
theorem dX7_byteAt_18 : decode cX7_byteAt 18 = .ok (.ireturn, 1) := by decide +kernel
theorem dX7_wordHere_0 : decode cX7_wordHere 0 = .ok (.iconst 0, 1) := by decide +kernel
theorem dX7_wordHere_1 : decode cX7_wordHere 1 = .ok (.istore_n 1, 1) := by decide +kernel
theorem dX7_wordHere_2 : decode cX7_wordHere 2 = .ok (.aload_n 0, 1) := by decide +kernel
theorem dX7_wordHere_3 : decode cX7_wordHere 3 = .ok (.getfield 195, 3) := by decide +kernel
theorem dX7_wordHere_6 : decode cX7_wordHere 6 = .ok (.istore_n 2, 1) := by decide +kernel
theorem dX7_wordHere_7 : decode cX7_wordHere 7 = .ok (.iconst 1, 1) := by decide +kernel
theorem dX7_wordHere_8 : decode cX7_wordHere 8 = .ok (.istore_n 3, 1) := by decide +kernel
theorem dX7_wordHere_9 : decode cX7_wordHere 9 = .ok (.iconst 0, 1) := by decide +kernel
theorem dX7_wordHere_10 : decode cX7_wordHere 10 = .ok (.istore 4, 2) := by decide +kernel
theorem dX7_wordHere_12 : decode cX7_wordHere 12 = .ok (.iload 4, 2) := by decide +kernel
theorem dX7_wordHere_14 : decode cX7_wordHere 14 = .ok (.bipush 70, 2) := by decide +kernel
theorem dX7_wordHere_16 : decode cX7_wordHere 16 = .ok (.if_icmp .ge 82, 3) := by decide +kernel
theorem dX7_wordHere_19 : decode cX7_wordHere 19 = .ok (.aload_n 0, 1) := by decide +kernel
theorem dX7_wordHere_20 : decode cX7_wordHere 20 = .ok (.getfield 51, 3) := by decide +kernel
theorem dX7_wordHere_23 : decode cX7_wordHere 23 = .ok (.iload 4, 2) := by decide +kernel
theorem dX7_wordHere_25 : decode cX7_wordHere 25 = .ok (.iaload, 1) := by decide +kernel
theorem dX7_wordHere_26 : decode cX7_wordHere 26 = .ok (.ifCond .ne 30, 3) := by decide +kernel
theorem dX7_wordHere_29 : decode cX7_wordHere 29 = .ok (.iload_n 3, 1) := by decide +kernel
theorem dX7_wordHere_30 : decode cX7_wordHere 30 = .ok (.ifCond .eq 13, 3) := by decide +kernel
theorem dX7_wordHere_33 : decode cX7_wordHere 33 = .ok (.iload_n 2, 1) := by decide +kernel
theorem dX7_wordHere_34 : decode cX7_wordHere 34 = .ok (.aload_n 0, 1) := by decide +kernel
theorem dX7_wordHere_35 : decode cX7_wordHere 35 = .ok (.getfield 198, 3) := by decide +kernel
theorem dX7_wordHere_38 : decode cX7_wordHere 38 = .ok (.if_icmp .ne 5, 3) := by decide +kernel
theorem dX7_wordHere_41 : decode cX7_wordHere 41 = .ok (.iload_n 1, 1) := by decide +kernel
theorem dX7_wordHere_42 : decode cX7_wordHere 42 = .ok (.ireturn, 1) := by decide +kernel
theorem dX7_wordHere_43 : decode cX7_wordHere 43 = .ok (.iinc 1 1, 3) := by decide +kernel
theorem dX7_wordHere_46 : decode cX7_wordHere 46 = .ok (.aload_n 0, 1) := by decide +kernel
theorem dX7_wordHere_47 : decode cX7_wordHere 47 = .ok (.getfield 195, 3) := by decide +kernel
theorem dX7_wordHere_50 : decode cX7_wordHere 50 = .ok (.istore_n 2, 1) := by decide +kernel
theorem dX7_wordHere_51 : decode cX7_wordHere 51 = .ok (.iconst 1, 1) := by decide +kernel
theorem dX7_wordHere_52 : decode cX7_wordHere 52 = .ok (.istore_n 3, 1) := by decide +kernel
theorem dX7_wordHere_53 : decode cX7_wordHere 53 = .ok (.goto 39, 3) := by decide +kernel
theorem dX7_wordHere_56 : decode cX7_wordHere 56 = .ok (.iload_n 3, 1) := by decide +kernel
theorem dX7_wordHere_57 : decode cX7_wordHere 57 = .ok (.ifCond .eq 30, 3) := by decide +kernel
theorem dX7_wordHere_60 : decode cX7_wordHere 60 = .ok (.iload_n 2, 1) := by decide +kernel
theorem dX7_wordHere_61 : decode cX7_wordHere 61 = .ok (.aload_n 0, 1) := by decide +kernel
theorem dX7_wordHere_62 : decode cX7_wordHere 62 = .ok (.getfield 198, 3) := by decide +kernel
theorem dX7_wordHere_65 : decode cX7_wordHere 65 = .ok (.if_icmp .ge 22, 3) := by decide +kernel
theorem dX7_wordHere_68 : decode cX7_wordHere 68 = .ok (.aload_n 0, 1) := by decide +kernel
theorem dX7_wordHere_69 : decode cX7_wordHere 69 = .ok (.iload_n 2, 1) := by decide +kernel
theorem dX7_wordHere_70 : decode cX7_wordHere 70 = .ok (.invokevirtual 201, 3) := by decide +kernel
theorem dX7_wordHere_73 : decode cX7_wordHere 73 = .ok (.aload_n 0, 1) := by decide +kernel
theorem dX7_wordHere_74 : decode cX7_wordHere 74 = .ok (.getfield 51, 3) := by decide +kernel
theorem dX7_wordHere_77 : decode cX7_wordHere 77 = .ok (.iload 4, 2) := by decide +kernel
theorem dX7_wordHere_79 : decode cX7_wordHere 79 = .ok (.iaload, 1) := by decide +kernel
theorem dX7_wordHere_80 : decode cX7_wordHere 80 = .ok (.if_icmp .ne 7, 3) := by decide +kernel
theorem dX7_wordHere_83 : decode cX7_wordHere 83 = .ok (.iconst 1, 1) := by decide +kernel
theorem dX7_wordHere_84 : decode cX7_wordHere 84 = .ok (.goto 4, 3) := by decide +kernel
theorem dX7_wordHere_87 : decode cX7_wordHere 87 = .ok (.iconst 0, 1) := by decide +kernel
theorem dX7_wordHere_88 : decode cX7_wordHere 88 = .ok (.istore_n 3, 1) := by decide +kernel
theorem dX7_wordHere_89 : decode cX7_wordHere 89 = .ok (.iinc 2 1, 3) := by decide +kernel
theorem dX7_wordHere_92 : decode cX7_wordHere 92 = .ok (.iinc 4 1, 3) := by decide +kernel
theorem dX7_wordHere_95 : decode cX7_wordHere 95 = .ok (.goto (-83), 3) := by decide +kernel
theorem dX7_wordHere_98 : decode cX7_wordHere 98 = .ok (.iconst (-1), 1) := by decide +kernel
theorem dX7_wordHere_99 : decode cX7_wordHere 99 = .ok (.ireturn, 1) := by decide +kernel
theorem dX7_goesOn_0 : decode cX7_goesOn 0 = .ok (.aload_n 0, 1) := by decide +kernel
theorem dX7_goesOn_1 : decode cX7_goesOn 1 = .ok (.aload_n 0, 1) := by decide +kernel
theorem dX7_goesOn_2 : decode cX7_goesOn 2 = .ok (.getfield 198, 3) := by decide +kernel
theorem dX7_goesOn_5 : decode cX7_goesOn 5 = .ok (.invokevirtual 201, 3) := by decide +kernel
theorem dX7_goesOn_8 : decode cX7_goesOn 8 = .ok (.bipush 32, 2) := by decide +kernel
theorem dX7_goesOn_10 : decode cX7_goesOn 10 = .ok (.if_icmp .ne 16, 3) := by decide +kernel
theorem dX7_goesOn_13 : decode cX7_goesOn 13 = .ok (.aload_n 0, 1) := by decide +kernel
theorem dX7_goesOn_14 : decode cX7_goesOn 14 = .ok (.dup, 1) := by decide +kernel
theorem dX7_goesOn_15 : decode cX7_goesOn 15 = .ok (.getfield 198, 3) := by decide +kernel
theorem dX7_goesOn_18 : decode cX7_goesOn 18 = .ok (.iconst 1, 1) := by decide +kernel
theorem dX7_goesOn_19 : decode cX7_goesOn 19 = .ok (.iadd, 1) := by decide +kernel
theorem dX7_goesOn_20 : decode cX7_goesOn 20 = .ok (.putfield 198, 3) := by decide +kernel
theorem dX7_goesOn_23 : decode cX7_goesOn 23 = .ok (.goto (-23), 3) := by decide +kernel
theorem dX7_goesOn_26 : decode cX7_goesOn 26 = .ok (.aload_n 0, 1) := by decide +kernel
theorem dX7_goesOn_27 : decode cX7_goesOn 27 = .ok (.aload_n 0, 1) := by decide +kernel
theorem dX7_goesOn_28 : decode cX7_goesOn 28 = .ok (.getfield 198, 3) := by decide +kernel
theorem dX7_goesOn_31 : decode cX7_goesOn 31 = .ok (.putfield 195, 3) := by decide +kernel
theorem dX7_goesOn_34 : decode cX7_goesOn 34 = .ok (.aload_n 0, 1) := by decide +kernel
theorem dX7_goesOn_35 : decode cX7_goesOn 35 = .ok (.aload_n 0, 1) := by decide +kernel
theorem dX7_goesOn_36 : decode cX7_goesOn 36 = .ok (.getfield 198, 3) := by decide +kernel
theorem dX7_goesOn_39 : decode cX7_goesOn 39 = .ok (.invokevirtual 201, 3) := by decide +kernel
theorem dX7_goesOn_42 : decode cX7_goesOn 42 = .ok (.istore_n 1, 1) := by decide +kernel
theorem dX7_goesOn_43 : decode cX7_goesOn 43 = .ok (.iload_n 1, 1) := by decide +kernel
theorem dX7_goesOn_44 : decode cX7_goesOn 44 = .ok (.ifCond .ge 11, 3) := by decide +kernel
theorem dX7_goesOn_47 : decode cX7_goesOn 47 = .ok (.aload_n 0, 1) := by decide +kernel
theorem dX7_goesOn_48 : decode cX7_goesOn 48 = .ok (.iconst 0, 1) := by decide +kernel
theorem dX7_goesOn_49 : decode cX7_goesOn 49 = .ok (.putfield 204, 3) := by decide +kernel
theorem dX7_goesOn_52 : decode cX7_goesOn 52 = .ok (.goto 218, 3) := by decide +kernel
theorem dX7_goesOn_55 : decode cX7_goesOn 55 = .ok (.iload_n 1, 1) := by decide +kernel
theorem dX7_goesOn_56 : decode cX7_goesOn 56 = .ok (.i2l, 1) := by decide +kernel
theorem dX7_goesOn_57 : decode cX7_goesOn 57 = .ok (.ldc2_w 207, 3) := by decide +kernel
theorem dX7_goesOn_60 : decode cX7_goesOn 60 = .ok (.ldc2_w 209, 3) := by decide +kernel
theorem dX7_goesOn_63 : decode cX7_goesOn 63 = .ok (.invokestatic 65, 3) := by decide +kernel
theorem dX7_goesOn_66 : decode cX7_goesOn 66 = .ok (.ifCond .eq 64, 3) := by decide +kernel
theorem dX7_goesOn_69 : decode cX7_goesOn 69 = .ok (.aload_n 0, 1) := by decide +kernel
theorem dX7_goesOn_70 : decode cX7_goesOn 70 = .ok (.aload_n 0, 1) := by decide +kernel
theorem dX7_goesOn_71 : decode cX7_goesOn 71 = .ok (.getfield 198, 3) := by decide +kernel
theorem dX7_goesOn_74 : decode cX7_goesOn 74 = .ok (.invokevirtual 201, 3) := by decide +kernel
theorem dX7_goesOn_77 : decode cX7_goesOn 77 = .ok (.i2l, 1) := by decide +kernel
theorem dX7_goesOn_78 : decode cX7_goesOn 78 = .ok (.ldc2_w 207, 3) := by decide +kernel
theorem dX7_goesOn_81 : decode cX7_goesOn 81 = .ok (.ldc2_w 209, 3) := by decide +kernel
theorem dX7_goesOn_84 : decode cX7_goesOn 84 = .ok (.invokestatic 65, 3) := by decide +kernel
theorem dX7_goesOn_87 : decode cX7_goesOn 87 = .ok (.ifCond .eq 16, 3) := by decide +kernel
theorem dX7_goesOn_90 : decode cX7_goesOn 90 = .ok (.aload_n 0, 1) := by decide +kernel
theorem dX7_goesOn_91 : decode cX7_goesOn 91 = .ok (.dup, 1) := by decide +kernel
theorem dX7_goesOn_92 : decode cX7_goesOn 92 = .ok (.getfield 198, 3) := by decide +kernel
theorem dX7_goesOn_95 : decode cX7_goesOn 95 = .ok (.iconst 1, 1) := by decide +kernel
theorem dX7_goesOn_96 : decode cX7_goesOn 96 = .ok (.iadd, 1) := by decide +kernel
theorem dX7_goesOn_97 : decode cX7_goesOn 97 = .ok (.putfield 198, 3) := by decide +kernel
theorem dX7_goesOn_100 : decode cX7_goesOn 100 = .ok (.goto (-31), 3) := by decide +kernel
theorem dX7_goesOn_103 : decode cX7_goesOn 103 = .ok (.aload_n 0, 1) := by decide +kernel
theorem dX7_goesOn_104 : decode cX7_goesOn 104 = .ok (.aload_n 0, 1) := by decide +kernel
theorem dX7_goesOn_105 : decode cX7_goesOn 105 = .ok (.invokevirtual 211, 3) := by decide +kernel
theorem dX7_goesOn_108 : decode cX7_goesOn 108 = .ok (.putfield 214, 3) := by decide +kernel
theorem dX7_goesOn_111 : decode cX7_goesOn 111 = .ok (.aload_n 0, 1) := by decide +kernel
theorem dX7_goesOn_112 : decode cX7_goesOn 112 = .ok (.aload_n 0, 1) := by decide +kernel
theorem dX7_goesOn_113 : decode cX7_goesOn 113 = .ok (.getfield 214, 3) := by decide +kernel
theorem dX7_goesOn_116 : decode cX7_goesOn 116 = .ok (.ifCond .ge 7, 3) := by decide +kernel
theorem dX7_goesOn_119 : decode cX7_goesOn 119 = .ok (.iconst 4, 1) := by decide +kernel
theorem dX7_goesOn_120 : decode cX7_goesOn 120 = .ok (.goto 4, 3) := by decide +kernel
theorem dX7_goesOn_123 : decode cX7_goesOn 123 = .ok (.iconst 1, 1) := by decide +kernel
theorem dX7_goesOn_124 : decode cX7_goesOn 124 = .ok (.putfield 204, 3) := by decide +kernel
theorem dX7_goesOn_127 : decode cX7_goesOn 127 = .ok (.goto 143, 3) := by decide +kernel
theorem dX7_goesOn_130 : decode cX7_goesOn 130 = .ok (.iload_n 1, 1) := by decide +kernel
theorem dX7_goesOn_131 : decode cX7_goesOn 131 = .ok (.i2l, 1) := by decide +kernel
theorem dX7_goesOn_132 : decode cX7_goesOn 132 = .ok (.ldc2_w 217, 3) := by decide +kernel
theorem dX7_goesOn_135 : decode cX7_goesOn 135 = .ok (.ldc2_w 219, 3) := by decide +kernel
theorem dX7_goesOn_138 : decode cX7_goesOn 138 = .ok (.invokestatic 65, 3) := by decide +kernel
theorem dX7_goesOn_141 : decode cX7_goesOn 141 = .ok (.ifCond .eq 104, 3) := by decide +kernel
theorem dX7_goesOn_144 : decode cX7_goesOn 144 = .ok (.aload_n 0, 1) := by decide +kernel
theorem dX7_goesOn_145 : decode cX7_goesOn 145 = .ok (.iconst 0, 1) := by decide +kernel
theorem dX7_goesOn_146 : decode cX7_goesOn 146 = .ok (.putfield 214, 3) := by decide +kernel
theorem dX7_goesOn_149 : decode cX7_goesOn 149 = .ok (.aload_n 0, 1) := by decide +kernel
theorem dX7_goesOn_150 : decode cX7_goesOn 150 = .ok (.aload_n 0, 1) := by decide +kernel
theorem dX7_goesOn_151 : decode cX7_goesOn 151 = .ok (.getfield 198, 3) := by decide +kernel
theorem dX7_goesOn_154 : decode cX7_goesOn 154 = .ok (.invokevirtual 201, 3) := by decide +kernel
theorem dX7_goesOn_157 : decode cX7_goesOn 157 = .ok (.i2l, 1) := by decide +kernel
theorem dX7_goesOn_158 : decode cX7_goesOn 158 = .ok (.ldc2_w 217, 3) := by decide +kernel
theorem dX7_goesOn_161 : decode cX7_goesOn 161 = .ok (.ldc2_w 219, 3) := by decide +kernel
theorem dX7_goesOn_164 : decode cX7_goesOn 164 = .ok (.invokestatic 65, 3) := by decide +kernel
theorem dX7_goesOn_167 : decode cX7_goesOn 167 = .ok (.ifCond .eq 56, 3) := by decide +kernel
theorem dX7_goesOn_170 : decode cX7_goesOn 170 = .ok (.aload_n 0, 1) := by decide +kernel
theorem dX7_goesOn_171 : decode cX7_goesOn 171 = .ok (.aload_n 0, 1) := by decide +kernel
theorem dX7_goesOn_172 : decode cX7_goesOn 172 = .ok (.getfield 214, 3) := by decide +kernel
theorem dX7_goesOn_175 : decode cX7_goesOn 175 = .ok (.sipush 999, 3) := by decide +kernel
theorem dX7_goesOn_178 : decode cX7_goesOn 178 = .ok (.if_icmp .le 10, 3) := by decide +kernel
theorem dX7_goesOn_181 : decode cX7_goesOn 181 = .ok (.aload_n 0, 1) := by decide +kernel
theorem dX7_goesOn_182 : decode cX7_goesOn 182 = .ok (.getfield 214, 3) := by decide +kernel
theorem dX7_goesOn_185 : decode cX7_goesOn 185 = .ok (.goto 22, 3) := by decide +kernel
theorem dX7_goesOn_188 : decode cX7_goesOn 188 = .ok (.bipush 10, 2) := by decide +kernel
theorem dX7_goesOn_190 : decode cX7_goesOn 190 = .ok (.aload_n 0, 1) := by decide +kernel
theorem dX7_goesOn_191 : decode cX7_goesOn 191 = .ok (.getfield 214, 3) := by decide +kernel
theorem dX7_goesOn_194 : decode cX7_goesOn 194 = .ok (.imul, 1) := by decide +kernel
theorem dX7_goesOn_195 : decode cX7_goesOn 195 = .ok (.aload_n 0, 1) := by decide +kernel
theorem dX7_goesOn_196 : decode cX7_goesOn 196 = .ok (.aload_n 0, 1) := by decide +kernel
theorem dX7_goesOn_197 : decode cX7_goesOn 197 = .ok (.getfield 198, 3) := by decide +kernel
theorem dX7_goesOn_200 : decode cX7_goesOn 200 = .ok (.invokevirtual 201, 3) := by decide +kernel
theorem dX7_goesOn_203 : decode cX7_goesOn 203 = .ok (.iadd, 1) := by decide +kernel
theorem dX7_goesOn_204 : decode cX7_goesOn 204 = .ok (.bipush 48, 2) := by decide +kernel
theorem dX7_goesOn_206 : decode cX7_goesOn 206 = .ok (.isub, 1) := by decide +kernel
theorem dX7_goesOn_207 : decode cX7_goesOn 207 = .ok (.putfield 214, 3) := by decide +kernel
theorem dX7_goesOn_210 : decode cX7_goesOn 210 = .ok (.aload_n 0, 1) := by decide +kernel
theorem dX7_goesOn_211 : decode cX7_goesOn 211 = .ok (.dup, 1) := by decide +kernel
theorem dX7_goesOn_212 : decode cX7_goesOn 212 = .ok (.getfield 198, 3) := by decide +kernel
theorem dX7_goesOn_215 : decode cX7_goesOn 215 = .ok (.iconst 1, 1) := by decide +kernel
theorem dX7_goesOn_216 : decode cX7_goesOn 216 = .ok (.iadd, 1) := by decide +kernel
theorem dX7_goesOn_217 : decode cX7_goesOn 217 = .ok (.putfield 198, 3) := by decide +kernel
theorem dX7_goesOn_220 : decode cX7_goesOn 220 = .ok (.goto (-71), 3) := by decide +kernel
theorem dX7_goesOn_223 : decode cX7_goesOn 223 = .ok (.aload_n 0, 1) := by decide +kernel
theorem dX7_goesOn_224 : decode cX7_goesOn 224 = .ok (.aload_n 0, 1) := by decide +kernel
theorem dX7_goesOn_225 : decode cX7_goesOn 225 = .ok (.getfield 214, 3) := by decide +kernel
theorem dX7_goesOn_228 : decode cX7_goesOn 228 = .ok (.sipush 999, 3) := by decide +kernel
theorem dX7_goesOn_231 : decode cX7_goesOn 231 = .ok (.if_icmp .le 7, 3) := by decide +kernel
theorem dX7_goesOn_234 : decode cX7_goesOn 234 = .ok (.iconst 4, 1) := by decide +kernel
theorem dX7_goesOn_235 : decode cX7_goesOn 235 = .ok (.goto 4, 3) := by decide +kernel
theorem dX7_goesOn_238 : decode cX7_goesOn 238 = .ok (.iconst 2, 1) := by decide +kernel
theorem dX7_goesOn_239 : decode cX7_goesOn 239 = .ok (.putfield 204, 3) := by decide +kernel
theorem dX7_goesOn_242 : decode cX7_goesOn 242 = .ok (.goto 28, 3) := by decide +kernel
theorem dX7_goesOn_245 : decode cX7_goesOn 245 = .ok (.aload_n 0, 1) := by decide +kernel
theorem dX7_goesOn_246 : decode cX7_goesOn 246 = .ok (.dup, 1) := by decide +kernel
theorem dX7_goesOn_247 : decode cX7_goesOn 247 = .ok (.getfield 198, 3) := by decide +kernel
theorem dX7_goesOn_250 : decode cX7_goesOn 250 = .ok (.iconst 1, 1) := by decide +kernel
theorem dX7_goesOn_251 : decode cX7_goesOn 251 = .ok (.iadd, 1) := by decide +kernel
theorem dX7_goesOn_252 : decode cX7_goesOn 252 = .ok (.putfield 198, 3) := by decide +kernel
theorem dX7_goesOn_255 : decode cX7_goesOn 255 = .ok (.aload_n 0, 1) := by decide +kernel
theorem dX7_goesOn_256 : decode cX7_goesOn 256 = .ok (.iload_n 1, 1) := by decide +kernel
theorem dX7_goesOn_257 : decode cX7_goesOn 257 = .ok (.bipush 44, 2) := by decide +kernel
theorem dX7_goesOn_259 : decode cX7_goesOn 259 = .ok (.if_icmp .ne 7, 3) := by decide +kernel
theorem dX7_goesOn_262 : decode cX7_goesOn 262 = .ok (.iconst 3, 1) := by decide +kernel
theorem dX7_goesOn_263 : decode cX7_goesOn 263 = .ok (.goto 4, 3) := by decide +kernel
theorem dX7_goesOn_266 : decode cX7_goesOn 266 = .ok (.iconst 4, 1) := by decide +kernel
theorem dX7_goesOn_267 : decode cX7_goesOn 267 = .ok (.putfield 204, 3) := by decide +kernel
theorem dX7_goesOn_270 : decode cX7_goesOn 270 = .ok (.return_, 1) := by decide +kernel
theorem dX7_takes_0 : decode cX7_takes 0 = .ok (.aload_n 0, 1) := by decide +kernel
theorem dX7_takes_1 : decode cX7_takes 1 = .ok (.getfield 221, 3) := by decide +kernel
theorem dX7_takes_4 : decode cX7_takes 4 = .ok (.ifCond .ne 23, 3) := by decide +kernel
theorem dX7_takes_7 : decode cX7_takes 7 = .ok (.aload_n 0, 1) := by decide +kernel
theorem dX7_takes_8 : decode cX7_takes 8 = .ok (.getfield 204, 3) := by decide +kernel
theorem dX7_takes_11 : decode cX7_takes 11 = .ok (.iconst 1, 1) := by decide +kernel
theorem dX7_takes_12 : decode cX7_takes 12 = .ok (.if_icmp .ne 15, 3) := by decide +kernel
theorem dX7_takes_15 : decode cX7_takes 15 = .ok (.aload_n 0, 1) := by decide +kernel
theorem dX7_takes_16 : decode cX7_takes 16 = .ok (.getfield 214, 3) := by decide +kernel
theorem dX7_takes_19 : decode cX7_takes 19 = .ok (.iload_n 1, 1) := by decide +kernel
theorem dX7_takes_20 : decode cX7_takes 20 = .ok (.if_icmp .ne 7, 3) := by decide +kernel
theorem dX7_takes_23 : decode cX7_takes 23 = .ok (.iconst 1, 1) := by decide +kernel
theorem dX7_takes_24 : decode cX7_takes 24 = .ok (.goto 4, 3) := by decide +kernel
theorem dX7_takes_27 : decode cX7_takes 27 = .ok (.iconst 0, 1) := by decide +kernel
theorem dX7_takes_28 : decode cX7_takes 28 = .ok (.istore_n 2, 1) := by decide +kernel
theorem dX7_takes_29 : decode cX7_takes 29 = .ok (.iload_n 2, 1) := by decide +kernel
theorem dX7_takes_30 : decode cX7_takes 30 = .ok (.ifCond .eq 7, 3) := by decide +kernel
theorem dX7_takes_33 : decode cX7_takes 33 = .ok (.aload_n 0, 1) := by decide +kernel
theorem dX7_takes_34 : decode cX7_takes 34 = .ok (.invokevirtual 225, 3) := by decide +kernel
theorem dX7_takes_37 : decode cX7_takes 37 = .ok (.iload_n 2, 1) := by decide +kernel
theorem dX7_takes_38 : decode cX7_takes 38 = .ok (.ireturn, 1) := by decide +kernel
theorem dX7_number_0 : decode cX7_number 0 = .ok (.aload_n 0, 1) := by decide +kernel
theorem dX7_number_1 : decode cX7_number 1 = .ok (.getfield 221, 3) := by decide +kernel
theorem dX7_number_4 : decode cX7_number 4 = .ok (.ifCond .ne 26, 3) := by decide +kernel
theorem dX7_number_7 : decode cX7_number 7 = .ok (.aload_n 0, 1) := by decide +kernel
theorem dX7_number_8 : decode cX7_number 8 = .ok (.getfield 204, 3) := by decide +kernel
theorem dX7_number_11 : decode cX7_number 11 = .ok (.iconst 2, 1) := by decide +kernel
theorem dX7_number_12 : decode cX7_number 12 = .ok (.if_icmp .ne 18, 3) := by decide +kernel
theorem dX7_number_15 : decode cX7_number 15 = .ok (.aload_n 0, 1) := by decide +kernel
theorem dX7_number_16 : decode cX7_number 16 = .ok (.getfield 214, 3) := by decide +kernel
theorem dX7_number_19 : decode cX7_number 19 = .ok (.i2l, 1) := by decide +kernel
theorem dX7_number_20 : decode cX7_number 20 = .ok (.iload_n 1, 1) := by decide +kernel
theorem dX7_number_21 : decode cX7_number 21 = .ok (.i2l, 1) := by decide +kernel
theorem dX7_number_22 : decode cX7_number 22 = .ok (.iload_n 2, 1) := by decide +kernel
theorem dX7_number_23 : decode cX7_number 23 = .ok (.i2l, 1) := by decide +kernel
theorem dX7_number_24 : decode cX7_number 24 = .ok (.invokestatic 65, 3) := by decide +kernel
theorem dX7_number_27 : decode cX7_number 27 = .ok (.ifCond .ne 10, 3) := by decide +kernel
theorem dX7_number_30 : decode cX7_number 30 = .ok (.aload_n 0, 1) := by decide +kernel
theorem dX7_number_31 : decode cX7_number 31 = .ok (.iconst 1, 1) := by decide +kernel
theorem dX7_number_32 : decode cX7_number 32 = .ok (.putfield 221, 3) := by decide +kernel
theorem dX7_number_35 : decode cX7_number 35 = .ok (.iconst 0, 1) := by decide +kernel
theorem dX7_number_36 : decode cX7_number 36 = .ok (.ireturn, 1) := by decide +kernel
theorem dX7_number_37 : decode cX7_number 37 = .ok (.aload_n 0, 1) := by decide +kernel
theorem dX7_number_38 : decode cX7_number 38 = .ok (.getfield 214, 3) := by decide +kernel
theorem dX7_number_41 : decode cX7_number 41 = .ok (.istore_n 3, 1) := by decide +kernel
theorem dX7_number_42 : decode cX7_number 42 = .ok (.aload_n 0, 1) := by decide +kernel
theorem dX7_number_43 : decode cX7_number 43 = .ok (.invokevirtual 225, 3) := by decide +kernel
theorem dX7_number_46 : decode cX7_number 46 = .ok (.iload_n 3, 1) := by decide +kernel
theorem dX7_number_47 : decode cX7_number 47 = .ok (.ireturn, 1) := by decide +kernel
theorem dX7_partItem_0 : decode cX7_partItem 0 = .ok (.aload_n 0, 1) := by decide +kernel
theorem dX7_partItem_1 : decode cX7_partItem 1 = .ok (.aload_n 0, 1) := by decide +kernel
theorem dX7_partItem_2 : decode cX7_partItem 2 = .ok (.getfield 7, 3) := by decide +kernel
theorem dX7_partItem_5 : decode cX7_partItem 5 = .ok (.iconst 0, 1) := by decide +kernel
theorem dX7_partItem_6 : decode cX7_partItem 6 = .ok (.iaload, 1) := by decide +kernel
theorem dX7_partItem_7 : decode cX7_partItem 7 = .ok (.bipush 20, 2) := by decide +kernel
theorem dX7_partItem_9 : decode cX7_partItem 9 = .ok (.if_icmp .ne 7, 3) := by decide +kernel
theorem dX7_partItem_12 : decode cX7_partItem 12 = .ok (.iconst 1, 1) := by decide +kernel
theorem dX7_partItem_13 : decode cX7_partItem 13 = .ok (.goto 4, 3) := by decide +kernel
theorem dX7_partItem_16 : decode cX7_partItem 16 = .ok (.iconst 0, 1) := by decide +kernel
theorem dX7_partItem_17 : decode cX7_partItem 17 = .ok (.putfield 221, 3) := by decide +kernel
theorem dX7_partItem_20 : decode cX7_partItem 20 = .ok (.aload_n 0, 1) := by decide +kernel
theorem dX7_partItem_21 : decode cX7_partItem 21 = .ok (.getfield 221, 3) := by decide +kernel
theorem dX7_partItem_24 : decode cX7_partItem 24 = .ok (.ifCond .ne 86, 3) := by decide +kernel
theorem dX7_partItem_27 : decode cX7_partItem 27 = .ok (.aload_n 0, 1) := by decide +kernel
theorem dX7_partItem_28 : decode cX7_partItem 28 = .ok (.invokevirtual 225, 3) := by decide +kernel
theorem dX7_partItem_31 : decode cX7_partItem 31 = .ok (.aload_n 0, 1) := by decide +kernel
theorem dX7_partItem_32 : decode cX7_partItem 32 = .ok (.iconst 0, 1) := by decide +kernel
theorem dX7_partItem_33 : decode cX7_partItem 33 = .ok (.bipush 7, 2) := by decide +kernel
theorem dX7_partItem_35 : decode cX7_partItem 35 = .ok (.invokevirtual 228, 3) := by decide +kernel
theorem dX7_partItem_38 : decode cX7_partItem 38 = .ok (.istore_n 2, 1) := by decide +kernel
theorem dX7_partItem_39 : decode cX7_partItem 39 = .ok (.aload_n 0, 1) := by decide +kernel
theorem dX7_partItem_40 : decode cX7_partItem 40 = .ok (.iconst 1, 1) := by decide +kernel
theorem dX7_partItem_41 : decode cX7_partItem 41 = .ok (.sipush 999, 3) := by decide +kernel
theorem dX7_partItem_44 : decode cX7_partItem 44 = .ok (.invokevirtual 228, 3) := by decide +kernel
theorem dX7_partItem_47 : decode cX7_partItem 47 = .ok (.istore_n 3, 1) := by decide +kernel
theorem dX7_partItem_48 : decode cX7_partItem 48 = .ok (.aload_n 0, 1) := by decide +kernel
theorem dX7_partItem_49 : decode cX7_partItem 49 = .ok (.bipush 10, 2) := by decide +kernel
theorem dX7_partItem_51 : decode cX7_partItem 51 = .ok (.invokevirtual 231, 3) := by decide +kernel
theorem dX7_partItem_54 : decode cX7_partItem 54 = .ok (.ifCond .eq 13, 3) := by decide +kernel
theorem dX7_partItem_57 : decode cX7_partItem 57 = .ok (.aload_n 0, 1) := by decide +kernel
theorem dX7_partItem_58 : decode cX7_partItem 58 = .ok (.iconst 0, 1) := by decide +kernel
theorem dX7_partItem_59 : decode cX7_partItem 59 = .ok (.bipush 99, 2) := by decide +kernel
theorem dX7_partItem_61 : decode cX7_partItem 61 = .ok (.invokevirtual 228, 3) := by decide +kernel
theorem dX7_partItem_64 : decode cX7_partItem 64 = .ok (.goto 4, 3) := by decide +kernel
theorem dX7_partItem_67 : decode cX7_partItem 67 = .ok (.iconst 0, 1) := by decide +kernel
theorem dX7_partItem_68 : decode cX7_partItem 68 = .ok (.istore 4, 2) := by decide +kernel
theorem dX7_partItem_70 : decode cX7_partItem 70 = .ok (.aload_n 0, 1) := by decide +kernel
theorem dX7_partItem_71 : decode cX7_partItem 71 = .ok (.bipush 11, 2) := by decide +kernel
theorem dX7_partItem_73 : decode cX7_partItem 73 = .ok (.invokevirtual 231, 3) := by decide +kernel
theorem dX7_partItem_76 : decode cX7_partItem 76 = .ok (.ifCond .eq 13, 3) := by decide +kernel
theorem dX7_partItem_79 : decode cX7_partItem 79 = .ok (.aload_n 0, 1) := by decide +kernel
theorem dX7_partItem_80 : decode cX7_partItem 80 = .ok (.iconst 0, 1) := by decide +kernel
theorem dX7_partItem_81 : decode cX7_partItem 81 = .ok (.bipush 99, 2) := by decide +kernel
theorem dX7_partItem_83 : decode cX7_partItem 83 = .ok (.invokevirtual 228, 3) := by decide +kernel
theorem dX7_partItem_86 : decode cX7_partItem 86 = .ok (.goto 4, 3) := by decide +kernel
theorem dX7_partItem_89 : decode cX7_partItem 89 = .ok (.iconst 0, 1) := by decide +kernel
theorem dX7_partItem_90 : decode cX7_partItem 90 = .ok (.istore 5, 2) := by decide +kernel
theorem dX7_partItem_92 : decode cX7_partItem 92 = .ok (.aload_n 0, 1) := by decide +kernel
theorem dX7_partItem_93 : decode cX7_partItem 93 = .ok (.getfield 221, 3) := by decide +kernel
theorem dX7_partItem_96 : decode cX7_partItem 96 = .ok (.ifCond .ne 14, 3) := by decide +kernel
theorem dX7_partItem_99 : decode cX7_partItem 99 = .ok (.aload_n 0, 1) := by decide +kernel
theorem dX7_partItem_100 : decode cX7_partItem 100 = .ok (.iload_n 1, 1) := by decide +kernel
theorem dX7_partItem_101 : decode cX7_partItem 101 = .ok (.iload_n 2, 1) := by decide +kernel
theorem dX7_partItem_102 : decode cX7_partItem 102 = .ok (.iload_n 3, 1) := by decide +kernel
theorem dX7_partItem_103 : decode cX7_partItem 103 = .ok (.iload 4, 2) := by decide +kernel
theorem dX7_partItem_105 : decode cX7_partItem 105 = .ok (.iload 5, 2) := by decide +kernel
theorem dX7_partItem_107 : decode cX7_partItem 107 = .ok (.invokevirtual 80, 3) := by decide +kernel
theorem dX7_partItem_110 : decode cX7_partItem 110 = .ok (.return_, 1) := by decide +kernel
theorem dX7_campItem_0 : decode cX7_campItem 0 = .ok (.aload_n 0, 1) := by decide +kernel
theorem dX7_campItem_1 : decode cX7_campItem 1 = .ok (.aload_n 0, 1) := by decide +kernel
theorem dX7_campItem_2 : decode cX7_campItem 2 = .ok (.getfield 7, 3) := by decide +kernel
theorem dX7_campItem_5 : decode cX7_campItem 5 = .ok (.iconst 2, 1) := by decide +kernel
theorem dX7_campItem_6 : decode cX7_campItem 6 = .ok (.iaload, 1) := by decide +kernel
theorem dX7_campItem_7 : decode cX7_campItem 7 = .ok (.bipush 6, 2) := by decide +kernel
theorem dX7_campItem_9 : decode cX7_campItem 9 = .ok (.if_icmp .ne 7, 3) := by decide +kernel
theorem dX7_campItem_12 : decode cX7_campItem 12 = .ok (.iconst 1, 1) := by decide +kernel
theorem dX7_campItem_13 : decode cX7_campItem 13 = .ok (.goto 4, 3) := by decide +kernel
theorem dX7_campItem_16 : decode cX7_campItem 16 = .ok (.iconst 0, 1) := by decide +kernel
theorem dX7_campItem_17 : decode cX7_campItem 17 = .ok (.putfield 221, 3) := by decide +kernel
theorem dX7_campItem_20 : decode cX7_campItem 20 = .ok (.aload_n 0, 1) := by decide +kernel
theorem dX7_campItem_21 : decode cX7_campItem 21 = .ok (.getfield 221, 3) := by decide +kernel
theorem dX7_campItem_24 : decode cX7_campItem 24 = .ok (.ifCond .ne 103, 3) := by decide +kernel
theorem dX7_campItem_27 : decode cX7_campItem 27 = .ok (.aload_n 0, 1) := by decide +kernel
theorem dX7_campItem_28 : decode cX7_campItem 28 = .ok (.invokevirtual 225, 3) := by decide +kernel
theorem dX7_campItem_31 : decode cX7_campItem 31 = .ok (.aload_n 0, 1) := by decide +kernel
theorem dX7_campItem_32 : decode cX7_campItem 32 = .ok (.iconst 0, 1) := by decide +kernel
theorem dX7_campItem_33 : decode cX7_campItem 33 = .ok (.bipush 99, 2) := by decide +kernel
theorem dX7_campItem_35 : decode cX7_campItem 35 = .ok (.invokevirtual 228, 3) := by decide +kernel
theorem dX7_campItem_38 : decode cX7_campItem 38 = .ok (.istore_n 1, 1) := by decide +kernel
theorem dX7_campItem_39 : decode cX7_campItem 39 = .ok (.aload_n 0, 1) := by decide +kernel
theorem dX7_campItem_40 : decode cX7_campItem 40 = .ok (.getfield 221, 3) := by decide +kernel
theorem dX7_campItem_43 : decode cX7_campItem 43 = .ok (.ifCond .ne 84, 3) := by decide +kernel
theorem dX7_campItem_46 : decode cX7_campItem 46 = .ok (.aload_n 0, 1) := by decide +kernel
theorem dX7_campItem_47 : decode cX7_campItem 47 = .ok (.iload_n 1, 1) := by decide +kernel
theorem dX7_campItem_48 : decode cX7_campItem 48 = .ok (.invokevirtual 156, 3) := by decide +kernel
theorem dX7_campItem_51 : decode cX7_campItem 51 = .ok (.aload_n 0, 1) := by decide +kernel
theorem dX7_campItem_52 : decode cX7_campItem 52 = .ok (.bipush 12, 2) := by decide +kernel
theorem dX7_campItem_54 : decode cX7_campItem 54 = .ok (.invokevirtual 231, 3) := by decide +kernel
theorem dX7_campItem_57 : decode cX7_campItem 57 = .ok (.istore_n 2, 1) := by decide +kernel
theorem dX7_campItem_58 : decode cX7_campItem 58 = .ok (.iconst 0, 1) := by decide +kernel
theorem dX7_campItem_59 : decode cX7_campItem 59 = .ok (.istore_n 3, 1) := by decide +kernel
theorem dX7_campItem_60 : decode cX7_campItem 60 = .ok (.iload_n 3, 1) := by decide +kernel
theorem dX7_campItem_61 : decode cX7_campItem 61 = .ok (.bipush 12, 2) := by decide +kernel
theorem dX7_campItem_63 : decode cX7_campItem 63 = .ok (.if_icmp .ge 64, 3) := by decide +kernel
theorem dX7_campItem_66 : decode cX7_campItem 66 = .ok (.iload_n 2, 1) := by decide +kernel
theorem dX7_campItem_67 : decode cX7_campItem 67 = .ok (.ifCond .eq 60, 3) := by decide +kernel
theorem dX7_campItem_70 : decode cX7_campItem 70 = .ok (.aload_n 0, 1) := by decide +kernel
theorem dX7_campItem_71 : decode cX7_campItem 71 = .ok (.getfield 7, 3) := by decide +kernel
theorem dX7_campItem_74 : decode cX7_campItem 74 = .ok (.sipush 138, 3) := by decide +kernel
theorem dX7_campItem_77 : decode cX7_campItem 77 = .ok (.bipush 13, 2) := by decide +kernel
theorem dX7_campItem_79 : decode cX7_campItem 79 = .ok (.aload_n 0, 1) := by decide +kernel
theorem dX7_campItem_80 : decode cX7_campItem 80 = .ok (.getfield 7, 3) := by decide +kernel
theorem dX7_campItem_83 : decode cX7_campItem 83 = .ok (.iconst 2, 1) := by decide +kernel
theorem dX7_campItem_84 : decode cX7_campItem 84 = .ok (.iaload, 1) := by decide +kernel
theorem dX7_campItem_85 : decode cX7_campItem 85 = .ok (.iconst 1, 1) := by decide +kernel
theorem dX7_campItem_86 : decode cX7_campItem 86 = .ok (.isub, 1) := by decide +kernel
theorem dX7_campItem_87 : decode cX7_campItem 87 = .ok (.imul, 1) := by decide +kernel
theorem dX7_campItem_88 : decode cX7_campItem 88 = .ok (.iadd, 1) := by decide +kernel
theorem dX7_campItem_89 : decode cX7_campItem 89 = .ok (.iload_n 3, 1) := by decide +kernel
theorem dX7_campItem_90 : decode cX7_campItem 90 = .ok (.iadd, 1) := by decide +kernel
theorem dX7_campItem_91 : decode cX7_campItem 91 = .ok (.aload_n 0, 1) := by decide +kernel
theorem dX7_campItem_92 : decode cX7_campItem 92 = .ok (.iconst 0, 1) := by decide +kernel
theorem dX7_campItem_93 : decode cX7_campItem 93 = .ok (.sipush 999, 3) := by decide +kernel
theorem dX7_campItem_96 : decode cX7_campItem 96 = .ok (.invokevirtual 228, 3) := by decide +kernel
theorem dX7_campItem_99 : decode cX7_campItem 99 = .ok (.iastore, 1) := by decide +kernel
theorem dX7_campItem_100 : decode cX7_campItem 100 = .ok (.aload_n 0, 1) := by decide +kernel
theorem dX7_campItem_101 : decode cX7_campItem 101 = .ok (.getfield 221, 3) := by decide +kernel
theorem dX7_campItem_104 : decode cX7_campItem 104 = .ok (.ifCond .ne 15, 3) := by decide +kernel
theorem dX7_campItem_107 : decode cX7_campItem 107 = .ok (.aload_n 0, 1) := by decide +kernel
theorem dX7_campItem_108 : decode cX7_campItem 108 = .ok (.getfield 204, 3) := by decide +kernel
theorem dX7_campItem_111 : decode cX7_campItem 111 = .ok (.iconst 2, 1) := by decide +kernel
theorem dX7_campItem_112 : decode cX7_campItem 112 = .ok (.if_icmp .ne 7, 3) := by decide +kernel
theorem dX7_campItem_115 : decode cX7_campItem 115 = .ok (.iconst 1, 1) := by decide +kernel
theorem dX7_campItem_116 : decode cX7_campItem 116 = .ok (.goto 4, 3) := by decide +kernel
theorem dX7_campItem_119 : decode cX7_campItem 119 = .ok (.iconst 0, 1) := by decide +kernel
theorem dX7_campItem_120 : decode cX7_campItem 120 = .ok (.istore_n 2, 1) := by decide +kernel
theorem dX7_campItem_121 : decode cX7_campItem 121 = .ok (.iinc 3 1, 3) := by decide +kernel
theorem dX7_campItem_124 : decode cX7_campItem 124 = .ok (.goto (-64), 3) := by decide +kernel
theorem dX7_campItem_127 : decode cX7_campItem 127 = .ok (.return_, 1) := by decide +kernel
theorem dX7_beastItem_0 : decode cX7_beastItem 0 = .ok (.aload_n 0, 1) := by decide +kernel
theorem dX7_beastItem_1 : decode cX7_beastItem 1 = .ok (.aload_n 0, 1) := by decide +kernel
theorem dX7_beastItem_2 : decode cX7_beastItem 2 = .ok (.getfield 7, 3) := by decide +kernel
theorem dX7_beastItem_5 : decode cX7_beastItem 5 = .ok (.iconst 1, 1) := by decide +kernel
theorem dX7_beastItem_6 : decode cX7_beastItem 6 = .ok (.iaload, 1) := by decide +kernel
theorem dX7_beastItem_7 : decode cX7_beastItem 7 = .ok (.bipush 6, 2) := by decide +kernel
theorem dX7_beastItem_9 : decode cX7_beastItem 9 = .ok (.if_icmp .ne 7, 3) := by decide +kernel
theorem dX7_beastItem_12 : decode cX7_beastItem 12 = .ok (.iconst 1, 1) := by decide +kernel
theorem dX7_beastItem_13 : decode cX7_beastItem 13 = .ok (.goto 4, 3) := by decide +kernel
theorem dX7_beastItem_16 : decode cX7_beastItem 16 = .ok (.iconst 0, 1) := by decide +kernel
theorem dX7_beastItem_17 : decode cX7_beastItem 17 = .ok (.putfield 221, 3) := by decide +kernel
theorem dX7_beastItem_20 : decode cX7_beastItem 20 = .ok (.aload_n 0, 1) := by decide +kernel
theorem dX7_beastItem_21 : decode cX7_beastItem 21 = .ok (.getfield 221, 3) := by decide +kernel
theorem dX7_beastItem_24 : decode cX7_beastItem 24 = .ok (.ifCond .ne 40, 3) := by decide +kernel
theorem dX7_beastItem_27 : decode cX7_beastItem 27 = .ok (.aload_n 0, 1) := by decide +kernel
theorem dX7_beastItem_28 : decode cX7_beastItem 28 = .ok (.invokevirtual 225, 3) := by decide +kernel
theorem dX7_beastItem_31 : decode cX7_beastItem 31 = .ok (.aload_n 0, 1) := by decide +kernel
theorem dX7_beastItem_32 : decode cX7_beastItem 32 = .ok (.getfield 7, 3) := by decide +kernel
theorem dX7_beastItem_35 : decode cX7_beastItem 35 = .ok (.sipush 132, 3) := by decide +kernel
theorem dX7_beastItem_38 : decode cX7_beastItem 38 = .ok (.aload_n 0, 1) := by decide +kernel
theorem dX7_beastItem_39 : decode cX7_beastItem 39 = .ok (.getfield 7, 3) := by decide +kernel
theorem dX7_beastItem_42 : decode cX7_beastItem 42 = .ok (.iconst 1, 1) := by decide +kernel
theorem dX7_beastItem_43 : decode cX7_beastItem 43 = .ok (.iaload, 1) := by decide +kernel
theorem dX7_beastItem_44 : decode cX7_beastItem 44 = .ok (.iadd, 1) := by decide +kernel
theorem dX7_beastItem_45 : decode cX7_beastItem 45 = .ok (.aload_n 0, 1) := by decide +kernel
theorem dX7_beastItem_46 : decode cX7_beastItem 46 = .ok (.iconst 1, 1) := by decide +kernel
theorem dX7_beastItem_47 : decode cX7_beastItem 47 = .ok (.sipush 999, 3) := by decide +kernel
theorem dX7_beastItem_50 : decode cX7_beastItem 50 = .ok (.invokevirtual 228, 3) := by decide +kernel
theorem dX7_beastItem_53 : decode cX7_beastItem 53 = .ok (.iastore, 1) := by decide +kernel
theorem dX7_beastItem_54 : decode cX7_beastItem 54 = .ok (.aload_n 0, 1) := by decide +kernel
theorem dX7_beastItem_55 : decode cX7_beastItem 55 = .ok (.getfield 7, 3) := by decide +kernel
theorem dX7_beastItem_58 : decode cX7_beastItem 58 = .ok (.iconst 1, 1) := by decide +kernel
theorem dX7_beastItem_59 : decode cX7_beastItem 59 = .ok (.dup2, 1) := by decide +kernel
theorem dX7_beastItem_60 : decode cX7_beastItem 60 = .ok (.iaload, 1) := by decide +kernel
theorem dX7_beastItem_61 : decode cX7_beastItem 61 = .ok (.iconst 1, 1) := by decide +kernel
theorem dX7_beastItem_62 : decode cX7_beastItem 62 = .ok (.iadd, 1) := by decide +kernel
theorem dX7_beastItem_63 : decode cX7_beastItem 63 = .ok (.iastore, 1) := by decide +kernel
theorem dX7_beastItem_64 : decode cX7_beastItem 64 = .ok (.return_, 1) := by decide +kernel
theorem dX7_item_0 : decode cX7_item 0 = .ok (.aload_n 0, 1) := by decide +kernel
theorem dX7_item_1 : decode cX7_item 1 = .ok (.getfield 204, 3) := by decide +kernel
theorem dX7_item_4 : decode cX7_item 4 = .ok (.iconst 1, 1) := by decide +kernel
theorem dX7_item_5 : decode cX7_item 5 = .ok (.if_icmp .ne 10, 3) := by decide +kernel
theorem dX7_item_8 : decode cX7_item 8 = .ok (.aload_n 0, 1) := by decide +kernel
theorem dX7_item_9 : decode cX7_item 9 = .ok (.getfield 214, 3) := by decide +kernel
theorem dX7_item_12 : decode cX7_item 12 = .ok (.goto 4, 3) := by decide +kernel
theorem dX7_item_15 : decode cX7_item 15 = .ok (.iconst (-1), 1) := by decide +kernel
theorem dX7_item_16 : decode cX7_item 16 = .ok (.istore_n 1, 1) := by decide +kernel
theorem dX7_item_17 : decode cX7_item 17 = .ok (.iload_n 1, 1) := by decide +kernel
theorem dX7_item_18 : decode cX7_item 18 = .ok (.ifCond .lt 9, 3) := by decide +kernel
theorem dX7_item_21 : decode cX7_item 21 = .ok (.iload_n 1, 1) := by decide +kernel
theorem dX7_item_22 : decode cX7_item 22 = .ok (.bipush 9, 2) := by decide +kernel
theorem dX7_item_24 : decode cX7_item 24 = .ok (.if_icmp .le 11, 3) := by decide +kernel
theorem dX7_item_27 : decode cX7_item 27 = .ok (.aload_n 0, 1) := by decide +kernel
theorem dX7_item_28 : decode cX7_item 28 = .ok (.iconst 1, 1) := by decide +kernel
theorem dX7_item_29 : decode cX7_item 29 = .ok (.putfield 221, 3) := by decide +kernel
theorem dX7_item_32 : decode cX7_item 32 = .ok (.goto 61, 3) := by decide +kernel
theorem dX7_item_35 : decode cX7_item 35 = .ok (.iload_n 1, 1) := by decide +kernel
theorem dX7_item_36 : decode cX7_item 36 = .ok (.bipush 7, 2) := by decide +kernel
theorem dX7_item_38 : decode cX7_item 38 = .ok (.if_icmp .ge 11, 3) := by decide +kernel
theorem dX7_item_41 : decode cX7_item 41 = .ok (.aload_n 0, 1) := by decide +kernel
theorem dX7_item_42 : decode cX7_item 42 = .ok (.iload_n 1, 1) := by decide +kernel
theorem dX7_item_43 : decode cX7_item 43 = .ok (.invokevirtual 234, 3) := by decide +kernel
theorem dX7_item_46 : decode cX7_item 46 = .ok (.goto 47, 3) := by decide +kernel
theorem dX7_item_49 : decode cX7_item 49 = .ok (.iload_n 1, 1) := by decide +kernel
theorem dX7_item_50 : decode cX7_item 50 = .ok (.bipush 7, 2) := by decide +kernel
theorem dX7_item_52 : decode cX7_item 52 = .ok (.if_icmp .ne 10, 3) := by decide +kernel
theorem dX7_item_55 : decode cX7_item 55 = .ok (.aload_n 0, 1) := by decide +kernel
theorem dX7_item_56 : decode cX7_item 56 = .ok (.invokevirtual 237, 3) := by decide +kernel
theorem dX7_item_59 : decode cX7_item 59 = .ok (.goto 34, 3) := by decide +kernel
theorem dX7_item_62 : decode cX7_item 62 = .ok (.iload_n 1, 1) := by decide +kernel
theorem dX7_item_63 : decode cX7_item 63 = .ok (.bipush 8, 2) := by decide +kernel
theorem dX7_item_65 : decode cX7_item 65 = .ok (.if_icmp .ne 10, 3) := by decide +kernel
theorem dX7_item_68 : decode cX7_item 68 = .ok (.aload_n 0, 1) := by decide +kernel
theorem dX7_item_69 : decode cX7_item 69 = .ok (.invokevirtual 240, 3) := by decide +kernel
theorem dX7_item_72 : decode cX7_item 72 = .ok (.goto 21, 3) := by decide +kernel
theorem dX7_item_75 : decode cX7_item 75 = .ok (.aload_n 0, 1) := by decide +kernel
theorem dX7_item_76 : decode cX7_item 76 = .ok (.invokevirtual 225, 3) := by decide +kernel
theorem dX7_item_79 : decode cX7_item 79 = .ok (.aload_n 0, 1) := by decide +kernel
theorem dX7_item_80 : decode cX7_item 80 = .ok (.getfield 7, 3) := by decide +kernel
theorem dX7_item_83 : decode cX7_item 83 = .ok (.bipush 8, 2) := by decide +kernel
theorem dX7_item_85 : decode cX7_item 85 = .ok (.aload_n 0, 1) := by decide +kernel
theorem dX7_item_86 : decode cX7_item 86 = .ok (.iconst 0, 1) := by decide +kernel
theorem dX7_item_87 : decode cX7_item 87 = .ok (.bipush 99, 2) := by decide +kernel
theorem dX7_item_89 : decode cX7_item 89 = .ok (.invokevirtual 228, 3) := by decide +kernel
theorem dX7_item_92 : decode cX7_item 92 = .ok (.iastore, 1) := by decide +kernel
theorem dX7_item_93 : decode cX7_item 93 = .ok (.return_, 1) := by decide +kernel
theorem dX7_house_0 : decode cX7_house 0 = .ok (.iconst 0, 1) := by decide +kernel
theorem dX7_house_1 : decode cX7_house 1 = .ok (.istore_n 1, 1) := by decide +kernel
theorem dX7_house_2 : decode cX7_house 2 = .ok (.iload_n 1, 1) := by decide +kernel
theorem dX7_house_3 : decode cX7_house 3 = .ok (.sipush 216, 3) := by decide +kernel
theorem dX7_house_6 : decode cX7_house 6 = .ok (.if_icmp .ge 21, 3) := by decide +kernel
theorem dX7_house_9 : decode cX7_house 9 = .ok (.aload_n 0, 1) := by decide +kernel
theorem dX7_house_10 : decode cX7_house 10 = .ok (.getfield 16, 3) := by decide +kernel
theorem dX7_house_13 : decode cX7_house 13 = .ok (.iload_n 1, 1) := by decide +kernel
theorem dX7_house_14 : decode cX7_house 14 = .ok (.aload_n 0, 1) := by decide +kernel
theorem dX7_house_15 : decode cX7_house 15 = .ok (.getfield 7, 3) := by decide +kernel
theorem dX7_house_18 : decode cX7_house 18 = .ok (.iload_n 1, 1) := by decide +kernel
theorem dX7_house_19 : decode cX7_house 19 = .ok (.iaload, 1) := by decide +kernel
theorem dX7_house_20 : decode cX7_house 20 = .ok (.iastore, 1) := by decide +kernel
theorem dX7_house_21 : decode cX7_house 21 = .ok (.iinc 1 1, 3) := by decide +kernel
theorem dX7_house_24 : decode cX7_house 24 = .ok (.goto (-22), 3) := by decide +kernel
theorem dX7_house_27 : decode cX7_house 27 = .ok (.aload_n 0, 1) := by decide +kernel
theorem dX7_house_28 : decode cX7_house 28 = .ok (.iconst 0, 1) := by decide +kernel
theorem dX7_house_29 : decode cX7_house 29 = .ok (.putfield 198, 3) := by decide +kernel
theorem dX7_house_32 : decode cX7_house 32 = .ok (.aload_n 0, 1) := by decide +kernel
theorem dX7_house_33 : decode cX7_house 33 = .ok (.iconst 0, 1) := by decide +kernel
theorem dX7_house_34 : decode cX7_house 34 = .ok (.putfield 221, 3) := by decide +kernel
theorem dX7_house_37 : decode cX7_house 37 = .ok (.aload_n 0, 1) := by decide +kernel
theorem dX7_house_38 : decode cX7_house 38 = .ok (.invokevirtual 225, 3) := by decide +kernel
theorem dX7_house_41 : decode cX7_house 41 = .ok (.aload_n 0, 1) := by decide +kernel
theorem dX7_house_42 : decode cX7_house 42 = .ok (.invokevirtual 243, 3) := by decide +kernel
theorem dX7_house_45 : decode cX7_house 45 = .ok (.iconst 1, 1) := by decide +kernel
theorem dX7_house_46 : decode cX7_house 46 = .ok (.istore_n 1, 1) := by decide +kernel
theorem dX7_house_47 : decode cX7_house 47 = .ok (.aload_n 0, 1) := by decide +kernel
theorem dX7_house_48 : decode cX7_house 48 = .ok (.getfield 221, 3) := by decide +kernel
theorem dX7_house_51 : decode cX7_house 51 = .ok (.ifCond .ne 25, 3) := by decide +kernel
theorem dX7_house_54 : decode cX7_house 54 = .ok (.aload_n 0, 1) := by decide +kernel
theorem dX7_house_55 : decode cX7_house 55 = .ok (.getfield 204, 3) := by decide +kernel
theorem dX7_house_58 : decode cX7_house 58 = .ok (.iconst 3, 1) := by decide +kernel
theorem dX7_house_59 : decode cX7_house 59 = .ok (.if_icmp .ne 17, 3) := by decide +kernel
theorem dX7_house_62 : decode cX7_house 62 = .ok (.aload_n 0, 1) := by decide +kernel
theorem dX7_house_63 : decode cX7_house 63 = .ok (.invokevirtual 225, 3) := by decide +kernel
theorem dX7_house_66 : decode cX7_house 66 = .ok (.aload_n 0, 1) := by decide +kernel
theorem dX7_house_67 : decode cX7_house 67 = .ok (.invokevirtual 243, 3) := by decide +kernel
theorem dX7_house_70 : decode cX7_house 70 = .ok (.iinc 1 1, 3) := by decide +kernel
theorem dX7_house_73 : decode cX7_house 73 = .ok (.goto (-26), 3) := by decide +kernel
theorem dX7_house_76 : decode cX7_house 76 = .ok (.aload_n 0, 1) := by decide +kernel
theorem dX7_house_77 : decode cX7_house 77 = .ok (.aload_n 0, 1) := by decide +kernel
theorem dX7_house_78 : decode cX7_house 78 = .ok (.getfield 221, 3) := by decide +kernel
theorem dX7_house_81 : decode cX7_house 81 = .ok (.ifCond .ne 10, 3) := by decide +kernel
theorem dX7_house_84 : decode cX7_house 84 = .ok (.aload_n 0, 1) := by decide +kernel
theorem dX7_house_85 : decode cX7_house 85 = .ok (.getfield 204, 3) := by decide +kernel
theorem dX7_house_88 : decode cX7_house 88 = .ok (.ifCond .eq 7, 3) := by decide +kernel
theorem dX7_house_91 : decode cX7_house 91 = .ok (.iconst 1, 1) := by decide +kernel
theorem dX7_house_92 : decode cX7_house 92 = .ok (.goto 4, 3) := by decide +kernel
theorem dX7_house_95 : decode cX7_house 95 = .ok (.iconst 0, 1) := by decide +kernel
theorem dX7_house_96 : decode cX7_house 96 = .ok (.putfield 221, 3) := by decide +kernel
theorem dX7_house_99 : decode cX7_house 99 = .ok (.aload_n 0, 1) := by decide +kernel
theorem dX7_house_100 : decode cX7_house 100 = .ok (.iconst 0, 1) := by decide +kernel
theorem dX7_house_101 : decode cX7_house 101 = .ok (.putfield 192, 3) := by decide +kernel
theorem dX7_house_104 : decode cX7_house 104 = .ok (.aload_n 0, 1) := by decide +kernel
theorem dX7_house_105 : decode cX7_house 105 = .ok (.getfield 221, 3) := by decide +kernel
theorem dX7_house_108 : decode cX7_house 108 = .ok (.ifCond .ne 5, 3) := by decide +kernel
theorem dX7_house_111 : decode cX7_house 111 = .ok (.iload_n 1, 1) := by decide +kernel
theorem dX7_house_112 : decode cX7_house 112 = .ok (.ireturn, 1) := by decide +kernel
theorem dX7_house_113 : decode cX7_house 113 = .ok (.iconst 0, 1) := by decide +kernel
theorem dX7_house_114 : decode cX7_house 114 = .ok (.istore_n 2, 1) := by decide +kernel
theorem dX7_house_115 : decode cX7_house 115 = .ok (.iload_n 2, 1) := by decide +kernel
theorem dX7_house_116 : decode cX7_house 116 = .ok (.sipush 216, 3) := by decide +kernel
theorem dX7_house_119 : decode cX7_house 119 = .ok (.if_icmp .ge 21, 3) := by decide +kernel
theorem dX7_house_122 : decode cX7_house 122 = .ok (.aload_n 0, 1) := by decide +kernel
theorem dX7_house_123 : decode cX7_house 123 = .ok (.getfield 7, 3) := by decide +kernel
theorem dX7_house_126 : decode cX7_house 126 = .ok (.iload_n 2, 1) := by decide +kernel
theorem dX7_house_127 : decode cX7_house 127 = .ok (.aload_n 0, 1) := by decide +kernel
theorem dX7_house_128 : decode cX7_house 128 = .ok (.getfield 16, 3) := by decide +kernel
theorem dX7_house_131 : decode cX7_house 131 = .ok (.iload_n 2, 1) := by decide +kernel
theorem dX7_house_132 : decode cX7_house 132 = .ok (.iaload, 1) := by decide +kernel
theorem dX7_house_133 : decode cX7_house 133 = .ok (.iastore, 1) := by decide +kernel
theorem dX7_house_134 : decode cX7_house 134 = .ok (.iinc 2 1, 3) := by decide +kernel
theorem dX7_house_137 : decode cX7_house 137 = .ok (.goto (-22), 3) := by decide +kernel
theorem dX7_house_140 : decode cX7_house 140 = .ok (.iconst (-1), 1) := by decide +kernel
theorem dX7_house_141 : decode cX7_house 141 = .ok (.aload_n 0, 1) := by decide +kernel
theorem dX7_house_142 : decode cX7_house 142 = .ok (.getfield 195, 3) := by decide +kernel
theorem dX7_house_145 : decode cX7_house 145 = .ok (.isub, 1) := by decide +kernel
theorem dX7_house_146 : decode cX7_house 146 = .ok (.ireturn, 1) := by decide +kernel
theorem dX7_isSheet_0 : decode cX7_isSheet 0 = .ok (.iload_n 0, 1) := by decide +kernel
theorem dX7_isSheet_1 : decode cX7_isSheet 1 = .ok (.ifCond .lt 12, 3) := by decide +kernel
theorem dX7_isSheet_4 : decode cX7_isSheet 4 = .ok (.iload_n 0, 1) := by decide +kernel
theorem dX7_isSheet_5 : decode cX7_isSheet 5 = .ok (.iconst 4, 1) := by decide +kernel
theorem dX7_isSheet_6 : decode cX7_isSheet 6 = .ok (.if_icmp .ge 7, 3) := by decide +kernel
theorem dX7_isSheet_9 : decode cX7_isSheet 9 = .ok (.iconst 1, 1) := by decide +kernel
theorem dX7_isSheet_10 : decode cX7_isSheet 10 = .ok (.goto 4, 3) := by decide +kernel
theorem dX7_isSheet_13 : decode cX7_isSheet 13 = .ok (.iconst 0, 1) := by decide +kernel
theorem dX7_isSheet_14 : decode cX7_isSheet 14 = .ok (.ireturn, 1) := by decide +kernel
theorem dX7_narrow_0 : decode cX7_narrow 0 = .ok (.iload_n 0, 1) := by decide +kernel
theorem dX7_narrow_1 : decode cX7_narrow 1 = .ok (.bipush 8, 2) := by decide +kernel
theorem dX7_narrow_3 : decode cX7_narrow 3 = .ok (.if_icmp .ne 10, 3) := by decide +kernel
theorem dX7_narrow_6 : decode cX7_narrow 6 = .ok (.lload_n 1, 1) := by decide +kernel
theorem dX7_narrow_7 : decode cX7_narrow 7 = .ok (.l2i, 1) := by decide +kernel
theorem dX7_narrow_8 : decode cX7_narrow 8 = .ok (.i2b, 1) := by decide +kernel
theorem dX7_narrow_9 : decode cX7_narrow 9 = .ok (.i2l, 1) := by decide +kernel
theorem dX7_narrow_10 : decode cX7_narrow 10 = .ok (.goto 17, 3) := by decide +kernel
theorem dX7_narrow_13 : decode cX7_narrow 13 = .ok (.iload_n 0, 1) := by decide +kernel
theorem dX7_narrow_14 : decode cX7_narrow 14 = .ok (.bipush 16, 2) := by decide +kernel
theorem dX7_narrow_16 : decode cX7_narrow 16 = .ok (.if_icmp .ne 10, 3) := by decide +kernel
theorem dX7_narrow_19 : decode cX7_narrow 19 = .ok (.lload_n 1, 1) := by decide +kernel
theorem dX7_narrow_20 : decode cX7_narrow 20 = .ok (.l2i, 1) := by decide +kernel
theorem dX7_narrow_21 : decode cX7_narrow 21 = .ok (.i2s, 1) := by decide +kernel
theorem dX7_narrow_22 : decode cX7_narrow 22 = .ok (.i2l, 1) := by decide +kernel
theorem dX7_narrow_23 : decode cX7_narrow 23 = .ok (.goto 4, 3) := by decide +kernel
theorem dX7_narrow_26 : decode cX7_narrow 26 = .ok (.lload_n 1, 1) := by decide +kernel
theorem dX7_narrow_27 : decode cX7_narrow 27 = .ok (.lreturn, 1) := by decide +kernel
theorem dX7_sheet_0 : decode cX7_sheet 0 = .ok (.iload_n 1, 1) := by decide +kernel
theorem dX7_sheet_1 : decode cX7_sheet 1 = .ok (.invokestatic 246, 3) := by decide +kernel
theorem dX7_sheet_4 : decode cX7_sheet 4 = .ok (.ifCond .eq 25, 3) := by decide +kernel
theorem dX7_sheet_7 : decode cX7_sheet 7 = .ok (.iload_n 2, 1) := by decide +kernel
theorem dX7_sheet_8 : decode cX7_sheet 8 = .ok (.ifCond .eq 28, 3) := by decide +kernel
theorem dX7_sheet_11 : decode cX7_sheet 11 = .ok (.iload_n 2, 1) := by decide +kernel
theorem dX7_sheet_12 : decode cX7_sheet 12 = .ok (.bipush 8, 2) := by decide +kernel
theorem dX7_sheet_14 : decode cX7_sheet 14 = .ok (.if_icmp .eq 22, 3) := by decide +kernel
theorem dX7_sheet_17 : decode cX7_sheet 17 = .ok (.iload_n 2, 1) := by decide +kernel
theorem dX7_sheet_18 : decode cX7_sheet 18 = .ok (.bipush 16, 2) := by decide +kernel
theorem dX7_sheet_20 : decode cX7_sheet 20 = .ok (.if_icmp .eq 16, 3) := by decide +kernel
theorem dX7_sheet_23 : decode cX7_sheet 23 = .ok (.iload_n 2, 1) := by decide +kernel
theorem dX7_sheet_24 : decode cX7_sheet 24 = .ok (.bipush 64, 2) := by decide +kernel
theorem dX7_sheet_26 : decode cX7_sheet 26 = .ok (.if_icmp .eq 10, 3) := by decide +kernel
theorem dX7_sheet_29 : decode cX7_sheet 29 = .ok (.aload_n 0, 1) := by decide +kernel
theorem dX7_sheet_30 : decode cX7_sheet 30 = .ok (.ldc 54, 2) := by decide +kernel
theorem dX7_sheet_32 : decode cX7_sheet 32 = .ok (.invokevirtual 75, 3) := by decide +kernel
theorem dX7_sheet_35 : decode cX7_sheet 35 = .ok (.ireturn, 1) := by decide +kernel
theorem dX7_sheet_36 : decode cX7_sheet 36 = .ok (.iload_n 3, 1) := by decide +kernel
theorem dX7_sheet_37 : decode cX7_sheet 37 = .ok (.ifCond .ge 10, 3) := by decide +kernel
theorem dX7_sheet_40 : decode cX7_sheet 40 = .ok (.aload_n 0, 1) := by decide +kernel
theorem dX7_sheet_41 : decode cX7_sheet 41 = .ok (.ldc 155, 2) := by decide +kernel
theorem dX7_sheet_43 : decode cX7_sheet 43 = .ok (.invokevirtual 75, 3) := by decide +kernel
theorem dX7_sheet_46 : decode cX7_sheet 46 = .ok (.ireturn, 1) := by decide +kernel
theorem dX7_sheet_47 : decode cX7_sheet 47 = .ok (.iload_n 3, 1) := by decide +kernel
theorem dX7_sheet_48 : decode cX7_sheet 48 = .ok (.bipush 40, 2) := by decide +kernel
theorem dX7_sheet_50 : decode cX7_sheet 50 = .ok (.if_icmp .le 10, 3) := by decide +kernel
theorem dX7_sheet_53 : decode cX7_sheet 53 = .ok (.aload_n 0, 1) := by decide +kernel
theorem dX7_sheet_54 : decode cX7_sheet 54 = .ok (.ldc 54, 2) := by decide +kernel
theorem dX7_sheet_56 : decode cX7_sheet 56 = .ok (.invokevirtual 75, 3) := by decide +kernel
theorem dX7_sheet_59 : decode cX7_sheet 59 = .ok (.ireturn, 1) := by decide +kernel
theorem dX7_sheet_60 : decode cX7_sheet 60 = .ok (.aload_n 0, 1) := by decide +kernel
theorem dX7_sheet_61 : decode cX7_sheet 61 = .ok (.getfield 25, 3) := by decide +kernel
theorem dX7_sheet_64 : decode cX7_sheet 64 = .ok (.iload_n 1, 1) := by decide +kernel
theorem dX7_sheet_65 : decode cX7_sheet 65 = .ok (.iload_n 2, 1) := by decide +kernel
theorem dX7_sheet_66 : decode cX7_sheet 66 = .ok (.ifCond .ne 7, 3) := by decide +kernel
theorem dX7_sheet_69 : decode cX7_sheet 69 = .ok (.iconst (-1), 1) := by decide +kernel
theorem dX7_sheet_70 : decode cX7_sheet 70 = .ok (.goto 4, 3) := by decide +kernel
theorem dX7_sheet_73 : decode cX7_sheet 73 = .ok (.iload_n 2, 1) := by decide +kernel
theorem dX7_sheet_74 : decode cX7_sheet 74 = .ok (.iastore, 1) := by decide +kernel
theorem dX7_sheet_75 : decode cX7_sheet 75 = .ok (.aload_n 0, 1) := by decide +kernel
theorem dX7_sheet_76 : decode cX7_sheet 76 = .ok (.getfield 28, 3) := by decide +kernel
theorem dX7_sheet_79 : decode cX7_sheet 79 = .ok (.iload_n 1, 1) := by decide +kernel
theorem dX7_sheet_80 : decode cX7_sheet 80 = .ok (.iload_n 2, 1) := by decide +kernel
theorem dX7_sheet_81 : decode cX7_sheet 81 = .ok (.ifCond .ne 7, 3) := by decide +kernel
theorem dX7_sheet_84 : decode cX7_sheet 84 = .ok (.iconst 0, 1) := by decide +kernel
theorem dX7_sheet_85 : decode cX7_sheet 85 = .ok (.goto 4, 3) := by decide +kernel
theorem dX7_sheet_88 : decode cX7_sheet 88 = .ok (.iload_n 3, 1) := by decide +kernel
theorem dX7_sheet_89 : decode cX7_sheet 89 = .ok (.iastore, 1) := by decide +kernel
theorem dX7_sheet_90 : decode cX7_sheet 90 = .ok (.iconst 0, 1) := by decide +kernel
theorem dX7_sheet_91 : decode cX7_sheet 91 = .ok (.istore 4, 2) := by decide +kernel
theorem dX7_sheet_93 : decode cX7_sheet 93 = .ok (.iload 4, 2) := by decide +kernel
theorem dX7_sheet_95 : decode cX7_sheet 95 = .ok (.bipush 40, 2) := by decide +kernel
theorem dX7_sheet_97 : decode cX7_sheet 97 = .ok (.if_icmp .ge 22, 3) := by decide +kernel
theorem dX7_sheet_100 : decode cX7_sheet 100 = .ok (.aload_n 0, 1) := by decide +kernel
theorem dX7_sheet_101 : decode cX7_sheet 101 = .ok (.getfield 31, 3) := by decide +kernel
theorem dX7_sheet_104 : decode cX7_sheet 104 = .ok (.bipush 40, 2) := by decide +kernel
theorem dX7_sheet_106 : decode cX7_sheet 106 = .ok (.iload_n 1, 1) := by decide +kernel
theorem dX7_sheet_107 : decode cX7_sheet 107 = .ok (.imul, 1) := by decide +kernel
theorem dX7_sheet_108 : decode cX7_sheet 108 = .ok (.iload 4, 2) := by decide +kernel
theorem dX7_sheet_110 : decode cX7_sheet 110 = .ok (.iadd, 1) := by decide +kernel
theorem dX7_sheet_111 : decode cX7_sheet 111 = .ok (.lconst 0, 1) := by decide +kernel
theorem dX7_sheet_112 : decode cX7_sheet 112 = .ok (.lastore, 1) := by decide +kernel
theorem dX7_sheet_113 : decode cX7_sheet 113 = .ok (.iinc 4 1, 3) := by decide +kernel
theorem dX7_sheet_116 : decode cX7_sheet 116 = .ok (.goto (-23), 3) := by decide +kernel
theorem dX7_sheet_119 : decode cX7_sheet 119 = .ok (.aload_n 0, 1) := by decide +kernel
theorem dX7_sheet_120 : decode cX7_sheet 120 = .ok (.getfield 28, 3) := by decide +kernel
theorem dX7_sheet_123 : decode cX7_sheet 123 = .ok (.iload_n 1, 1) := by decide +kernel
theorem dX7_sheet_124 : decode cX7_sheet 124 = .ok (.iaload, 1) := by decide +kernel
theorem dX7_sheet_125 : decode cX7_sheet 125 = .ok (.ireturn, 1) := by decide +kernel
theorem dX7_write_0 : decode cX7_write 0 = .ok (.iload_n 1, 1) := by decide +kernel
theorem dX7_write_1 : decode cX7_write 1 = .ok (.invokestatic 246, 3) := by decide +kernel
theorem dX7_write_4 : decode cX7_write 4 = .ok (.ifCond .ne 11, 3) := by decide +kernel
theorem dX7_write_7 : decode cX7_write 7 = .ok (.aload_n 0, 1) := by decide +kernel
theorem dX7_write_8 : decode cX7_write 8 = .ok (.ldc 54, 2) := by decide +kernel
theorem dX7_write_10 : decode cX7_write 10 = .ok (.invokevirtual 75, 3) := by decide +kernel
theorem dX7_write_13 : decode cX7_write 13 = .ok (.i2l, 1) := by decide +kernel
theorem dX7_write_14 : decode cX7_write 14 = .ok (.lreturn, 1) := by decide +kernel
theorem dX7_write_15 : decode cX7_write 15 = .ok (.aload_n 0, 1) := by decide +kernel
theorem dX7_write_16 : decode cX7_write 16 = .ok (.getfield 25, 3) := by decide +kernel
theorem dX7_write_19 : decode cX7_write 19 = .ok (.iload_n 1, 1) := by decide +kernel
theorem dX7_write_20 : decode cX7_write 20 = .ok (.iaload, 1) := by decide +kernel
theorem dX7_write_21 : decode cX7_write 21 = .ok (.ifCond .ge 11, 3) := by decide +kernel
theorem dX7_write_24 : decode cX7_write 24 = .ok (.aload_n 0, 1) := by decide +kernel
theorem dX7_write_25 : decode cX7_write 25 = .ok (.ldc 249, 2) := by decide +kernel
theorem dX7_write_27 : decode cX7_write 27 = .ok (.invokevirtual 75, 3) := by decide +kernel
theorem dX7_write_30 : decode cX7_write 30 = .ok (.i2l, 1) := by decide +kernel
theorem dX7_write_31 : decode cX7_write 31 = .ok (.lreturn, 1) := by decide +kernel
theorem dX7_write_32 : decode cX7_write 32 = .ok (.iload_n 2, 1) := by decide +kernel
theorem dX7_write_33 : decode cX7_write 33 = .ok (.i2l, 1) := by decide +kernel
theorem dX7_write_34 : decode cX7_write 34 = .ok (.lconst 0, 1) := by decide +kernel
theorem dX7_write_35 : decode cX7_write 35 = .ok (.aload_n 0, 1) := by decide +kernel
theorem dX7_write_36 : decode cX7_write 36 = .ok (.getfield 28, 3) := by decide +kernel
theorem dX7_write_39 : decode cX7_write 39 = .ok (.iload_n 1, 1) := by decide +kernel
theorem dX7_write_40 : decode cX7_write 40 = .ok (.iaload, 1) := by decide +kernel
theorem dX7_write_41 : decode cX7_write 41 = .ok (.iconst 1, 1) := by decide +kernel
theorem dX7_write_42 : decode cX7_write 42 = .ok (.isub, 1) := by decide +kernel
theorem dX7_write_43 : decode cX7_write 43 = .ok (.i2l, 1) := by decide +kernel
theorem dX7_write_44 : decode cX7_write 44 = .ok (.invokestatic 65, 3) := by decide +kernel
theorem dX7_write_47 : decode cX7_write 47 = .ok (.ifCond .ne 11, 3) := by decide +kernel
theorem dX7_write_50 : decode cX7_write 50 = .ok (.aload_n 0, 1) := by decide +kernel
theorem dX7_write_51 : decode cX7_write 51 = .ok (.ldc 54, 2) := by decide +kernel
theorem dX7_write_53 : decode cX7_write 53 = .ok (.invokevirtual 75, 3) := by decide +kernel
theorem dX7_write_56 : decode cX7_write 56 = .ok (.i2l, 1) := by decide +kernel
theorem dX7_write_57 : decode cX7_write 57 = .ok (.lreturn, 1) := by decide +kernel
theorem dX7_write_58 : decode cX7_write 58 = .ok (.aload_n 0, 1) := by decide +kernel
theorem dX7_write_59 : decode cX7_write 59 = .ok (.getfield 31, 3) := by decide +kernel
theorem dX7_write_62 : decode cX7_write 62 = .ok (.bipush 40, 2) := by decide +kernel
theorem dX7_write_64 : decode cX7_write 64 = .ok (.iload_n 1, 1) := by decide +kernel
theorem dX7_write_65 : decode cX7_write 65 = .ok (.imul, 1) := by decide +kernel
theorem dX7_write_66 : decode cX7_write 66 = .ok (.iload_n 2, 1) := by decide +kernel
theorem dX7_write_67 : decode cX7_write 67 = .ok (.iadd, 1) := by decide +kernel
theorem dX7_write_68 : decode cX7_write 68 = .ok (.laload, 1) := by decide +kernel
theorem dX7_write_69 : decode cX7_write 69 = .ok (.lstore 5, 2) := by decide +kernel
theorem dX7_write_71 : decode cX7_write 71 = .ok (.aload_n 0, 1) := by decide +kernel
theorem dX7_write_72 : decode cX7_write 72 = .ok (.getfield 31, 3) := by decide +kernel
theorem dX7_write_75 : decode cX7_write 75 = .ok (.bipush 40, 2) := by decide +kernel
theorem dX7_write_77 : decode cX7_write 77 = .ok (.iload_n 1, 1) := by decide +kernel
theorem dX7_write_78 : decode cX7_write 78 = .ok (.imul, 1) := by decide +kernel
theorem dX7_write_79 : decode cX7_write 79 = .ok (.iload_n 2, 1) := by decide +kernel
theorem dX7_write_80 : decode cX7_write 80 = .ok (.iadd, 1) := by decide +kernel
theorem dX7_write_81 : decode cX7_write 81 = .ok (.aload_n 0, 1) := by decide +kernel
theorem dX7_write_82 : decode cX7_write 82 = .ok (.getfield 25, 3) := by decide +kernel
theorem dX7_write_85 : decode cX7_write 85 = .ok (.iload_n 1, 1) := by decide +kernel
theorem dX7_write_86 : decode cX7_write 86 = .ok (.iaload, 1) := by decide +kernel
theorem dX7_write_87 : decode cX7_write 87 = .ok (.lload_n 3, 1) := by decide +kernel
theorem dX7_write_88 : decode cX7_write 88 = .ok (.invokestatic 250, 3) := by decide +kernel
theorem dX7_write_91 : decode cX7_write 91 = .ok (.lastore, 1) := by decide +kernel
theorem dX7_write_92 : decode cX7_write 92 = .ok (.lload 5, 2) := by decide +kernel
theorem dX7_write_94 : decode cX7_write 94 = .ok (.lreturn, 1) := by decide +kernel
theorem dX7_copy_0 : decode cX7_copy 0 = .ok (.iload_n 1, 1) := by decide +kernel
theorem dX7_copy_1 : decode cX7_copy 1 = .ok (.invokestatic 246, 3) := by decide +kernel
theorem dX7_copy_4 : decode cX7_copy 4 = .ok (.ifCond .eq 10, 3) := by decide +kernel
theorem dX7_copy_7 : decode cX7_copy 7 = .ok (.iload_n 3, 1) := by decide +kernel
theorem dX7_copy_8 : decode cX7_copy 8 = .ok (.invokestatic 246, 3) := by decide +kernel
theorem dX7_copy_11 : decode cX7_copy 11 = .ok (.ifCond .ne 10, 3) := by decide +kernel
theorem dX7_copy_14 : decode cX7_copy 14 = .ok (.aload_n 0, 1) := by decide +kernel
theorem dX7_copy_15 : decode cX7_copy 15 = .ok (.ldc 54, 2) := by decide +kernel
theorem dX7_copy_17 : decode cX7_copy 17 = .ok (.invokevirtual 75, 3) := by decide +kernel
theorem dX7_copy_20 : decode cX7_copy 20 = .ok (.ireturn, 1) := by decide +kernel
theorem dX7_copy_21 : decode cX7_copy 21 = .ok (.aload_n 0, 1) := by decide +kernel
theorem dX7_copy_22 : decode cX7_copy 22 = .ok (.getfield 25, 3) := by decide +kernel
theorem dX7_copy_25 : decode cX7_copy 25 = .ok (.iload_n 1, 1) := by decide +kernel
theorem dX7_copy_26 : decode cX7_copy 26 = .ok (.iaload, 1) := by decide +kernel
theorem dX7_copy_27 : decode cX7_copy 27 = .ok (.ifCond .lt 12, 3) := by decide +kernel
theorem dX7_copy_30 : decode cX7_copy 30 = .ok (.aload_n 0, 1) := by decide +kernel
theorem dX7_copy_31 : decode cX7_copy 31 = .ok (.getfield 25, 3) := by decide +kernel
theorem dX7_copy_34 : decode cX7_copy 34 = .ok (.iload_n 3, 1) := by decide +kernel
theorem dX7_copy_35 : decode cX7_copy 35 = .ok (.iaload, 1) := by decide +kernel
theorem dX7_copy_36 : decode cX7_copy 36 = .ok (.ifCond .ge 10, 3) := by decide +kernel
theorem dX7_copy_39 : decode cX7_copy 39 = .ok (.aload_n 0, 1) := by decide +kernel
theorem dX7_copy_40 : decode cX7_copy 40 = .ok (.ldc 249, 2) := by decide +kernel
theorem dX7_copy_42 : decode cX7_copy 42 = .ok (.invokevirtual 75, 3) := by decide +kernel
theorem dX7_copy_45 : decode cX7_copy 45 = .ok (.ireturn, 1) := by decide +kernel
theorem dX7_copy_46 : decode cX7_copy 46 = .ok (.aload_n 0, 1) := by decide +kernel
theorem dX7_copy_47 : decode cX7_copy 47 = .ok (.getfield 25, 3) := by decide +kernel
theorem dX7_copy_50 : decode cX7_copy 50 = .ok (.iload_n 1, 1) := by decide +kernel
theorem dX7_copy_51 : decode cX7_copy 51 = .ok (.iaload, 1) := by decide +kernel
theorem dX7_copy_52 : decode cX7_copy 52 = .ok (.aload_n 0, 1) := by decide +kernel
theorem dX7_copy_53 : decode cX7_copy 53 = .ok (.getfield 25, 3) := by decide +kernel
theorem dX7_copy_56 : decode cX7_copy 56 = .ok (.iload_n 3, 1) := by decide +kernel
theorem dX7_copy_57 : decode cX7_copy 57 = .ok (.iaload, 1) := by decide +kernel
theorem dX7_copy_58 : decode cX7_copy 58 = .ok (.if_icmp .eq 10, 3) := by decide +kernel
theorem dX7_copy_61 : decode cX7_copy 61 = .ok (.aload_n 0, 1) := by decide +kernel
theorem dX7_copy_62 : decode cX7_copy 62 = .ok (.ldc 112, 2) := by decide +kernel
theorem dX7_copy_64 : decode cX7_copy 64 = .ok (.invokevirtual 75, 3) := by decide +kernel
theorem dX7_copy_67 : decode cX7_copy 67 = .ok (.ireturn, 1) := by decide +kernel
theorem dX7_copy_68 : decode cX7_copy 68 = .ok (.iload_n 2, 1) := by decide +kernel
theorem dX7_copy_69 : decode cX7_copy 69 = .ok (.ifCond .lt 40, 3) := by decide +kernel
theorem dX7_copy_72 : decode cX7_copy 72 = .ok (.iload 4, 2) := by decide +kernel
theorem dX7_copy_74 : decode cX7_copy 74 = .ok (.ifCond .lt 35, 3) := by decide +kernel
theorem dX7_copy_77 : decode cX7_copy 77 = .ok (.iload 5, 2) := by decide +kernel
theorem dX7_copy_79 : decode cX7_copy 79 = .ok (.ifCond .lt 30, 3) := by decide +kernel
theorem dX7_copy_82 : decode cX7_copy 82 = .ok (.iload 5, 2) := by decide +kernel
theorem dX7_copy_84 : decode cX7_copy 84 = .ok (.aload_n 0, 1) := by decide +kernel
theorem dX7_copy_85 : decode cX7_copy 85 = .ok (.getfield 28, 3) := by decide +kernel
theorem dX7_copy_88 : decode cX7_copy 88 = .ok (.iload_n 1, 1) := by decide +kernel
theorem dX7_copy_89 : decode cX7_copy 89 = .ok (.iaload, 1) := by decide +kernel
theorem dX7_copy_90 : decode cX7_copy 90 = .ok (.iload_n 2, 1) := by decide +kernel
theorem dX7_copy_91 : decode cX7_copy 91 = .ok (.isub, 1) := by decide +kernel
theorem dX7_copy_92 : decode cX7_copy 92 = .ok (.if_icmp .gt 17, 3) := by decide +kernel
theorem dX7_copy_95 : decode cX7_copy 95 = .ok (.iload 5, 2) := by decide +kernel
theorem dX7_copy_97 : decode cX7_copy 97 = .ok (.aload_n 0, 1) := by decide +kernel
theorem dX7_copy_98 : decode cX7_copy 98 = .ok (.getfield 28, 3) := by decide +kernel
theorem dX7_copy_101 : decode cX7_copy 101 = .ok (.iload_n 3, 1) := by decide +kernel
theorem dX7_copy_102 : decode cX7_copy 102 = .ok (.iaload, 1) := by decide +kernel
theorem dX7_copy_103 : decode cX7_copy 103 = .ok (.iload 4, 2) := by decide +kernel
theorem dX7_copy_105 : decode cX7_copy 105 = .ok (.isub, 1) := by decide +kernel
theorem dX7_copy_106 : decode cX7_copy 106 = .ok (.if_icmp .le 10, 3) := by decide +kernel
theorem dX7_copy_109 : decode cX7_copy 109 = .ok (.aload_n 0, 1) := by decide +kernel
theorem dX7_copy_110 : decode cX7_copy 110 = .ok (.ldc 54, 2) := by decide +kernel
theorem dX7_copy_112 : decode cX7_copy 112 = .ok (.invokevirtual 75, 3) := by decide +kernel
theorem dX7_copy_115 : decode cX7_copy 115 = .ok (.ireturn, 1) := by decide +kernel
theorem dX7_copy_116 : decode cX7_copy 116 = .ok (.bipush 40, 2) := by decide +kernel
theorem dX7_copy_118 : decode cX7_copy 118 = .ok (.iload_n 1, 1) := by decide +kernel
theorem dX7_copy_119 : decode cX7_copy 119 = .ok (.imul, 1) := by decide +kernel
theorem dX7_copy_120 : decode cX7_copy 120 = .ok (.iload_n 2, 1) := by decide +kernel
theorem dX7_copy_121 : decode cX7_copy 121 = .ok (.iadd, 1) := by decide +kernel
theorem dX7_copy_122 : decode cX7_copy 122 = .ok (.istore 6, 2) := by decide +kernel
theorem dX7_copy_124 : decode cX7_copy 124 = .ok (.bipush 40, 2) := by decide +kernel
theorem dX7_copy_126 : decode cX7_copy 126 = .ok (.iload_n 3, 1) := by decide +kernel
theorem dX7_copy_127 : decode cX7_copy 127 = .ok (.imul, 1) := by decide +kernel
theorem dX7_copy_128 : decode cX7_copy 128 = .ok (.iload 4, 2) := by decide +kernel
theorem dX7_copy_130 : decode cX7_copy 130 = .ok (.iadd, 1) := by decide +kernel
theorem dX7_copy_131 : decode cX7_copy 131 = .ok (.istore 7, 2) := by decide +kernel
theorem dX7_copy_133 : decode cX7_copy 133 = .ok (.iconst 0, 1) := by decide +kernel
theorem dX7_copy_134 : decode cX7_copy 134 = .ok (.istore 8, 2) := by decide +kernel
theorem dX7_copy_136 : decode cX7_copy 136 = .ok (.iload 8, 2) := by decide +kernel
theorem dX7_copy_138 : decode cX7_copy 138 = .ok (.iload 5, 2) := by decide +kernel
theorem dX7_copy_140 : decode cX7_copy 140 = .ok (.if_icmp .ge 50, 3) := by decide +kernel
theorem dX7_copy_143 : decode cX7_copy 143 = .ok (.iload 6, 2) := by decide +kernel
theorem dX7_copy_145 : decode cX7_copy 145 = .ok (.iload 7, 2) := by decide +kernel
theorem dX7_copy_147 : decode cX7_copy 147 = .ok (.if_icmp .ge 13, 3) := by decide +kernel
theorem dX7_copy_150 : decode cX7_copy 150 = .ok (.iload 5, 2) := by decide +kernel
theorem dX7_copy_152 : decode cX7_copy 152 = .ok (.iconst 1, 1) := by decide +kernel
theorem dX7_copy_153 : decode cX7_copy 153 = .ok (.isub, 1) := by decide +kernel
theorem dX7_copy_154 : decode cX7_copy 154 = .ok (.iload 8, 2) := by decide +kernel
theorem dX7_copy_156 : decode cX7_copy 156 = .ok (.isub, 1) := by decide +kernel
theorem dX7_copy_157 : decode cX7_copy 157 = .ok (.goto 5, 3) := by decide +kernel
theorem dX7_copy_160 : decode cX7_copy 160 = .ok (.iload 8, 2) := by decide +kernel
theorem dX7_copy_162 : decode cX7_copy 162 = .ok (.istore 9, 2) := by decide +kernel
theorem dX7_copy_164 : decode cX7_copy 164 = .ok (.aload_n 0, 1) := by decide +kernel
theorem dX7_copy_165 : decode cX7_copy 165 = .ok (.getfield 31, 3) := by decide +kernel
theorem dX7_copy_168 : decode cX7_copy 168 = .ok (.iload 7, 2) := by decide +kernel
theorem dX7_copy_170 : decode cX7_copy 170 = .ok (.iload 9, 2) := by decide +kernel
theorem dX7_copy_172 : decode cX7_copy 172 = .ok (.iadd, 1) := by decide +kernel
theorem dX7_copy_173 : decode cX7_copy 173 = .ok (.aload_n 0, 1) := by decide +kernel
theorem dX7_copy_174 : decode cX7_copy 174 = .ok (.getfield 31, 3) := by decide +kernel
theorem dX7_copy_177 : decode cX7_copy 177 = .ok (.iload 6, 2) := by decide +kernel
theorem dX7_copy_179 : decode cX7_copy 179 = .ok (.iload 9, 2) := by decide +kernel
theorem dX7_copy_181 : decode cX7_copy 181 = .ok (.iadd, 1) := by decide +kernel
theorem dX7_copy_182 : decode cX7_copy 182 = .ok (.laload, 1) := by decide +kernel
theorem dX7_copy_183 : decode cX7_copy 183 = .ok (.lastore, 1) := by decide +kernel
theorem dX7_copy_184 : decode cX7_copy 184 = .ok (.iinc 8 1, 3) := by decide +kernel
theorem dX7_copy_187 : decode cX7_copy 187 = .ok (.goto (-51), 3) := by decide +kernel
theorem dX7_copy_190 : decode cX7_copy 190 = .ok (.iload 5, 2) := by decide +kernel
theorem dX7_copy_192 : decode cX7_copy 192 = .ok (.ireturn, 1) := by decide +kernel
theorem dX7_lays_0 : decode cX7_lays 0 = .ok (.iload_n 1, 1) := by decide +kernel
theorem dX7_lays_1 : decode cX7_lays 1 = .ok (.invokestatic 246, 3) := by decide +kernel
theorem dX7_lays_4 : decode cX7_lays 4 = .ok (.ifCond .ne 10, 3) := by decide +kernel
theorem dX7_lays_7 : decode cX7_lays 7 = .ok (.aload_n 0, 1) := by decide +kernel
theorem dX7_lays_8 : decode cX7_lays 8 = .ok (.ldc 54, 2) := by decide +kernel
theorem dX7_lays_10 : decode cX7_lays 10 = .ok (.invokevirtual 75, 3) := by decide +kernel
theorem dX7_lays_13 : decode cX7_lays 13 = .ok (.ireturn, 1) := by decide +kernel
theorem dX7_lays_14 : decode cX7_lays 14 = .ok (.aload_n 0, 1) := by decide +kernel
theorem dX7_lays_15 : decode cX7_lays 15 = .ok (.getfield 25, 3) := by decide +kernel
theorem dX7_lays_18 : decode cX7_lays 18 = .ok (.iload_n 1, 1) := by decide +kernel
theorem dX7_lays_19 : decode cX7_lays 19 = .ok (.iaload, 1) := by decide +kernel
theorem dX7_lays_20 : decode cX7_lays 20 = .ok (.ifCond .ge 10, 3) := by decide +kernel
theorem dX7_lays_23 : decode cX7_lays 23 = .ok (.aload_n 0, 1) := by decide +kernel
theorem dX7_lays_24 : decode cX7_lays 24 = .ok (.ldc 249, 2) := by decide +kernel
theorem dX7_lays_26 : decode cX7_lays 26 = .ok (.invokevirtual 75, 3) := by decide +kernel
theorem dX7_lays_29 : decode cX7_lays 29 = .ok (.ireturn, 1) := by decide +kernel
theorem dX7_lays_30 : decode cX7_lays 30 = .ok (.aload_n 0, 1) := by decide +kernel
theorem dX7_lays_31 : decode cX7_lays 31 = .ok (.iload_n 2, 1) := by decide +kernel
theorem dX7_lays_32 : decode cX7_lays 32 = .ok (.i2l, 1) := by decide +kernel
theorem dX7_lays_33 : decode cX7_lays 33 = .ok (.invokevirtual 160, 3) := by decide +kernel
theorem dX7_lays_36 : decode cX7_lays 36 = .ok (.ifCond .ne 10, 3) := by decide +kernel
theorem dX7_lays_39 : decode cX7_lays 39 = .ok (.aload_n 0, 1) := by decide +kernel
theorem dX7_lays_40 : decode cX7_lays 40 = .ok (.ldc 54, 2) := by decide +kernel
theorem dX7_lays_42 : decode cX7_lays 42 = .ok (.invokevirtual 75, 3) := by decide +kernel
theorem dX7_lays_45 : decode cX7_lays 45 = .ok (.ireturn, 1) := by decide +kernel
theorem dX7_lays_46 : decode cX7_lays 46 = .ok (.iconst 0, 1) := by decide +kernel
theorem dX7_lays_47 : decode cX7_lays 47 = .ok (.istore_n 3, 1) := by decide +kernel
theorem dX7_lays_48 : decode cX7_lays 48 = .ok (.iconst 0, 1) := by decide +kernel
theorem dX7_lays_49 : decode cX7_lays 49 = .ok (.istore 4, 2) := by decide +kernel
theorem dX7_lays_51 : decode cX7_lays 51 = .ok (.iload 4, 2) := by decide +kernel
theorem dX7_lays_53 : decode cX7_lays 53 = .ok (.aload_n 0, 1) := by decide +kernel
theorem dX7_lays_54 : decode cX7_lays 54 = .ok (.getfield 28, 3) := by decide +kernel
theorem dX7_lays_57 : decode cX7_lays 57 = .ok (.iload_n 1, 1) := by decide +kernel
theorem dX7_lays_58 : decode cX7_lays 58 = .ok (.iaload, 1) := by decide +kernel
theorem dX7_lays_59 : decode cX7_lays 59 = .ok (.if_icmp .ge 64, 3) := by decide +kernel
theorem dX7_lays_62 : decode cX7_lays 62 = .ok (.iload 4, 2) := by decide +kernel
theorem dX7_lays_64 : decode cX7_lays 64 = .ok (.bipush 12, 2) := by decide +kernel
theorem dX7_lays_66 : decode cX7_lays 66 = .ok (.if_icmp .ge 57, 3) := by decide +kernel
theorem dX7_lays_69 : decode cX7_lays 69 = .ok (.aload_n 0, 1) := by decide +kernel
theorem dX7_lays_70 : decode cX7_lays 70 = .ok (.getfield 31, 3) := by decide +kernel
theorem dX7_lays_73 : decode cX7_lays 73 = .ok (.bipush 40, 2) := by decide +kernel
theorem dX7_lays_75 : decode cX7_lays 75 = .ok (.iload_n 1, 1) := by decide +kernel
theorem dX7_lays_76 : decode cX7_lays 76 = .ok (.imul, 1) := by decide +kernel
theorem dX7_lays_77 : decode cX7_lays 77 = .ok (.iload 4, 2) := by decide +kernel
theorem dX7_lays_79 : decode cX7_lays 79 = .ok (.iadd, 1) := by decide +kernel
theorem dX7_lays_80 : decode cX7_lays 80 = .ok (.laload, 1) := by decide +kernel
theorem dX7_lays_81 : decode cX7_lays 81 = .ok (.lstore 5, 2) := by decide +kernel
theorem dX7_lays_83 : decode cX7_lays 83 = .ok (.lload 5, 2) := by decide +kernel
theorem dX7_lays_85 : decode cX7_lays 85 = .ok (.lconst 0, 1) := by decide +kernel
theorem dX7_lays_86 : decode cX7_lays 86 = .ok (.ldc2_w 71, 3) := by decide +kernel
theorem dX7_lays_89 : decode cX7_lays 89 = .ok (.invokestatic 65, 3) := by decide +kernel
theorem dX7_lays_92 : decode cX7_lays 92 = .ok (.ifCond .eq 25, 3) := by decide +kernel
theorem dX7_lays_95 : decode cX7_lays 95 = .ok (.aload_n 0, 1) := by decide +kernel
theorem dX7_lays_96 : decode cX7_lays 96 = .ok (.getfield 7, 3) := by decide +kernel
theorem dX7_lays_99 : decode cX7_lays 99 = .ok (.sipush 138, 3) := by decide +kernel
theorem dX7_lays_102 : decode cX7_lays 102 = .ok (.bipush 13, 2) := by decide +kernel
theorem dX7_lays_104 : decode cX7_lays 104 = .ok (.iload_n 2, 1) := by decide +kernel
theorem dX7_lays_105 : decode cX7_lays 105 = .ok (.imul, 1) := by decide +kernel
theorem dX7_lays_106 : decode cX7_lays 106 = .ok (.iadd, 1) := by decide +kernel
theorem dX7_lays_107 : decode cX7_lays 107 = .ok (.iload 4, 2) := by decide +kernel
theorem dX7_lays_109 : decode cX7_lays 109 = .ok (.iadd, 1) := by decide +kernel
theorem dX7_lays_110 : decode cX7_lays 110 = .ok (.lload 5, 2) := by decide +kernel
theorem dX7_lays_112 : decode cX7_lays 112 = .ok (.l2i, 1) := by decide +kernel
theorem dX7_lays_113 : decode cX7_lays 113 = .ok (.iastore, 1) := by decide +kernel
theorem dX7_lays_114 : decode cX7_lays 114 = .ok (.iinc 3 1, 3) := by decide +kernel
theorem dX7_lays_117 : decode cX7_lays 117 = .ok (.iinc 4 1, 3) := by decide +kernel
theorem dX7_lays_120 : decode cX7_lays 120 = .ok (.goto (-69), 3) := by decide +kernel
theorem dX7_lays_123 : decode cX7_lays 123 = .ok (.iload_n 3, 1) := by decide +kernel
theorem dX7_lays_124 : decode cX7_lays 124 = .ok (.ireturn, 1) := by decide +kernel
theorem dX7_costs_0 : decode cX7_costs 0 = .ok (.iload_n 1, 1) := by decide +kernel
theorem dX7_costs_1 : decode cX7_costs 1 = .ok (.invokestatic 246, 3) := by decide +kernel
theorem dX7_costs_4 : decode cX7_costs 4 = .ok (.ifCond .ne 10, 3) := by decide +kernel
theorem dX7_costs_7 : decode cX7_costs 7 = .ok (.aload_n 0, 1) := by decide +kernel
theorem dX7_costs_8 : decode cX7_costs 8 = .ok (.ldc 54, 2) := by decide +kernel
theorem dX7_costs_10 : decode cX7_costs 10 = .ok (.invokevirtual 75, 3) := by decide +kernel
theorem dX7_costs_13 : decode cX7_costs 13 = .ok (.ireturn, 1) := by decide +kernel
theorem dX7_costs_14 : decode cX7_costs 14 = .ok (.aload_n 0, 1) := by decide +kernel
theorem dX7_costs_15 : decode cX7_costs 15 = .ok (.getfield 25, 3) := by decide +kernel
theorem dX7_costs_18 : decode cX7_costs 18 = .ok (.iload_n 1, 1) := by decide +kernel
theorem dX7_costs_19 : decode cX7_costs 19 = .ok (.iaload, 1) := by decide +kernel
theorem dX7_costs_20 : decode cX7_costs 20 = .ok (.ifCond .ge 10, 3) := by decide +kernel
theorem dX7_costs_23 : decode cX7_costs 23 = .ok (.aload_n 0, 1) := by decide +kernel
theorem dX7_costs_24 : decode cX7_costs 24 = .ok (.ldc 249, 2) := by decide +kernel
theorem dX7_costs_26 : decode cX7_costs 26 = .ok (.invokevirtual 75, 3) := by decide +kernel
theorem dX7_costs_29 : decode cX7_costs 29 = .ok (.ireturn, 1) := by decide +kernel
theorem dX7_costs_30 : decode cX7_costs 30 = .ok (.iload_n 2, 1) := by decide +kernel
theorem dX7_costs_31 : decode cX7_costs 31 = .ok (.i2l, 1) := by decide +kernel
theorem dX7_costs_32 : decode cX7_costs 32 = .ok (.lconst 0, 1) := by decide +kernel
theorem dX7_costs_33 : decode cX7_costs 33 = .ok (.ldc2_w 164, 3) := by decide +kernel
theorem dX7_costs_36 : decode cX7_costs 36 = .ok (.invokestatic 65, 3) := by decide +kernel
theorem dX7_costs_39 : decode cX7_costs 39 = .ok (.ifCond .ne 10, 3) := by decide +kernel
theorem dX7_costs_42 : decode cX7_costs 42 = .ok (.aload_n 0, 1) := by decide +kernel
theorem dX7_costs_43 : decode cX7_costs 43 = .ok (.ldc 54, 2) := by decide +kernel
theorem dX7_costs_45 : decode cX7_costs 45 = .ok (.invokevirtual 75, 3) := by decide +kernel
theorem dX7_costs_48 : decode cX7_costs 48 = .ok (.ireturn, 1) := by decide +kernel
theorem dX7_costs_49 : decode cX7_costs 49 = .ok (.iconst 0, 1) := by decide +kernel
theorem dX7_costs_50 : decode cX7_costs 50 = .ok (.istore_n 3, 1) := by decide +kernel
theorem dX7_costs_51 : decode cX7_costs 51 = .ok (.iconst (-1), 1) := by decide +kernel
theorem dX7_costs_52 : decode cX7_costs 52 = .ok (.istore 4, 2) := by decide +kernel
theorem dX7_costs_54 : decode cX7_costs 54 = .ok (.iconst 0, 1) := by decide +kernel
theorem dX7_costs_55 : decode cX7_costs 55 = .ok (.istore 5, 2) := by decide +kernel
theorem dX7_costs_57 : decode cX7_costs 57 = .ok (.iconst 0, 1) := by decide +kernel
theorem dX7_costs_58 : decode cX7_costs 58 = .ok (.istore 6, 2) := by decide +kernel
theorem dX7_costs_60 : decode cX7_costs 60 = .ok (.iload 6, 2) := by decide +kernel
theorem dX7_costs_62 : decode cX7_costs 62 = .ok (.aload_n 0, 1) := by decide +kernel
theorem dX7_costs_63 : decode cX7_costs 63 = .ok (.getfield 28, 3) := by decide +kernel
theorem dX7_costs_66 : decode cX7_costs 66 = .ok (.iload_n 1, 1) := by decide +kernel
theorem dX7_costs_67 : decode cX7_costs 67 = .ok (.iaload, 1) := by decide +kernel
theorem dX7_costs_68 : decode cX7_costs 68 = .ok (.if_icmp .ge 117, 3) := by decide +kernel
theorem dX7_costs_71 : decode cX7_costs 71 = .ok (.aload_n 0, 1) := by decide +kernel
theorem dX7_costs_72 : decode cX7_costs 72 = .ok (.getfield 31, 3) := by decide +kernel
theorem dX7_costs_75 : decode cX7_costs 75 = .ok (.bipush 40, 2) := by decide +kernel
theorem dX7_costs_77 : decode cX7_costs 77 = .ok (.iload_n 1, 1) := by decide +kernel
theorem dX7_costs_78 : decode cX7_costs 78 = .ok (.imul, 1) := by decide +kernel
theorem dX7_costs_79 : decode cX7_costs 79 = .ok (.iload 6, 2) := by decide +kernel
theorem dX7_costs_81 : decode cX7_costs 81 = .ok (.iadd, 1) := by decide +kernel
theorem dX7_costs_82 : decode cX7_costs 82 = .ok (.laload, 1) := by decide +kernel
theorem dX7_costs_83 : decode cX7_costs 83 = .ok (.lstore 7, 2) := by decide +kernel
theorem dX7_costs_85 : decode cX7_costs 85 = .ok (.aload_n 0, 1) := by decide +kernel
theorem dX7_costs_86 : decode cX7_costs 86 = .ok (.lload 7, 2) := by decide +kernel
theorem dX7_costs_88 : decode cX7_costs 88 = .ok (.invokevirtual 160, 3) := by decide +kernel
theorem dX7_costs_91 : decode cX7_costs 91 = .ok (.ifCond .ne 10, 3) := by decide +kernel
theorem dX7_costs_94 : decode cX7_costs 94 = .ok (.aload_n 0, 1) := by decide +kernel
theorem dX7_costs_95 : decode cX7_costs 95 = .ok (.ldc 112, 2) := by decide +kernel
theorem dX7_costs_97 : decode cX7_costs 97 = .ok (.invokevirtual 75, 3) := by decide +kernel
theorem dX7_costs_100 : decode cX7_costs 100 = .ok (.ireturn, 1) := by decide +kernel
theorem dX7_costs_101 : decode cX7_costs 101 = .ok (.lload 7, 2) := by decide +kernel
theorem dX7_costs_103 : decode cX7_costs 103 = .ok (.l2i, 1) := by decide +kernel
theorem dX7_costs_104 : decode cX7_costs 104 = .ok (.istore 9, 2) := by decide +kernel
theorem dX7_costs_106 : decode cX7_costs 106 = .ok (.iload_n 3, 1) := by decide +kernel
theorem dX7_costs_107 : decode cX7_costs 107 = .ok (.iload 4, 2) := by decide +kernel
theorem dX7_costs_109 : decode cX7_costs 109 = .ok (.ifCond .lt 21, 3) := by decide +kernel
theorem dX7_costs_112 : decode cX7_costs 112 = .ok (.iload 9, 2) := by decide +kernel
theorem dX7_costs_114 : decode cX7_costs 114 = .ok (.iload 4, 2) := by decide +kernel
theorem dX7_costs_116 : decode cX7_costs 116 = .ok (.if_icmp .eq 14, 3) := by decide +kernel
theorem dX7_costs_119 : decode cX7_costs 119 = .ok (.aload_n 0, 1) := by decide +kernel
theorem dX7_costs_120 : decode cX7_costs 120 = .ok (.iload 4, 2) := by decide +kernel
theorem dX7_costs_122 : decode cX7_costs 122 = .ok (.iload 9, 2) := by decide +kernel
theorem dX7_costs_124 : decode cX7_costs 124 = .ok (.invokevirtual 172, 3) := by decide +kernel
theorem dX7_costs_127 : decode cX7_costs 127 = .ok (.goto 4, 3) := by decide +kernel
theorem dX7_costs_130 : decode cX7_costs 130 = .ok (.iconst 0, 1) := by decide +kernel
theorem dX7_costs_131 : decode cX7_costs 131 = .ok (.iadd, 1) := by decide +kernel
theorem dX7_costs_132 : decode cX7_costs 132 = .ok (.istore_n 3, 1) := by decide +kernel
theorem dX7_costs_133 : decode cX7_costs 133 = .ok (.iload 9, 2) := by decide +kernel
theorem dX7_costs_135 : decode cX7_costs 135 = .ok (.iload 4, 2) := by decide +kernel
theorem dX7_costs_137 : decode cX7_costs 137 = .ok (.if_icmp .eq 7, 3) := by decide +kernel
theorem dX7_costs_140 : decode cX7_costs 140 = .ok (.iconst 1, 1) := by decide +kernel
theorem dX7_costs_141 : decode cX7_costs 141 = .ok (.goto 17, 3) := by decide +kernel
theorem dX7_costs_144 : decode cX7_costs 144 = .ok (.iload 5, 2) := by decide +kernel
theorem dX7_costs_146 : decode cX7_costs 146 = .ok (.iconst 3, 1) := by decide +kernel
theorem dX7_costs_147 : decode cX7_costs 147 = .ok (.if_icmp .ge 10, 3) := by decide +kernel
theorem dX7_costs_150 : decode cX7_costs 150 = .ok (.iload 5, 2) := by decide +kernel
theorem dX7_costs_152 : decode cX7_costs 152 = .ok (.iconst 1, 1) := by decide +kernel
theorem dX7_costs_153 : decode cX7_costs 153 = .ok (.iadd, 1) := by decide +kernel
theorem dX7_costs_154 : decode cX7_costs 154 = .ok (.goto 4, 3) := by decide +kernel
theorem dX7_costs_157 : decode cX7_costs 157 = .ok (.iconst 3, 1) := by decide +kernel
theorem dX7_costs_158 : decode cX7_costs 158 = .ok (.istore 5, 2) := by decide +kernel
theorem dX7_costs_160 : decode cX7_costs 160 = .ok (.iload 9, 2) := by decide +kernel
theorem dX7_costs_162 : decode cX7_costs 162 = .ok (.istore 4, 2) := by decide +kernel
theorem dX7_costs_164 : decode cX7_costs 164 = .ok (.iload_n 3, 1) := by decide +kernel
theorem dX7_costs_165 : decode cX7_costs 165 = .ok (.aload_n 0, 1) := by decide +kernel
theorem dX7_costs_166 : decode cX7_costs 166 = .ok (.iload 9, 2) := by decide +kernel
theorem dX7_costs_168 : decode cX7_costs 168 = .ok (.iload_n 2, 1) := by decide +kernel
theorem dX7_costs_169 : decode cX7_costs 169 = .ok (.iload 6, 2) := by decide +kernel
theorem dX7_costs_171 : decode cX7_costs 171 = .ok (.iadd, 1) := by decide +kernel
theorem dX7_costs_172 : decode cX7_costs 172 = .ok (.iload 5, 2) := by decide +kernel
theorem dX7_costs_174 : decode cX7_costs 174 = .ok (.invokevirtual 182, 3) := by decide +kernel
theorem dX7_costs_177 : decode cX7_costs 177 = .ok (.iadd, 1) := by decide +kernel
theorem dX7_costs_178 : decode cX7_costs 178 = .ok (.istore_n 3, 1) := by decide +kernel
theorem dX7_costs_179 : decode cX7_costs 179 = .ok (.iinc 6 1, 3) := by decide +kernel
theorem dX7_costs_182 : decode cX7_costs 182 = .ok (.goto (-122), 3) := by decide +kernel
theorem dX7_costs_185 : decode cX7_costs 185 = .ok (.iload_n 3, 1) := by decide +kernel
theorem dX7_costs_186 : decode cX7_costs 186 = .ok (.ireturn, 1) := by decide +kernel
theorem dX7_read_0 : decode cX7_read 0 = .ok (.iload_n 1, 1) := by decide +kernel
theorem dX7_read_1 : decode cX7_read 1 = .ok (.invokestatic 246, 3) := by decide +kernel
theorem dX7_read_4 : decode cX7_read 4 = .ok (.ifCond .ne 10, 3) := by decide +kernel
theorem dX7_read_7 : decode cX7_read 7 = .ok (.aload_n 0, 1) := by decide +kernel
theorem dX7_read_8 : decode cX7_read 8 = .ok (.ldc 54, 2) := by decide +kernel
theorem dX7_read_10 : decode cX7_read 10 = .ok (.invokevirtual 75, 3) := by decide +kernel
theorem dX7_read_13 : decode cX7_read 13 = .ok (.ireturn, 1) := by decide +kernel
theorem dX7_read_14 : decode cX7_read 14 = .ok (.aload_n 0, 1) := by decide +kernel
theorem dX7_read_15 : decode cX7_read 15 = .ok (.getfield 25, 3) := by decide +kernel
theorem dX7_read_18 : decode cX7_read 18 = .ok (.iload_n 1, 1) := by decide +kernel
theorem dX7_read_19 : decode cX7_read 19 = .ok (.iaload, 1) := by decide +kernel
theorem dX7_read_20 : decode cX7_read 20 = .ok (.ifCond .ge 10, 3) := by decide +kernel
theorem dX7_read_23 : decode cX7_read 23 = .ok (.aload_n 0, 1) := by decide +kernel
theorem dX7_read_24 : decode cX7_read 24 = .ok (.ldc 249, 2) := by decide +kernel
theorem dX7_read_26 : decode cX7_read 26 = .ok (.invokevirtual 75, 3) := by decide +kernel
theorem dX7_read_29 : decode cX7_read 29 = .ok (.ireturn, 1) := by decide +kernel
theorem dX7_read_30 : decode cX7_read 30 = .ok (.iconst 0, 1) := by decide +kernel
theorem dX7_read_31 : decode cX7_read 31 = .ok (.istore_n 2, 1) := by decide +kernel
theorem dX7_read_32 : decode cX7_read 32 = .ok (.iload_n 2, 1) := by decide +kernel
theorem dX7_read_33 : decode cX7_read 33 = .ok (.aload_n 0, 1) := by decide +kernel
theorem dX7_read_34 : decode cX7_read 34 = .ok (.getfield 28, 3) := by decide +kernel
theorem dX7_read_37 : decode cX7_read 37 = .ok (.iload_n 1, 1) := by decide +kernel
theorem dX7_read_38 : decode cX7_read 38 = .ok (.iaload, 1) := by decide +kernel
theorem dX7_read_39 : decode cX7_read 39 = .ok (.if_icmp .ge 40, 3) := by decide +kernel
theorem dX7_read_42 : decode cX7_read 42 = .ok (.iload_n 2, 1) := by decide +kernel
theorem dX7_read_43 : decode cX7_read 43 = .ok (.bipush 8, 2) := by decide +kernel
theorem dX7_read_45 : decode cX7_read 45 = .ok (.if_icmp .ge 24, 3) := by decide +kernel
theorem dX7_read_48 : decode cX7_read 48 = .ok (.aload_n 0, 1) := by decide +kernel
theorem dX7_read_49 : decode cX7_read 49 = .ok (.getfield 31, 3) := by decide +kernel
theorem dX7_read_52 : decode cX7_read 52 = .ok (.bipush 40, 2) := by decide +kernel
theorem dX7_read_54 : decode cX7_read 54 = .ok (.iload_n 1, 1) := by decide +kernel
theorem dX7_read_55 : decode cX7_read 55 = .ok (.imul, 1) := by decide +kernel
theorem dX7_read_56 : decode cX7_read 56 = .ok (.iload_n 2, 1) := by decide +kernel
theorem dX7_read_57 : decode cX7_read 57 = .ok (.iadd, 1) := by decide +kernel
theorem dX7_read_58 : decode cX7_read 58 = .ok (.laload, 1) := by decide +kernel
theorem dX7_read_59 : decode cX7_read 59 = .ok (.aload_n 0, 1) := by decide +kernel
theorem dX7_read_60 : decode cX7_read 60 = .ok (.iload_n 2, 1) := by decide +kernel
theorem dX7_read_61 : decode cX7_read 61 = .ok (.invokevirtual 127, 3) := by decide +kernel
theorem dX7_read_64 : decode cX7_read 64 = .ok (.i2l, 1) := by decide +kernel
theorem dX7_read_65 : decode cX7_read 65 = .ok (.lcmp, 1) := by decide +kernel
theorem dX7_read_66 : decode cX7_read 66 = .ok (.ifCond .eq 7, 3) := by decide +kernel
theorem dX7_read_69 : decode cX7_read 69 = .ok (.iload_n 2, 1) := by decide +kernel
theorem dX7_read_70 : decode cX7_read 70 = .ok (.iconst 1, 1) := by decide +kernel
theorem dX7_read_71 : decode cX7_read 71 = .ok (.iadd, 1) := by decide +kernel
theorem dX7_read_72 : decode cX7_read 72 = .ok (.ireturn, 1) := by decide +kernel
theorem dX7_read_73 : decode cX7_read 73 = .ok (.iinc 2 1, 3) := by decide +kernel
theorem dX7_read_76 : decode cX7_read 76 = .ok (.goto (-44), 3) := by decide +kernel
theorem dX7_read_79 : decode cX7_read 79 = .ok (.iconst 0, 1) := by decide +kernel
theorem dX7_read_80 : decode cX7_read 80 = .ok (.ireturn, 1) := by decide +kernel
theorem dX7_image_0 : decode cX7_image 0 = .ok (.iconst 0, 1) := by decide +kernel
theorem dX7_image_1 : decode cX7_image 1 = .ok (.istore_n 1, 1) := by decide +kernel
theorem dX7_image_2 : decode cX7_image 2 = .ok (.iload_n 1, 1) := by decide +kernel
theorem dX7_image_3 : decode cX7_image 3 = .ok (.sipush 216, 3) := by decide +kernel
theorem dX7_image_6 : decode cX7_image 6 = .ok (.if_icmp .ge 21, 3) := by decide +kernel
theorem dX7_image_9 : decode cX7_image 9 = .ok (.aload_n 0, 1) := by decide +kernel
theorem dX7_image_10 : decode cX7_image 10 = .ok (.getfield 13, 3) := by decide +kernel
theorem dX7_image_13 : decode cX7_image 13 = .ok (.iload_n 1, 1) := by decide +kernel
theorem dX7_image_14 : decode cX7_image 14 = .ok (.aload_n 0, 1) := by decide +kernel
theorem dX7_image_15 : decode cX7_image 15 = .ok (.getfield 7, 3) := by decide +kernel
theorem dX7_image_18 : decode cX7_image 18 = .ok (.iload_n 1, 1) := by decide +kernel
theorem dX7_image_19 : decode cX7_image 19 = .ok (.iaload, 1) := by decide +kernel
theorem dX7_image_20 : decode cX7_image 20 = .ok (.iastore, 1) := by decide +kernel
theorem dX7_image_21 : decode cX7_image 21 = .ok (.iinc 1 1, 3) := by decide +kernel
theorem dX7_image_24 : decode cX7_image 24 = .ok (.goto (-22), 3) := by decide +kernel
theorem dX7_image_27 : decode cX7_image 27 = .ok (.aload_n 0, 1) := by decide +kernel
theorem dX7_image_28 : decode cX7_image 28 = .ok (.iconst 1, 1) := by decide +kernel
theorem dX7_image_29 : decode cX7_image 29 = .ok (.putfield 254, 3) := by decide +kernel
theorem dX7_image_32 : decode cX7_image 32 = .ok (.iconst 1, 1) := by decide +kernel
theorem dX7_image_33 : decode cX7_image 33 = .ok (.ireturn, 1) := by decide +kernel
theorem dX7_undo_0 : decode cX7_undo 0 = .ok (.aload_n 0, 1) := by decide +kernel
theorem dX7_undo_1 : decode cX7_undo 1 = .ok (.getfield 254, 3) := by decide +kernel
theorem dX7_undo_4 : decode cX7_undo 4 = .ok (.ifCond .ne 10, 3) := by decide +kernel
theorem dX7_undo_7 : decode cX7_undo 7 = .ok (.aload_n 0, 1) := by decide +kernel
theorem dX7_undo_8 : decode cX7_undo 8 = .ok (.ldc 138, 2) := by decide +kernel
theorem dX7_undo_10 : decode cX7_undo 10 = .ok (.invokevirtual 75, 3) := by decide +kernel
theorem dX7_undo_13 : decode cX7_undo 13 = .ok (.ireturn, 1) := by decide +kernel
theorem dX7_undo_14 : decode cX7_undo 14 = .ok (.iconst 0, 1) := by decide +kernel
theorem dX7_undo_15 : decode cX7_undo 15 = .ok (.istore_n 1, 1) := by decide +kernel
theorem dX7_undo_16 : decode cX7_undo 16 = .ok (.iload_n 1, 1) := by decide +kernel
theorem dX7_undo_17 : decode cX7_undo 17 = .ok (.sipush 216, 3) := by decide +kernel
theorem dX7_undo_20 : decode cX7_undo 20 = .ok (.if_icmp .ge 21, 3) := by decide +kernel
theorem dX7_undo_23 : decode cX7_undo 23 = .ok (.aload_n 0, 1) := by decide +kernel
theorem dX7_undo_24 : decode cX7_undo 24 = .ok (.getfield 7, 3) := by decide +kernel
theorem dX7_undo_27 : decode cX7_undo 27 = .ok (.iload_n 1, 1) := by decide +kernel
theorem dX7_undo_28 : decode cX7_undo 28 = .ok (.aload_n 0, 1) := by decide +kernel
theorem dX7_undo_29 : decode cX7_undo 29 = .ok (.getfield 13, 3) := by decide +kernel
theorem dX7_undo_32 : decode cX7_undo 32 = .ok (.iload_n 1, 1) := by decide +kernel
theorem dX7_undo_33 : decode cX7_undo 33 = .ok (.iaload, 1) := by decide +kernel
theorem dX7_undo_34 : decode cX7_undo 34 = .ok (.iastore, 1) := by decide +kernel
theorem dX7_undo_35 : decode cX7_undo 35 = .ok (.iinc 1 1, 3) := by decide +kernel
theorem dX7_undo_38 : decode cX7_undo 38 = .ok (.goto (-22), 3) := by decide +kernel
theorem dX7_undo_41 : decode cX7_undo 41 = .ok (.aload_n 0, 1) := by decide +kernel
theorem dX7_undo_42 : decode cX7_undo 42 = .ok (.getfield 7, 3) := by decide +kernel
theorem dX7_undo_45 : decode cX7_undo 45 = .ok (.iconst 0, 1) := by decide +kernel
theorem dX7_undo_46 : decode cX7_undo 46 = .ok (.iaload, 1) := by decide +kernel
theorem dX7_undo_47 : decode cX7_undo 47 = .ok (.ireturn, 1) := by decide +kernel
theorem dX7_tear_0 : decode cX7_tear 0 = .ok (.aload_n 0, 1) := by decide +kernel
theorem dX7_tear_1 : decode cX7_tear 1 = .ok (.getfield 254, 3) := by decide +kernel
theorem dX7_tear_4 : decode cX7_tear 4 = .ok (.istore_n 1, 1) := by decide +kernel
theorem dX7_tear_5 : decode cX7_tear 5 = .ok (.aload_n 0, 1) := by decide +kernel
theorem dX7_tear_6 : decode cX7_tear 6 = .ok (.iconst 0, 1) := by decide +kernel
theorem dX7_tear_7 : decode cX7_tear 7 = .ok (.putfield 254, 3) := by decide +kernel
theorem dX7_tear_10 : decode cX7_tear 10 = .ok (.iload_n 1, 1) := by decide +kernel
theorem dX7_tear_11 : decode cX7_tear 11 = .ok (.ifCond .eq 7, 3) := by decide +kernel
theorem dX7_tear_14 : decode cX7_tear 14 = .ok (.iconst 1, 1) := by decide +kernel
theorem dX7_tear_15 : decode cX7_tear 15 = .ok (.goto 4, 3) := by decide +kernel
theorem dX7_tear_18 : decode cX7_tear 18 = .ok (.iconst 0, 1) := by decide +kernel
theorem dX7_tear_19 : decode cX7_tear 19 = .ok (.ireturn, 1) := by decide +kernel
theorem dX7_ofThere_0 : decode cX7_ofThere 0 = .ok (.iconst 0, 1) := by decide +kernel
theorem dX7_ofThere_1 : decode cX7_ofThere 1 = .ok (.istore_n 2, 1) := by decide +kernel
theorem dX7_ofThere_2 : decode cX7_ofThere 2 = .ok (.iconst 0, 1) := by decide +kernel
theorem dX7_ofThere_3 : decode cX7_ofThere 3 = .ok (.istore_n 3, 1) := by decide +kernel
theorem dX7_ofThere_4 : decode cX7_ofThere 4 = .ok (.iload_n 3, 1) := by decide +kernel
theorem dX7_ofThere_5 : decode cX7_ofThere 5 = .ok (.aload_n 0, 1) := by decide +kernel
theorem dX7_ofThere_6 : decode cX7_ofThere 6 = .ok (.getfield 7, 3) := by decide +kernel
theorem dX7_ofThere_9 : decode cX7_ofThere 9 = .ok (.iconst 0, 1) := by decide +kernel
theorem dX7_ofThere_10 : decode cX7_ofThere 10 = .ok (.iaload, 1) := by decide +kernel
theorem dX7_ofThere_11 : decode cX7_ofThere 11 = .ok (.if_icmp .ge 38, 3) := by decide +kernel
theorem dX7_ofThere_14 : decode cX7_ofThere 14 = .ok (.iload_n 2, 1) := by decide +kernel
theorem dX7_ofThere_15 : decode cX7_ofThere 15 = .ok (.aload_n 0, 1) := by decide +kernel
theorem dX7_ofThere_16 : decode cX7_ofThere 16 = .ok (.iload_n 3, 1) := by decide +kernel
theorem dX7_ofThere_17 : decode cX7_ofThere 17 = .ok (.invokevirtual 84, 3) := by decide +kernel
theorem dX7_ofThere_20 : decode cX7_ofThere 20 = .ok (.ifCond .ne 7, 3) := by decide +kernel
theorem dX7_ofThere_23 : decode cX7_ofThere 23 = .ok (.iconst 0, 1) := by decide +kernel
theorem dX7_ofThere_24 : decode cX7_ofThere 24 = .ok (.goto 17, 3) := by decide +kernel
theorem dX7_ofThere_27 : decode cX7_ofThere 27 = .ok (.iload_n 1, 1) := by decide +kernel
theorem dX7_ofThere_28 : decode cX7_ofThere 28 = .ok (.ifCond .eq 12, 3) := by decide +kernel
theorem dX7_ofThere_31 : decode cX7_ofThere 31 = .ok (.aload_n 0, 1) := by decide +kernel
theorem dX7_ofThere_32 : decode cX7_ofThere 32 = .ok (.iload_n 3, 1) := by decide +kernel
theorem dX7_ofThere_33 : decode cX7_ofThere 33 = .ok (.iconst 3, 1) := by decide +kernel
theorem dX7_ofThere_34 : decode cX7_ofThere 34 = .ok (.invokevirtual 55, 3) := by decide +kernel
theorem dX7_ofThere_37 : decode cX7_ofThere 37 = .ok (.goto 4, 3) := by decide +kernel
theorem dX7_ofThere_40 : decode cX7_ofThere 40 = .ok (.iconst 1, 1) := by decide +kernel
theorem dX7_ofThere_41 : decode cX7_ofThere 41 = .ok (.iadd, 1) := by decide +kernel
theorem dX7_ofThere_42 : decode cX7_ofThere 42 = .ok (.istore_n 2, 1) := by decide +kernel
theorem dX7_ofThere_43 : decode cX7_ofThere 43 = .ok (.iinc 3 1, 3) := by decide +kernel
theorem dX7_ofThere_46 : decode cX7_ofThere 46 = .ok (.goto (-42), 3) := by decide +kernel
theorem dX7_ofThere_49 : decode cX7_ofThere 49 = .ok (.iload_n 2, 1) := by decide +kernel
theorem dX7_ofThere_50 : decode cX7_ofThere 50 = .ok (.ireturn, 1) := by decide +kernel
theorem dX7_count_0 : decode cX7_count 0 = .ok (.iload_n 1, 1) := by decide +kernel
theorem dX7_count_1 : decode cX7_count 1 = .ok (.tableswitch 89 0 6 #[43, 50, 56, 63, 70, 75, 81], 43) := by decide +kernel
theorem dX7_count_44 : decode cX7_count 44 = .ok (.aload_n 0, 1) := by decide +kernel
theorem dX7_count_45 : decode cX7_count 45 = .ok (.getfield 7, 3) := by decide +kernel
theorem dX7_count_48 : decode cX7_count 48 = .ok (.iconst 0, 1) := by decide +kernel
theorem dX7_count_49 : decode cX7_count 49 = .ok (.iaload, 1) := by decide +kernel
theorem dX7_count_50 : decode cX7_count 50 = .ok (.ireturn, 1) := by decide +kernel
theorem dX7_count_51 : decode cX7_count 51 = .ok (.aload_n 0, 1) := by decide +kernel
theorem dX7_count_52 : decode cX7_count 52 = .ok (.iconst 0, 1) := by decide +kernel
theorem dX7_count_53 : decode cX7_count 53 = .ok (.invokevirtual 257, 3) := by decide +kernel
theorem dX7_count_56 : decode cX7_count 56 = .ok (.ireturn, 1) := by decide +kernel
theorem dX7_count_57 : decode cX7_count 57 = .ok (.aload_n 0, 1) := by decide +kernel
theorem dX7_count_58 : decode cX7_count 58 = .ok (.getfield 7, 3) := by decide +kernel
theorem dX7_count_61 : decode cX7_count 61 = .ok (.iconst 1, 1) := by decide +kernel
theorem dX7_count_62 : decode cX7_count 62 = .ok (.iaload, 1) := by decide +kernel
theorem dX7_count_63 : decode cX7_count 63 = .ok (.ireturn, 1) := by decide +kernel
theorem dX7_count_64 : decode cX7_count 64 = .ok (.aload_n 0, 1) := by decide +kernel
theorem dX7_count_65 : decode cX7_count 65 = .ok (.getfield 7, 3) := by decide +kernel
theorem dX7_count_68 : decode cX7_count 68 = .ok (.iconst 2, 1) := by decide +kernel
theorem dX7_count_69 : decode cX7_count 69 = .ok (.iaload, 1) := by decide +kernel
theorem dX7_count_70 : decode cX7_count 70 = .ok (.ireturn, 1) := by decide +kernel
theorem dX7_count_71 : decode cX7_count 71 = .ok (.aload_n 0, 1) := by decide +kernel
theorem dX7_count_72 : decode cX7_count 72 = .ok (.getfield 192, 3) := by decide +kernel
theorem dX7_count_75 : decode cX7_count 75 = .ok (.ireturn, 1) := by decide +kernel
theorem dX7_count_76 : decode cX7_count 76 = .ok (.aload_n 0, 1) := by decide +kernel
theorem dX7_count_77 : decode cX7_count 77 = .ok (.iconst 1, 1) := by decide +kernel
theorem dX7_count_78 : decode cX7_count 78 = .ok (.invokevirtual 257, 3) := by decide +kernel
theorem dX7_count_81 : decode cX7_count 81 = .ok (.ireturn, 1) := by decide +kernel
theorem dX7_count_82 : decode cX7_count 82 = .ok (.aload_n 0, 1) := by decide +kernel
theorem dX7_count_83 : decode cX7_count 83 = .ok (.getfield 7, 3) := by decide +kernel
theorem dX7_count_86 : decode cX7_count 86 = .ok (.bipush 8, 2) := by decide +kernel
theorem dX7_count_88 : decode cX7_count 88 = .ok (.iaload, 1) := by decide +kernel
theorem dX7_count_89 : decode cX7_count 89 = .ok (.ireturn, 1) := by decide +kernel
theorem dX7_count_90 : decode cX7_count 90 = .ok (.aload_n 0, 1) := by decide +kernel
theorem dX7_count_91 : decode cX7_count 91 = .ok (.ldc 54, 2) := by decide +kernel
theorem dX7_count_93 : decode cX7_count 93 = .ok (.invokevirtual 75, 3) := by decide +kernel
theorem dX7_count_96 : decode cX7_count 96 = .ok (.ireturn, 1) := by decide +kernel
theorem dX7_status_0 : decode cX7_status 0 = .ok (.iload_n 1, 1) := by decide +kernel
theorem dX7_status_1 : decode cX7_status 1 = .ok (.i2l, 1) := by decide +kernel
theorem dX7_status_2 : decode cX7_status 2 = .ok (.ldc2_w 187, 3) := by decide +kernel
theorem dX7_status_5 : decode cX7_status 5 = .ok (.ldc2_w 63, 3) := by decide +kernel
theorem dX7_status_8 : decode cX7_status 8 = .ok (.invokestatic 65, 3) := by decide +kernel
theorem dX7_status_11 : decode cX7_status 11 = .ok (.ifCond .eq 14, 3) := by decide +kernel
theorem dX7_status_14 : decode cX7_status 14 = .ok (.aload_n 0, 1) := by decide +kernel
theorem dX7_status_15 : decode cX7_status 15 = .ok (.getfield 19, 3) := by decide +kernel
theorem dX7_status_18 : decode cX7_status 18 = .ok (.iload_n 1, 1) := by decide +kernel
theorem dX7_status_19 : decode cX7_status 19 = .ok (.iconst 1, 1) := by decide +kernel
theorem dX7_status_20 : decode cX7_status 20 = .ok (.iadd, 1) := by decide +kernel
theorem dX7_status_21 : decode cX7_status 21 = .ok (.iaload, 1) := by decide +kernel
theorem dX7_status_22 : decode cX7_status 22 = .ok (.goto 9, 3) := by decide +kernel
theorem dX7_status_25 : decode cX7_status 25 = .ok (.aload_n 0, 1) := by decide +kernel
theorem dX7_status_26 : decode cX7_status 26 = .ok (.ldc 54, 2) := by decide +kernel
theorem dX7_status_28 : decode cX7_status 28 = .ok (.invokevirtual 75, 3) := by decide +kernel
theorem dX7_status_31 : decode cX7_status 31 = .ok (.ireturn, 1) := by decide +kernel
