theorem dX8_init_0 : decode cX8_init 0 = .ok (.aload_n 0, 1) := by decide +kernel
theorem dX8_init_1 : decode cX8_init 1 = .ok (.invokespecial 7, 3) := by decide +kernel
theorem dX8_init_4 : decode cX8_init 4 = .ok (.aload_n 0, 1) := by decide +kernel
theorem dX8_init_5 : decode cX8_init 5 = .ok (.sipush 140, 3) := by decide +kernel
theorem dX8_init_8 : decode cX8_init 8 = .ok (.newarray .int, 2) := by decide +kernel
theorem dX8_init_10 : decode cX8_init 10 = .ok (.putfield 13, 3) := by decide +kernel
theorem dX8_init_13 : decode cX8_init 13 = .ok (.aload_n 0, 1) := by decide +kernel
theorem dX8_init_14 : decode cX8_init 14 = .ok (.sipush 140, 3) := by decide +kernel
theorem dX8_init_17 : decode cX8_init 17 = .ok (.newarray .int, 2) := by decide +kernel
theorem dX8_init_19 : decode cX8_init 19 = .ok (.putfield 17, 3) := by decide +kernel
theorem dX8_init_22 : decode cX8_init 22 = .ok (.aload_n 0, 1) := by decide +kernel
theorem dX8_init_23 : decode cX8_init 23 = .ok (.sipush 140, 3) := by decide +kernel
theorem dX8_init_26 : decode cX8_init 26 = .ok (.newarray .int, 2) := by decide +kernel
theorem dX8_init_28 : decode cX8_init 28 = .ok (.putfield 20, 3) := by decide +kernel
theorem dX8_init_31 : decode cX8_init 31 = .ok (.aload_n 0, 1) := by decide +kernel
theorem dX8_init_32 : decode cX8_init 32 = .ok (.sipush 1680, 3) := by decide +kernel
theorem dX8_init_35 : decode cX8_init 35 = .ok (.newarray .int, 2) := by decide +kernel
theorem dX8_init_37 : decode cX8_init 37 = .ok (.putfield 23, 3) := by decide +kernel
theorem dX8_init_40 : decode cX8_init 40 = .ok (.aload_n 0, 1) := by decide +kernel
theorem dX8_init_41 : decode cX8_init 41 = .ok (.bipush 8, 2) := by decide +kernel
theorem dX8_init_43 : decode cX8_init 43 = .ok (.newarray .int, 2) := by decide +kernel
theorem dX8_init_45 : decode cX8_init 45 = .ok (.putfield 26, 3) := by decide +kernel
theorem dX8_init_48 : decode cX8_init 48 = .ok (.aload_n 0, 1) := by decide +kernel
theorem dX8_init_49 : decode cX8_init 49 = .ok (.bipush 8, 2) := by decide +kernel
theorem dX8_init_51 : decode cX8_init 51 = .ok (.newarray .int, 2) := by decide +kernel
theorem dX8_init_53 : decode cX8_init 53 = .ok (.putfield 29, 3) := by decide +kernel
theorem dX8_init_56 : decode cX8_init 56 = .ok (.aload_n 0, 1) := by decide +kernel
theorem dX8_init_57 : decode cX8_init 57 = .ok (.bipush 8, 2) := by decide +kernel
theorem dX8_init_59 : decode cX8_init 59 = .ok (.newarray .int, 2) := by decide +kernel
theorem dX8_init_61 : decode cX8_init 61 = .ok (.putfield 32, 3) := by decide +kernel
theorem dX8_init_64 : decode cX8_init 64 = .ok (.aload_n 0, 1) := by decide +kernel
theorem dX8_init_65 : decode cX8_init 65 = .ok (.bipush 8, 2) := by decide +kernel
theorem dX8_init_67 : decode cX8_init 67 = .ok (.newarray .int, 2) := by decide +kernel
theorem dX8_init_69 : decode cX8_init 69 = .ok (.putfield 35, 3) := by decide +kernel
theorem dX8_init_72 : decode cX8_init 72 = .ok (.aload_n 0, 1) := by decide +kernel
theorem dX8_init_73 : decode cX8_init 73 = .ok (.bipush 8, 2) := by decide +kernel
theorem dX8_init_75 : decode cX8_init 75 = .ok (.newarray .long, 2) := by decide +kernel
theorem dX8_init_77 : decode cX8_init 77 = .ok (.putfield 38, 3) := by decide +kernel
theorem dX8_init_80 : decode cX8_init 80 = .ok (.aload_n 0, 1) := by decide +kernel
theorem dX8_init_81 : decode cX8_init 81 = .ok (.bipush 8, 2) := by decide +kernel
theorem dX8_init_83 : decode cX8_init 83 = .ok (.newarray .long, 2) := by decide +kernel
theorem dX8_init_85 : decode cX8_init 85 = .ok (.putfield 42, 3) := by decide +kernel
theorem dX8_init_88 : decode cX8_init 88 = .ok (.aload_n 0, 1) := by decide +kernel
theorem dX8_init_89 : decode cX8_init 89 = .ok (.iconst 3, 1) := by decide +kernel
theorem dX8_init_90 : decode cX8_init 90 = .ok (.newarray .int, 2) := by decide +kernel
theorem dX8_init_92 : decode cX8_init 92 = .ok (.putfield 45, 3) := by decide +kernel
theorem dX8_init_95 : decode cX8_init 95 = .ok (.aload_n 0, 1) := by decide +kernel
theorem dX8_init_96 : decode cX8_init 96 = .ok (.iconst 3, 1) := by decide +kernel
theorem dX8_init_97 : decode cX8_init 97 = .ok (.newarray .int, 2) := by decide +kernel
theorem dX8_init_99 : decode cX8_init 99 = .ok (.putfield 48, 3) := by decide +kernel
theorem dX8_init_102 : decode cX8_init 102 = .ok (.aload_n 0, 1) := by decide +kernel
theorem dX8_init_103 : decode cX8_init 103 = .ok (.iconst 3, 1) := by decide +kernel
theorem dX8_init_104 : decode cX8_init 104 = .ok (.newarray .int, 2) := by decide +kernel
theorem dX8_init_106 : decode cX8_init 106 = .ok (.putfield 51, 3) := by decide +kernel
theorem dX8_init_109 : decode cX8_init 109 = .ok (.aload_n 0, 1) := by decide +kernel
theorem dX8_init_110 : decode cX8_init 110 = .ok (.iconst 3, 1) := by decide +kernel
theorem dX8_init_111 : decode cX8_init 111 = .ok (.newarray .int, 2) := by decide +kernel
theorem dX8_init_113 : decode cX8_init 113 = .ok (.putfield 54, 3) := by decide +kernel
theorem dX8_init_116 : decode cX8_init 116 = .ok (.aload_n 0, 1) := by decide +kernel
theorem dX8_init_117 : decode cX8_init 117 = .ok (.bipush 15, 2) := by decide +kernel
theorem dX8_init_119 : decode cX8_init 119 = .ok (.newarray .long, 2) := by decide +kernel
theorem dX8_init_121 : decode cX8_init 121 = .ok (.putfield 57, 3) := by decide +kernel
theorem dX8_init_124 : decode cX8_init 124 = .ok (.aload_n 0, 1) := by decide +kernel
theorem dX8_init_125 : decode cX8_init 125 = .ok (.bipush 15, 2) := by decide +kernel
theorem dX8_init_127 : decode cX8_init 127 = .ok (.newarray .long, 2) := by decide +kernel
theorem dX8_init_129 : decode cX8_init 129 = .ok (.putfield 60, 3) := by decide +kernel
theorem dX8_init_132 : decode cX8_init 132 = .ok (.aload_n 0, 1) := by decide +kernel
theorem dX8_init_133 : decode cX8_init 133 = .ok (.sipush 800, 3) := by decide +kernel
theorem dX8_init_136 : decode cX8_init 136 = .ok (.newarray .int, 2) := by decide +kernel
theorem dX8_init_138 : decode cX8_init 138 = .ok (.putfield 63, 3) := by decide +kernel
theorem dX8_init_141 : decode cX8_init 141 = .ok (.aload_n 0, 1) := by decide +kernel
theorem dX8_init_142 : decode cX8_init 142 = .ok (.sipush 700, 3) := by decide +kernel
theorem dX8_init_145 : decode cX8_init 145 = .ok (.newarray .int, 2) := by decide +kernel
theorem dX8_init_147 : decode cX8_init 147 = .ok (.putfield 66, 3) := by decide +kernel
theorem dX8_init_150 : decode cX8_init 150 = .ok (.aload_n 0, 1) := by decide +kernel
theorem dX8_init_151 : decode cX8_init 151 = .ok (.bipush 46, 2) := by decide +kernel
theorem dX8_init_153 : decode cX8_init 153 = .ok (.newarray .byte, 2) := by decide +kernel
theorem dX8_init_155 : decode cX8_init 155 = .ok (.dup, 1) := by decide +kernel
theorem dX8_init_156 : decode cX8_init 156 = .ok (.iconst 0, 1) := by decide +kernel
theorem dX8_init_157 : decode cX8_init 157 = .ok (.bipush 99, 2) := by decide +kernel
theorem dX8_init_159 : decode cX8_init 159 = .ok (.bastore, 1) := by decide +kernel
theorem dX8_init_160 : decode cX8_init 160 = .ok (.dup, 1) := by decide +kernel
theorem dX8_init_161 : decode cX8_init 161 = .ok (.iconst 1, 1) := by decide +kernel
theorem dX8_init_162 : decode cX8_init 162 = .ok (.bipush 97, 2) := by decide +kernel
theorem dX8_init_164 : decode cX8_init 164 = .ok (.bastore, 1) := by decide +kernel
theorem dX8_init_165 : decode cX8_init 165 = .ok (.dup, 1) := by decide +kernel
theorem dX8_init_166 : decode cX8_init 166 = .ok (.iconst 2, 1) := by decide +kernel
theorem dX8_init_167 : decode cX8_init 167 = .ok (.bipush 112, 2) := by decide +kernel
theorem dX8_init_169 : decode cX8_init 169 = .ok (.bastore, 1) := by decide +kernel
theorem dX8_init_170 : decode cX8_init 170 = .ok (.dup, 1) := by decide +kernel
theorem dX8_init_171 : decode cX8_init 171 = .ok (.iconst 3, 1) := by decide +kernel
theorem dX8_init_172 : decode cX8_init 172 = .ok (.iconst 0, 1) := by decide +kernel
theorem dX8_init_173 : decode cX8_init 173 = .ok (.bastore, 1) := by decide +kernel
theorem dX8_init_174 : decode cX8_init 174 = .ok (.dup, 1) := by decide +kernel
theorem dX8_init_175 : decode cX8_init 175 = .ok (.iconst 4, 1) := by decide +kernel
theorem dX8_init_176 : decode cX8_init 176 = .ok (.bipush 115, 2) := by decide +kernel
theorem dX8_init_178 : decode cX8_init 178 = .ok (.bastore, 1) := by decide +kernel
theorem dX8_init_179 : decode cX8_init 179 = .ok (.dup, 1) := by decide +kernel
theorem dX8_init_180 : decode cX8_init 180 = .ok (.iconst 5, 1) := by decide +kernel
theorem dX8_init_181 : decode cX8_init 181 = .ok (.bipush 116, 2) := by decide +kernel
theorem dX8_init_183 : decode cX8_init 183 = .ok (.bastore, 1) := by decide +kernel
theorem dX8_init_184 : decode cX8_init 184 = .ok (.dup, 1) := by decide +kernel
theorem dX8_init_185 : decode cX8_init 185 = .ok (.bipush 6, 2) := by decide +kernel
theorem dX8_init_187 : decode cX8_init 187 = .ok (.bipush 101, 2) := by decide +kernel
theorem dX8_init_189 : decode cX8_init 189 = .ok (.bastore, 1) := by decide +kernel
theorem dX8_init_190 : decode cX8_init 190 = .ok (.dup, 1) := by decide +kernel
theorem dX8_init_191 : decode cX8_init 191 = .ok (.bipush 7, 2) := by decide +kernel
theorem dX8_init_193 : decode cX8_init 193 = .ok (.bipush 97, 2) := by decide +kernel
theorem dX8_init_195 : decode cX8_init 195 = .ok (.bastore, 1) := by decide +kernel
theorem dX8_init_196 : decode cX8_init 196 = .ok (.dup, 1) := by decide +kernel
theorem dX8_init_197 : decode cX8_init 197 = .ok (.bipush 8, 2) := by decide +kernel
theorem dX8_init_199 : decode cX8_init 199 = .ok (.bipush 100, 2) := by decide +kernel
theorem dX8_init_201 : decode cX8_init 201 = .ok (.bastore, 1) := by decide +kernel
theorem dX8_init_202 : decode cX8_init 202 = .ok (.dup, 1) := by decide +kernel
theorem dX8_init_203 : decode cX8_init 203 = .ok (.bipush 9, 2) := by decide +kernel
theorem dX8_init_205 : decode cX8_init 205 = .ok (.bipush 121, 2) := by decide +kernel
theorem dX8_init_207 : decode cX8_init 207 = .ok (.bastore, 1) := by decide +kernel
theorem dX8_init_208 : decode cX8_init 208 = .ok (.dup, 1) := by decide +kernel
theorem dX8_init_209 : decode cX8_init 209 = .ok (.bipush 10, 2) := by decide +kernel
theorem dX8_init_211 : decode cX8_init 211 = .ok (.iconst 0, 1) := by decide +kernel
theorem dX8_init_212 : decode cX8_init 212 = .ok (.bastore, 1) := by decide +kernel
theorem dX8_init_213 : decode cX8_init 213 = .ok (.dup, 1) := by decide +kernel
theorem dX8_init_214 : decode cX8_init 214 = .ok (.bipush 11, 2) := by decide +kernel
theorem dX8_init_216 : decode cX8_init 216 = .ok (.bipush 102, 2) := by decide +kernel
theorem dX8_init_218 : decode cX8_init 218 = .ok (.bastore, 1) := by decide +kernel
theorem dX8_init_219 : decode cX8_init 219 = .ok (.dup, 1) := by decide +kernel
theorem dX8_init_220 : decode cX8_init 220 = .ok (.bipush 12, 2) := by decide +kernel
theorem dX8_init_222 : decode cX8_init 222 = .ok (.bipush 108, 2) := by decide +kernel
theorem dX8_init_224 : decode cX8_init 224 = .ok (.bastore, 1) := by decide +kernel
theorem dX8_init_225 : decode cX8_init 225 = .ok (.dup, 1) := by decide +kernel
theorem dX8_init_226 : decode cX8_init 226 = .ok (.bipush 13, 2) := by decide +kernel
theorem dX8_init_228 : decode cX8_init 228 = .ok (.bipush 101, 2) := by decide +kernel
theorem dX8_init_230 : decode cX8_init 230 = .ok (.bastore, 1) := by decide +kernel
theorem dX8_init_231 : decode cX8_init 231 = .ok (.dup, 1) := by decide +kernel
theorem dX8_init_232 : decode cX8_init 232 = .ok (.bipush 14, 2) := by decide +kernel
theorem dX8_init_234 : decode cX8_init 234 = .ok (.bipush 101, 2) := by decide +kernel
theorem dX8_init_236 : decode cX8_init 236 = .ok (.bastore, 1) := by decide +kernel
theorem dX8_init_237 : decode cX8_init 237 = .ok (.dup, 1) := by decide +kernel
theorem dX8_init_238 : decode cX8_init 238 = .ok (.bipush 15, 2) := by decide +kernel
theorem dX8_init_240 : decode cX8_init 240 = .ok (.bipush 116, 2) := by decide +kernel
theorem dX8_init_242 : decode cX8_init 242 = .ok (.bastore, 1) := by decide +kernel
theorem dX8_init_243 : decode cX8_init 243 = .ok (.dup, 1) := by decide +kernel
theorem dX8_init_244 : decode cX8_init 244 = .ok (.bipush 16, 2) := by decide +kernel
theorem dX8_init_246 : decode cX8_init 246 = .ok (.iconst 0, 1) := by decide +kernel
theorem dX8_init_247 : decode cX8_init 247 = .ok (.bastore, 1) := by decide +kernel
theorem dX8_init_248 : decode cX8_init 248 = .ok (.dup, 1) := by decide +kernel
theorem dX8_init_249 : decode cX8_init 249 = .ok (.bipush 17, 2) := by decide +kernel
theorem dX8_init_251 : decode cX8_init 251 = .ok (.bipush 99, 2) := by decide +kernel
theorem dX8_init_253 : decode cX8_init 253 = .ok (.bastore, 1) := by decide +kernel
theorem dX8_init_254 : decode cX8_init 254 = .ok (.dup, 1) := by decide +kernel
theorem dX8_init_255 : decode cX8_init 255 = .ok (.bipush 18, 2) := by decide +kernel
theorem dX8_init_257 : decode cX8_init 257 = .ok (.bipush 108, 2) := by decide +kernel
theorem dX8_init_259 : decode cX8_init 259 = .ok (.bastore, 1) := by decide +kernel
theorem dX8_init_260 : decode cX8_init 260 = .ok (.dup, 1) := by decide +kernel
theorem dX8_init_261 : decode cX8_init 261 = .ok (.bipush 19, 2) := by decide +kernel
theorem dX8_init_263 : decode cX8_init 263 = .ok (.bipush 97, 2) := by decide +kernel
theorem dX8_init_265 : decode cX8_init 265 = .ok (.bastore, 1) := by decide +kernel
theorem dX8_init_266 : decode cX8_init 266 = .ok (.dup, 1) := by decide +kernel
theorem dX8_init_267 : decode cX8_init 267 = .ok (.bipush 20, 2) := by decide +kernel
theorem dX8_init_269 : decode cX8_init 269 = .ok (.bipush 105, 2) := by decide +kernel
theorem dX8_init_271 : decode cX8_init 271 = .ok (.bastore, 1) := by decide +kernel
theorem dX8_init_272 : decode cX8_init 272 = .ok (.dup, 1) := by decide +kernel
theorem dX8_init_273 : decode cX8_init 273 = .ok (.bipush 21, 2) := by decide +kernel
theorem dX8_init_275 : decode cX8_init 275 = .ok (.bipush 109, 2) := by decide +kernel
theorem dX8_init_277 : decode cX8_init 277 = .ok (.bastore, 1) := by decide +kernel
theorem dX8_init_278 : decode cX8_init 278 = .ok (.dup, 1) := by decide +kernel
theorem dX8_init_279 : decode cX8_init 279 = .ok (.bipush 22, 2) := by decide +kernel
theorem dX8_init_281 : decode cX8_init 281 = .ok (.iconst 0, 1) := by decide +kernel
theorem dX8_init_282 : decode cX8_init 282 = .ok (.bastore, 1) := by decide +kernel
theorem dX8_init_283 : decode cX8_init 283 = .ok (.dup, 1) := by decide +kernel
theorem dX8_init_284 : decode cX8_init 284 = .ok (.bipush 23, 2) := by decide +kernel
theorem dX8_init_286 : decode cX8_init 286 = .ok (.bipush 99, 2) := by decide +kernel
theorem dX8_init_288 : decode cX8_init 288 = .ok (.bastore, 1) := by decide +kernel
theorem dX8_init_289 : decode cX8_init 289 = .ok (.dup, 1) := by decide +kernel
theorem dX8_init_290 : decode cX8_init 290 = .ok (.bipush 24, 2) := by decide +kernel
theorem dX8_init_292 : decode cX8_init 292 = .ok (.bipush 108, 2) := by decide +kernel
theorem dX8_init_294 : decode cX8_init 294 = .ok (.bastore, 1) := by decide +kernel
theorem dX8_init_295 : decode cX8_init 295 = .ok (.dup, 1) := by decide +kernel
theorem dX8_init_296 : decode cX8_init 296 = .ok (.bipush 25, 2) := by decide +kernel
theorem dX8_init_298 : decode cX8_init 298 = .ok (.bipush 97, 2) := by decide +kernel
theorem dX8_init_300 : decode cX8_init 300 = .ok (.bastore, 1) := by decide +kernel
theorem dX8_init_301 : decode cX8_init 301 = .ok (.dup, 1) := by decide +kernel
theorem dX8_init_302 : decode cX8_init 302 = .ok (.bipush 26, 2) := by decide +kernel
theorem dX8_init_304 : decode cX8_init 304 = .ok (.bipush 115, 2) := by decide +kernel
theorem dX8_init_306 : decode cX8_init 306 = .ok (.bastore, 1) := by decide +kernel
theorem dX8_init_307 : decode cX8_init 307 = .ok (.dup, 1) := by decide +kernel
theorem dX8_init_308 : decode cX8_init 308 = .ok (.bipush 27, 2) := by decide +kernel
theorem dX8_init_310 : decode cX8_init 310 = .ok (.bipush 115, 2) := by decide +kernel
theorem dX8_init_312 : decode cX8_init 312 = .ok (.bastore, 1) := by decide +kernel
theorem dX8_init_313 : decode cX8_init 313 = .ok (.dup, 1) := by decide +kernel
theorem dX8_init_314 : decode cX8_init 314 = .ok (.bipush 28, 2) := by decide +kernel
theorem dX8_init_316 : decode cX8_init 316 = .ok (.iconst 0, 1) := by decide +kernel
theorem dX8_init_317 : decode cX8_init 317 = .ok (.bastore, 1) := by decide +kernel
theorem dX8_init_318 : decode cX8_init 318 = .ok (.dup, 1) := by decide +kernel
theorem dX8_init_319 : decode cX8_init 319 = .ok (.bipush 29, 2) := by decide +kernel
theorem dX8_init_321 : decode cX8_init 321 = .ok (.bipush 121, 2) := by decide +kernel
theorem dX8_init_323 : decode cX8_init 323 = .ok (.bastore, 1) := by decide +kernel
theorem dX8_init_324 : decode cX8_init 324 = .ok (.dup, 1) := by decide +kernel
theorem dX8_init_325 : decode cX8_init 325 = .ok (.bipush 30, 2) := by decide +kernel
theorem dX8_init_327 : decode cX8_init 327 = .ok (.bipush 101, 2) := by decide +kernel
theorem dX8_init_329 : decode cX8_init 329 = .ok (.bastore, 1) := by decide +kernel
theorem dX8_init_330 : decode cX8_init 330 = .ok (.dup, 1) := by decide +kernel
theorem dX8_init_331 : decode cX8_init 331 = .ok (.bipush 31, 2) := by decide +kernel
theorem dX8_init_333 : decode cX8_init 333 = .ok (.bipush 97, 2) := by decide +kernel
theorem dX8_init_335 : decode cX8_init 335 = .ok (.bastore, 1) := by decide +kernel
theorem dX8_init_336 : decode cX8_init 336 = .ok (.dup, 1) := by decide +kernel
theorem dX8_init_337 : decode cX8_init 337 = .ok (.bipush 32, 2) := by decide +kernel
theorem dX8_init_339 : decode cX8_init 339 = .ok (.bipush 114, 2) := by decide +kernel
theorem dX8_init_341 : decode cX8_init 341 = .ok (.bastore, 1) := by decide +kernel
theorem dX8_init_342 : decode cX8_init 342 = .ok (.dup, 1) := by decide +kernel
theorem dX8_init_343 : decode cX8_init 343 = .ok (.bipush 33, 2) := by decide +kernel
theorem dX8_init_345 : decode cX8_init 345 = .ok (.bipush 115, 2) := by decide +kernel
theorem dX8_init_347 : decode cX8_init 347 = .ok (.bastore, 1) := by decide +kernel
theorem dX8_init_348 : decode cX8_init 348 = .ok (.dup, 1) := by decide +kernel
theorem dX8_init_349 : decode cX8_init 349 = .ok (.bipush 34, 2) := by decide +kernel
theorem dX8_init_351 : decode cX8_init 351 = .ok (.iconst 0, 1) := by decide +kernel
theorem dX8_init_352 : decode cX8_init 352 = .ok (.bastore, 1) := by decide +kernel
theorem dX8_init_353 : decode cX8_init 353 = .ok (.dup, 1) := by decide +kernel
theorem dX8_init_354 : decode cX8_init 354 = .ok (.bipush 35, 2) := by decide +kernel
theorem dX8_init_356 : decode cX8_init 356 = .ok (.bipush 115, 2) := by decide +kernel
theorem dX8_init_358 : decode cX8_init 358 = .ok (.bastore, 1) := by decide +kernel
theorem dX8_init_359 : decode cX8_init 359 = .ok (.dup, 1) := by decide +kernel
theorem dX8_init_360 : decode cX8_init 360 = .ok (.bipush 36, 2) := by decide +kernel
theorem dX8_init_362 : decode cX8_init 362 = .ok (.bipush 104, 2) := by decide +kernel
theorem dX8_init_364 : decode cX8_init 364 = .ok (.bastore, 1) := by decide +kernel
theorem dX8_init_365 : decode cX8_init 365 = .ok (.dup, 1) := by decide +kernel
theorem dX8_init_366 : decode cX8_init 366 = .ok (.bipush 37, 2) := by decide +kernel
theorem dX8_init_368 : decode cX8_init 368 = .ok (.bipush 97, 2) := by decide +kernel
theorem dX8_init_370 : decode cX8_init 370 = .ok (.bastore, 1) := by decide +kernel
theorem dX8_init_371 : decode cX8_init 371 = .ok (.dup, 1) := by decide +kernel
theorem dX8_init_372 : decode cX8_init 372 = .ok (.bipush 38, 2) := by decide +kernel
theorem dX8_init_374 : decode cX8_init 374 = .ok (.bipush 114, 2) := by decide +kernel
theorem dX8_init_376 : decode cX8_init 376 = .ok (.bastore, 1) := by decide +kernel
theorem dX8_init_377 : decode cX8_init 377 = .ok (.dup, 1) := by decide +kernel
theorem dX8_init_378 : decode cX8_init 378 = .ok (.bipush 39, 2) := by decide +kernel
theorem dX8_init_380 : decode cX8_init 380 = .ok (.bipush 101, 2) := by decide +kernel
theorem dX8_init_382 : decode cX8_init 382 = .ok (.bastore, 1) := by decide +kernel
theorem dX8_init_383 : decode cX8_init 383 = .ok (.dup, 1) := by decide +kernel
theorem dX8_init_384 : decode cX8_init 384 = .ok (.bipush 40, 2) := by decide +kernel
theorem dX8_init_386 : decode cX8_init 386 = .ok (.iconst 0, 1) := by decide +kernel
theorem dX8_init_387 : decode cX8_init 387 = .ok (.bastore, 1) := by decide +kernel
theorem dX8_init_388 : decode cX8_init 388 = .ok (.dup, 1) := by decide +kernel
theorem dX8_init_389 : decode cX8_init 389 = .ok (.bipush 41, 2) := by decide +kernel
theorem dX8_init_391 : decode cX8_init 391 = .ok (.bipush 114, 2) := by decide +kernel
theorem dX8_init_393 : decode cX8_init 393 = .ok (.bastore, 1) := by decide +kernel
theorem dX8_init_394 : decode cX8_init 394 = .ok (.dup, 1) := by decide +kernel
theorem dX8_init_395 : decode cX8_init 395 = .ok (.bipush 42, 2) := by decide +kernel
theorem dX8_init_397 : decode cX8_init 397 = .ok (.bipush 97, 2) := by decide +kernel
theorem dX8_init_399 : decode cX8_init 399 = .ok (.bastore, 1) := by decide +kernel
theorem dX8_init_400 : decode cX8_init 400 = .ok (.dup, 1) := by decide +kernel
theorem dX8_init_401 : decode cX8_init 401 = .ok (.bipush 43, 2) := by decide +kernel
theorem dX8_init_403 : decode cX8_init 403 = .ok (.bipush 116, 2) := by decide +kernel
theorem dX8_init_405 : decode cX8_init 405 = .ok (.bastore, 1) := by decide +kernel
theorem dX8_init_406 : decode cX8_init 406 = .ok (.dup, 1) := by decide +kernel
theorem dX8_init_407 : decode cX8_init 407 = .ok (.bipush 44, 2) := by decide +kernel
theorem dX8_init_409 : decode cX8_init 409 = .ok (.bipush 101, 2) := by decide +kernel
theorem dX8_init_411 : decode cX8_init 411 = .ok (.bastore, 1) := by decide +kernel
theorem dX8_init_412 : decode cX8_init 412 = .ok (.dup, 1) := by decide +kernel
theorem dX8_init_413 : decode cX8_init 413 = .ok (.bipush 45, 2) := by decide +kernel
theorem dX8_init_415 : decode cX8_init 415 = .ok (.iconst 0, 1) := by decide +kernel
theorem dX8_init_416 : decode cX8_init 416 = .ok (.bastore, 1) := by decide +kernel
theorem dX8_init_417 : decode cX8_init 417 = .ok (.putfield 69, 3) := by decide +kernel
theorem dX8_init_420 : decode cX8_init 420 = .ok (.aload_n 0, 1) := by decide +kernel
theorem dX8_init_421 : decode cX8_init 421 = .ok (.getfield 13, 3) := by decide +kernel
theorem dX8_init_424 : decode cX8_init 424 = .ok (.invokestatic 73, 3) := by decide +kernel
theorem dX8_init_427 : decode cX8_init 427 = .ok (.return_, 1) := by decide +kernel
theorem dX8_in_0 : decode cX8_in 0 = .ok (.iload_n 0, 1) := by decide +kernel
theorem dX8_in_1 : decode cX8_in 1 = .ok (.iload_n 1, 1) := by decide +kernel
theorem dX8_in_2 : decode cX8_in 2 = .ok (.if_icmp .lt 12, 3) := by decide +kernel
theorem dX8_in_5 : decode cX8_in 5 = .ok (.iload_n 0, 1) := by decide +kernel
theorem dX8_in_6 : decode cX8_in 6 = .ok (.iload_n 2, 1) := by decide +kernel
theorem dX8_in_7 : decode cX8_in 7 = .ok (.if_icmp .gt 7, 3) := by decide +kernel
theorem dX8_in_10 : decode cX8_in 10 = .ok (.iconst 1, 1) := by decide +kernel
theorem dX8_in_11 : decode cX8_in 11 = .ok (.goto 4, 3) := by decide +kernel
theorem dX8_in_14 : decode cX8_in 14 = .ok (.iconst 0, 1) := by decide +kernel
theorem dX8_in_15 : decode cX8_in 15 = .ok (.ireturn, 1) := by decide +kernel
theorem dX8_starts_0 : decode cX8_starts 0 = .ok (.iconst 0, 1) := by decide +kernel
theorem dX8_starts_1 : decode cX8_starts 1 = .ok (.istore_n 1, 1) := by decide +kernel
theorem dX8_starts_2 : decode cX8_starts 2 = .ok (.iload_n 1, 1) := by decide +kernel
theorem dX8_starts_3 : decode cX8_starts 3 = .ok (.sipush 140, 3) := by decide +kernel
theorem dX8_starts_6 : decode cX8_starts 6 = .ok (.if_icmp .ge 13, 3) := by decide +kernel
theorem dX8_starts_9 : decode cX8_starts 9 = .ok (.aload_n 0, 1) := by decide +kernel
theorem dX8_starts_10 : decode cX8_starts 10 = .ok (.iload_n 1, 1) := by decide +kernel
theorem dX8_starts_11 : decode cX8_starts 11 = .ok (.iconst 0, 1) := by decide +kernel
theorem dX8_starts_12 : decode cX8_starts 12 = .ok (.iastore, 1) := by decide +kernel
theorem dX8_starts_13 : decode cX8_starts 13 = .ok (.iinc 1 1, 3) := by decide +kernel
theorem dX8_starts_16 : decode cX8_starts 16 = .ok (.goto (-14), 3) := by decide +kernel
theorem dX8_starts_19 : decode cX8_starts 19 = .ok (.aload_n 0, 1) := by decide +kernel
theorem dX8_starts_20 : decode cX8_starts 20 = .ok (.iconst 0, 1) := by decide +kernel
theorem dX8_starts_21 : decode cX8_starts 21 = .ok (.bipush 99, 2) := by decide +kernel
theorem dX8_starts_23 : decode cX8_starts 23 = .ok (.iastore, 1) := by decide +kernel
theorem dX8_starts_24 : decode cX8_starts 24 = .ok (.aload_n 0, 1) := by decide +kernel
theorem dX8_starts_25 : decode cX8_starts 25 = .ok (.iconst 1, 1) := by decide +kernel
theorem dX8_starts_26 : decode cX8_starts 26 = .ok (.iconst 5, 1) := by decide +kernel
theorem dX8_starts_27 : decode cX8_starts 27 = .ok (.iastore, 1) := by decide +kernel
theorem dX8_starts_28 : decode cX8_starts 28 = .ok (.return_, 1) := by decide +kernel
theorem dX8_keeps_0 : decode cX8_keeps 0 = .ok (.aload_n 0, 1) := by decide +kernel
theorem dX8_keeps_1 : decode cX8_keeps 1 = .ok (.getfield 77, 3) := by decide +kernel
theorem dX8_keeps_4 : decode cX8_keeps 4 = .ok (.bipush 12, 2) := by decide +kernel
theorem dX8_keeps_6 : decode cX8_keeps 6 = .ok (.if_icmp .ne 46, 3) := by decide +kernel
theorem dX8_keeps_9 : decode cX8_keeps 9 = .ok (.sipush 140, 3) := by decide +kernel
theorem dX8_keeps_12 : decode cX8_keeps 12 = .ok (.istore_n 1, 1) := by decide +kernel
theorem dX8_keeps_13 : decode cX8_keeps 13 = .ok (.iload_n 1, 1) := by decide +kernel
theorem dX8_keeps_14 : decode cX8_keeps 14 = .ok (.sipush 1680, 3) := by decide +kernel
theorem dX8_keeps_17 : decode cX8_keeps 17 = .ok (.if_icmp .ge 25, 3) := by decide +kernel
theorem dX8_keeps_20 : decode cX8_keeps 20 = .ok (.aload_n 0, 1) := by decide +kernel
theorem dX8_keeps_21 : decode cX8_keeps 21 = .ok (.getfield 23, 3) := by decide +kernel
theorem dX8_keeps_24 : decode cX8_keeps 24 = .ok (.iload_n 1, 1) := by decide +kernel
theorem dX8_keeps_25 : decode cX8_keeps 25 = .ok (.sipush 140, 3) := by decide +kernel
theorem dX8_keeps_28 : decode cX8_keeps 28 = .ok (.isub, 1) := by decide +kernel
theorem dX8_keeps_29 : decode cX8_keeps 29 = .ok (.aload_n 0, 1) := by decide +kernel
theorem dX8_keeps_30 : decode cX8_keeps 30 = .ok (.getfield 23, 3) := by decide +kernel
theorem dX8_keeps_33 : decode cX8_keeps 33 = .ok (.iload_n 1, 1) := by decide +kernel
theorem dX8_keeps_34 : decode cX8_keeps 34 = .ok (.iaload, 1) := by decide +kernel
theorem dX8_keeps_35 : decode cX8_keeps 35 = .ok (.iastore, 1) := by decide +kernel
theorem dX8_keeps_36 : decode cX8_keeps 36 = .ok (.iinc 1 1, 3) := by decide +kernel
theorem dX8_keeps_39 : decode cX8_keeps 39 = .ok (.goto (-26), 3) := by decide +kernel
theorem dX8_keeps_42 : decode cX8_keeps 42 = .ok (.aload_n 0, 1) := by decide +kernel
theorem dX8_keeps_43 : decode cX8_keeps 43 = .ok (.dup, 1) := by decide +kernel
theorem dX8_keeps_44 : decode cX8_keeps 44 = .ok (.getfield 77, 3) := by decide +kernel
theorem dX8_keeps_47 : decode cX8_keeps 47 = .ok (.iconst 1, 1) := by decide +kernel
theorem dX8_keeps_48 : decode cX8_keeps 48 = .ok (.isub, 1) := by decide +kernel
theorem dX8_keeps_49 : decode cX8_keeps 49 = .ok (.putfield 77, 3) := by decide +kernel
theorem dX8_keeps_52 : decode cX8_keeps 52 = .ok (.iconst 0, 1) := by decide +kernel
theorem dX8_keeps_53 : decode cX8_keeps 53 = .ok (.istore_n 1, 1) := by decide +kernel
theorem dX8_keeps_54 : decode cX8_keeps 54 = .ok (.iload_n 1, 1) := by decide +kernel
theorem dX8_keeps_55 : decode cX8_keeps 55 = .ok (.sipush 140, 3) := by decide +kernel
theorem dX8_keeps_58 : decode cX8_keeps 58 = .ok (.if_icmp .ge 30, 3) := by decide +kernel
theorem dX8_keeps_61 : decode cX8_keeps 61 = .ok (.aload_n 0, 1) := by decide +kernel
theorem dX8_keeps_62 : decode cX8_keeps 62 = .ok (.getfield 23, 3) := by decide +kernel
theorem dX8_keeps_65 : decode cX8_keeps 65 = .ok (.sipush 140, 3) := by decide +kernel
theorem dX8_keeps_68 : decode cX8_keeps 68 = .ok (.aload_n 0, 1) := by decide +kernel
theorem dX8_keeps_69 : decode cX8_keeps 69 = .ok (.getfield 77, 3) := by decide +kernel
theorem dX8_keeps_72 : decode cX8_keeps 72 = .ok (.imul, 1) := by decide +kernel
theorem dX8_keeps_73 : decode cX8_keeps 73 = .ok (.iload_n 1, 1) := by decide +kernel
theorem dX8_keeps_74 : decode cX8_keeps 74 = .ok (.iadd, 1) := by decide +kernel
theorem dX8_keeps_75 : decode cX8_keeps 75 = .ok (.aload_n 0, 1) := by decide +kernel
theorem dX8_keeps_76 : decode cX8_keeps 76 = .ok (.getfield 13, 3) := by decide +kernel
theorem dX8_keeps_79 : decode cX8_keeps 79 = .ok (.iload_n 1, 1) := by decide +kernel
theorem dX8_keeps_80 : decode cX8_keeps 80 = .ok (.iaload, 1) := by decide +kernel
theorem dX8_keeps_81 : decode cX8_keeps 81 = .ok (.iastore, 1) := by decide +kernel
theorem dX8_keeps_82 : decode cX8_keeps 82 = .ok (.iinc 1 1, 3) := by decide +kernel
theorem dX8_keeps_85 : decode cX8_keeps 85 = .ok (.goto (-31), 3) := by decide +kernel
theorem dX8_keeps_88 : decode cX8_keeps 88 = .ok (.aload_n 0, 1) := by decide +kernel
theorem dX8_keeps_89 : decode cX8_keeps 89 = .ok (.dup, 1) := by decide +kernel
theorem dX8_keeps_90 : decode cX8_keeps 90 = .ok (.getfield 77, 3) := by decide +kernel
theorem dX8_keeps_93 : decode cX8_keeps 93 = .ok (.iconst 1, 1) := by decide +kernel
theorem dX8_keeps_94 : decode cX8_keeps 94 = .ok (.iadd, 1) := by decide +kernel
theorem dX8_keeps_95 : decode cX8_keeps 95 = .ok (.putfield 77, 3) := by decide +kernel
theorem dX8_keeps_98 : decode cX8_keeps 98 = .ok (.return_, 1) := by decide +kernel
theorem dX8_putsAside_0 : decode cX8_putsAside 0 = .ok (.iconst 0, 1) := by decide +kernel
theorem dX8_putsAside_1 : decode cX8_putsAside 1 = .ok (.istore_n 1, 1) := by decide +kernel
theorem dX8_putsAside_2 : decode cX8_putsAside 2 = .ok (.iload_n 1, 1) := by decide +kernel
theorem dX8_putsAside_3 : decode cX8_putsAside 3 = .ok (.sipush 140, 3) := by decide +kernel
theorem dX8_putsAside_6 : decode cX8_putsAside 6 = .ok (.if_icmp .ge 21, 3) := by decide +kernel
theorem dX8_putsAside_9 : decode cX8_putsAside 9 = .ok (.aload_n 0, 1) := by decide +kernel
theorem dX8_putsAside_10 : decode cX8_putsAside 10 = .ok (.getfield 20, 3) := by decide +kernel
theorem dX8_putsAside_13 : decode cX8_putsAside 13 = .ok (.iload_n 1, 1) := by decide +kernel
theorem dX8_putsAside_14 : decode cX8_putsAside 14 = .ok (.aload_n 0, 1) := by decide +kernel
theorem dX8_putsAside_15 : decode cX8_putsAside 15 = .ok (.getfield 13, 3) := by decide +kernel
theorem dX8_putsAside_18 : decode cX8_putsAside 18 = .ok (.iload_n 1, 1) := by decide +kernel
theorem dX8_putsAside_19 : decode cX8_putsAside 19 = .ok (.iaload, 1) := by decide +kernel
theorem dX8_putsAside_20 : decode cX8_putsAside 20 = .ok (.iastore, 1) := by decide +kernel
theorem dX8_putsAside_21 : decode cX8_putsAside 21 = .ok (.iinc 1 1, 3) := by decide +kernel
theorem dX8_putsAside_24 : decode cX8_putsAside 24 = .ok (.goto (-22), 3) := by decide +kernel
theorem dX8_putsAside_27 : decode cX8_putsAside 27 = .ok (.return_, 1) := by decide +kernel
theorem dX8_takesBack_0 : decode cX8_takesBack 0 = .ok (.iconst 0, 1) := by decide +kernel
theorem dX8_takesBack_1 : decode cX8_takesBack 1 = .ok (.istore_n 1, 1) := by decide +kernel
theorem dX8_takesBack_2 : decode cX8_takesBack 2 = .ok (.iload_n 1, 1) := by decide +kernel
theorem dX8_takesBack_3 : decode cX8_takesBack 3 = .ok (.sipush 140, 3) := by decide +kernel
theorem dX8_takesBack_6 : decode cX8_takesBack 6 = .ok (.if_icmp .ge 21, 3) := by decide +kernel
theorem dX8_takesBack_9 : decode cX8_takesBack 9 = .ok (.aload_n 0, 1) := by decide +kernel
theorem dX8_takesBack_10 : decode cX8_takesBack 10 = .ok (.getfield 13, 3) := by decide +kernel
theorem dX8_takesBack_13 : decode cX8_takesBack 13 = .ok (.iload_n 1, 1) := by decide +kernel
theorem dX8_takesBack_14 : decode cX8_takesBack 14 = .ok (.aload_n 0, 1) := by decide +kernel
theorem dX8_takesBack_15 : decode cX8_takesBack 15 = .ok (.getfield 20, 3) := by decide +kernel
theorem dX8_takesBack_18 : decode cX8_takesBack 18 = .ok (.iload_n 1, 1) := by decide +kernel
theorem dX8_takesBack_19 : decode cX8_takesBack 19 = .ok (.iaload, 1) := by decide +kernel
theorem dX8_takesBack_20 : decode cX8_takesBack 20 = .ok (.iastore, 1) := by decide +kernel
theorem dX8_takesBack_21 : decode cX8_takesBack 21 = .ok (.iinc 1 1, 3) := by decide +kernel
theorem dX8_takesBack_24 : decode cX8_takesBack 24 = .ok (.goto (-22), 3) := by decide +kernel
theorem dX8_takesBack_27 : decode cX8_takesBack 27 = .ok (.return_, 1) := by decide +kernel
theorem dX8_many_0 : decode cX8_many 0 = .ok (.aload_n 0, 1) := by decide +kernel
theorem dX8_many_1 : decode cX8_many 1 = .ok (.getfield 13, 3) := by decide +kernel
theorem dX8_many_4 : decode cX8_many 4 = .ok (.iconst 2, 1) := by decide +kernel
theorem dX8_many_5 : decode cX8_many 5 = .ok (.iaload, 1) := by decide +kernel
theorem dX8_many_6 : decode cX8_many 6 = .ok (.ireturn, 1) := by decide +kernel
theorem dX8_claims_0 : decode cX8_claims 0 = .ok (.aload_n 0, 1) := by decide +kernel
theorem dX8_claims_1 : decode cX8_claims 1 = .ok (.getfield 13, 3) := by decide +kernel
theorem dX8_claims_4 : decode cX8_claims 4 = .ok (.iconst 3, 1) := by decide +kernel
theorem dX8_claims_5 : decode cX8_claims 5 = .ok (.iaload, 1) := by decide +kernel
theorem dX8_claims_6 : decode cX8_claims 6 = .ok (.ireturn, 1) := by decide +kernel
theorem dX8_isFleet_0 : decode cX8_isFleet 0 = .ok (.iload_n 1, 1) := by decide +kernel
theorem dX8_isFleet_1 : decode cX8_isFleet 1 = .ok (.iconst 0, 1) := by decide +kernel
theorem dX8_isFleet_2 : decode cX8_isFleet 2 = .ok (.aload_n 0, 1) := by decide +kernel
theorem dX8_isFleet_3 : decode cX8_isFleet 3 = .ok (.invokevirtual 80, 3) := by decide +kernel
theorem dX8_isFleet_6 : decode cX8_isFleet 6 = .ok (.iconst 1, 1) := by decide +kernel
theorem dX8_isFleet_7 : decode cX8_isFleet 7 = .ok (.isub, 1) := by decide +kernel
theorem dX8_isFleet_8 : decode cX8_isFleet 8 = .ok (.invokestatic 84, 3) := by decide +kernel
theorem dX8_isFleet_11 : decode cX8_isFleet 11 = .ok (.ireturn, 1) := by decide +kernel
theorem dX8_isClaim_0 : decode cX8_isClaim 0 = .ok (.iload_n 1, 1) := by decide +kernel
theorem dX8_isClaim_1 : decode cX8_isClaim 1 = .ok (.iconst 0, 1) := by decide +kernel
theorem dX8_isClaim_2 : decode cX8_isClaim 2 = .ok (.aload_n 0, 1) := by decide +kernel
theorem dX8_isClaim_3 : decode cX8_isClaim 3 = .ok (.invokevirtual 88, 3) := by decide +kernel
theorem dX8_isClaim_6 : decode cX8_isClaim 6 = .ok (.iconst 1, 1) := by decide +kernel
theorem dX8_isClaim_7 : decode cX8_isClaim 7 = .ok (.isub, 1) := by decide +kernel
theorem dX8_isClaim_8 : decode cX8_isClaim 8 = .ok (.invokestatic 84, 3) := by decide +kernel
theorem dX8_isClaim_11 : decode cX8_isClaim 11 = .ok (.ireturn, 1) := by decide +kernel
theorem dX8_isClass_0 : decode cX8_isClass 0 = .ok (.iload_n 0, 1) := by decide +kernel
theorem dX8_isClass_1 : decode cX8_isClass 1 = .ok (.iconst 0, 1) := by decide +kernel
theorem dX8_isClass_2 : decode cX8_isClass 2 = .ok (.iconst 2, 1) := by decide +kernel
theorem dX8_isClass_3 : decode cX8_isClass 3 = .ok (.invokestatic 84, 3) := by decide +kernel
theorem dX8_isClass_6 : decode cX8_isClass 6 = .ok (.ireturn, 1) := by decide +kernel
theorem dX8_isYear_0 : decode cX8_isYear 0 = .ok (.iload_n 0, 1) := by decide +kernel
theorem dX8_isYear_1 : decode cX8_isYear 1 = .ok (.iconst 0, 1) := by decide +kernel
theorem dX8_isYear_2 : decode cX8_isYear 2 = .ok (.iconst 4, 1) := by decide +kernel
theorem dX8_isYear_3 : decode cX8_isYear 3 = .ok (.invokestatic 84, 3) := by decide +kernel
theorem dX8_isYear_6 : decode cX8_isYear 6 = .ok (.ireturn, 1) := by decide +kernel
theorem dX8_isAmount_0 : decode cX8_isAmount 0 = .ok (.iload_n 0, 1) := by decide +kernel
theorem dX8_isAmount_1 : decode cX8_isAmount 1 = .ok (.iconst 1, 1) := by decide +kernel
theorem dX8_isAmount_2 : decode cX8_isAmount 2 = .ok (.bipush 99, 2) := by decide +kernel
theorem dX8_isAmount_4 : decode cX8_isAmount 4 = .ok (.invokestatic 84, 3) := by decide +kernel
theorem dX8_isAmount_7 : decode cX8_isAmount 7 = .ok (.ireturn, 1) := by decide +kernel
theorem dX8_classOf_0 : decode cX8_classOf 0 = .ok (.aload_n 0, 1) := by decide +kernel
theorem dX8_classOf_1 : decode cX8_classOf 1 = .ok (.getfield 13, 3) := by decide +kernel
theorem dX8_classOf_4 : decode cX8_classOf 4 = .ok (.iconst 4, 1) := by decide +kernel
theorem dX8_classOf_5 : decode cX8_classOf 5 = .ok (.iconst 2, 1) := by decide +kernel
theorem dX8_classOf_6 : decode cX8_classOf 6 = .ok (.iload_n 1, 1) := by decide +kernel
theorem dX8_classOf_7 : decode cX8_classOf 7 = .ok (.imul, 1) := by decide +kernel
theorem dX8_classOf_8 : decode cX8_classOf 8 = .ok (.iadd, 1) := by decide +kernel
theorem dX8_classOf_9 : decode cX8_classOf 9 = .ok (.iaload, 1) := by decide +kernel
theorem dX8_classOf_10 : decode cX8_classOf 10 = .ok (.ireturn, 1) := by decide +kernel
theorem dX8_yearsOf_0 : decode cX8_yearsOf 0 = .ok (.aload_n 0, 1) := by decide +kernel
theorem dX8_yearsOf_1 : decode cX8_yearsOf 1 = .ok (.getfield 13, 3) := by decide +kernel
theorem dX8_yearsOf_4 : decode cX8_yearsOf 4 = .ok (.iconst 4, 1) := by decide +kernel
theorem dX8_yearsOf_5 : decode cX8_yearsOf 5 = .ok (.iconst 2, 1) := by decide +kernel
theorem dX8_yearsOf_6 : decode cX8_yearsOf 6 = .ok (.iload_n 1, 1) := by decide +kernel
theorem dX8_yearsOf_7 : decode cX8_yearsOf 7 = .ok (.imul, 1) := by decide +kernel
theorem dX8_yearsOf_8 : decode cX8_yearsOf 8 = .ok (.iadd, 1) := by decide +kernel
theorem dX8_yearsOf_9 : decode cX8_yearsOf 9 = .ok (.iconst 1, 1) := by decide +kernel
theorem dX8_yearsOf_10 : decode cX8_yearsOf 10 = .ok (.iadd, 1) := by decide +kernel
theorem dX8_yearsOf_11 : decode cX8_yearsOf 11 = .ok (.iaload, 1) := by decide +kernel
theorem dX8_yearsOf_12 : decode cX8_yearsOf 12 = .ok (.ireturn, 1) := by decide +kernel
theorem dX8_isInsured_0 : decode cX8_isInsured 0 = .ok (.aload_n 0, 1) := by decide +kernel
theorem dX8_isInsured_1 : decode cX8_isInsured 1 = .ok (.iload_n 1, 1) := by decide +kernel
theorem dX8_isInsured_2 : decode cX8_isInsured 2 = .ok (.invokevirtual 91, 3) := by decide +kernel
theorem dX8_isInsured_5 : decode cX8_isInsured 5 = .ok (.iload_n 2, 1) := by decide +kernel
theorem dX8_isInsured_6 : decode cX8_isInsured 6 = .ok (.ishr, 1) := by decide +kernel
theorem dX8_isInsured_7 : decode cX8_isInsured 7 = .ok (.iconst 1, 1) := by decide +kernel
theorem dX8_isInsured_8 : decode cX8_isInsured 8 = .ok (.iand, 1) := by decide +kernel
theorem dX8_isInsured_9 : decode cX8_isInsured 9 = .ok (.iconst 1, 1) := by decide +kernel
theorem dX8_isInsured_10 : decode cX8_isInsured 10 = .ok (.if_icmp .ne 7, 3) := by decide +kernel
theorem dX8_isInsured_13 : decode cX8_isInsured 13 = .ok (.iconst 1, 1) := by decide +kernel
theorem dX8_isInsured_14 : decode cX8_isInsured 14 = .ok (.goto 4, 3) := by decide +kernel
theorem dX8_isInsured_17 : decode cX8_isInsured 17 = .ok (.iconst 0, 1) := by decide +kernel
theorem dX8_isInsured_18 : decode cX8_isInsured 18 = .ok (.ireturn, 1) := by decide +kernel
theorem dX8_fleetOf_0 : decode cX8_fleetOf 0 = .ok (.aload_n 0, 1) := by decide +kernel
theorem dX8_fleetOf_1 : decode cX8_fleetOf 1 = .ok (.getfield 13, 3) := by decide +kernel
theorem dX8_fleetOf_4 : decode cX8_fleetOf 4 = .ok (.bipush 20, 2) := by decide +kernel
theorem dX8_fleetOf_6 : decode cX8_fleetOf 6 = .ok (.iconst 3, 1) := by decide +kernel
theorem dX8_fleetOf_7 : decode cX8_fleetOf 7 = .ok (.iload_n 1, 1) := by decide +kernel
theorem dX8_fleetOf_8 : decode cX8_fleetOf 8 = .ok (.imul, 1) := by decide +kernel
theorem dX8_fleetOf_9 : decode cX8_fleetOf 9 = .ok (.iadd, 1) := by decide +kernel
theorem dX8_fleetOf_10 : decode cX8_fleetOf 10 = .ok (.iaload, 1) := by decide +kernel
theorem dX8_fleetOf_11 : decode cX8_fleetOf 11 = .ok (.ireturn, 1) := by decide +kernel
theorem dX8_yearOf_0 : decode cX8_yearOf 0 = .ok (.aload_n 0, 1) := by decide +kernel
theorem dX8_yearOf_1 : decode cX8_yearOf 1 = .ok (.getfield 13, 3) := by decide +kernel
theorem dX8_yearOf_4 : decode cX8_yearOf 4 = .ok (.bipush 20, 2) := by decide +kernel
theorem dX8_yearOf_6 : decode cX8_yearOf 6 = .ok (.iconst 3, 1) := by decide +kernel
theorem dX8_yearOf_7 : decode cX8_yearOf 7 = .ok (.iload_n 1, 1) := by decide +kernel
theorem dX8_yearOf_8 : decode cX8_yearOf 8 = .ok (.imul, 1) := by decide +kernel
theorem dX8_yearOf_9 : decode cX8_yearOf 9 = .ok (.iadd, 1) := by decide +kernel
theorem dX8_yearOf_10 : decode cX8_yearOf 10 = .ok (.iconst 1, 1) := by decide +kernel
theorem dX8_yearOf_11 : decode cX8_yearOf 11 = .ok (.iadd, 1) := by decide +kernel
theorem dX8_yearOf_12 : decode cX8_yearOf 12 = .ok (.iaload, 1) := by decide +kernel
theorem dX8_yearOf_13 : decode cX8_yearOf 13 = .ok (.ireturn, 1) := by decide +kernel
theorem dX8_amountOf_0 : decode cX8_amountOf 0 = .ok (.aload_n 0, 1) := by decide +kernel
theorem dX8_amountOf_1 : decode cX8_amountOf 1 = .ok (.getfield 13, 3) := by decide +kernel
theorem dX8_amountOf_4 : decode cX8_amountOf 4 = .ok (.bipush 20, 2) := by decide +kernel
theorem dX8_amountOf_6 : decode cX8_amountOf 6 = .ok (.iconst 3, 1) := by decide +kernel
theorem dX8_amountOf_7 : decode cX8_amountOf 7 = .ok (.iload_n 1, 1) := by decide +kernel
theorem dX8_amountOf_8 : decode cX8_amountOf 8 = .ok (.imul, 1) := by decide +kernel
theorem dX8_amountOf_9 : decode cX8_amountOf 9 = .ok (.iadd, 1) := by decide +kernel
theorem dX8_amountOf_10 : decode cX8_amountOf 10 = .ok (.iconst 2, 1) := by decide +kernel
theorem dX8_amountOf_11 : decode cX8_amountOf 11 = .ok (.iadd, 1) := by decide +kernel
theorem dX8_amountOf_12 : decode cX8_amountOf 12 = .ok (.iaload, 1) := by decide +kernel
theorem dX8_amountOf_13 : decode cX8_amountOf 13 = .ok (.ireturn, 1) := by decide +kernel
theorem dX8_counted_0 : decode cX8_counted 0 = .ok (.aload_n 0, 1) := by decide +kernel
theorem dX8_counted_1 : decode cX8_counted 1 = .ok (.iload_n 1, 1) := by decide +kernel
theorem dX8_counted_2 : decode cX8_counted 2 = .ok (.invokevirtual 95, 3) := by decide +kernel
theorem dX8_counted_5 : decode cX8_counted 5 = .ok (.aload_n 0, 1) := by decide +kernel
theorem dX8_counted_6 : decode cX8_counted 6 = .ok (.getfield 13, 3) := by decide +kernel
theorem dX8_counted_9 : decode cX8_counted 9 = .ok (.iconst 0, 1) := by decide +kernel
theorem dX8_counted_10 : decode cX8_counted 10 = .ok (.iaload, 1) := by decide +kernel
theorem dX8_counted_11 : decode cX8_counted 11 = .ok (.if_icmp .ge 11, 3) := by decide +kernel
theorem dX8_counted_14 : decode cX8_counted 14 = .ok (.aload_n 0, 1) := by decide +kernel
theorem dX8_counted_15 : decode cX8_counted 15 = .ok (.iload_n 1, 1) := by decide +kernel
theorem dX8_counted_16 : decode cX8_counted 16 = .ok (.invokevirtual 95, 3) := by decide +kernel
theorem dX8_counted_19 : decode cX8_counted 19 = .ok (.goto 9, 3) := by decide +kernel
theorem dX8_counted_22 : decode cX8_counted 22 = .ok (.aload_n 0, 1) := by decide +kernel
theorem dX8_counted_23 : decode cX8_counted 23 = .ok (.getfield 13, 3) := by decide +kernel
theorem dX8_counted_26 : decode cX8_counted 26 = .ok (.iconst 0, 1) := by decide +kernel
theorem dX8_counted_27 : decode cX8_counted 27 = .ok (.iaload, 1) := by decide +kernel
theorem dX8_counted_28 : decode cX8_counted 28 = .ok (.ireturn, 1) := by decide +kernel
theorem dX8_drops_0 : decode cX8_drops 0 = .ok (.bipush 20, 2) := by decide +kernel
theorem dX8_drops_2 : decode cX8_drops 2 = .ok (.iconst 3, 1) := by decide +kernel
theorem dX8_drops_3 : decode cX8_drops 3 = .ok (.iload_n 1, 1) := by decide +kernel
theorem dX8_drops_4 : decode cX8_drops 4 = .ok (.imul, 1) := by decide +kernel
theorem dX8_drops_5 : decode cX8_drops 5 = .ok (.iadd, 1) := by decide +kernel
theorem dX8_drops_6 : decode cX8_drops 6 = .ok (.istore_n 2, 1) := by decide +kernel
theorem dX8_drops_7 : decode cX8_drops 7 = .ok (.iload_n 2, 1) := by decide +kernel
theorem dX8_drops_8 : decode cX8_drops 8 = .ok (.bipush 20, 2) := by decide +kernel
theorem dX8_drops_10 : decode cX8_drops 10 = .ok (.iconst 3, 1) := by decide +kernel
theorem dX8_drops_11 : decode cX8_drops 11 = .ok (.aload_n 0, 1) := by decide +kernel
theorem dX8_drops_12 : decode cX8_drops 12 = .ok (.invokevirtual 88, 3) := by decide +kernel
theorem dX8_drops_15 : decode cX8_drops 15 = .ok (.imul, 1) := by decide +kernel
theorem dX8_drops_16 : decode cX8_drops 16 = .ok (.iadd, 1) := by decide +kernel
theorem dX8_drops_17 : decode cX8_drops 17 = .ok (.iconst 3, 1) := by decide +kernel
theorem dX8_drops_18 : decode cX8_drops 18 = .ok (.isub, 1) := by decide +kernel
theorem dX8_drops_19 : decode cX8_drops 19 = .ok (.if_icmp .ge 23, 3) := by decide +kernel
theorem dX8_drops_22 : decode cX8_drops 22 = .ok (.aload_n 0, 1) := by decide +kernel
theorem dX8_drops_23 : decode cX8_drops 23 = .ok (.getfield 13, 3) := by decide +kernel
theorem dX8_drops_26 : decode cX8_drops 26 = .ok (.iload_n 2, 1) := by decide +kernel
theorem dX8_drops_27 : decode cX8_drops 27 = .ok (.aload_n 0, 1) := by decide +kernel
theorem dX8_drops_28 : decode cX8_drops 28 = .ok (.getfield 13, 3) := by decide +kernel
theorem dX8_drops_31 : decode cX8_drops 31 = .ok (.iload_n 2, 1) := by decide +kernel
theorem dX8_drops_32 : decode cX8_drops 32 = .ok (.iconst 3, 1) := by decide +kernel
theorem dX8_drops_33 : decode cX8_drops 33 = .ok (.iadd, 1) := by decide +kernel
theorem dX8_drops_34 : decode cX8_drops 34 = .ok (.iaload, 1) := by decide +kernel
theorem dX8_drops_35 : decode cX8_drops 35 = .ok (.iastore, 1) := by decide +kernel
theorem dX8_drops_36 : decode cX8_drops 36 = .ok (.iinc 2 1, 3) := by decide +kernel
theorem dX8_drops_39 : decode cX8_drops 39 = .ok (.goto (-32), 3) := by decide +kernel
theorem dX8_drops_42 : decode cX8_drops 42 = .ok (.aload_n 0, 1) := by decide +kernel
theorem dX8_drops_43 : decode cX8_drops 43 = .ok (.getfield 13, 3) := by decide +kernel
theorem dX8_drops_46 : decode cX8_drops 46 = .ok (.iconst 3, 1) := by decide +kernel
theorem dX8_drops_47 : decode cX8_drops 47 = .ok (.dup2, 1) := by decide +kernel
theorem dX8_drops_48 : decode cX8_drops 48 = .ok (.iaload, 1) := by decide +kernel
theorem dX8_drops_49 : decode cX8_drops 49 = .ok (.iconst 1, 1) := by decide +kernel
theorem dX8_drops_50 : decode cX8_drops 50 = .ok (.isub, 1) := by decide +kernel
theorem dX8_drops_51 : decode cX8_drops 51 = .ok (.iastore, 1) := by decide +kernel
theorem dX8_drops_52 : decode cX8_drops 52 = .ok (.return_, 1) := by decide +kernel
theorem dX8_dropsAll_0 : decode cX8_dropsAll 0 = .ok (.iconst 0, 1) := by decide +kernel
theorem dX8_dropsAll_1 : decode cX8_dropsAll 1 = .ok (.istore_n 3, 1) := by decide +kernel
theorem dX8_dropsAll_2 : decode cX8_dropsAll 2 = .ok (.aload_n 0, 1) := by decide +kernel
theorem dX8_dropsAll_3 : decode cX8_dropsAll 3 = .ok (.invokevirtual 88, 3) := by decide +kernel
theorem dX8_dropsAll_6 : decode cX8_dropsAll 6 = .ok (.iconst 1, 1) := by decide +kernel
theorem dX8_dropsAll_7 : decode cX8_dropsAll 7 = .ok (.isub, 1) := by decide +kernel
theorem dX8_dropsAll_8 : decode cX8_dropsAll 8 = .ok (.istore 4, 2) := by decide +kernel
theorem dX8_dropsAll_10 : decode cX8_dropsAll 10 = .ok (.iload 4, 2) := by decide +kernel
theorem dX8_dropsAll_12 : decode cX8_dropsAll 12 = .ok (.ifCond .lt 51, 3) := by decide +kernel
theorem dX8_dropsAll_15 : decode cX8_dropsAll 15 = .ok (.iload_n 1, 1) := by decide +kernel
theorem dX8_dropsAll_16 : decode cX8_dropsAll 16 = .ok (.iconst (-1), 1) := by decide +kernel
theorem dX8_dropsAll_17 : decode cX8_dropsAll 17 = .ok (.if_icmp .eq 13, 3) := by decide +kernel
theorem dX8_dropsAll_20 : decode cX8_dropsAll 20 = .ok (.aload_n 0, 1) := by decide +kernel
theorem dX8_dropsAll_21 : decode cX8_dropsAll 21 = .ok (.iload 4, 2) := by decide +kernel
theorem dX8_dropsAll_23 : decode cX8_dropsAll 23 = .ok (.invokevirtual 98, 3) := by decide +kernel
theorem dX8_dropsAll_26 : decode cX8_dropsAll 26 = .ok (.iload_n 1, 1) := by decide +kernel
theorem dX8_dropsAll_27 : decode cX8_dropsAll 27 = .ok (.if_icmp .ne 30, 3) := by decide +kernel
theorem dX8_dropsAll_30 : decode cX8_dropsAll 30 = .ok (.iload_n 2, 1) := by decide +kernel
theorem dX8_dropsAll_31 : decode cX8_dropsAll 31 = .ok (.iconst (-1), 1) := by decide +kernel
theorem dX8_dropsAll_32 : decode cX8_dropsAll 32 = .ok (.if_icmp .eq 16, 3) := by decide +kernel
theorem dX8_dropsAll_35 : decode cX8_dropsAll 35 = .ok (.aload_n 0, 1) := by decide +kernel
theorem dX8_dropsAll_36 : decode cX8_dropsAll 36 = .ok (.iload 4, 2) := by decide +kernel
theorem dX8_dropsAll_38 : decode cX8_dropsAll 38 = .ok (.invokevirtual 101, 3) := by decide +kernel
theorem dX8_dropsAll_41 : decode cX8_dropsAll 41 = .ok (.iload_n 2, 1) := by decide +kernel
theorem dX8_dropsAll_42 : decode cX8_dropsAll 42 = .ok (.if_icmp .eq 6, 3) := by decide +kernel
theorem dX8_dropsAll_45 : decode cX8_dropsAll 45 = .ok (.goto 12, 3) := by decide +kernel
theorem dX8_dropsAll_48 : decode cX8_dropsAll 48 = .ok (.aload_n 0, 1) := by decide +kernel
theorem dX8_dropsAll_49 : decode cX8_dropsAll 49 = .ok (.iload 4, 2) := by decide +kernel
theorem dX8_dropsAll_51 : decode cX8_dropsAll 51 = .ok (.invokevirtual 104, 3) := by decide +kernel
theorem dX8_dropsAll_54 : decode cX8_dropsAll 54 = .ok (.iinc 3 1, 3) := by decide +kernel
theorem dX8_dropsAll_57 : decode cX8_dropsAll 57 = .ok (.iinc 4 (-1), 3) := by decide +kernel
theorem dX8_dropsAll_60 : decode cX8_dropsAll 60 = .ok (.goto (-50), 3) := by decide +kernel
theorem dX8_dropsAll_63 : decode cX8_dropsAll 63 = .ok (.iload_n 3, 1) := by decide +kernel
theorem dX8_dropsAll_64 : decode cX8_dropsAll 64 = .ok (.ireturn, 1) := by decide +kernel
theorem dX8_fleet_0 : decode cX8_fleet 0 = .ok (.iload_n 1, 1) := by decide +kernel
theorem dX8_fleet_1 : decode cX8_fleet 1 = .ok (.invokestatic 108, 3) := by decide +kernel
theorem dX8_fleet_4 : decode cX8_fleet 4 = .ok (.ifCond .eq 22, 3) := by decide +kernel
theorem dX8_fleet_7 : decode cX8_fleet 7 = .ok (.iload_n 2, 1) := by decide +kernel
theorem dX8_fleet_8 : decode cX8_fleet 8 = .ok (.iconst 0, 1) := by decide +kernel
theorem dX8_fleet_9 : decode cX8_fleet 9 = .ok (.bipush 31, 2) := by decide +kernel
theorem dX8_fleet_11 : decode cX8_fleet 11 = .ok (.invokestatic 84, 3) := by decide +kernel
theorem dX8_fleet_14 : decode cX8_fleet 14 = .ok (.ifCond .eq 12, 3) := by decide +kernel
theorem dX8_fleet_17 : decode cX8_fleet 17 = .ok (.aload_n 0, 1) := by decide +kernel
theorem dX8_fleet_18 : decode cX8_fleet 18 = .ok (.invokevirtual 80, 3) := by decide +kernel
theorem dX8_fleet_21 : decode cX8_fleet 21 = .ok (.bipush 8, 2) := by decide +kernel
theorem dX8_fleet_23 : decode cX8_fleet 23 = .ok (.if_icmp .ne 5, 3) := by decide +kernel
theorem dX8_fleet_26 : decode cX8_fleet 26 = .ok (.iconst (-1), 1) := by decide +kernel
theorem dX8_fleet_27 : decode cX8_fleet 27 = .ok (.ireturn, 1) := by decide +kernel
theorem dX8_fleet_28 : decode cX8_fleet 28 = .ok (.aload_n 0, 1) := by decide +kernel
theorem dX8_fleet_29 : decode cX8_fleet 29 = .ok (.invokevirtual 112, 3) := by decide +kernel
theorem dX8_fleet_32 : decode cX8_fleet 32 = .ok (.aload_n 0, 1) := by decide +kernel
theorem dX8_fleet_33 : decode cX8_fleet 33 = .ok (.getfield 13, 3) := by decide +kernel
theorem dX8_fleet_36 : decode cX8_fleet 36 = .ok (.iconst 4, 1) := by decide +kernel
theorem dX8_fleet_37 : decode cX8_fleet 37 = .ok (.iconst 2, 1) := by decide +kernel
theorem dX8_fleet_38 : decode cX8_fleet 38 = .ok (.aload_n 0, 1) := by decide +kernel
theorem dX8_fleet_39 : decode cX8_fleet 39 = .ok (.invokevirtual 80, 3) := by decide +kernel
theorem dX8_fleet_42 : decode cX8_fleet 42 = .ok (.imul, 1) := by decide +kernel
theorem dX8_fleet_43 : decode cX8_fleet 43 = .ok (.iadd, 1) := by decide +kernel
theorem dX8_fleet_44 : decode cX8_fleet 44 = .ok (.iload_n 1, 1) := by decide +kernel
theorem dX8_fleet_45 : decode cX8_fleet 45 = .ok (.iastore, 1) := by decide +kernel
theorem dX8_fleet_46 : decode cX8_fleet 46 = .ok (.aload_n 0, 1) := by decide +kernel
theorem dX8_fleet_47 : decode cX8_fleet 47 = .ok (.getfield 13, 3) := by decide +kernel
theorem dX8_fleet_50 : decode cX8_fleet 50 = .ok (.iconst 4, 1) := by decide +kernel
theorem dX8_fleet_51 : decode cX8_fleet 51 = .ok (.iconst 2, 1) := by decide +kernel
theorem dX8_fleet_52 : decode cX8_fleet 52 = .ok (.aload_n 0, 1) := by decide +kernel
theorem dX8_fleet_53 : decode cX8_fleet 53 = .ok (.invokevirtual 80, 3) := by decide +kernel
theorem dX8_fleet_56 : decode cX8_fleet 56 = .ok (.imul, 1) := by decide +kernel
theorem dX8_fleet_57 : decode cX8_fleet 57 = .ok (.iadd, 1) := by decide +kernel
theorem dX8_fleet_58 : decode cX8_fleet 58 = .ok (.iconst 1, 1) := by decide +kernel
theorem dX8_fleet_59 : decode cX8_fleet 59 = .ok (.iadd, 1) := by decide +kernel
theorem dX8_fleet_60 : decode cX8_fleet 60 = .ok (.iload_n 2, 1) := by decide +kernel
theorem dX8_fleet_61 : decode cX8_fleet 61 = .ok (.iastore, 1) := by decide +kernel
theorem dX8_fleet_62 : decode cX8_fleet 62 = .ok (.aload_n 0, 1) := by decide +kernel
theorem dX8_fleet_63 : decode cX8_fleet 63 = .ok (.getfield 13, 3) := by decide +kernel
theorem dX8_fleet_66 : decode cX8_fleet 66 = .ok (.iconst 2, 1) := by decide +kernel
theorem dX8_fleet_67 : decode cX8_fleet 67 = .ok (.dup2, 1) := by decide +kernel
theorem dX8_fleet_68 : decode cX8_fleet 68 = .ok (.iaload, 1) := by decide +kernel
theorem dX8_fleet_69 : decode cX8_fleet 69 = .ok (.iconst 1, 1) := by decide +kernel
theorem dX8_fleet_70 : decode cX8_fleet 70 = .ok (.iadd, 1) := by decide +kernel
theorem dX8_fleet_71 : decode cX8_fleet 71 = .ok (.iastore, 1) := by decide +kernel
theorem dX8_fleet_72 : decode cX8_fleet 72 = .ok (.aload_n 0, 1) := by decide +kernel
theorem dX8_fleet_73 : decode cX8_fleet 73 = .ok (.invokevirtual 80, 3) := by decide +kernel
theorem dX8_fleet_76 : decode cX8_fleet 76 = .ok (.iconst 1, 1) := by decide +kernel
theorem dX8_fleet_77 : decode cX8_fleet 77 = .ok (.isub, 1) := by decide +kernel
theorem dX8_fleet_78 : decode cX8_fleet 78 = .ok (.ireturn, 1) := by decide +kernel
theorem dX8_leave_0 : decode cX8_leave 0 = .ok (.aload_n 0, 1) := by decide +kernel
theorem dX8_leave_1 : decode cX8_leave 1 = .ok (.iload_n 1, 1) := by decide +kernel
theorem dX8_leave_2 : decode cX8_leave 2 = .ok (.invokevirtual 115, 3) := by decide +kernel
theorem dX8_leave_5 : decode cX8_leave 5 = .ok (.ifCond .ne 5, 3) := by decide +kernel
theorem dX8_leave_8 : decode cX8_leave 8 = .ok (.iconst 0, 1) := by decide +kernel
theorem dX8_leave_9 : decode cX8_leave 9 = .ok (.ireturn, 1) := by decide +kernel
theorem dX8_leave_10 : decode cX8_leave 10 = .ok (.aload_n 0, 1) := by decide +kernel
theorem dX8_leave_11 : decode cX8_leave 11 = .ok (.invokevirtual 112, 3) := by decide +kernel
theorem dX8_leave_14 : decode cX8_leave 14 = .ok (.aload_n 0, 1) := by decide +kernel
theorem dX8_leave_15 : decode cX8_leave 15 = .ok (.iload_n 1, 1) := by decide +kernel
theorem dX8_leave_16 : decode cX8_leave 16 = .ok (.iconst (-1), 1) := by decide +kernel
theorem dX8_leave_17 : decode cX8_leave 17 = .ok (.invokevirtual 118, 3) := by decide +kernel
theorem dX8_leave_20 : decode cX8_leave 20 = .ok (.pop, 1) := by decide +kernel
theorem dX8_leave_21 : decode cX8_leave 21 = .ok (.aload_n 0, 1) := by decide +kernel
theorem dX8_leave_22 : decode cX8_leave 22 = .ok (.iload_n 1, 1) := by decide +kernel
theorem dX8_leave_23 : decode cX8_leave 23 = .ok (.invokevirtual 122, 3) := by decide +kernel
theorem dX8_leave_26 : decode cX8_leave 26 = .ok (.iconst 1, 1) := by decide +kernel
theorem dX8_leave_27 : decode cX8_leave 27 = .ok (.ireturn, 1) := by decide +kernel
theorem dX8_goes_0 : decode cX8_goes 0 = .ok (.iconst 0, 1) := by decide +kernel
theorem dX8_goes_1 : decode cX8_goes 1 = .ok (.istore_n 2, 1) := by decide +kernel
theorem dX8_goes_2 : decode cX8_goes 2 = .ok (.iload_n 2, 1) := by decide +kernel
theorem dX8_goes_3 : decode cX8_goes 3 = .ok (.aload_n 0, 1) := by decide +kernel
theorem dX8_goes_4 : decode cX8_goes 4 = .ok (.invokevirtual 88, 3) := by decide +kernel
theorem dX8_goes_7 : decode cX8_goes 7 = .ok (.if_icmp .ge 33, 3) := by decide +kernel
theorem dX8_goes_10 : decode cX8_goes 10 = .ok (.aload_n 0, 1) := by decide +kernel
theorem dX8_goes_11 : decode cX8_goes 11 = .ok (.iload_n 2, 1) := by decide +kernel
theorem dX8_goes_12 : decode cX8_goes 12 = .ok (.invokevirtual 98, 3) := by decide +kernel
theorem dX8_goes_15 : decode cX8_goes 15 = .ok (.iload_n 1, 1) := by decide +kernel
theorem dX8_goes_16 : decode cX8_goes 16 = .ok (.if_icmp .le 18, 3) := by decide +kernel
theorem dX8_goes_19 : decode cX8_goes 19 = .ok (.aload_n 0, 1) := by decide +kernel
theorem dX8_goes_20 : decode cX8_goes 20 = .ok (.getfield 13, 3) := by decide +kernel
theorem dX8_goes_23 : decode cX8_goes 23 = .ok (.bipush 20, 2) := by decide +kernel
theorem dX8_goes_25 : decode cX8_goes 25 = .ok (.iconst 3, 1) := by decide +kernel
theorem dX8_goes_26 : decode cX8_goes 26 = .ok (.iload_n 2, 1) := by decide +kernel
theorem dX8_goes_27 : decode cX8_goes 27 = .ok (.imul, 1) := by decide +kernel
theorem dX8_goes_28 : decode cX8_goes 28 = .ok (.iadd, 1) := by decide +kernel
theorem dX8_goes_29 : decode cX8_goes 29 = .ok (.dup2, 1) := by decide +kernel
theorem dX8_goes_30 : decode cX8_goes 30 = .ok (.iaload, 1) := by decide +kernel
theorem dX8_goes_31 : decode cX8_goes 31 = .ok (.iconst 1, 1) := by decide +kernel
theorem dX8_goes_32 : decode cX8_goes 32 = .ok (.isub, 1) := by decide +kernel
theorem dX8_goes_33 : decode cX8_goes 33 = .ok (.iastore, 1) := by decide +kernel
theorem dX8_goes_34 : decode cX8_goes 34 = .ok (.iinc 2 1, 3) := by decide +kernel
theorem dX8_goes_37 : decode cX8_goes 37 = .ok (.goto (-35), 3) := by decide +kernel
theorem dX8_goes_40 : decode cX8_goes 40 = .ok (.iconst 4, 1) := by decide +kernel
theorem dX8_goes_41 : decode cX8_goes 41 = .ok (.iconst 2, 1) := by decide +kernel
theorem dX8_goes_42 : decode cX8_goes 42 = .ok (.iload_n 1, 1) := by decide +kernel
theorem dX8_goes_43 : decode cX8_goes 43 = .ok (.imul, 1) := by decide +kernel
theorem dX8_goes_44 : decode cX8_goes 44 = .ok (.iadd, 1) := by decide +kernel
theorem dX8_goes_45 : decode cX8_goes 45 = .ok (.istore_n 2, 1) := by decide +kernel
theorem dX8_goes_46 : decode cX8_goes 46 = .ok (.iload_n 2, 1) := by decide +kernel
theorem dX8_goes_47 : decode cX8_goes 47 = .ok (.iconst 4, 1) := by decide +kernel
theorem dX8_goes_48 : decode cX8_goes 48 = .ok (.iconst 2, 1) := by decide +kernel
theorem dX8_goes_49 : decode cX8_goes 49 = .ok (.aload_n 0, 1) := by decide +kernel
theorem dX8_goes_50 : decode cX8_goes 50 = .ok (.invokevirtual 80, 3) := by decide +kernel
theorem dX8_goes_53 : decode cX8_goes 53 = .ok (.imul, 1) := by decide +kernel
theorem dX8_goes_54 : decode cX8_goes 54 = .ok (.iadd, 1) := by decide +kernel
theorem dX8_goes_55 : decode cX8_goes 55 = .ok (.iconst 2, 1) := by decide +kernel
theorem dX8_goes_56 : decode cX8_goes 56 = .ok (.isub, 1) := by decide +kernel
theorem dX8_goes_57 : decode cX8_goes 57 = .ok (.if_icmp .ge 23, 3) := by decide +kernel
theorem dX8_goes_60 : decode cX8_goes 60 = .ok (.aload_n 0, 1) := by decide +kernel
theorem dX8_goes_61 : decode cX8_goes 61 = .ok (.getfield 13, 3) := by decide +kernel
theorem dX8_goes_64 : decode cX8_goes 64 = .ok (.iload_n 2, 1) := by decide +kernel
theorem dX8_goes_65 : decode cX8_goes 65 = .ok (.aload_n 0, 1) := by decide +kernel
theorem dX8_goes_66 : decode cX8_goes 66 = .ok (.getfield 13, 3) := by decide +kernel
theorem dX8_goes_69 : decode cX8_goes 69 = .ok (.iload_n 2, 1) := by decide +kernel
theorem dX8_goes_70 : decode cX8_goes 70 = .ok (.iconst 2, 1) := by decide +kernel
theorem dX8_goes_71 : decode cX8_goes 71 = .ok (.iadd, 1) := by decide +kernel
theorem dX8_goes_72 : decode cX8_goes 72 = .ok (.iaload, 1) := by decide +kernel
theorem dX8_goes_73 : decode cX8_goes 73 = .ok (.iastore, 1) := by decide +kernel
theorem dX8_goes_74 : decode cX8_goes 74 = .ok (.iinc 2 1, 3) := by decide +kernel
theorem dX8_goes_77 : decode cX8_goes 77 = .ok (.goto (-31), 3) := by decide +kernel
theorem dX8_goes_80 : decode cX8_goes 80 = .ok (.aload_n 0, 1) := by decide +kernel
theorem dX8_goes_81 : decode cX8_goes 81 = .ok (.getfield 13, 3) := by decide +kernel
theorem dX8_goes_84 : decode cX8_goes 84 = .ok (.iconst 2, 1) := by decide +kernel
theorem dX8_goes_85 : decode cX8_goes 85 = .ok (.dup2, 1) := by decide +kernel
theorem dX8_goes_86 : decode cX8_goes 86 = .ok (.iaload, 1) := by decide +kernel
theorem dX8_goes_87 : decode cX8_goes 87 = .ok (.iconst 1, 1) := by decide +kernel
theorem dX8_goes_88 : decode cX8_goes 88 = .ok (.isub, 1) := by decide +kernel
theorem dX8_goes_89 : decode cX8_goes 89 = .ok (.iastore, 1) := by decide +kernel
theorem dX8_goes_90 : decode cX8_goes 90 = .ok (.return_, 1) := by decide +kernel
theorem dX8_becomes_0 : decode cX8_becomes 0 = .ok (.aload_n 0, 1) := by decide +kernel
theorem dX8_becomes_1 : decode cX8_becomes 1 = .ok (.invokevirtual 112, 3) := by decide +kernel
theorem dX8_becomes_4 : decode cX8_becomes 4 = .ok (.aload_n 0, 1) := by decide +kernel
theorem dX8_becomes_5 : decode cX8_becomes 5 = .ok (.getfield 13, 3) := by decide +kernel
theorem dX8_becomes_8 : decode cX8_becomes 8 = .ok (.iload_n 1, 1) := by decide +kernel
theorem dX8_becomes_9 : decode cX8_becomes 9 = .ok (.iaload, 1) := by decide +kernel
theorem dX8_becomes_10 : decode cX8_becomes 10 = .ok (.istore_n 3, 1) := by decide +kernel
theorem dX8_becomes_11 : decode cX8_becomes 11 = .ok (.aload_n 0, 1) := by decide +kernel
theorem dX8_becomes_12 : decode cX8_becomes 12 = .ok (.getfield 13, 3) := by decide +kernel
theorem dX8_becomes_15 : decode cX8_becomes 15 = .ok (.iload_n 1, 1) := by decide +kernel
theorem dX8_becomes_16 : decode cX8_becomes 16 = .ok (.iload_n 2, 1) := by decide +kernel
theorem dX8_becomes_17 : decode cX8_becomes 17 = .ok (.iastore, 1) := by decide +kernel
theorem dX8_becomes_18 : decode cX8_becomes 18 = .ok (.iload_n 3, 1) := by decide +kernel
theorem dX8_becomes_19 : decode cX8_becomes 19 = .ok (.ireturn, 1) := by decide +kernel
theorem dX8_move_0 : decode cX8_move 0 = .ok (.aload_n 0, 1) := by decide +kernel
theorem dX8_move_1 : decode cX8_move 1 = .ok (.iload_n 1, 1) := by decide +kernel
theorem dX8_move_2 : decode cX8_move 2 = .ok (.invokevirtual 115, 3) := by decide +kernel
theorem dX8_move_5 : decode cX8_move 5 = .ok (.ifCond .eq 32, 3) := by decide +kernel
theorem dX8_move_8 : decode cX8_move 8 = .ok (.iload_n 2, 1) := by decide +kernel
theorem dX8_move_9 : decode cX8_move 9 = .ok (.invokestatic 108, 3) := by decide +kernel
theorem dX8_move_12 : decode cX8_move 12 = .ok (.ifCond .eq 25, 3) := by decide +kernel
theorem dX8_move_15 : decode cX8_move 15 = .ok (.aload_n 0, 1) := by decide +kernel
theorem dX8_move_16 : decode cX8_move 16 = .ok (.iload_n 1, 1) := by decide +kernel
theorem dX8_move_17 : decode cX8_move 17 = .ok (.invokevirtual 125, 3) := by decide +kernel
theorem dX8_move_20 : decode cX8_move 20 = .ok (.iload_n 2, 1) := by decide +kernel
theorem dX8_move_21 : decode cX8_move 21 = .ok (.if_icmp .eq 16, 3) := by decide +kernel
theorem dX8_move_24 : decode cX8_move 24 = .ok (.aload_n 0, 1) := by decide +kernel
theorem dX8_move_25 : decode cX8_move 25 = .ok (.iconst 4, 1) := by decide +kernel
theorem dX8_move_26 : decode cX8_move 26 = .ok (.iconst 2, 1) := by decide +kernel
theorem dX8_move_27 : decode cX8_move 27 = .ok (.iload_n 1, 1) := by decide +kernel
theorem dX8_move_28 : decode cX8_move 28 = .ok (.imul, 1) := by decide +kernel
theorem dX8_move_29 : decode cX8_move 29 = .ok (.iadd, 1) := by decide +kernel
theorem dX8_move_30 : decode cX8_move 30 = .ok (.iload_n 2, 1) := by decide +kernel
theorem dX8_move_31 : decode cX8_move 31 = .ok (.invokevirtual 128, 3) := by decide +kernel
theorem dX8_move_34 : decode cX8_move 34 = .ok (.goto 4, 3) := by decide +kernel
theorem dX8_move_37 : decode cX8_move 37 = .ok (.iconst (-1), 1) := by decide +kernel
theorem dX8_move_38 : decode cX8_move 38 = .ok (.ireturn, 1) := by decide +kernel
theorem dX8_ones_0 : decode cX8_ones 0 = .ok (.iconst 0, 1) := by decide +kernel
theorem dX8_ones_1 : decode cX8_ones 1 = .ok (.istore_n 1, 1) := by decide +kernel
theorem dX8_ones_2 : decode cX8_ones 2 = .ok (.iconst 0, 1) := by decide +kernel
theorem dX8_ones_3 : decode cX8_ones 3 = .ok (.istore_n 2, 1) := by decide +kernel
theorem dX8_ones_4 : decode cX8_ones 4 = .ok (.iload_n 2, 1) := by decide +kernel
theorem dX8_ones_5 : decode cX8_ones 5 = .ok (.iconst 5, 1) := by decide +kernel
theorem dX8_ones_6 : decode cX8_ones 6 = .ok (.if_icmp .ge 17, 3) := by decide +kernel
theorem dX8_ones_9 : decode cX8_ones 9 = .ok (.iload_n 1, 1) := by decide +kernel
theorem dX8_ones_10 : decode cX8_ones 10 = .ok (.iload_n 0, 1) := by decide +kernel
theorem dX8_ones_11 : decode cX8_ones 11 = .ok (.iload_n 2, 1) := by decide +kernel
theorem dX8_ones_12 : decode cX8_ones 12 = .ok (.ishr, 1) := by decide +kernel
theorem dX8_ones_13 : decode cX8_ones 13 = .ok (.iconst 1, 1) := by decide +kernel
theorem dX8_ones_14 : decode cX8_ones 14 = .ok (.iand, 1) := by decide +kernel
theorem dX8_ones_15 : decode cX8_ones 15 = .ok (.iadd, 1) := by decide +kernel
theorem dX8_ones_16 : decode cX8_ones 16 = .ok (.istore_n 1, 1) := by decide +kernel
theorem dX8_ones_17 : decode cX8_ones 17 = .ok (.iinc 2 1, 3) := by decide +kernel
theorem dX8_ones_20 : decode cX8_ones 20 = .ok (.goto (-16), 3) := by decide +kernel
theorem dX8_ones_23 : decode cX8_ones 23 = .ok (.iload_n 1, 1) := by decide +kernel
theorem dX8_ones_24 : decode cX8_ones 24 = .ok (.ireturn, 1) := by decide +kernel
theorem dX8_insure_0 : decode cX8_insure 0 = .ok (.aload_n 0, 1) := by decide +kernel
theorem dX8_insure_1 : decode cX8_insure 1 = .ok (.iload_n 1, 1) := by decide +kernel
theorem dX8_insure_2 : decode cX8_insure 2 = .ok (.invokevirtual 115, 3) := by decide +kernel
theorem dX8_insure_5 : decode cX8_insure 5 = .ok (.ifCond .eq 19, 3) := by decide +kernel
theorem dX8_insure_8 : decode cX8_insure 8 = .ok (.iload_n 2, 1) := by decide +kernel
theorem dX8_insure_9 : decode cX8_insure 9 = .ok (.invokestatic 131, 3) := by decide +kernel
theorem dX8_insure_12 : decode cX8_insure 12 = .ok (.ifCond .eq 12, 3) := by decide +kernel
theorem dX8_insure_15 : decode cX8_insure 15 = .ok (.aload_n 0, 1) := by decide +kernel
theorem dX8_insure_16 : decode cX8_insure 16 = .ok (.iload_n 1, 1) := by decide +kernel
theorem dX8_insure_17 : decode cX8_insure 17 = .ok (.iload_n 2, 1) := by decide +kernel
theorem dX8_insure_18 : decode cX8_insure 18 = .ok (.invokevirtual 134, 3) := by decide +kernel
theorem dX8_insure_21 : decode cX8_insure 21 = .ok (.ifCond .eq 5, 3) := by decide +kernel
theorem dX8_insure_24 : decode cX8_insure 24 = .ok (.iconst (-1), 1) := by decide +kernel
theorem dX8_insure_25 : decode cX8_insure 25 = .ok (.ireturn, 1) := by decide +kernel
theorem dX8_insure_26 : decode cX8_insure 26 = .ok (.aload_n 0, 1) := by decide +kernel
theorem dX8_insure_27 : decode cX8_insure 27 = .ok (.invokevirtual 112, 3) := by decide +kernel
theorem dX8_insure_30 : decode cX8_insure 30 = .ok (.aload_n 0, 1) := by decide +kernel
theorem dX8_insure_31 : decode cX8_insure 31 = .ok (.getfield 13, 3) := by decide +kernel
theorem dX8_insure_34 : decode cX8_insure 34 = .ok (.iconst 4, 1) := by decide +kernel
theorem dX8_insure_35 : decode cX8_insure 35 = .ok (.iconst 2, 1) := by decide +kernel
theorem dX8_insure_36 : decode cX8_insure 36 = .ok (.iload_n 1, 1) := by decide +kernel
theorem dX8_insure_37 : decode cX8_insure 37 = .ok (.imul, 1) := by decide +kernel
theorem dX8_insure_38 : decode cX8_insure 38 = .ok (.iadd, 1) := by decide +kernel
theorem dX8_insure_39 : decode cX8_insure 39 = .ok (.iconst 1, 1) := by decide +kernel
theorem dX8_insure_40 : decode cX8_insure 40 = .ok (.iadd, 1) := by decide +kernel
theorem dX8_insure_41 : decode cX8_insure 41 = .ok (.dup2, 1) := by decide +kernel
theorem dX8_insure_42 : decode cX8_insure 42 = .ok (.iaload, 1) := by decide +kernel
theorem dX8_insure_43 : decode cX8_insure 43 = .ok (.iconst 1, 1) := by decide +kernel
theorem dX8_insure_44 : decode cX8_insure 44 = .ok (.iload_n 2, 1) := by decide +kernel
theorem dX8_insure_45 : decode cX8_insure 45 = .ok (.ishl, 1) := by decide +kernel
theorem dX8_insure_46 : decode cX8_insure 46 = .ok (.ior, 1) := by decide +kernel
theorem dX8_insure_47 : decode cX8_insure 47 = .ok (.iastore, 1) := by decide +kernel
theorem dX8_insure_48 : decode cX8_insure 48 = .ok (.aload_n 0, 1) := by decide +kernel
theorem dX8_insure_49 : decode cX8_insure 49 = .ok (.iload_n 1, 1) := by decide +kernel
theorem dX8_insure_50 : decode cX8_insure 50 = .ok (.invokevirtual 91, 3) := by decide +kernel
theorem dX8_insure_53 : decode cX8_insure 53 = .ok (.invokestatic 138, 3) := by decide +kernel
theorem dX8_insure_56 : decode cX8_insure 56 = .ok (.ireturn, 1) := by decide +kernel
theorem dX8_lapse_0 : decode cX8_lapse 0 = .ok (.aload_n 0, 1) := by decide +kernel
theorem dX8_lapse_1 : decode cX8_lapse 1 = .ok (.iload_n 1, 1) := by decide +kernel
theorem dX8_lapse_2 : decode cX8_lapse 2 = .ok (.invokevirtual 115, 3) := by decide +kernel
theorem dX8_lapse_5 : decode cX8_lapse 5 = .ok (.ifCond .eq 19, 3) := by decide +kernel
theorem dX8_lapse_8 : decode cX8_lapse 8 = .ok (.iload_n 2, 1) := by decide +kernel
theorem dX8_lapse_9 : decode cX8_lapse 9 = .ok (.invokestatic 131, 3) := by decide +kernel
theorem dX8_lapse_12 : decode cX8_lapse 12 = .ok (.ifCond .eq 12, 3) := by decide +kernel
theorem dX8_lapse_15 : decode cX8_lapse 15 = .ok (.aload_n 0, 1) := by decide +kernel
theorem dX8_lapse_16 : decode cX8_lapse 16 = .ok (.iload_n 1, 1) := by decide +kernel
theorem dX8_lapse_17 : decode cX8_lapse 17 = .ok (.iload_n 2, 1) := by decide +kernel
theorem dX8_lapse_18 : decode cX8_lapse 18 = .ok (.invokevirtual 134, 3) := by decide +kernel
theorem dX8_lapse_21 : decode cX8_lapse 21 = .ok (.ifCond .ne 5, 3) := by decide +kernel
theorem dX8_lapse_24 : decode cX8_lapse 24 = .ok (.iconst (-1), 1) := by decide +kernel
theorem dX8_lapse_25 : decode cX8_lapse 25 = .ok (.ireturn, 1) := by decide +kernel
theorem dX8_lapse_26 : decode cX8_lapse 26 = .ok (.aload_n 0, 1) := by decide +kernel
theorem dX8_lapse_27 : decode cX8_lapse 27 = .ok (.invokevirtual 112, 3) := by decide +kernel
theorem dX8_lapse_30 : decode cX8_lapse 30 = .ok (.aload_n 0, 1) := by decide +kernel
theorem dX8_lapse_31 : decode cX8_lapse 31 = .ok (.getfield 13, 3) := by decide +kernel
theorem dX8_lapse_34 : decode cX8_lapse 34 = .ok (.iconst 4, 1) := by decide +kernel
theorem dX8_lapse_35 : decode cX8_lapse 35 = .ok (.iconst 2, 1) := by decide +kernel
theorem dX8_lapse_36 : decode cX8_lapse 36 = .ok (.iload_n 1, 1) := by decide +kernel
theorem dX8_lapse_37 : decode cX8_lapse 37 = .ok (.imul, 1) := by decide +kernel
theorem dX8_lapse_38 : decode cX8_lapse 38 = .ok (.iadd, 1) := by decide +kernel
theorem dX8_lapse_39 : decode cX8_lapse 39 = .ok (.iconst 1, 1) := by decide +kernel
theorem dX8_lapse_40 : decode cX8_lapse 40 = .ok (.iadd, 1) := by decide +kernel
theorem dX8_lapse_41 : decode cX8_lapse 41 = .ok (.dup2, 1) := by decide +kernel
theorem dX8_lapse_42 : decode cX8_lapse 42 = .ok (.iaload, 1) := by decide +kernel
theorem dX8_lapse_43 : decode cX8_lapse 43 = .ok (.iconst 1, 1) := by decide +kernel
theorem dX8_lapse_44 : decode cX8_lapse 44 = .ok (.iload_n 2, 1) := by decide +kernel
theorem dX8_lapse_45 : decode cX8_lapse 45 = .ok (.ishl, 1) := by decide +kernel
theorem dX8_lapse_46 : decode cX8_lapse 46 = .ok (.iconst (-1), 1) := by decide +kernel
theorem dX8_lapse_47 : decode cX8_lapse 47 = .ok (.ixor, 1) := by decide +kernel
theorem dX8_lapse_48 : decode cX8_lapse 48 = .ok (.iand, 1) := by decide +kernel
theorem dX8_lapse_49 : decode cX8_lapse 49 = .ok (.iastore, 1) := by decide +kernel
theorem dX8_lapse_50 : decode cX8_lapse 50 = .ok (.aload_n 0, 1) := by decide +kernel
theorem dX8_lapse_51 : decode cX8_lapse 51 = .ok (.iload_n 1, 1) := by decide +kernel
theorem dX8_lapse_52 : decode cX8_lapse 52 = .ok (.iload_n 2, 1) := by decide +kernel
theorem dX8_lapse_53 : decode cX8_lapse 53 = .ok (.invokevirtual 118, 3) := by decide +kernel
theorem dX8_lapse_56 : decode cX8_lapse 56 = .ok (.ireturn, 1) := by decide +kernel
theorem dX8_forget_0 : decode cX8_forget 0 = .ok (.iload_n 1, 1) := by decide +kernel
theorem dX8_forget_1 : decode cX8_forget 1 = .ok (.invokestatic 131, 3) := by decide +kernel
theorem dX8_forget_4 : decode cX8_forget 4 = .ok (.ifCond .ne 5, 3) := by decide +kernel
theorem dX8_forget_7 : decode cX8_forget 7 = .ok (.iconst (-1), 1) := by decide +kernel
theorem dX8_forget_8 : decode cX8_forget 8 = .ok (.ireturn, 1) := by decide +kernel
theorem dX8_forget_9 : decode cX8_forget 9 = .ok (.iconst 0, 1) := by decide +kernel
theorem dX8_forget_10 : decode cX8_forget 10 = .ok (.istore_n 2, 1) := by decide +kernel
theorem dX8_forget_11 : decode cX8_forget 11 = .ok (.iconst 0, 1) := by decide +kernel
theorem dX8_forget_12 : decode cX8_forget 12 = .ok (.istore_n 3, 1) := by decide +kernel
theorem dX8_forget_13 : decode cX8_forget 13 = .ok (.iload_n 3, 1) := by decide +kernel
theorem dX8_forget_14 : decode cX8_forget 14 = .ok (.aload_n 0, 1) := by decide +kernel
theorem dX8_forget_15 : decode cX8_forget 15 = .ok (.invokevirtual 80, 3) := by decide +kernel
theorem dX8_forget_18 : decode cX8_forget 18 = .ok (.if_icmp .ge 21, 3) := by decide +kernel
theorem dX8_forget_21 : decode cX8_forget 21 = .ok (.aload_n 0, 1) := by decide +kernel
theorem dX8_forget_22 : decode cX8_forget 22 = .ok (.iload_n 3, 1) := by decide +kernel
theorem dX8_forget_23 : decode cX8_forget 23 = .ok (.iload_n 1, 1) := by decide +kernel
theorem dX8_forget_24 : decode cX8_forget 24 = .ok (.invokevirtual 134, 3) := by decide +kernel
theorem dX8_forget_27 : decode cX8_forget 27 = .ok (.ifCond .eq 6, 3) := by decide +kernel
theorem dX8_forget_30 : decode cX8_forget 30 = .ok (.iinc 2 1, 3) := by decide +kernel
theorem dX8_forget_33 : decode cX8_forget 33 = .ok (.iinc 3 1, 3) := by decide +kernel
theorem dX8_forget_36 : decode cX8_forget 36 = .ok (.goto (-23), 3) := by decide +kernel
theorem dX8_forget_39 : decode cX8_forget 39 = .ok (.iload_n 2, 1) := by decide +kernel
theorem dX8_forget_40 : decode cX8_forget 40 = .ok (.ifCond .ne 5, 3) := by decide +kernel
theorem dX8_forget_43 : decode cX8_forget 43 = .ok (.iconst (-1), 1) := by decide +kernel
theorem dX8_forget_44 : decode cX8_forget 44 = .ok (.ireturn, 1) := by decide +kernel
theorem dX8_forget_45 : decode cX8_forget 45 = .ok (.aload_n 0, 1) := by decide +kernel
theorem dX8_forget_46 : decode cX8_forget 46 = .ok (.invokevirtual 112, 3) := by decide +kernel
theorem dX8_forget_49 : decode cX8_forget 49 = .ok (.iconst 0, 1) := by decide +kernel
theorem dX8_forget_50 : decode cX8_forget 50 = .ok (.istore_n 3, 1) := by decide +kernel
theorem dX8_forget_51 : decode cX8_forget 51 = .ok (.iload_n 3, 1) := by decide +kernel
theorem dX8_forget_52 : decode cX8_forget 52 = .ok (.aload_n 0, 1) := by decide +kernel
theorem dX8_forget_53 : decode cX8_forget 53 = .ok (.invokevirtual 80, 3) := by decide +kernel
theorem dX8_forget_56 : decode cX8_forget 56 = .ok (.if_icmp .ge 29, 3) := by decide +kernel
theorem dX8_forget_59 : decode cX8_forget 59 = .ok (.aload_n 0, 1) := by decide +kernel
theorem dX8_forget_60 : decode cX8_forget 60 = .ok (.getfield 13, 3) := by decide +kernel
theorem dX8_forget_63 : decode cX8_forget 63 = .ok (.iconst 4, 1) := by decide +kernel
theorem dX8_forget_64 : decode cX8_forget 64 = .ok (.iconst 2, 1) := by decide +kernel
theorem dX8_forget_65 : decode cX8_forget 65 = .ok (.iload_n 3, 1) := by decide +kernel
theorem dX8_forget_66 : decode cX8_forget 66 = .ok (.imul, 1) := by decide +kernel
theorem dX8_forget_67 : decode cX8_forget 67 = .ok (.iadd, 1) := by decide +kernel
theorem dX8_forget_68 : decode cX8_forget 68 = .ok (.iconst 1, 1) := by decide +kernel
theorem dX8_forget_69 : decode cX8_forget 69 = .ok (.iadd, 1) := by decide +kernel
theorem dX8_forget_70 : decode cX8_forget 70 = .ok (.dup2, 1) := by decide +kernel
theorem dX8_forget_71 : decode cX8_forget 71 = .ok (.iaload, 1) := by decide +kernel
theorem dX8_forget_72 : decode cX8_forget 72 = .ok (.iconst 1, 1) := by decide +kernel
theorem dX8_forget_73 : decode cX8_forget 73 = .ok (.iload_n 1, 1) := by decide +kernel
theorem dX8_forget_74 : decode cX8_forget 74 = .ok (.ishl, 1) := by decide +kernel
theorem dX8_forget_75 : decode cX8_forget 75 = .ok (.iconst (-1), 1) := by decide +kernel
theorem dX8_forget_76 : decode cX8_forget 76 = .ok (.ixor, 1) := by decide +kernel
theorem dX8_forget_77 : decode cX8_forget 77 = .ok (.iand, 1) := by decide +kernel
theorem dX8_forget_78 : decode cX8_forget 78 = .ok (.iastore, 1) := by decide +kernel
theorem dX8_forget_79 : decode cX8_forget 79 = .ok (.iinc 3 1, 3) := by decide +kernel
theorem dX8_forget_82 : decode cX8_forget 82 = .ok (.goto (-31), 3) := by decide +kernel
theorem dX8_forget_85 : decode cX8_forget 85 = .ok (.aload_n 0, 1) := by decide +kernel
theorem dX8_forget_86 : decode cX8_forget 86 = .ok (.iconst (-1), 1) := by decide +kernel
theorem dX8_forget_87 : decode cX8_forget 87 = .ok (.iload_n 1, 1) := by decide +kernel
theorem dX8_forget_88 : decode cX8_forget 88 = .ok (.invokevirtual 118, 3) := by decide +kernel
theorem dX8_forget_91 : decode cX8_forget 91 = .ok (.pop, 1) := by decide +kernel
theorem dX8_forget_92 : decode cX8_forget 92 = .ok (.iload_n 2, 1) := by decide +kernel
theorem dX8_forget_93 : decode cX8_forget 93 = .ok (.ireturn, 1) := by decide +kernel
theorem dX8_claimsOf_0 : decode cX8_claimsOf 0 = .ok (.iconst 0, 1) := by decide +kernel
theorem dX8_claimsOf_1 : decode cX8_claimsOf 1 = .ok (.istore_n 3, 1) := by decide +kernel
theorem dX8_claimsOf_2 : decode cX8_claimsOf 2 = .ok (.iconst 0, 1) := by decide +kernel
theorem dX8_claimsOf_3 : decode cX8_claimsOf 3 = .ok (.istore 4, 2) := by decide +kernel
theorem dX8_claimsOf_5 : decode cX8_claimsOf 5 = .ok (.iload 4, 2) := by decide +kernel
theorem dX8_claimsOf_7 : decode cX8_claimsOf 7 = .ok (.aload_n 0, 1) := by decide +kernel
theorem dX8_claimsOf_8 : decode cX8_claimsOf 8 = .ok (.invokevirtual 88, 3) := by decide +kernel
theorem dX8_claimsOf_11 : decode cX8_claimsOf 11 = .ok (.if_icmp .ge 37, 3) := by decide +kernel
theorem dX8_claimsOf_14 : decode cX8_claimsOf 14 = .ok (.aload_n 0, 1) := by decide +kernel
theorem dX8_claimsOf_15 : decode cX8_claimsOf 15 = .ok (.iload 4, 2) := by decide +kernel
theorem dX8_claimsOf_17 : decode cX8_claimsOf 17 = .ok (.invokevirtual 98, 3) := by decide +kernel
theorem dX8_claimsOf_20 : decode cX8_claimsOf 20 = .ok (.iload_n 1, 1) := by decide +kernel
theorem dX8_claimsOf_21 : decode cX8_claimsOf 21 = .ok (.if_icmp .ne 21, 3) := by decide +kernel
theorem dX8_claimsOf_24 : decode cX8_claimsOf 24 = .ok (.iload_n 2, 1) := by decide +kernel
theorem dX8_claimsOf_25 : decode cX8_claimsOf 25 = .ok (.iconst (-1), 1) := by decide +kernel
theorem dX8_claimsOf_26 : decode cX8_claimsOf 26 = .ok (.if_icmp .eq 13, 3) := by decide +kernel
theorem dX8_claimsOf_29 : decode cX8_claimsOf 29 = .ok (.aload_n 0, 1) := by decide +kernel
theorem dX8_claimsOf_30 : decode cX8_claimsOf 30 = .ok (.iload 4, 2) := by decide +kernel
theorem dX8_claimsOf_32 : decode cX8_claimsOf 32 = .ok (.invokevirtual 101, 3) := by decide +kernel
theorem dX8_claimsOf_35 : decode cX8_claimsOf 35 = .ok (.iload_n 2, 1) := by decide +kernel
theorem dX8_claimsOf_36 : decode cX8_claimsOf 36 = .ok (.if_icmp .ne 6, 3) := by decide +kernel
theorem dX8_claimsOf_39 : decode cX8_claimsOf 39 = .ok (.iinc 3 1, 3) := by decide +kernel
theorem dX8_claimsOf_42 : decode cX8_claimsOf 42 = .ok (.iinc 4 1, 3) := by decide +kernel
theorem dX8_claimsOf_45 : decode cX8_claimsOf 45 = .ok (.goto (-40), 3) := by decide +kernel
theorem dX8_claimsOf_48 : decode cX8_claimsOf 48 = .ok (.iload_n 3, 1) := by decide +kernel
theorem dX8_claimsOf_49 : decode cX8_claimsOf 49 = .ok (.ireturn, 1) := by decide +kernel
theorem dX8_claim_0 : decode cX8_claim 0 = .ok (.aload_n 0, 1) := by decide +kernel
theorem dX8_claim_1 : decode cX8_claim 1 = .ok (.iload_n 1, 1) := by decide +kernel
theorem dX8_claim_2 : decode cX8_claim 2 = .ok (.invokevirtual 115, 3) := by decide +kernel
theorem dX8_claim_5 : decode cX8_claim 5 = .ok (.ifCond .eq 45, 3) := by decide +kernel
theorem dX8_claim_8 : decode cX8_claim 8 = .ok (.iload_n 2, 1) := by decide +kernel
theorem dX8_claim_9 : decode cX8_claim 9 = .ok (.invokestatic 131, 3) := by decide +kernel
theorem dX8_claim_12 : decode cX8_claim 12 = .ok (.ifCond .eq 38, 3) := by decide +kernel
theorem dX8_claim_15 : decode cX8_claim 15 = .ok (.aload_n 0, 1) := by decide +kernel
theorem dX8_claim_16 : decode cX8_claim 16 = .ok (.iload_n 1, 1) := by decide +kernel
theorem dX8_claim_17 : decode cX8_claim 17 = .ok (.iload_n 2, 1) := by decide +kernel
theorem dX8_claim_18 : decode cX8_claim 18 = .ok (.invokevirtual 134, 3) := by decide +kernel
theorem dX8_claim_21 : decode cX8_claim 21 = .ok (.ifCond .eq 29, 3) := by decide +kernel
theorem dX8_claim_24 : decode cX8_claim 24 = .ok (.iload_n 3, 1) := by decide +kernel
theorem dX8_claim_25 : decode cX8_claim 25 = .ok (.invokestatic 141, 3) := by decide +kernel
theorem dX8_claim_28 : decode cX8_claim 28 = .ok (.ifCond .eq 22, 3) := by decide +kernel
theorem dX8_claim_31 : decode cX8_claim 31 = .ok (.aload_n 0, 1) := by decide +kernel
theorem dX8_claim_32 : decode cX8_claim 32 = .ok (.invokevirtual 88, 3) := by decide +kernel
theorem dX8_claim_35 : decode cX8_claim 35 = .ok (.bipush 40, 2) := by decide +kernel
theorem dX8_claim_37 : decode cX8_claim 37 = .ok (.if_icmp .eq 13, 3) := by decide +kernel
theorem dX8_claim_40 : decode cX8_claim 40 = .ok (.aload_n 0, 1) := by decide +kernel
theorem dX8_claim_41 : decode cX8_claim 41 = .ok (.iload_n 1, 1) := by decide +kernel
theorem dX8_claim_42 : decode cX8_claim 42 = .ok (.iload_n 2, 1) := by decide +kernel
theorem dX8_claim_43 : decode cX8_claim 43 = .ok (.invokevirtual 144, 3) := by decide +kernel
theorem dX8_claim_46 : decode cX8_claim 46 = .ok (.iconst 4, 1) := by decide +kernel
theorem dX8_claim_47 : decode cX8_claim 47 = .ok (.if_icmp .ne 5, 3) := by decide +kernel
theorem dX8_claim_50 : decode cX8_claim 50 = .ok (.iconst (-1), 1) := by decide +kernel
theorem dX8_claim_51 : decode cX8_claim 51 = .ok (.ireturn, 1) := by decide +kernel
theorem dX8_claim_52 : decode cX8_claim 52 = .ok (.aload_n 0, 1) := by decide +kernel
theorem dX8_claim_53 : decode cX8_claim 53 = .ok (.invokevirtual 112, 3) := by decide +kernel
theorem dX8_claim_56 : decode cX8_claim 56 = .ok (.bipush 20, 2) := by decide +kernel
theorem dX8_claim_58 : decode cX8_claim 58 = .ok (.iconst 3, 1) := by decide +kernel
theorem dX8_claim_59 : decode cX8_claim 59 = .ok (.aload_n 0, 1) := by decide +kernel
theorem dX8_claim_60 : decode cX8_claim 60 = .ok (.invokevirtual 88, 3) := by decide +kernel
theorem dX8_claim_63 : decode cX8_claim 63 = .ok (.imul, 1) := by decide +kernel
theorem dX8_claim_64 : decode cX8_claim 64 = .ok (.iadd, 1) := by decide +kernel
theorem dX8_claim_65 : decode cX8_claim 65 = .ok (.istore 4, 2) := by decide +kernel
theorem dX8_claim_67 : decode cX8_claim 67 = .ok (.aload_n 0, 1) := by decide +kernel
theorem dX8_claim_68 : decode cX8_claim 68 = .ok (.getfield 13, 3) := by decide +kernel
theorem dX8_claim_71 : decode cX8_claim 71 = .ok (.iload 4, 2) := by decide +kernel
theorem dX8_claim_73 : decode cX8_claim 73 = .ok (.iload_n 1, 1) := by decide +kernel
theorem dX8_claim_74 : decode cX8_claim 74 = .ok (.iastore, 1) := by decide +kernel
theorem dX8_claim_75 : decode cX8_claim 75 = .ok (.aload_n 0, 1) := by decide +kernel
theorem dX8_claim_76 : decode cX8_claim 76 = .ok (.getfield 13, 3) := by decide +kernel
theorem dX8_claim_79 : decode cX8_claim 79 = .ok (.iload 4, 2) := by decide +kernel
theorem dX8_claim_81 : decode cX8_claim 81 = .ok (.iconst 1, 1) := by decide +kernel
theorem dX8_claim_82 : decode cX8_claim 82 = .ok (.iadd, 1) := by decide +kernel
theorem dX8_claim_83 : decode cX8_claim 83 = .ok (.iload_n 2, 1) := by decide +kernel
theorem dX8_claim_84 : decode cX8_claim 84 = .ok (.iastore, 1) := by decide +kernel
theorem dX8_claim_85 : decode cX8_claim 85 = .ok (.aload_n 0, 1) := by decide +kernel
theorem dX8_claim_86 : decode cX8_claim 86 = .ok (.getfield 13, 3) := by decide +kernel
theorem dX8_claim_89 : decode cX8_claim 89 = .ok (.iload 4, 2) := by decide +kernel
theorem dX8_claim_91 : decode cX8_claim 91 = .ok (.iconst 2, 1) := by decide +kernel
theorem dX8_claim_92 : decode cX8_claim 92 = .ok (.iadd, 1) := by decide +kernel
theorem dX8_claim_93 : decode cX8_claim 93 = .ok (.iload_n 3, 1) := by decide +kernel
theorem dX8_claim_94 : decode cX8_claim 94 = .ok (.iastore, 1) := by decide +kernel
theorem dX8_claim_95 : decode cX8_claim 95 = .ok (.aload_n 0, 1) := by decide +kernel
theorem dX8_claim_96 : decode cX8_claim 96 = .ok (.getfield 13, 3) := by decide +kernel
theorem dX8_claim_99 : decode cX8_claim 99 = .ok (.iconst 3, 1) := by decide +kernel
theorem dX8_claim_100 : decode cX8_claim 100 = .ok (.dup2, 1) := by decide +kernel
theorem dX8_claim_101 : decode cX8_claim 101 = .ok (.iaload, 1) := by decide +kernel
theorem dX8_claim_102 : decode cX8_claim 102 = .ok (.iconst 1, 1) := by decide +kernel
theorem dX8_claim_103 : decode cX8_claim 103 = .ok (.iadd, 1) := by decide +kernel
theorem dX8_claim_104 : decode cX8_claim 104 = .ok (.iastore, 1) := by decide +kernel
theorem dX8_claim_105 : decode cX8_claim 105 = .ok (.aload_n 0, 1) := by decide +kernel
theorem dX8_claim_106 : decode cX8_claim 106 = .ok (.invokevirtual 88, 3) := by decide +kernel
theorem dX8_claim_109 : decode cX8_claim 109 = .ok (.iconst 1, 1) := by decide +kernel
theorem dX8_claim_110 : decode cX8_claim 110 = .ok (.isub, 1) := by decide +kernel
theorem dX8_claim_111 : decode cX8_claim 111 = .ok (.ireturn, 1) := by decide +kernel
theorem dX8_waive_0 : decode cX8_waive 0 = .ok (.aload_n 0, 1) := by decide +kernel
theorem dX8_waive_1 : decode cX8_waive 1 = .ok (.iload_n 1, 1) := by decide +kernel
theorem dX8_waive_2 : decode cX8_waive 2 = .ok (.invokevirtual 147, 3) := by decide +kernel
theorem dX8_waive_5 : decode cX8_waive 5 = .ok (.ifCond .ne 5, 3) := by decide +kernel
theorem dX8_waive_8 : decode cX8_waive 8 = .ok (.iconst 0, 1) := by decide +kernel
theorem dX8_waive_9 : decode cX8_waive 9 = .ok (.ireturn, 1) := by decide +kernel
theorem dX8_waive_10 : decode cX8_waive 10 = .ok (.aload_n 0, 1) := by decide +kernel
theorem dX8_waive_11 : decode cX8_waive 11 = .ok (.invokevirtual 112, 3) := by decide +kernel
theorem dX8_waive_14 : decode cX8_waive 14 = .ok (.aload_n 0, 1) := by decide +kernel
theorem dX8_waive_15 : decode cX8_waive 15 = .ok (.iload_n 1, 1) := by decide +kernel
theorem dX8_waive_16 : decode cX8_waive 16 = .ok (.invokevirtual 104, 3) := by decide +kernel
theorem dX8_waive_19 : decode cX8_waive 19 = .ok (.iconst 1, 1) := by decide +kernel
theorem dX8_waive_20 : decode cX8_waive 20 = .ok (.ireturn, 1) := by decide +kernel
theorem dX8_amend_0 : decode cX8_amend 0 = .ok (.aload_n 0, 1) := by decide +kernel
theorem dX8_amend_1 : decode cX8_amend 1 = .ok (.iload_n 1, 1) := by decide +kernel
theorem dX8_amend_2 : decode cX8_amend 2 = .ok (.invokevirtual 147, 3) := by decide +kernel
theorem dX8_amend_5 : decode cX8_amend 5 = .ok (.ifCond .eq 35, 3) := by decide +kernel
theorem dX8_amend_8 : decode cX8_amend 8 = .ok (.iload_n 2, 1) := by decide +kernel
theorem dX8_amend_9 : decode cX8_amend 9 = .ok (.invokestatic 141, 3) := by decide +kernel
theorem dX8_amend_12 : decode cX8_amend 12 = .ok (.ifCond .eq 28, 3) := by decide +kernel
theorem dX8_amend_15 : decode cX8_amend 15 = .ok (.aload_n 0, 1) := by decide +kernel
theorem dX8_amend_16 : decode cX8_amend 16 = .ok (.iload_n 1, 1) := by decide +kernel
theorem dX8_amend_17 : decode cX8_amend 17 = .ok (.invokevirtual 95, 3) := by decide +kernel
theorem dX8_amend_20 : decode cX8_amend 20 = .ok (.iload_n 2, 1) := by decide +kernel
theorem dX8_amend_21 : decode cX8_amend 21 = .ok (.if_icmp .eq 19, 3) := by decide +kernel
theorem dX8_amend_24 : decode cX8_amend 24 = .ok (.aload_n 0, 1) := by decide +kernel
theorem dX8_amend_25 : decode cX8_amend 25 = .ok (.bipush 20, 2) := by decide +kernel
theorem dX8_amend_27 : decode cX8_amend 27 = .ok (.iconst 3, 1) := by decide +kernel
theorem dX8_amend_28 : decode cX8_amend 28 = .ok (.iload_n 1, 1) := by decide +kernel
theorem dX8_amend_29 : decode cX8_amend 29 = .ok (.imul, 1) := by decide +kernel
theorem dX8_amend_30 : decode cX8_amend 30 = .ok (.iadd, 1) := by decide +kernel
theorem dX8_amend_31 : decode cX8_amend 31 = .ok (.iconst 2, 1) := by decide +kernel
theorem dX8_amend_32 : decode cX8_amend 32 = .ok (.iadd, 1) := by decide +kernel
theorem dX8_amend_33 : decode cX8_amend 33 = .ok (.iload_n 2, 1) := by decide +kernel
theorem dX8_amend_34 : decode cX8_amend 34 = .ok (.invokevirtual 128, 3) := by decide +kernel
theorem dX8_amend_37 : decode cX8_amend 37 = .ok (.goto 4, 3) := by decide +kernel
theorem dX8_amend_40 : decode cX8_amend 40 = .ok (.iconst (-1), 1) := by decide +kernel
theorem dX8_amend_41 : decode cX8_amend 41 = .ok (.ireturn, 1) := by decide +kernel
theorem dX8_join_0 : decode cX8_join 0 = .ok (.iload_n 1, 1) := by decide +kernel
theorem dX8_join_1 : decode cX8_join 1 = .ok (.invokestatic 108, 3) := by decide +kernel
theorem dX8_join_4 : decode cX8_join 4 = .ok (.ifCond .eq 15, 3) := by decide +kernel
theorem dX8_join_7 : decode cX8_join 7 = .ok (.iload_n 2, 1) := by decide +kernel
theorem dX8_join_8 : decode cX8_join 8 = .ok (.invokestatic 108, 3) := by decide +kernel
theorem dX8_join_11 : decode cX8_join 11 = .ok (.ifCond .eq 8, 3) := by decide +kernel
theorem dX8_join_14 : decode cX8_join 14 = .ok (.iload_n 1, 1) := by decide +kernel
theorem dX8_join_15 : decode cX8_join 15 = .ok (.iload_n 2, 1) := by decide +kernel
theorem dX8_join_16 : decode cX8_join 16 = .ok (.if_icmp .ne 5, 3) := by decide +kernel
theorem dX8_join_19 : decode cX8_join 19 = .ok (.iconst (-1), 1) := by decide +kernel
theorem dX8_join_20 : decode cX8_join 20 = .ok (.ireturn, 1) := by decide +kernel
theorem dX8_join_21 : decode cX8_join 21 = .ok (.iconst 0, 1) := by decide +kernel
theorem dX8_join_22 : decode cX8_join 22 = .ok (.istore_n 3, 1) := by decide +kernel
theorem dX8_join_23 : decode cX8_join 23 = .ok (.iconst 0, 1) := by decide +kernel
theorem dX8_join_24 : decode cX8_join 24 = .ok (.istore 4, 2) := by decide +kernel
theorem dX8_join_26 : decode cX8_join 26 = .ok (.iload 4, 2) := by decide +kernel
theorem dX8_join_28 : decode cX8_join 28 = .ok (.aload_n 0, 1) := by decide +kernel
theorem dX8_join_29 : decode cX8_join 29 = .ok (.invokevirtual 80, 3) := by decide +kernel
theorem dX8_join_32 : decode cX8_join 32 = .ok (.if_icmp .ge 22, 3) := by decide +kernel
theorem dX8_join_35 : decode cX8_join 35 = .ok (.aload_n 0, 1) := by decide +kernel
theorem dX8_join_36 : decode cX8_join 36 = .ok (.iload 4, 2) := by decide +kernel
theorem dX8_join_38 : decode cX8_join 38 = .ok (.invokevirtual 125, 3) := by decide +kernel
theorem dX8_join_41 : decode cX8_join 41 = .ok (.iload_n 1, 1) := by decide +kernel
theorem dX8_join_42 : decode cX8_join 42 = .ok (.if_icmp .ne 6, 3) := by decide +kernel
theorem dX8_join_45 : decode cX8_join 45 = .ok (.iinc 3 1, 3) := by decide +kernel
theorem dX8_join_48 : decode cX8_join 48 = .ok (.iinc 4 1, 3) := by decide +kernel
theorem dX8_join_51 : decode cX8_join 51 = .ok (.goto (-25), 3) := by decide +kernel
theorem dX8_join_54 : decode cX8_join 54 = .ok (.iload_n 3, 1) := by decide +kernel
theorem dX8_join_55 : decode cX8_join 55 = .ok (.ifCond .ne 5, 3) := by decide +kernel
theorem dX8_join_58 : decode cX8_join 58 = .ok (.iconst (-1), 1) := by decide +kernel
theorem dX8_join_59 : decode cX8_join 59 = .ok (.ireturn, 1) := by decide +kernel
theorem dX8_join_60 : decode cX8_join 60 = .ok (.aload_n 0, 1) := by decide +kernel
theorem dX8_join_61 : decode cX8_join 61 = .ok (.invokevirtual 112, 3) := by decide +kernel
theorem dX8_join_64 : decode cX8_join 64 = .ok (.aload_n 0, 1) := by decide +kernel
theorem dX8_join_65 : decode cX8_join 65 = .ok (.iload_n 1, 1) := by decide +kernel
theorem dX8_join_66 : decode cX8_join 66 = .ok (.iload_n 2, 1) := by decide +kernel
theorem dX8_join_67 : decode cX8_join 67 = .ok (.invokevirtual 150, 3) := by decide +kernel
theorem dX8_join_70 : decode cX8_join 70 = .ok (.iload_n 3, 1) := by decide +kernel
theorem dX8_join_71 : decode cX8_join 71 = .ok (.ireturn, 1) := by decide +kernel
theorem dX8_joins_0 : decode cX8_joins 0 = .ok (.iconst 0, 1) := by decide +kernel
theorem dX8_joins_1 : decode cX8_joins 1 = .ok (.istore_n 3, 1) := by decide +kernel
theorem dX8_joins_2 : decode cX8_joins 2 = .ok (.iload_n 3, 1) := by decide +kernel
theorem dX8_joins_3 : decode cX8_joins 3 = .ok (.aload_n 0, 1) := by decide +kernel
theorem dX8_joins_4 : decode cX8_joins 4 = .ok (.invokevirtual 80, 3) := by decide +kernel
theorem dX8_joins_7 : decode cX8_joins 7 = .ok (.if_icmp .ge 29, 3) := by decide +kernel
theorem dX8_joins_10 : decode cX8_joins 10 = .ok (.aload_n 0, 1) := by decide +kernel
theorem dX8_joins_11 : decode cX8_joins 11 = .ok (.iload_n 3, 1) := by decide +kernel
theorem dX8_joins_12 : decode cX8_joins 12 = .ok (.invokevirtual 125, 3) := by decide +kernel
theorem dX8_joins_15 : decode cX8_joins 15 = .ok (.iload_n 1, 1) := by decide +kernel
theorem dX8_joins_16 : decode cX8_joins 16 = .ok (.if_icmp .ne 14, 3) := by decide +kernel
theorem dX8_joins_19 : decode cX8_joins 19 = .ok (.aload_n 0, 1) := by decide +kernel
theorem dX8_joins_20 : decode cX8_joins 20 = .ok (.getfield 13, 3) := by decide +kernel
theorem dX8_joins_23 : decode cX8_joins 23 = .ok (.iconst 4, 1) := by decide +kernel
theorem dX8_joins_24 : decode cX8_joins 24 = .ok (.iconst 2, 1) := by decide +kernel
theorem dX8_joins_25 : decode cX8_joins 25 = .ok (.iload_n 3, 1) := by decide +kernel
theorem dX8_joins_26 : decode cX8_joins 26 = .ok (.imul, 1) := by decide +kernel
theorem dX8_joins_27 : decode cX8_joins 27 = .ok (.iadd, 1) := by decide +kernel
theorem dX8_joins_28 : decode cX8_joins 28 = .ok (.iload_n 2, 1) := by decide +kernel
theorem dX8_joins_29 : decode cX8_joins 29 = .ok (.iastore, 1) := by decide +kernel
theorem dX8_joins_30 : decode cX8_joins 30 = .ok (.iinc 3 1, 3) := by decide +kernel
theorem dX8_joins_33 : decode cX8_joins 33 = .ok (.goto (-31), 3) := by decide +kernel
theorem dX8_joins_36 : decode cX8_joins 36 = .ok (.return_, 1) := by decide +kernel
theorem dX8_swap_0 : decode cX8_swap 0 = .ok (.aload_n 0, 1) := by decide +kernel
theorem dX8_swap_1 : decode cX8_swap 1 = .ok (.iload_n 1, 1) := by decide +kernel
theorem dX8_swap_2 : decode cX8_swap 2 = .ok (.invokevirtual 115, 3) := by decide +kernel
theorem dX8_swap_5 : decode cX8_swap 5 = .ok (.ifCond .eq 16, 3) := by decide +kernel
theorem dX8_swap_8 : decode cX8_swap 8 = .ok (.aload_n 0, 1) := by decide +kernel
theorem dX8_swap_9 : decode cX8_swap 9 = .ok (.iload_n 2, 1) := by decide +kernel
theorem dX8_swap_10 : decode cX8_swap 10 = .ok (.invokevirtual 115, 3) := by decide +kernel
theorem dX8_swap_13 : decode cX8_swap 13 = .ok (.ifCond .eq 8, 3) := by decide +kernel
theorem dX8_swap_16 : decode cX8_swap 16 = .ok (.iload_n 1, 1) := by decide +kernel
theorem dX8_swap_17 : decode cX8_swap 17 = .ok (.iload_n 2, 1) := by decide +kernel
theorem dX8_swap_18 : decode cX8_swap 18 = .ok (.if_icmp .ne 5, 3) := by decide +kernel
theorem dX8_swap_21 : decode cX8_swap 21 = .ok (.iconst 0, 1) := by decide +kernel
theorem dX8_swap_22 : decode cX8_swap 22 = .ok (.ireturn, 1) := by decide +kernel
theorem dX8_swap_23 : decode cX8_swap 23 = .ok (.aload_n 0, 1) := by decide +kernel
theorem dX8_swap_24 : decode cX8_swap 24 = .ok (.invokevirtual 112, 3) := by decide +kernel
theorem dX8_swap_27 : decode cX8_swap 27 = .ok (.iconst 0, 1) := by decide +kernel
theorem dX8_swap_28 : decode cX8_swap 28 = .ok (.istore_n 3, 1) := by decide +kernel
theorem dX8_swap_29 : decode cX8_swap 29 = .ok (.iload_n 3, 1) := by decide +kernel
theorem dX8_swap_30 : decode cX8_swap 30 = .ok (.iconst 2, 1) := by decide +kernel
theorem dX8_swap_31 : decode cX8_swap 31 = .ok (.if_icmp .ge 61, 3) := by decide +kernel
theorem dX8_swap_34 : decode cX8_swap 34 = .ok (.aload_n 0, 1) := by decide +kernel
theorem dX8_swap_35 : decode cX8_swap 35 = .ok (.getfield 13, 3) := by decide +kernel
theorem dX8_swap_38 : decode cX8_swap 38 = .ok (.iconst 4, 1) := by decide +kernel
theorem dX8_swap_39 : decode cX8_swap 39 = .ok (.iconst 2, 1) := by decide +kernel
theorem dX8_swap_40 : decode cX8_swap 40 = .ok (.iload_n 1, 1) := by decide +kernel
theorem dX8_swap_41 : decode cX8_swap 41 = .ok (.imul, 1) := by decide +kernel
theorem dX8_swap_42 : decode cX8_swap 42 = .ok (.iadd, 1) := by decide +kernel
theorem dX8_swap_43 : decode cX8_swap 43 = .ok (.iload_n 3, 1) := by decide +kernel
theorem dX8_swap_44 : decode cX8_swap 44 = .ok (.iadd, 1) := by decide +kernel
theorem dX8_swap_45 : decode cX8_swap 45 = .ok (.iaload, 1) := by decide +kernel
theorem dX8_swap_46 : decode cX8_swap 46 = .ok (.istore 4, 2) := by decide +kernel
theorem dX8_swap_48 : decode cX8_swap 48 = .ok (.aload_n 0, 1) := by decide +kernel
theorem dX8_swap_49 : decode cX8_swap 49 = .ok (.getfield 13, 3) := by decide +kernel
theorem dX8_swap_52 : decode cX8_swap 52 = .ok (.iconst 4, 1) := by decide +kernel
theorem dX8_swap_53 : decode cX8_swap 53 = .ok (.iconst 2, 1) := by decide +kernel
theorem dX8_swap_54 : decode cX8_swap 54 = .ok (.iload_n 1, 1) := by decide +kernel
theorem dX8_swap_55 : decode cX8_swap 55 = .ok (.imul, 1) := by decide +kernel
theorem dX8_swap_56 : decode cX8_swap 56 = .ok (.iadd, 1) := by decide +kernel
theorem dX8_swap_57 : decode cX8_swap 57 = .ok (.iload_n 3, 1) := by decide +kernel
theorem dX8_swap_58 : decode cX8_swap 58 = .ok (.iadd, 1) := by decide +kernel
theorem dX8_swap_59 : decode cX8_swap 59 = .ok (.aload_n 0, 1) := by decide +kernel
theorem dX8_swap_60 : decode cX8_swap 60 = .ok (.getfield 13, 3) := by decide +kernel
theorem dX8_swap_63 : decode cX8_swap 63 = .ok (.iconst 4, 1) := by decide +kernel
theorem dX8_swap_64 : decode cX8_swap 64 = .ok (.iconst 2, 1) := by decide +kernel
theorem dX8_swap_65 : decode cX8_swap 65 = .ok (.iload_n 2, 1) := by decide +kernel
theorem dX8_swap_66 : decode cX8_swap 66 = .ok (.imul, 1) := by decide +kernel
theorem dX8_swap_67 : decode cX8_swap 67 = .ok (.iadd, 1) := by decide +kernel
theorem dX8_swap_68 : decode cX8_swap 68 = .ok (.iload_n 3, 1) := by decide +kernel
theorem dX8_swap_69 : decode cX8_swap 69 = .ok (.iadd, 1) := by decide +kernel
theorem dX8_swap_70 : decode cX8_swap 70 = .ok (.iaload, 1) := by decide +kernel
theorem dX8_swap_71 : decode cX8_swap 71 = .ok (.iastore, 1) := by decide +kernel
theorem dX8_swap_72 : decode cX8_swap 72 = .ok (.aload_n 0, 1) := by decide +kernel
theorem dX8_swap_73 : decode cX8_swap 73 = .ok (.getfield 13, 3) := by decide +kernel
theorem dX8_swap_76 : decode cX8_swap 76 = .ok (.iconst 4, 1) := by decide +kernel
theorem dX8_swap_77 : decode cX8_swap 77 = .ok (.iconst 2, 1) := by decide +kernel
theorem dX8_swap_78 : decode cX8_swap 78 = .ok (.iload_n 2, 1) := by decide +kernel
theorem dX8_swap_79 : decode cX8_swap 79 = .ok (.imul, 1) := by decide +kernel
theorem dX8_swap_80 : decode cX8_swap 80 = .ok (.iadd, 1) := by decide +kernel
theorem dX8_swap_81 : decode cX8_swap 81 = .ok (.iload_n 3, 1) := by decide +kernel
theorem dX8_swap_82 : decode cX8_swap 82 = .ok (.iadd, 1) := by decide +kernel
theorem dX8_swap_83 : decode cX8_swap 83 = .ok (.iload 4, 2) := by decide +kernel
theorem dX8_swap_85 : decode cX8_swap 85 = .ok (.iastore, 1) := by decide +kernel
theorem dX8_swap_86 : decode cX8_swap 86 = .ok (.iinc 3 1, 3) := by decide +kernel
theorem dX8_swap_89 : decode cX8_swap 89 = .ok (.goto (-60), 3) := by decide +kernel
theorem dX8_swap_92 : decode cX8_swap 92 = .ok (.iconst 0, 1) := by decide +kernel
theorem dX8_swap_93 : decode cX8_swap 93 = .ok (.istore_n 3, 1) := by decide +kernel
theorem dX8_swap_94 : decode cX8_swap 94 = .ok (.iload_n 3, 1) := by decide +kernel
theorem dX8_swap_95 : decode cX8_swap 95 = .ok (.aload_n 0, 1) := by decide +kernel
theorem dX8_swap_96 : decode cX8_swap 96 = .ok (.invokevirtual 88, 3) := by decide +kernel
theorem dX8_swap_99 : decode cX8_swap 99 = .ok (.if_icmp .ge 54, 3) := by decide +kernel
theorem dX8_swap_102 : decode cX8_swap 102 = .ok (.aload_n 0, 1) := by decide +kernel
theorem dX8_swap_103 : decode cX8_swap 103 = .ok (.iload_n 3, 1) := by decide +kernel
theorem dX8_swap_104 : decode cX8_swap 104 = .ok (.invokevirtual 98, 3) := by decide +kernel
theorem dX8_swap_107 : decode cX8_swap 107 = .ok (.iload_n 1, 1) := by decide +kernel
theorem dX8_swap_108 : decode cX8_swap 108 = .ok (.if_icmp .ne 18, 3) := by decide +kernel
theorem dX8_swap_111 : decode cX8_swap 111 = .ok (.aload_n 0, 1) := by decide +kernel
theorem dX8_swap_112 : decode cX8_swap 112 = .ok (.getfield 13, 3) := by decide +kernel
theorem dX8_swap_115 : decode cX8_swap 115 = .ok (.bipush 20, 2) := by decide +kernel
theorem dX8_swap_117 : decode cX8_swap 117 = .ok (.iconst 3, 1) := by decide +kernel
theorem dX8_swap_118 : decode cX8_swap 118 = .ok (.iload_n 3, 1) := by decide +kernel
theorem dX8_swap_119 : decode cX8_swap 119 = .ok (.imul, 1) := by decide +kernel
theorem dX8_swap_120 : decode cX8_swap 120 = .ok (.iadd, 1) := by decide +kernel
theorem dX8_swap_121 : decode cX8_swap 121 = .ok (.iload_n 2, 1) := by decide +kernel
theorem dX8_swap_122 : decode cX8_swap 122 = .ok (.iastore, 1) := by decide +kernel
theorem dX8_swap_123 : decode cX8_swap 123 = .ok (.goto 24, 3) := by decide +kernel
theorem dX8_swap_126 : decode cX8_swap 126 = .ok (.aload_n 0, 1) := by decide +kernel
theorem dX8_swap_127 : decode cX8_swap 127 = .ok (.iload_n 3, 1) := by decide +kernel
theorem dX8_swap_128 : decode cX8_swap 128 = .ok (.invokevirtual 98, 3) := by decide +kernel
theorem dX8_swap_131 : decode cX8_swap 131 = .ok (.iload_n 2, 1) := by decide +kernel
theorem dX8_swap_132 : decode cX8_swap 132 = .ok (.if_icmp .ne 15, 3) := by decide +kernel
theorem dX8_swap_135 : decode cX8_swap 135 = .ok (.aload_n 0, 1) := by decide +kernel
theorem dX8_swap_136 : decode cX8_swap 136 = .ok (.getfield 13, 3) := by decide +kernel
theorem dX8_swap_139 : decode cX8_swap 139 = .ok (.bipush 20, 2) := by decide +kernel
theorem dX8_swap_141 : decode cX8_swap 141 = .ok (.iconst 3, 1) := by decide +kernel
theorem dX8_swap_142 : decode cX8_swap 142 = .ok (.iload_n 3, 1) := by decide +kernel
theorem dX8_swap_143 : decode cX8_swap 143 = .ok (.imul, 1) := by decide +kernel
theorem dX8_swap_144 : decode cX8_swap 144 = .ok (.iadd, 1) := by decide +kernel
theorem dX8_swap_145 : decode cX8_swap 145 = .ok (.iload_n 1, 1) := by decide +kernel
theorem dX8_swap_146 : decode cX8_swap 146 = .ok (.iastore, 1) := by decide +kernel
theorem dX8_swap_147 : decode cX8_swap 147 = .ok (.iinc 3 1, 3) := by decide +kernel
theorem dX8_swap_150 : decode cX8_swap 150 = .ok (.goto (-56), 3) := by decide +kernel
theorem dX8_swap_153 : decode cX8_swap 153 = .ok (.iconst 1, 1) := by decide +kernel
theorem dX8_swap_154 : decode cX8_swap 154 = .ok (.ireturn, 1) := by decide +kernel
theorem dX8_scaled_0 : decode cX8_scaled 0 = .ok (.iload_n 0, 1) := by decide +kernel
theorem dX8_scaled_1 : decode cX8_scaled 1 = .ok (.iload_n 1, 1) := by decide +kernel
theorem dX8_scaled_2 : decode cX8_scaled 2 = .ok (.imul, 1) := by decide +kernel
theorem dX8_scaled_3 : decode cX8_scaled 3 = .ok (.bipush 100, 2) := by decide +kernel
theorem dX8_scaled_5 : decode cX8_scaled 5 = .ok (.idiv, 1) := by decide +kernel
theorem dX8_scaled_6 : decode cX8_scaled 6 = .ok (.istore_n 2, 1) := by decide +kernel
theorem dX8_scaled_7 : decode cX8_scaled 7 = .ok (.iload_n 2, 1) := by decide +kernel
theorem dX8_scaled_8 : decode cX8_scaled 8 = .ok (.iconst 1, 1) := by decide +kernel
theorem dX8_scaled_9 : decode cX8_scaled 9 = .ok (.if_icmp .ge 7, 3) := by decide +kernel
theorem dX8_scaled_12 : decode cX8_scaled 12 = .ok (.iconst 1, 1) := by decide +kernel
theorem dX8_scaled_13 : decode cX8_scaled 13 = .ok (.goto 15, 3) := by decide +kernel
theorem dX8_scaled_16 : decode cX8_scaled 16 = .ok (.iload_n 2, 1) := by decide +kernel
theorem dX8_scaled_17 : decode cX8_scaled 17 = .ok (.bipush 99, 2) := by decide +kernel
theorem dX8_scaled_19 : decode cX8_scaled 19 = .ok (.if_icmp .le 8, 3) := by decide +kernel
theorem dX8_scaled_22 : decode cX8_scaled 22 = .ok (.bipush 99, 2) := by decide +kernel
theorem dX8_scaled_24 : decode cX8_scaled 24 = .ok (.goto 4, 3) := by decide +kernel
theorem dX8_scaled_27 : decode cX8_scaled 27 = .ok (.iload_n 2, 1) := by decide +kernel
theorem dX8_scaled_28 : decode cX8_scaled 28 = .ok (.ireturn, 1) := by decide +kernel
theorem dX8_scale_0 : decode cX8_scale 0 = .ok (.aload_n 0, 1) := by decide +kernel
theorem dX8_scale_1 : decode cX8_scale 1 = .ok (.iload_n 1, 1) := by decide +kernel
theorem dX8_scale_2 : decode cX8_scale 2 = .ok (.invokevirtual 115, 3) := by decide +kernel
theorem dX8_scale_5 : decode cX8_scale 5 = .ok (.ifCond .eq 14, 3) := by decide +kernel
theorem dX8_scale_8 : decode cX8_scale 8 = .ok (.iload_n 2, 1) := by decide +kernel
theorem dX8_scale_9 : decode cX8_scale 9 = .ok (.iconst 1, 1) := by decide +kernel
theorem dX8_scale_10 : decode cX8_scale 10 = .ok (.sipush 900, 3) := by decide +kernel
theorem dX8_scale_13 : decode cX8_scale 13 = .ok (.invokestatic 84, 3) := by decide +kernel
theorem dX8_scale_16 : decode cX8_scale 16 = .ok (.ifCond .ne 5, 3) := by decide +kernel
theorem dX8_scale_19 : decode cX8_scale 19 = .ok (.iconst (-1), 1) := by decide +kernel
theorem dX8_scale_20 : decode cX8_scale 20 = .ok (.ireturn, 1) := by decide +kernel
theorem dX8_scale_21 : decode cX8_scale 21 = .ok (.iconst 0, 1) := by decide +kernel
theorem dX8_scale_22 : decode cX8_scale 22 = .ok (.istore_n 3, 1) := by decide +kernel
theorem dX8_scale_23 : decode cX8_scale 23 = .ok (.iconst 0, 1) := by decide +kernel
theorem dX8_scale_24 : decode cX8_scale 24 = .ok (.istore 4, 2) := by decide +kernel
theorem dX8_scale_26 : decode cX8_scale 26 = .ok (.iload 4, 2) := by decide +kernel
theorem dX8_scale_28 : decode cX8_scale 28 = .ok (.aload_n 0, 1) := by decide +kernel
theorem dX8_scale_29 : decode cX8_scale 29 = .ok (.invokevirtual 88, 3) := by decide +kernel
theorem dX8_scale_32 : decode cX8_scale 32 = .ok (.if_icmp .ge 41, 3) := by decide +kernel
theorem dX8_scale_35 : decode cX8_scale 35 = .ok (.aload_n 0, 1) := by decide +kernel
theorem dX8_scale_36 : decode cX8_scale 36 = .ok (.iload 4, 2) := by decide +kernel
theorem dX8_scale_38 : decode cX8_scale 38 = .ok (.invokevirtual 98, 3) := by decide +kernel
theorem dX8_scale_41 : decode cX8_scale 41 = .ok (.iload_n 1, 1) := by decide +kernel
theorem dX8_scale_42 : decode cX8_scale 42 = .ok (.if_icmp .ne 25, 3) := by decide +kernel
theorem dX8_scale_45 : decode cX8_scale 45 = .ok (.aload_n 0, 1) := by decide +kernel
theorem dX8_scale_46 : decode cX8_scale 46 = .ok (.iload 4, 2) := by decide +kernel
theorem dX8_scale_48 : decode cX8_scale 48 = .ok (.invokevirtual 95, 3) := by decide +kernel
theorem dX8_scale_51 : decode cX8_scale 51 = .ok (.iload_n 2, 1) := by decide +kernel
theorem dX8_scale_52 : decode cX8_scale 52 = .ok (.invokestatic 154, 3) := by decide +kernel
theorem dX8_scale_55 : decode cX8_scale 55 = .ok (.aload_n 0, 1) := by decide +kernel
theorem dX8_scale_56 : decode cX8_scale 56 = .ok (.iload 4, 2) := by decide +kernel
theorem dX8_scale_58 : decode cX8_scale 58 = .ok (.invokevirtual 95, 3) := by decide +kernel
theorem dX8_scale_61 : decode cX8_scale 61 = .ok (.if_icmp .eq 6, 3) := by decide +kernel
theorem dX8_scale_64 : decode cX8_scale 64 = .ok (.iinc 3 1, 3) := by decide +kernel
theorem dX8_scale_67 : decode cX8_scale 67 = .ok (.iinc 4 1, 3) := by decide +kernel
theorem dX8_scale_70 : decode cX8_scale 70 = .ok (.goto (-44), 3) := by decide +kernel
theorem dX8_scale_73 : decode cX8_scale 73 = .ok (.iload_n 3, 1) := by decide +kernel
theorem dX8_scale_74 : decode cX8_scale 74 = .ok (.ifCond .ne 5, 3) := by decide +kernel
theorem dX8_scale_77 : decode cX8_scale 77 = .ok (.iconst (-1), 1) := by decide +kernel
theorem dX8_scale_78 : decode cX8_scale 78 = .ok (.ireturn, 1) := by decide +kernel
theorem dX8_scale_79 : decode cX8_scale 79 = .ok (.aload_n 0, 1) := by decide +kernel
theorem dX8_scale_80 : decode cX8_scale 80 = .ok (.invokevirtual 112, 3) := by decide +kernel
theorem dX8_scale_83 : decode cX8_scale 83 = .ok (.iconst 0, 1) := by decide +kernel
theorem dX8_scale_84 : decode cX8_scale 84 = .ok (.istore 4, 2) := by decide +kernel
theorem dX8_scale_86 : decode cX8_scale 86 = .ok (.iload 4, 2) := by decide +kernel
theorem dX8_scale_88 : decode cX8_scale 88 = .ok (.aload_n 0, 1) := by decide +kernel
theorem dX8_scale_89 : decode cX8_scale 89 = .ok (.invokevirtual 88, 3) := by decide +kernel
theorem dX8_scale_92 : decode cX8_scale 92 = .ok (.if_icmp .ge 43, 3) := by decide +kernel
theorem dX8_scale_95 : decode cX8_scale 95 = .ok (.aload_n 0, 1) := by decide +kernel
theorem dX8_scale_96 : decode cX8_scale 96 = .ok (.iload 4, 2) := by decide +kernel
theorem dX8_scale_98 : decode cX8_scale 98 = .ok (.invokevirtual 98, 3) := by decide +kernel
theorem dX8_scale_101 : decode cX8_scale 101 = .ok (.iload_n 1, 1) := by decide +kernel
theorem dX8_scale_102 : decode cX8_scale 102 = .ok (.if_icmp .ne 27, 3) := by decide +kernel
theorem dX8_scale_105 : decode cX8_scale 105 = .ok (.aload_n 0, 1) := by decide +kernel
theorem dX8_scale_106 : decode cX8_scale 106 = .ok (.getfield 13, 3) := by decide +kernel
theorem dX8_scale_109 : decode cX8_scale 109 = .ok (.bipush 20, 2) := by decide +kernel
theorem dX8_scale_111 : decode cX8_scale 111 = .ok (.iconst 3, 1) := by decide +kernel
theorem dX8_scale_112 : decode cX8_scale 112 = .ok (.iload 4, 2) := by decide +kernel
theorem dX8_scale_114 : decode cX8_scale 114 = .ok (.imul, 1) := by decide +kernel
theorem dX8_scale_115 : decode cX8_scale 115 = .ok (.iadd, 1) := by decide +kernel
theorem dX8_scale_116 : decode cX8_scale 116 = .ok (.iconst 2, 1) := by decide +kernel
theorem dX8_scale_117 : decode cX8_scale 117 = .ok (.iadd, 1) := by decide +kernel
theorem dX8_scale_118 : decode cX8_scale 118 = .ok (.aload_n 0, 1) := by decide +kernel
theorem dX8_scale_119 : decode cX8_scale 119 = .ok (.iload 4, 2) := by decide +kernel
theorem dX8_scale_121 : decode cX8_scale 121 = .ok (.invokevirtual 95, 3) := by decide +kernel
theorem dX8_scale_124 : decode cX8_scale 124 = .ok (.iload_n 2, 1) := by decide +kernel
theorem dX8_scale_125 : decode cX8_scale 125 = .ok (.invokestatic 154, 3) := by decide +kernel
theorem dX8_scale_128 : decode cX8_scale 128 = .ok (.iastore, 1) := by decide +kernel
theorem dX8_scale_129 : decode cX8_scale 129 = .ok (.iinc 4 1, 3) := by decide +kernel
theorem dX8_scale_132 : decode cX8_scale 132 = .ok (.goto (-46), 3) := by decide +kernel
theorem dX8_scale_135 : decode cX8_scale 135 = .ok (.iload_n 3, 1) := by decide +kernel
theorem dX8_scale_136 : decode cX8_scale 136 = .ok (.ireturn, 1) := by decide +kernel
theorem dX8_split_0 : decode cX8_split 0 = .ok (.aload_n 0, 1) := by decide +kernel
theorem dX8_split_1 : decode cX8_split 1 = .ok (.iload_n 1, 1) := by decide +kernel
theorem dX8_split_2 : decode cX8_split 2 = .ok (.invokevirtual 115, 3) := by decide +kernel
theorem dX8_split_5 : decode cX8_split 5 = .ok (.ifCond .eq 37, 3) := by decide +kernel
theorem dX8_split_8 : decode cX8_split 8 = .ok (.aload_n 0, 1) := by decide +kernel
theorem dX8_split_9 : decode cX8_split 9 = .ok (.invokevirtual 80, 3) := by decide +kernel
theorem dX8_split_12 : decode cX8_split 12 = .ok (.bipush 8, 2) := by decide +kernel
theorem dX8_split_14 : decode cX8_split 14 = .ok (.if_icmp .eq 28, 3) := by decide +kernel
theorem dX8_split_17 : decode cX8_split 17 = .ok (.iload_n 2, 1) := by decide +kernel
theorem dX8_split_18 : decode cX8_split 18 = .ok (.ifCond .le 24, 3) := by decide +kernel
theorem dX8_split_21 : decode cX8_split 21 = .ok (.iload_n 2, 1) := by decide +kernel
theorem dX8_split_22 : decode cX8_split 22 = .ok (.aload_n 0, 1) := by decide +kernel
theorem dX8_split_23 : decode cX8_split 23 = .ok (.iload_n 1, 1) := by decide +kernel
theorem dX8_split_24 : decode cX8_split 24 = .ok (.invokevirtual 91, 3) := by decide +kernel
theorem dX8_split_27 : decode cX8_split 27 = .ok (.iconst (-1), 1) := by decide +kernel
theorem dX8_split_28 : decode cX8_split 28 = .ok (.ixor, 1) := by decide +kernel
theorem dX8_split_29 : decode cX8_split 29 = .ok (.iand, 1) := by decide +kernel
theorem dX8_split_30 : decode cX8_split 30 = .ok (.ifCond .ne 12, 3) := by decide +kernel
theorem dX8_split_33 : decode cX8_split 33 = .ok (.iload_n 2, 1) := by decide +kernel
theorem dX8_split_34 : decode cX8_split 34 = .ok (.aload_n 0, 1) := by decide +kernel
theorem dX8_split_35 : decode cX8_split 35 = .ok (.iload_n 1, 1) := by decide +kernel
theorem dX8_split_36 : decode cX8_split 36 = .ok (.invokevirtual 91, 3) := by decide +kernel
theorem dX8_split_39 : decode cX8_split 39 = .ok (.if_icmp .ne 5, 3) := by decide +kernel
theorem dX8_split_42 : decode cX8_split 42 = .ok (.iconst (-1), 1) := by decide +kernel
theorem dX8_split_43 : decode cX8_split 43 = .ok (.ireturn, 1) := by decide +kernel
theorem dX8_split_44 : decode cX8_split 44 = .ok (.aload_n 0, 1) := by decide +kernel
theorem dX8_split_45 : decode cX8_split 45 = .ok (.invokevirtual 112, 3) := by decide +kernel
theorem dX8_split_48 : decode cX8_split 48 = .ok (.aload_n 0, 1) := by decide +kernel
theorem dX8_split_49 : decode cX8_split 49 = .ok (.invokevirtual 80, 3) := by decide +kernel
theorem dX8_split_52 : decode cX8_split 52 = .ok (.istore_n 3, 1) := by decide +kernel
theorem dX8_split_53 : decode cX8_split 53 = .ok (.aload_n 0, 1) := by decide +kernel
theorem dX8_split_54 : decode cX8_split 54 = .ok (.getfield 13, 3) := by decide +kernel
theorem dX8_split_57 : decode cX8_split 57 = .ok (.iconst 4, 1) := by decide +kernel
theorem dX8_split_58 : decode cX8_split 58 = .ok (.iconst 2, 1) := by decide +kernel
theorem dX8_split_59 : decode cX8_split 59 = .ok (.iload_n 3, 1) := by decide +kernel
theorem dX8_split_60 : decode cX8_split 60 = .ok (.imul, 1) := by decide +kernel
theorem dX8_split_61 : decode cX8_split 61 = .ok (.iadd, 1) := by decide +kernel
theorem dX8_split_62 : decode cX8_split 62 = .ok (.aload_n 0, 1) := by decide +kernel
theorem dX8_split_63 : decode cX8_split 63 = .ok (.iload_n 1, 1) := by decide +kernel
theorem dX8_split_64 : decode cX8_split 64 = .ok (.invokevirtual 125, 3) := by decide +kernel
theorem dX8_split_67 : decode cX8_split 67 = .ok (.iastore, 1) := by decide +kernel
theorem dX8_split_68 : decode cX8_split 68 = .ok (.aload_n 0, 1) := by decide +kernel
theorem dX8_split_69 : decode cX8_split 69 = .ok (.getfield 13, 3) := by decide +kernel
theorem dX8_split_72 : decode cX8_split 72 = .ok (.iconst 4, 1) := by decide +kernel
theorem dX8_split_73 : decode cX8_split 73 = .ok (.iconst 2, 1) := by decide +kernel
theorem dX8_split_74 : decode cX8_split 74 = .ok (.iload_n 3, 1) := by decide +kernel
theorem dX8_split_75 : decode cX8_split 75 = .ok (.imul, 1) := by decide +kernel
theorem dX8_split_76 : decode cX8_split 76 = .ok (.iadd, 1) := by decide +kernel
theorem dX8_split_77 : decode cX8_split 77 = .ok (.iconst 1, 1) := by decide +kernel
theorem dX8_split_78 : decode cX8_split 78 = .ok (.iadd, 1) := by decide +kernel
theorem dX8_split_79 : decode cX8_split 79 = .ok (.iload_n 2, 1) := by decide +kernel
theorem dX8_split_80 : decode cX8_split 80 = .ok (.iastore, 1) := by decide +kernel
theorem dX8_split_81 : decode cX8_split 81 = .ok (.aload_n 0, 1) := by decide +kernel
theorem dX8_split_82 : decode cX8_split 82 = .ok (.getfield 13, 3) := by decide +kernel
theorem dX8_split_85 : decode cX8_split 85 = .ok (.iconst 4, 1) := by decide +kernel
theorem dX8_split_86 : decode cX8_split 86 = .ok (.iconst 2, 1) := by decide +kernel
theorem dX8_split_87 : decode cX8_split 87 = .ok (.iload_n 1, 1) := by decide +kernel
theorem dX8_split_88 : decode cX8_split 88 = .ok (.imul, 1) := by decide +kernel
theorem dX8_split_89 : decode cX8_split 89 = .ok (.iadd, 1) := by decide +kernel
theorem dX8_split_90 : decode cX8_split 90 = .ok (.iconst 1, 1) := by decide +kernel
theorem dX8_split_91 : decode cX8_split 91 = .ok (.iadd, 1) := by decide +kernel
theorem dX8_split_92 : decode cX8_split 92 = .ok (.dup2, 1) := by decide +kernel
theorem dX8_split_93 : decode cX8_split 93 = .ok (.iaload, 1) := by decide +kernel
theorem dX8_split_94 : decode cX8_split 94 = .ok (.iload_n 2, 1) := by decide +kernel
theorem dX8_split_95 : decode cX8_split 95 = .ok (.iconst (-1), 1) := by decide +kernel
theorem dX8_split_96 : decode cX8_split 96 = .ok (.ixor, 1) := by decide +kernel
theorem dX8_split_97 : decode cX8_split 97 = .ok (.iand, 1) := by decide +kernel
theorem dX8_split_98 : decode cX8_split 98 = .ok (.iastore, 1) := by decide +kernel
theorem dX8_split_99 : decode cX8_split 99 = .ok (.aload_n 0, 1) := by decide +kernel
theorem dX8_split_100 : decode cX8_split 100 = .ok (.getfield 13, 3) := by decide +kernel
theorem dX8_split_103 : decode cX8_split 103 = .ok (.iconst 2, 1) := by decide +kernel
theorem dX8_split_104 : decode cX8_split 104 = .ok (.dup2, 1) := by decide +kernel
theorem dX8_split_105 : decode cX8_split 105 = .ok (.iaload, 1) := by decide +kernel
theorem dX8_split_106 : decode cX8_split 106 = .ok (.iconst 1, 1) := by decide +kernel
theorem dX8_split_107 : decode cX8_split 107 = .ok (.iadd, 1) := by decide +kernel
theorem dX8_split_108 : decode cX8_split 108 = .ok (.iastore, 1) := by decide +kernel
theorem dX8_split_109 : decode cX8_split 109 = .ok (.iconst 0, 1) := by decide +kernel
theorem dX8_split_110 : decode cX8_split 110 = .ok (.istore 4, 2) := by decide +kernel
theorem dX8_split_112 : decode cX8_split 112 = .ok (.iload 4, 2) := by decide +kernel
theorem dX8_split_114 : decode cX8_split 114 = .ok (.aload_n 0, 1) := by decide +kernel
theorem dX8_split_115 : decode cX8_split 115 = .ok (.invokevirtual 88, 3) := by decide +kernel
theorem dX8_split_118 : decode cX8_split 118 = .ok (.if_icmp .ge 46, 3) := by decide +kernel
theorem dX8_split_121 : decode cX8_split 121 = .ok (.aload_n 0, 1) := by decide +kernel
theorem dX8_split_122 : decode cX8_split 122 = .ok (.iload 4, 2) := by decide +kernel
theorem dX8_split_124 : decode cX8_split 124 = .ok (.invokevirtual 98, 3) := by decide +kernel
theorem dX8_split_127 : decode cX8_split 127 = .ok (.iload_n 1, 1) := by decide +kernel
theorem dX8_split_128 : decode cX8_split 128 = .ok (.if_icmp .ne 30, 3) := by decide +kernel
theorem dX8_split_131 : decode cX8_split 131 = .ok (.iload_n 2, 1) := by decide +kernel
theorem dX8_split_132 : decode cX8_split 132 = .ok (.aload_n 0, 1) := by decide +kernel
theorem dX8_split_133 : decode cX8_split 133 = .ok (.iload 4, 2) := by decide +kernel
theorem dX8_split_135 : decode cX8_split 135 = .ok (.invokevirtual 101, 3) := by decide +kernel
theorem dX8_split_138 : decode cX8_split 138 = .ok (.ishr, 1) := by decide +kernel
theorem dX8_split_139 : decode cX8_split 139 = .ok (.iconst 1, 1) := by decide +kernel
theorem dX8_split_140 : decode cX8_split 140 = .ok (.iand, 1) := by decide +kernel
theorem dX8_split_141 : decode cX8_split 141 = .ok (.iconst 1, 1) := by decide +kernel
theorem dX8_split_142 : decode cX8_split 142 = .ok (.if_icmp .ne 16, 3) := by decide +kernel
theorem dX8_split_145 : decode cX8_split 145 = .ok (.aload_n 0, 1) := by decide +kernel
theorem dX8_split_146 : decode cX8_split 146 = .ok (.getfield 13, 3) := by decide +kernel
theorem dX8_split_149 : decode cX8_split 149 = .ok (.bipush 20, 2) := by decide +kernel
theorem dX8_split_151 : decode cX8_split 151 = .ok (.iconst 3, 1) := by decide +kernel
theorem dX8_split_152 : decode cX8_split 152 = .ok (.iload 4, 2) := by decide +kernel
theorem dX8_split_154 : decode cX8_split 154 = .ok (.imul, 1) := by decide +kernel
theorem dX8_split_155 : decode cX8_split 155 = .ok (.iadd, 1) := by decide +kernel
theorem dX8_split_156 : decode cX8_split 156 = .ok (.iload_n 3, 1) := by decide +kernel
theorem dX8_split_157 : decode cX8_split 157 = .ok (.iastore, 1) := by decide +kernel
theorem dX8_split_158 : decode cX8_split 158 = .ok (.iinc 4 1, 3) := by decide +kernel
theorem dX8_split_161 : decode cX8_split 161 = .ok (.goto (-49), 3) := by decide +kernel
theorem dX8_split_164 : decode cX8_split 164 = .ok (.iload_n 3, 1) := by decide +kernel
theorem dX8_split_165 : decode cX8_split 165 = .ok (.ireturn, 1) := by decide +kernel
theorem dX8_merge_0 : decode cX8_merge 0 = .ok (.aload_n 0, 1) := by decide +kernel
theorem dX8_merge_1 : decode cX8_merge 1 = .ok (.iload_n 1, 1) := by decide +kernel
theorem dX8_merge_2 : decode cX8_merge 2 = .ok (.invokevirtual 115, 3) := by decide +kernel
theorem dX8_merge_5 : decode cX8_merge 5 = .ok (.ifCond .eq 30, 3) := by decide +kernel
theorem dX8_merge_8 : decode cX8_merge 8 = .ok (.aload_n 0, 1) := by decide +kernel
theorem dX8_merge_9 : decode cX8_merge 9 = .ok (.iload_n 2, 1) := by decide +kernel
theorem dX8_merge_10 : decode cX8_merge 10 = .ok (.invokevirtual 115, 3) := by decide +kernel
theorem dX8_merge_13 : decode cX8_merge 13 = .ok (.ifCond .eq 22, 3) := by decide +kernel
theorem dX8_merge_16 : decode cX8_merge 16 = .ok (.iload_n 1, 1) := by decide +kernel
theorem dX8_merge_17 : decode cX8_merge 17 = .ok (.iload_n 2, 1) := by decide +kernel
theorem dX8_merge_18 : decode cX8_merge 18 = .ok (.if_icmp .eq 17, 3) := by decide +kernel
theorem dX8_merge_21 : decode cX8_merge 21 = .ok (.aload_n 0, 1) := by decide +kernel
theorem dX8_merge_22 : decode cX8_merge 22 = .ok (.iload_n 1, 1) := by decide +kernel
theorem dX8_merge_23 : decode cX8_merge 23 = .ok (.invokevirtual 91, 3) := by decide +kernel
theorem dX8_merge_26 : decode cX8_merge 26 = .ok (.aload_n 0, 1) := by decide +kernel
theorem dX8_merge_27 : decode cX8_merge 27 = .ok (.iload_n 2, 1) := by decide +kernel
theorem dX8_merge_28 : decode cX8_merge 28 = .ok (.invokevirtual 91, 3) := by decide +kernel
theorem dX8_merge_31 : decode cX8_merge 31 = .ok (.iand, 1) := by decide +kernel
theorem dX8_merge_32 : decode cX8_merge 32 = .ok (.ifCond .eq 5, 3) := by decide +kernel
theorem dX8_merge_35 : decode cX8_merge 35 = .ok (.iconst (-1), 1) := by decide +kernel
theorem dX8_merge_36 : decode cX8_merge 36 = .ok (.ireturn, 1) := by decide +kernel
theorem dX8_merge_37 : decode cX8_merge 37 = .ok (.aload_n 0, 1) := by decide +kernel
theorem dX8_merge_38 : decode cX8_merge 38 = .ok (.invokevirtual 112, 3) := by decide +kernel
theorem dX8_merge_41 : decode cX8_merge 41 = .ok (.aload_n 0, 1) := by decide +kernel
theorem dX8_merge_42 : decode cX8_merge 42 = .ok (.getfield 13, 3) := by decide +kernel
theorem dX8_merge_45 : decode cX8_merge 45 = .ok (.iconst 4, 1) := by decide +kernel
theorem dX8_merge_46 : decode cX8_merge 46 = .ok (.iconst 2, 1) := by decide +kernel
theorem dX8_merge_47 : decode cX8_merge 47 = .ok (.iload_n 2, 1) := by decide +kernel
theorem dX8_merge_48 : decode cX8_merge 48 = .ok (.imul, 1) := by decide +kernel
theorem dX8_merge_49 : decode cX8_merge 49 = .ok (.iadd, 1) := by decide +kernel
theorem dX8_merge_50 : decode cX8_merge 50 = .ok (.iconst 1, 1) := by decide +kernel
theorem dX8_merge_51 : decode cX8_merge 51 = .ok (.iadd, 1) := by decide +kernel
theorem dX8_merge_52 : decode cX8_merge 52 = .ok (.dup2, 1) := by decide +kernel
theorem dX8_merge_53 : decode cX8_merge 53 = .ok (.iaload, 1) := by decide +kernel
theorem dX8_merge_54 : decode cX8_merge 54 = .ok (.aload_n 0, 1) := by decide +kernel
theorem dX8_merge_55 : decode cX8_merge 55 = .ok (.iload_n 1, 1) := by decide +kernel
theorem dX8_merge_56 : decode cX8_merge 56 = .ok (.invokevirtual 91, 3) := by decide +kernel
theorem dX8_merge_59 : decode cX8_merge 59 = .ok (.ior, 1) := by decide +kernel
theorem dX8_merge_60 : decode cX8_merge 60 = .ok (.iastore, 1) := by decide +kernel
theorem dX8_merge_61 : decode cX8_merge 61 = .ok (.iconst 0, 1) := by decide +kernel
theorem dX8_merge_62 : decode cX8_merge 62 = .ok (.istore_n 3, 1) := by decide +kernel
theorem dX8_merge_63 : decode cX8_merge 63 = .ok (.iload_n 3, 1) := by decide +kernel
theorem dX8_merge_64 : decode cX8_merge 64 = .ok (.aload_n 0, 1) := by decide +kernel
theorem dX8_merge_65 : decode cX8_merge 65 = .ok (.invokevirtual 88, 3) := by decide +kernel
theorem dX8_merge_68 : decode cX8_merge 68 = .ok (.if_icmp .ge 30, 3) := by decide +kernel
theorem dX8_merge_71 : decode cX8_merge 71 = .ok (.aload_n 0, 1) := by decide +kernel
theorem dX8_merge_72 : decode cX8_merge 72 = .ok (.iload_n 3, 1) := by decide +kernel
theorem dX8_merge_73 : decode cX8_merge 73 = .ok (.invokevirtual 98, 3) := by decide +kernel
theorem dX8_merge_76 : decode cX8_merge 76 = .ok (.iload_n 1, 1) := by decide +kernel
theorem dX8_merge_77 : decode cX8_merge 77 = .ok (.if_icmp .ne 15, 3) := by decide +kernel
theorem dX8_merge_80 : decode cX8_merge 80 = .ok (.aload_n 0, 1) := by decide +kernel
theorem dX8_merge_81 : decode cX8_merge 81 = .ok (.getfield 13, 3) := by decide +kernel
theorem dX8_merge_84 : decode cX8_merge 84 = .ok (.bipush 20, 2) := by decide +kernel
theorem dX8_merge_86 : decode cX8_merge 86 = .ok (.iconst 3, 1) := by decide +kernel
theorem dX8_merge_87 : decode cX8_merge 87 = .ok (.iload_n 3, 1) := by decide +kernel
theorem dX8_merge_88 : decode cX8_merge 88 = .ok (.imul, 1) := by decide +kernel
theorem dX8_merge_89 : decode cX8_merge 89 = .ok (.iadd, 1) := by decide +kernel
theorem dX8_merge_90 : decode cX8_merge 90 = .ok (.iload_n 2, 1) := by decide +kernel
theorem dX8_merge_91 : decode cX8_merge 91 = .ok (.iastore, 1) := by decide +kernel
theorem dX8_merge_92 : decode cX8_merge 92 = .ok (.iinc 3 1, 3) := by decide +kernel
theorem dX8_merge_95 : decode cX8_merge 95 = .ok (.goto (-32), 3) := by decide +kernel
theorem dX8_merge_98 : decode cX8_merge 98 = .ok (.aload_n 0, 1) := by decide +kernel
theorem dX8_merge_99 : decode cX8_merge 99 = .ok (.iload_n 1, 1) := by decide +kernel
theorem dX8_merge_100 : decode cX8_merge 100 = .ok (.invokevirtual 122, 3) := by decide +kernel
theorem dX8_merge_103 : decode cX8_merge 103 = .ok (.iload_n 2, 1) := by decide +kernel
theorem dX8_merge_104 : decode cX8_merge 104 = .ok (.iload_n 1, 1) := by decide +kernel
theorem dX8_merge_105 : decode cX8_merge 105 = .ok (.if_icmp .le 9, 3) := by decide +kernel
theorem dX8_merge_108 : decode cX8_merge 108 = .ok (.iload_n 2, 1) := by decide +kernel
theorem dX8_merge_109 : decode cX8_merge 109 = .ok (.iconst 1, 1) := by decide +kernel
theorem dX8_merge_110 : decode cX8_merge 110 = .ok (.isub, 1) := by decide +kernel
theorem dX8_merge_111 : decode cX8_merge 111 = .ok (.goto 4, 3) := by decide +kernel
theorem dX8_merge_114 : decode cX8_merge 114 = .ok (.iload_n 2, 1) := by decide +kernel
theorem dX8_merge_115 : decode cX8_merge 115 = .ok (.ireturn, 1) := by decide +kernel
theorem dX8_cap_0 : decode cX8_cap 0 = .ok (.iload_n 1, 1) := by decide +kernel
theorem dX8_cap_1 : decode cX8_cap 1 = .ok (.invokestatic 141, 3) := by decide +kernel
theorem dX8_cap_4 : decode cX8_cap 4 = .ok (.ifCond .eq 22, 3) := by decide +kernel
theorem dX8_cap_7 : decode cX8_cap 7 = .ok (.iload_n 1, 1) := by decide +kernel
theorem dX8_cap_8 : decode cX8_cap 8 = .ok (.aload_n 0, 1) := by decide +kernel
theorem dX8_cap_9 : decode cX8_cap 9 = .ok (.getfield 13, 3) := by decide +kernel
theorem dX8_cap_12 : decode cX8_cap 12 = .ok (.iconst 0, 1) := by decide +kernel
theorem dX8_cap_13 : decode cX8_cap 13 = .ok (.iaload, 1) := by decide +kernel
theorem dX8_cap_14 : decode cX8_cap 14 = .ok (.if_icmp .eq 12, 3) := by decide +kernel
theorem dX8_cap_17 : decode cX8_cap 17 = .ok (.aload_n 0, 1) := by decide +kernel
theorem dX8_cap_18 : decode cX8_cap 18 = .ok (.iconst 0, 1) := by decide +kernel
theorem dX8_cap_19 : decode cX8_cap 19 = .ok (.iload_n 1, 1) := by decide +kernel
theorem dX8_cap_20 : decode cX8_cap 20 = .ok (.invokevirtual 128, 3) := by decide +kernel
theorem dX8_cap_23 : decode cX8_cap 23 = .ok (.goto 4, 3) := by decide +kernel
theorem dX8_cap_26 : decode cX8_cap 26 = .ok (.iconst (-1), 1) := by decide +kernel
theorem dX8_cap_27 : decode cX8_cap 27 = .ok (.ireturn, 1) := by decide +kernel
theorem dX8_steady_0 : decode cX8_steady 0 = .ok (.iload_n 1, 1) := by decide +kernel
theorem dX8_steady_1 : decode cX8_steady 1 = .ok (.iconst 0, 1) := by decide +kernel
theorem dX8_steady_2 : decode cX8_steady 2 = .ok (.bipush 50, 2) := by decide +kernel
theorem dX8_steady_4 : decode cX8_steady 4 = .ok (.invokestatic 84, 3) := by decide +kernel
theorem dX8_steady_7 : decode cX8_steady 7 = .ok (.ifCond .eq 22, 3) := by decide +kernel
theorem dX8_steady_10 : decode cX8_steady 10 = .ok (.iload_n 1, 1) := by decide +kernel
theorem dX8_steady_11 : decode cX8_steady 11 = .ok (.aload_n 0, 1) := by decide +kernel
theorem dX8_steady_12 : decode cX8_steady 12 = .ok (.getfield 13, 3) := by decide +kernel
theorem dX8_steady_15 : decode cX8_steady 15 = .ok (.iconst 1, 1) := by decide +kernel
theorem dX8_steady_16 : decode cX8_steady 16 = .ok (.iaload, 1) := by decide +kernel
theorem dX8_steady_17 : decode cX8_steady 17 = .ok (.if_icmp .eq 12, 3) := by decide +kernel
theorem dX8_steady_20 : decode cX8_steady 20 = .ok (.aload_n 0, 1) := by decide +kernel
theorem dX8_steady_21 : decode cX8_steady 21 = .ok (.iconst 1, 1) := by decide +kernel
theorem dX8_steady_22 : decode cX8_steady 22 = .ok (.iload_n 1, 1) := by decide +kernel
theorem dX8_steady_23 : decode cX8_steady 23 = .ok (.invokevirtual 128, 3) := by decide +kernel
theorem dX8_steady_26 : decode cX8_steady 26 = .ok (.goto 4, 3) := by decide +kernel
theorem dX8_steady_29 : decode cX8_steady 29 = .ok (.iconst (-1), 1) := by decide +kernel
theorem dX8_steady_30 : decode cX8_steady 30 = .ok (.ireturn, 1) := by decide +kernel
theorem dX8_undo_0 : decode cX8_undo 0 = .ok (.aload_n 0, 1) := by decide +kernel
theorem dX8_undo_1 : decode cX8_undo 1 = .ok (.getfield 77, 3) := by decide +kernel
theorem dX8_undo_4 : decode cX8_undo 4 = .ok (.ifCond .ne 5, 3) := by decide +kernel
theorem dX8_undo_7 : decode cX8_undo 7 = .ok (.iconst (-1), 1) := by decide +kernel
theorem dX8_undo_8 : decode cX8_undo 8 = .ok (.ireturn, 1) := by decide +kernel
theorem dX8_undo_9 : decode cX8_undo 9 = .ok (.aload_n 0, 1) := by decide +kernel
theorem dX8_undo_10 : decode cX8_undo 10 = .ok (.dup, 1) := by decide +kernel
theorem dX8_undo_11 : decode cX8_undo 11 = .ok (.getfield 77, 3) := by decide +kernel
theorem dX8_undo_14 : decode cX8_undo 14 = .ok (.iconst 1, 1) := by decide +kernel
theorem dX8_undo_15 : decode cX8_undo 15 = .ok (.isub, 1) := by decide +kernel
theorem dX8_undo_16 : decode cX8_undo 16 = .ok (.putfield 77, 3) := by decide +kernel
theorem dX8_undo_19 : decode cX8_undo 19 = .ok (.iconst 0, 1) := by decide +kernel
theorem dX8_undo_20 : decode cX8_undo 20 = .ok (.istore_n 1, 1) := by decide +kernel
theorem dX8_undo_21 : decode cX8_undo 21 = .ok (.iload_n 1, 1) := by decide +kernel
theorem dX8_undo_22 : decode cX8_undo 22 = .ok (.sipush 140, 3) := by decide +kernel
theorem dX8_undo_25 : decode cX8_undo 25 = .ok (.if_icmp .ge 30, 3) := by decide +kernel
theorem dX8_undo_28 : decode cX8_undo 28 = .ok (.aload_n 0, 1) := by decide +kernel
theorem dX8_undo_29 : decode cX8_undo 29 = .ok (.getfield 13, 3) := by decide +kernel
theorem dX8_undo_32 : decode cX8_undo 32 = .ok (.iload_n 1, 1) := by decide +kernel
theorem dX8_undo_33 : decode cX8_undo 33 = .ok (.aload_n 0, 1) := by decide +kernel
theorem dX8_undo_34 : decode cX8_undo 34 = .ok (.getfield 23, 3) := by decide +kernel
theorem dX8_undo_37 : decode cX8_undo 37 = .ok (.sipush 140, 3) := by decide +kernel
theorem dX8_undo_40 : decode cX8_undo 40 = .ok (.aload_n 0, 1) := by decide +kernel
theorem dX8_undo_41 : decode cX8_undo 41 = .ok (.getfield 77, 3) := by decide +kernel
theorem dX8_undo_44 : decode cX8_undo 44 = .ok (.imul, 1) := by decide +kernel
theorem dX8_undo_45 : decode cX8_undo 45 = .ok (.iload_n 1, 1) := by decide +kernel
theorem dX8_undo_46 : decode cX8_undo 46 = .ok (.iadd, 1) := by decide +kernel
theorem dX8_undo_47 : decode cX8_undo 47 = .ok (.iaload, 1) := by decide +kernel
theorem dX8_undo_48 : decode cX8_undo 48 = .ok (.iastore, 1) := by decide +kernel
theorem dX8_undo_49 : decode cX8_undo 49 = .ok (.iinc 1 1, 3) := by decide +kernel
theorem dX8_undo_52 : decode cX8_undo 52 = .ok (.goto (-31), 3) := by decide +kernel
theorem dX8_undo_55 : decode cX8_undo 55 = .ok (.aload_n 0, 1) := by decide +kernel
theorem dX8_undo_56 : decode cX8_undo 56 = .ok (.getfield 77, 3) := by decide +kernel
theorem dX8_undo_59 : decode cX8_undo 59 = .ok (.ireturn, 1) := by decide +kernel
theorem dX8_common_0 : decode cX8_common 0 = .ok (.lload_n 0, 1) := by decide +kernel
theorem dX8_common_1 : decode cX8_common 1 = .ok (.lconst 0, 1) := by decide +kernel
theorem dX8_common_2 : decode cX8_common 2 = .ok (.lcmp, 1) := by decide +kernel
theorem dX8_common_3 : decode cX8_common 3 = .ok (.ifCond .ge 8, 3) := by decide +kernel
theorem dX8_common_6 : decode cX8_common 6 = .ok (.lload_n 0, 1) := by decide +kernel
theorem dX8_common_7 : decode cX8_common 7 = .ok (.lneg, 1) := by decide +kernel
theorem dX8_common_8 : decode cX8_common 8 = .ok (.goto 4, 3) := by decide +kernel
theorem dX8_common_11 : decode cX8_common 11 = .ok (.lload_n 0, 1) := by decide +kernel
theorem dX8_common_12 : decode cX8_common 12 = .ok (.lstore 4, 2) := by decide +kernel
theorem dX8_common_14 : decode cX8_common 14 = .ok (.lload_n 2, 1) := by decide +kernel
theorem dX8_common_15 : decode cX8_common 15 = .ok (.lstore 6, 2) := by decide +kernel
theorem dX8_common_17 : decode cX8_common 17 = .ok (.lload 6, 2) := by decide +kernel
theorem dX8_common_19 : decode cX8_common 19 = .ok (.lconst 0, 1) := by decide +kernel
theorem dX8_common_20 : decode cX8_common 20 = .ok (.lcmp, 1) := by decide +kernel
theorem dX8_common_21 : decode cX8_common 21 = .ok (.ifCond .eq 21, 3) := by decide +kernel
theorem dX8_common_24 : decode cX8_common 24 = .ok (.lload 4, 2) := by decide +kernel
theorem dX8_common_26 : decode cX8_common 26 = .ok (.lload 6, 2) := by decide +kernel
theorem dX8_common_28 : decode cX8_common 28 = .ok (.lrem, 1) := by decide +kernel
theorem dX8_common_29 : decode cX8_common 29 = .ok (.lstore 8, 2) := by decide +kernel
theorem dX8_common_31 : decode cX8_common 31 = .ok (.lload 6, 2) := by decide +kernel
theorem dX8_common_33 : decode cX8_common 33 = .ok (.lstore 4, 2) := by decide +kernel
theorem dX8_common_35 : decode cX8_common 35 = .ok (.lload 8, 2) := by decide +kernel
theorem dX8_common_37 : decode cX8_common 37 = .ok (.lstore 6, 2) := by decide +kernel
theorem dX8_common_39 : decode cX8_common 39 = .ok (.goto (-22), 3) := by decide +kernel
theorem dX8_common_42 : decode cX8_common 42 = .ok (.lload 4, 2) := by decide +kernel
theorem dX8_common_44 : decode cX8_common 44 = .ok (.lreturn, 1) := by decide +kernel
theorem dX8_is_0 : decode cX8_is 0 = .ok (.lload_n 1, 1) := by decide +kernel
theorem dX8_is_1 : decode cX8_is 1 = .ok (.lload_n 3, 1) := by decide +kernel
theorem dX8_is_2 : decode cX8_is 2 = .ok (.invokestatic 157, 3) := by decide +kernel
theorem dX8_is_5 : decode cX8_is 5 = .ok (.lstore 5, 2) := by decide +kernel
theorem dX8_is_7 : decode cX8_is 7 = .ok (.aload_n 0, 1) := by decide +kernel
theorem dX8_is_8 : decode cX8_is 8 = .ok (.lload_n 1, 1) := by decide +kernel
theorem dX8_is_9 : decode cX8_is 9 = .ok (.lload 5, 2) := by decide +kernel
theorem dX8_is_11 : decode cX8_is 11 = .ok (.ldiv, 1) := by decide +kernel
theorem dX8_is_12 : decode cX8_is 12 = .ok (.putfield 161, 3) := by decide +kernel
theorem dX8_is_15 : decode cX8_is 15 = .ok (.aload_n 0, 1) := by decide +kernel
theorem dX8_is_16 : decode cX8_is 16 = .ok (.lload_n 3, 1) := by decide +kernel
theorem dX8_is_17 : decode cX8_is 17 = .ok (.lload 5, 2) := by decide +kernel
theorem dX8_is_19 : decode cX8_is 19 = .ok (.ldiv, 1) := by decide +kernel
theorem dX8_is_20 : decode cX8_is 20 = .ok (.putfield 165, 3) := by decide +kernel
theorem dX8_is_23 : decode cX8_is 23 = .ok (.return_, 1) := by decide +kernel
theorem dX8_adds_0 : decode cX8_adds 0 = .ok (.lload_n 3, 1) := by decide +kernel
theorem dX8_adds_1 : decode cX8_adds 1 = .ok (.lload 7, 2) := by decide +kernel
theorem dX8_adds_3 : decode cX8_adds 3 = .ok (.invokestatic 157, 3) := by decide +kernel
theorem dX8_adds_6 : decode cX8_adds 6 = .ok (.lstore 9, 2) := by decide +kernel
theorem dX8_adds_8 : decode cX8_adds 8 = .ok (.aload_n 0, 1) := by decide +kernel
theorem dX8_adds_9 : decode cX8_adds 9 = .ok (.lload_n 1, 1) := by decide +kernel
theorem dX8_adds_10 : decode cX8_adds 10 = .ok (.lload 7, 2) := by decide +kernel
theorem dX8_adds_12 : decode cX8_adds 12 = .ok (.lload 9, 2) := by decide +kernel
theorem dX8_adds_14 : decode cX8_adds 14 = .ok (.ldiv, 1) := by decide +kernel
theorem dX8_adds_15 : decode cX8_adds 15 = .ok (.lmul, 1) := by decide +kernel
theorem dX8_adds_16 : decode cX8_adds 16 = .ok (.lload 5, 2) := by decide +kernel
theorem dX8_adds_18 : decode cX8_adds 18 = .ok (.lload_n 3, 1) := by decide +kernel
theorem dX8_adds_19 : decode cX8_adds 19 = .ok (.lload 9, 2) := by decide +kernel
theorem dX8_adds_21 : decode cX8_adds 21 = .ok (.ldiv, 1) := by decide +kernel
theorem dX8_adds_22 : decode cX8_adds 22 = .ok (.lmul, 1) := by decide +kernel
theorem dX8_adds_23 : decode cX8_adds 23 = .ok (.ladd, 1) := by decide +kernel
theorem dX8_adds_24 : decode cX8_adds 24 = .ok (.lload_n 3, 1) := by decide +kernel
theorem dX8_adds_25 : decode cX8_adds 25 = .ok (.lload 9, 2) := by decide +kernel
theorem dX8_adds_27 : decode cX8_adds 27 = .ok (.ldiv, 1) := by decide +kernel
theorem dX8_adds_28 : decode cX8_adds 28 = .ok (.lload 7, 2) := by decide +kernel
theorem dX8_adds_30 : decode cX8_adds 30 = .ok (.lmul, 1) := by decide +kernel
theorem dX8_adds_31 : decode cX8_adds 31 = .ok (.invokevirtual 168, 3) := by decide +kernel
theorem dX8_adds_34 : decode cX8_adds 34 = .ok (.return_, 1) := by decide +kernel
theorem dX8_multiplies_0 : decode cX8_multiplies 0 = .ok (.lload_n 1, 1) := by decide +kernel
theorem dX8_multiplies_1 : decode cX8_multiplies 1 = .ok (.lload 7, 2) := by decide +kernel
theorem dX8_multiplies_3 : decode cX8_multiplies 3 = .ok (.invokestatic 157, 3) := by decide +kernel
theorem dX8_multiplies_6 : decode cX8_multiplies 6 = .ok (.lstore 9, 2) := by decide +kernel
theorem dX8_multiplies_8 : decode cX8_multiplies 8 = .ok (.lload 5, 2) := by decide +kernel
theorem dX8_multiplies_10 : decode cX8_multiplies 10 = .ok (.lload_n 3, 1) := by decide +kernel
theorem dX8_multiplies_11 : decode cX8_multiplies 11 = .ok (.invokestatic 157, 3) := by decide +kernel
theorem dX8_multiplies_14 : decode cX8_multiplies 14 = .ok (.lstore 11, 2) := by decide +kernel
theorem dX8_multiplies_16 : decode cX8_multiplies 16 = .ok (.aload_n 0, 1) := by decide +kernel
theorem dX8_multiplies_17 : decode cX8_multiplies 17 = .ok (.lload_n 1, 1) := by decide +kernel
theorem dX8_multiplies_18 : decode cX8_multiplies 18 = .ok (.lload 9, 2) := by decide +kernel
theorem dX8_multiplies_20 : decode cX8_multiplies 20 = .ok (.ldiv, 1) := by decide +kernel
theorem dX8_multiplies_21 : decode cX8_multiplies 21 = .ok (.lload 5, 2) := by decide +kernel
theorem dX8_multiplies_23 : decode cX8_multiplies 23 = .ok (.lload 11, 2) := by decide +kernel
theorem dX8_multiplies_25 : decode cX8_multiplies 25 = .ok (.ldiv, 1) := by decide +kernel
theorem dX8_multiplies_26 : decode cX8_multiplies 26 = .ok (.lmul, 1) := by decide +kernel
theorem dX8_multiplies_27 : decode cX8_multiplies 27 = .ok (.lload_n 3, 1) := by decide +kernel
theorem dX8_multiplies_28 : decode cX8_multiplies 28 = .ok (.lload 11, 2) := by decide +kernel
theorem dX8_multiplies_30 : decode cX8_multiplies 30 = .ok (.ldiv, 1) := by decide +kernel
theorem dX8_multiplies_31 : decode cX8_multiplies 31 = .ok (.lload 7, 2) := by decide +kernel
theorem dX8_multiplies_33 : decode cX8_multiplies 33 = .ok (.lload 9, 2) := by decide +kernel
theorem dX8_multiplies_35 : decode cX8_multiplies 35 = .ok (.ldiv, 1) := by decide +kernel
theorem dX8_multiplies_36 : decode cX8_multiplies 36 = .ok (.lmul, 1) := by decide +kernel
theorem dX8_multiplies_37 : decode cX8_multiplies 37 = .ok (.invokevirtual 168, 3) := by decide +kernel
theorem dX8_multiplies_40 : decode cX8_multiplies 40 = .ok (.return_, 1) := by decide +kernel
theorem dX8_isLess_0 : decode cX8_isLess 0 = .ok (.lload_n 0, 1) := by decide +kernel
theorem dX8_isLess_1 : decode cX8_isLess 1 = .ok (.lstore 8, 2) := by decide +kernel
theorem dX8_isLess_3 : decode cX8_isLess 3 = .ok (.lload_n 2, 1) := by decide +kernel
theorem dX8_isLess_4 : decode cX8_isLess 4 = .ok (.lstore 10, 2) := by decide +kernel
theorem dX8_isLess_6 : decode cX8_isLess 6 = .ok (.lload 4, 2) := by decide +kernel
theorem dX8_isLess_8 : decode cX8_isLess 8 = .ok (.lstore 12, 2) := by decide +kernel
theorem dX8_isLess_10 : decode cX8_isLess 10 = .ok (.lload 6, 2) := by decide +kernel
theorem dX8_isLess_12 : decode cX8_isLess 12 = .ok (.lstore 14, 2) := by decide +kernel
theorem dX8_isLess_14 : decode cX8_isLess 14 = .ok (.iconst 0, 1) := by decide +kernel
theorem dX8_isLess_15 : decode cX8_isLess 15 = .ok (.istore 16, 2) := by decide +kernel
theorem dX8_isLess_17 : decode cX8_isLess 17 = .ok (.lload 8, 2) := by decide +kernel
theorem dX8_isLess_19 : decode cX8_isLess 19 = .ok (.lload 10, 2) := by decide +kernel
theorem dX8_isLess_21 : decode cX8_isLess 21 = .ok (.ldiv, 1) := by decide +kernel
theorem dX8_isLess_22 : decode cX8_isLess 22 = .ok (.lload 12, 2) := by decide +kernel
theorem dX8_isLess_24 : decode cX8_isLess 24 = .ok (.lload 14, 2) := by decide +kernel
theorem dX8_isLess_26 : decode cX8_isLess 26 = .ok (.ldiv, 1) := by decide +kernel
theorem dX8_isLess_27 : decode cX8_isLess 27 = .ok (.lcmp, 1) := by decide +kernel
theorem dX8_isLess_28 : decode cX8_isLess 28 = .ok (.ifCond .eq 33, 3) := by decide +kernel
theorem dX8_isLess_31 : decode cX8_isLess 31 = .ok (.lload 8, 2) := by decide +kernel
theorem dX8_isLess_33 : decode cX8_isLess 33 = .ok (.lload 10, 2) := by decide +kernel
theorem dX8_isLess_35 : decode cX8_isLess 35 = .ok (.ldiv, 1) := by decide +kernel
theorem dX8_isLess_36 : decode cX8_isLess 36 = .ok (.lload 12, 2) := by decide +kernel
theorem dX8_isLess_38 : decode cX8_isLess 38 = .ok (.lload 14, 2) := by decide +kernel
theorem dX8_isLess_40 : decode cX8_isLess 40 = .ok (.ldiv, 1) := by decide +kernel
theorem dX8_isLess_41 : decode cX8_isLess 41 = .ok (.lcmp, 1) := by decide +kernel
theorem dX8_isLess_42 : decode cX8_isLess 42 = .ok (.ifCond .ge 7, 3) := by decide +kernel
theorem dX8_isLess_45 : decode cX8_isLess 45 = .ok (.iconst 1, 1) := by decide +kernel
theorem dX8_isLess_46 : decode cX8_isLess 46 = .ok (.goto 4, 3) := by decide +kernel
theorem dX8_isLess_49 : decode cX8_isLess 49 = .ok (.iconst 0, 1) := by decide +kernel
theorem dX8_isLess_50 : decode cX8_isLess 50 = .ok (.iload 16, 2) := by decide +kernel
theorem dX8_isLess_52 : decode cX8_isLess 52 = .ok (.if_icmp .eq 7, 3) := by decide +kernel
theorem dX8_isLess_55 : decode cX8_isLess 55 = .ok (.iconst 1, 1) := by decide +kernel
theorem dX8_isLess_56 : decode cX8_isLess 56 = .ok (.goto 4, 3) := by decide +kernel
theorem dX8_isLess_59 : decode cX8_isLess 59 = .ok (.iconst 0, 1) := by decide +kernel
theorem dX8_isLess_60 : decode cX8_isLess 60 = .ok (.ireturn, 1) := by decide +kernel
theorem dX8_isLess_61 : decode cX8_isLess 61 = .ok (.lload 8, 2) := by decide +kernel
theorem dX8_isLess_63 : decode cX8_isLess 63 = .ok (.lload 10, 2) := by decide +kernel
theorem dX8_isLess_65 : decode cX8_isLess 65 = .ok (.lrem, 1) := by decide +kernel
theorem dX8_isLess_66 : decode cX8_isLess 66 = .ok (.lstore 17, 2) := by decide +kernel
theorem dX8_isLess_68 : decode cX8_isLess 68 = .ok (.lload 12, 2) := by decide +kernel
theorem dX8_isLess_70 : decode cX8_isLess 70 = .ok (.lload 14, 2) := by decide +kernel
theorem dX8_isLess_72 : decode cX8_isLess 72 = .ok (.lrem, 1) := by decide +kernel
theorem dX8_isLess_73 : decode cX8_isLess 73 = .ok (.lstore 19, 2) := by decide +kernel
theorem dX8_isLess_75 : decode cX8_isLess 75 = .ok (.lload 17, 2) := by decide +kernel
theorem dX8_isLess_77 : decode cX8_isLess 77 = .ok (.lconst 0, 1) := by decide +kernel
theorem dX8_isLess_78 : decode cX8_isLess 78 = .ok (.lcmp, 1) := by decide +kernel
theorem dX8_isLess_79 : decode cX8_isLess 79 = .ok (.ifCond .eq 10, 3) := by decide +kernel
theorem dX8_isLess_82 : decode cX8_isLess 82 = .ok (.lload 19, 2) := by decide +kernel
theorem dX8_isLess_84 : decode cX8_isLess 84 = .ok (.lconst 0, 1) := by decide +kernel
theorem dX8_isLess_85 : decode cX8_isLess 85 = .ok (.lcmp, 1) := by decide +kernel
theorem dX8_isLess_86 : decode cX8_isLess 86 = .ok (.ifCond .ne 34, 3) := by decide +kernel
theorem dX8_isLess_89 : decode cX8_isLess 89 = .ok (.lload 17, 2) := by decide +kernel
theorem dX8_isLess_91 : decode cX8_isLess 91 = .ok (.lload 19, 2) := by decide +kernel
theorem dX8_isLess_93 : decode cX8_isLess 93 = .ok (.lcmp, 1) := by decide +kernel
theorem dX8_isLess_94 : decode cX8_isLess 94 = .ok (.ifCond .eq 24, 3) := by decide +kernel
theorem dX8_isLess_97 : decode cX8_isLess 97 = .ok (.lload 17, 2) := by decide +kernel
theorem dX8_isLess_99 : decode cX8_isLess 99 = .ok (.lconst 0, 1) := by decide +kernel
theorem dX8_isLess_100 : decode cX8_isLess 100 = .ok (.lcmp, 1) := by decide +kernel
theorem dX8_isLess_101 : decode cX8_isLess 101 = .ok (.ifCond .ne 7, 3) := by decide +kernel
theorem dX8_isLess_104 : decode cX8_isLess 104 = .ok (.iconst 1, 1) := by decide +kernel
theorem dX8_isLess_105 : decode cX8_isLess 105 = .ok (.goto 4, 3) := by decide +kernel
theorem dX8_isLess_108 : decode cX8_isLess 108 = .ok (.iconst 0, 1) := by decide +kernel
theorem dX8_isLess_109 : decode cX8_isLess 109 = .ok (.iload 16, 2) := by decide +kernel
theorem dX8_isLess_111 : decode cX8_isLess 111 = .ok (.if_icmp .eq 7, 3) := by decide +kernel
theorem dX8_isLess_114 : decode cX8_isLess 114 = .ok (.iconst 1, 1) := by decide +kernel
theorem dX8_isLess_115 : decode cX8_isLess 115 = .ok (.goto 4, 3) := by decide +kernel
theorem dX8_isLess_118 : decode cX8_isLess 118 = .ok (.iconst 0, 1) := by decide +kernel
theorem dX8_isLess_119 : decode cX8_isLess 119 = .ok (.ireturn, 1) := by decide +kernel
theorem dX8_isLess_120 : decode cX8_isLess 120 = .ok (.lload 10, 2) := by decide +kernel
theorem dX8_isLess_122 : decode cX8_isLess 122 = .ok (.lstore 8, 2) := by decide +kernel
theorem dX8_isLess_124 : decode cX8_isLess 124 = .ok (.lload 17, 2) := by decide +kernel
theorem dX8_isLess_126 : decode cX8_isLess 126 = .ok (.lstore 10, 2) := by decide +kernel
theorem dX8_isLess_128 : decode cX8_isLess 128 = .ok (.lload 14, 2) := by decide +kernel
theorem dX8_isLess_130 : decode cX8_isLess 130 = .ok (.lstore 12, 2) := by decide +kernel
theorem dX8_isLess_132 : decode cX8_isLess 132 = .ok (.lload 19, 2) := by decide +kernel
theorem dX8_isLess_134 : decode cX8_isLess 134 = .ok (.lstore 14, 2) := by decide +kernel
theorem dX8_isLess_136 : decode cX8_isLess 136 = .ok (.iload 16, 2) := by decide +kernel
theorem dX8_isLess_138 : decode cX8_isLess 138 = .ok (.ifCond .ne 7, 3) := by decide +kernel
theorem dX8_isLess_141 : decode cX8_isLess 141 = .ok (.iconst 1, 1) := by decide +kernel
theorem dX8_isLess_142 : decode cX8_isLess 142 = .ok (.goto 4, 3) := by decide +kernel
theorem dX8_isLess_145 : decode cX8_isLess 145 = .ok (.iconst 0, 1) := by decide +kernel
theorem dX8_isLess_146 : decode cX8_isLess 146 = .ok (.istore 16, 2) := by decide +kernel
theorem dX8_isLess_148 : decode cX8_isLess 148 = .ok (.goto (-131), 3) := by decide +kernel
theorem dX8_lossIn_0 : decode cX8_lossIn 0 = .ok (.iconst 0, 1) := by decide +kernel
theorem dX8_lossIn_1 : decode cX8_lossIn 1 = .ok (.istore_n 3, 1) := by decide +kernel
theorem dX8_lossIn_2 : decode cX8_lossIn 2 = .ok (.iconst 0, 1) := by decide +kernel
theorem dX8_lossIn_3 : decode cX8_lossIn 3 = .ok (.istore 4, 2) := by decide +kernel
theorem dX8_lossIn_5 : decode cX8_lossIn 5 = .ok (.iload 4, 2) := by decide +kernel
theorem dX8_lossIn_7 : decode cX8_lossIn 7 = .ok (.aload_n 0, 1) := by decide +kernel
theorem dX8_lossIn_8 : decode cX8_lossIn 8 = .ok (.invokevirtual 88, 3) := by decide +kernel
theorem dX8_lossIn_11 : decode cX8_lossIn 11 = .ok (.if_icmp .ge 38, 3) := by decide +kernel
theorem dX8_lossIn_14 : decode cX8_lossIn 14 = .ok (.aload_n 0, 1) := by decide +kernel
theorem dX8_lossIn_15 : decode cX8_lossIn 15 = .ok (.iload 4, 2) := by decide +kernel
theorem dX8_lossIn_17 : decode cX8_lossIn 17 = .ok (.invokevirtual 98, 3) := by decide +kernel
theorem dX8_lossIn_20 : decode cX8_lossIn 20 = .ok (.iload_n 1, 1) := by decide +kernel
theorem dX8_lossIn_21 : decode cX8_lossIn 21 = .ok (.if_icmp .ne 22, 3) := by decide +kernel
theorem dX8_lossIn_24 : decode cX8_lossIn 24 = .ok (.aload_n 0, 1) := by decide +kernel
theorem dX8_lossIn_25 : decode cX8_lossIn 25 = .ok (.iload 4, 2) := by decide +kernel
theorem dX8_lossIn_27 : decode cX8_lossIn 27 = .ok (.invokevirtual 101, 3) := by decide +kernel
theorem dX8_lossIn_30 : decode cX8_lossIn 30 = .ok (.iload_n 2, 1) := by decide +kernel
theorem dX8_lossIn_31 : decode cX8_lossIn 31 = .ok (.if_icmp .ne 12, 3) := by decide +kernel
theorem dX8_lossIn_34 : decode cX8_lossIn 34 = .ok (.iload_n 3, 1) := by decide +kernel
theorem dX8_lossIn_35 : decode cX8_lossIn 35 = .ok (.aload_n 0, 1) := by decide +kernel
theorem dX8_lossIn_36 : decode cX8_lossIn 36 = .ok (.iload 4, 2) := by decide +kernel
theorem dX8_lossIn_38 : decode cX8_lossIn 38 = .ok (.invokevirtual 172, 3) := by decide +kernel
theorem dX8_lossIn_41 : decode cX8_lossIn 41 = .ok (.iadd, 1) := by decide +kernel
theorem dX8_lossIn_42 : decode cX8_lossIn 42 = .ok (.istore_n 3, 1) := by decide +kernel
theorem dX8_lossIn_43 : decode cX8_lossIn 43 = .ok (.iinc 4 1, 3) := by decide +kernel
theorem dX8_lossIn_46 : decode cX8_lossIn 46 = .ok (.goto (-41), 3) := by decide +kernel
theorem dX8_lossIn_49 : decode cX8_lossIn 49 = .ok (.iload_n 3, 1) := by decide +kernel
theorem dX8_lossIn_50 : decode cX8_lossIn 50 = .ok (.ireturn, 1) := by decide +kernel
theorem dX8_sums_0 : decode cX8_sums 0 = .ok (.iconst 0, 1) := by decide +kernel
theorem dX8_sums_1 : decode cX8_sums 1 = .ok (.istore_n 1, 1) := by decide +kernel
theorem dX8_sums_2 : decode cX8_sums 2 = .ok (.iconst 0, 1) := by decide +kernel
theorem dX8_sums_3 : decode cX8_sums 3 = .ok (.istore_n 2, 1) := by decide +kernel
theorem dX8_sums_4 : decode cX8_sums 4 = .ok (.iconst 0, 1) := by decide +kernel
theorem dX8_sums_5 : decode cX8_sums 5 = .ok (.istore_n 3, 1) := by decide +kernel
theorem dX8_sums_6 : decode cX8_sums 6 = .ok (.iload_n 3, 1) := by decide +kernel
theorem dX8_sums_7 : decode cX8_sums 7 = .ok (.iconst 3, 1) := by decide +kernel
theorem dX8_sums_8 : decode cX8_sums 8 = .ok (.if_icmp .ge 30, 3) := by decide +kernel
theorem dX8_sums_11 : decode cX8_sums 11 = .ok (.aload_n 0, 1) := by decide +kernel
theorem dX8_sums_12 : decode cX8_sums 12 = .ok (.getfield 45, 3) := by decide +kernel
theorem dX8_sums_15 : decode cX8_sums 15 = .ok (.iload_n 3, 1) := by decide +kernel
theorem dX8_sums_16 : decode cX8_sums 16 = .ok (.iconst 0, 1) := by decide +kernel
theorem dX8_sums_17 : decode cX8_sums 17 = .ok (.iastore, 1) := by decide +kernel
theorem dX8_sums_18 : decode cX8_sums 18 = .ok (.aload_n 0, 1) := by decide +kernel
theorem dX8_sums_19 : decode cX8_sums 19 = .ok (.getfield 48, 3) := by decide +kernel
theorem dX8_sums_22 : decode cX8_sums 22 = .ok (.iload_n 3, 1) := by decide +kernel
theorem dX8_sums_23 : decode cX8_sums 23 = .ok (.iconst 0, 1) := by decide +kernel
theorem dX8_sums_24 : decode cX8_sums 24 = .ok (.iastore, 1) := by decide +kernel
theorem dX8_sums_25 : decode cX8_sums 25 = .ok (.aload_n 0, 1) := by decide +kernel
theorem dX8_sums_26 : decode cX8_sums 26 = .ok (.getfield 51, 3) := by decide +kernel
theorem dX8_sums_29 : decode cX8_sums 29 = .ok (.iload_n 3, 1) := by decide +kernel
theorem dX8_sums_30 : decode cX8_sums 30 = .ok (.iconst 0, 1) := by decide +kernel
theorem dX8_sums_31 : decode cX8_sums 31 = .ok (.iastore, 1) := by decide +kernel
theorem dX8_sums_32 : decode cX8_sums 32 = .ok (.iinc 3 1, 3) := by decide +kernel
theorem dX8_sums_35 : decode cX8_sums 35 = .ok (.goto (-29), 3) := by decide +kernel
theorem dX8_sums_38 : decode cX8_sums 38 = .ok (.iconst 0, 1) := by decide +kernel
theorem dX8_sums_39 : decode cX8_sums 39 = .ok (.istore_n 3, 1) := by decide +kernel
theorem dX8_sums_40 : decode cX8_sums 40 = .ok (.iload_n 3, 1) := by decide +kernel
theorem dX8_sums_41 : decode cX8_sums 41 = .ok (.aload_n 0, 1) := by decide +kernel
theorem dX8_sums_42 : decode cX8_sums 42 = .ok (.invokevirtual 80, 3) := by decide +kernel
theorem dX8_sums_45 : decode cX8_sums 45 = .ok (.if_icmp .ge 168, 3) := by decide +kernel
theorem dX8_sums_48 : decode cX8_sums 48 = .ok (.aload_n 0, 1) := by decide +kernel
theorem dX8_sums_49 : decode cX8_sums 49 = .ok (.getfield 26, 3) := by decide +kernel
theorem dX8_sums_52 : decode cX8_sums 52 = .ok (.iload_n 3, 1) := by decide +kernel
theorem dX8_sums_53 : decode cX8_sums 53 = .ok (.aload_n 0, 1) := by decide +kernel
theorem dX8_sums_54 : decode cX8_sums 54 = .ok (.iload_n 3, 1) := by decide +kernel
theorem dX8_sums_55 : decode cX8_sums 55 = .ok (.invokevirtual 91, 3) := by decide +kernel
theorem dX8_sums_58 : decode cX8_sums 58 = .ok (.invokestatic 138, 3) := by decide +kernel
theorem dX8_sums_61 : decode cX8_sums 61 = .ok (.iastore, 1) := by decide +kernel
theorem dX8_sums_62 : decode cX8_sums 62 = .ok (.aload_n 0, 1) := by decide +kernel
theorem dX8_sums_63 : decode cX8_sums 63 = .ok (.getfield 29, 3) := by decide +kernel
theorem dX8_sums_66 : decode cX8_sums 66 = .ok (.iload_n 3, 1) := by decide +kernel
theorem dX8_sums_67 : decode cX8_sums 67 = .ok (.iconst 0, 1) := by decide +kernel
theorem dX8_sums_68 : decode cX8_sums 68 = .ok (.iastore, 1) := by decide +kernel
theorem dX8_sums_69 : decode cX8_sums 69 = .ok (.aload_n 0, 1) := by decide +kernel
theorem dX8_sums_70 : decode cX8_sums 70 = .ok (.getfield 32, 3) := by decide +kernel
theorem dX8_sums_73 : decode cX8_sums 73 = .ok (.iload_n 3, 1) := by decide +kernel
theorem dX8_sums_74 : decode cX8_sums 74 = .ok (.iconst 0, 1) := by decide +kernel
theorem dX8_sums_75 : decode cX8_sums 75 = .ok (.iastore, 1) := by decide +kernel
theorem dX8_sums_76 : decode cX8_sums 76 = .ok (.iconst 0, 1) := by decide +kernel
theorem dX8_sums_77 : decode cX8_sums 77 = .ok (.istore 4, 2) := by decide +kernel
theorem dX8_sums_79 : decode cX8_sums 79 = .ok (.iload 4, 2) := by decide +kernel
theorem dX8_sums_81 : decode cX8_sums 81 = .ok (.iconst 5, 1) := by decide +kernel
theorem dX8_sums_82 : decode cX8_sums 82 = .ok (.if_icmp .ge 43, 3) := by decide +kernel
theorem dX8_sums_85 : decode cX8_sums 85 = .ok (.aload_n 0, 1) := by decide +kernel
theorem dX8_sums_86 : decode cX8_sums 86 = .ok (.iload_n 3, 1) := by decide +kernel
theorem dX8_sums_87 : decode cX8_sums 87 = .ok (.iload 4, 2) := by decide +kernel
theorem dX8_sums_89 : decode cX8_sums 89 = .ok (.invokevirtual 175, 3) := by decide +kernel
theorem dX8_sums_92 : decode cX8_sums 92 = .ok (.istore 5, 2) := by decide +kernel
theorem dX8_sums_94 : decode cX8_sums 94 = .ok (.aload_n 0, 1) := by decide +kernel
theorem dX8_sums_95 : decode cX8_sums 95 = .ok (.getfield 29, 3) := by decide +kernel
theorem dX8_sums_98 : decode cX8_sums 98 = .ok (.iload_n 3, 1) := by decide +kernel
theorem dX8_sums_99 : decode cX8_sums 99 = .ok (.dup2, 1) := by decide +kernel
theorem dX8_sums_100 : decode cX8_sums 100 = .ok (.iaload, 1) := by decide +kernel
theorem dX8_sums_101 : decode cX8_sums 101 = .ok (.iload 5, 2) := by decide +kernel
theorem dX8_sums_103 : decode cX8_sums 103 = .ok (.iadd, 1) := by decide +kernel
theorem dX8_sums_104 : decode cX8_sums 104 = .ok (.iastore, 1) := by decide +kernel
theorem dX8_sums_105 : decode cX8_sums 105 = .ok (.aload_n 0, 1) := by decide +kernel
theorem dX8_sums_106 : decode cX8_sums 106 = .ok (.getfield 32, 3) := by decide +kernel
theorem dX8_sums_109 : decode cX8_sums 109 = .ok (.iload_n 3, 1) := by decide +kernel
theorem dX8_sums_110 : decode cX8_sums 110 = .ok (.dup2, 1) := by decide +kernel
theorem dX8_sums_111 : decode cX8_sums 111 = .ok (.iaload, 1) := by decide +kernel
theorem dX8_sums_112 : decode cX8_sums 112 = .ok (.iload 5, 2) := by decide +kernel
theorem dX8_sums_114 : decode cX8_sums 114 = .ok (.iload 5, 2) := by decide +kernel
theorem dX8_sums_116 : decode cX8_sums 116 = .ok (.imul, 1) := by decide +kernel
theorem dX8_sums_117 : decode cX8_sums 117 = .ok (.iadd, 1) := by decide +kernel
theorem dX8_sums_118 : decode cX8_sums 118 = .ok (.iastore, 1) := by decide +kernel
theorem dX8_sums_119 : decode cX8_sums 119 = .ok (.iinc 4 1, 3) := by decide +kernel
theorem dX8_sums_122 : decode cX8_sums 122 = .ok (.goto (-43), 3) := by decide +kernel
theorem dX8_sums_125 : decode cX8_sums 125 = .ok (.aload_n 0, 1) := by decide +kernel
theorem dX8_sums_126 : decode cX8_sums 126 = .ok (.getfield 26, 3) := by decide +kernel
theorem dX8_sums_129 : decode cX8_sums 129 = .ok (.iload_n 3, 1) := by decide +kernel
theorem dX8_sums_130 : decode cX8_sums 130 = .ok (.iaload, 1) := by decide +kernel
theorem dX8_sums_131 : decode cX8_sums 131 = .ok (.ifCond .ne 6, 3) := by decide +kernel
theorem dX8_sums_134 : decode cX8_sums 134 = .ok (.goto 73, 3) := by decide +kernel
theorem dX8_sums_137 : decode cX8_sums 137 = .ok (.aload_n 0, 1) := by decide +kernel
theorem dX8_sums_138 : decode cX8_sums 138 = .ok (.getfield 45, 3) := by decide +kernel
theorem dX8_sums_141 : decode cX8_sums 141 = .ok (.aload_n 0, 1) := by decide +kernel
theorem dX8_sums_142 : decode cX8_sums 142 = .ok (.iload_n 3, 1) := by decide +kernel
theorem dX8_sums_143 : decode cX8_sums 143 = .ok (.invokevirtual 125, 3) := by decide +kernel
theorem dX8_sums_146 : decode cX8_sums 146 = .ok (.dup2, 1) := by decide +kernel
theorem dX8_sums_147 : decode cX8_sums 147 = .ok (.iaload, 1) := by decide +kernel
theorem dX8_sums_148 : decode cX8_sums 148 = .ok (.iconst 1, 1) := by decide +kernel
theorem dX8_sums_149 : decode cX8_sums 149 = .ok (.iadd, 1) := by decide +kernel
theorem dX8_sums_150 : decode cX8_sums 150 = .ok (.iastore, 1) := by decide +kernel
theorem dX8_sums_151 : decode cX8_sums 151 = .ok (.aload_n 0, 1) := by decide +kernel
theorem dX8_sums_152 : decode cX8_sums 152 = .ok (.getfield 48, 3) := by decide +kernel
theorem dX8_sums_155 : decode cX8_sums 155 = .ok (.aload_n 0, 1) := by decide +kernel
theorem dX8_sums_156 : decode cX8_sums 156 = .ok (.iload_n 3, 1) := by decide +kernel
theorem dX8_sums_157 : decode cX8_sums 157 = .ok (.invokevirtual 125, 3) := by decide +kernel
theorem dX8_sums_160 : decode cX8_sums 160 = .ok (.dup2, 1) := by decide +kernel
theorem dX8_sums_161 : decode cX8_sums 161 = .ok (.iaload, 1) := by decide +kernel
theorem dX8_sums_162 : decode cX8_sums 162 = .ok (.aload_n 0, 1) := by decide +kernel
theorem dX8_sums_163 : decode cX8_sums 163 = .ok (.getfield 26, 3) := by decide +kernel
theorem dX8_sums_166 : decode cX8_sums 166 = .ok (.iload_n 3, 1) := by decide +kernel
theorem dX8_sums_167 : decode cX8_sums 167 = .ok (.iaload, 1) := by decide +kernel
theorem dX8_sums_168 : decode cX8_sums 168 = .ok (.iadd, 1) := by decide +kernel
theorem dX8_sums_169 : decode cX8_sums 169 = .ok (.iastore, 1) := by decide +kernel
theorem dX8_sums_170 : decode cX8_sums 170 = .ok (.aload_n 0, 1) := by decide +kernel
theorem dX8_sums_171 : decode cX8_sums 171 = .ok (.getfield 51, 3) := by decide +kernel
theorem dX8_sums_174 : decode cX8_sums 174 = .ok (.aload_n 0, 1) := by decide +kernel
theorem dX8_sums_175 : decode cX8_sums 175 = .ok (.iload_n 3, 1) := by decide +kernel
theorem dX8_sums_176 : decode cX8_sums 176 = .ok (.invokevirtual 125, 3) := by decide +kernel
theorem dX8_sums_179 : decode cX8_sums 179 = .ok (.dup2, 1) := by decide +kernel
theorem dX8_sums_180 : decode cX8_sums 180 = .ok (.iaload, 1) := by decide +kernel
theorem dX8_sums_181 : decode cX8_sums 181 = .ok (.aload_n 0, 1) := by decide +kernel
theorem dX8_sums_182 : decode cX8_sums 182 = .ok (.getfield 29, 3) := by decide +kernel
theorem dX8_sums_185 : decode cX8_sums 185 = .ok (.iload_n 3, 1) := by decide +kernel
theorem dX8_sums_186 : decode cX8_sums 186 = .ok (.iaload, 1) := by decide +kernel
theorem dX8_sums_187 : decode cX8_sums 187 = .ok (.iadd, 1) := by decide +kernel
theorem dX8_sums_188 : decode cX8_sums 188 = .ok (.iastore, 1) := by decide +kernel
theorem dX8_sums_189 : decode cX8_sums 189 = .ok (.iload_n 2, 1) := by decide +kernel
theorem dX8_sums_190 : decode cX8_sums 190 = .ok (.aload_n 0, 1) := by decide +kernel
theorem dX8_sums_191 : decode cX8_sums 191 = .ok (.getfield 26, 3) := by decide +kernel
theorem dX8_sums_194 : decode cX8_sums 194 = .ok (.iload_n 3, 1) := by decide +kernel
theorem dX8_sums_195 : decode cX8_sums 195 = .ok (.iaload, 1) := by decide +kernel
theorem dX8_sums_196 : decode cX8_sums 196 = .ok (.iadd, 1) := by decide +kernel
theorem dX8_sums_197 : decode cX8_sums 197 = .ok (.istore_n 2, 1) := by decide +kernel
theorem dX8_sums_198 : decode cX8_sums 198 = .ok (.iload_n 1, 1) := by decide +kernel
theorem dX8_sums_199 : decode cX8_sums 199 = .ok (.aload_n 0, 1) := by decide +kernel
theorem dX8_sums_200 : decode cX8_sums 200 = .ok (.getfield 29, 3) := by decide +kernel
theorem dX8_sums_203 : decode cX8_sums 203 = .ok (.iload_n 3, 1) := by decide +kernel
theorem dX8_sums_204 : decode cX8_sums 204 = .ok (.iaload, 1) := by decide +kernel
theorem dX8_sums_205 : decode cX8_sums 205 = .ok (.iadd, 1) := by decide +kernel
theorem dX8_sums_206 : decode cX8_sums 206 = .ok (.istore_n 1, 1) := by decide +kernel
theorem dX8_sums_207 : decode cX8_sums 207 = .ok (.iinc 3 1, 3) := by decide +kernel
theorem dX8_sums_210 : decode cX8_sums 210 = .ok (.goto (-170), 3) := by decide +kernel
theorem dX8_sums_213 : decode cX8_sums 213 = .ok (.aload_n 0, 1) := by decide +kernel
theorem dX8_sums_214 : decode cX8_sums 214 = .ok (.lconst 0, 1) := by decide +kernel
theorem dX8_sums_215 : decode cX8_sums 215 = .ok (.putfield 178, 3) := by decide +kernel
theorem dX8_sums_218 : decode cX8_sums 218 = .ok (.aload_n 0, 1) := by decide +kernel
theorem dX8_sums_219 : decode cX8_sums 219 = .ok (.lconst 0, 1) := by decide +kernel
theorem dX8_sums_220 : decode cX8_sums 220 = .ok (.putfield 181, 3) := by decide +kernel
theorem dX8_sums_223 : decode cX8_sums 223 = .ok (.iload_n 2, 1) := by decide +kernel
theorem dX8_sums_224 : decode cX8_sums 224 = .ok (.ifCond .le 27, 3) := by decide +kernel
theorem dX8_sums_227 : decode cX8_sums 227 = .ok (.aload_n 0, 1) := by decide +kernel
theorem dX8_sums_228 : decode cX8_sums 228 = .ok (.iload_n 1, 1) := by decide +kernel
theorem dX8_sums_229 : decode cX8_sums 229 = .ok (.i2l, 1) := by decide +kernel
theorem dX8_sums_230 : decode cX8_sums 230 = .ok (.iload_n 2, 1) := by decide +kernel
theorem dX8_sums_231 : decode cX8_sums 231 = .ok (.i2l, 1) := by decide +kernel
theorem dX8_sums_232 : decode cX8_sums 232 = .ok (.invokevirtual 168, 3) := by decide +kernel
theorem dX8_sums_235 : decode cX8_sums 235 = .ok (.aload_n 0, 1) := by decide +kernel
theorem dX8_sums_236 : decode cX8_sums 236 = .ok (.aload_n 0, 1) := by decide +kernel
theorem dX8_sums_237 : decode cX8_sums 237 = .ok (.getfield 161, 3) := by decide +kernel
theorem dX8_sums_240 : decode cX8_sums 240 = .ok (.putfield 181, 3) := by decide +kernel
theorem dX8_sums_243 : decode cX8_sums 243 = .ok (.aload_n 0, 1) := by decide +kernel
theorem dX8_sums_244 : decode cX8_sums 244 = .ok (.aload_n 0, 1) := by decide +kernel
theorem dX8_sums_245 : decode cX8_sums 245 = .ok (.getfield 165, 3) := by decide +kernel
theorem dX8_sums_248 : decode cX8_sums 248 = .ok (.putfield 178, 3) := by decide +kernel
theorem dX8_sums_251 : decode cX8_sums 251 = .ok (.return_, 1) := by decide +kernel
theorem dX8_isIn_0 : decode cX8_isIn 0 = .ok (.aload_n 0, 1) := by decide +kernel
theorem dX8_isIn_1 : decode cX8_isIn 1 = .ok (.iload_n 1, 1) := by decide +kernel
theorem dX8_isIn_2 : decode cX8_isIn 2 = .ok (.invokevirtual 125, 3) := by decide +kernel
theorem dX8_isIn_5 : decode cX8_isIn 5 = .ok (.iload_n 2, 1) := by decide +kernel
theorem dX8_isIn_6 : decode cX8_isIn 6 = .ok (.if_icmp .ne 16, 3) := by decide +kernel
theorem dX8_isIn_9 : decode cX8_isIn 9 = .ok (.aload_n 0, 1) := by decide +kernel
theorem dX8_isIn_10 : decode cX8_isIn 10 = .ok (.getfield 26, 3) := by decide +kernel
theorem dX8_isIn_13 : decode cX8_isIn 13 = .ok (.iload_n 1, 1) := by decide +kernel
theorem dX8_isIn_14 : decode cX8_isIn 14 = .ok (.iaload, 1) := by decide +kernel
theorem dX8_isIn_15 : decode cX8_isIn 15 = .ok (.ifCond .le 7, 3) := by decide +kernel
theorem dX8_isIn_18 : decode cX8_isIn 18 = .ok (.iconst 1, 1) := by decide +kernel
theorem dX8_isIn_19 : decode cX8_isIn 19 = .ok (.goto 4, 3) := by decide +kernel
theorem dX8_isIn_22 : decode cX8_isIn 22 = .ok (.iconst 0, 1) := by decide +kernel
theorem dX8_isIn_23 : decode cX8_isIn 23 = .ok (.ireturn, 1) := by decide +kernel
theorem dX8_puts_0 : decode cX8_puts 0 = .ok (.aload_n 0, 1) := by decide +kernel
theorem dX8_puts_1 : decode cX8_puts 1 = .ok (.getfield 57, 3) := by decide +kernel
theorem dX8_puts_4 : decode cX8_puts 4 = .ok (.iconst 5, 1) := by decide +kernel
theorem dX8_puts_5 : decode cX8_puts 5 = .ok (.iload_n 1, 1) := by decide +kernel
theorem dX8_puts_6 : decode cX8_puts 6 = .ok (.imul, 1) := by decide +kernel
theorem dX8_puts_7 : decode cX8_puts 7 = .ok (.iload_n 2, 1) := by decide +kernel
theorem dX8_puts_8 : decode cX8_puts 8 = .ok (.iadd, 1) := by decide +kernel
theorem dX8_puts_9 : decode cX8_puts 9 = .ok (.aload_n 0, 1) := by decide +kernel
theorem dX8_puts_10 : decode cX8_puts 10 = .ok (.getfield 161, 3) := by decide +kernel
theorem dX8_puts_13 : decode cX8_puts 13 = .ok (.lastore, 1) := by decide +kernel
theorem dX8_puts_14 : decode cX8_puts 14 = .ok (.aload_n 0, 1) := by decide +kernel
theorem dX8_puts_15 : decode cX8_puts 15 = .ok (.getfield 60, 3) := by decide +kernel
theorem dX8_puts_18 : decode cX8_puts 18 = .ok (.iconst 5, 1) := by decide +kernel
theorem dX8_puts_19 : decode cX8_puts 19 = .ok (.iload_n 1, 1) := by decide +kernel
theorem dX8_puts_20 : decode cX8_puts 20 = .ok (.imul, 1) := by decide +kernel
theorem dX8_puts_21 : decode cX8_puts 21 = .ok (.iload_n 2, 1) := by decide +kernel
theorem dX8_puts_22 : decode cX8_puts 22 = .ok (.iadd, 1) := by decide +kernel
theorem dX8_puts_23 : decode cX8_puts 23 = .ok (.aload_n 0, 1) := by decide +kernel
theorem dX8_puts_24 : decode cX8_puts 24 = .ok (.getfield 165, 3) := by decide +kernel
theorem dX8_puts_27 : decode cX8_puts 27 = .ok (.lastore, 1) := by decide +kernel
theorem dX8_puts_28 : decode cX8_puts 28 = .ok (.return_, 1) := by decide +kernel
theorem dX8_spreads_0 : decode cX8_spreads 0 = .ok (.iconst 5, 1) := by decide +kernel
theorem dX8_spreads_1 : decode cX8_spreads 1 = .ok (.iload_n 1, 1) := by decide +kernel
theorem dX8_spreads_2 : decode cX8_spreads 2 = .ok (.imul, 1) := by decide +kernel
theorem dX8_spreads_3 : decode cX8_spreads 3 = .ok (.istore_n 2, 1) := by decide +kernel
theorem dX8_spreads_4 : decode cX8_spreads 4 = .ok (.iconst 0, 1) := by decide +kernel
theorem dX8_spreads_5 : decode cX8_spreads 5 = .ok (.istore_n 3, 1) := by decide +kernel
theorem dX8_spreads_6 : decode cX8_spreads 6 = .ok (.iload_n 3, 1) := by decide +kernel
theorem dX8_spreads_7 : decode cX8_spreads 7 = .ok (.iconst 5, 1) := by decide +kernel
theorem dX8_spreads_8 : decode cX8_spreads 8 = .ok (.if_icmp .ge 27, 3) := by decide +kernel
theorem dX8_spreads_11 : decode cX8_spreads 11 = .ok (.aload_n 0, 1) := by decide +kernel
theorem dX8_spreads_12 : decode cX8_spreads 12 = .ok (.getfield 57, 3) := by decide +kernel
theorem dX8_spreads_15 : decode cX8_spreads 15 = .ok (.iload_n 2, 1) := by decide +kernel
theorem dX8_spreads_16 : decode cX8_spreads 16 = .ok (.iload_n 3, 1) := by decide +kernel
theorem dX8_spreads_17 : decode cX8_spreads 17 = .ok (.iadd, 1) := by decide +kernel
theorem dX8_spreads_18 : decode cX8_spreads 18 = .ok (.lconst 0, 1) := by decide +kernel
theorem dX8_spreads_19 : decode cX8_spreads 19 = .ok (.lastore, 1) := by decide +kernel
theorem dX8_spreads_20 : decode cX8_spreads 20 = .ok (.aload_n 0, 1) := by decide +kernel
theorem dX8_spreads_21 : decode cX8_spreads 21 = .ok (.getfield 60, 3) := by decide +kernel
theorem dX8_spreads_24 : decode cX8_spreads 24 = .ok (.iload_n 2, 1) := by decide +kernel
theorem dX8_spreads_25 : decode cX8_spreads 25 = .ok (.iload_n 3, 1) := by decide +kernel
theorem dX8_spreads_26 : decode cX8_spreads 26 = .ok (.iadd, 1) := by decide +kernel
theorem dX8_spreads_27 : decode cX8_spreads 27 = .ok (.lconst 0, 1) := by decide +kernel
theorem dX8_spreads_28 : decode cX8_spreads 28 = .ok (.lastore, 1) := by decide +kernel
theorem dX8_spreads_29 : decode cX8_spreads 29 = .ok (.iinc 3 1, 3) := by decide +kernel
theorem dX8_spreads_32 : decode cX8_spreads 32 = .ok (.goto (-26), 3) := by decide +kernel
theorem dX8_spreads_35 : decode cX8_spreads 35 = .ok (.lconst 0, 1) := by decide +kernel
theorem dX8_spreads_36 : decode cX8_spreads 36 = .ok (.lstore_n 3, 1) := by decide +kernel
theorem dX8_spreads_37 : decode cX8_spreads 37 = .ok (.lconst 1, 1) := by decide +kernel
theorem dX8_spreads_38 : decode cX8_spreads 38 = .ok (.lstore 5, 2) := by decide +kernel
theorem dX8_spreads_40 : decode cX8_spreads 40 = .ok (.iconst 0, 1) := by decide +kernel
theorem dX8_spreads_41 : decode cX8_spreads 41 = .ok (.istore 7, 2) := by decide +kernel
theorem dX8_spreads_43 : decode cX8_spreads 43 = .ok (.iconst 0, 1) := by decide +kernel
theorem dX8_spreads_44 : decode cX8_spreads 44 = .ok (.istore 8, 2) := by decide +kernel
theorem dX8_spreads_46 : decode cX8_spreads 46 = .ok (.iconst 0, 1) := by decide +kernel
theorem dX8_spreads_47 : decode cX8_spreads 47 = .ok (.istore 9, 2) := by decide +kernel
theorem dX8_spreads_49 : decode cX8_spreads 49 = .ok (.iload 9, 2) := by decide +kernel
theorem dX8_spreads_51 : decode cX8_spreads 51 = .ok (.aload_n 0, 1) := by decide +kernel
theorem dX8_spreads_52 : decode cX8_spreads 52 = .ok (.invokevirtual 80, 3) := by decide +kernel
theorem dX8_spreads_55 : decode cX8_spreads 55 = .ok (.if_icmp .ge 97, 3) := by decide +kernel
theorem dX8_spreads_58 : decode cX8_spreads 58 = .ok (.aload_n 0, 1) := by decide +kernel
theorem dX8_spreads_59 : decode cX8_spreads 59 = .ok (.iload 9, 2) := by decide +kernel
theorem dX8_spreads_61 : decode cX8_spreads 61 = .ok (.iload_n 1, 1) := by decide +kernel
theorem dX8_spreads_62 : decode cX8_spreads 62 = .ok (.invokevirtual 184, 3) := by decide +kernel
theorem dX8_spreads_65 : decode cX8_spreads 65 = .ok (.ifCond .ne 6, 3) := by decide +kernel
theorem dX8_spreads_68 : decode cX8_spreads 68 = .ok (.goto 78, 3) := by decide +kernel
theorem dX8_spreads_71 : decode cX8_spreads 71 = .ok (.aload_n 0, 1) := by decide +kernel
theorem dX8_spreads_72 : decode cX8_spreads 72 = .ok (.lload_n 3, 1) := by decide +kernel
theorem dX8_spreads_73 : decode cX8_spreads 73 = .ok (.lload 5, 2) := by decide +kernel
theorem dX8_spreads_75 : decode cX8_spreads 75 = .ok (.aload_n 0, 1) := by decide +kernel
theorem dX8_spreads_76 : decode cX8_spreads 76 = .ok (.getfield 29, 3) := by decide +kernel
theorem dX8_spreads_79 : decode cX8_spreads 79 = .ok (.iload 9, 2) := by decide +kernel
theorem dX8_spreads_81 : decode cX8_spreads 81 = .ok (.iaload, 1) := by decide +kernel
theorem dX8_spreads_82 : decode cX8_spreads 82 = .ok (.i2l, 1) := by decide +kernel
theorem dX8_spreads_83 : decode cX8_spreads 83 = .ok (.aload_n 0, 1) := by decide +kernel
theorem dX8_spreads_84 : decode cX8_spreads 84 = .ok (.getfield 29, 3) := by decide +kernel
theorem dX8_spreads_87 : decode cX8_spreads 87 = .ok (.iload 9, 2) := by decide +kernel
theorem dX8_spreads_89 : decode cX8_spreads 89 = .ok (.iaload, 1) := by decide +kernel
theorem dX8_spreads_90 : decode cX8_spreads 90 = .ok (.i2l, 1) := by decide +kernel
theorem dX8_spreads_91 : decode cX8_spreads 91 = .ok (.lmul, 1) := by decide +kernel
theorem dX8_spreads_92 : decode cX8_spreads 92 = .ok (.aload_n 0, 1) := by decide +kernel
theorem dX8_spreads_93 : decode cX8_spreads 93 = .ok (.getfield 26, 3) := by decide +kernel
theorem dX8_spreads_96 : decode cX8_spreads 96 = .ok (.iload 9, 2) := by decide +kernel
theorem dX8_spreads_98 : decode cX8_spreads 98 = .ok (.iaload, 1) := by decide +kernel
theorem dX8_spreads_99 : decode cX8_spreads 99 = .ok (.i2l, 1) := by decide +kernel
theorem dX8_spreads_100 : decode cX8_spreads 100 = .ok (.invokevirtual 187, 3) := by decide +kernel
theorem dX8_spreads_103 : decode cX8_spreads 103 = .ok (.aload_n 0, 1) := by decide +kernel
theorem dX8_spreads_104 : decode cX8_spreads 104 = .ok (.getfield 161, 3) := by decide +kernel
theorem dX8_spreads_107 : decode cX8_spreads 107 = .ok (.lstore_n 3, 1) := by decide +kernel
theorem dX8_spreads_108 : decode cX8_spreads 108 = .ok (.aload_n 0, 1) := by decide +kernel
theorem dX8_spreads_109 : decode cX8_spreads 109 = .ok (.getfield 165, 3) := by decide +kernel
theorem dX8_spreads_112 : decode cX8_spreads 112 = .ok (.lstore 5, 2) := by decide +kernel
theorem dX8_spreads_114 : decode cX8_spreads 114 = .ok (.iload 7, 2) := by decide +kernel
theorem dX8_spreads_116 : decode cX8_spreads 116 = .ok (.aload_n 0, 1) := by decide +kernel
theorem dX8_spreads_117 : decode cX8_spreads 117 = .ok (.getfield 32, 3) := by decide +kernel
theorem dX8_spreads_120 : decode cX8_spreads 120 = .ok (.iload 9, 2) := by decide +kernel
theorem dX8_spreads_122 : decode cX8_spreads 122 = .ok (.iaload, 1) := by decide +kernel
theorem dX8_spreads_123 : decode cX8_spreads 123 = .ok (.iadd, 1) := by decide +kernel
theorem dX8_spreads_124 : decode cX8_spreads 124 = .ok (.istore 7, 2) := by decide +kernel
theorem dX8_spreads_126 : decode cX8_spreads 126 = .ok (.iload 8, 2) := by decide +kernel
theorem dX8_spreads_128 : decode cX8_spreads 128 = .ok (.aload_n 0, 1) := by decide +kernel
theorem dX8_spreads_129 : decode cX8_spreads 129 = .ok (.getfield 26, 3) := by decide +kernel
theorem dX8_spreads_132 : decode cX8_spreads 132 = .ok (.iload 9, 2) := by decide +kernel
theorem dX8_spreads_134 : decode cX8_spreads 134 = .ok (.iaload, 1) := by decide +kernel
theorem dX8_spreads_135 : decode cX8_spreads 135 = .ok (.aload_n 0, 1) := by decide +kernel
theorem dX8_spreads_136 : decode cX8_spreads 136 = .ok (.getfield 26, 3) := by decide +kernel
theorem dX8_spreads_139 : decode cX8_spreads 139 = .ok (.iload 9, 2) := by decide +kernel
theorem dX8_spreads_141 : decode cX8_spreads 141 = .ok (.iaload, 1) := by decide +kernel
theorem dX8_spreads_142 : decode cX8_spreads 142 = .ok (.imul, 1) := by decide +kernel
theorem dX8_spreads_143 : decode cX8_spreads 143 = .ok (.iadd, 1) := by decide +kernel
theorem dX8_spreads_144 : decode cX8_spreads 144 = .ok (.istore 8, 2) := by decide +kernel
theorem dX8_spreads_146 : decode cX8_spreads 146 = .ok (.iinc 9 1, 3) := by decide +kernel
theorem dX8_spreads_149 : decode cX8_spreads 149 = .ok (.goto (-100), 3) := by decide +kernel
theorem dX8_spreads_152 : decode cX8_spreads 152 = .ok (.aload_n 0, 1) := by decide +kernel
theorem dX8_spreads_153 : decode cX8_spreads 153 = .ok (.getfield 48, 3) := by decide +kernel
theorem dX8_spreads_156 : decode cX8_spreads 156 = .ok (.iload_n 1, 1) := by decide +kernel
theorem dX8_spreads_157 : decode cX8_spreads 157 = .ok (.iaload, 1) := by decide +kernel
theorem dX8_spreads_158 : decode cX8_spreads 158 = .ok (.aload_n 0, 1) := by decide +kernel
theorem dX8_spreads_159 : decode cX8_spreads 159 = .ok (.getfield 45, 3) := by decide +kernel
theorem dX8_spreads_162 : decode cX8_spreads 162 = .ok (.iload_n 1, 1) := by decide +kernel
theorem dX8_spreads_163 : decode cX8_spreads 163 = .ok (.iaload, 1) := by decide +kernel
theorem dX8_spreads_164 : decode cX8_spreads 164 = .ok (.isub, 1) := by decide +kernel
theorem dX8_spreads_165 : decode cX8_spreads 165 = .ok (.istore 9, 2) := by decide +kernel
theorem dX8_spreads_167 : decode cX8_spreads 167 = .ok (.iload 9, 2) := by decide +kernel
theorem dX8_spreads_169 : decode cX8_spreads 169 = .ok (.ifCond .ne 4, 3) := by decide +kernel
theorem dX8_spreads_172 : decode cX8_spreads 172 = .ok (.return_, 1) := by decide +kernel
theorem dX8_spreads_173 : decode cX8_spreads 173 = .ok (.aload_n 0, 1) := by decide +kernel
theorem dX8_spreads_174 : decode cX8_spreads 174 = .ok (.iload 7, 2) := by decide +kernel
theorem dX8_spreads_176 : decode cX8_spreads 176 = .ok (.i2l, 1) := by decide +kernel
theorem dX8_spreads_177 : decode cX8_spreads 177 = .ok (.lconst 1, 1) := by decide +kernel
theorem dX8_spreads_178 : decode cX8_spreads 178 = .ok (.lload_n 3, 1) := by decide +kernel
theorem dX8_spreads_179 : decode cX8_spreads 179 = .ok (.lneg, 1) := by decide +kernel
theorem dX8_spreads_180 : decode cX8_spreads 180 = .ok (.lload 5, 2) := by decide +kernel
theorem dX8_spreads_182 : decode cX8_spreads 182 = .ok (.invokevirtual 187, 3) := by decide +kernel
theorem dX8_spreads_185 : decode cX8_spreads 185 = .ok (.aload_n 0, 1) := by decide +kernel
theorem dX8_spreads_186 : decode cX8_spreads 186 = .ok (.aload_n 0, 1) := by decide +kernel
theorem dX8_spreads_187 : decode cX8_spreads 187 = .ok (.getfield 161, 3) := by decide +kernel
theorem dX8_spreads_190 : decode cX8_spreads 190 = .ok (.aload_n 0, 1) := by decide +kernel
theorem dX8_spreads_191 : decode cX8_spreads 191 = .ok (.getfield 165, 3) := by decide +kernel
theorem dX8_spreads_194 : decode cX8_spreads 194 = .ok (.lconst 1, 1) := by decide +kernel
theorem dX8_spreads_195 : decode cX8_spreads 195 = .ok (.iload 9, 2) := by decide +kernel
theorem dX8_spreads_197 : decode cX8_spreads 197 = .ok (.i2l, 1) := by decide +kernel
theorem dX8_spreads_198 : decode cX8_spreads 198 = .ok (.invokevirtual 191, 3) := by decide +kernel
theorem dX8_spreads_201 : decode cX8_spreads 201 = .ok (.aload_n 0, 1) := by decide +kernel
theorem dX8_spreads_202 : decode cX8_spreads 202 = .ok (.iload_n 1, 1) := by decide +kernel
theorem dX8_spreads_203 : decode cX8_spreads 203 = .ok (.iconst 0, 1) := by decide +kernel
theorem dX8_spreads_204 : decode cX8_spreads 204 = .ok (.invokevirtual 194, 3) := by decide +kernel
theorem dX8_spreads_207 : decode cX8_spreads 207 = .ok (.aload_n 0, 1) := by decide +kernel
theorem dX8_spreads_208 : decode cX8_spreads 208 = .ok (.getfield 45, 3) := by decide +kernel
theorem dX8_spreads_211 : decode cX8_spreads 211 = .ok (.iload_n 1, 1) := by decide +kernel
theorem dX8_spreads_212 : decode cX8_spreads 212 = .ok (.iaload, 1) := by decide +kernel
theorem dX8_spreads_213 : decode cX8_spreads 213 = .ok (.iconst 2, 1) := by decide +kernel
theorem dX8_spreads_214 : decode cX8_spreads 214 = .ok (.if_icmp .ge 4, 3) := by decide +kernel
theorem dX8_spreads_217 : decode cX8_spreads 217 = .ok (.return_, 1) := by decide +kernel
theorem dX8_spreads_218 : decode cX8_spreads 218 = .ok (.aload_n 0, 1) := by decide +kernel
theorem dX8_spreads_219 : decode cX8_spreads 219 = .ok (.aload_n 0, 1) := by decide +kernel
theorem dX8_spreads_220 : decode cX8_spreads 220 = .ok (.getfield 57, 3) := by decide +kernel
theorem dX8_spreads_223 : decode cX8_spreads 223 = .ok (.iload_n 2, 1) := by decide +kernel
theorem dX8_spreads_224 : decode cX8_spreads 224 = .ok (.laload, 1) := by decide +kernel
theorem dX8_spreads_225 : decode cX8_spreads 225 = .ok (.aload_n 0, 1) := by decide +kernel
theorem dX8_spreads_226 : decode cX8_spreads 226 = .ok (.getfield 60, 3) := by decide +kernel
theorem dX8_spreads_229 : decode cX8_spreads 229 = .ok (.iload_n 2, 1) := by decide +kernel
theorem dX8_spreads_230 : decode cX8_spreads 230 = .ok (.laload, 1) := by decide +kernel
theorem dX8_spreads_231 : decode cX8_spreads 231 = .ok (.aload_n 0, 1) := by decide +kernel
theorem dX8_spreads_232 : decode cX8_spreads 232 = .ok (.getfield 45, 3) := by decide +kernel
theorem dX8_spreads_235 : decode cX8_spreads 235 = .ok (.iload_n 1, 1) := by decide +kernel
theorem dX8_spreads_236 : decode cX8_spreads 236 = .ok (.iaload, 1) := by decide +kernel
theorem dX8_spreads_237 : decode cX8_spreads 237 = .ok (.i2l, 1) := by decide +kernel
theorem dX8_spreads_238 : decode cX8_spreads 238 = .ok (.lconst 1, 1) := by decide +kernel
theorem dX8_spreads_239 : decode cX8_spreads 239 = .ok (.lsub, 1) := by decide +kernel
theorem dX8_spreads_240 : decode cX8_spreads 240 = .ok (.lconst 1, 1) := by decide +kernel
theorem dX8_spreads_241 : decode cX8_spreads 241 = .ok (.invokevirtual 191, 3) := by decide +kernel
theorem dX8_spreads_244 : decode cX8_spreads 244 = .ok (.aload_n 0, 1) := by decide +kernel
theorem dX8_spreads_245 : decode cX8_spreads 245 = .ok (.lload_n 3, 1) := by decide +kernel
theorem dX8_spreads_246 : decode cX8_spreads 246 = .ok (.lload 5, 2) := by decide +kernel
theorem dX8_spreads_248 : decode cX8_spreads 248 = .ok (.aload_n 0, 1) := by decide +kernel
theorem dX8_spreads_249 : decode cX8_spreads 249 = .ok (.getfield 161, 3) := by decide +kernel
theorem dX8_spreads_252 : decode cX8_spreads 252 = .ok (.lneg, 1) := by decide +kernel
theorem dX8_spreads_253 : decode cX8_spreads 253 = .ok (.aload_n 0, 1) := by decide +kernel
theorem dX8_spreads_254 : decode cX8_spreads 254 = .ok (.getfield 165, 3) := by decide +kernel
theorem dX8_spreads_257 : decode cX8_spreads 257 = .ok (.invokevirtual 187, 3) := by decide +kernel
theorem dX8_spreads_260 : decode cX8_spreads 260 = .ok (.aload_n 0, 1) := by decide +kernel
theorem dX8_spreads_261 : decode cX8_spreads 261 = .ok (.getfield 161, 3) := by decide +kernel
theorem dX8_spreads_264 : decode cX8_spreads 264 = .ok (.lstore 10, 2) := by decide +kernel
theorem dX8_spreads_266 : decode cX8_spreads 266 = .ok (.aload_n 0, 1) := by decide +kernel
theorem dX8_spreads_267 : decode cX8_spreads 267 = .ok (.getfield 165, 3) := by decide +kernel
theorem dX8_spreads_270 : decode cX8_spreads 270 = .ok (.lstore 12, 2) := by decide +kernel
theorem dX8_spreads_272 : decode cX8_spreads 272 = .ok (.aload_n 0, 1) := by decide +kernel
theorem dX8_spreads_273 : decode cX8_spreads 273 = .ok (.aload_n 0, 1) := by decide +kernel
theorem dX8_spreads_274 : decode cX8_spreads 274 = .ok (.getfield 51, 3) := by decide +kernel
theorem dX8_spreads_277 : decode cX8_spreads 277 = .ok (.iload_n 1, 1) := by decide +kernel
theorem dX8_spreads_278 : decode cX8_spreads 278 = .ok (.iaload, 1) := by decide +kernel
theorem dX8_spreads_279 : decode cX8_spreads 279 = .ok (.i2l, 1) := by decide +kernel
theorem dX8_spreads_280 : decode cX8_spreads 280 = .ok (.aload_n 0, 1) := by decide +kernel
theorem dX8_spreads_281 : decode cX8_spreads 281 = .ok (.getfield 51, 3) := by decide +kernel
theorem dX8_spreads_284 : decode cX8_spreads 284 = .ok (.iload_n 1, 1) := by decide +kernel
theorem dX8_spreads_285 : decode cX8_spreads 285 = .ok (.iaload, 1) := by decide +kernel
theorem dX8_spreads_286 : decode cX8_spreads 286 = .ok (.i2l, 1) := by decide +kernel
theorem dX8_spreads_287 : decode cX8_spreads 287 = .ok (.lmul, 1) := by decide +kernel
theorem dX8_spreads_288 : decode cX8_spreads 288 = .ok (.aload_n 0, 1) := by decide +kernel
theorem dX8_spreads_289 : decode cX8_spreads 289 = .ok (.getfield 48, 3) := by decide +kernel
theorem dX8_spreads_292 : decode cX8_spreads 292 = .ok (.iload_n 1, 1) := by decide +kernel
theorem dX8_spreads_293 : decode cX8_spreads 293 = .ok (.iaload, 1) := by decide +kernel
theorem dX8_spreads_294 : decode cX8_spreads 294 = .ok (.i2l, 1) := by decide +kernel
theorem dX8_spreads_295 : decode cX8_spreads 295 = .ok (.invokevirtual 168, 3) := by decide +kernel
theorem dX8_spreads_298 : decode cX8_spreads 298 = .ok (.aload_n 0, 1) := by decide +kernel
theorem dX8_spreads_299 : decode cX8_spreads 299 = .ok (.lload 10, 2) := by decide +kernel
theorem dX8_spreads_301 : decode cX8_spreads 301 = .ok (.lload 12, 2) := by decide +kernel
theorem dX8_spreads_303 : decode cX8_spreads 303 = .ok (.aload_n 0, 1) := by decide +kernel
theorem dX8_spreads_304 : decode cX8_spreads 304 = .ok (.getfield 161, 3) := by decide +kernel
theorem dX8_spreads_307 : decode cX8_spreads 307 = .ok (.lneg, 1) := by decide +kernel
theorem dX8_spreads_308 : decode cX8_spreads 308 = .ok (.aload_n 0, 1) := by decide +kernel
theorem dX8_spreads_309 : decode cX8_spreads 309 = .ok (.getfield 165, 3) := by decide +kernel
theorem dX8_spreads_312 : decode cX8_spreads 312 = .ok (.invokevirtual 187, 3) := by decide +kernel
theorem dX8_spreads_315 : decode cX8_spreads 315 = .ok (.aload_n 0, 1) := by decide +kernel
theorem dX8_spreads_316 : decode cX8_spreads 316 = .ok (.getfield 161, 3) := by decide +kernel
theorem dX8_spreads_319 : decode cX8_spreads 319 = .ok (.lconst 0, 1) := by decide +kernel
theorem dX8_spreads_320 : decode cX8_spreads 320 = .ok (.lcmp, 1) := by decide +kernel
theorem dX8_spreads_321 : decode cX8_spreads 321 = .ok (.ifCond .gt 9, 3) := by decide +kernel
theorem dX8_spreads_324 : decode cX8_spreads 324 = .ok (.aload_n 0, 1) := by decide +kernel
theorem dX8_spreads_325 : decode cX8_spreads 325 = .ok (.lconst 0, 1) := by decide +kernel
theorem dX8_spreads_326 : decode cX8_spreads 326 = .ok (.lconst 1, 1) := by decide +kernel
theorem dX8_spreads_327 : decode cX8_spreads 327 = .ok (.invokevirtual 168, 3) := by decide +kernel
theorem dX8_spreads_330 : decode cX8_spreads 330 = .ok (.aload_n 0, 1) := by decide +kernel
theorem dX8_spreads_331 : decode cX8_spreads 331 = .ok (.aload_n 0, 1) := by decide +kernel
theorem dX8_spreads_332 : decode cX8_spreads 332 = .ok (.getfield 161, 3) := by decide +kernel
theorem dX8_spreads_335 : decode cX8_spreads 335 = .ok (.aload_n 0, 1) := by decide +kernel
theorem dX8_spreads_336 : decode cX8_spreads 336 = .ok (.getfield 165, 3) := by decide +kernel
theorem dX8_spreads_339 : decode cX8_spreads 339 = .ok (.aload_n 0, 1) := by decide +kernel
theorem dX8_spreads_340 : decode cX8_spreads 340 = .ok (.getfield 48, 3) := by decide +kernel
theorem dX8_spreads_343 : decode cX8_spreads 343 = .ok (.iload_n 1, 1) := by decide +kernel
theorem dX8_spreads_344 : decode cX8_spreads 344 = .ok (.iaload, 1) := by decide +kernel
theorem dX8_spreads_345 : decode cX8_spreads 345 = .ok (.i2l, 1) := by decide +kernel
theorem dX8_spreads_346 : decode cX8_spreads 346 = .ok (.aload_n 0, 1) := by decide +kernel
theorem dX8_spreads_347 : decode cX8_spreads 347 = .ok (.getfield 48, 3) := by decide +kernel
theorem dX8_spreads_350 : decode cX8_spreads 350 = .ok (.iload_n 1, 1) := by decide +kernel
theorem dX8_spreads_351 : decode cX8_spreads 351 = .ok (.iaload, 1) := by decide +kernel
theorem dX8_spreads_352 : decode cX8_spreads 352 = .ok (.i2l, 1) := by decide +kernel
theorem dX8_spreads_353 : decode cX8_spreads 353 = .ok (.aload_n 0, 1) := by decide +kernel
theorem dX8_spreads_354 : decode cX8_spreads 354 = .ok (.getfield 48, 3) := by decide +kernel
theorem dX8_spreads_357 : decode cX8_spreads 357 = .ok (.iload_n 1, 1) := by decide +kernel
theorem dX8_spreads_358 : decode cX8_spreads 358 = .ok (.iaload, 1) := by decide +kernel
theorem dX8_spreads_359 : decode cX8_spreads 359 = .ok (.i2l, 1) := by decide +kernel
theorem dX8_spreads_360 : decode cX8_spreads 360 = .ok (.lmul, 1) := by decide +kernel
theorem dX8_spreads_361 : decode cX8_spreads 361 = .ok (.iload 8, 2) := by decide +kernel
theorem dX8_spreads_363 : decode cX8_spreads 363 = .ok (.i2l, 1) := by decide +kernel
theorem dX8_spreads_364 : decode cX8_spreads 364 = .ok (.lsub, 1) := by decide +kernel
theorem dX8_spreads_365 : decode cX8_spreads 365 = .ok (.invokevirtual 191, 3) := by decide +kernel
theorem dX8_spreads_368 : decode cX8_spreads 368 = .ok (.aload_n 0, 1) := by decide +kernel
theorem dX8_spreads_369 : decode cX8_spreads 369 = .ok (.iload_n 1, 1) := by decide +kernel
theorem dX8_spreads_370 : decode cX8_spreads 370 = .ok (.iconst 1, 1) := by decide +kernel
theorem dX8_spreads_371 : decode cX8_spreads 371 = .ok (.invokevirtual 194, 3) := by decide +kernel
theorem dX8_spreads_374 : decode cX8_spreads 374 = .ok (.return_, 1) := by decide +kernel
theorem dX8_shareOf_0 : decode cX8_shareOf 0 = .ok (.iconst 5, 1) := by decide +kernel
theorem dX8_shareOf_1 : decode cX8_shareOf 1 = .ok (.iload_n 1, 1) := by decide +kernel
theorem dX8_shareOf_2 : decode cX8_shareOf 2 = .ok (.imul, 1) := by decide +kernel
theorem dX8_shareOf_3 : decode cX8_shareOf 3 = .ok (.istore_n 3, 1) := by decide +kernel
theorem dX8_shareOf_4 : decode cX8_shareOf 4 = .ok (.aload_n 0, 1) := by decide +kernel
theorem dX8_shareOf_5 : decode cX8_shareOf 5 = .ok (.getfield 60, 3) := by decide +kernel
theorem dX8_shareOf_8 : decode cX8_shareOf 8 = .ok (.iload_n 3, 1) := by decide +kernel
theorem dX8_shareOf_9 : decode cX8_shareOf 9 = .ok (.iconst 1, 1) := by decide +kernel
theorem dX8_shareOf_10 : decode cX8_shareOf 10 = .ok (.iadd, 1) := by decide +kernel
theorem dX8_shareOf_11 : decode cX8_shareOf 11 = .ok (.laload, 1) := by decide +kernel
theorem dX8_shareOf_12 : decode cX8_shareOf 12 = .ok (.lconst 0, 1) := by decide +kernel
theorem dX8_shareOf_13 : decode cX8_shareOf 13 = .ok (.lcmp, 1) := by decide +kernel
theorem dX8_shareOf_14 : decode cX8_shareOf 14 = .ok (.ifCond .eq 16, 3) := by decide +kernel
theorem dX8_shareOf_17 : decode cX8_shareOf 17 = .ok (.aload_n 0, 1) := by decide +kernel
theorem dX8_shareOf_18 : decode cX8_shareOf 18 = .ok (.getfield 57, 3) := by decide +kernel
theorem dX8_shareOf_21 : decode cX8_shareOf 21 = .ok (.iload_n 3, 1) := by decide +kernel
theorem dX8_shareOf_22 : decode cX8_shareOf 22 = .ok (.iconst 1, 1) := by decide +kernel
theorem dX8_shareOf_23 : decode cX8_shareOf 23 = .ok (.iadd, 1) := by decide +kernel
theorem dX8_shareOf_24 : decode cX8_shareOf 24 = .ok (.laload, 1) := by decide +kernel
theorem dX8_shareOf_25 : decode cX8_shareOf 25 = .ok (.lconst 0, 1) := by decide +kernel
theorem dX8_shareOf_26 : decode cX8_shareOf 26 = .ok (.lcmp, 1) := by decide +kernel
theorem dX8_shareOf_27 : decode cX8_shareOf 27 = .ok (.ifCond .ne 5, 3) := by decide +kernel
theorem dX8_shareOf_30 : decode cX8_shareOf 30 = .ok (.iconst 0, 1) := by decide +kernel
theorem dX8_shareOf_31 : decode cX8_shareOf 31 = .ok (.ireturn, 1) := by decide +kernel
theorem dX8_shareOf_32 : decode cX8_shareOf 32 = .ok (.aload_n 0, 1) := by decide +kernel
theorem dX8_shareOf_33 : decode cX8_shareOf 33 = .ok (.aload_n 0, 1) := by decide +kernel
theorem dX8_shareOf_34 : decode cX8_shareOf 34 = .ok (.getfield 57, 3) := by decide +kernel
theorem dX8_shareOf_37 : decode cX8_shareOf 37 = .ok (.iload_n 3, 1) := by decide +kernel
theorem dX8_shareOf_38 : decode cX8_shareOf 38 = .ok (.iconst 1, 1) := by decide +kernel
theorem dX8_shareOf_39 : decode cX8_shareOf 39 = .ok (.iadd, 1) := by decide +kernel
theorem dX8_shareOf_40 : decode cX8_shareOf 40 = .ok (.laload, 1) := by decide +kernel
theorem dX8_shareOf_41 : decode cX8_shareOf 41 = .ok (.aload_n 0, 1) := by decide +kernel
theorem dX8_shareOf_42 : decode cX8_shareOf 42 = .ok (.getfield 60, 3) := by decide +kernel
theorem dX8_shareOf_45 : decode cX8_shareOf 45 = .ok (.iload_n 3, 1) := by decide +kernel
theorem dX8_shareOf_46 : decode cX8_shareOf 46 = .ok (.iconst 1, 1) := by decide +kernel
theorem dX8_shareOf_47 : decode cX8_shareOf 47 = .ok (.iadd, 1) := by decide +kernel
theorem dX8_shareOf_48 : decode cX8_shareOf 48 = .ok (.laload, 1) := by decide +kernel
theorem dX8_shareOf_49 : decode cX8_shareOf 49 = .ok (.iload_n 2, 1) := by decide +kernel
theorem dX8_shareOf_50 : decode cX8_shareOf 50 = .ok (.i2l, 1) := by decide +kernel
theorem dX8_shareOf_51 : decode cX8_shareOf 51 = .ok (.lconst 1, 1) := by decide +kernel
theorem dX8_shareOf_52 : decode cX8_shareOf 52 = .ok (.invokevirtual 191, 3) := by decide +kernel
theorem dX8_shareOf_55 : decode cX8_shareOf 55 = .ok (.aload_n 0, 1) := by decide +kernel
theorem dX8_shareOf_56 : decode cX8_shareOf 56 = .ok (.getfield 161, 3) := by decide +kernel
theorem dX8_shareOf_59 : decode cX8_shareOf 59 = .ok (.lstore 4, 2) := by decide +kernel
theorem dX8_shareOf_61 : decode cX8_shareOf 61 = .ok (.aload_n 0, 1) := by decide +kernel
theorem dX8_shareOf_62 : decode cX8_shareOf 62 = .ok (.getfield 165, 3) := by decide +kernel
theorem dX8_shareOf_65 : decode cX8_shareOf 65 = .ok (.lstore 6, 2) := by decide +kernel
theorem dX8_shareOf_67 : decode cX8_shareOf 67 = .ok (.aload_n 0, 1) := by decide +kernel
theorem dX8_shareOf_68 : decode cX8_shareOf 68 = .ok (.lload 4, 2) := by decide +kernel
theorem dX8_shareOf_70 : decode cX8_shareOf 70 = .ok (.lload 6, 2) := by decide +kernel
theorem dX8_shareOf_72 : decode cX8_shareOf 72 = .ok (.aload_n 0, 1) := by decide +kernel
theorem dX8_shareOf_73 : decode cX8_shareOf 73 = .ok (.getfield 57, 3) := by decide +kernel
theorem dX8_shareOf_76 : decode cX8_shareOf 76 = .ok (.iload_n 3, 1) := by decide +kernel
theorem dX8_shareOf_77 : decode cX8_shareOf 77 = .ok (.laload, 1) := by decide +kernel
theorem dX8_shareOf_78 : decode cX8_shareOf 78 = .ok (.aload_n 0, 1) := by decide +kernel
theorem dX8_shareOf_79 : decode cX8_shareOf 79 = .ok (.getfield 60, 3) := by decide +kernel
theorem dX8_shareOf_82 : decode cX8_shareOf 82 = .ok (.iload_n 3, 1) := by decide +kernel
theorem dX8_shareOf_83 : decode cX8_shareOf 83 = .ok (.laload, 1) := by decide +kernel
theorem dX8_shareOf_84 : decode cX8_shareOf 84 = .ok (.invokevirtual 187, 3) := by decide +kernel
theorem dX8_shareOf_87 : decode cX8_shareOf 87 = .ok (.aload_n 0, 1) := by decide +kernel
theorem dX8_shareOf_88 : decode cX8_shareOf 88 = .ok (.lload 4, 2) := by decide +kernel
theorem dX8_shareOf_90 : decode cX8_shareOf 90 = .ok (.lload 6, 2) := by decide +kernel
theorem dX8_shareOf_92 : decode cX8_shareOf 92 = .ok (.aload_n 0, 1) := by decide +kernel
theorem dX8_shareOf_93 : decode cX8_shareOf 93 = .ok (.getfield 165, 3) := by decide +kernel
theorem dX8_shareOf_96 : decode cX8_shareOf 96 = .ok (.aload_n 0, 1) := by decide +kernel
theorem dX8_shareOf_97 : decode cX8_shareOf 97 = .ok (.getfield 161, 3) := by decide +kernel
theorem dX8_shareOf_100 : decode cX8_shareOf 100 = .ok (.invokevirtual 191, 3) := by decide +kernel
theorem dX8_shareOf_103 : decode cX8_shareOf 103 = .ok (.aload_n 0, 1) := by decide +kernel
theorem dX8_shareOf_104 : decode cX8_shareOf 104 = .ok (.getfield 161, 3) := by decide +kernel
theorem dX8_shareOf_107 : decode cX8_shareOf 107 = .ok (.ldc2_w 197, 3) := by decide +kernel
theorem dX8_shareOf_110 : decode cX8_shareOf 110 = .ok (.lmul, 1) := by decide +kernel
theorem dX8_shareOf_111 : decode cX8_shareOf 111 = .ok (.aload_n 0, 1) := by decide +kernel
theorem dX8_shareOf_112 : decode cX8_shareOf 112 = .ok (.getfield 165, 3) := by decide +kernel
theorem dX8_shareOf_115 : decode cX8_shareOf 115 = .ok (.ldiv, 1) := by decide +kernel
theorem dX8_shareOf_116 : decode cX8_shareOf 116 = .ok (.l2i, 1) := by decide +kernel
theorem dX8_shareOf_117 : decode cX8_shareOf 117 = .ok (.ireturn, 1) := by decide +kernel
theorem dX8_shares_0 : decode cX8_shares 0 = .ok (.iconst 0, 1) := by decide +kernel
theorem dX8_shares_1 : decode cX8_shares 1 = .ok (.istore_n 2, 1) := by decide +kernel
theorem dX8_shares_2 : decode cX8_shares 2 = .ok (.iconst 0, 1) := by decide +kernel
theorem dX8_shares_3 : decode cX8_shares 3 = .ok (.istore_n 3, 1) := by decide +kernel
theorem dX8_shares_4 : decode cX8_shares 4 = .ok (.iload_n 3, 1) := by decide +kernel
theorem dX8_shares_5 : decode cX8_shares 5 = .ok (.aload_n 0, 1) := by decide +kernel
theorem dX8_shares_6 : decode cX8_shares 6 = .ok (.invokevirtual 80, 3) := by decide +kernel
theorem dX8_shares_9 : decode cX8_shares 9 = .ok (.if_icmp .ge 27, 3) := by decide +kernel
theorem dX8_shares_12 : decode cX8_shares 12 = .ok (.aload_n 0, 1) := by decide +kernel
theorem dX8_shares_13 : decode cX8_shares 13 = .ok (.iload_n 3, 1) := by decide +kernel
theorem dX8_shares_14 : decode cX8_shares 14 = .ok (.iload_n 1, 1) := by decide +kernel
theorem dX8_shares_15 : decode cX8_shares 15 = .ok (.invokevirtual 184, 3) := by decide +kernel
theorem dX8_shares_18 : decode cX8_shares 18 = .ok (.ifCond .eq 12, 3) := by decide +kernel
theorem dX8_shares_21 : decode cX8_shares 21 = .ok (.iload_n 2, 1) := by decide +kernel
theorem dX8_shares_22 : decode cX8_shares 22 = .ok (.aload_n 0, 1) := by decide +kernel
theorem dX8_shares_23 : decode cX8_shares 23 = .ok (.getfield 35, 3) := by decide +kernel
theorem dX8_shares_26 : decode cX8_shares 26 = .ok (.iload_n 3, 1) := by decide +kernel
theorem dX8_shares_27 : decode cX8_shares 27 = .ok (.iaload, 1) := by decide +kernel
theorem dX8_shares_28 : decode cX8_shares 28 = .ok (.iadd, 1) := by decide +kernel
theorem dX8_shares_29 : decode cX8_shares 29 = .ok (.istore_n 2, 1) := by decide +kernel
theorem dX8_shares_30 : decode cX8_shares 30 = .ok (.iinc 3 1, 3) := by decide +kernel
theorem dX8_shares_33 : decode cX8_shares 33 = .ok (.goto (-29), 3) := by decide +kernel
theorem dX8_shares_36 : decode cX8_shares 36 = .ok (.iload_n 2, 1) := by decide +kernel
theorem dX8_shares_37 : decode cX8_shares 37 = .ok (.ireturn, 1) := by decide +kernel
theorem dX8_mixes_0 : decode cX8_mixes 0 = .ok (.aload_n 0, 1) := by decide +kernel
theorem dX8_mixes_1 : decode cX8_mixes 1 = .ok (.lload_n 2, 1) := by decide +kernel
theorem dX8_mixes_2 : decode cX8_mixes 2 = .ok (.lload 4, 2) := by decide +kernel
theorem dX8_mixes_4 : decode cX8_mixes 4 = .ok (.iload_n 1, 1) := by decide +kernel
theorem dX8_mixes_5 : decode cX8_mixes 5 = .ok (.i2l, 1) := by decide +kernel
theorem dX8_mixes_6 : decode cX8_mixes 6 = .ok (.ldc2_w 197, 3) := by decide +kernel
theorem dX8_mixes_9 : decode cX8_mixes 9 = .ok (.invokevirtual 191, 3) := by decide +kernel
theorem dX8_mixes_12 : decode cX8_mixes 12 = .ok (.aload_n 0, 1) := by decide +kernel
theorem dX8_mixes_13 : decode cX8_mixes 13 = .ok (.getfield 161, 3) := by decide +kernel
theorem dX8_mixes_16 : decode cX8_mixes 16 = .ok (.lstore 10, 2) := by decide +kernel
theorem dX8_mixes_18 : decode cX8_mixes 18 = .ok (.aload_n 0, 1) := by decide +kernel
theorem dX8_mixes_19 : decode cX8_mixes 19 = .ok (.getfield 165, 3) := by decide +kernel
theorem dX8_mixes_22 : decode cX8_mixes 22 = .ok (.lstore 12, 2) := by decide +kernel
theorem dX8_mixes_24 : decode cX8_mixes 24 = .ok (.aload_n 0, 1) := by decide +kernel
theorem dX8_mixes_25 : decode cX8_mixes 25 = .ok (.lload 6, 2) := by decide +kernel
theorem dX8_mixes_27 : decode cX8_mixes 27 = .ok (.lload 8, 2) := by decide +kernel
theorem dX8_mixes_29 : decode cX8_mixes 29 = .ok (.sipush 1000, 3) := by decide +kernel
theorem dX8_mixes_32 : decode cX8_mixes 32 = .ok (.iload_n 1, 1) := by decide +kernel
theorem dX8_mixes_33 : decode cX8_mixes 33 = .ok (.isub, 1) := by decide +kernel
theorem dX8_mixes_34 : decode cX8_mixes 34 = .ok (.i2l, 1) := by decide +kernel
theorem dX8_mixes_35 : decode cX8_mixes 35 = .ok (.ldc2_w 197, 3) := by decide +kernel
theorem dX8_mixes_38 : decode cX8_mixes 38 = .ok (.invokevirtual 191, 3) := by decide +kernel
theorem dX8_mixes_41 : decode cX8_mixes 41 = .ok (.aload_n 0, 1) := by decide +kernel
theorem dX8_mixes_42 : decode cX8_mixes 42 = .ok (.lload 10, 2) := by decide +kernel
theorem dX8_mixes_44 : decode cX8_mixes 44 = .ok (.lload 12, 2) := by decide +kernel
theorem dX8_mixes_46 : decode cX8_mixes 46 = .ok (.aload_n 0, 1) := by decide +kernel
theorem dX8_mixes_47 : decode cX8_mixes 47 = .ok (.getfield 161, 3) := by decide +kernel
theorem dX8_mixes_50 : decode cX8_mixes 50 = .ok (.aload_n 0, 1) := by decide +kernel
theorem dX8_mixes_51 : decode cX8_mixes 51 = .ok (.getfield 165, 3) := by decide +kernel
theorem dX8_mixes_54 : decode cX8_mixes 54 = .ok (.invokevirtual 187, 3) := by decide +kernel
theorem dX8_mixes_57 : decode cX8_mixes 57 = .ok (.return_, 1) := by decide +kernel
theorem dX8_centres_0 : decode cX8_centres 0 = .ok (.aload_n 0, 1) := by decide +kernel
theorem dX8_centres_1 : decode cX8_centres 1 = .ok (.iload_n 1, 1) := by decide +kernel
theorem dX8_centres_2 : decode cX8_centres 2 = .ok (.invokevirtual 199, 3) := by decide +kernel
theorem dX8_centres_5 : decode cX8_centres 5 = .ok (.istore_n 2, 1) := by decide +kernel
theorem dX8_centres_6 : decode cX8_centres 6 = .ok (.iload_n 2, 1) := by decide +kernel
theorem dX8_centres_7 : decode cX8_centres 7 = .ok (.ifCond .ne 24, 3) := by decide +kernel
theorem dX8_centres_10 : decode cX8_centres 10 = .ok (.aload_n 0, 1) := by decide +kernel
theorem dX8_centres_11 : decode cX8_centres 11 = .ok (.aload_n 0, 1) := by decide +kernel
theorem dX8_centres_12 : decode cX8_centres 12 = .ok (.getfield 51, 3) := by decide +kernel
theorem dX8_centres_15 : decode cX8_centres 15 = .ok (.iload_n 1, 1) := by decide +kernel
theorem dX8_centres_16 : decode cX8_centres 16 = .ok (.iaload, 1) := by decide +kernel
theorem dX8_centres_17 : decode cX8_centres 17 = .ok (.i2l, 1) := by decide +kernel
theorem dX8_centres_18 : decode cX8_centres 18 = .ok (.aload_n 0, 1) := by decide +kernel
theorem dX8_centres_19 : decode cX8_centres 19 = .ok (.getfield 48, 3) := by decide +kernel
theorem dX8_centres_22 : decode cX8_centres 22 = .ok (.iload_n 1, 1) := by decide +kernel
theorem dX8_centres_23 : decode cX8_centres 23 = .ok (.iaload, 1) := by decide +kernel
theorem dX8_centres_24 : decode cX8_centres 24 = .ok (.i2l, 1) := by decide +kernel
theorem dX8_centres_25 : decode cX8_centres 25 = .ok (.invokevirtual 168, 3) := by decide +kernel
theorem dX8_centres_28 : decode cX8_centres 28 = .ok (.goto 92, 3) := by decide +kernel
theorem dX8_centres_31 : decode cX8_centres 31 = .ok (.lconst 0, 1) := by decide +kernel
theorem dX8_centres_32 : decode cX8_centres 32 = .ok (.lstore_n 3, 1) := by decide +kernel
theorem dX8_centres_33 : decode cX8_centres 33 = .ok (.lconst 1, 1) := by decide +kernel
theorem dX8_centres_34 : decode cX8_centres 34 = .ok (.lstore 5, 2) := by decide +kernel
theorem dX8_centres_36 : decode cX8_centres 36 = .ok (.iconst 0, 1) := by decide +kernel
theorem dX8_centres_37 : decode cX8_centres 37 = .ok (.istore 7, 2) := by decide +kernel
theorem dX8_centres_39 : decode cX8_centres 39 = .ok (.iload 7, 2) := by decide +kernel
theorem dX8_centres_41 : decode cX8_centres 41 = .ok (.aload_n 0, 1) := by decide +kernel
theorem dX8_centres_42 : decode cX8_centres 42 = .ok (.invokevirtual 80, 3) := by decide +kernel
theorem dX8_centres_45 : decode cX8_centres 45 = .ok (.if_icmp .ge 65, 3) := by decide +kernel
theorem dX8_centres_48 : decode cX8_centres 48 = .ok (.aload_n 0, 1) := by decide +kernel
theorem dX8_centres_49 : decode cX8_centres 49 = .ok (.iload 7, 2) := by decide +kernel
theorem dX8_centres_51 : decode cX8_centres 51 = .ok (.iload_n 1, 1) := by decide +kernel
theorem dX8_centres_52 : decode cX8_centres 52 = .ok (.invokevirtual 184, 3) := by decide +kernel
theorem dX8_centres_55 : decode cX8_centres 55 = .ok (.ifCond .ne 6, 3) := by decide +kernel
theorem dX8_centres_58 : decode cX8_centres 58 = .ok (.goto 46, 3) := by decide +kernel
theorem dX8_centres_61 : decode cX8_centres 61 = .ok (.aload_n 0, 1) := by decide +kernel
theorem dX8_centres_62 : decode cX8_centres 62 = .ok (.lload_n 3, 1) := by decide +kernel
theorem dX8_centres_63 : decode cX8_centres 63 = .ok (.lload 5, 2) := by decide +kernel
theorem dX8_centres_65 : decode cX8_centres 65 = .ok (.aload_n 0, 1) := by decide +kernel
theorem dX8_centres_66 : decode cX8_centres 66 = .ok (.getfield 29, 3) := by decide +kernel
theorem dX8_centres_69 : decode cX8_centres 69 = .ok (.iload 7, 2) := by decide +kernel
theorem dX8_centres_71 : decode cX8_centres 71 = .ok (.iaload, 1) := by decide +kernel
theorem dX8_centres_72 : decode cX8_centres 72 = .ok (.i2l, 1) := by decide +kernel
theorem dX8_centres_73 : decode cX8_centres 73 = .ok (.aload_n 0, 1) := by decide +kernel
theorem dX8_centres_74 : decode cX8_centres 74 = .ok (.getfield 35, 3) := by decide +kernel
theorem dX8_centres_77 : decode cX8_centres 77 = .ok (.iload 7, 2) := by decide +kernel
theorem dX8_centres_79 : decode cX8_centres 79 = .ok (.iaload, 1) := by decide +kernel
theorem dX8_centres_80 : decode cX8_centres 80 = .ok (.i2l, 1) := by decide +kernel
theorem dX8_centres_81 : decode cX8_centres 81 = .ok (.lmul, 1) := by decide +kernel
theorem dX8_centres_82 : decode cX8_centres 82 = .ok (.aload_n 0, 1) := by decide +kernel
theorem dX8_centres_83 : decode cX8_centres 83 = .ok (.getfield 26, 3) := by decide +kernel
theorem dX8_centres_86 : decode cX8_centres 86 = .ok (.iload 7, 2) := by decide +kernel
theorem dX8_centres_88 : decode cX8_centres 88 = .ok (.iaload, 1) := by decide +kernel
theorem dX8_centres_89 : decode cX8_centres 89 = .ok (.i2l, 1) := by decide +kernel
theorem dX8_centres_90 : decode cX8_centres 90 = .ok (.invokevirtual 187, 3) := by decide +kernel
theorem dX8_centres_93 : decode cX8_centres 93 = .ok (.aload_n 0, 1) := by decide +kernel
theorem dX8_centres_94 : decode cX8_centres 94 = .ok (.getfield 161, 3) := by decide +kernel
theorem dX8_centres_97 : decode cX8_centres 97 = .ok (.lstore_n 3, 1) := by decide +kernel
theorem dX8_centres_98 : decode cX8_centres 98 = .ok (.aload_n 0, 1) := by decide +kernel
theorem dX8_centres_99 : decode cX8_centres 99 = .ok (.getfield 165, 3) := by decide +kernel
theorem dX8_centres_102 : decode cX8_centres 102 = .ok (.lstore 5, 2) := by decide +kernel
theorem dX8_centres_104 : decode cX8_centres 104 = .ok (.iinc 7 1, 3) := by decide +kernel
theorem dX8_centres_107 : decode cX8_centres 107 = .ok (.goto (-68), 3) := by decide +kernel
theorem dX8_centres_110 : decode cX8_centres 110 = .ok (.aload_n 0, 1) := by decide +kernel
theorem dX8_centres_111 : decode cX8_centres 111 = .ok (.lload_n 3, 1) := by decide +kernel
theorem dX8_centres_112 : decode cX8_centres 112 = .ok (.lload 5, 2) := by decide +kernel
theorem dX8_centres_114 : decode cX8_centres 114 = .ok (.lconst 1, 1) := by decide +kernel
theorem dX8_centres_115 : decode cX8_centres 115 = .ok (.iload_n 2, 1) := by decide +kernel
theorem dX8_centres_116 : decode cX8_centres 116 = .ok (.i2l, 1) := by decide +kernel
theorem dX8_centres_117 : decode cX8_centres 117 = .ok (.invokevirtual 191, 3) := by decide +kernel
theorem dX8_centres_120 : decode cX8_centres 120 = .ok (.aload_n 0, 1) := by decide +kernel
theorem dX8_centres_121 : decode cX8_centres 121 = .ok (.iload_n 1, 1) := by decide +kernel
theorem dX8_centres_122 : decode cX8_centres 122 = .ok (.iconst 2, 1) := by decide +kernel
theorem dX8_centres_123 : decode cX8_centres 123 = .ok (.invokevirtual 194, 3) := by decide +kernel
theorem dX8_centres_126 : decode cX8_centres 126 = .ok (.aload_n 0, 1) := by decide +kernel
theorem dX8_centres_127 : decode cX8_centres 127 = .ok (.getfield 54, 3) := by decide +kernel
theorem dX8_centres_130 : decode cX8_centres 130 = .ok (.iload_n 1, 1) := by decide +kernel
theorem dX8_centres_131 : decode cX8_centres 131 = .ok (.sipush 1000, 3) := by decide +kernel
theorem dX8_centres_134 : decode cX8_centres 134 = .ok (.aload_n 0, 1) := by decide +kernel
theorem dX8_centres_135 : decode cX8_centres 135 = .ok (.getfield 48, 3) := by decide +kernel
theorem dX8_centres_138 : decode cX8_centres 138 = .ok (.iload_n 1, 1) := by decide +kernel
theorem dX8_centres_139 : decode cX8_centres 139 = .ok (.iaload, 1) := by decide +kernel
theorem dX8_centres_140 : decode cX8_centres 140 = .ok (.imul, 1) := by decide +kernel
theorem dX8_centres_141 : decode cX8_centres 141 = .ok (.aload_n 0, 1) := by decide +kernel
theorem dX8_centres_142 : decode cX8_centres 142 = .ok (.getfield 48, 3) := by decide +kernel
theorem dX8_centres_145 : decode cX8_centres 145 = .ok (.iload_n 1, 1) := by decide +kernel
theorem dX8_centres_146 : decode cX8_centres 146 = .ok (.iaload, 1) := by decide +kernel
theorem dX8_centres_147 : decode cX8_centres 147 = .ok (.aload_n 0, 1) := by decide +kernel
theorem dX8_centres_148 : decode cX8_centres 148 = .ok (.getfield 13, 3) := by decide +kernel
theorem dX8_centres_151 : decode cX8_centres 151 = .ok (.iconst 1, 1) := by decide +kernel
theorem dX8_centres_152 : decode cX8_centres 152 = .ok (.iaload, 1) := by decide +kernel
theorem dX8_centres_153 : decode cX8_centres 153 = .ok (.iadd, 1) := by decide +kernel
theorem dX8_centres_154 : decode cX8_centres 154 = .ok (.idiv, 1) := by decide +kernel
theorem dX8_centres_155 : decode cX8_centres 155 = .ok (.iastore, 1) := by decide +kernel
theorem dX8_centres_156 : decode cX8_centres 156 = .ok (.aload_n 0, 1) := by decide +kernel
theorem dX8_centres_157 : decode cX8_centres 157 = .ok (.aload_n 0, 1) := by decide +kernel
theorem dX8_centres_158 : decode cX8_centres 158 = .ok (.getfield 54, 3) := by decide +kernel
theorem dX8_centres_161 : decode cX8_centres 161 = .ok (.iload_n 1, 1) := by decide +kernel
theorem dX8_centres_162 : decode cX8_centres 162 = .ok (.iaload, 1) := by decide +kernel
theorem dX8_centres_163 : decode cX8_centres 163 = .ok (.aload_n 0, 1) := by decide +kernel
theorem dX8_centres_164 : decode cX8_centres 164 = .ok (.getfield 161, 3) := by decide +kernel
theorem dX8_centres_167 : decode cX8_centres 167 = .ok (.aload_n 0, 1) := by decide +kernel
theorem dX8_centres_168 : decode cX8_centres 168 = .ok (.getfield 165, 3) := by decide +kernel
theorem dX8_centres_171 : decode cX8_centres 171 = .ok (.aload_n 0, 1) := by decide +kernel
theorem dX8_centres_172 : decode cX8_centres 172 = .ok (.getfield 181, 3) := by decide +kernel
theorem dX8_centres_175 : decode cX8_centres 175 = .ok (.aload_n 0, 1) := by decide +kernel
theorem dX8_centres_176 : decode cX8_centres 176 = .ok (.getfield 178, 3) := by decide +kernel
theorem dX8_centres_179 : decode cX8_centres 179 = .ok (.invokevirtual 202, 3) := by decide +kernel
theorem dX8_centres_182 : decode cX8_centres 182 = .ok (.aload_n 0, 1) := by decide +kernel
theorem dX8_centres_183 : decode cX8_centres 183 = .ok (.iload_n 1, 1) := by decide +kernel
theorem dX8_centres_184 : decode cX8_centres 184 = .ok (.iconst 3, 1) := by decide +kernel
theorem dX8_centres_185 : decode cX8_centres 185 = .ok (.invokevirtual 194, 3) := by decide +kernel
theorem dX8_centres_188 : decode cX8_centres 188 = .ok (.return_, 1) := by decide +kernel
theorem dX8_rates_0 : decode cX8_rates 0 = .ok (.aload_n 0, 1) := by decide +kernel
theorem dX8_rates_1 : decode cX8_rates 1 = .ok (.getfield 51, 3) := by decide +kernel
theorem dX8_rates_4 : decode cX8_rates 4 = .ok (.iload_n 1, 1) := by decide +kernel
theorem dX8_rates_5 : decode cX8_rates 5 = .ok (.iaload, 1) := by decide +kernel
theorem dX8_rates_6 : decode cX8_rates 6 = .ok (.ineg, 1) := by decide +kernel
theorem dX8_rates_7 : decode cX8_rates 7 = .ok (.i2l, 1) := by decide +kernel
theorem dX8_rates_8 : decode cX8_rates 8 = .ok (.lstore_n 2, 1) := by decide +kernel
theorem dX8_rates_9 : decode cX8_rates 9 = .ok (.lconst 1, 1) := by decide +kernel
theorem dX8_rates_10 : decode cX8_rates 10 = .ok (.lstore 4, 2) := by decide +kernel
theorem dX8_rates_12 : decode cX8_rates 12 = .ok (.iconst 0, 1) := by decide +kernel
theorem dX8_rates_13 : decode cX8_rates 13 = .ok (.istore 6, 2) := by decide +kernel
theorem dX8_rates_15 : decode cX8_rates 15 = .ok (.iload 6, 2) := by decide +kernel
theorem dX8_rates_17 : decode cX8_rates 17 = .ok (.aload_n 0, 1) := by decide +kernel
theorem dX8_rates_18 : decode cX8_rates 18 = .ok (.invokevirtual 80, 3) := by decide +kernel
theorem dX8_rates_21 : decode cX8_rates 21 = .ok (.if_icmp .ge 138, 3) := by decide +kernel
theorem dX8_rates_24 : decode cX8_rates 24 = .ok (.aload_n 0, 1) := by decide +kernel
theorem dX8_rates_25 : decode cX8_rates 25 = .ok (.iload 6, 2) := by decide +kernel
theorem dX8_rates_27 : decode cX8_rates 27 = .ok (.iload_n 1, 1) := by decide +kernel
theorem dX8_rates_28 : decode cX8_rates 28 = .ok (.invokevirtual 184, 3) := by decide +kernel
theorem dX8_rates_31 : decode cX8_rates 31 = .ok (.ifCond .ne 6, 3) := by decide +kernel
theorem dX8_rates_34 : decode cX8_rates 34 = .ok (.goto 119, 3) := by decide +kernel
theorem dX8_rates_37 : decode cX8_rates 37 = .ok (.aload_n 0, 1) := by decide +kernel
theorem dX8_rates_38 : decode cX8_rates 38 = .ok (.aload_n 0, 1) := by decide +kernel
theorem dX8_rates_39 : decode cX8_rates 39 = .ok (.getfield 35, 3) := by decide +kernel
theorem dX8_rates_42 : decode cX8_rates 42 = .ok (.iload 6, 2) := by decide +kernel
theorem dX8_rates_44 : decode cX8_rates 44 = .ok (.iaload, 1) := by decide +kernel
theorem dX8_rates_45 : decode cX8_rates 45 = .ok (.aload_n 0, 1) := by decide +kernel
theorem dX8_rates_46 : decode cX8_rates 46 = .ok (.getfield 29, 3) := by decide +kernel
theorem dX8_rates_49 : decode cX8_rates 49 = .ok (.iload 6, 2) := by decide +kernel
theorem dX8_rates_51 : decode cX8_rates 51 = .ok (.iaload, 1) := by decide +kernel
theorem dX8_rates_52 : decode cX8_rates 52 = .ok (.i2l, 1) := by decide +kernel
theorem dX8_rates_53 : decode cX8_rates 53 = .ok (.aload_n 0, 1) := by decide +kernel
theorem dX8_rates_54 : decode cX8_rates 54 = .ok (.getfield 26, 3) := by decide +kernel
theorem dX8_rates_57 : decode cX8_rates 57 = .ok (.iload 6, 2) := by decide +kernel
theorem dX8_rates_59 : decode cX8_rates 59 = .ok (.iaload, 1) := by decide +kernel
theorem dX8_rates_60 : decode cX8_rates 60 = .ok (.i2l, 1) := by decide +kernel
theorem dX8_rates_61 : decode cX8_rates 61 = .ok (.aload_n 0, 1) := by decide +kernel
theorem dX8_rates_62 : decode cX8_rates 62 = .ok (.getfield 57, 3) := by decide +kernel
theorem dX8_rates_65 : decode cX8_rates 65 = .ok (.iconst 5, 1) := by decide +kernel
theorem dX8_rates_66 : decode cX8_rates 66 = .ok (.iload_n 1, 1) := by decide +kernel
theorem dX8_rates_67 : decode cX8_rates 67 = .ok (.imul, 1) := by decide +kernel
theorem dX8_rates_68 : decode cX8_rates 68 = .ok (.iconst 3, 1) := by decide +kernel
theorem dX8_rates_69 : decode cX8_rates 69 = .ok (.iadd, 1) := by decide +kernel
theorem dX8_rates_70 : decode cX8_rates 70 = .ok (.laload, 1) := by decide +kernel
theorem dX8_rates_71 : decode cX8_rates 71 = .ok (.aload_n 0, 1) := by decide +kernel
theorem dX8_rates_72 : decode cX8_rates 72 = .ok (.getfield 60, 3) := by decide +kernel
theorem dX8_rates_75 : decode cX8_rates 75 = .ok (.iconst 5, 1) := by decide +kernel
theorem dX8_rates_76 : decode cX8_rates 76 = .ok (.iload_n 1, 1) := by decide +kernel
theorem dX8_rates_77 : decode cX8_rates 77 = .ok (.imul, 1) := by decide +kernel
theorem dX8_rates_78 : decode cX8_rates 78 = .ok (.iconst 3, 1) := by decide +kernel
theorem dX8_rates_79 : decode cX8_rates 79 = .ok (.iadd, 1) := by decide +kernel
theorem dX8_rates_80 : decode cX8_rates 80 = .ok (.laload, 1) := by decide +kernel
theorem dX8_rates_81 : decode cX8_rates 81 = .ok (.invokevirtual 202, 3) := by decide +kernel
theorem dX8_rates_84 : decode cX8_rates 84 = .ok (.aload_n 0, 1) := by decide +kernel
theorem dX8_rates_85 : decode cX8_rates 85 = .ok (.getfield 38, 3) := by decide +kernel
theorem dX8_rates_88 : decode cX8_rates 88 = .ok (.iload 6, 2) := by decide +kernel
theorem dX8_rates_90 : decode cX8_rates 90 = .ok (.aload_n 0, 1) := by decide +kernel
theorem dX8_rates_91 : decode cX8_rates 91 = .ok (.getfield 161, 3) := by decide +kernel
theorem dX8_rates_94 : decode cX8_rates 94 = .ok (.lastore, 1) := by decide +kernel
theorem dX8_rates_95 : decode cX8_rates 95 = .ok (.aload_n 0, 1) := by decide +kernel
theorem dX8_rates_96 : decode cX8_rates 96 = .ok (.getfield 42, 3) := by decide +kernel
theorem dX8_rates_99 : decode cX8_rates 99 = .ok (.iload 6, 2) := by decide +kernel
theorem dX8_rates_101 : decode cX8_rates 101 = .ok (.aload_n 0, 1) := by decide +kernel
theorem dX8_rates_102 : decode cX8_rates 102 = .ok (.getfield 165, 3) := by decide +kernel
theorem dX8_rates_105 : decode cX8_rates 105 = .ok (.lastore, 1) := by decide +kernel
theorem dX8_rates_106 : decode cX8_rates 106 = .ok (.aload_n 0, 1) := by decide +kernel
theorem dX8_rates_107 : decode cX8_rates 107 = .ok (.aload_n 0, 1) := by decide +kernel
theorem dX8_rates_108 : decode cX8_rates 108 = .ok (.getfield 161, 3) := by decide +kernel
theorem dX8_rates_111 : decode cX8_rates 111 = .ok (.aload_n 0, 1) := by decide +kernel
theorem dX8_rates_112 : decode cX8_rates 112 = .ok (.getfield 165, 3) := by decide +kernel
theorem dX8_rates_115 : decode cX8_rates 115 = .ok (.aload_n 0, 1) := by decide +kernel
theorem dX8_rates_116 : decode cX8_rates 116 = .ok (.getfield 26, 3) := by decide +kernel
theorem dX8_rates_119 : decode cX8_rates 119 = .ok (.iload 6, 2) := by decide +kernel
theorem dX8_rates_121 : decode cX8_rates 121 = .ok (.iaload, 1) := by decide +kernel
theorem dX8_rates_122 : decode cX8_rates 122 = .ok (.i2l, 1) := by decide +kernel
theorem dX8_rates_123 : decode cX8_rates 123 = .ok (.lconst 1, 1) := by decide +kernel
theorem dX8_rates_124 : decode cX8_rates 124 = .ok (.invokevirtual 191, 3) := by decide +kernel
theorem dX8_rates_127 : decode cX8_rates 127 = .ok (.aload_n 0, 1) := by decide +kernel
theorem dX8_rates_128 : decode cX8_rates 128 = .ok (.lload_n 2, 1) := by decide +kernel
theorem dX8_rates_129 : decode cX8_rates 129 = .ok (.lload 4, 2) := by decide +kernel
theorem dX8_rates_131 : decode cX8_rates 131 = .ok (.aload_n 0, 1) := by decide +kernel
theorem dX8_rates_132 : decode cX8_rates 132 = .ok (.getfield 161, 3) := by decide +kernel
theorem dX8_rates_135 : decode cX8_rates 135 = .ok (.aload_n 0, 1) := by decide +kernel
theorem dX8_rates_136 : decode cX8_rates 136 = .ok (.getfield 165, 3) := by decide +kernel
theorem dX8_rates_139 : decode cX8_rates 139 = .ok (.invokevirtual 187, 3) := by decide +kernel
theorem dX8_rates_142 : decode cX8_rates 142 = .ok (.aload_n 0, 1) := by decide +kernel
theorem dX8_rates_143 : decode cX8_rates 143 = .ok (.getfield 161, 3) := by decide +kernel
theorem dX8_rates_146 : decode cX8_rates 146 = .ok (.lstore_n 2, 1) := by decide +kernel
theorem dX8_rates_147 : decode cX8_rates 147 = .ok (.aload_n 0, 1) := by decide +kernel
theorem dX8_rates_148 : decode cX8_rates 148 = .ok (.getfield 165, 3) := by decide +kernel
theorem dX8_rates_151 : decode cX8_rates 151 = .ok (.lstore 4, 2) := by decide +kernel
theorem dX8_rates_153 : decode cX8_rates 153 = .ok (.iinc 6 1, 3) := by decide +kernel
theorem dX8_rates_156 : decode cX8_rates 156 = .ok (.goto (-141), 3) := by decide +kernel
theorem dX8_rates_159 : decode cX8_rates 159 = .ok (.aload_n 0, 1) := by decide +kernel
theorem dX8_rates_160 : decode cX8_rates 160 = .ok (.lload_n 2, 1) := by decide +kernel
theorem dX8_rates_161 : decode cX8_rates 161 = .ok (.lload 4, 2) := by decide +kernel
theorem dX8_rates_163 : decode cX8_rates 163 = .ok (.invokevirtual 168, 3) := by decide +kernel
theorem dX8_rates_166 : decode cX8_rates 166 = .ok (.aload_n 0, 1) := by decide +kernel
theorem dX8_rates_167 : decode cX8_rates 167 = .ok (.iload_n 1, 1) := by decide +kernel
theorem dX8_rates_168 : decode cX8_rates 168 = .ok (.iconst 4, 1) := by decide +kernel
theorem dX8_rates_169 : decode cX8_rates 169 = .ok (.invokevirtual 194, 3) := by decide +kernel
theorem dX8_rates_172 : decode cX8_rates 172 = .ok (.return_, 1) := by decide +kernel
theorem dX8_works_0 : decode cX8_works 0 = .ok (.aload_n 0, 1) := by decide +kernel
theorem dX8_works_1 : decode cX8_works 1 = .ok (.invokevirtual 206, 3) := by decide +kernel
theorem dX8_works_4 : decode cX8_works 4 = .ok (.iconst 0, 1) := by decide +kernel
theorem dX8_works_5 : decode cX8_works 5 = .ok (.istore_n 1, 1) := by decide +kernel
theorem dX8_works_6 : decode cX8_works 6 = .ok (.iload_n 1, 1) := by decide +kernel
theorem dX8_works_7 : decode cX8_works 7 = .ok (.iconst 3, 1) := by decide +kernel
theorem dX8_works_8 : decode cX8_works 8 = .ok (.if_icmp .ge 86, 3) := by decide +kernel
theorem dX8_works_11 : decode cX8_works 11 = .ok (.aload_n 0, 1) := by decide +kernel
theorem dX8_works_12 : decode cX8_works 12 = .ok (.iload_n 1, 1) := by decide +kernel
theorem dX8_works_13 : decode cX8_works 13 = .ok (.invokevirtual 209, 3) := by decide +kernel
theorem dX8_works_16 : decode cX8_works 16 = .ok (.aload_n 0, 1) := by decide +kernel
theorem dX8_works_17 : decode cX8_works 17 = .ok (.getfield 54, 3) := by decide +kernel
theorem dX8_works_20 : decode cX8_works 20 = .ok (.iload_n 1, 1) := by decide +kernel
theorem dX8_works_21 : decode cX8_works 21 = .ok (.bipush (-2), 2) := by decide +kernel
theorem dX8_works_23 : decode cX8_works 23 = .ok (.iastore, 1) := by decide +kernel
theorem dX8_works_24 : decode cX8_works 24 = .ok (.aload_n 0, 1) := by decide +kernel
theorem dX8_works_25 : decode cX8_works 25 = .ok (.getfield 45, 3) := by decide +kernel
theorem dX8_works_28 : decode cX8_works 28 = .ok (.iload_n 1, 1) := by decide +kernel
theorem dX8_works_29 : decode cX8_works 29 = .ok (.iaload, 1) := by decide +kernel
theorem dX8_works_30 : decode cX8_works 30 = .ok (.ifCond .ne 6, 3) := by decide +kernel
theorem dX8_works_33 : decode cX8_works 33 = .ok (.goto 55, 3) := by decide +kernel
theorem dX8_works_36 : decode cX8_works 36 = .ok (.iconst 0, 1) := by decide +kernel
theorem dX8_works_37 : decode cX8_works 37 = .ok (.istore_n 2, 1) := by decide +kernel
theorem dX8_works_38 : decode cX8_works 38 = .ok (.iload_n 2, 1) := by decide +kernel
theorem dX8_works_39 : decode cX8_works 39 = .ok (.aload_n 0, 1) := by decide +kernel
theorem dX8_works_40 : decode cX8_works 40 = .ok (.invokevirtual 80, 3) := by decide +kernel
theorem dX8_works_43 : decode cX8_works 43 = .ok (.if_icmp .ge 35, 3) := by decide +kernel
theorem dX8_works_46 : decode cX8_works 46 = .ok (.aload_n 0, 1) := by decide +kernel
theorem dX8_works_47 : decode cX8_works 47 = .ok (.iload_n 2, 1) := by decide +kernel
theorem dX8_works_48 : decode cX8_works 48 = .ok (.iload_n 1, 1) := by decide +kernel
theorem dX8_works_49 : decode cX8_works 49 = .ok (.invokevirtual 184, 3) := by decide +kernel
theorem dX8_works_52 : decode cX8_works 52 = .ok (.ifCond .eq 20, 3) := by decide +kernel
theorem dX8_works_55 : decode cX8_works 55 = .ok (.aload_n 0, 1) := by decide +kernel
theorem dX8_works_56 : decode cX8_works 56 = .ok (.getfield 35, 3) := by decide +kernel
theorem dX8_works_59 : decode cX8_works 59 = .ok (.iload_n 2, 1) := by decide +kernel
theorem dX8_works_60 : decode cX8_works 60 = .ok (.aload_n 0, 1) := by decide +kernel
theorem dX8_works_61 : decode cX8_works 61 = .ok (.iload_n 1, 1) := by decide +kernel
theorem dX8_works_62 : decode cX8_works 62 = .ok (.aload_n 0, 1) := by decide +kernel
theorem dX8_works_63 : decode cX8_works 63 = .ok (.getfield 26, 3) := by decide +kernel
theorem dX8_works_66 : decode cX8_works 66 = .ok (.iload_n 2, 1) := by decide +kernel
theorem dX8_works_67 : decode cX8_works 67 = .ok (.iaload, 1) := by decide +kernel
theorem dX8_works_68 : decode cX8_works 68 = .ok (.invokevirtual 212, 3) := by decide +kernel
theorem dX8_works_71 : decode cX8_works 71 = .ok (.iastore, 1) := by decide +kernel
theorem dX8_works_72 : decode cX8_works 72 = .ok (.iinc 2 1, 3) := by decide +kernel
theorem dX8_works_75 : decode cX8_works 75 = .ok (.goto (-37), 3) := by decide +kernel
theorem dX8_works_78 : decode cX8_works 78 = .ok (.aload_n 0, 1) := by decide +kernel
theorem dX8_works_79 : decode cX8_works 79 = .ok (.iload_n 1, 1) := by decide +kernel
theorem dX8_works_80 : decode cX8_works 80 = .ok (.invokevirtual 215, 3) := by decide +kernel
theorem dX8_works_83 : decode cX8_works 83 = .ok (.aload_n 0, 1) := by decide +kernel
theorem dX8_works_84 : decode cX8_works 84 = .ok (.iload_n 1, 1) := by decide +kernel
theorem dX8_works_85 : decode cX8_works 85 = .ok (.invokevirtual 218, 3) := by decide +kernel
theorem dX8_works_88 : decode cX8_works 88 = .ok (.iinc 1 1, 3) := by decide +kernel
theorem dX8_works_91 : decode cX8_works 91 = .ok (.goto (-85), 3) := by decide +kernel
theorem dX8_works_94 : decode cX8_works 94 = .ok (.return_, 1) := by decide +kernel
theorem dX8_inThousandths_0 : decode cX8_inThousandths 0 = .ok (.aload_n 0, 1) := by decide +kernel
theorem dX8_inThousandths_1 : decode cX8_inThousandths 1 = .ok (.getfield 38, 3) := by decide +kernel
theorem dX8_inThousandths_4 : decode cX8_inThousandths 4 = .ok (.iload_n 1, 1) := by decide +kernel
theorem dX8_inThousandths_5 : decode cX8_inThousandths 5 = .ok (.laload, 1) := by decide +kernel
theorem dX8_inThousandths_6 : decode cX8_inThousandths 6 = .ok (.aload_n 0, 1) := by decide +kernel
theorem dX8_inThousandths_7 : decode cX8_inThousandths 7 = .ok (.getfield 42, 3) := by decide +kernel
theorem dX8_inThousandths_10 : decode cX8_inThousandths 10 = .ok (.iload_n 1, 1) := by decide +kernel
theorem dX8_inThousandths_11 : decode cX8_inThousandths 11 = .ok (.laload, 1) := by decide +kernel
theorem dX8_inThousandths_12 : decode cX8_inThousandths 12 = .ok (.ldiv, 1) := by decide +kernel
theorem dX8_inThousandths_13 : decode cX8_inThousandths 13 = .ok (.ldc2_w 197, 3) := by decide +kernel
theorem dX8_inThousandths_16 : decode cX8_inThousandths 16 = .ok (.lmul, 1) := by decide +kernel
theorem dX8_inThousandths_17 : decode cX8_inThousandths 17 = .ok (.aload_n 0, 1) := by decide +kernel
theorem dX8_inThousandths_18 : decode cX8_inThousandths 18 = .ok (.getfield 38, 3) := by decide +kernel
theorem dX8_inThousandths_21 : decode cX8_inThousandths 21 = .ok (.iload_n 1, 1) := by decide +kernel
theorem dX8_inThousandths_22 : decode cX8_inThousandths 22 = .ok (.laload, 1) := by decide +kernel
theorem dX8_inThousandths_23 : decode cX8_inThousandths 23 = .ok (.aload_n 0, 1) := by decide +kernel
theorem dX8_inThousandths_24 : decode cX8_inThousandths 24 = .ok (.getfield 42, 3) := by decide +kernel
theorem dX8_inThousandths_27 : decode cX8_inThousandths 27 = .ok (.iload_n 1, 1) := by decide +kernel
theorem dX8_inThousandths_28 : decode cX8_inThousandths 28 = .ok (.laload, 1) := by decide +kernel
theorem dX8_inThousandths_29 : decode cX8_inThousandths 29 = .ok (.lrem, 1) := by decide +kernel
theorem dX8_inThousandths_30 : decode cX8_inThousandths 30 = .ok (.ldc2_w 197, 3) := by decide +kernel
theorem dX8_inThousandths_33 : decode cX8_inThousandths 33 = .ok (.lmul, 1) := by decide +kernel
theorem dX8_inThousandths_34 : decode cX8_inThousandths 34 = .ok (.aload_n 0, 1) := by decide +kernel
theorem dX8_inThousandths_35 : decode cX8_inThousandths 35 = .ok (.getfield 42, 3) := by decide +kernel
theorem dX8_inThousandths_38 : decode cX8_inThousandths 38 = .ok (.iload_n 1, 1) := by decide +kernel
theorem dX8_inThousandths_39 : decode cX8_inThousandths 39 = .ok (.laload, 1) := by decide +kernel
theorem dX8_inThousandths_40 : decode cX8_inThousandths 40 = .ok (.ldiv, 1) := by decide +kernel
theorem dX8_inThousandths_41 : decode cX8_inThousandths 41 = .ok (.ladd, 1) := by decide +kernel
theorem dX8_inThousandths_42 : decode cX8_inThousandths 42 = .ok (.l2i, 1) := by decide +kernel
theorem dX8_inThousandths_43 : decode cX8_inThousandths 43 = .ok (.ireturn, 1) := by decide +kernel
theorem dX8_isRated_0 : decode cX8_isRated 0 = .ok (.aload_n 0, 1) := by decide +kernel
theorem dX8_isRated_1 : decode cX8_isRated 1 = .ok (.iload_n 1, 1) := by decide +kernel
theorem dX8_isRated_2 : decode cX8_isRated 2 = .ok (.invokevirtual 91, 3) := by decide +kernel
theorem dX8_isRated_5 : decode cX8_isRated 5 = .ok (.ifCond .eq 7, 3) := by decide +kernel
theorem dX8_isRated_8 : decode cX8_isRated 8 = .ok (.iconst 1, 1) := by decide +kernel
theorem dX8_isRated_9 : decode cX8_isRated 9 = .ok (.goto 4, 3) := by decide +kernel
theorem dX8_isRated_12 : decode cX8_isRated 12 = .ok (.iconst 0, 1) := by decide +kernel
theorem dX8_isRated_13 : decode cX8_isRated 13 = .ok (.ireturn, 1) := by decide +kernel
theorem dX8_ratedNow_0 : decode cX8_ratedNow 0 = .ok (.aload_n 0, 1) := by decide +kernel
theorem dX8_ratedNow_1 : decode cX8_ratedNow 1 = .ok (.invokevirtual 221, 3) := by decide +kernel
theorem dX8_ratedNow_4 : decode cX8_ratedNow 4 = .ok (.aload_n 0, 1) := by decide +kernel
theorem dX8_ratedNow_5 : decode cX8_ratedNow 5 = .ok (.iload_n 1, 1) := by decide +kernel
theorem dX8_ratedNow_6 : decode cX8_ratedNow 6 = .ok (.invokevirtual 224, 3) := by decide +kernel
theorem dX8_ratedNow_9 : decode cX8_ratedNow 9 = .ok (.ireturn, 1) := by decide +kernel
theorem dX8_aboveCap_0 : decode cX8_aboveCap 0 = .ok (.iconst 0, 1) := by decide +kernel
theorem dX8_aboveCap_1 : decode cX8_aboveCap 1 = .ok (.istore_n 2, 1) := by decide +kernel
theorem dX8_aboveCap_2 : decode cX8_aboveCap 2 = .ok (.iconst 0, 1) := by decide +kernel
theorem dX8_aboveCap_3 : decode cX8_aboveCap 3 = .ok (.istore_n 3, 1) := by decide +kernel
theorem dX8_aboveCap_4 : decode cX8_aboveCap 4 = .ok (.iload_n 3, 1) := by decide +kernel
theorem dX8_aboveCap_5 : decode cX8_aboveCap 5 = .ok (.aload_n 0, 1) := by decide +kernel
theorem dX8_aboveCap_6 : decode cX8_aboveCap 6 = .ok (.invokevirtual 88, 3) := by decide +kernel
theorem dX8_aboveCap_9 : decode cX8_aboveCap 9 = .ok (.if_icmp .ge 40, 3) := by decide +kernel
theorem dX8_aboveCap_12 : decode cX8_aboveCap 12 = .ok (.iload_n 1, 1) := by decide +kernel
theorem dX8_aboveCap_13 : decode cX8_aboveCap 13 = .ok (.iconst (-1), 1) := by decide +kernel
theorem dX8_aboveCap_14 : decode cX8_aboveCap 14 = .ok (.if_icmp .eq 12, 3) := by decide +kernel
theorem dX8_aboveCap_17 : decode cX8_aboveCap 17 = .ok (.aload_n 0, 1) := by decide +kernel
theorem dX8_aboveCap_18 : decode cX8_aboveCap 18 = .ok (.iload_n 3, 1) := by decide +kernel
theorem dX8_aboveCap_19 : decode cX8_aboveCap 19 = .ok (.invokevirtual 98, 3) := by decide +kernel
theorem dX8_aboveCap_22 : decode cX8_aboveCap 22 = .ok (.iload_n 1, 1) := by decide +kernel
theorem dX8_aboveCap_23 : decode cX8_aboveCap 23 = .ok (.if_icmp .ne 20, 3) := by decide +kernel
theorem dX8_aboveCap_26 : decode cX8_aboveCap 26 = .ok (.aload_n 0, 1) := by decide +kernel
theorem dX8_aboveCap_27 : decode cX8_aboveCap 27 = .ok (.iload_n 3, 1) := by decide +kernel
theorem dX8_aboveCap_28 : decode cX8_aboveCap 28 = .ok (.invokevirtual 95, 3) := by decide +kernel
theorem dX8_aboveCap_31 : decode cX8_aboveCap 31 = .ok (.aload_n 0, 1) := by decide +kernel
theorem dX8_aboveCap_32 : decode cX8_aboveCap 32 = .ok (.getfield 13, 3) := by decide +kernel
theorem dX8_aboveCap_35 : decode cX8_aboveCap 35 = .ok (.iconst 0, 1) := by decide +kernel
theorem dX8_aboveCap_36 : decode cX8_aboveCap 36 = .ok (.iaload, 1) := by decide +kernel
theorem dX8_aboveCap_37 : decode cX8_aboveCap 37 = .ok (.if_icmp .le 6, 3) := by decide +kernel
theorem dX8_aboveCap_40 : decode cX8_aboveCap 40 = .ok (.iinc 2 1, 3) := by decide +kernel
theorem dX8_aboveCap_43 : decode cX8_aboveCap 43 = .ok (.iinc 3 1, 3) := by decide +kernel
theorem dX8_aboveCap_46 : decode cX8_aboveCap 46 = .ok (.goto (-42), 3) := by decide +kernel
theorem dX8_aboveCap_49 : decode cX8_aboveCap 49 = .ok (.iload_n 2, 1) := by decide +kernel
theorem dX8_aboveCap_50 : decode cX8_aboveCap 50 = .ok (.ireturn, 1) := by decide +kernel
theorem dX8_of_0 : decode cX8_of 0 = .ok (.aload_n 0, 1) := by decide +kernel
theorem dX8_of_1 : decode cX8_of 1 = .ok (.iload_n 1, 1) := by decide +kernel
theorem dX8_of_2 : decode cX8_of 2 = .ok (.invokevirtual 115, 3) := by decide +kernel
theorem dX8_of_5 : decode cX8_of 5 = .ok (.ifCond .eq 13, 3) := by decide +kernel
theorem dX8_of_8 : decode cX8_of 8 = .ok (.iload_n 2, 1) := by decide +kernel
theorem dX8_of_9 : decode cX8_of 9 = .ok (.iconst 0, 1) := by decide +kernel
theorem dX8_of_10 : decode cX8_of 10 = .ok (.bipush 7, 2) := by decide +kernel
theorem dX8_of_12 : decode cX8_of 12 = .ok (.invokestatic 84, 3) := by decide +kernel
theorem dX8_of_15 : decode cX8_of 15 = .ok (.ifCond .ne 5, 3) := by decide +kernel
theorem dX8_of_18 : decode cX8_of 18 = .ok (.iconst (-1), 1) := by decide +kernel
theorem dX8_of_19 : decode cX8_of 19 = .ok (.ireturn, 1) := by decide +kernel
theorem dX8_of_20 : decode cX8_of 20 = .ok (.aload_n 0, 1) := by decide +kernel
theorem dX8_of_21 : decode cX8_of 21 = .ok (.invokevirtual 221, 3) := by decide +kernel
theorem dX8_of_24 : decode cX8_of 24 = .ok (.iload_n 2, 1) := by decide +kernel
theorem dX8_of_25 : decode cX8_of 25 = .ok (.tableswitch 89 0 6 #[43, 49, 55, 62, 69, 76, 83], 43) := by decide +kernel
theorem dX8_of_68 : decode cX8_of 68 = .ok (.aload_n 0, 1) := by decide +kernel
theorem dX8_of_69 : decode cX8_of 69 = .ok (.iload_n 1, 1) := by decide +kernel
theorem dX8_of_70 : decode cX8_of 70 = .ok (.invokevirtual 125, 3) := by decide +kernel
theorem dX8_of_73 : decode cX8_of 73 = .ok (.ireturn, 1) := by decide +kernel
theorem dX8_of_74 : decode cX8_of 74 = .ok (.aload_n 0, 1) := by decide +kernel
theorem dX8_of_75 : decode cX8_of 75 = .ok (.iload_n 1, 1) := by decide +kernel
theorem dX8_of_76 : decode cX8_of 76 = .ok (.invokevirtual 91, 3) := by decide +kernel
theorem dX8_of_79 : decode cX8_of 79 = .ok (.ireturn, 1) := by decide +kernel
theorem dX8_of_80 : decode cX8_of 80 = .ok (.aload_n 0, 1) := by decide +kernel
theorem dX8_of_81 : decode cX8_of 81 = .ok (.getfield 26, 3) := by decide +kernel
theorem dX8_of_84 : decode cX8_of 84 = .ok (.iload_n 1, 1) := by decide +kernel
theorem dX8_of_85 : decode cX8_of 85 = .ok (.iaload, 1) := by decide +kernel
theorem dX8_of_86 : decode cX8_of 86 = .ok (.ireturn, 1) := by decide +kernel
theorem dX8_of_87 : decode cX8_of 87 = .ok (.aload_n 0, 1) := by decide +kernel
theorem dX8_of_88 : decode cX8_of 88 = .ok (.getfield 29, 3) := by decide +kernel
theorem dX8_of_91 : decode cX8_of 91 = .ok (.iload_n 1, 1) := by decide +kernel
theorem dX8_of_92 : decode cX8_of 92 = .ok (.iaload, 1) := by decide +kernel
theorem dX8_of_93 : decode cX8_of 93 = .ok (.ireturn, 1) := by decide +kernel
theorem dX8_of_94 : decode cX8_of 94 = .ok (.aload_n 0, 1) := by decide +kernel
theorem dX8_of_95 : decode cX8_of 95 = .ok (.getfield 32, 3) := by decide +kernel
theorem dX8_of_98 : decode cX8_of 98 = .ok (.iload_n 1, 1) := by decide +kernel
theorem dX8_of_99 : decode cX8_of 99 = .ok (.iaload, 1) := by decide +kernel
theorem dX8_of_100 : decode cX8_of 100 = .ok (.ireturn, 1) := by decide +kernel
theorem dX8_of_101 : decode cX8_of 101 = .ok (.aload_n 0, 1) := by decide +kernel
theorem dX8_of_102 : decode cX8_of 102 = .ok (.iload_n 1, 1) := by decide +kernel
theorem dX8_of_103 : decode cX8_of 103 = .ok (.iconst (-1), 1) := by decide +kernel
theorem dX8_of_104 : decode cX8_of 104 = .ok (.invokevirtual 144, 3) := by decide +kernel
theorem dX8_of_107 : decode cX8_of 107 = .ok (.ireturn, 1) := by decide +kernel
theorem dX8_of_108 : decode cX8_of 108 = .ok (.aload_n 0, 1) := by decide +kernel
theorem dX8_of_109 : decode cX8_of 109 = .ok (.iload_n 1, 1) := by decide +kernel
theorem dX8_of_110 : decode cX8_of 110 = .ok (.invokevirtual 227, 3) := by decide +kernel
theorem dX8_of_113 : decode cX8_of 113 = .ok (.ireturn, 1) := by decide +kernel
theorem dX8_of_114 : decode cX8_of 114 = .ok (.aload_n 0, 1) := by decide +kernel
theorem dX8_of_115 : decode cX8_of 115 = .ok (.getfield 26, 3) := by decide +kernel
theorem dX8_of_118 : decode cX8_of 118 = .ok (.iload_n 1, 1) := by decide +kernel
theorem dX8_of_119 : decode cX8_of 119 = .ok (.iaload, 1) := by decide +kernel
theorem dX8_of_120 : decode cX8_of 120 = .ok (.ifCond .ne 8, 3) := by decide +kernel
theorem dX8_of_123 : decode cX8_of 123 = .ok (.bipush (-2), 2) := by decide +kernel
theorem dX8_of_125 : decode cX8_of 125 = .ok (.goto 9, 3) := by decide +kernel
theorem dX8_of_128 : decode cX8_of 128 = .ok (.aload_n 0, 1) := by decide +kernel
theorem dX8_of_129 : decode cX8_of 129 = .ok (.getfield 35, 3) := by decide +kernel
theorem dX8_of_132 : decode cX8_of 132 = .ok (.iload_n 1, 1) := by decide +kernel
theorem dX8_of_133 : decode cX8_of 133 = .ok (.iaload, 1) := by decide +kernel
theorem dX8_of_134 : decode cX8_of 134 = .ok (.ireturn, 1) := by decide +kernel
theorem dX8_loss_0 : decode cX8_loss 0 = .ok (.aload_n 0, 1) := by decide +kernel
theorem dX8_loss_1 : decode cX8_loss 1 = .ok (.iload_n 1, 1) := by decide +kernel
theorem dX8_loss_2 : decode cX8_loss 2 = .ok (.invokevirtual 115, 3) := by decide +kernel
theorem dX8_loss_5 : decode cX8_loss 5 = .ok (.ifCond .eq 10, 3) := by decide +kernel
theorem dX8_loss_8 : decode cX8_loss 8 = .ok (.iload_n 2, 1) := by decide +kernel
theorem dX8_loss_9 : decode cX8_loss 9 = .ok (.invokestatic 131, 3) := by decide +kernel
theorem dX8_loss_12 : decode cX8_loss 12 = .ok (.ifCond .ne 5, 3) := by decide +kernel
theorem dX8_loss_15 : decode cX8_loss 15 = .ok (.iconst (-1), 1) := by decide +kernel
theorem dX8_loss_16 : decode cX8_loss 16 = .ok (.ireturn, 1) := by decide +kernel
theorem dX8_loss_17 : decode cX8_loss 17 = .ok (.aload_n 0, 1) := by decide +kernel
theorem dX8_loss_18 : decode cX8_loss 18 = .ok (.iload_n 1, 1) := by decide +kernel
theorem dX8_loss_19 : decode cX8_loss 19 = .ok (.iload_n 2, 1) := by decide +kernel
theorem dX8_loss_20 : decode cX8_loss 20 = .ok (.invokevirtual 134, 3) := by decide +kernel
theorem dX8_loss_23 : decode cX8_loss 23 = .ok (.ifCond .eq 12, 3) := by decide +kernel
theorem dX8_loss_26 : decode cX8_loss 26 = .ok (.aload_n 0, 1) := by decide +kernel
theorem dX8_loss_27 : decode cX8_loss 27 = .ok (.iload_n 1, 1) := by decide +kernel
theorem dX8_loss_28 : decode cX8_loss 28 = .ok (.iload_n 2, 1) := by decide +kernel
theorem dX8_loss_29 : decode cX8_loss 29 = .ok (.invokevirtual 175, 3) := by decide +kernel
theorem dX8_loss_32 : decode cX8_loss 32 = .ok (.goto 5, 3) := by decide +kernel
theorem dX8_loss_35 : decode cX8_loss 35 = .ok (.bipush (-2), 2) := by decide +kernel
theorem dX8_loss_37 : decode cX8_loss 37 = .ok (.ireturn, 1) := by decide +kernel
theorem dX8_claimOf_0 : decode cX8_claimOf 0 = .ok (.aload_n 0, 1) := by decide +kernel
theorem dX8_claimOf_1 : decode cX8_claimOf 1 = .ok (.iload_n 1, 1) := by decide +kernel
theorem dX8_claimOf_2 : decode cX8_claimOf 2 = .ok (.invokevirtual 147, 3) := by decide +kernel
theorem dX8_claimOf_5 : decode cX8_claimOf 5 = .ok (.ifCond .eq 12, 3) := by decide +kernel
theorem dX8_claimOf_8 : decode cX8_claimOf 8 = .ok (.iload_n 2, 1) := by decide +kernel
theorem dX8_claimOf_9 : decode cX8_claimOf 9 = .ok (.iconst 0, 1) := by decide +kernel
theorem dX8_claimOf_10 : decode cX8_claimOf 10 = .ok (.iconst 3, 1) := by decide +kernel
theorem dX8_claimOf_11 : decode cX8_claimOf 11 = .ok (.invokestatic 84, 3) := by decide +kernel
theorem dX8_claimOf_14 : decode cX8_claimOf 14 = .ok (.ifCond .ne 5, 3) := by decide +kernel
theorem dX8_claimOf_17 : decode cX8_claimOf 17 = .ok (.iconst (-1), 1) := by decide +kernel
theorem dX8_claimOf_18 : decode cX8_claimOf 18 = .ok (.ireturn, 1) := by decide +kernel
theorem dX8_claimOf_19 : decode cX8_claimOf 19 = .ok (.iload_n 2, 1) := by decide +kernel
theorem dX8_claimOf_20 : decode cX8_claimOf 20 = .ok (.iconst 3, 1) := by decide +kernel
theorem dX8_claimOf_21 : decode cX8_claimOf 21 = .ok (.if_icmp .ge 19, 3) := by decide +kernel
theorem dX8_claimOf_24 : decode cX8_claimOf 24 = .ok (.aload_n 0, 1) := by decide +kernel
theorem dX8_claimOf_25 : decode cX8_claimOf 25 = .ok (.getfield 13, 3) := by decide +kernel
theorem dX8_claimOf_28 : decode cX8_claimOf 28 = .ok (.bipush 20, 2) := by decide +kernel
theorem dX8_claimOf_30 : decode cX8_claimOf 30 = .ok (.iconst 3, 1) := by decide +kernel
theorem dX8_claimOf_31 : decode cX8_claimOf 31 = .ok (.iload_n 1, 1) := by decide +kernel
theorem dX8_claimOf_32 : decode cX8_claimOf 32 = .ok (.imul, 1) := by decide +kernel
theorem dX8_claimOf_33 : decode cX8_claimOf 33 = .ok (.iadd, 1) := by decide +kernel
theorem dX8_claimOf_34 : decode cX8_claimOf 34 = .ok (.iload_n 2, 1) := by decide +kernel
theorem dX8_claimOf_35 : decode cX8_claimOf 35 = .ok (.iadd, 1) := by decide +kernel
theorem dX8_claimOf_36 : decode cX8_claimOf 36 = .ok (.iaload, 1) := by decide +kernel
theorem dX8_claimOf_37 : decode cX8_claimOf 37 = .ok (.goto 8, 3) := by decide +kernel
theorem dX8_claimOf_40 : decode cX8_claimOf 40 = .ok (.aload_n 0, 1) := by decide +kernel
theorem dX8_claimOf_41 : decode cX8_claimOf 41 = .ok (.iload_n 1, 1) := by decide +kernel
theorem dX8_claimOf_42 : decode cX8_claimOf 42 = .ok (.invokevirtual 172, 3) := by decide +kernel
theorem dX8_claimOf_45 : decode cX8_claimOf 45 = .ok (.ireturn, 1) := by decide +kernel
theorem dX8_group_0 : decode cX8_group 0 = .ok (.iload_n 1, 1) := by decide +kernel
theorem dX8_group_1 : decode cX8_group 1 = .ok (.invokestatic 108, 3) := by decide +kernel
theorem dX8_group_4 : decode cX8_group 4 = .ok (.ifCond .eq 12, 3) := by decide +kernel
theorem dX8_group_7 : decode cX8_group 7 = .ok (.iload_n 2, 1) := by decide +kernel
theorem dX8_group_8 : decode cX8_group 8 = .ok (.iconst 0, 1) := by decide +kernel
theorem dX8_group_9 : decode cX8_group 9 = .ok (.iconst 5, 1) := by decide +kernel
theorem dX8_group_10 : decode cX8_group 10 = .ok (.invokestatic 84, 3) := by decide +kernel
theorem dX8_group_13 : decode cX8_group 13 = .ok (.ifCond .ne 5, 3) := by decide +kernel
theorem dX8_group_16 : decode cX8_group 16 = .ok (.iconst (-1), 1) := by decide +kernel
theorem dX8_group_17 : decode cX8_group 17 = .ok (.ireturn, 1) := by decide +kernel
theorem dX8_group_18 : decode cX8_group 18 = .ok (.aload_n 0, 1) := by decide +kernel
theorem dX8_group_19 : decode cX8_group 19 = .ok (.invokevirtual 221, 3) := by decide +kernel
theorem dX8_group_22 : decode cX8_group 22 = .ok (.iload_n 2, 1) := by decide +kernel
theorem dX8_group_23 : decode cX8_group 23 = .ok (.tableswitch 100 0 4 #[33, 40, 47, 54, 61], 33) := by decide +kernel
theorem dX8_group_56 : decode cX8_group 56 = .ok (.aload_n 0, 1) := by decide +kernel
theorem dX8_group_57 : decode cX8_group 57 = .ok (.getfield 45, 3) := by decide +kernel
theorem dX8_group_60 : decode cX8_group 60 = .ok (.iload_n 1, 1) := by decide +kernel
theorem dX8_group_61 : decode cX8_group 61 = .ok (.iaload, 1) := by decide +kernel
theorem dX8_group_62 : decode cX8_group 62 = .ok (.ireturn, 1) := by decide +kernel
theorem dX8_group_63 : decode cX8_group 63 = .ok (.aload_n 0, 1) := by decide +kernel
theorem dX8_group_64 : decode cX8_group 64 = .ok (.getfield 48, 3) := by decide +kernel
theorem dX8_group_67 : decode cX8_group 67 = .ok (.iload_n 1, 1) := by decide +kernel
theorem dX8_group_68 : decode cX8_group 68 = .ok (.iaload, 1) := by decide +kernel
theorem dX8_group_69 : decode cX8_group 69 = .ok (.ireturn, 1) := by decide +kernel
theorem dX8_group_70 : decode cX8_group 70 = .ok (.aload_n 0, 1) := by decide +kernel
theorem dX8_group_71 : decode cX8_group 71 = .ok (.getfield 51, 3) := by decide +kernel
theorem dX8_group_74 : decode cX8_group 74 = .ok (.iload_n 1, 1) := by decide +kernel
theorem dX8_group_75 : decode cX8_group 75 = .ok (.iaload, 1) := by decide +kernel
theorem dX8_group_76 : decode cX8_group 76 = .ok (.ireturn, 1) := by decide +kernel
theorem dX8_group_77 : decode cX8_group 77 = .ok (.aload_n 0, 1) := by decide +kernel
theorem dX8_group_78 : decode cX8_group 78 = .ok (.getfield 54, 3) := by decide +kernel
theorem dX8_group_81 : decode cX8_group 81 = .ok (.iload_n 1, 1) := by decide +kernel
theorem dX8_group_82 : decode cX8_group 82 = .ok (.iaload, 1) := by decide +kernel
theorem dX8_group_83 : decode cX8_group 83 = .ok (.ireturn, 1) := by decide +kernel
theorem dX8_group_84 : decode cX8_group 84 = .ok (.iconst 0, 1) := by decide +kernel
theorem dX8_group_85 : decode cX8_group 85 = .ok (.istore_n 3, 1) := by decide +kernel
theorem dX8_group_86 : decode cX8_group 86 = .ok (.iconst 0, 1) := by decide +kernel
theorem dX8_group_87 : decode cX8_group 87 = .ok (.istore 4, 2) := by decide +kernel
theorem dX8_group_89 : decode cX8_group 89 = .ok (.iload 4, 2) := by decide +kernel
theorem dX8_group_91 : decode cX8_group 91 = .ok (.aload_n 0, 1) := by decide +kernel
theorem dX8_group_92 : decode cX8_group 92 = .ok (.invokevirtual 80, 3) := by decide +kernel
theorem dX8_group_95 : decode cX8_group 95 = .ok (.if_icmp .ge 26, 3) := by decide +kernel
theorem dX8_group_98 : decode cX8_group 98 = .ok (.aload_n 0, 1) := by decide +kernel
theorem dX8_group_99 : decode cX8_group 99 = .ok (.iload 4, 2) := by decide +kernel
theorem dX8_group_101 : decode cX8_group 101 = .ok (.invokevirtual 125, 3) := by decide +kernel
theorem dX8_group_104 : decode cX8_group 104 = .ok (.iload_n 1, 1) := by decide +kernel
theorem dX8_group_105 : decode cX8_group 105 = .ok (.if_icmp .ne 10, 3) := by decide +kernel
theorem dX8_group_108 : decode cX8_group 108 = .ok (.iload_n 3, 1) := by decide +kernel
theorem dX8_group_109 : decode cX8_group 109 = .ok (.iconst 1, 1) := by decide +kernel
theorem dX8_group_110 : decode cX8_group 110 = .ok (.iload 4, 2) := by decide +kernel
theorem dX8_group_112 : decode cX8_group 112 = .ok (.ishl, 1) := by decide +kernel
theorem dX8_group_113 : decode cX8_group 113 = .ok (.ior, 1) := by decide +kernel
theorem dX8_group_114 : decode cX8_group 114 = .ok (.istore_n 3, 1) := by decide +kernel
theorem dX8_group_115 : decode cX8_group 115 = .ok (.iinc 4 1, 3) := by decide +kernel
theorem dX8_group_118 : decode cX8_group 118 = .ok (.goto (-29), 3) := by decide +kernel
theorem dX8_group_121 : decode cX8_group 121 = .ok (.iload_n 3, 1) := by decide +kernel
theorem dX8_group_122 : decode cX8_group 122 = .ok (.ireturn, 1) := by decide +kernel
theorem dX8_group_123 : decode cX8_group 123 = .ok (.aload_n 0, 1) := by decide +kernel
theorem dX8_group_124 : decode cX8_group 124 = .ok (.iload_n 1, 1) := by decide +kernel
theorem dX8_group_125 : decode cX8_group 125 = .ok (.invokevirtual 199, 3) := by decide +kernel
theorem dX8_group_128 : decode cX8_group 128 = .ok (.ireturn, 1) := by decide +kernel
theorem dX8_spread_0 : decode cX8_spread 0 = .ok (.iload_n 1, 1) := by decide +kernel
theorem dX8_spread_1 : decode cX8_spread 1 = .ok (.invokestatic 108, 3) := by decide +kernel
theorem dX8_spread_4 : decode cX8_spread 4 = .ok (.ifCond .eq 12, 3) := by decide +kernel
theorem dX8_spread_7 : decode cX8_spread 7 = .ok (.iload_n 2, 1) := by decide +kernel
theorem dX8_spread_8 : decode cX8_spread 8 = .ok (.iconst 0, 1) := by decide +kernel
theorem dX8_spread_9 : decode cX8_spread 9 = .ok (.iconst 4, 1) := by decide +kernel
theorem dX8_spread_10 : decode cX8_spread 10 = .ok (.invokestatic 84, 3) := by decide +kernel
theorem dX8_spread_13 : decode cX8_spread 13 = .ok (.ifCond .ne 7, 3) := by decide +kernel
theorem dX8_spread_16 : decode cX8_spread 16 = .ok (.ldc2_w 230, 3) := by decide +kernel
theorem dX8_spread_19 : decode cX8_spread 19 = .ok (.lreturn, 1) := by decide +kernel
theorem dX8_spread_20 : decode cX8_spread 20 = .ok (.aload_n 0, 1) := by decide +kernel
theorem dX8_spread_21 : decode cX8_spread 21 = .ok (.iload_n 1, 1) := by decide +kernel
theorem dX8_spread_22 : decode cX8_spread 22 = .ok (.iload_n 2, 1) := by decide +kernel
theorem dX8_spread_23 : decode cX8_spread 23 = .ok (.iload_n 3, 1) := by decide +kernel
theorem dX8_spread_24 : decode cX8_spread 24 = .ok (.invokevirtual 232, 3) := by decide +kernel
theorem dX8_spread_27 : decode cX8_spread 27 = .ok (.lreturn, 1) := by decide +kernel
theorem dX8_whole_0 : decode cX8_whole 0 = .ok (.aload_n 0, 1) := by decide +kernel
theorem dX8_whole_1 : decode cX8_whole 1 = .ok (.invokevirtual 206, 3) := by decide +kernel
theorem dX8_whole_4 : decode cX8_whole 4 = .ok (.aload_n 0, 1) := by decide +kernel
theorem dX8_whole_5 : decode cX8_whole 5 = .ok (.getfield 178, 3) := by decide +kernel
theorem dX8_whole_8 : decode cX8_whole 8 = .ok (.lconst 0, 1) := by decide +kernel
theorem dX8_whole_9 : decode cX8_whole 9 = .ok (.lcmp, 1) := by decide +kernel
theorem dX8_whole_10 : decode cX8_whole 10 = .ok (.ifCond .ne 9, 3) := by decide +kernel
theorem dX8_whole_13 : decode cX8_whole 13 = .ok (.ldc2_w 230, 3) := by decide +kernel
theorem dX8_whole_16 : decode cX8_whole 16 = .ok (.goto 18, 3) := by decide +kernel
theorem dX8_whole_19 : decode cX8_whole 19 = .ok (.iload_n 1, 1) := by decide +kernel
theorem dX8_whole_20 : decode cX8_whole 20 = .ok (.ifCond .eq 10, 3) := by decide +kernel
theorem dX8_whole_23 : decode cX8_whole 23 = .ok (.aload_n 0, 1) := by decide +kernel
theorem dX8_whole_24 : decode cX8_whole 24 = .ok (.getfield 178, 3) := by decide +kernel
theorem dX8_whole_27 : decode cX8_whole 27 = .ok (.goto 7, 3) := by decide +kernel
theorem dX8_whole_30 : decode cX8_whole 30 = .ok (.aload_n 0, 1) := by decide +kernel
theorem dX8_whole_31 : decode cX8_whole 31 = .ok (.getfield 181, 3) := by decide +kernel
theorem dX8_whole_34 : decode cX8_whole 34 = .ok (.lreturn, 1) := by decide +kernel
theorem dX8_rate_0 : decode cX8_rate 0 = .ok (.aload_n 0, 1) := by decide +kernel
theorem dX8_rate_1 : decode cX8_rate 1 = .ok (.iload_n 1, 1) := by decide +kernel
theorem dX8_rate_2 : decode cX8_rate 2 = .ok (.invokevirtual 115, 3) := by decide +kernel
theorem dX8_rate_5 : decode cX8_rate 5 = .ok (.ifCond .eq 11, 3) := by decide +kernel
theorem dX8_rate_8 : decode cX8_rate 8 = .ok (.aload_n 0, 1) := by decide +kernel
theorem dX8_rate_9 : decode cX8_rate 9 = .ok (.iload_n 1, 1) := by decide +kernel
theorem dX8_rate_10 : decode cX8_rate 10 = .ok (.invokevirtual 236, 3) := by decide +kernel
theorem dX8_rate_13 : decode cX8_rate 13 = .ok (.ifCond .ne 7, 3) := by decide +kernel
theorem dX8_rate_16 : decode cX8_rate 16 = .ok (.ldc2_w 230, 3) := by decide +kernel
theorem dX8_rate_19 : decode cX8_rate 19 = .ok (.lreturn, 1) := by decide +kernel
theorem dX8_rate_20 : decode cX8_rate 20 = .ok (.aload_n 0, 1) := by decide +kernel
theorem dX8_rate_21 : decode cX8_rate 21 = .ok (.invokevirtual 221, 3) := by decide +kernel
theorem dX8_rate_24 : decode cX8_rate 24 = .ok (.iload_n 2, 1) := by decide +kernel
theorem dX8_rate_25 : decode cX8_rate 25 = .ok (.ifCond .eq 12, 3) := by decide +kernel
theorem dX8_rate_28 : decode cX8_rate 28 = .ok (.aload_n 0, 1) := by decide +kernel
theorem dX8_rate_29 : decode cX8_rate 29 = .ok (.getfield 42, 3) := by decide +kernel
theorem dX8_rate_32 : decode cX8_rate 32 = .ok (.iload_n 1, 1) := by decide +kernel
theorem dX8_rate_33 : decode cX8_rate 33 = .ok (.laload, 1) := by decide +kernel
theorem dX8_rate_34 : decode cX8_rate 34 = .ok (.goto 9, 3) := by decide +kernel
theorem dX8_rate_37 : decode cX8_rate 37 = .ok (.aload_n 0, 1) := by decide +kernel
theorem dX8_rate_38 : decode cX8_rate 38 = .ok (.getfield 38, 3) := by decide +kernel
theorem dX8_rate_41 : decode cX8_rate 41 = .ok (.iload_n 1, 1) := by decide +kernel
theorem dX8_rate_42 : decode cX8_rate 42 = .ok (.laload, 1) := by decide +kernel
theorem dX8_rate_43 : decode cX8_rate 43 = .ok (.lreturn, 1) := by decide +kernel
theorem dX8_thousandths_0 : decode cX8_thousandths 0 = .ok (.aload_n 0, 1) := by decide +kernel
theorem dX8_thousandths_1 : decode cX8_thousandths 1 = .ok (.iload_n 1, 1) := by decide +kernel
theorem dX8_thousandths_2 : decode cX8_thousandths 2 = .ok (.invokevirtual 115, 3) := by decide +kernel
theorem dX8_thousandths_5 : decode cX8_thousandths 5 = .ok (.ifCond .ne 5, 3) := by decide +kernel
theorem dX8_thousandths_8 : decode cX8_thousandths 8 = .ok (.iconst (-1), 1) := by decide +kernel
theorem dX8_thousandths_9 : decode cX8_thousandths 9 = .ok (.ireturn, 1) := by decide +kernel
theorem dX8_thousandths_10 : decode cX8_thousandths 10 = .ok (.aload_n 0, 1) := by decide +kernel
theorem dX8_thousandths_11 : decode cX8_thousandths 11 = .ok (.iload_n 1, 1) := by decide +kernel
theorem dX8_thousandths_12 : decode cX8_thousandths 12 = .ok (.invokevirtual 236, 3) := by decide +kernel
theorem dX8_thousandths_15 : decode cX8_thousandths 15 = .ok (.ifCond .eq 11, 3) := by decide +kernel
theorem dX8_thousandths_18 : decode cX8_thousandths 18 = .ok (.aload_n 0, 1) := by decide +kernel
theorem dX8_thousandths_19 : decode cX8_thousandths 19 = .ok (.iload_n 1, 1) := by decide +kernel
theorem dX8_thousandths_20 : decode cX8_thousandths 20 = .ok (.invokevirtual 239, 3) := by decide +kernel
theorem dX8_thousandths_23 : decode cX8_thousandths 23 = .ok (.goto 5, 3) := by decide +kernel
theorem dX8_thousandths_26 : decode cX8_thousandths 26 = .ok (.bipush (-2), 2) := by decide +kernel
theorem dX8_thousandths_28 : decode cX8_thousandths 28 = .ok (.ireturn, 1) := by decide +kernel
theorem dX8_isAhead_0 : decode cX8_isAhead 0 = .ok (.aload_n 0, 1) := by decide +kernel
theorem dX8_isAhead_1 : decode cX8_isAhead 1 = .ok (.getfield 38, 3) := by decide +kernel
theorem dX8_isAhead_4 : decode cX8_isAhead 4 = .ok (.iload_n 2, 1) := by decide +kernel
theorem dX8_isAhead_5 : decode cX8_isAhead 5 = .ok (.laload, 1) := by decide +kernel
theorem dX8_isAhead_6 : decode cX8_isAhead 6 = .ok (.aload_n 0, 1) := by decide +kernel
theorem dX8_isAhead_7 : decode cX8_isAhead 7 = .ok (.getfield 42, 3) := by decide +kernel
theorem dX8_isAhead_10 : decode cX8_isAhead 10 = .ok (.iload_n 2, 1) := by decide +kernel
theorem dX8_isAhead_11 : decode cX8_isAhead 11 = .ok (.laload, 1) := by decide +kernel
theorem dX8_isAhead_12 : decode cX8_isAhead 12 = .ok (.aload_n 0, 1) := by decide +kernel
theorem dX8_isAhead_13 : decode cX8_isAhead 13 = .ok (.getfield 38, 3) := by decide +kernel
theorem dX8_isAhead_16 : decode cX8_isAhead 16 = .ok (.iload_n 1, 1) := by decide +kernel
theorem dX8_isAhead_17 : decode cX8_isAhead 17 = .ok (.laload, 1) := by decide +kernel
theorem dX8_isAhead_18 : decode cX8_isAhead 18 = .ok (.aload_n 0, 1) := by decide +kernel
theorem dX8_isAhead_19 : decode cX8_isAhead 19 = .ok (.getfield 42, 3) := by decide +kernel
theorem dX8_isAhead_22 : decode cX8_isAhead 22 = .ok (.iload_n 1, 1) := by decide +kernel
theorem dX8_isAhead_23 : decode cX8_isAhead 23 = .ok (.laload, 1) := by decide +kernel
theorem dX8_isAhead_24 : decode cX8_isAhead 24 = .ok (.invokestatic 242, 3) := by decide +kernel
theorem dX8_isAhead_27 : decode cX8_isAhead 27 = .ok (.ifCond .eq 5, 3) := by decide +kernel
theorem dX8_isAhead_30 : decode cX8_isAhead 30 = .ok (.iconst 1, 1) := by decide +kernel
theorem dX8_isAhead_31 : decode cX8_isAhead 31 = .ok (.ireturn, 1) := by decide +kernel
theorem dX8_isAhead_32 : decode cX8_isAhead 32 = .ok (.iload_n 1, 1) := by decide +kernel
theorem dX8_isAhead_33 : decode cX8_isAhead 33 = .ok (.iload_n 2, 1) := by decide +kernel
theorem dX8_isAhead_34 : decode cX8_isAhead 34 = .ok (.if_icmp .ge 37, 3) := by decide +kernel
theorem dX8_isAhead_37 : decode cX8_isAhead 37 = .ok (.aload_n 0, 1) := by decide +kernel
theorem dX8_isAhead_38 : decode cX8_isAhead 38 = .ok (.getfield 38, 3) := by decide +kernel
theorem dX8_isAhead_41 : decode cX8_isAhead 41 = .ok (.iload_n 1, 1) := by decide +kernel
theorem dX8_isAhead_42 : decode cX8_isAhead 42 = .ok (.laload, 1) := by decide +kernel
theorem dX8_isAhead_43 : decode cX8_isAhead 43 = .ok (.aload_n 0, 1) := by decide +kernel
theorem dX8_isAhead_44 : decode cX8_isAhead 44 = .ok (.getfield 42, 3) := by decide +kernel
theorem dX8_isAhead_47 : decode cX8_isAhead 47 = .ok (.iload_n 1, 1) := by decide +kernel
theorem dX8_isAhead_48 : decode cX8_isAhead 48 = .ok (.laload, 1) := by decide +kernel
theorem dX8_isAhead_49 : decode cX8_isAhead 49 = .ok (.aload_n 0, 1) := by decide +kernel
theorem dX8_isAhead_50 : decode cX8_isAhead 50 = .ok (.getfield 38, 3) := by decide +kernel
theorem dX8_isAhead_53 : decode cX8_isAhead 53 = .ok (.iload_n 2, 1) := by decide +kernel
theorem dX8_isAhead_54 : decode cX8_isAhead 54 = .ok (.laload, 1) := by decide +kernel
theorem dX8_isAhead_55 : decode cX8_isAhead 55 = .ok (.aload_n 0, 1) := by decide +kernel
theorem dX8_isAhead_56 : decode cX8_isAhead 56 = .ok (.getfield 42, 3) := by decide +kernel
theorem dX8_isAhead_59 : decode cX8_isAhead 59 = .ok (.iload_n 2, 1) := by decide +kernel
theorem dX8_isAhead_60 : decode cX8_isAhead 60 = .ok (.laload, 1) := by decide +kernel
theorem dX8_isAhead_61 : decode cX8_isAhead 61 = .ok (.invokestatic 242, 3) := by decide +kernel
theorem dX8_isAhead_64 : decode cX8_isAhead 64 = .ok (.ifCond .ne 7, 3) := by decide +kernel
theorem dX8_isAhead_67 : decode cX8_isAhead 67 = .ok (.iconst 1, 1) := by decide +kernel
theorem dX8_isAhead_68 : decode cX8_isAhead 68 = .ok (.goto 4, 3) := by decide +kernel
theorem dX8_isAhead_71 : decode cX8_isAhead 71 = .ok (.iconst 0, 1) := by decide +kernel
theorem dX8_isAhead_72 : decode cX8_isAhead 72 = .ok (.ireturn, 1) := by decide +kernel
theorem dX8_ranked_0 : decode cX8_ranked 0 = .ok (.aload_n 0, 1) := by decide +kernel
theorem dX8_ranked_1 : decode cX8_ranked 1 = .ok (.invokevirtual 221, 3) := by decide +kernel
theorem dX8_ranked_4 : decode cX8_ranked 4 = .ok (.iconst 0, 1) := by decide +kernel
theorem dX8_ranked_5 : decode cX8_ranked 5 = .ok (.istore_n 2, 1) := by decide +kernel
theorem dX8_ranked_6 : decode cX8_ranked 6 = .ok (.iload_n 2, 1) := by decide +kernel
theorem dX8_ranked_7 : decode cX8_ranked 7 = .ok (.aload_n 0, 1) := by decide +kernel
theorem dX8_ranked_8 : decode cX8_ranked 8 = .ok (.invokevirtual 80, 3) := by decide +kernel
theorem dX8_ranked_11 : decode cX8_ranked 11 = .ok (.if_icmp .ge 77, 3) := by decide +kernel
theorem dX8_ranked_14 : decode cX8_ranked 14 = .ok (.aload_n 0, 1) := by decide +kernel
theorem dX8_ranked_15 : decode cX8_ranked 15 = .ok (.getfield 26, 3) := by decide +kernel
theorem dX8_ranked_18 : decode cX8_ranked 18 = .ok (.iload_n 2, 1) := by decide +kernel
theorem dX8_ranked_19 : decode cX8_ranked 19 = .ok (.iaload, 1) := by decide +kernel
theorem dX8_ranked_20 : decode cX8_ranked 20 = .ok (.ifCond .ne 6, 3) := by decide +kernel
theorem dX8_ranked_23 : decode cX8_ranked 23 = .ok (.goto 59, 3) := by decide +kernel
theorem dX8_ranked_26 : decode cX8_ranked 26 = .ok (.iconst 0, 1) := by decide +kernel
theorem dX8_ranked_27 : decode cX8_ranked 27 = .ok (.istore_n 3, 1) := by decide +kernel
theorem dX8_ranked_28 : decode cX8_ranked 28 = .ok (.iconst 0, 1) := by decide +kernel
theorem dX8_ranked_29 : decode cX8_ranked 29 = .ok (.istore 4, 2) := by decide +kernel
theorem dX8_ranked_31 : decode cX8_ranked 31 = .ok (.iload 4, 2) := by decide +kernel
theorem dX8_ranked_33 : decode cX8_ranked 33 = .ok (.aload_n 0, 1) := by decide +kernel
theorem dX8_ranked_34 : decode cX8_ranked 34 = .ok (.invokevirtual 80, 3) := by decide +kernel
theorem dX8_ranked_37 : decode cX8_ranked 37 = .ok (.if_icmp .ge 38, 3) := by decide +kernel
theorem dX8_ranked_40 : decode cX8_ranked 40 = .ok (.iload 4, 2) := by decide +kernel
theorem dX8_ranked_42 : decode cX8_ranked 42 = .ok (.iload_n 2, 1) := by decide +kernel
theorem dX8_ranked_43 : decode cX8_ranked 43 = .ok (.if_icmp .eq 26, 3) := by decide +kernel
theorem dX8_ranked_46 : decode cX8_ranked 46 = .ok (.aload_n 0, 1) := by decide +kernel
theorem dX8_ranked_47 : decode cX8_ranked 47 = .ok (.getfield 26, 3) := by decide +kernel
theorem dX8_ranked_50 : decode cX8_ranked 50 = .ok (.iload 4, 2) := by decide +kernel
theorem dX8_ranked_52 : decode cX8_ranked 52 = .ok (.iaload, 1) := by decide +kernel
theorem dX8_ranked_53 : decode cX8_ranked 53 = .ok (.ifCond .le 16, 3) := by decide +kernel
theorem dX8_ranked_56 : decode cX8_ranked 56 = .ok (.aload_n 0, 1) := by decide +kernel
theorem dX8_ranked_57 : decode cX8_ranked 57 = .ok (.iload 4, 2) := by decide +kernel
theorem dX8_ranked_59 : decode cX8_ranked 59 = .ok (.iload_n 2, 1) := by decide +kernel
theorem dX8_ranked_60 : decode cX8_ranked 60 = .ok (.invokevirtual 246, 3) := by decide +kernel
theorem dX8_ranked_63 : decode cX8_ranked 63 = .ok (.ifCond .eq 6, 3) := by decide +kernel
theorem dX8_ranked_66 : decode cX8_ranked 66 = .ok (.iinc 3 1, 3) := by decide +kernel
theorem dX8_ranked_69 : decode cX8_ranked 69 = .ok (.iinc 4 1, 3) := by decide +kernel
theorem dX8_ranked_72 : decode cX8_ranked 72 = .ok (.goto (-41), 3) := by decide +kernel
theorem dX8_ranked_75 : decode cX8_ranked 75 = .ok (.iload_n 3, 1) := by decide +kernel
theorem dX8_ranked_76 : decode cX8_ranked 76 = .ok (.iload_n 1, 1) := by decide +kernel
theorem dX8_ranked_77 : decode cX8_ranked 77 = .ok (.if_icmp .ne 5, 3) := by decide +kernel
theorem dX8_ranked_80 : decode cX8_ranked 80 = .ok (.iload_n 2, 1) := by decide +kernel
theorem dX8_ranked_81 : decode cX8_ranked 81 = .ok (.ireturn, 1) := by decide +kernel
theorem dX8_ranked_82 : decode cX8_ranked 82 = .ok (.iinc 2 1, 3) := by decide +kernel
theorem dX8_ranked_85 : decode cX8_ranked 85 = .ok (.goto (-79), 3) := by decide +kernel
theorem dX8_ranked_88 : decode cX8_ranked 88 = .ok (.iconst (-1), 1) := by decide +kernel
theorem dX8_ranked_89 : decode cX8_ranked 89 = .ok (.ireturn, 1) := by decide +kernel
theorem dX8_isGreater_0 : decode cX8_isGreater 0 = .ok (.aload_n 0, 1) := by decide +kernel
theorem dX8_isGreater_1 : decode cX8_isGreater 1 = .ok (.iload_n 1, 1) := by decide +kernel
theorem dX8_isGreater_2 : decode cX8_isGreater 2 = .ok (.invokevirtual 95, 3) := by decide +kernel
theorem dX8_isGreater_5 : decode cX8_isGreater 5 = .ok (.aload_n 0, 1) := by decide +kernel
theorem dX8_isGreater_6 : decode cX8_isGreater 6 = .ok (.iload_n 2, 1) := by decide +kernel
theorem dX8_isGreater_7 : decode cX8_isGreater 7 = .ok (.invokevirtual 95, 3) := by decide +kernel
theorem dX8_isGreater_10 : decode cX8_isGreater 10 = .ok (.if_icmp .gt 21, 3) := by decide +kernel
theorem dX8_isGreater_13 : decode cX8_isGreater 13 = .ok (.aload_n 0, 1) := by decide +kernel
theorem dX8_isGreater_14 : decode cX8_isGreater 14 = .ok (.iload_n 1, 1) := by decide +kernel
theorem dX8_isGreater_15 : decode cX8_isGreater 15 = .ok (.invokevirtual 95, 3) := by decide +kernel
theorem dX8_isGreater_18 : decode cX8_isGreater 18 = .ok (.aload_n 0, 1) := by decide +kernel
theorem dX8_isGreater_19 : decode cX8_isGreater 19 = .ok (.iload_n 2, 1) := by decide +kernel
theorem dX8_isGreater_20 : decode cX8_isGreater 20 = .ok (.invokevirtual 95, 3) := by decide +kernel
theorem dX8_isGreater_23 : decode cX8_isGreater 23 = .ok (.if_icmp .ne 12, 3) := by decide +kernel
theorem dX8_isGreater_26 : decode cX8_isGreater 26 = .ok (.iload_n 1, 1) := by decide +kernel
theorem dX8_isGreater_27 : decode cX8_isGreater 27 = .ok (.iload_n 2, 1) := by decide +kernel
theorem dX8_isGreater_28 : decode cX8_isGreater 28 = .ok (.if_icmp .ge 7, 3) := by decide +kernel
theorem dX8_isGreater_31 : decode cX8_isGreater 31 = .ok (.iconst 1, 1) := by decide +kernel
theorem dX8_isGreater_32 : decode cX8_isGreater 32 = .ok (.goto 4, 3) := by decide +kernel
theorem dX8_isGreater_35 : decode cX8_isGreater 35 = .ok (.iconst 0, 1) := by decide +kernel
theorem dX8_isGreater_36 : decode cX8_isGreater 36 = .ok (.ireturn, 1) := by decide +kernel
theorem dX8_greatest_0 : decode cX8_greatest 0 = .ok (.aload_n 0, 1) := by decide +kernel
theorem dX8_greatest_1 : decode cX8_greatest 1 = .ok (.iload_n 1, 1) := by decide +kernel
theorem dX8_greatest_2 : decode cX8_greatest 2 = .ok (.invokevirtual 115, 3) := by decide +kernel
theorem dX8_greatest_5 : decode cX8_greatest 5 = .ok (.ifCond .ne 5, 3) := by decide +kernel
theorem dX8_greatest_8 : decode cX8_greatest 8 = .ok (.iconst (-1), 1) := by decide +kernel
theorem dX8_greatest_9 : decode cX8_greatest 9 = .ok (.ireturn, 1) := by decide +kernel
theorem dX8_greatest_10 : decode cX8_greatest 10 = .ok (.iconst 0, 1) := by decide +kernel
theorem dX8_greatest_11 : decode cX8_greatest 11 = .ok (.istore_n 3, 1) := by decide +kernel
theorem dX8_greatest_12 : decode cX8_greatest 12 = .ok (.iload_n 3, 1) := by decide +kernel
theorem dX8_greatest_13 : decode cX8_greatest 13 = .ok (.aload_n 0, 1) := by decide +kernel
theorem dX8_greatest_14 : decode cX8_greatest 14 = .ok (.invokevirtual 88, 3) := by decide +kernel
theorem dX8_greatest_17 : decode cX8_greatest 17 = .ok (.if_icmp .ge 73, 3) := by decide +kernel
theorem dX8_greatest_20 : decode cX8_greatest 20 = .ok (.aload_n 0, 1) := by decide +kernel
theorem dX8_greatest_21 : decode cX8_greatest 21 = .ok (.iload_n 3, 1) := by decide +kernel
theorem dX8_greatest_22 : decode cX8_greatest 22 = .ok (.invokevirtual 98, 3) := by decide +kernel
theorem dX8_greatest_25 : decode cX8_greatest 25 = .ok (.iload_n 1, 1) := by decide +kernel
theorem dX8_greatest_26 : decode cX8_greatest 26 = .ok (.if_icmp .eq 6, 3) := by decide +kernel
theorem dX8_greatest_29 : decode cX8_greatest 29 = .ok (.goto 55, 3) := by decide +kernel
theorem dX8_greatest_32 : decode cX8_greatest 32 = .ok (.iconst 0, 1) := by decide +kernel
theorem dX8_greatest_33 : decode cX8_greatest 33 = .ok (.istore 4, 2) := by decide +kernel
theorem dX8_greatest_35 : decode cX8_greatest 35 = .ok (.iconst 0, 1) := by decide +kernel
theorem dX8_greatest_36 : decode cX8_greatest 36 = .ok (.istore 5, 2) := by decide +kernel
theorem dX8_greatest_38 : decode cX8_greatest 38 = .ok (.iload 5, 2) := by decide +kernel
theorem dX8_greatest_40 : decode cX8_greatest 40 = .ok (.aload_n 0, 1) := by decide +kernel
theorem dX8_greatest_41 : decode cX8_greatest 41 = .ok (.invokevirtual 88, 3) := by decide +kernel
theorem dX8_greatest_44 : decode cX8_greatest 44 = .ok (.if_icmp .ge 32, 3) := by decide +kernel
theorem dX8_greatest_47 : decode cX8_greatest 47 = .ok (.aload_n 0, 1) := by decide +kernel
theorem dX8_greatest_48 : decode cX8_greatest 48 = .ok (.iload 5, 2) := by decide +kernel
theorem dX8_greatest_50 : decode cX8_greatest 50 = .ok (.invokevirtual 98, 3) := by decide +kernel
theorem dX8_greatest_53 : decode cX8_greatest 53 = .ok (.iload_n 1, 1) := by decide +kernel
theorem dX8_greatest_54 : decode cX8_greatest 54 = .ok (.if_icmp .ne 16, 3) := by decide +kernel
theorem dX8_greatest_57 : decode cX8_greatest 57 = .ok (.aload_n 0, 1) := by decide +kernel
theorem dX8_greatest_58 : decode cX8_greatest 58 = .ok (.iload 5, 2) := by decide +kernel
theorem dX8_greatest_60 : decode cX8_greatest 60 = .ok (.iload_n 3, 1) := by decide +kernel
theorem dX8_greatest_61 : decode cX8_greatest 61 = .ok (.invokevirtual 249, 3) := by decide +kernel
theorem dX8_greatest_64 : decode cX8_greatest 64 = .ok (.ifCond .eq 6, 3) := by decide +kernel
theorem dX8_greatest_67 : decode cX8_greatest 67 = .ok (.iinc 4 1, 3) := by decide +kernel
theorem dX8_greatest_70 : decode cX8_greatest 70 = .ok (.iinc 5 1, 3) := by decide +kernel
theorem dX8_greatest_73 : decode cX8_greatest 73 = .ok (.goto (-35), 3) := by decide +kernel
theorem dX8_greatest_76 : decode cX8_greatest 76 = .ok (.iload 4, 2) := by decide +kernel
theorem dX8_greatest_78 : decode cX8_greatest 78 = .ok (.iload_n 2, 1) := by decide +kernel
theorem dX8_greatest_79 : decode cX8_greatest 79 = .ok (.if_icmp .ne 5, 3) := by decide +kernel
theorem dX8_greatest_82 : decode cX8_greatest 82 = .ok (.iload_n 3, 1) := by decide +kernel
theorem dX8_greatest_83 : decode cX8_greatest 83 = .ok (.ireturn, 1) := by decide +kernel
theorem dX8_greatest_84 : decode cX8_greatest 84 = .ok (.iinc 3 1, 3) := by decide +kernel
theorem dX8_greatest_87 : decode cX8_greatest 87 = .ok (.goto (-75), 3) := by decide +kernel
theorem dX8_greatest_90 : decode cX8_greatest 90 = .ok (.iconst (-1), 1) := by decide +kernel
theorem dX8_greatest_91 : decode cX8_greatest 91 = .ok (.ireturn, 1) := by decide +kernel
theorem dX8_worst_0 : decode cX8_worst 0 = .ok (.iload_n 1, 1) := by decide +kernel
theorem dX8_worst_1 : decode cX8_worst 1 = .ok (.invokestatic 131, 3) := by decide +kernel
theorem dX8_worst_4 : decode cX8_worst 4 = .ok (.ifCond .ne 5, 3) := by decide +kernel
theorem dX8_worst_7 : decode cX8_worst 7 = .ok (.iconst (-1), 1) := by decide +kernel
theorem dX8_worst_8 : decode cX8_worst 8 = .ok (.ireturn, 1) := by decide +kernel
theorem dX8_worst_9 : decode cX8_worst 9 = .ok (.bipush (-2), 2) := by decide +kernel
theorem dX8_worst_11 : decode cX8_worst 11 = .ok (.istore_n 2, 1) := by decide +kernel
theorem dX8_worst_12 : decode cX8_worst 12 = .ok (.iconst 0, 1) := by decide +kernel
theorem dX8_worst_13 : decode cX8_worst 13 = .ok (.istore_n 3, 1) := by decide +kernel
theorem dX8_worst_14 : decode cX8_worst 14 = .ok (.iload_n 3, 1) := by decide +kernel
theorem dX8_worst_15 : decode cX8_worst 15 = .ok (.aload_n 0, 1) := by decide +kernel
theorem dX8_worst_16 : decode cX8_worst 16 = .ok (.invokevirtual 80, 3) := by decide +kernel
theorem dX8_worst_19 : decode cX8_worst 19 = .ok (.if_icmp .ge 39, 3) := by decide +kernel
theorem dX8_worst_22 : decode cX8_worst 22 = .ok (.aload_n 0, 1) := by decide +kernel
theorem dX8_worst_23 : decode cX8_worst 23 = .ok (.iload_n 3, 1) := by decide +kernel
theorem dX8_worst_24 : decode cX8_worst 24 = .ok (.iload_n 1, 1) := by decide +kernel
theorem dX8_worst_25 : decode cX8_worst 25 = .ok (.invokevirtual 134, 3) := by decide +kernel
theorem dX8_worst_28 : decode cX8_worst 28 = .ok (.ifCond .eq 24, 3) := by decide +kernel
theorem dX8_worst_31 : decode cX8_worst 31 = .ok (.iload_n 2, 1) := by decide +kernel
theorem dX8_worst_32 : decode cX8_worst 32 = .ok (.ifCond .lt 18, 3) := by decide +kernel
theorem dX8_worst_35 : decode cX8_worst 35 = .ok (.aload_n 0, 1) := by decide +kernel
theorem dX8_worst_36 : decode cX8_worst 36 = .ok (.iload_n 3, 1) := by decide +kernel
theorem dX8_worst_37 : decode cX8_worst 37 = .ok (.iload_n 1, 1) := by decide +kernel
theorem dX8_worst_38 : decode cX8_worst 38 = .ok (.invokevirtual 175, 3) := by decide +kernel
theorem dX8_worst_41 : decode cX8_worst 41 = .ok (.aload_n 0, 1) := by decide +kernel
theorem dX8_worst_42 : decode cX8_worst 42 = .ok (.iload_n 2, 1) := by decide +kernel
theorem dX8_worst_43 : decode cX8_worst 43 = .ok (.iload_n 1, 1) := by decide +kernel
theorem dX8_worst_44 : decode cX8_worst 44 = .ok (.invokevirtual 175, 3) := by decide +kernel
theorem dX8_worst_47 : decode cX8_worst 47 = .ok (.if_icmp .le 5, 3) := by decide +kernel
theorem dX8_worst_50 : decode cX8_worst 50 = .ok (.iload_n 3, 1) := by decide +kernel
theorem dX8_worst_51 : decode cX8_worst 51 = .ok (.istore_n 2, 1) := by decide +kernel
theorem dX8_worst_52 : decode cX8_worst 52 = .ok (.iinc 3 1, 3) := by decide +kernel
theorem dX8_worst_55 : decode cX8_worst 55 = .ok (.goto (-41), 3) := by decide +kernel
theorem dX8_worst_58 : decode cX8_worst 58 = .ok (.iload_n 2, 1) := by decide +kernel
theorem dX8_worst_59 : decode cX8_worst 59 = .ok (.ireturn, 1) := by decide +kernel
theorem dX8_dearestOf_0 : decode cX8_dearestOf 0 = .ok (.iload_n 1, 1) := by decide +kernel
theorem dX8_dearestOf_1 : decode cX8_dearestOf 1 = .ok (.invokestatic 108, 3) := by decide +kernel
theorem dX8_dearestOf_4 : decode cX8_dearestOf 4 = .ok (.ifCond .ne 5, 3) := by decide +kernel
theorem dX8_dearestOf_7 : decode cX8_dearestOf 7 = .ok (.iconst (-1), 1) := by decide +kernel
theorem dX8_dearestOf_8 : decode cX8_dearestOf 8 = .ok (.ireturn, 1) := by decide +kernel
theorem dX8_dearestOf_9 : decode cX8_dearestOf 9 = .ok (.aload_n 0, 1) := by decide +kernel
theorem dX8_dearestOf_10 : decode cX8_dearestOf 10 = .ok (.invokevirtual 221, 3) := by decide +kernel
theorem dX8_dearestOf_13 : decode cX8_dearestOf 13 = .ok (.bipush (-2), 2) := by decide +kernel
theorem dX8_dearestOf_15 : decode cX8_dearestOf 15 = .ok (.istore_n 2, 1) := by decide +kernel
theorem dX8_dearestOf_16 : decode cX8_dearestOf 16 = .ok (.iconst 0, 1) := by decide +kernel
theorem dX8_dearestOf_17 : decode cX8_dearestOf 17 = .ok (.istore_n 3, 1) := by decide +kernel
theorem dX8_dearestOf_18 : decode cX8_dearestOf 18 = .ok (.iload_n 3, 1) := by decide +kernel
theorem dX8_dearestOf_19 : decode cX8_dearestOf 19 = .ok (.aload_n 0, 1) := by decide +kernel
theorem dX8_dearestOf_20 : decode cX8_dearestOf 20 = .ok (.invokevirtual 80, 3) := by decide +kernel
theorem dX8_dearestOf_23 : decode cX8_dearestOf 23 = .ok (.if_icmp .ge 33, 3) := by decide +kernel
theorem dX8_dearestOf_26 : decode cX8_dearestOf 26 = .ok (.aload_n 0, 1) := by decide +kernel
theorem dX8_dearestOf_27 : decode cX8_dearestOf 27 = .ok (.iload_n 3, 1) := by decide +kernel
theorem dX8_dearestOf_28 : decode cX8_dearestOf 28 = .ok (.iload_n 1, 1) := by decide +kernel
theorem dX8_dearestOf_29 : decode cX8_dearestOf 29 = .ok (.invokevirtual 184, 3) := by decide +kernel
theorem dX8_dearestOf_32 : decode cX8_dearestOf 32 = .ok (.ifCond .eq 18, 3) := by decide +kernel
theorem dX8_dearestOf_35 : decode cX8_dearestOf 35 = .ok (.iload_n 2, 1) := by decide +kernel
theorem dX8_dearestOf_36 : decode cX8_dearestOf 36 = .ok (.ifCond .lt 12, 3) := by decide +kernel
theorem dX8_dearestOf_39 : decode cX8_dearestOf 39 = .ok (.aload_n 0, 1) := by decide +kernel
theorem dX8_dearestOf_40 : decode cX8_dearestOf 40 = .ok (.iload_n 3, 1) := by decide +kernel
theorem dX8_dearestOf_41 : decode cX8_dearestOf 41 = .ok (.iload_n 2, 1) := by decide +kernel
theorem dX8_dearestOf_42 : decode cX8_dearestOf 42 = .ok (.invokevirtual 246, 3) := by decide +kernel
theorem dX8_dearestOf_45 : decode cX8_dearestOf 45 = .ok (.ifCond .eq 5, 3) := by decide +kernel
theorem dX8_dearestOf_48 : decode cX8_dearestOf 48 = .ok (.iload_n 3, 1) := by decide +kernel
theorem dX8_dearestOf_49 : decode cX8_dearestOf 49 = .ok (.istore_n 2, 1) := by decide +kernel
theorem dX8_dearestOf_50 : decode cX8_dearestOf 50 = .ok (.iinc 3 1, 3) := by decide +kernel
theorem dX8_dearestOf_53 : decode cX8_dearestOf 53 = .ok (.goto (-35), 3) := by decide +kernel
theorem dX8_dearestOf_56 : decode cX8_dearestOf 56 = .ok (.iload_n 2, 1) := by decide +kernel
theorem dX8_dearestOf_57 : decode cX8_dearestOf 57 = .ok (.ireturn, 1) := by decide +kernel
theorem dX8_claimsIn_0 : decode cX8_claimsIn 0 = .ok (.iload_n 1, 1) := by decide +kernel
theorem dX8_claimsIn_1 : decode cX8_claimsIn 1 = .ok (.invokestatic 131, 3) := by decide +kernel
theorem dX8_claimsIn_4 : decode cX8_claimsIn 4 = .ok (.ifCond .ne 5, 3) := by decide +kernel
theorem dX8_claimsIn_7 : decode cX8_claimsIn 7 = .ok (.iconst (-1), 1) := by decide +kernel
theorem dX8_claimsIn_8 : decode cX8_claimsIn 8 = .ok (.ireturn, 1) := by decide +kernel
theorem dX8_claimsIn_9 : decode cX8_claimsIn 9 = .ok (.iconst 0, 1) := by decide +kernel
theorem dX8_claimsIn_10 : decode cX8_claimsIn 10 = .ok (.istore_n 2, 1) := by decide +kernel
theorem dX8_claimsIn_11 : decode cX8_claimsIn 11 = .ok (.iconst 0, 1) := by decide +kernel
theorem dX8_claimsIn_12 : decode cX8_claimsIn 12 = .ok (.istore_n 3, 1) := by decide +kernel
theorem dX8_claimsIn_13 : decode cX8_claimsIn 13 = .ok (.iload_n 3, 1) := by decide +kernel
theorem dX8_claimsIn_14 : decode cX8_claimsIn 14 = .ok (.aload_n 0, 1) := by decide +kernel
theorem dX8_claimsIn_15 : decode cX8_claimsIn 15 = .ok (.invokevirtual 88, 3) := by decide +kernel
theorem dX8_claimsIn_18 : decode cX8_claimsIn 18 = .ok (.if_icmp .ge 21, 3) := by decide +kernel
theorem dX8_claimsIn_21 : decode cX8_claimsIn 21 = .ok (.aload_n 0, 1) := by decide +kernel
theorem dX8_claimsIn_22 : decode cX8_claimsIn 22 = .ok (.iload_n 3, 1) := by decide +kernel
theorem dX8_claimsIn_23 : decode cX8_claimsIn 23 = .ok (.invokevirtual 101, 3) := by decide +kernel
theorem dX8_claimsIn_26 : decode cX8_claimsIn 26 = .ok (.iload_n 1, 1) := by decide +kernel
theorem dX8_claimsIn_27 : decode cX8_claimsIn 27 = .ok (.if_icmp .ne 6, 3) := by decide +kernel
theorem dX8_claimsIn_30 : decode cX8_claimsIn 30 = .ok (.iinc 2 1, 3) := by decide +kernel
theorem dX8_claimsIn_33 : decode cX8_claimsIn 33 = .ok (.iinc 3 1, 3) := by decide +kernel
theorem dX8_claimsIn_36 : decode cX8_claimsIn 36 = .ok (.goto (-23), 3) := by decide +kernel
theorem dX8_claimsIn_39 : decode cX8_claimsIn 39 = .ok (.iload_n 2, 1) := by decide +kernel
theorem dX8_claimsIn_40 : decode cX8_claimsIn 40 = .ok (.ireturn, 1) := by decide +kernel
theorem dX8_gap_0 : decode cX8_gap 0 = .ok (.aload_n 0, 1) := by decide +kernel
theorem dX8_gap_1 : decode cX8_gap 1 = .ok (.iload_n 1, 1) := by decide +kernel
theorem dX8_gap_2 : decode cX8_gap 2 = .ok (.invokevirtual 115, 3) := by decide +kernel
theorem dX8_gap_5 : decode cX8_gap 5 = .ok (.ifCond .eq 27, 3) := by decide +kernel
theorem dX8_gap_8 : decode cX8_gap 8 = .ok (.aload_n 0, 1) := by decide +kernel
theorem dX8_gap_9 : decode cX8_gap 9 = .ok (.iload_n 2, 1) := by decide +kernel
theorem dX8_gap_10 : decode cX8_gap 10 = .ok (.invokevirtual 115, 3) := by decide +kernel
theorem dX8_gap_13 : decode cX8_gap 13 = .ok (.ifCond .eq 19, 3) := by decide +kernel
theorem dX8_gap_16 : decode cX8_gap 16 = .ok (.aload_n 0, 1) := by decide +kernel
theorem dX8_gap_17 : decode cX8_gap 17 = .ok (.iload_n 1, 1) := by decide +kernel
theorem dX8_gap_18 : decode cX8_gap 18 = .ok (.invokevirtual 236, 3) := by decide +kernel
theorem dX8_gap_21 : decode cX8_gap 21 = .ok (.ifCond .eq 11, 3) := by decide +kernel
theorem dX8_gap_24 : decode cX8_gap 24 = .ok (.aload_n 0, 1) := by decide +kernel
theorem dX8_gap_25 : decode cX8_gap 25 = .ok (.iload_n 2, 1) := by decide +kernel
theorem dX8_gap_26 : decode cX8_gap 26 = .ok (.invokevirtual 236, 3) := by decide +kernel
theorem dX8_gap_29 : decode cX8_gap 29 = .ok (.ifCond .ne 6, 3) := by decide +kernel
theorem dX8_gap_32 : decode cX8_gap 32 = .ok (.ldc 252, 2) := by decide +kernel
theorem dX8_gap_34 : decode cX8_gap 34 = .ok (.ireturn, 1) := by decide +kernel
theorem dX8_gap_35 : decode cX8_gap 35 = .ok (.aload_n 0, 1) := by decide +kernel
theorem dX8_gap_36 : decode cX8_gap 36 = .ok (.invokevirtual 221, 3) := by decide +kernel
theorem dX8_gap_39 : decode cX8_gap 39 = .ok (.aload_n 0, 1) := by decide +kernel
theorem dX8_gap_40 : decode cX8_gap 40 = .ok (.iload_n 1, 1) := by decide +kernel
theorem dX8_gap_41 : decode cX8_gap 41 = .ok (.invokevirtual 224, 3) := by decide +kernel
theorem dX8_gap_44 : decode cX8_gap 44 = .ok (.aload_n 0, 1) := by decide +kernel
theorem dX8_gap_45 : decode cX8_gap 45 = .ok (.iload_n 2, 1) := by decide +kernel
theorem dX8_gap_46 : decode cX8_gap 46 = .ok (.invokevirtual 224, 3) := by decide +kernel
theorem dX8_gap_49 : decode cX8_gap 49 = .ok (.isub, 1) := by decide +kernel
theorem dX8_gap_50 : decode cX8_gap 50 = .ok (.ireturn, 1) := by decide +kernel
theorem dX8_premium_0 : decode cX8_premium 0 = .ok (.aload_n 0, 1) := by decide +kernel
theorem dX8_premium_1 : decode cX8_premium 1 = .ok (.iload_n 1, 1) := by decide +kernel
theorem dX8_premium_2 : decode cX8_premium 2 = .ok (.invokevirtual 115, 3) := by decide +kernel
theorem dX8_premium_5 : decode cX8_premium 5 = .ok (.ifCond .eq 13, 3) := by decide +kernel
theorem dX8_premium_8 : decode cX8_premium 8 = .ok (.iload_n 2, 1) := by decide +kernel
theorem dX8_premium_9 : decode cX8_premium 9 = .ok (.iconst 1, 1) := by decide +kernel
theorem dX8_premium_10 : decode cX8_premium 10 = .ok (.bipush 60, 2) := by decide +kernel
theorem dX8_premium_12 : decode cX8_premium 12 = .ok (.invokestatic 84, 3) := by decide +kernel
theorem dX8_premium_15 : decode cX8_premium 15 = .ok (.ifCond .ne 5, 3) := by decide +kernel
theorem dX8_premium_18 : decode cX8_premium 18 = .ok (.iconst (-1), 1) := by decide +kernel
theorem dX8_premium_19 : decode cX8_premium 19 = .ok (.ireturn, 1) := by decide +kernel
theorem dX8_premium_20 : decode cX8_premium 20 = .ok (.aload_n 0, 1) := by decide +kernel
theorem dX8_premium_21 : decode cX8_premium 21 = .ok (.iload_n 1, 1) := by decide +kernel
theorem dX8_premium_22 : decode cX8_premium 22 = .ok (.invokevirtual 236, 3) := by decide +kernel
theorem dX8_premium_25 : decode cX8_premium 25 = .ok (.ifCond .eq 16, 3) := by decide +kernel
theorem dX8_premium_28 : decode cX8_premium 28 = .ok (.aload_n 0, 1) := by decide +kernel
theorem dX8_premium_29 : decode cX8_premium 29 = .ok (.iload_n 1, 1) := by decide +kernel
theorem dX8_premium_30 : decode cX8_premium 30 = .ok (.invokevirtual 239, 3) := by decide +kernel
theorem dX8_premium_33 : decode cX8_premium 33 = .ok (.iload_n 2, 1) := by decide +kernel
theorem dX8_premium_34 : decode cX8_premium 34 = .ok (.imul, 1) := by decide +kernel
theorem dX8_premium_35 : decode cX8_premium 35 = .ok (.bipush 12, 2) := by decide +kernel
theorem dX8_premium_37 : decode cX8_premium 37 = .ok (.idiv, 1) := by decide +kernel
theorem dX8_premium_38 : decode cX8_premium 38 = .ok (.goto 5, 3) := by decide +kernel
theorem dX8_premium_41 : decode cX8_premium 41 = .ok (.bipush (-2), 2) := by decide +kernel
theorem dX8_premium_43 : decode cX8_premium 43 = .ok (.ireturn, 1) := by decide +kernel
theorem dX8_sharedBy_0 : decode cX8_sharedBy 0 = .ok (.aload_n 0, 1) := by decide +kernel
theorem dX8_sharedBy_1 : decode cX8_sharedBy 1 = .ok (.aload_n 0, 1) := by decide +kernel
theorem dX8_sharedBy_2 : decode cX8_sharedBy 2 = .ok (.iload_n 1, 1) := by decide +kernel
theorem dX8_sharedBy_3 : decode cX8_sharedBy 3 = .ok (.invokevirtual 125, 3) := by decide +kernel
theorem dX8_sharedBy_6 : decode cX8_sharedBy 6 = .ok (.iload_n 2, 1) := by decide +kernel
theorem dX8_sharedBy_7 : decode cX8_sharedBy 7 = .ok (.invokevirtual 212, 3) := by decide +kernel
theorem dX8_sharedBy_10 : decode cX8_sharedBy 10 = .ok (.ireturn, 1) := by decide +kernel
theorem dX8_shareBy_0 : decode cX8_shareBy 0 = .ok (.aload_n 0, 1) := by decide +kernel
theorem dX8_shareBy_1 : decode cX8_shareBy 1 = .ok (.iload_n 1, 1) := by decide +kernel
theorem dX8_shareBy_2 : decode cX8_shareBy 2 = .ok (.invokevirtual 115, 3) := by decide +kernel
theorem dX8_shareBy_5 : decode cX8_shareBy 5 = .ok (.ifCond .eq 10, 3) := by decide +kernel
theorem dX8_shareBy_8 : decode cX8_shareBy 8 = .ok (.iload_n 2, 1) := by decide +kernel
theorem dX8_shareBy_9 : decode cX8_shareBy 9 = .ok (.invokestatic 141, 3) := by decide +kernel
theorem dX8_shareBy_12 : decode cX8_shareBy 12 = .ok (.ifCond .ne 5, 3) := by decide +kernel
theorem dX8_shareBy_15 : decode cX8_shareBy 15 = .ok (.iconst (-1), 1) := by decide +kernel
theorem dX8_shareBy_16 : decode cX8_shareBy 16 = .ok (.ireturn, 1) := by decide +kernel
theorem dX8_shareBy_17 : decode cX8_shareBy 17 = .ok (.aload_n 0, 1) := by decide +kernel
theorem dX8_shareBy_18 : decode cX8_shareBy 18 = .ok (.iload_n 1, 1) := by decide +kernel
theorem dX8_shareBy_19 : decode cX8_shareBy 19 = .ok (.invokevirtual 236, 3) := by decide +kernel
theorem dX8_shareBy_22 : decode cX8_shareBy 22 = .ok (.ifCond .ne 6, 3) := by decide +kernel
theorem dX8_shareBy_25 : decode cX8_shareBy 25 = .ok (.bipush (-2), 2) := by decide +kernel
theorem dX8_shareBy_27 : decode cX8_shareBy 27 = .ok (.ireturn, 1) := by decide +kernel
theorem dX8_shareBy_28 : decode cX8_shareBy 28 = .ok (.aload_n 0, 1) := by decide +kernel
theorem dX8_shareBy_29 : decode cX8_shareBy 29 = .ok (.invokevirtual 221, 3) := by decide +kernel
theorem dX8_shareBy_32 : decode cX8_shareBy 32 = .ok (.aload_n 0, 1) := by decide +kernel
theorem dX8_shareBy_33 : decode cX8_shareBy 33 = .ok (.iload_n 1, 1) := by decide +kernel
theorem dX8_shareBy_34 : decode cX8_shareBy 34 = .ok (.iload_n 2, 1) := by decide +kernel
theorem dX8_shareBy_35 : decode cX8_shareBy 35 = .ok (.invokevirtual 253, 3) := by decide +kernel
theorem dX8_shareBy_38 : decode cX8_shareBy 38 = .ok (.ireturn, 1) := by decide +kernel
theorem dX8_yearsFor_0 : decode cX8_yearsFor 0 = .ok (.aload_n 0, 1) := by decide +kernel
theorem dX8_yearsFor_1 : decode cX8_yearsFor 1 = .ok (.iload_n 1, 1) := by decide +kernel
theorem dX8_yearsFor_2 : decode cX8_yearsFor 2 = .ok (.invokevirtual 115, 3) := by decide +kernel
theorem dX8_yearsFor_5 : decode cX8_yearsFor 5 = .ok (.ifCond .eq 14, 3) := by decide +kernel
theorem dX8_yearsFor_8 : decode cX8_yearsFor 8 = .ok (.iload_n 2, 1) := by decide +kernel
theorem dX8_yearsFor_9 : decode cX8_yearsFor 9 = .ok (.iconst 1, 1) := by decide +kernel
theorem dX8_yearsFor_10 : decode cX8_yearsFor 10 = .ok (.sipush 1000, 3) := by decide +kernel
theorem dX8_yearsFor_13 : decode cX8_yearsFor 13 = .ok (.invokestatic 84, 3) := by decide +kernel
theorem dX8_yearsFor_16 : decode cX8_yearsFor 16 = .ok (.ifCond .ne 5, 3) := by decide +kernel
theorem dX8_yearsFor_19 : decode cX8_yearsFor 19 = .ok (.iconst (-1), 1) := by decide +kernel
theorem dX8_yearsFor_20 : decode cX8_yearsFor 20 = .ok (.ireturn, 1) := by decide +kernel
theorem dX8_yearsFor_21 : decode cX8_yearsFor 21 = .ok (.aload_n 0, 1) := by decide +kernel
theorem dX8_yearsFor_22 : decode cX8_yearsFor 22 = .ok (.iload_n 1, 1) := by decide +kernel
theorem dX8_yearsFor_23 : decode cX8_yearsFor 23 = .ok (.invokevirtual 236, 3) := by decide +kernel
theorem dX8_yearsFor_26 : decode cX8_yearsFor 26 = .ok (.ifCond .ne 6, 3) := by decide +kernel
theorem dX8_yearsFor_29 : decode cX8_yearsFor 29 = .ok (.bipush (-2), 2) := by decide +kernel
theorem dX8_yearsFor_31 : decode cX8_yearsFor 31 = .ok (.ireturn, 1) := by decide +kernel
theorem dX8_yearsFor_32 : decode cX8_yearsFor 32 = .ok (.aload_n 0, 1) := by decide +kernel
theorem dX8_yearsFor_33 : decode cX8_yearsFor 33 = .ok (.invokevirtual 221, 3) := by decide +kernel
theorem dX8_yearsFor_36 : decode cX8_yearsFor 36 = .ok (.iconst 1, 1) := by decide +kernel
theorem dX8_yearsFor_37 : decode cX8_yearsFor 37 = .ok (.istore_n 3, 1) := by decide +kernel
theorem dX8_yearsFor_38 : decode cX8_yearsFor 38 = .ok (.iload_n 3, 1) := by decide +kernel
theorem dX8_yearsFor_39 : decode cX8_yearsFor 39 = .ok (.bipush 99, 2) := by decide +kernel
theorem dX8_yearsFor_41 : decode cX8_yearsFor 41 = .ok (.if_icmp .gt 21, 3) := by decide +kernel
theorem dX8_yearsFor_44 : decode cX8_yearsFor 44 = .ok (.aload_n 0, 1) := by decide +kernel
theorem dX8_yearsFor_45 : decode cX8_yearsFor 45 = .ok (.iload_n 1, 1) := by decide +kernel
theorem dX8_yearsFor_46 : decode cX8_yearsFor 46 = .ok (.iload_n 3, 1) := by decide +kernel
theorem dX8_yearsFor_47 : decode cX8_yearsFor 47 = .ok (.invokevirtual 253, 3) := by decide +kernel
theorem dX8_yearsFor_50 : decode cX8_yearsFor 50 = .ok (.iload_n 2, 1) := by decide +kernel
theorem dX8_yearsFor_51 : decode cX8_yearsFor 51 = .ok (.if_icmp .lt 5, 3) := by decide +kernel
theorem dX8_yearsFor_54 : decode cX8_yearsFor 54 = .ok (.iload_n 3, 1) := by decide +kernel
theorem dX8_yearsFor_55 : decode cX8_yearsFor 55 = .ok (.ireturn, 1) := by decide +kernel
theorem dX8_yearsFor_56 : decode cX8_yearsFor 56 = .ok (.iinc 3 1, 3) := by decide +kernel
theorem dX8_yearsFor_59 : decode cX8_yearsFor 59 = .ok (.goto (-21), 3) := by decide +kernel
theorem dX8_yearsFor_62 : decode cX8_yearsFor 62 = .ok (.bipush (-2), 2) := by decide +kernel
theorem dX8_yearsFor_64 : decode cX8_yearsFor 64 = .ok (.ireturn, 1) := by decide +kernel
theorem dX8_ratedBy_0 : decode cX8_ratedBy 0 = .ok (.aload_n 0, 1) := by decide +kernel
theorem dX8_ratedBy_1 : decode cX8_ratedBy 1 = .ok (.getfield 13, 3) := by decide +kernel
theorem dX8_ratedBy_4 : decode cX8_ratedBy 4 = .ok (.iload_n 2, 1) := by decide +kernel
theorem dX8_ratedBy_5 : decode cX8_ratedBy 5 = .ok (.iaload, 1) := by decide +kernel
theorem dX8_ratedBy_6 : decode cX8_ratedBy 6 = .ok (.istore 4, 2) := by decide +kernel
theorem dX8_ratedBy_8 : decode cX8_ratedBy 8 = .ok (.aload_n 0, 1) := by decide +kernel
theorem dX8_ratedBy_9 : decode cX8_ratedBy 9 = .ok (.getfield 13, 3) := by decide +kernel
theorem dX8_ratedBy_12 : decode cX8_ratedBy 12 = .ok (.iload_n 2, 1) := by decide +kernel
theorem dX8_ratedBy_13 : decode cX8_ratedBy 13 = .ok (.iload_n 3, 1) := by decide +kernel
theorem dX8_ratedBy_14 : decode cX8_ratedBy 14 = .ok (.iastore, 1) := by decide +kernel
theorem dX8_ratedBy_15 : decode cX8_ratedBy 15 = .ok (.aload_n 0, 1) := by decide +kernel
theorem dX8_ratedBy_16 : decode cX8_ratedBy 16 = .ok (.iload_n 1, 1) := by decide +kernel
theorem dX8_ratedBy_17 : decode cX8_ratedBy 17 = .ok (.invokevirtual 239, 3) := by decide +kernel
theorem dX8_ratedBy_20 : decode cX8_ratedBy 20 = .ok (.istore 5, 2) := by decide +kernel
theorem dX8_ratedBy_22 : decode cX8_ratedBy 22 = .ok (.aload_n 0, 1) := by decide +kernel
theorem dX8_ratedBy_23 : decode cX8_ratedBy 23 = .ok (.getfield 13, 3) := by decide +kernel
theorem dX8_ratedBy_26 : decode cX8_ratedBy 26 = .ok (.iload_n 2, 1) := by decide +kernel
theorem dX8_ratedBy_27 : decode cX8_ratedBy 27 = .ok (.iload 4, 2) := by decide +kernel
theorem dX8_ratedBy_29 : decode cX8_ratedBy 29 = .ok (.iastore, 1) := by decide +kernel
theorem dX8_ratedBy_30 : decode cX8_ratedBy 30 = .ok (.iload 5, 2) := by decide +kernel
theorem dX8_ratedBy_32 : decode cX8_ratedBy 32 = .ok (.ireturn, 1) := by decide +kernel
theorem dX8_inClass_0 : decode cX8_inClass 0 = .ok (.aload_n 0, 1) := by decide +kernel
theorem dX8_inClass_1 : decode cX8_inClass 1 = .ok (.iload_n 1, 1) := by decide +kernel
theorem dX8_inClass_2 : decode cX8_inClass 2 = .ok (.invokevirtual 115, 3) := by decide +kernel
theorem dX8_inClass_5 : decode cX8_inClass 5 = .ok (.ifCond .eq 10, 3) := by decide +kernel
theorem dX8_inClass_8 : decode cX8_inClass 8 = .ok (.iload_n 2, 1) := by decide +kernel
theorem dX8_inClass_9 : decode cX8_inClass 9 = .ok (.invokestatic 108, 3) := by decide +kernel
theorem dX8_inClass_12 : decode cX8_inClass 12 = .ok (.ifCond .ne 5, 3) := by decide +kernel
theorem dX8_inClass_15 : decode cX8_inClass 15 = .ok (.iconst (-1), 1) := by decide +kernel
theorem dX8_inClass_16 : decode cX8_inClass 16 = .ok (.ireturn, 1) := by decide +kernel
theorem dX8_inClass_17 : decode cX8_inClass 17 = .ok (.aload_n 0, 1) := by decide +kernel
theorem dX8_inClass_18 : decode cX8_inClass 18 = .ok (.iload_n 1, 1) := by decide +kernel
theorem dX8_inClass_19 : decode cX8_inClass 19 = .ok (.invokevirtual 236, 3) := by decide +kernel
theorem dX8_inClass_22 : decode cX8_inClass 22 = .ok (.ifCond .eq 17, 3) := by decide +kernel
theorem dX8_inClass_25 : decode cX8_inClass 25 = .ok (.aload_n 0, 1) := by decide +kernel
theorem dX8_inClass_26 : decode cX8_inClass 26 = .ok (.iload_n 1, 1) := by decide +kernel
theorem dX8_inClass_27 : decode cX8_inClass 27 = .ok (.iconst 4, 1) := by decide +kernel
theorem dX8_inClass_28 : decode cX8_inClass 28 = .ok (.iconst 2, 1) := by decide +kernel
theorem dX8_inClass_29 : decode cX8_inClass 29 = .ok (.iload_n 1, 1) := by decide +kernel
theorem dX8_inClass_30 : decode cX8_inClass 30 = .ok (.imul, 1) := by decide +kernel
theorem dX8_inClass_31 : decode cX8_inClass 31 = .ok (.iadd, 1) := by decide +kernel
theorem dX8_inClass_32 : decode cX8_inClass 32 = .ok (.iload_n 2, 1) := by decide +kernel
theorem dX8_inClass_33 : decode cX8_inClass 33 = .ok (.invokevirtual 256, 3) := by decide +kernel
theorem dX8_inClass_36 : decode cX8_inClass 36 = .ok (.goto 5, 3) := by decide +kernel
theorem dX8_inClass_39 : decode cX8_inClass 39 = .ok (.bipush (-2), 2) := by decide +kernel
theorem dX8_inClass_41 : decode cX8_inClass 41 = .ok (.ireturn, 1) := by decide +kernel
theorem dX8_bestClass_0 : decode cX8_bestClass 0 = .ok (.aload_n 0, 1) := by decide +kernel
theorem dX8_bestClass_1 : decode cX8_bestClass 1 = .ok (.iload_n 1, 1) := by decide +kernel
theorem dX8_bestClass_2 : decode cX8_bestClass 2 = .ok (.invokevirtual 115, 3) := by decide +kernel
theorem dX8_bestClass_5 : decode cX8_bestClass 5 = .ok (.ifCond .ne 5, 3) := by decide +kernel
theorem dX8_bestClass_8 : decode cX8_bestClass 8 = .ok (.iconst (-1), 1) := by decide +kernel
theorem dX8_bestClass_9 : decode cX8_bestClass 9 = .ok (.ireturn, 1) := by decide +kernel
theorem dX8_bestClass_10 : decode cX8_bestClass 10 = .ok (.aload_n 0, 1) := by decide +kernel
theorem dX8_bestClass_11 : decode cX8_bestClass 11 = .ok (.iload_n 1, 1) := by decide +kernel
theorem dX8_bestClass_12 : decode cX8_bestClass 12 = .ok (.invokevirtual 236, 3) := by decide +kernel
theorem dX8_bestClass_15 : decode cX8_bestClass 15 = .ok (.ifCond .ne 6, 3) := by decide +kernel
theorem dX8_bestClass_18 : decode cX8_bestClass 18 = .ok (.bipush (-2), 2) := by decide +kernel
theorem dX8_bestClass_20 : decode cX8_bestClass 20 = .ok (.ireturn, 1) := by decide +kernel
theorem dX8_bestClass_21 : decode cX8_bestClass 21 = .ok (.iconst 0, 1) := by decide +kernel
theorem dX8_bestClass_22 : decode cX8_bestClass 22 = .ok (.istore_n 2, 1) := by decide +kernel
theorem dX8_bestClass_23 : decode cX8_bestClass 23 = .ok (.aload_n 0, 1) := by decide +kernel
theorem dX8_bestClass_24 : decode cX8_bestClass 24 = .ok (.iload_n 1, 1) := by decide +kernel
theorem dX8_bestClass_25 : decode cX8_bestClass 25 = .ok (.iconst 4, 1) := by decide +kernel
theorem dX8_bestClass_26 : decode cX8_bestClass 26 = .ok (.iconst 2, 1) := by decide +kernel
theorem dX8_bestClass_27 : decode cX8_bestClass 27 = .ok (.iload_n 1, 1) := by decide +kernel
theorem dX8_bestClass_28 : decode cX8_bestClass 28 = .ok (.imul, 1) := by decide +kernel
theorem dX8_bestClass_29 : decode cX8_bestClass 29 = .ok (.iadd, 1) := by decide +kernel
theorem dX8_bestClass_30 : decode cX8_bestClass 30 = .ok (.iconst 0, 1) := by decide +kernel
theorem dX8_bestClass_31 : decode cX8_bestClass 31 = .ok (.invokevirtual 256, 3) := by decide +kernel
theorem dX8_bestClass_34 : decode cX8_bestClass 34 = .ok (.istore_n 3, 1) := by decide +kernel
theorem dX8_bestClass_35 : decode cX8_bestClass 35 = .ok (.iconst 1, 1) := by decide +kernel
theorem dX8_bestClass_36 : decode cX8_bestClass 36 = .ok (.istore 4, 2) := by decide +kernel
theorem dX8_bestClass_38 : decode cX8_bestClass 38 = .ok (.iload 4, 2) := by decide +kernel
theorem dX8_bestClass_40 : decode cX8_bestClass 40 = .ok (.iconst 3, 1) := by decide +kernel
theorem dX8_bestClass_41 : decode cX8_bestClass 41 = .ok (.if_icmp .ge 38, 3) := by decide +kernel
theorem dX8_bestClass_44 : decode cX8_bestClass 44 = .ok (.aload_n 0, 1) := by decide +kernel
theorem dX8_bestClass_45 : decode cX8_bestClass 45 = .ok (.iload_n 1, 1) := by decide +kernel
theorem dX8_bestClass_46 : decode cX8_bestClass 46 = .ok (.iconst 4, 1) := by decide +kernel
theorem dX8_bestClass_47 : decode cX8_bestClass 47 = .ok (.iconst 2, 1) := by decide +kernel
theorem dX8_bestClass_48 : decode cX8_bestClass 48 = .ok (.iload_n 1, 1) := by decide +kernel
theorem dX8_bestClass_49 : decode cX8_bestClass 49 = .ok (.imul, 1) := by decide +kernel
theorem dX8_bestClass_50 : decode cX8_bestClass 50 = .ok (.iadd, 1) := by decide +kernel
theorem dX8_bestClass_51 : decode cX8_bestClass 51 = .ok (.iload 4, 2) := by decide +kernel
theorem dX8_bestClass_53 : decode cX8_bestClass 53 = .ok (.invokevirtual 256, 3) := by decide +kernel
theorem dX8_bestClass_56 : decode cX8_bestClass 56 = .ok (.istore 5, 2) := by decide +kernel
theorem dX8_bestClass_58 : decode cX8_bestClass 58 = .ok (.iload 5, 2) := by decide +kernel
theorem dX8_bestClass_60 : decode cX8_bestClass 60 = .ok (.iload_n 3, 1) := by decide +kernel
theorem dX8_bestClass_61 : decode cX8_bestClass 61 = .ok (.if_icmp .lt 6, 3) := by decide +kernel
theorem dX8_bestClass_64 : decode cX8_bestClass 64 = .ok (.goto 9, 3) := by decide +kernel
theorem dX8_bestClass_67 : decode cX8_bestClass 67 = .ok (.iload 5, 2) := by decide +kernel
theorem dX8_bestClass_69 : decode cX8_bestClass 69 = .ok (.istore_n 3, 1) := by decide +kernel
theorem dX8_bestClass_70 : decode cX8_bestClass 70 = .ok (.iload 4, 2) := by decide +kernel
theorem dX8_bestClass_72 : decode cX8_bestClass 72 = .ok (.istore_n 2, 1) := by decide +kernel
theorem dX8_bestClass_73 : decode cX8_bestClass 73 = .ok (.iinc 4 1, 3) := by decide +kernel
theorem dX8_bestClass_76 : decode cX8_bestClass 76 = .ok (.goto (-38), 3) := by decide +kernel
theorem dX8_bestClass_79 : decode cX8_bestClass 79 = .ok (.iload_n 2, 1) := by decide +kernel
theorem dX8_bestClass_80 : decode cX8_bestClass 80 = .ok (.ireturn, 1) := by decide +kernel
theorem dX8_byCap_0 : decode cX8_byCap 0 = .ok (.aload_n 0, 1) := by decide +kernel
theorem dX8_byCap_1 : decode cX8_byCap 1 = .ok (.iload_n 1, 1) := by decide +kernel
theorem dX8_byCap_2 : decode cX8_byCap 2 = .ok (.invokevirtual 115, 3) := by decide +kernel
theorem dX8_byCap_5 : decode cX8_byCap 5 = .ok (.ifCond .eq 10, 3) := by decide +kernel
theorem dX8_byCap_8 : decode cX8_byCap 8 = .ok (.iload_n 2, 1) := by decide +kernel
theorem dX8_byCap_9 : decode cX8_byCap 9 = .ok (.invokestatic 141, 3) := by decide +kernel
theorem dX8_byCap_12 : decode cX8_byCap 12 = .ok (.ifCond .ne 5, 3) := by decide +kernel
theorem dX8_byCap_15 : decode cX8_byCap 15 = .ok (.iconst (-1), 1) := by decide +kernel
theorem dX8_byCap_16 : decode cX8_byCap 16 = .ok (.ireturn, 1) := by decide +kernel
theorem dX8_byCap_17 : decode cX8_byCap 17 = .ok (.aload_n 0, 1) := by decide +kernel
theorem dX8_byCap_18 : decode cX8_byCap 18 = .ok (.iload_n 1, 1) := by decide +kernel
theorem dX8_byCap_19 : decode cX8_byCap 19 = .ok (.invokevirtual 236, 3) := by decide +kernel
theorem dX8_byCap_22 : decode cX8_byCap 22 = .ok (.ifCond .eq 13, 3) := by decide +kernel
theorem dX8_byCap_25 : decode cX8_byCap 25 = .ok (.aload_n 0, 1) := by decide +kernel
theorem dX8_byCap_26 : decode cX8_byCap 26 = .ok (.iload_n 1, 1) := by decide +kernel
theorem dX8_byCap_27 : decode cX8_byCap 27 = .ok (.iconst 0, 1) := by decide +kernel
theorem dX8_byCap_28 : decode cX8_byCap 28 = .ok (.iload_n 2, 1) := by decide +kernel
theorem dX8_byCap_29 : decode cX8_byCap 29 = .ok (.invokevirtual 256, 3) := by decide +kernel
theorem dX8_byCap_32 : decode cX8_byCap 32 = .ok (.goto 5, 3) := by decide +kernel
theorem dX8_byCap_35 : decode cX8_byCap 35 = .ok (.bipush (-2), 2) := by decide +kernel
theorem dX8_byCap_37 : decode cX8_byCap 37 = .ok (.ireturn, 1) := by decide +kernel
theorem dX8_capFor_0 : decode cX8_capFor 0 = .ok (.aload_n 0, 1) := by decide +kernel
theorem dX8_capFor_1 : decode cX8_capFor 1 = .ok (.iload_n 1, 1) := by decide +kernel
theorem dX8_capFor_2 : decode cX8_capFor 2 = .ok (.invokevirtual 115, 3) := by decide +kernel
theorem dX8_capFor_5 : decode cX8_capFor 5 = .ok (.ifCond .ne 5, 3) := by decide +kernel
theorem dX8_capFor_8 : decode cX8_capFor 8 = .ok (.iconst (-1), 1) := by decide +kernel
theorem dX8_capFor_9 : decode cX8_capFor 9 = .ok (.ireturn, 1) := by decide +kernel
theorem dX8_capFor_10 : decode cX8_capFor 10 = .ok (.aload_n 0, 1) := by decide +kernel
theorem dX8_capFor_11 : decode cX8_capFor 11 = .ok (.iload_n 1, 1) := by decide +kernel
theorem dX8_capFor_12 : decode cX8_capFor 12 = .ok (.invokevirtual 236, 3) := by decide +kernel
theorem dX8_capFor_15 : decode cX8_capFor 15 = .ok (.ifCond .ne 6, 3) := by decide +kernel
theorem dX8_capFor_18 : decode cX8_capFor 18 = .ok (.bipush (-2), 2) := by decide +kernel
theorem dX8_capFor_20 : decode cX8_capFor 20 = .ok (.ireturn, 1) := by decide +kernel
theorem dX8_capFor_21 : decode cX8_capFor 21 = .ok (.aload_n 0, 1) := by decide +kernel
theorem dX8_capFor_22 : decode cX8_capFor 22 = .ok (.iload_n 1, 1) := by decide +kernel
theorem dX8_capFor_23 : decode cX8_capFor 23 = .ok (.iconst 0, 1) := by decide +kernel
theorem dX8_capFor_24 : decode cX8_capFor 24 = .ok (.bipush 99, 2) := by decide +kernel
theorem dX8_capFor_26 : decode cX8_capFor 26 = .ok (.invokevirtual 256, 3) := by decide +kernel
theorem dX8_capFor_29 : decode cX8_capFor 29 = .ok (.istore_n 2, 1) := by decide +kernel
theorem dX8_capFor_30 : decode cX8_capFor 30 = .ok (.iconst 1, 1) := by decide +kernel
theorem dX8_capFor_31 : decode cX8_capFor 31 = .ok (.istore_n 3, 1) := by decide +kernel
theorem dX8_capFor_32 : decode cX8_capFor 32 = .ok (.aload_n 0, 1) := by decide +kernel
theorem dX8_capFor_33 : decode cX8_capFor 33 = .ok (.iload_n 1, 1) := by decide +kernel
theorem dX8_capFor_34 : decode cX8_capFor 34 = .ok (.iconst 0, 1) := by decide +kernel
theorem dX8_capFor_35 : decode cX8_capFor 35 = .ok (.iload_n 3, 1) := by decide +kernel
theorem dX8_capFor_36 : decode cX8_capFor 36 = .ok (.invokevirtual 256, 3) := by decide +kernel
theorem dX8_capFor_39 : decode cX8_capFor 39 = .ok (.iload_n 2, 1) := by decide +kernel
theorem dX8_capFor_40 : decode cX8_capFor 40 = .ok (.if_icmp .eq 9, 3) := by decide +kernel
theorem dX8_capFor_43 : decode cX8_capFor 43 = .ok (.iinc 3 1, 3) := by decide +kernel
theorem dX8_capFor_46 : decode cX8_capFor 46 = .ok (.goto (-14), 3) := by decide +kernel
theorem dX8_capFor_49 : decode cX8_capFor 49 = .ok (.iload_n 3, 1) := by decide +kernel
theorem dX8_capFor_50 : decode cX8_capFor 50 = .ok (.ireturn, 1) := by decide +kernel
theorem dX8_ends_0 : decode cX8_ends 0 = .ok (.iload_n 1, 1) := by decide +kernel
theorem dX8_ends_1 : decode cX8_ends 1 = .ok (.istore_n 2, 1) := by decide +kernel
theorem dX8_ends_2 : decode cX8_ends 2 = .ok (.iload_n 2, 1) := by decide +kernel
theorem dX8_ends_3 : decode cX8_ends 3 = .ok (.iconst 5, 1) := by decide +kernel
theorem dX8_ends_4 : decode cX8_ends 4 = .ok (.if_icmp .ge 52, 3) := by decide +kernel
theorem dX8_ends_7 : decode cX8_ends 7 = .ok (.iconst 0, 1) := by decide +kernel
theorem dX8_ends_8 : decode cX8_ends 8 = .ok (.istore_n 3, 1) := by decide +kernel
theorem dX8_ends_9 : decode cX8_ends 9 = .ok (.iload_n 3, 1) := by decide +kernel
theorem dX8_ends_10 : decode cX8_ends 10 = .ok (.aload_n 0, 1) := by decide +kernel
theorem dX8_ends_11 : decode cX8_ends 11 = .ok (.invokevirtual 80, 3) := by decide +kernel
theorem dX8_ends_14 : decode cX8_ends 14 = .ok (.if_icmp .ge 29, 3) := by decide +kernel
theorem dX8_ends_17 : decode cX8_ends 17 = .ok (.aload_n 0, 1) := by decide +kernel
theorem dX8_ends_18 : decode cX8_ends 18 = .ok (.getfield 13, 3) := by decide +kernel
theorem dX8_ends_21 : decode cX8_ends 21 = .ok (.iconst 4, 1) := by decide +kernel
theorem dX8_ends_22 : decode cX8_ends 22 = .ok (.iconst 2, 1) := by decide +kernel
theorem dX8_ends_23 : decode cX8_ends 23 = .ok (.iload_n 3, 1) := by decide +kernel
theorem dX8_ends_24 : decode cX8_ends 24 = .ok (.imul, 1) := by decide +kernel
theorem dX8_ends_25 : decode cX8_ends 25 = .ok (.iadd, 1) := by decide +kernel
theorem dX8_ends_26 : decode cX8_ends 26 = .ok (.iconst 1, 1) := by decide +kernel
theorem dX8_ends_27 : decode cX8_ends 27 = .ok (.iadd, 1) := by decide +kernel
theorem dX8_ends_28 : decode cX8_ends 28 = .ok (.dup2, 1) := by decide +kernel
theorem dX8_ends_29 : decode cX8_ends 29 = .ok (.iaload, 1) := by decide +kernel
theorem dX8_ends_30 : decode cX8_ends 30 = .ok (.iconst 1, 1) := by decide +kernel
theorem dX8_ends_31 : decode cX8_ends 31 = .ok (.iload_n 2, 1) := by decide +kernel
theorem dX8_ends_32 : decode cX8_ends 32 = .ok (.ishl, 1) := by decide +kernel
theorem dX8_ends_33 : decode cX8_ends 33 = .ok (.iconst (-1), 1) := by decide +kernel
theorem dX8_ends_34 : decode cX8_ends 34 = .ok (.ixor, 1) := by decide +kernel
theorem dX8_ends_35 : decode cX8_ends 35 = .ok (.iand, 1) := by decide +kernel
theorem dX8_ends_36 : decode cX8_ends 36 = .ok (.iastore, 1) := by decide +kernel
theorem dX8_ends_37 : decode cX8_ends 37 = .ok (.iinc 3 1, 3) := by decide +kernel
theorem dX8_ends_40 : decode cX8_ends 40 = .ok (.goto (-31), 3) := by decide +kernel
theorem dX8_ends_43 : decode cX8_ends 43 = .ok (.aload_n 0, 1) := by decide +kernel
theorem dX8_ends_44 : decode cX8_ends 44 = .ok (.iconst (-1), 1) := by decide +kernel
theorem dX8_ends_45 : decode cX8_ends 45 = .ok (.iload_n 2, 1) := by decide +kernel
theorem dX8_ends_46 : decode cX8_ends 46 = .ok (.invokevirtual 118, 3) := by decide +kernel
theorem dX8_ends_49 : decode cX8_ends 49 = .ok (.pop, 1) := by decide +kernel
theorem dX8_ends_50 : decode cX8_ends 50 = .ok (.iinc 2 1, 3) := by decide +kernel
theorem dX8_ends_53 : decode cX8_ends 53 = .ok (.goto (-51), 3) := by decide +kernel
theorem dX8_ends_56 : decode cX8_ends 56 = .ok (.return_, 1) := by decide +kernel
theorem dX8_earlier_0 : decode cX8_earlier 0 = .ok (.aload_n 0, 1) := by decide +kernel
theorem dX8_earlier_1 : decode cX8_earlier 1 = .ok (.iload_n 1, 1) := by decide +kernel
theorem dX8_earlier_2 : decode cX8_earlier 2 = .ok (.invokevirtual 115, 3) := by decide +kernel
theorem dX8_earlier_5 : decode cX8_earlier 5 = .ok (.ifCond .eq 12, 3) := by decide +kernel
theorem dX8_earlier_8 : decode cX8_earlier 8 = .ok (.iload_n 2, 1) := by decide +kernel
theorem dX8_earlier_9 : decode cX8_earlier 9 = .ok (.iconst 1, 1) := by decide +kernel
theorem dX8_earlier_10 : decode cX8_earlier 10 = .ok (.iconst 5, 1) := by decide +kernel
theorem dX8_earlier_11 : decode cX8_earlier 11 = .ok (.invokestatic 84, 3) := by decide +kernel
theorem dX8_earlier_14 : decode cX8_earlier 14 = .ok (.ifCond .ne 5, 3) := by decide +kernel
theorem dX8_earlier_17 : decode cX8_earlier 17 = .ok (.iconst (-1), 1) := by decide +kernel
theorem dX8_earlier_18 : decode cX8_earlier 18 = .ok (.ireturn, 1) := by decide +kernel
theorem dX8_earlier_19 : decode cX8_earlier 19 = .ok (.aload_n 0, 1) := by decide +kernel
theorem dX8_earlier_20 : decode cX8_earlier 20 = .ok (.invokevirtual 260, 3) := by decide +kernel
theorem dX8_earlier_23 : decode cX8_earlier 23 = .ok (.aload_n 0, 1) := by decide +kernel
theorem dX8_earlier_24 : decode cX8_earlier 24 = .ok (.iload_n 2, 1) := by decide +kernel
theorem dX8_earlier_25 : decode cX8_earlier 25 = .ok (.invokevirtual 263, 3) := by decide +kernel
theorem dX8_earlier_28 : decode cX8_earlier 28 = .ok (.aload_n 0, 1) := by decide +kernel
theorem dX8_earlier_29 : decode cX8_earlier 29 = .ok (.iload_n 1, 1) := by decide +kernel
theorem dX8_earlier_30 : decode cX8_earlier 30 = .ok (.invokevirtual 236, 3) := by decide +kernel
theorem dX8_earlier_33 : decode cX8_earlier 33 = .ok (.ifCond .ne 8, 3) := by decide +kernel
theorem dX8_earlier_36 : decode cX8_earlier 36 = .ok (.bipush (-2), 2) := by decide +kernel
theorem dX8_earlier_38 : decode cX8_earlier 38 = .ok (.goto 20, 3) := by decide +kernel
theorem dX8_earlier_41 : decode cX8_earlier 41 = .ok (.iload_n 3, 1) := by decide +kernel
theorem dX8_earlier_42 : decode cX8_earlier 42 = .ok (.ifCond .eq 11, 3) := by decide +kernel
theorem dX8_earlier_45 : decode cX8_earlier 45 = .ok (.aload_n 0, 1) := by decide +kernel
theorem dX8_earlier_46 : decode cX8_earlier 46 = .ok (.iload_n 1, 1) := by decide +kernel
theorem dX8_earlier_47 : decode cX8_earlier 47 = .ok (.invokevirtual 266, 3) := by decide +kernel
theorem dX8_earlier_50 : decode cX8_earlier 50 = .ok (.goto 8, 3) := by decide +kernel
theorem dX8_earlier_53 : decode cX8_earlier 53 = .ok (.aload_n 0, 1) := by decide +kernel
theorem dX8_earlier_54 : decode cX8_earlier 54 = .ok (.iload_n 1, 1) := by decide +kernel
theorem dX8_earlier_55 : decode cX8_earlier 55 = .ok (.invokevirtual 239, 3) := by decide +kernel
theorem dX8_earlier_58 : decode cX8_earlier 58 = .ok (.istore 4, 2) := by decide +kernel
theorem dX8_earlier_60 : decode cX8_earlier 60 = .ok (.aload_n 0, 1) := by decide +kernel
theorem dX8_earlier_61 : decode cX8_earlier 61 = .ok (.invokevirtual 269, 3) := by decide +kernel
theorem dX8_earlier_64 : decode cX8_earlier 64 = .ok (.iload 4, 2) := by decide +kernel
theorem dX8_earlier_66 : decode cX8_earlier 66 = .ok (.ireturn, 1) := by decide +kernel
theorem dX8_sharedNow_0 : decode cX8_sharedNow 0 = .ok (.aload_n 0, 1) := by decide +kernel
theorem dX8_sharedNow_1 : decode cX8_sharedNow 1 = .ok (.invokevirtual 221, 3) := by decide +kernel
theorem dX8_sharedNow_4 : decode cX8_sharedNow 4 = .ok (.aload_n 0, 1) := by decide +kernel
theorem dX8_sharedNow_5 : decode cX8_sharedNow 5 = .ok (.getfield 35, 3) := by decide +kernel
theorem dX8_sharedNow_8 : decode cX8_sharedNow 8 = .ok (.iload_n 1, 1) := by decide +kernel
theorem dX8_sharedNow_9 : decode cX8_sharedNow 9 = .ok (.iaload, 1) := by decide +kernel
theorem dX8_sharedNow_10 : decode cX8_sharedNow 10 = .ok (.ireturn, 1) := by decide +kernel
theorem dX8_early_0 : decode cX8_early 0 = .ok (.aload_n 0, 1) := by decide +kernel
theorem dX8_early_1 : decode cX8_early 1 = .ok (.iload_n 1, 1) := by decide +kernel
theorem dX8_early_2 : decode cX8_early 2 = .ok (.iload_n 2, 1) := by decide +kernel
theorem dX8_early_3 : decode cX8_early 3 = .ok (.iconst 0, 1) := by decide +kernel
theorem dX8_early_4 : decode cX8_early 4 = .ok (.invokevirtual 272, 3) := by decide +kernel
theorem dX8_early_7 : decode cX8_early 7 = .ok (.ireturn, 1) := by decide +kernel
theorem dX8_earlyShare_0 : decode cX8_earlyShare 0 = .ok (.aload_n 0, 1) := by decide +kernel
theorem dX8_earlyShare_1 : decode cX8_earlyShare 1 = .ok (.iload_n 1, 1) := by decide +kernel
theorem dX8_earlyShare_2 : decode cX8_earlyShare 2 = .ok (.iload_n 2, 1) := by decide +kernel
theorem dX8_earlyShare_3 : decode cX8_earlyShare 3 = .ok (.iconst 1, 1) := by decide +kernel
theorem dX8_earlyShare_4 : decode cX8_earlyShare 4 = .ok (.invokevirtual 272, 3) := by decide +kernel
theorem dX8_earlyShare_7 : decode cX8_earlyShare 7 = .ok (.ireturn, 1) := by decide +kernel
theorem dX8_withoutFleet_0 : decode cX8_withoutFleet 0 = .ok (.aload_n 0, 1) := by decide +kernel
theorem dX8_withoutFleet_1 : decode cX8_withoutFleet 1 = .ok (.iload_n 1, 1) := by decide +kernel
theorem dX8_withoutFleet_2 : decode cX8_withoutFleet 2 = .ok (.invokevirtual 115, 3) := by decide +kernel
theorem dX8_withoutFleet_5 : decode cX8_withoutFleet 5 = .ok (.ifCond .eq 16, 3) := by decide +kernel
theorem dX8_withoutFleet_8 : decode cX8_withoutFleet 8 = .ok (.aload_n 0, 1) := by decide +kernel
theorem dX8_withoutFleet_9 : decode cX8_withoutFleet 9 = .ok (.iload_n 2, 1) := by decide +kernel
theorem dX8_withoutFleet_10 : decode cX8_withoutFleet 10 = .ok (.invokevirtual 115, 3) := by decide +kernel
theorem dX8_withoutFleet_13 : decode cX8_withoutFleet 13 = .ok (.ifCond .eq 8, 3) := by decide +kernel
theorem dX8_withoutFleet_16 : decode cX8_withoutFleet 16 = .ok (.iload_n 1, 1) := by decide +kernel
theorem dX8_withoutFleet_17 : decode cX8_withoutFleet 17 = .ok (.iload_n 2, 1) := by decide +kernel
theorem dX8_withoutFleet_18 : decode cX8_withoutFleet 18 = .ok (.if_icmp .ne 5, 3) := by decide +kernel
theorem dX8_withoutFleet_21 : decode cX8_withoutFleet 21 = .ok (.iconst (-1), 1) := by decide +kernel
theorem dX8_withoutFleet_22 : decode cX8_withoutFleet 22 = .ok (.ireturn, 1) := by decide +kernel
theorem dX8_withoutFleet_23 : decode cX8_withoutFleet 23 = .ok (.aload_n 0, 1) := by decide +kernel
theorem dX8_withoutFleet_24 : decode cX8_withoutFleet 24 = .ok (.iload_n 1, 1) := by decide +kernel
theorem dX8_withoutFleet_25 : decode cX8_withoutFleet 25 = .ok (.invokevirtual 236, 3) := by decide +kernel
theorem dX8_withoutFleet_28 : decode cX8_withoutFleet 28 = .ok (.ifCond .ne 6, 3) := by decide +kernel
theorem dX8_withoutFleet_31 : decode cX8_withoutFleet 31 = .ok (.bipush (-2), 2) := by decide +kernel
theorem dX8_withoutFleet_33 : decode cX8_withoutFleet 33 = .ok (.ireturn, 1) := by decide +kernel
theorem dX8_withoutFleet_34 : decode cX8_withoutFleet 34 = .ok (.aload_n 0, 1) := by decide +kernel
theorem dX8_withoutFleet_35 : decode cX8_withoutFleet 35 = .ok (.invokevirtual 260, 3) := by decide +kernel
theorem dX8_withoutFleet_38 : decode cX8_withoutFleet 38 = .ok (.aload_n 0, 1) := by decide +kernel
theorem dX8_withoutFleet_39 : decode cX8_withoutFleet 39 = .ok (.iload_n 2, 1) := by decide +kernel
theorem dX8_withoutFleet_40 : decode cX8_withoutFleet 40 = .ok (.iconst (-1), 1) := by decide +kernel
theorem dX8_withoutFleet_41 : decode cX8_withoutFleet 41 = .ok (.invokevirtual 118, 3) := by decide +kernel
theorem dX8_withoutFleet_44 : decode cX8_withoutFleet 44 = .ok (.pop, 1) := by decide +kernel
theorem dX8_withoutFleet_45 : decode cX8_withoutFleet 45 = .ok (.aload_n 0, 1) := by decide +kernel
theorem dX8_withoutFleet_46 : decode cX8_withoutFleet 46 = .ok (.iload_n 2, 1) := by decide +kernel
theorem dX8_withoutFleet_47 : decode cX8_withoutFleet 47 = .ok (.invokevirtual 122, 3) := by decide +kernel
theorem dX8_withoutFleet_50 : decode cX8_withoutFleet 50 = .ok (.aload_n 0, 1) := by decide +kernel
theorem dX8_withoutFleet_51 : decode cX8_withoutFleet 51 = .ok (.iload_n 2, 1) := by decide +kernel
theorem dX8_withoutFleet_52 : decode cX8_withoutFleet 52 = .ok (.iload_n 1, 1) := by decide +kernel
theorem dX8_withoutFleet_53 : decode cX8_withoutFleet 53 = .ok (.if_icmp .ge 9, 3) := by decide +kernel
theorem dX8_withoutFleet_56 : decode cX8_withoutFleet 56 = .ok (.iload_n 1, 1) := by decide +kernel
theorem dX8_withoutFleet_57 : decode cX8_withoutFleet 57 = .ok (.iconst 1, 1) := by decide +kernel
theorem dX8_withoutFleet_58 : decode cX8_withoutFleet 58 = .ok (.isub, 1) := by decide +kernel
theorem dX8_withoutFleet_59 : decode cX8_withoutFleet 59 = .ok (.goto 4, 3) := by decide +kernel
theorem dX8_withoutFleet_62 : decode cX8_withoutFleet 62 = .ok (.iload_n 1, 1) := by decide +kernel
theorem dX8_withoutFleet_63 : decode cX8_withoutFleet 63 = .ok (.invokevirtual 239, 3) := by decide +kernel
theorem dX8_withoutFleet_66 : decode cX8_withoutFleet 66 = .ok (.istore_n 3, 1) := by decide +kernel
theorem dX8_withoutFleet_67 : decode cX8_withoutFleet 67 = .ok (.aload_n 0, 1) := by decide +kernel
theorem dX8_withoutFleet_68 : decode cX8_withoutFleet 68 = .ok (.invokevirtual 269, 3) := by decide +kernel
theorem dX8_withoutFleet_71 : decode cX8_withoutFleet 71 = .ok (.iload_n 3, 1) := by decide +kernel
theorem dX8_withoutFleet_72 : decode cX8_withoutFleet 72 = .ok (.ireturn, 1) := by decide +kernel
theorem dX8_spreadNow_0 : decode cX8_spreadNow 0 = .ok (.aload_n 0, 1) := by decide +kernel
theorem dX8_spreadNow_1 : decode cX8_spreadNow 1 = .ok (.invokevirtual 221, 3) := by decide +kernel
theorem dX8_spreadNow_4 : decode cX8_spreadNow 4 = .ok (.iconst 5, 1) := by decide +kernel
theorem dX8_spreadNow_5 : decode cX8_spreadNow 5 = .ok (.iload_n 1, 1) := by decide +kernel
theorem dX8_spreadNow_6 : decode cX8_spreadNow 6 = .ok (.imul, 1) := by decide +kernel
theorem dX8_spreadNow_7 : decode cX8_spreadNow 7 = .ok (.iload_n 2, 1) := by decide +kernel
theorem dX8_spreadNow_8 : decode cX8_spreadNow 8 = .ok (.iadd, 1) := by decide +kernel
theorem dX8_spreadNow_9 : decode cX8_spreadNow 9 = .ok (.istore 4, 2) := by decide +kernel
theorem dX8_spreadNow_11 : decode cX8_spreadNow 11 = .ok (.aload_n 0, 1) := by decide +kernel
theorem dX8_spreadNow_12 : decode cX8_spreadNow 12 = .ok (.getfield 60, 3) := by decide +kernel
theorem dX8_spreadNow_15 : decode cX8_spreadNow 15 = .ok (.iload 4, 2) := by decide +kernel
theorem dX8_spreadNow_17 : decode cX8_spreadNow 17 = .ok (.laload, 1) := by decide +kernel
theorem dX8_spreadNow_18 : decode cX8_spreadNow 18 = .ok (.lconst 0, 1) := by decide +kernel
theorem dX8_spreadNow_19 : decode cX8_spreadNow 19 = .ok (.lcmp, 1) := by decide +kernel
theorem dX8_spreadNow_20 : decode cX8_spreadNow 20 = .ok (.ifCond .ne 9, 3) := by decide +kernel
theorem dX8_spreadNow_23 : decode cX8_spreadNow 23 = .ok (.ldc2_w 230, 3) := by decide +kernel
theorem dX8_spreadNow_26 : decode cX8_spreadNow 26 = .ok (.goto 24, 3) := by decide +kernel
theorem dX8_spreadNow_29 : decode cX8_spreadNow 29 = .ok (.iload_n 3, 1) := by decide +kernel
theorem dX8_spreadNow_30 : decode cX8_spreadNow 30 = .ok (.ifCond .eq 13, 3) := by decide +kernel
theorem dX8_spreadNow_33 : decode cX8_spreadNow 33 = .ok (.aload_n 0, 1) := by decide +kernel
theorem dX8_spreadNow_34 : decode cX8_spreadNow 34 = .ok (.getfield 60, 3) := by decide +kernel
theorem dX8_spreadNow_37 : decode cX8_spreadNow 37 = .ok (.iload 4, 2) := by decide +kernel
theorem dX8_spreadNow_39 : decode cX8_spreadNow 39 = .ok (.laload, 1) := by decide +kernel
theorem dX8_spreadNow_40 : decode cX8_spreadNow 40 = .ok (.goto 10, 3) := by decide +kernel
theorem dX8_spreadNow_43 : decode cX8_spreadNow 43 = .ok (.aload_n 0, 1) := by decide +kernel
theorem dX8_spreadNow_44 : decode cX8_spreadNow 44 = .ok (.getfield 57, 3) := by decide +kernel
theorem dX8_spreadNow_47 : decode cX8_spreadNow 47 = .ok (.iload 4, 2) := by decide +kernel
theorem dX8_spreadNow_49 : decode cX8_spreadNow 49 = .ok (.laload, 1) := by decide +kernel
theorem dX8_spreadNow_50 : decode cX8_spreadNow 50 = .ok (.lreturn, 1) := by decide +kernel
theorem dX8_joined_0 : decode cX8_joined 0 = .ok (.iload_n 1, 1) := by decide +kernel
theorem dX8_joined_1 : decode cX8_joined 1 = .ok (.invokestatic 108, 3) := by decide +kernel
theorem dX8_joined_4 : decode cX8_joined 4 = .ok (.ifCond .eq 24, 3) := by decide +kernel
theorem dX8_joined_7 : decode cX8_joined 7 = .ok (.iload_n 2, 1) := by decide +kernel
theorem dX8_joined_8 : decode cX8_joined 8 = .ok (.invokestatic 108, 3) := by decide +kernel
theorem dX8_joined_11 : decode cX8_joined 11 = .ok (.ifCond .eq 17, 3) := by decide +kernel
theorem dX8_joined_14 : decode cX8_joined 14 = .ok (.iload_n 1, 1) := by decide +kernel
theorem dX8_joined_15 : decode cX8_joined 15 = .ok (.iload_n 2, 1) := by decide +kernel
theorem dX8_joined_16 : decode cX8_joined 16 = .ok (.if_icmp .eq 12, 3) := by decide +kernel
theorem dX8_joined_19 : decode cX8_joined 19 = .ok (.iload_n 3, 1) := by decide +kernel
theorem dX8_joined_20 : decode cX8_joined 20 = .ok (.iconst 0, 1) := by decide +kernel
theorem dX8_joined_21 : decode cX8_joined 21 = .ok (.iconst 4, 1) := by decide +kernel
theorem dX8_joined_22 : decode cX8_joined 22 = .ok (.invokestatic 84, 3) := by decide +kernel
theorem dX8_joined_25 : decode cX8_joined 25 = .ok (.ifCond .ne 7, 3) := by decide +kernel
theorem dX8_joined_28 : decode cX8_joined 28 = .ok (.ldc2_w 230, 3) := by decide +kernel
theorem dX8_joined_31 : decode cX8_joined 31 = .ok (.lreturn, 1) := by decide +kernel
theorem dX8_joined_32 : decode cX8_joined 32 = .ok (.aload_n 0, 1) := by decide +kernel
theorem dX8_joined_33 : decode cX8_joined 33 = .ok (.invokevirtual 260, 3) := by decide +kernel
theorem dX8_joined_36 : decode cX8_joined 36 = .ok (.aload_n 0, 1) := by decide +kernel
theorem dX8_joined_37 : decode cX8_joined 37 = .ok (.iload_n 1, 1) := by decide +kernel
theorem dX8_joined_38 : decode cX8_joined 38 = .ok (.iload_n 2, 1) := by decide +kernel
theorem dX8_joined_39 : decode cX8_joined 39 = .ok (.invokevirtual 150, 3) := by decide +kernel
theorem dX8_joined_42 : decode cX8_joined 42 = .ok (.aload_n 0, 1) := by decide +kernel
theorem dX8_joined_43 : decode cX8_joined 43 = .ok (.iload_n 2, 1) := by decide +kernel
theorem dX8_joined_44 : decode cX8_joined 44 = .ok (.iload_n 3, 1) := by decide +kernel
theorem dX8_joined_45 : decode cX8_joined 45 = .ok (.iload 4, 2) := by decide +kernel
theorem dX8_joined_47 : decode cX8_joined 47 = .ok (.invokevirtual 232, 3) := by decide +kernel
theorem dX8_joined_50 : decode cX8_joined 50 = .ok (.lstore 5, 2) := by decide +kernel
theorem dX8_joined_52 : decode cX8_joined 52 = .ok (.aload_n 0, 1) := by decide +kernel
theorem dX8_joined_53 : decode cX8_joined 53 = .ok (.invokevirtual 269, 3) := by decide +kernel
theorem dX8_joined_56 : decode cX8_joined 56 = .ok (.lload 5, 2) := by decide +kernel
theorem dX8_joined_58 : decode cX8_joined 58 = .ok (.lreturn, 1) := by decide +kernel
theorem dX8_ratedWithout_0 : decode cX8_ratedWithout 0 = .ok (.aload_n 0, 1) := by decide +kernel
theorem dX8_ratedWithout_1 : decode cX8_ratedWithout 1 = .ok (.invokevirtual 260, 3) := by decide +kernel
theorem dX8_ratedWithout_4 : decode cX8_ratedWithout 4 = .ok (.aload_n 0, 1) := by decide +kernel
theorem dX8_ratedWithout_5 : decode cX8_ratedWithout 5 = .ok (.iload_n 2, 1) := by decide +kernel
theorem dX8_ratedWithout_6 : decode cX8_ratedWithout 6 = .ok (.invokevirtual 104, 3) := by decide +kernel
theorem dX8_ratedWithout_9 : decode cX8_ratedWithout 9 = .ok (.aload_n 0, 1) := by decide +kernel
theorem dX8_ratedWithout_10 : decode cX8_ratedWithout 10 = .ok (.iload_n 1, 1) := by decide +kernel
theorem dX8_ratedWithout_11 : decode cX8_ratedWithout 11 = .ok (.invokevirtual 239, 3) := by decide +kernel
theorem dX8_ratedWithout_14 : decode cX8_ratedWithout 14 = .ok (.istore_n 3, 1) := by decide +kernel
theorem dX8_ratedWithout_15 : decode cX8_ratedWithout 15 = .ok (.aload_n 0, 1) := by decide +kernel
theorem dX8_ratedWithout_16 : decode cX8_ratedWithout 16 = .ok (.invokevirtual 269, 3) := by decide +kernel
theorem dX8_ratedWithout_19 : decode cX8_ratedWithout 19 = .ok (.iload_n 3, 1) := by decide +kernel
theorem dX8_ratedWithout_20 : decode cX8_ratedWithout 20 = .ok (.ireturn, 1) := by decide +kernel
theorem dX8_withoutClaim_0 : decode cX8_withoutClaim 0 = .ok (.aload_n 0, 1) := by decide +kernel
theorem dX8_withoutClaim_1 : decode cX8_withoutClaim 1 = .ok (.iload_n 1, 1) := by decide +kernel
theorem dX8_withoutClaim_2 : decode cX8_withoutClaim 2 = .ok (.invokevirtual 115, 3) := by decide +kernel
theorem dX8_withoutClaim_5 : decode cX8_withoutClaim 5 = .ok (.ifCond .eq 11, 3) := by decide +kernel
theorem dX8_withoutClaim_8 : decode cX8_withoutClaim 8 = .ok (.aload_n 0, 1) := by decide +kernel
theorem dX8_withoutClaim_9 : decode cX8_withoutClaim 9 = .ok (.iload_n 2, 1) := by decide +kernel
theorem dX8_withoutClaim_10 : decode cX8_withoutClaim 10 = .ok (.invokevirtual 147, 3) := by decide +kernel
theorem dX8_withoutClaim_13 : decode cX8_withoutClaim 13 = .ok (.ifCond .ne 5, 3) := by decide +kernel
theorem dX8_withoutClaim_16 : decode cX8_withoutClaim 16 = .ok (.iconst (-1), 1) := by decide +kernel
theorem dX8_withoutClaim_17 : decode cX8_withoutClaim 17 = .ok (.ireturn, 1) := by decide +kernel
theorem dX8_withoutClaim_18 : decode cX8_withoutClaim 18 = .ok (.aload_n 0, 1) := by decide +kernel
theorem dX8_withoutClaim_19 : decode cX8_withoutClaim 19 = .ok (.iload_n 1, 1) := by decide +kernel
theorem dX8_withoutClaim_20 : decode cX8_withoutClaim 20 = .ok (.invokevirtual 236, 3) := by decide +kernel
theorem dX8_withoutClaim_23 : decode cX8_withoutClaim 23 = .ok (.ifCond .eq 12, 3) := by decide +kernel
theorem dX8_withoutClaim_26 : decode cX8_withoutClaim 26 = .ok (.aload_n 0, 1) := by decide +kernel
theorem dX8_withoutClaim_27 : decode cX8_withoutClaim 27 = .ok (.iload_n 1, 1) := by decide +kernel
theorem dX8_withoutClaim_28 : decode cX8_withoutClaim 28 = .ok (.iload_n 2, 1) := by decide +kernel
theorem dX8_withoutClaim_29 : decode cX8_withoutClaim 29 = .ok (.invokevirtual 276, 3) := by decide +kernel
theorem dX8_withoutClaim_32 : decode cX8_withoutClaim 32 = .ok (.goto 5, 3) := by decide +kernel
theorem dX8_withoutClaim_35 : decode cX8_withoutClaim 35 = .ok (.bipush (-2), 2) := by decide +kernel
theorem dX8_withoutClaim_37 : decode cX8_withoutClaim 37 = .ok (.ireturn, 1) := by decide +kernel
theorem dX8_dearest_0 : decode cX8_dearest 0 = .ok (.bipush (-2), 2) := by decide +kernel
theorem dX8_dearest_2 : decode cX8_dearest 2 = .ok (.istore_n 1, 1) := by decide +kernel
theorem dX8_dearest_3 : decode cX8_dearest 3 = .ok (.iconst 0, 1) := by decide +kernel
theorem dX8_dearest_4 : decode cX8_dearest 4 = .ok (.istore_n 2, 1) := by decide +kernel
theorem dX8_dearest_5 : decode cX8_dearest 5 = .ok (.iconst 0, 1) := by decide +kernel
theorem dX8_dearest_6 : decode cX8_dearest 6 = .ok (.istore_n 3, 1) := by decide +kernel
theorem dX8_dearest_7 : decode cX8_dearest 7 = .ok (.iload_n 3, 1) := by decide +kernel
theorem dX8_dearest_8 : decode cX8_dearest 8 = .ok (.aload_n 0, 1) := by decide +kernel
theorem dX8_dearest_9 : decode cX8_dearest 9 = .ok (.invokevirtual 88, 3) := by decide +kernel
theorem dX8_dearest_12 : decode cX8_dearest 12 = .ok (.if_icmp .ge 49, 3) := by decide +kernel
theorem dX8_dearest_15 : decode cX8_dearest 15 = .ok (.aload_n 0, 1) := by decide +kernel
theorem dX8_dearest_16 : decode cX8_dearest 16 = .ok (.aload_n 0, 1) := by decide +kernel
theorem dX8_dearest_17 : decode cX8_dearest 17 = .ok (.iload_n 3, 1) := by decide +kernel
theorem dX8_dearest_18 : decode cX8_dearest 18 = .ok (.invokevirtual 98, 3) := by decide +kernel
theorem dX8_dearest_21 : decode cX8_dearest 21 = .ok (.invokevirtual 239, 3) := by decide +kernel
theorem dX8_dearest_24 : decode cX8_dearest 24 = .ok (.aload_n 0, 1) := by decide +kernel
theorem dX8_dearest_25 : decode cX8_dearest 25 = .ok (.aload_n 0, 1) := by decide +kernel
theorem dX8_dearest_26 : decode cX8_dearest 26 = .ok (.iload_n 3, 1) := by decide +kernel
theorem dX8_dearest_27 : decode cX8_dearest 27 = .ok (.invokevirtual 98, 3) := by decide +kernel
theorem dX8_dearest_30 : decode cX8_dearest 30 = .ok (.iload_n 3, 1) := by decide +kernel
theorem dX8_dearest_31 : decode cX8_dearest 31 = .ok (.invokevirtual 276, 3) := by decide +kernel
theorem dX8_dearest_34 : decode cX8_dearest 34 = .ok (.isub, 1) := by decide +kernel
theorem dX8_dearest_35 : decode cX8_dearest 35 = .ok (.istore 4, 2) := by decide +kernel
theorem dX8_dearest_37 : decode cX8_dearest 37 = .ok (.iload_n 1, 1) := by decide +kernel
theorem dX8_dearest_38 : decode cX8_dearest 38 = .ok (.ifCond .lt 12, 3) := by decide +kernel
theorem dX8_dearest_41 : decode cX8_dearest 41 = .ok (.iload 4, 2) := by decide +kernel
theorem dX8_dearest_43 : decode cX8_dearest 43 = .ok (.iload_n 2, 1) := by decide +kernel
theorem dX8_dearest_44 : decode cX8_dearest 44 = .ok (.if_icmp .gt 6, 3) := by decide +kernel
theorem dX8_dearest_47 : decode cX8_dearest 47 = .ok (.goto 8, 3) := by decide +kernel
theorem dX8_dearest_50 : decode cX8_dearest 50 = .ok (.iload 4, 2) := by decide +kernel
theorem dX8_dearest_52 : decode cX8_dearest 52 = .ok (.istore_n 2, 1) := by decide +kernel
theorem dX8_dearest_53 : decode cX8_dearest 53 = .ok (.iload_n 3, 1) := by decide +kernel
theorem dX8_dearest_54 : decode cX8_dearest 54 = .ok (.istore_n 1, 1) := by decide +kernel
theorem dX8_dearest_55 : decode cX8_dearest 55 = .ok (.iinc 3 1, 3) := by decide +kernel
theorem dX8_dearest_58 : decode cX8_dearest 58 = .ok (.goto (-51), 3) := by decide +kernel
theorem dX8_dearest_61 : decode cX8_dearest 61 = .ok (.iload_n 1, 1) := by decide +kernel
theorem dX8_dearest_62 : decode cX8_dearest 62 = .ok (.ireturn, 1) := by decide +kernel
theorem dX8_writes_0 : decode cX8_writes 0 = .ok (.aload_n 0, 1) := by decide +kernel
theorem dX8_writes_1 : decode cX8_writes 1 = .ok (.getfield 63, 3) := by decide +kernel
theorem dX8_writes_4 : decode cX8_writes 4 = .ok (.aload_n 0, 1) := by decide +kernel
theorem dX8_writes_5 : decode cX8_writes 5 = .ok (.getfield 279, 3) := by decide +kernel
theorem dX8_writes_8 : decode cX8_writes 8 = .ok (.iload_n 1, 1) := by decide +kernel
theorem dX8_writes_9 : decode cX8_writes 9 = .ok (.iastore, 1) := by decide +kernel
theorem dX8_writes_10 : decode cX8_writes 10 = .ok (.aload_n 0, 1) := by decide +kernel
theorem dX8_writes_11 : decode cX8_writes 11 = .ok (.dup, 1) := by decide +kernel
theorem dX8_writes_12 : decode cX8_writes 12 = .ok (.getfield 279, 3) := by decide +kernel
theorem dX8_writes_15 : decode cX8_writes 15 = .ok (.iconst 1, 1) := by decide +kernel
theorem dX8_writes_16 : decode cX8_writes 16 = .ok (.iadd, 1) := by decide +kernel
theorem dX8_writes_17 : decode cX8_writes 17 = .ok (.putfield 279, 3) := by decide +kernel
theorem dX8_writes_20 : decode cX8_writes 20 = .ok (.return_, 1) := by decide +kernel
theorem dX8_writesWord_0 : decode cX8_writesWord 0 = .ok (.aload_n 0, 1) := by decide +kernel
theorem dX8_writesWord_1 : decode cX8_writesWord 1 = .ok (.iload_n 1, 1) := by decide +kernel
theorem dX8_writesWord_2 : decode cX8_writesWord 2 = .ok (.invokevirtual 282, 3) := by decide +kernel
theorem dX8_writesWord_5 : decode cX8_writesWord 5 = .ok (.istore_n 2, 1) := by decide +kernel
theorem dX8_writesWord_6 : decode cX8_writesWord 6 = .ok (.aload_n 0, 1) := by decide +kernel
theorem dX8_writesWord_7 : decode cX8_writesWord 7 = .ok (.getfield 69, 3) := by decide +kernel
theorem dX8_writesWord_10 : decode cX8_writesWord 10 = .ok (.iload_n 2, 1) := by decide +kernel
theorem dX8_writesWord_11 : decode cX8_writesWord 11 = .ok (.baload, 1) := by decide +kernel
theorem dX8_writesWord_12 : decode cX8_writesWord 12 = .ok (.ifCond .eq 19, 3) := by decide +kernel
theorem dX8_writesWord_15 : decode cX8_writesWord 15 = .ok (.aload_n 0, 1) := by decide +kernel
theorem dX8_writesWord_16 : decode cX8_writesWord 16 = .ok (.aload_n 0, 1) := by decide +kernel
theorem dX8_writesWord_17 : decode cX8_writesWord 17 = .ok (.getfield 69, 3) := by decide +kernel
theorem dX8_writesWord_20 : decode cX8_writesWord 20 = .ok (.iload_n 2, 1) := by decide +kernel
theorem dX8_writesWord_21 : decode cX8_writesWord 21 = .ok (.baload, 1) := by decide +kernel
theorem dX8_writesWord_22 : decode cX8_writesWord 22 = .ok (.invokevirtual 285, 3) := by decide +kernel
theorem dX8_writesWord_25 : decode cX8_writesWord 25 = .ok (.iinc 2 1, 3) := by decide +kernel
theorem dX8_writesWord_28 : decode cX8_writesWord 28 = .ok (.goto (-22), 3) := by decide +kernel
theorem dX8_writesWord_31 : decode cX8_writesWord 31 = .ok (.return_, 1) := by decide +kernel
theorem dX8_writesNumber_0 : decode cX8_writesNumber 0 = .ok (.aload_n 0, 1) := by decide +kernel
theorem dX8_writesNumber_1 : decode cX8_writesNumber 1 = .ok (.bipush 32, 2) := by decide +kernel
theorem dX8_writesNumber_3 : decode cX8_writesNumber 3 = .ok (.invokevirtual 285, 3) := by decide +kernel
theorem dX8_writesNumber_6 : decode cX8_writesNumber 6 = .ok (.iconst 1, 1) := by decide +kernel
theorem dX8_writesNumber_7 : decode cX8_writesNumber 7 = .ok (.istore_n 2, 1) := by decide +kernel
theorem dX8_writesNumber_8 : decode cX8_writesNumber 8 = .ok (.iload_n 1, 1) := by decide +kernel
theorem dX8_writesNumber_9 : decode cX8_writesNumber 9 = .ok (.iload_n 2, 1) := by decide +kernel
theorem dX8_writesNumber_10 : decode cX8_writesNumber 10 = .ok (.idiv, 1) := by decide +kernel
theorem dX8_writesNumber_11 : decode cX8_writesNumber 11 = .ok (.bipush 9, 2) := by decide +kernel
theorem dX8_writesNumber_13 : decode cX8_writesNumber 13 = .ok (.if_icmp .le 11, 3) := by decide +kernel
theorem dX8_writesNumber_16 : decode cX8_writesNumber 16 = .ok (.iload_n 2, 1) := by decide +kernel
theorem dX8_writesNumber_17 : decode cX8_writesNumber 17 = .ok (.bipush 10, 2) := by decide +kernel
theorem dX8_writesNumber_19 : decode cX8_writesNumber 19 = .ok (.imul, 1) := by decide +kernel
theorem dX8_writesNumber_20 : decode cX8_writesNumber 20 = .ok (.istore_n 2, 1) := by decide +kernel
theorem dX8_writesNumber_21 : decode cX8_writesNumber 21 = .ok (.goto (-13), 3) := by decide +kernel
theorem dX8_writesNumber_24 : decode cX8_writesNumber 24 = .ok (.iload_n 2, 1) := by decide +kernel
theorem dX8_writesNumber_25 : decode cX8_writesNumber 25 = .ok (.ifCond .le 24, 3) := by decide +kernel
theorem dX8_writesNumber_28 : decode cX8_writesNumber 28 = .ok (.aload_n 0, 1) := by decide +kernel
theorem dX8_writesNumber_29 : decode cX8_writesNumber 29 = .ok (.bipush 48, 2) := by decide +kernel
theorem dX8_writesNumber_31 : decode cX8_writesNumber 31 = .ok (.iload_n 1, 1) := by decide +kernel
theorem dX8_writesNumber_32 : decode cX8_writesNumber 32 = .ok (.iload_n 2, 1) := by decide +kernel
theorem dX8_writesNumber_33 : decode cX8_writesNumber 33 = .ok (.idiv, 1) := by decide +kernel
theorem dX8_writesNumber_34 : decode cX8_writesNumber 34 = .ok (.bipush 10, 2) := by decide +kernel
theorem dX8_writesNumber_36 : decode cX8_writesNumber 36 = .ok (.irem, 1) := by decide +kernel
theorem dX8_writesNumber_37 : decode cX8_writesNumber 37 = .ok (.iadd, 1) := by decide +kernel
theorem dX8_writesNumber_38 : decode cX8_writesNumber 38 = .ok (.invokevirtual 285, 3) := by decide +kernel
theorem dX8_writesNumber_41 : decode cX8_writesNumber 41 = .ok (.iload_n 2, 1) := by decide +kernel
theorem dX8_writesNumber_42 : decode cX8_writesNumber 42 = .ok (.bipush 10, 2) := by decide +kernel
theorem dX8_writesNumber_44 : decode cX8_writesNumber 44 = .ok (.idiv, 1) := by decide +kernel
theorem dX8_writesNumber_45 : decode cX8_writesNumber 45 = .ok (.istore_n 2, 1) := by decide +kernel
theorem dX8_writesNumber_46 : decode cX8_writesNumber 46 = .ok (.goto (-22), 3) := by decide +kernel
theorem dX8_writesNumber_49 : decode cX8_writesNumber 49 = .ok (.return_, 1) := by decide +kernel
theorem dX8_writesOne_0 : decode cX8_writesOne 0 = .ok (.aload_n 0, 1) := by decide +kernel
theorem dX8_writesOne_1 : decode cX8_writesOne 1 = .ok (.iload_n 1, 1) := by decide +kernel
theorem dX8_writesOne_2 : decode cX8_writesOne 2 = .ok (.invokevirtual 288, 3) := by decide +kernel
theorem dX8_writesOne_5 : decode cX8_writesOne 5 = .ok (.aload_n 0, 1) := by decide +kernel
theorem dX8_writesOne_6 : decode cX8_writesOne 6 = .ok (.iload_n 2, 1) := by decide +kernel
theorem dX8_writesOne_7 : decode cX8_writesOne 7 = .ok (.invokevirtual 291, 3) := by decide +kernel
theorem dX8_writesOne_10 : decode cX8_writesOne 10 = .ok (.return_, 1) := by decide +kernel
theorem dX8_toldText_0 : decode cX8_toldText 0 = .ok (.iload_n 1, 1) := by decide +kernel
theorem dX8_toldText_1 : decode cX8_toldText 1 = .ok (.iconst (-1), 1) := by decide +kernel
theorem dX8_toldText_2 : decode cX8_toldText 2 = .ok (.if_icmp .ne 10, 3) := by decide +kernel
theorem dX8_toldText_5 : decode cX8_toldText 5 = .ok (.aload_n 0, 1) := by decide +kernel
theorem dX8_toldText_6 : decode cX8_toldText 6 = .ok (.getfield 279, 3) := by decide +kernel
theorem dX8_toldText_9 : decode cX8_toldText 9 = .ok (.goto 22, 3) := by decide +kernel
theorem dX8_toldText_12 : decode cX8_toldText 12 = .ok (.iload_n 1, 1) := by decide +kernel
theorem dX8_toldText_13 : decode cX8_toldText 13 = .ok (.aload_n 0, 1) := by decide +kernel
theorem dX8_toldText_14 : decode cX8_toldText 14 = .ok (.getfield 279, 3) := by decide +kernel
theorem dX8_toldText_17 : decode cX8_toldText 17 = .ok (.if_icmp .ge 12, 3) := by decide +kernel
theorem dX8_toldText_20 : decode cX8_toldText 20 = .ok (.aload_n 0, 1) := by decide +kernel
theorem dX8_toldText_21 : decode cX8_toldText 21 = .ok (.getfield 63, 3) := by decide +kernel
theorem dX8_toldText_24 : decode cX8_toldText 24 = .ok (.iload_n 1, 1) := by decide +kernel
theorem dX8_toldText_25 : decode cX8_toldText 25 = .ok (.iaload, 1) := by decide +kernel
theorem dX8_toldText_26 : decode cX8_toldText 26 = .ok (.goto 5, 3) := by decide +kernel
theorem dX8_toldText_29 : decode cX8_toldText 29 = .ok (.bipush (-2), 2) := by decide +kernel
theorem dX8_toldText_31 : decode cX8_toldText 31 = .ok (.ireturn, 1) := by decide +kernel
theorem dX8_report_0 : decode cX8_report 0 = .ok (.aload_n 0, 1) := by decide +kernel
theorem dX8_report_1 : decode cX8_report 1 = .ok (.iload_n 1, 1) := by decide +kernel
theorem dX8_report_2 : decode cX8_report 2 = .ok (.invokevirtual 115, 3) := by decide +kernel
theorem dX8_report_5 : decode cX8_report 5 = .ok (.ifCond .eq 8, 3) := by decide +kernel
theorem dX8_report_8 : decode cX8_report 8 = .ok (.iload_n 2, 1) := by decide +kernel
theorem dX8_report_9 : decode cX8_report 9 = .ok (.iconst (-1), 1) := by decide +kernel
theorem dX8_report_10 : decode cX8_report 10 = .ok (.if_icmp .ge 5, 3) := by decide +kernel
theorem dX8_report_13 : decode cX8_report 13 = .ok (.iconst (-1), 1) := by decide +kernel
theorem dX8_report_14 : decode cX8_report 14 = .ok (.ireturn, 1) := by decide +kernel
theorem dX8_report_15 : decode cX8_report 15 = .ok (.aload_n 0, 1) := by decide +kernel
theorem dX8_report_16 : decode cX8_report 16 = .ok (.invokevirtual 221, 3) := by decide +kernel
theorem dX8_report_19 : decode cX8_report 19 = .ok (.aload_n 0, 1) := by decide +kernel
theorem dX8_report_20 : decode cX8_report 20 = .ok (.iconst 0, 1) := by decide +kernel
theorem dX8_report_21 : decode cX8_report 21 = .ok (.putfield 279, 3) := by decide +kernel
theorem dX8_report_24 : decode cX8_report 24 = .ok (.aload_n 0, 1) := by decide +kernel
theorem dX8_report_25 : decode cX8_report 25 = .ok (.iconst 2, 1) := by decide +kernel
theorem dX8_report_26 : decode cX8_report 26 = .ok (.iload_n 1, 1) := by decide +kernel
theorem dX8_report_27 : decode cX8_report 27 = .ok (.invokevirtual 294, 3) := by decide +kernel
theorem dX8_report_30 : decode cX8_report 30 = .ok (.aload_n 0, 1) := by decide +kernel
theorem dX8_report_31 : decode cX8_report 31 = .ok (.bipush 32, 2) := by decide +kernel
theorem dX8_report_33 : decode cX8_report 33 = .ok (.invokevirtual 285, 3) := by decide +kernel
theorem dX8_report_36 : decode cX8_report 36 = .ok (.aload_n 0, 1) := by decide +kernel
theorem dX8_report_37 : decode cX8_report 37 = .ok (.iconst 4, 1) := by decide +kernel
theorem dX8_report_38 : decode cX8_report 38 = .ok (.aload_n 0, 1) := by decide +kernel
theorem dX8_report_39 : decode cX8_report 39 = .ok (.iload_n 1, 1) := by decide +kernel
theorem dX8_report_40 : decode cX8_report 40 = .ok (.invokevirtual 125, 3) := by decide +kernel
theorem dX8_report_43 : decode cX8_report 43 = .ok (.invokevirtual 294, 3) := by decide +kernel
theorem dX8_report_46 : decode cX8_report 46 = .ok (.aload_n 0, 1) := by decide +kernel
theorem dX8_report_47 : decode cX8_report 47 = .ok (.bipush 32, 2) := by decide +kernel
theorem dX8_report_49 : decode cX8_report 49 = .ok (.invokevirtual 285, 3) := by decide +kernel
theorem dX8_report_52 : decode cX8_report 52 = .ok (.aload_n 0, 1) := by decide +kernel
theorem dX8_report_53 : decode cX8_report 53 = .ok (.iconst 5, 1) := by decide +kernel
theorem dX8_report_54 : decode cX8_report 54 = .ok (.aload_n 0, 1) := by decide +kernel
theorem dX8_report_55 : decode cX8_report 55 = .ok (.getfield 26, 3) := by decide +kernel
theorem dX8_report_58 : decode cX8_report 58 = .ok (.iload_n 1, 1) := by decide +kernel
theorem dX8_report_59 : decode cX8_report 59 = .ok (.iaload, 1) := by decide +kernel
theorem dX8_report_60 : decode cX8_report 60 = .ok (.invokevirtual 294, 3) := by decide +kernel
theorem dX8_report_63 : decode cX8_report 63 = .ok (.aload_n 0, 1) := by decide +kernel
theorem dX8_report_64 : decode cX8_report 64 = .ok (.getfield 26, 3) := by decide +kernel
theorem dX8_report_67 : decode cX8_report 67 = .ok (.iload_n 1, 1) := by decide +kernel
theorem dX8_report_68 : decode cX8_report 68 = .ok (.iaload, 1) := by decide +kernel
theorem dX8_report_69 : decode cX8_report 69 = .ok (.ifCond .le 38, 3) := by decide +kernel
theorem dX8_report_72 : decode cX8_report 72 = .ok (.aload_n 0, 1) := by decide +kernel
theorem dX8_report_73 : decode cX8_report 73 = .ok (.bipush 32, 2) := by decide +kernel
theorem dX8_report_75 : decode cX8_report 75 = .ok (.invokevirtual 285, 3) := by decide +kernel
theorem dX8_report_78 : decode cX8_report 78 = .ok (.aload_n 0, 1) := by decide +kernel
theorem dX8_report_79 : decode cX8_report 79 = .ok (.bipush 6, 2) := by decide +kernel
theorem dX8_report_81 : decode cX8_report 81 = .ok (.aload_n 0, 1) := by decide +kernel
theorem dX8_report_82 : decode cX8_report 82 = .ok (.getfield 35, 3) := by decide +kernel
theorem dX8_report_85 : decode cX8_report 85 = .ok (.iload_n 1, 1) := by decide +kernel
theorem dX8_report_86 : decode cX8_report 86 = .ok (.iaload, 1) := by decide +kernel
theorem dX8_report_87 : decode cX8_report 87 = .ok (.invokevirtual 294, 3) := by decide +kernel
theorem dX8_report_90 : decode cX8_report 90 = .ok (.aload_n 0, 1) := by decide +kernel
theorem dX8_report_91 : decode cX8_report 91 = .ok (.bipush 32, 2) := by decide +kernel
theorem dX8_report_93 : decode cX8_report 93 = .ok (.invokevirtual 285, 3) := by decide +kernel
theorem dX8_report_96 : decode cX8_report 96 = .ok (.aload_n 0, 1) := by decide +kernel
theorem dX8_report_97 : decode cX8_report 97 = .ok (.bipush 7, 2) := by decide +kernel
theorem dX8_report_99 : decode cX8_report 99 = .ok (.aload_n 0, 1) := by decide +kernel
theorem dX8_report_100 : decode cX8_report 100 = .ok (.iload_n 1, 1) := by decide +kernel
theorem dX8_report_101 : decode cX8_report 101 = .ok (.invokevirtual 224, 3) := by decide +kernel
theorem dX8_report_104 : decode cX8_report 104 = .ok (.invokevirtual 294, 3) := by decide +kernel
theorem dX8_report_107 : decode cX8_report 107 = .ok (.aload_n 0, 1) := by decide +kernel
theorem dX8_report_108 : decode cX8_report 108 = .ok (.bipush 59, 2) := by decide +kernel
theorem dX8_report_110 : decode cX8_report 110 = .ok (.invokevirtual 285, 3) := by decide +kernel
theorem dX8_report_113 : decode cX8_report 113 = .ok (.aload_n 0, 1) := by decide +kernel
theorem dX8_report_114 : decode cX8_report 114 = .ok (.iload_n 2, 1) := by decide +kernel
theorem dX8_report_115 : decode cX8_report 115 = .ok (.invokevirtual 297, 3) := by decide +kernel
theorem dX8_report_118 : decode cX8_report 118 = .ok (.ireturn, 1) := by decide +kernel
theorem dX8_spell_0 : decode cX8_spell 0 = .ok (.iload_n 1, 1) := by decide +kernel
theorem dX8_spell_1 : decode cX8_spell 1 = .ok (.iconst (-1), 1) := by decide +kernel
theorem dX8_spell_2 : decode cX8_spell 2 = .ok (.if_icmp .ge 5, 3) := by decide +kernel
theorem dX8_spell_5 : decode cX8_spell 5 = .ok (.iconst (-1), 1) := by decide +kernel
theorem dX8_spell_6 : decode cX8_spell 6 = .ok (.ireturn, 1) := by decide +kernel
theorem dX8_spell_7 : decode cX8_spell 7 = .ok (.aload_n 0, 1) := by decide +kernel
theorem dX8_spell_8 : decode cX8_spell 8 = .ok (.iconst 0, 1) := by decide +kernel
theorem dX8_spell_9 : decode cX8_spell 9 = .ok (.putfield 279, 3) := by decide +kernel
theorem dX8_spell_12 : decode cX8_spell 12 = .ok (.aload_n 0, 1) := by decide +kernel
theorem dX8_spell_13 : decode cX8_spell 13 = .ok (.iconst 0, 1) := by decide +kernel
theorem dX8_spell_14 : decode cX8_spell 14 = .ok (.aload_n 0, 1) := by decide +kernel
theorem dX8_spell_15 : decode cX8_spell 15 = .ok (.getfield 13, 3) := by decide +kernel
theorem dX8_spell_18 : decode cX8_spell 18 = .ok (.iconst 0, 1) := by decide +kernel
theorem dX8_spell_19 : decode cX8_spell 19 = .ok (.iaload, 1) := by decide +kernel
theorem dX8_spell_20 : decode cX8_spell 20 = .ok (.invokevirtual 294, 3) := by decide +kernel
theorem dX8_spell_23 : decode cX8_spell 23 = .ok (.aload_n 0, 1) := by decide +kernel
theorem dX8_spell_24 : decode cX8_spell 24 = .ok (.bipush 59, 2) := by decide +kernel
theorem dX8_spell_26 : decode cX8_spell 26 = .ok (.invokevirtual 285, 3) := by decide +kernel
theorem dX8_spell_29 : decode cX8_spell 29 = .ok (.aload_n 0, 1) := by decide +kernel
theorem dX8_spell_30 : decode cX8_spell 30 = .ok (.iconst 1, 1) := by decide +kernel
theorem dX8_spell_31 : decode cX8_spell 31 = .ok (.aload_n 0, 1) := by decide +kernel
theorem dX8_spell_32 : decode cX8_spell 32 = .ok (.getfield 13, 3) := by decide +kernel
theorem dX8_spell_35 : decode cX8_spell 35 = .ok (.iconst 1, 1) := by decide +kernel
theorem dX8_spell_36 : decode cX8_spell 36 = .ok (.iaload, 1) := by decide +kernel
theorem dX8_spell_37 : decode cX8_spell 37 = .ok (.invokevirtual 294, 3) := by decide +kernel
theorem dX8_spell_40 : decode cX8_spell 40 = .ok (.aload_n 0, 1) := by decide +kernel
theorem dX8_spell_41 : decode cX8_spell 41 = .ok (.bipush 59, 2) := by decide +kernel
theorem dX8_spell_43 : decode cX8_spell 43 = .ok (.invokevirtual 285, 3) := by decide +kernel
theorem dX8_spell_46 : decode cX8_spell 46 = .ok (.iconst 0, 1) := by decide +kernel
theorem dX8_spell_47 : decode cX8_spell 47 = .ok (.istore_n 2, 1) := by decide +kernel
theorem dX8_spell_48 : decode cX8_spell 48 = .ok (.iload_n 2, 1) := by decide +kernel
theorem dX8_spell_49 : decode cX8_spell 49 = .ok (.aload_n 0, 1) := by decide +kernel
theorem dX8_spell_50 : decode cX8_spell 50 = .ok (.invokevirtual 80, 3) := by decide +kernel
theorem dX8_spell_53 : decode cX8_spell 53 = .ok (.if_icmp .ge 52, 3) := by decide +kernel
theorem dX8_spell_56 : decode cX8_spell 56 = .ok (.aload_n 0, 1) := by decide +kernel
theorem dX8_spell_57 : decode cX8_spell 57 = .ok (.iconst 2, 1) := by decide +kernel
theorem dX8_spell_58 : decode cX8_spell 58 = .ok (.aload_n 0, 1) := by decide +kernel
theorem dX8_spell_59 : decode cX8_spell 59 = .ok (.iload_n 2, 1) := by decide +kernel
theorem dX8_spell_60 : decode cX8_spell 60 = .ok (.invokevirtual 125, 3) := by decide +kernel
theorem dX8_spell_63 : decode cX8_spell 63 = .ok (.invokevirtual 294, 3) := by decide +kernel
theorem dX8_spell_66 : decode cX8_spell 66 = .ok (.iconst 0, 1) := by decide +kernel
theorem dX8_spell_67 : decode cX8_spell 67 = .ok (.istore_n 3, 1) := by decide +kernel
theorem dX8_spell_68 : decode cX8_spell 68 = .ok (.iload_n 3, 1) := by decide +kernel
theorem dX8_spell_69 : decode cX8_spell 69 = .ok (.iconst 5, 1) := by decide +kernel
theorem dX8_spell_70 : decode cX8_spell 70 = .ok (.if_icmp .ge 23, 3) := by decide +kernel
theorem dX8_spell_73 : decode cX8_spell 73 = .ok (.aload_n 0, 1) := by decide +kernel
theorem dX8_spell_74 : decode cX8_spell 74 = .ok (.iload_n 2, 1) := by decide +kernel
theorem dX8_spell_75 : decode cX8_spell 75 = .ok (.iload_n 3, 1) := by decide +kernel
theorem dX8_spell_76 : decode cX8_spell 76 = .ok (.invokevirtual 134, 3) := by decide +kernel
theorem dX8_spell_79 : decode cX8_spell 79 = .ok (.ifCond .eq 8, 3) := by decide +kernel
theorem dX8_spell_82 : decode cX8_spell 82 = .ok (.aload_n 0, 1) := by decide +kernel
theorem dX8_spell_83 : decode cX8_spell 83 = .ok (.iload_n 3, 1) := by decide +kernel
theorem dX8_spell_84 : decode cX8_spell 84 = .ok (.invokevirtual 291, 3) := by decide +kernel
theorem dX8_spell_87 : decode cX8_spell 87 = .ok (.iinc 3 1, 3) := by decide +kernel
theorem dX8_spell_90 : decode cX8_spell 90 = .ok (.goto (-22), 3) := by decide +kernel
theorem dX8_spell_93 : decode cX8_spell 93 = .ok (.aload_n 0, 1) := by decide +kernel
theorem dX8_spell_94 : decode cX8_spell 94 = .ok (.bipush 59, 2) := by decide +kernel
theorem dX8_spell_96 : decode cX8_spell 96 = .ok (.invokevirtual 285, 3) := by decide +kernel
theorem dX8_spell_99 : decode cX8_spell 99 = .ok (.iinc 2 1, 3) := by decide +kernel
theorem dX8_spell_102 : decode cX8_spell 102 = .ok (.goto (-54), 3) := by decide +kernel
theorem dX8_spell_105 : decode cX8_spell 105 = .ok (.iconst 0, 1) := by decide +kernel
theorem dX8_spell_106 : decode cX8_spell 106 = .ok (.istore_n 2, 1) := by decide +kernel
theorem dX8_spell_107 : decode cX8_spell 107 = .ok (.iload_n 2, 1) := by decide +kernel
theorem dX8_spell_108 : decode cX8_spell 108 = .ok (.aload_n 0, 1) := by decide +kernel
theorem dX8_spell_109 : decode cX8_spell 109 = .ok (.invokevirtual 88, 3) := by decide +kernel
theorem dX8_spell_112 : decode cX8_spell 112 = .ok (.if_icmp .ge 50, 3) := by decide +kernel
theorem dX8_spell_115 : decode cX8_spell 115 = .ok (.aload_n 0, 1) := by decide +kernel
theorem dX8_spell_116 : decode cX8_spell 116 = .ok (.iconst 3, 1) := by decide +kernel
theorem dX8_spell_117 : decode cX8_spell 117 = .ok (.invokevirtual 288, 3) := by decide +kernel
theorem dX8_spell_120 : decode cX8_spell 120 = .ok (.iconst 0, 1) := by decide +kernel
theorem dX8_spell_121 : decode cX8_spell 121 = .ok (.istore_n 3, 1) := by decide +kernel
theorem dX8_spell_122 : decode cX8_spell 122 = .ok (.iload_n 3, 1) := by decide +kernel
theorem dX8_spell_123 : decode cX8_spell 123 = .ok (.iconst 3, 1) := by decide +kernel
theorem dX8_spell_124 : decode cX8_spell 124 = .ok (.if_icmp .ge 26, 3) := by decide +kernel
theorem dX8_spell_127 : decode cX8_spell 127 = .ok (.aload_n 0, 1) := by decide +kernel
theorem dX8_spell_128 : decode cX8_spell 128 = .ok (.aload_n 0, 1) := by decide +kernel
theorem dX8_spell_129 : decode cX8_spell 129 = .ok (.getfield 13, 3) := by decide +kernel
theorem dX8_spell_132 : decode cX8_spell 132 = .ok (.bipush 20, 2) := by decide +kernel
theorem dX8_spell_134 : decode cX8_spell 134 = .ok (.iconst 3, 1) := by decide +kernel
theorem dX8_spell_135 : decode cX8_spell 135 = .ok (.iload_n 2, 1) := by decide +kernel
theorem dX8_spell_136 : decode cX8_spell 136 = .ok (.imul, 1) := by decide +kernel
theorem dX8_spell_137 : decode cX8_spell 137 = .ok (.iadd, 1) := by decide +kernel
theorem dX8_spell_138 : decode cX8_spell 138 = .ok (.iload_n 3, 1) := by decide +kernel
theorem dX8_spell_139 : decode cX8_spell 139 = .ok (.iadd, 1) := by decide +kernel
theorem dX8_spell_140 : decode cX8_spell 140 = .ok (.iaload, 1) := by decide +kernel
theorem dX8_spell_141 : decode cX8_spell 141 = .ok (.invokevirtual 291, 3) := by decide +kernel
theorem dX8_spell_144 : decode cX8_spell 144 = .ok (.iinc 3 1, 3) := by decide +kernel
theorem dX8_spell_147 : decode cX8_spell 147 = .ok (.goto (-25), 3) := by decide +kernel
theorem dX8_spell_150 : decode cX8_spell 150 = .ok (.aload_n 0, 1) := by decide +kernel
theorem dX8_spell_151 : decode cX8_spell 151 = .ok (.bipush 59, 2) := by decide +kernel
theorem dX8_spell_153 : decode cX8_spell 153 = .ok (.invokevirtual 285, 3) := by decide +kernel
theorem dX8_spell_156 : decode cX8_spell 156 = .ok (.iinc 2 1, 3) := by decide +kernel
theorem dX8_spell_159 : decode cX8_spell 159 = .ok (.goto (-52), 3) := by decide +kernel
theorem dX8_spell_162 : decode cX8_spell 162 = .ok (.aload_n 0, 1) := by decide +kernel
theorem dX8_spell_163 : decode cX8_spell 163 = .ok (.iload_n 1, 1) := by decide +kernel
theorem dX8_spell_164 : decode cX8_spell 164 = .ok (.invokevirtual 297, 3) := by decide +kernel
theorem dX8_spell_167 : decode cX8_spell 167 = .ok (.ireturn, 1) := by decide +kernel
theorem dX8_count_0 : decode cX8_count 0 = .ok (.iconst 0, 1) := by decide +kernel
theorem dX8_count_1 : decode cX8_count 1 = .ok (.istore_n 2, 1) := by decide +kernel
theorem dX8_count_2 : decode cX8_count 2 = .ok (.iload_n 1, 1) := by decide +kernel
theorem dX8_count_3 : decode cX8_count 3 = .ok (.tableswitch 144 0 8 #[49, 54, 59, 66, 73, 78, 83, 89, 118], 49) := by decide +kernel
theorem dX8_count_52 : decode cX8_count 52 = .ok (.aload_n 0, 1) := by decide +kernel
theorem dX8_count_53 : decode cX8_count 53 = .ok (.invokevirtual 80, 3) := by decide +kernel
theorem dX8_count_56 : decode cX8_count 56 = .ok (.ireturn, 1) := by decide +kernel
theorem dX8_count_57 : decode cX8_count 57 = .ok (.aload_n 0, 1) := by decide +kernel
theorem dX8_count_58 : decode cX8_count 58 = .ok (.invokevirtual 88, 3) := by decide +kernel
theorem dX8_count_61 : decode cX8_count 61 = .ok (.ireturn, 1) := by decide +kernel
theorem dX8_count_62 : decode cX8_count 62 = .ok (.aload_n 0, 1) := by decide +kernel
theorem dX8_count_63 : decode cX8_count 63 = .ok (.getfield 13, 3) := by decide +kernel
theorem dX8_count_66 : decode cX8_count 66 = .ok (.iconst 0, 1) := by decide +kernel
theorem dX8_count_67 : decode cX8_count 67 = .ok (.iaload, 1) := by decide +kernel
theorem dX8_count_68 : decode cX8_count 68 = .ok (.ireturn, 1) := by decide +kernel
theorem dX8_count_69 : decode cX8_count 69 = .ok (.aload_n 0, 1) := by decide +kernel
theorem dX8_count_70 : decode cX8_count 70 = .ok (.getfield 13, 3) := by decide +kernel
theorem dX8_count_73 : decode cX8_count 73 = .ok (.iconst 1, 1) := by decide +kernel
theorem dX8_count_74 : decode cX8_count 74 = .ok (.iaload, 1) := by decide +kernel
theorem dX8_count_75 : decode cX8_count 75 = .ok (.ireturn, 1) := by decide +kernel
theorem dX8_count_76 : decode cX8_count 76 = .ok (.aload_n 0, 1) := by decide +kernel
theorem dX8_count_77 : decode cX8_count 77 = .ok (.getfield 77, 3) := by decide +kernel
theorem dX8_count_80 : decode cX8_count 80 = .ok (.ireturn, 1) := by decide +kernel
theorem dX8_count_81 : decode cX8_count 81 = .ok (.aload_n 0, 1) := by decide +kernel
theorem dX8_count_82 : decode cX8_count 82 = .ok (.getfield 300, 3) := by decide +kernel
theorem dX8_count_85 : decode cX8_count 85 = .ok (.ireturn, 1) := by decide +kernel
theorem dX8_count_86 : decode cX8_count 86 = .ok (.aload_n 0, 1) := by decide +kernel
theorem dX8_count_87 : decode cX8_count 87 = .ok (.iconst (-1), 1) := by decide +kernel
theorem dX8_count_88 : decode cX8_count 88 = .ok (.invokevirtual 227, 3) := by decide +kernel
theorem dX8_count_91 : decode cX8_count 91 = .ok (.ireturn, 1) := by decide +kernel
theorem dX8_count_92 : decode cX8_count 92 = .ok (.iconst 0, 1) := by decide +kernel
theorem dX8_count_93 : decode cX8_count 93 = .ok (.istore_n 3, 1) := by decide +kernel
theorem dX8_count_94 : decode cX8_count 94 = .ok (.iload_n 3, 1) := by decide +kernel
theorem dX8_count_95 : decode cX8_count 95 = .ok (.aload_n 0, 1) := by decide +kernel
theorem dX8_count_96 : decode cX8_count 96 = .ok (.invokevirtual 80, 3) := by decide +kernel
theorem dX8_count_99 : decode cX8_count 99 = .ok (.if_icmp .ge 20, 3) := by decide +kernel
theorem dX8_count_102 : decode cX8_count 102 = .ok (.aload_n 0, 1) := by decide +kernel
theorem dX8_count_103 : decode cX8_count 103 = .ok (.iload_n 3, 1) := by decide +kernel
theorem dX8_count_104 : decode cX8_count 104 = .ok (.invokevirtual 236, 3) := by decide +kernel
theorem dX8_count_107 : decode cX8_count 107 = .ok (.ifCond .ne 6, 3) := by decide +kernel
theorem dX8_count_110 : decode cX8_count 110 = .ok (.iinc 2 1, 3) := by decide +kernel
theorem dX8_count_113 : decode cX8_count 113 = .ok (.iinc 3 1, 3) := by decide +kernel
theorem dX8_count_116 : decode cX8_count 116 = .ok (.goto (-22), 3) := by decide +kernel
theorem dX8_count_119 : decode cX8_count 119 = .ok (.iload_n 2, 1) := by decide +kernel
theorem dX8_count_120 : decode cX8_count 120 = .ok (.ireturn, 1) := by decide +kernel
theorem dX8_count_121 : decode cX8_count 121 = .ok (.iconst 0, 1) := by decide +kernel
theorem dX8_count_122 : decode cX8_count 122 = .ok (.istore_n 3, 1) := by decide +kernel
theorem dX8_count_123 : decode cX8_count 123 = .ok (.iload_n 3, 1) := by decide +kernel
theorem dX8_count_124 : decode cX8_count 124 = .ok (.aload_n 0, 1) := by decide +kernel
theorem dX8_count_125 : decode cX8_count 125 = .ok (.invokevirtual 80, 3) := by decide +kernel
theorem dX8_count_128 : decode cX8_count 128 = .ok (.if_icmp .ge 17, 3) := by decide +kernel
theorem dX8_count_131 : decode cX8_count 131 = .ok (.iload_n 2, 1) := by decide +kernel
theorem dX8_count_132 : decode cX8_count 132 = .ok (.aload_n 0, 1) := by decide +kernel
theorem dX8_count_133 : decode cX8_count 133 = .ok (.iload_n 3, 1) := by decide +kernel
theorem dX8_count_134 : decode cX8_count 134 = .ok (.invokevirtual 91, 3) := by decide +kernel
theorem dX8_count_137 : decode cX8_count 137 = .ok (.ior, 1) := by decide +kernel
theorem dX8_count_138 : decode cX8_count 138 = .ok (.istore_n 2, 1) := by decide +kernel
theorem dX8_count_139 : decode cX8_count 139 = .ok (.iinc 3 1, 3) := by decide +kernel
theorem dX8_count_142 : decode cX8_count 142 = .ok (.goto (-19), 3) := by decide +kernel
theorem dX8_count_145 : decode cX8_count 145 = .ok (.iload_n 2, 1) := by decide +kernel
theorem dX8_count_146 : decode cX8_count 146 = .ok (.ireturn, 1) := by decide +kernel
theorem dX8_count_147 : decode cX8_count 147 = .ok (.iconst (-1), 1) := by decide +kernel
theorem dX8_count_148 : decode cX8_count 148 = .ok (.ireturn, 1) := by decide +kernel
theorem dX8_feed_0 : decode cX8_feed 0 = .ok (.aload_n 0, 1) := by decide +kernel
theorem dX8_feed_1 : decode cX8_feed 1 = .ok (.getfield 300, 3) := by decide +kernel
theorem dX8_feed_4 : decode cX8_feed 4 = .ok (.bipush 20, 2) := by decide +kernel
theorem dX8_feed_6 : decode cX8_feed 6 = .ok (.iadd, 1) := by decide +kernel
theorem dX8_feed_7 : decode cX8_feed 7 = .ok (.sipush 700, 3) := by decide +kernel
theorem dX8_feed_10 : decode cX8_feed 10 = .ok (.if_icmp .le 5, 3) := by decide +kernel
theorem dX8_feed_13 : decode cX8_feed 13 = .ok (.iconst (-1), 1) := by decide +kernel
theorem dX8_feed_14 : decode cX8_feed 14 = .ok (.ireturn, 1) := by decide +kernel
theorem dX8_feed_15 : decode cX8_feed 15 = .ok (.iconst 0, 1) := by decide +kernel
theorem dX8_feed_16 : decode cX8_feed 16 = .ok (.istore 6, 2) := by decide +kernel
theorem dX8_feed_18 : decode cX8_feed 18 = .ok (.iload 6, 2) := by decide +kernel
theorem dX8_feed_20 : decode cX8_feed 20 = .ok (.bipush 20, 2) := by decide +kernel
theorem dX8_feed_22 : decode cX8_feed 22 = .ok (.if_icmp .ge 93, 3) := by decide +kernel
theorem dX8_feed_25 : decode cX8_feed 25 = .ok (.iload 6, 2) := by decide +kernel
theorem dX8_feed_27 : decode cX8_feed 27 = .ok (.iconst 4, 1) := by decide +kernel
theorem dX8_feed_28 : decode cX8_feed 28 = .ok (.if_icmp .ge 7, 3) := by decide +kernel
theorem dX8_feed_31 : decode cX8_feed 31 = .ok (.iload_n 1, 1) := by decide +kernel
theorem dX8_feed_32 : decode cX8_feed 32 = .ok (.goto 39, 3) := by decide +kernel
theorem dX8_feed_35 : decode cX8_feed 35 = .ok (.iload 6, 2) := by decide +kernel
theorem dX8_feed_37 : decode cX8_feed 37 = .ok (.bipush 8, 2) := by decide +kernel
theorem dX8_feed_39 : decode cX8_feed 39 = .ok (.if_icmp .ge 7, 3) := by decide +kernel
theorem dX8_feed_42 : decode cX8_feed 42 = .ok (.iload_n 2, 1) := by decide +kernel
theorem dX8_feed_43 : decode cX8_feed 43 = .ok (.goto 28, 3) := by decide +kernel
theorem dX8_feed_46 : decode cX8_feed 46 = .ok (.iload 6, 2) := by decide +kernel
theorem dX8_feed_48 : decode cX8_feed 48 = .ok (.bipush 12, 2) := by decide +kernel
theorem dX8_feed_50 : decode cX8_feed 50 = .ok (.if_icmp .ge 7, 3) := by decide +kernel
theorem dX8_feed_53 : decode cX8_feed 53 = .ok (.iload_n 3, 1) := by decide +kernel
theorem dX8_feed_54 : decode cX8_feed 54 = .ok (.goto 17, 3) := by decide +kernel
theorem dX8_feed_57 : decode cX8_feed 57 = .ok (.iload 6, 2) := by decide +kernel
theorem dX8_feed_59 : decode cX8_feed 59 = .ok (.bipush 16, 2) := by decide +kernel
theorem dX8_feed_61 : decode cX8_feed 61 = .ok (.if_icmp .ge 8, 3) := by decide +kernel
theorem dX8_feed_64 : decode cX8_feed 64 = .ok (.iload 4, 2) := by decide +kernel
theorem dX8_feed_66 : decode cX8_feed 66 = .ok (.goto 5, 3) := by decide +kernel
theorem dX8_feed_69 : decode cX8_feed 69 = .ok (.iload 5, 2) := by decide +kernel
theorem dX8_feed_71 : decode cX8_feed 71 = .ok (.istore 7, 2) := by decide +kernel
theorem dX8_feed_73 : decode cX8_feed 73 = .ok (.aload_n 0, 1) := by decide +kernel
theorem dX8_feed_74 : decode cX8_feed 74 = .ok (.getfield 66, 3) := by decide +kernel
theorem dX8_feed_77 : decode cX8_feed 77 = .ok (.aload_n 0, 1) := by decide +kernel
theorem dX8_feed_78 : decode cX8_feed 78 = .ok (.getfield 300, 3) := by decide +kernel
theorem dX8_feed_81 : decode cX8_feed 81 = .ok (.iload 7, 2) := by decide +kernel
theorem dX8_feed_83 : decode cX8_feed 83 = .ok (.bipush 24, 2) := by decide +kernel
theorem dX8_feed_85 : decode cX8_feed 85 = .ok (.bipush 8, 2) := by decide +kernel
theorem dX8_feed_87 : decode cX8_feed 87 = .ok (.iload 6, 2) := by decide +kernel
theorem dX8_feed_89 : decode cX8_feed 89 = .ok (.iconst 4, 1) := by decide +kernel
theorem dX8_feed_90 : decode cX8_feed 90 = .ok (.irem, 1) := by decide +kernel
theorem dX8_feed_91 : decode cX8_feed 91 = .ok (.imul, 1) := by decide +kernel
theorem dX8_feed_92 : decode cX8_feed 92 = .ok (.isub, 1) := by decide +kernel
theorem dX8_feed_93 : decode cX8_feed 93 = .ok (.ishr, 1) := by decide +kernel
theorem dX8_feed_94 : decode cX8_feed 94 = .ok (.sipush 255, 3) := by decide +kernel
theorem dX8_feed_97 : decode cX8_feed 97 = .ok (.iand, 1) := by decide +kernel
theorem dX8_feed_98 : decode cX8_feed 98 = .ok (.iastore, 1) := by decide +kernel
theorem dX8_feed_99 : decode cX8_feed 99 = .ok (.aload_n 0, 1) := by decide +kernel
theorem dX8_feed_100 : decode cX8_feed 100 = .ok (.dup, 1) := by decide +kernel
theorem dX8_feed_101 : decode cX8_feed 101 = .ok (.getfield 300, 3) := by decide +kernel
theorem dX8_feed_104 : decode cX8_feed 104 = .ok (.iconst 1, 1) := by decide +kernel
theorem dX8_feed_105 : decode cX8_feed 105 = .ok (.iadd, 1) := by decide +kernel
theorem dX8_feed_106 : decode cX8_feed 106 = .ok (.putfield 300, 3) := by decide +kernel
theorem dX8_feed_109 : decode cX8_feed 109 = .ok (.iinc 6 1, 3) := by decide +kernel
theorem dX8_feed_112 : decode cX8_feed 112 = .ok (.goto (-94), 3) := by decide +kernel
theorem dX8_feed_115 : decode cX8_feed 115 = .ok (.aload_n 0, 1) := by decide +kernel
theorem dX8_feed_116 : decode cX8_feed 116 = .ok (.getfield 300, 3) := by decide +kernel
theorem dX8_feed_119 : decode cX8_feed 119 = .ok (.ireturn, 1) := by decide +kernel
theorem dX8_back_0 : decode cX8_back 0 = .ok (.iload_n 1, 1) := by decide +kernel
theorem dX8_back_1 : decode cX8_back 1 = .ok (.iconst 0, 1) := by decide +kernel
theorem dX8_back_2 : decode cX8_back 2 = .ok (.aload_n 0, 1) := by decide +kernel
theorem dX8_back_3 : decode cX8_back 3 = .ok (.getfield 300, 3) := by decide +kernel
theorem dX8_back_6 : decode cX8_back 6 = .ok (.invokestatic 84, 3) := by decide +kernel
theorem dX8_back_9 : decode cX8_back 9 = .ok (.ifCond .ne 5, 3) := by decide +kernel
theorem dX8_back_12 : decode cX8_back 12 = .ok (.iconst (-1), 1) := by decide +kernel
theorem dX8_back_13 : decode cX8_back 13 = .ok (.ireturn, 1) := by decide +kernel
theorem dX8_back_14 : decode cX8_back 14 = .ok (.aload_n 0, 1) := by decide +kernel
theorem dX8_back_15 : decode cX8_back 15 = .ok (.dup, 1) := by decide +kernel
theorem dX8_back_16 : decode cX8_back 16 = .ok (.getfield 300, 3) := by decide +kernel
theorem dX8_back_19 : decode cX8_back 19 = .ok (.iload_n 1, 1) := by decide +kernel
theorem dX8_back_20 : decode cX8_back 20 = .ok (.isub, 1) := by decide +kernel
theorem dX8_back_21 : decode cX8_back 21 = .ok (.putfield 300, 3) := by decide +kernel
theorem dX8_back_24 : decode cX8_back 24 = .ok (.aload_n 0, 1) := by decide +kernel
theorem dX8_back_25 : decode cX8_back 25 = .ok (.getfield 300, 3) := by decide +kernel
theorem dX8_back_28 : decode cX8_back 28 = .ok (.ireturn, 1) := by decide +kernel
theorem dX8_wordFrom_0 : decode cX8_wordFrom 0 = .ok (.iconst 0, 1) := by decide +kernel
theorem dX8_wordFrom_1 : decode cX8_wordFrom 1 = .ok (.istore_n 2, 1) := by decide +kernel
theorem dX8_wordFrom_2 : decode cX8_wordFrom 2 = .ok (.iload_n 1, 1) := by decide +kernel
theorem dX8_wordFrom_3 : decode cX8_wordFrom 3 = .ok (.istore_n 3, 1) := by decide +kernel
theorem dX8_wordFrom_4 : decode cX8_wordFrom 4 = .ok (.iload_n 3, 1) := by decide +kernel
theorem dX8_wordFrom_5 : decode cX8_wordFrom 5 = .ok (.ifCond .le 21, 3) := by decide +kernel
theorem dX8_wordFrom_8 : decode cX8_wordFrom 8 = .ok (.aload_n 0, 1) := by decide +kernel
theorem dX8_wordFrom_9 : decode cX8_wordFrom 9 = .ok (.getfield 69, 3) := by decide +kernel
theorem dX8_wordFrom_12 : decode cX8_wordFrom 12 = .ok (.iload_n 2, 1) := by decide +kernel
theorem dX8_wordFrom_13 : decode cX8_wordFrom 13 = .ok (.baload, 1) := by decide +kernel
theorem dX8_wordFrom_14 : decode cX8_wordFrom 14 = .ok (.ifCond .ne 6, 3) := by decide +kernel
theorem dX8_wordFrom_17 : decode cX8_wordFrom 17 = .ok (.iinc 3 (-1), 3) := by decide +kernel
theorem dX8_wordFrom_20 : decode cX8_wordFrom 20 = .ok (.iinc 2 1, 3) := by decide +kernel
theorem dX8_wordFrom_23 : decode cX8_wordFrom 23 = .ok (.goto (-19), 3) := by decide +kernel
theorem dX8_wordFrom_26 : decode cX8_wordFrom 26 = .ok (.iload_n 2, 1) := by decide +kernel
theorem dX8_wordFrom_27 : decode cX8_wordFrom 27 = .ok (.ireturn, 1) := by decide +kernel
theorem dX8_here_0 : decode cX8_here 0 = .ok (.aload_n 0, 1) := by decide +kernel
theorem dX8_here_1 : decode cX8_here 1 = .ok (.getfield 303, 3) := by decide +kernel
theorem dX8_here_4 : decode cX8_here 4 = .ok (.aload_n 0, 1) := by decide +kernel
theorem dX8_here_5 : decode cX8_here 5 = .ok (.getfield 300, 3) := by decide +kernel
theorem dX8_here_8 : decode cX8_here 8 = .ok (.if_icmp .ge 15, 3) := by decide +kernel
theorem dX8_here_11 : decode cX8_here 11 = .ok (.aload_n 0, 1) := by decide +kernel
theorem dX8_here_12 : decode cX8_here 12 = .ok (.getfield 66, 3) := by decide +kernel
theorem dX8_here_15 : decode cX8_here 15 = .ok (.aload_n 0, 1) := by decide +kernel
theorem dX8_here_16 : decode cX8_here 16 = .ok (.getfield 303, 3) := by decide +kernel
theorem dX8_here_19 : decode cX8_here 19 = .ok (.iaload, 1) := by decide +kernel
theorem dX8_here_20 : decode cX8_here 20 = .ok (.goto 4, 3) := by decide +kernel
theorem dX8_here_23 : decode cX8_here 23 = .ok (.iconst (-1), 1) := by decide +kernel
theorem dX8_here_24 : decode cX8_here 24 = .ok (.ireturn, 1) := by decide +kernel
theorem dX8_goesOn_0 : decode cX8_goesOn 0 = .ok (.aload_n 0, 1) := by decide +kernel
theorem dX8_goesOn_1 : decode cX8_goesOn 1 = .ok (.getfield 306, 3) := by decide +kernel
theorem dX8_goesOn_4 : decode cX8_goesOn 4 = .ok (.istore_n 1, 1) := by decide +kernel
theorem dX8_goesOn_5 : decode cX8_goesOn 5 = .ok (.aload_n 0, 1) := by decide +kernel
theorem dX8_goesOn_6 : decode cX8_goesOn 6 = .ok (.getfield 303, 3) := by decide +kernel
theorem dX8_goesOn_9 : decode cX8_goesOn 9 = .ok (.istore_n 2, 1) := by decide +kernel
theorem dX8_goesOn_10 : decode cX8_goesOn 10 = .ok (.aload_n 0, 1) := by decide +kernel
theorem dX8_goesOn_11 : decode cX8_goesOn 11 = .ok (.invokevirtual 309, 3) := by decide +kernel
theorem dX8_goesOn_14 : decode cX8_goesOn 14 = .ok (.bipush 32, 2) := by decide +kernel
theorem dX8_goesOn_16 : decode cX8_goesOn 16 = .ok (.if_icmp .eq 12, 3) := by decide +kernel
theorem dX8_goesOn_19 : decode cX8_goesOn 19 = .ok (.aload_n 0, 1) := by decide +kernel
theorem dX8_goesOn_20 : decode cX8_goesOn 20 = .ok (.invokevirtual 309, 3) := by decide +kernel
theorem dX8_goesOn_23 : decode cX8_goesOn 23 = .ok (.bipush 10, 2) := by decide +kernel
theorem dX8_goesOn_25 : decode cX8_goesOn 25 = .ok (.if_icmp .ne 16, 3) := by decide +kernel
theorem dX8_goesOn_28 : decode cX8_goesOn 28 = .ok (.aload_n 0, 1) := by decide +kernel
theorem dX8_goesOn_29 : decode cX8_goesOn 29 = .ok (.dup, 1) := by decide +kernel
theorem dX8_goesOn_30 : decode cX8_goesOn 30 = .ok (.getfield 303, 3) := by decide +kernel
theorem dX8_goesOn_33 : decode cX8_goesOn 33 = .ok (.iconst 1, 1) := by decide +kernel
theorem dX8_goesOn_34 : decode cX8_goesOn 34 = .ok (.iadd, 1) := by decide +kernel
theorem dX8_goesOn_35 : decode cX8_goesOn 35 = .ok (.putfield 303, 3) := by decide +kernel
theorem dX8_goesOn_38 : decode cX8_goesOn 38 = .ok (.goto (-28), 3) := by decide +kernel
theorem dX8_goesOn_41 : decode cX8_goesOn 41 = .ok (.aload_n 0, 1) := by decide +kernel
theorem dX8_goesOn_42 : decode cX8_goesOn 42 = .ok (.aload_n 0, 1) := by decide +kernel
theorem dX8_goesOn_43 : decode cX8_goesOn 43 = .ok (.getfield 303, 3) := by decide +kernel
theorem dX8_goesOn_46 : decode cX8_goesOn 46 = .ok (.putfield 312, 3) := by decide +kernel
theorem dX8_goesOn_49 : decode cX8_goesOn 49 = .ok (.aload_n 0, 1) := by decide +kernel
theorem dX8_goesOn_50 : decode cX8_goesOn 50 = .ok (.getfield 312, 3) := by decide +kernel
theorem dX8_goesOn_53 : decode cX8_goesOn 53 = .ok (.iload_n 2, 1) := by decide +kernel
theorem dX8_goesOn_54 : decode cX8_goesOn 54 = .ok (.if_icmp .ne 17, 3) := by decide +kernel
theorem dX8_goesOn_57 : decode cX8_goesOn 57 = .ok (.iload_n 1, 1) := by decide +kernel
theorem dX8_goesOn_58 : decode cX8_goesOn 58 = .ok (.iconst 1, 1) := by decide +kernel
theorem dX8_goesOn_59 : decode cX8_goesOn 59 = .ok (.if_icmp .eq 8, 3) := by decide +kernel
theorem dX8_goesOn_62 : decode cX8_goesOn 62 = .ok (.iload_n 1, 1) := by decide +kernel
theorem dX8_goesOn_63 : decode cX8_goesOn 63 = .ok (.iconst 2, 1) := by decide +kernel
theorem dX8_goesOn_64 : decode cX8_goesOn 64 = .ok (.if_icmp .ne 7, 3) := by decide +kernel
theorem dX8_goesOn_67 : decode cX8_goesOn 67 = .ok (.iconst 1, 1) := by decide +kernel
theorem dX8_goesOn_68 : decode cX8_goesOn 68 = .ok (.goto 4, 3) := by decide +kernel
theorem dX8_goesOn_71 : decode cX8_goesOn 71 = .ok (.iconst 0, 1) := by decide +kernel
theorem dX8_goesOn_72 : decode cX8_goesOn 72 = .ok (.istore_n 3, 1) := by decide +kernel
theorem dX8_goesOn_73 : decode cX8_goesOn 73 = .ok (.aload_n 0, 1) := by decide +kernel
theorem dX8_goesOn_74 : decode cX8_goesOn 74 = .ok (.invokevirtual 309, 3) := by decide +kernel
theorem dX8_goesOn_77 : decode cX8_goesOn 77 = .ok (.istore 4, 2) := by decide +kernel
theorem dX8_goesOn_79 : decode cX8_goesOn 79 = .ok (.iload 4, 2) := by decide +kernel
theorem dX8_goesOn_81 : decode cX8_goesOn 81 = .ok (.iconst (-1), 1) := by decide +kernel
theorem dX8_goesOn_82 : decode cX8_goesOn 82 = .ok (.if_icmp .ne 11, 3) := by decide +kernel
theorem dX8_goesOn_85 : decode cX8_goesOn 85 = .ok (.aload_n 0, 1) := by decide +kernel
theorem dX8_goesOn_86 : decode cX8_goesOn 86 = .ok (.iconst 0, 1) := by decide +kernel
theorem dX8_goesOn_87 : decode cX8_goesOn 87 = .ok (.putfield 306, 3) := by decide +kernel
theorem dX8_goesOn_90 : decode cX8_goesOn 90 = .ok (.goto 189, 3) := by decide +kernel
theorem dX8_goesOn_93 : decode cX8_goesOn 93 = .ok (.iload 4, 2) := by decide +kernel
theorem dX8_goesOn_95 : decode cX8_goesOn 95 = .ok (.bipush 97, 2) := by decide +kernel
theorem dX8_goesOn_97 : decode cX8_goesOn 97 = .ok (.bipush 122, 2) := by decide +kernel
theorem dX8_goesOn_99 : decode cX8_goesOn 99 = .ok (.invokestatic 84, 3) := by decide +kernel
theorem dX8_goesOn_102 : decode cX8_goesOn 102 = .ok (.ifCond .eq 46, 3) := by decide +kernel
theorem dX8_goesOn_105 : decode cX8_goesOn 105 = .ok (.aload_n 0, 1) := by decide +kernel
theorem dX8_goesOn_106 : decode cX8_goesOn 106 = .ok (.invokevirtual 309, 3) := by decide +kernel
theorem dX8_goesOn_109 : decode cX8_goesOn 109 = .ok (.bipush 97, 2) := by decide +kernel
theorem dX8_goesOn_111 : decode cX8_goesOn 111 = .ok (.bipush 122, 2) := by decide +kernel
theorem dX8_goesOn_113 : decode cX8_goesOn 113 = .ok (.invokestatic 84, 3) := by decide +kernel
theorem dX8_goesOn_116 : decode cX8_goesOn 116 = .ok (.ifCond .eq 16, 3) := by decide +kernel
theorem dX8_goesOn_119 : decode cX8_goesOn 119 = .ok (.aload_n 0, 1) := by decide +kernel
theorem dX8_goesOn_120 : decode cX8_goesOn 120 = .ok (.dup, 1) := by decide +kernel
theorem dX8_goesOn_121 : decode cX8_goesOn 121 = .ok (.getfield 303, 3) := by decide +kernel
theorem dX8_goesOn_124 : decode cX8_goesOn 124 = .ok (.iconst 1, 1) := by decide +kernel
theorem dX8_goesOn_125 : decode cX8_goesOn 125 = .ok (.iadd, 1) := by decide +kernel
theorem dX8_goesOn_126 : decode cX8_goesOn 126 = .ok (.putfield 303, 3) := by decide +kernel
theorem dX8_goesOn_129 : decode cX8_goesOn 129 = .ok (.goto (-24), 3) := by decide +kernel
theorem dX8_goesOn_132 : decode cX8_goesOn 132 = .ok (.aload_n 0, 1) := by decide +kernel
theorem dX8_goesOn_133 : decode cX8_goesOn 133 = .ok (.iload_n 3, 1) := by decide +kernel
theorem dX8_goesOn_134 : decode cX8_goesOn 134 = .ok (.ifCond .eq 7, 3) := by decide +kernel
theorem dX8_goesOn_137 : decode cX8_goesOn 137 = .ok (.iconst 4, 1) := by decide +kernel
theorem dX8_goesOn_138 : decode cX8_goesOn 138 = .ok (.goto 4, 3) := by decide +kernel
theorem dX8_goesOn_141 : decode cX8_goesOn 141 = .ok (.iconst 1, 1) := by decide +kernel
theorem dX8_goesOn_142 : decode cX8_goesOn 142 = .ok (.putfield 306, 3) := by decide +kernel
theorem dX8_goesOn_145 : decode cX8_goesOn 145 = .ok (.goto 134, 3) := by decide +kernel
theorem dX8_goesOn_148 : decode cX8_goesOn 148 = .ok (.iload 4, 2) := by decide +kernel
theorem dX8_goesOn_150 : decode cX8_goesOn 150 = .ok (.bipush 48, 2) := by decide +kernel
theorem dX8_goesOn_152 : decode cX8_goesOn 152 = .ok (.bipush 57, 2) := by decide +kernel
theorem dX8_goesOn_154 : decode cX8_goesOn 154 = .ok (.invokestatic 84, 3) := by decide +kernel
theorem dX8_goesOn_157 : decode cX8_goesOn 157 = .ok (.ifCond .eq 96, 3) := by decide +kernel
theorem dX8_goesOn_160 : decode cX8_goesOn 160 = .ok (.aload_n 0, 1) := by decide +kernel
theorem dX8_goesOn_161 : decode cX8_goesOn 161 = .ok (.iconst 0, 1) := by decide +kernel
theorem dX8_goesOn_162 : decode cX8_goesOn 162 = .ok (.putfield 315, 3) := by decide +kernel
theorem dX8_goesOn_165 : decode cX8_goesOn 165 = .ok (.aload_n 0, 1) := by decide +kernel
theorem dX8_goesOn_166 : decode cX8_goesOn 166 = .ok (.invokevirtual 309, 3) := by decide +kernel
theorem dX8_goesOn_169 : decode cX8_goesOn 169 = .ok (.bipush 48, 2) := by decide +kernel
theorem dX8_goesOn_171 : decode cX8_goesOn 171 = .ok (.bipush 57, 2) := by decide +kernel
theorem dX8_goesOn_173 : decode cX8_goesOn 173 = .ok (.invokestatic 84, 3) := by decide +kernel
theorem dX8_goesOn_176 : decode cX8_goesOn 176 = .ok (.ifCond .eq 48, 3) := by decide +kernel
theorem dX8_goesOn_179 : decode cX8_goesOn 179 = .ok (.aload_n 0, 1) := by decide +kernel
theorem dX8_goesOn_180 : decode cX8_goesOn 180 = .ok (.getfield 303, 3) := by decide +kernel
theorem dX8_goesOn_183 : decode cX8_goesOn 183 = .ok (.aload_n 0, 1) := by decide +kernel
theorem dX8_goesOn_184 : decode cX8_goesOn 184 = .ok (.getfield 312, 3) := by decide +kernel
theorem dX8_goesOn_187 : decode cX8_goesOn 187 = .ok (.isub, 1) := by decide +kernel
theorem dX8_goesOn_188 : decode cX8_goesOn 188 = .ok (.iconst 2, 1) := by decide +kernel
theorem dX8_goesOn_189 : decode cX8_goesOn 189 = .ok (.if_icmp .ge 22, 3) := by decide +kernel
theorem dX8_goesOn_192 : decode cX8_goesOn 192 = .ok (.aload_n 0, 1) := by decide +kernel
theorem dX8_goesOn_193 : decode cX8_goesOn 193 = .ok (.bipush 10, 2) := by decide +kernel
theorem dX8_goesOn_195 : decode cX8_goesOn 195 = .ok (.aload_n 0, 1) := by decide +kernel
theorem dX8_goesOn_196 : decode cX8_goesOn 196 = .ok (.getfield 315, 3) := by decide +kernel
theorem dX8_goesOn_199 : decode cX8_goesOn 199 = .ok (.imul, 1) := by decide +kernel
theorem dX8_goesOn_200 : decode cX8_goesOn 200 = .ok (.aload_n 0, 1) := by decide +kernel
theorem dX8_goesOn_201 : decode cX8_goesOn 201 = .ok (.invokevirtual 309, 3) := by decide +kernel
theorem dX8_goesOn_204 : decode cX8_goesOn 204 = .ok (.iadd, 1) := by decide +kernel
theorem dX8_goesOn_205 : decode cX8_goesOn 205 = .ok (.bipush 48, 2) := by decide +kernel
theorem dX8_goesOn_207 : decode cX8_goesOn 207 = .ok (.isub, 1) := by decide +kernel
theorem dX8_goesOn_208 : decode cX8_goesOn 208 = .ok (.putfield 315, 3) := by decide +kernel
theorem dX8_goesOn_211 : decode cX8_goesOn 211 = .ok (.aload_n 0, 1) := by decide +kernel
theorem dX8_goesOn_212 : decode cX8_goesOn 212 = .ok (.dup, 1) := by decide +kernel
theorem dX8_goesOn_213 : decode cX8_goesOn 213 = .ok (.getfield 303, 3) := by decide +kernel
theorem dX8_goesOn_216 : decode cX8_goesOn 216 = .ok (.iconst 1, 1) := by decide +kernel
theorem dX8_goesOn_217 : decode cX8_goesOn 217 = .ok (.iadd, 1) := by decide +kernel
theorem dX8_goesOn_218 : decode cX8_goesOn 218 = .ok (.putfield 303, 3) := by decide +kernel
theorem dX8_goesOn_221 : decode cX8_goesOn 221 = .ok (.goto (-56), 3) := by decide +kernel
theorem dX8_goesOn_224 : decode cX8_goesOn 224 = .ok (.aload_n 0, 1) := by decide +kernel
theorem dX8_goesOn_225 : decode cX8_goesOn 225 = .ok (.iload_n 3, 1) := by decide +kernel
theorem dX8_goesOn_226 : decode cX8_goesOn 226 = .ok (.ifCond .ne 16, 3) := by decide +kernel
theorem dX8_goesOn_229 : decode cX8_goesOn 229 = .ok (.aload_n 0, 1) := by decide +kernel
theorem dX8_goesOn_230 : decode cX8_goesOn 230 = .ok (.getfield 303, 3) := by decide +kernel
theorem dX8_goesOn_233 : decode cX8_goesOn 233 = .ok (.aload_n 0, 1) := by decide +kernel
theorem dX8_goesOn_234 : decode cX8_goesOn 234 = .ok (.getfield 312, 3) := by decide +kernel
theorem dX8_goesOn_237 : decode cX8_goesOn 237 = .ok (.isub, 1) := by decide +kernel
theorem dX8_goesOn_238 : decode cX8_goesOn 238 = .ok (.iconst 2, 1) := by decide +kernel
theorem dX8_goesOn_239 : decode cX8_goesOn 239 = .ok (.if_icmp .le 7, 3) := by decide +kernel
theorem dX8_goesOn_242 : decode cX8_goesOn 242 = .ok (.iconst 4, 1) := by decide +kernel
theorem dX8_goesOn_243 : decode cX8_goesOn 243 = .ok (.goto 4, 3) := by decide +kernel
theorem dX8_goesOn_246 : decode cX8_goesOn 246 = .ok (.iconst 2, 1) := by decide +kernel
theorem dX8_goesOn_247 : decode cX8_goesOn 247 = .ok (.putfield 306, 3) := by decide +kernel
theorem dX8_goesOn_250 : decode cX8_goesOn 250 = .ok (.goto 29, 3) := by decide +kernel
theorem dX8_goesOn_253 : decode cX8_goesOn 253 = .ok (.aload_n 0, 1) := by decide +kernel
theorem dX8_goesOn_254 : decode cX8_goesOn 254 = .ok (.dup, 1) := by decide +kernel
theorem dX8_goesOn_255 : decode cX8_goesOn 255 = .ok (.getfield 303, 3) := by decide +kernel
theorem dX8_goesOn_258 : decode cX8_goesOn 258 = .ok (.iconst 1, 1) := by decide +kernel
theorem dX8_goesOn_259 : decode cX8_goesOn 259 = .ok (.iadd, 1) := by decide +kernel
theorem dX8_goesOn_260 : decode cX8_goesOn 260 = .ok (.putfield 303, 3) := by decide +kernel
theorem dX8_goesOn_263 : decode cX8_goesOn 263 = .ok (.aload_n 0, 1) := by decide +kernel
theorem dX8_goesOn_264 : decode cX8_goesOn 264 = .ok (.iload 4, 2) := by decide +kernel
theorem dX8_goesOn_266 : decode cX8_goesOn 266 = .ok (.bipush 59, 2) := by decide +kernel
theorem dX8_goesOn_268 : decode cX8_goesOn 268 = .ok (.if_icmp .ne 7, 3) := by decide +kernel
theorem dX8_goesOn_271 : decode cX8_goesOn 271 = .ok (.iconst 3, 1) := by decide +kernel
theorem dX8_goesOn_272 : decode cX8_goesOn 272 = .ok (.goto 4, 3) := by decide +kernel
theorem dX8_goesOn_275 : decode cX8_goesOn 275 = .ok (.iconst 4, 1) := by decide +kernel
theorem dX8_goesOn_276 : decode cX8_goesOn 276 = .ok (.putfield 306, 3) := by decide +kernel
theorem dX8_goesOn_279 : decode cX8_goesOn 279 = .ok (.return_, 1) := by decide +kernel
theorem dX8_takesWord_0 : decode cX8_takesWord 0 = .ok (.aload_n 0, 1) := by decide +kernel
theorem dX8_takesWord_1 : decode cX8_takesWord 1 = .ok (.getfield 318, 3) := by decide +kernel
theorem dX8_takesWord_4 : decode cX8_takesWord 4 = .ok (.ifCond .ne 11, 3) := by decide +kernel
theorem dX8_takesWord_7 : decode cX8_takesWord 7 = .ok (.aload_n 0, 1) := by decide +kernel
theorem dX8_takesWord_8 : decode cX8_takesWord 8 = .ok (.getfield 306, 3) := by decide +kernel
theorem dX8_takesWord_11 : decode cX8_takesWord 11 = .ok (.iconst 1, 1) := by decide +kernel
theorem dX8_takesWord_12 : decode cX8_takesWord 12 = .ok (.if_icmp .eq 5, 3) := by decide +kernel
theorem dX8_takesWord_15 : decode cX8_takesWord 15 = .ok (.iconst 0, 1) := by decide +kernel
theorem dX8_takesWord_16 : decode cX8_takesWord 16 = .ok (.ireturn, 1) := by decide +kernel
theorem dX8_takesWord_17 : decode cX8_takesWord 17 = .ok (.aload_n 0, 1) := by decide +kernel
theorem dX8_takesWord_18 : decode cX8_takesWord 18 = .ok (.iload_n 1, 1) := by decide +kernel
theorem dX8_takesWord_19 : decode cX8_takesWord 19 = .ok (.invokevirtual 282, 3) := by decide +kernel
theorem dX8_takesWord_22 : decode cX8_takesWord 22 = .ok (.istore_n 2, 1) := by decide +kernel
theorem dX8_takesWord_23 : decode cX8_takesWord 23 = .ok (.iconst 0, 1) := by decide +kernel
theorem dX8_takesWord_24 : decode cX8_takesWord 24 = .ok (.istore_n 3, 1) := by decide +kernel
theorem dX8_takesWord_25 : decode cX8_takesWord 25 = .ok (.aload_n 0, 1) := by decide +kernel
theorem dX8_takesWord_26 : decode cX8_takesWord 26 = .ok (.getfield 312, 3) := by decide +kernel
theorem dX8_takesWord_29 : decode cX8_takesWord 29 = .ok (.iload_n 3, 1) := by decide +kernel
theorem dX8_takesWord_30 : decode cX8_takesWord 30 = .ok (.iadd, 1) := by decide +kernel
theorem dX8_takesWord_31 : decode cX8_takesWord 31 = .ok (.aload_n 0, 1) := by decide +kernel
theorem dX8_takesWord_32 : decode cX8_takesWord 32 = .ok (.getfield 303, 3) := by decide +kernel
theorem dX8_takesWord_35 : decode cX8_takesWord 35 = .ok (.if_icmp .ge 31, 3) := by decide +kernel
theorem dX8_takesWord_38 : decode cX8_takesWord 38 = .ok (.aload_n 0, 1) := by decide +kernel
theorem dX8_takesWord_39 : decode cX8_takesWord 39 = .ok (.getfield 69, 3) := by decide +kernel
theorem dX8_takesWord_42 : decode cX8_takesWord 42 = .ok (.iload_n 2, 1) := by decide +kernel
theorem dX8_takesWord_43 : decode cX8_takesWord 43 = .ok (.iload_n 3, 1) := by decide +kernel
theorem dX8_takesWord_44 : decode cX8_takesWord 44 = .ok (.iadd, 1) := by decide +kernel
theorem dX8_takesWord_45 : decode cX8_takesWord 45 = .ok (.baload, 1) := by decide +kernel
theorem dX8_takesWord_46 : decode cX8_takesWord 46 = .ok (.aload_n 0, 1) := by decide +kernel
theorem dX8_takesWord_47 : decode cX8_takesWord 47 = .ok (.getfield 66, 3) := by decide +kernel
theorem dX8_takesWord_50 : decode cX8_takesWord 50 = .ok (.aload_n 0, 1) := by decide +kernel
theorem dX8_takesWord_51 : decode cX8_takesWord 51 = .ok (.getfield 312, 3) := by decide +kernel
theorem dX8_takesWord_54 : decode cX8_takesWord 54 = .ok (.iload_n 3, 1) := by decide +kernel
theorem dX8_takesWord_55 : decode cX8_takesWord 55 = .ok (.iadd, 1) := by decide +kernel
theorem dX8_takesWord_56 : decode cX8_takesWord 56 = .ok (.iaload, 1) := by decide +kernel
theorem dX8_takesWord_57 : decode cX8_takesWord 57 = .ok (.if_icmp .ne 9, 3) := by decide +kernel
theorem dX8_takesWord_60 : decode cX8_takesWord 60 = .ok (.iinc 3 1, 3) := by decide +kernel
theorem dX8_takesWord_63 : decode cX8_takesWord 63 = .ok (.goto (-38), 3) := by decide +kernel
theorem dX8_takesWord_66 : decode cX8_takesWord 66 = .ok (.aload_n 0, 1) := by decide +kernel
theorem dX8_takesWord_67 : decode cX8_takesWord 67 = .ok (.getfield 312, 3) := by decide +kernel
theorem dX8_takesWord_70 : decode cX8_takesWord 70 = .ok (.iload_n 3, 1) := by decide +kernel
theorem dX8_takesWord_71 : decode cX8_takesWord 71 = .ok (.iadd, 1) := by decide +kernel
theorem dX8_takesWord_72 : decode cX8_takesWord 72 = .ok (.aload_n 0, 1) := by decide +kernel
theorem dX8_takesWord_73 : decode cX8_takesWord 73 = .ok (.getfield 303, 3) := by decide +kernel
theorem dX8_takesWord_76 : decode cX8_takesWord 76 = .ok (.if_icmp .ne 14, 3) := by decide +kernel
theorem dX8_takesWord_79 : decode cX8_takesWord 79 = .ok (.aload_n 0, 1) := by decide +kernel
theorem dX8_takesWord_80 : decode cX8_takesWord 80 = .ok (.getfield 69, 3) := by decide +kernel
theorem dX8_takesWord_83 : decode cX8_takesWord 83 = .ok (.iload_n 2, 1) := by decide +kernel
theorem dX8_takesWord_84 : decode cX8_takesWord 84 = .ok (.iload_n 3, 1) := by decide +kernel
theorem dX8_takesWord_85 : decode cX8_takesWord 85 = .ok (.iadd, 1) := by decide +kernel
theorem dX8_takesWord_86 : decode cX8_takesWord 86 = .ok (.baload, 1) := by decide +kernel
theorem dX8_takesWord_87 : decode cX8_takesWord 87 = .ok (.ifCond .eq 5, 3) := by decide +kernel
theorem dX8_takesWord_90 : decode cX8_takesWord 90 = .ok (.iconst 0, 1) := by decide +kernel
theorem dX8_takesWord_91 : decode cX8_takesWord 91 = .ok (.ireturn, 1) := by decide +kernel
theorem dX8_takesWord_92 : decode cX8_takesWord 92 = .ok (.aload_n 0, 1) := by decide +kernel
theorem dX8_takesWord_93 : decode cX8_takesWord 93 = .ok (.invokevirtual 322, 3) := by decide +kernel
theorem dX8_takesWord_96 : decode cX8_takesWord 96 = .ok (.iconst 1, 1) := by decide +kernel
theorem dX8_takesWord_97 : decode cX8_takesWord 97 = .ok (.ireturn, 1) := by decide +kernel
theorem dX8_needsNumber_0 : decode cX8_needsNumber 0 = .ok (.aload_n 0, 1) := by decide +kernel
theorem dX8_needsNumber_1 : decode cX8_needsNumber 1 = .ok (.getfield 318, 3) := by decide +kernel
theorem dX8_needsNumber_4 : decode cX8_needsNumber 4 = .ok (.ifCond .ne 23, 3) := by decide +kernel
theorem dX8_needsNumber_7 : decode cX8_needsNumber 7 = .ok (.aload_n 0, 1) := by decide +kernel
theorem dX8_needsNumber_8 : decode cX8_needsNumber 8 = .ok (.getfield 306, 3) := by decide +kernel
theorem dX8_needsNumber_11 : decode cX8_needsNumber 11 = .ok (.iconst 2, 1) := by decide +kernel
theorem dX8_needsNumber_12 : decode cX8_needsNumber 12 = .ok (.if_icmp .ne 15, 3) := by decide +kernel
theorem dX8_needsNumber_15 : decode cX8_needsNumber 15 = .ok (.aload_n 0, 1) := by decide +kernel
theorem dX8_needsNumber_16 : decode cX8_needsNumber 16 = .ok (.getfield 315, 3) := by decide +kernel
theorem dX8_needsNumber_19 : decode cX8_needsNumber 19 = .ok (.iload_n 1, 1) := by decide +kernel
theorem dX8_needsNumber_20 : decode cX8_needsNumber 20 = .ok (.iload_n 2, 1) := by decide +kernel
theorem dX8_needsNumber_21 : decode cX8_needsNumber 21 = .ok (.invokestatic 84, 3) := by decide +kernel
theorem dX8_needsNumber_24 : decode cX8_needsNumber 24 = .ok (.ifCond .ne 10, 3) := by decide +kernel
theorem dX8_needsNumber_27 : decode cX8_needsNumber 27 = .ok (.aload_n 0, 1) := by decide +kernel
theorem dX8_needsNumber_28 : decode cX8_needsNumber 28 = .ok (.iconst 1, 1) := by decide +kernel
theorem dX8_needsNumber_29 : decode cX8_needsNumber 29 = .ok (.putfield 318, 3) := by decide +kernel
theorem dX8_needsNumber_32 : decode cX8_needsNumber 32 = .ok (.iconst 0, 1) := by decide +kernel
theorem dX8_needsNumber_33 : decode cX8_needsNumber 33 = .ok (.ireturn, 1) := by decide +kernel
theorem dX8_needsNumber_34 : decode cX8_needsNumber 34 = .ok (.aload_n 0, 1) := by decide +kernel
theorem dX8_needsNumber_35 : decode cX8_needsNumber 35 = .ok (.getfield 315, 3) := by decide +kernel
theorem dX8_needsNumber_38 : decode cX8_needsNumber 38 = .ok (.istore_n 3, 1) := by decide +kernel
theorem dX8_needsNumber_39 : decode cX8_needsNumber 39 = .ok (.aload_n 0, 1) := by decide +kernel
theorem dX8_needsNumber_40 : decode cX8_needsNumber 40 = .ok (.invokevirtual 322, 3) := by decide +kernel
theorem dX8_needsNumber_43 : decode cX8_needsNumber 43 = .ok (.iload_n 3, 1) := by decide +kernel
theorem dX8_needsNumber_44 : decode cX8_needsNumber 44 = .ok (.ireturn, 1) := by decide +kernel
theorem dX8_isRoom_0 : decode cX8_isRoom 0 = .ok (.aload_n 0, 1) := by decide +kernel
theorem dX8_isRoom_1 : decode cX8_isRoom 1 = .ok (.getfield 17, 3) := by decide +kernel
theorem dX8_isRoom_4 : decode cX8_isRoom 4 = .ok (.iload_n 1, 1) := by decide +kernel
theorem dX8_isRoom_5 : decode cX8_isRoom 5 = .ok (.iaload, 1) := by decide +kernel
theorem dX8_isRoom_6 : decode cX8_isRoom 6 = .ok (.iload_n 2, 1) := by decide +kernel
theorem dX8_isRoom_7 : decode cX8_isRoom 7 = .ok (.if_icmp .ge 5, 3) := by decide +kernel
theorem dX8_isRoom_10 : decode cX8_isRoom 10 = .ok (.iconst 1, 1) := by decide +kernel
theorem dX8_isRoom_11 : decode cX8_isRoom 11 = .ok (.ireturn, 1) := by decide +kernel
theorem dX8_isRoom_12 : decode cX8_isRoom 12 = .ok (.aload_n 0, 1) := by decide +kernel
theorem dX8_isRoom_13 : decode cX8_isRoom 13 = .ok (.iload_n 3, 1) := by decide +kernel
theorem dX8_isRoom_14 : decode cX8_isRoom 14 = .ok (.putfield 312, 3) := by decide +kernel
theorem dX8_isRoom_17 : decode cX8_isRoom 17 = .ok (.aload_n 0, 1) := by decide +kernel
theorem dX8_isRoom_18 : decode cX8_isRoom 18 = .ok (.iconst 1, 1) := by decide +kernel
theorem dX8_isRoom_19 : decode cX8_isRoom 19 = .ok (.putfield 318, 3) := by decide +kernel
theorem dX8_isRoom_22 : decode cX8_isRoom 22 = .ok (.iconst 0, 1) := by decide +kernel
theorem dX8_isRoom_23 : decode cX8_isRoom 23 = .ok (.ireturn, 1) := by decide +kernel
theorem dX8_readsFleet_0 : decode cX8_readsFleet 0 = .ok (.aload_n 0, 1) := by decide +kernel
theorem dX8_readsFleet_1 : decode cX8_readsFleet 1 = .ok (.iconst 2, 1) := by decide +kernel
theorem dX8_readsFleet_2 : decode cX8_readsFleet 2 = .ok (.bipush 8, 2) := by decide +kernel
theorem dX8_readsFleet_4 : decode cX8_readsFleet 4 = .ok (.iload_n 1, 1) := by decide +kernel
theorem dX8_readsFleet_5 : decode cX8_readsFleet 5 = .ok (.invokevirtual 325, 3) := by decide +kernel
theorem dX8_readsFleet_8 : decode cX8_readsFleet 8 = .ok (.ifCond .ne 4, 3) := by decide +kernel
theorem dX8_readsFleet_11 : decode cX8_readsFleet 11 = .ok (.return_, 1) := by decide +kernel
theorem dX8_readsFleet_12 : decode cX8_readsFleet 12 = .ok (.iconst 4, 1) := by decide +kernel
theorem dX8_readsFleet_13 : decode cX8_readsFleet 13 = .ok (.iconst 2, 1) := by decide +kernel
theorem dX8_readsFleet_14 : decode cX8_readsFleet 14 = .ok (.aload_n 0, 1) := by decide +kernel
theorem dX8_readsFleet_15 : decode cX8_readsFleet 15 = .ok (.getfield 17, 3) := by decide +kernel
theorem dX8_readsFleet_18 : decode cX8_readsFleet 18 = .ok (.iconst 2, 1) := by decide +kernel
theorem dX8_readsFleet_19 : decode cX8_readsFleet 19 = .ok (.iaload, 1) := by decide +kernel
theorem dX8_readsFleet_20 : decode cX8_readsFleet 20 = .ok (.imul, 1) := by decide +kernel
theorem dX8_readsFleet_21 : decode cX8_readsFleet 21 = .ok (.iadd, 1) := by decide +kernel
theorem dX8_readsFleet_22 : decode cX8_readsFleet 22 = .ok (.istore_n 2, 1) := by decide +kernel
theorem dX8_readsFleet_23 : decode cX8_readsFleet 23 = .ok (.aload_n 0, 1) := by decide +kernel
theorem dX8_readsFleet_24 : decode cX8_readsFleet 24 = .ok (.getfield 17, 3) := by decide +kernel
theorem dX8_readsFleet_27 : decode cX8_readsFleet 27 = .ok (.iload_n 2, 1) := by decide +kernel
theorem dX8_readsFleet_28 : decode cX8_readsFleet 28 = .ok (.aload_n 0, 1) := by decide +kernel
theorem dX8_readsFleet_29 : decode cX8_readsFleet 29 = .ok (.iconst 0, 1) := by decide +kernel
theorem dX8_readsFleet_30 : decode cX8_readsFleet 30 = .ok (.iconst 2, 1) := by decide +kernel
theorem dX8_readsFleet_31 : decode cX8_readsFleet 31 = .ok (.invokevirtual 328, 3) := by decide +kernel
theorem dX8_readsFleet_34 : decode cX8_readsFleet 34 = .ok (.iastore, 1) := by decide +kernel
theorem dX8_readsFleet_35 : decode cX8_readsFleet 35 = .ok (.iconst 0, 1) := by decide +kernel
theorem dX8_readsFleet_36 : decode cX8_readsFleet 36 = .ok (.istore_n 3, 1) := by decide +kernel
theorem dX8_readsFleet_37 : decode cX8_readsFleet 37 = .ok (.aload_n 0, 1) := by decide +kernel
theorem dX8_readsFleet_38 : decode cX8_readsFleet 38 = .ok (.getfield 318, 3) := by decide +kernel
theorem dX8_readsFleet_41 : decode cX8_readsFleet 41 = .ok (.ifCond .ne 25, 3) := by decide +kernel
theorem dX8_readsFleet_44 : decode cX8_readsFleet 44 = .ok (.aload_n 0, 1) := by decide +kernel
theorem dX8_readsFleet_45 : decode cX8_readsFleet 45 = .ok (.getfield 306, 3) := by decide +kernel
theorem dX8_readsFleet_48 : decode cX8_readsFleet 48 = .ok (.iconst 2, 1) := by decide +kernel
theorem dX8_readsFleet_49 : decode cX8_readsFleet 49 = .ok (.if_icmp .ne 17, 3) := by decide +kernel
theorem dX8_readsFleet_52 : decode cX8_readsFleet 52 = .ok (.iload_n 3, 1) := by decide +kernel
theorem dX8_readsFleet_53 : decode cX8_readsFleet 53 = .ok (.iconst 1, 1) := by decide +kernel
theorem dX8_readsFleet_54 : decode cX8_readsFleet 54 = .ok (.aload_n 0, 1) := by decide +kernel
theorem dX8_readsFleet_55 : decode cX8_readsFleet 55 = .ok (.iconst 0, 1) := by decide +kernel
theorem dX8_readsFleet_56 : decode cX8_readsFleet 56 = .ok (.iconst 4, 1) := by decide +kernel
theorem dX8_readsFleet_57 : decode cX8_readsFleet 57 = .ok (.invokevirtual 328, 3) := by decide +kernel
theorem dX8_readsFleet_60 : decode cX8_readsFleet 60 = .ok (.ishl, 1) := by decide +kernel
theorem dX8_readsFleet_61 : decode cX8_readsFleet 61 = .ok (.ior, 1) := by decide +kernel
theorem dX8_readsFleet_62 : decode cX8_readsFleet 62 = .ok (.istore_n 3, 1) := by decide +kernel
theorem dX8_readsFleet_63 : decode cX8_readsFleet 63 = .ok (.goto (-26), 3) := by decide +kernel
theorem dX8_readsFleet_66 : decode cX8_readsFleet 66 = .ok (.aload_n 0, 1) := by decide +kernel
theorem dX8_readsFleet_67 : decode cX8_readsFleet 67 = .ok (.getfield 17, 3) := by decide +kernel
theorem dX8_readsFleet_70 : decode cX8_readsFleet 70 = .ok (.iload_n 2, 1) := by decide +kernel
theorem dX8_readsFleet_71 : decode cX8_readsFleet 71 = .ok (.iconst 1, 1) := by decide +kernel
theorem dX8_readsFleet_72 : decode cX8_readsFleet 72 = .ok (.iadd, 1) := by decide +kernel
theorem dX8_readsFleet_73 : decode cX8_readsFleet 73 = .ok (.iload_n 3, 1) := by decide +kernel
theorem dX8_readsFleet_74 : decode cX8_readsFleet 74 = .ok (.iastore, 1) := by decide +kernel
theorem dX8_readsFleet_75 : decode cX8_readsFleet 75 = .ok (.aload_n 0, 1) := by decide +kernel
theorem dX8_readsFleet_76 : decode cX8_readsFleet 76 = .ok (.getfield 17, 3) := by decide +kernel
theorem dX8_readsFleet_79 : decode cX8_readsFleet 79 = .ok (.iconst 2, 1) := by decide +kernel
theorem dX8_readsFleet_80 : decode cX8_readsFleet 80 = .ok (.dup2, 1) := by decide +kernel
theorem dX8_readsFleet_81 : decode cX8_readsFleet 81 = .ok (.iaload, 1) := by decide +kernel
theorem dX8_readsFleet_82 : decode cX8_readsFleet 82 = .ok (.iconst 1, 1) := by decide +kernel
theorem dX8_readsFleet_83 : decode cX8_readsFleet 83 = .ok (.iadd, 1) := by decide +kernel
theorem dX8_readsFleet_84 : decode cX8_readsFleet 84 = .ok (.iastore, 1) := by decide +kernel
theorem dX8_readsFleet_85 : decode cX8_readsFleet 85 = .ok (.return_, 1) := by decide +kernel
theorem dX8_mayBeIn_0 : decode cX8_mayBeIn 0 = .ok (.iload_n 2, 1) := by decide +kernel
theorem dX8_mayBeIn_1 : decode cX8_mayBeIn 1 = .ok (.invokestatic 131, 3) := by decide +kernel
theorem dX8_mayBeIn_4 : decode cX8_mayBeIn 4 = .ok (.ifCond .eq 22, 3) := by decide +kernel
theorem dX8_mayBeIn_7 : decode cX8_mayBeIn 7 = .ok (.aload_n 0, 1) := by decide +kernel
theorem dX8_mayBeIn_8 : decode cX8_mayBeIn 8 = .ok (.getfield 17, 3) := by decide +kernel
theorem dX8_mayBeIn_11 : decode cX8_mayBeIn 11 = .ok (.iconst 4, 1) := by decide +kernel
theorem dX8_mayBeIn_12 : decode cX8_mayBeIn 12 = .ok (.iconst 2, 1) := by decide +kernel
theorem dX8_mayBeIn_13 : decode cX8_mayBeIn 13 = .ok (.iload_n 1, 1) := by decide +kernel
theorem dX8_mayBeIn_14 : decode cX8_mayBeIn 14 = .ok (.imul, 1) := by decide +kernel
theorem dX8_mayBeIn_15 : decode cX8_mayBeIn 15 = .ok (.iadd, 1) := by decide +kernel
theorem dX8_mayBeIn_16 : decode cX8_mayBeIn 16 = .ok (.iconst 1, 1) := by decide +kernel
theorem dX8_mayBeIn_17 : decode cX8_mayBeIn 17 = .ok (.iadd, 1) := by decide +kernel
theorem dX8_mayBeIn_18 : decode cX8_mayBeIn 18 = .ok (.iaload, 1) := by decide +kernel
theorem dX8_mayBeIn_19 : decode cX8_mayBeIn 19 = .ok (.iload_n 2, 1) := by decide +kernel
theorem dX8_mayBeIn_20 : decode cX8_mayBeIn 20 = .ok (.ishr, 1) := by decide +kernel
theorem dX8_mayBeIn_21 : decode cX8_mayBeIn 21 = .ok (.iconst 1, 1) := by decide +kernel
theorem dX8_mayBeIn_22 : decode cX8_mayBeIn 22 = .ok (.iand, 1) := by decide +kernel
theorem dX8_mayBeIn_23 : decode cX8_mayBeIn 23 = .ok (.ifCond .ne 5, 3) := by decide +kernel
theorem dX8_mayBeIn_26 : decode cX8_mayBeIn 26 = .ok (.iconst 0, 1) := by decide +kernel
theorem dX8_mayBeIn_27 : decode cX8_mayBeIn 27 = .ok (.ireturn, 1) := by decide +kernel
theorem dX8_mayBeIn_28 : decode cX8_mayBeIn 28 = .ok (.iconst 0, 1) := by decide +kernel
theorem dX8_mayBeIn_29 : decode cX8_mayBeIn 29 = .ok (.istore_n 3, 1) := by decide +kernel
theorem dX8_mayBeIn_30 : decode cX8_mayBeIn 30 = .ok (.iconst 0, 1) := by decide +kernel
theorem dX8_mayBeIn_31 : decode cX8_mayBeIn 31 = .ok (.istore 4, 2) := by decide +kernel
theorem dX8_mayBeIn_33 : decode cX8_mayBeIn 33 = .ok (.iload 4, 2) := by decide +kernel
theorem dX8_mayBeIn_35 : decode cX8_mayBeIn 35 = .ok (.aload_n 0, 1) := by decide +kernel
theorem dX8_mayBeIn_36 : decode cX8_mayBeIn 36 = .ok (.getfield 17, 3) := by decide +kernel
theorem dX8_mayBeIn_39 : decode cX8_mayBeIn 39 = .ok (.iconst 3, 1) := by decide +kernel
theorem dX8_mayBeIn_40 : decode cX8_mayBeIn 40 = .ok (.iaload, 1) := by decide +kernel
theorem dX8_mayBeIn_41 : decode cX8_mayBeIn 41 = .ok (.if_icmp .ge 46, 3) := by decide +kernel
theorem dX8_mayBeIn_44 : decode cX8_mayBeIn 44 = .ok (.aload_n 0, 1) := by decide +kernel
theorem dX8_mayBeIn_45 : decode cX8_mayBeIn 45 = .ok (.getfield 17, 3) := by decide +kernel
theorem dX8_mayBeIn_48 : decode cX8_mayBeIn 48 = .ok (.bipush 20, 2) := by decide +kernel
theorem dX8_mayBeIn_50 : decode cX8_mayBeIn 50 = .ok (.iconst 3, 1) := by decide +kernel
theorem dX8_mayBeIn_51 : decode cX8_mayBeIn 51 = .ok (.iload 4, 2) := by decide +kernel
theorem dX8_mayBeIn_53 : decode cX8_mayBeIn 53 = .ok (.imul, 1) := by decide +kernel
theorem dX8_mayBeIn_54 : decode cX8_mayBeIn 54 = .ok (.iadd, 1) := by decide +kernel
theorem dX8_mayBeIn_55 : decode cX8_mayBeIn 55 = .ok (.iaload, 1) := by decide +kernel
theorem dX8_mayBeIn_56 : decode cX8_mayBeIn 56 = .ok (.iload_n 1, 1) := by decide +kernel
theorem dX8_mayBeIn_57 : decode cX8_mayBeIn 57 = .ok (.if_icmp .ne 24, 3) := by decide +kernel
theorem dX8_mayBeIn_60 : decode cX8_mayBeIn 60 = .ok (.aload_n 0, 1) := by decide +kernel
theorem dX8_mayBeIn_61 : decode cX8_mayBeIn 61 = .ok (.getfield 17, 3) := by decide +kernel
theorem dX8_mayBeIn_64 : decode cX8_mayBeIn 64 = .ok (.bipush 20, 2) := by decide +kernel
theorem dX8_mayBeIn_66 : decode cX8_mayBeIn 66 = .ok (.iconst 3, 1) := by decide +kernel
theorem dX8_mayBeIn_67 : decode cX8_mayBeIn 67 = .ok (.iload 4, 2) := by decide +kernel
theorem dX8_mayBeIn_69 : decode cX8_mayBeIn 69 = .ok (.imul, 1) := by decide +kernel
theorem dX8_mayBeIn_70 : decode cX8_mayBeIn 70 = .ok (.iadd, 1) := by decide +kernel
theorem dX8_mayBeIn_71 : decode cX8_mayBeIn 71 = .ok (.iconst 1, 1) := by decide +kernel
theorem dX8_mayBeIn_72 : decode cX8_mayBeIn 72 = .ok (.iadd, 1) := by decide +kernel
theorem dX8_mayBeIn_73 : decode cX8_mayBeIn 73 = .ok (.iaload, 1) := by decide +kernel
theorem dX8_mayBeIn_74 : decode cX8_mayBeIn 74 = .ok (.iload_n 2, 1) := by decide +kernel
theorem dX8_mayBeIn_75 : decode cX8_mayBeIn 75 = .ok (.if_icmp .ne 6, 3) := by decide +kernel
theorem dX8_mayBeIn_78 : decode cX8_mayBeIn 78 = .ok (.iinc 3 1, 3) := by decide +kernel
theorem dX8_mayBeIn_81 : decode cX8_mayBeIn 81 = .ok (.iinc 4 1, 3) := by decide +kernel
theorem dX8_mayBeIn_84 : decode cX8_mayBeIn 84 = .ok (.goto (-51), 3) := by decide +kernel
theorem dX8_mayBeIn_87 : decode cX8_mayBeIn 87 = .ok (.iload_n 3, 1) := by decide +kernel
theorem dX8_mayBeIn_88 : decode cX8_mayBeIn 88 = .ok (.iconst 4, 1) := by decide +kernel
theorem dX8_mayBeIn_89 : decode cX8_mayBeIn 89 = .ok (.if_icmp .ge 7, 3) := by decide +kernel
theorem dX8_mayBeIn_92 : decode cX8_mayBeIn 92 = .ok (.iconst 1, 1) := by decide +kernel
theorem dX8_mayBeIn_93 : decode cX8_mayBeIn 93 = .ok (.goto 4, 3) := by decide +kernel
theorem dX8_mayBeIn_96 : decode cX8_mayBeIn 96 = .ok (.iconst 0, 1) := by decide +kernel
theorem dX8_mayBeIn_97 : decode cX8_mayBeIn 97 = .ok (.ireturn, 1) := by decide +kernel
theorem dX8_readsClaim_0 : decode cX8_readsClaim 0 = .ok (.aload_n 0, 1) := by decide +kernel
theorem dX8_readsClaim_1 : decode cX8_readsClaim 1 = .ok (.iconst 3, 1) := by decide +kernel
theorem dX8_readsClaim_2 : decode cX8_readsClaim 2 = .ok (.bipush 40, 2) := by decide +kernel
theorem dX8_readsClaim_4 : decode cX8_readsClaim 4 = .ok (.iload_n 1, 1) := by decide +kernel
theorem dX8_readsClaim_5 : decode cX8_readsClaim 5 = .ok (.invokevirtual 325, 3) := by decide +kernel
theorem dX8_readsClaim_8 : decode cX8_readsClaim 8 = .ok (.ifCond .ne 4, 3) := by decide +kernel
theorem dX8_readsClaim_11 : decode cX8_readsClaim 11 = .ok (.return_, 1) := by decide +kernel
theorem dX8_readsClaim_12 : decode cX8_readsClaim 12 = .ok (.bipush 20, 2) := by decide +kernel
theorem dX8_readsClaim_14 : decode cX8_readsClaim 14 = .ok (.iconst 3, 1) := by decide +kernel
theorem dX8_readsClaim_15 : decode cX8_readsClaim 15 = .ok (.aload_n 0, 1) := by decide +kernel
theorem dX8_readsClaim_16 : decode cX8_readsClaim 16 = .ok (.getfield 17, 3) := by decide +kernel
theorem dX8_readsClaim_19 : decode cX8_readsClaim 19 = .ok (.iconst 3, 1) := by decide +kernel
theorem dX8_readsClaim_20 : decode cX8_readsClaim 20 = .ok (.iaload, 1) := by decide +kernel
theorem dX8_readsClaim_21 : decode cX8_readsClaim 21 = .ok (.imul, 1) := by decide +kernel
theorem dX8_readsClaim_22 : decode cX8_readsClaim 22 = .ok (.iadd, 1) := by decide +kernel
theorem dX8_readsClaim_23 : decode cX8_readsClaim 23 = .ok (.istore_n 2, 1) := by decide +kernel
theorem dX8_readsClaim_24 : decode cX8_readsClaim 24 = .ok (.aload_n 0, 1) := by decide +kernel
theorem dX8_readsClaim_25 : decode cX8_readsClaim 25 = .ok (.getfield 17, 3) := by decide +kernel
theorem dX8_readsClaim_28 : decode cX8_readsClaim 28 = .ok (.iload_n 2, 1) := by decide +kernel
theorem dX8_readsClaim_29 : decode cX8_readsClaim 29 = .ok (.aload_n 0, 1) := by decide +kernel
theorem dX8_readsClaim_30 : decode cX8_readsClaim 30 = .ok (.iconst 0, 1) := by decide +kernel
theorem dX8_readsClaim_31 : decode cX8_readsClaim 31 = .ok (.aload_n 0, 1) := by decide +kernel
theorem dX8_readsClaim_32 : decode cX8_readsClaim 32 = .ok (.getfield 17, 3) := by decide +kernel
theorem dX8_readsClaim_35 : decode cX8_readsClaim 35 = .ok (.iconst 2, 1) := by decide +kernel
theorem dX8_readsClaim_36 : decode cX8_readsClaim 36 = .ok (.iaload, 1) := by decide +kernel
theorem dX8_readsClaim_37 : decode cX8_readsClaim 37 = .ok (.iconst 1, 1) := by decide +kernel
theorem dX8_readsClaim_38 : decode cX8_readsClaim 38 = .ok (.isub, 1) := by decide +kernel
theorem dX8_readsClaim_39 : decode cX8_readsClaim 39 = .ok (.invokevirtual 328, 3) := by decide +kernel
theorem dX8_readsClaim_42 : decode cX8_readsClaim 42 = .ok (.iastore, 1) := by decide +kernel
theorem dX8_readsClaim_43 : decode cX8_readsClaim 43 = .ok (.aload_n 0, 1) := by decide +kernel
theorem dX8_readsClaim_44 : decode cX8_readsClaim 44 = .ok (.getfield 318, 3) := by decide +kernel
theorem dX8_readsClaim_47 : decode cX8_readsClaim 47 = .ok (.ifCond .ne 28, 3) := by decide +kernel
theorem dX8_readsClaim_50 : decode cX8_readsClaim 50 = .ok (.aload_n 0, 1) := by decide +kernel
theorem dX8_readsClaim_51 : decode cX8_readsClaim 51 = .ok (.getfield 306, 3) := by decide +kernel
theorem dX8_readsClaim_54 : decode cX8_readsClaim 54 = .ok (.iconst 2, 1) := by decide +kernel
theorem dX8_readsClaim_55 : decode cX8_readsClaim 55 = .ok (.if_icmp .ne 20, 3) := by decide +kernel
theorem dX8_readsClaim_58 : decode cX8_readsClaim 58 = .ok (.aload_n 0, 1) := by decide +kernel
theorem dX8_readsClaim_59 : decode cX8_readsClaim 59 = .ok (.aload_n 0, 1) := by decide +kernel
theorem dX8_readsClaim_60 : decode cX8_readsClaim 60 = .ok (.getfield 17, 3) := by decide +kernel
theorem dX8_readsClaim_63 : decode cX8_readsClaim 63 = .ok (.iload_n 2, 1) := by decide +kernel
theorem dX8_readsClaim_64 : decode cX8_readsClaim 64 = .ok (.iaload, 1) := by decide +kernel
theorem dX8_readsClaim_65 : decode cX8_readsClaim 65 = .ok (.aload_n 0, 1) := by decide +kernel
theorem dX8_readsClaim_66 : decode cX8_readsClaim 66 = .ok (.getfield 315, 3) := by decide +kernel
theorem dX8_readsClaim_69 : decode cX8_readsClaim 69 = .ok (.invokevirtual 331, 3) := by decide +kernel
theorem dX8_readsClaim_72 : decode cX8_readsClaim 72 = .ok (.ifCond .ne 9, 3) := by decide +kernel
theorem dX8_readsClaim_75 : decode cX8_readsClaim 75 = .ok (.aload_n 0, 1) := by decide +kernel
theorem dX8_readsClaim_76 : decode cX8_readsClaim 76 = .ok (.iconst 1, 1) := by decide +kernel
theorem dX8_readsClaim_77 : decode cX8_readsClaim 77 = .ok (.putfield 318, 3) := by decide +kernel
theorem dX8_readsClaim_80 : decode cX8_readsClaim 80 = .ok (.return_, 1) := by decide +kernel
theorem dX8_readsClaim_81 : decode cX8_readsClaim 81 = .ok (.aload_n 0, 1) := by decide +kernel
theorem dX8_readsClaim_82 : decode cX8_readsClaim 82 = .ok (.getfield 17, 3) := by decide +kernel
theorem dX8_readsClaim_85 : decode cX8_readsClaim 85 = .ok (.iload_n 2, 1) := by decide +kernel
theorem dX8_readsClaim_86 : decode cX8_readsClaim 86 = .ok (.iconst 1, 1) := by decide +kernel
theorem dX8_readsClaim_87 : decode cX8_readsClaim 87 = .ok (.iadd, 1) := by decide +kernel
theorem dX8_readsClaim_88 : decode cX8_readsClaim 88 = .ok (.aload_n 0, 1) := by decide +kernel
theorem dX8_readsClaim_89 : decode cX8_readsClaim 89 = .ok (.iconst 0, 1) := by decide +kernel
theorem dX8_readsClaim_90 : decode cX8_readsClaim 90 = .ok (.iconst 4, 1) := by decide +kernel
theorem dX8_readsClaim_91 : decode cX8_readsClaim 91 = .ok (.invokevirtual 328, 3) := by decide +kernel
theorem dX8_readsClaim_94 : decode cX8_readsClaim 94 = .ok (.iastore, 1) := by decide +kernel
theorem dX8_readsClaim_95 : decode cX8_readsClaim 95 = .ok (.aload_n 0, 1) := by decide +kernel
theorem dX8_readsClaim_96 : decode cX8_readsClaim 96 = .ok (.getfield 17, 3) := by decide +kernel
theorem dX8_readsClaim_99 : decode cX8_readsClaim 99 = .ok (.iload_n 2, 1) := by decide +kernel
theorem dX8_readsClaim_100 : decode cX8_readsClaim 100 = .ok (.iconst 2, 1) := by decide +kernel
theorem dX8_readsClaim_101 : decode cX8_readsClaim 101 = .ok (.iadd, 1) := by decide +kernel
theorem dX8_readsClaim_102 : decode cX8_readsClaim 102 = .ok (.aload_n 0, 1) := by decide +kernel
theorem dX8_readsClaim_103 : decode cX8_readsClaim 103 = .ok (.iconst 1, 1) := by decide +kernel
theorem dX8_readsClaim_104 : decode cX8_readsClaim 104 = .ok (.bipush 99, 2) := by decide +kernel
theorem dX8_readsClaim_106 : decode cX8_readsClaim 106 = .ok (.invokevirtual 328, 3) := by decide +kernel
theorem dX8_readsClaim_109 : decode cX8_readsClaim 109 = .ok (.iastore, 1) := by decide +kernel
theorem dX8_readsClaim_110 : decode cX8_readsClaim 110 = .ok (.aload_n 0, 1) := by decide +kernel
theorem dX8_readsClaim_111 : decode cX8_readsClaim 111 = .ok (.getfield 17, 3) := by decide +kernel
theorem dX8_readsClaim_114 : decode cX8_readsClaim 114 = .ok (.iconst 3, 1) := by decide +kernel
theorem dX8_readsClaim_115 : decode cX8_readsClaim 115 = .ok (.dup2, 1) := by decide +kernel
theorem dX8_readsClaim_116 : decode cX8_readsClaim 116 = .ok (.iaload, 1) := by decide +kernel
theorem dX8_readsClaim_117 : decode cX8_readsClaim 117 = .ok (.iconst 1, 1) := by decide +kernel
theorem dX8_readsClaim_118 : decode cX8_readsClaim 118 = .ok (.iadd, 1) := by decide +kernel
theorem dX8_readsClaim_119 : decode cX8_readsClaim 119 = .ok (.iastore, 1) := by decide +kernel
theorem dX8_readsClaim_120 : decode cX8_readsClaim 120 = .ok (.return_, 1) := by decide +kernel
theorem dX8_readsOne_0 : decode cX8_readsOne 0 = .ok (.aload_n 0, 1) := by decide +kernel
theorem dX8_readsOne_1 : decode cX8_readsOne 1 = .ok (.getfield 312, 3) := by decide +kernel
theorem dX8_readsOne_4 : decode cX8_readsOne 4 = .ok (.istore_n 1, 1) := by decide +kernel
theorem dX8_readsOne_5 : decode cX8_readsOne 5 = .ok (.aload_n 0, 1) := by decide +kernel
theorem dX8_readsOne_6 : decode cX8_readsOne 6 = .ok (.iconst 0, 1) := by decide +kernel
theorem dX8_readsOne_7 : decode cX8_readsOne 7 = .ok (.invokevirtual 334, 3) := by decide +kernel
theorem dX8_readsOne_10 : decode cX8_readsOne 10 = .ok (.ifCond .eq 19, 3) := by decide +kernel
theorem dX8_readsOne_13 : decode cX8_readsOne 13 = .ok (.aload_n 0, 1) := by decide +kernel
theorem dX8_readsOne_14 : decode cX8_readsOne 14 = .ok (.getfield 17, 3) := by decide +kernel
theorem dX8_readsOne_17 : decode cX8_readsOne 17 = .ok (.iconst 0, 1) := by decide +kernel
theorem dX8_readsOne_18 : decode cX8_readsOne 18 = .ok (.aload_n 0, 1) := by decide +kernel
theorem dX8_readsOne_19 : decode cX8_readsOne 19 = .ok (.iconst 1, 1) := by decide +kernel
theorem dX8_readsOne_20 : decode cX8_readsOne 20 = .ok (.bipush 99, 2) := by decide +kernel
theorem dX8_readsOne_22 : decode cX8_readsOne 22 = .ok (.invokevirtual 328, 3) := by decide +kernel
theorem dX8_readsOne_25 : decode cX8_readsOne 25 = .ok (.iastore, 1) := by decide +kernel
theorem dX8_readsOne_26 : decode cX8_readsOne 26 = .ok (.goto 64, 3) := by decide +kernel
theorem dX8_readsOne_29 : decode cX8_readsOne 29 = .ok (.aload_n 0, 1) := by decide +kernel
theorem dX8_readsOne_30 : decode cX8_readsOne 30 = .ok (.iconst 1, 1) := by decide +kernel
theorem dX8_readsOne_31 : decode cX8_readsOne 31 = .ok (.invokevirtual 334, 3) := by decide +kernel
theorem dX8_readsOne_34 : decode cX8_readsOne 34 = .ok (.ifCond .eq 19, 3) := by decide +kernel
theorem dX8_readsOne_37 : decode cX8_readsOne 37 = .ok (.aload_n 0, 1) := by decide +kernel
theorem dX8_readsOne_38 : decode cX8_readsOne 38 = .ok (.getfield 17, 3) := by decide +kernel
theorem dX8_readsOne_41 : decode cX8_readsOne 41 = .ok (.iconst 1, 1) := by decide +kernel
theorem dX8_readsOne_42 : decode cX8_readsOne 42 = .ok (.aload_n 0, 1) := by decide +kernel
theorem dX8_readsOne_43 : decode cX8_readsOne 43 = .ok (.iconst 0, 1) := by decide +kernel
theorem dX8_readsOne_44 : decode cX8_readsOne 44 = .ok (.bipush 50, 2) := by decide +kernel
theorem dX8_readsOne_46 : decode cX8_readsOne 46 = .ok (.invokevirtual 328, 3) := by decide +kernel
theorem dX8_readsOne_49 : decode cX8_readsOne 49 = .ok (.iastore, 1) := by decide +kernel
theorem dX8_readsOne_50 : decode cX8_readsOne 50 = .ok (.goto 40, 3) := by decide +kernel
theorem dX8_readsOne_53 : decode cX8_readsOne 53 = .ok (.aload_n 0, 1) := by decide +kernel
theorem dX8_readsOne_54 : decode cX8_readsOne 54 = .ok (.iconst 2, 1) := by decide +kernel
theorem dX8_readsOne_55 : decode cX8_readsOne 55 = .ok (.invokevirtual 334, 3) := by decide +kernel
theorem dX8_readsOne_58 : decode cX8_readsOne 58 = .ok (.ifCond .eq 11, 3) := by decide +kernel
theorem dX8_readsOne_61 : decode cX8_readsOne 61 = .ok (.aload_n 0, 1) := by decide +kernel
theorem dX8_readsOne_62 : decode cX8_readsOne 62 = .ok (.iload_n 1, 1) := by decide +kernel
theorem dX8_readsOne_63 : decode cX8_readsOne 63 = .ok (.invokevirtual 337, 3) := by decide +kernel
theorem dX8_readsOne_66 : decode cX8_readsOne 66 = .ok (.goto 24, 3) := by decide +kernel
theorem dX8_readsOne_69 : decode cX8_readsOne 69 = .ok (.aload_n 0, 1) := by decide +kernel
theorem dX8_readsOne_70 : decode cX8_readsOne 70 = .ok (.iconst 3, 1) := by decide +kernel
theorem dX8_readsOne_71 : decode cX8_readsOne 71 = .ok (.invokevirtual 334, 3) := by decide +kernel
theorem dX8_readsOne_74 : decode cX8_readsOne 74 = .ok (.ifCond .eq 11, 3) := by decide +kernel
theorem dX8_readsOne_77 : decode cX8_readsOne 77 = .ok (.aload_n 0, 1) := by decide +kernel
theorem dX8_readsOne_78 : decode cX8_readsOne 78 = .ok (.iload_n 1, 1) := by decide +kernel
theorem dX8_readsOne_79 : decode cX8_readsOne 79 = .ok (.invokevirtual 340, 3) := by decide +kernel
theorem dX8_readsOne_82 : decode cX8_readsOne 82 = .ok (.goto 8, 3) := by decide +kernel
theorem dX8_readsOne_85 : decode cX8_readsOne 85 = .ok (.aload_n 0, 1) := by decide +kernel
theorem dX8_readsOne_86 : decode cX8_readsOne 86 = .ok (.iconst 1, 1) := by decide +kernel
theorem dX8_readsOne_87 : decode cX8_readsOne 87 = .ok (.putfield 318, 3) := by decide +kernel
theorem dX8_readsOne_90 : decode cX8_readsOne 90 = .ok (.aload_n 0, 1) := by decide +kernel
theorem dX8_readsOne_91 : decode cX8_readsOne 91 = .ok (.getfield 318, 3) := by decide +kernel
theorem dX8_readsOne_94 : decode cX8_readsOne 94 = .ok (.ifCond .eq 4, 3) := by decide +kernel
theorem dX8_readsOne_97 : decode cX8_readsOne 97 = .ok (.return_, 1) := by decide +kernel
theorem dX8_readsOne_98 : decode cX8_readsOne 98 = .ok (.aload_n 0, 1) := by decide +kernel
theorem dX8_readsOne_99 : decode cX8_readsOne 99 = .ok (.getfield 306, 3) := by decide +kernel
theorem dX8_readsOne_102 : decode cX8_readsOne 102 = .ok (.iconst 3, 1) := by decide +kernel
theorem dX8_readsOne_103 : decode cX8_readsOne 103 = .ok (.if_icmp .ne 10, 3) := by decide +kernel
theorem dX8_readsOne_106 : decode cX8_readsOne 106 = .ok (.aload_n 0, 1) := by decide +kernel
theorem dX8_readsOne_107 : decode cX8_readsOne 107 = .ok (.invokevirtual 322, 3) := by decide +kernel
theorem dX8_readsOne_110 : decode cX8_readsOne 110 = .ok (.goto 8, 3) := by decide +kernel
theorem dX8_readsOne_113 : decode cX8_readsOne 113 = .ok (.aload_n 0, 1) := by decide +kernel
theorem dX8_readsOne_114 : decode cX8_readsOne 114 = .ok (.iconst 1, 1) := by decide +kernel
theorem dX8_readsOne_115 : decode cX8_readsOne 115 = .ok (.putfield 318, 3) := by decide +kernel
theorem dX8_readsOne_118 : decode cX8_readsOne 118 = .ok (.return_, 1) := by decide +kernel
theorem dX8_text_0 : decode cX8_text 0 = .ok (.aload_n 0, 1) := by decide +kernel
theorem dX8_text_1 : decode cX8_text 1 = .ok (.getfield 17, 3) := by decide +kernel
theorem dX8_text_4 : decode cX8_text 4 = .ok (.invokestatic 73, 3) := by decide +kernel
theorem dX8_text_7 : decode cX8_text 7 = .ok (.aload_n 0, 1) := by decide +kernel
theorem dX8_text_8 : decode cX8_text 8 = .ok (.iconst 0, 1) := by decide +kernel
theorem dX8_text_9 : decode cX8_text 9 = .ok (.putfield 303, 3) := by decide +kernel
theorem dX8_text_12 : decode cX8_text 12 = .ok (.aload_n 0, 1) := by decide +kernel
theorem dX8_text_13 : decode cX8_text 13 = .ok (.iconst 3, 1) := by decide +kernel
theorem dX8_text_14 : decode cX8_text 14 = .ok (.putfield 306, 3) := by decide +kernel
theorem dX8_text_17 : decode cX8_text 17 = .ok (.aload_n 0, 1) := by decide +kernel
theorem dX8_text_18 : decode cX8_text 18 = .ok (.iconst 0, 1) := by decide +kernel
theorem dX8_text_19 : decode cX8_text 19 = .ok (.putfield 318, 3) := by decide +kernel
theorem dX8_text_22 : decode cX8_text 22 = .ok (.aload_n 0, 1) := by decide +kernel
theorem dX8_text_23 : decode cX8_text 23 = .ok (.invokevirtual 322, 3) := by decide +kernel
theorem dX8_text_26 : decode cX8_text 26 = .ok (.aload_n 0, 1) := by decide +kernel
theorem dX8_text_27 : decode cX8_text 27 = .ok (.getfield 318, 3) := by decide +kernel
theorem dX8_text_30 : decode cX8_text 30 = .ok (.ifCond .ne 17, 3) := by decide +kernel
theorem dX8_text_33 : decode cX8_text 33 = .ok (.aload_n 0, 1) := by decide +kernel
theorem dX8_text_34 : decode cX8_text 34 = .ok (.getfield 306, 3) := by decide +kernel
theorem dX8_text_37 : decode cX8_text 37 = .ok (.ifCond .eq 10, 3) := by decide +kernel
theorem dX8_text_40 : decode cX8_text 40 = .ok (.aload_n 0, 1) := by decide +kernel
theorem dX8_text_41 : decode cX8_text 41 = .ok (.invokevirtual 343, 3) := by decide +kernel
theorem dX8_text_44 : decode cX8_text 44 = .ok (.goto (-18), 3) := by decide +kernel
theorem dX8_text_47 : decode cX8_text 47 = .ok (.aload_n 0, 1) := by decide +kernel
theorem dX8_text_48 : decode cX8_text 48 = .ok (.iconst 0, 1) := by decide +kernel
theorem dX8_text_49 : decode cX8_text 49 = .ok (.putfield 300, 3) := by decide +kernel
theorem dX8_text_52 : decode cX8_text 52 = .ok (.aload_n 0, 1) := by decide +kernel
theorem dX8_text_53 : decode cX8_text 53 = .ok (.getfield 318, 3) := by decide +kernel
theorem dX8_text_56 : decode cX8_text 56 = .ok (.ifCond .eq 11, 3) := by decide +kernel
theorem dX8_text_59 : decode cX8_text 59 = .ok (.bipush (-4), 2) := by decide +kernel
theorem dX8_text_61 : decode cX8_text 61 = .ok (.aload_n 0, 1) := by decide +kernel
theorem dX8_text_62 : decode cX8_text 62 = .ok (.getfield 312, 3) := by decide +kernel
theorem dX8_text_65 : decode cX8_text 65 = .ok (.isub, 1) := by decide +kernel
theorem dX8_text_66 : decode cX8_text 66 = .ok (.ireturn, 1) := by decide +kernel
theorem dX8_text_67 : decode cX8_text 67 = .ok (.iconst 0, 1) := by decide +kernel
theorem dX8_text_68 : decode cX8_text 68 = .ok (.istore_n 1, 1) := by decide +kernel
theorem dX8_text_69 : decode cX8_text 69 = .ok (.iload_n 1, 1) := by decide +kernel
theorem dX8_text_70 : decode cX8_text 70 = .ok (.sipush 140, 3) := by decide +kernel
theorem dX8_text_73 : decode cX8_text 73 = .ok (.if_icmp .ge 21, 3) := by decide +kernel
theorem dX8_text_76 : decode cX8_text 76 = .ok (.aload_n 0, 1) := by decide +kernel
theorem dX8_text_77 : decode cX8_text 77 = .ok (.getfield 13, 3) := by decide +kernel
theorem dX8_text_80 : decode cX8_text 80 = .ok (.iload_n 1, 1) := by decide +kernel
theorem dX8_text_81 : decode cX8_text 81 = .ok (.aload_n 0, 1) := by decide +kernel
theorem dX8_text_82 : decode cX8_text 82 = .ok (.getfield 17, 3) := by decide +kernel
theorem dX8_text_85 : decode cX8_text 85 = .ok (.iload_n 1, 1) := by decide +kernel
theorem dX8_text_86 : decode cX8_text 86 = .ok (.iaload, 1) := by decide +kernel
theorem dX8_text_87 : decode cX8_text 87 = .ok (.iastore, 1) := by decide +kernel
theorem dX8_text_88 : decode cX8_text 88 = .ok (.iinc 1 1, 3) := by decide +kernel
theorem dX8_text_91 : decode cX8_text 91 = .ok (.goto (-22), 3) := by decide +kernel
theorem dX8_text_94 : decode cX8_text 94 = .ok (.aload_n 0, 1) := by decide +kernel
theorem dX8_text_95 : decode cX8_text 95 = .ok (.iconst 0, 1) := by decide +kernel
theorem dX8_text_96 : decode cX8_text 96 = .ok (.putfield 77, 3) := by decide +kernel
theorem dX8_text_99 : decode cX8_text 99 = .ok (.aload_n 0, 1) := by decide +kernel
theorem dX8_text_100 : decode cX8_text 100 = .ok (.invokevirtual 80, 3) := by decide +kernel
theorem dX8_text_103 : decode cX8_text 103 = .ok (.ireturn, 1) := by decide +kernel
