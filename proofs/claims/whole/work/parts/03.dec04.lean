theorem dX12_init_91 : decode cX12_init 91 = .ok (.bipush 97, 2) := by decide +kernel
theorem dX12_init_93 : decode cX12_init 93 = .ok (.castore, 1) := by decide +kernel
theorem dX12_init_94 : decode cX12_init 94 = .ok (.dup, 1) := by decide +kernel
theorem dX12_init_95 : decode cX12_init 95 = .ok (.iconst 3, 1) := by decide +kernel
theorem dX12_init_96 : decode cX12_init 96 = .ok (.bipush 116, 2) := by decide +kernel
theorem dX12_init_98 : decode cX12_init 98 = .ok (.castore, 1) := by decide +kernel
theorem dX12_init_99 : decode cX12_init 99 = .ok (.putfield 27, 3) := by decide +kernel
theorem dX12_init_102 : decode cX12_init 102 = .ok (.aload_n 0, 1) := by decide +kernel
theorem dX12_init_103 : decode cX12_init 103 = .ok (.iconst 5, 1) := by decide +kernel
theorem dX12_init_104 : decode cX12_init 104 = .ok (.newarray .char, 2) := by decide +kernel
theorem dX12_init_106 : decode cX12_init 106 = .ok (.dup, 1) := by decide +kernel
theorem dX12_init_107 : decode cX12_init 107 = .ok (.iconst 0, 1) := by decide +kernel
theorem dX12_init_108 : decode cX12_init 108 = .ok (.bipush 116, 2) := by decide +kernel
theorem dX12_init_110 : decode cX12_init 110 = .ok (.castore, 1) := by decide +kernel
theorem dX12_init_111 : decode cX12_init 111 = .ok (.dup, 1) := by decide +kernel
theorem dX12_init_112 : decode cX12_init 112 = .ok (.iconst 1, 1) := by decide +kernel
theorem dX12_init_113 : decode cX12_init 113 = .ok (.bipush 114, 2) := by decide +kernel
theorem dX12_init_115 : decode cX12_init 115 = .ok (.castore, 1) := by decide +kernel
theorem dX12_init_116 : decode cX12_init 116 = .ok (.dup, 1) := by decide +kernel
theorem dX12_init_117 : decode cX12_init 117 = .ok (.iconst 2, 1) := by decide +kernel
theorem dX12_init_118 : decode cX12_init 118 = .ok (.bipush 117, 2) := by decide +kernel
theorem dX12_init_120 : decode cX12_init 120 = .ok (.castore, 1) := by decide +kernel
theorem dX12_init_121 : decode cX12_init 121 = .ok (.dup, 1) := by decide +kernel
theorem dX12_init_122 : decode cX12_init 122 = .ok (.iconst 3, 1) := by decide +kernel
theorem dX12_init_123 : decode cX12_init 123 = .ok (.bipush 115, 2) := by decide +kernel
theorem dX12_init_125 : decode cX12_init 125 = .ok (.castore, 1) := by decide +kernel
theorem dX12_init_126 : decode cX12_init 126 = .ok (.dup, 1) := by decide +kernel
theorem dX12_init_127 : decode cX12_init 127 = .ok (.iconst 4, 1) := by decide +kernel
theorem dX12_init_128 : decode cX12_init 128 = .ok (.bipush 116, 2) := by decide +kernel
theorem dX12_init_130 : decode cX12_init 130 = .ok (.castore, 1) := by decide +kernel
theorem dX12_init_131 : decode cX12_init 131 = .ok (.putfield 30, 3) := by decide +kernel
theorem dX12_init_134 : decode cX12_init 134 = .ok (.aload_n 0, 1) := by decide +kernel
theorem dX12_init_135 : decode cX12_init 135 = .ok (.iconst 2, 1) := by decide +kernel
theorem dX12_init_136 : decode cX12_init 136 = .ok (.newarray .char, 2) := by decide +kernel
theorem dX12_init_138 : decode cX12_init 138 = .ok (.dup, 1) := by decide +kernel
theorem dX12_init_139 : decode cX12_init 139 = .ok (.iconst 0, 1) := by decide +kernel
theorem dX12_init_140 : decode cX12_init 140 = .ok (.bipush 97, 2) := by decide +kernel
theorem dX12_init_142 : decode cX12_init 142 = .ok (.castore, 1) := by decide +kernel
theorem dX12_init_143 : decode cX12_init 143 = .ok (.dup, 1) := by decide +kernel
theorem dX12_init_144 : decode cX12_init 144 = .ok (.iconst 1, 1) := by decide +kernel
theorem dX12_init_145 : decode cX12_init 145 = .ok (.bipush 116, 2) := by decide +kernel
theorem dX12_init_147 : decode cX12_init 147 = .ok (.castore, 1) := by decide +kernel
theorem dX12_init_148 : decode cX12_init 148 = .ok (.putfield 33, 3) := by decide +kernel
theorem dX12_init_151 : decode cX12_init 151 = .ok (.aload_n 0, 1) := by decide +kernel
theorem dX12_init_152 : decode cX12_init 152 = .ok (.iconst 4, 1) := by decide +kernel
theorem dX12_init_153 : decode cX12_init 153 = .ok (.newarray .char, 2) := by decide +kernel
theorem dX12_init_155 : decode cX12_init 155 = .ok (.dup, 1) := by decide +kernel
theorem dX12_init_156 : decode cX12_init 156 = .ok (.iconst 0, 1) := by decide +kernel
theorem dX12_init_157 : decode cX12_init 157 = .ok (.bipush 104, 2) := by decide +kernel
theorem dX12_init_159 : decode cX12_init 159 = .ok (.castore, 1) := by decide +kernel
theorem dX12_init_160 : decode cX12_init 160 = .ok (.dup, 1) := by decide +kernel
theorem dX12_init_161 : decode cX12_init 161 = .ok (.iconst 1, 1) := by decide +kernel
theorem dX12_init_162 : decode cX12_init 162 = .ok (.bipush 97, 2) := by decide +kernel
theorem dX12_init_164 : decode cX12_init 164 = .ok (.castore, 1) := by decide +kernel
theorem dX12_init_165 : decode cX12_init 165 = .ok (.dup, 1) := by decide +kernel
theorem dX12_init_166 : decode cX12_init 166 = .ok (.iconst 2, 1) := by decide +kernel
theorem dX12_init_167 : decode cX12_init 167 = .ok (.bipush 110, 2) := by decide +kernel
theorem dX12_init_169 : decode cX12_init 169 = .ok (.castore, 1) := by decide +kernel
theorem dX12_init_170 : decode cX12_init 170 = .ok (.dup, 1) := by decide +kernel
theorem dX12_init_171 : decode cX12_init 171 = .ok (.iconst 3, 1) := by decide +kernel
theorem dX12_init_172 : decode cX12_init 172 = .ok (.bipush 100, 2) := by decide +kernel
theorem dX12_init_174 : decode cX12_init 174 = .ok (.castore, 1) := by decide +kernel
theorem dX12_init_175 : decode cX12_init 175 = .ok (.putfield 36, 3) := by decide +kernel
theorem dX12_init_178 : decode cX12_init 178 = .ok (.aload_n 0, 1) := by decide +kernel
theorem dX12_init_179 : decode cX12_init 179 = .ok (.iconst 5, 1) := by decide +kernel
theorem dX12_init_180 : decode cX12_init 180 = .ok (.newarray .char, 2) := by decide +kernel
theorem dX12_init_182 : decode cX12_init 182 = .ok (.dup, 1) := by decide +kernel
theorem dX12_init_183 : decode cX12_init 183 = .ok (.iconst 0, 1) := by decide +kernel
theorem dX12_init_184 : decode cX12_init 184 = .ok (.bipush 115, 2) := by decide +kernel
theorem dX12_init_186 : decode cX12_init 186 = .ok (.castore, 1) := by decide +kernel
theorem dX12_init_187 : decode cX12_init 187 = .ok (.dup, 1) := by decide +kernel
theorem dX12_init_188 : decode cX12_init 188 = .ok (.iconst 1, 1) := by decide +kernel
theorem dX12_init_189 : decode cX12_init 189 = .ok (.bipush 107, 2) := by decide +kernel
theorem dX12_init_191 : decode cX12_init 191 = .ok (.castore, 1) := by decide +kernel
theorem dX12_init_192 : decode cX12_init 192 = .ok (.dup, 1) := by decide +kernel
theorem dX12_init_193 : decode cX12_init 193 = .ok (.iconst 2, 1) := by decide +kernel
theorem dX12_init_194 : decode cX12_init 194 = .ok (.bipush 105, 2) := by decide +kernel
theorem dX12_init_196 : decode cX12_init 196 = .ok (.castore, 1) := by decide +kernel
theorem dX12_init_197 : decode cX12_init 197 = .ok (.dup, 1) := by decide +kernel
theorem dX12_init_198 : decode cX12_init 198 = .ok (.iconst 3, 1) := by decide +kernel
theorem dX12_init_199 : decode cX12_init 199 = .ok (.bipush 108, 2) := by decide +kernel
theorem dX12_init_201 : decode cX12_init 201 = .ok (.castore, 1) := by decide +kernel
theorem dX12_init_202 : decode cX12_init 202 = .ok (.dup, 1) := by decide +kernel
theorem dX12_init_203 : decode cX12_init 203 = .ok (.iconst 4, 1) := by decide +kernel
theorem dX12_init_204 : decode cX12_init 204 = .ok (.bipush 108, 2) := by decide +kernel
theorem dX12_init_206 : decode cX12_init 206 = .ok (.castore, 1) := by decide +kernel
theorem dX12_init_207 : decode cX12_init 207 = .ok (.putfield 39, 3) := by decide +kernel
theorem dX12_init_210 : decode cX12_init 210 = .ok (.aload_n 0, 1) := by decide +kernel
theorem dX12_init_211 : decode cX12_init 211 = .ok (.iconst 5, 1) := by decide +kernel
theorem dX12_init_212 : decode cX12_init 212 = .ok (.newarray .char, 2) := by decide +kernel
theorem dX12_init_214 : decode cX12_init 214 = .ok (.dup, 1) := by decide +kernel
theorem dX12_init_215 : decode cX12_init 215 = .ok (.iconst 0, 1) := by decide +kernel
theorem dX12_init_216 : decode cX12_init 216 = .ok (.bipush 108, 2) := by decide +kernel
theorem dX12_init_218 : decode cX12_init 218 = .ok (.castore, 1) := by decide +kernel
theorem dX12_init_219 : decode cX12_init 219 = .ok (.dup, 1) := by decide +kernel
theorem dX12_init_220 : decode cX12_init 220 = .ok (.iconst 1, 1) := by decide +kernel
theorem dX12_init_221 : decode cX12_init 221 = .ok (.bipush 105, 2) := by decide +kernel
theorem dX12_init_223 : decode cX12_init 223 = .ok (.castore, 1) := by decide +kernel
theorem dX12_init_224 : decode cX12_init 224 = .ok (.dup, 1) := by decide +kernel
theorem dX12_init_225 : decode cX12_init 225 = .ok (.iconst 2, 1) := by decide +kernel
theorem dX12_init_226 : decode cX12_init 226 = .ok (.bipush 107, 2) := by decide +kernel
theorem dX12_init_228 : decode cX12_init 228 = .ok (.castore, 1) := by decide +kernel
theorem dX12_init_229 : decode cX12_init 229 = .ok (.dup, 1) := by decide +kernel
theorem dX12_init_230 : decode cX12_init 230 = .ok (.iconst 3, 1) := by decide +kernel
theorem dX12_init_231 : decode cX12_init 231 = .ok (.bipush 101, 2) := by decide +kernel
theorem dX12_init_233 : decode cX12_init 233 = .ok (.castore, 1) := by decide +kernel
theorem dX12_init_234 : decode cX12_init 234 = .ok (.dup, 1) := by decide +kernel
theorem dX12_init_235 : decode cX12_init 235 = .ok (.iconst 4, 1) := by decide +kernel
theorem dX12_init_236 : decode cX12_init 236 = .ok (.bipush 115, 2) := by decide +kernel
theorem dX12_init_238 : decode cX12_init 238 = .ok (.castore, 1) := by decide +kernel
theorem dX12_init_239 : decode cX12_init 239 = .ok (.putfield 42, 3) := by decide +kernel
theorem dX12_init_242 : decode cX12_init 242 = .ok (.aload_n 0, 1) := by decide +kernel
theorem dX12_init_243 : decode cX12_init 243 = .ok (.iconst 4, 1) := by decide +kernel
theorem dX12_init_244 : decode cX12_init 244 = .ok (.newarray .char, 2) := by decide +kernel
theorem dX12_init_246 : decode cX12_init 246 = .ok (.dup, 1) := by decide +kernel
theorem dX12_init_247 : decode cX12_init 247 = .ok (.iconst 0, 1) := by decide +kernel
theorem dX12_init_248 : decode cX12_init 248 = .ok (.bipush 99, 2) := by decide +kernel
theorem dX12_init_250 : decode cX12_init 250 = .ok (.castore, 1) := by decide +kernel
theorem dX12_init_251 : decode cX12_init 251 = .ok (.dup, 1) := by decide +kernel
theorem dX12_init_252 : decode cX12_init 252 = .ok (.iconst 1, 1) := by decide +kernel
theorem dX12_init_253 : decode cX12_init 253 = .ok (.bipush 97, 2) := by decide +kernel
theorem dX12_init_255 : decode cX12_init 255 = .ok (.castore, 1) := by decide +kernel
theorem dX12_init_256 : decode cX12_init 256 = .ok (.dup, 1) := by decide +kernel
theorem dX12_init_257 : decode cX12_init 257 = .ok (.iconst 2, 1) := by decide +kernel
theorem dX12_init_258 : decode cX12_init 258 = .ok (.bipush 108, 2) := by decide +kernel
theorem dX12_init_260 : decode cX12_init 260 = .ok (.castore, 1) := by decide +kernel
theorem dX12_init_261 : decode cX12_init 261 = .ok (.dup, 1) := by decide +kernel
theorem dX12_init_262 : decode cX12_init 262 = .ok (.iconst 3, 1) := by decide +kernel
theorem dX12_init_263 : decode cX12_init 263 = .ok (.bipush 109, 2) := by decide +kernel
theorem dX12_init_265 : decode cX12_init 265 = .ok (.castore, 1) := by decide +kernel
theorem dX12_init_266 : decode cX12_init 266 = .ok (.putfield 45, 3) := by decide +kernel
theorem dX12_init_269 : decode cX12_init 269 = .ok (.aload_n 0, 1) := by decide +kernel
theorem dX12_init_270 : decode cX12_init 270 = .ok (.iconst 4, 1) := by decide +kernel
theorem dX12_init_271 : decode cX12_init 271 = .ok (.newarray .char, 2) := by decide +kernel
theorem dX12_init_273 : decode cX12_init 273 = .ok (.dup, 1) := by decide +kernel
theorem dX12_init_274 : decode cX12_init 274 = .ok (.iconst 0, 1) := by decide +kernel
theorem dX12_init_275 : decode cX12_init 275 = .ok (.bipush 114, 2) := by decide +kernel
theorem dX12_init_277 : decode cX12_init 277 = .ok (.castore, 1) := by decide +kernel
theorem dX12_init_278 : decode cX12_init 278 = .ok (.dup, 1) := by decide +kernel
theorem dX12_init_279 : decode cX12_init 279 = .ok (.iconst 1, 1) := by decide +kernel
theorem dX12_init_280 : decode cX12_init 280 = .ok (.bipush 97, 2) := by decide +kernel
theorem dX12_init_282 : decode cX12_init 282 = .ok (.castore, 1) := by decide +kernel
theorem dX12_init_283 : decode cX12_init 283 = .ok (.dup, 1) := by decide +kernel
theorem dX12_init_284 : decode cX12_init 284 = .ok (.iconst 2, 1) := by decide +kernel
theorem dX12_init_285 : decode cX12_init 285 = .ok (.bipush 105, 2) := by decide +kernel
theorem dX12_init_287 : decode cX12_init 287 = .ok (.castore, 1) := by decide +kernel
theorem dX12_init_288 : decode cX12_init 288 = .ok (.dup, 1) := by decide +kernel
theorem dX12_init_289 : decode cX12_init 289 = .ok (.iconst 3, 1) := by decide +kernel
theorem dX12_init_290 : decode cX12_init 290 = .ok (.bipush 110, 2) := by decide +kernel
theorem dX12_init_292 : decode cX12_init 292 = .ok (.castore, 1) := by decide +kernel
theorem dX12_init_293 : decode cX12_init 293 = .ok (.putfield 48, 3) := by decide +kernel
theorem dX12_init_296 : decode cX12_init 296 = .ok (.aload_n 0, 1) := by decide +kernel
theorem dX12_init_297 : decode cX12_init 297 = .ok (.iconst 3, 1) := by decide +kernel
theorem dX12_init_298 : decode cX12_init 298 = .ok (.newarray .char, 2) := by decide +kernel
theorem dX12_init_300 : decode cX12_init 300 = .ok (.dup, 1) := by decide +kernel
theorem dX12_init_301 : decode cX12_init 301 = .ok (.iconst 0, 1) := by decide +kernel
theorem dX12_init_302 : decode cX12_init 302 = .ok (.bipush 102, 2) := by decide +kernel
theorem dX12_init_304 : decode cX12_init 304 = .ok (.castore, 1) := by decide +kernel
theorem dX12_init_305 : decode cX12_init 305 = .ok (.dup, 1) := by decide +kernel
theorem dX12_init_306 : decode cX12_init 306 = .ok (.iconst 1, 1) := by decide +kernel
theorem dX12_init_307 : decode cX12_init 307 = .ok (.bipush 111, 2) := by decide +kernel
theorem dX12_init_309 : decode cX12_init 309 = .ok (.castore, 1) := by decide +kernel
theorem dX12_init_310 : decode cX12_init 310 = .ok (.dup, 1) := by decide +kernel
theorem dX12_init_311 : decode cX12_init 311 = .ok (.iconst 2, 1) := by decide +kernel
theorem dX12_init_312 : decode cX12_init 312 = .ok (.bipush 103, 2) := by decide +kernel
theorem dX12_init_314 : decode cX12_init 314 = .ok (.castore, 1) := by decide +kernel
theorem dX12_init_315 : decode cX12_init 315 = .ok (.putfield 51, 3) := by decide +kernel
theorem dX12_init_318 : decode cX12_init 318 = .ok (.aload_n 0, 1) := by decide +kernel
theorem dX12_init_319 : decode cX12_init 319 = .ok (.iconst 5, 1) := by decide +kernel
theorem dX12_init_320 : decode cX12_init 320 = .ok (.newarray .char, 2) := by decide +kernel
theorem dX12_init_322 : decode cX12_init 322 = .ok (.dup, 1) := by decide +kernel
theorem dX12_init_323 : decode cX12_init 323 = .ok (.iconst 0, 1) := by decide +kernel
theorem dX12_init_324 : decode cX12_init 324 = .ok (.bipush 115, 2) := by decide +kernel
theorem dX12_init_326 : decode cX12_init 326 = .ok (.castore, 1) := by decide +kernel
theorem dX12_init_327 : decode cX12_init 327 = .ok (.dup, 1) := by decide +kernel
theorem dX12_init_328 : decode cX12_init 328 = .ok (.iconst 1, 1) := by decide +kernel
theorem dX12_init_329 : decode cX12_init 329 = .ok (.bipush 116, 2) := by decide +kernel
theorem dX12_init_331 : decode cX12_init 331 = .ok (.castore, 1) := by decide +kernel
theorem dX12_init_332 : decode cX12_init 332 = .ok (.dup, 1) := by decide +kernel
theorem dX12_init_333 : decode cX12_init 333 = .ok (.iconst 2, 1) := by decide +kernel
theorem dX12_init_334 : decode cX12_init 334 = .ok (.bipush 111, 2) := by decide +kernel
theorem dX12_init_336 : decode cX12_init 336 = .ok (.castore, 1) := by decide +kernel
theorem dX12_init_337 : decode cX12_init 337 = .ok (.dup, 1) := by decide +kernel
theorem dX12_init_338 : decode cX12_init 338 = .ok (.iconst 3, 1) := by decide +kernel
theorem dX12_init_339 : decode cX12_init 339 = .ok (.bipush 114, 2) := by decide +kernel
theorem dX12_init_341 : decode cX12_init 341 = .ok (.castore, 1) := by decide +kernel
theorem dX12_init_342 : decode cX12_init 342 = .ok (.dup, 1) := by decide +kernel
theorem dX12_init_343 : decode cX12_init 343 = .ok (.iconst 4, 1) := by decide +kernel
theorem dX12_init_344 : decode cX12_init 344 = .ok (.bipush 109, 2) := by decide +kernel
theorem dX12_init_346 : decode cX12_init 346 = .ok (.castore, 1) := by decide +kernel
theorem dX12_init_347 : decode cX12_init 347 = .ok (.putfield 54, 3) := by decide +kernel
theorem dX12_init_350 : decode cX12_init 350 = .ok (.aload_n 0, 1) := by decide +kernel
theorem dX12_init_351 : decode cX12_init 351 = .ok (.iconst 5, 1) := by decide +kernel
theorem dX12_init_352 : decode cX12_init 352 = .ok (.newarray .char, 2) := by decide +kernel
theorem dX12_init_354 : decode cX12_init 354 = .ok (.dup, 1) := by decide +kernel
theorem dX12_init_355 : decode cX12_init 355 = .ok (.iconst 0, 1) := by decide +kernel
theorem dX12_init_356 : decode cX12_init 356 = .ok (.bipush 100, 2) := by decide +kernel
theorem dX12_init_358 : decode cX12_init 358 = .ok (.castore, 1) := by decide +kernel
theorem dX12_init_359 : decode cX12_init 359 = .ok (.dup, 1) := by decide +kernel
theorem dX12_init_360 : decode cX12_init 360 = .ok (.iconst 1, 1) := by decide +kernel
theorem dX12_init_361 : decode cX12_init 361 = .ok (.bipush 114, 2) := by decide +kernel
theorem dX12_init_363 : decode cX12_init 363 = .ok (.castore, 1) := by decide +kernel
theorem dX12_init_364 : decode cX12_init 364 = .ok (.dup, 1) := by decide +kernel
theorem dX12_init_365 : decode cX12_init 365 = .ok (.iconst 2, 1) := by decide +kernel
theorem dX12_init_366 : decode cX12_init 366 = .ok (.bipush 101, 2) := by decide +kernel
theorem dX12_init_368 : decode cX12_init 368 = .ok (.castore, 1) := by decide +kernel
theorem dX12_init_369 : decode cX12_init 369 = .ok (.dup, 1) := by decide +kernel
theorem dX12_init_370 : decode cX12_init 370 = .ok (.iconst 3, 1) := by decide +kernel
theorem dX12_init_371 : decode cX12_init 371 = .ok (.bipush 97, 2) := by decide +kernel
theorem dX12_init_373 : decode cX12_init 373 = .ok (.castore, 1) := by decide +kernel
theorem dX12_init_374 : decode cX12_init 374 = .ok (.dup, 1) := by decide +kernel
theorem dX12_init_375 : decode cX12_init 375 = .ok (.iconst 4, 1) := by decide +kernel
theorem dX12_init_376 : decode cX12_init 376 = .ok (.bipush 100, 2) := by decide +kernel
theorem dX12_init_378 : decode cX12_init 378 = .ok (.castore, 1) := by decide +kernel
theorem dX12_init_379 : decode cX12_init 379 = .ok (.putfield 57, 3) := by decide +kernel
theorem dX12_init_382 : decode cX12_init 382 = .ok (.aload_n 0, 1) := by decide +kernel
theorem dX12_init_383 : decode cX12_init 383 = .ok (.iconst 5, 1) := by decide +kernel
theorem dX12_init_384 : decode cX12_init 384 = .ok (.newarray .char, 2) := by decide +kernel
theorem dX12_init_386 : decode cX12_init 386 = .ok (.dup, 1) := by decide +kernel
theorem dX12_init_387 : decode cX12_init 387 = .ok (.iconst 0, 1) := by decide +kernel
theorem dX12_init_388 : decode cX12_init 388 = .ok (.bipush 103, 2) := by decide +kernel
theorem dX12_init_390 : decode cX12_init 390 = .ok (.castore, 1) := by decide +kernel
theorem dX12_init_391 : decode cX12_init 391 = .ok (.dup, 1) := by decide +kernel
theorem dX12_init_392 : decode cX12_init 392 = .ok (.iconst 1, 1) := by decide +kernel
theorem dX12_init_393 : decode cX12_init 393 = .ok (.bipush 114, 2) := by decide +kernel
theorem dX12_init_395 : decode cX12_init 395 = .ok (.castore, 1) := by decide +kernel
theorem dX12_init_396 : decode cX12_init 396 = .ok (.dup, 1) := by decide +kernel
theorem dX12_init_397 : decode cX12_init 397 = .ok (.iconst 2, 1) := by decide +kernel
theorem dX12_init_398 : decode cX12_init 398 = .ok (.bipush 111, 2) := by decide +kernel
theorem dX12_init_400 : decode cX12_init 400 = .ok (.castore, 1) := by decide +kernel
theorem dX12_init_401 : decode cX12_init 401 = .ok (.dup, 1) := by decide +kernel
theorem dX12_init_402 : decode cX12_init 402 = .ok (.iconst 3, 1) := by decide +kernel
theorem dX12_init_403 : decode cX12_init 403 = .ok (.bipush 119, 2) := by decide +kernel
theorem dX12_init_405 : decode cX12_init 405 = .ok (.castore, 1) := by decide +kernel
theorem dX12_init_406 : decode cX12_init 406 = .ok (.dup, 1) := by decide +kernel
theorem dX12_init_407 : decode cX12_init 407 = .ok (.iconst 4, 1) := by decide +kernel
theorem dX12_init_408 : decode cX12_init 408 = .ok (.bipush 115, 2) := by decide +kernel
theorem dX12_init_410 : decode cX12_init 410 = .ok (.castore, 1) := by decide +kernel
theorem dX12_init_411 : decode cX12_init 411 = .ok (.putfield 60, 3) := by decide +kernel
theorem dX12_init_414 : decode cX12_init 414 = .ok (.aload_n 0, 1) := by decide +kernel
theorem dX12_init_415 : decode cX12_init 415 = .ok (.iconst 5, 1) := by decide +kernel
theorem dX12_init_416 : decode cX12_init 416 = .ok (.newarray .char, 2) := by decide +kernel
theorem dX12_init_418 : decode cX12_init 418 = .ok (.dup, 1) := by decide +kernel
theorem dX12_init_419 : decode cX12_init 419 = .ok (.iconst 0, 1) := by decide +kernel
theorem dX12_init_420 : decode cX12_init 420 = .ok (.bipush 102, 2) := by decide +kernel
theorem dX12_init_422 : decode cX12_init 422 = .ok (.castore, 1) := by decide +kernel
theorem dX12_init_423 : decode cX12_init 423 = .ok (.dup, 1) := by decide +kernel
theorem dX12_init_424 : decode cX12_init 424 = .ok (.iconst 1, 1) := by decide +kernel
theorem dX12_init_425 : decode cX12_init 425 = .ok (.bipush 97, 2) := by decide +kernel
theorem dX12_init_427 : decode cX12_init 427 = .ok (.castore, 1) := by decide +kernel
theorem dX12_init_428 : decode cX12_init 428 = .ok (.dup, 1) := by decide +kernel
theorem dX12_init_429 : decode cX12_init 429 = .ok (.iconst 2, 1) := by decide +kernel
theorem dX12_init_430 : decode cX12_init 430 = .ok (.bipush 108, 2) := by decide +kernel
theorem dX12_init_432 : decode cX12_init 432 = .ok (.castore, 1) := by decide +kernel
theorem dX12_init_433 : decode cX12_init 433 = .ok (.dup, 1) := by decide +kernel
theorem dX12_init_434 : decode cX12_init 434 = .ok (.iconst 3, 1) := by decide +kernel
theorem dX12_init_435 : decode cX12_init 435 = .ok (.bipush 108, 2) := by decide +kernel
theorem dX12_init_437 : decode cX12_init 437 = .ok (.castore, 1) := by decide +kernel
theorem dX12_init_438 : decode cX12_init 438 = .ok (.dup, 1) := by decide +kernel
theorem dX12_init_439 : decode cX12_init 439 = .ok (.iconst 4, 1) := by decide +kernel
theorem dX12_init_440 : decode cX12_init 440 = .ok (.bipush 115, 2) := by decide +kernel
theorem dX12_init_442 : decode cX12_init 442 = .ok (.castore, 1) := by decide +kernel
theorem dX12_init_443 : decode cX12_init 443 = .ok (.putfield 63, 3) := by decide +kernel
theorem dX12_init_446 : decode cX12_init 446 = .ok (.aload_n 0, 1) := by decide +kernel
theorem dX12_init_447 : decode cX12_init 447 = .ok (.iconst 4, 1) := by decide +kernel
theorem dX12_init_448 : decode cX12_init 448 = .ok (.newarray .char, 2) := by decide +kernel
theorem dX12_init_450 : decode cX12_init 450 = .ok (.dup, 1) := by decide +kernel
theorem dX12_init_451 : decode cX12_init 451 = .ok (.iconst 0, 1) := by decide +kernel
theorem dX12_init_452 : decode cX12_init 452 = .ok (.bipush 99, 2) := by decide +kernel
theorem dX12_init_454 : decode cX12_init 454 = .ok (.castore, 1) := by decide +kernel
theorem dX12_init_455 : decode cX12_init 455 = .ok (.dup, 1) := by decide +kernel
theorem dX12_init_456 : decode cX12_init 456 = .ok (.iconst 1, 1) := by decide +kernel
theorem dX12_init_457 : decode cX12_init 457 = .ok (.bipush 111, 2) := by decide +kernel
theorem dX12_init_459 : decode cX12_init 459 = .ok (.castore, 1) := by decide +kernel
theorem dX12_init_460 : decode cX12_init 460 = .ok (.dup, 1) := by decide +kernel
theorem dX12_init_461 : decode cX12_init 461 = .ok (.iconst 2, 1) := by decide +kernel
theorem dX12_init_462 : decode cX12_init 462 = .ok (.bipush 97, 2) := by decide +kernel
theorem dX12_init_464 : decode cX12_init 464 = .ok (.castore, 1) := by decide +kernel
theorem dX12_init_465 : decode cX12_init 465 = .ok (.dup, 1) := by decide +kernel
theorem dX12_init_466 : decode cX12_init 466 = .ok (.iconst 3, 1) := by decide +kernel
theorem dX12_init_467 : decode cX12_init 467 = .ok (.bipush 120, 2) := by decide +kernel
theorem dX12_init_469 : decode cX12_init 469 = .ok (.castore, 1) := by decide +kernel
theorem dX12_init_470 : decode cX12_init 470 = .ok (.putfield 66, 3) := by decide +kernel
theorem dX12_init_473 : decode cX12_init 473 = .ok (.aload_n 0, 1) := by decide +kernel
theorem dX12_init_474 : decode cX12_init 474 = .ok (.iconst 5, 1) := by decide +kernel
theorem dX12_init_475 : decode cX12_init 475 = .ok (.newarray .char, 2) := by decide +kernel
theorem dX12_init_477 : decode cX12_init 477 = .ok (.dup, 1) := by decide +kernel
theorem dX12_init_478 : decode cX12_init 478 = .ok (.iconst 0, 1) := by decide +kernel
theorem dX12_init_479 : decode cX12_init 479 = .ok (.bipush 100, 2) := by decide +kernel
theorem dX12_init_481 : decode cX12_init 481 = .ok (.castore, 1) := by decide +kernel
theorem dX12_init_482 : decode cX12_init 482 = .ok (.dup, 1) := by decide +kernel
theorem dX12_init_483 : decode cX12_init 483 = .ok (.iconst 1, 1) := by decide +kernel
theorem dX12_init_484 : decode cX12_init 484 = .ok (.bipush 101, 2) := by decide +kernel
theorem dX12_init_486 : decode cX12_init 486 = .ok (.castore, 1) := by decide +kernel
theorem dX12_init_487 : decode cX12_init 487 = .ok (.dup, 1) := by decide +kernel
theorem dX12_init_488 : decode cX12_init 488 = .ok (.iconst 2, 1) := by decide +kernel
theorem dX12_init_489 : decode cX12_init 489 = .ok (.bipush 112, 2) := by decide +kernel
theorem dX12_init_491 : decode cX12_init 491 = .ok (.castore, 1) := by decide +kernel
theorem dX12_init_492 : decode cX12_init 492 = .ok (.dup, 1) := by decide +kernel
theorem dX12_init_493 : decode cX12_init 493 = .ok (.iconst 3, 1) := by decide +kernel
theorem dX12_init_494 : decode cX12_init 494 = .ok (.bipush 116, 2) := by decide +kernel
theorem dX12_init_496 : decode cX12_init 496 = .ok (.castore, 1) := by decide +kernel
theorem dX12_init_497 : decode cX12_init 497 = .ok (.dup, 1) := by decide +kernel
theorem dX12_init_498 : decode cX12_init 498 = .ok (.iconst 4, 1) := by decide +kernel
theorem dX12_init_499 : decode cX12_init 499 = .ok (.bipush 104, 2) := by decide +kernel
theorem dX12_init_501 : decode cX12_init 501 = .ok (.castore, 1) := by decide +kernel
theorem dX12_init_502 : decode cX12_init 502 = .ok (.putfield 69, 3) := by decide +kernel
theorem dX12_init_505 : decode cX12_init 505 = .ok (.aload_n 0, 1) := by decide +kernel
theorem dX12_init_506 : decode cX12_init 506 = .ok (.iconst 5, 1) := by decide +kernel
theorem dX12_init_507 : decode cX12_init 507 = .ok (.newarray .char, 2) := by decide +kernel
theorem dX12_init_509 : decode cX12_init 509 = .ok (.dup, 1) := by decide +kernel
theorem dX12_init_510 : decode cX12_init 510 = .ok (.iconst 0, 1) := by decide +kernel
theorem dX12_init_511 : decode cX12_init 511 = .ok (.bipush 119, 2) := by decide +kernel
theorem dX12_init_513 : decode cX12_init 513 = .ok (.castore, 1) := by decide +kernel
theorem dX12_init_514 : decode cX12_init 514 = .ok (.dup, 1) := by decide +kernel
theorem dX12_init_515 : decode cX12_init 515 = .ok (.iconst 1, 1) := by decide +kernel
theorem dX12_init_516 : decode cX12_init 516 = .ok (.bipush 114, 2) := by decide +kernel
theorem dX12_init_518 : decode cX12_init 518 = .ok (.castore, 1) := by decide +kernel
theorem dX12_init_519 : decode cX12_init 519 = .ok (.dup, 1) := by decide +kernel
theorem dX12_init_520 : decode cX12_init 520 = .ok (.iconst 2, 1) := by decide +kernel
theorem dX12_init_521 : decode cX12_init 521 = .ok (.bipush 101, 2) := by decide +kernel
theorem dX12_init_523 : decode cX12_init 523 = .ok (.castore, 1) := by decide +kernel
theorem dX12_init_524 : decode cX12_init 524 = .ok (.dup, 1) := by decide +kernel
theorem dX12_init_525 : decode cX12_init 525 = .ok (.iconst 3, 1) := by decide +kernel
theorem dX12_init_526 : decode cX12_init 526 = .ok (.bipush 99, 2) := by decide +kernel
theorem dX12_init_528 : decode cX12_init 528 = .ok (.castore, 1) := by decide +kernel
theorem dX12_init_529 : decode cX12_init 529 = .ok (.dup, 1) := by decide +kernel
theorem dX12_init_530 : decode cX12_init 530 = .ok (.iconst 4, 1) := by decide +kernel
theorem dX12_init_531 : decode cX12_init 531 = .ok (.bipush 107, 2) := by decide +kernel
theorem dX12_init_533 : decode cX12_init 533 = .ok (.castore, 1) := by decide +kernel
theorem dX12_init_534 : decode cX12_init 534 = .ok (.putfield 72, 3) := by decide +kernel
theorem dX12_init_537 : decode cX12_init 537 = .ok (.aload_n 0, 1) := by decide +kernel
theorem dX12_init_538 : decode cX12_init 538 = .ok (.iconst 4, 1) := by decide +kernel
theorem dX12_init_539 : decode cX12_init 539 = .ok (.newarray .char, 2) := by decide +kernel
theorem dX12_init_541 : decode cX12_init 541 = .ok (.dup, 1) := by decide +kernel
theorem dX12_init_542 : decode cX12_init 542 = .ok (.iconst 0, 1) := by decide +kernel
theorem dX12_init_543 : decode cX12_init 543 = .ok (.bipush 104, 2) := by decide +kernel
theorem dX12_init_545 : decode cX12_init 545 = .ok (.castore, 1) := by decide +kernel
theorem dX12_init_546 : decode cX12_init 546 = .ok (.dup, 1) := by decide +kernel
theorem dX12_init_547 : decode cX12_init 547 = .ok (.iconst 1, 1) := by decide +kernel
theorem dX12_init_548 : decode cX12_init 548 = .ok (.bipush 111, 2) := by decide +kernel
theorem dX12_init_550 : decode cX12_init 550 = .ok (.castore, 1) := by decide +kernel
theorem dX12_init_551 : decode cX12_init 551 = .ok (.dup, 1) := by decide +kernel
theorem dX12_init_552 : decode cX12_init 552 = .ok (.iconst 2, 1) := by decide +kernel
theorem dX12_init_553 : decode cX12_init 553 = .ok (.bipush 109, 2) := by decide +kernel
theorem dX12_init_555 : decode cX12_init 555 = .ok (.castore, 1) := by decide +kernel
theorem dX12_init_556 : decode cX12_init 556 = .ok (.dup, 1) := by decide +kernel
theorem dX12_init_557 : decode cX12_init 557 = .ok (.iconst 3, 1) := by decide +kernel
theorem dX12_init_558 : decode cX12_init 558 = .ok (.bipush 101, 2) := by decide +kernel
theorem dX12_init_560 : decode cX12_init 560 = .ok (.castore, 1) := by decide +kernel
theorem dX12_init_561 : decode cX12_init 561 = .ok (.putfield 75, 3) := by decide +kernel
theorem dX12_init_564 : decode cX12_init 564 = .ok (.aload_n 0, 1) := by decide +kernel
theorem dX12_init_565 : decode cX12_init 565 = .ok (.iconst 3, 1) := by decide +kernel
theorem dX12_init_566 : decode cX12_init 566 = .ok (.newarray .char, 2) := by decide +kernel
theorem dX12_init_568 : decode cX12_init 568 = .ok (.dup, 1) := by decide +kernel
theorem dX12_init_569 : decode cX12_init 569 = .ok (.iconst 0, 1) := by decide +kernel
theorem dX12_init_570 : decode cX12_init 570 = .ok (.bipush 115, 2) := by decide +kernel
theorem dX12_init_572 : decode cX12_init 572 = .ok (.castore, 1) := by decide +kernel
theorem dX12_init_573 : decode cX12_init 573 = .ok (.dup, 1) := by decide +kernel
theorem dX12_init_574 : decode cX12_init 574 = .ok (.iconst 1, 1) := by decide +kernel
theorem dX12_init_575 : decode cX12_init 575 = .ok (.bipush 107, 2) := by decide +kernel
theorem dX12_init_577 : decode cX12_init 577 = .ok (.castore, 1) := by decide +kernel
theorem dX12_init_578 : decode cX12_init 578 = .ok (.dup, 1) := by decide +kernel
theorem dX12_init_579 : decode cX12_init 579 = .ok (.iconst 2, 1) := by decide +kernel
theorem dX12_init_580 : decode cX12_init 580 = .ok (.bipush 121, 2) := by decide +kernel
theorem dX12_init_582 : decode cX12_init 582 = .ok (.castore, 1) := by decide +kernel
theorem dX12_init_583 : decode cX12_init 583 = .ok (.putfield 78, 3) := by decide +kernel
theorem dX12_init_586 : decode cX12_init 586 = .ok (.aload_n 0, 1) := by decide +kernel
theorem dX12_init_587 : decode cX12_init 587 = .ok (.iconst 5, 1) := by decide +kernel
theorem dX12_init_588 : decode cX12_init 588 = .ok (.newarray .char, 2) := by decide +kernel
theorem dX12_init_590 : decode cX12_init 590 = .ok (.dup, 1) := by decide +kernel
theorem dX12_init_591 : decode cX12_init 591 = .ok (.iconst 0, 1) := by decide +kernel
theorem dX12_init_592 : decode cX12_init 592 = .ok (.bipush 98, 2) := by decide +kernel
theorem dX12_init_594 : decode cX12_init 594 = .ok (.castore, 1) := by decide +kernel
theorem dX12_init_595 : decode cX12_init 595 = .ok (.dup, 1) := by decide +kernel
theorem dX12_init_596 : decode cX12_init 596 = .ok (.iconst 1, 1) := by decide +kernel
theorem dX12_init_597 : decode cX12_init 597 = .ok (.bipush 97, 2) := by decide +kernel
theorem dX12_init_599 : decode cX12_init 599 = .ok (.castore, 1) := by decide +kernel
theorem dX12_init_600 : decode cX12_init 600 = .ok (.dup, 1) := by decide +kernel
theorem dX12_init_601 : decode cX12_init 601 = .ok (.iconst 2, 1) := by decide +kernel
theorem dX12_init_602 : decode cX12_init 602 = .ok (.bipush 108, 2) := by decide +kernel
theorem dX12_init_604 : decode cX12_init 604 = .ok (.castore, 1) := by decide +kernel
theorem dX12_init_605 : decode cX12_init 605 = .ok (.dup, 1) := by decide +kernel
theorem dX12_init_606 : decode cX12_init 606 = .ok (.iconst 3, 1) := by decide +kernel
theorem dX12_init_607 : decode cX12_init 607 = .ok (.bipush 107, 2) := by decide +kernel
theorem dX12_init_609 : decode cX12_init 609 = .ok (.castore, 1) := by decide +kernel
theorem dX12_init_610 : decode cX12_init 610 = .ok (.dup, 1) := by decide +kernel
theorem dX12_init_611 : decode cX12_init 611 = .ok (.iconst 4, 1) := by decide +kernel
theorem dX12_init_612 : decode cX12_init 612 = .ok (.bipush 115, 2) := by decide +kernel
theorem dX12_init_614 : decode cX12_init 614 = .ok (.castore, 1) := by decide +kernel
theorem dX12_init_615 : decode cX12_init 615 = .ok (.putfield 81, 3) := by decide +kernel
theorem dX12_init_618 : decode cX12_init 618 = .ok (.aload_n 0, 1) := by decide +kernel
theorem dX12_init_619 : decode cX12_init 619 = .ok (.iconst 5, 1) := by decide +kernel
theorem dX12_init_620 : decode cX12_init 620 = .ok (.newarray .char, 2) := by decide +kernel
theorem dX12_init_622 : decode cX12_init 622 = .ok (.dup, 1) := by decide +kernel
theorem dX12_init_623 : decode cX12_init 623 = .ok (.iconst 0, 1) := by decide +kernel
theorem dX12_init_624 : decode cX12_init 624 = .ok (.bipush 97, 2) := by decide +kernel
theorem dX12_init_626 : decode cX12_init 626 = .ok (.castore, 1) := by decide +kernel
theorem dX12_init_627 : decode cX12_init 627 = .ok (.dup, 1) := by decide +kernel
theorem dX12_init_628 : decode cX12_init 628 = .ok (.iconst 1, 1) := by decide +kernel
theorem dX12_init_629 : decode cX12_init 629 = .ok (.bipush 104, 2) := by decide +kernel
theorem dX12_init_631 : decode cX12_init 631 = .ok (.castore, 1) := by decide +kernel
theorem dX12_init_632 : decode cX12_init 632 = .ok (.dup, 1) := by decide +kernel
theorem dX12_init_633 : decode cX12_init 633 = .ok (.iconst 2, 1) := by decide +kernel
theorem dX12_init_634 : decode cX12_init 634 = .ok (.bipush 101, 2) := by decide +kernel
theorem dX12_init_636 : decode cX12_init 636 = .ok (.castore, 1) := by decide +kernel
theorem dX12_init_637 : decode cX12_init 637 = .ok (.dup, 1) := by decide +kernel
theorem dX12_init_638 : decode cX12_init 638 = .ok (.iconst 3, 1) := by decide +kernel
theorem dX12_init_639 : decode cX12_init 639 = .ok (.bipush 97, 2) := by decide +kernel
theorem dX12_init_641 : decode cX12_init 641 = .ok (.castore, 1) := by decide +kernel
theorem dX12_init_642 : decode cX12_init 642 = .ok (.dup, 1) := by decide +kernel
theorem dX12_init_643 : decode cX12_init 643 = .ok (.iconst 4, 1) := by decide +kernel
theorem dX12_init_644 : decode cX12_init 644 = .ok (.bipush 100, 2) := by decide +kernel
theorem dX12_init_646 : decode cX12_init 646 = .ok (.castore, 1) := by decide +kernel
theorem dX12_init_647 : decode cX12_init 647 = .ok (.putfield 84, 3) := by decide +kernel
theorem dX12_init_650 : decode cX12_init 650 = .ok (.aload_n 0, 1) := by decide +kernel
theorem dX12_init_651 : decode cX12_init 651 = .ok (.iconst 4, 1) := by decide +kernel
theorem dX12_init_652 : decode cX12_init 652 = .ok (.newarray .char, 2) := by decide +kernel
theorem dX12_init_654 : decode cX12_init 654 = .ok (.dup, 1) := by decide +kernel
theorem dX12_init_655 : decode cX12_init 655 = .ok (.iconst 0, 1) := by decide +kernel
theorem dX12_init_656 : decode cX12_init 656 = .ok (.bipush 98, 2) := by decide +kernel
theorem dX12_init_658 : decode cX12_init 658 = .ok (.castore, 1) := by decide +kernel
theorem dX12_init_659 : decode cX12_init 659 = .ok (.dup, 1) := by decide +kernel
theorem dX12_init_660 : decode cX12_init 660 = .ok (.iconst 1, 1) := by decide +kernel
theorem dX12_init_661 : decode cX12_init 661 = .ok (.bipush 111, 2) := by decide +kernel
theorem dX12_init_663 : decode cX12_init 663 = .ok (.castore, 1) := by decide +kernel
theorem dX12_init_664 : decode cX12_init 664 = .ok (.dup, 1) := by decide +kernel
theorem dX12_init_665 : decode cX12_init 665 = .ok (.iconst 2, 1) := by decide +kernel
theorem dX12_init_666 : decode cX12_init 666 = .ok (.bipush 108, 2) := by decide +kernel
theorem dX12_init_668 : decode cX12_init 668 = .ok (.castore, 1) := by decide +kernel
theorem dX12_init_669 : decode cX12_init 669 = .ok (.dup, 1) := by decide +kernel
theorem dX12_init_670 : decode cX12_init 670 = .ok (.iconst 3, 1) := by decide +kernel
theorem dX12_init_671 : decode cX12_init 671 = .ok (.bipush 100, 2) := by decide +kernel
theorem dX12_init_673 : decode cX12_init 673 = .ok (.castore, 1) := by decide +kernel
theorem dX12_init_674 : decode cX12_init 674 = .ok (.putfield 87, 3) := by decide +kernel
theorem dX12_init_677 : decode cX12_init 677 = .ok (.aload_n 0, 1) := by decide +kernel
theorem dX12_init_678 : decode cX12_init 678 = .ok (.iconst 4, 1) := by decide +kernel
theorem dX12_init_679 : decode cX12_init 679 = .ok (.newarray .char, 2) := by decide +kernel
theorem dX12_init_681 : decode cX12_init 681 = .ok (.dup, 1) := by decide +kernel
theorem dX12_init_682 : decode cX12_init 682 = .ok (.iconst 0, 1) := by decide +kernel
theorem dX12_init_683 : decode cX12_init 683 = .ok (.bipush 102, 2) := by decide +kernel
theorem dX12_init_685 : decode cX12_init 685 = .ok (.castore, 1) := by decide +kernel
theorem dX12_init_686 : decode cX12_init 686 = .ok (.dup, 1) := by decide +kernel
theorem dX12_init_687 : decode cX12_init 687 = .ok (.iconst 1, 1) := by decide +kernel
theorem dX12_init_688 : decode cX12_init 688 = .ok (.bipush 101, 2) := by decide +kernel
theorem dX12_init_690 : decode cX12_init 690 = .ok (.castore, 1) := by decide +kernel
theorem dX12_init_691 : decode cX12_init 691 = .ok (.dup, 1) := by decide +kernel
theorem dX12_init_692 : decode cX12_init 692 = .ok (.iconst 2, 1) := by decide +kernel
theorem dX12_init_693 : decode cX12_init 693 = .ok (.bipush 97, 2) := by decide +kernel
theorem dX12_init_695 : decode cX12_init 695 = .ok (.castore, 1) := by decide +kernel
theorem dX12_init_696 : decode cX12_init 696 = .ok (.dup, 1) := by decide +kernel
theorem dX12_init_697 : decode cX12_init 697 = .ok (.iconst 3, 1) := by decide +kernel
theorem dX12_init_698 : decode cX12_init 698 = .ok (.bipush 114, 2) := by decide +kernel
theorem dX12_init_700 : decode cX12_init 700 = .ok (.castore, 1) := by decide +kernel
theorem dX12_init_701 : decode cX12_init 701 = .ok (.putfield 90, 3) := by decide +kernel
theorem dX12_init_704 : decode cX12_init 704 = .ok (.aload_n 0, 1) := by decide +kernel
theorem dX12_init_705 : decode cX12_init 705 = .ok (.bipush 6, 2) := by decide +kernel
theorem dX12_init_707 : decode cX12_init 707 = .ok (.newarray .char, 2) := by decide +kernel
theorem dX12_init_709 : decode cX12_init 709 = .ok (.dup, 1) := by decide +kernel
theorem dX12_init_710 : decode cX12_init 710 = .ok (.iconst 0, 1) := by decide +kernel
theorem dX12_init_711 : decode cX12_init 711 = .ok (.bipush 110, 2) := by decide +kernel
theorem dX12_init_713 : decode cX12_init 713 = .ok (.castore, 1) := by decide +kernel
theorem dX12_init_714 : decode cX12_init 714 = .ok (.dup, 1) := by decide +kernel
theorem dX12_init_715 : decode cX12_init 715 = .ok (.iconst 1, 1) := by decide +kernel
theorem dX12_init_716 : decode cX12_init 716 = .ok (.bipush 117, 2) := by decide +kernel
theorem dX12_init_718 : decode cX12_init 718 = .ok (.castore, 1) := by decide +kernel
theorem dX12_init_719 : decode cX12_init 719 = .ok (.dup, 1) := by decide +kernel
theorem dX12_init_720 : decode cX12_init 720 = .ok (.iconst 2, 1) := by decide +kernel
theorem dX12_init_721 : decode cX12_init 721 = .ok (.bipush 109, 2) := by decide +kernel
theorem dX12_init_723 : decode cX12_init 723 = .ok (.castore, 1) := by decide +kernel
theorem dX12_init_724 : decode cX12_init 724 = .ok (.dup, 1) := by decide +kernel
theorem dX12_init_725 : decode cX12_init 725 = .ok (.iconst 3, 1) := by decide +kernel
theorem dX12_init_726 : decode cX12_init 726 = .ok (.bipush 98, 2) := by decide +kernel
theorem dX12_init_728 : decode cX12_init 728 = .ok (.castore, 1) := by decide +kernel
theorem dX12_init_729 : decode cX12_init 729 = .ok (.dup, 1) := by decide +kernel
theorem dX12_init_730 : decode cX12_init 730 = .ok (.iconst 4, 1) := by decide +kernel
theorem dX12_init_731 : decode cX12_init 731 = .ok (.bipush 101, 2) := by decide +kernel
theorem dX12_init_733 : decode cX12_init 733 = .ok (.castore, 1) := by decide +kernel
theorem dX12_init_734 : decode cX12_init 734 = .ok (.dup, 1) := by decide +kernel
theorem dX12_init_735 : decode cX12_init 735 = .ok (.iconst 5, 1) := by decide +kernel
theorem dX12_init_736 : decode cX12_init 736 = .ok (.bipush 114, 2) := by decide +kernel
theorem dX12_init_738 : decode cX12_init 738 = .ok (.castore, 1) := by decide +kernel
theorem dX12_init_739 : decode cX12_init 739 = .ok (.putfield 93, 3) := by decide +kernel
theorem dX12_init_742 : decode cX12_init 742 = .ok (.aload_n 0, 1) := by decide +kernel
theorem dX12_init_743 : decode cX12_init 743 = .ok (.bipush 6, 2) := by decide +kernel
theorem dX12_init_745 : decode cX12_init 745 = .ok (.newarray .char, 2) := by decide +kernel
theorem dX12_init_747 : decode cX12_init 747 = .ok (.dup, 1) := by decide +kernel
theorem dX12_init_748 : decode cX12_init 748 = .ok (.iconst 0, 1) := by decide +kernel
theorem dX12_init_749 : decode cX12_init 749 = .ok (.bipush 97, 2) := by decide +kernel
theorem dX12_init_751 : decode cX12_init 751 = .ok (.castore, 1) := by decide +kernel
theorem dX12_init_752 : decode cX12_init 752 = .ok (.dup, 1) := by decide +kernel
theorem dX12_init_753 : decode cX12_init 753 = .ok (.iconst 1, 1) := by decide +kernel
theorem dX12_init_754 : decode cX12_init 754 = .ok (.bipush 99, 2) := by decide +kernel
theorem dX12_init_756 : decode cX12_init 756 = .ok (.castore, 1) := by decide +kernel
theorem dX12_init_757 : decode cX12_init 757 = .ok (.dup, 1) := by decide +kernel
theorem dX12_init_758 : decode cX12_init 758 = .ok (.iconst 2, 1) := by decide +kernel
theorem dX12_init_759 : decode cX12_init 759 = .ok (.bipush 114, 2) := by decide +kernel
theorem dX12_init_761 : decode cX12_init 761 = .ok (.castore, 1) := by decide +kernel
theorem dX12_init_762 : decode cX12_init 762 = .ok (.dup, 1) := by decide +kernel
theorem dX12_init_763 : decode cX12_init 763 = .ok (.iconst 3, 1) := by decide +kernel
theorem dX12_init_764 : decode cX12_init 764 = .ok (.bipush 111, 2) := by decide +kernel
theorem dX12_init_766 : decode cX12_init 766 = .ok (.castore, 1) := by decide +kernel
theorem dX12_init_767 : decode cX12_init 767 = .ok (.dup, 1) := by decide +kernel
theorem dX12_init_768 : decode cX12_init 768 = .ok (.iconst 4, 1) := by decide +kernel
theorem dX12_init_769 : decode cX12_init 769 = .ok (.bipush 115, 2) := by decide +kernel
theorem dX12_init_771 : decode cX12_init 771 = .ok (.castore, 1) := by decide +kernel
theorem dX12_init_772 : decode cX12_init 772 = .ok (.dup, 1) := by decide +kernel
theorem dX12_init_773 : decode cX12_init 773 = .ok (.iconst 5, 1) := by decide +kernel
theorem dX12_init_774 : decode cX12_init 774 = .ok (.bipush 115, 2) := by decide +kernel
theorem dX12_init_776 : decode cX12_init 776 = .ok (.castore, 1) := by decide +kernel
theorem dX12_init_777 : decode cX12_init 777 = .ok (.putfield 96, 3) := by decide +kernel
theorem dX12_init_780 : decode cX12_init 780 = .ok (.aload_n 0, 1) := by decide +kernel
theorem dX12_init_781 : decode cX12_init 781 = .ok (.iconst 4, 1) := by decide +kernel
theorem dX12_init_782 : decode cX12_init 782 = .ok (.newarray .char, 2) := by decide +kernel
theorem dX12_init_784 : decode cX12_init 784 = .ok (.dup, 1) := by decide +kernel
theorem dX12_init_785 : decode cX12_init 785 = .ok (.iconst 0, 1) := by decide +kernel
theorem dX12_init_786 : decode cX12_init 786 = .ok (.bipush 100, 2) := by decide +kernel
theorem dX12_init_788 : decode cX12_init 788 = .ok (.castore, 1) := by decide +kernel
theorem dX12_init_789 : decode cX12_init 789 = .ok (.dup, 1) := by decide +kernel
theorem dX12_init_790 : decode cX12_init 790 = .ok (.iconst 1, 1) := by decide +kernel
theorem dX12_init_791 : decode cX12_init 791 = .ok (.bipush 111, 2) := by decide +kernel
theorem dX12_init_793 : decode cX12_init 793 = .ok (.castore, 1) := by decide +kernel
theorem dX12_init_794 : decode cX12_init 794 = .ok (.dup, 1) := by decide +kernel
theorem dX12_init_795 : decode cX12_init 795 = .ok (.iconst 2, 1) := by decide +kernel
theorem dX12_init_796 : decode cX12_init 796 = .ok (.bipush 119, 2) := by decide +kernel
theorem dX12_init_798 : decode cX12_init 798 = .ok (.castore, 1) := by decide +kernel
theorem dX12_init_799 : decode cX12_init 799 = .ok (.dup, 1) := by decide +kernel
theorem dX12_init_800 : decode cX12_init 800 = .ok (.iconst 3, 1) := by decide +kernel
theorem dX12_init_801 : decode cX12_init 801 = .ok (.bipush 110, 2) := by decide +kernel
theorem dX12_init_803 : decode cX12_init 803 = .ok (.castore, 1) := by decide +kernel
theorem dX12_init_804 : decode cX12_init 804 = .ok (.putfield 99, 3) := by decide +kernel
theorem dX12_init_807 : decode cX12_init 807 = .ok (.aload_n 0, 1) := by decide +kernel
theorem dX12_init_808 : decode cX12_init 808 = .ok (.iconst 5, 1) := by decide +kernel
theorem dX12_init_809 : decode cX12_init 809 = .ok (.newarray .char, 2) := by decide +kernel
theorem dX12_init_811 : decode cX12_init 811 = .ok (.dup, 1) := by decide +kernel
theorem dX12_init_812 : decode cX12_init 812 = .ok (.iconst 0, 1) := by decide +kernel
theorem dX12_init_813 : decode cX12_init 813 = .ok (.bipush 98, 2) := by decide +kernel
theorem dX12_init_815 : decode cX12_init 815 = .ok (.castore, 1) := by decide +kernel
theorem dX12_init_816 : decode cX12_init 816 = .ok (.dup, 1) := by decide +kernel
theorem dX12_init_817 : decode cX12_init 817 = .ok (.iconst 1, 1) := by decide +kernel
theorem dX12_init_818 : decode cX12_init 818 = .ok (.bipush 111, 2) := by decide +kernel
theorem dX12_init_820 : decode cX12_init 820 = .ok (.castore, 1) := by decide +kernel
theorem dX12_init_821 : decode cX12_init 821 = .ok (.dup, 1) := by decide +kernel
theorem dX12_init_822 : decode cX12_init 822 = .ok (.iconst 2, 1) := by decide +kernel
theorem dX12_init_823 : decode cX12_init 823 = .ok (.bipush 97, 2) := by decide +kernel
theorem dX12_init_825 : decode cX12_init 825 = .ok (.castore, 1) := by decide +kernel
theorem dX12_init_826 : decode cX12_init 826 = .ok (.dup, 1) := by decide +kernel
theorem dX12_init_827 : decode cX12_init 827 = .ok (.iconst 3, 1) := by decide +kernel
theorem dX12_init_828 : decode cX12_init 828 = .ok (.bipush 116, 2) := by decide +kernel
theorem dX12_init_830 : decode cX12_init 830 = .ok (.castore, 1) := by decide +kernel
theorem dX12_init_831 : decode cX12_init 831 = .ok (.dup, 1) := by decide +kernel
theorem dX12_init_832 : decode cX12_init 832 = .ok (.iconst 4, 1) := by decide +kernel
theorem dX12_init_833 : decode cX12_init 833 = .ok (.bipush 115, 2) := by decide +kernel
theorem dX12_init_835 : decode cX12_init 835 = .ok (.castore, 1) := by decide +kernel
theorem dX12_init_836 : decode cX12_init 836 = .ok (.putfield 102, 3) := by decide +kernel
theorem dX12_init_839 : decode cX12_init 839 = .ok (.aload_n 0, 1) := by decide +kernel
theorem dX12_init_840 : decode cX12_init 840 = .ok (.iconst 2, 1) := by decide +kernel
theorem dX12_init_841 : decode cX12_init 841 = .ok (.newarray .char, 2) := by decide +kernel
theorem dX12_init_843 : decode cX12_init 843 = .ok (.dup, 1) := by decide +kernel
theorem dX12_init_844 : decode cX12_init 844 = .ok (.iconst 0, 1) := by decide +kernel
theorem dX12_init_845 : decode cX12_init 845 = .ok (.bipush 111, 2) := by decide +kernel
theorem dX12_init_847 : decode cX12_init 847 = .ok (.castore, 1) := by decide +kernel
theorem dX12_init_848 : decode cX12_init 848 = .ok (.dup, 1) := by decide +kernel
theorem dX12_init_849 : decode cX12_init 849 = .ok (.iconst 1, 1) := by decide +kernel
theorem dX12_init_850 : decode cX12_init 850 = .ok (.bipush 114, 2) := by decide +kernel
theorem dX12_init_852 : decode cX12_init 852 = .ok (.castore, 1) := by decide +kernel
theorem dX12_init_853 : decode cX12_init 853 = .ok (.putfield 105, 3) := by decide +kernel
theorem dX12_init_856 : decode cX12_init 856 = .ok (.aload_n 0, 1) := by decide +kernel
theorem dX12_init_857 : decode cX12_init 857 = .ok (.iconst 3, 1) := by decide +kernel
theorem dX12_init_858 : decode cX12_init 858 = .ok (.newarray .char, 2) := by decide +kernel
theorem dX12_init_860 : decode cX12_init 860 = .ok (.dup, 1) := by decide +kernel
theorem dX12_init_861 : decode cX12_init 861 = .ok (.iconst 0, 1) := by decide +kernel
theorem dX12_init_862 : decode cX12_init 862 = .ok (.bipush 97, 2) := by decide +kernel
theorem dX12_init_864 : decode cX12_init 864 = .ok (.castore, 1) := by decide +kernel
theorem dX12_init_865 : decode cX12_init 865 = .ok (.dup, 1) := by decide +kernel
theorem dX12_init_866 : decode cX12_init 866 = .ok (.iconst 1, 1) := by decide +kernel
theorem dX12_init_867 : decode cX12_init 867 = .ok (.bipush 110, 2) := by decide +kernel
theorem dX12_init_869 : decode cX12_init 869 = .ok (.castore, 1) := by decide +kernel
theorem dX12_init_870 : decode cX12_init 870 = .ok (.dup, 1) := by decide +kernel
theorem dX12_init_871 : decode cX12_init 871 = .ok (.iconst 2, 1) := by decide +kernel
theorem dX12_init_872 : decode cX12_init 872 = .ok (.bipush 100, 2) := by decide +kernel
theorem dX12_init_874 : decode cX12_init 874 = .ok (.castore, 1) := by decide +kernel
theorem dX12_init_875 : decode cX12_init 875 = .ok (.putfield 108, 3) := by decide +kernel
theorem dX12_init_878 : decode cX12_init 878 = .ok (.aload_n 0, 1) := by decide +kernel
theorem dX12_init_879 : decode cX12_init 879 = .ok (.iconst 3, 1) := by decide +kernel
theorem dX12_init_880 : decode cX12_init 880 = .ok (.newarray .char, 2) := by decide +kernel
theorem dX12_init_882 : decode cX12_init 882 = .ok (.dup, 1) := by decide +kernel
theorem dX12_init_883 : decode cX12_init 883 = .ok (.iconst 0, 1) := by decide +kernel
theorem dX12_init_884 : decode cX12_init 884 = .ok (.bipush 110, 2) := by decide +kernel
theorem dX12_init_886 : decode cX12_init 886 = .ok (.castore, 1) := by decide +kernel
theorem dX12_init_887 : decode cX12_init 887 = .ok (.dup, 1) := by decide +kernel
theorem dX12_init_888 : decode cX12_init 888 = .ok (.iconst 1, 1) := by decide +kernel
theorem dX12_init_889 : decode cX12_init 889 = .ok (.bipush 111, 2) := by decide +kernel
theorem dX12_init_891 : decode cX12_init 891 = .ok (.castore, 1) := by decide +kernel
theorem dX12_init_892 : decode cX12_init 892 = .ok (.dup, 1) := by decide +kernel
theorem dX12_init_893 : decode cX12_init 893 = .ok (.iconst 2, 1) := by decide +kernel
theorem dX12_init_894 : decode cX12_init 894 = .ok (.bipush 116, 2) := by decide +kernel
theorem dX12_init_896 : decode cX12_init 896 = .ok (.castore, 1) := by decide +kernel
theorem dX12_init_897 : decode cX12_init 897 = .ok (.putfield 111, 3) := by decide +kernel
theorem dX12_init_900 : decode cX12_init 900 = .ok (.aload_n 0, 1) := by decide +kernel
theorem dX12_init_901 : decode cX12_init 901 = .ok (.iconst 3, 1) := by decide +kernel
theorem dX12_init_902 : decode cX12_init 902 = .ok (.newarray .char, 2) := by decide +kernel
theorem dX12_init_904 : decode cX12_init 904 = .ok (.dup, 1) := by decide +kernel
theorem dX12_init_905 : decode cX12_init 905 = .ok (.iconst 0, 1) := by decide +kernel
theorem dX12_init_906 : decode cX12_init 906 = .ok (.bipush 97, 2) := by decide +kernel
theorem dX12_init_908 : decode cX12_init 908 = .ok (.castore, 1) := by decide +kernel
theorem dX12_init_909 : decode cX12_init 909 = .ok (.dup, 1) := by decide +kernel
theorem dX12_init_910 : decode cX12_init 910 = .ok (.iconst 1, 1) := by decide +kernel
theorem dX12_init_911 : decode cX12_init 911 = .ok (.bipush 108, 2) := by decide +kernel
theorem dX12_init_913 : decode cX12_init 913 = .ok (.castore, 1) := by decide +kernel
theorem dX12_init_914 : decode cX12_init 914 = .ok (.dup, 1) := by decide +kernel
theorem dX12_init_915 : decode cX12_init 915 = .ok (.iconst 2, 1) := by decide +kernel
theorem dX12_init_916 : decode cX12_init 916 = .ok (.bipush 108, 2) := by decide +kernel
theorem dX12_init_918 : decode cX12_init 918 = .ok (.castore, 1) := by decide +kernel
theorem dX12_init_919 : decode cX12_init 919 = .ok (.putfield 114, 3) := by decide +kernel
theorem dX12_init_922 : decode cX12_init 922 = .ok (.aload_n 0, 1) := by decide +kernel
theorem dX12_init_923 : decode cX12_init 923 = .ok (.iconst 3, 1) := by decide +kernel
theorem dX12_init_924 : decode cX12_init 924 = .ok (.newarray .char, 2) := by decide +kernel
theorem dX12_init_926 : decode cX12_init 926 = .ok (.dup, 1) := by decide +kernel
theorem dX12_init_927 : decode cX12_init 927 = .ok (.iconst 0, 1) := by decide +kernel
theorem dX12_init_928 : decode cX12_init 928 = .ok (.bipush 109, 2) := by decide +kernel
theorem dX12_init_930 : decode cX12_init 930 = .ok (.castore, 1) := by decide +kernel
theorem dX12_init_931 : decode cX12_init 931 = .ok (.dup, 1) := by decide +kernel
theorem dX12_init_932 : decode cX12_init 932 = .ok (.iconst 1, 1) := by decide +kernel
theorem dX12_init_933 : decode cX12_init 933 = .ok (.bipush 105, 2) := by decide +kernel
theorem dX12_init_935 : decode cX12_init 935 = .ok (.castore, 1) := by decide +kernel
theorem dX12_init_936 : decode cX12_init 936 = .ok (.dup, 1) := by decide +kernel
theorem dX12_init_937 : decode cX12_init 937 = .ok (.iconst 2, 1) := by decide +kernel
theorem dX12_init_938 : decode cX12_init 938 = .ok (.bipush 110, 2) := by decide +kernel
theorem dX12_init_940 : decode cX12_init 940 = .ok (.castore, 1) := by decide +kernel
theorem dX12_init_941 : decode cX12_init 941 = .ok (.putfield 117, 3) := by decide +kernel
theorem dX12_init_944 : decode cX12_init 944 = .ok (.aload_n 0, 1) := by decide +kernel
theorem dX12_init_945 : decode cX12_init 945 = .ok (.iconst 3, 1) := by decide +kernel
theorem dX12_init_946 : decode cX12_init 946 = .ok (.newarray .char, 2) := by decide +kernel
theorem dX12_init_948 : decode cX12_init 948 = .ok (.dup, 1) := by decide +kernel
theorem dX12_init_949 : decode cX12_init 949 = .ok (.iconst 0, 1) := by decide +kernel
theorem dX12_init_950 : decode cX12_init 950 = .ok (.bipush 109, 2) := by decide +kernel
theorem dX12_init_952 : decode cX12_init 952 = .ok (.castore, 1) := by decide +kernel
theorem dX12_init_953 : decode cX12_init 953 = .ok (.dup, 1) := by decide +kernel
theorem dX12_init_954 : decode cX12_init 954 = .ok (.iconst 1, 1) := by decide +kernel
theorem dX12_init_955 : decode cX12_init 955 = .ok (.bipush 97, 2) := by decide +kernel
theorem dX12_init_957 : decode cX12_init 957 = .ok (.castore, 1) := by decide +kernel
theorem dX12_init_958 : decode cX12_init 958 = .ok (.dup, 1) := by decide +kernel
theorem dX12_init_959 : decode cX12_init 959 = .ok (.iconst 2, 1) := by decide +kernel
theorem dX12_init_960 : decode cX12_init 960 = .ok (.bipush 120, 2) := by decide +kernel
theorem dX12_init_962 : decode cX12_init 962 = .ok (.castore, 1) := by decide +kernel
theorem dX12_init_963 : decode cX12_init 963 = .ok (.putfield 120, 3) := by decide +kernel
theorem dX12_init_966 : decode cX12_init 966 = .ok (.aload_n 0, 1) := by decide +kernel
theorem dX12_init_967 : decode cX12_init 967 = .ok (.bipush 10, 2) := by decide +kernel
theorem dX12_init_969 : decode cX12_init 969 = .ok (.newarray .int, 2) := by decide +kernel
theorem dX12_init_971 : decode cX12_init 971 = .ok (.putfield 123, 3) := by decide +kernel
theorem dX12_init_974 : decode cX12_init 974 = .ok (.aload_n 0, 1) := by decide +kernel
theorem dX12_init_975 : decode cX12_init 975 = .ok (.bipush 24, 2) := by decide +kernel
theorem dX12_init_977 : decode cX12_init 977 = .ok (.newarray .long, 2) := by decide +kernel
theorem dX12_init_979 : decode cX12_init 979 = .ok (.putfield 126, 3) := by decide +kernel
theorem dX12_init_982 : decode cX12_init 982 = .ok (.aload_n 0, 1) := by decide +kernel
theorem dX12_init_983 : decode cX12_init 983 = .ok (.bipush 96, 2) := by decide +kernel
theorem dX12_init_985 : decode cX12_init 985 = .ok (.newarray .int, 2) := by decide +kernel
theorem dX12_init_987 : decode cX12_init 987 = .ok (.putfield 130, 3) := by decide +kernel
theorem dX12_init_990 : decode cX12_init 990 = .ok (.aload_n 0, 1) := by decide +kernel
theorem dX12_init_991 : decode cX12_init 991 = .ok (.bipush 24, 2) := by decide +kernel
theorem dX12_init_993 : decode cX12_init 993 = .ok (.newarray .int, 2) := by decide +kernel
theorem dX12_init_995 : decode cX12_init 995 = .ok (.putfield 133, 3) := by decide +kernel
theorem dX12_init_998 : decode cX12_init 998 = .ok (.aload_n 0, 1) := by decide +kernel
theorem dX12_init_999 : decode cX12_init 999 = .ok (.bipush 12, 2) := by decide +kernel
theorem dX12_init_1001 : decode cX12_init 1001 = .ok (.newarray .int, 2) := by decide +kernel
theorem dX12_init_1003 : decode cX12_init 1003 = .ok (.putfield 136, 3) := by decide +kernel
theorem dX12_init_1006 : decode cX12_init 1006 = .ok (.aload_n 0, 1) := by decide +kernel
theorem dX12_init_1007 : decode cX12_init 1007 = .ok (.bipush 72, 2) := by decide +kernel
theorem dX12_init_1009 : decode cX12_init 1009 = .ok (.newarray .int, 2) := by decide +kernel
theorem dX12_init_1011 : decode cX12_init 1011 = .ok (.putfield 139, 3) := by decide +kernel
theorem dX12_init_1014 : decode cX12_init 1014 = .ok (.aload_n 0, 1) := by decide +kernel
theorem dX12_init_1015 : decode cX12_init 1015 = .ok (.bipush 40, 2) := by decide +kernel
theorem dX12_init_1017 : decode cX12_init 1017 = .ok (.newarray .int, 2) := by decide +kernel
theorem dX12_init_1019 : decode cX12_init 1019 = .ok (.putfield 142, 3) := by decide +kernel
theorem dX12_init_1022 : decode cX12_init 1022 = .ok (.aload_n 0, 1) := by decide +kernel
theorem dX12_init_1023 : decode cX12_init 1023 = .ok (.iconst 2, 1) := by decide +kernel
theorem dX12_init_1024 : decode cX12_init 1024 = .ok (.newarray .int, 2) := by decide +kernel
theorem dX12_init_1026 : decode cX12_init 1026 = .ok (.dup, 1) := by decide +kernel
theorem dX12_init_1027 : decode cX12_init 1027 = .ok (.iconst 0, 1) := by decide +kernel
theorem dX12_init_1028 : decode cX12_init 1028 = .ok (.iconst 5, 1) := by decide +kernel
theorem dX12_init_1029 : decode cX12_init 1029 = .ok (.iastore, 1) := by decide +kernel
theorem dX12_init_1030 : decode cX12_init 1030 = .ok (.dup, 1) := by decide +kernel
theorem dX12_init_1031 : decode cX12_init 1031 = .ok (.iconst 1, 1) := by decide +kernel
theorem dX12_init_1032 : decode cX12_init 1032 = .ok (.iconst 5, 1) := by decide +kernel
theorem dX12_init_1033 : decode cX12_init 1033 = .ok (.iastore, 1) := by decide +kernel
theorem dX12_init_1034 : decode cX12_init 1034 = .ok (.putfield 145, 3) := by decide +kernel
theorem dX12_init_1037 : decode cX12_init 1037 = .ok (.aload_n 0, 1) := by decide +kernel
theorem dX12_init_1038 : decode cX12_init 1038 = .ok (.bipush 6, 2) := by decide +kernel
theorem dX12_init_1040 : decode cX12_init 1040 = .ok (.newarray .int, 2) := by decide +kernel
theorem dX12_init_1042 : decode cX12_init 1042 = .ok (.dup, 1) := by decide +kernel
theorem dX12_init_1043 : decode cX12_init 1043 = .ok (.iconst 0, 1) := by decide +kernel
theorem dX12_init_1044 : decode cX12_init 1044 = .ok (.iconst (-1), 1) := by decide +kernel
theorem dX12_init_1045 : decode cX12_init 1045 = .ok (.iastore, 1) := by decide +kernel
theorem dX12_init_1046 : decode cX12_init 1046 = .ok (.dup, 1) := by decide +kernel
theorem dX12_init_1047 : decode cX12_init 1047 = .ok (.iconst 1, 1) := by decide +kernel
theorem dX12_init_1048 : decode cX12_init 1048 = .ok (.iconst (-1), 1) := by decide +kernel
theorem dX12_init_1049 : decode cX12_init 1049 = .ok (.iastore, 1) := by decide +kernel
theorem dX12_init_1050 : decode cX12_init 1050 = .ok (.dup, 1) := by decide +kernel
theorem dX12_init_1051 : decode cX12_init 1051 = .ok (.iconst 2, 1) := by decide +kernel
theorem dX12_init_1052 : decode cX12_init 1052 = .ok (.iconst (-1), 1) := by decide +kernel
theorem dX12_init_1053 : decode cX12_init 1053 = .ok (.iastore, 1) := by decide +kernel
theorem dX12_init_1054 : decode cX12_init 1054 = .ok (.dup, 1) := by decide +kernel
theorem dX12_init_1055 : decode cX12_init 1055 = .ok (.iconst 3, 1) := by decide +kernel
theorem dX12_init_1056 : decode cX12_init 1056 = .ok (.iconst (-1), 1) := by decide +kernel
theorem dX12_init_1057 : decode cX12_init 1057 = .ok (.iastore, 1) := by decide +kernel
theorem dX12_init_1058 : decode cX12_init 1058 = .ok (.dup, 1) := by decide +kernel
theorem dX12_init_1059 : decode cX12_init 1059 = .ok (.iconst 4, 1) := by decide +kernel
theorem dX12_init_1060 : decode cX12_init 1060 = .ok (.iconst (-1), 1) := by decide +kernel
theorem dX12_init_1061 : decode cX12_init 1061 = .ok (.iastore, 1) := by decide +kernel
theorem dX12_init_1062 : decode cX12_init 1062 = .ok (.dup, 1) := by decide +kernel
theorem dX12_init_1063 : decode cX12_init 1063 = .ok (.iconst 5, 1) := by decide +kernel
theorem dX12_init_1064 : decode cX12_init 1064 = .ok (.iconst (-1), 1) := by decide +kernel
theorem dX12_init_1065 : decode cX12_init 1065 = .ok (.iastore, 1) := by decide +kernel
theorem dX12_init_1066 : decode cX12_init 1066 = .ok (.putfield 148, 3) := by decide +kernel
theorem dX12_init_1069 : decode cX12_init 1069 = .ok (.aload_n 0, 1) := by decide +kernel
theorem dX12_init_1070 : decode cX12_init 1070 = .ok (.bipush 6, 2) := by decide +kernel
theorem dX12_init_1072 : decode cX12_init 1072 = .ok (.newarray .int, 2) := by decide +kernel
theorem dX12_init_1074 : decode cX12_init 1074 = .ok (.putfield 151, 3) := by decide +kernel
theorem dX12_init_1077 : decode cX12_init 1077 = .ok (.aload_n 0, 1) := by decide +kernel
theorem dX12_init_1078 : decode cX12_init 1078 = .ok (.sipush 3200, 3) := by decide +kernel
theorem dX12_init_1081 : decode cX12_init 1081 = .ok (.newarray .int, 2) := by decide +kernel
theorem dX12_init_1083 : decode cX12_init 1083 = .ok (.putfield 154, 3) := by decide +kernel
theorem dX12_init_1086 : decode cX12_init 1086 = .ok (.aload_n 0, 1) := by decide +kernel
theorem dX12_init_1087 : decode cX12_init 1087 = .ok (.sipush 1700, 3) := by decide +kernel
theorem dX12_init_1090 : decode cX12_init 1090 = .ok (.newarray .int, 2) := by decide +kernel
theorem dX12_init_1092 : decode cX12_init 1092 = .ok (.putfield 157, 3) := by decide +kernel
theorem dX12_init_1095 : decode cX12_init 1095 = .ok (.aload_n 0, 1) := by decide +kernel
theorem dX12_init_1096 : decode cX12_init 1096 = .ok (.sipush 1700, 3) := by decide +kernel
theorem dX12_init_1099 : decode cX12_init 1099 = .ok (.newarray .long, 2) := by decide +kernel
theorem dX12_init_1101 : decode cX12_init 1101 = .ok (.putfield 160, 3) := by decide +kernel
theorem dX12_init_1104 : decode cX12_init 1104 = .ok (.aload_n 0, 1) := by decide +kernel
theorem dX12_init_1105 : decode cX12_init 1105 = .ok (.bipush 10, 2) := by decide +kernel
theorem dX12_init_1107 : decode cX12_init 1107 = .ok (.newarray .int, 2) := by decide +kernel
theorem dX12_init_1109 : decode cX12_init 1109 = .ok (.putfield 163, 3) := by decide +kernel
theorem dX12_init_1112 : decode cX12_init 1112 = .ok (.aload_n 0, 1) := by decide +kernel
theorem dX12_init_1113 : decode cX12_init 1113 = .ok (.sipush 187, 3) := by decide +kernel
theorem dX12_init_1116 : decode cX12_init 1116 = .ok (.newarray .int, 2) := by decide +kernel
theorem dX12_init_1118 : decode cX12_init 1118 = .ok (.putfield 166, 3) := by decide +kernel
theorem dX12_init_1121 : decode cX12_init 1121 = .ok (.aload_n 0, 1) := by decide +kernel
theorem dX12_init_1122 : decode cX12_init 1122 = .ok (.sipush 187, 3) := by decide +kernel
theorem dX12_init_1125 : decode cX12_init 1125 = .ok (.newarray .int, 2) := by decide +kernel
theorem dX12_init_1127 : decode cX12_init 1127 = .ok (.putfield 169, 3) := by decide +kernel
theorem dX12_init_1130 : decode cX12_init 1130 = .ok (.aload_n 0, 1) := by decide +kernel
theorem dX12_init_1131 : decode cX12_init 1131 = .ok (.bipush 48, 2) := by decide +kernel
theorem dX12_init_1133 : decode cX12_init 1133 = .ok (.newarray .int, 2) := by decide +kernel
theorem dX12_init_1135 : decode cX12_init 1135 = .ok (.putfield 172, 3) := by decide +kernel
theorem dX12_init_1138 : decode cX12_init 1138 = .ok (.aload_n 0, 1) := by decide +kernel
theorem dX12_init_1139 : decode cX12_init 1139 = .ok (.bipush 48, 2) := by decide +kernel
theorem dX12_init_1141 : decode cX12_init 1141 = .ok (.newarray .int, 2) := by decide +kernel
theorem dX12_init_1143 : decode cX12_init 1143 = .ok (.putfield 175, 3) := by decide +kernel
theorem dX12_init_1146 : decode cX12_init 1146 = .ok (.aload_n 0, 1) := by decide +kernel
theorem dX12_init_1147 : decode cX12_init 1147 = .ok (.bipush 6, 2) := by decide +kernel
theorem dX12_init_1149 : decode cX12_init 1149 = .ok (.newarray .int, 2) := by decide +kernel
theorem dX12_init_1151 : decode cX12_init 1151 = .ok (.putfield 178, 3) := by decide +kernel
theorem dX12_init_1154 : decode cX12_init 1154 = .ok (.aload_n 0, 1) := by decide +kernel
theorem dX12_init_1155 : decode cX12_init 1155 = .ok (.bipush 6, 2) := by decide +kernel
theorem dX12_init_1157 : decode cX12_init 1157 = .ok (.newarray .int, 2) := by decide +kernel
theorem dX12_init_1159 : decode cX12_init 1159 = .ok (.putfield 181, 3) := by decide +kernel
theorem dX12_init_1162 : decode cX12_init 1162 = .ok (.aload_n 0, 1) := by decide +kernel
theorem dX12_init_1163 : decode cX12_init 1163 = .ok (.bipush 6, 2) := by decide +kernel
theorem dX12_init_1165 : decode cX12_init 1165 = .ok (.newarray .int, 2) := by decide +kernel
theorem dX12_init_1167 : decode cX12_init 1167 = .ok (.putfield 184, 3) := by decide +kernel
theorem dX12_init_1170 : decode cX12_init 1170 = .ok (.aload_n 0, 1) := by decide +kernel
theorem dX12_init_1171 : decode cX12_init 1171 = .ok (.bipush 6, 2) := by decide +kernel
theorem dX12_init_1173 : decode cX12_init 1173 = .ok (.newarray .int, 2) := by decide +kernel
theorem dX12_init_1175 : decode cX12_init 1175 = .ok (.putfield 187, 3) := by decide +kernel
theorem dX12_init_1178 : decode cX12_init 1178 = .ok (.aload_n 0, 1) := by decide +kernel
theorem dX12_init_1179 : decode cX12_init 1179 = .ok (.bipush 40, 2) := by decide +kernel
theorem dX12_init_1181 : decode cX12_init 1181 = .ok (.newarray .int, 2) := by decide +kernel
theorem dX12_init_1183 : decode cX12_init 1183 = .ok (.putfield 190, 3) := by decide +kernel
theorem dX12_init_1186 : decode cX12_init 1186 = .ok (.aload_n 0, 1) := by decide +kernel
theorem dX12_init_1187 : decode cX12_init 1187 = .ok (.sipush 3740, 3) := by decide +kernel
theorem dX12_init_1190 : decode cX12_init 1190 = .ok (.newarray .int, 2) := by decide +kernel
theorem dX12_init_1192 : decode cX12_init 1192 = .ok (.putfield 193, 3) := by decide +kernel
theorem dX12_init_1195 : decode cX12_init 1195 = .ok (.aload_n 0, 1) := by decide +kernel
theorem dX12_init_1196 : decode cX12_init 1196 = .ok (.lconst 1, 1) := by decide +kernel
theorem dX12_init_1197 : decode cX12_init 1197 = .ok (.putfield 196, 3) := by decide +kernel
theorem dX12_init_1200 : decode cX12_init 1200 = .ok (.aload_n 0, 1) := by decide +kernel
theorem dX12_init_1201 : decode cX12_init 1201 = .ok (.iconst 5, 1) := by decide +kernel
theorem dX12_init_1202 : decode cX12_init 1202 = .ok (.newarray .char, 2) := by decide +kernel
theorem dX12_init_1204 : decode cX12_init 1204 = .ok (.dup, 1) := by decide +kernel
theorem dX12_init_1205 : decode cX12_init 1205 = .ok (.iconst 0, 1) := by decide +kernel
theorem dX12_init_1206 : decode cX12_init 1206 = .ok (.bipush 102, 2) := by decide +kernel
theorem dX12_init_1208 : decode cX12_init 1208 = .ok (.castore, 1) := by decide +kernel
theorem dX12_init_1209 : decode cX12_init 1209 = .ok (.dup, 1) := by decide +kernel
theorem dX12_init_1210 : decode cX12_init 1210 = .ok (.iconst 1, 1) := by decide +kernel
theorem dX12_init_1211 : decode cX12_init 1211 = .ok (.bipush 105, 2) := by decide +kernel
theorem dX12_init_1213 : decode cX12_init 1213 = .ok (.castore, 1) := by decide +kernel
theorem dX12_init_1214 : decode cX12_init 1214 = .ok (.dup, 1) := by decide +kernel
theorem dX12_init_1215 : decode cX12_init 1215 = .ok (.iconst 2, 1) := by decide +kernel
theorem dX12_init_1216 : decode cX12_init 1216 = .ok (.bipush 114, 2) := by decide +kernel
theorem dX12_init_1218 : decode cX12_init 1218 = .ok (.castore, 1) := by decide +kernel
theorem dX12_init_1219 : decode cX12_init 1219 = .ok (.dup, 1) := by decide +kernel
theorem dX12_init_1220 : decode cX12_init 1220 = .ok (.iconst 3, 1) := by decide +kernel
theorem dX12_init_1221 : decode cX12_init 1221 = .ok (.bipush 115, 2) := by decide +kernel
theorem dX12_init_1223 : decode cX12_init 1223 = .ok (.castore, 1) := by decide +kernel
theorem dX12_init_1224 : decode cX12_init 1224 = .ok (.dup, 1) := by decide +kernel
theorem dX12_init_1225 : decode cX12_init 1225 = .ok (.iconst 4, 1) := by decide +kernel
theorem dX12_init_1226 : decode cX12_init 1226 = .ok (.bipush 116, 2) := by decide +kernel
theorem dX12_init_1228 : decode cX12_init 1228 = .ok (.castore, 1) := by decide +kernel
theorem dX12_init_1229 : decode cX12_init 1229 = .ok (.putfield 200, 3) := by decide +kernel
theorem dX12_init_1232 : decode cX12_init 1232 = .ok (.aload_n 0, 1) := by decide +kernel
theorem dX12_init_1233 : decode cX12_init 1233 = .ok (.iconst 4, 1) := by decide +kernel
theorem dX12_init_1234 : decode cX12_init 1234 = .ok (.newarray .char, 2) := by decide +kernel
theorem dX12_init_1236 : decode cX12_init 1236 = .ok (.dup, 1) := by decide +kernel
theorem dX12_init_1237 : decode cX12_init 1237 = .ok (.iconst 0, 1) := by decide +kernel
theorem dX12_init_1238 : decode cX12_init 1238 = .ok (.bipush 108, 2) := by decide +kernel
theorem dX12_init_1240 : decode cX12_init 1240 = .ok (.castore, 1) := by decide +kernel
theorem dX12_init_1241 : decode cX12_init 1241 = .ok (.dup, 1) := by decide +kernel
theorem dX12_init_1242 : decode cX12_init 1242 = .ok (.iconst 1, 1) := by decide +kernel
theorem dX12_init_1243 : decode cX12_init 1243 = .ok (.bipush 97, 2) := by decide +kernel
theorem dX12_init_1245 : decode cX12_init 1245 = .ok (.castore, 1) := by decide +kernel
theorem dX12_init_1246 : decode cX12_init 1246 = .ok (.dup, 1) := by decide +kernel
theorem dX12_init_1247 : decode cX12_init 1247 = .ok (.iconst 2, 1) := by decide +kernel
theorem dX12_init_1248 : decode cX12_init 1248 = .ok (.bipush 115, 2) := by decide +kernel
theorem dX12_init_1250 : decode cX12_init 1250 = .ok (.castore, 1) := by decide +kernel
theorem dX12_init_1251 : decode cX12_init 1251 = .ok (.dup, 1) := by decide +kernel
theorem dX12_init_1252 : decode cX12_init 1252 = .ok (.iconst 3, 1) := by decide +kernel
theorem dX12_init_1253 : decode cX12_init 1253 = .ok (.bipush 116, 2) := by decide +kernel
theorem dX12_init_1255 : decode cX12_init 1255 = .ok (.castore, 1) := by decide +kernel
theorem dX12_init_1256 : decode cX12_init 1256 = .ok (.putfield 203, 3) := by decide +kernel
theorem dX12_init_1259 : decode cX12_init 1259 = .ok (.aload_n 0, 1) := by decide +kernel
theorem dX12_init_1260 : decode cX12_init 1260 = .ok (.iconst 5, 1) := by decide +kernel
theorem dX12_init_1261 : decode cX12_init 1261 = .ok (.newarray .char, 2) := by decide +kernel
theorem dX12_init_1263 : decode cX12_init 1263 = .ok (.dup, 1) := by decide +kernel
theorem dX12_init_1264 : decode cX12_init 1264 = .ok (.iconst 0, 1) := by decide +kernel
theorem dX12_init_1265 : decode cX12_init 1265 = .ok (.bipush 111, 2) := by decide +kernel
theorem dX12_init_1267 : decode cX12_init 1267 = .ok (.castore, 1) := by decide +kernel
theorem dX12_init_1268 : decode cX12_init 1268 = .ok (.dup, 1) := by decide +kernel
theorem dX12_init_1269 : decode cX12_init 1269 = .ok (.iconst 1, 1) := by decide +kernel
theorem dX12_init_1270 : decode cX12_init 1270 = .ok (.bipush 102, 2) := by decide +kernel
theorem dX12_init_1272 : decode cX12_init 1272 = .ok (.castore, 1) := by decide +kernel
theorem dX12_init_1273 : decode cX12_init 1273 = .ok (.dup, 1) := by decide +kernel
theorem dX12_init_1274 : decode cX12_init 1274 = .ok (.iconst 2, 1) := by decide +kernel
theorem dX12_init_1275 : decode cX12_init 1275 = .ok (.bipush 116, 2) := by decide +kernel
theorem dX12_init_1277 : decode cX12_init 1277 = .ok (.castore, 1) := by decide +kernel
theorem dX12_init_1278 : decode cX12_init 1278 = .ok (.dup, 1) := by decide +kernel
theorem dX12_init_1279 : decode cX12_init 1279 = .ok (.iconst 3, 1) := by decide +kernel
theorem dX12_init_1280 : decode cX12_init 1280 = .ok (.bipush 101, 2) := by decide +kernel
theorem dX12_init_1282 : decode cX12_init 1282 = .ok (.castore, 1) := by decide +kernel
theorem dX12_init_1283 : decode cX12_init 1283 = .ok (.dup, 1) := by decide +kernel
theorem dX12_init_1284 : decode cX12_init 1284 = .ok (.iconst 4, 1) := by decide +kernel
theorem dX12_init_1285 : decode cX12_init 1285 = .ok (.bipush 110, 2) := by decide +kernel
theorem dX12_init_1287 : decode cX12_init 1287 = .ok (.castore, 1) := by decide +kernel
theorem dX12_init_1288 : decode cX12_init 1288 = .ok (.putfield 206, 3) := by decide +kernel
theorem dX12_init_1291 : decode cX12_init 1291 = .ok (.aload_n 0, 1) := by decide +kernel
theorem dX12_init_1292 : decode cX12_init 1292 = .ok (.iconst 5, 1) := by decide +kernel
theorem dX12_init_1293 : decode cX12_init 1293 = .ok (.newarray .char, 2) := by decide +kernel
theorem dX12_init_1295 : decode cX12_init 1295 = .ok (.dup, 1) := by decide +kernel
theorem dX12_init_1296 : decode cX12_init 1296 = .ok (.iconst 0, 1) := by decide +kernel
theorem dX12_init_1297 : decode cX12_init 1297 = .ok (.bipush 116, 2) := by decide +kernel
theorem dX12_init_1299 : decode cX12_init 1299 = .ok (.castore, 1) := by decide +kernel
theorem dX12_init_1300 : decode cX12_init 1300 = .ok (.dup, 1) := by decide +kernel
theorem dX12_init_1301 : decode cX12_init 1301 = .ok (.iconst 1, 1) := by decide +kernel
theorem dX12_init_1302 : decode cX12_init 1302 = .ok (.bipush 111, 2) := by decide +kernel
theorem dX12_init_1304 : decode cX12_init 1304 = .ok (.castore, 1) := by decide +kernel
theorem dX12_init_1305 : decode cX12_init 1305 = .ok (.dup, 1) := by decide +kernel
theorem dX12_init_1306 : decode cX12_init 1306 = .ok (.iconst 2, 1) := by decide +kernel
theorem dX12_init_1307 : decode cX12_init 1307 = .ok (.bipush 116, 2) := by decide +kernel
theorem dX12_init_1309 : decode cX12_init 1309 = .ok (.castore, 1) := by decide +kernel
theorem dX12_init_1310 : decode cX12_init 1310 = .ok (.dup, 1) := by decide +kernel
theorem dX12_init_1311 : decode cX12_init 1311 = .ok (.iconst 3, 1) := by decide +kernel
theorem dX12_init_1312 : decode cX12_init 1312 = .ok (.bipush 97, 2) := by decide +kernel
theorem dX12_init_1314 : decode cX12_init 1314 = .ok (.castore, 1) := by decide +kernel
theorem dX12_init_1315 : decode cX12_init 1315 = .ok (.dup, 1) := by decide +kernel
theorem dX12_init_1316 : decode cX12_init 1316 = .ok (.iconst 4, 1) := by decide +kernel
theorem dX12_init_1317 : decode cX12_init 1317 = .ok (.bipush 108, 2) := by decide +kernel
theorem dX12_init_1319 : decode cX12_init 1319 = .ok (.castore, 1) := by decide +kernel
theorem dX12_init_1320 : decode cX12_init 1320 = .ok (.putfield 209, 3) := by decide +kernel
theorem dX12_init_1323 : decode cX12_init 1323 = .ok (.aload_n 0, 1) := by decide +kernel
theorem dX12_init_1324 : decode cX12_init 1324 = .ok (.iconst 4, 1) := by decide +kernel
theorem dX12_init_1325 : decode cX12_init 1325 = .ok (.newarray .char, 2) := by decide +kernel
theorem dX12_init_1327 : decode cX12_init 1327 = .ok (.dup, 1) := by decide +kernel
theorem dX12_init_1328 : decode cX12_init 1328 = .ok (.iconst 0, 1) := by decide +kernel
theorem dX12_init_1329 : decode cX12_init 1329 = .ok (.bipush 109, 2) := by decide +kernel
theorem dX12_init_1331 : decode cX12_init 1331 = .ok (.castore, 1) := by decide +kernel
theorem dX12_init_1332 : decode cX12_init 1332 = .ok (.dup, 1) := by decide +kernel
theorem dX12_init_1333 : decode cX12_init 1333 = .ok (.iconst 1, 1) := by decide +kernel
theorem dX12_init_1334 : decode cX12_init 1334 = .ok (.bipush 111, 2) := by decide +kernel
theorem dX12_init_1336 : decode cX12_init 1336 = .ok (.castore, 1) := by decide +kernel
theorem dX12_init_1337 : decode cX12_init 1337 = .ok (.dup, 1) := by decide +kernel
theorem dX12_init_1338 : decode cX12_init 1338 = .ok (.iconst 2, 1) := by decide +kernel
theorem dX12_init_1339 : decode cX12_init 1339 = .ok (.bipush 115, 2) := by decide +kernel
theorem dX12_init_1341 : decode cX12_init 1341 = .ok (.castore, 1) := by decide +kernel
theorem dX12_init_1342 : decode cX12_init 1342 = .ok (.dup, 1) := by decide +kernel
theorem dX12_init_1343 : decode cX12_init 1343 = .ok (.iconst 3, 1) := by decide +kernel
theorem dX12_init_1344 : decode cX12_init 1344 = .ok (.bipush 116, 2) := by decide +kernel
theorem dX12_init_1346 : decode cX12_init 1346 = .ok (.castore, 1) := by decide +kernel
theorem dX12_init_1347 : decode cX12_init 1347 = .ok (.putfield 212, 3) := by decide +kernel
theorem dX12_init_1350 : decode cX12_init 1350 = .ok (.aload_n 0, 1) := by decide +kernel
theorem dX12_init_1351 : decode cX12_init 1351 = .ok (.iconst 5, 1) := by decide +kernel
theorem dX12_init_1352 : decode cX12_init 1352 = .ok (.newarray .char, 2) := by decide +kernel
theorem dX12_init_1354 : decode cX12_init 1354 = .ok (.dup, 1) := by decide +kernel
theorem dX12_init_1355 : decode cX12_init 1355 = .ok (.iconst 0, 1) := by decide +kernel
theorem dX12_init_1356 : decode cX12_init 1356 = .ok (.bipush 108, 2) := by decide +kernel
theorem dX12_init_1358 : decode cX12_init 1358 = .ok (.castore, 1) := by decide +kernel
theorem dX12_init_1359 : decode cX12_init 1359 = .ok (.dup, 1) := by decide +kernel
theorem dX12_init_1360 : decode cX12_init 1360 = .ok (.iconst 1, 1) := by decide +kernel
theorem dX12_init_1361 : decode cX12_init 1361 = .ok (.bipush 101, 2) := by decide +kernel
theorem dX12_init_1363 : decode cX12_init 1363 = .ok (.castore, 1) := by decide +kernel
theorem dX12_init_1364 : decode cX12_init 1364 = .ok (.dup, 1) := by decide +kernel
theorem dX12_init_1365 : decode cX12_init 1365 = .ok (.iconst 2, 1) := by decide +kernel
theorem dX12_init_1366 : decode cX12_init 1366 = .ok (.bipush 97, 2) := by decide +kernel
theorem dX12_init_1368 : decode cX12_init 1368 = .ok (.castore, 1) := by decide +kernel
theorem dX12_init_1369 : decode cX12_init 1369 = .ok (.dup, 1) := by decide +kernel
theorem dX12_init_1370 : decode cX12_init 1370 = .ok (.iconst 3, 1) := by decide +kernel
theorem dX12_init_1371 : decode cX12_init 1371 = .ok (.bipush 115, 2) := by decide +kernel
theorem dX12_init_1373 : decode cX12_init 1373 = .ok (.castore, 1) := by decide +kernel
theorem dX12_init_1374 : decode cX12_init 1374 = .ok (.dup, 1) := by decide +kernel
theorem dX12_init_1375 : decode cX12_init 1375 = .ok (.iconst 4, 1) := by decide +kernel
theorem dX12_init_1376 : decode cX12_init 1376 = .ok (.bipush 116, 2) := by decide +kernel
theorem dX12_init_1378 : decode cX12_init 1378 = .ok (.castore, 1) := by decide +kernel
theorem dX12_init_1379 : decode cX12_init 1379 = .ok (.putfield 215, 3) := by decide +kernel
theorem dX12_init_1382 : decode cX12_init 1382 = .ok (.aload_n 0, 1) := by decide +kernel
theorem dX12_init_1383 : decode cX12_init 1383 = .ok (.iconst 3, 1) := by decide +kernel
theorem dX12_init_1384 : decode cX12_init 1384 = .ok (.newarray .char, 2) := by decide +kernel
theorem dX12_init_1386 : decode cX12_init 1386 = .ok (.dup, 1) := by decide +kernel
theorem dX12_init_1387 : decode cX12_init 1387 = .ok (.iconst 0, 1) := by decide +kernel
theorem dX12_init_1388 : decode cX12_init 1388 = .ok (.bipush 110, 2) := by decide +kernel
theorem dX12_init_1390 : decode cX12_init 1390 = .ok (.castore, 1) := by decide +kernel
theorem dX12_init_1391 : decode cX12_init 1391 = .ok (.dup, 1) := by decide +kernel
theorem dX12_init_1392 : decode cX12_init 1392 = .ok (.iconst 1, 1) := by decide +kernel
theorem dX12_init_1393 : decode cX12_init 1393 = .ok (.bipush 111, 2) := by decide +kernel
theorem dX12_init_1395 : decode cX12_init 1395 = .ok (.castore, 1) := by decide +kernel
theorem dX12_init_1396 : decode cX12_init 1396 = .ok (.dup, 1) := by decide +kernel
theorem dX12_init_1397 : decode cX12_init 1397 = .ok (.iconst 2, 1) := by decide +kernel
theorem dX12_init_1398 : decode cX12_init 1398 = .ok (.bipush 116, 2) := by decide +kernel
theorem dX12_init_1400 : decode cX12_init 1400 = .ok (.castore, 1) := by decide +kernel
theorem dX12_init_1401 : decode cX12_init 1401 = .ok (.putfield 218, 3) := by decide +kernel
theorem dX12_init_1404 : decode cX12_init 1404 = .ok (.aload_n 0, 1) := by decide +kernel
theorem dX12_init_1405 : decode cX12_init 1405 = .ok (.iconst 3, 1) := by decide +kernel
theorem dX12_init_1406 : decode cX12_init 1406 = .ok (.newarray .char, 2) := by decide +kernel
theorem dX12_init_1408 : decode cX12_init 1408 = .ok (.dup, 1) := by decide +kernel
theorem dX12_init_1409 : decode cX12_init 1409 = .ok (.iconst 0, 1) := by decide +kernel
theorem dX12_init_1410 : decode cX12_init 1410 = .ok (.bipush 97, 2) := by decide +kernel
theorem dX12_init_1412 : decode cX12_init 1412 = .ok (.castore, 1) := by decide +kernel
theorem dX12_init_1413 : decode cX12_init 1413 = .ok (.dup, 1) := by decide +kernel
theorem dX12_init_1414 : decode cX12_init 1414 = .ok (.iconst 1, 1) := by decide +kernel
theorem dX12_init_1415 : decode cX12_init 1415 = .ok (.bipush 110, 2) := by decide +kernel
theorem dX12_init_1417 : decode cX12_init 1417 = .ok (.castore, 1) := by decide +kernel
theorem dX12_init_1418 : decode cX12_init 1418 = .ok (.dup, 1) := by decide +kernel
theorem dX12_init_1419 : decode cX12_init 1419 = .ok (.iconst 2, 1) := by decide +kernel
theorem dX12_init_1420 : decode cX12_init 1420 = .ok (.bipush 100, 2) := by decide +kernel
theorem dX12_init_1422 : decode cX12_init 1422 = .ok (.castore, 1) := by decide +kernel
theorem dX12_init_1423 : decode cX12_init 1423 = .ok (.putfield 221, 3) := by decide +kernel
theorem dX12_init_1426 : decode cX12_init 1426 = .ok (.aload_n 0, 1) := by decide +kernel
theorem dX12_init_1427 : decode cX12_init 1427 = .ok (.iconst 2, 1) := by decide +kernel
theorem dX12_init_1428 : decode cX12_init 1428 = .ok (.newarray .char, 2) := by decide +kernel
theorem dX12_init_1430 : decode cX12_init 1430 = .ok (.dup, 1) := by decide +kernel
theorem dX12_init_1431 : decode cX12_init 1431 = .ok (.iconst 0, 1) := by decide +kernel
theorem dX12_init_1432 : decode cX12_init 1432 = .ok (.bipush 111, 2) := by decide +kernel
theorem dX12_init_1434 : decode cX12_init 1434 = .ok (.castore, 1) := by decide +kernel
theorem dX12_init_1435 : decode cX12_init 1435 = .ok (.dup, 1) := by decide +kernel
theorem dX12_init_1436 : decode cX12_init 1436 = .ok (.iconst 1, 1) := by decide +kernel
theorem dX12_init_1437 : decode cX12_init 1437 = .ok (.bipush 114, 2) := by decide +kernel
theorem dX12_init_1439 : decode cX12_init 1439 = .ok (.castore, 1) := by decide +kernel
theorem dX12_init_1440 : decode cX12_init 1440 = .ok (.putfield 224, 3) := by decide +kernel
theorem dX12_init_1443 : decode cX12_init 1443 = .ok (.aload_n 0, 1) := by decide +kernel
theorem dX12_init_1444 : decode cX12_init 1444 = .ok (.iconst 3, 1) := by decide +kernel
theorem dX12_init_1445 : decode cX12_init 1445 = .ok (.newarray .char, 2) := by decide +kernel
theorem dX12_init_1447 : decode cX12_init 1447 = .ok (.dup, 1) := by decide +kernel
theorem dX12_init_1448 : decode cX12_init 1448 = .ok (.iconst 0, 1) := by decide +kernel
theorem dX12_init_1449 : decode cX12_init 1449 = .ok (.bipush 97, 2) := by decide +kernel
theorem dX12_init_1451 : decode cX12_init 1451 = .ok (.castore, 1) := by decide +kernel
theorem dX12_init_1452 : decode cX12_init 1452 = .ok (.dup, 1) := by decide +kernel
theorem dX12_init_1453 : decode cX12_init 1453 = .ok (.iconst 1, 1) := by decide +kernel
theorem dX12_init_1454 : decode cX12_init 1454 = .ok (.bipush 108, 2) := by decide +kernel
theorem dX12_init_1456 : decode cX12_init 1456 = .ok (.castore, 1) := by decide +kernel
theorem dX12_init_1457 : decode cX12_init 1457 = .ok (.dup, 1) := by decide +kernel
theorem dX12_init_1458 : decode cX12_init 1458 = .ok (.iconst 2, 1) := by decide +kernel
theorem dX12_init_1459 : decode cX12_init 1459 = .ok (.bipush 108, 2) := by decide +kernel
theorem dX12_init_1461 : decode cX12_init 1461 = .ok (.castore, 1) := by decide +kernel
theorem dX12_init_1462 : decode cX12_init 1462 = .ok (.putfield 227, 3) := by decide +kernel
theorem dX12_init_1465 : decode cX12_init 1465 = .ok (.aload_n 0, 1) := by decide +kernel
theorem dX12_init_1466 : decode cX12_init 1466 = .ok (.iconst 3, 1) := by decide +kernel
theorem dX12_init_1467 : decode cX12_init 1467 = .ok (.newarray .char, 2) := by decide +kernel
theorem dX12_init_1469 : decode cX12_init 1469 = .ok (.dup, 1) := by decide +kernel
theorem dX12_init_1470 : decode cX12_init 1470 = .ok (.iconst 0, 1) := by decide +kernel
theorem dX12_init_1471 : decode cX12_init 1471 = .ok (.bipush 109, 2) := by decide +kernel
theorem dX12_init_1473 : decode cX12_init 1473 = .ok (.castore, 1) := by decide +kernel
theorem dX12_init_1474 : decode cX12_init 1474 = .ok (.dup, 1) := by decide +kernel
theorem dX12_init_1475 : decode cX12_init 1475 = .ok (.iconst 1, 1) := by decide +kernel
theorem dX12_init_1476 : decode cX12_init 1476 = .ok (.bipush 105, 2) := by decide +kernel
theorem dX12_init_1478 : decode cX12_init 1478 = .ok (.castore, 1) := by decide +kernel
theorem dX12_init_1479 : decode cX12_init 1479 = .ok (.dup, 1) := by decide +kernel
theorem dX12_init_1480 : decode cX12_init 1480 = .ok (.iconst 2, 1) := by decide +kernel
theorem dX12_init_1481 : decode cX12_init 1481 = .ok (.bipush 110, 2) := by decide +kernel
theorem dX12_init_1483 : decode cX12_init 1483 = .ok (.castore, 1) := by decide +kernel
theorem dX12_init_1484 : decode cX12_init 1484 = .ok (.putfield 230, 3) := by decide +kernel
theorem dX12_init_1487 : decode cX12_init 1487 = .ok (.aload_n 0, 1) := by decide +kernel
theorem dX12_init_1488 : decode cX12_init 1488 = .ok (.iconst 3, 1) := by decide +kernel
theorem dX12_init_1489 : decode cX12_init 1489 = .ok (.newarray .char, 2) := by decide +kernel
theorem dX12_init_1491 : decode cX12_init 1491 = .ok (.dup, 1) := by decide +kernel
theorem dX12_init_1492 : decode cX12_init 1492 = .ok (.iconst 0, 1) := by decide +kernel
theorem dX12_init_1493 : decode cX12_init 1493 = .ok (.bipush 109, 2) := by decide +kernel
theorem dX12_init_1495 : decode cX12_init 1495 = .ok (.castore, 1) := by decide +kernel
theorem dX12_init_1496 : decode cX12_init 1496 = .ok (.dup, 1) := by decide +kernel
theorem dX12_init_1497 : decode cX12_init 1497 = .ok (.iconst 1, 1) := by decide +kernel
theorem dX12_init_1498 : decode cX12_init 1498 = .ok (.bipush 97, 2) := by decide +kernel
theorem dX12_init_1500 : decode cX12_init 1500 = .ok (.castore, 1) := by decide +kernel
theorem dX12_init_1501 : decode cX12_init 1501 = .ok (.dup, 1) := by decide +kernel
theorem dX12_init_1502 : decode cX12_init 1502 = .ok (.iconst 2, 1) := by decide +kernel
theorem dX12_init_1503 : decode cX12_init 1503 = .ok (.bipush 120, 2) := by decide +kernel
theorem dX12_init_1505 : decode cX12_init 1505 = .ok (.castore, 1) := by decide +kernel
theorem dX12_init_1506 : decode cX12_init 1506 = .ok (.putfield 233, 3) := by decide +kernel
theorem dX12_init_1509 : decode cX12_init 1509 = .ok (.aload_n 0, 1) := by decide +kernel
theorem dX12_init_1510 : decode cX12_init 1510 = .ok (.bipush 6, 2) := by decide +kernel
theorem dX12_init_1512 : decode cX12_init 1512 = .ok (.newarray .char, 2) := by decide +kernel
theorem dX12_init_1514 : decode cX12_init 1514 = .ok (.dup, 1) := by decide +kernel
theorem dX12_init_1515 : decode cX12_init 1515 = .ok (.iconst 0, 1) := by decide +kernel
theorem dX12_init_1516 : decode cX12_init 1516 = .ok (.bipush 110, 2) := by decide +kernel
theorem dX12_init_1518 : decode cX12_init 1518 = .ok (.castore, 1) := by decide +kernel
theorem dX12_init_1519 : decode cX12_init 1519 = .ok (.dup, 1) := by decide +kernel
theorem dX12_init_1520 : decode cX12_init 1520 = .ok (.iconst 1, 1) := by decide +kernel
theorem dX12_init_1521 : decode cX12_init 1521 = .ok (.bipush 117, 2) := by decide +kernel
theorem dX12_init_1523 : decode cX12_init 1523 = .ok (.castore, 1) := by decide +kernel
theorem dX12_init_1524 : decode cX12_init 1524 = .ok (.dup, 1) := by decide +kernel
theorem dX12_init_1525 : decode cX12_init 1525 = .ok (.iconst 2, 1) := by decide +kernel
theorem dX12_init_1526 : decode cX12_init 1526 = .ok (.bipush 109, 2) := by decide +kernel
theorem dX12_init_1528 : decode cX12_init 1528 = .ok (.castore, 1) := by decide +kernel
theorem dX12_init_1529 : decode cX12_init 1529 = .ok (.dup, 1) := by decide +kernel
theorem dX12_init_1530 : decode cX12_init 1530 = .ok (.iconst 3, 1) := by decide +kernel
theorem dX12_init_1531 : decode cX12_init 1531 = .ok (.bipush 98, 2) := by decide +kernel
theorem dX12_init_1533 : decode cX12_init 1533 = .ok (.castore, 1) := by decide +kernel
theorem dX12_init_1534 : decode cX12_init 1534 = .ok (.dup, 1) := by decide +kernel
theorem dX12_init_1535 : decode cX12_init 1535 = .ok (.iconst 4, 1) := by decide +kernel
theorem dX12_init_1536 : decode cX12_init 1536 = .ok (.bipush 101, 2) := by decide +kernel
theorem dX12_init_1538 : decode cX12_init 1538 = .ok (.castore, 1) := by decide +kernel
theorem dX12_init_1539 : decode cX12_init 1539 = .ok (.dup, 1) := by decide +kernel
theorem dX12_init_1540 : decode cX12_init 1540 = .ok (.iconst 5, 1) := by decide +kernel
theorem dX12_init_1541 : decode cX12_init 1541 = .ok (.bipush 114, 2) := by decide +kernel
theorem dX12_init_1543 : decode cX12_init 1543 = .ok (.castore, 1) := by decide +kernel
theorem dX12_init_1544 : decode cX12_init 1544 = .ok (.putfield 236, 3) := by decide +kernel
theorem dX12_init_1547 : decode cX12_init 1547 = .ok (.aload_n 0, 1) := by decide +kernel
theorem dX12_init_1548 : decode cX12_init 1548 = .ok (.bipush 6, 2) := by decide +kernel
theorem dX12_init_1550 : decode cX12_init 1550 = .ok (.newarray .char, 2) := by decide +kernel
theorem dX12_init_1552 : decode cX12_init 1552 = .ok (.dup, 1) := by decide +kernel
theorem dX12_init_1553 : decode cX12_init 1553 = .ok (.iconst 0, 1) := by decide +kernel
theorem dX12_init_1554 : decode cX12_init 1554 = .ok (.bipush 97, 2) := by decide +kernel
theorem dX12_init_1556 : decode cX12_init 1556 = .ok (.castore, 1) := by decide +kernel
theorem dX12_init_1557 : decode cX12_init 1557 = .ok (.dup, 1) := by decide +kernel
theorem dX12_init_1558 : decode cX12_init 1558 = .ok (.iconst 1, 1) := by decide +kernel
theorem dX12_init_1559 : decode cX12_init 1559 = .ok (.bipush 99, 2) := by decide +kernel
theorem dX12_init_1561 : decode cX12_init 1561 = .ok (.castore, 1) := by decide +kernel
theorem dX12_init_1562 : decode cX12_init 1562 = .ok (.dup, 1) := by decide +kernel
theorem dX12_init_1563 : decode cX12_init 1563 = .ok (.iconst 2, 1) := by decide +kernel
theorem dX12_init_1564 : decode cX12_init 1564 = .ok (.bipush 114, 2) := by decide +kernel
theorem dX12_init_1566 : decode cX12_init 1566 = .ok (.castore, 1) := by decide +kernel
theorem dX12_init_1567 : decode cX12_init 1567 = .ok (.dup, 1) := by decide +kernel
theorem dX12_init_1568 : decode cX12_init 1568 = .ok (.iconst 3, 1) := by decide +kernel
theorem dX12_init_1569 : decode cX12_init 1569 = .ok (.bipush 111, 2) := by decide +kernel
theorem dX12_init_1571 : decode cX12_init 1571 = .ok (.castore, 1) := by decide +kernel
theorem dX12_init_1572 : decode cX12_init 1572 = .ok (.dup, 1) := by decide +kernel
theorem dX12_init_1573 : decode cX12_init 1573 = .ok (.iconst 4, 1) := by decide +kernel
theorem dX12_init_1574 : decode cX12_init 1574 = .ok (.bipush 115, 2) := by decide +kernel
theorem dX12_init_1576 : decode cX12_init 1576 = .ok (.castore, 1) := by decide +kernel
theorem dX12_init_1577 : decode cX12_init 1577 = .ok (.dup, 1) := by decide +kernel
theorem dX12_init_1578 : decode cX12_init 1578 = .ok (.iconst 5, 1) := by decide +kernel
theorem dX12_init_1579 : decode cX12_init 1579 = .ok (.bipush 115, 2) := by decide +kernel
theorem dX12_init_1581 : decode cX12_init 1581 = .ok (.castore, 1) := by decide +kernel
theorem dX12_init_1582 : decode cX12_init 1582 = .ok (.putfield 239, 3) := by decide +kernel
theorem dX12_init_1585 : decode cX12_init 1585 = .ok (.aload_n 0, 1) := by decide +kernel
theorem dX12_init_1586 : decode cX12_init 1586 = .ok (.iconst 4, 1) := by decide +kernel
theorem dX12_init_1587 : decode cX12_init 1587 = .ok (.newarray .char, 2) := by decide +kernel
theorem dX12_init_1589 : decode cX12_init 1589 = .ok (.dup, 1) := by decide +kernel
theorem dX12_init_1590 : decode cX12_init 1590 = .ok (.iconst 0, 1) := by decide +kernel
theorem dX12_init_1591 : decode cX12_init 1591 = .ok (.bipush 100, 2) := by decide +kernel
theorem dX12_init_1593 : decode cX12_init 1593 = .ok (.castore, 1) := by decide +kernel
theorem dX12_init_1594 : decode cX12_init 1594 = .ok (.dup, 1) := by decide +kernel
theorem dX12_init_1595 : decode cX12_init 1595 = .ok (.iconst 1, 1) := by decide +kernel
theorem dX12_init_1596 : decode cX12_init 1596 = .ok (.bipush 111, 2) := by decide +kernel
theorem dX12_init_1598 : decode cX12_init 1598 = .ok (.castore, 1) := by decide +kernel
theorem dX12_init_1599 : decode cX12_init 1599 = .ok (.dup, 1) := by decide +kernel
theorem dX12_init_1600 : decode cX12_init 1600 = .ok (.iconst 2, 1) := by decide +kernel
theorem dX12_init_1601 : decode cX12_init 1601 = .ok (.bipush 119, 2) := by decide +kernel
theorem dX12_init_1603 : decode cX12_init 1603 = .ok (.castore, 1) := by decide +kernel
theorem dX12_init_1604 : decode cX12_init 1604 = .ok (.dup, 1) := by decide +kernel
theorem dX12_init_1605 : decode cX12_init 1605 = .ok (.iconst 3, 1) := by decide +kernel
theorem dX12_init_1606 : decode cX12_init 1606 = .ok (.bipush 110, 2) := by decide +kernel
theorem dX12_init_1608 : decode cX12_init 1608 = .ok (.castore, 1) := by decide +kernel
theorem dX12_init_1609 : decode cX12_init 1609 = .ok (.putfield 242, 3) := by decide +kernel
theorem dX12_init_1612 : decode cX12_init 1612 = .ok (.aload_n 0, 1) := by decide +kernel
theorem dX12_init_1613 : decode cX12_init 1613 = .ok (.iconst 5, 1) := by decide +kernel
theorem dX12_init_1614 : decode cX12_init 1614 = .ok (.newarray .char, 2) := by decide +kernel
theorem dX12_init_1616 : decode cX12_init 1616 = .ok (.dup, 1) := by decide +kernel
theorem dX12_init_1617 : decode cX12_init 1617 = .ok (.iconst 0, 1) := by decide +kernel
theorem dX12_init_1618 : decode cX12_init 1618 = .ok (.bipush 100, 2) := by decide +kernel
theorem dX12_init_1620 : decode cX12_init 1620 = .ok (.castore, 1) := by decide +kernel
theorem dX12_init_1621 : decode cX12_init 1621 = .ok (.dup, 1) := by decide +kernel
theorem dX12_init_1622 : decode cX12_init 1622 = .ok (.iconst 1, 1) := by decide +kernel
theorem dX12_init_1623 : decode cX12_init 1623 = .ok (.bipush 101, 2) := by decide +kernel
theorem dX12_init_1625 : decode cX12_init 1625 = .ok (.castore, 1) := by decide +kernel
theorem dX12_init_1626 : decode cX12_init 1626 = .ok (.dup, 1) := by decide +kernel
theorem dX12_init_1627 : decode cX12_init 1627 = .ok (.iconst 2, 1) := by decide +kernel
theorem dX12_init_1628 : decode cX12_init 1628 = .ok (.bipush 112, 2) := by decide +kernel
theorem dX12_init_1630 : decode cX12_init 1630 = .ok (.castore, 1) := by decide +kernel
theorem dX12_init_1631 : decode cX12_init 1631 = .ok (.dup, 1) := by decide +kernel
theorem dX12_init_1632 : decode cX12_init 1632 = .ok (.iconst 3, 1) := by decide +kernel
theorem dX12_init_1633 : decode cX12_init 1633 = .ok (.bipush 116, 2) := by decide +kernel
theorem dX12_init_1635 : decode cX12_init 1635 = .ok (.castore, 1) := by decide +kernel
theorem dX12_init_1636 : decode cX12_init 1636 = .ok (.dup, 1) := by decide +kernel
theorem dX12_init_1637 : decode cX12_init 1637 = .ok (.iconst 4, 1) := by decide +kernel
theorem dX12_init_1638 : decode cX12_init 1638 = .ok (.bipush 104, 2) := by decide +kernel
theorem dX12_init_1640 : decode cX12_init 1640 = .ok (.castore, 1) := by decide +kernel
theorem dX12_init_1641 : decode cX12_init 1641 = .ok (.putfield 245, 3) := by decide +kernel
theorem dX12_init_1644 : decode cX12_init 1644 = .ok (.aload_n 0, 1) := by decide +kernel
theorem dX12_init_1645 : decode cX12_init 1645 = .ok (.iconst 5, 1) := by decide +kernel
theorem dX12_init_1646 : decode cX12_init 1646 = .ok (.newarray .char, 2) := by decide +kernel
theorem dX12_init_1648 : decode cX12_init 1648 = .ok (.dup, 1) := by decide +kernel
theorem dX12_init_1649 : decode cX12_init 1649 = .ok (.iconst 0, 1) := by decide +kernel
theorem dX12_init_1650 : decode cX12_init 1650 = .ok (.bipush 119, 2) := by decide +kernel
theorem dX12_init_1652 : decode cX12_init 1652 = .ok (.castore, 1) := by decide +kernel
theorem dX12_init_1653 : decode cX12_init 1653 = .ok (.dup, 1) := by decide +kernel
theorem dX12_init_1654 : decode cX12_init 1654 = .ok (.iconst 1, 1) := by decide +kernel
theorem dX12_init_1655 : decode cX12_init 1655 = .ok (.bipush 114, 2) := by decide +kernel
theorem dX12_init_1657 : decode cX12_init 1657 = .ok (.castore, 1) := by decide +kernel
theorem dX12_init_1658 : decode cX12_init 1658 = .ok (.dup, 1) := by decide +kernel
theorem dX12_init_1659 : decode cX12_init 1659 = .ok (.iconst 2, 1) := by decide +kernel
theorem dX12_init_1660 : decode cX12_init 1660 = .ok (.bipush 101, 2) := by decide +kernel
theorem dX12_init_1662 : decode cX12_init 1662 = .ok (.castore, 1) := by decide +kernel
theorem dX12_init_1663 : decode cX12_init 1663 = .ok (.dup, 1) := by decide +kernel
theorem dX12_init_1664 : decode cX12_init 1664 = .ok (.iconst 3, 1) := by decide +kernel
theorem dX12_init_1665 : decode cX12_init 1665 = .ok (.bipush 99, 2) := by decide +kernel
theorem dX12_init_1667 : decode cX12_init 1667 = .ok (.castore, 1) := by decide +kernel
theorem dX12_init_1668 : decode cX12_init 1668 = .ok (.dup, 1) := by decide +kernel
theorem dX12_init_1669 : decode cX12_init 1669 = .ok (.iconst 4, 1) := by decide +kernel
theorem dX12_init_1670 : decode cX12_init 1670 = .ok (.bipush 107, 2) := by decide +kernel
theorem dX12_init_1672 : decode cX12_init 1672 = .ok (.castore, 1) := by decide +kernel
theorem dX12_init_1673 : decode cX12_init 1673 = .ok (.putfield 248, 3) := by decide +kernel
theorem dX12_init_1676 : decode cX12_init 1676 = .ok (.aload_n 0, 1) := by decide +kernel
theorem dX12_init_1677 : decode cX12_init 1677 = .ok (.iconst 4, 1) := by decide +kernel
theorem dX12_init_1678 : decode cX12_init 1678 = .ok (.newarray .char, 2) := by decide +kernel
theorem dX12_init_1680 : decode cX12_init 1680 = .ok (.dup, 1) := by decide +kernel
theorem dX12_init_1681 : decode cX12_init 1681 = .ok (.iconst 0, 1) := by decide +kernel
theorem dX12_init_1682 : decode cX12_init 1682 = .ok (.bipush 104, 2) := by decide +kernel
theorem dX12_init_1684 : decode cX12_init 1684 = .ok (.castore, 1) := by decide +kernel
theorem dX12_init_1685 : decode cX12_init 1685 = .ok (.dup, 1) := by decide +kernel
theorem dX12_init_1686 : decode cX12_init 1686 = .ok (.iconst 1, 1) := by decide +kernel
theorem dX12_init_1687 : decode cX12_init 1687 = .ok (.bipush 111, 2) := by decide +kernel
theorem dX12_init_1689 : decode cX12_init 1689 = .ok (.castore, 1) := by decide +kernel
theorem dX12_init_1690 : decode cX12_init 1690 = .ok (.dup, 1) := by decide +kernel
theorem dX12_init_1691 : decode cX12_init 1691 = .ok (.iconst 2, 1) := by decide +kernel
theorem dX12_init_1692 : decode cX12_init 1692 = .ok (.bipush 109, 2) := by decide +kernel
theorem dX12_init_1694 : decode cX12_init 1694 = .ok (.castore, 1) := by decide +kernel
theorem dX12_init_1695 : decode cX12_init 1695 = .ok (.dup, 1) := by decide +kernel
theorem dX12_init_1696 : decode cX12_init 1696 = .ok (.iconst 3, 1) := by decide +kernel
theorem dX12_init_1697 : decode cX12_init 1697 = .ok (.bipush 101, 2) := by decide +kernel
theorem dX12_init_1699 : decode cX12_init 1699 = .ok (.castore, 1) := by decide +kernel
theorem dX12_init_1700 : decode cX12_init 1700 = .ok (.putfield 251, 3) := by decide +kernel
theorem dX12_init_1703 : decode cX12_init 1703 = .ok (.aload_n 0, 1) := by decide +kernel
theorem dX12_init_1704 : decode cX12_init 1704 = .ok (.iconst 5, 1) := by decide +kernel
theorem dX12_init_1705 : decode cX12_init 1705 = .ok (.newarray .char, 2) := by decide +kernel
theorem dX12_init_1707 : decode cX12_init 1707 = .ok (.dup, 1) := by decide +kernel
theorem dX12_init_1708 : decode cX12_init 1708 = .ok (.iconst 0, 1) := by decide +kernel
theorem dX12_init_1709 : decode cX12_init 1709 = .ok (.bipush 100, 2) := by decide +kernel
theorem dX12_init_1711 : decode cX12_init 1711 = .ok (.castore, 1) := by decide +kernel
theorem dX12_init_1712 : decode cX12_init 1712 = .ok (.dup, 1) := by decide +kernel
theorem dX12_init_1713 : decode cX12_init 1713 = .ok (.iconst 1, 1) := by decide +kernel
theorem dX12_init_1714 : decode cX12_init 1714 = .ok (.bipush 114, 2) := by decide +kernel
theorem dX12_init_1716 : decode cX12_init 1716 = .ok (.castore, 1) := by decide +kernel
theorem dX12_init_1717 : decode cX12_init 1717 = .ok (.dup, 1) := by decide +kernel
theorem dX12_init_1718 : decode cX12_init 1718 = .ok (.iconst 2, 1) := by decide +kernel
theorem dX12_init_1719 : decode cX12_init 1719 = .ok (.bipush 101, 2) := by decide +kernel
theorem dX12_init_1721 : decode cX12_init 1721 = .ok (.castore, 1) := by decide +kernel
theorem dX12_init_1722 : decode cX12_init 1722 = .ok (.dup, 1) := by decide +kernel
theorem dX12_init_1723 : decode cX12_init 1723 = .ok (.iconst 3, 1) := by decide +kernel
theorem dX12_init_1724 : decode cX12_init 1724 = .ok (.bipush 97, 2) := by decide +kernel
theorem dX12_init_1726 : decode cX12_init 1726 = .ok (.castore, 1) := by decide +kernel
theorem dX12_init_1727 : decode cX12_init 1727 = .ok (.dup, 1) := by decide +kernel
theorem dX12_init_1728 : decode cX12_init 1728 = .ok (.iconst 4, 1) := by decide +kernel
theorem dX12_init_1729 : decode cX12_init 1729 = .ok (.bipush 100, 2) := by decide +kernel
theorem dX12_init_1731 : decode cX12_init 1731 = .ok (.castore, 1) := by decide +kernel
theorem dX12_init_1732 : decode cX12_init 1732 = .ok (.putfield 254, 3) := by decide +kernel
theorem dX12_init_1735 : decode cX12_init 1735 = .ok (.aload_n 0, 1) := by decide +kernel
theorem dX12_init_1736 : decode cX12_init 1736 = .ok (.iconst 5, 1) := by decide +kernel
theorem dX12_init_1737 : decode cX12_init 1737 = .ok (.newarray .char, 2) := by decide +kernel
theorem dX12_init_1739 : decode cX12_init 1739 = .ok (.dup, 1) := by decide +kernel
theorem dX12_init_1740 : decode cX12_init 1740 = .ok (.iconst 0, 1) := by decide +kernel
theorem dX12_init_1741 : decode cX12_init 1741 = .ok (.bipush 116, 2) := by decide +kernel
theorem dX12_init_1743 : decode cX12_init 1743 = .ok (.castore, 1) := by decide +kernel
theorem dX12_init_1744 : decode cX12_init 1744 = .ok (.dup, 1) := by decide +kernel
theorem dX12_init_1745 : decode cX12_init 1745 = .ok (.iconst 1, 1) := by decide +kernel
theorem dX12_init_1746 : decode cX12_init 1746 = .ok (.bipush 114, 2) := by decide +kernel
theorem dX12_init_1748 : decode cX12_init 1748 = .ok (.castore, 1) := by decide +kernel
theorem dX12_init_1749 : decode cX12_init 1749 = .ok (.dup, 1) := by decide +kernel
theorem dX12_init_1750 : decode cX12_init 1750 = .ok (.iconst 2, 1) := by decide +kernel
theorem dX12_init_1751 : decode cX12_init 1751 = .ok (.bipush 117, 2) := by decide +kernel
theorem dX12_init_1753 : decode cX12_init 1753 = .ok (.castore, 1) := by decide +kernel
theorem dX12_init_1754 : decode cX12_init 1754 = .ok (.dup, 1) := by decide +kernel
theorem dX12_init_1755 : decode cX12_init 1755 = .ok (.iconst 3, 1) := by decide +kernel
theorem dX12_init_1756 : decode cX12_init 1756 = .ok (.bipush 115, 2) := by decide +kernel
theorem dX12_init_1758 : decode cX12_init 1758 = .ok (.castore, 1) := by decide +kernel
theorem dX12_init_1759 : decode cX12_init 1759 = .ok (.dup, 1) := by decide +kernel
theorem dX12_init_1760 : decode cX12_init 1760 = .ok (.iconst 4, 1) := by decide +kernel
theorem dX12_init_1761 : decode cX12_init 1761 = .ok (.bipush 116, 2) := by decide +kernel
theorem dX12_init_1763 : decode cX12_init 1763 = .ok (.castore, 1) := by decide +kernel
theorem dX12_init_1764 : decode cX12_init 1764 = .ok (.putfield 257, 3) := by decide +kernel
theorem dX12_init_1767 : decode cX12_init 1767 = .ok (.aload_n 0, 1) := by decide +kernel
theorem dX12_init_1768 : decode cX12_init 1768 = .ok (.iconst 5, 1) := by decide +kernel
theorem dX12_init_1769 : decode cX12_init 1769 = .ok (.newarray .char, 2) := by decide +kernel
theorem dX12_init_1771 : decode cX12_init 1771 = .ok (.dup, 1) := by decide +kernel
theorem dX12_init_1772 : decode cX12_init 1772 = .ok (.iconst 0, 1) := by decide +kernel
theorem dX12_init_1773 : decode cX12_init 1773 = .ok (.bipush 98, 2) := by decide +kernel
theorem dX12_init_1775 : decode cX12_init 1775 = .ok (.castore, 1) := by decide +kernel
theorem dX12_init_1776 : decode cX12_init 1776 = .ok (.dup, 1) := by decide +kernel
theorem dX12_init_1777 : decode cX12_init 1777 = .ok (.iconst 1, 1) := by decide +kernel
theorem dX12_init_1778 : decode cX12_init 1778 = .ok (.bipush 111, 2) := by decide +kernel
theorem dX12_init_1780 : decode cX12_init 1780 = .ok (.castore, 1) := by decide +kernel
theorem dX12_init_1781 : decode cX12_init 1781 = .ok (.dup, 1) := by decide +kernel
theorem dX12_init_1782 : decode cX12_init 1782 = .ok (.iconst 2, 1) := by decide +kernel
theorem dX12_init_1783 : decode cX12_init 1783 = .ok (.bipush 97, 2) := by decide +kernel
theorem dX12_init_1785 : decode cX12_init 1785 = .ok (.castore, 1) := by decide +kernel
theorem dX12_init_1786 : decode cX12_init 1786 = .ok (.dup, 1) := by decide +kernel
theorem dX12_init_1787 : decode cX12_init 1787 = .ok (.iconst 3, 1) := by decide +kernel
theorem dX12_init_1788 : decode cX12_init 1788 = .ok (.bipush 116, 2) := by decide +kernel
theorem dX12_init_1790 : decode cX12_init 1790 = .ok (.castore, 1) := by decide +kernel
theorem dX12_init_1791 : decode cX12_init 1791 = .ok (.dup, 1) := by decide +kernel
theorem dX12_init_1792 : decode cX12_init 1792 = .ok (.iconst 4, 1) := by decide +kernel
theorem dX12_init_1793 : decode cX12_init 1793 = .ok (.bipush 115, 2) := by decide +kernel
theorem dX12_init_1795 : decode cX12_init 1795 = .ok (.castore, 1) := by decide +kernel
theorem dX12_init_1796 : decode cX12_init 1796 = .ok (.putfield 260, 3) := by decide +kernel
theorem dX12_init_1799 : decode cX12_init 1799 = .ok (.aload_n 0, 1) := by decide +kernel
theorem dX12_init_1800 : decode cX12_init 1800 = .ok (.sipush 1700, 3) := by decide +kernel
theorem dX12_init_1803 : decode cX12_init 1803 = .ok (.newarray .int, 2) := by decide +kernel
theorem dX12_init_1805 : decode cX12_init 1805 = .ok (.putfield 263, 3) := by decide +kernel
theorem dX12_init_1808 : decode cX12_init 1808 = .ok (.aload_n 0, 1) := by decide +kernel
theorem dX12_init_1809 : decode cX12_init 1809 = .ok (.sipush 1700, 3) := by decide +kernel
theorem dX12_init_1812 : decode cX12_init 1812 = .ok (.newarray .int, 2) := by decide +kernel
theorem dX12_init_1814 : decode cX12_init 1814 = .ok (.putfield 266, 3) := by decide +kernel
theorem dX12_init_1817 : decode cX12_init 1817 = .ok (.aload_n 0, 1) := by decide +kernel
theorem dX12_init_1818 : decode cX12_init 1818 = .ok (.sipush 1700, 3) := by decide +kernel
theorem dX12_init_1821 : decode cX12_init 1821 = .ok (.newarray .long, 2) := by decide +kernel
theorem dX12_init_1823 : decode cX12_init 1823 = .ok (.putfield 269, 3) := by decide +kernel
theorem dX12_init_1826 : decode cX12_init 1826 = .ok (.aload_n 0, 1) := by decide +kernel
theorem dX12_init_1827 : decode cX12_init 1827 = .ok (.bipush 30, 2) := by decide +kernel
theorem dX12_init_1829 : decode cX12_init 1829 = .ok (.newarray .int, 2) := by decide +kernel
theorem dX12_init_1831 : decode cX12_init 1831 = .ok (.putfield 272, 3) := by decide +kernel
theorem dX12_init_1834 : decode cX12_init 1834 = .ok (.return_, 1) := by decide +kernel
theorem dX12_isIn_0 : decode cX12_isIn 0 = .ok (.lload_n 0, 1) := by decide +kernel
theorem dX12_isIn_1 : decode cX12_isIn 1 = .ok (.lload_n 2, 1) := by decide +kernel
theorem dX12_isIn_2 : decode cX12_isIn 2 = .ok (.lcmp, 1) := by decide +kernel
theorem dX12_isIn_3 : decode cX12_isIn 3 = .ok (.ifCond .lt 14, 3) := by decide +kernel
theorem dX12_isIn_6 : decode cX12_isIn 6 = .ok (.lload_n 0, 1) := by decide +kernel
theorem dX12_isIn_7 : decode cX12_isIn 7 = .ok (.lload 4, 2) := by decide +kernel
theorem dX12_isIn_9 : decode cX12_isIn 9 = .ok (.lcmp, 1) := by decide +kernel
theorem dX12_isIn_10 : decode cX12_isIn 10 = .ok (.ifCond .gt 7, 3) := by decide +kernel
theorem dX12_isIn_13 : decode cX12_isIn 13 = .ok (.iconst 1, 1) := by decide +kernel
theorem dX12_isIn_14 : decode cX12_isIn 14 = .ok (.goto 4, 3) := by decide +kernel
theorem dX12_isIn_17 : decode cX12_isIn 17 = .ok (.iconst 0, 1) := by decide +kernel
theorem dX12_isIn_18 : decode cX12_isIn 18 = .ok (.ireturn, 1) := by decide +kernel
theorem dX12_feed_0 : decode cX12_feed 0 = .ok (.aload_n 0, 1) := by decide +kernel
theorem dX12_feed_1 : decode cX12_feed 1 = .ok (.getfield 275, 3) := by decide +kernel
theorem dX12_feed_4 : decode cX12_feed 4 = .ok (.bipush 20, 2) := by decide +kernel
theorem dX12_feed_6 : decode cX12_feed 6 = .ok (.iadd, 1) := by decide +kernel
theorem dX12_feed_7 : decode cX12_feed 7 = .ok (.sipush 1600, 3) := by decide +kernel
theorem dX12_feed_10 : decode cX12_feed 10 = .ok (.if_icmp .le 15, 3) := by decide +kernel
theorem dX12_feed_13 : decode cX12_feed 13 = .ok (.aload_n 0, 1) := by decide +kernel
theorem dX12_feed_14 : decode cX12_feed 14 = .ok (.getfield 17, 3) := by decide +kernel
theorem dX12_feed_17 : decode cX12_feed 17 = .ok (.iconst 0, 1) := by decide +kernel
theorem dX12_feed_18 : decode cX12_feed 18 = .ok (.dup2, 1) := by decide +kernel
theorem dX12_feed_19 : decode cX12_feed 19 = .ok (.iaload, 1) := by decide +kernel
theorem dX12_feed_20 : decode cX12_feed 20 = .ok (.iconst 1, 1) := by decide +kernel
theorem dX12_feed_21 : decode cX12_feed 21 = .ok (.iadd, 1) := by decide +kernel
theorem dX12_feed_22 : decode cX12_feed 22 = .ok (.iastore, 1) := by decide +kernel
theorem dX12_feed_23 : decode cX12_feed 23 = .ok (.iconst (-1), 1) := by decide +kernel
theorem dX12_feed_24 : decode cX12_feed 24 = .ok (.ireturn, 1) := by decide +kernel
theorem dX12_feed_25 : decode cX12_feed 25 = .ok (.iconst 0, 1) := by decide +kernel
theorem dX12_feed_26 : decode cX12_feed 26 = .ok (.istore 6, 2) := by decide +kernel
theorem dX12_feed_28 : decode cX12_feed 28 = .ok (.iload 6, 2) := by decide +kernel
theorem dX12_feed_30 : decode cX12_feed 30 = .ok (.bipush 20, 2) := by decide +kernel
theorem dX12_feed_32 : decode cX12_feed 32 = .ok (.if_icmp .ge 92, 3) := by decide +kernel
theorem dX12_feed_35 : decode cX12_feed 35 = .ok (.iload 6, 2) := by decide +kernel
theorem dX12_feed_37 : decode cX12_feed 37 = .ok (.iconst 4, 1) := by decide +kernel
theorem dX12_feed_38 : decode cX12_feed 38 = .ok (.if_icmp .ge 7, 3) := by decide +kernel
theorem dX12_feed_41 : decode cX12_feed 41 = .ok (.iload_n 1, 1) := by decide +kernel
theorem dX12_feed_42 : decode cX12_feed 42 = .ok (.goto 39, 3) := by decide +kernel
theorem dX12_feed_45 : decode cX12_feed 45 = .ok (.iload 6, 2) := by decide +kernel
theorem dX12_feed_47 : decode cX12_feed 47 = .ok (.bipush 8, 2) := by decide +kernel
theorem dX12_feed_49 : decode cX12_feed 49 = .ok (.if_icmp .ge 7, 3) := by decide +kernel
theorem dX12_feed_52 : decode cX12_feed 52 = .ok (.iload_n 2, 1) := by decide +kernel
theorem dX12_feed_53 : decode cX12_feed 53 = .ok (.goto 28, 3) := by decide +kernel
theorem dX12_feed_56 : decode cX12_feed 56 = .ok (.iload 6, 2) := by decide +kernel
theorem dX12_feed_58 : decode cX12_feed 58 = .ok (.bipush 12, 2) := by decide +kernel
theorem dX12_feed_60 : decode cX12_feed 60 = .ok (.if_icmp .ge 7, 3) := by decide +kernel
theorem dX12_feed_63 : decode cX12_feed 63 = .ok (.iload_n 3, 1) := by decide +kernel
theorem dX12_feed_64 : decode cX12_feed 64 = .ok (.goto 17, 3) := by decide +kernel
theorem dX12_feed_67 : decode cX12_feed 67 = .ok (.iload 6, 2) := by decide +kernel
theorem dX12_feed_69 : decode cX12_feed 69 = .ok (.bipush 16, 2) := by decide +kernel
theorem dX12_feed_71 : decode cX12_feed 71 = .ok (.if_icmp .ge 8, 3) := by decide +kernel
theorem dX12_feed_74 : decode cX12_feed 74 = .ok (.iload 4, 2) := by decide +kernel
theorem dX12_feed_76 : decode cX12_feed 76 = .ok (.goto 5, 3) := by decide +kernel
theorem dX12_feed_79 : decode cX12_feed 79 = .ok (.iload 5, 2) := by decide +kernel
theorem dX12_feed_81 : decode cX12_feed 81 = .ok (.istore 7, 2) := by decide +kernel
theorem dX12_feed_83 : decode cX12_feed 83 = .ok (.aload_n 0, 1) := by decide +kernel
theorem dX12_feed_84 : decode cX12_feed 84 = .ok (.getfield 7, 3) := by decide +kernel
theorem dX12_feed_87 : decode cX12_feed 87 = .ok (.aload_n 0, 1) := by decide +kernel
theorem dX12_feed_88 : decode cX12_feed 88 = .ok (.getfield 275, 3) := by decide +kernel
theorem dX12_feed_91 : decode cX12_feed 91 = .ok (.iload 7, 2) := by decide +kernel
theorem dX12_feed_93 : decode cX12_feed 93 = .ok (.bipush 8, 2) := by decide +kernel
theorem dX12_feed_95 : decode cX12_feed 95 = .ok (.iconst 3, 1) := by decide +kernel
theorem dX12_feed_96 : decode cX12_feed 96 = .ok (.iload 6, 2) := by decide +kernel
theorem dX12_feed_98 : decode cX12_feed 98 = .ok (.iconst 4, 1) := by decide +kernel
theorem dX12_feed_99 : decode cX12_feed 99 = .ok (.irem, 1) := by decide +kernel
theorem dX12_feed_100 : decode cX12_feed 100 = .ok (.isub, 1) := by decide +kernel
theorem dX12_feed_101 : decode cX12_feed 101 = .ok (.imul, 1) := by decide +kernel
theorem dX12_feed_102 : decode cX12_feed 102 = .ok (.ishr, 1) := by decide +kernel
theorem dX12_feed_103 : decode cX12_feed 103 = .ok (.sipush 255, 3) := by decide +kernel
theorem dX12_feed_106 : decode cX12_feed 106 = .ok (.iand, 1) := by decide +kernel
theorem dX12_feed_107 : decode cX12_feed 107 = .ok (.iastore, 1) := by decide +kernel
theorem dX12_feed_108 : decode cX12_feed 108 = .ok (.aload_n 0, 1) := by decide +kernel
theorem dX12_feed_109 : decode cX12_feed 109 = .ok (.dup, 1) := by decide +kernel
theorem dX12_feed_110 : decode cX12_feed 110 = .ok (.getfield 275, 3) := by decide +kernel
theorem dX12_feed_113 : decode cX12_feed 113 = .ok (.iconst 1, 1) := by decide +kernel
theorem dX12_feed_114 : decode cX12_feed 114 = .ok (.iadd, 1) := by decide +kernel
theorem dX12_feed_115 : decode cX12_feed 115 = .ok (.putfield 275, 3) := by decide +kernel
theorem dX12_feed_118 : decode cX12_feed 118 = .ok (.iinc 6 1, 3) := by decide +kernel
theorem dX12_feed_121 : decode cX12_feed 121 = .ok (.goto (-93), 3) := by decide +kernel
theorem dX12_feed_124 : decode cX12_feed 124 = .ok (.aload_n 0, 1) := by decide +kernel
theorem dX12_feed_125 : decode cX12_feed 125 = .ok (.getfield 275, 3) := by decide +kernel
theorem dX12_feed_128 : decode cX12_feed 128 = .ok (.ireturn, 1) := by decide +kernel
theorem dX12_end_0 : decode cX12_end 0 = .ok (.iload_n 1, 1) := by decide +kernel
theorem dX12_end_1 : decode cX12_end 1 = .ok (.ifCond .lt 11, 3) := by decide +kernel
theorem dX12_end_4 : decode cX12_end 4 = .ok (.iload_n 1, 1) := by decide +kernel
theorem dX12_end_5 : decode cX12_end 5 = .ok (.aload_n 0, 1) := by decide +kernel
theorem dX12_end_6 : decode cX12_end 6 = .ok (.getfield 275, 3) := by decide +kernel
theorem dX12_end_9 : decode cX12_end 9 = .ok (.if_icmp .le 15, 3) := by decide +kernel
theorem dX12_end_12 : decode cX12_end 12 = .ok (.aload_n 0, 1) := by decide +kernel
theorem dX12_end_13 : decode cX12_end 13 = .ok (.getfield 17, 3) := by decide +kernel
theorem dX12_end_16 : decode cX12_end 16 = .ok (.iconst 0, 1) := by decide +kernel
theorem dX12_end_17 : decode cX12_end 17 = .ok (.dup2, 1) := by decide +kernel
theorem dX12_end_18 : decode cX12_end 18 = .ok (.iaload, 1) := by decide +kernel
theorem dX12_end_19 : decode cX12_end 19 = .ok (.iconst 1, 1) := by decide +kernel
theorem dX12_end_20 : decode cX12_end 20 = .ok (.iadd, 1) := by decide +kernel
theorem dX12_end_21 : decode cX12_end 21 = .ok (.iastore, 1) := by decide +kernel
theorem dX12_end_22 : decode cX12_end 22 = .ok (.iconst 0, 1) := by decide +kernel
theorem dX12_end_23 : decode cX12_end 23 = .ok (.ireturn, 1) := by decide +kernel
theorem dX12_end_24 : decode cX12_end 24 = .ok (.aload_n 0, 1) := by decide +kernel
theorem dX12_end_25 : decode cX12_end 25 = .ok (.iload_n 1, 1) := by decide +kernel
theorem dX12_end_26 : decode cX12_end 26 = .ok (.putfield 275, 3) := by decide +kernel
theorem dX12_end_29 : decode cX12_end 29 = .ok (.iconst 1, 1) := by decide +kernel
theorem dX12_end_30 : decode cX12_end 30 = .ok (.ireturn, 1) := by decide +kernel
theorem dX12_fail_0 : decode cX12_fail 0 = .ok (.aload_n 0, 1) := by decide +kernel
theorem dX12_fail_1 : decode cX12_fail 1 = .ok (.getfield 278, 3) := by decide +kernel
theorem dX12_fail_4 : decode cX12_fail 4 = .ok (.ifCond .eq 4, 3) := by decide +kernel
theorem dX12_fail_7 : decode cX12_fail 7 = .ok (.return_, 1) := by decide +kernel
theorem dX12_fail_8 : decode cX12_fail 8 = .ok (.aload_n 0, 1) := by decide +kernel
theorem dX12_fail_9 : decode cX12_fail 9 = .ok (.iload_n 1, 1) := by decide +kernel
theorem dX12_fail_10 : decode cX12_fail 10 = .ok (.putfield 278, 3) := by decide +kernel
theorem dX12_fail_13 : decode cX12_fail 13 = .ok (.aload_n 0, 1) := by decide +kernel
theorem dX12_fail_14 : decode cX12_fail 14 = .ok (.iload_n 2, 1) := by decide +kernel
theorem dX12_fail_15 : decode cX12_fail 15 = .ok (.putfield 281, 3) := by decide +kernel
theorem dX12_fail_18 : decode cX12_fail 18 = .ok (.return_, 1) := by decide +kernel
theorem dX12_isLetter_0 : decode cX12_isLetter 0 = .ok (.iload_n 0, 1) := by decide +kernel
theorem dX12_isLetter_1 : decode cX12_isLetter 1 = .ok (.bipush 97, 2) := by decide +kernel
theorem dX12_isLetter_3 : decode cX12_isLetter 3 = .ok (.if_icmp .lt 13, 3) := by decide +kernel
theorem dX12_isLetter_6 : decode cX12_isLetter 6 = .ok (.iload_n 0, 1) := by decide +kernel
theorem dX12_isLetter_7 : decode cX12_isLetter 7 = .ok (.bipush 122, 2) := by decide +kernel
theorem dX12_isLetter_9 : decode cX12_isLetter 9 = .ok (.if_icmp .gt 7, 3) := by decide +kernel
theorem dX12_isLetter_12 : decode cX12_isLetter 12 = .ok (.iconst 1, 1) := by decide +kernel
theorem dX12_isLetter_13 : decode cX12_isLetter 13 = .ok (.goto 4, 3) := by decide +kernel
theorem dX12_isLetter_16 : decode cX12_isLetter 16 = .ok (.iconst 0, 1) := by decide +kernel
theorem dX12_isLetter_17 : decode cX12_isLetter 17 = .ok (.ireturn, 1) := by decide +kernel
theorem dX12_isDigit_0 : decode cX12_isDigit 0 = .ok (.iload_n 0, 1) := by decide +kernel
theorem dX12_isDigit_1 : decode cX12_isDigit 1 = .ok (.bipush 48, 2) := by decide +kernel
theorem dX12_isDigit_3 : decode cX12_isDigit 3 = .ok (.if_icmp .lt 13, 3) := by decide +kernel
theorem dX12_isDigit_6 : decode cX12_isDigit 6 = .ok (.iload_n 0, 1) := by decide +kernel
theorem dX12_isDigit_7 : decode cX12_isDigit 7 = .ok (.bipush 57, 2) := by decide +kernel
theorem dX12_isDigit_9 : decode cX12_isDigit 9 = .ok (.if_icmp .gt 7, 3) := by decide +kernel
theorem dX12_isDigit_12 : decode cX12_isDigit 12 = .ok (.iconst 1, 1) := by decide +kernel
theorem dX12_isDigit_13 : decode cX12_isDigit 13 = .ok (.goto 4, 3) := by decide +kernel
theorem dX12_isDigit_16 : decode cX12_isDigit 16 = .ok (.iconst 0, 1) := by decide +kernel
theorem dX12_isDigit_17 : decode cX12_isDigit 17 = .ok (.ireturn, 1) := by decide +kernel
theorem dX12_look_0 : decode cX12_look 0 = .ok (.aload_n 0, 1) := by decide +kernel
theorem dX12_look_1 : decode cX12_look 1 = .ok (.getfield 284, 3) := by decide +kernel
theorem dX12_look_4 : decode cX12_look 4 = .ok (.aload_n 0, 1) := by decide +kernel
theorem dX12_look_5 : decode cX12_look 5 = .ok (.getfield 287, 3) := by decide +kernel
theorem dX12_look_8 : decode cX12_look 8 = .ok (.if_icmp .ge 44, 3) := by decide +kernel
theorem dX12_look_11 : decode cX12_look 11 = .ok (.aload_n 0, 1) := by decide +kernel
theorem dX12_look_12 : decode cX12_look 12 = .ok (.getfield 7, 3) := by decide +kernel
theorem dX12_look_15 : decode cX12_look 15 = .ok (.aload_n 0, 1) := by decide +kernel
theorem dX12_look_16 : decode cX12_look 16 = .ok (.getfield 284, 3) := by decide +kernel
theorem dX12_look_19 : decode cX12_look 19 = .ok (.iaload, 1) := by decide +kernel
theorem dX12_look_20 : decode cX12_look 20 = .ok (.bipush 10, 2) := by decide +kernel
theorem dX12_look_22 : decode cX12_look 22 = .ok (.if_icmp .eq 17, 3) := by decide +kernel
theorem dX12_look_25 : decode cX12_look 25 = .ok (.aload_n 0, 1) := by decide +kernel
theorem dX12_look_26 : decode cX12_look 26 = .ok (.getfield 7, 3) := by decide +kernel
theorem dX12_look_29 : decode cX12_look 29 = .ok (.aload_n 0, 1) := by decide +kernel
theorem dX12_look_30 : decode cX12_look 30 = .ok (.getfield 284, 3) := by decide +kernel
theorem dX12_look_33 : decode cX12_look 33 = .ok (.iaload, 1) := by decide +kernel
theorem dX12_look_34 : decode cX12_look 34 = .ok (.bipush 32, 2) := by decide +kernel
theorem dX12_look_36 : decode cX12_look 36 = .ok (.if_icmp .ne 16, 3) := by decide +kernel
theorem dX12_look_39 : decode cX12_look 39 = .ok (.aload_n 0, 1) := by decide +kernel
theorem dX12_look_40 : decode cX12_look 40 = .ok (.dup, 1) := by decide +kernel
theorem dX12_look_41 : decode cX12_look 41 = .ok (.getfield 284, 3) := by decide +kernel
theorem dX12_look_44 : decode cX12_look 44 = .ok (.iconst 1, 1) := by decide +kernel
theorem dX12_look_45 : decode cX12_look 45 = .ok (.iadd, 1) := by decide +kernel
theorem dX12_look_46 : decode cX12_look 46 = .ok (.putfield 284, 3) := by decide +kernel
theorem dX12_look_49 : decode cX12_look 49 = .ok (.goto (-49), 3) := by decide +kernel
theorem dX12_look_52 : decode cX12_look 52 = .ok (.aload_n 0, 1) := by decide +kernel
theorem dX12_look_53 : decode cX12_look 53 = .ok (.getfield 284, 3) := by decide +kernel
theorem dX12_look_56 : decode cX12_look 56 = .ok (.aload_n 0, 1) := by decide +kernel
theorem dX12_look_57 : decode cX12_look 57 = .ok (.getfield 287, 3) := by decide +kernel
theorem dX12_look_60 : decode cX12_look 60 = .ok (.if_icmp .ge 15, 3) := by decide +kernel
theorem dX12_look_63 : decode cX12_look 63 = .ok (.aload_n 0, 1) := by decide +kernel
theorem dX12_look_64 : decode cX12_look 64 = .ok (.getfield 7, 3) := by decide +kernel
theorem dX12_look_67 : decode cX12_look 67 = .ok (.aload_n 0, 1) := by decide +kernel
theorem dX12_look_68 : decode cX12_look 68 = .ok (.getfield 284, 3) := by decide +kernel
theorem dX12_look_71 : decode cX12_look 71 = .ok (.iaload, 1) := by decide +kernel
theorem dX12_look_72 : decode cX12_look 72 = .ok (.goto 4, 3) := by decide +kernel
theorem dX12_look_75 : decode cX12_look 75 = .ok (.iconst (-1), 1) := by decide +kernel
theorem dX12_look_76 : decode cX12_look 76 = .ok (.ireturn, 1) := by decide +kernel
theorem dX12_isHere_0 : decode cX12_isHere 0 = .ok (.aload_n 0, 1) := by decide +kernel
theorem dX12_isHere_1 : decode cX12_isHere 1 = .ok (.getfield 278, 3) := by decide +kernel
theorem dX12_isHere_4 : decode cX12_isHere 4 = .ok (.ifCond .ne 24, 3) := by decide +kernel
theorem dX12_isHere_7 : decode cX12_isHere 7 = .ok (.aload_n 0, 1) := by decide +kernel
theorem dX12_isHere_8 : decode cX12_isHere 8 = .ok (.invokevirtual 290, 3) := by decide +kernel
theorem dX12_isHere_11 : decode cX12_isHere 11 = .ok (.invokestatic 294, 3) := by decide +kernel
theorem dX12_isHere_14 : decode cX12_isHere 14 = .ok (.ifCond .eq 14, 3) := by decide +kernel
theorem dX12_isHere_17 : decode cX12_isHere 17 = .ok (.aload_n 0, 1) := by decide +kernel
theorem dX12_isHere_18 : decode cX12_isHere 18 = .ok (.getfield 284, 3) := by decide +kernel
theorem dX12_isHere_21 : decode cX12_isHere 21 = .ok (.aload_n 0, 1) := by decide +kernel
theorem dX12_isHere_22 : decode cX12_isHere 22 = .ok (.getfield 298, 3) := by decide +kernel
theorem dX12_isHere_25 : decode cX12_isHere 25 = .ok (.if_icmp .ne 5, 3) := by decide +kernel
theorem dX12_isHere_28 : decode cX12_isHere 28 = .ok (.iconst 0, 1) := by decide +kernel
theorem dX12_isHere_29 : decode cX12_isHere 29 = .ok (.ireturn, 1) := by decide +kernel
theorem dX12_isHere_30 : decode cX12_isHere 30 = .ok (.aload_n 0, 1) := by decide +kernel
theorem dX12_isHere_31 : decode cX12_isHere 31 = .ok (.getfield 284, 3) := by decide +kernel
theorem dX12_isHere_34 : decode cX12_isHere 34 = .ok (.istore_n 2, 1) := by decide +kernel
theorem dX12_isHere_35 : decode cX12_isHere 35 = .ok (.iload_n 2, 1) := by decide +kernel
theorem dX12_isHere_36 : decode cX12_isHere 36 = .ok (.aload_n 0, 1) := by decide +kernel
theorem dX12_isHere_37 : decode cX12_isHere 37 = .ok (.getfield 287, 3) := by decide +kernel
theorem dX12_isHere_40 : decode cX12_isHere 40 = .ok (.if_icmp .ge 21, 3) := by decide +kernel
theorem dX12_isHere_43 : decode cX12_isHere 43 = .ok (.aload_n 0, 1) := by decide +kernel
theorem dX12_isHere_44 : decode cX12_isHere 44 = .ok (.getfield 7, 3) := by decide +kernel
theorem dX12_isHere_47 : decode cX12_isHere 47 = .ok (.iload_n 2, 1) := by decide +kernel
theorem dX12_isHere_48 : decode cX12_isHere 48 = .ok (.iaload, 1) := by decide +kernel
theorem dX12_isHere_49 : decode cX12_isHere 49 = .ok (.invokestatic 294, 3) := by decide +kernel
theorem dX12_isHere_52 : decode cX12_isHere 52 = .ok (.ifCond .eq 9, 3) := by decide +kernel
theorem dX12_isHere_55 : decode cX12_isHere 55 = .ok (.iinc 2 1, 3) := by decide +kernel
theorem dX12_isHere_58 : decode cX12_isHere 58 = .ok (.goto (-23), 3) := by decide +kernel
theorem dX12_isHere_61 : decode cX12_isHere 61 = .ok (.iload_n 2, 1) := by decide +kernel
theorem dX12_isHere_62 : decode cX12_isHere 62 = .ok (.aload_n 0, 1) := by decide +kernel
theorem dX12_isHere_63 : decode cX12_isHere 63 = .ok (.getfield 284, 3) := by decide +kernel
theorem dX12_isHere_66 : decode cX12_isHere 66 = .ok (.isub, 1) := by decide +kernel
theorem dX12_isHere_67 : decode cX12_isHere 67 = .ok (.aload_n 1, 1) := by decide +kernel
theorem dX12_isHere_68 : decode cX12_isHere 68 = .ok (.arraylength, 1) := by decide +kernel
theorem dX12_isHere_69 : decode cX12_isHere 69 = .ok (.if_icmp .eq 5, 3) := by decide +kernel
theorem dX12_isHere_72 : decode cX12_isHere 72 = .ok (.iconst 0, 1) := by decide +kernel
theorem dX12_isHere_73 : decode cX12_isHere 73 = .ok (.ireturn, 1) := by decide +kernel
theorem dX12_isHere_74 : decode cX12_isHere 74 = .ok (.iconst 0, 1) := by decide +kernel
theorem dX12_isHere_75 : decode cX12_isHere 75 = .ok (.istore_n 3, 1) := by decide +kernel
theorem dX12_isHere_76 : decode cX12_isHere 76 = .ok (.iload_n 3, 1) := by decide +kernel
theorem dX12_isHere_77 : decode cX12_isHere 77 = .ok (.aload_n 1, 1) := by decide +kernel
theorem dX12_isHere_78 : decode cX12_isHere 78 = .ok (.arraylength, 1) := by decide +kernel
theorem dX12_isHere_79 : decode cX12_isHere 79 = .ok (.if_icmp .ge 28, 3) := by decide +kernel
theorem dX12_isHere_82 : decode cX12_isHere 82 = .ok (.aload_n 0, 1) := by decide +kernel
theorem dX12_isHere_83 : decode cX12_isHere 83 = .ok (.getfield 7, 3) := by decide +kernel
theorem dX12_isHere_86 : decode cX12_isHere 86 = .ok (.aload_n 0, 1) := by decide +kernel
theorem dX12_isHere_87 : decode cX12_isHere 87 = .ok (.getfield 284, 3) := by decide +kernel
theorem dX12_isHere_90 : decode cX12_isHere 90 = .ok (.iload_n 3, 1) := by decide +kernel
theorem dX12_isHere_91 : decode cX12_isHere 91 = .ok (.iadd, 1) := by decide +kernel
theorem dX12_isHere_92 : decode cX12_isHere 92 = .ok (.iaload, 1) := by decide +kernel
theorem dX12_isHere_93 : decode cX12_isHere 93 = .ok (.aload_n 1, 1) := by decide +kernel
theorem dX12_isHere_94 : decode cX12_isHere 94 = .ok (.iload_n 3, 1) := by decide +kernel
theorem dX12_isHere_95 : decode cX12_isHere 95 = .ok (.caload, 1) := by decide +kernel
theorem dX12_isHere_96 : decode cX12_isHere 96 = .ok (.if_icmp .eq 5, 3) := by decide +kernel
theorem dX12_isHere_99 : decode cX12_isHere 99 = .ok (.iconst 0, 1) := by decide +kernel
theorem dX12_isHere_100 : decode cX12_isHere 100 = .ok (.ireturn, 1) := by decide +kernel
theorem dX12_isHere_101 : decode cX12_isHere 101 = .ok (.iinc 3 1, 3) := by decide +kernel
theorem dX12_isHere_104 : decode cX12_isHere 104 = .ok (.goto (-28), 3) := by decide +kernel
theorem dX12_isHere_107 : decode cX12_isHere 107 = .ok (.iconst 1, 1) := by decide +kernel
theorem dX12_isHere_108 : decode cX12_isHere 108 = .ok (.ireturn, 1) := by decide +kernel
theorem dX12_takes_0 : decode cX12_takes 0 = .ok (.aload_n 0, 1) := by decide +kernel
theorem dX12_takes_1 : decode cX12_takes 1 = .ok (.aload_n 1, 1) := by decide +kernel
theorem dX12_takes_2 : decode cX12_takes 2 = .ok (.invokevirtual 301, 3) := by decide +kernel
theorem dX12_takes_5 : decode cX12_takes 5 = .ok (.ifCond .ne 5, 3) := by decide +kernel
theorem dX12_takes_8 : decode cX12_takes 8 = .ok (.iconst 0, 1) := by decide +kernel
theorem dX12_takes_9 : decode cX12_takes 9 = .ok (.ireturn, 1) := by decide +kernel
theorem dX12_takes_10 : decode cX12_takes 10 = .ok (.aload_n 0, 1) := by decide +kernel
theorem dX12_takes_11 : decode cX12_takes 11 = .ok (.dup, 1) := by decide +kernel
theorem dX12_takes_12 : decode cX12_takes 12 = .ok (.getfield 284, 3) := by decide +kernel
theorem dX12_takes_15 : decode cX12_takes 15 = .ok (.aload_n 1, 1) := by decide +kernel
theorem dX12_takes_16 : decode cX12_takes 16 = .ok (.arraylength, 1) := by decide +kernel
theorem dX12_takes_17 : decode cX12_takes 17 = .ok (.iadd, 1) := by decide +kernel
theorem dX12_takes_18 : decode cX12_takes 18 = .ok (.putfield 284, 3) := by decide +kernel
theorem dX12_takes_21 : decode cX12_takes 21 = .ok (.aload_n 0, 1) := by decide +kernel
theorem dX12_takes_22 : decode cX12_takes 22 = .ok (.aload_n 0, 1) := by decide +kernel
theorem dX12_takes_23 : decode cX12_takes 23 = .ok (.getfield 284, 3) := by decide +kernel
theorem dX12_takes_26 : decode cX12_takes 26 = .ok (.putfield 298, 3) := by decide +kernel
theorem dX12_takes_29 : decode cX12_takes 29 = .ok (.iconst 1, 1) := by decide +kernel
theorem dX12_takes_30 : decode cX12_takes 30 = .ok (.ireturn, 1) := by decide +kernel
theorem dX12_asks_0 : decode cX12_asks 0 = .ok (.aload_n 0, 1) := by decide +kernel
theorem dX12_asks_1 : decode cX12_asks 1 = .ok (.getfield 278, 3) := by decide +kernel
theorem dX12_asks_4 : decode cX12_asks 4 = .ok (.ifCond .ne 20, 3) := by decide +kernel
theorem dX12_asks_7 : decode cX12_asks 7 = .ok (.aload_n 0, 1) := by decide +kernel
theorem dX12_asks_8 : decode cX12_asks 8 = .ok (.aload_n 1, 1) := by decide +kernel
theorem dX12_asks_9 : decode cX12_asks 9 = .ok (.invokevirtual 305, 3) := by decide +kernel
theorem dX12_asks_12 : decode cX12_asks 12 = .ok (.ifCond .ne 12, 3) := by decide +kernel
theorem dX12_asks_15 : decode cX12_asks 15 = .ok (.aload_n 0, 1) := by decide +kernel
theorem dX12_asks_16 : decode cX12_asks 16 = .ok (.iconst 1, 1) := by decide +kernel
theorem dX12_asks_17 : decode cX12_asks 17 = .ok (.aload_n 0, 1) := by decide +kernel
theorem dX12_asks_18 : decode cX12_asks 18 = .ok (.getfield 284, 3) := by decide +kernel
theorem dX12_asks_21 : decode cX12_asks 21 = .ok (.invokevirtual 308, 3) := by decide +kernel
theorem dX12_asks_24 : decode cX12_asks 24 = .ok (.return_, 1) := by decide +kernel
theorem dX12_takesSign_0 : decode cX12_takesSign 0 = .ok (.aload_n 0, 1) := by decide +kernel
theorem dX12_takesSign_1 : decode cX12_takesSign 1 = .ok (.getfield 278, 3) := by decide +kernel
theorem dX12_takesSign_4 : decode cX12_takesSign 4 = .ok (.ifCond .ne 11, 3) := by decide +kernel
theorem dX12_takesSign_7 : decode cX12_takesSign 7 = .ok (.aload_n 0, 1) := by decide +kernel
theorem dX12_takesSign_8 : decode cX12_takesSign 8 = .ok (.invokevirtual 290, 3) := by decide +kernel
theorem dX12_takesSign_11 : decode cX12_takesSign 11 = .ok (.iload_n 1, 1) := by decide +kernel
theorem dX12_takesSign_12 : decode cX12_takesSign 12 = .ok (.if_icmp .eq 5, 3) := by decide +kernel
theorem dX12_takesSign_15 : decode cX12_takesSign 15 = .ok (.iconst 0, 1) := by decide +kernel
theorem dX12_takesSign_16 : decode cX12_takesSign 16 = .ok (.ireturn, 1) := by decide +kernel
theorem dX12_takesSign_17 : decode cX12_takesSign 17 = .ok (.aload_n 0, 1) := by decide +kernel
theorem dX12_takesSign_18 : decode cX12_takesSign 18 = .ok (.dup, 1) := by decide +kernel
theorem dX12_takesSign_19 : decode cX12_takesSign 19 = .ok (.getfield 284, 3) := by decide +kernel
theorem dX12_takesSign_22 : decode cX12_takesSign 22 = .ok (.iconst 1, 1) := by decide +kernel
theorem dX12_takesSign_23 : decode cX12_takesSign 23 = .ok (.iadd, 1) := by decide +kernel
theorem dX12_takesSign_24 : decode cX12_takesSign 24 = .ok (.putfield 284, 3) := by decide +kernel
theorem dX12_takesSign_27 : decode cX12_takesSign 27 = .ok (.iconst 1, 1) := by decide +kernel
theorem dX12_takesSign_28 : decode cX12_takesSign 28 = .ok (.ireturn, 1) := by decide +kernel
theorem dX12_asksSign_0 : decode cX12_asksSign 0 = .ok (.aload_n 0, 1) := by decide +kernel
theorem dX12_asksSign_1 : decode cX12_asksSign 1 = .ok (.getfield 278, 3) := by decide +kernel
theorem dX12_asksSign_4 : decode cX12_asksSign 4 = .ok (.ifCond .ne 20, 3) := by decide +kernel
theorem dX12_asksSign_7 : decode cX12_asksSign 7 = .ok (.aload_n 0, 1) := by decide +kernel
theorem dX12_asksSign_8 : decode cX12_asksSign 8 = .ok (.iload_n 1, 1) := by decide +kernel
theorem dX12_asksSign_9 : decode cX12_asksSign 9 = .ok (.invokevirtual 312, 3) := by decide +kernel
theorem dX12_asksSign_12 : decode cX12_asksSign 12 = .ok (.ifCond .ne 12, 3) := by decide +kernel
theorem dX12_asksSign_15 : decode cX12_asksSign 15 = .ok (.aload_n 0, 1) := by decide +kernel
theorem dX12_asksSign_16 : decode cX12_asksSign 16 = .ok (.iconst 1, 1) := by decide +kernel
theorem dX12_asksSign_17 : decode cX12_asksSign 17 = .ok (.aload_n 0, 1) := by decide +kernel
theorem dX12_asksSign_18 : decode cX12_asksSign 18 = .ok (.getfield 284, 3) := by decide +kernel
theorem dX12_asksSign_21 : decode cX12_asksSign 21 = .ok (.invokevirtual 308, 3) := by decide +kernel
theorem dX12_asksSign_24 : decode cX12_asksSign 24 = .ok (.return_, 1) := by decide +kernel
theorem dX12_number_0 : decode cX12_number 0 = .ok (.aload_n 0, 1) := by decide +kernel
theorem dX12_number_1 : decode cX12_number 1 = .ok (.getfield 278, 3) := by decide +kernel
theorem dX12_number_4 : decode cX12_number 4 = .ok (.ifCond .eq 5, 3) := by decide +kernel
theorem dX12_number_7 : decode cX12_number 7 = .ok (.iconst 0, 1) := by decide +kernel
theorem dX12_number_8 : decode cX12_number 8 = .ok (.ireturn, 1) := by decide +kernel
theorem dX12_number_9 : decode cX12_number 9 = .ok (.aload_n 0, 1) := by decide +kernel
theorem dX12_number_10 : decode cX12_number 10 = .ok (.invokevirtual 290, 3) := by decide +kernel
theorem dX12_number_13 : decode cX12_number 13 = .ok (.invokestatic 315, 3) := by decide +kernel
theorem dX12_number_16 : decode cX12_number 16 = .ok (.ifCond .eq 14, 3) := by decide +kernel
theorem dX12_number_19 : decode cX12_number 19 = .ok (.aload_n 0, 1) := by decide +kernel
theorem dX12_number_20 : decode cX12_number 20 = .ok (.getfield 284, 3) := by decide +kernel
theorem dX12_number_23 : decode cX12_number 23 = .ok (.aload_n 0, 1) := by decide +kernel
theorem dX12_number_24 : decode cX12_number 24 = .ok (.getfield 298, 3) := by decide +kernel
theorem dX12_number_27 : decode cX12_number 27 = .ok (.if_icmp .ne 14, 3) := by decide +kernel
theorem dX12_number_30 : decode cX12_number 30 = .ok (.aload_n 0, 1) := by decide +kernel
theorem dX12_number_31 : decode cX12_number 31 = .ok (.iconst 1, 1) := by decide +kernel
theorem dX12_number_32 : decode cX12_number 32 = .ok (.aload_n 0, 1) := by decide +kernel
theorem dX12_number_33 : decode cX12_number 33 = .ok (.getfield 284, 3) := by decide +kernel
theorem dX12_number_36 : decode cX12_number 36 = .ok (.invokevirtual 308, 3) := by decide +kernel
theorem dX12_number_39 : decode cX12_number 39 = .ok (.iconst 0, 1) := by decide +kernel
theorem dX12_number_40 : decode cX12_number 40 = .ok (.ireturn, 1) := by decide +kernel
theorem dX12_number_41 : decode cX12_number 41 = .ok (.aload_n 0, 1) := by decide +kernel
theorem dX12_number_42 : decode cX12_number 42 = .ok (.getfield 284, 3) := by decide +kernel
theorem dX12_number_45 : decode cX12_number 45 = .ok (.istore_n 3, 1) := by decide +kernel
theorem dX12_number_46 : decode cX12_number 46 = .ok (.iconst 0, 1) := by decide +kernel
theorem dX12_number_47 : decode cX12_number 47 = .ok (.istore 4, 2) := by decide +kernel
theorem dX12_number_49 : decode cX12_number 49 = .ok (.aload_n 0, 1) := by decide +kernel
theorem dX12_number_50 : decode cX12_number 50 = .ok (.getfield 284, 3) := by decide +kernel
theorem dX12_number_53 : decode cX12_number 53 = .ok (.aload_n 0, 1) := by decide +kernel
theorem dX12_number_54 : decode cX12_number 54 = .ok (.getfield 287, 3) := by decide +kernel
theorem dX12_number_57 : decode cX12_number 57 = .ok (.if_icmp .ge 72, 3) := by decide +kernel
theorem dX12_number_60 : decode cX12_number 60 = .ok (.aload_n 0, 1) := by decide +kernel
theorem dX12_number_61 : decode cX12_number 61 = .ok (.getfield 7, 3) := by decide +kernel
theorem dX12_number_64 : decode cX12_number 64 = .ok (.aload_n 0, 1) := by decide +kernel
theorem dX12_number_65 : decode cX12_number 65 = .ok (.getfield 284, 3) := by decide +kernel
theorem dX12_number_68 : decode cX12_number 68 = .ok (.iaload, 1) := by decide +kernel
theorem dX12_number_69 : decode cX12_number 69 = .ok (.invokestatic 315, 3) := by decide +kernel
theorem dX12_number_72 : decode cX12_number 72 = .ok (.ifCond .eq 57, 3) := by decide +kernel
theorem dX12_number_75 : decode cX12_number 75 = .ok (.aload_n 0, 1) := by decide +kernel
theorem dX12_number_76 : decode cX12_number 76 = .ok (.getfield 284, 3) := by decide +kernel
theorem dX12_number_79 : decode cX12_number 79 = .ok (.iload_n 3, 1) := by decide +kernel
theorem dX12_number_80 : decode cX12_number 80 = .ok (.isub, 1) := by decide +kernel
theorem dX12_number_81 : decode cX12_number 81 = .ok (.iconst 4, 1) := by decide +kernel
theorem dX12_number_82 : decode cX12_number 82 = .ok (.if_icmp .ne 14, 3) := by decide +kernel
theorem dX12_number_85 : decode cX12_number 85 = .ok (.aload_n 0, 1) := by decide +kernel
theorem dX12_number_86 : decode cX12_number 86 = .ok (.iconst 1, 1) := by decide +kernel
theorem dX12_number_87 : decode cX12_number 87 = .ok (.aload_n 0, 1) := by decide +kernel
theorem dX12_number_88 : decode cX12_number 88 = .ok (.getfield 284, 3) := by decide +kernel
theorem dX12_number_91 : decode cX12_number 91 = .ok (.invokevirtual 308, 3) := by decide +kernel
theorem dX12_number_94 : decode cX12_number 94 = .ok (.iconst 0, 1) := by decide +kernel
theorem dX12_number_95 : decode cX12_number 95 = .ok (.ireturn, 1) := by decide +kernel
theorem dX12_number_96 : decode cX12_number 96 = .ok (.bipush 10, 2) := by decide +kernel
theorem dX12_number_98 : decode cX12_number 98 = .ok (.iload 4, 2) := by decide +kernel
theorem dX12_number_100 : decode cX12_number 100 = .ok (.imul, 1) := by decide +kernel
theorem dX12_number_101 : decode cX12_number 101 = .ok (.aload_n 0, 1) := by decide +kernel
theorem dX12_number_102 : decode cX12_number 102 = .ok (.getfield 7, 3) := by decide +kernel
theorem dX12_number_105 : decode cX12_number 105 = .ok (.aload_n 0, 1) := by decide +kernel
theorem dX12_number_106 : decode cX12_number 106 = .ok (.getfield 284, 3) := by decide +kernel
theorem dX12_number_109 : decode cX12_number 109 = .ok (.iaload, 1) := by decide +kernel
theorem dX12_number_110 : decode cX12_number 110 = .ok (.iadd, 1) := by decide +kernel
theorem dX12_number_111 : decode cX12_number 111 = .ok (.bipush 48, 2) := by decide +kernel
theorem dX12_number_113 : decode cX12_number 113 = .ok (.isub, 1) := by decide +kernel
theorem dX12_number_114 : decode cX12_number 114 = .ok (.istore 4, 2) := by decide +kernel
theorem dX12_number_116 : decode cX12_number 116 = .ok (.aload_n 0, 1) := by decide +kernel
theorem dX12_number_117 : decode cX12_number 117 = .ok (.dup, 1) := by decide +kernel
