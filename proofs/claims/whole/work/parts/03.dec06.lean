theorem dX12_onePart_245 : decode cX12_onePart 245 = .ok (.bipush 12, 2) := by decide +kernel
theorem dX12_onePart_247 : decode cX12_onePart 247 = .ok (.goto 82, 3) := by decide +kernel
theorem dX12_onePart_250 : decode cX12_onePart 250 = .ok (.aload_n 0, 1) := by decide +kernel
theorem dX12_onePart_251 : decode cX12_onePart 251 = .ok (.aload_n 0, 1) := by decide +kernel
theorem dX12_onePart_252 : decode cX12_onePart 252 = .ok (.getfield 84, 3) := by decide +kernel
theorem dX12_onePart_255 : decode cX12_onePart 255 = .ok (.invokevirtual 305, 3) := by decide +kernel
theorem dX12_onePart_258 : decode cX12_onePart 258 = .ok (.ifCond .eq 8, 3) := by decide +kernel
theorem dX12_onePart_261 : decode cX12_onePart 261 = .ok (.bipush 13, 2) := by decide +kernel
theorem dX12_onePart_263 : decode cX12_onePart 263 = .ok (.goto 66, 3) := by decide +kernel
theorem dX12_onePart_266 : decode cX12_onePart 266 = .ok (.aload_n 0, 1) := by decide +kernel
theorem dX12_onePart_267 : decode cX12_onePart 267 = .ok (.aload_n 0, 1) := by decide +kernel
theorem dX12_onePart_268 : decode cX12_onePart 268 = .ok (.getfield 87, 3) := by decide +kernel
theorem dX12_onePart_271 : decode cX12_onePart 271 = .ok (.invokevirtual 305, 3) := by decide +kernel
theorem dX12_onePart_274 : decode cX12_onePart 274 = .ok (.ifCond .eq 8, 3) := by decide +kernel
theorem dX12_onePart_277 : decode cX12_onePart 277 = .ok (.bipush 14, 2) := by decide +kernel
theorem dX12_onePart_279 : decode cX12_onePart 279 = .ok (.goto 50, 3) := by decide +kernel
theorem dX12_onePart_282 : decode cX12_onePart 282 = .ok (.aload_n 0, 1) := by decide +kernel
theorem dX12_onePart_283 : decode cX12_onePart 283 = .ok (.getfield 370, 3) := by decide +kernel
theorem dX12_onePart_286 : decode cX12_onePart 286 = .ok (.ifCond .ne 19, 3) := by decide +kernel
theorem dX12_onePart_289 : decode cX12_onePart 289 = .ok (.aload_n 0, 1) := by decide +kernel
theorem dX12_onePart_290 : decode cX12_onePart 290 = .ok (.aload_n 0, 1) := by decide +kernel
theorem dX12_onePart_291 : decode cX12_onePart 291 = .ok (.getfield 30, 3) := by decide +kernel
theorem dX12_onePart_294 : decode cX12_onePart 294 = .ok (.invokevirtual 305, 3) := by decide +kernel
theorem dX12_onePart_297 : decode cX12_onePart 297 = .ok (.ifCond .eq 8, 3) := by decide +kernel
theorem dX12_onePart_300 : decode cX12_onePart 300 = .ok (.bipush 15, 2) := by decide +kernel
theorem dX12_onePart_302 : decode cX12_onePart 302 = .ok (.goto 27, 3) := by decide +kernel
theorem dX12_onePart_305 : decode cX12_onePart 305 = .ok (.aload_n 0, 1) := by decide +kernel
theorem dX12_onePart_306 : decode cX12_onePart 306 = .ok (.getfield 370, 3) := by decide +kernel
theorem dX12_onePart_309 : decode cX12_onePart 309 = .ok (.ifCond .ne 19, 3) := by decide +kernel
theorem dX12_onePart_312 : decode cX12_onePart 312 = .ok (.aload_n 0, 1) := by decide +kernel
theorem dX12_onePart_313 : decode cX12_onePart 313 = .ok (.aload_n 0, 1) := by decide +kernel
theorem dX12_onePart_314 : decode cX12_onePart 314 = .ok (.getfield 90, 3) := by decide +kernel
theorem dX12_onePart_317 : decode cX12_onePart 317 = .ok (.invokevirtual 305, 3) := by decide +kernel
theorem dX12_onePart_320 : decode cX12_onePart 320 = .ok (.ifCond .eq 8, 3) := by decide +kernel
theorem dX12_onePart_323 : decode cX12_onePart 323 = .ok (.bipush 16, 2) := by decide +kernel
theorem dX12_onePart_325 : decode cX12_onePart 325 = .ok (.goto 4, 3) := by decide +kernel
theorem dX12_onePart_328 : decode cX12_onePart 328 = .ok (.iconst (-1), 1) := by decide +kernel
theorem dX12_onePart_329 : decode cX12_onePart 329 = .ok (.istore_n 2, 1) := by decide +kernel
theorem dX12_onePart_330 : decode cX12_onePart 330 = .ok (.aload_n 0, 1) := by decide +kernel
theorem dX12_onePart_331 : decode cX12_onePart 331 = .ok (.iload_n 2, 1) := by decide +kernel
theorem dX12_onePart_332 : decode cX12_onePart 332 = .ok (.iconst (-1), 1) := by decide +kernel
theorem dX12_onePart_333 : decode cX12_onePart 333 = .ok (.if_icmp .eq 7, 3) := by decide +kernel
theorem dX12_onePart_336 : decode cX12_onePart 336 = .ok (.iload_n 2, 1) := by decide +kernel
theorem dX12_onePart_337 : decode cX12_onePart 337 = .ok (.goto 15, 3) := by decide +kernel
theorem dX12_onePart_340 : decode cX12_onePart 340 = .ok (.sipush 1000, 3) := by decide +kernel
theorem dX12_onePart_343 : decode cX12_onePart 343 = .ok (.aload_n 0, 1) := by decide +kernel
theorem dX12_onePart_344 : decode cX12_onePart 344 = .ok (.iconst 0, 1) := by decide +kernel
theorem dX12_onePart_345 : decode cX12_onePart 345 = .ok (.sipush 9999, 3) := by decide +kernel
theorem dX12_onePart_348 : decode cX12_onePart 348 = .ok (.invokevirtual 348, 3) := by decide +kernel
theorem dX12_onePart_351 : decode cX12_onePart 351 = .ok (.iadd, 1) := by decide +kernel
theorem dX12_onePart_352 : decode cX12_onePart 352 = .ok (.invokevirtual 431, 3) := by decide +kernel
theorem dX12_onePart_355 : decode cX12_onePart 355 = .ok (.return_, 1) := by decide +kernel
theorem dX12_goesOn_0 : decode cX12_goesOn 0 = .ok (.aload_n 0, 1) := by decide +kernel
theorem dX12_goesOn_1 : decode cX12_goesOn 1 = .ok (.getfield 278, 3) := by decide +kernel
theorem dX12_goesOn_4 : decode cX12_goesOn 4 = .ok (.ifCond .ne 114, 3) := by decide +kernel
theorem dX12_goesOn_7 : decode cX12_goesOn 7 = .ok (.aload_n 0, 1) := by decide +kernel
theorem dX12_goesOn_8 : decode cX12_goesOn 8 = .ok (.invokevirtual 290, 3) := by decide +kernel
theorem dX12_goesOn_11 : decode cX12_goesOn 11 = .ok (.bipush 41, 2) := by decide +kernel
theorem dX12_goesOn_13 : decode cX12_goesOn 13 = .ok (.if_icmp .ne 105, 3) := by decide +kernel
theorem dX12_goesOn_16 : decode cX12_goesOn 16 = .ok (.aload_n 0, 1) := by decide +kernel
theorem dX12_goesOn_17 : decode cX12_goesOn 17 = .ok (.invokevirtual 443, 3) := by decide +kernel
theorem dX12_goesOn_20 : decode cX12_goesOn 20 = .ok (.bipush 20, 2) := by decide +kernel
theorem dX12_goesOn_22 : decode cX12_goesOn 22 = .ok (.if_icmp .eq 21, 3) := by decide +kernel
theorem dX12_goesOn_25 : decode cX12_goesOn 25 = .ok (.aload_n 0, 1) := by decide +kernel
theorem dX12_goesOn_26 : decode cX12_goesOn 26 = .ok (.invokevirtual 443, 3) := by decide +kernel
theorem dX12_goesOn_29 : decode cX12_goesOn 29 = .ok (.bipush 23, 2) := by decide +kernel
theorem dX12_goesOn_31 : decode cX12_goesOn 31 = .ok (.if_icmp .eq 12, 3) := by decide +kernel
theorem dX12_goesOn_34 : decode cX12_goesOn 34 = .ok (.aload_n 0, 1) := by decide +kernel
theorem dX12_goesOn_35 : decode cX12_goesOn 35 = .ok (.invokevirtual 443, 3) := by decide +kernel
theorem dX12_goesOn_38 : decode cX12_goesOn 38 = .ok (.bipush 24, 2) := by decide +kernel
theorem dX12_goesOn_40 : decode cX12_goesOn 40 = .ok (.if_icmp .ne 78, 3) := by decide +kernel
theorem dX12_goesOn_43 : decode cX12_goesOn 43 = .ok (.aload_n 0, 1) := by decide +kernel
theorem dX12_goesOn_44 : decode cX12_goesOn 44 = .ok (.dup, 1) := by decide +kernel
theorem dX12_goesOn_45 : decode cX12_goesOn 45 = .ok (.getfield 284, 3) := by decide +kernel
theorem dX12_goesOn_48 : decode cX12_goesOn 48 = .ok (.iconst 1, 1) := by decide +kernel
theorem dX12_goesOn_49 : decode cX12_goesOn 49 = .ok (.iadd, 1) := by decide +kernel
theorem dX12_goesOn_50 : decode cX12_goesOn 50 = .ok (.putfield 284, 3) := by decide +kernel
theorem dX12_goesOn_53 : decode cX12_goesOn 53 = .ok (.aload_n 0, 1) := by decide +kernel
theorem dX12_goesOn_54 : decode cX12_goesOn 54 = .ok (.invokevirtual 446, 3) := by decide +kernel
theorem dX12_goesOn_57 : decode cX12_goesOn 57 = .ok (.aload_n 0, 1) := by decide +kernel
theorem dX12_goesOn_58 : decode cX12_goesOn 58 = .ok (.dup, 1) := by decide +kernel
theorem dX12_goesOn_59 : decode cX12_goesOn 59 = .ok (.getfield 377, 3) := by decide +kernel
theorem dX12_goesOn_62 : decode cX12_goesOn 62 = .ok (.iconst 1, 1) := by decide +kernel
theorem dX12_goesOn_63 : decode cX12_goesOn 63 = .ok (.isub, 1) := by decide +kernel
theorem dX12_goesOn_64 : decode cX12_goesOn 64 = .ok (.putfield 377, 3) := by decide +kernel
theorem dX12_goesOn_67 : decode cX12_goesOn 67 = .ok (.aload_n 0, 1) := by decide +kernel
theorem dX12_goesOn_68 : decode cX12_goesOn 68 = .ok (.dup, 1) := by decide +kernel
theorem dX12_goesOn_69 : decode cX12_goesOn 69 = .ok (.getfield 380, 3) := by decide +kernel
theorem dX12_goesOn_72 : decode cX12_goesOn 72 = .ok (.iconst 1, 1) := by decide +kernel
theorem dX12_goesOn_73 : decode cX12_goesOn 73 = .ok (.isub, 1) := by decide +kernel
theorem dX12_goesOn_74 : decode cX12_goesOn 74 = .ok (.putfield 380, 3) := by decide +kernel
theorem dX12_goesOn_77 : decode cX12_goesOn 77 = .ok (.aload_n 0, 1) := by decide +kernel
theorem dX12_goesOn_78 : decode cX12_goesOn 78 = .ok (.getfield 157, 3) := by decide +kernel
theorem dX12_goesOn_81 : decode cX12_goesOn 81 = .ok (.aload_n 0, 1) := by decide +kernel
theorem dX12_goesOn_82 : decode cX12_goesOn 82 = .ok (.getfield 377, 3) := by decide +kernel
theorem dX12_goesOn_85 : decode cX12_goesOn 85 = .ok (.iaload, 1) := by decide +kernel
theorem dX12_goesOn_86 : decode cX12_goesOn 86 = .ok (.bipush 20, 2) := by decide +kernel
theorem dX12_goesOn_88 : decode cX12_goesOn 88 = .ok (.if_icmp .eq (-88), 3) := by decide +kernel
theorem dX12_goesOn_91 : decode cX12_goesOn 91 = .ok (.aload_n 0, 1) := by decide +kernel
theorem dX12_goesOn_92 : decode cX12_goesOn 92 = .ok (.aload_n 0, 1) := by decide +kernel
theorem dX12_goesOn_93 : decode cX12_goesOn 93 = .ok (.getfield 157, 3) := by decide +kernel
theorem dX12_goesOn_96 : decode cX12_goesOn 96 = .ok (.aload_n 0, 1) := by decide +kernel
theorem dX12_goesOn_97 : decode cX12_goesOn 97 = .ok (.getfield 377, 3) := by decide +kernel
theorem dX12_goesOn_100 : decode cX12_goesOn 100 = .ok (.iaload, 1) := by decide +kernel
theorem dX12_goesOn_101 : decode cX12_goesOn 101 = .ok (.bipush 23, 2) := by decide +kernel
theorem dX12_goesOn_103 : decode cX12_goesOn 103 = .ok (.if_icmp .ne 7, 3) := by decide +kernel
theorem dX12_goesOn_106 : decode cX12_goesOn 106 = .ok (.iconst 5, 1) := by decide +kernel
theorem dX12_goesOn_107 : decode cX12_goesOn 107 = .ok (.goto 5, 3) := by decide +kernel
theorem dX12_goesOn_110 : decode cX12_goesOn 110 = .ok (.bipush 6, 2) := by decide +kernel
theorem dX12_goesOn_112 : decode cX12_goesOn 112 = .ok (.invokevirtual 431, 3) := by decide +kernel
theorem dX12_goesOn_115 : decode cX12_goesOn 115 = .ok (.goto (-115), 3) := by decide +kernel
theorem dX12_goesOn_118 : decode cX12_goesOn 118 = .ok (.aload_n 0, 1) := by decide +kernel
theorem dX12_goesOn_119 : decode cX12_goesOn 119 = .ok (.bipush 42, 2) := by decide +kernel
theorem dX12_goesOn_121 : decode cX12_goesOn 121 = .ok (.invokevirtual 312, 3) := by decide +kernel
theorem dX12_goesOn_124 : decode cX12_goesOn 124 = .ok (.ifCond .ne 12, 3) := by decide +kernel
theorem dX12_goesOn_127 : decode cX12_goesOn 127 = .ok (.aload_n 0, 1) := by decide +kernel
theorem dX12_goesOn_128 : decode cX12_goesOn 128 = .ok (.bipush 47, 2) := by decide +kernel
theorem dX12_goesOn_130 : decode cX12_goesOn 130 = .ok (.invokevirtual 312, 3) := by decide +kernel
theorem dX12_goesOn_133 : decode cX12_goesOn 133 = .ok (.ifCond .eq 70, 3) := by decide +kernel
theorem dX12_goesOn_136 : decode cX12_goesOn 136 = .ok (.aload_n 0, 1) := by decide +kernel
theorem dX12_goesOn_137 : decode cX12_goesOn 137 = .ok (.getfield 7, 3) := by decide +kernel
theorem dX12_goesOn_140 : decode cX12_goesOn 140 = .ok (.aload_n 0, 1) := by decide +kernel
theorem dX12_goesOn_141 : decode cX12_goesOn 141 = .ok (.getfield 284, 3) := by decide +kernel
theorem dX12_goesOn_144 : decode cX12_goesOn 144 = .ok (.iconst 1, 1) := by decide +kernel
theorem dX12_goesOn_145 : decode cX12_goesOn 145 = .ok (.isub, 1) := by decide +kernel
theorem dX12_goesOn_146 : decode cX12_goesOn 146 = .ok (.iaload, 1) := by decide +kernel
theorem dX12_goesOn_147 : decode cX12_goesOn 147 = .ok (.bipush 42, 2) := by decide +kernel
theorem dX12_goesOn_149 : decode cX12_goesOn 149 = .ok (.if_icmp .ne 7, 3) := by decide +kernel
theorem dX12_goesOn_152 : decode cX12_goesOn 152 = .ok (.iconst 3, 1) := by decide +kernel
theorem dX12_goesOn_153 : decode cX12_goesOn 153 = .ok (.goto 4, 3) := by decide +kernel
theorem dX12_goesOn_156 : decode cX12_goesOn 156 = .ok (.iconst 4, 1) := by decide +kernel
theorem dX12_goesOn_157 : decode cX12_goesOn 157 = .ok (.istore_n 1, 1) := by decide +kernel
theorem dX12_goesOn_158 : decode cX12_goesOn 158 = .ok (.aload_n 0, 1) := by decide +kernel
theorem dX12_goesOn_159 : decode cX12_goesOn 159 = .ok (.iconst 3, 1) := by decide +kernel
theorem dX12_goesOn_160 : decode cX12_goesOn 160 = .ok (.invokevirtual 449, 3) := by decide +kernel
theorem dX12_goesOn_163 : decode cX12_goesOn 163 = .ok (.ifCond .ne 11, 3) := by decide +kernel
theorem dX12_goesOn_166 : decode cX12_goesOn 166 = .ok (.aload_n 0, 1) := by decide +kernel
theorem dX12_goesOn_167 : decode cX12_goesOn 167 = .ok (.iconst 4, 1) := by decide +kernel
theorem dX12_goesOn_168 : decode cX12_goesOn 168 = .ok (.invokevirtual 449, 3) := by decide +kernel
theorem dX12_goesOn_171 : decode cX12_goesOn 171 = .ok (.ifCond .eq 10, 3) := by decide +kernel
theorem dX12_goesOn_174 : decode cX12_goesOn 174 = .ok (.aload_n 0, 1) := by decide +kernel
theorem dX12_goesOn_175 : decode cX12_goesOn 175 = .ok (.invokevirtual 437, 3) := by decide +kernel
theorem dX12_goesOn_178 : decode cX12_goesOn 178 = .ok (.goto (-20), 3) := by decide +kernel
theorem dX12_goesOn_181 : decode cX12_goesOn 181 = .ok (.aload_n 0, 1) := by decide +kernel
theorem dX12_goesOn_182 : decode cX12_goesOn 182 = .ok (.getfield 157, 3) := by decide +kernel
theorem dX12_goesOn_185 : decode cX12_goesOn 185 = .ok (.aload_n 0, 1) := by decide +kernel
theorem dX12_goesOn_186 : decode cX12_goesOn 186 = .ok (.getfield 377, 3) := by decide +kernel
theorem dX12_goesOn_189 : decode cX12_goesOn 189 = .ok (.iload_n 1, 1) := by decide +kernel
theorem dX12_goesOn_190 : decode cX12_goesOn 190 = .ok (.iastore, 1) := by decide +kernel
theorem dX12_goesOn_191 : decode cX12_goesOn 191 = .ok (.aload_n 0, 1) := by decide +kernel
theorem dX12_goesOn_192 : decode cX12_goesOn 192 = .ok (.dup, 1) := by decide +kernel
theorem dX12_goesOn_193 : decode cX12_goesOn 193 = .ok (.getfield 377, 3) := by decide +kernel
theorem dX12_goesOn_196 : decode cX12_goesOn 196 = .ok (.iconst 1, 1) := by decide +kernel
theorem dX12_goesOn_197 : decode cX12_goesOn 197 = .ok (.iadd, 1) := by decide +kernel
theorem dX12_goesOn_198 : decode cX12_goesOn 198 = .ok (.putfield 377, 3) := by decide +kernel
theorem dX12_goesOn_201 : decode cX12_goesOn 201 = .ok (.iconst 1, 1) := by decide +kernel
theorem dX12_goesOn_202 : decode cX12_goesOn 202 = .ok (.ireturn, 1) := by decide +kernel
theorem dX12_goesOn_203 : decode cX12_goesOn 203 = .ok (.aload_n 0, 1) := by decide +kernel
theorem dX12_goesOn_204 : decode cX12_goesOn 204 = .ok (.bipush 43, 2) := by decide +kernel
theorem dX12_goesOn_206 : decode cX12_goesOn 206 = .ok (.invokevirtual 312, 3) := by decide +kernel
theorem dX12_goesOn_209 : decode cX12_goesOn 209 = .ok (.ifCond .ne 12, 3) := by decide +kernel
theorem dX12_goesOn_212 : decode cX12_goesOn 212 = .ok (.aload_n 0, 1) := by decide +kernel
theorem dX12_goesOn_213 : decode cX12_goesOn 213 = .ok (.bipush 45, 2) := by decide +kernel
theorem dX12_goesOn_215 : decode cX12_goesOn 215 = .ok (.invokevirtual 312, 3) := by decide +kernel
theorem dX12_goesOn_218 : decode cX12_goesOn 218 = .ok (.ifCond .eq 86, 3) := by decide +kernel
theorem dX12_goesOn_221 : decode cX12_goesOn 221 = .ok (.aload_n 0, 1) := by decide +kernel
theorem dX12_goesOn_222 : decode cX12_goesOn 222 = .ok (.getfield 7, 3) := by decide +kernel
theorem dX12_goesOn_225 : decode cX12_goesOn 225 = .ok (.aload_n 0, 1) := by decide +kernel
theorem dX12_goesOn_226 : decode cX12_goesOn 226 = .ok (.getfield 284, 3) := by decide +kernel
theorem dX12_goesOn_229 : decode cX12_goesOn 229 = .ok (.iconst 1, 1) := by decide +kernel
theorem dX12_goesOn_230 : decode cX12_goesOn 230 = .ok (.isub, 1) := by decide +kernel
theorem dX12_goesOn_231 : decode cX12_goesOn 231 = .ok (.iaload, 1) := by decide +kernel
theorem dX12_goesOn_232 : decode cX12_goesOn 232 = .ok (.bipush 43, 2) := by decide +kernel
theorem dX12_goesOn_234 : decode cX12_goesOn 234 = .ok (.if_icmp .ne 7, 3) := by decide +kernel
theorem dX12_goesOn_237 : decode cX12_goesOn 237 = .ok (.iconst 1, 1) := by decide +kernel
theorem dX12_goesOn_238 : decode cX12_goesOn 238 = .ok (.goto 4, 3) := by decide +kernel
theorem dX12_goesOn_241 : decode cX12_goesOn 241 = .ok (.iconst 2, 1) := by decide +kernel
theorem dX12_goesOn_242 : decode cX12_goesOn 242 = .ok (.istore_n 1, 1) := by decide +kernel
theorem dX12_goesOn_243 : decode cX12_goesOn 243 = .ok (.aload_n 0, 1) := by decide +kernel
theorem dX12_goesOn_244 : decode cX12_goesOn 244 = .ok (.iconst 3, 1) := by decide +kernel
theorem dX12_goesOn_245 : decode cX12_goesOn 245 = .ok (.invokevirtual 449, 3) := by decide +kernel
theorem dX12_goesOn_248 : decode cX12_goesOn 248 = .ok (.ifCond .ne 27, 3) := by decide +kernel
theorem dX12_goesOn_251 : decode cX12_goesOn 251 = .ok (.aload_n 0, 1) := by decide +kernel
theorem dX12_goesOn_252 : decode cX12_goesOn 252 = .ok (.iconst 4, 1) := by decide +kernel
theorem dX12_goesOn_253 : decode cX12_goesOn 253 = .ok (.invokevirtual 449, 3) := by decide +kernel
theorem dX12_goesOn_256 : decode cX12_goesOn 256 = .ok (.ifCond .ne 19, 3) := by decide +kernel
theorem dX12_goesOn_259 : decode cX12_goesOn 259 = .ok (.aload_n 0, 1) := by decide +kernel
theorem dX12_goesOn_260 : decode cX12_goesOn 260 = .ok (.iconst 1, 1) := by decide +kernel
theorem dX12_goesOn_261 : decode cX12_goesOn 261 = .ok (.invokevirtual 449, 3) := by decide +kernel
theorem dX12_goesOn_264 : decode cX12_goesOn 264 = .ok (.ifCond .ne 11, 3) := by decide +kernel
theorem dX12_goesOn_267 : decode cX12_goesOn 267 = .ok (.aload_n 0, 1) := by decide +kernel
theorem dX12_goesOn_268 : decode cX12_goesOn 268 = .ok (.iconst 2, 1) := by decide +kernel
theorem dX12_goesOn_269 : decode cX12_goesOn 269 = .ok (.invokevirtual 449, 3) := by decide +kernel
theorem dX12_goesOn_272 : decode cX12_goesOn 272 = .ok (.ifCond .eq 10, 3) := by decide +kernel
theorem dX12_goesOn_275 : decode cX12_goesOn 275 = .ok (.aload_n 0, 1) := by decide +kernel
theorem dX12_goesOn_276 : decode cX12_goesOn 276 = .ok (.invokevirtual 437, 3) := by decide +kernel
theorem dX12_goesOn_279 : decode cX12_goesOn 279 = .ok (.goto (-36), 3) := by decide +kernel
theorem dX12_goesOn_282 : decode cX12_goesOn 282 = .ok (.aload_n 0, 1) := by decide +kernel
theorem dX12_goesOn_283 : decode cX12_goesOn 283 = .ok (.getfield 157, 3) := by decide +kernel
theorem dX12_goesOn_286 : decode cX12_goesOn 286 = .ok (.aload_n 0, 1) := by decide +kernel
theorem dX12_goesOn_287 : decode cX12_goesOn 287 = .ok (.getfield 377, 3) := by decide +kernel
theorem dX12_goesOn_290 : decode cX12_goesOn 290 = .ok (.iload_n 1, 1) := by decide +kernel
theorem dX12_goesOn_291 : decode cX12_goesOn 291 = .ok (.iastore, 1) := by decide +kernel
theorem dX12_goesOn_292 : decode cX12_goesOn 292 = .ok (.aload_n 0, 1) := by decide +kernel
theorem dX12_goesOn_293 : decode cX12_goesOn 293 = .ok (.dup, 1) := by decide +kernel
theorem dX12_goesOn_294 : decode cX12_goesOn 294 = .ok (.getfield 377, 3) := by decide +kernel
theorem dX12_goesOn_297 : decode cX12_goesOn 297 = .ok (.iconst 1, 1) := by decide +kernel
theorem dX12_goesOn_298 : decode cX12_goesOn 298 = .ok (.iadd, 1) := by decide +kernel
theorem dX12_goesOn_299 : decode cX12_goesOn 299 = .ok (.putfield 377, 3) := by decide +kernel
theorem dX12_goesOn_302 : decode cX12_goesOn 302 = .ok (.iconst 1, 1) := by decide +kernel
theorem dX12_goesOn_303 : decode cX12_goesOn 303 = .ok (.ireturn, 1) := by decide +kernel
theorem dX12_goesOn_304 : decode cX12_goesOn 304 = .ok (.aload_n 0, 1) := by decide +kernel
theorem dX12_goesOn_305 : decode cX12_goesOn 305 = .ok (.invokevirtual 443, 3) := by decide +kernel
theorem dX12_goesOn_308 : decode cX12_goesOn 308 = .ok (.bipush 21, 2) := by decide +kernel
theorem dX12_goesOn_310 : decode cX12_goesOn 310 = .ok (.if_icmp .eq 12, 3) := by decide +kernel
theorem dX12_goesOn_313 : decode cX12_goesOn 313 = .ok (.aload_n 0, 1) := by decide +kernel
theorem dX12_goesOn_314 : decode cX12_goesOn 314 = .ok (.invokevirtual 443, 3) := by decide +kernel
theorem dX12_goesOn_317 : decode cX12_goesOn 317 = .ok (.bipush 22, 2) := by decide +kernel
theorem dX12_goesOn_319 : decode cX12_goesOn 319 = .ok (.if_icmp .ne 39, 3) := by decide +kernel
theorem dX12_goesOn_322 : decode cX12_goesOn 322 = .ok (.aload_n 0, 1) := by decide +kernel
theorem dX12_goesOn_323 : decode cX12_goesOn 323 = .ok (.bipush 44, 2) := by decide +kernel
theorem dX12_goesOn_325 : decode cX12_goesOn 325 = .ok (.invokevirtual 352, 3) := by decide +kernel
theorem dX12_goesOn_328 : decode cX12_goesOn 328 = .ok (.aload_n 0, 1) := by decide +kernel
theorem dX12_goesOn_329 : decode cX12_goesOn 329 = .ok (.getfield 278, 3) := by decide +kernel
theorem dX12_goesOn_332 : decode cX12_goesOn 332 = .ok (.ifCond .eq 5, 3) := by decide +kernel
theorem dX12_goesOn_335 : decode cX12_goesOn 335 = .ok (.iconst 0, 1) := by decide +kernel
theorem dX12_goesOn_336 : decode cX12_goesOn 336 = .ok (.ireturn, 1) := by decide +kernel
theorem dX12_goesOn_337 : decode cX12_goesOn 337 = .ok (.aload_n 0, 1) := by decide +kernel
theorem dX12_goesOn_338 : decode cX12_goesOn 338 = .ok (.invokevirtual 446, 3) := by decide +kernel
theorem dX12_goesOn_341 : decode cX12_goesOn 341 = .ok (.aload_n 0, 1) := by decide +kernel
theorem dX12_goesOn_342 : decode cX12_goesOn 342 = .ok (.getfield 157, 3) := by decide +kernel
theorem dX12_goesOn_345 : decode cX12_goesOn 345 = .ok (.aload_n 0, 1) := by decide +kernel
theorem dX12_goesOn_346 : decode cX12_goesOn 346 = .ok (.getfield 377, 3) := by decide +kernel
theorem dX12_goesOn_349 : decode cX12_goesOn 349 = .ok (.iconst 1, 1) := by decide +kernel
theorem dX12_goesOn_350 : decode cX12_goesOn 350 = .ok (.isub, 1) := by decide +kernel
theorem dX12_goesOn_351 : decode cX12_goesOn 351 = .ok (.dup2, 1) := by decide +kernel
theorem dX12_goesOn_352 : decode cX12_goesOn 352 = .ok (.iaload, 1) := by decide +kernel
theorem dX12_goesOn_353 : decode cX12_goesOn 353 = .ok (.iconst 2, 1) := by decide +kernel
theorem dX12_goesOn_354 : decode cX12_goesOn 354 = .ok (.iadd, 1) := by decide +kernel
theorem dX12_goesOn_355 : decode cX12_goesOn 355 = .ok (.iastore, 1) := by decide +kernel
theorem dX12_goesOn_356 : decode cX12_goesOn 356 = .ok (.iconst 1, 1) := by decide +kernel
theorem dX12_goesOn_357 : decode cX12_goesOn 357 = .ok (.ireturn, 1) := by decide +kernel
theorem dX12_goesOn_358 : decode cX12_goesOn 358 = .ok (.aload_n 0, 1) := by decide +kernel
theorem dX12_goesOn_359 : decode cX12_goesOn 359 = .ok (.invokevirtual 443, 3) := by decide +kernel
theorem dX12_goesOn_362 : decode cX12_goesOn 362 = .ok (.iconst (-1), 1) := by decide +kernel
theorem dX12_goesOn_363 : decode cX12_goesOn 363 = .ok (.if_icmp .eq 19, 3) := by decide +kernel
theorem dX12_goesOn_366 : decode cX12_goesOn 366 = .ok (.aload_n 0, 1) := by decide +kernel
theorem dX12_goesOn_367 : decode cX12_goesOn 367 = .ok (.getfield 278, 3) := by decide +kernel
theorem dX12_goesOn_370 : decode cX12_goesOn 370 = .ok (.ifCond .ne 12, 3) := by decide +kernel
theorem dX12_goesOn_373 : decode cX12_goesOn 373 = .ok (.aload_n 0, 1) := by decide +kernel
theorem dX12_goesOn_374 : decode cX12_goesOn 374 = .ok (.iconst 1, 1) := by decide +kernel
theorem dX12_goesOn_375 : decode cX12_goesOn 375 = .ok (.aload_n 0, 1) := by decide +kernel
theorem dX12_goesOn_376 : decode cX12_goesOn 376 = .ok (.getfield 284, 3) := by decide +kernel
theorem dX12_goesOn_379 : decode cX12_goesOn 379 = .ok (.invokevirtual 308, 3) := by decide +kernel
theorem dX12_goesOn_382 : decode cX12_goesOn 382 = .ok (.iconst 0, 1) := by decide +kernel
theorem dX12_goesOn_383 : decode cX12_goesOn 383 = .ok (.ireturn, 1) := by decide +kernel
theorem dX12_sumsTold_0 : decode cX12_sumsTold 0 = .ok (.aload_n 0, 1) := by decide +kernel
theorem dX12_sumsTold_1 : decode cX12_sumsTold 1 = .ok (.getfield 383, 3) := by decide +kernel
theorem dX12_sumsTold_4 : decode cX12_sumsTold 4 = .ok (.istore_n 1, 1) := by decide +kernel
theorem dX12_sumsTold_5 : decode cX12_sumsTold 5 = .ok (.aload_n 0, 1) := by decide +kernel
theorem dX12_sumsTold_6 : decode cX12_sumsTold 6 = .ok (.aload_n 0, 1) := by decide +kernel
theorem dX12_sumsTold_7 : decode cX12_sumsTold 7 = .ok (.getfield 377, 3) := by decide +kernel
theorem dX12_sumsTold_10 : decode cX12_sumsTold 10 = .ok (.putfield 383, 3) := by decide +kernel
theorem dX12_sumsTold_13 : decode cX12_sumsTold 13 = .ok (.iconst 1, 1) := by decide +kernel
theorem dX12_sumsTold_14 : decode cX12_sumsTold 14 = .ok (.istore_n 2, 1) := by decide +kernel
theorem dX12_sumsTold_15 : decode cX12_sumsTold 15 = .ok (.iload_n 2, 1) := by decide +kernel
theorem dX12_sumsTold_16 : decode cX12_sumsTold 16 = .ok (.ifCond .eq 37, 3) := by decide +kernel
theorem dX12_sumsTold_19 : decode cX12_sumsTold 19 = .ok (.aload_n 0, 1) := by decide +kernel
theorem dX12_sumsTold_20 : decode cX12_sumsTold 20 = .ok (.getfield 278, 3) := by decide +kernel
theorem dX12_sumsTold_23 : decode cX12_sumsTold 23 = .ok (.ifCond .ne 30, 3) := by decide +kernel
theorem dX12_sumsTold_26 : decode cX12_sumsTold 26 = .ok (.aload_n 0, 1) := by decide +kernel
theorem dX12_sumsTold_27 : decode cX12_sumsTold 27 = .ok (.invokevirtual 452, 3) := by decide +kernel
theorem dX12_sumsTold_30 : decode cX12_sumsTold 30 = .ok (.aload_n 0, 1) := by decide +kernel
theorem dX12_sumsTold_31 : decode cX12_sumsTold 31 = .ok (.getfield 278, 3) := by decide +kernel
theorem dX12_sumsTold_34 : decode cX12_sumsTold 34 = .ok (.ifCond .ne 14, 3) := by decide +kernel
theorem dX12_sumsTold_37 : decode cX12_sumsTold 37 = .ok (.aload_n 0, 1) := by decide +kernel
theorem dX12_sumsTold_38 : decode cX12_sumsTold 38 = .ok (.invokevirtual 455, 3) := by decide +kernel
theorem dX12_sumsTold_41 : decode cX12_sumsTold 41 = .ok (.ifCond .eq 7, 3) := by decide +kernel
theorem dX12_sumsTold_44 : decode cX12_sumsTold 44 = .ok (.iconst 1, 1) := by decide +kernel
theorem dX12_sumsTold_45 : decode cX12_sumsTold 45 = .ok (.goto 4, 3) := by decide +kernel
theorem dX12_sumsTold_48 : decode cX12_sumsTold 48 = .ok (.iconst 0, 1) := by decide +kernel
theorem dX12_sumsTold_49 : decode cX12_sumsTold 49 = .ok (.istore_n 2, 1) := by decide +kernel
theorem dX12_sumsTold_50 : decode cX12_sumsTold 50 = .ok (.goto (-35), 3) := by decide +kernel
theorem dX12_sumsTold_53 : decode cX12_sumsTold 53 = .ok (.aload_n 0, 1) := by decide +kernel
theorem dX12_sumsTold_54 : decode cX12_sumsTold 54 = .ok (.getfield 278, 3) := by decide +kernel
theorem dX12_sumsTold_57 : decode cX12_sumsTold 57 = .ok (.ifCond .ne 21, 3) := by decide +kernel
theorem dX12_sumsTold_60 : decode cX12_sumsTold 60 = .ok (.aload_n 0, 1) := by decide +kernel
theorem dX12_sumsTold_61 : decode cX12_sumsTold 61 = .ok (.getfield 377, 3) := by decide +kernel
theorem dX12_sumsTold_64 : decode cX12_sumsTold 64 = .ok (.aload_n 0, 1) := by decide +kernel
theorem dX12_sumsTold_65 : decode cX12_sumsTold 65 = .ok (.getfield 383, 3) := by decide +kernel
theorem dX12_sumsTold_68 : decode cX12_sumsTold 68 = .ok (.if_icmp .le 10, 3) := by decide +kernel
theorem dX12_sumsTold_71 : decode cX12_sumsTold 71 = .ok (.aload_n 0, 1) := by decide +kernel
theorem dX12_sumsTold_72 : decode cX12_sumsTold 72 = .ok (.invokevirtual 437, 3) := by decide +kernel
theorem dX12_sumsTold_75 : decode cX12_sumsTold 75 = .ok (.goto (-22), 3) := by decide +kernel
theorem dX12_sumsTold_78 : decode cX12_sumsTold 78 = .ok (.aload_n 0, 1) := by decide +kernel
theorem dX12_sumsTold_79 : decode cX12_sumsTold 79 = .ok (.iload_n 1, 1) := by decide +kernel
theorem dX12_sumsTold_80 : decode cX12_sumsTold 80 = .ok (.putfield 383, 3) := by decide +kernel
theorem dX12_sumsTold_83 : decode cX12_sumsTold 83 = .ok (.return_, 1) := by decide +kernel
theorem dX12_fault_0 : decode cX12_fault 0 = .ok (.iload_n 1, 1) := by decide +kernel
theorem dX12_fault_1 : decode cX12_fault 1 = .ok (.ifCond .ne 10, 3) := by decide +kernel
theorem dX12_fault_4 : decode cX12_fault 4 = .ok (.aload_n 0, 1) := by decide +kernel
theorem dX12_fault_5 : decode cX12_fault 5 = .ok (.getfield 416, 3) := by decide +kernel
theorem dX12_fault_8 : decode cX12_fault 8 = .ok (.goto 16, 3) := by decide +kernel
theorem dX12_fault_11 : decode cX12_fault 11 = .ok (.iload_n 1, 1) := by decide +kernel
theorem dX12_fault_12 : decode cX12_fault 12 = .ok (.iconst 1, 1) := by decide +kernel
theorem dX12_fault_13 : decode cX12_fault 13 = .ok (.if_icmp .ne 10, 3) := by decide +kernel
theorem dX12_fault_16 : decode cX12_fault 16 = .ok (.aload_n 0, 1) := by decide +kernel
theorem dX12_fault_17 : decode cX12_fault 17 = .ok (.getfield 13, 3) := by decide +kernel
theorem dX12_fault_20 : decode cX12_fault 20 = .ok (.goto 4, 3) := by decide +kernel
theorem dX12_fault_23 : decode cX12_fault 23 = .ok (.iconst (-1), 1) := by decide +kernel
theorem dX12_fault_24 : decode cX12_fault 24 = .ok (.ireturn, 1) := by decide +kernel
theorem dX12_clip_0 : decode cX12_clip 0 = .ok (.lload_n 0, 1) := by decide +kernel
theorem dX12_clip_1 : decode cX12_clip 1 = .ok (.ldc2_w 458, 3) := by decide +kernel
theorem dX12_clip_4 : decode cX12_clip 4 = .ok (.lcmp, 1) := by decide +kernel
theorem dX12_clip_5 : decode cX12_clip 5 = .ok (.ifCond .le 9, 3) := by decide +kernel
theorem dX12_clip_8 : decode cX12_clip 8 = .ok (.ldc2_w 458, 3) := by decide +kernel
theorem dX12_clip_11 : decode cX12_clip 11 = .ok (.goto 18, 3) := by decide +kernel
theorem dX12_clip_14 : decode cX12_clip 14 = .ok (.lload_n 0, 1) := by decide +kernel
theorem dX12_clip_15 : decode cX12_clip 15 = .ok (.ldc2_w 460, 3) := by decide +kernel
theorem dX12_clip_18 : decode cX12_clip 18 = .ok (.lcmp, 1) := by decide +kernel
theorem dX12_clip_19 : decode cX12_clip 19 = .ok (.ifCond .ge 9, 3) := by decide +kernel
theorem dX12_clip_22 : decode cX12_clip 22 = .ok (.ldc2_w 460, 3) := by decide +kernel
theorem dX12_clip_25 : decode cX12_clip 25 = .ok (.goto 4, 3) := by decide +kernel
theorem dX12_clip_28 : decode cX12_clip 28 = .ok (.lload_n 0, 1) := by decide +kernel
theorem dX12_clip_29 : decode cX12_clip 29 = .ok (.lreturn, 1) := by decide +kernel
theorem dX12_floor_0 : decode cX12_floor 0 = .ok (.lload_n 2, 1) := by decide +kernel
theorem dX12_floor_1 : decode cX12_floor 1 = .ok (.lconst 0, 1) := by decide +kernel
theorem dX12_floor_2 : decode cX12_floor 2 = .ok (.lcmp, 1) := by decide +kernel
theorem dX12_floor_3 : decode cX12_floor 3 = .ok (.ifCond .ne 5, 3) := by decide +kernel
theorem dX12_floor_6 : decode cX12_floor 6 = .ok (.lconst 0, 1) := by decide +kernel
theorem dX12_floor_7 : decode cX12_floor 7 = .ok (.lreturn, 1) := by decide +kernel
theorem dX12_floor_8 : decode cX12_floor 8 = .ok (.lload_n 0, 1) := by decide +kernel
theorem dX12_floor_9 : decode cX12_floor 9 = .ok (.lload_n 2, 1) := by decide +kernel
theorem dX12_floor_10 : decode cX12_floor 10 = .ok (.ldiv, 1) := by decide +kernel
theorem dX12_floor_11 : decode cX12_floor 11 = .ok (.lstore 4, 2) := by decide +kernel
theorem dX12_floor_13 : decode cX12_floor 13 = .ok (.lload_n 0, 1) := by decide +kernel
theorem dX12_floor_14 : decode cX12_floor 14 = .ok (.lload_n 2, 1) := by decide +kernel
theorem dX12_floor_15 : decode cX12_floor 15 = .ok (.lrem, 1) := by decide +kernel
theorem dX12_floor_16 : decode cX12_floor 16 = .ok (.lconst 0, 1) := by decide +kernel
theorem dX12_floor_17 : decode cX12_floor 17 = .ok (.lcmp, 1) := by decide +kernel
theorem dX12_floor_18 : decode cX12_floor 18 = .ok (.ifCond .eq 35, 3) := by decide +kernel
theorem dX12_floor_21 : decode cX12_floor 21 = .ok (.lload_n 0, 1) := by decide +kernel
theorem dX12_floor_22 : decode cX12_floor 22 = .ok (.lconst 0, 1) := by decide +kernel
theorem dX12_floor_23 : decode cX12_floor 23 = .ok (.lcmp, 1) := by decide +kernel
theorem dX12_floor_24 : decode cX12_floor 24 = .ok (.ifCond .ge 7, 3) := by decide +kernel
theorem dX12_floor_27 : decode cX12_floor 27 = .ok (.iconst 1, 1) := by decide +kernel
theorem dX12_floor_28 : decode cX12_floor 28 = .ok (.goto 4, 3) := by decide +kernel
theorem dX12_floor_31 : decode cX12_floor 31 = .ok (.iconst 0, 1) := by decide +kernel
theorem dX12_floor_32 : decode cX12_floor 32 = .ok (.lload_n 2, 1) := by decide +kernel
theorem dX12_floor_33 : decode cX12_floor 33 = .ok (.lconst 0, 1) := by decide +kernel
theorem dX12_floor_34 : decode cX12_floor 34 = .ok (.lcmp, 1) := by decide +kernel
theorem dX12_floor_35 : decode cX12_floor 35 = .ok (.ifCond .ge 7, 3) := by decide +kernel
theorem dX12_floor_38 : decode cX12_floor 38 = .ok (.iconst 1, 1) := by decide +kernel
theorem dX12_floor_39 : decode cX12_floor 39 = .ok (.goto 4, 3) := by decide +kernel
theorem dX12_floor_42 : decode cX12_floor 42 = .ok (.iconst 0, 1) := by decide +kernel
theorem dX12_floor_43 : decode cX12_floor 43 = .ok (.if_icmp .eq 10, 3) := by decide +kernel
theorem dX12_floor_46 : decode cX12_floor 46 = .ok (.lload 4, 2) := by decide +kernel
theorem dX12_floor_48 : decode cX12_floor 48 = .ok (.lconst 1, 1) := by decide +kernel
theorem dX12_floor_49 : decode cX12_floor 49 = .ok (.lsub, 1) := by decide +kernel
theorem dX12_floor_50 : decode cX12_floor 50 = .ok (.goto 5, 3) := by decide +kernel
theorem dX12_floor_53 : decode cX12_floor 53 = .ok (.lload 4, 2) := by decide +kernel
theorem dX12_floor_55 : decode cX12_floor 55 = .ok (.lreturn, 1) := by decide +kernel
theorem dX12_puts_0 : decode cX12_puts 0 = .ok (.aload_n 0, 1) := by decide +kernel
theorem dX12_puts_1 : decode cX12_puts 1 = .ok (.getfield 160, 3) := by decide +kernel
theorem dX12_puts_4 : decode cX12_puts 4 = .ok (.aload_n 0, 1) := by decide +kernel
theorem dX12_puts_5 : decode cX12_puts 5 = .ok (.getfield 462, 3) := by decide +kernel
theorem dX12_puts_8 : decode cX12_puts 8 = .ok (.lload_n 1, 1) := by decide +kernel
theorem dX12_puts_9 : decode cX12_puts 9 = .ok (.lastore, 1) := by decide +kernel
theorem dX12_puts_10 : decode cX12_puts 10 = .ok (.aload_n 0, 1) := by decide +kernel
theorem dX12_puts_11 : decode cX12_puts 11 = .ok (.dup, 1) := by decide +kernel
theorem dX12_puts_12 : decode cX12_puts 12 = .ok (.getfield 462, 3) := by decide +kernel
theorem dX12_puts_15 : decode cX12_puts 15 = .ok (.iconst 1, 1) := by decide +kernel
theorem dX12_puts_16 : decode cX12_puts 16 = .ok (.iadd, 1) := by decide +kernel
theorem dX12_puts_17 : decode cX12_puts 17 = .ok (.putfield 462, 3) := by decide +kernel
theorem dX12_puts_20 : decode cX12_puts 20 = .ok (.return_, 1) := by decide +kernel
theorem dX12_joins_0 : decode cX12_joins 0 = .ok (.aload_n 0, 1) := by decide +kernel
theorem dX12_joins_1 : decode cX12_joins 1 = .ok (.getfield 160, 3) := by decide +kernel
theorem dX12_joins_4 : decode cX12_joins 4 = .ok (.aload_n 0, 1) := by decide +kernel
theorem dX12_joins_5 : decode cX12_joins 5 = .ok (.getfield 462, 3) := by decide +kernel
theorem dX12_joins_8 : decode cX12_joins 8 = .ok (.iconst 1, 1) := by decide +kernel
theorem dX12_joins_9 : decode cX12_joins 9 = .ok (.isub, 1) := by decide +kernel
theorem dX12_joins_10 : decode cX12_joins 10 = .ok (.laload, 1) := by decide +kernel
theorem dX12_joins_11 : decode cX12_joins 11 = .ok (.lstore_n 2, 1) := by decide +kernel
theorem dX12_joins_12 : decode cX12_joins 12 = .ok (.aload_n 0, 1) := by decide +kernel
theorem dX12_joins_13 : decode cX12_joins 13 = .ok (.getfield 160, 3) := by decide +kernel
theorem dX12_joins_16 : decode cX12_joins 16 = .ok (.aload_n 0, 1) := by decide +kernel
theorem dX12_joins_17 : decode cX12_joins 17 = .ok (.getfield 462, 3) := by decide +kernel
theorem dX12_joins_20 : decode cX12_joins 20 = .ok (.iconst 2, 1) := by decide +kernel
theorem dX12_joins_21 : decode cX12_joins 21 = .ok (.isub, 1) := by decide +kernel
theorem dX12_joins_22 : decode cX12_joins 22 = .ok (.laload, 1) := by decide +kernel
theorem dX12_joins_23 : decode cX12_joins 23 = .ok (.lstore 4, 2) := by decide +kernel
theorem dX12_joins_25 : decode cX12_joins 25 = .ok (.aload_n 0, 1) := by decide +kernel
theorem dX12_joins_26 : decode cX12_joins 26 = .ok (.dup, 1) := by decide +kernel
theorem dX12_joins_27 : decode cX12_joins 27 = .ok (.getfield 462, 3) := by decide +kernel
theorem dX12_joins_30 : decode cX12_joins 30 = .ok (.iconst 2, 1) := by decide +kernel
theorem dX12_joins_31 : decode cX12_joins 31 = .ok (.isub, 1) := by decide +kernel
theorem dX12_joins_32 : decode cX12_joins 32 = .ok (.putfield 462, 3) := by decide +kernel
theorem dX12_joins_35 : decode cX12_joins 35 = .ok (.iload_n 1, 1) := by decide +kernel
theorem dX12_joins_36 : decode cX12_joins 36 = .ok (.tableswitch 111 1 5 #[36, 50, 64, 78, 91], 36) := by decide +kernel
theorem dX12_joins_72 : decode cX12_joins 72 = .ok (.aload_n 0, 1) := by decide +kernel
theorem dX12_joins_73 : decode cX12_joins 73 = .ok (.lload 4, 2) := by decide +kernel
theorem dX12_joins_75 : decode cX12_joins 75 = .ok (.lload_n 2, 1) := by decide +kernel
theorem dX12_joins_76 : decode cX12_joins 76 = .ok (.ladd, 1) := by decide +kernel
theorem dX12_joins_77 : decode cX12_joins 77 = .ok (.invokestatic 465, 3) := by decide +kernel
theorem dX12_joins_80 : decode cX12_joins 80 = .ok (.invokevirtual 469, 3) := by decide +kernel
theorem dX12_joins_83 : decode cX12_joins 83 = .ok (.goto 81, 3) := by decide +kernel
theorem dX12_joins_86 : decode cX12_joins 86 = .ok (.aload_n 0, 1) := by decide +kernel
theorem dX12_joins_87 : decode cX12_joins 87 = .ok (.lload 4, 2) := by decide +kernel
theorem dX12_joins_89 : decode cX12_joins 89 = .ok (.lload_n 2, 1) := by decide +kernel
theorem dX12_joins_90 : decode cX12_joins 90 = .ok (.lsub, 1) := by decide +kernel
theorem dX12_joins_91 : decode cX12_joins 91 = .ok (.invokestatic 465, 3) := by decide +kernel
theorem dX12_joins_94 : decode cX12_joins 94 = .ok (.invokevirtual 469, 3) := by decide +kernel
theorem dX12_joins_97 : decode cX12_joins 97 = .ok (.goto 67, 3) := by decide +kernel
theorem dX12_joins_100 : decode cX12_joins 100 = .ok (.aload_n 0, 1) := by decide +kernel
theorem dX12_joins_101 : decode cX12_joins 101 = .ok (.lload 4, 2) := by decide +kernel
theorem dX12_joins_103 : decode cX12_joins 103 = .ok (.lload_n 2, 1) := by decide +kernel
theorem dX12_joins_104 : decode cX12_joins 104 = .ok (.lmul, 1) := by decide +kernel
theorem dX12_joins_105 : decode cX12_joins 105 = .ok (.invokestatic 465, 3) := by decide +kernel
theorem dX12_joins_108 : decode cX12_joins 108 = .ok (.invokevirtual 469, 3) := by decide +kernel
theorem dX12_joins_111 : decode cX12_joins 111 = .ok (.goto 53, 3) := by decide +kernel
theorem dX12_joins_114 : decode cX12_joins 114 = .ok (.aload_n 0, 1) := by decide +kernel
theorem dX12_joins_115 : decode cX12_joins 115 = .ok (.lload 4, 2) := by decide +kernel
theorem dX12_joins_117 : decode cX12_joins 117 = .ok (.lload_n 2, 1) := by decide +kernel
theorem dX12_joins_118 : decode cX12_joins 118 = .ok (.invokestatic 473, 3) := by decide +kernel
theorem dX12_joins_121 : decode cX12_joins 121 = .ok (.invokevirtual 469, 3) := by decide +kernel
theorem dX12_joins_124 : decode cX12_joins 124 = .ok (.goto 40, 3) := by decide +kernel
theorem dX12_joins_127 : decode cX12_joins 127 = .ok (.aload_n 0, 1) := by decide +kernel
theorem dX12_joins_128 : decode cX12_joins 128 = .ok (.lload 4, 2) := by decide +kernel
theorem dX12_joins_130 : decode cX12_joins 130 = .ok (.lload_n 2, 1) := by decide +kernel
theorem dX12_joins_131 : decode cX12_joins 131 = .ok (.lcmp, 1) := by decide +kernel
theorem dX12_joins_132 : decode cX12_joins 132 = .ok (.ifCond .ge 8, 3) := by decide +kernel
theorem dX12_joins_135 : decode cX12_joins 135 = .ok (.lload 4, 2) := by decide +kernel
theorem dX12_joins_137 : decode cX12_joins 137 = .ok (.goto 4, 3) := by decide +kernel
theorem dX12_joins_140 : decode cX12_joins 140 = .ok (.lload_n 2, 1) := by decide +kernel
theorem dX12_joins_141 : decode cX12_joins 141 = .ok (.invokevirtual 469, 3) := by decide +kernel
theorem dX12_joins_144 : decode cX12_joins 144 = .ok (.goto 20, 3) := by decide +kernel
theorem dX12_joins_147 : decode cX12_joins 147 = .ok (.aload_n 0, 1) := by decide +kernel
theorem dX12_joins_148 : decode cX12_joins 148 = .ok (.lload 4, 2) := by decide +kernel
theorem dX12_joins_150 : decode cX12_joins 150 = .ok (.lload_n 2, 1) := by decide +kernel
theorem dX12_joins_151 : decode cX12_joins 151 = .ok (.lcmp, 1) := by decide +kernel
theorem dX12_joins_152 : decode cX12_joins 152 = .ok (.ifCond .le 8, 3) := by decide +kernel
theorem dX12_joins_155 : decode cX12_joins 155 = .ok (.lload 4, 2) := by decide +kernel
theorem dX12_joins_157 : decode cX12_joins 157 = .ok (.goto 4, 3) := by decide +kernel
theorem dX12_joins_160 : decode cX12_joins 160 = .ok (.lload_n 2, 1) := by decide +kernel
theorem dX12_joins_161 : decode cX12_joins 161 = .ok (.invokevirtual 469, 3) := by decide +kernel
theorem dX12_joins_164 : decode cX12_joins 164 = .ok (.return_, 1) := by decide +kernel
theorem dX12_columns_0 : decode cX12_columns 0 = .ok (.aload_n 0, 1) := by decide +kernel
theorem dX12_columns_1 : decode cX12_columns 1 = .ok (.getfield 123, 3) := by decide +kernel
theorem dX12_columns_4 : decode cX12_columns 4 = .ok (.iconst 5, 1) := by decide +kernel
theorem dX12_columns_5 : decode cX12_columns 5 = .ok (.iaload, 1) := by decide +kernel
theorem dX12_columns_6 : decode cX12_columns 6 = .ok (.ireturn, 1) := by decide +kernel
theorem dX12_cellMany_0 : decode cX12_cellMany 0 = .ok (.aload_n 0, 1) := by decide +kernel
theorem dX12_cellMany_1 : decode cX12_cellMany 1 = .ok (.invokevirtual 477, 3) := by decide +kernel
theorem dX12_cellMany_4 : decode cX12_cellMany 4 = .ok (.aload_n 0, 1) := by decide +kernel
theorem dX12_cellMany_5 : decode cX12_cellMany 5 = .ok (.getfield 123, 3) := by decide +kernel
theorem dX12_cellMany_8 : decode cX12_cellMany 8 = .ok (.bipush 6, 2) := by decide +kernel
theorem dX12_cellMany_10 : decode cX12_cellMany 10 = .ok (.iaload, 1) := by decide +kernel
theorem dX12_cellMany_11 : decode cX12_cellMany 11 = .ok (.imul, 1) := by decide +kernel
theorem dX12_cellMany_12 : decode cX12_cellMany 12 = .ok (.ireturn, 1) := by decide +kernel
theorem dX12_boatMany_0 : decode cX12_boatMany 0 = .ok (.aload_n 0, 1) := by decide +kernel
theorem dX12_boatMany_1 : decode cX12_boatMany 1 = .ok (.getfield 123, 3) := by decide +kernel
theorem dX12_boatMany_4 : decode cX12_boatMany 4 = .ok (.bipush 7, 2) := by decide +kernel
theorem dX12_boatMany_6 : decode cX12_boatMany 6 = .ok (.iaload, 1) := by decide +kernel
theorem dX12_boatMany_7 : decode cX12_boatMany 7 = .ok (.ireturn, 1) := by decide +kernel
theorem dX12_handMany_0 : decode cX12_handMany 0 = .ok (.aload_n 0, 1) := by decide +kernel
theorem dX12_handMany_1 : decode cX12_handMany 1 = .ok (.getfield 123, 3) := by decide +kernel
theorem dX12_handMany_4 : decode cX12_handMany 4 = .ok (.bipush 8, 2) := by decide +kernel
theorem dX12_handMany_6 : decode cX12_handMany 6 = .ok (.iaload, 1) := by decide +kernel
theorem dX12_handMany_7 : decode cX12_handMany 7 = .ok (.ireturn, 1) := by decide +kernel
theorem dX12_isCell_0 : decode cX12_isCell 0 = .ok (.iload_n 1, 1) := by decide +kernel
theorem dX12_isCell_1 : decode cX12_isCell 1 = .ok (.i2l, 1) := by decide +kernel
theorem dX12_isCell_2 : decode cX12_isCell 2 = .ok (.lconst 0, 1) := by decide +kernel
theorem dX12_isCell_3 : decode cX12_isCell 3 = .ok (.aload_n 0, 1) := by decide +kernel
theorem dX12_isCell_4 : decode cX12_isCell 4 = .ok (.invokevirtual 480, 3) := by decide +kernel
theorem dX12_isCell_7 : decode cX12_isCell 7 = .ok (.iconst 1, 1) := by decide +kernel
theorem dX12_isCell_8 : decode cX12_isCell 8 = .ok (.isub, 1) := by decide +kernel
theorem dX12_isCell_9 : decode cX12_isCell 9 = .ok (.i2l, 1) := by decide +kernel
theorem dX12_isCell_10 : decode cX12_isCell 10 = .ok (.invokestatic 321, 3) := by decide +kernel
theorem dX12_isCell_13 : decode cX12_isCell 13 = .ok (.ireturn, 1) := by decide +kernel
theorem dX12_isBoat_0 : decode cX12_isBoat 0 = .ok (.iload_n 1, 1) := by decide +kernel
theorem dX12_isBoat_1 : decode cX12_isBoat 1 = .ok (.i2l, 1) := by decide +kernel
theorem dX12_isBoat_2 : decode cX12_isBoat 2 = .ok (.lconst 0, 1) := by decide +kernel
theorem dX12_isBoat_3 : decode cX12_isBoat 3 = .ok (.aload_n 0, 1) := by decide +kernel
theorem dX12_isBoat_4 : decode cX12_isBoat 4 = .ok (.invokevirtual 483, 3) := by decide +kernel
theorem dX12_isBoat_7 : decode cX12_isBoat 7 = .ok (.iconst 1, 1) := by decide +kernel
theorem dX12_isBoat_8 : decode cX12_isBoat 8 = .ok (.isub, 1) := by decide +kernel
theorem dX12_isBoat_9 : decode cX12_isBoat 9 = .ok (.i2l, 1) := by decide +kernel
theorem dX12_isBoat_10 : decode cX12_isBoat 10 = .ok (.invokestatic 321, 3) := by decide +kernel
theorem dX12_isBoat_13 : decode cX12_isBoat 13 = .ok (.ireturn, 1) := by decide +kernel
theorem dX12_kindAt_0 : decode cX12_kindAt 0 = .ok (.aload_n 0, 1) := by decide +kernel
theorem dX12_kindAt_1 : decode cX12_kindAt 1 = .ok (.getfield 130, 3) := by decide +kernel
theorem dX12_kindAt_4 : decode cX12_kindAt 4 = .ok (.bipush 48, 2) := by decide +kernel
theorem dX12_kindAt_6 : decode cX12_kindAt 6 = .ok (.bipush 8, 2) := by decide +kernel
theorem dX12_kindAt_8 : decode cX12_kindAt 8 = .ok (.iload_n 1, 1) := by decide +kernel
theorem dX12_kindAt_9 : decode cX12_kindAt 9 = .ok (.aload_n 0, 1) := by decide +kernel
theorem dX12_kindAt_10 : decode cX12_kindAt 10 = .ok (.invokevirtual 477, 3) := by decide +kernel
theorem dX12_kindAt_13 : decode cX12_kindAt 13 = .ok (.idiv, 1) := by decide +kernel
theorem dX12_kindAt_14 : decode cX12_kindAt 14 = .ok (.imul, 1) := by decide +kernel
theorem dX12_kindAt_15 : decode cX12_kindAt 15 = .ok (.iadd, 1) := by decide +kernel
theorem dX12_kindAt_16 : decode cX12_kindAt 16 = .ok (.iload_n 1, 1) := by decide +kernel
theorem dX12_kindAt_17 : decode cX12_kindAt 17 = .ok (.aload_n 0, 1) := by decide +kernel
theorem dX12_kindAt_18 : decode cX12_kindAt 18 = .ok (.invokevirtual 477, 3) := by decide +kernel
theorem dX12_kindAt_21 : decode cX12_kindAt 21 = .ok (.irem, 1) := by decide +kernel
theorem dX12_kindAt_22 : decode cX12_kindAt 22 = .ok (.iadd, 1) := by decide +kernel
theorem dX12_kindAt_23 : decode cX12_kindAt 23 = .ok (.iaload, 1) := by decide +kernel
theorem dX12_kindAt_24 : decode cX12_kindAt 24 = .ok (.ireturn, 1) := by decide +kernel
theorem dX12_isLand_0 : decode cX12_isLand 0 = .ok (.aload_n 0, 1) := by decide +kernel
theorem dX12_isLand_1 : decode cX12_isLand 1 = .ok (.iload_n 1, 1) := by decide +kernel
theorem dX12_isLand_2 : decode cX12_isLand 2 = .ok (.invokevirtual 486, 3) := by decide +kernel
theorem dX12_isLand_5 : decode cX12_isLand 5 = .ok (.bipush 9, 2) := by decide +kernel
theorem dX12_isLand_7 : decode cX12_isLand 7 = .ok (.if_icmp .ne 7, 3) := by decide +kernel
theorem dX12_isLand_10 : decode cX12_isLand 10 = .ok (.iconst 1, 1) := by decide +kernel
theorem dX12_isLand_11 : decode cX12_isLand 11 = .ok (.goto 4, 3) := by decide +kernel
theorem dX12_isLand_14 : decode cX12_isLand 14 = .ok (.iconst 0, 1) := by decide +kernel
theorem dX12_isLand_15 : decode cX12_isLand 15 = .ok (.ireturn, 1) := by decide +kernel
theorem dX12_isWater_0 : decode cX12_isWater 0 = .ok (.aload_n 0, 1) := by decide +kernel
theorem dX12_isWater_1 : decode cX12_isWater 1 = .ok (.iload_n 1, 1) := by decide +kernel
theorem dX12_isWater_2 : decode cX12_isWater 2 = .ok (.invokevirtual 489, 3) := by decide +kernel
theorem dX12_isWater_5 : decode cX12_isWater 5 = .ok (.ifCond .eq 15, 3) := by decide +kernel
theorem dX12_isWater_8 : decode cX12_isWater 8 = .ok (.aload_n 0, 1) := by decide +kernel
theorem dX12_isWater_9 : decode cX12_isWater 9 = .ok (.iload_n 1, 1) := by decide +kernel
theorem dX12_isWater_10 : decode cX12_isWater 10 = .ok (.invokevirtual 492, 3) := by decide +kernel
theorem dX12_isWater_13 : decode cX12_isWater 13 = .ok (.ifCond .ne 7, 3) := by decide +kernel
theorem dX12_isWater_16 : decode cX12_isWater 16 = .ok (.iconst 1, 1) := by decide +kernel
theorem dX12_isWater_17 : decode cX12_isWater 17 = .ok (.goto 4, 3) := by decide +kernel
theorem dX12_isWater_20 : decode cX12_isWater 20 = .ok (.iconst 0, 1) := by decide +kernel
theorem dX12_isWater_21 : decode cX12_isWater 21 = .ok (.ireturn, 1) := by decide +kernel
theorem dX12_isWreck_0 : decode cX12_isWreck 0 = .ok (.aload_n 0, 1) := by decide +kernel
theorem dX12_isWreck_1 : decode cX12_isWreck 1 = .ok (.iload_n 1, 1) := by decide +kernel
theorem dX12_isWreck_2 : decode cX12_isWreck 2 = .ok (.invokevirtual 486, 3) := by decide +kernel
theorem dX12_isWreck_5 : decode cX12_isWreck 5 = .ok (.iconst 3, 1) := by decide +kernel
theorem dX12_isWreck_6 : decode cX12_isWreck 6 = .ok (.if_icmp .ne 7, 3) := by decide +kernel
theorem dX12_isWreck_9 : decode cX12_isWreck 9 = .ok (.iconst 1, 1) := by decide +kernel
theorem dX12_isWreck_10 : decode cX12_isWreck 10 = .ok (.goto 4, 3) := by decide +kernel
theorem dX12_isWreck_13 : decode cX12_isWreck 13 = .ok (.iconst 0, 1) := by decide +kernel
theorem dX12_isWreck_14 : decode cX12_isWreck 14 = .ok (.ireturn, 1) := by decide +kernel
theorem dX12_depthOf_0 : decode cX12_depthOf 0 = .ok (.aload_n 0, 1) := by decide +kernel
theorem dX12_depthOf_1 : decode cX12_depthOf 1 = .ok (.iload_n 1, 1) := by decide +kernel
theorem dX12_depthOf_2 : decode cX12_depthOf 2 = .ok (.invokevirtual 495, 3) := by decide +kernel
theorem dX12_depthOf_5 : decode cX12_depthOf 5 = .ok (.ifCond .eq 7, 3) := by decide +kernel
theorem dX12_depthOf_8 : decode cX12_depthOf 8 = .ok (.iconst 2, 1) := by decide +kernel
theorem dX12_depthOf_9 : decode cX12_depthOf 9 = .ok (.goto 8, 3) := by decide +kernel
theorem dX12_depthOf_12 : decode cX12_depthOf 12 = .ok (.aload_n 0, 1) := by decide +kernel
theorem dX12_depthOf_13 : decode cX12_depthOf 13 = .ok (.iload_n 1, 1) := by decide +kernel
theorem dX12_depthOf_14 : decode cX12_depthOf 14 = .ok (.invokevirtual 486, 3) := by decide +kernel
theorem dX12_depthOf_17 : decode cX12_depthOf 17 = .ok (.ireturn, 1) := by decide +kernel
theorem dX12_size_0 : decode cX12_size 0 = .ok (.iload_n 0, 1) := by decide +kernel
theorem dX12_size_1 : decode cX12_size 1 = .ok (.ifCond .ge 8, 3) := by decide +kernel
theorem dX12_size_4 : decode cX12_size 4 = .ok (.iload_n 0, 1) := by decide +kernel
theorem dX12_size_5 : decode cX12_size 5 = .ok (.ineg, 1) := by decide +kernel
theorem dX12_size_6 : decode cX12_size 6 = .ok (.goto 4, 3) := by decide +kernel
theorem dX12_size_9 : decode cX12_size 9 = .ok (.iload_n 0, 1) := by decide +kernel
theorem dX12_size_10 : decode cX12_size 10 = .ok (.ireturn, 1) := by decide +kernel
theorem dX12_offOf_0 : decode cX12_offOf 0 = .ok (.iload_n 1, 1) := by decide +kernel
theorem dX12_offOf_1 : decode cX12_offOf 1 = .ok (.aload_n 0, 1) := by decide +kernel
theorem dX12_offOf_2 : decode cX12_offOf 2 = .ok (.invokevirtual 477, 3) := by decide +kernel
theorem dX12_offOf_5 : decode cX12_offOf 5 = .ok (.irem, 1) := by decide +kernel
theorem dX12_offOf_6 : decode cX12_offOf 6 = .ok (.iload_n 2, 1) := by decide +kernel
theorem dX12_offOf_7 : decode cX12_offOf 7 = .ok (.aload_n 0, 1) := by decide +kernel
theorem dX12_offOf_8 : decode cX12_offOf 8 = .ok (.invokevirtual 477, 3) := by decide +kernel
theorem dX12_offOf_11 : decode cX12_offOf 11 = .ok (.irem, 1) := by decide +kernel
theorem dX12_offOf_12 : decode cX12_offOf 12 = .ok (.isub, 1) := by decide +kernel
theorem dX12_offOf_13 : decode cX12_offOf 13 = .ok (.invokestatic 498, 3) := by decide +kernel
theorem dX12_offOf_16 : decode cX12_offOf 16 = .ok (.iload_n 1, 1) := by decide +kernel
theorem dX12_offOf_17 : decode cX12_offOf 17 = .ok (.aload_n 0, 1) := by decide +kernel
theorem dX12_offOf_18 : decode cX12_offOf 18 = .ok (.invokevirtual 477, 3) := by decide +kernel
theorem dX12_offOf_21 : decode cX12_offOf 21 = .ok (.idiv, 1) := by decide +kernel
theorem dX12_offOf_22 : decode cX12_offOf 22 = .ok (.iload_n 2, 1) := by decide +kernel
theorem dX12_offOf_23 : decode cX12_offOf 23 = .ok (.aload_n 0, 1) := by decide +kernel
theorem dX12_offOf_24 : decode cX12_offOf 24 = .ok (.invokevirtual 477, 3) := by decide +kernel
theorem dX12_offOf_27 : decode cX12_offOf 27 = .ok (.idiv, 1) := by decide +kernel
theorem dX12_offOf_28 : decode cX12_offOf 28 = .ok (.isub, 1) := by decide +kernel
theorem dX12_offOf_29 : decode cX12_offOf 29 = .ok (.invokestatic 498, 3) := by decide +kernel
theorem dX12_offOf_32 : decode cX12_offOf 32 = .ok (.iadd, 1) := by decide +kernel
theorem dX12_offOf_33 : decode cX12_offOf 33 = .ok (.ireturn, 1) := by decide +kernel
theorem dX12_homeOf_0 : decode cX12_homeOf 0 = .ok (.bipush 99, 2) := by decide +kernel
theorem dX12_homeOf_2 : decode cX12_homeOf 2 = .ok (.istore_n 2, 1) := by decide +kernel
theorem dX12_homeOf_3 : decode cX12_homeOf 3 = .ok (.iconst 0, 1) := by decide +kernel
theorem dX12_homeOf_4 : decode cX12_homeOf 4 = .ok (.istore_n 3, 1) := by decide +kernel
theorem dX12_homeOf_5 : decode cX12_homeOf 5 = .ok (.iload_n 3, 1) := by decide +kernel
theorem dX12_homeOf_6 : decode cX12_homeOf 6 = .ok (.aload_n 0, 1) := by decide +kernel
theorem dX12_homeOf_7 : decode cX12_homeOf 7 = .ok (.invokevirtual 480, 3) := by decide +kernel
theorem dX12_homeOf_10 : decode cX12_homeOf 10 = .ok (.if_icmp .ge 34, 3) := by decide +kernel
theorem dX12_homeOf_13 : decode cX12_homeOf 13 = .ok (.aload_n 0, 1) := by decide +kernel
theorem dX12_homeOf_14 : decode cX12_homeOf 14 = .ok (.iload_n 3, 1) := by decide +kernel
theorem dX12_homeOf_15 : decode cX12_homeOf 15 = .ok (.invokevirtual 486, 3) := by decide +kernel
theorem dX12_homeOf_18 : decode cX12_homeOf 18 = .ok (.ifCond .ne 20, 3) := by decide +kernel
theorem dX12_homeOf_21 : decode cX12_homeOf 21 = .ok (.aload_n 0, 1) := by decide +kernel
theorem dX12_homeOf_22 : decode cX12_homeOf 22 = .ok (.iload_n 3, 1) := by decide +kernel
theorem dX12_homeOf_23 : decode cX12_homeOf 23 = .ok (.iload_n 1, 1) := by decide +kernel
theorem dX12_homeOf_24 : decode cX12_homeOf 24 = .ok (.invokevirtual 501, 3) := by decide +kernel
theorem dX12_homeOf_27 : decode cX12_homeOf 27 = .ok (.iload_n 2, 1) := by decide +kernel
theorem dX12_homeOf_28 : decode cX12_homeOf 28 = .ok (.if_icmp .ge 10, 3) := by decide +kernel
theorem dX12_homeOf_31 : decode cX12_homeOf 31 = .ok (.aload_n 0, 1) := by decide +kernel
theorem dX12_homeOf_32 : decode cX12_homeOf 32 = .ok (.iload_n 3, 1) := by decide +kernel
theorem dX12_homeOf_33 : decode cX12_homeOf 33 = .ok (.iload_n 1, 1) := by decide +kernel
theorem dX12_homeOf_34 : decode cX12_homeOf 34 = .ok (.invokevirtual 501, 3) := by decide +kernel
theorem dX12_homeOf_37 : decode cX12_homeOf 37 = .ok (.istore_n 2, 1) := by decide +kernel
theorem dX12_homeOf_38 : decode cX12_homeOf 38 = .ok (.iinc 3 1, 3) := by decide +kernel
theorem dX12_homeOf_41 : decode cX12_homeOf 41 = .ok (.goto (-36), 3) := by decide +kernel
theorem dX12_homeOf_44 : decode cX12_homeOf 44 = .ok (.iload_n 2, 1) := by decide +kernel
theorem dX12_homeOf_45 : decode cX12_homeOf 45 = .ok (.ireturn, 1) := by decide +kernel
theorem dX12_skyIn_0 : decode cX12_skyIn 0 = .ok (.iconst (-1), 1) := by decide +kernel
theorem dX12_skyIn_1 : decode cX12_skyIn 1 = .ok (.istore_n 2, 1) := by decide +kernel
theorem dX12_skyIn_2 : decode cX12_skyIn 2 = .ok (.iconst 0, 1) := by decide +kernel
theorem dX12_skyIn_3 : decode cX12_skyIn 3 = .ok (.istore_n 3, 1) := by decide +kernel
theorem dX12_skyIn_4 : decode cX12_skyIn 4 = .ok (.iconst 0, 1) := by decide +kernel
theorem dX12_skyIn_5 : decode cX12_skyIn 5 = .ok (.istore 4, 2) := by decide +kernel
theorem dX12_skyIn_7 : decode cX12_skyIn 7 = .ok (.iload 4, 2) := by decide +kernel
theorem dX12_skyIn_9 : decode cX12_skyIn 9 = .ok (.aload_n 0, 1) := by decide +kernel
theorem dX12_skyIn_10 : decode cX12_skyIn 10 = .ok (.getfield 123, 3) := by decide +kernel
theorem dX12_skyIn_13 : decode cX12_skyIn 13 = .ok (.bipush 9, 2) := by decide +kernel
theorem dX12_skyIn_15 : decode cX12_skyIn 15 = .ok (.iaload, 1) := by decide +kernel
theorem dX12_skyIn_16 : decode cX12_skyIn 16 = .ok (.if_icmp .ge 70, 3) := by decide +kernel
theorem dX12_skyIn_19 : decode cX12_skyIn 19 = .ok (.aload_n 0, 1) := by decide +kernel
theorem dX12_skyIn_20 : decode cX12_skyIn 20 = .ok (.getfield 142, 3) := by decide +kernel
theorem dX12_skyIn_23 : decode cX12_skyIn 23 = .ok (.bipush 20, 2) := by decide +kernel
theorem dX12_skyIn_25 : decode cX12_skyIn 25 = .ok (.iconst 2, 1) := by decide +kernel
theorem dX12_skyIn_26 : decode cX12_skyIn 26 = .ok (.iload 4, 2) := by decide +kernel
theorem dX12_skyIn_28 : decode cX12_skyIn 28 = .ok (.imul, 1) := by decide +kernel
theorem dX12_skyIn_29 : decode cX12_skyIn 29 = .ok (.iadd, 1) := by decide +kernel
theorem dX12_skyIn_30 : decode cX12_skyIn 30 = .ok (.iaload, 1) := by decide +kernel
theorem dX12_skyIn_31 : decode cX12_skyIn 31 = .ok (.iload_n 1, 1) := by decide +kernel
theorem dX12_skyIn_32 : decode cX12_skyIn 32 = .ok (.if_icmp .gt 48, 3) := by decide +kernel
theorem dX12_skyIn_35 : decode cX12_skyIn 35 = .ok (.aload_n 0, 1) := by decide +kernel
theorem dX12_skyIn_36 : decode cX12_skyIn 36 = .ok (.getfield 142, 3) := by decide +kernel
theorem dX12_skyIn_39 : decode cX12_skyIn 39 = .ok (.bipush 20, 2) := by decide +kernel
theorem dX12_skyIn_41 : decode cX12_skyIn 41 = .ok (.iconst 2, 1) := by decide +kernel
theorem dX12_skyIn_42 : decode cX12_skyIn 42 = .ok (.iload 4, 2) := by decide +kernel
theorem dX12_skyIn_44 : decode cX12_skyIn 44 = .ok (.imul, 1) := by decide +kernel
theorem dX12_skyIn_45 : decode cX12_skyIn 45 = .ok (.iadd, 1) := by decide +kernel
theorem dX12_skyIn_46 : decode cX12_skyIn 46 = .ok (.iaload, 1) := by decide +kernel
theorem dX12_skyIn_47 : decode cX12_skyIn 47 = .ok (.iload_n 2, 1) := by decide +kernel
theorem dX12_skyIn_48 : decode cX12_skyIn 48 = .ok (.if_icmp .gt 6, 3) := by decide +kernel
theorem dX12_skyIn_51 : decode cX12_skyIn 51 = .ok (.goto 29, 3) := by decide +kernel
theorem dX12_skyIn_54 : decode cX12_skyIn 54 = .ok (.aload_n 0, 1) := by decide +kernel
theorem dX12_skyIn_55 : decode cX12_skyIn 55 = .ok (.getfield 142, 3) := by decide +kernel
theorem dX12_skyIn_58 : decode cX12_skyIn 58 = .ok (.bipush 20, 2) := by decide +kernel
theorem dX12_skyIn_60 : decode cX12_skyIn 60 = .ok (.iconst 2, 1) := by decide +kernel
theorem dX12_skyIn_61 : decode cX12_skyIn 61 = .ok (.iload 4, 2) := by decide +kernel
theorem dX12_skyIn_63 : decode cX12_skyIn 63 = .ok (.imul, 1) := by decide +kernel
theorem dX12_skyIn_64 : decode cX12_skyIn 64 = .ok (.iadd, 1) := by decide +kernel
theorem dX12_skyIn_65 : decode cX12_skyIn 65 = .ok (.iaload, 1) := by decide +kernel
theorem dX12_skyIn_66 : decode cX12_skyIn 66 = .ok (.istore_n 2, 1) := by decide +kernel
theorem dX12_skyIn_67 : decode cX12_skyIn 67 = .ok (.aload_n 0, 1) := by decide +kernel
theorem dX12_skyIn_68 : decode cX12_skyIn 68 = .ok (.getfield 142, 3) := by decide +kernel
theorem dX12_skyIn_71 : decode cX12_skyIn 71 = .ok (.bipush 21, 2) := by decide +kernel
theorem dX12_skyIn_73 : decode cX12_skyIn 73 = .ok (.iconst 2, 1) := by decide +kernel
theorem dX12_skyIn_74 : decode cX12_skyIn 74 = .ok (.iload 4, 2) := by decide +kernel
theorem dX12_skyIn_76 : decode cX12_skyIn 76 = .ok (.imul, 1) := by decide +kernel
theorem dX12_skyIn_77 : decode cX12_skyIn 77 = .ok (.iadd, 1) := by decide +kernel
theorem dX12_skyIn_78 : decode cX12_skyIn 78 = .ok (.iaload, 1) := by decide +kernel
theorem dX12_skyIn_79 : decode cX12_skyIn 79 = .ok (.istore_n 3, 1) := by decide +kernel
theorem dX12_skyIn_80 : decode cX12_skyIn 80 = .ok (.iinc 4 1, 3) := by decide +kernel
theorem dX12_skyIn_83 : decode cX12_skyIn 83 = .ok (.goto (-76), 3) := by decide +kernel
theorem dX12_skyIn_86 : decode cX12_skyIn 86 = .ok (.iload_n 3, 1) := by decide +kernel
theorem dX12_skyIn_87 : decode cX12_skyIn 87 = .ok (.ireturn, 1) := by decide +kernel
theorem dX12_cellOf_0 : decode cX12_cellOf 0 = .ok (.aload_n 0, 1) := by decide +kernel
theorem dX12_cellOf_1 : decode cX12_cellOf 1 = .ok (.getfield 166, 3) := by decide +kernel
theorem dX12_cellOf_4 : decode cX12_cellOf 4 = .ok (.iconst 2, 1) := by decide +kernel
theorem dX12_cellOf_5 : decode cX12_cellOf 5 = .ok (.iconst 4, 1) := by decide +kernel
theorem dX12_cellOf_6 : decode cX12_cellOf 6 = .ok (.iload_n 1, 1) := by decide +kernel
theorem dX12_cellOf_7 : decode cX12_cellOf 7 = .ok (.imul, 1) := by decide +kernel
theorem dX12_cellOf_8 : decode cX12_cellOf 8 = .ok (.iadd, 1) := by decide +kernel
theorem dX12_cellOf_9 : decode cX12_cellOf 9 = .ok (.iaload, 1) := by decide +kernel
theorem dX12_cellOf_10 : decode cX12_cellOf 10 = .ok (.ireturn, 1) := by decide +kernel
theorem dX12_trustOf_0 : decode cX12_trustOf 0 = .ok (.aload_n 0, 1) := by decide +kernel
theorem dX12_trustOf_1 : decode cX12_trustOf 1 = .ok (.getfield 166, 3) := by decide +kernel
theorem dX12_trustOf_4 : decode cX12_trustOf 4 = .ok (.iconst 2, 1) := by decide +kernel
theorem dX12_trustOf_5 : decode cX12_trustOf 5 = .ok (.iconst 4, 1) := by decide +kernel
theorem dX12_trustOf_6 : decode cX12_trustOf 6 = .ok (.iload_n 1, 1) := by decide +kernel
theorem dX12_trustOf_7 : decode cX12_trustOf 7 = .ok (.imul, 1) := by decide +kernel
theorem dX12_trustOf_8 : decode cX12_trustOf 8 = .ok (.iadd, 1) := by decide +kernel
theorem dX12_trustOf_9 : decode cX12_trustOf 9 = .ok (.iconst 1, 1) := by decide +kernel
theorem dX12_trustOf_10 : decode cX12_trustOf 10 = .ok (.iadd, 1) := by decide +kernel
theorem dX12_trustOf_11 : decode cX12_trustOf 11 = .ok (.iaload, 1) := by decide +kernel
theorem dX12_trustOf_12 : decode cX12_trustOf 12 = .ok (.ireturn, 1) := by decide +kernel
theorem dX12_balksOf_0 : decode cX12_balksOf 0 = .ok (.aload_n 0, 1) := by decide +kernel
theorem dX12_balksOf_1 : decode cX12_balksOf 1 = .ok (.getfield 166, 3) := by decide +kernel
theorem dX12_balksOf_4 : decode cX12_balksOf 4 = .ok (.iconst 2, 1) := by decide +kernel
theorem dX12_balksOf_5 : decode cX12_balksOf 5 = .ok (.iconst 4, 1) := by decide +kernel
theorem dX12_balksOf_6 : decode cX12_balksOf 6 = .ok (.iload_n 1, 1) := by decide +kernel
theorem dX12_balksOf_7 : decode cX12_balksOf 7 = .ok (.imul, 1) := by decide +kernel
theorem dX12_balksOf_8 : decode cX12_balksOf 8 = .ok (.iadd, 1) := by decide +kernel
theorem dX12_balksOf_9 : decode cX12_balksOf 9 = .ok (.iconst 2, 1) := by decide +kernel
theorem dX12_balksOf_10 : decode cX12_balksOf 10 = .ok (.iadd, 1) := by decide +kernel
theorem dX12_balksOf_11 : decode cX12_balksOf 11 = .ok (.iaload, 1) := by decide +kernel
theorem dX12_balksOf_12 : decode cX12_balksOf 12 = .ok (.ireturn, 1) := by decide +kernel
theorem dX12_handOf_0 : decode cX12_handOf 0 = .ok (.aload_n 0, 1) := by decide +kernel
theorem dX12_handOf_1 : decode cX12_handOf 1 = .ok (.getfield 166, 3) := by decide +kernel
theorem dX12_handOf_4 : decode cX12_handOf 4 = .ok (.iconst 2, 1) := by decide +kernel
theorem dX12_handOf_5 : decode cX12_handOf 5 = .ok (.iconst 4, 1) := by decide +kernel
theorem dX12_handOf_6 : decode cX12_handOf 6 = .ok (.iload_n 1, 1) := by decide +kernel
theorem dX12_handOf_7 : decode cX12_handOf 7 = .ok (.imul, 1) := by decide +kernel
theorem dX12_handOf_8 : decode cX12_handOf 8 = .ok (.iadd, 1) := by decide +kernel
theorem dX12_handOf_9 : decode cX12_handOf 9 = .ok (.iconst 3, 1) := by decide +kernel
theorem dX12_handOf_10 : decode cX12_handOf 10 = .ok (.iadd, 1) := by decide +kernel
theorem dX12_handOf_11 : decode cX12_handOf 11 = .ok (.iaload, 1) := by decide +kernel
theorem dX12_handOf_12 : decode cX12_handOf 12 = .ok (.ireturn, 1) := by decide +kernel
theorem dX12_boatsIn_0 : decode cX12_boatsIn 0 = .ok (.iconst 0, 1) := by decide +kernel
theorem dX12_boatsIn_1 : decode cX12_boatsIn 1 = .ok (.istore_n 2, 1) := by decide +kernel
theorem dX12_boatsIn_2 : decode cX12_boatsIn 2 = .ok (.iconst 0, 1) := by decide +kernel
theorem dX12_boatsIn_3 : decode cX12_boatsIn 3 = .ok (.istore_n 3, 1) := by decide +kernel
theorem dX12_boatsIn_4 : decode cX12_boatsIn 4 = .ok (.iload_n 3, 1) := by decide +kernel
theorem dX12_boatsIn_5 : decode cX12_boatsIn 5 = .ok (.aload_n 0, 1) := by decide +kernel
theorem dX12_boatsIn_6 : decode cX12_boatsIn 6 = .ok (.invokevirtual 483, 3) := by decide +kernel
theorem dX12_boatsIn_9 : decode cX12_boatsIn 9 = .ok (.if_icmp .ge 24, 3) := by decide +kernel
theorem dX12_boatsIn_12 : decode cX12_boatsIn 12 = .ok (.aload_n 0, 1) := by decide +kernel
theorem dX12_boatsIn_13 : decode cX12_boatsIn 13 = .ok (.iload_n 3, 1) := by decide +kernel
theorem dX12_boatsIn_14 : decode cX12_boatsIn 14 = .ok (.invokevirtual 504, 3) := by decide +kernel
theorem dX12_boatsIn_17 : decode cX12_boatsIn 17 = .ok (.iload_n 1, 1) := by decide +kernel
theorem dX12_boatsIn_18 : decode cX12_boatsIn 18 = .ok (.if_icmp .ne 9, 3) := by decide +kernel
theorem dX12_boatsIn_21 : decode cX12_boatsIn 21 = .ok (.iload_n 2, 1) := by decide +kernel
theorem dX12_boatsIn_22 : decode cX12_boatsIn 22 = .ok (.iconst 1, 1) := by decide +kernel
theorem dX12_boatsIn_23 : decode cX12_boatsIn 23 = .ok (.iload_n 3, 1) := by decide +kernel
theorem dX12_boatsIn_24 : decode cX12_boatsIn 24 = .ok (.ishl, 1) := by decide +kernel
theorem dX12_boatsIn_25 : decode cX12_boatsIn 25 = .ok (.ior, 1) := by decide +kernel
theorem dX12_boatsIn_26 : decode cX12_boatsIn 26 = .ok (.istore_n 2, 1) := by decide +kernel
theorem dX12_boatsIn_27 : decode cX12_boatsIn 27 = .ok (.iinc 3 1, 3) := by decide +kernel
theorem dX12_boatsIn_30 : decode cX12_boatsIn 30 = .ok (.goto (-26), 3) := by decide +kernel
theorem dX12_boatsIn_33 : decode cX12_boatsIn 33 = .ok (.iload_n 2, 1) := by decide +kernel
theorem dX12_boatsIn_34 : decode cX12_boatsIn 34 = .ok (.ireturn, 1) := by decide +kernel
theorem dX12_bits_0 : decode cX12_bits 0 = .ok (.iconst 0, 1) := by decide +kernel
theorem dX12_bits_1 : decode cX12_bits 1 = .ok (.istore_n 1, 1) := by decide +kernel
theorem dX12_bits_2 : decode cX12_bits 2 = .ok (.iload_n 0, 1) := by decide +kernel
theorem dX12_bits_3 : decode cX12_bits 3 = .ok (.istore_n 2, 1) := by decide +kernel
theorem dX12_bits_4 : decode cX12_bits 4 = .ok (.iload_n 2, 1) := by decide +kernel
theorem dX12_bits_5 : decode cX12_bits 5 = .ok (.ifCond .eq 15, 3) := by decide +kernel
theorem dX12_bits_8 : decode cX12_bits 8 = .ok (.iinc 1 1, 3) := by decide +kernel
theorem dX12_bits_11 : decode cX12_bits 11 = .ok (.iload_n 2, 1) := by decide +kernel
theorem dX12_bits_12 : decode cX12_bits 12 = .ok (.iload_n 2, 1) := by decide +kernel
theorem dX12_bits_13 : decode cX12_bits 13 = .ok (.iconst 1, 1) := by decide +kernel
theorem dX12_bits_14 : decode cX12_bits 14 = .ok (.isub, 1) := by decide +kernel
theorem dX12_bits_15 : decode cX12_bits 15 = .ok (.iand, 1) := by decide +kernel
theorem dX12_bits_16 : decode cX12_bits 16 = .ok (.istore_n 2, 1) := by decide +kernel
theorem dX12_bits_17 : decode cX12_bits 17 = .ok (.goto (-13), 3) := by decide +kernel
theorem dX12_bits_20 : decode cX12_bits 20 = .ok (.iload_n 1, 1) := by decide +kernel
theorem dX12_bits_21 : decode cX12_bits 21 = .ok (.ireturn, 1) := by decide +kernel
theorem dX12_asksOf_0 : decode cX12_asksOf 0 = .ok (.aload_n 0, 1) := by decide +kernel
theorem dX12_asksOf_1 : decode cX12_asksOf 1 = .ok (.getfield 163, 3) := by decide +kernel
theorem dX12_asksOf_4 : decode cX12_asksOf 4 = .ok (.iconst 0, 1) := by decide +kernel
theorem dX12_asksOf_5 : decode cX12_asksOf 5 = .ok (.aload_n 0, 1) := by decide +kernel
theorem dX12_asksOf_6 : decode cX12_asksOf 6 = .ok (.iload_n 2, 1) := by decide +kernel
theorem dX12_asksOf_7 : decode cX12_asksOf 7 = .ok (.invokevirtual 507, 3) := by decide +kernel
theorem dX12_asksOf_10 : decode cX12_asksOf 10 = .ok (.iastore, 1) := by decide +kernel
theorem dX12_asksOf_11 : decode cX12_asksOf 11 = .ok (.aload_n 0, 1) := by decide +kernel
theorem dX12_asksOf_12 : decode cX12_asksOf 12 = .ok (.getfield 163, 3) := by decide +kernel
theorem dX12_asksOf_15 : decode cX12_asksOf 15 = .ok (.iconst 1, 1) := by decide +kernel
theorem dX12_asksOf_16 : decode cX12_asksOf 16 = .ok (.aload_n 0, 1) := by decide +kernel
theorem dX12_asksOf_17 : decode cX12_asksOf 17 = .ok (.iload_n 2, 1) := by decide +kernel
theorem dX12_asksOf_18 : decode cX12_asksOf 18 = .ok (.invokevirtual 495, 3) := by decide +kernel
theorem dX12_asksOf_21 : decode cX12_asksOf 21 = .ok (.ifCond .eq 7, 3) := by decide +kernel
theorem dX12_asksOf_24 : decode cX12_asksOf 24 = .ok (.iconst 1, 1) := by decide +kernel
theorem dX12_asksOf_25 : decode cX12_asksOf 25 = .ok (.goto 4, 3) := by decide +kernel
theorem dX12_asksOf_28 : decode cX12_asksOf 28 = .ok (.iconst 0, 1) := by decide +kernel
theorem dX12_asksOf_29 : decode cX12_asksOf 29 = .ok (.iastore, 1) := by decide +kernel
theorem dX12_asksOf_30 : decode cX12_asksOf 30 = .ok (.aload_n 0, 1) := by decide +kernel
theorem dX12_asksOf_31 : decode cX12_asksOf 31 = .ok (.getfield 163, 3) := by decide +kernel
theorem dX12_asksOf_34 : decode cX12_asksOf 34 = .ok (.iconst 2, 1) := by decide +kernel
theorem dX12_asksOf_35 : decode cX12_asksOf 35 = .ok (.aload_n 0, 1) := by decide +kernel
theorem dX12_asksOf_36 : decode cX12_asksOf 36 = .ok (.iload_n 2, 1) := by decide +kernel
theorem dX12_asksOf_37 : decode cX12_asksOf 37 = .ok (.invokevirtual 510, 3) := by decide +kernel
theorem dX12_asksOf_40 : decode cX12_asksOf 40 = .ok (.iastore, 1) := by decide +kernel
theorem dX12_asksOf_41 : decode cX12_asksOf 41 = .ok (.aload_n 0, 1) := by decide +kernel
theorem dX12_asksOf_42 : decode cX12_asksOf 42 = .ok (.getfield 163, 3) := by decide +kernel
theorem dX12_asksOf_45 : decode cX12_asksOf 45 = .ok (.iconst 3, 1) := by decide +kernel
theorem dX12_asksOf_46 : decode cX12_asksOf 46 = .ok (.aload_n 0, 1) := by decide +kernel
theorem dX12_asksOf_47 : decode cX12_asksOf 47 = .ok (.aload_n 0, 1) := by decide +kernel
theorem dX12_asksOf_48 : decode cX12_asksOf 48 = .ok (.getfield 166, 3) := by decide +kernel
theorem dX12_asksOf_51 : decode cX12_asksOf 51 = .ok (.iconst 0, 1) := by decide +kernel
theorem dX12_asksOf_52 : decode cX12_asksOf 52 = .ok (.iaload, 1) := by decide +kernel
theorem dX12_asksOf_53 : decode cX12_asksOf 53 = .ok (.invokevirtual 513, 3) := by decide +kernel
theorem dX12_asksOf_56 : decode cX12_asksOf 56 = .ok (.iastore, 1) := by decide +kernel
theorem dX12_asksOf_57 : decode cX12_asksOf 57 = .ok (.aload_n 0, 1) := by decide +kernel
theorem dX12_asksOf_58 : decode cX12_asksOf 58 = .ok (.getfield 163, 3) := by decide +kernel
theorem dX12_asksOf_61 : decode cX12_asksOf 61 = .ok (.iconst 4, 1) := by decide +kernel
theorem dX12_asksOf_62 : decode cX12_asksOf 62 = .ok (.aload_n 0, 1) := by decide +kernel
theorem dX12_asksOf_63 : decode cX12_asksOf 63 = .ok (.iload_n 1, 1) := by decide +kernel
theorem dX12_asksOf_64 : decode cX12_asksOf 64 = .ok (.invokevirtual 516, 3) := by decide +kernel
theorem dX12_asksOf_67 : decode cX12_asksOf 67 = .ok (.iastore, 1) := by decide +kernel
theorem dX12_asksOf_68 : decode cX12_asksOf 68 = .ok (.aload_n 0, 1) := by decide +kernel
theorem dX12_asksOf_69 : decode cX12_asksOf 69 = .ok (.getfield 163, 3) := by decide +kernel
theorem dX12_asksOf_72 : decode cX12_asksOf 72 = .ok (.iconst 5, 1) := by decide +kernel
theorem dX12_asksOf_73 : decode cX12_asksOf 73 = .ok (.aload_n 0, 1) := by decide +kernel
theorem dX12_asksOf_74 : decode cX12_asksOf 74 = .ok (.iload_n 1, 1) := by decide +kernel
theorem dX12_asksOf_75 : decode cX12_asksOf 75 = .ok (.invokevirtual 519, 3) := by decide +kernel
theorem dX12_asksOf_78 : decode cX12_asksOf 78 = .ok (.iconst (-1), 1) := by decide +kernel
theorem dX12_asksOf_79 : decode cX12_asksOf 79 = .ok (.if_icmp .ne 7, 3) := by decide +kernel
theorem dX12_asksOf_82 : decode cX12_asksOf 82 = .ok (.iconst 0, 1) := by decide +kernel
theorem dX12_asksOf_83 : decode cX12_asksOf 83 = .ok (.goto 16, 3) := by decide +kernel
theorem dX12_asksOf_86 : decode cX12_asksOf 86 = .ok (.aload_n 0, 1) := by decide +kernel
theorem dX12_asksOf_87 : decode cX12_asksOf 87 = .ok (.getfield 136, 3) := by decide +kernel
theorem dX12_asksOf_90 : decode cX12_asksOf 90 = .ok (.bipush 6, 2) := by decide +kernel
theorem dX12_asksOf_92 : decode cX12_asksOf 92 = .ok (.aload_n 0, 1) := by decide +kernel
theorem dX12_asksOf_93 : decode cX12_asksOf 93 = .ok (.iload_n 1, 1) := by decide +kernel
theorem dX12_asksOf_94 : decode cX12_asksOf 94 = .ok (.invokevirtual 519, 3) := by decide +kernel
theorem dX12_asksOf_97 : decode cX12_asksOf 97 = .ok (.iadd, 1) := by decide +kernel
theorem dX12_asksOf_98 : decode cX12_asksOf 98 = .ok (.iaload, 1) := by decide +kernel
theorem dX12_asksOf_99 : decode cX12_asksOf 99 = .ok (.iastore, 1) := by decide +kernel
theorem dX12_asksOf_100 : decode cX12_asksOf 100 = .ok (.aload_n 0, 1) := by decide +kernel
theorem dX12_asksOf_101 : decode cX12_asksOf 101 = .ok (.getfield 163, 3) := by decide +kernel
theorem dX12_asksOf_104 : decode cX12_asksOf 104 = .ok (.bipush 6, 2) := by decide +kernel
theorem dX12_asksOf_106 : decode cX12_asksOf 106 = .ok (.iload_n 3, 1) := by decide +kernel
theorem dX12_asksOf_107 : decode cX12_asksOf 107 = .ok (.iconst (-1), 1) := by decide +kernel
theorem dX12_asksOf_108 : decode cX12_asksOf 108 = .ok (.if_icmp .ne 7, 3) := by decide +kernel
theorem dX12_asksOf_111 : decode cX12_asksOf 111 = .ok (.iconst 0, 1) := by decide +kernel
theorem dX12_asksOf_112 : decode cX12_asksOf 112 = .ok (.goto 4, 3) := by decide +kernel
theorem dX12_asksOf_115 : decode cX12_asksOf 115 = .ok (.iconst 1, 1) := by decide +kernel
theorem dX12_asksOf_116 : decode cX12_asksOf 116 = .ok (.iastore, 1) := by decide +kernel
theorem dX12_asksOf_117 : decode cX12_asksOf 117 = .ok (.aload_n 0, 1) := by decide +kernel
theorem dX12_asksOf_118 : decode cX12_asksOf 118 = .ok (.getfield 163, 3) := by decide +kernel
theorem dX12_asksOf_121 : decode cX12_asksOf 121 = .ok (.bipush 7, 2) := by decide +kernel
theorem dX12_asksOf_123 : decode cX12_asksOf 123 = .ok (.iload_n 3, 1) := by decide +kernel
theorem dX12_asksOf_124 : decode cX12_asksOf 124 = .ok (.iconst (-1), 1) := by decide +kernel
theorem dX12_asksOf_125 : decode cX12_asksOf 125 = .ok (.if_icmp .ne 7, 3) := by decide +kernel
theorem dX12_asksOf_128 : decode cX12_asksOf 128 = .ok (.iconst 0, 1) := by decide +kernel
theorem dX12_asksOf_129 : decode cX12_asksOf 129 = .ok (.goto 4, 3) := by decide +kernel
theorem dX12_asksOf_132 : decode cX12_asksOf 132 = .ok (.iload_n 3, 1) := by decide +kernel
theorem dX12_asksOf_133 : decode cX12_asksOf 133 = .ok (.iastore, 1) := by decide +kernel
theorem dX12_asksOf_134 : decode cX12_asksOf 134 = .ok (.aload_n 0, 1) := by decide +kernel
theorem dX12_asksOf_135 : decode cX12_asksOf 135 = .ok (.getfield 163, 3) := by decide +kernel
theorem dX12_asksOf_138 : decode cX12_asksOf 138 = .ok (.bipush 8, 2) := by decide +kernel
theorem dX12_asksOf_140 : decode cX12_asksOf 140 = .ok (.aload_n 0, 1) := by decide +kernel
theorem dX12_asksOf_141 : decode cX12_asksOf 141 = .ok (.iload_n 1, 1) := by decide +kernel
theorem dX12_asksOf_142 : decode cX12_asksOf 142 = .ok (.invokevirtual 522, 3) := by decide +kernel
theorem dX12_asksOf_145 : decode cX12_asksOf 145 = .ok (.iastore, 1) := by decide +kernel
theorem dX12_asksOf_146 : decode cX12_asksOf 146 = .ok (.return_, 1) := by decide +kernel
theorem dX12_told_0 : decode cX12_told 0 = .ok (.aload_n 0, 1) := by decide +kernel
theorem dX12_told_1 : decode cX12_told 1 = .ok (.iconst 0, 1) := by decide +kernel
theorem dX12_told_2 : decode cX12_told 2 = .ok (.putfield 462, 3) := by decide +kernel
theorem dX12_told_5 : decode cX12_told 5 = .ok (.aload_n 0, 1) := by decide +kernel
theorem dX12_told_6 : decode cX12_told 6 = .ok (.getfield 148, 3) := by decide +kernel
theorem dX12_told_9 : decode cX12_told 9 = .ok (.iconst 3, 1) := by decide +kernel
theorem dX12_told_10 : decode cX12_told 10 = .ok (.iload_n 1, 1) := by decide +kernel
theorem dX12_told_11 : decode cX12_told 11 = .ok (.iadd, 1) := by decide +kernel
theorem dX12_told_12 : decode cX12_told 12 = .ok (.iaload, 1) := by decide +kernel
theorem dX12_told_13 : decode cX12_told 13 = .ok (.istore_n 2, 1) := by decide +kernel
theorem dX12_told_14 : decode cX12_told 14 = .ok (.iload_n 2, 1) := by decide +kernel
theorem dX12_told_15 : decode cX12_told 15 = .ok (.aload_n 0, 1) := by decide +kernel
theorem dX12_told_16 : decode cX12_told 16 = .ok (.getfield 151, 3) := by decide +kernel
theorem dX12_told_19 : decode cX12_told 19 = .ok (.iconst 3, 1) := by decide +kernel
theorem dX12_told_20 : decode cX12_told 20 = .ok (.iload_n 1, 1) := by decide +kernel
theorem dX12_told_21 : decode cX12_told 21 = .ok (.iadd, 1) := by decide +kernel
theorem dX12_told_22 : decode cX12_told 22 = .ok (.iaload, 1) := by decide +kernel
theorem dX12_told_23 : decode cX12_told 23 = .ok (.if_icmp .ge 76, 3) := by decide +kernel
theorem dX12_told_26 : decode cX12_told 26 = .ok (.aload_n 0, 1) := by decide +kernel
theorem dX12_told_27 : decode cX12_told 27 = .ok (.getfield 154, 3) := by decide +kernel
theorem dX12_told_30 : decode cX12_told 30 = .ok (.sipush 1600, 3) := by decide +kernel
theorem dX12_told_33 : decode cX12_told 33 = .ok (.iload_n 2, 1) := by decide +kernel
theorem dX12_told_34 : decode cX12_told 34 = .ok (.iadd, 1) := by decide +kernel
theorem dX12_told_35 : decode cX12_told 35 = .ok (.iaload, 1) := by decide +kernel
theorem dX12_told_36 : decode cX12_told 36 = .ok (.istore_n 3, 1) := by decide +kernel
theorem dX12_told_37 : decode cX12_told 37 = .ok (.iload_n 3, 1) := by decide +kernel
theorem dX12_told_38 : decode cX12_told 38 = .ok (.sipush 1000, 3) := by decide +kernel
theorem dX12_told_41 : decode cX12_told 41 = .ok (.if_icmp .lt 16, 3) := by decide +kernel
theorem dX12_told_44 : decode cX12_told 44 = .ok (.aload_n 0, 1) := by decide +kernel
theorem dX12_told_45 : decode cX12_told 45 = .ok (.iload_n 3, 1) := by decide +kernel
theorem dX12_told_46 : decode cX12_told 46 = .ok (.sipush 1000, 3) := by decide +kernel
theorem dX12_told_49 : decode cX12_told 49 = .ok (.isub, 1) := by decide +kernel
theorem dX12_told_50 : decode cX12_told 50 = .ok (.i2l, 1) := by decide +kernel
theorem dX12_told_51 : decode cX12_told 51 = .ok (.invokevirtual 469, 3) := by decide +kernel
theorem dX12_told_54 : decode cX12_told 54 = .ok (.goto 39, 3) := by decide +kernel
theorem dX12_told_57 : decode cX12_told 57 = .ok (.iload_n 3, 1) := by decide +kernel
theorem dX12_told_58 : decode cX12_told 58 = .ok (.i2l, 1) := by decide +kernel
theorem dX12_told_59 : decode cX12_told 59 = .ok (.ldc2_w 525, 3) := by decide +kernel
theorem dX12_told_62 : decode cX12_told 62 = .ok (.ldc2_w 527, 3) := by decide +kernel
theorem dX12_told_65 : decode cX12_told 65 = .ok (.invokestatic 321, 3) := by decide +kernel
theorem dX12_told_68 : decode cX12_told 68 = .ok (.ifCond .eq 20, 3) := by decide +kernel
theorem dX12_told_71 : decode cX12_told 71 = .ok (.aload_n 0, 1) := by decide +kernel
theorem dX12_told_72 : decode cX12_told 72 = .ok (.aload_n 0, 1) := by decide +kernel
theorem dX12_told_73 : decode cX12_told 73 = .ok (.getfield 163, 3) := by decide +kernel
theorem dX12_told_76 : decode cX12_told 76 = .ok (.iload_n 3, 1) := by decide +kernel
theorem dX12_told_77 : decode cX12_told 77 = .ok (.bipush 7, 2) := by decide +kernel
theorem dX12_told_79 : decode cX12_told 79 = .ok (.isub, 1) := by decide +kernel
theorem dX12_told_80 : decode cX12_told 80 = .ok (.iaload, 1) := by decide +kernel
theorem dX12_told_81 : decode cX12_told 81 = .ok (.i2l, 1) := by decide +kernel
theorem dX12_told_82 : decode cX12_told 82 = .ok (.invokevirtual 469, 3) := by decide +kernel
theorem dX12_told_85 : decode cX12_told 85 = .ok (.goto 8, 3) := by decide +kernel
theorem dX12_told_88 : decode cX12_told 88 = .ok (.aload_n 0, 1) := by decide +kernel
theorem dX12_told_89 : decode cX12_told 89 = .ok (.iload_n 3, 1) := by decide +kernel
theorem dX12_told_90 : decode cX12_told 90 = .ok (.invokevirtual 529, 3) := by decide +kernel
theorem dX12_told_93 : decode cX12_told 93 = .ok (.iinc 2 1, 3) := by decide +kernel
theorem dX12_told_96 : decode cX12_told 96 = .ok (.goto (-82), 3) := by decide +kernel
theorem dX12_told_99 : decode cX12_told 99 = .ok (.aload_n 0, 1) := by decide +kernel
theorem dX12_told_100 : decode cX12_told 100 = .ok (.getfield 160, 3) := by decide +kernel
theorem dX12_told_103 : decode cX12_told 103 = .ok (.iconst 0, 1) := by decide +kernel
theorem dX12_told_104 : decode cX12_told 104 = .ok (.laload, 1) := by decide +kernel
theorem dX12_told_105 : decode cX12_told 105 = .ok (.lconst 0, 1) := by decide +kernel
theorem dX12_told_106 : decode cX12_told 106 = .ok (.lcmp, 1) := by decide +kernel
theorem dX12_told_107 : decode cX12_told 107 = .ok (.ifCond .ge 7, 3) := by decide +kernel
theorem dX12_told_110 : decode cX12_told 110 = .ok (.iconst 0, 1) := by decide +kernel
theorem dX12_told_111 : decode cX12_told 111 = .ok (.goto 28, 3) := by decide +kernel
theorem dX12_told_114 : decode cX12_told 114 = .ok (.aload_n 0, 1) := by decide +kernel
theorem dX12_told_115 : decode cX12_told 115 = .ok (.getfield 160, 3) := by decide +kernel
theorem dX12_told_118 : decode cX12_told 118 = .ok (.iconst 0, 1) := by decide +kernel
theorem dX12_told_119 : decode cX12_told 119 = .ok (.laload, 1) := by decide +kernel
theorem dX12_told_120 : decode cX12_told 120 = .ok (.ldc2_w 532, 3) := by decide +kernel
theorem dX12_told_123 : decode cX12_told 123 = .ok (.lcmp, 1) := by decide +kernel
theorem dX12_told_124 : decode cX12_told 124 = .ok (.ifCond .le 8, 3) := by decide +kernel
theorem dX12_told_127 : decode cX12_told 127 = .ok (.bipush 99, 2) := by decide +kernel
theorem dX12_told_129 : decode cX12_told 129 = .ok (.goto 10, 3) := by decide +kernel
theorem dX12_told_132 : decode cX12_told 132 = .ok (.aload_n 0, 1) := by decide +kernel
theorem dX12_told_133 : decode cX12_told 133 = .ok (.getfield 160, 3) := by decide +kernel
theorem dX12_told_136 : decode cX12_told 136 = .ok (.iconst 0, 1) := by decide +kernel
theorem dX12_told_137 : decode cX12_told 137 = .ok (.laload, 1) := by decide +kernel
theorem dX12_told_138 : decode cX12_told 138 = .ok (.l2i, 1) := by decide +kernel
theorem dX12_told_139 : decode cX12_told 139 = .ok (.ireturn, 1) := by decide +kernel
theorem dX12_dreadOf_0 : decode cX12_dreadOf 0 = .ok (.aload_n 0, 1) := by decide +kernel
theorem dX12_dreadOf_1 : decode cX12_dreadOf 1 = .ok (.getfield 148, 3) := by decide +kernel
theorem dX12_dreadOf_4 : decode cX12_dreadOf 4 = .ok (.iconst 3, 1) := by decide +kernel
theorem dX12_dreadOf_5 : decode cX12_dreadOf 5 = .ok (.iaload, 1) := by decide +kernel
theorem dX12_dreadOf_6 : decode cX12_dreadOf 6 = .ok (.iconst (-1), 1) := by decide +kernel
theorem dX12_dreadOf_7 : decode cX12_dreadOf 7 = .ok (.if_icmp .ne 12, 3) := by decide +kernel
theorem dX12_dreadOf_10 : decode cX12_dreadOf 10 = .ok (.bipush 10, 2) := by decide +kernel
theorem dX12_dreadOf_12 : decode cX12_dreadOf 12 = .ok (.aload_n 0, 1) := by decide +kernel
theorem dX12_dreadOf_13 : decode cX12_dreadOf 13 = .ok (.iload_n 2, 1) := by decide +kernel
theorem dX12_dreadOf_14 : decode cX12_dreadOf 14 = .ok (.invokevirtual 507, 3) := by decide +kernel
theorem dX12_dreadOf_17 : decode cX12_dreadOf 17 = .ok (.imul, 1) := by decide +kernel
theorem dX12_dreadOf_18 : decode cX12_dreadOf 18 = .ok (.ireturn, 1) := by decide +kernel
theorem dX12_dreadOf_19 : decode cX12_dreadOf 19 = .ok (.aload_n 0, 1) := by decide +kernel
theorem dX12_dreadOf_20 : decode cX12_dreadOf 20 = .ok (.iload_n 1, 1) := by decide +kernel
theorem dX12_dreadOf_21 : decode cX12_dreadOf 21 = .ok (.iload_n 2, 1) := by decide +kernel
theorem dX12_dreadOf_22 : decode cX12_dreadOf 22 = .ok (.iload_n 3, 1) := by decide +kernel
theorem dX12_dreadOf_23 : decode cX12_dreadOf 23 = .ok (.invokevirtual 534, 3) := by decide +kernel
theorem dX12_dreadOf_26 : decode cX12_dreadOf 26 = .ok (.aload_n 0, 1) := by decide +kernel
theorem dX12_dreadOf_27 : decode cX12_dreadOf 27 = .ok (.iconst 0, 1) := by decide +kernel
theorem dX12_dreadOf_28 : decode cX12_dreadOf 28 = .ok (.invokevirtual 538, 3) := by decide +kernel
theorem dX12_dreadOf_31 : decode cX12_dreadOf 31 = .ok (.ireturn, 1) := by decide +kernel
theorem dX12_wouldGo_0 : decode cX12_wouldGo 0 = .ok (.aload_n 0, 1) := by decide +kernel
theorem dX12_wouldGo_1 : decode cX12_wouldGo 1 = .ok (.iload_n 1, 1) := by decide +kernel
theorem dX12_wouldGo_2 : decode cX12_wouldGo 2 = .ok (.iload_n 2, 1) := by decide +kernel
theorem dX12_wouldGo_3 : decode cX12_wouldGo 3 = .ok (.iload_n 3, 1) := by decide +kernel
theorem dX12_wouldGo_4 : decode cX12_wouldGo 4 = .ok (.invokevirtual 541, 3) := by decide +kernel
theorem dX12_wouldGo_7 : decode cX12_wouldGo 7 = .ok (.aload_n 0, 1) := by decide +kernel
theorem dX12_wouldGo_8 : decode cX12_wouldGo 8 = .ok (.iload_n 1, 1) := by decide +kernel
theorem dX12_wouldGo_9 : decode cX12_wouldGo 9 = .ok (.invokevirtual 522, 3) := by decide +kernel
theorem dX12_wouldGo_12 : decode cX12_wouldGo 12 = .ok (.if_icmp .gt 7, 3) := by decide +kernel
theorem dX12_wouldGo_15 : decode cX12_wouldGo 15 = .ok (.iconst 1, 1) := by decide +kernel
theorem dX12_wouldGo_16 : decode cX12_wouldGo 16 = .ok (.goto 4, 3) := by decide +kernel
theorem dX12_wouldGo_19 : decode cX12_wouldGo 19 = .ok (.iconst 0, 1) := by decide +kernel
theorem dX12_wouldGo_20 : decode cX12_wouldGo 20 = .ok (.ireturn, 1) := by decide +kernel
theorem dX12_learnt_0 : decode cX12_learnt 0 = .ok (.iload 4, 2) := by decide +kernel
theorem dX12_learnt_2 : decode cX12_learnt 2 = .ok (.ifCond .eq 7, 3) := by decide +kernel
theorem dX12_learnt_5 : decode cX12_learnt 5 = .ok (.iconst 1, 1) := by decide +kernel
theorem dX12_learnt_6 : decode cX12_learnt 6 = .ok (.goto 4, 3) := by decide +kernel
theorem dX12_learnt_9 : decode cX12_learnt 9 = .ok (.iconst 2, 1) := by decide +kernel
theorem dX12_learnt_10 : decode cX12_learnt 10 = .ok (.istore 5, 2) := by decide +kernel
theorem dX12_learnt_12 : decode cX12_learnt 12 = .ok (.aload_n 0, 1) := by decide +kernel
theorem dX12_learnt_13 : decode cX12_learnt 13 = .ok (.getfield 148, 3) := by decide +kernel
theorem dX12_learnt_16 : decode cX12_learnt 16 = .ok (.iconst 3, 1) := by decide +kernel
theorem dX12_learnt_17 : decode cX12_learnt 17 = .ok (.iload 5, 2) := by decide +kernel
theorem dX12_learnt_19 : decode cX12_learnt 19 = .ok (.iadd, 1) := by decide +kernel
theorem dX12_learnt_20 : decode cX12_learnt 20 = .ok (.iaload, 1) := by decide +kernel
theorem dX12_learnt_21 : decode cX12_learnt 21 = .ok (.iconst (-1), 1) := by decide +kernel
theorem dX12_learnt_22 : decode cX12_learnt 22 = .ok (.if_icmp .ne 9, 3) := by decide +kernel
theorem dX12_learnt_25 : decode cX12_learnt 25 = .ok (.aload_n 0, 1) := by decide +kernel
theorem dX12_learnt_26 : decode cX12_learnt 26 = .ok (.iload_n 1, 1) := by decide +kernel
theorem dX12_learnt_27 : decode cX12_learnt 27 = .ok (.invokevirtual 522, 3) := by decide +kernel
theorem dX12_learnt_30 : decode cX12_learnt 30 = .ok (.ireturn, 1) := by decide +kernel
theorem dX12_learnt_31 : decode cX12_learnt 31 = .ok (.aload_n 0, 1) := by decide +kernel
theorem dX12_learnt_32 : decode cX12_learnt 32 = .ok (.iload_n 1, 1) := by decide +kernel
theorem dX12_learnt_33 : decode cX12_learnt 33 = .ok (.iload_n 2, 1) := by decide +kernel
theorem dX12_learnt_34 : decode cX12_learnt 34 = .ok (.iload_n 3, 1) := by decide +kernel
theorem dX12_learnt_35 : decode cX12_learnt 35 = .ok (.invokevirtual 541, 3) := by decide +kernel
theorem dX12_learnt_38 : decode cX12_learnt 38 = .ok (.istore 6, 2) := by decide +kernel
theorem dX12_learnt_40 : decode cX12_learnt 40 = .ok (.aload_n 0, 1) := by decide +kernel
theorem dX12_learnt_41 : decode cX12_learnt 41 = .ok (.iload_n 1, 1) := by decide +kernel
theorem dX12_learnt_42 : decode cX12_learnt 42 = .ok (.iload_n 2, 1) := by decide +kernel
theorem dX12_learnt_43 : decode cX12_learnt 43 = .ok (.iload_n 3, 1) := by decide +kernel
theorem dX12_learnt_44 : decode cX12_learnt 44 = .ok (.invokevirtual 534, 3) := by decide +kernel
theorem dX12_learnt_47 : decode cX12_learnt 47 = .ok (.aload_n 0, 1) := by decide +kernel
theorem dX12_learnt_48 : decode cX12_learnt 48 = .ok (.getfield 163, 3) := by decide +kernel
theorem dX12_learnt_51 : decode cX12_learnt 51 = .ok (.bipush 9, 2) := by decide +kernel
theorem dX12_learnt_53 : decode cX12_learnt 53 = .ok (.iload 6, 2) := by decide +kernel
theorem dX12_learnt_55 : decode cX12_learnt 55 = .ok (.iastore, 1) := by decide +kernel
theorem dX12_learnt_56 : decode cX12_learnt 56 = .ok (.aload_n 0, 1) := by decide +kernel
theorem dX12_learnt_57 : decode cX12_learnt 57 = .ok (.iload 5, 2) := by decide +kernel
theorem dX12_learnt_59 : decode cX12_learnt 59 = .ok (.invokevirtual 538, 3) := by decide +kernel
theorem dX12_learnt_62 : decode cX12_learnt 62 = .ok (.ireturn, 1) := by decide +kernel
theorem dX12_isKept_0 : decode cX12_isKept 0 = .ok (.aload_n 0, 1) := by decide +kernel
theorem dX12_isKept_1 : decode cX12_isKept 1 = .ok (.getfield 166, 3) := by decide +kernel
theorem dX12_isKept_4 : decode cX12_isKept 4 = .ok (.bipush 26, 2) := by decide +kernel
theorem dX12_isKept_6 : decode cX12_isKept 6 = .ok (.iaload, 1) := by decide +kernel
theorem dX12_isKept_7 : decode cX12_isKept 7 = .ok (.bipush 40, 2) := by decide +kernel
theorem dX12_isKept_9 : decode cX12_isKept 9 = .ok (.if_icmp .ne 40, 3) := by decide +kernel
theorem dX12_isKept_12 : decode cX12_isKept 12 = .ok (.bipush 27, 2) := by decide +kernel
theorem dX12_isKept_14 : decode cX12_isKept 14 = .ok (.istore 4, 2) := by decide +kernel
theorem dX12_isKept_16 : decode cX12_isKept 16 = .ok (.iload 4, 2) := by decide +kernel
theorem dX12_isKept_18 : decode cX12_isKept 18 = .ok (.sipush 183, 3) := by decide +kernel
theorem dX12_isKept_21 : decode cX12_isKept 21 = .ok (.if_icmp .ge 25, 3) := by decide +kernel
theorem dX12_isKept_24 : decode cX12_isKept 24 = .ok (.aload_n 0, 1) := by decide +kernel
theorem dX12_isKept_25 : decode cX12_isKept 25 = .ok (.getfield 166, 3) := by decide +kernel
theorem dX12_isKept_28 : decode cX12_isKept 28 = .ok (.iload 4, 2) := by decide +kernel
theorem dX12_isKept_30 : decode cX12_isKept 30 = .ok (.aload_n 0, 1) := by decide +kernel
theorem dX12_isKept_31 : decode cX12_isKept 31 = .ok (.getfield 166, 3) := by decide +kernel
theorem dX12_isKept_34 : decode cX12_isKept 34 = .ok (.iload 4, 2) := by decide +kernel
theorem dX12_isKept_36 : decode cX12_isKept 36 = .ok (.iconst 4, 1) := by decide +kernel
theorem dX12_isKept_37 : decode cX12_isKept 37 = .ok (.iadd, 1) := by decide +kernel
theorem dX12_isKept_38 : decode cX12_isKept 38 = .ok (.iaload, 1) := by decide +kernel
theorem dX12_isKept_39 : decode cX12_isKept 39 = .ok (.iastore, 1) := by decide +kernel
theorem dX12_isKept_40 : decode cX12_isKept 40 = .ok (.iinc 4 1, 3) := by decide +kernel
theorem dX12_isKept_43 : decode cX12_isKept 43 = .ok (.goto (-27), 3) := by decide +kernel
theorem dX12_isKept_46 : decode cX12_isKept 46 = .ok (.goto 14, 3) := by decide +kernel
theorem dX12_isKept_49 : decode cX12_isKept 49 = .ok (.aload_n 0, 1) := by decide +kernel
theorem dX12_isKept_50 : decode cX12_isKept 50 = .ok (.getfield 166, 3) := by decide +kernel
theorem dX12_isKept_53 : decode cX12_isKept 53 = .ok (.bipush 26, 2) := by decide +kernel
theorem dX12_isKept_55 : decode cX12_isKept 55 = .ok (.dup2, 1) := by decide +kernel
theorem dX12_isKept_56 : decode cX12_isKept 56 = .ok (.iaload, 1) := by decide +kernel
theorem dX12_isKept_57 : decode cX12_isKept 57 = .ok (.iconst 1, 1) := by decide +kernel
theorem dX12_isKept_58 : decode cX12_isKept 58 = .ok (.iadd, 1) := by decide +kernel
theorem dX12_isKept_59 : decode cX12_isKept 59 = .ok (.iastore, 1) := by decide +kernel
theorem dX12_isKept_60 : decode cX12_isKept 60 = .ok (.bipush 27, 2) := by decide +kernel
theorem dX12_isKept_62 : decode cX12_isKept 62 = .ok (.iconst 4, 1) := by decide +kernel
theorem dX12_isKept_63 : decode cX12_isKept 63 = .ok (.aload_n 0, 1) := by decide +kernel
theorem dX12_isKept_64 : decode cX12_isKept 64 = .ok (.getfield 166, 3) := by decide +kernel
theorem dX12_isKept_67 : decode cX12_isKept 67 = .ok (.bipush 26, 2) := by decide +kernel
theorem dX12_isKept_69 : decode cX12_isKept 69 = .ok (.iaload, 1) := by decide +kernel
theorem dX12_isKept_70 : decode cX12_isKept 70 = .ok (.imul, 1) := by decide +kernel
theorem dX12_isKept_71 : decode cX12_isKept 71 = .ok (.iadd, 1) := by decide +kernel
theorem dX12_isKept_72 : decode cX12_isKept 72 = .ok (.iconst 4, 1) := by decide +kernel
theorem dX12_isKept_73 : decode cX12_isKept 73 = .ok (.isub, 1) := by decide +kernel
theorem dX12_isKept_74 : decode cX12_isKept 74 = .ok (.istore 4, 2) := by decide +kernel
theorem dX12_isKept_76 : decode cX12_isKept 76 = .ok (.aload_n 0, 1) := by decide +kernel
theorem dX12_isKept_77 : decode cX12_isKept 77 = .ok (.getfield 166, 3) := by decide +kernel
theorem dX12_isKept_80 : decode cX12_isKept 80 = .ok (.iload 4, 2) := by decide +kernel
theorem dX12_isKept_82 : decode cX12_isKept 82 = .ok (.aload_n 0, 1) := by decide +kernel
theorem dX12_isKept_83 : decode cX12_isKept 83 = .ok (.getfield 166, 3) := by decide +kernel
theorem dX12_isKept_86 : decode cX12_isKept 86 = .ok (.iconst 0, 1) := by decide +kernel
theorem dX12_isKept_87 : decode cX12_isKept 87 = .ok (.iaload, 1) := by decide +kernel
theorem dX12_isKept_88 : decode cX12_isKept 88 = .ok (.iastore, 1) := by decide +kernel
theorem dX12_isKept_89 : decode cX12_isKept 89 = .ok (.aload_n 0, 1) := by decide +kernel
theorem dX12_isKept_90 : decode cX12_isKept 90 = .ok (.getfield 166, 3) := by decide +kernel
theorem dX12_isKept_93 : decode cX12_isKept 93 = .ok (.iload 4, 2) := by decide +kernel
theorem dX12_isKept_95 : decode cX12_isKept 95 = .ok (.iconst 1, 1) := by decide +kernel
theorem dX12_isKept_96 : decode cX12_isKept 96 = .ok (.iadd, 1) := by decide +kernel
theorem dX12_isKept_97 : decode cX12_isKept 97 = .ok (.iload_n 1, 1) := by decide +kernel
theorem dX12_isKept_98 : decode cX12_isKept 98 = .ok (.iastore, 1) := by decide +kernel
theorem dX12_isKept_99 : decode cX12_isKept 99 = .ok (.aload_n 0, 1) := by decide +kernel
theorem dX12_isKept_100 : decode cX12_isKept 100 = .ok (.getfield 166, 3) := by decide +kernel
theorem dX12_isKept_103 : decode cX12_isKept 103 = .ok (.iload 4, 2) := by decide +kernel
theorem dX12_isKept_105 : decode cX12_isKept 105 = .ok (.iconst 2, 1) := by decide +kernel
theorem dX12_isKept_106 : decode cX12_isKept 106 = .ok (.iadd, 1) := by decide +kernel
theorem dX12_isKept_107 : decode cX12_isKept 107 = .ok (.iload_n 2, 1) := by decide +kernel
theorem dX12_isKept_108 : decode cX12_isKept 108 = .ok (.iastore, 1) := by decide +kernel
theorem dX12_isKept_109 : decode cX12_isKept 109 = .ok (.aload_n 0, 1) := by decide +kernel
theorem dX12_isKept_110 : decode cX12_isKept 110 = .ok (.getfield 166, 3) := by decide +kernel
theorem dX12_isKept_113 : decode cX12_isKept 113 = .ok (.iload 4, 2) := by decide +kernel
theorem dX12_isKept_115 : decode cX12_isKept 115 = .ok (.iconst 3, 1) := by decide +kernel
theorem dX12_isKept_116 : decode cX12_isKept 116 = .ok (.iadd, 1) := by decide +kernel
theorem dX12_isKept_117 : decode cX12_isKept 117 = .ok (.iload_n 3, 1) := by decide +kernel
theorem dX12_isKept_118 : decode cX12_isKept 118 = .ok (.ifCond .eq 7, 3) := by decide +kernel
theorem dX12_isKept_121 : decode cX12_isKept 121 = .ok (.iconst 1, 1) := by decide +kernel
theorem dX12_isKept_122 : decode cX12_isKept 122 = .ok (.goto 4, 3) := by decide +kernel
theorem dX12_isKept_125 : decode cX12_isKept 125 = .ok (.iconst 0, 1) := by decide +kernel
theorem dX12_isKept_126 : decode cX12_isKept 126 = .ok (.iastore, 1) := by decide +kernel
theorem dX12_isKept_127 : decode cX12_isKept 127 = .ok (.return_, 1) := by decide +kernel
theorem dX12_tries_0 : decode cX12_tries 0 = .ok (.aload_n 0, 1) := by decide +kernel
theorem dX12_tries_1 : decode cX12_tries 1 = .ok (.iload_n 1, 1) := by decide +kernel
theorem dX12_tries_2 : decode cX12_tries 2 = .ok (.iload_n 2, 1) := by decide +kernel
theorem dX12_tries_3 : decode cX12_tries 3 = .ok (.iload_n 3, 1) := by decide +kernel
theorem dX12_tries_4 : decode cX12_tries 4 = .ok (.invokevirtual 545, 3) := by decide +kernel
theorem dX12_tries_7 : decode cX12_tries 7 = .ok (.istore 4, 2) := by decide +kernel
theorem dX12_tries_9 : decode cX12_tries 9 = .ok (.aload_n 0, 1) := by decide +kernel
theorem dX12_tries_10 : decode cX12_tries 10 = .ok (.iload_n 1, 1) := by decide +kernel
theorem dX12_tries_11 : decode cX12_tries 11 = .ok (.iload_n 2, 1) := by decide +kernel
theorem dX12_tries_12 : decode cX12_tries 12 = .ok (.iload_n 3, 1) := by decide +kernel
theorem dX12_tries_13 : decode cX12_tries 13 = .ok (.iload 4, 2) := by decide +kernel
theorem dX12_tries_15 : decode cX12_tries 15 = .ok (.invokevirtual 548, 3) := by decide +kernel
theorem dX12_tries_18 : decode cX12_tries 18 = .ok (.istore 5, 2) := by decide +kernel
theorem dX12_tries_20 : decode cX12_tries 20 = .ok (.aload_n 0, 1) := by decide +kernel
theorem dX12_tries_21 : decode cX12_tries 21 = .ok (.getfield 166, 3) := by decide +kernel
theorem dX12_tries_24 : decode cX12_tries 24 = .ok (.iconst 2, 1) := by decide +kernel
theorem dX12_tries_25 : decode cX12_tries 25 = .ok (.iconst 4, 1) := by decide +kernel
theorem dX12_tries_26 : decode cX12_tries 26 = .ok (.iload_n 1, 1) := by decide +kernel
theorem dX12_tries_27 : decode cX12_tries 27 = .ok (.imul, 1) := by decide +kernel
theorem dX12_tries_28 : decode cX12_tries 28 = .ok (.iadd, 1) := by decide +kernel
theorem dX12_tries_29 : decode cX12_tries 29 = .ok (.iconst 1, 1) := by decide +kernel
theorem dX12_tries_30 : decode cX12_tries 30 = .ok (.iadd, 1) := by decide +kernel
theorem dX12_tries_31 : decode cX12_tries 31 = .ok (.iload 5, 2) := by decide +kernel
theorem dX12_tries_33 : decode cX12_tries 33 = .ok (.iastore, 1) := by decide +kernel
theorem dX12_tries_34 : decode cX12_tries 34 = .ok (.iload 4, 2) := by decide +kernel
theorem dX12_tries_36 : decode cX12_tries 36 = .ok (.ifCond .eq 17, 3) := by decide +kernel
theorem dX12_tries_39 : decode cX12_tries 39 = .ok (.aload_n 0, 1) := by decide +kernel
theorem dX12_tries_40 : decode cX12_tries 40 = .ok (.getfield 166, 3) := by decide +kernel
theorem dX12_tries_43 : decode cX12_tries 43 = .ok (.iconst 2, 1) := by decide +kernel
theorem dX12_tries_44 : decode cX12_tries 44 = .ok (.iconst 4, 1) := by decide +kernel
theorem dX12_tries_45 : decode cX12_tries 45 = .ok (.iload_n 1, 1) := by decide +kernel
theorem dX12_tries_46 : decode cX12_tries 46 = .ok (.imul, 1) := by decide +kernel
theorem dX12_tries_47 : decode cX12_tries 47 = .ok (.iadd, 1) := by decide +kernel
theorem dX12_tries_48 : decode cX12_tries 48 = .ok (.iload_n 2, 1) := by decide +kernel
theorem dX12_tries_49 : decode cX12_tries 49 = .ok (.iastore, 1) := by decide +kernel
theorem dX12_tries_50 : decode cX12_tries 50 = .ok (.goto 29, 3) := by decide +kernel
theorem dX12_tries_53 : decode cX12_tries 53 = .ok (.aload_n 0, 1) := by decide +kernel
theorem dX12_tries_54 : decode cX12_tries 54 = .ok (.iload_n 1, 1) := by decide +kernel
theorem dX12_tries_55 : decode cX12_tries 55 = .ok (.invokevirtual 516, 3) := by decide +kernel
theorem dX12_tries_58 : decode cX12_tries 58 = .ok (.bipush 99, 2) := by decide +kernel
theorem dX12_tries_60 : decode cX12_tries 60 = .ok (.if_icmp .ge 19, 3) := by decide +kernel
theorem dX12_tries_63 : decode cX12_tries 63 = .ok (.aload_n 0, 1) := by decide +kernel
theorem dX12_tries_64 : decode cX12_tries 64 = .ok (.getfield 166, 3) := by decide +kernel
theorem dX12_tries_67 : decode cX12_tries 67 = .ok (.iconst 2, 1) := by decide +kernel
theorem dX12_tries_68 : decode cX12_tries 68 = .ok (.iconst 4, 1) := by decide +kernel
theorem dX12_tries_69 : decode cX12_tries 69 = .ok (.iload_n 1, 1) := by decide +kernel
theorem dX12_tries_70 : decode cX12_tries 70 = .ok (.imul, 1) := by decide +kernel
theorem dX12_tries_71 : decode cX12_tries 71 = .ok (.iadd, 1) := by decide +kernel
theorem dX12_tries_72 : decode cX12_tries 72 = .ok (.iconst 2, 1) := by decide +kernel
theorem dX12_tries_73 : decode cX12_tries 73 = .ok (.iadd, 1) := by decide +kernel
theorem dX12_tries_74 : decode cX12_tries 74 = .ok (.dup2, 1) := by decide +kernel
theorem dX12_tries_75 : decode cX12_tries 75 = .ok (.iaload, 1) := by decide +kernel
theorem dX12_tries_76 : decode cX12_tries 76 = .ok (.iconst 1, 1) := by decide +kernel
theorem dX12_tries_77 : decode cX12_tries 77 = .ok (.iadd, 1) := by decide +kernel
theorem dX12_tries_78 : decode cX12_tries 78 = .ok (.iastore, 1) := by decide +kernel
theorem dX12_tries_79 : decode cX12_tries 79 = .ok (.aload_n 0, 1) := by decide +kernel
theorem dX12_tries_80 : decode cX12_tries 80 = .ok (.iload_n 1, 1) := by decide +kernel
theorem dX12_tries_81 : decode cX12_tries 81 = .ok (.iload_n 2, 1) := by decide +kernel
theorem dX12_tries_82 : decode cX12_tries 82 = .ok (.iload 4, 2) := by decide +kernel
theorem dX12_tries_84 : decode cX12_tries 84 = .ok (.invokevirtual 552, 3) := by decide +kernel
theorem dX12_tries_87 : decode cX12_tries 87 = .ok (.iload 4, 2) := by decide +kernel
theorem dX12_tries_89 : decode cX12_tries 89 = .ok (.ireturn, 1) := by decide +kernel
theorem dX12_beside_0 : decode cX12_beside 0 = .ok (.iload_n 1, 1) := by decide +kernel
theorem dX12_beside_1 : decode cX12_beside 1 = .ok (.aload_n 0, 1) := by decide +kernel
theorem dX12_beside_2 : decode cX12_beside 2 = .ok (.invokevirtual 477, 3) := by decide +kernel
theorem dX12_beside_5 : decode cX12_beside 5 = .ok (.irem, 1) := by decide +kernel
theorem dX12_beside_6 : decode cX12_beside 6 = .ok (.istore_n 3, 1) := by decide +kernel
theorem dX12_beside_7 : decode cX12_beside 7 = .ok (.iload_n 2, 1) := by decide +kernel
theorem dX12_beside_8 : decode cX12_beside 8 = .ok (.ifCond .ne 22, 3) := by decide +kernel
theorem dX12_beside_11 : decode cX12_beside 11 = .ok (.iload_n 1, 1) := by decide +kernel
theorem dX12_beside_12 : decode cX12_beside 12 = .ok (.aload_n 0, 1) := by decide +kernel
theorem dX12_beside_13 : decode cX12_beside 13 = .ok (.invokevirtual 477, 3) := by decide +kernel
theorem dX12_beside_16 : decode cX12_beside 16 = .ok (.if_icmp .lt 12, 3) := by decide +kernel
theorem dX12_beside_19 : decode cX12_beside 19 = .ok (.iload_n 1, 1) := by decide +kernel
theorem dX12_beside_20 : decode cX12_beside 20 = .ok (.aload_n 0, 1) := by decide +kernel
theorem dX12_beside_21 : decode cX12_beside 21 = .ok (.invokevirtual 477, 3) := by decide +kernel
theorem dX12_beside_24 : decode cX12_beside 24 = .ok (.isub, 1) := by decide +kernel
theorem dX12_beside_25 : decode cX12_beside 25 = .ok (.goto 4, 3) := by decide +kernel
theorem dX12_beside_28 : decode cX12_beside 28 = .ok (.iconst (-1), 1) := by decide +kernel
theorem dX12_beside_29 : decode cX12_beside 29 = .ok (.ireturn, 1) := by decide +kernel
theorem dX12_beside_30 : decode cX12_beside 30 = .ok (.iload_n 2, 1) := by decide +kernel
theorem dX12_beside_31 : decode cX12_beside 31 = .ok (.iconst 1, 1) := by decide +kernel
theorem dX12_beside_32 : decode cX12_beside 32 = .ok (.if_icmp .ne 21, 3) := by decide +kernel
theorem dX12_beside_35 : decode cX12_beside 35 = .ok (.iload_n 3, 1) := by decide +kernel
theorem dX12_beside_36 : decode cX12_beside 36 = .ok (.iconst 1, 1) := by decide +kernel
theorem dX12_beside_37 : decode cX12_beside 37 = .ok (.iadd, 1) := by decide +kernel
theorem dX12_beside_38 : decode cX12_beside 38 = .ok (.aload_n 0, 1) := by decide +kernel
theorem dX12_beside_39 : decode cX12_beside 39 = .ok (.invokevirtual 477, 3) := by decide +kernel
theorem dX12_beside_42 : decode cX12_beside 42 = .ok (.if_icmp .ge 9, 3) := by decide +kernel
theorem dX12_beside_45 : decode cX12_beside 45 = .ok (.iload_n 1, 1) := by decide +kernel
theorem dX12_beside_46 : decode cX12_beside 46 = .ok (.iconst 1, 1) := by decide +kernel
theorem dX12_beside_47 : decode cX12_beside 47 = .ok (.iadd, 1) := by decide +kernel
theorem dX12_beside_48 : decode cX12_beside 48 = .ok (.goto 4, 3) := by decide +kernel
theorem dX12_beside_51 : decode cX12_beside 51 = .ok (.iconst (-1), 1) := by decide +kernel
theorem dX12_beside_52 : decode cX12_beside 52 = .ok (.ireturn, 1) := by decide +kernel
theorem dX12_beside_53 : decode cX12_beside 53 = .ok (.iload_n 2, 1) := by decide +kernel
theorem dX12_beside_54 : decode cX12_beside 54 = .ok (.iconst 2, 1) := by decide +kernel
theorem dX12_beside_55 : decode cX12_beside 55 = .ok (.if_icmp .ne 27, 3) := by decide +kernel
theorem dX12_beside_58 : decode cX12_beside 58 = .ok (.iload_n 1, 1) := by decide +kernel
theorem dX12_beside_59 : decode cX12_beside 59 = .ok (.aload_n 0, 1) := by decide +kernel
theorem dX12_beside_60 : decode cX12_beside 60 = .ok (.invokevirtual 477, 3) := by decide +kernel
theorem dX12_beside_63 : decode cX12_beside 63 = .ok (.iadd, 1) := by decide +kernel
theorem dX12_beside_64 : decode cX12_beside 64 = .ok (.aload_n 0, 1) := by decide +kernel
theorem dX12_beside_65 : decode cX12_beside 65 = .ok (.invokevirtual 480, 3) := by decide +kernel
theorem dX12_beside_68 : decode cX12_beside 68 = .ok (.if_icmp .ge 12, 3) := by decide +kernel
theorem dX12_beside_71 : decode cX12_beside 71 = .ok (.iload_n 1, 1) := by decide +kernel
theorem dX12_beside_72 : decode cX12_beside 72 = .ok (.aload_n 0, 1) := by decide +kernel
theorem dX12_beside_73 : decode cX12_beside 73 = .ok (.invokevirtual 477, 3) := by decide +kernel
theorem dX12_beside_76 : decode cX12_beside 76 = .ok (.iadd, 1) := by decide +kernel
theorem dX12_beside_77 : decode cX12_beside 77 = .ok (.goto 4, 3) := by decide +kernel
theorem dX12_beside_80 : decode cX12_beside 80 = .ok (.iconst (-1), 1) := by decide +kernel
theorem dX12_beside_81 : decode cX12_beside 81 = .ok (.ireturn, 1) := by decide +kernel
theorem dX12_beside_82 : decode cX12_beside 82 = .ok (.iload_n 3, 1) := by decide +kernel
theorem dX12_beside_83 : decode cX12_beside 83 = .ok (.ifCond .le 9, 3) := by decide +kernel
theorem dX12_beside_86 : decode cX12_beside 86 = .ok (.iload_n 1, 1) := by decide +kernel
theorem dX12_beside_87 : decode cX12_beside 87 = .ok (.iconst 1, 1) := by decide +kernel
theorem dX12_beside_88 : decode cX12_beside 88 = .ok (.isub, 1) := by decide +kernel
theorem dX12_beside_89 : decode cX12_beside 89 = .ok (.goto 4, 3) := by decide +kernel
theorem dX12_beside_92 : decode cX12_beside 92 = .ok (.iconst (-1), 1) := by decide +kernel
theorem dX12_beside_93 : decode cX12_beside 93 = .ok (.ireturn, 1) := by decide +kernel
theorem dX12_isBeside_0 : decode cX12_isBeside 0 = .ok (.aload_n 0, 1) := by decide +kernel
theorem dX12_isBeside_1 : decode cX12_isBeside 1 = .ok (.iload_n 2, 1) := by decide +kernel
theorem dX12_isBeside_2 : decode cX12_isBeside 2 = .ok (.invokevirtual 556, 3) := by decide +kernel
theorem dX12_isBeside_5 : decode cX12_isBeside 5 = .ok (.ifCond .eq 17, 3) := by decide +kernel
theorem dX12_isBeside_8 : decode cX12_isBeside 8 = .ok (.aload_n 0, 1) := by decide +kernel
theorem dX12_isBeside_9 : decode cX12_isBeside 9 = .ok (.iload_n 1, 1) := by decide +kernel
theorem dX12_isBeside_10 : decode cX12_isBeside 10 = .ok (.iload_n 2, 1) := by decide +kernel
theorem dX12_isBeside_11 : decode cX12_isBeside 11 = .ok (.invokevirtual 501, 3) := by decide +kernel
theorem dX12_isBeside_14 : decode cX12_isBeside 14 = .ok (.iconst 1, 1) := by decide +kernel
theorem dX12_isBeside_15 : decode cX12_isBeside 15 = .ok (.if_icmp .ne 7, 3) := by decide +kernel
theorem dX12_isBeside_18 : decode cX12_isBeside 18 = .ok (.iconst 1, 1) := by decide +kernel
theorem dX12_isBeside_19 : decode cX12_isBeside 19 = .ok (.goto 4, 3) := by decide +kernel
theorem dX12_isBeside_22 : decode cX12_isBeside 22 = .ok (.iconst 0, 1) := by decide +kernel
theorem dX12_isBeside_23 : decode cX12_isBeside 23 = .ok (.ireturn, 1) := by decide +kernel
theorem dX12_putsAside_0 : decode cX12_putsAside 0 = .ok (.iconst 0, 1) := by decide +kernel
theorem dX12_putsAside_1 : decode cX12_putsAside 1 = .ok (.istore_n 1, 1) := by decide +kernel
theorem dX12_putsAside_2 : decode cX12_putsAside 2 = .ok (.iload_n 1, 1) := by decide +kernel
theorem dX12_putsAside_3 : decode cX12_putsAside 3 = .ok (.sipush 187, 3) := by decide +kernel
theorem dX12_putsAside_6 : decode cX12_putsAside 6 = .ok (.if_icmp .ge 21, 3) := by decide +kernel
theorem dX12_putsAside_9 : decode cX12_putsAside 9 = .ok (.aload_n 0, 1) := by decide +kernel
theorem dX12_putsAside_10 : decode cX12_putsAside 10 = .ok (.getfield 169, 3) := by decide +kernel
theorem dX12_putsAside_13 : decode cX12_putsAside 13 = .ok (.iload_n 1, 1) := by decide +kernel
theorem dX12_putsAside_14 : decode cX12_putsAside 14 = .ok (.aload_n 0, 1) := by decide +kernel
theorem dX12_putsAside_15 : decode cX12_putsAside 15 = .ok (.getfield 166, 3) := by decide +kernel
theorem dX12_putsAside_18 : decode cX12_putsAside 18 = .ok (.iload_n 1, 1) := by decide +kernel
theorem dX12_putsAside_19 : decode cX12_putsAside 19 = .ok (.iaload, 1) := by decide +kernel
theorem dX12_putsAside_20 : decode cX12_putsAside 20 = .ok (.iastore, 1) := by decide +kernel
theorem dX12_putsAside_21 : decode cX12_putsAside 21 = .ok (.iinc 1 1, 3) := by decide +kernel
theorem dX12_putsAside_24 : decode cX12_putsAside 24 = .ok (.goto (-22), 3) := by decide +kernel
theorem dX12_putsAside_27 : decode cX12_putsAside 27 = .ok (.return_, 1) := by decide +kernel
theorem dX12_takesBack_0 : decode cX12_takesBack 0 = .ok (.iconst 0, 1) := by decide +kernel
theorem dX12_takesBack_1 : decode cX12_takesBack 1 = .ok (.istore_n 1, 1) := by decide +kernel
theorem dX12_takesBack_2 : decode cX12_takesBack 2 = .ok (.iload_n 1, 1) := by decide +kernel
theorem dX12_takesBack_3 : decode cX12_takesBack 3 = .ok (.sipush 187, 3) := by decide +kernel
theorem dX12_takesBack_6 : decode cX12_takesBack 6 = .ok (.if_icmp .ge 21, 3) := by decide +kernel
theorem dX12_takesBack_9 : decode cX12_takesBack 9 = .ok (.aload_n 0, 1) := by decide +kernel
theorem dX12_takesBack_10 : decode cX12_takesBack 10 = .ok (.getfield 166, 3) := by decide +kernel
theorem dX12_takesBack_13 : decode cX12_takesBack 13 = .ok (.iload_n 1, 1) := by decide +kernel
theorem dX12_takesBack_14 : decode cX12_takesBack 14 = .ok (.aload_n 0, 1) := by decide +kernel
theorem dX12_takesBack_15 : decode cX12_takesBack 15 = .ok (.getfield 169, 3) := by decide +kernel
theorem dX12_takesBack_18 : decode cX12_takesBack 18 = .ok (.iload_n 1, 1) := by decide +kernel
theorem dX12_takesBack_19 : decode cX12_takesBack 19 = .ok (.iaload, 1) := by decide +kernel
theorem dX12_takesBack_20 : decode cX12_takesBack 20 = .ok (.iastore, 1) := by decide +kernel
theorem dX12_takesBack_21 : decode cX12_takesBack 21 = .ok (.iinc 1 1, 3) := by decide +kernel
theorem dX12_takesBack_24 : decode cX12_takesBack 24 = .ok (.goto (-22), 3) := by decide +kernel
theorem dX12_takesBack_27 : decode cX12_takesBack 27 = .ok (.return_, 1) := by decide +kernel
theorem dX12_sumOf_0 : decode cX12_sumOf 0 = .ok (.iconst 0, 1) := by decide +kernel
theorem dX12_sumOf_1 : decode cX12_sumOf 1 = .ok (.istore_n 2, 1) := by decide +kernel
theorem dX12_sumOf_2 : decode cX12_sumOf 2 = .ok (.iconst 0, 1) := by decide +kernel
theorem dX12_sumOf_3 : decode cX12_sumOf 3 = .ok (.istore_n 3, 1) := by decide +kernel
theorem dX12_sumOf_4 : decode cX12_sumOf 4 = .ok (.iload_n 3, 1) := by decide +kernel
theorem dX12_sumOf_5 : decode cX12_sumOf 5 = .ok (.aload_n 0, 1) := by decide +kernel
theorem dX12_sumOf_6 : decode cX12_sumOf 6 = .ok (.invokevirtual 483, 3) := by decide +kernel
theorem dX12_sumOf_9 : decode cX12_sumOf 9 = .ok (.if_icmp .ge 31, 3) := by decide +kernel
theorem dX12_sumOf_12 : decode cX12_sumOf 12 = .ok (.iload_n 2, 1) := by decide +kernel
theorem dX12_sumOf_13 : decode cX12_sumOf 13 = .ok (.iload_n 1, 1) := by decide +kernel
theorem dX12_sumOf_14 : decode cX12_sumOf 14 = .ok (.bipush 7, 2) := by decide +kernel
theorem dX12_sumOf_16 : decode cX12_sumOf 16 = .ok (.if_icmp .ne 11, 3) := by decide +kernel
theorem dX12_sumOf_19 : decode cX12_sumOf 19 = .ok (.aload_n 0, 1) := by decide +kernel
theorem dX12_sumOf_20 : decode cX12_sumOf 20 = .ok (.iload_n 3, 1) := by decide +kernel
theorem dX12_sumOf_21 : decode cX12_sumOf 21 = .ok (.invokevirtual 516, 3) := by decide +kernel
theorem dX12_sumOf_24 : decode cX12_sumOf 24 = .ok (.goto 8, 3) := by decide +kernel
theorem dX12_sumOf_27 : decode cX12_sumOf 27 = .ok (.aload_n 0, 1) := by decide +kernel
theorem dX12_sumOf_28 : decode cX12_sumOf 28 = .ok (.iload_n 3, 1) := by decide +kernel
theorem dX12_sumOf_29 : decode cX12_sumOf 29 = .ok (.invokevirtual 522, 3) := by decide +kernel
theorem dX12_sumOf_32 : decode cX12_sumOf 32 = .ok (.iadd, 1) := by decide +kernel
theorem dX12_sumOf_33 : decode cX12_sumOf 33 = .ok (.istore_n 2, 1) := by decide +kernel
theorem dX12_sumOf_34 : decode cX12_sumOf 34 = .ok (.iinc 3 1, 3) := by decide +kernel
theorem dX12_sumOf_37 : decode cX12_sumOf 37 = .ok (.goto (-33), 3) := by decide +kernel
theorem dX12_sumOf_40 : decode cX12_sumOf 40 = .ok (.iload_n 2, 1) := by decide +kernel
theorem dX12_sumOf_41 : decode cX12_sumOf 41 = .ok (.ireturn, 1) := by decide +kernel
theorem dX12_has_0 : decode cX12_has 0 = .ok (.iload_n 1, 1) := by decide +kernel
theorem dX12_has_1 : decode cX12_has 1 = .ok (.tableswitch 121 0 11 #[63, 63, 63, 63, 72, 79, 90, 97, 97, 103, 111, 116], 63) := by decide +kernel
theorem dX12_has_64 : decode cX12_has 64 = .ok (.aload_n 0, 1) := by decide +kernel
theorem dX12_has_65 : decode cX12_has 65 = .ok (.getfield 123, 3) := by decide +kernel
theorem dX12_has_68 : decode cX12_has 68 = .ok (.iconst 5, 1) := by decide +kernel
theorem dX12_has_69 : decode cX12_has 69 = .ok (.iload_n 1, 1) := by decide +kernel
theorem dX12_has_70 : decode cX12_has 70 = .ok (.iadd, 1) := by decide +kernel
theorem dX12_has_71 : decode cX12_has 71 = .ok (.iaload, 1) := by decide +kernel
theorem dX12_has_72 : decode cX12_has 72 = .ok (.ireturn, 1) := by decide +kernel
theorem dX12_has_73 : decode cX12_has 73 = .ok (.aload_n 0, 1) := by decide +kernel
theorem dX12_has_74 : decode cX12_has 74 = .ok (.getfield 166, 3) := by decide +kernel
theorem dX12_has_77 : decode cX12_has 77 = .ok (.iconst 0, 1) := by decide +kernel
theorem dX12_has_78 : decode cX12_has 78 = .ok (.iaload, 1) := by decide +kernel
theorem dX12_has_79 : decode cX12_has 79 = .ok (.ireturn, 1) := by decide +kernel
theorem dX12_has_80 : decode cX12_has 80 = .ok (.aload_n 0, 1) := by decide +kernel
theorem dX12_has_81 : decode cX12_has 81 = .ok (.aload_n 0, 1) := by decide +kernel
theorem dX12_has_82 : decode cX12_has 82 = .ok (.getfield 166, 3) := by decide +kernel
theorem dX12_has_85 : decode cX12_has 85 = .ok (.iconst 0, 1) := by decide +kernel
theorem dX12_has_86 : decode cX12_has 86 = .ok (.iaload, 1) := by decide +kernel
theorem dX12_has_87 : decode cX12_has 87 = .ok (.invokevirtual 513, 3) := by decide +kernel
theorem dX12_has_90 : decode cX12_has 90 = .ok (.ireturn, 1) := by decide +kernel
theorem dX12_has_91 : decode cX12_has 91 = .ok (.aload_n 0, 1) := by decide +kernel
theorem dX12_has_92 : decode cX12_has 92 = .ok (.getfield 166, 3) := by decide +kernel
theorem dX12_has_95 : decode cX12_has 95 = .ok (.iconst 1, 1) := by decide +kernel
theorem dX12_has_96 : decode cX12_has 96 = .ok (.iaload, 1) := by decide +kernel
theorem dX12_has_97 : decode cX12_has 97 = .ok (.ireturn, 1) := by decide +kernel
theorem dX12_has_98 : decode cX12_has 98 = .ok (.aload_n 0, 1) := by decide +kernel
theorem dX12_has_99 : decode cX12_has 99 = .ok (.iload_n 1, 1) := by decide +kernel
theorem dX12_has_100 : decode cX12_has 100 = .ok (.invokevirtual 559, 3) := by decide +kernel
theorem dX12_has_103 : decode cX12_has 103 = .ok (.ireturn, 1) := by decide +kernel
theorem dX12_has_104 : decode cX12_has 104 = .ok (.aload_n 0, 1) := by decide +kernel
theorem dX12_has_105 : decode cX12_has 105 = .ok (.getfield 166, 3) := by decide +kernel
theorem dX12_has_108 : decode cX12_has 108 = .ok (.bipush 26, 2) := by decide +kernel
theorem dX12_has_110 : decode cX12_has 110 = .ok (.iaload, 1) := by decide +kernel
theorem dX12_has_111 : decode cX12_has 111 = .ok (.ireturn, 1) := by decide +kernel
theorem dX12_has_112 : decode cX12_has 112 = .ok (.aload_n 0, 1) := by decide +kernel
theorem dX12_has_113 : decode cX12_has 113 = .ok (.getfield 428, 3) := by decide +kernel
theorem dX12_has_116 : decode cX12_has 116 = .ok (.ireturn, 1) := by decide +kernel
theorem dX12_has_117 : decode cX12_has 117 = .ok (.aload_n 0, 1) := by decide +kernel
theorem dX12_has_118 : decode cX12_has 118 = .ok (.getfield 425, 3) := by decide +kernel
theorem dX12_has_121 : decode cX12_has 121 = .ok (.ireturn, 1) := by decide +kernel
theorem dX12_has_122 : decode cX12_has 122 = .ok (.iconst (-1), 1) := by decide +kernel
theorem dX12_has_123 : decode cX12_has 123 = .ok (.ireturn, 1) := by decide +kernel
theorem dX12_letter_0 : decode cX12_letter 0 = .ok (.iload_n 1, 1) := by decide +kernel
theorem dX12_letter_1 : decode cX12_letter 1 = .ok (.i2l, 1) := by decide +kernel
theorem dX12_letter_2 : decode cX12_letter 2 = .ok (.lconst 0, 1) := by decide +kernel
theorem dX12_letter_3 : decode cX12_letter 3 = .ok (.lconst 1, 1) := by decide +kernel
theorem dX12_letter_4 : decode cX12_letter 4 = .ok (.invokestatic 321, 3) := by decide +kernel
theorem dX12_letter_7 : decode cX12_letter 7 = .ok (.ifCond .eq 36, 3) := by decide +kernel
theorem dX12_letter_10 : decode cX12_letter 10 = .ok (.iload_n 2, 1) := by decide +kernel
theorem dX12_letter_11 : decode cX12_letter 11 = .ok (.i2l, 1) := by decide +kernel
theorem dX12_letter_12 : decode cX12_letter 12 = .ok (.lconst 0, 1) := by decide +kernel
theorem dX12_letter_13 : decode cX12_letter 13 = .ok (.aload_n 0, 1) := by decide +kernel
theorem dX12_letter_14 : decode cX12_letter 14 = .ok (.getfield 123, 3) := by decide +kernel
theorem dX12_letter_17 : decode cX12_letter 17 = .ok (.bipush 7, 2) := by decide +kernel
theorem dX12_letter_19 : decode cX12_letter 19 = .ok (.iload_n 1, 1) := by decide +kernel
theorem dX12_letter_20 : decode cX12_letter 20 = .ok (.iadd, 1) := by decide +kernel
theorem dX12_letter_21 : decode cX12_letter 21 = .ok (.iaload, 1) := by decide +kernel
theorem dX12_letter_22 : decode cX12_letter 22 = .ok (.iconst 1, 1) := by decide +kernel
theorem dX12_letter_23 : decode cX12_letter 23 = .ok (.isub, 1) := by decide +kernel
theorem dX12_letter_24 : decode cX12_letter 24 = .ok (.i2l, 1) := by decide +kernel
theorem dX12_letter_25 : decode cX12_letter 25 = .ok (.invokestatic 321, 3) := by decide +kernel
theorem dX12_letter_28 : decode cX12_letter 28 = .ok (.ifCond .eq 15, 3) := by decide +kernel
theorem dX12_letter_31 : decode cX12_letter 31 = .ok (.iload_n 3, 1) := by decide +kernel
theorem dX12_letter_32 : decode cX12_letter 32 = .ok (.i2l, 1) := by decide +kernel
theorem dX12_letter_33 : decode cX12_letter 33 = .ok (.lconst 0, 1) := by decide +kernel
theorem dX12_letter_34 : decode cX12_letter 34 = .ok (.ldc2_w 562, 3) := by decide +kernel
theorem dX12_letter_37 : decode cX12_letter 37 = .ok (.invokestatic 321, 3) := by decide +kernel
theorem dX12_letter_40 : decode cX12_letter 40 = .ok (.ifCond .ne 5, 3) := by decide +kernel
theorem dX12_letter_43 : decode cX12_letter 43 = .ok (.iconst (-1), 1) := by decide +kernel
theorem dX12_letter_44 : decode cX12_letter 44 = .ok (.ireturn, 1) := by decide +kernel
theorem dX12_letter_45 : decode cX12_letter 45 = .ok (.aload_n 0, 1) := by decide +kernel
theorem dX12_letter_46 : decode cX12_letter 46 = .ok (.getfield 126, 3) := by decide +kernel
theorem dX12_letter_49 : decode cX12_letter 49 = .ok (.bipush 12, 2) := by decide +kernel
theorem dX12_letter_51 : decode cX12_letter 51 = .ok (.bipush 6, 2) := by decide +kernel
theorem dX12_letter_53 : decode cX12_letter 53 = .ok (.iload_n 1, 1) := by decide +kernel
theorem dX12_letter_54 : decode cX12_letter 54 = .ok (.imul, 1) := by decide +kernel
theorem dX12_letter_55 : decode cX12_letter 55 = .ok (.iadd, 1) := by decide +kernel
theorem dX12_letter_56 : decode cX12_letter 56 = .ok (.iload_n 2, 1) := by decide +kernel
theorem dX12_letter_57 : decode cX12_letter 57 = .ok (.iadd, 1) := by decide +kernel
theorem dX12_letter_58 : decode cX12_letter 58 = .ok (.laload, 1) := by decide +kernel
theorem dX12_letter_59 : decode cX12_letter 59 = .ok (.lstore 4, 2) := by decide +kernel
theorem dX12_letter_61 : decode cX12_letter 61 = .ok (.iconst 0, 1) := by decide +kernel
theorem dX12_letter_62 : decode cX12_letter 62 = .ok (.istore 6, 2) := by decide +kernel
theorem dX12_letter_64 : decode cX12_letter 64 = .ok (.lload 4, 2) := by decide +kernel
theorem dX12_letter_66 : decode cX12_letter 66 = .ok (.lstore 7, 2) := by decide +kernel
theorem dX12_letter_68 : decode cX12_letter 68 = .ok (.lload 7, 2) := by decide +kernel
theorem dX12_letter_70 : decode cX12_letter 70 = .ok (.lconst 0, 1) := by decide +kernel
theorem dX12_letter_71 : decode cX12_letter 71 = .ok (.lcmp, 1) := by decide +kernel
theorem dX12_letter_72 : decode cX12_letter 72 = .ok (.ifCond .le 17, 3) := by decide +kernel
theorem dX12_letter_75 : decode cX12_letter 75 = .ok (.iinc 6 1, 3) := by decide +kernel
theorem dX12_letter_78 : decode cX12_letter 78 = .ok (.lload 7, 2) := by decide +kernel
theorem dX12_letter_80 : decode cX12_letter 80 = .ok (.ldc2_w 332, 3) := by decide +kernel
theorem dX12_letter_83 : decode cX12_letter 83 = .ok (.ldiv, 1) := by decide +kernel
theorem dX12_letter_84 : decode cX12_letter 84 = .ok (.lstore 7, 2) := by decide +kernel
theorem dX12_letter_86 : decode cX12_letter 86 = .ok (.goto (-18), 3) := by decide +kernel
theorem dX12_letter_89 : decode cX12_letter 89 = .ok (.iload_n 3, 1) := by decide +kernel
theorem dX12_letter_90 : decode cX12_letter 90 = .ok (.iload 6, 2) := by decide +kernel
theorem dX12_letter_92 : decode cX12_letter 92 = .ok (.if_icmp .lt 5, 3) := by decide +kernel
theorem dX12_letter_95 : decode cX12_letter 95 = .ok (.iconst 0, 1) := by decide +kernel
theorem dX12_letter_96 : decode cX12_letter 96 = .ok (.ireturn, 1) := by decide +kernel
theorem dX12_letter_97 : decode cX12_letter 97 = .ok (.iload 6, 2) := by decide +kernel
theorem dX12_letter_99 : decode cX12_letter 99 = .ok (.iconst 1, 1) := by decide +kernel
theorem dX12_letter_100 : decode cX12_letter 100 = .ok (.isub, 1) := by decide +kernel
theorem dX12_letter_101 : decode cX12_letter 101 = .ok (.istore 7, 2) := by decide +kernel
theorem dX12_letter_103 : decode cX12_letter 103 = .ok (.iload 7, 2) := by decide +kernel
theorem dX12_letter_105 : decode cX12_letter 105 = .ok (.iload_n 3, 1) := by decide +kernel
theorem dX12_letter_106 : decode cX12_letter 106 = .ok (.if_icmp .le 17, 3) := by decide +kernel
theorem dX12_letter_109 : decode cX12_letter 109 = .ok (.lload 4, 2) := by decide +kernel
theorem dX12_letter_111 : decode cX12_letter 111 = .ok (.ldc2_w 332, 3) := by decide +kernel
theorem dX12_letter_114 : decode cX12_letter 114 = .ok (.ldiv, 1) := by decide +kernel
theorem dX12_letter_115 : decode cX12_letter 115 = .ok (.lstore 4, 2) := by decide +kernel
theorem dX12_letter_117 : decode cX12_letter 117 = .ok (.iinc 7 (-1), 3) := by decide +kernel
theorem dX12_letter_120 : decode cX12_letter 120 = .ok (.goto (-17), 3) := by decide +kernel
theorem dX12_letter_123 : decode cX12_letter 123 = .ok (.lload 4, 2) := by decide +kernel
theorem dX12_letter_125 : decode cX12_letter 125 = .ok (.ldc2_w 332, 3) := by decide +kernel
theorem dX12_letter_128 : decode cX12_letter 128 = .ok (.lrem, 1) := by decide +kernel
theorem dX12_letter_129 : decode cX12_letter 129 = .ok (.l2i, 1) := by decide +kernel
theorem dX12_letter_130 : decode cX12_letter 130 = .ok (.ireturn, 1) := by decide +kernel
theorem dX12_boat_0 : decode cX12_boat 0 = .ok (.aload_n 0, 1) := by decide +kernel
theorem dX12_boat_1 : decode cX12_boat 1 = .ok (.iload_n 1, 1) := by decide +kernel
theorem dX12_boat_2 : decode cX12_boat 2 = .ok (.invokevirtual 564, 3) := by decide +kernel
theorem dX12_boat_5 : decode cX12_boat 5 = .ok (.ifCond .ne 5, 3) := by decide +kernel
theorem dX12_boat_8 : decode cX12_boat 8 = .ok (.iconst (-1), 1) := by decide +kernel
theorem dX12_boat_9 : decode cX12_boat 9 = .ok (.ireturn, 1) := by decide +kernel
theorem dX12_boat_10 : decode cX12_boat 10 = .ok (.iload_n 2, 1) := by decide +kernel
theorem dX12_boat_11 : decode cX12_boat 11 = .ok (.i2l, 1) := by decide +kernel
theorem dX12_boat_12 : decode cX12_boat 12 = .ok (.lconst 0, 1) := by decide +kernel
theorem dX12_boat_13 : decode cX12_boat 13 = .ok (.ldc2_w 567, 3) := by decide +kernel
theorem dX12_boat_16 : decode cX12_boat 16 = .ok (.invokestatic 321, 3) := by decide +kernel
theorem dX12_boat_19 : decode cX12_boat 19 = .ok (.ifCond .eq 18, 3) := by decide +kernel
theorem dX12_boat_22 : decode cX12_boat 22 = .ok (.aload_n 0, 1) := by decide +kernel
theorem dX12_boat_23 : decode cX12_boat 23 = .ok (.getfield 166, 3) := by decide +kernel
theorem dX12_boat_26 : decode cX12_boat 26 = .ok (.iconst 2, 1) := by decide +kernel
theorem dX12_boat_27 : decode cX12_boat 27 = .ok (.iconst 4, 1) := by decide +kernel
theorem dX12_boat_28 : decode cX12_boat 28 = .ok (.iload_n 1, 1) := by decide +kernel
theorem dX12_boat_29 : decode cX12_boat 29 = .ok (.imul, 1) := by decide +kernel
theorem dX12_boat_30 : decode cX12_boat 30 = .ok (.iadd, 1) := by decide +kernel
theorem dX12_boat_31 : decode cX12_boat 31 = .ok (.iload_n 2, 1) := by decide +kernel
theorem dX12_boat_32 : decode cX12_boat 32 = .ok (.iadd, 1) := by decide +kernel
theorem dX12_boat_33 : decode cX12_boat 33 = .ok (.iaload, 1) := by decide +kernel
theorem dX12_boat_34 : decode cX12_boat 34 = .ok (.goto 23, 3) := by decide +kernel
theorem dX12_boat_37 : decode cX12_boat 37 = .ok (.iload_n 2, 1) := by decide +kernel
theorem dX12_boat_38 : decode cX12_boat 38 = .ok (.iconst 4, 1) := by decide +kernel
theorem dX12_boat_39 : decode cX12_boat 39 = .ok (.if_icmp .ne 17, 3) := by decide +kernel
theorem dX12_boat_42 : decode cX12_boat 42 = .ok (.aload_n 0, 1) := by decide +kernel
theorem dX12_boat_43 : decode cX12_boat 43 = .ok (.getfield 133, 3) := by decide +kernel
theorem dX12_boat_46 : decode cX12_boat 46 = .ok (.bipush 12, 2) := by decide +kernel
theorem dX12_boat_48 : decode cX12_boat 48 = .ok (.iconst 2, 1) := by decide +kernel
theorem dX12_boat_49 : decode cX12_boat 49 = .ok (.iload_n 1, 1) := by decide +kernel
theorem dX12_boat_50 : decode cX12_boat 50 = .ok (.imul, 1) := by decide +kernel
theorem dX12_boat_51 : decode cX12_boat 51 = .ok (.iadd, 1) := by decide +kernel
theorem dX12_boat_52 : decode cX12_boat 52 = .ok (.iaload, 1) := by decide +kernel
theorem dX12_boat_53 : decode cX12_boat 53 = .ok (.goto 4, 3) := by decide +kernel
theorem dX12_boat_56 : decode cX12_boat 56 = .ok (.iconst (-1), 1) := by decide +kernel
theorem dX12_boat_57 : decode cX12_boat 57 = .ok (.ireturn, 1) := by decide +kernel
theorem dX12_cell_0 : decode cX12_cell 0 = .ok (.aload_n 0, 1) := by decide +kernel
theorem dX12_cell_1 : decode cX12_cell 1 = .ok (.iload_n 1, 1) := by decide +kernel
theorem dX12_cell_2 : decode cX12_cell 2 = .ok (.invokevirtual 489, 3) := by decide +kernel
theorem dX12_cell_5 : decode cX12_cell 5 = .ok (.ifCond .ne 5, 3) := by decide +kernel
theorem dX12_cell_8 : decode cX12_cell 8 = .ok (.iconst (-1), 1) := by decide +kernel
theorem dX12_cell_9 : decode cX12_cell 9 = .ok (.ireturn, 1) := by decide +kernel
theorem dX12_cell_10 : decode cX12_cell 10 = .ok (.iload_n 2, 1) := by decide +kernel
theorem dX12_cell_11 : decode cX12_cell 11 = .ok (.tableswitch 73 0 3 #[29, 47, 61, 67], 29) := by decide +kernel
theorem dX12_cell_40 : decode cX12_cell 40 = .ok (.aload_n 0, 1) := by decide +kernel
theorem dX12_cell_41 : decode cX12_cell 41 = .ok (.iload_n 1, 1) := by decide +kernel
theorem dX12_cell_42 : decode cX12_cell 42 = .ok (.invokevirtual 492, 3) := by decide +kernel
theorem dX12_cell_45 : decode cX12_cell 45 = .ok (.ifCond .eq 7, 3) := by decide +kernel
theorem dX12_cell_48 : decode cX12_cell 48 = .ok (.iconst (-1), 1) := by decide +kernel
theorem dX12_cell_49 : decode cX12_cell 49 = .ok (.goto 8, 3) := by decide +kernel
theorem dX12_cell_52 : decode cX12_cell 52 = .ok (.aload_n 0, 1) := by decide +kernel
theorem dX12_cell_53 : decode cX12_cell 53 = .ok (.iload_n 1, 1) := by decide +kernel
theorem dX12_cell_54 : decode cX12_cell 54 = .ok (.invokevirtual 507, 3) := by decide +kernel
theorem dX12_cell_57 : decode cX12_cell 57 = .ok (.ireturn, 1) := by decide +kernel
theorem dX12_cell_58 : decode cX12_cell 58 = .ok (.aload_n 0, 1) := by decide +kernel
theorem dX12_cell_59 : decode cX12_cell 59 = .ok (.iload_n 1, 1) := by decide +kernel
theorem dX12_cell_60 : decode cX12_cell 60 = .ok (.invokevirtual 495, 3) := by decide +kernel
theorem dX12_cell_63 : decode cX12_cell 63 = .ok (.ifCond .eq 7, 3) := by decide +kernel
theorem dX12_cell_66 : decode cX12_cell 66 = .ok (.iconst 1, 1) := by decide +kernel
theorem dX12_cell_67 : decode cX12_cell 67 = .ok (.goto 4, 3) := by decide +kernel
theorem dX12_cell_70 : decode cX12_cell 70 = .ok (.iconst 0, 1) := by decide +kernel
theorem dX12_cell_71 : decode cX12_cell 71 = .ok (.ireturn, 1) := by decide +kernel
theorem dX12_cell_72 : decode cX12_cell 72 = .ok (.aload_n 0, 1) := by decide +kernel
theorem dX12_cell_73 : decode cX12_cell 73 = .ok (.iload_n 1, 1) := by decide +kernel
theorem dX12_cell_74 : decode cX12_cell 74 = .ok (.invokevirtual 510, 3) := by decide +kernel
theorem dX12_cell_77 : decode cX12_cell 77 = .ok (.ireturn, 1) := by decide +kernel
theorem dX12_cell_78 : decode cX12_cell 78 = .ok (.aload_n 0, 1) := by decide +kernel
theorem dX12_cell_79 : decode cX12_cell 79 = .ok (.iload_n 1, 1) := by decide +kernel
theorem dX12_cell_80 : decode cX12_cell 80 = .ok (.invokevirtual 569, 3) := by decide +kernel
theorem dX12_cell_83 : decode cX12_cell 83 = .ok (.ireturn, 1) := by decide +kernel
theorem dX12_cell_84 : decode cX12_cell 84 = .ok (.iconst (-1), 1) := by decide +kernel
theorem dX12_cell_85 : decode cX12_cell 85 = .ok (.ireturn, 1) := by decide +kernel
theorem dX12_isHand_0 : decode cX12_isHand 0 = .ok (.iload_n 1, 1) := by decide +kernel
theorem dX12_isHand_1 : decode cX12_isHand 1 = .ok (.i2l, 1) := by decide +kernel
theorem dX12_isHand_2 : decode cX12_isHand 2 = .ok (.lconst 0, 1) := by decide +kernel
theorem dX12_isHand_3 : decode cX12_isHand 3 = .ok (.aload_n 0, 1) := by decide +kernel
theorem dX12_isHand_4 : decode cX12_isHand 4 = .ok (.invokevirtual 572, 3) := by decide +kernel
theorem dX12_isHand_7 : decode cX12_isHand 7 = .ok (.iconst 1, 1) := by decide +kernel
theorem dX12_isHand_8 : decode cX12_isHand 8 = .ok (.isub, 1) := by decide +kernel
theorem dX12_isHand_9 : decode cX12_isHand 9 = .ok (.i2l, 1) := by decide +kernel
theorem dX12_isHand_10 : decode cX12_isHand 10 = .ok (.invokestatic 321, 3) := by decide +kernel
theorem dX12_isHand_13 : decode cX12_isHand 13 = .ok (.ireturn, 1) := by decide +kernel
theorem dX12_boatWith_0 : decode cX12_boatWith 0 = .ok (.iconst 0, 1) := by decide +kernel
theorem dX12_boatWith_1 : decode cX12_boatWith 1 = .ok (.istore_n 2, 1) := by decide +kernel
theorem dX12_boatWith_2 : decode cX12_boatWith 2 = .ok (.iload_n 2, 1) := by decide +kernel
theorem dX12_boatWith_3 : decode cX12_boatWith 3 = .ok (.aload_n 0, 1) := by decide +kernel
theorem dX12_boatWith_4 : decode cX12_boatWith 4 = .ok (.invokevirtual 483, 3) := by decide +kernel
theorem dX12_boatWith_7 : decode cX12_boatWith 7 = .ok (.if_icmp .ge 20, 3) := by decide +kernel
theorem dX12_boatWith_10 : decode cX12_boatWith 10 = .ok (.aload_n 0, 1) := by decide +kernel
theorem dX12_boatWith_11 : decode cX12_boatWith 11 = .ok (.iload_n 2, 1) := by decide +kernel
theorem dX12_boatWith_12 : decode cX12_boatWith 12 = .ok (.invokevirtual 519, 3) := by decide +kernel
theorem dX12_boatWith_15 : decode cX12_boatWith 15 = .ok (.iload_n 1, 1) := by decide +kernel
theorem dX12_boatWith_16 : decode cX12_boatWith 16 = .ok (.if_icmp .ne 5, 3) := by decide +kernel
theorem dX12_boatWith_19 : decode cX12_boatWith 19 = .ok (.iload_n 2, 1) := by decide +kernel
theorem dX12_boatWith_20 : decode cX12_boatWith 20 = .ok (.ireturn, 1) := by decide +kernel
theorem dX12_boatWith_21 : decode cX12_boatWith 21 = .ok (.iinc 2 1, 3) := by decide +kernel
theorem dX12_boatWith_24 : decode cX12_boatWith 24 = .ok (.goto (-22), 3) := by decide +kernel
theorem dX12_boatWith_27 : decode cX12_boatWith 27 = .ok (.iconst (-1), 1) := by decide +kernel
theorem dX12_boatWith_28 : decode cX12_boatWith 28 = .ok (.ireturn, 1) := by decide +kernel
theorem dX12_hand_0 : decode cX12_hand 0 = .ok (.aload_n 0, 1) := by decide +kernel
theorem dX12_hand_1 : decode cX12_hand 1 = .ok (.iload_n 1, 1) := by decide +kernel
theorem dX12_hand_2 : decode cX12_hand 2 = .ok (.invokevirtual 575, 3) := by decide +kernel
theorem dX12_hand_5 : decode cX12_hand 5 = .ok (.ifCond .ne 5, 3) := by decide +kernel
theorem dX12_hand_8 : decode cX12_hand 8 = .ok (.iconst (-1), 1) := by decide +kernel
theorem dX12_hand_9 : decode cX12_hand 9 = .ok (.ireturn, 1) := by decide +kernel
theorem dX12_hand_10 : decode cX12_hand 10 = .ok (.iload_n 2, 1) := by decide +kernel
theorem dX12_hand_11 : decode cX12_hand 11 = .ok (.ifCond .ne 15, 3) := by decide +kernel
theorem dX12_hand_14 : decode cX12_hand 14 = .ok (.aload_n 0, 1) := by decide +kernel
theorem dX12_hand_15 : decode cX12_hand 15 = .ok (.getfield 136, 3) := by decide +kernel
theorem dX12_hand_18 : decode cX12_hand 18 = .ok (.bipush 6, 2) := by decide +kernel
theorem dX12_hand_20 : decode cX12_hand 20 = .ok (.iload_n 1, 1) := by decide +kernel
theorem dX12_hand_21 : decode cX12_hand 21 = .ok (.iadd, 1) := by decide +kernel
theorem dX12_hand_22 : decode cX12_hand 22 = .ok (.iaload, 1) := by decide +kernel
theorem dX12_hand_23 : decode cX12_hand 23 = .ok (.goto 17, 3) := by decide +kernel
theorem dX12_hand_26 : decode cX12_hand 26 = .ok (.iload_n 2, 1) := by decide +kernel
theorem dX12_hand_27 : decode cX12_hand 27 = .ok (.iconst 1, 1) := by decide +kernel
theorem dX12_hand_28 : decode cX12_hand 28 = .ok (.if_icmp .ne 11, 3) := by decide +kernel
theorem dX12_hand_31 : decode cX12_hand 31 = .ok (.aload_n 0, 1) := by decide +kernel
theorem dX12_hand_32 : decode cX12_hand 32 = .ok (.iload_n 1, 1) := by decide +kernel
theorem dX12_hand_33 : decode cX12_hand 33 = .ok (.invokevirtual 578, 3) := by decide +kernel
theorem dX12_hand_36 : decode cX12_hand 36 = .ok (.goto 4, 3) := by decide +kernel
theorem dX12_hand_39 : decode cX12_hand 39 = .ok (.iconst (-1), 1) := by decide +kernel
theorem dX12_hand_40 : decode cX12_hand 40 = .ok (.ireturn, 1) := by decide +kernel
theorem dX12_liked_0 : decode cX12_liked 0 = .ok (.aload_n 0, 1) := by decide +kernel
theorem dX12_liked_1 : decode cX12_liked 1 = .ok (.getfield 139, 3) := by decide +kernel
theorem dX12_liked_4 : decode cX12_liked 4 = .ok (.bipush 36, 2) := by decide +kernel
theorem dX12_liked_6 : decode cX12_liked 6 = .ok (.bipush 6, 2) := by decide +kernel
theorem dX12_liked_8 : decode cX12_liked 8 = .ok (.iload_n 1, 1) := by decide +kernel
theorem dX12_liked_9 : decode cX12_liked 9 = .ok (.imul, 1) := by decide +kernel
theorem dX12_liked_10 : decode cX12_liked 10 = .ok (.iadd, 1) := by decide +kernel
theorem dX12_liked_11 : decode cX12_liked 11 = .ok (.iload_n 2, 1) := by decide +kernel
theorem dX12_liked_12 : decode cX12_liked 12 = .ok (.iadd, 1) := by decide +kernel
theorem dX12_liked_13 : decode cX12_liked 13 = .ok (.iaload, 1) := by decide +kernel
theorem dX12_liked_14 : decode cX12_liked 14 = .ok (.ireturn, 1) := by decide +kernel
theorem dX12_likes_0 : decode cX12_likes 0 = .ok (.aload_n 0, 1) := by decide +kernel
theorem dX12_likes_1 : decode cX12_likes 1 = .ok (.iload_n 1, 1) := by decide +kernel
theorem dX12_likes_2 : decode cX12_likes 2 = .ok (.invokevirtual 564, 3) := by decide +kernel
theorem dX12_likes_5 : decode cX12_likes 5 = .ok (.ifCond .eq 20, 3) := by decide +kernel
theorem dX12_likes_8 : decode cX12_likes 8 = .ok (.aload_n 0, 1) := by decide +kernel
theorem dX12_likes_9 : decode cX12_likes 9 = .ok (.iload_n 2, 1) := by decide +kernel
theorem dX12_likes_10 : decode cX12_likes 10 = .ok (.invokevirtual 575, 3) := by decide +kernel
theorem dX12_likes_13 : decode cX12_likes 13 = .ok (.ifCond .eq 12, 3) := by decide +kernel
theorem dX12_likes_16 : decode cX12_likes 16 = .ok (.aload_n 0, 1) := by decide +kernel
theorem dX12_likes_17 : decode cX12_likes 17 = .ok (.iload_n 1, 1) := by decide +kernel
theorem dX12_likes_18 : decode cX12_likes 18 = .ok (.iload_n 2, 1) := by decide +kernel
theorem dX12_likes_19 : decode cX12_likes 19 = .ok (.invokevirtual 581, 3) := by decide +kernel
theorem dX12_likes_22 : decode cX12_likes 22 = .ok (.goto 4, 3) := by decide +kernel
theorem dX12_likes_25 : decode cX12_likes 25 = .ok (.iconst (-1), 1) := by decide +kernel
theorem dX12_likes_26 : decode cX12_likes 26 = .ok (.ireturn, 1) := by decide +kernel
theorem dX12_sky_0 : decode cX12_sky 0 = .ok (.iload_n 1, 1) := by decide +kernel
theorem dX12_sky_1 : decode cX12_sky 1 = .ok (.i2l, 1) := by decide +kernel
theorem dX12_sky_2 : decode cX12_sky 2 = .ok (.lconst 0, 1) := by decide +kernel
theorem dX12_sky_3 : decode cX12_sky 3 = .ok (.ldc2_w 584, 3) := by decide +kernel
theorem dX12_sky_6 : decode cX12_sky 6 = .ok (.invokestatic 321, 3) := by decide +kernel
theorem dX12_sky_9 : decode cX12_sky 9 = .ok (.ifCond .eq 11, 3) := by decide +kernel
theorem dX12_sky_12 : decode cX12_sky 12 = .ok (.aload_n 0, 1) := by decide +kernel
theorem dX12_sky_13 : decode cX12_sky 13 = .ok (.iload_n 1, 1) := by decide +kernel
theorem dX12_sky_14 : decode cX12_sky 14 = .ok (.invokevirtual 513, 3) := by decide +kernel
theorem dX12_sky_17 : decode cX12_sky 17 = .ok (.goto 4, 3) := by decide +kernel
theorem dX12_sky_20 : decode cX12_sky 20 = .ok (.iconst (-1), 1) := by decide +kernel
theorem dX12_sky_21 : decode cX12_sky 21 = .ok (.ireturn, 1) := by decide +kernel
theorem dX12_kept_0 : decode cX12_kept 0 = .ok (.iload_n 1, 1) := by decide +kernel
theorem dX12_kept_1 : decode cX12_kept 1 = .ok (.i2l, 1) := by decide +kernel
theorem dX12_kept_2 : decode cX12_kept 2 = .ok (.lconst 0, 1) := by decide +kernel
theorem dX12_kept_3 : decode cX12_kept 3 = .ok (.aload_n 0, 1) := by decide +kernel
theorem dX12_kept_4 : decode cX12_kept 4 = .ok (.getfield 166, 3) := by decide +kernel
theorem dX12_kept_7 : decode cX12_kept 7 = .ok (.bipush 26, 2) := by decide +kernel
theorem dX12_kept_9 : decode cX12_kept 9 = .ok (.iaload, 1) := by decide +kernel
theorem dX12_kept_10 : decode cX12_kept 10 = .ok (.iconst 1, 1) := by decide +kernel
theorem dX12_kept_11 : decode cX12_kept 11 = .ok (.isub, 1) := by decide +kernel
theorem dX12_kept_12 : decode cX12_kept 12 = .ok (.i2l, 1) := by decide +kernel
theorem dX12_kept_13 : decode cX12_kept 13 = .ok (.invokestatic 321, 3) := by decide +kernel
theorem dX12_kept_16 : decode cX12_kept 16 = .ok (.ifCond .eq 31, 3) := by decide +kernel
theorem dX12_kept_19 : decode cX12_kept 19 = .ok (.iload_n 2, 1) := by decide +kernel
theorem dX12_kept_20 : decode cX12_kept 20 = .ok (.i2l, 1) := by decide +kernel
theorem dX12_kept_21 : decode cX12_kept 21 = .ok (.lconst 0, 1) := by decide +kernel
theorem dX12_kept_22 : decode cX12_kept 22 = .ok (.ldc2_w 567, 3) := by decide +kernel
theorem dX12_kept_25 : decode cX12_kept 25 = .ok (.invokestatic 321, 3) := by decide +kernel
theorem dX12_kept_28 : decode cX12_kept 28 = .ok (.ifCond .eq 19, 3) := by decide +kernel
theorem dX12_kept_31 : decode cX12_kept 31 = .ok (.aload_n 0, 1) := by decide +kernel
theorem dX12_kept_32 : decode cX12_kept 32 = .ok (.getfield 166, 3) := by decide +kernel
theorem dX12_kept_35 : decode cX12_kept 35 = .ok (.bipush 27, 2) := by decide +kernel
theorem dX12_kept_37 : decode cX12_kept 37 = .ok (.iconst 4, 1) := by decide +kernel
theorem dX12_kept_38 : decode cX12_kept 38 = .ok (.iload_n 1, 1) := by decide +kernel
theorem dX12_kept_39 : decode cX12_kept 39 = .ok (.imul, 1) := by decide +kernel
theorem dX12_kept_40 : decode cX12_kept 40 = .ok (.iadd, 1) := by decide +kernel
theorem dX12_kept_41 : decode cX12_kept 41 = .ok (.iload_n 2, 1) := by decide +kernel
theorem dX12_kept_42 : decode cX12_kept 42 = .ok (.iadd, 1) := by decide +kernel
theorem dX12_kept_43 : decode cX12_kept 43 = .ok (.iaload, 1) := by decide +kernel
theorem dX12_kept_44 : decode cX12_kept 44 = .ok (.goto 4, 3) := by decide +kernel
theorem dX12_kept_47 : decode cX12_kept 47 = .ok (.iconst (-1), 1) := by decide +kernel
theorem dX12_kept_48 : decode cX12_kept 48 = .ok (.ireturn, 1) := by decide +kernel
theorem dX12_laysFears_0 : decode cX12_laysFears 0 = .ok (.iconst 0, 1) := by decide +kernel
theorem dX12_laysFears_1 : decode cX12_laysFears 1 = .ok (.istore_n 2, 1) := by decide +kernel
theorem dX12_laysFears_2 : decode cX12_laysFears 2 = .ok (.iload_n 2, 1) := by decide +kernel
theorem dX12_laysFears_3 : decode cX12_laysFears 3 = .ok (.aload_n 0, 1) := by decide +kernel
theorem dX12_laysFears_4 : decode cX12_laysFears 4 = .ok (.invokevirtual 480, 3) := by decide +kernel
theorem dX12_laysFears_7 : decode cX12_laysFears 7 = .ok (.if_icmp .ge 36, 3) := by decide +kernel
theorem dX12_laysFears_10 : decode cX12_laysFears 10 = .ok (.aload_n 0, 1) := by decide +kernel
theorem dX12_laysFears_11 : decode cX12_laysFears 11 = .ok (.getfield 172, 3) := by decide +kernel
theorem dX12_laysFears_14 : decode cX12_laysFears 14 = .ok (.iload_n 2, 1) := by decide +kernel
theorem dX12_laysFears_15 : decode cX12_laysFears 15 = .ok (.aload_n 0, 1) := by decide +kernel
theorem dX12_laysFears_16 : decode cX12_laysFears 16 = .ok (.iload_n 2, 1) := by decide +kernel
theorem dX12_laysFears_17 : decode cX12_laysFears 17 = .ok (.invokevirtual 492, 3) := by decide +kernel
theorem dX12_laysFears_20 : decode cX12_laysFears 20 = .ok (.ifCond .eq 9, 3) := by decide +kernel
theorem dX12_laysFears_23 : decode cX12_laysFears 23 = .ok (.ldc_w 586, 3) := by decide +kernel
theorem dX12_laysFears_26 : decode cX12_laysFears 26 = .ok (.goto 10, 3) := by decide +kernel
theorem dX12_laysFears_29 : decode cX12_laysFears 29 = .ok (.aload_n 0, 1) := by decide +kernel
theorem dX12_laysFears_30 : decode cX12_laysFears 30 = .ok (.iload_n 1, 1) := by decide +kernel
theorem dX12_laysFears_31 : decode cX12_laysFears 31 = .ok (.iload_n 2, 1) := by decide +kernel
theorem dX12_laysFears_32 : decode cX12_laysFears 32 = .ok (.iconst (-1), 1) := by decide +kernel
theorem dX12_laysFears_33 : decode cX12_laysFears 33 = .ok (.invokevirtual 541, 3) := by decide +kernel
theorem dX12_laysFears_36 : decode cX12_laysFears 36 = .ok (.iastore, 1) := by decide +kernel
theorem dX12_laysFears_37 : decode cX12_laysFears 37 = .ok (.iinc 2 1, 3) := by decide +kernel
theorem dX12_laysFears_40 : decode cX12_laysFears 40 = .ok (.goto (-38), 3) := by decide +kernel
theorem dX12_laysFears_43 : decode cX12_laysFears 43 = .ok (.return_, 1) := by decide +kernel
theorem dX12_dread_0 : decode cX12_dread 0 = .ok (.aload_n 0, 1) := by decide +kernel
theorem dX12_dread_1 : decode cX12_dread 1 = .ok (.iload_n 1, 1) := by decide +kernel
theorem dX12_dread_2 : decode cX12_dread 2 = .ok (.invokevirtual 564, 3) := by decide +kernel
theorem dX12_dread_5 : decode cX12_dread 5 = .ok (.ifCond .eq 29, 3) := by decide +kernel
theorem dX12_dread_8 : decode cX12_dread 8 = .ok (.aload_n 0, 1) := by decide +kernel
theorem dX12_dread_9 : decode cX12_dread 9 = .ok (.iload_n 2, 1) := by decide +kernel
theorem dX12_dread_10 : decode cX12_dread 10 = .ok (.invokevirtual 556, 3) := by decide +kernel
theorem dX12_dread_13 : decode cX12_dread 13 = .ok (.ifCond .eq 21, 3) := by decide +kernel
theorem dX12_dread_16 : decode cX12_dread 16 = .ok (.iload_n 3, 1) := by decide +kernel
theorem dX12_dread_17 : decode cX12_dread 17 = .ok (.iconst (-1), 1) := by decide +kernel
theorem dX12_dread_18 : decode cX12_dread 18 = .ok (.if_icmp .eq 18, 3) := by decide +kernel
theorem dX12_dread_21 : decode cX12_dread 21 = .ok (.aload_n 0, 1) := by decide +kernel
theorem dX12_dread_22 : decode cX12_dread 22 = .ok (.iload_n 3, 1) := by decide +kernel
theorem dX12_dread_23 : decode cX12_dread 23 = .ok (.invokevirtual 564, 3) := by decide +kernel
theorem dX12_dread_26 : decode cX12_dread 26 = .ok (.ifCond .eq 8, 3) := by decide +kernel
theorem dX12_dread_29 : decode cX12_dread 29 = .ok (.iload_n 3, 1) := by decide +kernel
theorem dX12_dread_30 : decode cX12_dread 30 = .ok (.iload_n 1, 1) := by decide +kernel
