theorem dX12_number_118 : decode cX12_number 118 = .ok (.getfield 284, 3) := by decide +kernel
theorem dX12_number_121 : decode cX12_number 121 = .ok (.iconst 1, 1) := by decide +kernel
theorem dX12_number_122 : decode cX12_number 122 = .ok (.iadd, 1) := by decide +kernel
theorem dX12_number_123 : decode cX12_number 123 = .ok (.putfield 284, 3) := by decide +kernel
theorem dX12_number_126 : decode cX12_number 126 = .ok (.goto (-77), 3) := by decide +kernel
theorem dX12_number_129 : decode cX12_number 129 = .ok (.aload_n 0, 1) := by decide +kernel
theorem dX12_number_130 : decode cX12_number 130 = .ok (.aload_n 0, 1) := by decide +kernel
theorem dX12_number_131 : decode cX12_number 131 = .ok (.getfield 284, 3) := by decide +kernel
theorem dX12_number_134 : decode cX12_number 134 = .ok (.putfield 298, 3) := by decide +kernel
theorem dX12_number_137 : decode cX12_number 137 = .ok (.aload_n 0, 1) := by decide +kernel
theorem dX12_number_138 : decode cX12_number 138 = .ok (.iload_n 3, 1) := by decide +kernel
theorem dX12_number_139 : decode cX12_number 139 = .ok (.putfield 318, 3) := by decide +kernel
theorem dX12_number_142 : decode cX12_number 142 = .ok (.iload 4, 2) := by decide +kernel
theorem dX12_number_144 : decode cX12_number 144 = .ok (.i2l, 1) := by decide +kernel
theorem dX12_number_145 : decode cX12_number 145 = .ok (.iload_n 1, 1) := by decide +kernel
theorem dX12_number_146 : decode cX12_number 146 = .ok (.i2l, 1) := by decide +kernel
theorem dX12_number_147 : decode cX12_number 147 = .ok (.iload_n 2, 1) := by decide +kernel
theorem dX12_number_148 : decode cX12_number 148 = .ok (.i2l, 1) := by decide +kernel
theorem dX12_number_149 : decode cX12_number 149 = .ok (.invokestatic 321, 3) := by decide +kernel
theorem dX12_number_152 : decode cX12_number 152 = .ok (.ifCond .ne 9, 3) := by decide +kernel
theorem dX12_number_155 : decode cX12_number 155 = .ok (.aload_n 0, 1) := by decide +kernel
theorem dX12_number_156 : decode cX12_number 156 = .ok (.iconst 2, 1) := by decide +kernel
theorem dX12_number_157 : decode cX12_number 157 = .ok (.iload_n 3, 1) := by decide +kernel
theorem dX12_number_158 : decode cX12_number 158 = .ok (.invokevirtual 308, 3) := by decide +kernel
theorem dX12_number_161 : decode cX12_number 161 = .ok (.iload 4, 2) := by decide +kernel
theorem dX12_number_163 : decode cX12_number 163 = .ok (.ireturn, 1) := by decide +kernel
theorem dX12_isOwnHere_0 : decode cX12_isOwnHere 0 = .ok (.aload_n 0, 1) := by decide +kernel
theorem dX12_isOwnHere_1 : decode cX12_isOwnHere 1 = .ok (.aload_n 0, 1) := by decide +kernel
theorem dX12_isOwnHere_2 : decode cX12_isOwnHere 2 = .ok (.getfield 20, 3) := by decide +kernel
theorem dX12_isOwnHere_5 : decode cX12_isOwnHere 5 = .ok (.invokevirtual 301, 3) := by decide +kernel
theorem dX12_isOwnHere_8 : decode cX12_isOwnHere 8 = .ok (.ifCond .ne 58, 3) := by decide +kernel
theorem dX12_isOwnHere_11 : decode cX12_isOwnHere 11 = .ok (.aload_n 0, 1) := by decide +kernel
theorem dX12_isOwnHere_12 : decode cX12_isOwnHere 12 = .ok (.aload_n 0, 1) := by decide +kernel
theorem dX12_isOwnHere_13 : decode cX12_isOwnHere 13 = .ok (.getfield 24, 3) := by decide +kernel
theorem dX12_isOwnHere_16 : decode cX12_isOwnHere 16 = .ok (.invokevirtual 301, 3) := by decide +kernel
theorem dX12_isOwnHere_19 : decode cX12_isOwnHere 19 = .ok (.ifCond .ne 47, 3) := by decide +kernel
theorem dX12_isOwnHere_22 : decode cX12_isOwnHere 22 = .ok (.aload_n 0, 1) := by decide +kernel
theorem dX12_isOwnHere_23 : decode cX12_isOwnHere 23 = .ok (.aload_n 0, 1) := by decide +kernel
theorem dX12_isOwnHere_24 : decode cX12_isOwnHere 24 = .ok (.getfield 27, 3) := by decide +kernel
theorem dX12_isOwnHere_27 : decode cX12_isOwnHere 27 = .ok (.invokevirtual 301, 3) := by decide +kernel
theorem dX12_isOwnHere_30 : decode cX12_isOwnHere 30 = .ok (.ifCond .ne 36, 3) := by decide +kernel
theorem dX12_isOwnHere_33 : decode cX12_isOwnHere 33 = .ok (.aload_n 0, 1) := by decide +kernel
theorem dX12_isOwnHere_34 : decode cX12_isOwnHere 34 = .ok (.aload_n 0, 1) := by decide +kernel
theorem dX12_isOwnHere_35 : decode cX12_isOwnHere 35 = .ok (.getfield 30, 3) := by decide +kernel
theorem dX12_isOwnHere_38 : decode cX12_isOwnHere 38 = .ok (.invokevirtual 301, 3) := by decide +kernel
theorem dX12_isOwnHere_41 : decode cX12_isOwnHere 41 = .ok (.ifCond .ne 25, 3) := by decide +kernel
theorem dX12_isOwnHere_44 : decode cX12_isOwnHere 44 = .ok (.aload_n 0, 1) := by decide +kernel
theorem dX12_isOwnHere_45 : decode cX12_isOwnHere 45 = .ok (.aload_n 0, 1) := by decide +kernel
theorem dX12_isOwnHere_46 : decode cX12_isOwnHere 46 = .ok (.getfield 33, 3) := by decide +kernel
theorem dX12_isOwnHere_49 : decode cX12_isOwnHere 49 = .ok (.invokevirtual 301, 3) := by decide +kernel
theorem dX12_isOwnHere_52 : decode cX12_isOwnHere 52 = .ok (.ifCond .ne 14, 3) := by decide +kernel
theorem dX12_isOwnHere_55 : decode cX12_isOwnHere 55 = .ok (.aload_n 0, 1) := by decide +kernel
theorem dX12_isOwnHere_56 : decode cX12_isOwnHere 56 = .ok (.aload_n 0, 1) := by decide +kernel
theorem dX12_isOwnHere_57 : decode cX12_isOwnHere 57 = .ok (.getfield 36, 3) := by decide +kernel
theorem dX12_isOwnHere_60 : decode cX12_isOwnHere 60 = .ok (.invokevirtual 301, 3) := by decide +kernel
theorem dX12_isOwnHere_63 : decode cX12_isOwnHere 63 = .ok (.ifCond .eq 7, 3) := by decide +kernel
theorem dX12_isOwnHere_66 : decode cX12_isOwnHere 66 = .ok (.iconst 1, 1) := by decide +kernel
theorem dX12_isOwnHere_67 : decode cX12_isOwnHere 67 = .ok (.goto 4, 3) := by decide +kernel
theorem dX12_isOwnHere_70 : decode cX12_isOwnHere 70 = .ok (.iconst 0, 1) := by decide +kernel
theorem dX12_isOwnHere_71 : decode cX12_isOwnHere 71 = .ok (.istore_n 1, 1) := by decide +kernel
theorem dX12_isOwnHere_72 : decode cX12_isOwnHere 72 = .ok (.iload_n 1, 1) := by decide +kernel
theorem dX12_isOwnHere_73 : decode cX12_isOwnHere 73 = .ok (.ifCond .ne 69, 3) := by decide +kernel
theorem dX12_isOwnHere_76 : decode cX12_isOwnHere 76 = .ok (.aload_n 0, 1) := by decide +kernel
theorem dX12_isOwnHere_77 : decode cX12_isOwnHere 77 = .ok (.aload_n 0, 1) := by decide +kernel
theorem dX12_isOwnHere_78 : decode cX12_isOwnHere 78 = .ok (.getfield 39, 3) := by decide +kernel
theorem dX12_isOwnHere_81 : decode cX12_isOwnHere 81 = .ok (.invokevirtual 301, 3) := by decide +kernel
theorem dX12_isOwnHere_84 : decode cX12_isOwnHere 84 = .ok (.ifCond .ne 58, 3) := by decide +kernel
theorem dX12_isOwnHere_87 : decode cX12_isOwnHere 87 = .ok (.aload_n 0, 1) := by decide +kernel
theorem dX12_isOwnHere_88 : decode cX12_isOwnHere 88 = .ok (.aload_n 0, 1) := by decide +kernel
theorem dX12_isOwnHere_89 : decode cX12_isOwnHere 89 = .ok (.getfield 42, 3) := by decide +kernel
theorem dX12_isOwnHere_92 : decode cX12_isOwnHere 92 = .ok (.invokevirtual 301, 3) := by decide +kernel
theorem dX12_isOwnHere_95 : decode cX12_isOwnHere 95 = .ok (.ifCond .ne 47, 3) := by decide +kernel
theorem dX12_isOwnHere_98 : decode cX12_isOwnHere 98 = .ok (.aload_n 0, 1) := by decide +kernel
theorem dX12_isOwnHere_99 : decode cX12_isOwnHere 99 = .ok (.aload_n 0, 1) := by decide +kernel
theorem dX12_isOwnHere_100 : decode cX12_isOwnHere 100 = .ok (.getfield 45, 3) := by decide +kernel
theorem dX12_isOwnHere_103 : decode cX12_isOwnHere 103 = .ok (.invokevirtual 301, 3) := by decide +kernel
theorem dX12_isOwnHere_106 : decode cX12_isOwnHere 106 = .ok (.ifCond .ne 36, 3) := by decide +kernel
theorem dX12_isOwnHere_109 : decode cX12_isOwnHere 109 = .ok (.aload_n 0, 1) := by decide +kernel
theorem dX12_isOwnHere_110 : decode cX12_isOwnHere 110 = .ok (.aload_n 0, 1) := by decide +kernel
theorem dX12_isOwnHere_111 : decode cX12_isOwnHere 111 = .ok (.getfield 48, 3) := by decide +kernel
theorem dX12_isOwnHere_114 : decode cX12_isOwnHere 114 = .ok (.invokevirtual 301, 3) := by decide +kernel
theorem dX12_isOwnHere_117 : decode cX12_isOwnHere 117 = .ok (.ifCond .ne 25, 3) := by decide +kernel
theorem dX12_isOwnHere_120 : decode cX12_isOwnHere 120 = .ok (.aload_n 0, 1) := by decide +kernel
theorem dX12_isOwnHere_121 : decode cX12_isOwnHere 121 = .ok (.aload_n 0, 1) := by decide +kernel
theorem dX12_isOwnHere_122 : decode cX12_isOwnHere 122 = .ok (.getfield 51, 3) := by decide +kernel
theorem dX12_isOwnHere_125 : decode cX12_isOwnHere 125 = .ok (.invokevirtual 301, 3) := by decide +kernel
theorem dX12_isOwnHere_128 : decode cX12_isOwnHere 128 = .ok (.ifCond .ne 14, 3) := by decide +kernel
theorem dX12_isOwnHere_131 : decode cX12_isOwnHere 131 = .ok (.aload_n 0, 1) := by decide +kernel
theorem dX12_isOwnHere_132 : decode cX12_isOwnHere 132 = .ok (.aload_n 0, 1) := by decide +kernel
theorem dX12_isOwnHere_133 : decode cX12_isOwnHere 133 = .ok (.getfield 54, 3) := by decide +kernel
theorem dX12_isOwnHere_136 : decode cX12_isOwnHere 136 = .ok (.invokevirtual 301, 3) := by decide +kernel
theorem dX12_isOwnHere_139 : decode cX12_isOwnHere 139 = .ok (.ifCond .eq 7, 3) := by decide +kernel
theorem dX12_isOwnHere_142 : decode cX12_isOwnHere 142 = .ok (.iconst 1, 1) := by decide +kernel
theorem dX12_isOwnHere_143 : decode cX12_isOwnHere 143 = .ok (.goto 4, 3) := by decide +kernel
theorem dX12_isOwnHere_146 : decode cX12_isOwnHere 146 = .ok (.iconst 0, 1) := by decide +kernel
theorem dX12_isOwnHere_147 : decode cX12_isOwnHere 147 = .ok (.istore_n 1, 1) := by decide +kernel
theorem dX12_isOwnHere_148 : decode cX12_isOwnHere 148 = .ok (.iload_n 1, 1) := by decide +kernel
theorem dX12_isOwnHere_149 : decode cX12_isOwnHere 149 = .ok (.ifCond .ne 69, 3) := by decide +kernel
theorem dX12_isOwnHere_152 : decode cX12_isOwnHere 152 = .ok (.aload_n 0, 1) := by decide +kernel
theorem dX12_isOwnHere_153 : decode cX12_isOwnHere 153 = .ok (.aload_n 0, 1) := by decide +kernel
theorem dX12_isOwnHere_154 : decode cX12_isOwnHere 154 = .ok (.getfield 57, 3) := by decide +kernel
theorem dX12_isOwnHere_157 : decode cX12_isOwnHere 157 = .ok (.invokevirtual 301, 3) := by decide +kernel
theorem dX12_isOwnHere_160 : decode cX12_isOwnHere 160 = .ok (.ifCond .ne 58, 3) := by decide +kernel
theorem dX12_isOwnHere_163 : decode cX12_isOwnHere 163 = .ok (.aload_n 0, 1) := by decide +kernel
theorem dX12_isOwnHere_164 : decode cX12_isOwnHere 164 = .ok (.aload_n 0, 1) := by decide +kernel
theorem dX12_isOwnHere_165 : decode cX12_isOwnHere 165 = .ok (.getfield 60, 3) := by decide +kernel
theorem dX12_isOwnHere_168 : decode cX12_isOwnHere 168 = .ok (.invokevirtual 301, 3) := by decide +kernel
theorem dX12_isOwnHere_171 : decode cX12_isOwnHere 171 = .ok (.ifCond .ne 47, 3) := by decide +kernel
theorem dX12_isOwnHere_174 : decode cX12_isOwnHere 174 = .ok (.aload_n 0, 1) := by decide +kernel
theorem dX12_isOwnHere_175 : decode cX12_isOwnHere 175 = .ok (.aload_n 0, 1) := by decide +kernel
theorem dX12_isOwnHere_176 : decode cX12_isOwnHere 176 = .ok (.getfield 63, 3) := by decide +kernel
theorem dX12_isOwnHere_179 : decode cX12_isOwnHere 179 = .ok (.invokevirtual 301, 3) := by decide +kernel
theorem dX12_isOwnHere_182 : decode cX12_isOwnHere 182 = .ok (.ifCond .ne 36, 3) := by decide +kernel
theorem dX12_isOwnHere_185 : decode cX12_isOwnHere 185 = .ok (.aload_n 0, 1) := by decide +kernel
theorem dX12_isOwnHere_186 : decode cX12_isOwnHere 186 = .ok (.aload_n 0, 1) := by decide +kernel
theorem dX12_isOwnHere_187 : decode cX12_isOwnHere 187 = .ok (.getfield 66, 3) := by decide +kernel
theorem dX12_isOwnHere_190 : decode cX12_isOwnHere 190 = .ok (.invokevirtual 301, 3) := by decide +kernel
theorem dX12_isOwnHere_193 : decode cX12_isOwnHere 193 = .ok (.ifCond .ne 25, 3) := by decide +kernel
theorem dX12_isOwnHere_196 : decode cX12_isOwnHere 196 = .ok (.aload_n 0, 1) := by decide +kernel
theorem dX12_isOwnHere_197 : decode cX12_isOwnHere 197 = .ok (.aload_n 0, 1) := by decide +kernel
theorem dX12_isOwnHere_198 : decode cX12_isOwnHere 198 = .ok (.getfield 69, 3) := by decide +kernel
theorem dX12_isOwnHere_201 : decode cX12_isOwnHere 201 = .ok (.invokevirtual 301, 3) := by decide +kernel
theorem dX12_isOwnHere_204 : decode cX12_isOwnHere 204 = .ok (.ifCond .ne 14, 3) := by decide +kernel
theorem dX12_isOwnHere_207 : decode cX12_isOwnHere 207 = .ok (.aload_n 0, 1) := by decide +kernel
theorem dX12_isOwnHere_208 : decode cX12_isOwnHere 208 = .ok (.aload_n 0, 1) := by decide +kernel
theorem dX12_isOwnHere_209 : decode cX12_isOwnHere 209 = .ok (.getfield 72, 3) := by decide +kernel
theorem dX12_isOwnHere_212 : decode cX12_isOwnHere 212 = .ok (.invokevirtual 301, 3) := by decide +kernel
theorem dX12_isOwnHere_215 : decode cX12_isOwnHere 215 = .ok (.ifCond .eq 7, 3) := by decide +kernel
theorem dX12_isOwnHere_218 : decode cX12_isOwnHere 218 = .ok (.iconst 1, 1) := by decide +kernel
theorem dX12_isOwnHere_219 : decode cX12_isOwnHere 219 = .ok (.goto 4, 3) := by decide +kernel
theorem dX12_isOwnHere_222 : decode cX12_isOwnHere 222 = .ok (.iconst 0, 1) := by decide +kernel
theorem dX12_isOwnHere_223 : decode cX12_isOwnHere 223 = .ok (.istore_n 1, 1) := by decide +kernel
theorem dX12_isOwnHere_224 : decode cX12_isOwnHere 224 = .ok (.iload_n 1, 1) := by decide +kernel
theorem dX12_isOwnHere_225 : decode cX12_isOwnHere 225 = .ok (.ifCond .ne 69, 3) := by decide +kernel
theorem dX12_isOwnHere_228 : decode cX12_isOwnHere 228 = .ok (.aload_n 0, 1) := by decide +kernel
theorem dX12_isOwnHere_229 : decode cX12_isOwnHere 229 = .ok (.aload_n 0, 1) := by decide +kernel
theorem dX12_isOwnHere_230 : decode cX12_isOwnHere 230 = .ok (.getfield 75, 3) := by decide +kernel
theorem dX12_isOwnHere_233 : decode cX12_isOwnHere 233 = .ok (.invokevirtual 301, 3) := by decide +kernel
theorem dX12_isOwnHere_236 : decode cX12_isOwnHere 236 = .ok (.ifCond .ne 58, 3) := by decide +kernel
theorem dX12_isOwnHere_239 : decode cX12_isOwnHere 239 = .ok (.aload_n 0, 1) := by decide +kernel
theorem dX12_isOwnHere_240 : decode cX12_isOwnHere 240 = .ok (.aload_n 0, 1) := by decide +kernel
theorem dX12_isOwnHere_241 : decode cX12_isOwnHere 241 = .ok (.getfield 78, 3) := by decide +kernel
theorem dX12_isOwnHere_244 : decode cX12_isOwnHere 244 = .ok (.invokevirtual 301, 3) := by decide +kernel
theorem dX12_isOwnHere_247 : decode cX12_isOwnHere 247 = .ok (.ifCond .ne 47, 3) := by decide +kernel
theorem dX12_isOwnHere_250 : decode cX12_isOwnHere 250 = .ok (.aload_n 0, 1) := by decide +kernel
theorem dX12_isOwnHere_251 : decode cX12_isOwnHere 251 = .ok (.aload_n 0, 1) := by decide +kernel
theorem dX12_isOwnHere_252 : decode cX12_isOwnHere 252 = .ok (.getfield 81, 3) := by decide +kernel
theorem dX12_isOwnHere_255 : decode cX12_isOwnHere 255 = .ok (.invokevirtual 301, 3) := by decide +kernel
theorem dX12_isOwnHere_258 : decode cX12_isOwnHere 258 = .ok (.ifCond .ne 36, 3) := by decide +kernel
theorem dX12_isOwnHere_261 : decode cX12_isOwnHere 261 = .ok (.aload_n 0, 1) := by decide +kernel
theorem dX12_isOwnHere_262 : decode cX12_isOwnHere 262 = .ok (.aload_n 0, 1) := by decide +kernel
theorem dX12_isOwnHere_263 : decode cX12_isOwnHere 263 = .ok (.getfield 84, 3) := by decide +kernel
theorem dX12_isOwnHere_266 : decode cX12_isOwnHere 266 = .ok (.invokevirtual 301, 3) := by decide +kernel
theorem dX12_isOwnHere_269 : decode cX12_isOwnHere 269 = .ok (.ifCond .ne 25, 3) := by decide +kernel
theorem dX12_isOwnHere_272 : decode cX12_isOwnHere 272 = .ok (.aload_n 0, 1) := by decide +kernel
theorem dX12_isOwnHere_273 : decode cX12_isOwnHere 273 = .ok (.aload_n 0, 1) := by decide +kernel
theorem dX12_isOwnHere_274 : decode cX12_isOwnHere 274 = .ok (.getfield 87, 3) := by decide +kernel
theorem dX12_isOwnHere_277 : decode cX12_isOwnHere 277 = .ok (.invokevirtual 301, 3) := by decide +kernel
theorem dX12_isOwnHere_280 : decode cX12_isOwnHere 280 = .ok (.ifCond .ne 14, 3) := by decide +kernel
theorem dX12_isOwnHere_283 : decode cX12_isOwnHere 283 = .ok (.aload_n 0, 1) := by decide +kernel
theorem dX12_isOwnHere_284 : decode cX12_isOwnHere 284 = .ok (.aload_n 0, 1) := by decide +kernel
theorem dX12_isOwnHere_285 : decode cX12_isOwnHere 285 = .ok (.getfield 90, 3) := by decide +kernel
theorem dX12_isOwnHere_288 : decode cX12_isOwnHere 288 = .ok (.invokevirtual 301, 3) := by decide +kernel
theorem dX12_isOwnHere_291 : decode cX12_isOwnHere 291 = .ok (.ifCond .eq 7, 3) := by decide +kernel
theorem dX12_isOwnHere_294 : decode cX12_isOwnHere 294 = .ok (.iconst 1, 1) := by decide +kernel
theorem dX12_isOwnHere_295 : decode cX12_isOwnHere 295 = .ok (.goto 4, 3) := by decide +kernel
theorem dX12_isOwnHere_298 : decode cX12_isOwnHere 298 = .ok (.iconst 0, 1) := by decide +kernel
theorem dX12_isOwnHere_299 : decode cX12_isOwnHere 299 = .ok (.istore_n 1, 1) := by decide +kernel
theorem dX12_isOwnHere_300 : decode cX12_isOwnHere 300 = .ok (.iload_n 1, 1) := by decide +kernel
theorem dX12_isOwnHere_301 : decode cX12_isOwnHere 301 = .ok (.ifCond .ne 69, 3) := by decide +kernel
theorem dX12_isOwnHere_304 : decode cX12_isOwnHere 304 = .ok (.aload_n 0, 1) := by decide +kernel
theorem dX12_isOwnHere_305 : decode cX12_isOwnHere 305 = .ok (.aload_n 0, 1) := by decide +kernel
theorem dX12_isOwnHere_306 : decode cX12_isOwnHere 306 = .ok (.getfield 93, 3) := by decide +kernel
theorem dX12_isOwnHere_309 : decode cX12_isOwnHere 309 = .ok (.invokevirtual 301, 3) := by decide +kernel
theorem dX12_isOwnHere_312 : decode cX12_isOwnHere 312 = .ok (.ifCond .ne 58, 3) := by decide +kernel
theorem dX12_isOwnHere_315 : decode cX12_isOwnHere 315 = .ok (.aload_n 0, 1) := by decide +kernel
theorem dX12_isOwnHere_316 : decode cX12_isOwnHere 316 = .ok (.aload_n 0, 1) := by decide +kernel
theorem dX12_isOwnHere_317 : decode cX12_isOwnHere 317 = .ok (.getfield 96, 3) := by decide +kernel
theorem dX12_isOwnHere_320 : decode cX12_isOwnHere 320 = .ok (.invokevirtual 301, 3) := by decide +kernel
theorem dX12_isOwnHere_323 : decode cX12_isOwnHere 323 = .ok (.ifCond .ne 47, 3) := by decide +kernel
theorem dX12_isOwnHere_326 : decode cX12_isOwnHere 326 = .ok (.aload_n 0, 1) := by decide +kernel
theorem dX12_isOwnHere_327 : decode cX12_isOwnHere 327 = .ok (.aload_n 0, 1) := by decide +kernel
theorem dX12_isOwnHere_328 : decode cX12_isOwnHere 328 = .ok (.getfield 99, 3) := by decide +kernel
theorem dX12_isOwnHere_331 : decode cX12_isOwnHere 331 = .ok (.invokevirtual 301, 3) := by decide +kernel
theorem dX12_isOwnHere_334 : decode cX12_isOwnHere 334 = .ok (.ifCond .ne 36, 3) := by decide +kernel
theorem dX12_isOwnHere_337 : decode cX12_isOwnHere 337 = .ok (.aload_n 0, 1) := by decide +kernel
theorem dX12_isOwnHere_338 : decode cX12_isOwnHere 338 = .ok (.aload_n 0, 1) := by decide +kernel
theorem dX12_isOwnHere_339 : decode cX12_isOwnHere 339 = .ok (.getfield 102, 3) := by decide +kernel
theorem dX12_isOwnHere_342 : decode cX12_isOwnHere 342 = .ok (.invokevirtual 301, 3) := by decide +kernel
theorem dX12_isOwnHere_345 : decode cX12_isOwnHere 345 = .ok (.ifCond .ne 25, 3) := by decide +kernel
theorem dX12_isOwnHere_348 : decode cX12_isOwnHere 348 = .ok (.aload_n 0, 1) := by decide +kernel
theorem dX12_isOwnHere_349 : decode cX12_isOwnHere 349 = .ok (.aload_n 0, 1) := by decide +kernel
theorem dX12_isOwnHere_350 : decode cX12_isOwnHere 350 = .ok (.getfield 105, 3) := by decide +kernel
theorem dX12_isOwnHere_353 : decode cX12_isOwnHere 353 = .ok (.invokevirtual 301, 3) := by decide +kernel
theorem dX12_isOwnHere_356 : decode cX12_isOwnHere 356 = .ok (.ifCond .ne 14, 3) := by decide +kernel
theorem dX12_isOwnHere_359 : decode cX12_isOwnHere 359 = .ok (.aload_n 0, 1) := by decide +kernel
theorem dX12_isOwnHere_360 : decode cX12_isOwnHere 360 = .ok (.aload_n 0, 1) := by decide +kernel
theorem dX12_isOwnHere_361 : decode cX12_isOwnHere 361 = .ok (.getfield 108, 3) := by decide +kernel
theorem dX12_isOwnHere_364 : decode cX12_isOwnHere 364 = .ok (.invokevirtual 301, 3) := by decide +kernel
theorem dX12_isOwnHere_367 : decode cX12_isOwnHere 367 = .ok (.ifCond .eq 7, 3) := by decide +kernel
theorem dX12_isOwnHere_370 : decode cX12_isOwnHere 370 = .ok (.iconst 1, 1) := by decide +kernel
theorem dX12_isOwnHere_371 : decode cX12_isOwnHere 371 = .ok (.goto 4, 3) := by decide +kernel
theorem dX12_isOwnHere_374 : decode cX12_isOwnHere 374 = .ok (.iconst 0, 1) := by decide +kernel
theorem dX12_isOwnHere_375 : decode cX12_isOwnHere 375 = .ok (.istore_n 1, 1) := by decide +kernel
theorem dX12_isOwnHere_376 : decode cX12_isOwnHere 376 = .ok (.iload_n 1, 1) := by decide +kernel
theorem dX12_isOwnHere_377 : decode cX12_isOwnHere 377 = .ok (.ifCond .ne 47, 3) := by decide +kernel
theorem dX12_isOwnHere_380 : decode cX12_isOwnHere 380 = .ok (.aload_n 0, 1) := by decide +kernel
theorem dX12_isOwnHere_381 : decode cX12_isOwnHere 381 = .ok (.aload_n 0, 1) := by decide +kernel
theorem dX12_isOwnHere_382 : decode cX12_isOwnHere 382 = .ok (.getfield 111, 3) := by decide +kernel
theorem dX12_isOwnHere_385 : decode cX12_isOwnHere 385 = .ok (.invokevirtual 301, 3) := by decide +kernel
theorem dX12_isOwnHere_388 : decode cX12_isOwnHere 388 = .ok (.ifCond .ne 36, 3) := by decide +kernel
theorem dX12_isOwnHere_391 : decode cX12_isOwnHere 391 = .ok (.aload_n 0, 1) := by decide +kernel
theorem dX12_isOwnHere_392 : decode cX12_isOwnHere 392 = .ok (.aload_n 0, 1) := by decide +kernel
theorem dX12_isOwnHere_393 : decode cX12_isOwnHere 393 = .ok (.getfield 114, 3) := by decide +kernel
theorem dX12_isOwnHere_396 : decode cX12_isOwnHere 396 = .ok (.invokevirtual 301, 3) := by decide +kernel
theorem dX12_isOwnHere_399 : decode cX12_isOwnHere 399 = .ok (.ifCond .ne 25, 3) := by decide +kernel
theorem dX12_isOwnHere_402 : decode cX12_isOwnHere 402 = .ok (.aload_n 0, 1) := by decide +kernel
theorem dX12_isOwnHere_403 : decode cX12_isOwnHere 403 = .ok (.aload_n 0, 1) := by decide +kernel
theorem dX12_isOwnHere_404 : decode cX12_isOwnHere 404 = .ok (.getfield 117, 3) := by decide +kernel
theorem dX12_isOwnHere_407 : decode cX12_isOwnHere 407 = .ok (.invokevirtual 301, 3) := by decide +kernel
theorem dX12_isOwnHere_410 : decode cX12_isOwnHere 410 = .ok (.ifCond .ne 14, 3) := by decide +kernel
theorem dX12_isOwnHere_413 : decode cX12_isOwnHere 413 = .ok (.aload_n 0, 1) := by decide +kernel
theorem dX12_isOwnHere_414 : decode cX12_isOwnHere 414 = .ok (.aload_n 0, 1) := by decide +kernel
theorem dX12_isOwnHere_415 : decode cX12_isOwnHere 415 = .ok (.getfield 120, 3) := by decide +kernel
theorem dX12_isOwnHere_418 : decode cX12_isOwnHere 418 = .ok (.invokevirtual 301, 3) := by decide +kernel
theorem dX12_isOwnHere_421 : decode cX12_isOwnHere 421 = .ok (.ifCond .eq 7, 3) := by decide +kernel
theorem dX12_isOwnHere_424 : decode cX12_isOwnHere 424 = .ok (.iconst 1, 1) := by decide +kernel
theorem dX12_isOwnHere_425 : decode cX12_isOwnHere 425 = .ok (.goto 4, 3) := by decide +kernel
theorem dX12_isOwnHere_428 : decode cX12_isOwnHere 428 = .ok (.iconst 0, 1) := by decide +kernel
theorem dX12_isOwnHere_429 : decode cX12_isOwnHere 429 = .ok (.istore_n 1, 1) := by decide +kernel
theorem dX12_isOwnHere_430 : decode cX12_isOwnHere 430 = .ok (.iload_n 1, 1) := by decide +kernel
theorem dX12_isOwnHere_431 : decode cX12_isOwnHere 431 = .ok (.ireturn, 1) := by decide +kernel
theorem dX12_name_0 : decode cX12_name 0 = .ok (.aload_n 0, 1) := by decide +kernel
theorem dX12_name_1 : decode cX12_name 1 = .ok (.getfield 278, 3) := by decide +kernel
theorem dX12_name_4 : decode cX12_name 4 = .ok (.ifCond .eq 5, 3) := by decide +kernel
theorem dX12_name_7 : decode cX12_name 7 = .ok (.lconst 0, 1) := by decide +kernel
theorem dX12_name_8 : decode cX12_name 8 = .ok (.lreturn, 1) := by decide +kernel
theorem dX12_name_9 : decode cX12_name 9 = .ok (.aload_n 0, 1) := by decide +kernel
theorem dX12_name_10 : decode cX12_name 10 = .ok (.invokevirtual 290, 3) := by decide +kernel
theorem dX12_name_13 : decode cX12_name 13 = .ok (.invokestatic 294, 3) := by decide +kernel
theorem dX12_name_16 : decode cX12_name 16 = .ok (.ifCond .eq 21, 3) := by decide +kernel
theorem dX12_name_19 : decode cX12_name 19 = .ok (.aload_n 0, 1) := by decide +kernel
theorem dX12_name_20 : decode cX12_name 20 = .ok (.getfield 284, 3) := by decide +kernel
theorem dX12_name_23 : decode cX12_name 23 = .ok (.aload_n 0, 1) := by decide +kernel
theorem dX12_name_24 : decode cX12_name 24 = .ok (.getfield 298, 3) := by decide +kernel
theorem dX12_name_27 : decode cX12_name 27 = .ok (.if_icmp .eq 10, 3) := by decide +kernel
theorem dX12_name_30 : decode cX12_name 30 = .ok (.aload_n 0, 1) := by decide +kernel
theorem dX12_name_31 : decode cX12_name 31 = .ok (.invokevirtual 325, 3) := by decide +kernel
theorem dX12_name_34 : decode cX12_name 34 = .ok (.ifCond .eq 14, 3) := by decide +kernel
theorem dX12_name_37 : decode cX12_name 37 = .ok (.aload_n 0, 1) := by decide +kernel
theorem dX12_name_38 : decode cX12_name 38 = .ok (.iconst 1, 1) := by decide +kernel
theorem dX12_name_39 : decode cX12_name 39 = .ok (.aload_n 0, 1) := by decide +kernel
theorem dX12_name_40 : decode cX12_name 40 = .ok (.getfield 284, 3) := by decide +kernel
theorem dX12_name_43 : decode cX12_name 43 = .ok (.invokevirtual 308, 3) := by decide +kernel
theorem dX12_name_46 : decode cX12_name 46 = .ok (.lconst 0, 1) := by decide +kernel
theorem dX12_name_47 : decode cX12_name 47 = .ok (.lreturn, 1) := by decide +kernel
theorem dX12_name_48 : decode cX12_name 48 = .ok (.aload_n 0, 1) := by decide +kernel
theorem dX12_name_49 : decode cX12_name 49 = .ok (.aload_n 0, 1) := by decide +kernel
theorem dX12_name_50 : decode cX12_name 50 = .ok (.getfield 284, 3) := by decide +kernel
theorem dX12_name_53 : decode cX12_name 53 = .ok (.putfield 329, 3) := by decide +kernel
theorem dX12_name_56 : decode cX12_name 56 = .ok (.lconst 0, 1) := by decide +kernel
theorem dX12_name_57 : decode cX12_name 57 = .ok (.lstore_n 1, 1) := by decide +kernel
theorem dX12_name_58 : decode cX12_name 58 = .ok (.aload_n 0, 1) := by decide +kernel
theorem dX12_name_59 : decode cX12_name 59 = .ok (.getfield 284, 3) := by decide +kernel
theorem dX12_name_62 : decode cX12_name 62 = .ok (.aload_n 0, 1) := by decide +kernel
theorem dX12_name_63 : decode cX12_name 63 = .ok (.getfield 287, 3) := by decide +kernel
theorem dX12_name_66 : decode cX12_name 66 = .ok (.if_icmp .ge 79, 3) := by decide +kernel
theorem dX12_name_69 : decode cX12_name 69 = .ok (.aload_n 0, 1) := by decide +kernel
theorem dX12_name_70 : decode cX12_name 70 = .ok (.getfield 7, 3) := by decide +kernel
theorem dX12_name_73 : decode cX12_name 73 = .ok (.aload_n 0, 1) := by decide +kernel
theorem dX12_name_74 : decode cX12_name 74 = .ok (.getfield 284, 3) := by decide +kernel
theorem dX12_name_77 : decode cX12_name 77 = .ok (.iaload, 1) := by decide +kernel
theorem dX12_name_78 : decode cX12_name 78 = .ok (.invokestatic 294, 3) := by decide +kernel
theorem dX12_name_81 : decode cX12_name 81 = .ok (.ifCond .eq 64, 3) := by decide +kernel
theorem dX12_name_84 : decode cX12_name 84 = .ok (.aload_n 0, 1) := by decide +kernel
theorem dX12_name_85 : decode cX12_name 85 = .ok (.getfield 284, 3) := by decide +kernel
theorem dX12_name_88 : decode cX12_name 88 = .ok (.aload_n 0, 1) := by decide +kernel
theorem dX12_name_89 : decode cX12_name 89 = .ok (.getfield 329, 3) := by decide +kernel
theorem dX12_name_92 : decode cX12_name 92 = .ok (.isub, 1) := by decide +kernel
theorem dX12_name_93 : decode cX12_name 93 = .ok (.bipush 6, 2) := by decide +kernel
theorem dX12_name_95 : decode cX12_name 95 = .ok (.if_icmp .ne 14, 3) := by decide +kernel
theorem dX12_name_98 : decode cX12_name 98 = .ok (.aload_n 0, 1) := by decide +kernel
theorem dX12_name_99 : decode cX12_name 99 = .ok (.iconst 1, 1) := by decide +kernel
theorem dX12_name_100 : decode cX12_name 100 = .ok (.aload_n 0, 1) := by decide +kernel
theorem dX12_name_101 : decode cX12_name 101 = .ok (.getfield 284, 3) := by decide +kernel
theorem dX12_name_104 : decode cX12_name 104 = .ok (.invokevirtual 308, 3) := by decide +kernel
theorem dX12_name_107 : decode cX12_name 107 = .ok (.lconst 0, 1) := by decide +kernel
theorem dX12_name_108 : decode cX12_name 108 = .ok (.lreturn, 1) := by decide +kernel
theorem dX12_name_109 : decode cX12_name 109 = .ok (.ldc2_w 332, 3) := by decide +kernel
theorem dX12_name_112 : decode cX12_name 112 = .ok (.lload_n 1, 1) := by decide +kernel
theorem dX12_name_113 : decode cX12_name 113 = .ok (.lmul, 1) := by decide +kernel
theorem dX12_name_114 : decode cX12_name 114 = .ok (.aload_n 0, 1) := by decide +kernel
theorem dX12_name_115 : decode cX12_name 115 = .ok (.getfield 7, 3) := by decide +kernel
theorem dX12_name_118 : decode cX12_name 118 = .ok (.aload_n 0, 1) := by decide +kernel
theorem dX12_name_119 : decode cX12_name 119 = .ok (.getfield 284, 3) := by decide +kernel
theorem dX12_name_122 : decode cX12_name 122 = .ok (.iaload, 1) := by decide +kernel
theorem dX12_name_123 : decode cX12_name 123 = .ok (.i2l, 1) := by decide +kernel
theorem dX12_name_124 : decode cX12_name 124 = .ok (.ladd, 1) := by decide +kernel
theorem dX12_name_125 : decode cX12_name 125 = .ok (.ldc2_w 334, 3) := by decide +kernel
theorem dX12_name_128 : decode cX12_name 128 = .ok (.lsub, 1) := by decide +kernel
theorem dX12_name_129 : decode cX12_name 129 = .ok (.lconst 1, 1) := by decide +kernel
theorem dX12_name_130 : decode cX12_name 130 = .ok (.ladd, 1) := by decide +kernel
theorem dX12_name_131 : decode cX12_name 131 = .ok (.lstore_n 1, 1) := by decide +kernel
theorem dX12_name_132 : decode cX12_name 132 = .ok (.aload_n 0, 1) := by decide +kernel
theorem dX12_name_133 : decode cX12_name 133 = .ok (.dup, 1) := by decide +kernel
theorem dX12_name_134 : decode cX12_name 134 = .ok (.getfield 284, 3) := by decide +kernel
theorem dX12_name_137 : decode cX12_name 137 = .ok (.iconst 1, 1) := by decide +kernel
theorem dX12_name_138 : decode cX12_name 138 = .ok (.iadd, 1) := by decide +kernel
theorem dX12_name_139 : decode cX12_name 139 = .ok (.putfield 284, 3) := by decide +kernel
theorem dX12_name_142 : decode cX12_name 142 = .ok (.goto (-84), 3) := by decide +kernel
theorem dX12_name_145 : decode cX12_name 145 = .ok (.aload_n 0, 1) := by decide +kernel
theorem dX12_name_146 : decode cX12_name 146 = .ok (.aload_n 0, 1) := by decide +kernel
theorem dX12_name_147 : decode cX12_name 147 = .ok (.getfield 284, 3) := by decide +kernel
theorem dX12_name_150 : decode cX12_name 150 = .ok (.putfield 298, 3) := by decide +kernel
theorem dX12_name_153 : decode cX12_name 153 = .ok (.lload_n 1, 1) := by decide +kernel
theorem dX12_name_154 : decode cX12_name 154 = .ok (.lreturn, 1) := by decide +kernel
theorem dX12_isFull_0 : decode cX12_isFull 0 = .ok (.aload_n 0, 1) := by decide +kernel
theorem dX12_isFull_1 : decode cX12_isFull 1 = .ok (.getfield 278, 3) := by decide +kernel
theorem dX12_isFull_4 : decode cX12_isFull 4 = .ok (.ifCond .ne 19, 3) := by decide +kernel
theorem dX12_isFull_7 : decode cX12_isFull 7 = .ok (.aload_n 0, 1) := by decide +kernel
theorem dX12_isFull_8 : decode cX12_isFull 8 = .ok (.getfield 123, 3) := by decide +kernel
theorem dX12_isFull_11 : decode cX12_isFull 11 = .ok (.iload_n 1, 1) := by decide +kernel
theorem dX12_isFull_12 : decode cX12_isFull 12 = .ok (.iaload, 1) := by decide +kernel
theorem dX12_isFull_13 : decode cX12_isFull 13 = .ok (.iload_n 2, 1) := by decide +kernel
theorem dX12_isFull_14 : decode cX12_isFull 14 = .ok (.if_icmp .ne 9, 3) := by decide +kernel
theorem dX12_isFull_17 : decode cX12_isFull 17 = .ok (.aload_n 0, 1) := by decide +kernel
theorem dX12_isFull_18 : decode cX12_isFull 18 = .ok (.iconst 5, 1) := by decide +kernel
theorem dX12_isFull_19 : decode cX12_isFull 19 = .ok (.iload_n 3, 1) := by decide +kernel
theorem dX12_isFull_20 : decode cX12_isFull 20 = .ok (.invokevirtual 308, 3) := by decide +kernel
theorem dX12_isFull_23 : decode cX12_isFull 23 = .ok (.aload_n 0, 1) := by decide +kernel
theorem dX12_isFull_24 : decode cX12_isFull 24 = .ok (.getfield 278, 3) := by decide +kernel
theorem dX12_isFull_27 : decode cX12_isFull 27 = .ok (.ifCond .eq 7, 3) := by decide +kernel
theorem dX12_isFull_30 : decode cX12_isFull 30 = .ok (.iconst 1, 1) := by decide +kernel
theorem dX12_isFull_31 : decode cX12_isFull 31 = .ok (.goto 4, 3) := by decide +kernel
theorem dX12_isFull_34 : decode cX12_isFull 34 = .ok (.iconst 0, 1) := by decide +kernel
theorem dX12_isFull_35 : decode cX12_isFull 35 = .ok (.ireturn, 1) := by decide +kernel
theorem dX12_nameOf_0 : decode cX12_nameOf 0 = .ok (.iconst 0, 1) := by decide +kernel
theorem dX12_nameOf_1 : decode cX12_nameOf 1 = .ok (.istore 4, 2) := by decide +kernel
theorem dX12_nameOf_3 : decode cX12_nameOf 3 = .ok (.iload 4, 2) := by decide +kernel
theorem dX12_nameOf_5 : decode cX12_nameOf 5 = .ok (.aload_n 0, 1) := by decide +kernel
theorem dX12_nameOf_6 : decode cX12_nameOf 6 = .ok (.getfield 123, 3) := by decide +kernel
theorem dX12_nameOf_9 : decode cX12_nameOf 9 = .ok (.iconst 2, 1) := by decide +kernel
theorem dX12_nameOf_10 : decode cX12_nameOf 10 = .ok (.iload_n 1, 1) := by decide +kernel
theorem dX12_nameOf_11 : decode cX12_nameOf 11 = .ok (.iadd, 1) := by decide +kernel
theorem dX12_nameOf_12 : decode cX12_nameOf 12 = .ok (.iaload, 1) := by decide +kernel
theorem dX12_nameOf_13 : decode cX12_nameOf 13 = .ok (.if_icmp .ge 29, 3) := by decide +kernel
theorem dX12_nameOf_16 : decode cX12_nameOf 16 = .ok (.aload_n 0, 1) := by decide +kernel
theorem dX12_nameOf_17 : decode cX12_nameOf 17 = .ok (.getfield 126, 3) := by decide +kernel
theorem dX12_nameOf_20 : decode cX12_nameOf 20 = .ok (.bipush 6, 2) := by decide +kernel
theorem dX12_nameOf_22 : decode cX12_nameOf 22 = .ok (.iload_n 1, 1) := by decide +kernel
theorem dX12_nameOf_23 : decode cX12_nameOf 23 = .ok (.imul, 1) := by decide +kernel
theorem dX12_nameOf_24 : decode cX12_nameOf 24 = .ok (.iload 4, 2) := by decide +kernel
theorem dX12_nameOf_26 : decode cX12_nameOf 26 = .ok (.iadd, 1) := by decide +kernel
theorem dX12_nameOf_27 : decode cX12_nameOf 27 = .ok (.laload, 1) := by decide +kernel
theorem dX12_nameOf_28 : decode cX12_nameOf 28 = .ok (.lload_n 2, 1) := by decide +kernel
theorem dX12_nameOf_29 : decode cX12_nameOf 29 = .ok (.lcmp, 1) := by decide +kernel
theorem dX12_nameOf_30 : decode cX12_nameOf 30 = .ok (.ifCond .ne 6, 3) := by decide +kernel
theorem dX12_nameOf_33 : decode cX12_nameOf 33 = .ok (.iload 4, 2) := by decide +kernel
theorem dX12_nameOf_35 : decode cX12_nameOf 35 = .ok (.ireturn, 1) := by decide +kernel
theorem dX12_nameOf_36 : decode cX12_nameOf 36 = .ok (.iinc 4 1, 3) := by decide +kernel
theorem dX12_nameOf_39 : decode cX12_nameOf 39 = .ok (.goto (-36), 3) := by decide +kernel
theorem dX12_nameOf_42 : decode cX12_nameOf 42 = .ok (.iconst (-1), 1) := by decide +kernel
theorem dX12_nameOf_43 : decode cX12_nameOf 43 = .ok (.ireturn, 1) := by decide +kernel
theorem dX12_newName_0 : decode cX12_newName 0 = .ok (.aload_n 0, 1) := by decide +kernel
theorem dX12_newName_1 : decode cX12_newName 1 = .ok (.invokevirtual 336, 3) := by decide +kernel
theorem dX12_newName_4 : decode cX12_newName 4 = .ok (.lstore_n 1, 1) := by decide +kernel
theorem dX12_newName_5 : decode cX12_newName 5 = .ok (.iconst 0, 1) := by decide +kernel
theorem dX12_newName_6 : decode cX12_newName 6 = .ok (.istore_n 3, 1) := by decide +kernel
theorem dX12_newName_7 : decode cX12_newName 7 = .ok (.iload_n 3, 1) := by decide +kernel
theorem dX12_newName_8 : decode cX12_newName 8 = .ok (.iconst 2, 1) := by decide +kernel
theorem dX12_newName_9 : decode cX12_newName 9 = .ok (.if_icmp .ge 35, 3) := by decide +kernel
theorem dX12_newName_12 : decode cX12_newName 12 = .ok (.aload_n 0, 1) := by decide +kernel
theorem dX12_newName_13 : decode cX12_newName 13 = .ok (.getfield 278, 3) := by decide +kernel
theorem dX12_newName_16 : decode cX12_newName 16 = .ok (.ifCond .ne 22, 3) := by decide +kernel
theorem dX12_newName_19 : decode cX12_newName 19 = .ok (.aload_n 0, 1) := by decide +kernel
theorem dX12_newName_20 : decode cX12_newName 20 = .ok (.iload_n 3, 1) := by decide +kernel
theorem dX12_newName_21 : decode cX12_newName 21 = .ok (.lload_n 1, 1) := by decide +kernel
theorem dX12_newName_22 : decode cX12_newName 22 = .ok (.invokevirtual 340, 3) := by decide +kernel
theorem dX12_newName_25 : decode cX12_newName 25 = .ok (.iconst (-1), 1) := by decide +kernel
theorem dX12_newName_26 : decode cX12_newName 26 = .ok (.if_icmp .eq 12, 3) := by decide +kernel
theorem dX12_newName_29 : decode cX12_newName 29 = .ok (.aload_n 0, 1) := by decide +kernel
theorem dX12_newName_30 : decode cX12_newName 30 = .ok (.iconst 3, 1) := by decide +kernel
theorem dX12_newName_31 : decode cX12_newName 31 = .ok (.aload_n 0, 1) := by decide +kernel
theorem dX12_newName_32 : decode cX12_newName 32 = .ok (.getfield 329, 3) := by decide +kernel
theorem dX12_newName_35 : decode cX12_newName 35 = .ok (.invokevirtual 308, 3) := by decide +kernel
theorem dX12_newName_38 : decode cX12_newName 38 = .ok (.iinc 3 1, 3) := by decide +kernel
theorem dX12_newName_41 : decode cX12_newName 41 = .ok (.goto (-34), 3) := by decide +kernel
theorem dX12_newName_44 : decode cX12_newName 44 = .ok (.lload_n 1, 1) := by decide +kernel
theorem dX12_newName_45 : decode cX12_newName 45 = .ok (.lreturn, 1) := by decide +kernel
theorem dX12_oneOf_0 : decode cX12_oneOf 0 = .ok (.aload_n 0, 1) := by decide +kernel
theorem dX12_oneOf_1 : decode cX12_oneOf 1 = .ok (.invokevirtual 336, 3) := by decide +kernel
theorem dX12_oneOf_4 : decode cX12_oneOf 4 = .ok (.lstore_n 2, 1) := by decide +kernel
theorem dX12_oneOf_5 : decode cX12_oneOf 5 = .ok (.aload_n 0, 1) := by decide +kernel
theorem dX12_oneOf_6 : decode cX12_oneOf 6 = .ok (.iload_n 1, 1) := by decide +kernel
theorem dX12_oneOf_7 : decode cX12_oneOf 7 = .ok (.lload_n 2, 1) := by decide +kernel
theorem dX12_oneOf_8 : decode cX12_oneOf 8 = .ok (.invokevirtual 340, 3) := by decide +kernel
theorem dX12_oneOf_11 : decode cX12_oneOf 11 = .ok (.istore 4, 2) := by decide +kernel
theorem dX12_oneOf_13 : decode cX12_oneOf 13 = .ok (.aload_n 0, 1) := by decide +kernel
theorem dX12_oneOf_14 : decode cX12_oneOf 14 = .ok (.getfield 278, 3) := by decide +kernel
theorem dX12_oneOf_17 : decode cX12_oneOf 17 = .ok (.ifCond .ne 18, 3) := by decide +kernel
theorem dX12_oneOf_20 : decode cX12_oneOf 20 = .ok (.iload 4, 2) := by decide +kernel
theorem dX12_oneOf_22 : decode cX12_oneOf 22 = .ok (.iconst (-1), 1) := by decide +kernel
theorem dX12_oneOf_23 : decode cX12_oneOf 23 = .ok (.if_icmp .ne 12, 3) := by decide +kernel
theorem dX12_oneOf_26 : decode cX12_oneOf 26 = .ok (.aload_n 0, 1) := by decide +kernel
theorem dX12_oneOf_27 : decode cX12_oneOf 27 = .ok (.iconst 3, 1) := by decide +kernel
theorem dX12_oneOf_28 : decode cX12_oneOf 28 = .ok (.aload_n 0, 1) := by decide +kernel
theorem dX12_oneOf_29 : decode cX12_oneOf 29 = .ok (.getfield 329, 3) := by decide +kernel
theorem dX12_oneOf_32 : decode cX12_oneOf 32 = .ok (.invokevirtual 308, 3) := by decide +kernel
theorem dX12_oneOf_35 : decode cX12_oneOf 35 = .ok (.aload_n 0, 1) := by decide +kernel
theorem dX12_oneOf_36 : decode cX12_oneOf 36 = .ok (.getfield 278, 3) := by decide +kernel
theorem dX12_oneOf_39 : decode cX12_oneOf 39 = .ok (.ifCond .ne 8, 3) := by decide +kernel
theorem dX12_oneOf_42 : decode cX12_oneOf 42 = .ok (.iload 4, 2) := by decide +kernel
theorem dX12_oneOf_44 : decode cX12_oneOf 44 = .ok (.goto 4, 3) := by decide +kernel
theorem dX12_oneOf_47 : decode cX12_oneOf 47 = .ok (.iconst 0, 1) := by decide +kernel
theorem dX12_oneOf_48 : decode cX12_oneOf 48 = .ok (.ireturn, 1) := by decide +kernel
theorem dX12_lakeTold_0 : decode cX12_lakeTold 0 = .ok (.aload_n 0, 1) := by decide +kernel
theorem dX12_lakeTold_1 : decode cX12_lakeTold 1 = .ok (.aload_n 0, 1) := by decide +kernel
theorem dX12_lakeTold_2 : decode cX12_lakeTold 2 = .ok (.getfield 20, 3) := by decide +kernel
theorem dX12_lakeTold_5 : decode cX12_lakeTold 5 = .ok (.invokevirtual 344, 3) := by decide +kernel
theorem dX12_lakeTold_8 : decode cX12_lakeTold 8 = .ok (.aload_n 0, 1) := by decide +kernel
theorem dX12_lakeTold_9 : decode cX12_lakeTold 9 = .ok (.getfield 123, 3) := by decide +kernel
theorem dX12_lakeTold_12 : decode cX12_lakeTold 12 = .ok (.iconst 0, 1) := by decide +kernel
theorem dX12_lakeTold_13 : decode cX12_lakeTold 13 = .ok (.aload_n 0, 1) := by decide +kernel
theorem dX12_lakeTold_14 : decode cX12_lakeTold 14 = .ok (.iconst 3, 1) := by decide +kernel
theorem dX12_lakeTold_15 : decode cX12_lakeTold 15 = .ok (.bipush 8, 2) := by decide +kernel
theorem dX12_lakeTold_17 : decode cX12_lakeTold 17 = .ok (.invokevirtual 348, 3) := by decide +kernel
theorem dX12_lakeTold_20 : decode cX12_lakeTold 20 = .ok (.iastore, 1) := by decide +kernel
theorem dX12_lakeTold_21 : decode cX12_lakeTold 21 = .ok (.aload_n 0, 1) := by decide +kernel
theorem dX12_lakeTold_22 : decode cX12_lakeTold 22 = .ok (.bipush 59, 2) := by decide +kernel
theorem dX12_lakeTold_24 : decode cX12_lakeTold 24 = .ok (.invokevirtual 352, 3) := by decide +kernel
theorem dX12_lakeTold_27 : decode cX12_lakeTold 27 = .ok (.return_, 1) := by decide +kernel
theorem dX12_kindOf_0 : decode cX12_kindOf 0 = .ok (.iload_n 0, 1) := by decide +kernel
theorem dX12_kindOf_1 : decode cX12_kindOf 1 = .ok (.lookupswitch 62 #[(100, 55), (104, 51), (108, 59), (115, 53), (119, 57)], 51) := by decide +kernel
theorem dX12_kindOf_52 : decode cX12_kindOf 52 = .ok (.iconst 0, 1) := by decide +kernel
theorem dX12_kindOf_53 : decode cX12_kindOf 53 = .ok (.ireturn, 1) := by decide +kernel
theorem dX12_kindOf_54 : decode cX12_kindOf 54 = .ok (.iconst 1, 1) := by decide +kernel
theorem dX12_kindOf_55 : decode cX12_kindOf 55 = .ok (.ireturn, 1) := by decide +kernel
theorem dX12_kindOf_56 : decode cX12_kindOf 56 = .ok (.iconst 2, 1) := by decide +kernel
theorem dX12_kindOf_57 : decode cX12_kindOf 57 = .ok (.ireturn, 1) := by decide +kernel
theorem dX12_kindOf_58 : decode cX12_kindOf 58 = .ok (.iconst 3, 1) := by decide +kernel
theorem dX12_kindOf_59 : decode cX12_kindOf 59 = .ok (.ireturn, 1) := by decide +kernel
theorem dX12_kindOf_60 : decode cX12_kindOf 60 = .ok (.bipush 9, 2) := by decide +kernel
theorem dX12_kindOf_62 : decode cX12_kindOf 62 = .ok (.ireturn, 1) := by decide +kernel
theorem dX12_kindOf_63 : decode cX12_kindOf 63 = .ok (.iconst (-1), 1) := by decide +kernel
theorem dX12_kindOf_64 : decode cX12_kindOf 64 = .ok (.ireturn, 1) := by decide +kernel
theorem dX12_rowTold_0 : decode cX12_rowTold 0 = .ok (.aload_n 0, 1) := by decide +kernel
theorem dX12_rowTold_1 : decode cX12_rowTold 1 = .ok (.iconst 1, 1) := by decide +kernel
theorem dX12_rowTold_2 : decode cX12_rowTold 2 = .ok (.bipush 6, 2) := by decide +kernel
theorem dX12_rowTold_4 : decode cX12_rowTold 4 = .ok (.iload_n 1, 1) := by decide +kernel
theorem dX12_rowTold_5 : decode cX12_rowTold 5 = .ok (.invokevirtual 356, 3) := by decide +kernel
theorem dX12_rowTold_8 : decode cX12_rowTold 8 = .ok (.ifCond .eq 4, 3) := by decide +kernel
theorem dX12_rowTold_11 : decode cX12_rowTold 11 = .ok (.return_, 1) := by decide +kernel
theorem dX12_rowTold_12 : decode cX12_rowTold 12 = .ok (.aload_n 0, 1) := by decide +kernel
theorem dX12_rowTold_13 : decode cX12_rowTold 13 = .ok (.invokevirtual 290, 3) := by decide +kernel
theorem dX12_rowTold_16 : decode cX12_rowTold 16 = .ok (.iconst (-1), 1) := by decide +kernel
theorem dX12_rowTold_17 : decode cX12_rowTold 17 = .ok (.if_icmp .ne 10, 3) := by decide +kernel
theorem dX12_rowTold_20 : decode cX12_rowTold 20 = .ok (.aload_n 0, 1) := by decide +kernel
theorem dX12_rowTold_21 : decode cX12_rowTold 21 = .ok (.getfield 287, 3) := by decide +kernel
theorem dX12_rowTold_24 : decode cX12_rowTold 24 = .ok (.goto 7, 3) := by decide +kernel
theorem dX12_rowTold_27 : decode cX12_rowTold 27 = .ok (.aload_n 0, 1) := by decide +kernel
theorem dX12_rowTold_28 : decode cX12_rowTold 28 = .ok (.getfield 284, 3) := by decide +kernel
theorem dX12_rowTold_31 : decode cX12_rowTold 31 = .ok (.istore_n 2, 1) := by decide +kernel
theorem dX12_rowTold_32 : decode cX12_rowTold 32 = .ok (.iconst 0, 1) := by decide +kernel
theorem dX12_rowTold_33 : decode cX12_rowTold 33 = .ok (.istore_n 3, 1) := by decide +kernel
theorem dX12_rowTold_34 : decode cX12_rowTold 34 = .ok (.aload_n 0, 1) := by decide +kernel
theorem dX12_rowTold_35 : decode cX12_rowTold 35 = .ok (.getfield 284, 3) := by decide +kernel
theorem dX12_rowTold_38 : decode cX12_rowTold 38 = .ok (.aload_n 0, 1) := by decide +kernel
theorem dX12_rowTold_39 : decode cX12_rowTold 39 = .ok (.getfield 298, 3) := by decide +kernel
theorem dX12_rowTold_42 : decode cX12_rowTold 42 = .ok (.if_icmp .eq 7, 3) := by decide +kernel
theorem dX12_rowTold_45 : decode cX12_rowTold 45 = .ok (.iconst 1, 1) := by decide +kernel
theorem dX12_rowTold_46 : decode cX12_rowTold 46 = .ok (.goto 4, 3) := by decide +kernel
theorem dX12_rowTold_49 : decode cX12_rowTold 49 = .ok (.iconst 0, 1) := by decide +kernel
theorem dX12_rowTold_50 : decode cX12_rowTold 50 = .ok (.istore 4, 2) := by decide +kernel
theorem dX12_rowTold_52 : decode cX12_rowTold 52 = .ok (.aload_n 0, 1) := by decide +kernel
theorem dX12_rowTold_53 : decode cX12_rowTold 53 = .ok (.getfield 284, 3) := by decide +kernel
theorem dX12_rowTold_56 : decode cX12_rowTold 56 = .ok (.aload_n 0, 1) := by decide +kernel
theorem dX12_rowTold_57 : decode cX12_rowTold 57 = .ok (.getfield 287, 3) := by decide +kernel
theorem dX12_rowTold_60 : decode cX12_rowTold 60 = .ok (.if_icmp .ge 105, 3) := by decide +kernel
theorem dX12_rowTold_63 : decode cX12_rowTold 63 = .ok (.aload_n 0, 1) := by decide +kernel
theorem dX12_rowTold_64 : decode cX12_rowTold 64 = .ok (.getfield 7, 3) := by decide +kernel
theorem dX12_rowTold_67 : decode cX12_rowTold 67 = .ok (.aload_n 0, 1) := by decide +kernel
theorem dX12_rowTold_68 : decode cX12_rowTold 68 = .ok (.getfield 284, 3) := by decide +kernel
theorem dX12_rowTold_71 : decode cX12_rowTold 71 = .ok (.iaload, 1) := by decide +kernel
theorem dX12_rowTold_72 : decode cX12_rowTold 72 = .ok (.invokestatic 294, 3) := by decide +kernel
theorem dX12_rowTold_75 : decode cX12_rowTold 75 = .ok (.ifCond .eq 90, 3) := by decide +kernel
theorem dX12_rowTold_78 : decode cX12_rowTold 78 = .ok (.iload 4, 2) := by decide +kernel
theorem dX12_rowTold_80 : decode cX12_rowTold 80 = .ok (.ifCond .eq 33, 3) := by decide +kernel
theorem dX12_rowTold_83 : decode cX12_rowTold 83 = .ok (.iload_n 3, 1) := by decide +kernel
theorem dX12_rowTold_84 : decode cX12_rowTold 84 = .ok (.aload_n 0, 1) := by decide +kernel
theorem dX12_rowTold_85 : decode cX12_rowTold 85 = .ok (.getfield 123, 3) := by decide +kernel
theorem dX12_rowTold_88 : decode cX12_rowTold 88 = .ok (.iconst 0, 1) := by decide +kernel
theorem dX12_rowTold_89 : decode cX12_rowTold 89 = .ok (.iaload, 1) := by decide +kernel
theorem dX12_rowTold_90 : decode cX12_rowTold 90 = .ok (.if_icmp .ge 23, 3) := by decide +kernel
theorem dX12_rowTold_93 : decode cX12_rowTold 93 = .ok (.aload_n 0, 1) := by decide +kernel
theorem dX12_rowTold_94 : decode cX12_rowTold 94 = .ok (.getfield 7, 3) := by decide +kernel
theorem dX12_rowTold_97 : decode cX12_rowTold 97 = .ok (.aload_n 0, 1) := by decide +kernel
theorem dX12_rowTold_98 : decode cX12_rowTold 98 = .ok (.getfield 284, 3) := by decide +kernel
theorem dX12_rowTold_101 : decode cX12_rowTold 101 = .ok (.iaload, 1) := by decide +kernel
theorem dX12_rowTold_102 : decode cX12_rowTold 102 = .ok (.invokestatic 360, 3) := by decide +kernel
theorem dX12_rowTold_105 : decode cX12_rowTold 105 = .ok (.iconst (-1), 1) := by decide +kernel
theorem dX12_rowTold_106 : decode cX12_rowTold 106 = .ok (.if_icmp .eq 7, 3) := by decide +kernel
theorem dX12_rowTold_109 : decode cX12_rowTold 109 = .ok (.iconst 1, 1) := by decide +kernel
theorem dX12_rowTold_110 : decode cX12_rowTold 110 = .ok (.goto 4, 3) := by decide +kernel
theorem dX12_rowTold_113 : decode cX12_rowTold 113 = .ok (.iconst 0, 1) := by decide +kernel
theorem dX12_rowTold_114 : decode cX12_rowTold 114 = .ok (.istore 4, 2) := by decide +kernel
theorem dX12_rowTold_116 : decode cX12_rowTold 116 = .ok (.iload 4, 2) := by decide +kernel
theorem dX12_rowTold_118 : decode cX12_rowTold 118 = .ok (.ifCond .eq 31, 3) := by decide +kernel
theorem dX12_rowTold_121 : decode cX12_rowTold 121 = .ok (.aload_n 0, 1) := by decide +kernel
theorem dX12_rowTold_122 : decode cX12_rowTold 122 = .ok (.getfield 130, 3) := by decide +kernel
theorem dX12_rowTold_125 : decode cX12_rowTold 125 = .ok (.bipush 8, 2) := by decide +kernel
theorem dX12_rowTold_127 : decode cX12_rowTold 127 = .ok (.aload_n 0, 1) := by decide +kernel
theorem dX12_rowTold_128 : decode cX12_rowTold 128 = .ok (.getfield 123, 3) := by decide +kernel
theorem dX12_rowTold_131 : decode cX12_rowTold 131 = .ok (.iconst 1, 1) := by decide +kernel
theorem dX12_rowTold_132 : decode cX12_rowTold 132 = .ok (.iaload, 1) := by decide +kernel
theorem dX12_rowTold_133 : decode cX12_rowTold 133 = .ok (.imul, 1) := by decide +kernel
theorem dX12_rowTold_134 : decode cX12_rowTold 134 = .ok (.iload_n 3, 1) := by decide +kernel
theorem dX12_rowTold_135 : decode cX12_rowTold 135 = .ok (.iadd, 1) := by decide +kernel
theorem dX12_rowTold_136 : decode cX12_rowTold 136 = .ok (.aload_n 0, 1) := by decide +kernel
theorem dX12_rowTold_137 : decode cX12_rowTold 137 = .ok (.getfield 7, 3) := by decide +kernel
theorem dX12_rowTold_140 : decode cX12_rowTold 140 = .ok (.aload_n 0, 1) := by decide +kernel
theorem dX12_rowTold_141 : decode cX12_rowTold 141 = .ok (.getfield 284, 3) := by decide +kernel
theorem dX12_rowTold_144 : decode cX12_rowTold 144 = .ok (.iaload, 1) := by decide +kernel
theorem dX12_rowTold_145 : decode cX12_rowTold 145 = .ok (.invokestatic 360, 3) := by decide +kernel
theorem dX12_rowTold_148 : decode cX12_rowTold 148 = .ok (.iastore, 1) := by decide +kernel
theorem dX12_rowTold_149 : decode cX12_rowTold 149 = .ok (.iinc 3 1, 3) := by decide +kernel
theorem dX12_rowTold_152 : decode cX12_rowTold 152 = .ok (.aload_n 0, 1) := by decide +kernel
theorem dX12_rowTold_153 : decode cX12_rowTold 153 = .ok (.dup, 1) := by decide +kernel
theorem dX12_rowTold_154 : decode cX12_rowTold 154 = .ok (.getfield 284, 3) := by decide +kernel
theorem dX12_rowTold_157 : decode cX12_rowTold 157 = .ok (.iconst 1, 1) := by decide +kernel
theorem dX12_rowTold_158 : decode cX12_rowTold 158 = .ok (.iadd, 1) := by decide +kernel
theorem dX12_rowTold_159 : decode cX12_rowTold 159 = .ok (.putfield 284, 3) := by decide +kernel
theorem dX12_rowTold_162 : decode cX12_rowTold 162 = .ok (.goto (-110), 3) := by decide +kernel
theorem dX12_rowTold_165 : decode cX12_rowTold 165 = .ok (.iload 4, 2) := by decide +kernel
theorem dX12_rowTold_167 : decode cX12_rowTold 167 = .ok (.ifCond .eq 13, 3) := by decide +kernel
theorem dX12_rowTold_170 : decode cX12_rowTold 170 = .ok (.iload_n 3, 1) := by decide +kernel
theorem dX12_rowTold_171 : decode cX12_rowTold 171 = .ok (.aload_n 0, 1) := by decide +kernel
theorem dX12_rowTold_172 : decode cX12_rowTold 172 = .ok (.getfield 123, 3) := by decide +kernel
theorem dX12_rowTold_175 : decode cX12_rowTold 175 = .ok (.iconst 0, 1) := by decide +kernel
theorem dX12_rowTold_176 : decode cX12_rowTold 176 = .ok (.iaload, 1) := by decide +kernel
theorem dX12_rowTold_177 : decode cX12_rowTold 177 = .ok (.if_icmp .eq 10, 3) := by decide +kernel
theorem dX12_rowTold_180 : decode cX12_rowTold 180 = .ok (.aload_n 0, 1) := by decide +kernel
theorem dX12_rowTold_181 : decode cX12_rowTold 181 = .ok (.iconst 1, 1) := by decide +kernel
theorem dX12_rowTold_182 : decode cX12_rowTold 182 = .ok (.iload_n 2, 1) := by decide +kernel
theorem dX12_rowTold_183 : decode cX12_rowTold 183 = .ok (.invokevirtual 308, 3) := by decide +kernel
theorem dX12_rowTold_186 : decode cX12_rowTold 186 = .ok (.return_, 1) := by decide +kernel
theorem dX12_rowTold_187 : decode cX12_rowTold 187 = .ok (.aload_n 0, 1) := by decide +kernel
theorem dX12_rowTold_188 : decode cX12_rowTold 188 = .ok (.aload_n 0, 1) := by decide +kernel
theorem dX12_rowTold_189 : decode cX12_rowTold 189 = .ok (.getfield 284, 3) := by decide +kernel
theorem dX12_rowTold_192 : decode cX12_rowTold 192 = .ok (.putfield 298, 3) := by decide +kernel
theorem dX12_rowTold_195 : decode cX12_rowTold 195 = .ok (.aload_n 0, 1) := by decide +kernel
theorem dX12_rowTold_196 : decode cX12_rowTold 196 = .ok (.getfield 123, 3) := by decide +kernel
theorem dX12_rowTold_199 : decode cX12_rowTold 199 = .ok (.iconst 1, 1) := by decide +kernel
theorem dX12_rowTold_200 : decode cX12_rowTold 200 = .ok (.dup2, 1) := by decide +kernel
theorem dX12_rowTold_201 : decode cX12_rowTold 201 = .ok (.iaload, 1) := by decide +kernel
theorem dX12_rowTold_202 : decode cX12_rowTold 202 = .ok (.iconst 1, 1) := by decide +kernel
theorem dX12_rowTold_203 : decode cX12_rowTold 203 = .ok (.iadd, 1) := by decide +kernel
theorem dX12_rowTold_204 : decode cX12_rowTold 204 = .ok (.iastore, 1) := by decide +kernel
theorem dX12_rowTold_205 : decode cX12_rowTold 205 = .ok (.return_, 1) := by decide +kernel
theorem dX12_boatTold_0 : decode cX12_boatTold 0 = .ok (.aload_n 0, 1) := by decide +kernel
theorem dX12_boatTold_1 : decode cX12_boatTold 1 = .ok (.iconst 2, 1) := by decide +kernel
theorem dX12_boatTold_2 : decode cX12_boatTold 2 = .ok (.bipush 6, 2) := by decide +kernel
theorem dX12_boatTold_4 : decode cX12_boatTold 4 = .ok (.iload_n 1, 1) := by decide +kernel
theorem dX12_boatTold_5 : decode cX12_boatTold 5 = .ok (.invokevirtual 356, 3) := by decide +kernel
theorem dX12_boatTold_8 : decode cX12_boatTold 8 = .ok (.ifCond .eq 4, 3) := by decide +kernel
theorem dX12_boatTold_11 : decode cX12_boatTold 11 = .ok (.return_, 1) := by decide +kernel
theorem dX12_boatTold_12 : decode cX12_boatTold 12 = .ok (.aload_n 0, 1) := by decide +kernel
theorem dX12_boatTold_13 : decode cX12_boatTold 13 = .ok (.invokevirtual 364, 3) := by decide +kernel
theorem dX12_boatTold_16 : decode cX12_boatTold 16 = .ok (.lstore_n 2, 1) := by decide +kernel
theorem dX12_boatTold_17 : decode cX12_boatTold 17 = .ok (.aload_n 0, 1) := by decide +kernel
theorem dX12_boatTold_18 : decode cX12_boatTold 18 = .ok (.aload_n 0, 1) := by decide +kernel
theorem dX12_boatTold_19 : decode cX12_boatTold 19 = .ok (.getfield 30, 3) := by decide +kernel
theorem dX12_boatTold_22 : decode cX12_boatTold 22 = .ok (.invokevirtual 344, 3) := by decide +kernel
theorem dX12_boatTold_25 : decode cX12_boatTold 25 = .ok (.aload_n 0, 1) := by decide +kernel
theorem dX12_boatTold_26 : decode cX12_boatTold 26 = .ok (.iconst 0, 1) := by decide +kernel
theorem dX12_boatTold_27 : decode cX12_boatTold 27 = .ok (.bipush 99, 2) := by decide +kernel
theorem dX12_boatTold_29 : decode cX12_boatTold 29 = .ok (.invokevirtual 348, 3) := by decide +kernel
theorem dX12_boatTold_32 : decode cX12_boatTold 32 = .ok (.istore 4, 2) := by decide +kernel
theorem dX12_boatTold_34 : decode cX12_boatTold 34 = .ok (.aload_n 0, 1) := by decide +kernel
theorem dX12_boatTold_35 : decode cX12_boatTold 35 = .ok (.aload_n 0, 1) := by decide +kernel
theorem dX12_boatTold_36 : decode cX12_boatTold 36 = .ok (.getfield 33, 3) := by decide +kernel
theorem dX12_boatTold_39 : decode cX12_boatTold 39 = .ok (.invokevirtual 344, 3) := by decide +kernel
theorem dX12_boatTold_42 : decode cX12_boatTold 42 = .ok (.aload_n 0, 1) := by decide +kernel
theorem dX12_boatTold_43 : decode cX12_boatTold 43 = .ok (.iconst 0, 1) := by decide +kernel
theorem dX12_boatTold_44 : decode cX12_boatTold 44 = .ok (.aload_n 0, 1) := by decide +kernel
theorem dX12_boatTold_45 : decode cX12_boatTold 45 = .ok (.getfield 123, 3) := by decide +kernel
theorem dX12_boatTold_48 : decode cX12_boatTold 48 = .ok (.iconst 0, 1) := by decide +kernel
theorem dX12_boatTold_49 : decode cX12_boatTold 49 = .ok (.iaload, 1) := by decide +kernel
theorem dX12_boatTold_50 : decode cX12_boatTold 50 = .ok (.iconst 1, 1) := by decide +kernel
theorem dX12_boatTold_51 : decode cX12_boatTold 51 = .ok (.isub, 1) := by decide +kernel
theorem dX12_boatTold_52 : decode cX12_boatTold 52 = .ok (.invokevirtual 348, 3) := by decide +kernel
theorem dX12_boatTold_55 : decode cX12_boatTold 55 = .ok (.istore 5, 2) := by decide +kernel
theorem dX12_boatTold_57 : decode cX12_boatTold 57 = .ok (.aload_n 0, 1) := by decide +kernel
theorem dX12_boatTold_58 : decode cX12_boatTold 58 = .ok (.iconst 0, 1) := by decide +kernel
theorem dX12_boatTold_59 : decode cX12_boatTold 59 = .ok (.aload_n 0, 1) := by decide +kernel
theorem dX12_boatTold_60 : decode cX12_boatTold 60 = .ok (.getfield 123, 3) := by decide +kernel
theorem dX12_boatTold_63 : decode cX12_boatTold 63 = .ok (.iconst 1, 1) := by decide +kernel
theorem dX12_boatTold_64 : decode cX12_boatTold 64 = .ok (.iaload, 1) := by decide +kernel
theorem dX12_boatTold_65 : decode cX12_boatTold 65 = .ok (.iconst 1, 1) := by decide +kernel
theorem dX12_boatTold_66 : decode cX12_boatTold 66 = .ok (.isub, 1) := by decide +kernel
theorem dX12_boatTold_67 : decode cX12_boatTold 67 = .ok (.invokevirtual 348, 3) := by decide +kernel
theorem dX12_boatTold_70 : decode cX12_boatTold 70 = .ok (.istore 6, 2) := by decide +kernel
theorem dX12_boatTold_72 : decode cX12_boatTold 72 = .ok (.aload_n 0, 1) := by decide +kernel
theorem dX12_boatTold_73 : decode cX12_boatTold 73 = .ok (.getfield 278, 3) := by decide +kernel
theorem dX12_boatTold_76 : decode cX12_boatTold 76 = .ok (.ifCond .ne 28, 3) := by decide +kernel
theorem dX12_boatTold_79 : decode cX12_boatTold 79 = .ok (.aload_n 0, 1) := by decide +kernel
theorem dX12_boatTold_80 : decode cX12_boatTold 80 = .ok (.getfield 130, 3) := by decide +kernel
theorem dX12_boatTold_83 : decode cX12_boatTold 83 = .ok (.bipush 8, 2) := by decide +kernel
theorem dX12_boatTold_85 : decode cX12_boatTold 85 = .ok (.iload 6, 2) := by decide +kernel
theorem dX12_boatTold_87 : decode cX12_boatTold 87 = .ok (.imul, 1) := by decide +kernel
theorem dX12_boatTold_88 : decode cX12_boatTold 88 = .ok (.iload 5, 2) := by decide +kernel
theorem dX12_boatTold_90 : decode cX12_boatTold 90 = .ok (.iadd, 1) := by decide +kernel
theorem dX12_boatTold_91 : decode cX12_boatTold 91 = .ok (.iaload, 1) := by decide +kernel
theorem dX12_boatTold_92 : decode cX12_boatTold 92 = .ok (.ifCond .eq 12, 3) := by decide +kernel
theorem dX12_boatTold_95 : decode cX12_boatTold 95 = .ok (.aload_n 0, 1) := by decide +kernel
theorem dX12_boatTold_96 : decode cX12_boatTold 96 = .ok (.iconst 2, 1) := by decide +kernel
theorem dX12_boatTold_97 : decode cX12_boatTold 97 = .ok (.aload_n 0, 1) := by decide +kernel
theorem dX12_boatTold_98 : decode cX12_boatTold 98 = .ok (.getfield 318, 3) := by decide +kernel
theorem dX12_boatTold_101 : decode cX12_boatTold 101 = .ok (.invokevirtual 308, 3) := by decide +kernel
theorem dX12_boatTold_104 : decode cX12_boatTold 104 = .ok (.aload_n 0, 1) := by decide +kernel
theorem dX12_boatTold_105 : decode cX12_boatTold 105 = .ok (.getfield 278, 3) := by decide +kernel
theorem dX12_boatTold_108 : decode cX12_boatTold 108 = .ok (.ifCond .eq 4, 3) := by decide +kernel
theorem dX12_boatTold_111 : decode cX12_boatTold 111 = .ok (.return_, 1) := by decide +kernel
theorem dX12_boatTold_112 : decode cX12_boatTold 112 = .ok (.aload_n 0, 1) := by decide +kernel
theorem dX12_boatTold_113 : decode cX12_boatTold 113 = .ok (.getfield 126, 3) := by decide +kernel
theorem dX12_boatTold_116 : decode cX12_boatTold 116 = .ok (.aload_n 0, 1) := by decide +kernel
theorem dX12_boatTold_117 : decode cX12_boatTold 117 = .ok (.getfield 123, 3) := by decide +kernel
theorem dX12_boatTold_120 : decode cX12_boatTold 120 = .ok (.iconst 2, 1) := by decide +kernel
theorem dX12_boatTold_121 : decode cX12_boatTold 121 = .ok (.iaload, 1) := by decide +kernel
theorem dX12_boatTold_122 : decode cX12_boatTold 122 = .ok (.lload_n 2, 1) := by decide +kernel
theorem dX12_boatTold_123 : decode cX12_boatTold 123 = .ok (.lastore, 1) := by decide +kernel
theorem dX12_boatTold_124 : decode cX12_boatTold 124 = .ok (.aload_n 0, 1) := by decide +kernel
theorem dX12_boatTold_125 : decode cX12_boatTold 125 = .ok (.getfield 133, 3) := by decide +kernel
theorem dX12_boatTold_128 : decode cX12_boatTold 128 = .ok (.iconst 2, 1) := by decide +kernel
theorem dX12_boatTold_129 : decode cX12_boatTold 129 = .ok (.aload_n 0, 1) := by decide +kernel
theorem dX12_boatTold_130 : decode cX12_boatTold 130 = .ok (.getfield 123, 3) := by decide +kernel
theorem dX12_boatTold_133 : decode cX12_boatTold 133 = .ok (.iconst 2, 1) := by decide +kernel
theorem dX12_boatTold_134 : decode cX12_boatTold 134 = .ok (.iaload, 1) := by decide +kernel
theorem dX12_boatTold_135 : decode cX12_boatTold 135 = .ok (.imul, 1) := by decide +kernel
theorem dX12_boatTold_136 : decode cX12_boatTold 136 = .ok (.iload 4, 2) := by decide +kernel
theorem dX12_boatTold_138 : decode cX12_boatTold 138 = .ok (.iastore, 1) := by decide +kernel
theorem dX12_boatTold_139 : decode cX12_boatTold 139 = .ok (.aload_n 0, 1) := by decide +kernel
theorem dX12_boatTold_140 : decode cX12_boatTold 140 = .ok (.getfield 133, 3) := by decide +kernel
theorem dX12_boatTold_143 : decode cX12_boatTold 143 = .ok (.iconst 2, 1) := by decide +kernel
theorem dX12_boatTold_144 : decode cX12_boatTold 144 = .ok (.aload_n 0, 1) := by decide +kernel
theorem dX12_boatTold_145 : decode cX12_boatTold 145 = .ok (.getfield 123, 3) := by decide +kernel
theorem dX12_boatTold_148 : decode cX12_boatTold 148 = .ok (.iconst 2, 1) := by decide +kernel
theorem dX12_boatTold_149 : decode cX12_boatTold 149 = .ok (.iaload, 1) := by decide +kernel
theorem dX12_boatTold_150 : decode cX12_boatTold 150 = .ok (.imul, 1) := by decide +kernel
theorem dX12_boatTold_151 : decode cX12_boatTold 151 = .ok (.iconst 1, 1) := by decide +kernel
theorem dX12_boatTold_152 : decode cX12_boatTold 152 = .ok (.iadd, 1) := by decide +kernel
theorem dX12_boatTold_153 : decode cX12_boatTold 153 = .ok (.aload_n 0, 1) := by decide +kernel
theorem dX12_boatTold_154 : decode cX12_boatTold 154 = .ok (.getfield 123, 3) := by decide +kernel
theorem dX12_boatTold_157 : decode cX12_boatTold 157 = .ok (.iconst 0, 1) := by decide +kernel
theorem dX12_boatTold_158 : decode cX12_boatTold 158 = .ok (.iaload, 1) := by decide +kernel
theorem dX12_boatTold_159 : decode cX12_boatTold 159 = .ok (.iload 6, 2) := by decide +kernel
theorem dX12_boatTold_161 : decode cX12_boatTold 161 = .ok (.imul, 1) := by decide +kernel
theorem dX12_boatTold_162 : decode cX12_boatTold 162 = .ok (.iload 5, 2) := by decide +kernel
theorem dX12_boatTold_164 : decode cX12_boatTold 164 = .ok (.iadd, 1) := by decide +kernel
theorem dX12_boatTold_165 : decode cX12_boatTold 165 = .ok (.iastore, 1) := by decide +kernel
theorem dX12_boatTold_166 : decode cX12_boatTold 166 = .ok (.aload_n 0, 1) := by decide +kernel
theorem dX12_boatTold_167 : decode cX12_boatTold 167 = .ok (.getfield 123, 3) := by decide +kernel
theorem dX12_boatTold_170 : decode cX12_boatTold 170 = .ok (.iconst 2, 1) := by decide +kernel
theorem dX12_boatTold_171 : decode cX12_boatTold 171 = .ok (.dup2, 1) := by decide +kernel
theorem dX12_boatTold_172 : decode cX12_boatTold 172 = .ok (.iaload, 1) := by decide +kernel
theorem dX12_boatTold_173 : decode cX12_boatTold 173 = .ok (.iconst 1, 1) := by decide +kernel
theorem dX12_boatTold_174 : decode cX12_boatTold 174 = .ok (.iadd, 1) := by decide +kernel
theorem dX12_boatTold_175 : decode cX12_boatTold 175 = .ok (.iastore, 1) := by decide +kernel
theorem dX12_boatTold_176 : decode cX12_boatTold 176 = .ok (.return_, 1) := by decide +kernel
theorem dX12_handTold_0 : decode cX12_handTold 0 = .ok (.aload_n 0, 1) := by decide +kernel
theorem dX12_handTold_1 : decode cX12_handTold 1 = .ok (.iconst 3, 1) := by decide +kernel
theorem dX12_handTold_2 : decode cX12_handTold 2 = .ok (.bipush 6, 2) := by decide +kernel
theorem dX12_handTold_4 : decode cX12_handTold 4 = .ok (.iload_n 1, 1) := by decide +kernel
theorem dX12_handTold_5 : decode cX12_handTold 5 = .ok (.invokevirtual 356, 3) := by decide +kernel
theorem dX12_handTold_8 : decode cX12_handTold 8 = .ok (.ifCond .eq 4, 3) := by decide +kernel
theorem dX12_handTold_11 : decode cX12_handTold 11 = .ok (.return_, 1) := by decide +kernel
theorem dX12_handTold_12 : decode cX12_handTold 12 = .ok (.aload_n 0, 1) := by decide +kernel
theorem dX12_handTold_13 : decode cX12_handTold 13 = .ok (.invokevirtual 364, 3) := by decide +kernel
theorem dX12_handTold_16 : decode cX12_handTold 16 = .ok (.lstore_n 2, 1) := by decide +kernel
theorem dX12_handTold_17 : decode cX12_handTold 17 = .ok (.aload_n 0, 1) := by decide +kernel
theorem dX12_handTold_18 : decode cX12_handTold 18 = .ok (.aload_n 0, 1) := by decide +kernel
theorem dX12_handTold_19 : decode cX12_handTold 19 = .ok (.getfield 39, 3) := by decide +kernel
theorem dX12_handTold_22 : decode cX12_handTold 22 = .ok (.invokevirtual 344, 3) := by decide +kernel
theorem dX12_handTold_25 : decode cX12_handTold 25 = .ok (.aload_n 0, 1) := by decide +kernel
theorem dX12_handTold_26 : decode cX12_handTold 26 = .ok (.iconst 0, 1) := by decide +kernel
theorem dX12_handTold_27 : decode cX12_handTold 27 = .ok (.bipush 9, 2) := by decide +kernel
theorem dX12_handTold_29 : decode cX12_handTold 29 = .ok (.invokevirtual 348, 3) := by decide +kernel
theorem dX12_handTold_32 : decode cX12_handTold 32 = .ok (.istore 4, 2) := by decide +kernel
theorem dX12_handTold_34 : decode cX12_handTold 34 = .ok (.aload_n 0, 1) := by decide +kernel
theorem dX12_handTold_35 : decode cX12_handTold 35 = .ok (.getfield 278, 3) := by decide +kernel
theorem dX12_handTold_38 : decode cX12_handTold 38 = .ok (.ifCond .eq 4, 3) := by decide +kernel
theorem dX12_handTold_41 : decode cX12_handTold 41 = .ok (.return_, 1) := by decide +kernel
theorem dX12_handTold_42 : decode cX12_handTold 42 = .ok (.aload_n 0, 1) := by decide +kernel
theorem dX12_handTold_43 : decode cX12_handTold 43 = .ok (.getfield 126, 3) := by decide +kernel
theorem dX12_handTold_46 : decode cX12_handTold 46 = .ok (.bipush 6, 2) := by decide +kernel
theorem dX12_handTold_48 : decode cX12_handTold 48 = .ok (.aload_n 0, 1) := by decide +kernel
theorem dX12_handTold_49 : decode cX12_handTold 49 = .ok (.getfield 123, 3) := by decide +kernel
theorem dX12_handTold_52 : decode cX12_handTold 52 = .ok (.iconst 3, 1) := by decide +kernel
theorem dX12_handTold_53 : decode cX12_handTold 53 = .ok (.iaload, 1) := by decide +kernel
theorem dX12_handTold_54 : decode cX12_handTold 54 = .ok (.iadd, 1) := by decide +kernel
theorem dX12_handTold_55 : decode cX12_handTold 55 = .ok (.lload_n 2, 1) := by decide +kernel
theorem dX12_handTold_56 : decode cX12_handTold 56 = .ok (.lastore, 1) := by decide +kernel
theorem dX12_handTold_57 : decode cX12_handTold 57 = .ok (.aload_n 0, 1) := by decide +kernel
theorem dX12_handTold_58 : decode cX12_handTold 58 = .ok (.getfield 136, 3) := by decide +kernel
theorem dX12_handTold_61 : decode cX12_handTold 61 = .ok (.aload_n 0, 1) := by decide +kernel
theorem dX12_handTold_62 : decode cX12_handTold 62 = .ok (.getfield 123, 3) := by decide +kernel
theorem dX12_handTold_65 : decode cX12_handTold 65 = .ok (.iconst 3, 1) := by decide +kernel
theorem dX12_handTold_66 : decode cX12_handTold 66 = .ok (.iaload, 1) := by decide +kernel
theorem dX12_handTold_67 : decode cX12_handTold 67 = .ok (.iload 4, 2) := by decide +kernel
theorem dX12_handTold_69 : decode cX12_handTold 69 = .ok (.iastore, 1) := by decide +kernel
theorem dX12_handTold_70 : decode cX12_handTold 70 = .ok (.aload_n 0, 1) := by decide +kernel
theorem dX12_handTold_71 : decode cX12_handTold 71 = .ok (.getfield 123, 3) := by decide +kernel
theorem dX12_handTold_74 : decode cX12_handTold 74 = .ok (.iconst 3, 1) := by decide +kernel
theorem dX12_handTold_75 : decode cX12_handTold 75 = .ok (.dup2, 1) := by decide +kernel
theorem dX12_handTold_76 : decode cX12_handTold 76 = .ok (.iaload, 1) := by decide +kernel
theorem dX12_handTold_77 : decode cX12_handTold 77 = .ok (.iconst 1, 1) := by decide +kernel
theorem dX12_handTold_78 : decode cX12_handTold 78 = .ok (.iadd, 1) := by decide +kernel
theorem dX12_handTold_79 : decode cX12_handTold 79 = .ok (.iastore, 1) := by decide +kernel
theorem dX12_handTold_80 : decode cX12_handTold 80 = .ok (.return_, 1) := by decide +kernel
theorem dX12_likesTold_0 : decode cX12_likesTold 0 = .ok (.aload_n 0, 1) := by decide +kernel
theorem dX12_likesTold_1 : decode cX12_likesTold 1 = .ok (.iconst 0, 1) := by decide +kernel
theorem dX12_likesTold_2 : decode cX12_likesTold 2 = .ok (.invokevirtual 367, 3) := by decide +kernel
theorem dX12_likesTold_5 : decode cX12_likesTold 5 = .ok (.istore_n 1, 1) := by decide +kernel
theorem dX12_likesTold_6 : decode cX12_likesTold 6 = .ok (.aload_n 0, 1) := by decide +kernel
theorem dX12_likesTold_7 : decode cX12_likesTold 7 = .ok (.iconst 1, 1) := by decide +kernel
theorem dX12_likesTold_8 : decode cX12_likesTold 8 = .ok (.invokevirtual 367, 3) := by decide +kernel
theorem dX12_likesTold_11 : decode cX12_likesTold 11 = .ok (.istore_n 2, 1) := by decide +kernel
theorem dX12_likesTold_12 : decode cX12_likesTold 12 = .ok (.aload_n 0, 1) := by decide +kernel
theorem dX12_likesTold_13 : decode cX12_likesTold 13 = .ok (.iconst 0, 1) := by decide +kernel
theorem dX12_likesTold_14 : decode cX12_likesTold 14 = .ok (.bipush 99, 2) := by decide +kernel
theorem dX12_likesTold_16 : decode cX12_likesTold 16 = .ok (.invokevirtual 348, 3) := by decide +kernel
theorem dX12_likesTold_19 : decode cX12_likesTold 19 = .ok (.istore_n 3, 1) := by decide +kernel
theorem dX12_likesTold_20 : decode cX12_likesTold 20 = .ok (.aload_n 0, 1) := by decide +kernel
theorem dX12_likesTold_21 : decode cX12_likesTold 21 = .ok (.getfield 278, 3) := by decide +kernel
theorem dX12_likesTold_24 : decode cX12_likesTold 24 = .ok (.ifCond .ne 15, 3) := by decide +kernel
theorem dX12_likesTold_27 : decode cX12_likesTold 27 = .ok (.aload_n 0, 1) := by decide +kernel
theorem dX12_likesTold_28 : decode cX12_likesTold 28 = .ok (.getfield 139, 3) := by decide +kernel
theorem dX12_likesTold_31 : decode cX12_likesTold 31 = .ok (.bipush 6, 2) := by decide +kernel
theorem dX12_likesTold_33 : decode cX12_likesTold 33 = .ok (.iload_n 1, 1) := by decide +kernel
theorem dX12_likesTold_34 : decode cX12_likesTold 34 = .ok (.imul, 1) := by decide +kernel
theorem dX12_likesTold_35 : decode cX12_likesTold 35 = .ok (.iload_n 2, 1) := by decide +kernel
theorem dX12_likesTold_36 : decode cX12_likesTold 36 = .ok (.iadd, 1) := by decide +kernel
theorem dX12_likesTold_37 : decode cX12_likesTold 37 = .ok (.iload_n 3, 1) := by decide +kernel
theorem dX12_likesTold_38 : decode cX12_likesTold 38 = .ok (.iastore, 1) := by decide +kernel
theorem dX12_likesTold_39 : decode cX12_likesTold 39 = .ok (.return_, 1) := by decide +kernel
theorem dX12_skyTold_0 : decode cX12_skyTold 0 = .ok (.aload_n 0, 1) := by decide +kernel
theorem dX12_skyTold_1 : decode cX12_skyTold 1 = .ok (.iconst 4, 1) := by decide +kernel
theorem dX12_skyTold_2 : decode cX12_skyTold 2 = .ok (.bipush 10, 2) := by decide +kernel
theorem dX12_skyTold_4 : decode cX12_skyTold 4 = .ok (.iload_n 2, 1) := by decide +kernel
theorem dX12_skyTold_5 : decode cX12_skyTold 5 = .ok (.invokevirtual 356, 3) := by decide +kernel
theorem dX12_skyTold_8 : decode cX12_skyTold 8 = .ok (.ifCond .eq 4, 3) := by decide +kernel
theorem dX12_skyTold_11 : decode cX12_skyTold 11 = .ok (.return_, 1) := by decide +kernel
theorem dX12_skyTold_12 : decode cX12_skyTold 12 = .ok (.aload_n 0, 1) := by decide +kernel
theorem dX12_skyTold_13 : decode cX12_skyTold 13 = .ok (.aload_n 0, 1) := by decide +kernel
theorem dX12_skyTold_14 : decode cX12_skyTold 14 = .ok (.getfield 33, 3) := by decide +kernel
theorem dX12_skyTold_17 : decode cX12_skyTold 17 = .ok (.invokevirtual 344, 3) := by decide +kernel
theorem dX12_skyTold_20 : decode cX12_skyTold 20 = .ok (.aload_n 0, 1) := by decide +kernel
theorem dX12_skyTold_21 : decode cX12_skyTold 21 = .ok (.iconst 0, 1) := by decide +kernel
theorem dX12_skyTold_22 : decode cX12_skyTold 22 = .ok (.bipush 99, 2) := by decide +kernel
theorem dX12_skyTold_24 : decode cX12_skyTold 24 = .ok (.invokevirtual 348, 3) := by decide +kernel
theorem dX12_skyTold_27 : decode cX12_skyTold 27 = .ok (.istore_n 3, 1) := by decide +kernel
theorem dX12_skyTold_28 : decode cX12_skyTold 28 = .ok (.iconst 0, 1) := by decide +kernel
theorem dX12_skyTold_29 : decode cX12_skyTold 29 = .ok (.istore 4, 2) := by decide +kernel
theorem dX12_skyTold_31 : decode cX12_skyTold 31 = .ok (.iload 4, 2) := by decide +kernel
theorem dX12_skyTold_33 : decode cX12_skyTold 33 = .ok (.aload_n 0, 1) := by decide +kernel
theorem dX12_skyTold_34 : decode cX12_skyTold 34 = .ok (.getfield 123, 3) := by decide +kernel
theorem dX12_skyTold_37 : decode cX12_skyTold 37 = .ok (.iconst 4, 1) := by decide +kernel
theorem dX12_skyTold_38 : decode cX12_skyTold 38 = .ok (.iaload, 1) := by decide +kernel
theorem dX12_skyTold_39 : decode cX12_skyTold 39 = .ok (.if_icmp .ge 38, 3) := by decide +kernel
theorem dX12_skyTold_42 : decode cX12_skyTold 42 = .ok (.aload_n 0, 1) := by decide +kernel
theorem dX12_skyTold_43 : decode cX12_skyTold 43 = .ok (.getfield 278, 3) := by decide +kernel
theorem dX12_skyTold_46 : decode cX12_skyTold 46 = .ok (.ifCond .ne 25, 3) := by decide +kernel
theorem dX12_skyTold_49 : decode cX12_skyTold 49 = .ok (.aload_n 0, 1) := by decide +kernel
theorem dX12_skyTold_50 : decode cX12_skyTold 50 = .ok (.getfield 142, 3) := by decide +kernel
theorem dX12_skyTold_53 : decode cX12_skyTold 53 = .ok (.iconst 2, 1) := by decide +kernel
theorem dX12_skyTold_54 : decode cX12_skyTold 54 = .ok (.iload 4, 2) := by decide +kernel
theorem dX12_skyTold_56 : decode cX12_skyTold 56 = .ok (.imul, 1) := by decide +kernel
theorem dX12_skyTold_57 : decode cX12_skyTold 57 = .ok (.iaload, 1) := by decide +kernel
theorem dX12_skyTold_58 : decode cX12_skyTold 58 = .ok (.iload_n 3, 1) := by decide +kernel
theorem dX12_skyTold_59 : decode cX12_skyTold 59 = .ok (.if_icmp .ne 12, 3) := by decide +kernel
theorem dX12_skyTold_62 : decode cX12_skyTold 62 = .ok (.aload_n 0, 1) := by decide +kernel
theorem dX12_skyTold_63 : decode cX12_skyTold 63 = .ok (.iconst 2, 1) := by decide +kernel
theorem dX12_skyTold_64 : decode cX12_skyTold 64 = .ok (.aload_n 0, 1) := by decide +kernel
theorem dX12_skyTold_65 : decode cX12_skyTold 65 = .ok (.getfield 318, 3) := by decide +kernel
theorem dX12_skyTold_68 : decode cX12_skyTold 68 = .ok (.invokevirtual 308, 3) := by decide +kernel
theorem dX12_skyTold_71 : decode cX12_skyTold 71 = .ok (.iinc 4 1, 3) := by decide +kernel
theorem dX12_skyTold_74 : decode cX12_skyTold 74 = .ok (.goto (-43), 3) := by decide +kernel
theorem dX12_skyTold_77 : decode cX12_skyTold 77 = .ok (.aload_n 0, 1) := by decide +kernel
theorem dX12_skyTold_78 : decode cX12_skyTold 78 = .ok (.getfield 278, 3) := by decide +kernel
theorem dX12_skyTold_81 : decode cX12_skyTold 81 = .ok (.ifCond .eq 4, 3) := by decide +kernel
theorem dX12_skyTold_84 : decode cX12_skyTold 84 = .ok (.return_, 1) := by decide +kernel
theorem dX12_skyTold_85 : decode cX12_skyTold 85 = .ok (.aload_n 0, 1) := by decide +kernel
theorem dX12_skyTold_86 : decode cX12_skyTold 86 = .ok (.getfield 142, 3) := by decide +kernel
theorem dX12_skyTold_89 : decode cX12_skyTold 89 = .ok (.iconst 2, 1) := by decide +kernel
theorem dX12_skyTold_90 : decode cX12_skyTold 90 = .ok (.aload_n 0, 1) := by decide +kernel
theorem dX12_skyTold_91 : decode cX12_skyTold 91 = .ok (.getfield 123, 3) := by decide +kernel
theorem dX12_skyTold_94 : decode cX12_skyTold 94 = .ok (.iconst 4, 1) := by decide +kernel
theorem dX12_skyTold_95 : decode cX12_skyTold 95 = .ok (.iaload, 1) := by decide +kernel
theorem dX12_skyTold_96 : decode cX12_skyTold 96 = .ok (.imul, 1) := by decide +kernel
theorem dX12_skyTold_97 : decode cX12_skyTold 97 = .ok (.iload_n 3, 1) := by decide +kernel
theorem dX12_skyTold_98 : decode cX12_skyTold 98 = .ok (.iastore, 1) := by decide +kernel
theorem dX12_skyTold_99 : decode cX12_skyTold 99 = .ok (.aload_n 0, 1) := by decide +kernel
theorem dX12_skyTold_100 : decode cX12_skyTold 100 = .ok (.getfield 142, 3) := by decide +kernel
theorem dX12_skyTold_103 : decode cX12_skyTold 103 = .ok (.iconst 2, 1) := by decide +kernel
theorem dX12_skyTold_104 : decode cX12_skyTold 104 = .ok (.aload_n 0, 1) := by decide +kernel
theorem dX12_skyTold_105 : decode cX12_skyTold 105 = .ok (.getfield 123, 3) := by decide +kernel
theorem dX12_skyTold_108 : decode cX12_skyTold 108 = .ok (.iconst 4, 1) := by decide +kernel
theorem dX12_skyTold_109 : decode cX12_skyTold 109 = .ok (.iaload, 1) := by decide +kernel
theorem dX12_skyTold_110 : decode cX12_skyTold 110 = .ok (.imul, 1) := by decide +kernel
theorem dX12_skyTold_111 : decode cX12_skyTold 111 = .ok (.iconst 1, 1) := by decide +kernel
theorem dX12_skyTold_112 : decode cX12_skyTold 112 = .ok (.iadd, 1) := by decide +kernel
theorem dX12_skyTold_113 : decode cX12_skyTold 113 = .ok (.iload_n 1, 1) := by decide +kernel
theorem dX12_skyTold_114 : decode cX12_skyTold 114 = .ok (.iastore, 1) := by decide +kernel
theorem dX12_skyTold_115 : decode cX12_skyTold 115 = .ok (.aload_n 0, 1) := by decide +kernel
theorem dX12_skyTold_116 : decode cX12_skyTold 116 = .ok (.getfield 123, 3) := by decide +kernel
theorem dX12_skyTold_119 : decode cX12_skyTold 119 = .ok (.iconst 4, 1) := by decide +kernel
theorem dX12_skyTold_120 : decode cX12_skyTold 120 = .ok (.dup2, 1) := by decide +kernel
theorem dX12_skyTold_121 : decode cX12_skyTold 121 = .ok (.iaload, 1) := by decide +kernel
theorem dX12_skyTold_122 : decode cX12_skyTold 122 = .ok (.iconst 1, 1) := by decide +kernel
theorem dX12_skyTold_123 : decode cX12_skyTold 123 = .ok (.iadd, 1) := by decide +kernel
theorem dX12_skyTold_124 : decode cX12_skyTold 124 = .ok (.iastore, 1) := by decide +kernel
theorem dX12_skyTold_125 : decode cX12_skyTold 125 = .ok (.return_, 1) := by decide +kernel
theorem dX12_sumIsTold_0 : decode cX12_sumIsTold 0 = .ok (.aload_n 0, 1) := by decide +kernel
theorem dX12_sumIsTold_1 : decode cX12_sumIsTold 1 = .ok (.getfield 278, 3) := by decide +kernel
theorem dX12_sumIsTold_4 : decode cX12_sumIsTold 4 = .ok (.ifCond .ne 19, 3) := by decide +kernel
theorem dX12_sumIsTold_7 : decode cX12_sumIsTold 7 = .ok (.aload_n 0, 1) := by decide +kernel
theorem dX12_sumIsTold_8 : decode cX12_sumIsTold 8 = .ok (.getfield 148, 3) := by decide +kernel
theorem dX12_sumIsTold_11 : decode cX12_sumIsTold 11 = .ok (.iload_n 1, 1) := by decide +kernel
theorem dX12_sumIsTold_12 : decode cX12_sumIsTold 12 = .ok (.iaload, 1) := by decide +kernel
theorem dX12_sumIsTold_13 : decode cX12_sumIsTold 13 = .ok (.iconst (-1), 1) := by decide +kernel
theorem dX12_sumIsTold_14 : decode cX12_sumIsTold 14 = .ok (.if_icmp .eq 9, 3) := by decide +kernel
theorem dX12_sumIsTold_17 : decode cX12_sumIsTold 17 = .ok (.aload_n 0, 1) := by decide +kernel
theorem dX12_sumIsTold_18 : decode cX12_sumIsTold 18 = .ok (.iconst 5, 1) := by decide +kernel
theorem dX12_sumIsTold_19 : decode cX12_sumIsTold 19 = .ok (.iload_n 2, 1) := by decide +kernel
theorem dX12_sumIsTold_20 : decode cX12_sumIsTold 20 = .ok (.invokevirtual 308, 3) := by decide +kernel
theorem dX12_sumIsTold_23 : decode cX12_sumIsTold 23 = .ok (.aload_n 0, 1) := by decide +kernel
theorem dX12_sumIsTold_24 : decode cX12_sumIsTold 24 = .ok (.getfield 278, 3) := by decide +kernel
theorem dX12_sumIsTold_27 : decode cX12_sumIsTold 27 = .ok (.ifCond .eq 4, 3) := by decide +kernel
theorem dX12_sumIsTold_30 : decode cX12_sumIsTold 30 = .ok (.return_, 1) := by decide +kernel
theorem dX12_sumIsTold_31 : decode cX12_sumIsTold 31 = .ok (.aload_n 0, 1) := by decide +kernel
theorem dX12_sumIsTold_32 : decode cX12_sumIsTold 32 = .ok (.iload_n 1, 1) := by decide +kernel
theorem dX12_sumIsTold_33 : decode cX12_sumIsTold 33 = .ok (.ifCond .ne 7, 3) := by decide +kernel
theorem dX12_sumIsTold_36 : decode cX12_sumIsTold 36 = .ok (.iconst 1, 1) := by decide +kernel
theorem dX12_sumIsTold_37 : decode cX12_sumIsTold 37 = .ok (.goto 4, 3) := by decide +kernel
theorem dX12_sumIsTold_40 : decode cX12_sumIsTold 40 = .ok (.iconst 0, 1) := by decide +kernel
theorem dX12_sumIsTold_41 : decode cX12_sumIsTold 41 = .ok (.putfield 370, 3) := by decide +kernel
theorem dX12_sumIsTold_44 : decode cX12_sumIsTold 44 = .ok (.aload_n 0, 1) := by decide +kernel
theorem dX12_sumIsTold_45 : decode cX12_sumIsTold 45 = .ok (.getfield 148, 3) := by decide +kernel
theorem dX12_sumIsTold_48 : decode cX12_sumIsTold 48 = .ok (.iload_n 1, 1) := by decide +kernel
theorem dX12_sumIsTold_49 : decode cX12_sumIsTold 49 = .ok (.aload_n 0, 1) := by decide +kernel
theorem dX12_sumIsTold_50 : decode cX12_sumIsTold 50 = .ok (.getfield 374, 3) := by decide +kernel
theorem dX12_sumIsTold_53 : decode cX12_sumIsTold 53 = .ok (.iastore, 1) := by decide +kernel
theorem dX12_sumIsTold_54 : decode cX12_sumIsTold 54 = .ok (.aload_n 0, 1) := by decide +kernel
theorem dX12_sumIsTold_55 : decode cX12_sumIsTold 55 = .ok (.iconst 0, 1) := by decide +kernel
theorem dX12_sumIsTold_56 : decode cX12_sumIsTold 56 = .ok (.putfield 377, 3) := by decide +kernel
theorem dX12_sumIsTold_59 : decode cX12_sumIsTold 59 = .ok (.aload_n 0, 1) := by decide +kernel
theorem dX12_sumIsTold_60 : decode cX12_sumIsTold 60 = .ok (.iconst 0, 1) := by decide +kernel
theorem dX12_sumIsTold_61 : decode cX12_sumIsTold 61 = .ok (.putfield 380, 3) := by decide +kernel
theorem dX12_sumIsTold_64 : decode cX12_sumIsTold 64 = .ok (.aload_n 0, 1) := by decide +kernel
theorem dX12_sumIsTold_65 : decode cX12_sumIsTold 65 = .ok (.iconst 0, 1) := by decide +kernel
theorem dX12_sumIsTold_66 : decode cX12_sumIsTold 66 = .ok (.putfield 383, 3) := by decide +kernel
theorem dX12_sumIsTold_69 : decode cX12_sumIsTold 69 = .ok (.aload_n 0, 1) := by decide +kernel
theorem dX12_sumIsTold_70 : decode cX12_sumIsTold 70 = .ok (.invokevirtual 386, 3) := by decide +kernel
theorem dX12_sumIsTold_73 : decode cX12_sumIsTold 73 = .ok (.aload_n 0, 1) := by decide +kernel
theorem dX12_sumIsTold_74 : decode cX12_sumIsTold 74 = .ok (.getfield 151, 3) := by decide +kernel
theorem dX12_sumIsTold_77 : decode cX12_sumIsTold 77 = .ok (.iload_n 1, 1) := by decide +kernel
theorem dX12_sumIsTold_78 : decode cX12_sumIsTold 78 = .ok (.aload_n 0, 1) := by decide +kernel
theorem dX12_sumIsTold_79 : decode cX12_sumIsTold 79 = .ok (.getfield 374, 3) := by decide +kernel
theorem dX12_sumIsTold_82 : decode cX12_sumIsTold 82 = .ok (.iastore, 1) := by decide +kernel
theorem dX12_sumIsTold_83 : decode cX12_sumIsTold 83 = .ok (.return_, 1) := by decide +kernel
theorem dX12_statementTold_0 : decode cX12_statementTold 0 = .ok (.aload_n 0, 1) := by decide +kernel
theorem dX12_statementTold_1 : decode cX12_statementTold 1 = .ok (.getfield 284, 3) := by decide +kernel
theorem dX12_statementTold_4 : decode cX12_statementTold 4 = .ok (.istore_n 1, 1) := by decide +kernel
theorem dX12_statementTold_5 : decode cX12_statementTold 5 = .ok (.aload_n 0, 1) := by decide +kernel
theorem dX12_statementTold_6 : decode cX12_statementTold 6 = .ok (.getfield 389, 3) := by decide +kernel
theorem dX12_statementTold_9 : decode cX12_statementTold 9 = .ok (.bipush 60, 2) := by decide +kernel
theorem dX12_statementTold_11 : decode cX12_statementTold 11 = .ok (.if_icmp .ne 10, 3) := by decide +kernel
theorem dX12_statementTold_14 : decode cX12_statementTold 14 = .ok (.aload_n 0, 1) := by decide +kernel
theorem dX12_statementTold_15 : decode cX12_statementTold 15 = .ok (.iconst 5, 1) := by decide +kernel
theorem dX12_statementTold_16 : decode cX12_statementTold 16 = .ok (.iload_n 1, 1) := by decide +kernel
theorem dX12_statementTold_17 : decode cX12_statementTold 17 = .ok (.invokevirtual 308, 3) := by decide +kernel
theorem dX12_statementTold_20 : decode cX12_statementTold 20 = .ok (.return_, 1) := by decide +kernel
theorem dX12_statementTold_21 : decode cX12_statementTold 21 = .ok (.aload_n 0, 1) := by decide +kernel
theorem dX12_statementTold_22 : decode cX12_statementTold 22 = .ok (.aload_n 0, 1) := by decide +kernel
theorem dX12_statementTold_23 : decode cX12_statementTold 23 = .ok (.getfield 24, 3) := by decide +kernel
theorem dX12_statementTold_26 : decode cX12_statementTold 26 = .ok (.invokevirtual 305, 3) := by decide +kernel
theorem dX12_statementTold_29 : decode cX12_statementTold 29 = .ok (.ifCond .eq 11, 3) := by decide +kernel
theorem dX12_statementTold_32 : decode cX12_statementTold 32 = .ok (.aload_n 0, 1) := by decide +kernel
theorem dX12_statementTold_33 : decode cX12_statementTold 33 = .ok (.iload_n 1, 1) := by decide +kernel
theorem dX12_statementTold_34 : decode cX12_statementTold 34 = .ok (.invokevirtual 392, 3) := by decide +kernel
theorem dX12_statementTold_37 : decode cX12_statementTold 37 = .ok (.goto 220, 3) := by decide +kernel
theorem dX12_statementTold_40 : decode cX12_statementTold 40 = .ok (.aload_n 0, 1) := by decide +kernel
theorem dX12_statementTold_41 : decode cX12_statementTold 41 = .ok (.aload_n 0, 1) := by decide +kernel
theorem dX12_statementTold_42 : decode cX12_statementTold 42 = .ok (.getfield 27, 3) := by decide +kernel
theorem dX12_statementTold_45 : decode cX12_statementTold 45 = .ok (.invokevirtual 305, 3) := by decide +kernel
theorem dX12_statementTold_48 : decode cX12_statementTold 48 = .ok (.ifCond .eq 11, 3) := by decide +kernel
theorem dX12_statementTold_51 : decode cX12_statementTold 51 = .ok (.aload_n 0, 1) := by decide +kernel
theorem dX12_statementTold_52 : decode cX12_statementTold 52 = .ok (.iload_n 1, 1) := by decide +kernel
theorem dX12_statementTold_53 : decode cX12_statementTold 53 = .ok (.invokevirtual 395, 3) := by decide +kernel
theorem dX12_statementTold_56 : decode cX12_statementTold 56 = .ok (.goto 201, 3) := by decide +kernel
theorem dX12_statementTold_59 : decode cX12_statementTold 59 = .ok (.aload_n 0, 1) := by decide +kernel
theorem dX12_statementTold_60 : decode cX12_statementTold 60 = .ok (.aload_n 0, 1) := by decide +kernel
theorem dX12_statementTold_61 : decode cX12_statementTold 61 = .ok (.getfield 36, 3) := by decide +kernel
theorem dX12_statementTold_64 : decode cX12_statementTold 64 = .ok (.invokevirtual 305, 3) := by decide +kernel
theorem dX12_statementTold_67 : decode cX12_statementTold 67 = .ok (.ifCond .eq 11, 3) := by decide +kernel
theorem dX12_statementTold_70 : decode cX12_statementTold 70 = .ok (.aload_n 0, 1) := by decide +kernel
theorem dX12_statementTold_71 : decode cX12_statementTold 71 = .ok (.iload_n 1, 1) := by decide +kernel
theorem dX12_statementTold_72 : decode cX12_statementTold 72 = .ok (.invokevirtual 398, 3) := by decide +kernel
theorem dX12_statementTold_75 : decode cX12_statementTold 75 = .ok (.goto 182, 3) := by decide +kernel
theorem dX12_statementTold_78 : decode cX12_statementTold 78 = .ok (.aload_n 0, 1) := by decide +kernel
theorem dX12_statementTold_79 : decode cX12_statementTold 79 = .ok (.aload_n 0, 1) := by decide +kernel
theorem dX12_statementTold_80 : decode cX12_statementTold 80 = .ok (.getfield 42, 3) := by decide +kernel
theorem dX12_statementTold_83 : decode cX12_statementTold 83 = .ok (.invokevirtual 305, 3) := by decide +kernel
theorem dX12_statementTold_86 : decode cX12_statementTold 86 = .ok (.ifCond .eq 10, 3) := by decide +kernel
theorem dX12_statementTold_89 : decode cX12_statementTold 89 = .ok (.aload_n 0, 1) := by decide +kernel
theorem dX12_statementTold_90 : decode cX12_statementTold 90 = .ok (.invokevirtual 401, 3) := by decide +kernel
theorem dX12_statementTold_93 : decode cX12_statementTold 93 = .ok (.goto 164, 3) := by decide +kernel
theorem dX12_statementTold_96 : decode cX12_statementTold 96 = .ok (.aload_n 0, 1) := by decide +kernel
theorem dX12_statementTold_97 : decode cX12_statementTold 97 = .ok (.aload_n 0, 1) := by decide +kernel
theorem dX12_statementTold_98 : decode cX12_statementTold 98 = .ok (.getfield 45, 3) := by decide +kernel
theorem dX12_statementTold_101 : decode cX12_statementTold 101 = .ok (.invokevirtual 305, 3) := by decide +kernel
theorem dX12_statementTold_104 : decode cX12_statementTold 104 = .ok (.ifCond .eq 12, 3) := by decide +kernel
theorem dX12_statementTold_107 : decode cX12_statementTold 107 = .ok (.aload_n 0, 1) := by decide +kernel
theorem dX12_statementTold_108 : decode cX12_statementTold 108 = .ok (.iconst 0, 1) := by decide +kernel
theorem dX12_statementTold_109 : decode cX12_statementTold 109 = .ok (.iload_n 1, 1) := by decide +kernel
theorem dX12_statementTold_110 : decode cX12_statementTold 110 = .ok (.invokevirtual 404, 3) := by decide +kernel
theorem dX12_statementTold_113 : decode cX12_statementTold 113 = .ok (.goto 144, 3) := by decide +kernel
theorem dX12_statementTold_116 : decode cX12_statementTold 116 = .ok (.aload_n 0, 1) := by decide +kernel
theorem dX12_statementTold_117 : decode cX12_statementTold 117 = .ok (.aload_n 0, 1) := by decide +kernel
theorem dX12_statementTold_118 : decode cX12_statementTold 118 = .ok (.getfield 48, 3) := by decide +kernel
theorem dX12_statementTold_121 : decode cX12_statementTold 121 = .ok (.invokevirtual 305, 3) := by decide +kernel
theorem dX12_statementTold_124 : decode cX12_statementTold 124 = .ok (.ifCond .eq 12, 3) := by decide +kernel
theorem dX12_statementTold_127 : decode cX12_statementTold 127 = .ok (.aload_n 0, 1) := by decide +kernel
theorem dX12_statementTold_128 : decode cX12_statementTold 128 = .ok (.iconst 1, 1) := by decide +kernel
theorem dX12_statementTold_129 : decode cX12_statementTold 129 = .ok (.iload_n 1, 1) := by decide +kernel
theorem dX12_statementTold_130 : decode cX12_statementTold 130 = .ok (.invokevirtual 404, 3) := by decide +kernel
theorem dX12_statementTold_133 : decode cX12_statementTold 133 = .ok (.goto 124, 3) := by decide +kernel
theorem dX12_statementTold_136 : decode cX12_statementTold 136 = .ok (.aload_n 0, 1) := by decide +kernel
theorem dX12_statementTold_137 : decode cX12_statementTold 137 = .ok (.aload_n 0, 1) := by decide +kernel
theorem dX12_statementTold_138 : decode cX12_statementTold 138 = .ok (.getfield 51, 3) := by decide +kernel
theorem dX12_statementTold_141 : decode cX12_statementTold 141 = .ok (.invokevirtual 305, 3) := by decide +kernel
theorem dX12_statementTold_144 : decode cX12_statementTold 144 = .ok (.ifCond .eq 12, 3) := by decide +kernel
theorem dX12_statementTold_147 : decode cX12_statementTold 147 = .ok (.aload_n 0, 1) := by decide +kernel
theorem dX12_statementTold_148 : decode cX12_statementTold 148 = .ok (.iconst 2, 1) := by decide +kernel
theorem dX12_statementTold_149 : decode cX12_statementTold 149 = .ok (.iload_n 1, 1) := by decide +kernel
theorem dX12_statementTold_150 : decode cX12_statementTold 150 = .ok (.invokevirtual 404, 3) := by decide +kernel
theorem dX12_statementTold_153 : decode cX12_statementTold 153 = .ok (.goto 104, 3) := by decide +kernel
theorem dX12_statementTold_156 : decode cX12_statementTold 156 = .ok (.aload_n 0, 1) := by decide +kernel
theorem dX12_statementTold_157 : decode cX12_statementTold 157 = .ok (.aload_n 0, 1) := by decide +kernel
theorem dX12_statementTold_158 : decode cX12_statementTold 158 = .ok (.getfield 54, 3) := by decide +kernel
theorem dX12_statementTold_161 : decode cX12_statementTold 161 = .ok (.invokevirtual 305, 3) := by decide +kernel
theorem dX12_statementTold_164 : decode cX12_statementTold 164 = .ok (.ifCond .eq 12, 3) := by decide +kernel
theorem dX12_statementTold_167 : decode cX12_statementTold 167 = .ok (.aload_n 0, 1) := by decide +kernel
theorem dX12_statementTold_168 : decode cX12_statementTold 168 = .ok (.iconst 3, 1) := by decide +kernel
theorem dX12_statementTold_169 : decode cX12_statementTold 169 = .ok (.iload_n 1, 1) := by decide +kernel
theorem dX12_statementTold_170 : decode cX12_statementTold 170 = .ok (.invokevirtual 404, 3) := by decide +kernel
theorem dX12_statementTold_173 : decode cX12_statementTold 173 = .ok (.goto 84, 3) := by decide +kernel
theorem dX12_statementTold_176 : decode cX12_statementTold 176 = .ok (.aload_n 0, 1) := by decide +kernel
theorem dX12_statementTold_177 : decode cX12_statementTold 177 = .ok (.aload_n 0, 1) := by decide +kernel
theorem dX12_statementTold_178 : decode cX12_statementTold 178 = .ok (.getfield 57, 3) := by decide +kernel
theorem dX12_statementTold_181 : decode cX12_statementTold 181 = .ok (.invokevirtual 305, 3) := by decide +kernel
theorem dX12_statementTold_184 : decode cX12_statementTold 184 = .ok (.ifCond .eq 12, 3) := by decide +kernel
theorem dX12_statementTold_187 : decode cX12_statementTold 187 = .ok (.aload_n 0, 1) := by decide +kernel
theorem dX12_statementTold_188 : decode cX12_statementTold 188 = .ok (.iconst 0, 1) := by decide +kernel
theorem dX12_statementTold_189 : decode cX12_statementTold 189 = .ok (.iload_n 1, 1) := by decide +kernel
theorem dX12_statementTold_190 : decode cX12_statementTold 190 = .ok (.invokevirtual 407, 3) := by decide +kernel
theorem dX12_statementTold_193 : decode cX12_statementTold 193 = .ok (.goto 64, 3) := by decide +kernel
theorem dX12_statementTold_196 : decode cX12_statementTold 196 = .ok (.aload_n 0, 1) := by decide +kernel
theorem dX12_statementTold_197 : decode cX12_statementTold 197 = .ok (.aload_n 0, 1) := by decide +kernel
theorem dX12_statementTold_198 : decode cX12_statementTold 198 = .ok (.getfield 60, 3) := by decide +kernel
theorem dX12_statementTold_201 : decode cX12_statementTold 201 = .ok (.invokevirtual 305, 3) := by decide +kernel
theorem dX12_statementTold_204 : decode cX12_statementTold 204 = .ok (.ifCond .eq 12, 3) := by decide +kernel
theorem dX12_statementTold_207 : decode cX12_statementTold 207 = .ok (.aload_n 0, 1) := by decide +kernel
theorem dX12_statementTold_208 : decode cX12_statementTold 208 = .ok (.iconst 1, 1) := by decide +kernel
theorem dX12_statementTold_209 : decode cX12_statementTold 209 = .ok (.iload_n 1, 1) := by decide +kernel
theorem dX12_statementTold_210 : decode cX12_statementTold 210 = .ok (.invokevirtual 407, 3) := by decide +kernel
theorem dX12_statementTold_213 : decode cX12_statementTold 213 = .ok (.goto 44, 3) := by decide +kernel
theorem dX12_statementTold_216 : decode cX12_statementTold 216 = .ok (.aload_n 0, 1) := by decide +kernel
theorem dX12_statementTold_217 : decode cX12_statementTold 217 = .ok (.aload_n 0, 1) := by decide +kernel
theorem dX12_statementTold_218 : decode cX12_statementTold 218 = .ok (.getfield 63, 3) := by decide +kernel
theorem dX12_statementTold_221 : decode cX12_statementTold 221 = .ok (.invokevirtual 305, 3) := by decide +kernel
theorem dX12_statementTold_224 : decode cX12_statementTold 224 = .ok (.ifCond .eq 12, 3) := by decide +kernel
theorem dX12_statementTold_227 : decode cX12_statementTold 227 = .ok (.aload_n 0, 1) := by decide +kernel
theorem dX12_statementTold_228 : decode cX12_statementTold 228 = .ok (.iconst 2, 1) := by decide +kernel
theorem dX12_statementTold_229 : decode cX12_statementTold 229 = .ok (.iload_n 1, 1) := by decide +kernel
theorem dX12_statementTold_230 : decode cX12_statementTold 230 = .ok (.invokevirtual 407, 3) := by decide +kernel
theorem dX12_statementTold_233 : decode cX12_statementTold 233 = .ok (.goto 24, 3) := by decide +kernel
theorem dX12_statementTold_236 : decode cX12_statementTold 236 = .ok (.aload_n 0, 1) := by decide +kernel
theorem dX12_statementTold_237 : decode cX12_statementTold 237 = .ok (.aload_n 0, 1) := by decide +kernel
theorem dX12_statementTold_238 : decode cX12_statementTold 238 = .ok (.getfield 66, 3) := by decide +kernel
theorem dX12_statementTold_241 : decode cX12_statementTold 241 = .ok (.invokevirtual 344, 3) := by decide +kernel
theorem dX12_statementTold_244 : decode cX12_statementTold 244 = .ok (.aload_n 0, 1) := by decide +kernel
theorem dX12_statementTold_245 : decode cX12_statementTold 245 = .ok (.getfield 145, 3) := by decide +kernel
theorem dX12_statementTold_248 : decode cX12_statementTold 248 = .ok (.iconst 0, 1) := by decide +kernel
theorem dX12_statementTold_249 : decode cX12_statementTold 249 = .ok (.aload_n 0, 1) := by decide +kernel
theorem dX12_statementTold_250 : decode cX12_statementTold 250 = .ok (.iconst 1, 1) := by decide +kernel
theorem dX12_statementTold_251 : decode cX12_statementTold 251 = .ok (.bipush 99, 2) := by decide +kernel
theorem dX12_statementTold_253 : decode cX12_statementTold 253 = .ok (.invokevirtual 348, 3) := by decide +kernel
theorem dX12_statementTold_256 : decode cX12_statementTold 256 = .ok (.iastore, 1) := by decide +kernel
theorem dX12_statementTold_257 : decode cX12_statementTold 257 = .ok (.aload_n 0, 1) := by decide +kernel
theorem dX12_statementTold_258 : decode cX12_statementTold 258 = .ok (.bipush 59, 2) := by decide +kernel
theorem dX12_statementTold_260 : decode cX12_statementTold 260 = .ok (.invokevirtual 352, 3) := by decide +kernel
theorem dX12_statementTold_263 : decode cX12_statementTold 263 = .ok (.aload_n 0, 1) := by decide +kernel
theorem dX12_statementTold_264 : decode cX12_statementTold 264 = .ok (.dup, 1) := by decide +kernel
theorem dX12_statementTold_265 : decode cX12_statementTold 265 = .ok (.getfield 389, 3) := by decide +kernel
theorem dX12_statementTold_268 : decode cX12_statementTold 268 = .ok (.iconst 1, 1) := by decide +kernel
theorem dX12_statementTold_269 : decode cX12_statementTold 269 = .ok (.iadd, 1) := by decide +kernel
theorem dX12_statementTold_270 : decode cX12_statementTold 270 = .ok (.putfield 389, 3) := by decide +kernel
theorem dX12_statementTold_273 : decode cX12_statementTold 273 = .ok (.return_, 1) := by decide +kernel
theorem dX12_lake_0 : decode cX12_lake 0 = .ok (.aload_n 0, 1) := by decide +kernel
theorem dX12_lake_1 : decode cX12_lake 1 = .ok (.aload_n 0, 1) := by decide +kernel
theorem dX12_lake_2 : decode cX12_lake 2 = .ok (.getfield 275, 3) := by decide +kernel
theorem dX12_lake_5 : decode cX12_lake 5 = .ok (.putfield 287, 3) := by decide +kernel
theorem dX12_lake_8 : decode cX12_lake 8 = .ok (.aload_n 0, 1) := by decide +kernel
theorem dX12_lake_9 : decode cX12_lake 9 = .ok (.iconst 0, 1) := by decide +kernel
theorem dX12_lake_10 : decode cX12_lake 10 = .ok (.putfield 275, 3) := by decide +kernel
theorem dX12_lake_13 : decode cX12_lake 13 = .ok (.aload_n 0, 1) := by decide +kernel
theorem dX12_lake_14 : decode cX12_lake 14 = .ok (.iconst 0, 1) := by decide +kernel
theorem dX12_lake_15 : decode cX12_lake 15 = .ok (.putfield 284, 3) := by decide +kernel
theorem dX12_lake_18 : decode cX12_lake 18 = .ok (.aload_n 0, 1) := by decide +kernel
theorem dX12_lake_19 : decode cX12_lake 19 = .ok (.iconst (-1), 1) := by decide +kernel
theorem dX12_lake_20 : decode cX12_lake 20 = .ok (.putfield 298, 3) := by decide +kernel
theorem dX12_lake_23 : decode cX12_lake 23 = .ok (.aload_n 0, 1) := by decide +kernel
theorem dX12_lake_24 : decode cX12_lake 24 = .ok (.iconst 0, 1) := by decide +kernel
theorem dX12_lake_25 : decode cX12_lake 25 = .ok (.putfield 278, 3) := by decide +kernel
theorem dX12_lake_28 : decode cX12_lake 28 = .ok (.aload_n 0, 1) := by decide +kernel
theorem dX12_lake_29 : decode cX12_lake 29 = .ok (.iconst (-1), 1) := by decide +kernel
theorem dX12_lake_30 : decode cX12_lake 30 = .ok (.putfield 281, 3) := by decide +kernel
theorem dX12_lake_33 : decode cX12_lake 33 = .ok (.aload_n 0, 1) := by decide +kernel
theorem dX12_lake_34 : decode cX12_lake 34 = .ok (.iconst 0, 1) := by decide +kernel
theorem dX12_lake_35 : decode cX12_lake 35 = .ok (.putfield 374, 3) := by decide +kernel
theorem dX12_lake_38 : decode cX12_lake 38 = .ok (.iconst 0, 1) := by decide +kernel
theorem dX12_lake_39 : decode cX12_lake 39 = .ok (.istore_n 1, 1) := by decide +kernel
theorem dX12_lake_40 : decode cX12_lake 40 = .ok (.iload_n 1, 1) := by decide +kernel
theorem dX12_lake_41 : decode cX12_lake 41 = .ok (.iconst 5, 1) := by decide +kernel
theorem dX12_lake_42 : decode cX12_lake 42 = .ok (.if_icmp .ge 16, 3) := by decide +kernel
theorem dX12_lake_45 : decode cX12_lake 45 = .ok (.aload_n 0, 1) := by decide +kernel
theorem dX12_lake_46 : decode cX12_lake 46 = .ok (.getfield 123, 3) := by decide +kernel
theorem dX12_lake_49 : decode cX12_lake 49 = .ok (.iload_n 1, 1) := by decide +kernel
theorem dX12_lake_50 : decode cX12_lake 50 = .ok (.iconst 0, 1) := by decide +kernel
theorem dX12_lake_51 : decode cX12_lake 51 = .ok (.iastore, 1) := by decide +kernel
theorem dX12_lake_52 : decode cX12_lake 52 = .ok (.iinc 1 1, 3) := by decide +kernel
theorem dX12_lake_55 : decode cX12_lake 55 = .ok (.goto (-15), 3) := by decide +kernel
theorem dX12_lake_58 : decode cX12_lake 58 = .ok (.iconst 0, 1) := by decide +kernel
theorem dX12_lake_59 : decode cX12_lake 59 = .ok (.istore_n 1, 1) := by decide +kernel
theorem dX12_lake_60 : decode cX12_lake 60 = .ok (.iload_n 1, 1) := by decide +kernel
theorem dX12_lake_61 : decode cX12_lake 61 = .ok (.bipush 36, 2) := by decide +kernel
theorem dX12_lake_63 : decode cX12_lake 63 = .ok (.if_icmp .ge 16, 3) := by decide +kernel
theorem dX12_lake_66 : decode cX12_lake 66 = .ok (.aload_n 0, 1) := by decide +kernel
theorem dX12_lake_67 : decode cX12_lake 67 = .ok (.getfield 139, 3) := by decide +kernel
theorem dX12_lake_70 : decode cX12_lake 70 = .ok (.iload_n 1, 1) := by decide +kernel
theorem dX12_lake_71 : decode cX12_lake 71 = .ok (.iconst 0, 1) := by decide +kernel
theorem dX12_lake_72 : decode cX12_lake 72 = .ok (.iastore, 1) := by decide +kernel
theorem dX12_lake_73 : decode cX12_lake 73 = .ok (.iinc 1 1, 3) := by decide +kernel
theorem dX12_lake_76 : decode cX12_lake 76 = .ok (.goto (-16), 3) := by decide +kernel
theorem dX12_lake_79 : decode cX12_lake 79 = .ok (.iconst 0, 1) := by decide +kernel
theorem dX12_lake_80 : decode cX12_lake 80 = .ok (.istore_n 1, 1) := by decide +kernel
theorem dX12_lake_81 : decode cX12_lake 81 = .ok (.iload_n 1, 1) := by decide +kernel
theorem dX12_lake_82 : decode cX12_lake 82 = .ok (.iconst 3, 1) := by decide +kernel
theorem dX12_lake_83 : decode cX12_lake 83 = .ok (.if_icmp .ge 16, 3) := by decide +kernel
theorem dX12_lake_86 : decode cX12_lake 86 = .ok (.aload_n 0, 1) := by decide +kernel
theorem dX12_lake_87 : decode cX12_lake 87 = .ok (.getfield 148, 3) := by decide +kernel
theorem dX12_lake_90 : decode cX12_lake 90 = .ok (.iload_n 1, 1) := by decide +kernel
theorem dX12_lake_91 : decode cX12_lake 91 = .ok (.iconst (-1), 1) := by decide +kernel
theorem dX12_lake_92 : decode cX12_lake 92 = .ok (.iastore, 1) := by decide +kernel
theorem dX12_lake_93 : decode cX12_lake 93 = .ok (.iinc 1 1, 3) := by decide +kernel
theorem dX12_lake_96 : decode cX12_lake 96 = .ok (.goto (-15), 3) := by decide +kernel
theorem dX12_lake_99 : decode cX12_lake 99 = .ok (.aload_n 0, 1) := by decide +kernel
theorem dX12_lake_100 : decode cX12_lake 100 = .ok (.getfield 145, 3) := by decide +kernel
theorem dX12_lake_103 : decode cX12_lake 103 = .ok (.iconst 0, 1) := by decide +kernel
theorem dX12_lake_104 : decode cX12_lake 104 = .ok (.iconst 5, 1) := by decide +kernel
theorem dX12_lake_105 : decode cX12_lake 105 = .ok (.iastore, 1) := by decide +kernel
theorem dX12_lake_106 : decode cX12_lake 106 = .ok (.aload_n 0, 1) := by decide +kernel
theorem dX12_lake_107 : decode cX12_lake 107 = .ok (.invokevirtual 410, 3) := by decide +kernel
theorem dX12_lake_110 : decode cX12_lake 110 = .ok (.aload_n 0, 1) := by decide +kernel
theorem dX12_lake_111 : decode cX12_lake 111 = .ok (.iconst 1, 1) := by decide +kernel
theorem dX12_lake_112 : decode cX12_lake 112 = .ok (.putfield 389, 3) := by decide +kernel
theorem dX12_lake_115 : decode cX12_lake 115 = .ok (.aload_n 0, 1) := by decide +kernel
theorem dX12_lake_116 : decode cX12_lake 116 = .ok (.getfield 278, 3) := by decide +kernel
theorem dX12_lake_119 : decode cX12_lake 119 = .ok (.ifCond .ne 18, 3) := by decide +kernel
theorem dX12_lake_122 : decode cX12_lake 122 = .ok (.aload_n 0, 1) := by decide +kernel
theorem dX12_lake_123 : decode cX12_lake 123 = .ok (.invokevirtual 290, 3) := by decide +kernel
theorem dX12_lake_126 : decode cX12_lake 126 = .ok (.iconst (-1), 1) := by decide +kernel
theorem dX12_lake_127 : decode cX12_lake 127 = .ok (.if_icmp .eq 10, 3) := by decide +kernel
theorem dX12_lake_130 : decode cX12_lake 130 = .ok (.aload_n 0, 1) := by decide +kernel
theorem dX12_lake_131 : decode cX12_lake 131 = .ok (.invokevirtual 413, 3) := by decide +kernel
theorem dX12_lake_134 : decode cX12_lake 134 = .ok (.goto (-19), 3) := by decide +kernel
theorem dX12_lake_137 : decode cX12_lake 137 = .ok (.aload_n 0, 1) := by decide +kernel
theorem dX12_lake_138 : decode cX12_lake 138 = .ok (.aload_n 0, 1) := by decide +kernel
theorem dX12_lake_139 : decode cX12_lake 139 = .ok (.getfield 278, 3) := by decide +kernel
theorem dX12_lake_142 : decode cX12_lake 142 = .ok (.putfield 416, 3) := by decide +kernel
theorem dX12_lake_145 : decode cX12_lake 145 = .ok (.aload_n 0, 1) := by decide +kernel
theorem dX12_lake_146 : decode cX12_lake 146 = .ok (.aload_n 0, 1) := by decide +kernel
theorem dX12_lake_147 : decode cX12_lake 147 = .ok (.getfield 281, 3) := by decide +kernel
theorem dX12_lake_150 : decode cX12_lake 150 = .ok (.putfield 13, 3) := by decide +kernel
theorem dX12_lake_153 : decode cX12_lake 153 = .ok (.aload_n 0, 1) := by decide +kernel
theorem dX12_lake_154 : decode cX12_lake 154 = .ok (.getfield 278, 3) := by decide +kernel
theorem dX12_lake_157 : decode cX12_lake 157 = .ok (.ifCond .eq 15, 3) := by decide +kernel
theorem dX12_lake_160 : decode cX12_lake 160 = .ok (.aload_n 0, 1) := by decide +kernel
theorem dX12_lake_161 : decode cX12_lake 161 = .ok (.getfield 17, 3) := by decide +kernel
theorem dX12_lake_164 : decode cX12_lake 164 = .ok (.iconst 1, 1) := by decide +kernel
theorem dX12_lake_165 : decode cX12_lake 165 = .ok (.dup2, 1) := by decide +kernel
theorem dX12_lake_166 : decode cX12_lake 166 = .ok (.iaload, 1) := by decide +kernel
theorem dX12_lake_167 : decode cX12_lake 167 = .ok (.iconst 1, 1) := by decide +kernel
theorem dX12_lake_168 : decode cX12_lake 168 = .ok (.iadd, 1) := by decide +kernel
theorem dX12_lake_169 : decode cX12_lake 169 = .ok (.iastore, 1) := by decide +kernel
theorem dX12_lake_170 : decode cX12_lake 170 = .ok (.iconst (-1), 1) := by decide +kernel
theorem dX12_lake_171 : decode cX12_lake 171 = .ok (.ireturn, 1) := by decide +kernel
theorem dX12_lake_172 : decode cX12_lake 172 = .ok (.aload_n 0, 1) := by decide +kernel
theorem dX12_lake_173 : decode cX12_lake 173 = .ok (.invokevirtual 419, 3) := by decide +kernel
theorem dX12_lake_176 : decode cX12_lake 176 = .ok (.aload_n 0, 1) := by decide +kernel
theorem dX12_lake_177 : decode cX12_lake 177 = .ok (.getfield 389, 3) := by decide +kernel
theorem dX12_lake_180 : decode cX12_lake 180 = .ok (.ireturn, 1) := by decide +kernel
theorem dX12_stands_0 : decode cX12_stands 0 = .ok (.aload_n 0, 1) := by decide +kernel
theorem dX12_stands_1 : decode cX12_stands 1 = .ok (.iconst 1, 1) := by decide +kernel
theorem dX12_stands_2 : decode cX12_stands 2 = .ok (.putfield 422, 3) := by decide +kernel
theorem dX12_stands_5 : decode cX12_stands 5 = .ok (.iconst 0, 1) := by decide +kernel
theorem dX12_stands_6 : decode cX12_stands 6 = .ok (.istore_n 1, 1) := by decide +kernel
theorem dX12_stands_7 : decode cX12_stands 7 = .ok (.iload_n 1, 1) := by decide +kernel
theorem dX12_stands_8 : decode cX12_stands 8 = .ok (.iconst 5, 1) := by decide +kernel
theorem dX12_stands_9 : decode cX12_stands 9 = .ok (.if_icmp .ge 23, 3) := by decide +kernel
theorem dX12_stands_12 : decode cX12_stands 12 = .ok (.aload_n 0, 1) := by decide +kernel
theorem dX12_stands_13 : decode cX12_stands 13 = .ok (.getfield 123, 3) := by decide +kernel
theorem dX12_stands_16 : decode cX12_stands 16 = .ok (.iconst 5, 1) := by decide +kernel
theorem dX12_stands_17 : decode cX12_stands 17 = .ok (.iload_n 1, 1) := by decide +kernel
theorem dX12_stands_18 : decode cX12_stands 18 = .ok (.iadd, 1) := by decide +kernel
theorem dX12_stands_19 : decode cX12_stands 19 = .ok (.aload_n 0, 1) := by decide +kernel
theorem dX12_stands_20 : decode cX12_stands 20 = .ok (.getfield 123, 3) := by decide +kernel
theorem dX12_stands_23 : decode cX12_stands 23 = .ok (.iload_n 1, 1) := by decide +kernel
theorem dX12_stands_24 : decode cX12_stands 24 = .ok (.iaload, 1) := by decide +kernel
theorem dX12_stands_25 : decode cX12_stands 25 = .ok (.iastore, 1) := by decide +kernel
theorem dX12_stands_26 : decode cX12_stands 26 = .ok (.iinc 1 1, 3) := by decide +kernel
theorem dX12_stands_29 : decode cX12_stands 29 = .ok (.goto (-22), 3) := by decide +kernel
theorem dX12_stands_32 : decode cX12_stands 32 = .ok (.iconst 0, 1) := by decide +kernel
theorem dX12_stands_33 : decode cX12_stands 33 = .ok (.istore_n 1, 1) := by decide +kernel
theorem dX12_stands_34 : decode cX12_stands 34 = .ok (.iload_n 1, 1) := by decide +kernel
theorem dX12_stands_35 : decode cX12_stands 35 = .ok (.bipush 12, 2) := by decide +kernel
theorem dX12_stands_37 : decode cX12_stands 37 = .ok (.if_icmp .ge 39, 3) := by decide +kernel
theorem dX12_stands_40 : decode cX12_stands 40 = .ok (.aload_n 0, 1) := by decide +kernel
theorem dX12_stands_41 : decode cX12_stands 41 = .ok (.getfield 126, 3) := by decide +kernel
theorem dX12_stands_44 : decode cX12_stands 44 = .ok (.bipush 12, 2) := by decide +kernel
theorem dX12_stands_46 : decode cX12_stands 46 = .ok (.iload_n 1, 1) := by decide +kernel
theorem dX12_stands_47 : decode cX12_stands 47 = .ok (.iadd, 1) := by decide +kernel
theorem dX12_stands_48 : decode cX12_stands 48 = .ok (.aload_n 0, 1) := by decide +kernel
theorem dX12_stands_49 : decode cX12_stands 49 = .ok (.getfield 126, 3) := by decide +kernel
theorem dX12_stands_52 : decode cX12_stands 52 = .ok (.iload_n 1, 1) := by decide +kernel
theorem dX12_stands_53 : decode cX12_stands 53 = .ok (.laload, 1) := by decide +kernel
theorem dX12_stands_54 : decode cX12_stands 54 = .ok (.lastore, 1) := by decide +kernel
theorem dX12_stands_55 : decode cX12_stands 55 = .ok (.aload_n 0, 1) := by decide +kernel
theorem dX12_stands_56 : decode cX12_stands 56 = .ok (.getfield 133, 3) := by decide +kernel
theorem dX12_stands_59 : decode cX12_stands 59 = .ok (.bipush 12, 2) := by decide +kernel
theorem dX12_stands_61 : decode cX12_stands 61 = .ok (.iload_n 1, 1) := by decide +kernel
theorem dX12_stands_62 : decode cX12_stands 62 = .ok (.iadd, 1) := by decide +kernel
theorem dX12_stands_63 : decode cX12_stands 63 = .ok (.aload_n 0, 1) := by decide +kernel
theorem dX12_stands_64 : decode cX12_stands 64 = .ok (.getfield 133, 3) := by decide +kernel
theorem dX12_stands_67 : decode cX12_stands 67 = .ok (.iload_n 1, 1) := by decide +kernel
theorem dX12_stands_68 : decode cX12_stands 68 = .ok (.iaload, 1) := by decide +kernel
theorem dX12_stands_69 : decode cX12_stands 69 = .ok (.iastore, 1) := by decide +kernel
theorem dX12_stands_70 : decode cX12_stands 70 = .ok (.iinc 1 1, 3) := by decide +kernel
theorem dX12_stands_73 : decode cX12_stands 73 = .ok (.goto (-39), 3) := by decide +kernel
theorem dX12_stands_76 : decode cX12_stands 76 = .ok (.iconst 0, 1) := by decide +kernel
theorem dX12_stands_77 : decode cX12_stands 77 = .ok (.istore_n 1, 1) := by decide +kernel
theorem dX12_stands_78 : decode cX12_stands 78 = .ok (.iload_n 1, 1) := by decide +kernel
theorem dX12_stands_79 : decode cX12_stands 79 = .ok (.bipush 48, 2) := by decide +kernel
theorem dX12_stands_81 : decode cX12_stands 81 = .ok (.if_icmp .ge 24, 3) := by decide +kernel
theorem dX12_stands_84 : decode cX12_stands 84 = .ok (.aload_n 0, 1) := by decide +kernel
theorem dX12_stands_85 : decode cX12_stands 85 = .ok (.getfield 130, 3) := by decide +kernel
theorem dX12_stands_88 : decode cX12_stands 88 = .ok (.bipush 48, 2) := by decide +kernel
theorem dX12_stands_90 : decode cX12_stands 90 = .ok (.iload_n 1, 1) := by decide +kernel
theorem dX12_stands_91 : decode cX12_stands 91 = .ok (.iadd, 1) := by decide +kernel
theorem dX12_stands_92 : decode cX12_stands 92 = .ok (.aload_n 0, 1) := by decide +kernel
theorem dX12_stands_93 : decode cX12_stands 93 = .ok (.getfield 130, 3) := by decide +kernel
theorem dX12_stands_96 : decode cX12_stands 96 = .ok (.iload_n 1, 1) := by decide +kernel
theorem dX12_stands_97 : decode cX12_stands 97 = .ok (.iaload, 1) := by decide +kernel
theorem dX12_stands_98 : decode cX12_stands 98 = .ok (.iastore, 1) := by decide +kernel
theorem dX12_stands_99 : decode cX12_stands 99 = .ok (.iinc 1 1, 3) := by decide +kernel
theorem dX12_stands_102 : decode cX12_stands 102 = .ok (.goto (-24), 3) := by decide +kernel
theorem dX12_stands_105 : decode cX12_stands 105 = .ok (.iconst 0, 1) := by decide +kernel
theorem dX12_stands_106 : decode cX12_stands 106 = .ok (.istore_n 1, 1) := by decide +kernel
theorem dX12_stands_107 : decode cX12_stands 107 = .ok (.iload_n 1, 1) := by decide +kernel
theorem dX12_stands_108 : decode cX12_stands 108 = .ok (.bipush 6, 2) := by decide +kernel
theorem dX12_stands_110 : decode cX12_stands 110 = .ok (.if_icmp .ge 24, 3) := by decide +kernel
theorem dX12_stands_113 : decode cX12_stands 113 = .ok (.aload_n 0, 1) := by decide +kernel
theorem dX12_stands_114 : decode cX12_stands 114 = .ok (.getfield 136, 3) := by decide +kernel
theorem dX12_stands_117 : decode cX12_stands 117 = .ok (.bipush 6, 2) := by decide +kernel
theorem dX12_stands_119 : decode cX12_stands 119 = .ok (.iload_n 1, 1) := by decide +kernel
theorem dX12_stands_120 : decode cX12_stands 120 = .ok (.iadd, 1) := by decide +kernel
theorem dX12_stands_121 : decode cX12_stands 121 = .ok (.aload_n 0, 1) := by decide +kernel
theorem dX12_stands_122 : decode cX12_stands 122 = .ok (.getfield 136, 3) := by decide +kernel
theorem dX12_stands_125 : decode cX12_stands 125 = .ok (.iload_n 1, 1) := by decide +kernel
theorem dX12_stands_126 : decode cX12_stands 126 = .ok (.iaload, 1) := by decide +kernel
theorem dX12_stands_127 : decode cX12_stands 127 = .ok (.iastore, 1) := by decide +kernel
theorem dX12_stands_128 : decode cX12_stands 128 = .ok (.iinc 1 1, 3) := by decide +kernel
theorem dX12_stands_131 : decode cX12_stands 131 = .ok (.goto (-24), 3) := by decide +kernel
theorem dX12_stands_134 : decode cX12_stands 134 = .ok (.iconst 0, 1) := by decide +kernel
theorem dX12_stands_135 : decode cX12_stands 135 = .ok (.istore_n 1, 1) := by decide +kernel
theorem dX12_stands_136 : decode cX12_stands 136 = .ok (.iload_n 1, 1) := by decide +kernel
theorem dX12_stands_137 : decode cX12_stands 137 = .ok (.bipush 36, 2) := by decide +kernel
theorem dX12_stands_139 : decode cX12_stands 139 = .ok (.if_icmp .ge 24, 3) := by decide +kernel
theorem dX12_stands_142 : decode cX12_stands 142 = .ok (.aload_n 0, 1) := by decide +kernel
theorem dX12_stands_143 : decode cX12_stands 143 = .ok (.getfield 139, 3) := by decide +kernel
theorem dX12_stands_146 : decode cX12_stands 146 = .ok (.bipush 36, 2) := by decide +kernel
theorem dX12_stands_148 : decode cX12_stands 148 = .ok (.iload_n 1, 1) := by decide +kernel
theorem dX12_stands_149 : decode cX12_stands 149 = .ok (.iadd, 1) := by decide +kernel
theorem dX12_stands_150 : decode cX12_stands 150 = .ok (.aload_n 0, 1) := by decide +kernel
theorem dX12_stands_151 : decode cX12_stands 151 = .ok (.getfield 139, 3) := by decide +kernel
theorem dX12_stands_154 : decode cX12_stands 154 = .ok (.iload_n 1, 1) := by decide +kernel
theorem dX12_stands_155 : decode cX12_stands 155 = .ok (.iaload, 1) := by decide +kernel
theorem dX12_stands_156 : decode cX12_stands 156 = .ok (.iastore, 1) := by decide +kernel
theorem dX12_stands_157 : decode cX12_stands 157 = .ok (.iinc 1 1, 3) := by decide +kernel
theorem dX12_stands_160 : decode cX12_stands 160 = .ok (.goto (-24), 3) := by decide +kernel
theorem dX12_stands_163 : decode cX12_stands 163 = .ok (.iconst 0, 1) := by decide +kernel
theorem dX12_stands_164 : decode cX12_stands 164 = .ok (.istore_n 1, 1) := by decide +kernel
theorem dX12_stands_165 : decode cX12_stands 165 = .ok (.iload_n 1, 1) := by decide +kernel
theorem dX12_stands_166 : decode cX12_stands 166 = .ok (.bipush 20, 2) := by decide +kernel
theorem dX12_stands_168 : decode cX12_stands 168 = .ok (.if_icmp .ge 24, 3) := by decide +kernel
theorem dX12_stands_171 : decode cX12_stands 171 = .ok (.aload_n 0, 1) := by decide +kernel
theorem dX12_stands_172 : decode cX12_stands 172 = .ok (.getfield 142, 3) := by decide +kernel
theorem dX12_stands_175 : decode cX12_stands 175 = .ok (.bipush 20, 2) := by decide +kernel
theorem dX12_stands_177 : decode cX12_stands 177 = .ok (.iload_n 1, 1) := by decide +kernel
theorem dX12_stands_178 : decode cX12_stands 178 = .ok (.iadd, 1) := by decide +kernel
theorem dX12_stands_179 : decode cX12_stands 179 = .ok (.aload_n 0, 1) := by decide +kernel
theorem dX12_stands_180 : decode cX12_stands 180 = .ok (.getfield 142, 3) := by decide +kernel
theorem dX12_stands_183 : decode cX12_stands 183 = .ok (.iload_n 1, 1) := by decide +kernel
theorem dX12_stands_184 : decode cX12_stands 184 = .ok (.iaload, 1) := by decide +kernel
theorem dX12_stands_185 : decode cX12_stands 185 = .ok (.iastore, 1) := by decide +kernel
theorem dX12_stands_186 : decode cX12_stands 186 = .ok (.iinc 1 1, 3) := by decide +kernel
theorem dX12_stands_189 : decode cX12_stands 189 = .ok (.goto (-24), 3) := by decide +kernel
theorem dX12_stands_192 : decode cX12_stands 192 = .ok (.iconst 0, 1) := by decide +kernel
theorem dX12_stands_193 : decode cX12_stands 193 = .ok (.istore_n 1, 1) := by decide +kernel
theorem dX12_stands_194 : decode cX12_stands 194 = .ok (.iload_n 1, 1) := by decide +kernel
theorem dX12_stands_195 : decode cX12_stands 195 = .ok (.iconst 3, 1) := by decide +kernel
theorem dX12_stands_196 : decode cX12_stands 196 = .ok (.if_icmp .ge 37, 3) := by decide +kernel
theorem dX12_stands_199 : decode cX12_stands 199 = .ok (.aload_n 0, 1) := by decide +kernel
theorem dX12_stands_200 : decode cX12_stands 200 = .ok (.getfield 148, 3) := by decide +kernel
theorem dX12_stands_203 : decode cX12_stands 203 = .ok (.iconst 3, 1) := by decide +kernel
theorem dX12_stands_204 : decode cX12_stands 204 = .ok (.iload_n 1, 1) := by decide +kernel
theorem dX12_stands_205 : decode cX12_stands 205 = .ok (.iadd, 1) := by decide +kernel
theorem dX12_stands_206 : decode cX12_stands 206 = .ok (.aload_n 0, 1) := by decide +kernel
theorem dX12_stands_207 : decode cX12_stands 207 = .ok (.getfield 148, 3) := by decide +kernel
theorem dX12_stands_210 : decode cX12_stands 210 = .ok (.iload_n 1, 1) := by decide +kernel
theorem dX12_stands_211 : decode cX12_stands 211 = .ok (.iaload, 1) := by decide +kernel
theorem dX12_stands_212 : decode cX12_stands 212 = .ok (.iastore, 1) := by decide +kernel
theorem dX12_stands_213 : decode cX12_stands 213 = .ok (.aload_n 0, 1) := by decide +kernel
theorem dX12_stands_214 : decode cX12_stands 214 = .ok (.getfield 151, 3) := by decide +kernel
theorem dX12_stands_217 : decode cX12_stands 217 = .ok (.iconst 3, 1) := by decide +kernel
theorem dX12_stands_218 : decode cX12_stands 218 = .ok (.iload_n 1, 1) := by decide +kernel
theorem dX12_stands_219 : decode cX12_stands 219 = .ok (.iadd, 1) := by decide +kernel
theorem dX12_stands_220 : decode cX12_stands 220 = .ok (.aload_n 0, 1) := by decide +kernel
theorem dX12_stands_221 : decode cX12_stands 221 = .ok (.getfield 151, 3) := by decide +kernel
theorem dX12_stands_224 : decode cX12_stands 224 = .ok (.iload_n 1, 1) := by decide +kernel
theorem dX12_stands_225 : decode cX12_stands 225 = .ok (.iaload, 1) := by decide +kernel
theorem dX12_stands_226 : decode cX12_stands 226 = .ok (.iastore, 1) := by decide +kernel
theorem dX12_stands_227 : decode cX12_stands 227 = .ok (.iinc 1 1, 3) := by decide +kernel
theorem dX12_stands_230 : decode cX12_stands 230 = .ok (.goto (-36), 3) := by decide +kernel
theorem dX12_stands_233 : decode cX12_stands 233 = .ok (.iconst 0, 1) := by decide +kernel
theorem dX12_stands_234 : decode cX12_stands 234 = .ok (.istore_n 1, 1) := by decide +kernel
theorem dX12_stands_235 : decode cX12_stands 235 = .ok (.iload_n 1, 1) := by decide +kernel
theorem dX12_stands_236 : decode cX12_stands 236 = .ok (.aload_n 0, 1) := by decide +kernel
theorem dX12_stands_237 : decode cX12_stands 237 = .ok (.getfield 374, 3) := by decide +kernel
theorem dX12_stands_240 : decode cX12_stands 240 = .ok (.if_icmp .ge 25, 3) := by decide +kernel
theorem dX12_stands_243 : decode cX12_stands 243 = .ok (.aload_n 0, 1) := by decide +kernel
theorem dX12_stands_244 : decode cX12_stands 244 = .ok (.getfield 154, 3) := by decide +kernel
theorem dX12_stands_247 : decode cX12_stands 247 = .ok (.sipush 1600, 3) := by decide +kernel
theorem dX12_stands_250 : decode cX12_stands 250 = .ok (.iload_n 1, 1) := by decide +kernel
theorem dX12_stands_251 : decode cX12_stands 251 = .ok (.iadd, 1) := by decide +kernel
theorem dX12_stands_252 : decode cX12_stands 252 = .ok (.aload_n 0, 1) := by decide +kernel
theorem dX12_stands_253 : decode cX12_stands 253 = .ok (.getfield 154, 3) := by decide +kernel
theorem dX12_stands_256 : decode cX12_stands 256 = .ok (.iload_n 1, 1) := by decide +kernel
theorem dX12_stands_257 : decode cX12_stands 257 = .ok (.iaload, 1) := by decide +kernel
theorem dX12_stands_258 : decode cX12_stands 258 = .ok (.iastore, 1) := by decide +kernel
theorem dX12_stands_259 : decode cX12_stands 259 = .ok (.iinc 1 1, 3) := by decide +kernel
theorem dX12_stands_262 : decode cX12_stands 262 = .ok (.goto (-27), 3) := by decide +kernel
theorem dX12_stands_265 : decode cX12_stands 265 = .ok (.aload_n 0, 1) := by decide +kernel
theorem dX12_stands_266 : decode cX12_stands 266 = .ok (.getfield 145, 3) := by decide +kernel
theorem dX12_stands_269 : decode cX12_stands 269 = .ok (.iconst 1, 1) := by decide +kernel
theorem dX12_stands_270 : decode cX12_stands 270 = .ok (.aload_n 0, 1) := by decide +kernel
theorem dX12_stands_271 : decode cX12_stands 271 = .ok (.getfield 145, 3) := by decide +kernel
theorem dX12_stands_274 : decode cX12_stands 274 = .ok (.iconst 0, 1) := by decide +kernel
theorem dX12_stands_275 : decode cX12_stands 275 = .ok (.iaload, 1) := by decide +kernel
theorem dX12_stands_276 : decode cX12_stands 276 = .ok (.iastore, 1) := by decide +kernel
theorem dX12_stands_277 : decode cX12_stands 277 = .ok (.iconst 0, 1) := by decide +kernel
theorem dX12_stands_278 : decode cX12_stands 278 = .ok (.istore_n 1, 1) := by decide +kernel
theorem dX12_stands_279 : decode cX12_stands 279 = .ok (.iload_n 1, 1) := by decide +kernel
theorem dX12_stands_280 : decode cX12_stands 280 = .ok (.sipush 187, 3) := by decide +kernel
theorem dX12_stands_283 : decode cX12_stands 283 = .ok (.if_icmp .ge 16, 3) := by decide +kernel
theorem dX12_stands_286 : decode cX12_stands 286 = .ok (.aload_n 0, 1) := by decide +kernel
theorem dX12_stands_287 : decode cX12_stands 287 = .ok (.getfield 166, 3) := by decide +kernel
theorem dX12_stands_290 : decode cX12_stands 290 = .ok (.iload_n 1, 1) := by decide +kernel
theorem dX12_stands_291 : decode cX12_stands 291 = .ok (.iconst 0, 1) := by decide +kernel
theorem dX12_stands_292 : decode cX12_stands 292 = .ok (.iastore, 1) := by decide +kernel
theorem dX12_stands_293 : decode cX12_stands 293 = .ok (.iinc 1 1, 3) := by decide +kernel
theorem dX12_stands_296 : decode cX12_stands 296 = .ok (.goto (-17), 3) := by decide +kernel
theorem dX12_stands_299 : decode cX12_stands 299 = .ok (.iconst 0, 1) := by decide +kernel
theorem dX12_stands_300 : decode cX12_stands 300 = .ok (.istore_n 1, 1) := by decide +kernel
theorem dX12_stands_301 : decode cX12_stands 301 = .ok (.iload_n 1, 1) := by decide +kernel
theorem dX12_stands_302 : decode cX12_stands 302 = .ok (.aload_n 0, 1) := by decide +kernel
theorem dX12_stands_303 : decode cX12_stands 303 = .ok (.getfield 123, 3) := by decide +kernel
theorem dX12_stands_306 : decode cX12_stands 306 = .ok (.iconst 2, 1) := by decide +kernel
theorem dX12_stands_307 : decode cX12_stands 307 = .ok (.iaload, 1) := by decide +kernel
theorem dX12_stands_308 : decode cX12_stands 308 = .ok (.if_icmp .ge 62, 3) := by decide +kernel
theorem dX12_stands_311 : decode cX12_stands 311 = .ok (.aload_n 0, 1) := by decide +kernel
theorem dX12_stands_312 : decode cX12_stands 312 = .ok (.getfield 166, 3) := by decide +kernel
theorem dX12_stands_315 : decode cX12_stands 315 = .ok (.iconst 2, 1) := by decide +kernel
theorem dX12_stands_316 : decode cX12_stands 316 = .ok (.iconst 4, 1) := by decide +kernel
theorem dX12_stands_317 : decode cX12_stands 317 = .ok (.iload_n 1, 1) := by decide +kernel
theorem dX12_stands_318 : decode cX12_stands 318 = .ok (.imul, 1) := by decide +kernel
theorem dX12_stands_319 : decode cX12_stands 319 = .ok (.iadd, 1) := by decide +kernel
theorem dX12_stands_320 : decode cX12_stands 320 = .ok (.aload_n 0, 1) := by decide +kernel
theorem dX12_stands_321 : decode cX12_stands 321 = .ok (.getfield 133, 3) := by decide +kernel
theorem dX12_stands_324 : decode cX12_stands 324 = .ok (.iconst 2, 1) := by decide +kernel
theorem dX12_stands_325 : decode cX12_stands 325 = .ok (.iload_n 1, 1) := by decide +kernel
theorem dX12_stands_326 : decode cX12_stands 326 = .ok (.imul, 1) := by decide +kernel
theorem dX12_stands_327 : decode cX12_stands 327 = .ok (.iconst 1, 1) := by decide +kernel
theorem dX12_stands_328 : decode cX12_stands 328 = .ok (.iadd, 1) := by decide +kernel
theorem dX12_stands_329 : decode cX12_stands 329 = .ok (.iaload, 1) := by decide +kernel
theorem dX12_stands_330 : decode cX12_stands 330 = .ok (.iastore, 1) := by decide +kernel
theorem dX12_stands_331 : decode cX12_stands 331 = .ok (.aload_n 0, 1) := by decide +kernel
theorem dX12_stands_332 : decode cX12_stands 332 = .ok (.getfield 166, 3) := by decide +kernel
theorem dX12_stands_335 : decode cX12_stands 335 = .ok (.iconst 2, 1) := by decide +kernel
theorem dX12_stands_336 : decode cX12_stands 336 = .ok (.iconst 4, 1) := by decide +kernel
theorem dX12_stands_337 : decode cX12_stands 337 = .ok (.iload_n 1, 1) := by decide +kernel
theorem dX12_stands_338 : decode cX12_stands 338 = .ok (.imul, 1) := by decide +kernel
theorem dX12_stands_339 : decode cX12_stands 339 = .ok (.iadd, 1) := by decide +kernel
theorem dX12_stands_340 : decode cX12_stands 340 = .ok (.iconst 1, 1) := by decide +kernel
theorem dX12_stands_341 : decode cX12_stands 341 = .ok (.iadd, 1) := by decide +kernel
theorem dX12_stands_342 : decode cX12_stands 342 = .ok (.aload_n 0, 1) := by decide +kernel
theorem dX12_stands_343 : decode cX12_stands 343 = .ok (.getfield 133, 3) := by decide +kernel
theorem dX12_stands_346 : decode cX12_stands 346 = .ok (.iconst 2, 1) := by decide +kernel
theorem dX12_stands_347 : decode cX12_stands 347 = .ok (.iload_n 1, 1) := by decide +kernel
theorem dX12_stands_348 : decode cX12_stands 348 = .ok (.imul, 1) := by decide +kernel
theorem dX12_stands_349 : decode cX12_stands 349 = .ok (.iaload, 1) := by decide +kernel
theorem dX12_stands_350 : decode cX12_stands 350 = .ok (.iastore, 1) := by decide +kernel
theorem dX12_stands_351 : decode cX12_stands 351 = .ok (.aload_n 0, 1) := by decide +kernel
theorem dX12_stands_352 : decode cX12_stands 352 = .ok (.getfield 166, 3) := by decide +kernel
theorem dX12_stands_355 : decode cX12_stands 355 = .ok (.iconst 2, 1) := by decide +kernel
theorem dX12_stands_356 : decode cX12_stands 356 = .ok (.iconst 4, 1) := by decide +kernel
theorem dX12_stands_357 : decode cX12_stands 357 = .ok (.iload_n 1, 1) := by decide +kernel
theorem dX12_stands_358 : decode cX12_stands 358 = .ok (.imul, 1) := by decide +kernel
theorem dX12_stands_359 : decode cX12_stands 359 = .ok (.iadd, 1) := by decide +kernel
theorem dX12_stands_360 : decode cX12_stands 360 = .ok (.iconst 3, 1) := by decide +kernel
theorem dX12_stands_361 : decode cX12_stands 361 = .ok (.iadd, 1) := by decide +kernel
theorem dX12_stands_362 : decode cX12_stands 362 = .ok (.iconst (-1), 1) := by decide +kernel
theorem dX12_stands_363 : decode cX12_stands 363 = .ok (.iastore, 1) := by decide +kernel
theorem dX12_stands_364 : decode cX12_stands 364 = .ok (.iinc 1 1, 3) := by decide +kernel
theorem dX12_stands_367 : decode cX12_stands 367 = .ok (.goto (-66), 3) := by decide +kernel
theorem dX12_stands_370 : decode cX12_stands 370 = .ok (.aload_n 0, 1) := by decide +kernel
theorem dX12_stands_371 : decode cX12_stands 371 = .ok (.iconst 0, 1) := by decide +kernel
theorem dX12_stands_372 : decode cX12_stands 372 = .ok (.putfield 425, 3) := by decide +kernel
theorem dX12_stands_375 : decode cX12_stands 375 = .ok (.aload_n 0, 1) := by decide +kernel
theorem dX12_stands_376 : decode cX12_stands 376 = .ok (.iconst 0, 1) := by decide +kernel
theorem dX12_stands_377 : decode cX12_stands 377 = .ok (.putfield 428, 3) := by decide +kernel
theorem dX12_stands_380 : decode cX12_stands 380 = .ok (.return_, 1) := by decide +kernel
theorem dX12_code_0 : decode cX12_code 0 = .ok (.aload_n 0, 1) := by decide +kernel
theorem dX12_code_1 : decode cX12_code 1 = .ok (.getfield 154, 3) := by decide +kernel
theorem dX12_code_4 : decode cX12_code 4 = .ok (.iconst 0, 1) := by decide +kernel
theorem dX12_code_5 : decode cX12_code 5 = .ok (.aload_n 0, 1) := by decide +kernel
theorem dX12_code_6 : decode cX12_code 6 = .ok (.getfield 374, 3) := by decide +kernel
theorem dX12_code_9 : decode cX12_code 9 = .ok (.iadd, 1) := by decide +kernel
theorem dX12_code_10 : decode cX12_code 10 = .ok (.iload_n 1, 1) := by decide +kernel
theorem dX12_code_11 : decode cX12_code 11 = .ok (.iastore, 1) := by decide +kernel
theorem dX12_code_12 : decode cX12_code 12 = .ok (.aload_n 0, 1) := by decide +kernel
theorem dX12_code_13 : decode cX12_code 13 = .ok (.dup, 1) := by decide +kernel
theorem dX12_code_14 : decode cX12_code 14 = .ok (.getfield 374, 3) := by decide +kernel
theorem dX12_code_17 : decode cX12_code 17 = .ok (.iconst 1, 1) := by decide +kernel
theorem dX12_code_18 : decode cX12_code 18 = .ok (.iadd, 1) := by decide +kernel
theorem dX12_code_19 : decode cX12_code 19 = .ok (.putfield 374, 3) := by decide +kernel
theorem dX12_code_22 : decode cX12_code 22 = .ok (.return_, 1) := by decide +kernel
theorem dX12_opens_0 : decode cX12_opens 0 = .ok (.aload_n 0, 1) := by decide +kernel
theorem dX12_opens_1 : decode cX12_opens 1 = .ok (.getfield 380, 3) := by decide +kernel
theorem dX12_opens_4 : decode cX12_opens 4 = .ok (.bipush 6, 2) := by decide +kernel
theorem dX12_opens_6 : decode cX12_opens 6 = .ok (.if_icmp .ne 10, 3) := by decide +kernel
theorem dX12_opens_9 : decode cX12_opens 9 = .ok (.aload_n 0, 1) := by decide +kernel
theorem dX12_opens_10 : decode cX12_opens 10 = .ok (.iconst 4, 1) := by decide +kernel
theorem dX12_opens_11 : decode cX12_opens 11 = .ok (.iload_n 2, 1) := by decide +kernel
theorem dX12_opens_12 : decode cX12_opens 12 = .ok (.invokevirtual 308, 3) := by decide +kernel
theorem dX12_opens_15 : decode cX12_opens 15 = .ok (.return_, 1) := by decide +kernel
theorem dX12_opens_16 : decode cX12_opens 16 = .ok (.aload_n 0, 1) := by decide +kernel
theorem dX12_opens_17 : decode cX12_opens 17 = .ok (.dup, 1) := by decide +kernel
theorem dX12_opens_18 : decode cX12_opens 18 = .ok (.getfield 380, 3) := by decide +kernel
theorem dX12_opens_21 : decode cX12_opens 21 = .ok (.iconst 1, 1) := by decide +kernel
theorem dX12_opens_22 : decode cX12_opens 22 = .ok (.iadd, 1) := by decide +kernel
theorem dX12_opens_23 : decode cX12_opens 23 = .ok (.putfield 380, 3) := by decide +kernel
theorem dX12_opens_26 : decode cX12_opens 26 = .ok (.aload_n 0, 1) := by decide +kernel
theorem dX12_opens_27 : decode cX12_opens 27 = .ok (.getfield 157, 3) := by decide +kernel
theorem dX12_opens_30 : decode cX12_opens 30 = .ok (.aload_n 0, 1) := by decide +kernel
theorem dX12_opens_31 : decode cX12_opens 31 = .ok (.getfield 377, 3) := by decide +kernel
theorem dX12_opens_34 : decode cX12_opens 34 = .ok (.iload_n 1, 1) := by decide +kernel
theorem dX12_opens_35 : decode cX12_opens 35 = .ok (.iastore, 1) := by decide +kernel
theorem dX12_opens_36 : decode cX12_opens 36 = .ok (.aload_n 0, 1) := by decide +kernel
theorem dX12_opens_37 : decode cX12_opens 37 = .ok (.dup, 1) := by decide +kernel
theorem dX12_opens_38 : decode cX12_opens 38 = .ok (.getfield 377, 3) := by decide +kernel
theorem dX12_opens_41 : decode cX12_opens 41 = .ok (.iconst 1, 1) := by decide +kernel
theorem dX12_opens_42 : decode cX12_opens 42 = .ok (.iadd, 1) := by decide +kernel
theorem dX12_opens_43 : decode cX12_opens 43 = .ok (.putfield 377, 3) := by decide +kernel
theorem dX12_opens_46 : decode cX12_opens 46 = .ok (.return_, 1) := by decide +kernel
theorem dX12_isOn_0 : decode cX12_isOn 0 = .ok (.aload_n 0, 1) := by decide +kernel
theorem dX12_isOn_1 : decode cX12_isOn 1 = .ok (.getfield 377, 3) := by decide +kernel
theorem dX12_isOn_4 : decode cX12_isOn 4 = .ok (.ifCond .le 22, 3) := by decide +kernel
theorem dX12_isOn_7 : decode cX12_isOn 7 = .ok (.aload_n 0, 1) := by decide +kernel
theorem dX12_isOn_8 : decode cX12_isOn 8 = .ok (.getfield 157, 3) := by decide +kernel
theorem dX12_isOn_11 : decode cX12_isOn 11 = .ok (.aload_n 0, 1) := by decide +kernel
theorem dX12_isOn_12 : decode cX12_isOn 12 = .ok (.getfield 377, 3) := by decide +kernel
theorem dX12_isOn_15 : decode cX12_isOn 15 = .ok (.iconst 1, 1) := by decide +kernel
theorem dX12_isOn_16 : decode cX12_isOn 16 = .ok (.isub, 1) := by decide +kernel
theorem dX12_isOn_17 : decode cX12_isOn 17 = .ok (.iaload, 1) := by decide +kernel
theorem dX12_isOn_18 : decode cX12_isOn 18 = .ok (.iload_n 1, 1) := by decide +kernel
theorem dX12_isOn_19 : decode cX12_isOn 19 = .ok (.if_icmp .ne 7, 3) := by decide +kernel
theorem dX12_isOn_22 : decode cX12_isOn 22 = .ok (.iconst 1, 1) := by decide +kernel
theorem dX12_isOn_23 : decode cX12_isOn 23 = .ok (.goto 4, 3) := by decide +kernel
theorem dX12_isOn_26 : decode cX12_isOn 26 = .ok (.iconst 0, 1) := by decide +kernel
theorem dX12_isOn_27 : decode cX12_isOn 27 = .ok (.ireturn, 1) := by decide +kernel
theorem dX12_drops_0 : decode cX12_drops 0 = .ok (.aload_n 0, 1) := by decide +kernel
theorem dX12_drops_1 : decode cX12_drops 1 = .ok (.dup, 1) := by decide +kernel
theorem dX12_drops_2 : decode cX12_drops 2 = .ok (.getfield 377, 3) := by decide +kernel
theorem dX12_drops_5 : decode cX12_drops 5 = .ok (.iconst 1, 1) := by decide +kernel
theorem dX12_drops_6 : decode cX12_drops 6 = .ok (.isub, 1) := by decide +kernel
theorem dX12_drops_7 : decode cX12_drops 7 = .ok (.putfield 377, 3) := by decide +kernel
theorem dX12_drops_10 : decode cX12_drops 10 = .ok (.aload_n 0, 1) := by decide +kernel
theorem dX12_drops_11 : decode cX12_drops 11 = .ok (.aload_n 0, 1) := by decide +kernel
theorem dX12_drops_12 : decode cX12_drops 12 = .ok (.getfield 157, 3) := by decide +kernel
theorem dX12_drops_15 : decode cX12_drops 15 = .ok (.aload_n 0, 1) := by decide +kernel
theorem dX12_drops_16 : decode cX12_drops 16 = .ok (.getfield 377, 3) := by decide +kernel
theorem dX12_drops_19 : decode cX12_drops 19 = .ok (.iaload, 1) := by decide +kernel
theorem dX12_drops_20 : decode cX12_drops 20 = .ok (.invokevirtual 431, 3) := by decide +kernel
theorem dX12_drops_23 : decode cX12_drops 23 = .ok (.return_, 1) := by decide +kernel
theorem dX12_isMark_0 : decode cX12_isMark 0 = .ok (.iload_n 1, 1) := by decide +kernel
theorem dX12_isMark_1 : decode cX12_isMark 1 = .ok (.bipush 20, 2) := by decide +kernel
theorem dX12_isMark_3 : decode cX12_isMark 3 = .ok (.if_icmp .lt 13, 3) := by decide +kernel
theorem dX12_isMark_6 : decode cX12_isMark 6 = .ok (.iload_n 1, 1) := by decide +kernel
theorem dX12_isMark_7 : decode cX12_isMark 7 = .ok (.bipush 24, 2) := by decide +kernel
theorem dX12_isMark_9 : decode cX12_isMark 9 = .ok (.if_icmp .gt 7, 3) := by decide +kernel
theorem dX12_isMark_12 : decode cX12_isMark 12 = .ok (.iconst 1, 1) := by decide +kernel
theorem dX12_isMark_13 : decode cX12_isMark 13 = .ok (.goto 4, 3) := by decide +kernel
theorem dX12_isMark_16 : decode cX12_isMark 16 = .ok (.iconst 0, 1) := by decide +kernel
theorem dX12_isMark_17 : decode cX12_isMark 17 = .ok (.ireturn, 1) := by decide +kernel
theorem dX12_waitsLast_0 : decode cX12_waitsLast 0 = .ok (.aload_n 0, 1) := by decide +kernel
theorem dX12_waitsLast_1 : decode cX12_waitsLast 1 = .ok (.getfield 377, 3) := by decide +kernel
theorem dX12_waitsLast_4 : decode cX12_waitsLast 4 = .ok (.iconst 1, 1) := by decide +kernel
theorem dX12_waitsLast_5 : decode cX12_waitsLast 5 = .ok (.isub, 1) := by decide +kernel
theorem dX12_waitsLast_6 : decode cX12_waitsLast 6 = .ok (.istore_n 1, 1) := by decide +kernel
theorem dX12_waitsLast_7 : decode cX12_waitsLast 7 = .ok (.iload_n 1, 1) := by decide +kernel
theorem dX12_waitsLast_8 : decode cX12_waitsLast 8 = .ok (.aload_n 0, 1) := by decide +kernel
theorem dX12_waitsLast_9 : decode cX12_waitsLast 9 = .ok (.getfield 383, 3) := by decide +kernel
theorem dX12_waitsLast_12 : decode cX12_waitsLast 12 = .ok (.if_icmp .lt 22, 3) := by decide +kernel
theorem dX12_waitsLast_15 : decode cX12_waitsLast 15 = .ok (.aload_n 0, 1) := by decide +kernel
theorem dX12_waitsLast_16 : decode cX12_waitsLast 16 = .ok (.aload_n 0, 1) := by decide +kernel
theorem dX12_waitsLast_17 : decode cX12_waitsLast 17 = .ok (.getfield 157, 3) := by decide +kernel
theorem dX12_waitsLast_20 : decode cX12_waitsLast 20 = .ok (.iload_n 1, 1) := by decide +kernel
theorem dX12_waitsLast_21 : decode cX12_waitsLast 21 = .ok (.iaload, 1) := by decide +kernel
theorem dX12_waitsLast_22 : decode cX12_waitsLast 22 = .ok (.invokevirtual 434, 3) := by decide +kernel
theorem dX12_waitsLast_25 : decode cX12_waitsLast 25 = .ok (.ifCond .ne 9, 3) := by decide +kernel
theorem dX12_waitsLast_28 : decode cX12_waitsLast 28 = .ok (.iinc 1 (-1), 3) := by decide +kernel
theorem dX12_waitsLast_31 : decode cX12_waitsLast 31 = .ok (.goto (-24), 3) := by decide +kernel
theorem dX12_waitsLast_34 : decode cX12_waitsLast 34 = .ok (.iload_n 1, 1) := by decide +kernel
theorem dX12_waitsLast_35 : decode cX12_waitsLast 35 = .ok (.aload_n 0, 1) := by decide +kernel
theorem dX12_waitsLast_36 : decode cX12_waitsLast 36 = .ok (.getfield 383, 3) := by decide +kernel
theorem dX12_waitsLast_39 : decode cX12_waitsLast 39 = .ok (.if_icmp .lt 12, 3) := by decide +kernel
theorem dX12_waitsLast_42 : decode cX12_waitsLast 42 = .ok (.aload_n 0, 1) := by decide +kernel
theorem dX12_waitsLast_43 : decode cX12_waitsLast 43 = .ok (.getfield 157, 3) := by decide +kernel
theorem dX12_waitsLast_46 : decode cX12_waitsLast 46 = .ok (.iload_n 1, 1) := by decide +kernel
theorem dX12_waitsLast_47 : decode cX12_waitsLast 47 = .ok (.iaload, 1) := by decide +kernel
theorem dX12_waitsLast_48 : decode cX12_waitsLast 48 = .ok (.goto 4, 3) := by decide +kernel
theorem dX12_waitsLast_51 : decode cX12_waitsLast 51 = .ok (.iconst (-1), 1) := by decide +kernel
theorem dX12_waitsLast_52 : decode cX12_waitsLast 52 = .ok (.ireturn, 1) := by decide +kernel
theorem dX12_dropsToMark_0 : decode cX12_dropsToMark 0 = .ok (.aload_n 0, 1) := by decide +kernel
theorem dX12_dropsToMark_1 : decode cX12_dropsToMark 1 = .ok (.getfield 377, 3) := by decide +kernel
theorem dX12_dropsToMark_4 : decode cX12_dropsToMark 4 = .ok (.aload_n 0, 1) := by decide +kernel
theorem dX12_dropsToMark_5 : decode cX12_dropsToMark 5 = .ok (.getfield 383, 3) := by decide +kernel
theorem dX12_dropsToMark_8 : decode cX12_dropsToMark 8 = .ok (.if_icmp .le 28, 3) := by decide +kernel
theorem dX12_dropsToMark_11 : decode cX12_dropsToMark 11 = .ok (.aload_n 0, 1) := by decide +kernel
theorem dX12_dropsToMark_12 : decode cX12_dropsToMark 12 = .ok (.aload_n 0, 1) := by decide +kernel
theorem dX12_dropsToMark_13 : decode cX12_dropsToMark 13 = .ok (.getfield 157, 3) := by decide +kernel
theorem dX12_dropsToMark_16 : decode cX12_dropsToMark 16 = .ok (.aload_n 0, 1) := by decide +kernel
theorem dX12_dropsToMark_17 : decode cX12_dropsToMark 17 = .ok (.getfield 377, 3) := by decide +kernel
theorem dX12_dropsToMark_20 : decode cX12_dropsToMark 20 = .ok (.iconst 1, 1) := by decide +kernel
theorem dX12_dropsToMark_21 : decode cX12_dropsToMark 21 = .ok (.isub, 1) := by decide +kernel
theorem dX12_dropsToMark_22 : decode cX12_dropsToMark 22 = .ok (.iaload, 1) := by decide +kernel
theorem dX12_dropsToMark_23 : decode cX12_dropsToMark 23 = .ok (.invokevirtual 434, 3) := by decide +kernel
theorem dX12_dropsToMark_26 : decode cX12_dropsToMark 26 = .ok (.ifCond .ne 10, 3) := by decide +kernel
theorem dX12_dropsToMark_29 : decode cX12_dropsToMark 29 = .ok (.aload_n 0, 1) := by decide +kernel
theorem dX12_dropsToMark_30 : decode cX12_dropsToMark 30 = .ok (.invokevirtual 437, 3) := by decide +kernel
theorem dX12_dropsToMark_33 : decode cX12_dropsToMark 33 = .ok (.goto (-33), 3) := by decide +kernel
theorem dX12_dropsToMark_36 : decode cX12_dropsToMark 36 = .ok (.return_, 1) := by decide +kernel
theorem dX12_onePart_0 : decode cX12_onePart 0 = .ok (.iconst 1, 1) := by decide +kernel
theorem dX12_onePart_1 : decode cX12_onePart 1 = .ok (.istore_n 1, 1) := by decide +kernel
theorem dX12_onePart_2 : decode cX12_onePart 2 = .ok (.iload_n 1, 1) := by decide +kernel
theorem dX12_onePart_3 : decode cX12_onePart 3 = .ok (.ifCond .eq 143, 3) := by decide +kernel
theorem dX12_onePart_6 : decode cX12_onePart 6 = .ok (.aload_n 0, 1) := by decide +kernel
theorem dX12_onePart_7 : decode cX12_onePart 7 = .ok (.getfield 278, 3) := by decide +kernel
theorem dX12_onePart_10 : decode cX12_onePart 10 = .ok (.ifCond .ne 136, 3) := by decide +kernel
theorem dX12_onePart_13 : decode cX12_onePart 13 = .ok (.aload_n 0, 1) := by decide +kernel
theorem dX12_onePart_14 : decode cX12_onePart 14 = .ok (.invokevirtual 290, 3) := by decide +kernel
theorem dX12_onePart_17 : decode cX12_onePart 17 = .ok (.istore_n 2, 1) := by decide +kernel
theorem dX12_onePart_18 : decode cX12_onePart 18 = .ok (.iload_n 2, 1) := by decide +kernel
theorem dX12_onePart_19 : decode cX12_onePart 19 = .ok (.bipush 40, 2) := by decide +kernel
theorem dX12_onePart_21 : decode cX12_onePart 21 = .ok (.if_icmp .ne 26, 3) := by decide +kernel
theorem dX12_onePart_24 : decode cX12_onePart 24 = .ok (.aload_n 0, 1) := by decide +kernel
theorem dX12_onePart_25 : decode cX12_onePart 25 = .ok (.bipush 20, 2) := by decide +kernel
theorem dX12_onePart_27 : decode cX12_onePart 27 = .ok (.aload_n 0, 1) := by decide +kernel
theorem dX12_onePart_28 : decode cX12_onePart 28 = .ok (.getfield 284, 3) := by decide +kernel
theorem dX12_onePart_31 : decode cX12_onePart 31 = .ok (.invokevirtual 440, 3) := by decide +kernel
theorem dX12_onePart_34 : decode cX12_onePart 34 = .ok (.aload_n 0, 1) := by decide +kernel
theorem dX12_onePart_35 : decode cX12_onePart 35 = .ok (.dup, 1) := by decide +kernel
theorem dX12_onePart_36 : decode cX12_onePart 36 = .ok (.getfield 284, 3) := by decide +kernel
theorem dX12_onePart_39 : decode cX12_onePart 39 = .ok (.iconst 1, 1) := by decide +kernel
theorem dX12_onePart_40 : decode cX12_onePart 40 = .ok (.iadd, 1) := by decide +kernel
theorem dX12_onePart_41 : decode cX12_onePart 41 = .ok (.putfield 284, 3) := by decide +kernel
theorem dX12_onePart_44 : decode cX12_onePart 44 = .ok (.goto 99, 3) := by decide +kernel
theorem dX12_onePart_47 : decode cX12_onePart 47 = .ok (.aload_n 0, 1) := by decide +kernel
theorem dX12_onePart_48 : decode cX12_onePart 48 = .ok (.aload_n 0, 1) := by decide +kernel
theorem dX12_onePart_49 : decode cX12_onePart 49 = .ok (.getfield 117, 3) := by decide +kernel
theorem dX12_onePart_52 : decode cX12_onePart 52 = .ok (.invokevirtual 301, 3) := by decide +kernel
theorem dX12_onePart_55 : decode cX12_onePart 55 = .ok (.ifCond .ne 14, 3) := by decide +kernel
theorem dX12_onePart_58 : decode cX12_onePart 58 = .ok (.aload_n 0, 1) := by decide +kernel
theorem dX12_onePart_59 : decode cX12_onePart 59 = .ok (.aload_n 0, 1) := by decide +kernel
theorem dX12_onePart_60 : decode cX12_onePart 60 = .ok (.getfield 120, 3) := by decide +kernel
theorem dX12_onePart_63 : decode cX12_onePart 63 = .ok (.invokevirtual 301, 3) := by decide +kernel
theorem dX12_onePart_66 : decode cX12_onePart 66 = .ok (.ifCond .eq 75, 3) := by decide +kernel
theorem dX12_onePart_69 : decode cX12_onePart 69 = .ok (.aload_n 0, 1) := by decide +kernel
theorem dX12_onePart_70 : decode cX12_onePart 70 = .ok (.aload_n 0, 1) := by decide +kernel
theorem dX12_onePart_71 : decode cX12_onePart 71 = .ok (.getfield 117, 3) := by decide +kernel
theorem dX12_onePart_74 : decode cX12_onePart 74 = .ok (.invokevirtual 305, 3) := by decide +kernel
theorem dX12_onePart_77 : decode cX12_onePart 77 = .ok (.istore_n 3, 1) := by decide +kernel
theorem dX12_onePart_78 : decode cX12_onePart 78 = .ok (.iload_n 3, 1) := by decide +kernel
theorem dX12_onePart_79 : decode cX12_onePart 79 = .ok (.ifCond .ne 11, 3) := by decide +kernel
theorem dX12_onePart_82 : decode cX12_onePart 82 = .ok (.aload_n 0, 1) := by decide +kernel
theorem dX12_onePart_83 : decode cX12_onePart 83 = .ok (.aload_n 0, 1) := by decide +kernel
theorem dX12_onePart_84 : decode cX12_onePart 84 = .ok (.getfield 120, 3) := by decide +kernel
theorem dX12_onePart_87 : decode cX12_onePart 87 = .ok (.invokevirtual 344, 3) := by decide +kernel
theorem dX12_onePart_90 : decode cX12_onePart 90 = .ok (.aload_n 0, 1) := by decide +kernel
theorem dX12_onePart_91 : decode cX12_onePart 91 = .ok (.invokevirtual 290, 3) := by decide +kernel
theorem dX12_onePart_94 : decode cX12_onePart 94 = .ok (.bipush 40, 2) := by decide +kernel
theorem dX12_onePart_96 : decode cX12_onePart 96 = .ok (.if_icmp .ne 10, 3) := by decide +kernel
theorem dX12_onePart_99 : decode cX12_onePart 99 = .ok (.aload_n 0, 1) := by decide +kernel
theorem dX12_onePart_100 : decode cX12_onePart 100 = .ok (.getfield 284, 3) := by decide +kernel
theorem dX12_onePart_103 : decode cX12_onePart 103 = .ok (.goto 4, 3) := by decide +kernel
theorem dX12_onePart_106 : decode cX12_onePart 106 = .ok (.iconst (-1), 1) := by decide +kernel
theorem dX12_onePart_107 : decode cX12_onePart 107 = .ok (.istore 4, 2) := by decide +kernel
theorem dX12_onePart_109 : decode cX12_onePart 109 = .ok (.iload 4, 2) := by decide +kernel
theorem dX12_onePart_111 : decode cX12_onePart 111 = .ok (.iconst (-1), 1) := by decide +kernel
theorem dX12_onePart_112 : decode cX12_onePart 112 = .ok (.if_icmp .eq 20, 3) := by decide +kernel
theorem dX12_onePart_115 : decode cX12_onePart 115 = .ok (.aload_n 0, 1) := by decide +kernel
theorem dX12_onePart_116 : decode cX12_onePart 116 = .ok (.iload_n 3, 1) := by decide +kernel
theorem dX12_onePart_117 : decode cX12_onePart 117 = .ok (.ifCond .eq 8, 3) := by decide +kernel
theorem dX12_onePart_120 : decode cX12_onePart 120 = .ok (.bipush 21, 2) := by decide +kernel
theorem dX12_onePart_122 : decode cX12_onePart 122 = .ok (.goto 5, 3) := by decide +kernel
theorem dX12_onePart_125 : decode cX12_onePart 125 = .ok (.bipush 22, 2) := by decide +kernel
theorem dX12_onePart_127 : decode cX12_onePart 127 = .ok (.iload 4, 2) := by decide +kernel
theorem dX12_onePart_129 : decode cX12_onePart 129 = .ok (.invokevirtual 440, 3) := by decide +kernel
theorem dX12_onePart_132 : decode cX12_onePart 132 = .ok (.aload_n 0, 1) := by decide +kernel
theorem dX12_onePart_133 : decode cX12_onePart 133 = .ok (.bipush 40, 2) := by decide +kernel
theorem dX12_onePart_135 : decode cX12_onePart 135 = .ok (.invokevirtual 352, 3) := by decide +kernel
theorem dX12_onePart_138 : decode cX12_onePart 138 = .ok (.goto 5, 3) := by decide +kernel
theorem dX12_onePart_141 : decode cX12_onePart 141 = .ok (.iconst 0, 1) := by decide +kernel
theorem dX12_onePart_142 : decode cX12_onePart 142 = .ok (.istore_n 1, 1) := by decide +kernel
theorem dX12_onePart_143 : decode cX12_onePart 143 = .ok (.goto (-141), 3) := by decide +kernel
theorem dX12_onePart_146 : decode cX12_onePart 146 = .ok (.aload_n 0, 1) := by decide +kernel
theorem dX12_onePart_147 : decode cX12_onePart 147 = .ok (.getfield 278, 3) := by decide +kernel
theorem dX12_onePart_150 : decode cX12_onePart 150 = .ok (.ifCond .eq 4, 3) := by decide +kernel
theorem dX12_onePart_153 : decode cX12_onePart 153 = .ok (.return_, 1) := by decide +kernel
theorem dX12_onePart_154 : decode cX12_onePart 154 = .ok (.aload_n 0, 1) := by decide +kernel
theorem dX12_onePart_155 : decode cX12_onePart 155 = .ok (.aload_n 0, 1) := by decide +kernel
theorem dX12_onePart_156 : decode cX12_onePart 156 = .ok (.getfield 69, 3) := by decide +kernel
theorem dX12_onePart_159 : decode cX12_onePart 159 = .ok (.invokevirtual 305, 3) := by decide +kernel
theorem dX12_onePart_162 : decode cX12_onePart 162 = .ok (.ifCond .eq 8, 3) := by decide +kernel
theorem dX12_onePart_165 : decode cX12_onePart 165 = .ok (.bipush 7, 2) := by decide +kernel
theorem dX12_onePart_167 : decode cX12_onePart 167 = .ok (.goto 162, 3) := by decide +kernel
theorem dX12_onePart_170 : decode cX12_onePart 170 = .ok (.aload_n 0, 1) := by decide +kernel
theorem dX12_onePart_171 : decode cX12_onePart 171 = .ok (.aload_n 0, 1) := by decide +kernel
theorem dX12_onePart_172 : decode cX12_onePart 172 = .ok (.getfield 72, 3) := by decide +kernel
theorem dX12_onePart_175 : decode cX12_onePart 175 = .ok (.invokevirtual 305, 3) := by decide +kernel
theorem dX12_onePart_178 : decode cX12_onePart 178 = .ok (.ifCond .eq 8, 3) := by decide +kernel
theorem dX12_onePart_181 : decode cX12_onePart 181 = .ok (.bipush 8, 2) := by decide +kernel
theorem dX12_onePart_183 : decode cX12_onePart 183 = .ok (.goto 146, 3) := by decide +kernel
theorem dX12_onePart_186 : decode cX12_onePart 186 = .ok (.aload_n 0, 1) := by decide +kernel
theorem dX12_onePart_187 : decode cX12_onePart 187 = .ok (.aload_n 0, 1) := by decide +kernel
theorem dX12_onePart_188 : decode cX12_onePart 188 = .ok (.getfield 75, 3) := by decide +kernel
theorem dX12_onePart_191 : decode cX12_onePart 191 = .ok (.invokevirtual 305, 3) := by decide +kernel
theorem dX12_onePart_194 : decode cX12_onePart 194 = .ok (.ifCond .eq 8, 3) := by decide +kernel
theorem dX12_onePart_197 : decode cX12_onePart 197 = .ok (.bipush 9, 2) := by decide +kernel
theorem dX12_onePart_199 : decode cX12_onePart 199 = .ok (.goto 130, 3) := by decide +kernel
theorem dX12_onePart_202 : decode cX12_onePart 202 = .ok (.aload_n 0, 1) := by decide +kernel
theorem dX12_onePart_203 : decode cX12_onePart 203 = .ok (.aload_n 0, 1) := by decide +kernel
theorem dX12_onePart_204 : decode cX12_onePart 204 = .ok (.getfield 78, 3) := by decide +kernel
theorem dX12_onePart_207 : decode cX12_onePart 207 = .ok (.invokevirtual 305, 3) := by decide +kernel
theorem dX12_onePart_210 : decode cX12_onePart 210 = .ok (.ifCond .eq 8, 3) := by decide +kernel
theorem dX12_onePart_213 : decode cX12_onePart 213 = .ok (.bipush 10, 2) := by decide +kernel
theorem dX12_onePart_215 : decode cX12_onePart 215 = .ok (.goto 114, 3) := by decide +kernel
theorem dX12_onePart_218 : decode cX12_onePart 218 = .ok (.aload_n 0, 1) := by decide +kernel
theorem dX12_onePart_219 : decode cX12_onePart 219 = .ok (.aload_n 0, 1) := by decide +kernel
theorem dX12_onePart_220 : decode cX12_onePart 220 = .ok (.getfield 81, 3) := by decide +kernel
theorem dX12_onePart_223 : decode cX12_onePart 223 = .ok (.invokevirtual 305, 3) := by decide +kernel
theorem dX12_onePart_226 : decode cX12_onePart 226 = .ok (.ifCond .eq 8, 3) := by decide +kernel
theorem dX12_onePart_229 : decode cX12_onePart 229 = .ok (.bipush 11, 2) := by decide +kernel
theorem dX12_onePart_231 : decode cX12_onePart 231 = .ok (.goto 98, 3) := by decide +kernel
theorem dX12_onePart_234 : decode cX12_onePart 234 = .ok (.aload_n 0, 1) := by decide +kernel
theorem dX12_onePart_235 : decode cX12_onePart 235 = .ok (.aload_n 0, 1) := by decide +kernel
theorem dX12_onePart_236 : decode cX12_onePart 236 = .ok (.getfield 39, 3) := by decide +kernel
theorem dX12_onePart_239 : decode cX12_onePart 239 = .ok (.invokevirtual 305, 3) := by decide +kernel
theorem dX12_onePart_242 : decode cX12_onePart 242 = .ok (.ifCond .eq 8, 3) := by decide +kernel
