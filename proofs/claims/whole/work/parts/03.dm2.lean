theorem dX10_makesGrid_49 : decode cX10_makesGrid 49 = .ok (.iconst 1, 1) := by decide +kernel
theorem dX10_makesGrid_50 : decode cX10_makesGrid 50 = .ok (.invokevirtual 72, 3) := by decide +kernel
theorem dX10_makesGrid_53 : decode cX10_makesGrid 53 = .ok (.iconst 1, 1) := by decide +kernel
theorem dX10_makesGrid_54 : decode cX10_makesGrid 54 = .ok (.isub, 1) := by decide +kernel
theorem dX10_makesGrid_55 : decode cX10_makesGrid 55 = .ok (.invokevirtual 144, 3) := by decide +kernel
theorem dX10_makesGrid_58 : decode cX10_makesGrid 58 = .ok (.aload_n 0, 1) := by decide +kernel
theorem dX10_makesGrid_59 : decode cX10_makesGrid 59 = .ok (.aload_n 0, 1) := by decide +kernel
theorem dX10_makesGrid_60 : decode cX10_makesGrid 60 = .ok (.iload_n 2, 1) := by decide +kernel
theorem dX10_makesGrid_61 : decode cX10_makesGrid 61 = .ok (.iconst 3, 1) := by decide +kernel
theorem dX10_makesGrid_62 : decode cX10_makesGrid 62 = .ok (.invokevirtual 72, 3) := by decide +kernel
theorem dX10_makesGrid_65 : decode cX10_makesGrid 65 = .ok (.iconst 1, 1) := by decide +kernel
theorem dX10_makesGrid_66 : decode cX10_makesGrid 66 = .ok (.iadd, 1) := by decide +kernel
theorem dX10_makesGrid_67 : decode cX10_makesGrid 67 = .ok (.invokevirtual 144, 3) := by decide +kernel
theorem dX10_makesGrid_70 : decode cX10_makesGrid 70 = .ok (.iinc 2 1, 3) := by decide +kernel
theorem dX10_makesGrid_73 : decode cX10_makesGrid 73 = .ok (.goto (-61), 3) := by decide +kernel
theorem dX10_makesGrid_76 : decode cX10_makesGrid 76 = .ok (.iconst 0, 1) := by decide +kernel
theorem dX10_makesGrid_77 : decode cX10_makesGrid 77 = .ok (.istore_n 2, 1) := by decide +kernel
theorem dX10_makesGrid_78 : decode cX10_makesGrid 78 = .ok (.iload_n 2, 1) := by decide +kernel
theorem dX10_makesGrid_79 : decode cX10_makesGrid 79 = .ok (.iconst 2, 1) := by decide +kernel
theorem dX10_makesGrid_80 : decode cX10_makesGrid 80 = .ok (.if_icmp .ge 33, 3) := by decide +kernel
theorem dX10_makesGrid_83 : decode cX10_makesGrid 83 = .ok (.aload_n 0, 1) := by decide +kernel
theorem dX10_makesGrid_84 : decode cX10_makesGrid 84 = .ok (.aload_n 0, 1) := by decide +kernel
theorem dX10_makesGrid_85 : decode cX10_makesGrid 85 = .ok (.iload_n 1, 1) := by decide +kernel
theorem dX10_makesGrid_86 : decode cX10_makesGrid 86 = .ok (.iload_n 2, 1) := by decide +kernel
theorem dX10_makesGrid_87 : decode cX10_makesGrid 87 = .ok (.iconst 1, 1) := by decide +kernel
theorem dX10_makesGrid_88 : decode cX10_makesGrid 88 = .ok (.iconst 1, 1) := by decide +kernel
theorem dX10_makesGrid_89 : decode cX10_makesGrid 89 = .ok (.invokevirtual 120, 3) := by decide +kernel
theorem dX10_makesGrid_92 : decode cX10_makesGrid 92 = .ok (.invokevirtual 140, 3) := by decide +kernel
theorem dX10_makesGrid_95 : decode cX10_makesGrid 95 = .ok (.aload_n 0, 1) := by decide +kernel
theorem dX10_makesGrid_96 : decode cX10_makesGrid 96 = .ok (.aload_n 0, 1) := by decide +kernel
theorem dX10_makesGrid_97 : decode cX10_makesGrid 97 = .ok (.iload_n 1, 1) := by decide +kernel
theorem dX10_makesGrid_98 : decode cX10_makesGrid 98 = .ok (.iload_n 2, 1) := by decide +kernel
theorem dX10_makesGrid_99 : decode cX10_makesGrid 99 = .ok (.iconst 0, 1) := by decide +kernel
theorem dX10_makesGrid_100 : decode cX10_makesGrid 100 = .ok (.iconst 1, 1) := by decide +kernel
theorem dX10_makesGrid_101 : decode cX10_makesGrid 101 = .ok (.invokevirtual 120, 3) := by decide +kernel
theorem dX10_makesGrid_104 : decode cX10_makesGrid 104 = .ok (.invokevirtual 144, 3) := by decide +kernel
theorem dX10_makesGrid_107 : decode cX10_makesGrid 107 = .ok (.iinc 2 1, 3) := by decide +kernel
theorem dX10_makesGrid_110 : decode cX10_makesGrid 110 = .ok (.goto (-32), 3) := by decide +kernel
theorem dX10_makesGrid_113 : decode cX10_makesGrid 113 = .ok (.iconst 0, 1) := by decide +kernel
theorem dX10_makesGrid_114 : decode cX10_makesGrid 114 = .ok (.istore_n 2, 1) := by decide +kernel
theorem dX10_makesGrid_115 : decode cX10_makesGrid 115 = .ok (.iload_n 2, 1) := by decide +kernel
theorem dX10_makesGrid_116 : decode cX10_makesGrid 116 = .ok (.aload_n 0, 1) := by decide +kernel
theorem dX10_makesGrid_117 : decode cX10_makesGrid 117 = .ok (.getfield 134, 3) := by decide +kernel
theorem dX10_makesGrid_120 : decode cX10_makesGrid 120 = .ok (.if_icmp .ge 63, 3) := by decide +kernel
theorem dX10_makesGrid_123 : decode cX10_makesGrid 123 = .ok (.iconst 0, 1) := by decide +kernel
theorem dX10_makesGrid_124 : decode cX10_makesGrid 124 = .ok (.istore_n 3, 1) := by decide +kernel
theorem dX10_makesGrid_125 : decode cX10_makesGrid 125 = .ok (.iload_n 3, 1) := by decide +kernel
theorem dX10_makesGrid_126 : decode cX10_makesGrid 126 = .ok (.aload_n 0, 1) := by decide +kernel
theorem dX10_makesGrid_127 : decode cX10_makesGrid 127 = .ok (.getfield 137, 3) := by decide +kernel
theorem dX10_makesGrid_130 : decode cX10_makesGrid 130 = .ok (.if_icmp .ge 47, 3) := by decide +kernel
theorem dX10_makesGrid_133 : decode cX10_makesGrid 133 = .ok (.aload_n 0, 1) := by decide +kernel
theorem dX10_makesGrid_134 : decode cX10_makesGrid 134 = .ok (.getfield 19, 3) := by decide +kernel
theorem dX10_makesGrid_137 : decode cX10_makesGrid 137 = .ok (.bipush 20, 2) := by decide +kernel
theorem dX10_makesGrid_139 : decode cX10_makesGrid 139 = .ok (.iload_n 2, 1) := by decide +kernel
theorem dX10_makesGrid_140 : decode cX10_makesGrid 140 = .ok (.imul, 1) := by decide +kernel
theorem dX10_makesGrid_141 : decode cX10_makesGrid 141 = .ok (.iload_n 3, 1) := by decide +kernel
theorem dX10_makesGrid_142 : decode cX10_makesGrid 142 = .ok (.iadd, 1) := by decide +kernel
theorem dX10_makesGrid_143 : decode cX10_makesGrid 143 = .ok (.aload_n 0, 1) := by decide +kernel
theorem dX10_makesGrid_144 : decode cX10_makesGrid 144 = .ok (.aload_n 0, 1) := by decide +kernel
theorem dX10_makesGrid_145 : decode cX10_makesGrid 145 = .ok (.getfield 13, 3) := by decide +kernel
theorem dX10_makesGrid_148 : decode cX10_makesGrid 148 = .ok (.iload_n 2, 1) := by decide +kernel
theorem dX10_makesGrid_149 : decode cX10_makesGrid 149 = .ok (.iaload, 1) := by decide +kernel
theorem dX10_makesGrid_150 : decode cX10_makesGrid 150 = .ok (.aload_n 0, 1) := by decide +kernel
theorem dX10_makesGrid_151 : decode cX10_makesGrid 151 = .ok (.getfield 16, 3) := by decide +kernel
theorem dX10_makesGrid_154 : decode cX10_makesGrid 154 = .ok (.iload_n 3, 1) := by decide +kernel
theorem dX10_makesGrid_155 : decode cX10_makesGrid 155 = .ok (.iaload, 1) := by decide +kernel
theorem dX10_makesGrid_156 : decode cX10_makesGrid 156 = .ok (.invokevirtual 101, 3) := by decide +kernel
theorem dX10_makesGrid_159 : decode cX10_makesGrid 159 = .ok (.sipush (-1000), 3) := by decide +kernel
theorem dX10_makesGrid_162 : decode cX10_makesGrid 162 = .ok (.if_icmp .ne 7, 3) := by decide +kernel
theorem dX10_makesGrid_165 : decode cX10_makesGrid 165 = .ok (.iconst 1, 1) := by decide +kernel
theorem dX10_makesGrid_166 : decode cX10_makesGrid 166 = .ok (.goto 4, 3) := by decide +kernel
theorem dX10_makesGrid_169 : decode cX10_makesGrid 169 = .ok (.iconst 0, 1) := by decide +kernel
theorem dX10_makesGrid_170 : decode cX10_makesGrid 170 = .ok (.bastore, 1) := by decide +kernel
theorem dX10_makesGrid_171 : decode cX10_makesGrid 171 = .ok (.iinc 3 1, 3) := by decide +kernel
theorem dX10_makesGrid_174 : decode cX10_makesGrid 174 = .ok (.goto (-49), 3) := by decide +kernel
theorem dX10_makesGrid_177 : decode cX10_makesGrid 177 = .ok (.iinc 2 1, 3) := by decide +kernel
theorem dX10_makesGrid_180 : decode cX10_makesGrid 180 = .ok (.goto (-65), 3) := by decide +kernel
theorem dX10_makesGrid_183 : decode cX10_makesGrid 183 = .ok (.iconst 0, 1) := by decide +kernel
theorem dX10_makesGrid_184 : decode cX10_makesGrid 184 = .ok (.istore_n 2, 1) := by decide +kernel
theorem dX10_makesGrid_185 : decode cX10_makesGrid 185 = .ok (.iload_n 2, 1) := by decide +kernel
theorem dX10_makesGrid_186 : decode cX10_makesGrid 186 = .ok (.aload_n 0, 1) := by decide +kernel
theorem dX10_makesGrid_187 : decode cX10_makesGrid 187 = .ok (.getfield 134, 3) := by decide +kernel
theorem dX10_makesGrid_190 : decode cX10_makesGrid 190 = .ok (.if_icmp .ge 259, 3) := by decide +kernel
theorem dX10_makesGrid_193 : decode cX10_makesGrid 193 = .ok (.iconst 0, 1) := by decide +kernel
theorem dX10_makesGrid_194 : decode cX10_makesGrid 194 = .ok (.istore_n 3, 1) := by decide +kernel
theorem dX10_makesGrid_195 : decode cX10_makesGrid 195 = .ok (.iload_n 3, 1) := by decide +kernel
theorem dX10_makesGrid_196 : decode cX10_makesGrid 196 = .ok (.aload_n 0, 1) := by decide +kernel
theorem dX10_makesGrid_197 : decode cX10_makesGrid 197 = .ok (.getfield 137, 3) := by decide +kernel
theorem dX10_makesGrid_200 : decode cX10_makesGrid 200 = .ok (.if_icmp .ge 243, 3) := by decide +kernel
theorem dX10_makesGrid_203 : decode cX10_makesGrid 203 = .ok (.iload_n 2, 1) := by decide +kernel
theorem dX10_makesGrid_204 : decode cX10_makesGrid 204 = .ok (.iconst 1, 1) := by decide +kernel
theorem dX10_makesGrid_205 : decode cX10_makesGrid 205 = .ok (.iadd, 1) := by decide +kernel
theorem dX10_makesGrid_206 : decode cX10_makesGrid 206 = .ok (.aload_n 0, 1) := by decide +kernel
theorem dX10_makesGrid_207 : decode cX10_makesGrid 207 = .ok (.getfield 134, 3) := by decide +kernel
theorem dX10_makesGrid_210 : decode cX10_makesGrid 210 = .ok (.if_icmp .ge 37, 3) := by decide +kernel
theorem dX10_makesGrid_213 : decode cX10_makesGrid 213 = .ok (.aload_n 0, 1) := by decide +kernel
theorem dX10_makesGrid_214 : decode cX10_makesGrid 214 = .ok (.getfield 19, 3) := by decide +kernel
theorem dX10_makesGrid_217 : decode cX10_makesGrid 217 = .ok (.bipush 20, 2) := by decide +kernel
theorem dX10_makesGrid_219 : decode cX10_makesGrid 219 = .ok (.iload_n 2, 1) := by decide +kernel
theorem dX10_makesGrid_220 : decode cX10_makesGrid 220 = .ok (.imul, 1) := by decide +kernel
theorem dX10_makesGrid_221 : decode cX10_makesGrid 221 = .ok (.iload_n 3, 1) := by decide +kernel
theorem dX10_makesGrid_222 : decode cX10_makesGrid 222 = .ok (.iadd, 1) := by decide +kernel
theorem dX10_makesGrid_223 : decode cX10_makesGrid 223 = .ok (.baload, 1) := by decide +kernel
theorem dX10_makesGrid_224 : decode cX10_makesGrid 224 = .ok (.ifCond .eq 23, 3) := by decide +kernel
theorem dX10_makesGrid_227 : decode cX10_makesGrid 227 = .ok (.aload_n 0, 1) := by decide +kernel
theorem dX10_makesGrid_228 : decode cX10_makesGrid 228 = .ok (.getfield 19, 3) := by decide +kernel
theorem dX10_makesGrid_231 : decode cX10_makesGrid 231 = .ok (.bipush 20, 2) := by decide +kernel
theorem dX10_makesGrid_233 : decode cX10_makesGrid 233 = .ok (.iload_n 2, 1) := by decide +kernel
theorem dX10_makesGrid_234 : decode cX10_makesGrid 234 = .ok (.iconst 1, 1) := by decide +kernel
theorem dX10_makesGrid_235 : decode cX10_makesGrid 235 = .ok (.iadd, 1) := by decide +kernel
theorem dX10_makesGrid_236 : decode cX10_makesGrid 236 = .ok (.imul, 1) := by decide +kernel
theorem dX10_makesGrid_237 : decode cX10_makesGrid 237 = .ok (.iload_n 3, 1) := by decide +kernel
theorem dX10_makesGrid_238 : decode cX10_makesGrid 238 = .ok (.iadd, 1) := by decide +kernel
theorem dX10_makesGrid_239 : decode cX10_makesGrid 239 = .ok (.baload, 1) := by decide +kernel
theorem dX10_makesGrid_240 : decode cX10_makesGrid 240 = .ok (.ifCond .eq 7, 3) := by decide +kernel
theorem dX10_makesGrid_243 : decode cX10_makesGrid 243 = .ok (.iconst 1, 1) := by decide +kernel
theorem dX10_makesGrid_244 : decode cX10_makesGrid 244 = .ok (.goto 4, 3) := by decide +kernel
theorem dX10_makesGrid_247 : decode cX10_makesGrid 247 = .ok (.iconst 0, 1) := by decide +kernel
theorem dX10_makesGrid_248 : decode cX10_makesGrid 248 = .ok (.istore 4, 2) := by decide +kernel
theorem dX10_makesGrid_250 : decode cX10_makesGrid 250 = .ok (.aload_n 0, 1) := by decide +kernel
theorem dX10_makesGrid_251 : decode cX10_makesGrid 251 = .ok (.getfield 13, 3) := by decide +kernel
theorem dX10_makesGrid_254 : decode cX10_makesGrid 254 = .ok (.iload_n 2, 1) := by decide +kernel
theorem dX10_makesGrid_255 : decode cX10_makesGrid 255 = .ok (.iaload, 1) := by decide +kernel
theorem dX10_makesGrid_256 : decode cX10_makesGrid 256 = .ok (.istore 5, 2) := by decide +kernel
theorem dX10_makesGrid_258 : decode cX10_makesGrid 258 = .ok (.iload 4, 2) := by decide +kernel
theorem dX10_makesGrid_260 : decode cX10_makesGrid 260 = .ok (.ifCond .eq 47, 3) := by decide +kernel
theorem dX10_makesGrid_263 : decode cX10_makesGrid 263 = .ok (.iload 5, 2) := by decide +kernel
theorem dX10_makesGrid_265 : decode cX10_makesGrid 265 = .ok (.aload_n 0, 1) := by decide +kernel
theorem dX10_makesGrid_266 : decode cX10_makesGrid 266 = .ok (.getfield 13, 3) := by decide +kernel
theorem dX10_makesGrid_269 : decode cX10_makesGrid 269 = .ok (.iload_n 2, 1) := by decide +kernel
theorem dX10_makesGrid_270 : decode cX10_makesGrid 270 = .ok (.iconst 1, 1) := by decide +kernel
theorem dX10_makesGrid_271 : decode cX10_makesGrid 271 = .ok (.iadd, 1) := by decide +kernel
theorem dX10_makesGrid_272 : decode cX10_makesGrid 272 = .ok (.iaload, 1) := by decide +kernel
theorem dX10_makesGrid_273 : decode cX10_makesGrid 273 = .ok (.if_icmp .ge 34, 3) := by decide +kernel
theorem dX10_makesGrid_276 : decode cX10_makesGrid 276 = .ok (.aload_n 0, 1) := by decide +kernel
theorem dX10_makesGrid_277 : decode cX10_makesGrid 277 = .ok (.iload 5, 2) := by decide +kernel
theorem dX10_makesGrid_279 : decode cX10_makesGrid 279 = .ok (.aload_n 0, 1) := by decide +kernel
theorem dX10_makesGrid_280 : decode cX10_makesGrid 280 = .ok (.getfield 16, 3) := by decide +kernel
theorem dX10_makesGrid_283 : decode cX10_makesGrid 283 = .ok (.iload_n 3, 1) := by decide +kernel
theorem dX10_makesGrid_284 : decode cX10_makesGrid 284 = .ok (.iaload, 1) := by decide +kernel
theorem dX10_makesGrid_285 : decode cX10_makesGrid 285 = .ok (.invokevirtual 101, 3) := by decide +kernel
theorem dX10_makesGrid_288 : decode cX10_makesGrid 288 = .ok (.sipush (-1000), 3) := by decide +kernel
theorem dX10_makesGrid_291 : decode cX10_makesGrid 291 = .ok (.if_icmp .ne 7, 3) := by decide +kernel
theorem dX10_makesGrid_294 : decode cX10_makesGrid 294 = .ok (.iconst 1, 1) := by decide +kernel
theorem dX10_makesGrid_295 : decode cX10_makesGrid 295 = .ok (.goto 4, 3) := by decide +kernel
theorem dX10_makesGrid_298 : decode cX10_makesGrid 298 = .ok (.iconst 0, 1) := by decide +kernel
theorem dX10_makesGrid_299 : decode cX10_makesGrid 299 = .ok (.istore 4, 2) := by decide +kernel
theorem dX10_makesGrid_301 : decode cX10_makesGrid 301 = .ok (.iinc 5 1, 3) := by decide +kernel
theorem dX10_makesGrid_304 : decode cX10_makesGrid 304 = .ok (.goto (-46), 3) := by decide +kernel
theorem dX10_makesGrid_307 : decode cX10_makesGrid 307 = .ok (.aload_n 0, 1) := by decide +kernel
theorem dX10_makesGrid_308 : decode cX10_makesGrid 308 = .ok (.getfield 23, 3) := by decide +kernel
theorem dX10_makesGrid_311 : decode cX10_makesGrid 311 = .ok (.bipush 20, 2) := by decide +kernel
theorem dX10_makesGrid_313 : decode cX10_makesGrid 313 = .ok (.iload_n 2, 1) := by decide +kernel
theorem dX10_makesGrid_314 : decode cX10_makesGrid 314 = .ok (.imul, 1) := by decide +kernel
theorem dX10_makesGrid_315 : decode cX10_makesGrid 315 = .ok (.iload_n 3, 1) := by decide +kernel
theorem dX10_makesGrid_316 : decode cX10_makesGrid 316 = .ok (.iadd, 1) := by decide +kernel
theorem dX10_makesGrid_317 : decode cX10_makesGrid 317 = .ok (.iload 4, 2) := by decide +kernel
theorem dX10_makesGrid_319 : decode cX10_makesGrid 319 = .ok (.bastore, 1) := by decide +kernel
theorem dX10_makesGrid_320 : decode cX10_makesGrid 320 = .ok (.iload_n 3, 1) := by decide +kernel
theorem dX10_makesGrid_321 : decode cX10_makesGrid 321 = .ok (.iconst 1, 1) := by decide +kernel
theorem dX10_makesGrid_322 : decode cX10_makesGrid 322 = .ok (.iadd, 1) := by decide +kernel
theorem dX10_makesGrid_323 : decode cX10_makesGrid 323 = .ok (.aload_n 0, 1) := by decide +kernel
theorem dX10_makesGrid_324 : decode cX10_makesGrid 324 = .ok (.getfield 137, 3) := by decide +kernel
theorem dX10_makesGrid_327 : decode cX10_makesGrid 327 = .ok (.if_icmp .ge 37, 3) := by decide +kernel
theorem dX10_makesGrid_330 : decode cX10_makesGrid 330 = .ok (.aload_n 0, 1) := by decide +kernel
theorem dX10_makesGrid_331 : decode cX10_makesGrid 331 = .ok (.getfield 19, 3) := by decide +kernel
theorem dX10_makesGrid_334 : decode cX10_makesGrid 334 = .ok (.bipush 20, 2) := by decide +kernel
theorem dX10_makesGrid_336 : decode cX10_makesGrid 336 = .ok (.iload_n 2, 1) := by decide +kernel
theorem dX10_makesGrid_337 : decode cX10_makesGrid 337 = .ok (.imul, 1) := by decide +kernel
theorem dX10_makesGrid_338 : decode cX10_makesGrid 338 = .ok (.iload_n 3, 1) := by decide +kernel
theorem dX10_makesGrid_339 : decode cX10_makesGrid 339 = .ok (.iadd, 1) := by decide +kernel
theorem dX10_makesGrid_340 : decode cX10_makesGrid 340 = .ok (.baload, 1) := by decide +kernel
theorem dX10_makesGrid_341 : decode cX10_makesGrid 341 = .ok (.ifCond .eq 23, 3) := by decide +kernel
theorem dX10_makesGrid_344 : decode cX10_makesGrid 344 = .ok (.aload_n 0, 1) := by decide +kernel
theorem dX10_makesGrid_345 : decode cX10_makesGrid 345 = .ok (.getfield 19, 3) := by decide +kernel
theorem dX10_makesGrid_348 : decode cX10_makesGrid 348 = .ok (.bipush 20, 2) := by decide +kernel
theorem dX10_makesGrid_350 : decode cX10_makesGrid 350 = .ok (.iload_n 2, 1) := by decide +kernel
theorem dX10_makesGrid_351 : decode cX10_makesGrid 351 = .ok (.imul, 1) := by decide +kernel
theorem dX10_makesGrid_352 : decode cX10_makesGrid 352 = .ok (.iload_n 3, 1) := by decide +kernel
theorem dX10_makesGrid_353 : decode cX10_makesGrid 353 = .ok (.iadd, 1) := by decide +kernel
theorem dX10_makesGrid_354 : decode cX10_makesGrid 354 = .ok (.iconst 1, 1) := by decide +kernel
theorem dX10_makesGrid_355 : decode cX10_makesGrid 355 = .ok (.iadd, 1) := by decide +kernel
theorem dX10_makesGrid_356 : decode cX10_makesGrid 356 = .ok (.baload, 1) := by decide +kernel
theorem dX10_makesGrid_357 : decode cX10_makesGrid 357 = .ok (.ifCond .eq 7, 3) := by decide +kernel
theorem dX10_makesGrid_360 : decode cX10_makesGrid 360 = .ok (.iconst 1, 1) := by decide +kernel
theorem dX10_makesGrid_361 : decode cX10_makesGrid 361 = .ok (.goto 4, 3) := by decide +kernel
theorem dX10_makesGrid_364 : decode cX10_makesGrid 364 = .ok (.iconst 0, 1) := by decide +kernel
theorem dX10_makesGrid_365 : decode cX10_makesGrid 365 = .ok (.istore 5, 2) := by decide +kernel
theorem dX10_makesGrid_367 : decode cX10_makesGrid 367 = .ok (.aload_n 0, 1) := by decide +kernel
theorem dX10_makesGrid_368 : decode cX10_makesGrid 368 = .ok (.getfield 16, 3) := by decide +kernel
theorem dX10_makesGrid_371 : decode cX10_makesGrid 371 = .ok (.iload_n 3, 1) := by decide +kernel
theorem dX10_makesGrid_372 : decode cX10_makesGrid 372 = .ok (.iaload, 1) := by decide +kernel
theorem dX10_makesGrid_373 : decode cX10_makesGrid 373 = .ok (.istore 6, 2) := by decide +kernel
theorem dX10_makesGrid_375 : decode cX10_makesGrid 375 = .ok (.iload 5, 2) := by decide +kernel
theorem dX10_makesGrid_377 : decode cX10_makesGrid 377 = .ok (.ifCond .eq 47, 3) := by decide +kernel
theorem dX10_makesGrid_380 : decode cX10_makesGrid 380 = .ok (.iload 6, 2) := by decide +kernel
theorem dX10_makesGrid_382 : decode cX10_makesGrid 382 = .ok (.aload_n 0, 1) := by decide +kernel
theorem dX10_makesGrid_383 : decode cX10_makesGrid 383 = .ok (.getfield 16, 3) := by decide +kernel
theorem dX10_makesGrid_386 : decode cX10_makesGrid 386 = .ok (.iload_n 3, 1) := by decide +kernel
theorem dX10_makesGrid_387 : decode cX10_makesGrid 387 = .ok (.iconst 1, 1) := by decide +kernel
theorem dX10_makesGrid_388 : decode cX10_makesGrid 388 = .ok (.iadd, 1) := by decide +kernel
theorem dX10_makesGrid_389 : decode cX10_makesGrid 389 = .ok (.iaload, 1) := by decide +kernel
theorem dX10_makesGrid_390 : decode cX10_makesGrid 390 = .ok (.if_icmp .ge 34, 3) := by decide +kernel
theorem dX10_makesGrid_393 : decode cX10_makesGrid 393 = .ok (.aload_n 0, 1) := by decide +kernel
theorem dX10_makesGrid_394 : decode cX10_makesGrid 394 = .ok (.aload_n 0, 1) := by decide +kernel
theorem dX10_makesGrid_395 : decode cX10_makesGrid 395 = .ok (.getfield 13, 3) := by decide +kernel
theorem dX10_makesGrid_398 : decode cX10_makesGrid 398 = .ok (.iload_n 2, 1) := by decide +kernel
theorem dX10_makesGrid_399 : decode cX10_makesGrid 399 = .ok (.iaload, 1) := by decide +kernel
theorem dX10_makesGrid_400 : decode cX10_makesGrid 400 = .ok (.iload 6, 2) := by decide +kernel
theorem dX10_makesGrid_402 : decode cX10_makesGrid 402 = .ok (.invokevirtual 101, 3) := by decide +kernel
theorem dX10_makesGrid_405 : decode cX10_makesGrid 405 = .ok (.sipush (-1000), 3) := by decide +kernel
theorem dX10_makesGrid_408 : decode cX10_makesGrid 408 = .ok (.if_icmp .ne 7, 3) := by decide +kernel
theorem dX10_makesGrid_411 : decode cX10_makesGrid 411 = .ok (.iconst 1, 1) := by decide +kernel
theorem dX10_makesGrid_412 : decode cX10_makesGrid 412 = .ok (.goto 4, 3) := by decide +kernel
theorem dX10_makesGrid_415 : decode cX10_makesGrid 415 = .ok (.iconst 0, 1) := by decide +kernel
theorem dX10_makesGrid_416 : decode cX10_makesGrid 416 = .ok (.istore 5, 2) := by decide +kernel
theorem dX10_makesGrid_418 : decode cX10_makesGrid 418 = .ok (.iinc 6 1, 3) := by decide +kernel
theorem dX10_makesGrid_421 : decode cX10_makesGrid 421 = .ok (.goto (-46), 3) := by decide +kernel
theorem dX10_makesGrid_424 : decode cX10_makesGrid 424 = .ok (.aload_n 0, 1) := by decide +kernel
theorem dX10_makesGrid_425 : decode cX10_makesGrid 425 = .ok (.getfield 26, 3) := by decide +kernel
theorem dX10_makesGrid_428 : decode cX10_makesGrid 428 = .ok (.bipush 20, 2) := by decide +kernel
theorem dX10_makesGrid_430 : decode cX10_makesGrid 430 = .ok (.iload_n 2, 1) := by decide +kernel
theorem dX10_makesGrid_431 : decode cX10_makesGrid 431 = .ok (.imul, 1) := by decide +kernel
theorem dX10_makesGrid_432 : decode cX10_makesGrid 432 = .ok (.iload_n 3, 1) := by decide +kernel
theorem dX10_makesGrid_433 : decode cX10_makesGrid 433 = .ok (.iadd, 1) := by decide +kernel
theorem dX10_makesGrid_434 : decode cX10_makesGrid 434 = .ok (.iload 5, 2) := by decide +kernel
theorem dX10_makesGrid_436 : decode cX10_makesGrid 436 = .ok (.bastore, 1) := by decide +kernel
theorem dX10_makesGrid_437 : decode cX10_makesGrid 437 = .ok (.iinc 3 1, 3) := by decide +kernel
theorem dX10_makesGrid_440 : decode cX10_makesGrid 440 = .ok (.goto (-245), 3) := by decide +kernel
theorem dX10_makesGrid_443 : decode cX10_makesGrid 443 = .ok (.iinc 2 1, 3) := by decide +kernel
theorem dX10_makesGrid_446 : decode cX10_makesGrid 446 = .ok (.goto (-261), 3) := by decide +kernel
theorem dX10_makesGrid_449 : decode cX10_makesGrid 449 = .ok (.return_, 1) := by decide +kernel
theorem dX10_indexX_0 : decode cX10_indexX 0 = .ok (.iconst 0, 1) := by decide +kernel
theorem dX10_indexX_1 : decode cX10_indexX 1 = .ok (.istore_n 2, 1) := by decide +kernel
theorem dX10_indexX_2 : decode cX10_indexX 2 = .ok (.aload_n 0, 1) := by decide +kernel
theorem dX10_indexX_3 : decode cX10_indexX 3 = .ok (.getfield 13, 3) := by decide +kernel
theorem dX10_indexX_6 : decode cX10_indexX 6 = .ok (.iload_n 2, 1) := by decide +kernel
theorem dX10_indexX_7 : decode cX10_indexX 7 = .ok (.iaload, 1) := by decide +kernel
theorem dX10_indexX_8 : decode cX10_indexX 8 = .ok (.iload_n 1, 1) := by decide +kernel
theorem dX10_indexX_9 : decode cX10_indexX 9 = .ok (.if_icmp .eq 9, 3) := by decide +kernel
theorem dX10_indexX_12 : decode cX10_indexX 12 = .ok (.iinc 2 1, 3) := by decide +kernel
theorem dX10_indexX_15 : decode cX10_indexX 15 = .ok (.goto (-13), 3) := by decide +kernel
theorem dX10_indexX_18 : decode cX10_indexX 18 = .ok (.iload_n 2, 1) := by decide +kernel
theorem dX10_indexX_19 : decode cX10_indexX 19 = .ok (.ireturn, 1) := by decide +kernel
theorem dX10_indexY_0 : decode cX10_indexY 0 = .ok (.iconst 0, 1) := by decide +kernel
theorem dX10_indexY_1 : decode cX10_indexY 1 = .ok (.istore_n 2, 1) := by decide +kernel
theorem dX10_indexY_2 : decode cX10_indexY 2 = .ok (.aload_n 0, 1) := by decide +kernel
theorem dX10_indexY_3 : decode cX10_indexY 3 = .ok (.getfield 16, 3) := by decide +kernel
theorem dX10_indexY_6 : decode cX10_indexY 6 = .ok (.iload_n 2, 1) := by decide +kernel
theorem dX10_indexY_7 : decode cX10_indexY 7 = .ok (.iaload, 1) := by decide +kernel
theorem dX10_indexY_8 : decode cX10_indexY 8 = .ok (.iload_n 1, 1) := by decide +kernel
theorem dX10_indexY_9 : decode cX10_indexY 9 = .ok (.if_icmp .eq 9, 3) := by decide +kernel
theorem dX10_indexY_12 : decode cX10_indexY 12 = .ok (.iinc 2 1, 3) := by decide +kernel
theorem dX10_indexY_15 : decode cX10_indexY 15 = .ok (.goto (-13), 3) := by decide +kernel
theorem dX10_indexY_18 : decode cX10_indexY 18 = .ok (.iload_n 2, 1) := by decide +kernel
theorem dX10_indexY_19 : decode cX10_indexY 19 = .ok (.ireturn, 1) := by decide +kernel
theorem dX10_next_0 : decode cX10_next 0 = .ok (.iload_n 1, 1) := by decide +kernel
theorem dX10_next_1 : decode cX10_next 1 = .ok (.bipush 20, 2) := by decide +kernel
theorem dX10_next_3 : decode cX10_next 3 = .ok (.idiv, 1) := by decide +kernel
theorem dX10_next_4 : decode cX10_next 4 = .ok (.istore_n 3, 1) := by decide +kernel
theorem dX10_next_5 : decode cX10_next 5 = .ok (.iload_n 1, 1) := by decide +kernel
theorem dX10_next_6 : decode cX10_next 6 = .ok (.bipush 20, 2) := by decide +kernel
theorem dX10_next_8 : decode cX10_next 8 = .ok (.irem, 1) := by decide +kernel
theorem dX10_next_9 : decode cX10_next 9 = .ok (.istore 4, 2) := by decide +kernel
theorem dX10_next_11 : decode cX10_next 11 = .ok (.iload_n 2, 1) := by decide +kernel
theorem dX10_next_12 : decode cX10_next 12 = .ok (.ifCond .ne 29, 3) := by decide +kernel
theorem dX10_next_15 : decode cX10_next 15 = .ok (.iload 4, 2) := by decide +kernel
theorem dX10_next_17 : decode cX10_next 17 = .ok (.ifCond .le 20, 3) := by decide +kernel
theorem dX10_next_20 : decode cX10_next 20 = .ok (.aload_n 0, 1) := by decide +kernel
theorem dX10_next_21 : decode cX10_next 21 = .ok (.getfield 26, 3) := by decide +kernel
theorem dX10_next_24 : decode cX10_next 24 = .ok (.iload_n 1, 1) := by decide +kernel
theorem dX10_next_25 : decode cX10_next 25 = .ok (.iconst 1, 1) := by decide +kernel
theorem dX10_next_26 : decode cX10_next 26 = .ok (.isub, 1) := by decide +kernel
theorem dX10_next_27 : decode cX10_next 27 = .ok (.baload, 1) := by decide +kernel
theorem dX10_next_28 : decode cX10_next 28 = .ok (.ifCond .eq 9, 3) := by decide +kernel
theorem dX10_next_31 : decode cX10_next 31 = .ok (.iload_n 1, 1) := by decide +kernel
theorem dX10_next_32 : decode cX10_next 32 = .ok (.iconst 1, 1) := by decide +kernel
theorem dX10_next_33 : decode cX10_next 33 = .ok (.isub, 1) := by decide +kernel
theorem dX10_next_34 : decode cX10_next 34 = .ok (.goto 6, 3) := by decide +kernel
theorem dX10_next_37 : decode cX10_next 37 = .ok (.sipush (-1000), 3) := by decide +kernel
theorem dX10_next_40 : decode cX10_next 40 = .ok (.ireturn, 1) := by decide +kernel
theorem dX10_next_41 : decode cX10_next 41 = .ok (.iload_n 2, 1) := by decide +kernel
theorem dX10_next_42 : decode cX10_next 42 = .ok (.iconst 1, 1) := by decide +kernel
theorem dX10_next_43 : decode cX10_next 43 = .ok (.if_icmp .ne 23, 3) := by decide +kernel
theorem dX10_next_46 : decode cX10_next 46 = .ok (.aload_n 0, 1) := by decide +kernel
theorem dX10_next_47 : decode cX10_next 47 = .ok (.getfield 23, 3) := by decide +kernel
theorem dX10_next_50 : decode cX10_next 50 = .ok (.iload_n 1, 1) := by decide +kernel
theorem dX10_next_51 : decode cX10_next 51 = .ok (.baload, 1) := by decide +kernel
theorem dX10_next_52 : decode cX10_next 52 = .ok (.ifCond .eq 10, 3) := by decide +kernel
theorem dX10_next_55 : decode cX10_next 55 = .ok (.iload_n 1, 1) := by decide +kernel
theorem dX10_next_56 : decode cX10_next 56 = .ok (.bipush 20, 2) := by decide +kernel
theorem dX10_next_58 : decode cX10_next 58 = .ok (.iadd, 1) := by decide +kernel
theorem dX10_next_59 : decode cX10_next 59 = .ok (.goto 6, 3) := by decide +kernel
theorem dX10_next_62 : decode cX10_next 62 = .ok (.sipush (-1000), 3) := by decide +kernel
theorem dX10_next_65 : decode cX10_next 65 = .ok (.ireturn, 1) := by decide +kernel
theorem dX10_next_66 : decode cX10_next 66 = .ok (.iload_n 2, 1) := by decide +kernel
theorem dX10_next_67 : decode cX10_next 67 = .ok (.iconst 2, 1) := by decide +kernel
theorem dX10_next_68 : decode cX10_next 68 = .ok (.if_icmp .ne 22, 3) := by decide +kernel
theorem dX10_next_71 : decode cX10_next 71 = .ok (.aload_n 0, 1) := by decide +kernel
theorem dX10_next_72 : decode cX10_next 72 = .ok (.getfield 26, 3) := by decide +kernel
theorem dX10_next_75 : decode cX10_next 75 = .ok (.iload_n 1, 1) := by decide +kernel
theorem dX10_next_76 : decode cX10_next 76 = .ok (.baload, 1) := by decide +kernel
theorem dX10_next_77 : decode cX10_next 77 = .ok (.ifCond .eq 9, 3) := by decide +kernel
theorem dX10_next_80 : decode cX10_next 80 = .ok (.iload_n 1, 1) := by decide +kernel
theorem dX10_next_81 : decode cX10_next 81 = .ok (.iconst 1, 1) := by decide +kernel
theorem dX10_next_82 : decode cX10_next 82 = .ok (.iadd, 1) := by decide +kernel
theorem dX10_next_83 : decode cX10_next 83 = .ok (.goto 6, 3) := by decide +kernel
theorem dX10_next_86 : decode cX10_next 86 = .ok (.sipush (-1000), 3) := by decide +kernel
theorem dX10_next_89 : decode cX10_next 89 = .ok (.ireturn, 1) := by decide +kernel
theorem dX10_next_90 : decode cX10_next 90 = .ok (.iload_n 3, 1) := by decide +kernel
theorem dX10_next_91 : decode cX10_next 91 = .ok (.ifCond .le 22, 3) := by decide +kernel
theorem dX10_next_94 : decode cX10_next 94 = .ok (.aload_n 0, 1) := by decide +kernel
theorem dX10_next_95 : decode cX10_next 95 = .ok (.getfield 23, 3) := by decide +kernel
theorem dX10_next_98 : decode cX10_next 98 = .ok (.iload_n 1, 1) := by decide +kernel
theorem dX10_next_99 : decode cX10_next 99 = .ok (.bipush 20, 2) := by decide +kernel
theorem dX10_next_101 : decode cX10_next 101 = .ok (.isub, 1) := by decide +kernel
theorem dX10_next_102 : decode cX10_next 102 = .ok (.baload, 1) := by decide +kernel
theorem dX10_next_103 : decode cX10_next 103 = .ok (.ifCond .eq 10, 3) := by decide +kernel
theorem dX10_next_106 : decode cX10_next 106 = .ok (.iload_n 1, 1) := by decide +kernel
theorem dX10_next_107 : decode cX10_next 107 = .ok (.bipush 20, 2) := by decide +kernel
theorem dX10_next_109 : decode cX10_next 109 = .ok (.isub, 1) := by decide +kernel
theorem dX10_next_110 : decode cX10_next 110 = .ok (.goto 6, 3) := by decide +kernel
theorem dX10_next_113 : decode cX10_next 113 = .ok (.sipush (-1000), 3) := by decide +kernel
theorem dX10_next_116 : decode cX10_next 116 = .ok (.ireturn, 1) := by decide +kernel
theorem dX10_stepLength_0 : decode cX10_stepLength 0 = .ok (.aload_n 0, 1) := by decide +kernel
theorem dX10_stepLength_1 : decode cX10_stepLength 1 = .ok (.getfield 13, 3) := by decide +kernel
theorem dX10_stepLength_4 : decode cX10_stepLength 4 = .ok (.iload_n 2, 1) := by decide +kernel
theorem dX10_stepLength_5 : decode cX10_stepLength 5 = .ok (.bipush 20, 2) := by decide +kernel
theorem dX10_stepLength_7 : decode cX10_stepLength 7 = .ok (.idiv, 1) := by decide +kernel
theorem dX10_stepLength_8 : decode cX10_stepLength 8 = .ok (.iaload, 1) := by decide +kernel
theorem dX10_stepLength_9 : decode cX10_stepLength 9 = .ok (.aload_n 0, 1) := by decide +kernel
theorem dX10_stepLength_10 : decode cX10_stepLength 10 = .ok (.getfield 13, 3) := by decide +kernel
theorem dX10_stepLength_13 : decode cX10_stepLength 13 = .ok (.iload_n 1, 1) := by decide +kernel
theorem dX10_stepLength_14 : decode cX10_stepLength 14 = .ok (.bipush 20, 2) := by decide +kernel
theorem dX10_stepLength_16 : decode cX10_stepLength 16 = .ok (.idiv, 1) := by decide +kernel
theorem dX10_stepLength_17 : decode cX10_stepLength 17 = .ok (.iaload, 1) := by decide +kernel
theorem dX10_stepLength_18 : decode cX10_stepLength 18 = .ok (.isub, 1) := by decide +kernel
theorem dX10_stepLength_19 : decode cX10_stepLength 19 = .ok (.istore_n 3, 1) := by decide +kernel
theorem dX10_stepLength_20 : decode cX10_stepLength 20 = .ok (.aload_n 0, 1) := by decide +kernel
theorem dX10_stepLength_21 : decode cX10_stepLength 21 = .ok (.getfield 16, 3) := by decide +kernel
theorem dX10_stepLength_24 : decode cX10_stepLength 24 = .ok (.iload_n 2, 1) := by decide +kernel
theorem dX10_stepLength_25 : decode cX10_stepLength 25 = .ok (.bipush 20, 2) := by decide +kernel
theorem dX10_stepLength_27 : decode cX10_stepLength 27 = .ok (.irem, 1) := by decide +kernel
theorem dX10_stepLength_28 : decode cX10_stepLength 28 = .ok (.iaload, 1) := by decide +kernel
theorem dX10_stepLength_29 : decode cX10_stepLength 29 = .ok (.aload_n 0, 1) := by decide +kernel
theorem dX10_stepLength_30 : decode cX10_stepLength 30 = .ok (.getfield 16, 3) := by decide +kernel
theorem dX10_stepLength_33 : decode cX10_stepLength 33 = .ok (.iload_n 1, 1) := by decide +kernel
theorem dX10_stepLength_34 : decode cX10_stepLength 34 = .ok (.bipush 20, 2) := by decide +kernel
theorem dX10_stepLength_36 : decode cX10_stepLength 36 = .ok (.irem, 1) := by decide +kernel
theorem dX10_stepLength_37 : decode cX10_stepLength 37 = .ok (.iaload, 1) := by decide +kernel
theorem dX10_stepLength_38 : decode cX10_stepLength 38 = .ok (.isub, 1) := by decide +kernel
theorem dX10_stepLength_39 : decode cX10_stepLength 39 = .ok (.istore 4, 2) := by decide +kernel
theorem dX10_stepLength_41 : decode cX10_stepLength 41 = .ok (.iload_n 3, 1) := by decide +kernel
theorem dX10_stepLength_42 : decode cX10_stepLength 42 = .ok (.ifCond .ge 8, 3) := by decide +kernel
theorem dX10_stepLength_45 : decode cX10_stepLength 45 = .ok (.iload_n 3, 1) := by decide +kernel
theorem dX10_stepLength_46 : decode cX10_stepLength 46 = .ok (.ineg, 1) := by decide +kernel
theorem dX10_stepLength_47 : decode cX10_stepLength 47 = .ok (.goto 4, 3) := by decide +kernel
theorem dX10_stepLength_50 : decode cX10_stepLength 50 = .ok (.iload_n 3, 1) := by decide +kernel
theorem dX10_stepLength_51 : decode cX10_stepLength 51 = .ok (.iload 4, 2) := by decide +kernel
theorem dX10_stepLength_53 : decode cX10_stepLength 53 = .ok (.ifCond .ge 9, 3) := by decide +kernel
theorem dX10_stepLength_56 : decode cX10_stepLength 56 = .ok (.iload 4, 2) := by decide +kernel
theorem dX10_stepLength_58 : decode cX10_stepLength 58 = .ok (.ineg, 1) := by decide +kernel
theorem dX10_stepLength_59 : decode cX10_stepLength 59 = .ok (.goto 5, 3) := by decide +kernel
theorem dX10_stepLength_62 : decode cX10_stepLength 62 = .ok (.iload 4, 2) := by decide +kernel
theorem dX10_stepLength_64 : decode cX10_stepLength 64 = .ok (.iadd, 1) := by decide +kernel
theorem dX10_stepLength_65 : decode cX10_stepLength 65 = .ok (.ireturn, 1) := by decide +kernel
theorem dX10_outer_0 : decode cX10_outer 0 = .ok (.bipush 20, 2) := by decide +kernel
theorem dX10_outer_2 : decode cX10_outer 2 = .ok (.aload_n 0, 1) := by decide +kernel
theorem dX10_outer_3 : decode cX10_outer 3 = .ok (.aload_n 0, 1) := by decide +kernel
theorem dX10_outer_4 : decode cX10_outer 4 = .ok (.iload_n 1, 1) := by decide +kernel
theorem dX10_outer_5 : decode cX10_outer 5 = .ok (.iload_n 2, 1) := by decide +kernel
theorem dX10_outer_6 : decode cX10_outer 6 = .ok (.iconst 1, 1) := by decide +kernel
theorem dX10_outer_7 : decode cX10_outer 7 = .ok (.iconst 1, 1) := by decide +kernel
theorem dX10_outer_8 : decode cX10_outer 8 = .ok (.invokevirtual 120, 3) := by decide +kernel
theorem dX10_outer_11 : decode cX10_outer 11 = .ok (.invokevirtual 147, 3) := by decide +kernel
theorem dX10_outer_14 : decode cX10_outer 14 = .ok (.imul, 1) := by decide +kernel
theorem dX10_outer_15 : decode cX10_outer 15 = .ok (.aload_n 0, 1) := by decide +kernel
theorem dX10_outer_16 : decode cX10_outer 16 = .ok (.aload_n 0, 1) := by decide +kernel
theorem dX10_outer_17 : decode cX10_outer 17 = .ok (.iload_n 1, 1) := by decide +kernel
theorem dX10_outer_18 : decode cX10_outer 18 = .ok (.iload_n 2, 1) := by decide +kernel
theorem dX10_outer_19 : decode cX10_outer 19 = .ok (.iconst 0, 1) := by decide +kernel
theorem dX10_outer_20 : decode cX10_outer 20 = .ok (.iconst 1, 1) := by decide +kernel
theorem dX10_outer_21 : decode cX10_outer 21 = .ok (.invokevirtual 120, 3) := by decide +kernel
theorem dX10_outer_24 : decode cX10_outer 24 = .ok (.invokevirtual 150, 3) := by decide +kernel
theorem dX10_outer_27 : decode cX10_outer 27 = .ok (.iadd, 1) := by decide +kernel
theorem dX10_outer_28 : decode cX10_outer 28 = .ok (.ireturn, 1) := by decide +kernel
theorem dX10_ending_0 : decode cX10_ending 0 = .ok (.aload_n 0, 1) := by decide +kernel
theorem dX10_ending_1 : decode cX10_ending 1 = .ok (.iload_n 1, 1) := by decide +kernel
theorem dX10_ending_2 : decode cX10_ending 2 = .ok (.iconst 4, 1) := by decide +kernel
theorem dX10_ending_3 : decode cX10_ending 3 = .ok (.invokevirtual 95, 3) := by decide +kernel
theorem dX10_ending_6 : decode cX10_ending 6 = .ok (.istore_n 3, 1) := by decide +kernel
theorem dX10_ending_7 : decode cX10_ending 7 = .ok (.iload_n 2, 1) := by decide +kernel
theorem dX10_ending_8 : decode cX10_ending 8 = .ok (.iload_n 3, 1) := by decide +kernel
theorem dX10_ending_9 : decode cX10_ending 9 = .ok (.if_icmp .ne 8, 3) := by decide +kernel
theorem dX10_ending_12 : decode cX10_ending 12 = .ok (.ldc 153, 2) := by decide +kernel
theorem dX10_ending_14 : decode cX10_ending 14 = .ok (.goto 22, 3) := by decide +kernel
theorem dX10_ending_17 : decode cX10_ending 17 = .ok (.iload_n 2, 1) := by decide +kernel
theorem dX10_ending_18 : decode cX10_ending 18 = .ok (.iload_n 3, 1) := by decide +kernel
theorem dX10_ending_19 : decode cX10_ending 19 = .ok (.iconst 2, 1) := by decide +kernel
theorem dX10_ending_20 : decode cX10_ending 20 = .ok (.iadd, 1) := by decide +kernel
theorem dX10_ending_21 : decode cX10_ending 21 = .ok (.iconst 4, 1) := by decide +kernel
theorem dX10_ending_22 : decode cX10_ending 22 = .ok (.irem, 1) := by decide +kernel
theorem dX10_ending_23 : decode cX10_ending 23 = .ok (.if_icmp .ne 7, 3) := by decide +kernel
theorem dX10_ending_26 : decode cX10_ending 26 = .ok (.iconst 0, 1) := by decide +kernel
theorem dX10_ending_27 : decode cX10_ending 27 = .ok (.goto 9, 3) := by decide +kernel
theorem dX10_ending_30 : decode cX10_ending 30 = .ok (.aload_n 0, 1) := by decide +kernel
theorem dX10_ending_31 : decode cX10_ending 31 = .ok (.getfield 7, 3) := by decide +kernel
theorem dX10_ending_34 : decode cX10_ending 34 = .ok (.iconst 2, 1) := by decide +kernel
theorem dX10_ending_35 : decode cX10_ending 35 = .ok (.iaload, 1) := by decide +kernel
theorem dX10_ending_36 : decode cX10_ending 36 = .ok (.ireturn, 1) := by decide +kernel
theorem dX10_goingOn_0 : decode cX10_goingOn 0 = .ok (.iload_n 3, 1) := by decide +kernel
theorem dX10_goingOn_1 : decode cX10_goingOn 1 = .ok (.iload_n 2, 1) := by decide +kernel
theorem dX10_goingOn_2 : decode cX10_goingOn 2 = .ok (.iconst 2, 1) := by decide +kernel
theorem dX10_goingOn_3 : decode cX10_goingOn 3 = .ok (.iadd, 1) := by decide +kernel
theorem dX10_goingOn_4 : decode cX10_goingOn 4 = .ok (.iconst 4, 1) := by decide +kernel
theorem dX10_goingOn_5 : decode cX10_goingOn 5 = .ok (.irem, 1) := by decide +kernel
theorem dX10_goingOn_6 : decode cX10_goingOn 6 = .ok (.if_icmp .ne 9, 3) := by decide +kernel
theorem dX10_goingOn_9 : decode cX10_goingOn 9 = .ok (.sipush (-1000), 3) := by decide +kernel
theorem dX10_goingOn_12 : decode cX10_goingOn 12 = .ok (.goto 9, 3) := by decide +kernel
theorem dX10_goingOn_15 : decode cX10_goingOn 15 = .ok (.aload_n 0, 1) := by decide +kernel
theorem dX10_goingOn_16 : decode cX10_goingOn 16 = .ok (.iload_n 1, 1) := by decide +kernel
theorem dX10_goingOn_17 : decode cX10_goingOn 17 = .ok (.iload_n 3, 1) := by decide +kernel
theorem dX10_goingOn_18 : decode cX10_goingOn 18 = .ok (.invokevirtual 154, 3) := by decide +kernel
theorem dX10_goingOn_21 : decode cX10_goingOn 21 = .ok (.istore 4, 2) := by decide +kernel
theorem dX10_goingOn_23 : decode cX10_goingOn 23 = .ok (.iload 4, 2) := by decide +kernel
theorem dX10_goingOn_25 : decode cX10_goingOn 25 = .ok (.sipush (-1000), 3) := by decide +kernel
theorem dX10_goingOn_28 : decode cX10_goingOn 28 = .ok (.if_icmp .eq 19, 3) := by decide +kernel
theorem dX10_goingOn_31 : decode cX10_goingOn 31 = .ok (.aload_n 0, 1) := by decide +kernel
theorem dX10_goingOn_32 : decode cX10_goingOn 32 = .ok (.getfield 29, 3) := by decide +kernel
theorem dX10_goingOn_35 : decode cX10_goingOn 35 = .ok (.iconst 4, 1) := by decide +kernel
theorem dX10_goingOn_36 : decode cX10_goingOn 36 = .ok (.iload 4, 2) := by decide +kernel
theorem dX10_goingOn_38 : decode cX10_goingOn 38 = .ok (.imul, 1) := by decide +kernel
theorem dX10_goingOn_39 : decode cX10_goingOn 39 = .ok (.iload_n 3, 1) := by decide +kernel
theorem dX10_goingOn_40 : decode cX10_goingOn 40 = .ok (.iadd, 1) := by decide +kernel
theorem dX10_goingOn_41 : decode cX10_goingOn 41 = .ok (.iaload, 1) := by decide +kernel
theorem dX10_goingOn_42 : decode cX10_goingOn 42 = .ok (.ldc 153, 2) := by decide +kernel
theorem dX10_goingOn_44 : decode cX10_goingOn 44 = .ok (.if_icmp .lt 6, 3) := by decide +kernel
theorem dX10_goingOn_47 : decode cX10_goingOn 47 = .ok (.ldc 153, 2) := by decide +kernel
theorem dX10_goingOn_49 : decode cX10_goingOn 49 = .ok (.ireturn, 1) := by decide +kernel
theorem dX10_goingOn_50 : decode cX10_goingOn 50 = .ok (.aload_n 0, 1) := by decide +kernel
theorem dX10_goingOn_51 : decode cX10_goingOn 51 = .ok (.iload_n 1, 1) := by decide +kernel
theorem dX10_goingOn_52 : decode cX10_goingOn 52 = .ok (.iload 4, 2) := by decide +kernel
theorem dX10_goingOn_54 : decode cX10_goingOn 54 = .ok (.invokevirtual 157, 3) := by decide +kernel
theorem dX10_goingOn_57 : decode cX10_goingOn 57 = .ok (.iload_n 3, 1) := by decide +kernel
theorem dX10_goingOn_58 : decode cX10_goingOn 58 = .ok (.iload_n 2, 1) := by decide +kernel
theorem dX10_goingOn_59 : decode cX10_goingOn 59 = .ok (.if_icmp .ne 7, 3) := by decide +kernel
theorem dX10_goingOn_62 : decode cX10_goingOn 62 = .ok (.iconst 0, 1) := by decide +kernel
theorem dX10_goingOn_63 : decode cX10_goingOn 63 = .ok (.goto 9, 3) := by decide +kernel
theorem dX10_goingOn_66 : decode cX10_goingOn 66 = .ok (.aload_n 0, 1) := by decide +kernel
theorem dX10_goingOn_67 : decode cX10_goingOn 67 = .ok (.getfield 7, 3) := by decide +kernel
theorem dX10_goingOn_70 : decode cX10_goingOn 70 = .ok (.iconst 2, 1) := by decide +kernel
theorem dX10_goingOn_71 : decode cX10_goingOn 71 = .ok (.iaload, 1) := by decide +kernel
theorem dX10_goingOn_72 : decode cX10_goingOn 72 = .ok (.iadd, 1) := by decide +kernel
theorem dX10_goingOn_73 : decode cX10_goingOn 73 = .ok (.aload_n 0, 1) := by decide +kernel
theorem dX10_goingOn_74 : decode cX10_goingOn 74 = .ok (.getfield 29, 3) := by decide +kernel
theorem dX10_goingOn_77 : decode cX10_goingOn 77 = .ok (.iconst 4, 1) := by decide +kernel
theorem dX10_goingOn_78 : decode cX10_goingOn 78 = .ok (.iload 4, 2) := by decide +kernel
theorem dX10_goingOn_80 : decode cX10_goingOn 80 = .ok (.imul, 1) := by decide +kernel
theorem dX10_goingOn_81 : decode cX10_goingOn 81 = .ok (.iload_n 3, 1) := by decide +kernel
theorem dX10_goingOn_82 : decode cX10_goingOn 82 = .ok (.iadd, 1) := by decide +kernel
theorem dX10_goingOn_83 : decode cX10_goingOn 83 = .ok (.iaload, 1) := by decide +kernel
theorem dX10_goingOn_84 : decode cX10_goingOn 84 = .ok (.iadd, 1) := by decide +kernel
theorem dX10_goingOn_85 : decode cX10_goingOn 85 = .ok (.ireturn, 1) := by decide +kernel
theorem dX10_findsCosts_0 : decode cX10_findsCosts 0 = .ok (.aload_n 0, 1) := by decide +kernel
theorem dX10_findsCosts_1 : decode cX10_findsCosts 1 = .ok (.iload_n 1, 1) := by decide +kernel
theorem dX10_findsCosts_2 : decode cX10_findsCosts 2 = .ok (.iconst 1, 1) := by decide +kernel
theorem dX10_findsCosts_3 : decode cX10_findsCosts 3 = .ok (.invokevirtual 160, 3) := by decide +kernel
theorem dX10_findsCosts_6 : decode cX10_findsCosts 6 = .ok (.istore_n 2, 1) := by decide +kernel
theorem dX10_findsCosts_7 : decode cX10_findsCosts 7 = .ok (.iconst 0, 1) := by decide +kernel
theorem dX10_findsCosts_8 : decode cX10_findsCosts 8 = .ok (.istore_n 3, 1) := by decide +kernel
theorem dX10_findsCosts_9 : decode cX10_findsCosts 9 = .ok (.iload_n 3, 1) := by decide +kernel
theorem dX10_findsCosts_10 : decode cX10_findsCosts 10 = .ok (.sipush 1600, 3) := by decide +kernel
theorem dX10_findsCosts_13 : decode cX10_findsCosts 13 = .ok (.if_icmp .ge 35, 3) := by decide +kernel
theorem dX10_findsCosts_16 : decode cX10_findsCosts 16 = .ok (.aload_n 0, 1) := by decide +kernel
theorem dX10_findsCosts_17 : decode cX10_findsCosts 17 = .ok (.getfield 29, 3) := by decide +kernel
theorem dX10_findsCosts_20 : decode cX10_findsCosts 20 = .ok (.iload_n 3, 1) := by decide +kernel
theorem dX10_findsCosts_21 : decode cX10_findsCosts 21 = .ok (.iload_n 3, 1) := by decide +kernel
theorem dX10_findsCosts_22 : decode cX10_findsCosts 22 = .ok (.iconst 4, 1) := by decide +kernel
theorem dX10_findsCosts_23 : decode cX10_findsCosts 23 = .ok (.idiv, 1) := by decide +kernel
theorem dX10_findsCosts_24 : decode cX10_findsCosts 24 = .ok (.iload_n 2, 1) := by decide +kernel
theorem dX10_findsCosts_25 : decode cX10_findsCosts 25 = .ok (.if_icmp .ne 14, 3) := by decide +kernel
theorem dX10_findsCosts_28 : decode cX10_findsCosts 28 = .ok (.aload_n 0, 1) := by decide +kernel
theorem dX10_findsCosts_29 : decode cX10_findsCosts 29 = .ok (.iload_n 1, 1) := by decide +kernel
theorem dX10_findsCosts_30 : decode cX10_findsCosts 30 = .ok (.iload_n 3, 1) := by decide +kernel
theorem dX10_findsCosts_31 : decode cX10_findsCosts 31 = .ok (.iconst 4, 1) := by decide +kernel
theorem dX10_findsCosts_32 : decode cX10_findsCosts 32 = .ok (.irem, 1) := by decide +kernel
theorem dX10_findsCosts_33 : decode cX10_findsCosts 33 = .ok (.invokevirtual 163, 3) := by decide +kernel
theorem dX10_findsCosts_36 : decode cX10_findsCosts 36 = .ok (.goto 5, 3) := by decide +kernel
theorem dX10_findsCosts_39 : decode cX10_findsCosts 39 = .ok (.ldc 153, 2) := by decide +kernel
theorem dX10_findsCosts_41 : decode cX10_findsCosts 41 = .ok (.iastore, 1) := by decide +kernel
theorem dX10_findsCosts_42 : decode cX10_findsCosts 42 = .ok (.iinc 3 1, 3) := by decide +kernel
theorem dX10_findsCosts_45 : decode cX10_findsCosts 45 = .ok (.goto (-36), 3) := by decide +kernel
theorem dX10_findsCosts_48 : decode cX10_findsCosts 48 = .ok (.iconst 1, 1) := by decide +kernel
theorem dX10_findsCosts_49 : decode cX10_findsCosts 49 = .ok (.istore_n 3, 1) := by decide +kernel
theorem dX10_findsCosts_50 : decode cX10_findsCosts 50 = .ok (.iload_n 3, 1) := by decide +kernel
theorem dX10_findsCosts_51 : decode cX10_findsCosts 51 = .ok (.ifCond .eq 133, 3) := by decide +kernel
theorem dX10_findsCosts_54 : decode cX10_findsCosts 54 = .ok (.iconst 0, 1) := by decide +kernel
theorem dX10_findsCosts_55 : decode cX10_findsCosts 55 = .ok (.istore_n 3, 1) := by decide +kernel
theorem dX10_findsCosts_56 : decode cX10_findsCosts 56 = .ok (.iconst 0, 1) := by decide +kernel
theorem dX10_findsCosts_57 : decode cX10_findsCosts 57 = .ok (.istore 4, 2) := by decide +kernel
theorem dX10_findsCosts_59 : decode cX10_findsCosts 59 = .ok (.iload 4, 2) := by decide +kernel
theorem dX10_findsCosts_61 : decode cX10_findsCosts 61 = .ok (.aload_n 0, 1) := by decide +kernel
theorem dX10_findsCosts_62 : decode cX10_findsCosts 62 = .ok (.getfield 134, 3) := by decide +kernel
theorem dX10_findsCosts_65 : decode cX10_findsCosts 65 = .ok (.if_icmp .ge 116, 3) := by decide +kernel
theorem dX10_findsCosts_68 : decode cX10_findsCosts 68 = .ok (.iconst 0, 1) := by decide +kernel
theorem dX10_findsCosts_69 : decode cX10_findsCosts 69 = .ok (.istore 5, 2) := by decide +kernel
theorem dX10_findsCosts_71 : decode cX10_findsCosts 71 = .ok (.iload 5, 2) := by decide +kernel
theorem dX10_findsCosts_73 : decode cX10_findsCosts 73 = .ok (.aload_n 0, 1) := by decide +kernel
theorem dX10_findsCosts_74 : decode cX10_findsCosts 74 = .ok (.getfield 137, 3) := by decide +kernel
theorem dX10_findsCosts_77 : decode cX10_findsCosts 77 = .ok (.if_icmp .ge 98, 3) := by decide +kernel
theorem dX10_findsCosts_80 : decode cX10_findsCosts 80 = .ok (.bipush 20, 2) := by decide +kernel
theorem dX10_findsCosts_82 : decode cX10_findsCosts 82 = .ok (.iload 4, 2) := by decide +kernel
theorem dX10_findsCosts_84 : decode cX10_findsCosts 84 = .ok (.imul, 1) := by decide +kernel
theorem dX10_findsCosts_85 : decode cX10_findsCosts 85 = .ok (.iload 5, 2) := by decide +kernel
theorem dX10_findsCosts_87 : decode cX10_findsCosts 87 = .ok (.iadd, 1) := by decide +kernel
theorem dX10_findsCosts_88 : decode cX10_findsCosts 88 = .ok (.istore 6, 2) := by decide +kernel
theorem dX10_findsCosts_90 : decode cX10_findsCosts 90 = .ok (.iconst 0, 1) := by decide +kernel
theorem dX10_findsCosts_91 : decode cX10_findsCosts 91 = .ok (.istore 7, 2) := by decide +kernel
theorem dX10_findsCosts_93 : decode cX10_findsCosts 93 = .ok (.iload 7, 2) := by decide +kernel
theorem dX10_findsCosts_95 : decode cX10_findsCosts 95 = .ok (.bipush 16, 2) := by decide +kernel
theorem dX10_findsCosts_97 : decode cX10_findsCosts 97 = .ok (.if_icmp .ge 72, 3) := by decide +kernel
theorem dX10_findsCosts_100 : decode cX10_findsCosts 100 = .ok (.aload_n 0, 1) := by decide +kernel
theorem dX10_findsCosts_101 : decode cX10_findsCosts 101 = .ok (.getfield 19, 3) := by decide +kernel
theorem dX10_findsCosts_104 : decode cX10_findsCosts 104 = .ok (.iload 6, 2) := by decide +kernel
theorem dX10_findsCosts_106 : decode cX10_findsCosts 106 = .ok (.baload, 1) := by decide +kernel
theorem dX10_findsCosts_107 : decode cX10_findsCosts 107 = .ok (.ifCond .eq 62, 3) := by decide +kernel
theorem dX10_findsCosts_110 : decode cX10_findsCosts 110 = .ok (.aload_n 0, 1) := by decide +kernel
theorem dX10_findsCosts_111 : decode cX10_findsCosts 111 = .ok (.iload 6, 2) := by decide +kernel
theorem dX10_findsCosts_113 : decode cX10_findsCosts 113 = .ok (.iload 7, 2) := by decide +kernel
theorem dX10_findsCosts_115 : decode cX10_findsCosts 115 = .ok (.iconst 4, 1) := by decide +kernel
theorem dX10_findsCosts_116 : decode cX10_findsCosts 116 = .ok (.idiv, 1) := by decide +kernel
theorem dX10_findsCosts_117 : decode cX10_findsCosts 117 = .ok (.iload 7, 2) := by decide +kernel
theorem dX10_findsCosts_119 : decode cX10_findsCosts 119 = .ok (.iconst 4, 1) := by decide +kernel
theorem dX10_findsCosts_120 : decode cX10_findsCosts 120 = .ok (.irem, 1) := by decide +kernel
theorem dX10_findsCosts_121 : decode cX10_findsCosts 121 = .ok (.invokevirtual 166, 3) := by decide +kernel
theorem dX10_findsCosts_124 : decode cX10_findsCosts 124 = .ok (.istore 8, 2) := by decide +kernel
theorem dX10_findsCosts_126 : decode cX10_findsCosts 126 = .ok (.iload 8, 2) := by decide +kernel
theorem dX10_findsCosts_128 : decode cX10_findsCosts 128 = .ok (.aload_n 0, 1) := by decide +kernel
theorem dX10_findsCosts_129 : decode cX10_findsCosts 129 = .ok (.getfield 29, 3) := by decide +kernel
theorem dX10_findsCosts_132 : decode cX10_findsCosts 132 = .ok (.iconst 4, 1) := by decide +kernel
theorem dX10_findsCosts_133 : decode cX10_findsCosts 133 = .ok (.iload 6, 2) := by decide +kernel
theorem dX10_findsCosts_135 : decode cX10_findsCosts 135 = .ok (.imul, 1) := by decide +kernel
theorem dX10_findsCosts_136 : decode cX10_findsCosts 136 = .ok (.iload 7, 2) := by decide +kernel
theorem dX10_findsCosts_138 : decode cX10_findsCosts 138 = .ok (.iconst 4, 1) := by decide +kernel
theorem dX10_findsCosts_139 : decode cX10_findsCosts 139 = .ok (.idiv, 1) := by decide +kernel
theorem dX10_findsCosts_140 : decode cX10_findsCosts 140 = .ok (.iadd, 1) := by decide +kernel
theorem dX10_findsCosts_141 : decode cX10_findsCosts 141 = .ok (.iaload, 1) := by decide +kernel
theorem dX10_findsCosts_142 : decode cX10_findsCosts 142 = .ok (.if_icmp .ge 21, 3) := by decide +kernel
theorem dX10_findsCosts_145 : decode cX10_findsCosts 145 = .ok (.aload_n 0, 1) := by decide +kernel
theorem dX10_findsCosts_146 : decode cX10_findsCosts 146 = .ok (.getfield 29, 3) := by decide +kernel
theorem dX10_findsCosts_149 : decode cX10_findsCosts 149 = .ok (.iconst 4, 1) := by decide +kernel
theorem dX10_findsCosts_150 : decode cX10_findsCosts 150 = .ok (.iload 6, 2) := by decide +kernel
theorem dX10_findsCosts_152 : decode cX10_findsCosts 152 = .ok (.imul, 1) := by decide +kernel
theorem dX10_findsCosts_153 : decode cX10_findsCosts 153 = .ok (.iload 7, 2) := by decide +kernel
theorem dX10_findsCosts_155 : decode cX10_findsCosts 155 = .ok (.iconst 4, 1) := by decide +kernel
theorem dX10_findsCosts_156 : decode cX10_findsCosts 156 = .ok (.idiv, 1) := by decide +kernel
theorem dX10_findsCosts_157 : decode cX10_findsCosts 157 = .ok (.iadd, 1) := by decide +kernel
theorem dX10_findsCosts_158 : decode cX10_findsCosts 158 = .ok (.iload 8, 2) := by decide +kernel
theorem dX10_findsCosts_160 : decode cX10_findsCosts 160 = .ok (.iastore, 1) := by decide +kernel
theorem dX10_findsCosts_161 : decode cX10_findsCosts 161 = .ok (.iconst 1, 1) := by decide +kernel
theorem dX10_findsCosts_162 : decode cX10_findsCosts 162 = .ok (.istore_n 3, 1) := by decide +kernel
theorem dX10_findsCosts_163 : decode cX10_findsCosts 163 = .ok (.iinc 7 1, 3) := by decide +kernel
theorem dX10_findsCosts_166 : decode cX10_findsCosts 166 = .ok (.goto (-73), 3) := by decide +kernel
theorem dX10_findsCosts_169 : decode cX10_findsCosts 169 = .ok (.iinc 5 1, 3) := by decide +kernel
theorem dX10_findsCosts_172 : decode cX10_findsCosts 172 = .ok (.goto (-101), 3) := by decide +kernel
theorem dX10_findsCosts_175 : decode cX10_findsCosts 175 = .ok (.iinc 4 1, 3) := by decide +kernel
theorem dX10_findsCosts_178 : decode cX10_findsCosts 178 = .ok (.goto (-119), 3) := by decide +kernel
theorem dX10_findsCosts_181 : decode cX10_findsCosts 181 = .ok (.goto (-131), 3) := by decide +kernel
theorem dX10_findsCosts_184 : decode cX10_findsCosts 184 = .ok (.return_, 1) := by decide +kernel
theorem dX10_bestOf_0 : decode cX10_bestOf 0 = .ok (.aload_n 0, 1) := by decide +kernel
theorem dX10_bestOf_1 : decode cX10_bestOf 1 = .ok (.iload_n 1, 1) := by decide +kernel
theorem dX10_bestOf_2 : decode cX10_bestOf 2 = .ok (.invokevirtual 170, 3) := by decide +kernel
theorem dX10_bestOf_5 : decode cX10_bestOf 5 = .ok (.aload_n 0, 1) := by decide +kernel
theorem dX10_bestOf_6 : decode cX10_bestOf 6 = .ok (.iload_n 1, 1) := by decide +kernel
theorem dX10_bestOf_7 : decode cX10_bestOf 7 = .ok (.invokevirtual 173, 3) := by decide +kernel
theorem dX10_bestOf_10 : decode cX10_bestOf 10 = .ok (.aload_n 0, 1) := by decide +kernel
theorem dX10_bestOf_11 : decode cX10_bestOf 11 = .ok (.getfield 29, 3) := by decide +kernel
theorem dX10_bestOf_14 : decode cX10_bestOf 14 = .ok (.iconst 4, 1) := by decide +kernel
theorem dX10_bestOf_15 : decode cX10_bestOf 15 = .ok (.aload_n 0, 1) := by decide +kernel
theorem dX10_bestOf_16 : decode cX10_bestOf 16 = .ok (.iload_n 1, 1) := by decide +kernel
theorem dX10_bestOf_17 : decode cX10_bestOf 17 = .ok (.iconst 0, 1) := by decide +kernel
theorem dX10_bestOf_18 : decode cX10_bestOf 18 = .ok (.invokevirtual 160, 3) := by decide +kernel
theorem dX10_bestOf_21 : decode cX10_bestOf 21 = .ok (.imul, 1) := by decide +kernel
theorem dX10_bestOf_22 : decode cX10_bestOf 22 = .ok (.aload_n 0, 1) := by decide +kernel
theorem dX10_bestOf_23 : decode cX10_bestOf 23 = .ok (.iload_n 1, 1) := by decide +kernel
theorem dX10_bestOf_24 : decode cX10_bestOf 24 = .ok (.iconst 1, 1) := by decide +kernel
theorem dX10_bestOf_25 : decode cX10_bestOf 25 = .ok (.invokevirtual 95, 3) := by decide +kernel
theorem dX10_bestOf_28 : decode cX10_bestOf 28 = .ok (.iadd, 1) := by decide +kernel
theorem dX10_bestOf_29 : decode cX10_bestOf 29 = .ok (.iaload, 1) := by decide +kernel
theorem dX10_bestOf_30 : decode cX10_bestOf 30 = .ok (.istore_n 2, 1) := by decide +kernel
theorem dX10_bestOf_31 : decode cX10_bestOf 31 = .ok (.iload_n 2, 1) := by decide +kernel
theorem dX10_bestOf_32 : decode cX10_bestOf 32 = .ok (.ldc 153, 2) := by decide +kernel
theorem dX10_bestOf_34 : decode cX10_bestOf 34 = .ok (.if_icmp .lt 9, 3) := by decide +kernel
theorem dX10_bestOf_37 : decode cX10_bestOf 37 = .ok (.sipush (-1000), 3) := by decide +kernel
theorem dX10_bestOf_40 : decode cX10_bestOf 40 = .ok (.goto 6, 3) := by decide +kernel
theorem dX10_bestOf_43 : decode cX10_bestOf 43 = .ok (.iload_n 2, 1) := by decide +kernel
theorem dX10_bestOf_44 : decode cX10_bestOf 44 = .ok (.iconst 2, 1) := by decide +kernel
theorem dX10_bestOf_45 : decode cX10_bestOf 45 = .ok (.iadd, 1) := by decide +kernel
theorem dX10_bestOf_46 : decode cX10_bestOf 46 = .ok (.ireturn, 1) := by decide +kernel
theorem dX10_point_0 : decode cX10_point 0 = .ok (.aload_n 0, 1) := by decide +kernel
theorem dX10_point_1 : decode cX10_point 1 = .ok (.getfield 32, 3) := by decide +kernel
theorem dX10_point_4 : decode cX10_point 4 = .ok (.aload_n 0, 1) := by decide +kernel
theorem dX10_point_5 : decode cX10_point 5 = .ok (.getfield 176, 3) := by decide +kernel
theorem dX10_point_8 : decode cX10_point 8 = .ok (.iload_n 1, 1) := by decide +kernel
theorem dX10_point_9 : decode cX10_point 9 = .ok (.iastore, 1) := by decide +kernel
theorem dX10_point_10 : decode cX10_point 10 = .ok (.aload_n 0, 1) := by decide +kernel
theorem dX10_point_11 : decode cX10_point 11 = .ok (.getfield 35, 3) := by decide +kernel
theorem dX10_point_14 : decode cX10_point 14 = .ok (.aload_n 0, 1) := by decide +kernel
theorem dX10_point_15 : decode cX10_point 15 = .ok (.getfield 176, 3) := by decide +kernel
theorem dX10_point_18 : decode cX10_point 18 = .ok (.iload_n 2, 1) := by decide +kernel
theorem dX10_point_19 : decode cX10_point 19 = .ok (.iastore, 1) := by decide +kernel
theorem dX10_point_20 : decode cX10_point 20 = .ok (.aload_n 0, 1) := by decide +kernel
theorem dX10_point_21 : decode cX10_point 21 = .ok (.dup, 1) := by decide +kernel
theorem dX10_point_22 : decode cX10_point 22 = .ok (.getfield 176, 3) := by decide +kernel
theorem dX10_point_25 : decode cX10_point 25 = .ok (.iconst 1, 1) := by decide +kernel
theorem dX10_point_26 : decode cX10_point 26 = .ok (.iadd, 1) := by decide +kernel
theorem dX10_point_27 : decode cX10_point 27 = .ok (.putfield 176, 3) := by decide +kernel
theorem dX10_point_30 : decode cX10_point 30 = .ok (.return_, 1) := by decide +kernel
theorem dX10_finds_0 : decode cX10_finds 0 = .ok (.aload_n 0, 1) := by decide +kernel
theorem dX10_finds_1 : decode cX10_finds 1 = .ok (.iload_n 1, 1) := by decide +kernel
theorem dX10_finds_2 : decode cX10_finds 2 = .ok (.invokevirtual 179, 3) := by decide +kernel
theorem dX10_finds_5 : decode cX10_finds 5 = .ok (.istore_n 2, 1) := by decide +kernel
theorem dX10_finds_6 : decode cX10_finds 6 = .ok (.iload_n 2, 1) := by decide +kernel
theorem dX10_finds_7 : decode cX10_finds 7 = .ok (.sipush (-1000), 3) := by decide +kernel
theorem dX10_finds_10 : decode cX10_finds 10 = .ok (.if_icmp .ne 7, 3) := by decide +kernel
theorem dX10_finds_13 : decode cX10_finds 13 = .ok (.sipush (-1000), 3) := by decide +kernel
theorem dX10_finds_16 : decode cX10_finds 16 = .ok (.ireturn, 1) := by decide +kernel
theorem dX10_finds_17 : decode cX10_finds 17 = .ok (.aload_n 0, 1) := by decide +kernel
theorem dX10_finds_18 : decode cX10_finds 18 = .ok (.iload_n 1, 1) := by decide +kernel
theorem dX10_finds_19 : decode cX10_finds 19 = .ok (.iconst 0, 1) := by decide +kernel
theorem dX10_finds_20 : decode cX10_finds 20 = .ok (.invokevirtual 160, 3) := by decide +kernel
theorem dX10_finds_23 : decode cX10_finds 23 = .ok (.istore_n 3, 1) := by decide +kernel
theorem dX10_finds_24 : decode cX10_finds 24 = .ok (.aload_n 0, 1) := by decide +kernel
theorem dX10_finds_25 : decode cX10_finds 25 = .ok (.iload_n 1, 1) := by decide +kernel
theorem dX10_finds_26 : decode cX10_finds 26 = .ok (.iconst 1, 1) := by decide +kernel
theorem dX10_finds_27 : decode cX10_finds 27 = .ok (.invokevirtual 160, 3) := by decide +kernel
theorem dX10_finds_30 : decode cX10_finds 30 = .ok (.istore 4, 2) := by decide +kernel
theorem dX10_finds_32 : decode cX10_finds 32 = .ok (.aload_n 0, 1) := by decide +kernel
theorem dX10_finds_33 : decode cX10_finds 33 = .ok (.iload_n 1, 1) := by decide +kernel
theorem dX10_finds_34 : decode cX10_finds 34 = .ok (.iconst 1, 1) := by decide +kernel
theorem dX10_finds_35 : decode cX10_finds 35 = .ok (.invokevirtual 95, 3) := by decide +kernel
theorem dX10_finds_38 : decode cX10_finds 38 = .ok (.istore 5, 2) := by decide +kernel
theorem dX10_finds_40 : decode cX10_finds 40 = .ok (.aload_n 0, 1) := by decide +kernel
theorem dX10_finds_41 : decode cX10_finds 41 = .ok (.iconst 0, 1) := by decide +kernel
theorem dX10_finds_42 : decode cX10_finds 42 = .ok (.putfield 176, 3) := by decide +kernel
theorem dX10_finds_45 : decode cX10_finds 45 = .ok (.aload_n 0, 1) := by decide +kernel
theorem dX10_finds_46 : decode cX10_finds 46 = .ok (.aload_n 0, 1) := by decide +kernel
theorem dX10_finds_47 : decode cX10_finds 47 = .ok (.iload_n 1, 1) := by decide +kernel
theorem dX10_finds_48 : decode cX10_finds 48 = .ok (.iconst 0, 1) := by decide +kernel
theorem dX10_finds_49 : decode cX10_finds 49 = .ok (.iconst 1, 1) := by decide +kernel
theorem dX10_finds_50 : decode cX10_finds 50 = .ok (.iconst 0, 1) := by decide +kernel
theorem dX10_finds_51 : decode cX10_finds 51 = .ok (.invokevirtual 120, 3) := by decide +kernel
theorem dX10_finds_54 : decode cX10_finds 54 = .ok (.aload_n 0, 1) := by decide +kernel
theorem dX10_finds_55 : decode cX10_finds 55 = .ok (.iload_n 1, 1) := by decide +kernel
theorem dX10_finds_56 : decode cX10_finds 56 = .ok (.iconst 0, 1) := by decide +kernel
theorem dX10_finds_57 : decode cX10_finds 57 = .ok (.iconst 0, 1) := by decide +kernel
theorem dX10_finds_58 : decode cX10_finds 58 = .ok (.iconst 0, 1) := by decide +kernel
theorem dX10_finds_59 : decode cX10_finds 59 = .ok (.invokevirtual 120, 3) := by decide +kernel
theorem dX10_finds_62 : decode cX10_finds 62 = .ok (.invokevirtual 182, 3) := by decide +kernel
theorem dX10_finds_65 : decode cX10_finds 65 = .ok (.iconst 1, 1) := by decide +kernel
theorem dX10_finds_66 : decode cX10_finds 66 = .ok (.istore 6, 2) := by decide +kernel
theorem dX10_finds_68 : decode cX10_finds 68 = .ok (.iload 6, 2) := by decide +kernel
theorem dX10_finds_70 : decode cX10_finds 70 = .ok (.ifCond .eq 144, 3) := by decide +kernel
theorem dX10_finds_73 : decode cX10_finds 73 = .ok (.aload_n 0, 1) := by decide +kernel
theorem dX10_finds_74 : decode cX10_finds 74 = .ok (.getfield 29, 3) := by decide +kernel
theorem dX10_finds_77 : decode cX10_finds 77 = .ok (.iconst 4, 1) := by decide +kernel
theorem dX10_finds_78 : decode cX10_finds 78 = .ok (.iload_n 3, 1) := by decide +kernel
theorem dX10_finds_79 : decode cX10_finds 79 = .ok (.imul, 1) := by decide +kernel
theorem dX10_finds_80 : decode cX10_finds 80 = .ok (.iload 5, 2) := by decide +kernel
theorem dX10_finds_82 : decode cX10_finds 82 = .ok (.iadd, 1) := by decide +kernel
theorem dX10_finds_83 : decode cX10_finds 83 = .ok (.iaload, 1) := by decide +kernel
theorem dX10_finds_84 : decode cX10_finds 84 = .ok (.istore 7, 2) := by decide +kernel
theorem dX10_finds_86 : decode cX10_finds 86 = .ok (.iload_n 3, 1) := by decide +kernel
theorem dX10_finds_87 : decode cX10_finds 87 = .ok (.iload 4, 2) := by decide +kernel
theorem dX10_finds_89 : decode cX10_finds 89 = .ok (.if_icmp .ne 15, 3) := by decide +kernel
theorem dX10_finds_92 : decode cX10_finds 92 = .ok (.aload_n 0, 1) := by decide +kernel
theorem dX10_finds_93 : decode cX10_finds 93 = .ok (.iload_n 1, 1) := by decide +kernel
theorem dX10_finds_94 : decode cX10_finds 94 = .ok (.iload 5, 2) := by decide +kernel
theorem dX10_finds_96 : decode cX10_finds 96 = .ok (.invokevirtual 163, 3) := by decide +kernel
theorem dX10_finds_99 : decode cX10_finds 99 = .ok (.iload 7, 2) := by decide +kernel
theorem dX10_finds_101 : decode cX10_finds 101 = .ok (.if_icmp .eq 7, 3) := by decide +kernel
theorem dX10_finds_104 : decode cX10_finds 104 = .ok (.iconst 1, 1) := by decide +kernel
theorem dX10_finds_105 : decode cX10_finds 105 = .ok (.goto 4, 3) := by decide +kernel
theorem dX10_finds_108 : decode cX10_finds 108 = .ok (.iconst 0, 1) := by decide +kernel
theorem dX10_finds_109 : decode cX10_finds 109 = .ok (.istore 6, 2) := by decide +kernel
theorem dX10_finds_111 : decode cX10_finds 111 = .ok (.iconst 0, 1) := by decide +kernel
theorem dX10_finds_112 : decode cX10_finds 112 = .ok (.istore 8, 2) := by decide +kernel
theorem dX10_finds_114 : decode cX10_finds 114 = .ok (.iload 6, 2) := by decide +kernel
theorem dX10_finds_116 : decode cX10_finds 116 = .ok (.ifCond .eq 23, 3) := by decide +kernel
theorem dX10_finds_119 : decode cX10_finds 119 = .ok (.aload_n 0, 1) := by decide +kernel
theorem dX10_finds_120 : decode cX10_finds 120 = .ok (.iload_n 3, 1) := by decide +kernel
theorem dX10_finds_121 : decode cX10_finds 121 = .ok (.iload 5, 2) := by decide +kernel
theorem dX10_finds_123 : decode cX10_finds 123 = .ok (.iload 8, 2) := by decide +kernel
theorem dX10_finds_125 : decode cX10_finds 125 = .ok (.invokevirtual 166, 3) := by decide +kernel
theorem dX10_finds_128 : decode cX10_finds 128 = .ok (.iload 7, 2) := by decide +kernel
theorem dX10_finds_130 : decode cX10_finds 130 = .ok (.if_icmp .eq 9, 3) := by decide +kernel
theorem dX10_finds_133 : decode cX10_finds 133 = .ok (.iinc 8 1, 3) := by decide +kernel
theorem dX10_finds_136 : decode cX10_finds 136 = .ok (.goto (-22), 3) := by decide +kernel
theorem dX10_finds_139 : decode cX10_finds 139 = .ok (.iload 6, 2) := by decide +kernel
theorem dX10_finds_141 : decode cX10_finds 141 = .ok (.ifCond .eq 8, 3) := by decide +kernel
theorem dX10_finds_144 : decode cX10_finds 144 = .ok (.iload 8, 2) := by decide +kernel
theorem dX10_finds_146 : decode cX10_finds 146 = .ok (.goto 13, 3) := by decide +kernel
theorem dX10_finds_149 : decode cX10_finds 149 = .ok (.aload_n 0, 1) := by decide +kernel
theorem dX10_finds_150 : decode cX10_finds 150 = .ok (.iload_n 1, 1) := by decide +kernel
theorem dX10_finds_151 : decode cX10_finds 151 = .ok (.iconst 4, 1) := by decide +kernel
theorem dX10_finds_152 : decode cX10_finds 152 = .ok (.invokevirtual 95, 3) := by decide +kernel
theorem dX10_finds_155 : decode cX10_finds 155 = .ok (.iconst 2, 1) := by decide +kernel
theorem dX10_finds_156 : decode cX10_finds 156 = .ok (.iadd, 1) := by decide +kernel
theorem dX10_finds_157 : decode cX10_finds 157 = .ok (.iconst 4, 1) := by decide +kernel
theorem dX10_finds_158 : decode cX10_finds 158 = .ok (.irem, 1) := by decide +kernel
theorem dX10_finds_159 : decode cX10_finds 159 = .ok (.istore 9, 2) := by decide +kernel
theorem dX10_finds_161 : decode cX10_finds 161 = .ok (.iload 9, 2) := by decide +kernel
theorem dX10_finds_163 : decode cX10_finds 163 = .ok (.iload 5, 2) := by decide +kernel
theorem dX10_finds_165 : decode cX10_finds 165 = .ok (.if_icmp .eq 25, 3) := by decide +kernel
theorem dX10_finds_168 : decode cX10_finds 168 = .ok (.aload_n 0, 1) := by decide +kernel
theorem dX10_finds_169 : decode cX10_finds 169 = .ok (.aload_n 0, 1) := by decide +kernel
theorem dX10_finds_170 : decode cX10_finds 170 = .ok (.getfield 13, 3) := by decide +kernel
theorem dX10_finds_173 : decode cX10_finds 173 = .ok (.iload_n 3, 1) := by decide +kernel
theorem dX10_finds_174 : decode cX10_finds 174 = .ok (.bipush 20, 2) := by decide +kernel
theorem dX10_finds_176 : decode cX10_finds 176 = .ok (.idiv, 1) := by decide +kernel
theorem dX10_finds_177 : decode cX10_finds 177 = .ok (.iaload, 1) := by decide +kernel
theorem dX10_finds_178 : decode cX10_finds 178 = .ok (.aload_n 0, 1) := by decide +kernel
theorem dX10_finds_179 : decode cX10_finds 179 = .ok (.getfield 16, 3) := by decide +kernel
theorem dX10_finds_182 : decode cX10_finds 182 = .ok (.iload_n 3, 1) := by decide +kernel
theorem dX10_finds_183 : decode cX10_finds 183 = .ok (.bipush 20, 2) := by decide +kernel
theorem dX10_finds_185 : decode cX10_finds 185 = .ok (.irem, 1) := by decide +kernel
theorem dX10_finds_186 : decode cX10_finds 186 = .ok (.iaload, 1) := by decide +kernel
theorem dX10_finds_187 : decode cX10_finds 187 = .ok (.invokevirtual 182, 3) := by decide +kernel
theorem dX10_finds_190 : decode cX10_finds 190 = .ok (.iload 6, 2) := by decide +kernel
theorem dX10_finds_192 : decode cX10_finds 192 = .ok (.ifCond .eq 13, 3) := by decide +kernel
theorem dX10_finds_195 : decode cX10_finds 195 = .ok (.aload_n 0, 1) := by decide +kernel
theorem dX10_finds_196 : decode cX10_finds 196 = .ok (.iload_n 3, 1) := by decide +kernel
theorem dX10_finds_197 : decode cX10_finds 197 = .ok (.iload 8, 2) := by decide +kernel
theorem dX10_finds_199 : decode cX10_finds 199 = .ok (.invokevirtual 154, 3) := by decide +kernel
theorem dX10_finds_202 : decode cX10_finds 202 = .ok (.goto 4, 3) := by decide +kernel
theorem dX10_finds_205 : decode cX10_finds 205 = .ok (.iload_n 3, 1) := by decide +kernel
theorem dX10_finds_206 : decode cX10_finds 206 = .ok (.istore_n 3, 1) := by decide +kernel
theorem dX10_finds_207 : decode cX10_finds 207 = .ok (.iload 9, 2) := by decide +kernel
theorem dX10_finds_209 : decode cX10_finds 209 = .ok (.istore 5, 2) := by decide +kernel
theorem dX10_finds_211 : decode cX10_finds 211 = .ok (.goto (-143), 3) := by decide +kernel
theorem dX10_finds_214 : decode cX10_finds 214 = .ok (.aload_n 0, 1) := by decide +kernel
theorem dX10_finds_215 : decode cX10_finds 215 = .ok (.aload_n 0, 1) := by decide +kernel
theorem dX10_finds_216 : decode cX10_finds 216 = .ok (.iload_n 1, 1) := by decide +kernel
theorem dX10_finds_217 : decode cX10_finds 217 = .ok (.iconst 1, 1) := by decide +kernel
theorem dX10_finds_218 : decode cX10_finds 218 = .ok (.iconst 1, 1) := by decide +kernel
theorem dX10_finds_219 : decode cX10_finds 219 = .ok (.iconst 0, 1) := by decide +kernel
theorem dX10_finds_220 : decode cX10_finds 220 = .ok (.invokevirtual 120, 3) := by decide +kernel
theorem dX10_finds_223 : decode cX10_finds 223 = .ok (.aload_n 0, 1) := by decide +kernel
theorem dX10_finds_224 : decode cX10_finds 224 = .ok (.iload_n 1, 1) := by decide +kernel
theorem dX10_finds_225 : decode cX10_finds 225 = .ok (.iconst 1, 1) := by decide +kernel
theorem dX10_finds_226 : decode cX10_finds 226 = .ok (.iconst 0, 1) := by decide +kernel
theorem dX10_finds_227 : decode cX10_finds 227 = .ok (.iconst 0, 1) := by decide +kernel
theorem dX10_finds_228 : decode cX10_finds 228 = .ok (.invokevirtual 120, 3) := by decide +kernel
theorem dX10_finds_231 : decode cX10_finds 231 = .ok (.invokevirtual 182, 3) := by decide +kernel
theorem dX10_finds_234 : decode cX10_finds 234 = .ok (.iload_n 2, 1) := by decide +kernel
theorem dX10_finds_235 : decode cX10_finds 235 = .ok (.ireturn, 1) := by decide +kernel
theorem dX10_takes_0 : decode cX10_takes 0 = .ok (.aload_n 0, 1) := by decide +kernel
theorem dX10_takes_1 : decode cX10_takes 1 = .ok (.iload_n 1, 1) := by decide +kernel
theorem dX10_takes_2 : decode cX10_takes 2 = .ok (.invokevirtual 114, 3) := by decide +kernel
theorem dX10_takes_5 : decode cX10_takes 5 = .ok (.ifCond .eq 17, 3) := by decide +kernel
theorem dX10_takes_8 : decode cX10_takes 8 = .ok (.aload_n 0, 1) := by decide +kernel
theorem dX10_takes_9 : decode cX10_takes 9 = .ok (.iload_n 1, 1) := by decide +kernel
theorem dX10_takes_10 : decode cX10_takes 10 = .ok (.bipush 8, 2) := by decide +kernel
theorem dX10_takes_12 : decode cX10_takes 12 = .ok (.invokevirtual 95, 3) := by decide +kernel
theorem dX10_takes_15 : decode cX10_takes 15 = .ok (.aload_n 0, 1) := by decide +kernel
theorem dX10_takes_16 : decode cX10_takes 16 = .ok (.getfield 176, 3) := by decide +kernel
theorem dX10_takes_19 : decode cX10_takes 19 = .ok (.if_icmp .eq 7, 3) := by decide +kernel
theorem dX10_takes_22 : decode cX10_takes 22 = .ok (.iconst 1, 1) := by decide +kernel
theorem dX10_takes_23 : decode cX10_takes 23 = .ok (.goto 4, 3) := by decide +kernel
theorem dX10_takes_26 : decode cX10_takes 26 = .ok (.iconst 0, 1) := by decide +kernel
theorem dX10_takes_27 : decode cX10_takes 27 = .ok (.istore_n 3, 1) := by decide +kernel
theorem dX10_takes_28 : decode cX10_takes 28 = .ok (.iconst 0, 1) := by decide +kernel
theorem dX10_takes_29 : decode cX10_takes 29 = .ok (.istore 4, 2) := by decide +kernel
theorem dX10_takes_31 : decode cX10_takes 31 = .ok (.iload 4, 2) := by decide +kernel
theorem dX10_takes_33 : decode cX10_takes 33 = .ok (.aload_n 0, 1) := by decide +kernel
theorem dX10_takes_34 : decode cX10_takes 34 = .ok (.getfield 176, 3) := by decide +kernel
theorem dX10_takes_37 : decode cX10_takes 37 = .ok (.if_icmp .ge 91, 3) := by decide +kernel
theorem dX10_takes_40 : decode cX10_takes 40 = .ok (.iload_n 3, 1) := by decide +kernel
theorem dX10_takes_41 : decode cX10_takes 41 = .ok (.ifCond .ne 37, 3) := by decide +kernel
theorem dX10_takes_44 : decode cX10_takes 44 = .ok (.aload_n 0, 1) := by decide +kernel
theorem dX10_takes_45 : decode cX10_takes 45 = .ok (.iload_n 1, 1) := by decide +kernel
theorem dX10_takes_46 : decode cX10_takes 46 = .ok (.iload 4, 2) := by decide +kernel
theorem dX10_takes_48 : decode cX10_takes 48 = .ok (.invokevirtual 117, 3) := by decide +kernel
theorem dX10_takes_51 : decode cX10_takes 51 = .ok (.aload_n 0, 1) := by decide +kernel
theorem dX10_takes_52 : decode cX10_takes 52 = .ok (.getfield 32, 3) := by decide +kernel
theorem dX10_takes_55 : decode cX10_takes 55 = .ok (.iload 4, 2) := by decide +kernel
theorem dX10_takes_57 : decode cX10_takes 57 = .ok (.iaload, 1) := by decide +kernel
theorem dX10_takes_58 : decode cX10_takes 58 = .ok (.if_icmp .ne 20, 3) := by decide +kernel
theorem dX10_takes_61 : decode cX10_takes 61 = .ok (.aload_n 0, 1) := by decide +kernel
theorem dX10_takes_62 : decode cX10_takes 62 = .ok (.iload_n 1, 1) := by decide +kernel
theorem dX10_takes_63 : decode cX10_takes 63 = .ok (.iload 4, 2) := by decide +kernel
theorem dX10_takes_65 : decode cX10_takes 65 = .ok (.invokevirtual 124, 3) := by decide +kernel
theorem dX10_takes_68 : decode cX10_takes 68 = .ok (.aload_n 0, 1) := by decide +kernel
theorem dX10_takes_69 : decode cX10_takes 69 = .ok (.getfield 35, 3) := by decide +kernel
theorem dX10_takes_72 : decode cX10_takes 72 = .ok (.iload 4, 2) := by decide +kernel
theorem dX10_takes_74 : decode cX10_takes 74 = .ok (.iaload, 1) := by decide +kernel
theorem dX10_takes_75 : decode cX10_takes 75 = .ok (.if_icmp .eq 7, 3) := by decide +kernel
theorem dX10_takes_78 : decode cX10_takes 78 = .ok (.iconst 1, 1) := by decide +kernel
theorem dX10_takes_79 : decode cX10_takes 79 = .ok (.goto 4, 3) := by decide +kernel
theorem dX10_takes_82 : decode cX10_takes 82 = .ok (.iconst 0, 1) := by decide +kernel
theorem dX10_takes_83 : decode cX10_takes 83 = .ok (.istore_n 3, 1) := by decide +kernel
theorem dX10_takes_84 : decode cX10_takes 84 = .ok (.aload_n 0, 1) := by decide +kernel
theorem dX10_takes_85 : decode cX10_takes 85 = .ok (.iload_n 1, 1) := by decide +kernel
theorem dX10_takes_86 : decode cX10_takes 86 = .ok (.bipush 9, 2) := by decide +kernel
theorem dX10_takes_88 : decode cX10_takes 88 = .ok (.iconst 2, 1) := by decide +kernel
theorem dX10_takes_89 : decode cX10_takes 89 = .ok (.iload 4, 2) := by decide +kernel
theorem dX10_takes_91 : decode cX10_takes 91 = .ok (.imul, 1) := by decide +kernel
theorem dX10_takes_92 : decode cX10_takes 92 = .ok (.iadd, 1) := by decide +kernel
theorem dX10_takes_93 : decode cX10_takes 93 = .ok (.aload_n 0, 1) := by decide +kernel
theorem dX10_takes_94 : decode cX10_takes 94 = .ok (.getfield 32, 3) := by decide +kernel
theorem dX10_takes_97 : decode cX10_takes 97 = .ok (.iload 4, 2) := by decide +kernel
theorem dX10_takes_99 : decode cX10_takes 99 = .ok (.iaload, 1) := by decide +kernel
theorem dX10_takes_100 : decode cX10_takes 100 = .ok (.invokevirtual 107, 3) := by decide +kernel
theorem dX10_takes_103 : decode cX10_takes 103 = .ok (.aload_n 0, 1) := by decide +kernel
theorem dX10_takes_104 : decode cX10_takes 104 = .ok (.iload_n 1, 1) := by decide +kernel
theorem dX10_takes_105 : decode cX10_takes 105 = .ok (.bipush 10, 2) := by decide +kernel
theorem dX10_takes_107 : decode cX10_takes 107 = .ok (.iconst 2, 1) := by decide +kernel
theorem dX10_takes_108 : decode cX10_takes 108 = .ok (.iload 4, 2) := by decide +kernel
theorem dX10_takes_110 : decode cX10_takes 110 = .ok (.imul, 1) := by decide +kernel
theorem dX10_takes_111 : decode cX10_takes 111 = .ok (.iadd, 1) := by decide +kernel
theorem dX10_takes_112 : decode cX10_takes 112 = .ok (.aload_n 0, 1) := by decide +kernel
theorem dX10_takes_113 : decode cX10_takes 113 = .ok (.getfield 35, 3) := by decide +kernel
theorem dX10_takes_116 : decode cX10_takes 116 = .ok (.iload 4, 2) := by decide +kernel
theorem dX10_takes_118 : decode cX10_takes 118 = .ok (.iaload, 1) := by decide +kernel
theorem dX10_takes_119 : decode cX10_takes 119 = .ok (.invokevirtual 107, 3) := by decide +kernel
theorem dX10_takes_122 : decode cX10_takes 122 = .ok (.iinc 4 1, 3) := by decide +kernel
theorem dX10_takes_125 : decode cX10_takes 125 = .ok (.goto (-94), 3) := by decide +kernel
theorem dX10_takes_128 : decode cX10_takes 128 = .ok (.aload_n 0, 1) := by decide +kernel
theorem dX10_takes_129 : decode cX10_takes 129 = .ok (.iload_n 1, 1) := by decide +kernel
theorem dX10_takes_130 : decode cX10_takes 130 = .ok (.bipush 6, 2) := by decide +kernel
theorem dX10_takes_132 : decode cX10_takes 132 = .ok (.iconst 1, 1) := by decide +kernel
theorem dX10_takes_133 : decode cX10_takes 133 = .ok (.invokevirtual 107, 3) := by decide +kernel
theorem dX10_takes_136 : decode cX10_takes 136 = .ok (.aload_n 0, 1) := by decide +kernel
theorem dX10_takes_137 : decode cX10_takes 137 = .ok (.iload_n 1, 1) := by decide +kernel
theorem dX10_takes_138 : decode cX10_takes 138 = .ok (.bipush 7, 2) := by decide +kernel
theorem dX10_takes_140 : decode cX10_takes 140 = .ok (.iload_n 2, 1) := by decide +kernel
theorem dX10_takes_141 : decode cX10_takes 141 = .ok (.invokevirtual 107, 3) := by decide +kernel
theorem dX10_takes_144 : decode cX10_takes 144 = .ok (.aload_n 0, 1) := by decide +kernel
theorem dX10_takes_145 : decode cX10_takes 145 = .ok (.iload_n 1, 1) := by decide +kernel
theorem dX10_takes_146 : decode cX10_takes 146 = .ok (.bipush 8, 2) := by decide +kernel
theorem dX10_takes_148 : decode cX10_takes 148 = .ok (.aload_n 0, 1) := by decide +kernel
theorem dX10_takes_149 : decode cX10_takes 149 = .ok (.getfield 176, 3) := by decide +kernel
theorem dX10_takes_152 : decode cX10_takes 152 = .ok (.invokevirtual 107, 3) := by decide +kernel
theorem dX10_takes_155 : decode cX10_takes 155 = .ok (.iload_n 3, 1) := by decide +kernel
theorem dX10_takes_156 : decode cX10_takes 156 = .ok (.ireturn, 1) := by decide +kernel
theorem dX10_route_0 : decode cX10_route 0 = .ok (.aload_n 0, 1) := by decide +kernel
theorem dX10_route_1 : decode cX10_route 1 = .ok (.iload_n 1, 1) := by decide +kernel
theorem dX10_route_2 : decode cX10_route 2 = .ok (.invokevirtual 111, 3) := by decide +kernel
theorem dX10_route_5 : decode cX10_route 5 = .ok (.ifCond .ne 7, 3) := by decide +kernel
theorem dX10_route_8 : decode cX10_route 8 = .ok (.sipush (-1001), 3) := by decide +kernel
theorem dX10_route_11 : decode cX10_route 11 = .ok (.ireturn, 1) := by decide +kernel
theorem dX10_route_12 : decode cX10_route 12 = .ok (.aload_n 0, 1) := by decide +kernel
theorem dX10_route_13 : decode cX10_route 13 = .ok (.invokevirtual 84, 3) := by decide +kernel
theorem dX10_route_16 : decode cX10_route 16 = .ok (.aload_n 0, 1) := by decide +kernel
theorem dX10_route_17 : decode cX10_route 17 = .ok (.iload_n 1, 1) := by decide +kernel
theorem dX10_route_18 : decode cX10_route 18 = .ok (.invokevirtual 185, 3) := by decide +kernel
theorem dX10_route_21 : decode cX10_route 21 = .ok (.istore_n 2, 1) := by decide +kernel
theorem dX10_route_22 : decode cX10_route 22 = .ok (.iload_n 2, 1) := by decide +kernel
theorem dX10_route_23 : decode cX10_route 23 = .ok (.sipush (-1000), 3) := by decide +kernel
theorem dX10_route_26 : decode cX10_route 26 = .ok (.if_icmp .eq 16, 3) := by decide +kernel
theorem dX10_route_29 : decode cX10_route 29 = .ok (.aload_n 0, 1) := by decide +kernel
theorem dX10_route_30 : decode cX10_route 30 = .ok (.iload_n 1, 1) := by decide +kernel
theorem dX10_route_31 : decode cX10_route 31 = .ok (.iload_n 2, 1) := by decide +kernel
theorem dX10_route_32 : decode cX10_route 32 = .ok (.invokevirtual 188, 3) := by decide +kernel
theorem dX10_route_35 : decode cX10_route 35 = .ok (.ifCond .eq 7, 3) := by decide +kernel
theorem dX10_route_38 : decode cX10_route 38 = .ok (.iconst 1, 1) := by decide +kernel
theorem dX10_route_39 : decode cX10_route 39 = .ok (.goto 4, 3) := by decide +kernel
theorem dX10_route_42 : decode cX10_route 42 = .ok (.iconst 0, 1) := by decide +kernel
theorem dX10_route_43 : decode cX10_route 43 = .ok (.istore_n 3, 1) := by decide +kernel
theorem dX10_route_44 : decode cX10_route 44 = .ok (.iload_n 2, 1) := by decide +kernel
theorem dX10_route_45 : decode cX10_route 45 = .ok (.ireturn, 1) := by decide +kernel
theorem dX10_routeAll_0 : decode cX10_routeAll 0 = .ok (.aload_n 0, 1) := by decide +kernel
theorem dX10_routeAll_1 : decode cX10_routeAll 1 = .ok (.invokevirtual 84, 3) := by decide +kernel
theorem dX10_routeAll_4 : decode cX10_routeAll 4 = .ok (.iconst 0, 1) := by decide +kernel
theorem dX10_routeAll_5 : decode cX10_routeAll 5 = .ok (.istore_n 1, 1) := by decide +kernel
theorem dX10_routeAll_6 : decode cX10_routeAll 6 = .ok (.iconst 0, 1) := by decide +kernel
theorem dX10_routeAll_7 : decode cX10_routeAll 7 = .ok (.istore_n 2, 1) := by decide +kernel
theorem dX10_routeAll_8 : decode cX10_routeAll 8 = .ok (.iload_n 2, 1) := by decide +kernel
theorem dX10_routeAll_9 : decode cX10_routeAll 9 = .ok (.aload_n 0, 1) := by decide +kernel
theorem dX10_routeAll_10 : decode cX10_routeAll 10 = .ok (.getfield 7, 3) := by decide +kernel
theorem dX10_routeAll_13 : decode cX10_routeAll 13 = .ok (.iconst 1, 1) := by decide +kernel
theorem dX10_routeAll_14 : decode cX10_routeAll 14 = .ok (.iaload, 1) := by decide +kernel
theorem dX10_routeAll_15 : decode cX10_routeAll 15 = .ok (.if_icmp .ge 39, 3) := by decide +kernel
theorem dX10_routeAll_18 : decode cX10_routeAll 18 = .ok (.aload_n 0, 1) := by decide +kernel
theorem dX10_routeAll_19 : decode cX10_routeAll 19 = .ok (.iload_n 2, 1) := by decide +kernel
theorem dX10_routeAll_20 : decode cX10_routeAll 20 = .ok (.invokevirtual 185, 3) := by decide +kernel
theorem dX10_routeAll_23 : decode cX10_routeAll 23 = .ok (.istore_n 3, 1) := by decide +kernel
theorem dX10_routeAll_24 : decode cX10_routeAll 24 = .ok (.iload_n 1, 1) := by decide +kernel
theorem dX10_routeAll_25 : decode cX10_routeAll 25 = .ok (.iload_n 3, 1) := by decide +kernel
theorem dX10_routeAll_26 : decode cX10_routeAll 26 = .ok (.sipush (-1000), 3) := by decide +kernel
theorem dX10_routeAll_29 : decode cX10_routeAll 29 = .ok (.if_icmp .eq 16, 3) := by decide +kernel
theorem dX10_routeAll_32 : decode cX10_routeAll 32 = .ok (.aload_n 0, 1) := by decide +kernel
theorem dX10_routeAll_33 : decode cX10_routeAll 33 = .ok (.iload_n 2, 1) := by decide +kernel
theorem dX10_routeAll_34 : decode cX10_routeAll 34 = .ok (.iload_n 3, 1) := by decide +kernel
theorem dX10_routeAll_35 : decode cX10_routeAll 35 = .ok (.invokevirtual 188, 3) := by decide +kernel
theorem dX10_routeAll_38 : decode cX10_routeAll 38 = .ok (.ifCond .eq 7, 3) := by decide +kernel
theorem dX10_routeAll_41 : decode cX10_routeAll 41 = .ok (.iconst 1, 1) := by decide +kernel
theorem dX10_routeAll_42 : decode cX10_routeAll 42 = .ok (.goto 4, 3) := by decide +kernel
theorem dX10_routeAll_45 : decode cX10_routeAll 45 = .ok (.iconst 0, 1) := by decide +kernel
theorem dX10_routeAll_46 : decode cX10_routeAll 46 = .ok (.iadd, 1) := by decide +kernel
theorem dX10_routeAll_47 : decode cX10_routeAll 47 = .ok (.istore_n 1, 1) := by decide +kernel
theorem dX10_routeAll_48 : decode cX10_routeAll 48 = .ok (.iinc 2 1, 3) := by decide +kernel
theorem dX10_routeAll_51 : decode cX10_routeAll 51 = .ok (.goto (-43), 3) := by decide +kernel
theorem dX10_routeAll_54 : decode cX10_routeAll 54 = .ok (.iload_n 1, 1) := by decide +kernel
theorem dX10_routeAll_55 : decode cX10_routeAll 55 = .ok (.ireturn, 1) := by decide +kernel
theorem dX10_routesThose_0 : decode cX10_routesThose 0 = .ok (.aload_n 0, 1) := by decide +kernel
theorem dX10_routesThose_1 : decode cX10_routesThose 1 = .ok (.invokevirtual 84, 3) := by decide +kernel
theorem dX10_routesThose_4 : decode cX10_routesThose 4 = .ok (.iconst 0, 1) := by decide +kernel
theorem dX10_routesThose_5 : decode cX10_routesThose 5 = .ok (.istore_n 2, 1) := by decide +kernel
theorem dX10_routesThose_6 : decode cX10_routesThose 6 = .ok (.iconst 0, 1) := by decide +kernel
theorem dX10_routesThose_7 : decode cX10_routesThose 7 = .ok (.istore_n 3, 1) := by decide +kernel
theorem dX10_routesThose_8 : decode cX10_routesThose 8 = .ok (.iload_n 3, 1) := by decide +kernel
theorem dX10_routesThose_9 : decode cX10_routesThose 9 = .ok (.aload_n 0, 1) := by decide +kernel
theorem dX10_routesThose_10 : decode cX10_routesThose 10 = .ok (.getfield 7, 3) := by decide +kernel
theorem dX10_routesThose_13 : decode cX10_routesThose 13 = .ok (.iconst 1, 1) := by decide +kernel
theorem dX10_routesThose_14 : decode cX10_routesThose 14 = .ok (.iaload, 1) := by decide +kernel
theorem dX10_routesThose_15 : decode cX10_routesThose 15 = .ok (.if_icmp .ge 69, 3) := by decide +kernel
theorem dX10_routesThose_18 : decode cX10_routesThose 18 = .ok (.aload_n 0, 1) := by decide +kernel
theorem dX10_routesThose_19 : decode cX10_routesThose 19 = .ok (.iload_n 3, 1) := by decide +kernel
theorem dX10_routesThose_20 : decode cX10_routesThose 20 = .ok (.invokevirtual 98, 3) := by decide +kernel
theorem dX10_routesThose_23 : decode cX10_routesThose 23 = .ok (.istore 4, 2) := by decide +kernel
theorem dX10_routesThose_25 : decode cX10_routesThose 25 = .ok (.iload 4, 2) := by decide +kernel
theorem dX10_routesThose_27 : decode cX10_routesThose 27 = .ok (.ifCond .ne 7, 3) := by decide +kernel
theorem dX10_routesThose_30 : decode cX10_routesThose 30 = .ok (.iload_n 1, 1) := by decide +kernel
theorem dX10_routesThose_31 : decode cX10_routesThose 31 = .ok (.ifCond .eq 47, 3) := by decide +kernel
theorem dX10_routesThose_34 : decode cX10_routesThose 34 = .ok (.aload_n 0, 1) := by decide +kernel
theorem dX10_routesThose_35 : decode cX10_routesThose 35 = .ok (.iload_n 3, 1) := by decide +kernel
theorem dX10_routesThose_36 : decode cX10_routesThose 36 = .ok (.invokevirtual 185, 3) := by decide +kernel
theorem dX10_routesThose_39 : decode cX10_routesThose 39 = .ok (.istore 5, 2) := by decide +kernel
theorem dX10_routesThose_41 : decode cX10_routesThose 41 = .ok (.iload 5, 2) := by decide +kernel
theorem dX10_routesThose_43 : decode cX10_routesThose 43 = .ok (.sipush (-1000), 3) := by decide +kernel
theorem dX10_routesThose_46 : decode cX10_routesThose 46 = .ok (.if_icmp .eq 32, 3) := by decide +kernel
theorem dX10_routesThose_49 : decode cX10_routesThose 49 = .ok (.iload 4, 2) := by decide +kernel
theorem dX10_routesThose_51 : decode cX10_routesThose 51 = .ok (.ifCond .ne 15, 3) := by decide +kernel
theorem dX10_routesThose_54 : decode cX10_routesThose 54 = .ok (.aload_n 0, 1) := by decide +kernel
theorem dX10_routesThose_55 : decode cX10_routesThose 55 = .ok (.iload_n 3, 1) := by decide +kernel
theorem dX10_routesThose_56 : decode cX10_routesThose 56 = .ok (.bipush 7, 2) := by decide +kernel
theorem dX10_routesThose_58 : decode cX10_routesThose 58 = .ok (.invokevirtual 95, 3) := by decide +kernel
theorem dX10_routesThose_61 : decode cX10_routesThose 61 = .ok (.iload 5, 2) := by decide +kernel
theorem dX10_routesThose_63 : decode cX10_routesThose 63 = .ok (.if_icmp .le 15, 3) := by decide +kernel
theorem dX10_routesThose_66 : decode cX10_routesThose 66 = .ok (.aload_n 0, 1) := by decide +kernel
theorem dX10_routesThose_67 : decode cX10_routesThose 67 = .ok (.iload_n 3, 1) := by decide +kernel
theorem dX10_routesThose_68 : decode cX10_routesThose 68 = .ok (.iload 5, 2) := by decide +kernel
theorem dX10_routesThose_70 : decode cX10_routesThose 70 = .ok (.invokevirtual 188, 3) := by decide +kernel
theorem dX10_routesThose_73 : decode cX10_routesThose 73 = .ok (.istore 6, 2) := by decide +kernel
theorem dX10_routesThose_75 : decode cX10_routesThose 75 = .ok (.iinc 2 1, 3) := by decide +kernel
theorem dX10_routesThose_78 : decode cX10_routesThose 78 = .ok (.iinc 3 1, 3) := by decide +kernel
theorem dX10_routesThose_81 : decode cX10_routesThose 81 = .ok (.goto (-73), 3) := by decide +kernel
theorem dX10_routesThose_84 : decode cX10_routesThose 84 = .ok (.iload_n 2, 1) := by decide +kernel
theorem dX10_routesThose_85 : decode cX10_routesThose 85 = .ok (.ireturn, 1) := by decide +kernel
theorem dX10_reroute_0 : decode cX10_reroute 0 = .ok (.aload_n 0, 1) := by decide +kernel
theorem dX10_reroute_1 : decode cX10_reroute 1 = .ok (.iconst 0, 1) := by decide +kernel
theorem dX10_reroute_2 : decode cX10_reroute 2 = .ok (.invokevirtual 191, 3) := by decide +kernel
theorem dX10_reroute_5 : decode cX10_reroute 5 = .ok (.ireturn, 1) := by decide +kernel
theorem dX10_refresh_0 : decode cX10_refresh 0 = .ok (.aload_n 0, 1) := by decide +kernel
theorem dX10_refresh_1 : decode cX10_refresh 1 = .ok (.iconst 1, 1) := by decide +kernel
theorem dX10_refresh_2 : decode cX10_refresh 2 = .ok (.invokevirtual 191, 3) := by decide +kernel
theorem dX10_refresh_5 : decode cX10_refresh 5 = .ok (.ireturn, 1) := by decide +kernel
theorem dX10_best_0 : decode cX10_best 0 = .ok (.aload_n 0, 1) := by decide +kernel
theorem dX10_best_1 : decode cX10_best 1 = .ok (.iload_n 1, 1) := by decide +kernel
theorem dX10_best_2 : decode cX10_best 2 = .ok (.invokevirtual 111, 3) := by decide +kernel
theorem dX10_best_5 : decode cX10_best 5 = .ok (.ifCond .eq 11, 3) := by decide +kernel
theorem dX10_best_8 : decode cX10_best 8 = .ok (.aload_n 0, 1) := by decide +kernel
theorem dX10_best_9 : decode cX10_best 9 = .ok (.iload_n 1, 1) := by decide +kernel
theorem dX10_best_10 : decode cX10_best 10 = .ok (.invokevirtual 179, 3) := by decide +kernel
theorem dX10_best_13 : decode cX10_best 13 = .ok (.goto 6, 3) := by decide +kernel
theorem dX10_best_16 : decode cX10_best 16 = .ok (.sipush (-1001), 3) := by decide +kernel
theorem dX10_best_19 : decode cX10_best 19 = .ok (.ireturn, 1) := by decide +kernel
theorem dX10_measure_0 : decode cX10_measure 0 = .ok (.aload_n 0, 1) := by decide +kernel
theorem dX10_measure_1 : decode cX10_measure 1 = .ok (.iload_n 1, 1) := by decide +kernel
theorem dX10_measure_2 : decode cX10_measure 2 = .ok (.invokevirtual 111, 3) := by decide +kernel
theorem dX10_measure_5 : decode cX10_measure 5 = .ok (.ifCond .ne 7, 3) := by decide +kernel
theorem dX10_measure_8 : decode cX10_measure 8 = .ok (.sipush (-1001), 3) := by decide +kernel
theorem dX10_measure_11 : decode cX10_measure 11 = .ok (.ireturn, 1) := by decide +kernel
theorem dX10_measure_12 : decode cX10_measure 12 = .ok (.iload_n 2, 1) := by decide +kernel
theorem dX10_measure_13 : decode cX10_measure 13 = .ok (.iconst 0, 1) := by decide +kernel
theorem dX10_measure_14 : decode cX10_measure 14 = .ok (.iconst 3, 1) := by decide +kernel
theorem dX10_measure_15 : decode cX10_measure 15 = .ok (.invokestatic 68, 3) := by decide +kernel
theorem dX10_measure_18 : decode cX10_measure 18 = .ok (.ifCond .ne 7, 3) := by decide +kernel
theorem dX10_measure_21 : decode cX10_measure 21 = .ok (.sipush (-1002), 3) := by decide +kernel
theorem dX10_measure_24 : decode cX10_measure 24 = .ok (.ireturn, 1) := by decide +kernel
theorem dX10_measure_25 : decode cX10_measure 25 = .ok (.aload_n 0, 1) := by decide +kernel
theorem dX10_measure_26 : decode cX10_measure 26 = .ok (.iload_n 1, 1) := by decide +kernel
theorem dX10_measure_27 : decode cX10_measure 27 = .ok (.invokevirtual 114, 3) := by decide +kernel
theorem dX10_measure_30 : decode cX10_measure 30 = .ok (.ifCond .ne 7, 3) := by decide +kernel
theorem dX10_measure_33 : decode cX10_measure 33 = .ok (.sipush (-1003), 3) := by decide +kernel
theorem dX10_measure_36 : decode cX10_measure 36 = .ok (.ireturn, 1) := by decide +kernel
theorem dX10_measure_37 : decode cX10_measure 37 = .ok (.iload_n 2, 1) := by decide +kernel
theorem dX10_measure_38 : decode cX10_measure 38 = .ok (.ifCond .ne 13, 3) := by decide +kernel
theorem dX10_measure_41 : decode cX10_measure 41 = .ok (.aload_n 0, 1) := by decide +kernel
theorem dX10_measure_42 : decode cX10_measure 42 = .ok (.iload_n 1, 1) := by decide +kernel
theorem dX10_measure_43 : decode cX10_measure 43 = .ok (.bipush 7, 2) := by decide +kernel
theorem dX10_measure_45 : decode cX10_measure 45 = .ok (.invokevirtual 95, 3) := by decide +kernel
theorem dX10_measure_48 : decode cX10_measure 48 = .ok (.goto 40, 3) := by decide +kernel
theorem dX10_measure_51 : decode cX10_measure 51 = .ok (.iload_n 2, 1) := by decide +kernel
theorem dX10_measure_52 : decode cX10_measure 52 = .ok (.iconst 1, 1) := by decide +kernel
theorem dX10_measure_53 : decode cX10_measure 53 = .ok (.if_icmp .ne 11, 3) := by decide +kernel
theorem dX10_measure_56 : decode cX10_measure 56 = .ok (.aload_n 0, 1) := by decide +kernel
theorem dX10_measure_57 : decode cX10_measure 57 = .ok (.iload_n 1, 1) := by decide +kernel
theorem dX10_measure_58 : decode cX10_measure 58 = .ok (.invokevirtual 195, 3) := by decide +kernel
theorem dX10_measure_61 : decode cX10_measure 61 = .ok (.goto 27, 3) := by decide +kernel
theorem dX10_measure_64 : decode cX10_measure 64 = .ok (.iload_n 2, 1) := by decide +kernel
theorem dX10_measure_65 : decode cX10_measure 65 = .ok (.iconst 2, 1) := by decide +kernel
theorem dX10_measure_66 : decode cX10_measure 66 = .ok (.if_icmp .ne 13, 3) := by decide +kernel
theorem dX10_measure_69 : decode cX10_measure 69 = .ok (.aload_n 0, 1) := by decide +kernel
theorem dX10_measure_70 : decode cX10_measure 70 = .ok (.iload_n 1, 1) := by decide +kernel
theorem dX10_measure_71 : decode cX10_measure 71 = .ok (.bipush 8, 2) := by decide +kernel
theorem dX10_measure_73 : decode cX10_measure 73 = .ok (.invokevirtual 95, 3) := by decide +kernel
theorem dX10_measure_76 : decode cX10_measure 76 = .ok (.goto 12, 3) := by decide +kernel
theorem dX10_measure_79 : decode cX10_measure 79 = .ok (.aload_n 0, 1) := by decide +kernel
theorem dX10_measure_80 : decode cX10_measure 80 = .ok (.iload_n 1, 1) := by decide +kernel
theorem dX10_measure_81 : decode cX10_measure 81 = .ok (.bipush 8, 2) := by decide +kernel
theorem dX10_measure_83 : decode cX10_measure 83 = .ok (.invokevirtual 95, 3) := by decide +kernel
theorem dX10_measure_86 : decode cX10_measure 86 = .ok (.iconst 1, 1) := by decide +kernel
theorem dX10_measure_87 : decode cX10_measure 87 = .ok (.isub, 1) := by decide +kernel
theorem dX10_measure_88 : decode cX10_measure 88 = .ok (.ireturn, 1) := by decide +kernel
theorem dX10_isCorner_0 : decode cX10_isCorner 0 = .ok (.aload_n 0, 1) := by decide +kernel
theorem dX10_isCorner_1 : decode cX10_isCorner 1 = .ok (.iload_n 1, 1) := by decide +kernel
theorem dX10_isCorner_2 : decode cX10_isCorner 2 = .ok (.invokevirtual 111, 3) := by decide +kernel
theorem dX10_isCorner_5 : decode cX10_isCorner 5 = .ok (.ifCond .eq 32, 3) := by decide +kernel
theorem dX10_isCorner_8 : decode cX10_isCorner 8 = .ok (.aload_n 0, 1) := by decide +kernel
theorem dX10_isCorner_9 : decode cX10_isCorner 9 = .ok (.iload_n 1, 1) := by decide +kernel
theorem dX10_isCorner_10 : decode cX10_isCorner 10 = .ok (.invokevirtual 114, 3) := by decide +kernel
theorem dX10_isCorner_13 : decode cX10_isCorner 13 = .ok (.ifCond .eq 24, 3) := by decide +kernel
theorem dX10_isCorner_16 : decode cX10_isCorner 16 = .ok (.iload_n 2, 1) := by decide +kernel
theorem dX10_isCorner_17 : decode cX10_isCorner 17 = .ok (.iconst 0, 1) := by decide +kernel
theorem dX10_isCorner_18 : decode cX10_isCorner 18 = .ok (.aload_n 0, 1) := by decide +kernel
theorem dX10_isCorner_19 : decode cX10_isCorner 19 = .ok (.iload_n 1, 1) := by decide +kernel
theorem dX10_isCorner_20 : decode cX10_isCorner 20 = .ok (.bipush 8, 2) := by decide +kernel
theorem dX10_isCorner_22 : decode cX10_isCorner 22 = .ok (.invokevirtual 95, 3) := by decide +kernel
theorem dX10_isCorner_25 : decode cX10_isCorner 25 = .ok (.iconst 1, 1) := by decide +kernel
theorem dX10_isCorner_26 : decode cX10_isCorner 26 = .ok (.isub, 1) := by decide +kernel
theorem dX10_isCorner_27 : decode cX10_isCorner 27 = .ok (.invokestatic 68, 3) := by decide +kernel
theorem dX10_isCorner_30 : decode cX10_isCorner 30 = .ok (.ifCond .eq 7, 3) := by decide +kernel
theorem dX10_isCorner_33 : decode cX10_isCorner 33 = .ok (.iconst 1, 1) := by decide +kernel
theorem dX10_isCorner_34 : decode cX10_isCorner 34 = .ok (.goto 4, 3) := by decide +kernel
theorem dX10_isCorner_37 : decode cX10_isCorner 37 = .ok (.iconst 0, 1) := by decide +kernel
theorem dX10_isCorner_38 : decode cX10_isCorner 38 = .ok (.ireturn, 1) := by decide +kernel
theorem dX10_corner_0 : decode cX10_corner 0 = .ok (.aload_n 0, 1) := by decide +kernel
theorem dX10_corner_1 : decode cX10_corner 1 = .ok (.iload_n 1, 1) := by decide +kernel
theorem dX10_corner_2 : decode cX10_corner 2 = .ok (.iload_n 2, 1) := by decide +kernel
theorem dX10_corner_3 : decode cX10_corner 3 = .ok (.invokevirtual 198, 3) := by decide +kernel
theorem dX10_corner_6 : decode cX10_corner 6 = .ok (.ifCond .ne 7, 3) := by decide +kernel
theorem dX10_corner_9 : decode cX10_corner 9 = .ok (.sipush (-1001), 3) := by decide +kernel
theorem dX10_corner_12 : decode cX10_corner 12 = .ok (.ireturn, 1) := by decide +kernel
theorem dX10_corner_13 : decode cX10_corner 13 = .ok (.iload_n 3, 1) := by decide +kernel
theorem dX10_corner_14 : decode cX10_corner 14 = .ok (.ifCond .ne 12, 3) := by decide +kernel
theorem dX10_corner_17 : decode cX10_corner 17 = .ok (.aload_n 0, 1) := by decide +kernel
theorem dX10_corner_18 : decode cX10_corner 18 = .ok (.iload_n 1, 1) := by decide +kernel
theorem dX10_corner_19 : decode cX10_corner 19 = .ok (.iload_n 2, 1) := by decide +kernel
theorem dX10_corner_20 : decode cX10_corner 20 = .ok (.invokevirtual 117, 3) := by decide +kernel
theorem dX10_corner_23 : decode cX10_corner 23 = .ok (.goto 20, 3) := by decide +kernel
theorem dX10_corner_26 : decode cX10_corner 26 = .ok (.iload_n 3, 1) := by decide +kernel
theorem dX10_corner_27 : decode cX10_corner 27 = .ok (.iconst 1, 1) := by decide +kernel
theorem dX10_corner_28 : decode cX10_corner 28 = .ok (.if_icmp .ne 12, 3) := by decide +kernel
theorem dX10_corner_31 : decode cX10_corner 31 = .ok (.aload_n 0, 1) := by decide +kernel
theorem dX10_corner_32 : decode cX10_corner 32 = .ok (.iload_n 1, 1) := by decide +kernel
theorem dX10_corner_33 : decode cX10_corner 33 = .ok (.iload_n 2, 1) := by decide +kernel
theorem dX10_corner_34 : decode cX10_corner 34 = .ok (.invokevirtual 124, 3) := by decide +kernel
theorem dX10_corner_37 : decode cX10_corner 37 = .ok (.goto 6, 3) := by decide +kernel
theorem dX10_corner_40 : decode cX10_corner 40 = .ok (.sipush (-1002), 3) := by decide +kernel
theorem dX10_corner_43 : decode cX10_corner 43 = .ok (.ireturn, 1) := by decide +kernel
theorem dX10_lowX_0 : decode cX10_lowX 0 = .ok (.aload_n 0, 1) := by decide +kernel
theorem dX10_lowX_1 : decode cX10_lowX 1 = .ok (.iload_n 1, 1) := by decide +kernel
theorem dX10_lowX_2 : decode cX10_lowX 2 = .ok (.iload_n 2, 1) := by decide +kernel
theorem dX10_lowX_3 : decode cX10_lowX 3 = .ok (.invokevirtual 117, 3) := by decide +kernel
theorem dX10_lowX_6 : decode cX10_lowX 6 = .ok (.aload_n 0, 1) := by decide +kernel
theorem dX10_lowX_7 : decode cX10_lowX 7 = .ok (.iload_n 1, 1) := by decide +kernel
theorem dX10_lowX_8 : decode cX10_lowX 8 = .ok (.iload_n 2, 1) := by decide +kernel
theorem dX10_lowX_9 : decode cX10_lowX 9 = .ok (.iconst 1, 1) := by decide +kernel
theorem dX10_lowX_10 : decode cX10_lowX 10 = .ok (.iadd, 1) := by decide +kernel
theorem dX10_lowX_11 : decode cX10_lowX 11 = .ok (.invokevirtual 117, 3) := by decide +kernel
theorem dX10_lowX_14 : decode cX10_lowX 14 = .ok (.if_icmp .ge 12, 3) := by decide +kernel
theorem dX10_lowX_17 : decode cX10_lowX 17 = .ok (.aload_n 0, 1) := by decide +kernel
theorem dX10_lowX_18 : decode cX10_lowX 18 = .ok (.iload_n 1, 1) := by decide +kernel
theorem dX10_lowX_19 : decode cX10_lowX 19 = .ok (.iload_n 2, 1) := by decide +kernel
theorem dX10_lowX_20 : decode cX10_lowX 20 = .ok (.invokevirtual 117, 3) := by decide +kernel
theorem dX10_lowX_23 : decode cX10_lowX 23 = .ok (.goto 11, 3) := by decide +kernel
theorem dX10_lowX_26 : decode cX10_lowX 26 = .ok (.aload_n 0, 1) := by decide +kernel
theorem dX10_lowX_27 : decode cX10_lowX 27 = .ok (.iload_n 1, 1) := by decide +kernel
theorem dX10_lowX_28 : decode cX10_lowX 28 = .ok (.iload_n 2, 1) := by decide +kernel
theorem dX10_lowX_29 : decode cX10_lowX 29 = .ok (.iconst 1, 1) := by decide +kernel
theorem dX10_lowX_30 : decode cX10_lowX 30 = .ok (.iadd, 1) := by decide +kernel
theorem dX10_lowX_31 : decode cX10_lowX 31 = .ok (.invokevirtual 117, 3) := by decide +kernel
theorem dX10_lowX_34 : decode cX10_lowX 34 = .ok (.ireturn, 1) := by decide +kernel
theorem dX10_highX_0 : decode cX10_highX 0 = .ok (.aload_n 0, 1) := by decide +kernel
theorem dX10_highX_1 : decode cX10_highX 1 = .ok (.iload_n 1, 1) := by decide +kernel
theorem dX10_highX_2 : decode cX10_highX 2 = .ok (.iload_n 2, 1) := by decide +kernel
theorem dX10_highX_3 : decode cX10_highX 3 = .ok (.invokevirtual 117, 3) := by decide +kernel
theorem dX10_highX_6 : decode cX10_highX 6 = .ok (.aload_n 0, 1) := by decide +kernel
theorem dX10_highX_7 : decode cX10_highX 7 = .ok (.iload_n 1, 1) := by decide +kernel
theorem dX10_highX_8 : decode cX10_highX 8 = .ok (.iload_n 2, 1) := by decide +kernel
theorem dX10_highX_9 : decode cX10_highX 9 = .ok (.iconst 1, 1) := by decide +kernel
theorem dX10_highX_10 : decode cX10_highX 10 = .ok (.iadd, 1) := by decide +kernel
theorem dX10_highX_11 : decode cX10_highX 11 = .ok (.invokevirtual 117, 3) := by decide +kernel
theorem dX10_highX_14 : decode cX10_highX 14 = .ok (.iadd, 1) := by decide +kernel
theorem dX10_highX_15 : decode cX10_highX 15 = .ok (.aload_n 0, 1) := by decide +kernel
theorem dX10_highX_16 : decode cX10_highX 16 = .ok (.iload_n 1, 1) := by decide +kernel
theorem dX10_highX_17 : decode cX10_highX 17 = .ok (.iload_n 2, 1) := by decide +kernel
theorem dX10_highX_18 : decode cX10_highX 18 = .ok (.invokevirtual 201, 3) := by decide +kernel
theorem dX10_highX_21 : decode cX10_highX 21 = .ok (.isub, 1) := by decide +kernel
theorem dX10_highX_22 : decode cX10_highX 22 = .ok (.ireturn, 1) := by decide +kernel
theorem dX10_lowY_0 : decode cX10_lowY 0 = .ok (.aload_n 0, 1) := by decide +kernel
theorem dX10_lowY_1 : decode cX10_lowY 1 = .ok (.iload_n 1, 1) := by decide +kernel
theorem dX10_lowY_2 : decode cX10_lowY 2 = .ok (.iload_n 2, 1) := by decide +kernel
theorem dX10_lowY_3 : decode cX10_lowY 3 = .ok (.invokevirtual 124, 3) := by decide +kernel
theorem dX10_lowY_6 : decode cX10_lowY 6 = .ok (.aload_n 0, 1) := by decide +kernel
theorem dX10_lowY_7 : decode cX10_lowY 7 = .ok (.iload_n 1, 1) := by decide +kernel
theorem dX10_lowY_8 : decode cX10_lowY 8 = .ok (.iload_n 2, 1) := by decide +kernel
theorem dX10_lowY_9 : decode cX10_lowY 9 = .ok (.iconst 1, 1) := by decide +kernel
theorem dX10_lowY_10 : decode cX10_lowY 10 = .ok (.iadd, 1) := by decide +kernel
theorem dX10_lowY_11 : decode cX10_lowY 11 = .ok (.invokevirtual 124, 3) := by decide +kernel
theorem dX10_lowY_14 : decode cX10_lowY 14 = .ok (.if_icmp .ge 12, 3) := by decide +kernel
theorem dX10_lowY_17 : decode cX10_lowY 17 = .ok (.aload_n 0, 1) := by decide +kernel
theorem dX10_lowY_18 : decode cX10_lowY 18 = .ok (.iload_n 1, 1) := by decide +kernel
theorem dX10_lowY_19 : decode cX10_lowY 19 = .ok (.iload_n 2, 1) := by decide +kernel
theorem dX10_lowY_20 : decode cX10_lowY 20 = .ok (.invokevirtual 124, 3) := by decide +kernel
theorem dX10_lowY_23 : decode cX10_lowY 23 = .ok (.goto 11, 3) := by decide +kernel
theorem dX10_lowY_26 : decode cX10_lowY 26 = .ok (.aload_n 0, 1) := by decide +kernel
theorem dX10_lowY_27 : decode cX10_lowY 27 = .ok (.iload_n 1, 1) := by decide +kernel
theorem dX10_lowY_28 : decode cX10_lowY 28 = .ok (.iload_n 2, 1) := by decide +kernel
theorem dX10_lowY_29 : decode cX10_lowY 29 = .ok (.iconst 1, 1) := by decide +kernel
theorem dX10_lowY_30 : decode cX10_lowY 30 = .ok (.iadd, 1) := by decide +kernel
theorem dX10_lowY_31 : decode cX10_lowY 31 = .ok (.invokevirtual 124, 3) := by decide +kernel
theorem dX10_lowY_34 : decode cX10_lowY 34 = .ok (.ireturn, 1) := by decide +kernel
theorem dX10_highY_0 : decode cX10_highY 0 = .ok (.aload_n 0, 1) := by decide +kernel
theorem dX10_highY_1 : decode cX10_highY 1 = .ok (.iload_n 1, 1) := by decide +kernel
theorem dX10_highY_2 : decode cX10_highY 2 = .ok (.iload_n 2, 1) := by decide +kernel
theorem dX10_highY_3 : decode cX10_highY 3 = .ok (.invokevirtual 124, 3) := by decide +kernel
theorem dX10_highY_6 : decode cX10_highY 6 = .ok (.aload_n 0, 1) := by decide +kernel
theorem dX10_highY_7 : decode cX10_highY 7 = .ok (.iload_n 1, 1) := by decide +kernel
theorem dX10_highY_8 : decode cX10_highY 8 = .ok (.iload_n 2, 1) := by decide +kernel
theorem dX10_highY_9 : decode cX10_highY 9 = .ok (.iconst 1, 1) := by decide +kernel
theorem dX10_highY_10 : decode cX10_highY 10 = .ok (.iadd, 1) := by decide +kernel
theorem dX10_highY_11 : decode cX10_highY 11 = .ok (.invokevirtual 124, 3) := by decide +kernel
theorem dX10_highY_14 : decode cX10_highY 14 = .ok (.iadd, 1) := by decide +kernel
theorem dX10_highY_15 : decode cX10_highY 15 = .ok (.aload_n 0, 1) := by decide +kernel
theorem dX10_highY_16 : decode cX10_highY 16 = .ok (.iload_n 1, 1) := by decide +kernel
theorem dX10_highY_17 : decode cX10_highY 17 = .ok (.iload_n 2, 1) := by decide +kernel
theorem dX10_highY_18 : decode cX10_highY 18 = .ok (.invokevirtual 204, 3) := by decide +kernel
theorem dX10_highY_21 : decode cX10_highY 21 = .ok (.isub, 1) := by decide +kernel
theorem dX10_highY_22 : decode cX10_highY 22 = .ok (.ireturn, 1) := by decide +kernel
theorem dX10_isFlat_0 : decode cX10_isFlat 0 = .ok (.aload_n 0, 1) := by decide +kernel
theorem dX10_isFlat_1 : decode cX10_isFlat 1 = .ok (.iload_n 1, 1) := by decide +kernel
theorem dX10_isFlat_2 : decode cX10_isFlat 2 = .ok (.iload_n 2, 1) := by decide +kernel
theorem dX10_isFlat_3 : decode cX10_isFlat 3 = .ok (.invokevirtual 124, 3) := by decide +kernel
theorem dX10_isFlat_6 : decode cX10_isFlat 6 = .ok (.aload_n 0, 1) := by decide +kernel
theorem dX10_isFlat_7 : decode cX10_isFlat 7 = .ok (.iload_n 1, 1) := by decide +kernel
theorem dX10_isFlat_8 : decode cX10_isFlat 8 = .ok (.iload_n 2, 1) := by decide +kernel
theorem dX10_isFlat_9 : decode cX10_isFlat 9 = .ok (.iconst 1, 1) := by decide +kernel
theorem dX10_isFlat_10 : decode cX10_isFlat 10 = .ok (.iadd, 1) := by decide +kernel
theorem dX10_isFlat_11 : decode cX10_isFlat 11 = .ok (.invokevirtual 124, 3) := by decide +kernel
theorem dX10_isFlat_14 : decode cX10_isFlat 14 = .ok (.if_icmp .ne 7, 3) := by decide +kernel
theorem dX10_isFlat_17 : decode cX10_isFlat 17 = .ok (.iconst 1, 1) := by decide +kernel
theorem dX10_isFlat_18 : decode cX10_isFlat 18 = .ok (.goto 4, 3) := by decide +kernel
theorem dX10_isFlat_21 : decode cX10_isFlat 21 = .ok (.iconst 0, 1) := by decide +kernel
theorem dX10_isFlat_22 : decode cX10_isFlat 22 = .ok (.ireturn, 1) := by decide +kernel
theorem dX10_isOn_0 : decode cX10_isOn 0 = .ok (.aload_n 0, 1) := by decide +kernel
theorem dX10_isOn_1 : decode cX10_isOn 1 = .ok (.iload_n 1, 1) := by decide +kernel
theorem dX10_isOn_2 : decode cX10_isOn 2 = .ok (.invokevirtual 111, 3) := by decide +kernel
theorem dX10_isOn_5 : decode cX10_isOn 5 = .ok (.ifCond .ne 7, 3) := by decide +kernel
theorem dX10_isOn_8 : decode cX10_isOn 8 = .ok (.sipush (-1001), 3) := by decide +kernel
theorem dX10_isOn_11 : decode cX10_isOn 11 = .ok (.ireturn, 1) := by decide +kernel
theorem dX10_isOn_12 : decode cX10_isOn 12 = .ok (.iconst 0, 1) := by decide +kernel
theorem dX10_isOn_13 : decode cX10_isOn 13 = .ok (.istore 4, 2) := by decide +kernel
theorem dX10_isOn_15 : decode cX10_isOn 15 = .ok (.iconst 0, 1) := by decide +kernel
theorem dX10_isOn_16 : decode cX10_isOn 16 = .ok (.istore 5, 2) := by decide +kernel
theorem dX10_isOn_18 : decode cX10_isOn 18 = .ok (.aload_n 0, 1) := by decide +kernel
theorem dX10_isOn_19 : decode cX10_isOn 19 = .ok (.iload_n 1, 1) := by decide +kernel
theorem dX10_isOn_20 : decode cX10_isOn 20 = .ok (.invokevirtual 114, 3) := by decide +kernel
theorem dX10_isOn_23 : decode cX10_isOn 23 = .ok (.ifCond .eq 154, 3) := by decide +kernel
theorem dX10_isOn_26 : decode cX10_isOn 26 = .ok (.iload 5, 2) := by decide +kernel
theorem dX10_isOn_28 : decode cX10_isOn 28 = .ok (.aload_n 0, 1) := by decide +kernel
theorem dX10_isOn_29 : decode cX10_isOn 29 = .ok (.iload_n 1, 1) := by decide +kernel
theorem dX10_isOn_30 : decode cX10_isOn 30 = .ok (.bipush 8, 2) := by decide +kernel
theorem dX10_isOn_32 : decode cX10_isOn 32 = .ok (.invokevirtual 95, 3) := by decide +kernel
theorem dX10_isOn_35 : decode cX10_isOn 35 = .ok (.iconst 1, 1) := by decide +kernel
theorem dX10_isOn_36 : decode cX10_isOn 36 = .ok (.isub, 1) := by decide +kernel
theorem dX10_isOn_37 : decode cX10_isOn 37 = .ok (.if_icmp .ge 140, 3) := by decide +kernel
theorem dX10_isOn_40 : decode cX10_isOn 40 = .ok (.iload_n 2, 1) := by decide +kernel
theorem dX10_isOn_41 : decode cX10_isOn 41 = .ok (.aload_n 0, 1) := by decide +kernel
theorem dX10_isOn_42 : decode cX10_isOn 42 = .ok (.iload_n 1, 1) := by decide +kernel
theorem dX10_isOn_43 : decode cX10_isOn 43 = .ok (.iload 5, 2) := by decide +kernel
theorem dX10_isOn_45 : decode cX10_isOn 45 = .ok (.invokevirtual 201, 3) := by decide +kernel
theorem dX10_isOn_48 : decode cX10_isOn 48 = .ok (.aload_n 0, 1) := by decide +kernel
theorem dX10_isOn_49 : decode cX10_isOn 49 = .ok (.iload_n 1, 1) := by decide +kernel
theorem dX10_isOn_50 : decode cX10_isOn 50 = .ok (.iload 5, 2) := by decide +kernel
theorem dX10_isOn_52 : decode cX10_isOn 52 = .ok (.invokevirtual 207, 3) := by decide +kernel
theorem dX10_isOn_55 : decode cX10_isOn 55 = .ok (.invokestatic 68, 3) := by decide +kernel
theorem dX10_isOn_58 : decode cX10_isOn 58 = .ok (.ifCond .eq 28, 3) := by decide +kernel
theorem dX10_isOn_61 : decode cX10_isOn 61 = .ok (.iload_n 3, 1) := by decide +kernel
theorem dX10_isOn_62 : decode cX10_isOn 62 = .ok (.aload_n 0, 1) := by decide +kernel
theorem dX10_isOn_63 : decode cX10_isOn 63 = .ok (.iload_n 1, 1) := by decide +kernel
theorem dX10_isOn_64 : decode cX10_isOn 64 = .ok (.iload 5, 2) := by decide +kernel
theorem dX10_isOn_66 : decode cX10_isOn 66 = .ok (.invokevirtual 204, 3) := by decide +kernel
theorem dX10_isOn_69 : decode cX10_isOn 69 = .ok (.aload_n 0, 1) := by decide +kernel
theorem dX10_isOn_70 : decode cX10_isOn 70 = .ok (.iload_n 1, 1) := by decide +kernel
theorem dX10_isOn_71 : decode cX10_isOn 71 = .ok (.iload 5, 2) := by decide +kernel
theorem dX10_isOn_73 : decode cX10_isOn 73 = .ok (.invokevirtual 210, 3) := by decide +kernel
theorem dX10_isOn_76 : decode cX10_isOn 76 = .ok (.invokestatic 68, 3) := by decide +kernel
theorem dX10_isOn_79 : decode cX10_isOn 79 = .ok (.ifCond .eq 7, 3) := by decide +kernel
theorem dX10_isOn_82 : decode cX10_isOn 82 = .ok (.iconst 1, 1) := by decide +kernel
theorem dX10_isOn_83 : decode cX10_isOn 83 = .ok (.goto 4, 3) := by decide +kernel
theorem dX10_isOn_86 : decode cX10_isOn 86 = .ok (.iconst 0, 1) := by decide +kernel
theorem dX10_isOn_87 : decode cX10_isOn 87 = .ok (.istore 6, 2) := by decide +kernel
theorem dX10_isOn_89 : decode cX10_isOn 89 = .ok (.iload_n 2, 1) := by decide +kernel
theorem dX10_isOn_90 : decode cX10_isOn 90 = .ok (.aload_n 0, 1) := by decide +kernel
theorem dX10_isOn_91 : decode cX10_isOn 91 = .ok (.iload_n 1, 1) := by decide +kernel
theorem dX10_isOn_92 : decode cX10_isOn 92 = .ok (.iload 5, 2) := by decide +kernel
theorem dX10_isOn_94 : decode cX10_isOn 94 = .ok (.invokevirtual 117, 3) := by decide +kernel
theorem dX10_isOn_97 : decode cX10_isOn 97 = .ok (.if_icmp .ne 14, 3) := by decide +kernel
theorem dX10_isOn_100 : decode cX10_isOn 100 = .ok (.iload_n 3, 1) := by decide +kernel
theorem dX10_isOn_101 : decode cX10_isOn 101 = .ok (.aload_n 0, 1) := by decide +kernel
theorem dX10_isOn_102 : decode cX10_isOn 102 = .ok (.iload_n 1, 1) := by decide +kernel
theorem dX10_isOn_103 : decode cX10_isOn 103 = .ok (.iload 5, 2) := by decide +kernel
theorem dX10_isOn_105 : decode cX10_isOn 105 = .ok (.invokevirtual 124, 3) := by decide +kernel
theorem dX10_isOn_108 : decode cX10_isOn 108 = .ok (.if_icmp .eq 29, 3) := by decide +kernel
theorem dX10_isOn_111 : decode cX10_isOn 111 = .ok (.iload_n 2, 1) := by decide +kernel
theorem dX10_isOn_112 : decode cX10_isOn 112 = .ok (.aload_n 0, 1) := by decide +kernel
theorem dX10_isOn_113 : decode cX10_isOn 113 = .ok (.iload_n 1, 1) := by decide +kernel
theorem dX10_isOn_114 : decode cX10_isOn 114 = .ok (.iload 5, 2) := by decide +kernel
theorem dX10_isOn_116 : decode cX10_isOn 116 = .ok (.iconst 1, 1) := by decide +kernel
theorem dX10_isOn_117 : decode cX10_isOn 117 = .ok (.iadd, 1) := by decide +kernel
theorem dX10_isOn_118 : decode cX10_isOn 118 = .ok (.invokevirtual 117, 3) := by decide +kernel
theorem dX10_isOn_121 : decode cX10_isOn 121 = .ok (.if_icmp .ne 20, 3) := by decide +kernel
theorem dX10_isOn_124 : decode cX10_isOn 124 = .ok (.iload_n 3, 1) := by decide +kernel
theorem dX10_isOn_125 : decode cX10_isOn 125 = .ok (.aload_n 0, 1) := by decide +kernel
theorem dX10_isOn_126 : decode cX10_isOn 126 = .ok (.iload_n 1, 1) := by decide +kernel
theorem dX10_isOn_127 : decode cX10_isOn 127 = .ok (.iload 5, 2) := by decide +kernel
theorem dX10_isOn_129 : decode cX10_isOn 129 = .ok (.iconst 1, 1) := by decide +kernel
theorem dX10_isOn_130 : decode cX10_isOn 130 = .ok (.iadd, 1) := by decide +kernel
theorem dX10_isOn_131 : decode cX10_isOn 131 = .ok (.invokevirtual 124, 3) := by decide +kernel
theorem dX10_isOn_134 : decode cX10_isOn 134 = .ok (.if_icmp .ne 7, 3) := by decide +kernel
theorem dX10_isOn_137 : decode cX10_isOn 137 = .ok (.iconst 1, 1) := by decide +kernel
theorem dX10_isOn_138 : decode cX10_isOn 138 = .ok (.goto 4, 3) := by decide +kernel
theorem dX10_isOn_141 : decode cX10_isOn 141 = .ok (.iconst 0, 1) := by decide +kernel
theorem dX10_isOn_142 : decode cX10_isOn 142 = .ok (.istore 7, 2) := by decide +kernel
theorem dX10_isOn_144 : decode cX10_isOn 144 = .ok (.iload 7, 2) := by decide +kernel
theorem dX10_isOn_146 : decode cX10_isOn 146 = .ok (.ifCond .eq 7, 3) := by decide +kernel
theorem dX10_isOn_149 : decode cX10_isOn 149 = .ok (.iconst 2, 1) := by decide +kernel
theorem dX10_isOn_150 : decode cX10_isOn 150 = .ok (.goto 19, 3) := by decide +kernel
theorem dX10_isOn_153 : decode cX10_isOn 153 = .ok (.iload 6, 2) := by decide +kernel
theorem dX10_isOn_155 : decode cX10_isOn 155 = .ok (.ifCond .eq 12, 3) := by decide +kernel
theorem dX10_isOn_158 : decode cX10_isOn 158 = .ok (.iload 4, 2) := by decide +kernel
theorem dX10_isOn_160 : decode cX10_isOn 160 = .ok (.ifCond .ne 7, 3) := by decide +kernel
theorem dX10_isOn_163 : decode cX10_isOn 163 = .ok (.iconst 1, 1) := by decide +kernel
theorem dX10_isOn_164 : decode cX10_isOn 164 = .ok (.goto 5, 3) := by decide +kernel
theorem dX10_isOn_167 : decode cX10_isOn 167 = .ok (.iload 4, 2) := by decide +kernel
theorem dX10_isOn_169 : decode cX10_isOn 169 = .ok (.istore 4, 2) := by decide +kernel
theorem dX10_isOn_171 : decode cX10_isOn 171 = .ok (.iinc 5 1, 3) := by decide +kernel
theorem dX10_isOn_174 : decode cX10_isOn 174 = .ok (.goto (-156), 3) := by decide +kernel
theorem dX10_isOn_177 : decode cX10_isOn 177 = .ok (.iload 4, 2) := by decide +kernel
theorem dX10_isOn_179 : decode cX10_isOn 179 = .ok (.ireturn, 1) := by decide +kernel
theorem dX10_segments_0 : decode cX10_segments 0 = .ok (.aload_n 0, 1) := by decide +kernel
theorem dX10_segments_1 : decode cX10_segments 1 = .ok (.iload_n 1, 1) := by decide +kernel
theorem dX10_segments_2 : decode cX10_segments 2 = .ok (.invokevirtual 114, 3) := by decide +kernel
theorem dX10_segments_5 : decode cX10_segments 5 = .ok (.ifCond .eq 15, 3) := by decide +kernel
theorem dX10_segments_8 : decode cX10_segments 8 = .ok (.aload_n 0, 1) := by decide +kernel
theorem dX10_segments_9 : decode cX10_segments 9 = .ok (.iload_n 1, 1) := by decide +kernel
theorem dX10_segments_10 : decode cX10_segments 10 = .ok (.bipush 8, 2) := by decide +kernel
theorem dX10_segments_12 : decode cX10_segments 12 = .ok (.invokevirtual 95, 3) := by decide +kernel
theorem dX10_segments_15 : decode cX10_segments 15 = .ok (.iconst 1, 1) := by decide +kernel
theorem dX10_segments_16 : decode cX10_segments 16 = .ok (.isub, 1) := by decide +kernel
theorem dX10_segments_17 : decode cX10_segments 17 = .ok (.goto 4, 3) := by decide +kernel
theorem dX10_segments_20 : decode cX10_segments 20 = .ok (.iconst 0, 1) := by decide +kernel
theorem dX10_segments_21 : decode cX10_segments 21 = .ok (.ireturn, 1) := by decide +kernel
theorem dX10_crossingsOf_0 : decode cX10_crossingsOf 0 = .ok (.iconst 0, 1) := by decide +kernel
theorem dX10_crossingsOf_1 : decode cX10_crossingsOf 1 = .ok (.istore_n 3, 1) := by decide +kernel
theorem dX10_crossingsOf_2 : decode cX10_crossingsOf 2 = .ok (.iconst 0, 1) := by decide +kernel
theorem dX10_crossingsOf_3 : decode cX10_crossingsOf 3 = .ok (.istore 4, 2) := by decide +kernel
theorem dX10_crossingsOf_5 : decode cX10_crossingsOf 5 = .ok (.iload 4, 2) := by decide +kernel
theorem dX10_crossingsOf_7 : decode cX10_crossingsOf 7 = .ok (.aload_n 0, 1) := by decide +kernel
theorem dX10_crossingsOf_8 : decode cX10_crossingsOf 8 = .ok (.iload_n 1, 1) := by decide +kernel
theorem dX10_crossingsOf_9 : decode cX10_crossingsOf 9 = .ok (.invokevirtual 213, 3) := by decide +kernel
theorem dX10_crossingsOf_12 : decode cX10_crossingsOf 12 = .ok (.if_icmp .ge 181, 3) := by decide +kernel
theorem dX10_crossingsOf_15 : decode cX10_crossingsOf 15 = .ok (.iconst 0, 1) := by decide +kernel
theorem dX10_crossingsOf_16 : decode cX10_crossingsOf 16 = .ok (.istore 5, 2) := by decide +kernel
theorem dX10_crossingsOf_18 : decode cX10_crossingsOf 18 = .ok (.iload 5, 2) := by decide +kernel
theorem dX10_crossingsOf_20 : decode cX10_crossingsOf 20 = .ok (.aload_n 0, 1) := by decide +kernel
theorem dX10_crossingsOf_21 : decode cX10_crossingsOf 21 = .ok (.iload_n 2, 1) := by decide +kernel
theorem dX10_crossingsOf_22 : decode cX10_crossingsOf 22 = .ok (.invokevirtual 213, 3) := by decide +kernel
theorem dX10_crossingsOf_25 : decode cX10_crossingsOf 25 = .ok (.if_icmp .ge 162, 3) := by decide +kernel
theorem dX10_crossingsOf_28 : decode cX10_crossingsOf 28 = .ok (.aload_n 0, 1) := by decide +kernel
theorem dX10_crossingsOf_29 : decode cX10_crossingsOf 29 = .ok (.iload_n 1, 1) := by decide +kernel
theorem dX10_crossingsOf_30 : decode cX10_crossingsOf 30 = .ok (.iload 4, 2) := by decide +kernel
theorem dX10_crossingsOf_32 : decode cX10_crossingsOf 32 = .ok (.invokevirtual 216, 3) := by decide +kernel
theorem dX10_crossingsOf_35 : decode cX10_crossingsOf 35 = .ok (.istore 6, 2) := by decide +kernel
theorem dX10_crossingsOf_37 : decode cX10_crossingsOf 37 = .ok (.iload 6, 2) := by decide +kernel
theorem dX10_crossingsOf_39 : decode cX10_crossingsOf 39 = .ok (.aload_n 0, 1) := by decide +kernel
theorem dX10_crossingsOf_40 : decode cX10_crossingsOf 40 = .ok (.iload_n 2, 1) := by decide +kernel
theorem dX10_crossingsOf_41 : decode cX10_crossingsOf 41 = .ok (.iload 5, 2) := by decide +kernel
theorem dX10_crossingsOf_43 : decode cX10_crossingsOf 43 = .ok (.invokevirtual 216, 3) := by decide +kernel
theorem dX10_crossingsOf_46 : decode cX10_crossingsOf 46 = .ok (.if_icmp .eq 135, 3) := by decide +kernel
theorem dX10_crossingsOf_49 : decode cX10_crossingsOf 49 = .ok (.iload 6, 2) := by decide +kernel
theorem dX10_crossingsOf_51 : decode cX10_crossingsOf 51 = .ok (.ifCond .eq 7, 3) := by decide +kernel
theorem dX10_crossingsOf_54 : decode cX10_crossingsOf 54 = .ok (.iload_n 1, 1) := by decide +kernel
theorem dX10_crossingsOf_55 : decode cX10_crossingsOf 55 = .ok (.goto 4, 3) := by decide +kernel
theorem dX10_crossingsOf_58 : decode cX10_crossingsOf 58 = .ok (.iload_n 2, 1) := by decide +kernel
theorem dX10_crossingsOf_59 : decode cX10_crossingsOf 59 = .ok (.istore 7, 2) := by decide +kernel
theorem dX10_crossingsOf_61 : decode cX10_crossingsOf 61 = .ok (.iload 6, 2) := by decide +kernel
theorem dX10_crossingsOf_63 : decode cX10_crossingsOf 63 = .ok (.ifCond .eq 8, 3) := by decide +kernel
theorem dX10_crossingsOf_66 : decode cX10_crossingsOf 66 = .ok (.iload 4, 2) := by decide +kernel
theorem dX10_crossingsOf_68 : decode cX10_crossingsOf 68 = .ok (.goto 5, 3) := by decide +kernel
theorem dX10_crossingsOf_71 : decode cX10_crossingsOf 71 = .ok (.iload 5, 2) := by decide +kernel
theorem dX10_crossingsOf_73 : decode cX10_crossingsOf 73 = .ok (.istore 8, 2) := by decide +kernel
theorem dX10_crossingsOf_75 : decode cX10_crossingsOf 75 = .ok (.iload 6, 2) := by decide +kernel
theorem dX10_crossingsOf_77 : decode cX10_crossingsOf 77 = .ok (.ifCond .eq 7, 3) := by decide +kernel
theorem dX10_crossingsOf_80 : decode cX10_crossingsOf 80 = .ok (.iload_n 2, 1) := by decide +kernel
theorem dX10_crossingsOf_81 : decode cX10_crossingsOf 81 = .ok (.goto 4, 3) := by decide +kernel
theorem dX10_crossingsOf_84 : decode cX10_crossingsOf 84 = .ok (.iload_n 1, 1) := by decide +kernel
theorem dX10_crossingsOf_85 : decode cX10_crossingsOf 85 = .ok (.istore 9, 2) := by decide +kernel
theorem dX10_crossingsOf_87 : decode cX10_crossingsOf 87 = .ok (.iload 6, 2) := by decide +kernel
theorem dX10_crossingsOf_89 : decode cX10_crossingsOf 89 = .ok (.ifCond .eq 8, 3) := by decide +kernel
theorem dX10_crossingsOf_92 : decode cX10_crossingsOf 92 = .ok (.iload 5, 2) := by decide +kernel
theorem dX10_crossingsOf_94 : decode cX10_crossingsOf 94 = .ok (.goto 5, 3) := by decide +kernel
theorem dX10_crossingsOf_97 : decode cX10_crossingsOf 97 = .ok (.iload 4, 2) := by decide +kernel
theorem dX10_crossingsOf_99 : decode cX10_crossingsOf 99 = .ok (.istore 10, 2) := by decide +kernel
theorem dX10_crossingsOf_101 : decode cX10_crossingsOf 101 = .ok (.aload_n 0, 1) := by decide +kernel
theorem dX10_crossingsOf_102 : decode cX10_crossingsOf 102 = .ok (.iload 9, 2) := by decide +kernel
theorem dX10_crossingsOf_104 : decode cX10_crossingsOf 104 = .ok (.iload 10, 2) := by decide +kernel
theorem dX10_crossingsOf_106 : decode cX10_crossingsOf 106 = .ok (.invokevirtual 117, 3) := by decide +kernel
theorem dX10_crossingsOf_109 : decode cX10_crossingsOf 109 = .ok (.istore 11, 2) := by decide +kernel
theorem dX10_crossingsOf_111 : decode cX10_crossingsOf 111 = .ok (.aload_n 0, 1) := by decide +kernel
theorem dX10_crossingsOf_112 : decode cX10_crossingsOf 112 = .ok (.iload 7, 2) := by decide +kernel
theorem dX10_crossingsOf_114 : decode cX10_crossingsOf 114 = .ok (.iload 8, 2) := by decide +kernel
theorem dX10_crossingsOf_116 : decode cX10_crossingsOf 116 = .ok (.invokevirtual 124, 3) := by decide +kernel
theorem dX10_crossingsOf_119 : decode cX10_crossingsOf 119 = .ok (.istore 12, 2) := by decide +kernel
theorem dX10_crossingsOf_121 : decode cX10_crossingsOf 121 = .ok (.iload_n 3, 1) := by decide +kernel
theorem dX10_crossingsOf_122 : decode cX10_crossingsOf 122 = .ok (.iload 11, 2) := by decide +kernel
theorem dX10_crossingsOf_124 : decode cX10_crossingsOf 124 = .ok (.aload_n 0, 1) := by decide +kernel
theorem dX10_crossingsOf_125 : decode cX10_crossingsOf 125 = .ok (.iload 7, 2) := by decide +kernel
theorem dX10_crossingsOf_127 : decode cX10_crossingsOf 127 = .ok (.iload 8, 2) := by decide +kernel
theorem dX10_crossingsOf_129 : decode cX10_crossingsOf 129 = .ok (.invokevirtual 201, 3) := by decide +kernel
theorem dX10_crossingsOf_132 : decode cX10_crossingsOf 132 = .ok (.if_icmp .le 46, 3) := by decide +kernel
theorem dX10_crossingsOf_135 : decode cX10_crossingsOf 135 = .ok (.iload 11, 2) := by decide +kernel
theorem dX10_crossingsOf_137 : decode cX10_crossingsOf 137 = .ok (.aload_n 0, 1) := by decide +kernel
theorem dX10_crossingsOf_138 : decode cX10_crossingsOf 138 = .ok (.iload 7, 2) := by decide +kernel
theorem dX10_crossingsOf_140 : decode cX10_crossingsOf 140 = .ok (.iload 8, 2) := by decide +kernel
theorem dX10_crossingsOf_142 : decode cX10_crossingsOf 142 = .ok (.invokevirtual 207, 3) := by decide +kernel
theorem dX10_crossingsOf_145 : decode cX10_crossingsOf 145 = .ok (.if_icmp .ge 33, 3) := by decide +kernel
theorem dX10_crossingsOf_148 : decode cX10_crossingsOf 148 = .ok (.iload 12, 2) := by decide +kernel
theorem dX10_crossingsOf_150 : decode cX10_crossingsOf 150 = .ok (.aload_n 0, 1) := by decide +kernel
theorem dX10_crossingsOf_151 : decode cX10_crossingsOf 151 = .ok (.iload 9, 2) := by decide +kernel
theorem dX10_crossingsOf_153 : decode cX10_crossingsOf 153 = .ok (.iload 10, 2) := by decide +kernel
theorem dX10_crossingsOf_155 : decode cX10_crossingsOf 155 = .ok (.invokevirtual 204, 3) := by decide +kernel
theorem dX10_crossingsOf_158 : decode cX10_crossingsOf 158 = .ok (.if_icmp .le 20, 3) := by decide +kernel
theorem dX10_crossingsOf_161 : decode cX10_crossingsOf 161 = .ok (.iload 12, 2) := by decide +kernel
theorem dX10_crossingsOf_163 : decode cX10_crossingsOf 163 = .ok (.aload_n 0, 1) := by decide +kernel
theorem dX10_crossingsOf_164 : decode cX10_crossingsOf 164 = .ok (.iload 9, 2) := by decide +kernel
theorem dX10_crossingsOf_166 : decode cX10_crossingsOf 166 = .ok (.iload 10, 2) := by decide +kernel
theorem dX10_crossingsOf_168 : decode cX10_crossingsOf 168 = .ok (.invokevirtual 210, 3) := by decide +kernel
theorem dX10_crossingsOf_171 : decode cX10_crossingsOf 171 = .ok (.if_icmp .ge 7, 3) := by decide +kernel
theorem dX10_crossingsOf_174 : decode cX10_crossingsOf 174 = .ok (.iconst 1, 1) := by decide +kernel
theorem dX10_crossingsOf_175 : decode cX10_crossingsOf 175 = .ok (.goto 4, 3) := by decide +kernel
theorem dX10_crossingsOf_178 : decode cX10_crossingsOf 178 = .ok (.iconst 0, 1) := by decide +kernel
theorem dX10_crossingsOf_179 : decode cX10_crossingsOf 179 = .ok (.iadd, 1) := by decide +kernel
theorem dX10_crossingsOf_180 : decode cX10_crossingsOf 180 = .ok (.istore_n 3, 1) := by decide +kernel
theorem dX10_crossingsOf_181 : decode cX10_crossingsOf 181 = .ok (.iinc 5 1, 3) := by decide +kernel
theorem dX10_crossingsOf_184 : decode cX10_crossingsOf 184 = .ok (.goto (-166), 3) := by decide +kernel
theorem dX10_crossingsOf_187 : decode cX10_crossingsOf 187 = .ok (.iinc 4 1, 3) := by decide +kernel
theorem dX10_crossingsOf_190 : decode cX10_crossingsOf 190 = .ok (.goto (-185), 3) := by decide +kernel
theorem dX10_crossingsOf_193 : decode cX10_crossingsOf 193 = .ok (.iload_n 3, 1) := by decide +kernel
theorem dX10_crossingsOf_194 : decode cX10_crossingsOf 194 = .ok (.ireturn, 1) := by decide +kernel
theorem dX10_crossings_0 : decode cX10_crossings 0 = .ok (.aload_n 0, 1) := by decide +kernel
theorem dX10_crossings_1 : decode cX10_crossings 1 = .ok (.iload_n 1, 1) := by decide +kernel
theorem dX10_crossings_2 : decode cX10_crossings 2 = .ok (.invokevirtual 111, 3) := by decide +kernel
theorem dX10_crossings_5 : decode cX10_crossings 5 = .ok (.ifCond .eq 11, 3) := by decide +kernel
theorem dX10_crossings_8 : decode cX10_crossings 8 = .ok (.aload_n 0, 1) := by decide +kernel
theorem dX10_crossings_9 : decode cX10_crossings 9 = .ok (.iload_n 2, 1) := by decide +kernel
theorem dX10_crossings_10 : decode cX10_crossings 10 = .ok (.invokevirtual 111, 3) := by decide +kernel
theorem dX10_crossings_13 : decode cX10_crossings 13 = .ok (.ifCond .ne 7, 3) := by decide +kernel
theorem dX10_crossings_16 : decode cX10_crossings 16 = .ok (.sipush (-1001), 3) := by decide +kernel
theorem dX10_crossings_19 : decode cX10_crossings 19 = .ok (.ireturn, 1) := by decide +kernel
theorem dX10_crossings_20 : decode cX10_crossings 20 = .ok (.iload_n 1, 1) := by decide +kernel
theorem dX10_crossings_21 : decode cX10_crossings 21 = .ok (.iload_n 2, 1) := by decide +kernel
theorem dX10_crossings_22 : decode cX10_crossings 22 = .ok (.if_icmp .ne 7, 3) := by decide +kernel
theorem dX10_crossings_25 : decode cX10_crossings 25 = .ok (.iconst 0, 1) := by decide +kernel
theorem dX10_crossings_26 : decode cX10_crossings 26 = .ok (.goto 9, 3) := by decide +kernel
theorem dX10_crossings_29 : decode cX10_crossings 29 = .ok (.aload_n 0, 1) := by decide +kernel
theorem dX10_crossings_30 : decode cX10_crossings 30 = .ok (.iload_n 1, 1) := by decide +kernel
theorem dX10_crossings_31 : decode cX10_crossings 31 = .ok (.iload_n 2, 1) := by decide +kernel
theorem dX10_crossings_32 : decode cX10_crossings 32 = .ok (.invokevirtual 131, 3) := by decide +kernel
theorem dX10_crossings_35 : decode cX10_crossings 35 = .ok (.ireturn, 1) := by decide +kernel
theorem dX10_common_0 : decode cX10_common 0 = .ok (.aload_n 0, 1) := by decide +kernel
theorem dX10_common_1 : decode cX10_common 1 = .ok (.iload_n 1, 1) := by decide +kernel
theorem dX10_common_2 : decode cX10_common 2 = .ok (.iload_n 2, 1) := by decide +kernel
theorem dX10_common_3 : decode cX10_common 3 = .ok (.invokevirtual 216, 3) := by decide +kernel
theorem dX10_common_6 : decode cX10_common 6 = .ok (.istore 5, 2) := by decide +kernel
theorem dX10_common_8 : decode cX10_common 8 = .ok (.iload 5, 2) := by decide +kernel
theorem dX10_common_10 : decode cX10_common 10 = .ok (.aload_n 0, 1) := by decide +kernel
theorem dX10_common_11 : decode cX10_common 11 = .ok (.iload_n 3, 1) := by decide +kernel
theorem dX10_common_12 : decode cX10_common 12 = .ok (.iload 4, 2) := by decide +kernel
theorem dX10_common_14 : decode cX10_common 14 = .ok (.invokevirtual 216, 3) := by decide +kernel
theorem dX10_common_17 : decode cX10_common 17 = .ok (.if_icmp .ne 43, 3) := by decide +kernel
theorem dX10_common_20 : decode cX10_common 20 = .ok (.iload 5, 2) := by decide +kernel
theorem dX10_common_22 : decode cX10_common 22 = .ok (.ifCond .eq 22, 3) := by decide +kernel
theorem dX10_common_25 : decode cX10_common 25 = .ok (.aload_n 0, 1) := by decide +kernel
theorem dX10_common_26 : decode cX10_common 26 = .ok (.iload_n 1, 1) := by decide +kernel
theorem dX10_common_27 : decode cX10_common 27 = .ok (.iload_n 2, 1) := by decide +kernel
theorem dX10_common_28 : decode cX10_common 28 = .ok (.invokevirtual 124, 3) := by decide +kernel
theorem dX10_common_31 : decode cX10_common 31 = .ok (.aload_n 0, 1) := by decide +kernel
theorem dX10_common_32 : decode cX10_common 32 = .ok (.iload_n 3, 1) := by decide +kernel
