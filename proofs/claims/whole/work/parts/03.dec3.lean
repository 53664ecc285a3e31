theorem dX10_goesDay_177 : decode cX10_goesDay 177 = .ok (.iload 5, 2) := by decide +kernel
theorem dX10_goesDay_179 : decode cX10_goesDay 179 = .ok (.iaload, 1) := by decide +kernel
theorem dX10_goesDay_180 : decode cX10_goesDay 180 = .ok (.istore 5, 2) := by decide +kernel
theorem dX10_goesDay_182 : decode cX10_goesDay 182 = .ok (.goto (-81), 3) := by decide +kernel
theorem dX10_goesDay_185 : decode cX10_goesDay 185 = .ok (.iconst 0, 1) := by decide +kernel
theorem dX10_goesDay_186 : decode cX10_goesDay 186 = .ok (.istore 5, 2) := by decide +kernel
theorem dX10_goesDay_188 : decode cX10_goesDay 188 = .ok (.iload 5, 2) := by decide +kernel
theorem dX10_goesDay_190 : decode cX10_goesDay 190 = .ok (.aload_n 0, 1) := by decide +kernel
theorem dX10_goesDay_191 : decode cX10_goesDay 191 = .ok (.getfield 273, 3) := by decide +kernel
theorem dX10_goesDay_194 : decode cX10_goesDay 194 = .ok (.if_icmp .ge 66, 3) := by decide +kernel
theorem dX10_goesDay_197 : decode cX10_goesDay 197 = .ok (.aload_n 0, 1) := by decide +kernel
theorem dX10_goesDay_198 : decode cX10_goesDay 198 = .ok (.getfield 46, 3) := by decide +kernel
theorem dX10_goesDay_201 : decode cX10_goesDay 201 = .ok (.iload 5, 2) := by decide +kernel
theorem dX10_goesDay_203 : decode cX10_goesDay 203 = .ok (.iaload, 1) := by decide +kernel
theorem dX10_goesDay_204 : decode cX10_goesDay 204 = .ok (.iload_n 2, 1) := by decide +kernel
theorem dX10_goesDay_205 : decode cX10_goesDay 205 = .ok (.if_icmp .ne 49, 3) := by decide +kernel
theorem dX10_goesDay_208 : decode cX10_goesDay 208 = .ok (.iload 4, 2) := by decide +kernel
theorem dX10_goesDay_210 : decode cX10_goesDay 210 = .ok (.i2l, 1) := by decide +kernel
theorem dX10_goesDay_211 : decode cX10_goesDay 211 = .ok (.aload_n 0, 1) := by decide +kernel
theorem dX10_goesDay_212 : decode cX10_goesDay 212 = .ok (.getfield 40, 3) := by decide +kernel
theorem dX10_goesDay_215 : decode cX10_goesDay 215 = .ok (.iload 5, 2) := by decide +kernel
theorem dX10_goesDay_217 : decode cX10_goesDay 217 = .ok (.iaload, 1) := by decide +kernel
theorem dX10_goesDay_218 : decode cX10_goesDay 218 = .ok (.invokestatic 276, 3) := by decide +kernel
theorem dX10_goesDay_221 : decode cX10_goesDay 221 = .ok (.ifCond .eq 6, 3) := by decide +kernel
theorem dX10_goesDay_224 : decode cX10_goesDay 224 = .ok (.goto 30, 3) := by decide +kernel
theorem dX10_goesDay_227 : decode cX10_goesDay 227 = .ok (.aload_n 0, 1) := by decide +kernel
theorem dX10_goesDay_228 : decode cX10_goesDay 228 = .ok (.getfield 79, 3) := by decide +kernel
theorem dX10_goesDay_231 : decode cX10_goesDay 231 = .ok (.iload 5, 2) := by decide +kernel
theorem dX10_goesDay_233 : decode cX10_goesDay 233 = .ok (.iconst 1, 1) := by decide +kernel
theorem dX10_goesDay_234 : decode cX10_goesDay 234 = .ok (.bastore, 1) := by decide +kernel
theorem dX10_goesDay_235 : decode cX10_goesDay 235 = .ok (.aload_n 0, 1) := by decide +kernel
theorem dX10_goesDay_236 : decode cX10_goesDay 236 = .ok (.aload_n 0, 1) := by decide +kernel
theorem dX10_goesDay_237 : decode cX10_goesDay 237 = .ok (.getfield 40, 3) := by decide +kernel
theorem dX10_goesDay_240 : decode cX10_goesDay 240 = .ok (.iload 5, 2) := by decide +kernel
theorem dX10_goesDay_242 : decode cX10_goesDay 242 = .ok (.iaload, 1) := by decide +kernel
theorem dX10_goesDay_243 : decode cX10_goesDay 243 = .ok (.aload_n 0, 1) := by decide +kernel
theorem dX10_goesDay_244 : decode cX10_goesDay 244 = .ok (.getfield 43, 3) := by decide +kernel
theorem dX10_goesDay_247 : decode cX10_goesDay 247 = .ok (.iload 5, 2) := by decide +kernel
theorem dX10_goesDay_249 : decode cX10_goesDay 249 = .ok (.iaload, 1) := by decide +kernel
theorem dX10_goesDay_250 : decode cX10_goesDay 250 = .ok (.iload_n 2, 1) := by decide +kernel
theorem dX10_goesDay_251 : decode cX10_goesDay 251 = .ok (.invokevirtual 290, 3) := by decide +kernel
theorem dX10_goesDay_254 : decode cX10_goesDay 254 = .ok (.iinc 5 1, 3) := by decide +kernel
theorem dX10_goesDay_257 : decode cX10_goesDay 257 = .ok (.goto (-69), 3) := by decide +kernel
theorem dX10_goesDay_260 : decode cX10_goesDay 260 = .ok (.iload_n 1, 1) := by decide +kernel
theorem dX10_goesDay_261 : decode cX10_goesDay 261 = .ok (.istore 5, 2) := by decide +kernel
theorem dX10_goesDay_263 : decode cX10_goesDay 263 = .ok (.iload 5, 2) := by decide +kernel
theorem dX10_goesDay_265 : decode cX10_goesDay 265 = .ok (.iload_n 3, 1) := by decide +kernel
theorem dX10_goesDay_266 : decode cX10_goesDay 266 = .ok (.if_icmp .ge 94, 3) := by decide +kernel
theorem dX10_goesDay_269 : decode cX10_goesDay 269 = .ok (.aload_n 0, 1) := by decide +kernel
theorem dX10_goesDay_270 : decode cX10_goesDay 270 = .ok (.getfield 67, 3) := by decide +kernel
theorem dX10_goesDay_273 : decode cX10_goesDay 273 = .ok (.iload 5, 2) := by decide +kernel
theorem dX10_goesDay_275 : decode cX10_goesDay 275 = .ok (.iaload, 1) := by decide +kernel
theorem dX10_goesDay_276 : decode cX10_goesDay 276 = .ok (.istore 6, 2) := by decide +kernel
theorem dX10_goesDay_278 : decode cX10_goesDay 278 = .ok (.iload 4, 2) := by decide +kernel
theorem dX10_goesDay_280 : decode cX10_goesDay 280 = .ok (.i2l, 1) := by decide +kernel
theorem dX10_goesDay_281 : decode cX10_goesDay 281 = .ok (.iload 6, 2) := by decide +kernel
theorem dX10_goesDay_283 : decode cX10_goesDay 283 = .ok (.invokestatic 276, 3) := by decide +kernel
theorem dX10_goesDay_286 : decode cX10_goesDay 286 = .ok (.ifCond .ne 68, 3) := by decide +kernel
theorem dX10_goesDay_289 : decode cX10_goesDay 289 = .ok (.aload_n 0, 1) := by decide +kernel
theorem dX10_goesDay_290 : decode cX10_goesDay 290 = .ok (.aload_n 0, 1) := by decide +kernel
theorem dX10_goesDay_291 : decode cX10_goesDay 291 = .ok (.getfield 73, 3) := by decide +kernel
theorem dX10_goesDay_294 : decode cX10_goesDay 294 = .ok (.iload 5, 2) := by decide +kernel
theorem dX10_goesDay_296 : decode cX10_goesDay 296 = .ok (.iaload, 1) := by decide +kernel
theorem dX10_goesDay_297 : decode cX10_goesDay 297 = .ok (.iload 6, 2) := by decide +kernel
theorem dX10_goesDay_299 : decode cX10_goesDay 299 = .ok (.aload_n 0, 1) := by decide +kernel
theorem dX10_goesDay_300 : decode cX10_goesDay 300 = .ok (.getfield 49, 3) := by decide +kernel
theorem dX10_goesDay_303 : decode cX10_goesDay 303 = .ok (.bipush 6, 2) := by decide +kernel
theorem dX10_goesDay_305 : decode cX10_goesDay 305 = .ok (.aload_n 0, 1) := by decide +kernel
theorem dX10_goesDay_306 : decode cX10_goesDay 306 = .ok (.getfield 73, 3) := by decide +kernel
theorem dX10_goesDay_309 : decode cX10_goesDay 309 = .ok (.iload 5, 2) := by decide +kernel
theorem dX10_goesDay_311 : decode cX10_goesDay 311 = .ok (.iaload, 1) := by decide +kernel
theorem dX10_goesDay_312 : decode cX10_goesDay 312 = .ok (.imul, 1) := by decide +kernel
theorem dX10_goesDay_313 : decode cX10_goesDay 313 = .ok (.iload 6, 2) := by decide +kernel
theorem dX10_goesDay_315 : decode cX10_goesDay 315 = .ok (.iadd, 1) := by decide +kernel
theorem dX10_goesDay_316 : decode cX10_goesDay 316 = .ok (.iaload, 1) := by decide +kernel
theorem dX10_goesDay_317 : decode cX10_goesDay 317 = .ok (.iload_n 2, 1) := by decide +kernel
theorem dX10_goesDay_318 : decode cX10_goesDay 318 = .ok (.iconst 1, 1) := by decide +kernel
theorem dX10_goesDay_319 : decode cX10_goesDay 319 = .ok (.isub, 1) := by decide +kernel
theorem dX10_goesDay_320 : decode cX10_goesDay 320 = .ok (.invokevirtual 293, 3) := by decide +kernel
theorem dX10_goesDay_323 : decode cX10_goesDay 323 = .ok (.ifCond .ne 6, 3) := by decide +kernel
theorem dX10_goesDay_326 : decode cX10_goesDay 326 = .ok (.goto 28, 3) := by decide +kernel
theorem dX10_goesDay_329 : decode cX10_goesDay 329 = .ok (.aload_n 0, 1) := by decide +kernel
theorem dX10_goesDay_330 : decode cX10_goesDay 330 = .ok (.getfield 76, 3) := by decide +kernel
theorem dX10_goesDay_333 : decode cX10_goesDay 333 = .ok (.iload 6, 2) := by decide +kernel
theorem dX10_goesDay_335 : decode cX10_goesDay 335 = .ok (.dup2, 1) := by decide +kernel
theorem dX10_goesDay_336 : decode cX10_goesDay 336 = .ok (.iaload, 1) := by decide +kernel
theorem dX10_goesDay_337 : decode cX10_goesDay 337 = .ok (.iconst 1, 1) := by decide +kernel
theorem dX10_goesDay_338 : decode cX10_goesDay 338 = .ok (.iadd, 1) := by decide +kernel
theorem dX10_goesDay_339 : decode cX10_goesDay 339 = .ok (.iastore, 1) := by decide +kernel
theorem dX10_goesDay_340 : decode cX10_goesDay 340 = .ok (.aload_n 0, 1) := by decide +kernel
theorem dX10_goesDay_341 : decode cX10_goesDay 341 = .ok (.iload 6, 2) := by decide +kernel
theorem dX10_goesDay_343 : decode cX10_goesDay 343 = .ok (.aload_n 0, 1) := by decide +kernel
theorem dX10_goesDay_344 : decode cX10_goesDay 344 = .ok (.getfield 73, 3) := by decide +kernel
theorem dX10_goesDay_347 : decode cX10_goesDay 347 = .ok (.iload 5, 2) := by decide +kernel
theorem dX10_goesDay_349 : decode cX10_goesDay 349 = .ok (.iaload, 1) := by decide +kernel
theorem dX10_goesDay_350 : decode cX10_goesDay 350 = .ok (.iload_n 2, 1) := by decide +kernel
theorem dX10_goesDay_351 : decode cX10_goesDay 351 = .ok (.invokevirtual 290, 3) := by decide +kernel
theorem dX10_goesDay_354 : decode cX10_goesDay 354 = .ok (.iinc 5 1, 3) := by decide +kernel
theorem dX10_goesDay_357 : decode cX10_goesDay 357 = .ok (.goto (-94), 3) := by decide +kernel
theorem dX10_goesDay_360 : decode cX10_goesDay 360 = .ok (.iload_n 3, 1) := by decide +kernel
theorem dX10_goesDay_361 : decode cX10_goesDay 361 = .ok (.istore_n 1, 1) := by decide +kernel
theorem dX10_goesDay_362 : decode cX10_goesDay 362 = .ok (.iinc 2 1, 3) := by decide +kernel
theorem dX10_goesDay_365 : decode cX10_goesDay 365 = .ok (.goto (-286), 3) := by decide +kernel
theorem dX10_goesDay_368 : decode cX10_goesDay 368 = .ok (.return_, 1) := by decide +kernel
theorem dX10_laysDay_0 : decode cX10_laysDay 0 = .ok (.aload_n 0, 1) := by decide +kernel
theorem dX10_laysDay_1 : decode cX10_laysDay 1 = .ok (.invokevirtual 297, 3) := by decide +kernel
theorem dX10_laysDay_4 : decode cX10_laysDay 4 = .ok (.aload_n 0, 1) := by decide +kernel
theorem dX10_laysDay_5 : decode cX10_laysDay 5 = .ok (.iconst 1, 1) := by decide +kernel
theorem dX10_laysDay_6 : decode cX10_laysDay 6 = .ok (.aload_n 0, 1) := by decide +kernel
theorem dX10_laysDay_7 : decode cX10_laysDay 7 = .ok (.getfield 13, 3) := by decide +kernel
theorem dX10_laysDay_10 : decode cX10_laysDay 10 = .ok (.bipush 31, 2) := by decide +kernel
theorem dX10_laysDay_12 : decode cX10_laysDay 12 = .ok (.iaload, 1) := by decide +kernel
theorem dX10_laysDay_13 : decode cX10_laysDay 13 = .ok (.ishl, 1) := by decide +kernel
theorem dX10_laysDay_14 : decode cX10_laysDay 14 = .ok (.iconst 1, 1) := by decide +kernel
theorem dX10_laysDay_15 : decode cX10_laysDay 15 = .ok (.isub, 1) := by decide +kernel
theorem dX10_laysDay_16 : decode cX10_laysDay 16 = .ok (.invokevirtual 300, 3) := by decide +kernel
theorem dX10_laysDay_19 : decode cX10_laysDay 19 = .ok (.aload_n 0, 1) := by decide +kernel
theorem dX10_laysDay_20 : decode cX10_laysDay 20 = .ok (.invokevirtual 303, 3) := by decide +kernel
theorem dX10_laysDay_23 : decode cX10_laysDay 23 = .ok (.return_, 1) := by decide +kernel
theorem dX10_hiccupsOf_0 : decode cX10_hiccupsOf 0 = .ok (.iconst 0, 1) := by decide +kernel
theorem dX10_hiccupsOf_1 : decode cX10_hiccupsOf 1 = .ok (.istore_n 2, 1) := by decide +kernel
theorem dX10_hiccupsOf_2 : decode cX10_hiccupsOf 2 = .ok (.iconst 0, 1) := by decide +kernel
theorem dX10_hiccupsOf_3 : decode cX10_hiccupsOf 3 = .ok (.istore_n 3, 1) := by decide +kernel
theorem dX10_hiccupsOf_4 : decode cX10_hiccupsOf 4 = .ok (.iload_n 3, 1) := by decide +kernel
theorem dX10_hiccupsOf_5 : decode cX10_hiccupsOf 5 = .ok (.aload_n 0, 1) := by decide +kernel
theorem dX10_hiccupsOf_6 : decode cX10_hiccupsOf 6 = .ok (.getfield 287, 3) := by decide +kernel
theorem dX10_hiccupsOf_9 : decode cX10_hiccupsOf 9 = .ok (.if_icmp .ge 27, 3) := by decide +kernel
theorem dX10_hiccupsOf_12 : decode cX10_hiccupsOf 12 = .ok (.iload_n 2, 1) := by decide +kernel
theorem dX10_hiccupsOf_13 : decode cX10_hiccupsOf 13 = .ok (.aload_n 0, 1) := by decide +kernel
theorem dX10_hiccupsOf_14 : decode cX10_hiccupsOf 14 = .ok (.getfield 67, 3) := by decide +kernel
theorem dX10_hiccupsOf_17 : decode cX10_hiccupsOf 17 = .ok (.iload_n 3, 1) := by decide +kernel
theorem dX10_hiccupsOf_18 : decode cX10_hiccupsOf 18 = .ok (.iaload, 1) := by decide +kernel
theorem dX10_hiccupsOf_19 : decode cX10_hiccupsOf 19 = .ok (.iload_n 1, 1) := by decide +kernel
theorem dX10_hiccupsOf_20 : decode cX10_hiccupsOf 20 = .ok (.if_icmp .ne 7, 3) := by decide +kernel
theorem dX10_hiccupsOf_23 : decode cX10_hiccupsOf 23 = .ok (.iconst 1, 1) := by decide +kernel
theorem dX10_hiccupsOf_24 : decode cX10_hiccupsOf 24 = .ok (.goto 4, 3) := by decide +kernel
theorem dX10_hiccupsOf_27 : decode cX10_hiccupsOf 27 = .ok (.iconst 0, 1) := by decide +kernel
theorem dX10_hiccupsOf_28 : decode cX10_hiccupsOf 28 = .ok (.iadd, 1) := by decide +kernel
theorem dX10_hiccupsOf_29 : decode cX10_hiccupsOf 29 = .ok (.istore_n 2, 1) := by decide +kernel
theorem dX10_hiccupsOf_30 : decode cX10_hiccupsOf 30 = .ok (.iinc 3 1, 3) := by decide +kernel
theorem dX10_hiccupsOf_33 : decode cX10_hiccupsOf 33 = .ok (.goto (-29), 3) := by decide +kernel
theorem dX10_hiccupsOf_36 : decode cX10_hiccupsOf 36 = .ok (.iload_n 2, 1) := by decide +kernel
theorem dX10_hiccupsOf_37 : decode cX10_hiccupsOf 37 = .ok (.ireturn, 1) := by decide +kernel
theorem dX10_nobodies_0 : decode cX10_nobodies 0 = .ok (.iconst 1, 1) := by decide +kernel
theorem dX10_nobodies_1 : decode cX10_nobodies 1 = .ok (.aload_n 0, 1) := by decide +kernel
theorem dX10_nobodies_2 : decode cX10_nobodies 2 = .ok (.getfield 13, 3) := by decide +kernel
theorem dX10_nobodies_5 : decode cX10_nobodies 5 = .ok (.iconst 3, 1) := by decide +kernel
theorem dX10_nobodies_6 : decode cX10_nobodies 6 = .ok (.iaload, 1) := by decide +kernel
theorem dX10_nobodies_7 : decode cX10_nobodies 7 = .ok (.ishl, 1) := by decide +kernel
theorem dX10_nobodies_8 : decode cX10_nobodies 8 = .ok (.iconst 1, 1) := by decide +kernel
theorem dX10_nobodies_9 : decode cX10_nobodies 9 = .ok (.isub, 1) := by decide +kernel
theorem dX10_nobodies_10 : decode cX10_nobodies 10 = .ok (.istore_n 1, 1) := by decide +kernel
theorem dX10_nobodies_11 : decode cX10_nobodies 11 = .ok (.iconst 0, 1) := by decide +kernel
theorem dX10_nobodies_12 : decode cX10_nobodies 12 = .ok (.istore_n 2, 1) := by decide +kernel
theorem dX10_nobodies_13 : decode cX10_nobodies 13 = .ok (.iload_n 2, 1) := by decide +kernel
theorem dX10_nobodies_14 : decode cX10_nobodies 14 = .ok (.aload_n 0, 1) := by decide +kernel
theorem dX10_nobodies_15 : decode cX10_nobodies 15 = .ok (.getfield 287, 3) := by decide +kernel
theorem dX10_nobodies_18 : decode cX10_nobodies 18 = .ok (.if_icmp .ge 22, 3) := by decide +kernel
theorem dX10_nobodies_21 : decode cX10_nobodies 21 = .ok (.iload_n 1, 1) := by decide +kernel
theorem dX10_nobodies_22 : decode cX10_nobodies 22 = .ok (.iconst 1, 1) := by decide +kernel
theorem dX10_nobodies_23 : decode cX10_nobodies 23 = .ok (.aload_n 0, 1) := by decide +kernel
theorem dX10_nobodies_24 : decode cX10_nobodies 24 = .ok (.getfield 67, 3) := by decide +kernel
theorem dX10_nobodies_27 : decode cX10_nobodies 27 = .ok (.iload_n 2, 1) := by decide +kernel
theorem dX10_nobodies_28 : decode cX10_nobodies 28 = .ok (.iaload, 1) := by decide +kernel
theorem dX10_nobodies_29 : decode cX10_nobodies 29 = .ok (.ishl, 1) := by decide +kernel
theorem dX10_nobodies_30 : decode cX10_nobodies 30 = .ok (.iconst (-1), 1) := by decide +kernel
theorem dX10_nobodies_31 : decode cX10_nobodies 31 = .ok (.ixor, 1) := by decide +kernel
theorem dX10_nobodies_32 : decode cX10_nobodies 32 = .ok (.iand, 1) := by decide +kernel
theorem dX10_nobodies_33 : decode cX10_nobodies 33 = .ok (.istore_n 1, 1) := by decide +kernel
theorem dX10_nobodies_34 : decode cX10_nobodies 34 = .ok (.iinc 2 1, 3) := by decide +kernel
theorem dX10_nobodies_37 : decode cX10_nobodies 37 = .ok (.goto (-24), 3) := by decide +kernel
theorem dX10_nobodies_40 : decode cX10_nobodies 40 = .ok (.iload_n 1, 1) := by decide +kernel
theorem dX10_nobodies_41 : decode cX10_nobodies 41 = .ok (.ireturn, 1) := by decide +kernel
theorem dX10_naming_0 : decode cX10_naming 0 = .ok (.aload_n 0, 1) := by decide +kernel
theorem dX10_naming_1 : decode cX10_naming 1 = .ok (.iconst 0, 1) := by decide +kernel
theorem dX10_naming_2 : decode cX10_naming 2 = .ok (.putfield 1, 3) := by decide +kernel
theorem dX10_naming_5 : decode cX10_naming 5 = .ok (.iload_n 1, 1) := by decide +kernel
theorem dX10_naming_6 : decode cX10_naming 6 = .ok (.i2l, 1) := by decide +kernel
theorem dX10_naming_7 : decode cX10_naming 7 = .ok (.lconst 0, 1) := by decide +kernel
theorem dX10_naming_8 : decode cX10_naming 8 = .ok (.aload_n 0, 1) := by decide +kernel
theorem dX10_naming_9 : decode cX10_naming 9 = .ok (.getfield 13, 3) := by decide +kernel
theorem dX10_naming_12 : decode cX10_naming 12 = .ok (.bipush 31, 2) := by decide +kernel
theorem dX10_naming_14 : decode cX10_naming 14 = .ok (.iaload, 1) := by decide +kernel
theorem dX10_naming_15 : decode cX10_naming 15 = .ok (.iconst 1, 1) := by decide +kernel
theorem dX10_naming_16 : decode cX10_naming 16 = .ok (.isub, 1) := by decide +kernel
theorem dX10_naming_17 : decode cX10_naming 17 = .ok (.i2l, 1) := by decide +kernel
theorem dX10_naming_18 : decode cX10_naming 18 = .ok (.invokestatic 170, 3) := by decide +kernel
theorem dX10_naming_21 : decode cX10_naming 21 = .ok (.ifCond .eq 15, 3) := by decide +kernel
theorem dX10_naming_24 : decode cX10_naming 24 = .ok (.iload_n 2, 1) := by decide +kernel
theorem dX10_naming_25 : decode cX10_naming 25 = .ok (.i2l, 1) := by decide +kernel
theorem dX10_naming_26 : decode cX10_naming 26 = .ok (.lconst 0, 1) := by decide +kernel
theorem dX10_naming_27 : decode cX10_naming 27 = .ok (.ldc2_w 306, 3) := by decide +kernel
theorem dX10_naming_30 : decode cX10_naming 30 = .ok (.invokestatic 170, 3) := by decide +kernel
theorem dX10_naming_33 : decode cX10_naming 33 = .ok (.ifCond .ne 6, 3) := by decide +kernel
theorem dX10_naming_36 : decode cX10_naming 36 = .ok (.bipush (-2), 2) := by decide +kernel
theorem dX10_naming_38 : decode cX10_naming 38 = .ok (.ireturn, 1) := by decide +kernel
theorem dX10_naming_39 : decode cX10_naming 39 = .ok (.iload_n 2, 1) := by decide +kernel
theorem dX10_naming_40 : decode cX10_naming 40 = .ok (.iconst 4, 1) := by decide +kernel
theorem dX10_naming_41 : decode cX10_naming 41 = .ok (.if_icmp .ge 17, 3) := by decide +kernel
theorem dX10_naming_44 : decode cX10_naming 44 = .ok (.aload_n 0, 1) := by decide +kernel
theorem dX10_naming_45 : decode cX10_naming 45 = .ok (.getfield 13, 3) := by decide +kernel
theorem dX10_naming_48 : decode cX10_naming 48 = .ok (.bipush 32, 2) := by decide +kernel
theorem dX10_naming_50 : decode cX10_naming 50 = .ok (.iconst 4, 1) := by decide +kernel
theorem dX10_naming_51 : decode cX10_naming 51 = .ok (.iload_n 1, 1) := by decide +kernel
theorem dX10_naming_52 : decode cX10_naming 52 = .ok (.imul, 1) := by decide +kernel
theorem dX10_naming_53 : decode cX10_naming 53 = .ok (.iadd, 1) := by decide +kernel
theorem dX10_naming_54 : decode cX10_naming 54 = .ok (.iload_n 2, 1) := by decide +kernel
theorem dX10_naming_55 : decode cX10_naming 55 = .ok (.iadd, 1) := by decide +kernel
theorem dX10_naming_56 : decode cX10_naming 56 = .ok (.iaload, 1) := by decide +kernel
theorem dX10_naming_57 : decode cX10_naming 57 = .ok (.ireturn, 1) := by decide +kernel
theorem dX10_naming_58 : decode cX10_naming 58 = .ok (.aload_n 0, 1) := by decide +kernel
theorem dX10_naming_59 : decode cX10_naming 59 = .ok (.invokevirtual 308, 3) := by decide +kernel
theorem dX10_naming_62 : decode cX10_naming 62 = .ok (.aload_n 0, 1) := by decide +kernel
theorem dX10_naming_63 : decode cX10_naming 63 = .ok (.getfield 79, 3) := by decide +kernel
theorem dX10_naming_66 : decode cX10_naming 66 = .ok (.iload_n 1, 1) := by decide +kernel
theorem dX10_naming_67 : decode cX10_naming 67 = .ok (.baload, 1) := by decide +kernel
theorem dX10_naming_68 : decode cX10_naming 68 = .ok (.ifCond .eq 7, 3) := by decide +kernel
theorem dX10_naming_71 : decode cX10_naming 71 = .ok (.iconst 1, 1) := by decide +kernel
theorem dX10_naming_72 : decode cX10_naming 72 = .ok (.goto 4, 3) := by decide +kernel
theorem dX10_naming_75 : decode cX10_naming 75 = .ok (.iconst 0, 1) := by decide +kernel
theorem dX10_naming_76 : decode cX10_naming 76 = .ok (.ireturn, 1) := by decide +kernel
theorem dX10_stores_0 : decode cX10_stores 0 = .ok (.iconst 0, 1) := by decide +kernel
theorem dX10_stores_1 : decode cX10_stores 1 = .ok (.istore_n 1, 1) := by decide +kernel
theorem dX10_stores_2 : decode cX10_stores 2 = .ok (.iload_n 1, 1) := by decide +kernel
theorem dX10_stores_3 : decode cX10_stores 3 = .ok (.bipush 40, 2) := by decide +kernel
theorem dX10_stores_5 : decode cX10_stores 5 = .ok (.if_icmp .ge 24, 3) := by decide +kernel
theorem dX10_stores_8 : decode cX10_stores 8 = .ok (.aload_n 0, 1) := by decide +kernel
theorem dX10_stores_9 : decode cX10_stores 9 = .ok (.getfield 82, 3) := by decide +kernel
theorem dX10_stores_12 : decode cX10_stores 12 = .ok (.iload_n 1, 1) := by decide +kernel
theorem dX10_stores_13 : decode cX10_stores 13 = .ok (.aload_n 0, 1) := by decide +kernel
theorem dX10_stores_14 : decode cX10_stores 14 = .ok (.getfield 13, 3) := by decide +kernel
theorem dX10_stores_17 : decode cX10_stores 17 = .ok (.bipush 31, 2) := by decide +kernel
theorem dX10_stores_19 : decode cX10_stores 19 = .ok (.iload_n 1, 1) := by decide +kernel
theorem dX10_stores_20 : decode cX10_stores 20 = .ok (.iadd, 1) := by decide +kernel
theorem dX10_stores_21 : decode cX10_stores 21 = .ok (.iaload, 1) := by decide +kernel
theorem dX10_stores_22 : decode cX10_stores 22 = .ok (.iastore, 1) := by decide +kernel
theorem dX10_stores_23 : decode cX10_stores 23 = .ok (.iinc 1 1, 3) := by decide +kernel
theorem dX10_stores_26 : decode cX10_stores 26 = .ok (.goto (-24), 3) := by decide +kernel
theorem dX10_stores_29 : decode cX10_stores 29 = .ok (.return_, 1) := by decide +kernel
theorem dX10_isAgain_0 : decode cX10_isAgain 0 = .ok (.iconst 0, 1) := by decide +kernel
theorem dX10_isAgain_1 : decode cX10_isAgain 1 = .ok (.istore_n 1, 1) := by decide +kernel
theorem dX10_isAgain_2 : decode cX10_isAgain 2 = .ok (.iload_n 1, 1) := by decide +kernel
theorem dX10_isAgain_3 : decode cX10_isAgain 3 = .ok (.bipush 40, 2) := by decide +kernel
theorem dX10_isAgain_5 : decode cX10_isAgain 5 = .ok (.if_icmp .ge 24, 3) := by decide +kernel
theorem dX10_isAgain_8 : decode cX10_isAgain 8 = .ok (.aload_n 0, 1) := by decide +kernel
theorem dX10_isAgain_9 : decode cX10_isAgain 9 = .ok (.getfield 13, 3) := by decide +kernel
theorem dX10_isAgain_12 : decode cX10_isAgain 12 = .ok (.bipush 31, 2) := by decide +kernel
theorem dX10_isAgain_14 : decode cX10_isAgain 14 = .ok (.iload_n 1, 1) := by decide +kernel
theorem dX10_isAgain_15 : decode cX10_isAgain 15 = .ok (.iadd, 1) := by decide +kernel
theorem dX10_isAgain_16 : decode cX10_isAgain 16 = .ok (.aload_n 0, 1) := by decide +kernel
theorem dX10_isAgain_17 : decode cX10_isAgain 17 = .ok (.getfield 82, 3) := by decide +kernel
theorem dX10_isAgain_20 : decode cX10_isAgain 20 = .ok (.iload_n 1, 1) := by decide +kernel
theorem dX10_isAgain_21 : decode cX10_isAgain 21 = .ok (.iaload, 1) := by decide +kernel
theorem dX10_isAgain_22 : decode cX10_isAgain 22 = .ok (.iastore, 1) := by decide +kernel
theorem dX10_isAgain_23 : decode cX10_isAgain 23 = .ok (.iinc 1 1, 3) := by decide +kernel
theorem dX10_isAgain_26 : decode cX10_isAgain 26 = .ok (.goto (-24), 3) := by decide +kernel
theorem dX10_isAgain_29 : decode cX10_isAgain 29 = .ok (.return_, 1) := by decide +kernel
theorem dX10_notes_0 : decode cX10_notes 0 = .ok (.aload_n 0, 1) := by decide +kernel
theorem dX10_notes_1 : decode cX10_notes 1 = .ok (.getfield 13, 3) := by decide +kernel
theorem dX10_notes_4 : decode cX10_notes 4 = .ok (.bipush 71, 2) := by decide +kernel
theorem dX10_notes_6 : decode cX10_notes 6 = .ok (.iaload, 1) := by decide +kernel
theorem dX10_notes_7 : decode cX10_notes 7 = .ok (.bipush 10, 2) := by decide +kernel
theorem dX10_notes_9 : decode cX10_notes 9 = .ok (.if_icmp .ne 47, 3) := by decide +kernel
theorem dX10_notes_12 : decode cX10_notes 12 = .ok (.iconst 0, 1) := by decide +kernel
theorem dX10_notes_13 : decode cX10_notes 13 = .ok (.istore_n 1, 1) := by decide +kernel
theorem dX10_notes_14 : decode cX10_notes 14 = .ok (.iload_n 1, 1) := by decide +kernel
theorem dX10_notes_15 : decode cX10_notes 15 = .ok (.sipush 360, 3) := by decide +kernel
theorem dX10_notes_18 : decode cX10_notes 18 = .ok (.if_icmp .ge 27, 3) := by decide +kernel
theorem dX10_notes_21 : decode cX10_notes 21 = .ok (.aload_n 0, 1) := by decide +kernel
theorem dX10_notes_22 : decode cX10_notes 22 = .ok (.getfield 13, 3) := by decide +kernel
theorem dX10_notes_25 : decode cX10_notes 25 = .ok (.bipush 72, 2) := by decide +kernel
theorem dX10_notes_27 : decode cX10_notes 27 = .ok (.iload_n 1, 1) := by decide +kernel
theorem dX10_notes_28 : decode cX10_notes 28 = .ok (.iadd, 1) := by decide +kernel
theorem dX10_notes_29 : decode cX10_notes 29 = .ok (.aload_n 0, 1) := by decide +kernel
theorem dX10_notes_30 : decode cX10_notes 30 = .ok (.getfield 13, 3) := by decide +kernel
theorem dX10_notes_33 : decode cX10_notes 33 = .ok (.bipush 112, 2) := by decide +kernel
theorem dX10_notes_35 : decode cX10_notes 35 = .ok (.iload_n 1, 1) := by decide +kernel
theorem dX10_notes_36 : decode cX10_notes 36 = .ok (.iadd, 1) := by decide +kernel
theorem dX10_notes_37 : decode cX10_notes 37 = .ok (.iaload, 1) := by decide +kernel
theorem dX10_notes_38 : decode cX10_notes 38 = .ok (.iastore, 1) := by decide +kernel
theorem dX10_notes_39 : decode cX10_notes 39 = .ok (.iinc 1 1, 3) := by decide +kernel
theorem dX10_notes_42 : decode cX10_notes 42 = .ok (.goto (-28), 3) := by decide +kernel
theorem dX10_notes_45 : decode cX10_notes 45 = .ok (.aload_n 0, 1) := by decide +kernel
theorem dX10_notes_46 : decode cX10_notes 46 = .ok (.getfield 13, 3) := by decide +kernel
theorem dX10_notes_49 : decode cX10_notes 49 = .ok (.bipush 71, 2) := by decide +kernel
theorem dX10_notes_51 : decode cX10_notes 51 = .ok (.dup2, 1) := by decide +kernel
theorem dX10_notes_52 : decode cX10_notes 52 = .ok (.iaload, 1) := by decide +kernel
theorem dX10_notes_53 : decode cX10_notes 53 = .ok (.iconst 1, 1) := by decide +kernel
theorem dX10_notes_54 : decode cX10_notes 54 = .ok (.isub, 1) := by decide +kernel
theorem dX10_notes_55 : decode cX10_notes 55 = .ok (.iastore, 1) := by decide +kernel
theorem dX10_notes_56 : decode cX10_notes 56 = .ok (.iconst 0, 1) := by decide +kernel
theorem dX10_notes_57 : decode cX10_notes 57 = .ok (.istore_n 1, 1) := by decide +kernel
theorem dX10_notes_58 : decode cX10_notes 58 = .ok (.iload_n 1, 1) := by decide +kernel
theorem dX10_notes_59 : decode cX10_notes 59 = .ok (.bipush 40, 2) := by decide +kernel
theorem dX10_notes_61 : decode cX10_notes 61 = .ok (.if_icmp .ge 35, 3) := by decide +kernel
theorem dX10_notes_64 : decode cX10_notes 64 = .ok (.aload_n 0, 1) := by decide +kernel
theorem dX10_notes_65 : decode cX10_notes 65 = .ok (.getfield 13, 3) := by decide +kernel
theorem dX10_notes_68 : decode cX10_notes 68 = .ok (.bipush 72, 2) := by decide +kernel
theorem dX10_notes_70 : decode cX10_notes 70 = .ok (.bipush 40, 2) := by decide +kernel
theorem dX10_notes_72 : decode cX10_notes 72 = .ok (.aload_n 0, 1) := by decide +kernel
theorem dX10_notes_73 : decode cX10_notes 73 = .ok (.getfield 13, 3) := by decide +kernel
theorem dX10_notes_76 : decode cX10_notes 76 = .ok (.bipush 71, 2) := by decide +kernel
theorem dX10_notes_78 : decode cX10_notes 78 = .ok (.iaload, 1) := by decide +kernel
theorem dX10_notes_79 : decode cX10_notes 79 = .ok (.imul, 1) := by decide +kernel
theorem dX10_notes_80 : decode cX10_notes 80 = .ok (.iadd, 1) := by decide +kernel
theorem dX10_notes_81 : decode cX10_notes 81 = .ok (.iload_n 1, 1) := by decide +kernel
theorem dX10_notes_82 : decode cX10_notes 82 = .ok (.iadd, 1) := by decide +kernel
theorem dX10_notes_83 : decode cX10_notes 83 = .ok (.aload_n 0, 1) := by decide +kernel
theorem dX10_notes_84 : decode cX10_notes 84 = .ok (.getfield 82, 3) := by decide +kernel
theorem dX10_notes_87 : decode cX10_notes 87 = .ok (.iload_n 1, 1) := by decide +kernel
theorem dX10_notes_88 : decode cX10_notes 88 = .ok (.iaload, 1) := by decide +kernel
theorem dX10_notes_89 : decode cX10_notes 89 = .ok (.iastore, 1) := by decide +kernel
theorem dX10_notes_90 : decode cX10_notes 90 = .ok (.iinc 1 1, 3) := by decide +kernel
theorem dX10_notes_93 : decode cX10_notes 93 = .ok (.goto (-35), 3) := by decide +kernel
theorem dX10_notes_96 : decode cX10_notes 96 = .ok (.aload_n 0, 1) := by decide +kernel
theorem dX10_notes_97 : decode cX10_notes 97 = .ok (.getfield 13, 3) := by decide +kernel
theorem dX10_notes_100 : decode cX10_notes 100 = .ok (.bipush 71, 2) := by decide +kernel
theorem dX10_notes_102 : decode cX10_notes 102 = .ok (.dup2, 1) := by decide +kernel
theorem dX10_notes_103 : decode cX10_notes 103 = .ok (.iaload, 1) := by decide +kernel
theorem dX10_notes_104 : decode cX10_notes 104 = .ok (.iconst 1, 1) := by decide +kernel
theorem dX10_notes_105 : decode cX10_notes 105 = .ok (.iadd, 1) := by decide +kernel
theorem dX10_notes_106 : decode cX10_notes 106 = .ok (.iastore, 1) := by decide +kernel
theorem dX10_notes_107 : decode cX10_notes 107 = .ok (.return_, 1) := by decide +kernel
theorem dX10_whyTell_0 : decode cX10_whyTell 0 = .ok (.aload_n 0, 1) := by decide +kernel
theorem dX10_whyTell_1 : decode cX10_whyTell 1 = .ok (.lload_n 1, 1) := by decide +kernel
theorem dX10_whyTell_2 : decode cX10_whyTell 2 = .ok (.lload_n 3, 1) := by decide +kernel
theorem dX10_whyTell_3 : decode cX10_whyTell 3 = .ok (.invokevirtual 259, 3) := by decide +kernel
theorem dX10_whyTell_6 : decode cX10_whyTell 6 = .ok (.ifCond .eq 15, 3) := by decide +kernel
theorem dX10_whyTell_9 : decode cX10_whyTell 9 = .ok (.lload 5, 2) := by decide +kernel
theorem dX10_whyTell_11 : decode cX10_whyTell 11 = .ok (.lconst 0, 1) := by decide +kernel
theorem dX10_whyTell_12 : decode cX10_whyTell 12 = .ok (.ldc2_w 311, 3) := by decide +kernel
theorem dX10_whyTell_15 : decode cX10_whyTell 15 = .ok (.invokestatic 170, 3) := by decide +kernel
theorem dX10_whyTell_18 : decode cX10_whyTell 18 = .ok (.ifCond .ne 7, 3) := by decide +kernel
theorem dX10_whyTell_21 : decode cX10_whyTell 21 = .ok (.iconst 1, 1) := by decide +kernel
theorem dX10_whyTell_22 : decode cX10_whyTell 22 = .ok (.goto 20, 3) := by decide +kernel
theorem dX10_whyTell_25 : decode cX10_whyTell 25 = .ok (.aload_n 0, 1) := by decide +kernel
theorem dX10_whyTell_26 : decode cX10_whyTell 26 = .ok (.getfield 13, 3) := by decide +kernel
theorem dX10_whyTell_29 : decode cX10_whyTell 29 = .ok (.bipush 31, 2) := by decide +kernel
theorem dX10_whyTell_31 : decode cX10_whyTell 31 = .ok (.iaload, 1) := by decide +kernel
theorem dX10_whyTell_32 : decode cX10_whyTell 32 = .ok (.bipush 8, 2) := by decide +kernel
theorem dX10_whyTell_34 : decode cX10_whyTell 34 = .ok (.if_icmp .ne 7, 3) := by decide +kernel
theorem dX10_whyTell_37 : decode cX10_whyTell 37 = .ok (.iconst 2, 1) := by decide +kernel
theorem dX10_whyTell_38 : decode cX10_whyTell 38 = .ok (.goto 4, 3) := by decide +kernel
theorem dX10_whyTell_41 : decode cX10_whyTell 41 = .ok (.iconst 0, 1) := by decide +kernel
theorem dX10_whyTell_42 : decode cX10_whyTell 42 = .ok (.ireturn, 1) := by decide +kernel
theorem dX10_tellsOne_0 : decode cX10_tellsOne 0 = .ok (.bipush 32, 2) := by decide +kernel
theorem dX10_tellsOne_2 : decode cX10_tellsOne 2 = .ok (.iconst 4, 1) := by decide +kernel
theorem dX10_tellsOne_3 : decode cX10_tellsOne 3 = .ok (.aload_n 0, 1) := by decide +kernel
theorem dX10_tellsOne_4 : decode cX10_tellsOne 4 = .ok (.getfield 13, 3) := by decide +kernel
theorem dX10_tellsOne_7 : decode cX10_tellsOne 7 = .ok (.bipush 31, 2) := by decide +kernel
theorem dX10_tellsOne_9 : decode cX10_tellsOne 9 = .ok (.iaload, 1) := by decide +kernel
theorem dX10_tellsOne_10 : decode cX10_tellsOne 10 = .ok (.imul, 1) := by decide +kernel
theorem dX10_tellsOne_11 : decode cX10_tellsOne 11 = .ok (.iadd, 1) := by decide +kernel
theorem dX10_tellsOne_12 : decode cX10_tellsOne 12 = .ok (.istore 4, 2) := by decide +kernel
theorem dX10_tellsOne_14 : decode cX10_tellsOne 14 = .ok (.aload_n 0, 1) := by decide +kernel
theorem dX10_tellsOne_15 : decode cX10_tellsOne 15 = .ok (.getfield 13, 3) := by decide +kernel
theorem dX10_tellsOne_18 : decode cX10_tellsOne 18 = .ok (.iload 4, 2) := by decide +kernel
theorem dX10_tellsOne_20 : decode cX10_tellsOne 20 = .ok (.iload_n 1, 1) := by decide +kernel
theorem dX10_tellsOne_21 : decode cX10_tellsOne 21 = .ok (.iastore, 1) := by decide +kernel
theorem dX10_tellsOne_22 : decode cX10_tellsOne 22 = .ok (.aload_n 0, 1) := by decide +kernel
theorem dX10_tellsOne_23 : decode cX10_tellsOne 23 = .ok (.getfield 13, 3) := by decide +kernel
theorem dX10_tellsOne_26 : decode cX10_tellsOne 26 = .ok (.iload 4, 2) := by decide +kernel
theorem dX10_tellsOne_28 : decode cX10_tellsOne 28 = .ok (.iconst 1, 1) := by decide +kernel
theorem dX10_tellsOne_29 : decode cX10_tellsOne 29 = .ok (.iadd, 1) := by decide +kernel
theorem dX10_tellsOne_30 : decode cX10_tellsOne 30 = .ok (.iload_n 2, 1) := by decide +kernel
theorem dX10_tellsOne_31 : decode cX10_tellsOne 31 = .ok (.iastore, 1) := by decide +kernel
theorem dX10_tellsOne_32 : decode cX10_tellsOne 32 = .ok (.aload_n 0, 1) := by decide +kernel
theorem dX10_tellsOne_33 : decode cX10_tellsOne 33 = .ok (.getfield 13, 3) := by decide +kernel
theorem dX10_tellsOne_36 : decode cX10_tellsOne 36 = .ok (.iload 4, 2) := by decide +kernel
theorem dX10_tellsOne_38 : decode cX10_tellsOne 38 = .ok (.iconst 2, 1) := by decide +kernel
theorem dX10_tellsOne_39 : decode cX10_tellsOne 39 = .ok (.iadd, 1) := by decide +kernel
theorem dX10_tellsOne_40 : decode cX10_tellsOne 40 = .ok (.iload_n 3, 1) := by decide +kernel
theorem dX10_tellsOne_41 : decode cX10_tellsOne 41 = .ok (.iastore, 1) := by decide +kernel
theorem dX10_tellsOne_42 : decode cX10_tellsOne 42 = .ok (.aload_n 0, 1) := by decide +kernel
theorem dX10_tellsOne_43 : decode cX10_tellsOne 43 = .ok (.getfield 13, 3) := by decide +kernel
theorem dX10_tellsOne_46 : decode cX10_tellsOne 46 = .ok (.iload 4, 2) := by decide +kernel
theorem dX10_tellsOne_48 : decode cX10_tellsOne 48 = .ok (.iconst 3, 1) := by decide +kernel
theorem dX10_tellsOne_49 : decode cX10_tellsOne 49 = .ok (.iadd, 1) := by decide +kernel
theorem dX10_tellsOne_50 : decode cX10_tellsOne 50 = .ok (.bipush 10, 2) := by decide +kernel
theorem dX10_tellsOne_52 : decode cX10_tellsOne 52 = .ok (.iastore, 1) := by decide +kernel
theorem dX10_tellsOne_53 : decode cX10_tellsOne 53 = .ok (.aload_n 0, 1) := by decide +kernel
theorem dX10_tellsOne_54 : decode cX10_tellsOne 54 = .ok (.getfield 13, 3) := by decide +kernel
theorem dX10_tellsOne_57 : decode cX10_tellsOne 57 = .ok (.bipush 31, 2) := by decide +kernel
theorem dX10_tellsOne_59 : decode cX10_tellsOne 59 = .ok (.dup2, 1) := by decide +kernel
theorem dX10_tellsOne_60 : decode cX10_tellsOne 60 = .ok (.iaload, 1) := by decide +kernel
theorem dX10_tellsOne_61 : decode cX10_tellsOne 61 = .ok (.iconst 1, 1) := by decide +kernel
theorem dX10_tellsOne_62 : decode cX10_tellsOne 62 = .ok (.iadd, 1) := by decide +kernel
theorem dX10_tellsOne_63 : decode cX10_tellsOne 63 = .ok (.iastore, 1) := by decide +kernel
theorem dX10_tellsOne_64 : decode cX10_tellsOne 64 = .ok (.return_, 1) := by decide +kernel
theorem dX10_drops_0 : decode cX10_drops 0 = .ok (.bipush 32, 2) := by decide +kernel
theorem dX10_drops_2 : decode cX10_drops 2 = .ok (.iconst 4, 1) := by decide +kernel
theorem dX10_drops_3 : decode cX10_drops 3 = .ok (.iload_n 1, 1) := by decide +kernel
theorem dX10_drops_4 : decode cX10_drops 4 = .ok (.imul, 1) := by decide +kernel
theorem dX10_drops_5 : decode cX10_drops 5 = .ok (.iadd, 1) := by decide +kernel
theorem dX10_drops_6 : decode cX10_drops 6 = .ok (.istore_n 2, 1) := by decide +kernel
theorem dX10_drops_7 : decode cX10_drops 7 = .ok (.iload_n 2, 1) := by decide +kernel
theorem dX10_drops_8 : decode cX10_drops 8 = .ok (.bipush 60, 2) := by decide +kernel
theorem dX10_drops_10 : decode cX10_drops 10 = .ok (.if_icmp .ge 23, 3) := by decide +kernel
theorem dX10_drops_13 : decode cX10_drops 13 = .ok (.aload_n 0, 1) := by decide +kernel
theorem dX10_drops_14 : decode cX10_drops 14 = .ok (.getfield 13, 3) := by decide +kernel
theorem dX10_drops_17 : decode cX10_drops 17 = .ok (.iload_n 2, 1) := by decide +kernel
theorem dX10_drops_18 : decode cX10_drops 18 = .ok (.aload_n 0, 1) := by decide +kernel
theorem dX10_drops_19 : decode cX10_drops 19 = .ok (.getfield 13, 3) := by decide +kernel
theorem dX10_drops_22 : decode cX10_drops 22 = .ok (.iload_n 2, 1) := by decide +kernel
theorem dX10_drops_23 : decode cX10_drops 23 = .ok (.iconst 4, 1) := by decide +kernel
theorem dX10_drops_24 : decode cX10_drops 24 = .ok (.iadd, 1) := by decide +kernel
theorem dX10_drops_25 : decode cX10_drops 25 = .ok (.iaload, 1) := by decide +kernel
theorem dX10_drops_26 : decode cX10_drops 26 = .ok (.iastore, 1) := by decide +kernel
theorem dX10_drops_27 : decode cX10_drops 27 = .ok (.iinc 2 1, 3) := by decide +kernel
theorem dX10_drops_30 : decode cX10_drops 30 = .ok (.goto (-23), 3) := by decide +kernel
theorem dX10_drops_33 : decode cX10_drops 33 = .ok (.aload_n 0, 1) := by decide +kernel
theorem dX10_drops_34 : decode cX10_drops 34 = .ok (.getfield 13, 3) := by decide +kernel
theorem dX10_drops_37 : decode cX10_drops 37 = .ok (.bipush 31, 2) := by decide +kernel
theorem dX10_drops_39 : decode cX10_drops 39 = .ok (.dup2, 1) := by decide +kernel
theorem dX10_drops_40 : decode cX10_drops 40 = .ok (.iaload, 1) := by decide +kernel
theorem dX10_drops_41 : decode cX10_drops 41 = .ok (.iconst 1, 1) := by decide +kernel
theorem dX10_drops_42 : decode cX10_drops 42 = .ok (.isub, 1) := by decide +kernel
theorem dX10_drops_43 : decode cX10_drops 43 = .ok (.iastore, 1) := by decide +kernel
theorem dX10_drops_44 : decode cX10_drops 44 = .ok (.return_, 1) := by decide +kernel
theorem dX10_isNaming_0 : decode cX10_isNaming 0 = .ok (.lload_n 1, 1) := by decide +kernel
theorem dX10_isNaming_1 : decode cX10_isNaming 1 = .ok (.lconst 0, 1) := by decide +kernel
theorem dX10_isNaming_2 : decode cX10_isNaming 2 = .ok (.aload_n 0, 1) := by decide +kernel
theorem dX10_isNaming_3 : decode cX10_isNaming 3 = .ok (.getfield 13, 3) := by decide +kernel
theorem dX10_isNaming_6 : decode cX10_isNaming 6 = .ok (.bipush 31, 2) := by decide +kernel
theorem dX10_isNaming_8 : decode cX10_isNaming 8 = .ok (.iaload, 1) := by decide +kernel
theorem dX10_isNaming_9 : decode cX10_isNaming 9 = .ok (.iconst 1, 1) := by decide +kernel
theorem dX10_isNaming_10 : decode cX10_isNaming 10 = .ok (.isub, 1) := by decide +kernel
theorem dX10_isNaming_11 : decode cX10_isNaming 11 = .ok (.i2l, 1) := by decide +kernel
theorem dX10_isNaming_12 : decode cX10_isNaming 12 = .ok (.invokestatic 170, 3) := by decide +kernel
theorem dX10_isNaming_15 : decode cX10_isNaming 15 = .ok (.ireturn, 1) := by decide +kernel
theorem dX10_isCell_0 : decode cX10_isCell 0 = .ok (.lload_n 1, 1) := by decide +kernel
theorem dX10_isCell_1 : decode cX10_isCell 1 = .ok (.lconst 0, 1) := by decide +kernel
theorem dX10_isCell_2 : decode cX10_isCell 2 = .ok (.aload_n 0, 1) := by decide +kernel
theorem dX10_isCell_3 : decode cX10_isCell 3 = .ok (.invokevirtual 313, 3) := by decide +kernel
theorem dX10_isCell_6 : decode cX10_isCell 6 = .ok (.iconst 1, 1) := by decide +kernel
theorem dX10_isCell_7 : decode cX10_isCell 7 = .ok (.isub, 1) := by decide +kernel
theorem dX10_isCell_8 : decode cX10_isCell 8 = .ok (.i2l, 1) := by decide +kernel
theorem dX10_isCell_9 : decode cX10_isCell 9 = .ok (.invokestatic 170, 3) := by decide +kernel
theorem dX10_isCell_12 : decode cX10_isCell 12 = .ok (.ireturn, 1) := by decide +kernel
theorem dX10_tell_0 : decode cX10_tell 0 = .ok (.aload_n 0, 1) := by decide +kernel
theorem dX10_tell_1 : decode cX10_tell 1 = .ok (.iconst 0, 1) := by decide +kernel
theorem dX10_tell_2 : decode cX10_tell 2 = .ok (.putfield 1, 3) := by decide +kernel
theorem dX10_tell_5 : decode cX10_tell 5 = .ok (.aload_n 0, 1) := by decide +kernel
theorem dX10_tell_6 : decode cX10_tell 6 = .ok (.iload_n 1, 1) := by decide +kernel
theorem dX10_tell_7 : decode cX10_tell 7 = .ok (.i2l, 1) := by decide +kernel
theorem dX10_tell_8 : decode cX10_tell 8 = .ok (.iload_n 2, 1) := by decide +kernel
theorem dX10_tell_9 : decode cX10_tell 9 = .ok (.i2l, 1) := by decide +kernel
theorem dX10_tell_10 : decode cX10_tell 10 = .ok (.iload_n 3, 1) := by decide +kernel
theorem dX10_tell_11 : decode cX10_tell 11 = .ok (.i2l, 1) := by decide +kernel
theorem dX10_tell_12 : decode cX10_tell 12 = .ok (.invokevirtual 316, 3) := by decide +kernel
theorem dX10_tell_15 : decode cX10_tell 15 = .ok (.istore 4, 2) := by decide +kernel
theorem dX10_tell_17 : decode cX10_tell 17 = .ok (.iload 4, 2) := by decide +kernel
theorem dX10_tell_19 : decode cX10_tell 19 = .ok (.ifCond .eq 9, 3) := by decide +kernel
theorem dX10_tell_22 : decode cX10_tell 22 = .ok (.bipush (-10), 2) := by decide +kernel
theorem dX10_tell_24 : decode cX10_tell 24 = .ok (.iload 4, 2) := by decide +kernel
theorem dX10_tell_26 : decode cX10_tell 26 = .ok (.isub, 1) := by decide +kernel
theorem dX10_tell_27 : decode cX10_tell 27 = .ok (.ireturn, 1) := by decide +kernel
theorem dX10_tell_28 : decode cX10_tell 28 = .ok (.aload_n 0, 1) := by decide +kernel
theorem dX10_tell_29 : decode cX10_tell 29 = .ok (.invokevirtual 320, 3) := by decide +kernel
theorem dX10_tell_32 : decode cX10_tell 32 = .ok (.aload_n 0, 1) := by decide +kernel
theorem dX10_tell_33 : decode cX10_tell 33 = .ok (.iload_n 1, 1) := by decide +kernel
theorem dX10_tell_34 : decode cX10_tell 34 = .ok (.iload_n 2, 1) := by decide +kernel
theorem dX10_tell_35 : decode cX10_tell 35 = .ok (.iload_n 3, 1) := by decide +kernel
theorem dX10_tell_36 : decode cX10_tell 36 = .ok (.invokevirtual 323, 3) := by decide +kernel
theorem dX10_tell_39 : decode cX10_tell 39 = .ok (.aload_n 0, 1) := by decide +kernel
theorem dX10_tell_40 : decode cX10_tell 40 = .ok (.invokevirtual 326, 3) := by decide +kernel
theorem dX10_tell_43 : decode cX10_tell 43 = .ok (.aload_n 0, 1) := by decide +kernel
theorem dX10_tell_44 : decode cX10_tell 44 = .ok (.getfield 13, 3) := by decide +kernel
theorem dX10_tell_47 : decode cX10_tell 47 = .ok (.bipush 31, 2) := by decide +kernel
theorem dX10_tell_49 : decode cX10_tell 49 = .ok (.iaload, 1) := by decide +kernel
theorem dX10_tell_50 : decode cX10_tell 50 = .ok (.ireturn, 1) := by decide +kernel
theorem dX10_drop_0 : decode cX10_drop 0 = .ok (.aload_n 0, 1) := by decide +kernel
theorem dX10_drop_1 : decode cX10_drop 1 = .ok (.iconst 0, 1) := by decide +kernel
theorem dX10_drop_2 : decode cX10_drop 2 = .ok (.putfield 1, 3) := by decide +kernel
theorem dX10_drop_5 : decode cX10_drop 5 = .ok (.aload_n 0, 1) := by decide +kernel
theorem dX10_drop_6 : decode cX10_drop 6 = .ok (.iload_n 1, 1) := by decide +kernel
theorem dX10_drop_7 : decode cX10_drop 7 = .ok (.i2l, 1) := by decide +kernel
theorem dX10_drop_8 : decode cX10_drop 8 = .ok (.invokevirtual 329, 3) := by decide +kernel
theorem dX10_drop_11 : decode cX10_drop 11 = .ok (.ifCond .ne 6, 3) := by decide +kernel
theorem dX10_drop_14 : decode cX10_drop 14 = .ok (.bipush (-11), 2) := by decide +kernel
theorem dX10_drop_16 : decode cX10_drop 16 = .ok (.ireturn, 1) := by decide +kernel
theorem dX10_drop_17 : decode cX10_drop 17 = .ok (.aload_n 0, 1) := by decide +kernel
theorem dX10_drop_18 : decode cX10_drop 18 = .ok (.invokevirtual 320, 3) := by decide +kernel
theorem dX10_drop_21 : decode cX10_drop 21 = .ok (.aload_n 0, 1) := by decide +kernel
theorem dX10_drop_22 : decode cX10_drop 22 = .ok (.iload_n 1, 1) := by decide +kernel
theorem dX10_drop_23 : decode cX10_drop 23 = .ok (.invokevirtual 332, 3) := by decide +kernel
theorem dX10_drop_26 : decode cX10_drop 26 = .ok (.aload_n 0, 1) := by decide +kernel
theorem dX10_drop_27 : decode cX10_drop 27 = .ok (.invokevirtual 326, 3) := by decide +kernel
theorem dX10_drop_30 : decode cX10_drop 30 = .ok (.aload_n 0, 1) := by decide +kernel
theorem dX10_drop_31 : decode cX10_drop 31 = .ok (.getfield 13, 3) := by decide +kernel
theorem dX10_drop_34 : decode cX10_drop 34 = .ok (.bipush 31, 2) := by decide +kernel
theorem dX10_drop_36 : decode cX10_drop 36 = .ok (.iaload, 1) := by decide +kernel
theorem dX10_drop_37 : decode cX10_drop 37 = .ok (.ireturn, 1) := by decide +kernel
theorem dX10_move_0 : decode cX10_move 0 = .ok (.aload_n 0, 1) := by decide +kernel
theorem dX10_move_1 : decode cX10_move 1 = .ok (.iconst 0, 1) := by decide +kernel
theorem dX10_move_2 : decode cX10_move 2 = .ok (.putfield 1, 3) := by decide +kernel
theorem dX10_move_5 : decode cX10_move 5 = .ok (.aload_n 0, 1) := by decide +kernel
theorem dX10_move_6 : decode cX10_move 6 = .ok (.iload_n 1, 1) := by decide +kernel
theorem dX10_move_7 : decode cX10_move 7 = .ok (.i2l, 1) := by decide +kernel
theorem dX10_move_8 : decode cX10_move 8 = .ok (.invokevirtual 235, 3) := by decide +kernel
theorem dX10_move_11 : decode cX10_move 11 = .ok (.ifCond .eq 12, 3) := by decide +kernel
theorem dX10_move_14 : decode cX10_move 14 = .ok (.aload_n 0, 1) := by decide +kernel
theorem dX10_move_15 : decode cX10_move 15 = .ok (.iload_n 2, 1) := by decide +kernel
theorem dX10_move_16 : decode cX10_move 16 = .ok (.i2l, 1) := by decide +kernel
theorem dX10_move_17 : decode cX10_move 17 = .ok (.invokevirtual 335, 3) := by decide +kernel
theorem dX10_move_20 : decode cX10_move 20 = .ok (.ifCond .ne 6, 3) := by decide +kernel
theorem dX10_move_23 : decode cX10_move 23 = .ok (.bipush (-11), 2) := by decide +kernel
theorem dX10_move_25 : decode cX10_move 25 = .ok (.ireturn, 1) := by decide +kernel
theorem dX10_move_26 : decode cX10_move 26 = .ok (.aload_n 0, 1) := by decide +kernel
theorem dX10_move_27 : decode cX10_move 27 = .ok (.invokevirtual 320, 3) := by decide +kernel
theorem dX10_move_30 : decode cX10_move 30 = .ok (.aload_n 0, 1) := by decide +kernel
theorem dX10_move_31 : decode cX10_move 31 = .ok (.getfield 13, 3) := by decide +kernel
theorem dX10_move_34 : decode cX10_move 34 = .ok (.bipush 64, 2) := by decide +kernel
theorem dX10_move_36 : decode cX10_move 36 = .ok (.iload_n 1, 1) := by decide +kernel
theorem dX10_move_37 : decode cX10_move 37 = .ok (.iadd, 1) := by decide +kernel
theorem dX10_move_38 : decode cX10_move 38 = .ok (.iload_n 2, 1) := by decide +kernel
theorem dX10_move_39 : decode cX10_move 39 = .ok (.iastore, 1) := by decide +kernel
theorem dX10_move_40 : decode cX10_move 40 = .ok (.aload_n 0, 1) := by decide +kernel
theorem dX10_move_41 : decode cX10_move 41 = .ok (.invokevirtual 326, 3) := by decide +kernel
theorem dX10_move_44 : decode cX10_move 44 = .ok (.aload_n 0, 1) := by decide +kernel
theorem dX10_move_45 : decode cX10_move 45 = .ok (.getfield 82, 3) := by decide +kernel
theorem dX10_move_48 : decode cX10_move 48 = .ok (.bipush 33, 2) := by decide +kernel
theorem dX10_move_50 : decode cX10_move 50 = .ok (.iload_n 1, 1) := by decide +kernel
theorem dX10_move_51 : decode cX10_move 51 = .ok (.iadd, 1) := by decide +kernel
theorem dX10_move_52 : decode cX10_move 52 = .ok (.iaload, 1) := by decide +kernel
theorem dX10_move_53 : decode cX10_move 53 = .ok (.ireturn, 1) := by decide +kernel
theorem dX10_wind_0 : decode cX10_wind 0 = .ok (.aload_n 0, 1) := by decide +kernel
theorem dX10_wind_1 : decode cX10_wind 1 = .ok (.iconst 0, 1) := by decide +kernel
theorem dX10_wind_2 : decode cX10_wind 2 = .ok (.putfield 1, 3) := by decide +kernel
theorem dX10_wind_5 : decode cX10_wind 5 = .ok (.iload_n 1, 1) := by decide +kernel
theorem dX10_wind_6 : decode cX10_wind 6 = .ok (.i2l, 1) := by decide +kernel
theorem dX10_wind_7 : decode cX10_wind 7 = .ok (.lconst 0, 1) := by decide +kernel
theorem dX10_wind_8 : decode cX10_wind 8 = .ok (.ldc2_w 338, 3) := by decide +kernel
theorem dX10_wind_11 : decode cX10_wind 11 = .ok (.invokestatic 170, 3) := by decide +kernel
theorem dX10_wind_14 : decode cX10_wind 14 = .ok (.ifCond .ne 6, 3) := by decide +kernel
theorem dX10_wind_17 : decode cX10_wind 17 = .ok (.bipush (-11), 2) := by decide +kernel
theorem dX10_wind_19 : decode cX10_wind 19 = .ok (.ireturn, 1) := by decide +kernel
theorem dX10_wind_20 : decode cX10_wind 20 = .ok (.aload_n 0, 1) := by decide +kernel
theorem dX10_wind_21 : decode cX10_wind 21 = .ok (.invokevirtual 320, 3) := by decide +kernel
theorem dX10_wind_24 : decode cX10_wind 24 = .ok (.aload_n 0, 1) := by decide +kernel
theorem dX10_wind_25 : decode cX10_wind 25 = .ok (.getfield 13, 3) := by decide +kernel
theorem dX10_wind_28 : decode cX10_wind 28 = .ok (.bipush 70, 2) := by decide +kernel
theorem dX10_wind_30 : decode cX10_wind 30 = .ok (.iload_n 1, 1) := by decide +kernel
theorem dX10_wind_31 : decode cX10_wind 31 = .ok (.iastore, 1) := by decide +kernel
theorem dX10_wind_32 : decode cX10_wind 32 = .ok (.aload_n 0, 1) := by decide +kernel
theorem dX10_wind_33 : decode cX10_wind 33 = .ok (.invokevirtual 326, 3) := by decide +kernel
theorem dX10_wind_36 : decode cX10_wind 36 = .ok (.aload_n 0, 1) := by decide +kernel
theorem dX10_wind_37 : decode cX10_wind 37 = .ok (.getfield 82, 3) := by decide +kernel
theorem dX10_wind_40 : decode cX10_wind 40 = .ok (.bipush 39, 2) := by decide +kernel
theorem dX10_wind_42 : decode cX10_wind 42 = .ok (.iaload, 1) := by decide +kernel
theorem dX10_wind_43 : decode cX10_wind 43 = .ok (.ireturn, 1) := by decide +kernel
theorem dX10_undo_0 : decode cX10_undo 0 = .ok (.aload_n 0, 1) := by decide +kernel
theorem dX10_undo_1 : decode cX10_undo 1 = .ok (.iconst 0, 1) := by decide +kernel
theorem dX10_undo_2 : decode cX10_undo 2 = .ok (.putfield 1, 3) := by decide +kernel
theorem dX10_undo_5 : decode cX10_undo 5 = .ok (.iload_n 1, 1) := by decide +kernel
theorem dX10_undo_6 : decode cX10_undo 6 = .ok (.i2l, 1) := by decide +kernel
theorem dX10_undo_7 : decode cX10_undo 7 = .ok (.lconst 1, 1) := by decide +kernel
theorem dX10_undo_8 : decode cX10_undo 8 = .ok (.ldc2_w 340, 3) := by decide +kernel
theorem dX10_undo_11 : decode cX10_undo 11 = .ok (.invokestatic 170, 3) := by decide +kernel
theorem dX10_undo_14 : decode cX10_undo 14 = .ok (.ifCond .eq 14, 3) := by decide +kernel
theorem dX10_undo_17 : decode cX10_undo 17 = .ok (.iload_n 1, 1) := by decide +kernel
theorem dX10_undo_18 : decode cX10_undo 18 = .ok (.aload_n 0, 1) := by decide +kernel
theorem dX10_undo_19 : decode cX10_undo 19 = .ok (.getfield 13, 3) := by decide +kernel
theorem dX10_undo_22 : decode cX10_undo 22 = .ok (.bipush 71, 2) := by decide +kernel
theorem dX10_undo_24 : decode cX10_undo 24 = .ok (.iaload, 1) := by decide +kernel
theorem dX10_undo_25 : decode cX10_undo 25 = .ok (.if_icmp .le 6, 3) := by decide +kernel
theorem dX10_undo_28 : decode cX10_undo 28 = .ok (.bipush (-3), 2) := by decide +kernel
theorem dX10_undo_30 : decode cX10_undo 30 = .ok (.ireturn, 1) := by decide +kernel
theorem dX10_undo_31 : decode cX10_undo 31 = .ok (.aload_n 0, 1) := by decide +kernel
theorem dX10_undo_32 : decode cX10_undo 32 = .ok (.getfield 13, 3) := by decide +kernel
theorem dX10_undo_35 : decode cX10_undo 35 = .ok (.bipush 71, 2) := by decide +kernel
theorem dX10_undo_37 : decode cX10_undo 37 = .ok (.dup2, 1) := by decide +kernel
theorem dX10_undo_38 : decode cX10_undo 38 = .ok (.iaload, 1) := by decide +kernel
theorem dX10_undo_39 : decode cX10_undo 39 = .ok (.iload_n 1, 1) := by decide +kernel
theorem dX10_undo_40 : decode cX10_undo 40 = .ok (.isub, 1) := by decide +kernel
theorem dX10_undo_41 : decode cX10_undo 41 = .ok (.iastore, 1) := by decide +kernel
theorem dX10_undo_42 : decode cX10_undo 42 = .ok (.iconst 0, 1) := by decide +kernel
theorem dX10_undo_43 : decode cX10_undo 43 = .ok (.istore_n 2, 1) := by decide +kernel
theorem dX10_undo_44 : decode cX10_undo 44 = .ok (.iload_n 2, 1) := by decide +kernel
theorem dX10_undo_45 : decode cX10_undo 45 = .ok (.bipush 40, 2) := by decide +kernel
theorem dX10_undo_47 : decode cX10_undo 47 = .ok (.if_icmp .ge 38, 3) := by decide +kernel
theorem dX10_undo_50 : decode cX10_undo 50 = .ok (.aload_n 0, 1) := by decide +kernel
theorem dX10_undo_51 : decode cX10_undo 51 = .ok (.getfield 13, 3) := by decide +kernel
theorem dX10_undo_54 : decode cX10_undo 54 = .ok (.bipush 31, 2) := by decide +kernel
theorem dX10_undo_56 : decode cX10_undo 56 = .ok (.iload_n 2, 1) := by decide +kernel
theorem dX10_undo_57 : decode cX10_undo 57 = .ok (.iadd, 1) := by decide +kernel
theorem dX10_undo_58 : decode cX10_undo 58 = .ok (.aload_n 0, 1) := by decide +kernel
theorem dX10_undo_59 : decode cX10_undo 59 = .ok (.getfield 13, 3) := by decide +kernel
theorem dX10_undo_62 : decode cX10_undo 62 = .ok (.bipush 72, 2) := by decide +kernel
theorem dX10_undo_64 : decode cX10_undo 64 = .ok (.bipush 40, 2) := by decide +kernel
theorem dX10_undo_66 : decode cX10_undo 66 = .ok (.aload_n 0, 1) := by decide +kernel
theorem dX10_undo_67 : decode cX10_undo 67 = .ok (.getfield 13, 3) := by decide +kernel
theorem dX10_undo_70 : decode cX10_undo 70 = .ok (.bipush 71, 2) := by decide +kernel
theorem dX10_undo_72 : decode cX10_undo 72 = .ok (.iaload, 1) := by decide +kernel
theorem dX10_undo_73 : decode cX10_undo 73 = .ok (.imul, 1) := by decide +kernel
theorem dX10_undo_74 : decode cX10_undo 74 = .ok (.iadd, 1) := by decide +kernel
theorem dX10_undo_75 : decode cX10_undo 75 = .ok (.iload_n 2, 1) := by decide +kernel
theorem dX10_undo_76 : decode cX10_undo 76 = .ok (.iadd, 1) := by decide +kernel
theorem dX10_undo_77 : decode cX10_undo 77 = .ok (.iaload, 1) := by decide +kernel
theorem dX10_undo_78 : decode cX10_undo 78 = .ok (.iastore, 1) := by decide +kernel
theorem dX10_undo_79 : decode cX10_undo 79 = .ok (.iinc 2 1, 3) := by decide +kernel
theorem dX10_undo_82 : decode cX10_undo 82 = .ok (.goto (-38), 3) := by decide +kernel
theorem dX10_undo_85 : decode cX10_undo 85 = .ok (.aload_n 0, 1) := by decide +kernel
theorem dX10_undo_86 : decode cX10_undo 86 = .ok (.getfield 13, 3) := by decide +kernel
theorem dX10_undo_89 : decode cX10_undo 89 = .ok (.bipush 71, 2) := by decide +kernel
theorem dX10_undo_91 : decode cX10_undo 91 = .ok (.iaload, 1) := by decide +kernel
theorem dX10_undo_92 : decode cX10_undo 92 = .ok (.ireturn, 1) := by decide +kernel
theorem dX10_whyNot_0 : decode cX10_whyNot 0 = .ok (.lload_n 1, 1) := by decide +kernel
theorem dX10_whyNot_1 : decode cX10_whyNot 1 = .ok (.lconst 0, 1) := by decide +kernel
theorem dX10_whyNot_2 : decode cX10_whyNot 2 = .ok (.ldc2_w 342, 3) := by decide +kernel
theorem dX10_whyNot_5 : decode cX10_whyNot 5 = .ok (.invokestatic 170, 3) := by decide +kernel
theorem dX10_whyNot_8 : decode cX10_whyNot 8 = .ok (.ifCond .eq 27, 3) := by decide +kernel
theorem dX10_whyNot_11 : decode cX10_whyNot 11 = .ok (.aload_n 0, 1) := by decide +kernel
theorem dX10_whyNot_12 : decode cX10_whyNot 12 = .ok (.lload_n 1, 1) := by decide +kernel
theorem dX10_whyNot_13 : decode cX10_whyNot 13 = .ok (.ldc2_w 344, 3) := by decide +kernel
theorem dX10_whyNot_16 : decode cX10_whyNot 16 = .ok (.ldiv, 1) := by decide +kernel
theorem dX10_whyNot_17 : decode cX10_whyNot 17 = .ok (.lload_n 1, 1) := by decide +kernel
theorem dX10_whyNot_18 : decode cX10_whyNot 18 = .ok (.ldc2_w 346, 3) := by decide +kernel
theorem dX10_whyNot_21 : decode cX10_whyNot 21 = .ok (.ldiv, 1) := by decide +kernel
theorem dX10_whyNot_22 : decode cX10_whyNot 22 = .ok (.ldc2_w 340, 3) := by decide +kernel
theorem dX10_whyNot_25 : decode cX10_whyNot 25 = .ok (.lrem, 1) := by decide +kernel
theorem dX10_whyNot_26 : decode cX10_whyNot 26 = .ok (.lload_n 1, 1) := by decide +kernel
theorem dX10_whyNot_27 : decode cX10_whyNot 27 = .ok (.ldc2_w 346, 3) := by decide +kernel
theorem dX10_whyNot_30 : decode cX10_whyNot 30 = .ok (.lrem, 1) := by decide +kernel
theorem dX10_whyNot_31 : decode cX10_whyNot 31 = .ok (.invokevirtual 316, 3) := by decide +kernel
theorem dX10_whyNot_34 : decode cX10_whyNot 34 = .ok (.ireturn, 1) := by decide +kernel
theorem dX10_whyNot_35 : decode cX10_whyNot 35 = .ok (.lload_n 1, 1) := by decide +kernel
theorem dX10_whyNot_36 : decode cX10_whyNot 36 = .ok (.ldc2_w 348, 3) := by decide +kernel
theorem dX10_whyNot_39 : decode cX10_whyNot 39 = .ok (.ldc2_w 350, 3) := by decide +kernel
theorem dX10_whyNot_42 : decode cX10_whyNot 42 = .ok (.invokestatic 170, 3) := by decide +kernel
theorem dX10_whyNot_45 : decode cX10_whyNot 45 = .ok (.ifCond .eq 21, 3) := by decide +kernel
theorem dX10_whyNot_48 : decode cX10_whyNot 48 = .ok (.aload_n 0, 1) := by decide +kernel
theorem dX10_whyNot_49 : decode cX10_whyNot 49 = .ok (.lload_n 1, 1) := by decide +kernel
theorem dX10_whyNot_50 : decode cX10_whyNot 50 = .ok (.ldc2_w 348, 3) := by decide +kernel
theorem dX10_whyNot_53 : decode cX10_whyNot 53 = .ok (.lsub, 1) := by decide +kernel
theorem dX10_whyNot_54 : decode cX10_whyNot 54 = .ok (.invokevirtual 329, 3) := by decide +kernel
theorem dX10_whyNot_57 : decode cX10_whyNot 57 = .ok (.ifCond .eq 7, 3) := by decide +kernel
theorem dX10_whyNot_60 : decode cX10_whyNot 60 = .ok (.iconst 0, 1) := by decide +kernel
theorem dX10_whyNot_61 : decode cX10_whyNot 61 = .ok (.goto 4, 3) := by decide +kernel
theorem dX10_whyNot_64 : decode cX10_whyNot 64 = .ok (.iconst 1, 1) := by decide +kernel
theorem dX10_whyNot_65 : decode cX10_whyNot 65 = .ok (.ireturn, 1) := by decide +kernel
theorem dX10_whyNot_66 : decode cX10_whyNot 66 = .ok (.lload_n 1, 1) := by decide +kernel
theorem dX10_whyNot_67 : decode cX10_whyNot 67 = .ok (.ldc2_w 352, 3) := by decide +kernel
theorem dX10_whyNot_70 : decode cX10_whyNot 70 = .ok (.ldc2_w 354, 3) := by decide +kernel
theorem dX10_whyNot_73 : decode cX10_whyNot 73 = .ok (.invokestatic 170, 3) := by decide +kernel
theorem dX10_whyNot_76 : decode cX10_whyNot 76 = .ok (.ifCond .eq 37, 3) := by decide +kernel
theorem dX10_whyNot_79 : decode cX10_whyNot 79 = .ok (.aload_n 0, 1) := by decide +kernel
theorem dX10_whyNot_80 : decode cX10_whyNot 80 = .ok (.lload_n 1, 1) := by decide +kernel
theorem dX10_whyNot_81 : decode cX10_whyNot 81 = .ok (.ldc2_w 352, 3) := by decide +kernel
theorem dX10_whyNot_84 : decode cX10_whyNot 84 = .ok (.lsub, 1) := by decide +kernel
theorem dX10_whyNot_85 : decode cX10_whyNot 85 = .ok (.ldc2_w 346, 3) := by decide +kernel
theorem dX10_whyNot_88 : decode cX10_whyNot 88 = .ok (.ldiv, 1) := by decide +kernel
theorem dX10_whyNot_89 : decode cX10_whyNot 89 = .ok (.invokevirtual 235, 3) := by decide +kernel
theorem dX10_whyNot_92 : decode cX10_whyNot 92 = .ok (.ifCond .eq 19, 3) := by decide +kernel
theorem dX10_whyNot_95 : decode cX10_whyNot 95 = .ok (.aload_n 0, 1) := by decide +kernel
theorem dX10_whyNot_96 : decode cX10_whyNot 96 = .ok (.lload_n 1, 1) := by decide +kernel
theorem dX10_whyNot_97 : decode cX10_whyNot 97 = .ok (.ldc2_w 346, 3) := by decide +kernel
theorem dX10_whyNot_100 : decode cX10_whyNot 100 = .ok (.lrem, 1) := by decide +kernel
theorem dX10_whyNot_101 : decode cX10_whyNot 101 = .ok (.invokevirtual 335, 3) := by decide +kernel
theorem dX10_whyNot_104 : decode cX10_whyNot 104 = .ok (.ifCond .eq 7, 3) := by decide +kernel
theorem dX10_whyNot_107 : decode cX10_whyNot 107 = .ok (.iconst 0, 1) := by decide +kernel
theorem dX10_whyNot_108 : decode cX10_whyNot 108 = .ok (.goto 4, 3) := by decide +kernel
theorem dX10_whyNot_111 : decode cX10_whyNot 111 = .ok (.iconst 1, 1) := by decide +kernel
theorem dX10_whyNot_112 : decode cX10_whyNot 112 = .ok (.ireturn, 1) := by decide +kernel
theorem dX10_whyNot_113 : decode cX10_whyNot 113 = .ok (.lload_n 1, 1) := by decide +kernel
theorem dX10_whyNot_114 : decode cX10_whyNot 114 = .ok (.ldc2_w 356, 3) := by decide +kernel
theorem dX10_whyNot_117 : decode cX10_whyNot 117 = .ok (.ldc2_w 358, 3) := by decide +kernel
theorem dX10_whyNot_120 : decode cX10_whyNot 120 = .ok (.invokestatic 170, 3) := by decide +kernel
theorem dX10_whyNot_123 : decode cX10_whyNot 123 = .ok (.ifCond .eq 7, 3) := by decide +kernel
theorem dX10_whyNot_126 : decode cX10_whyNot 126 = .ok (.iconst 0, 1) := by decide +kernel
theorem dX10_whyNot_127 : decode cX10_whyNot 127 = .ok (.goto 4, 3) := by decide +kernel
theorem dX10_whyNot_130 : decode cX10_whyNot 130 = .ok (.iconst 1, 1) := by decide +kernel
theorem dX10_whyNot_131 : decode cX10_whyNot 131 = .ok (.ireturn, 1) := by decide +kernel
theorem dX10_does_0 : decode cX10_does 0 = .ok (.iload_n 1, 1) := by decide +kernel
theorem dX10_does_1 : decode cX10_does 1 = .ok (.sipush 8000, 3) := by decide +kernel
theorem dX10_does_4 : decode cX10_does 4 = .ok (.if_icmp .ge 26, 3) := by decide +kernel
theorem dX10_does_7 : decode cX10_does 7 = .ok (.aload_n 0, 1) := by decide +kernel
theorem dX10_does_8 : decode cX10_does 8 = .ok (.iload_n 1, 1) := by decide +kernel
theorem dX10_does_9 : decode cX10_does 9 = .ok (.sipush 1000, 3) := by decide +kernel
theorem dX10_does_12 : decode cX10_does 12 = .ok (.idiv, 1) := by decide +kernel
theorem dX10_does_13 : decode cX10_does 13 = .ok (.iload_n 1, 1) := by decide +kernel
theorem dX10_does_14 : decode cX10_does 14 = .ok (.bipush 100, 2) := by decide +kernel
theorem dX10_does_16 : decode cX10_does 16 = .ok (.idiv, 1) := by decide +kernel
theorem dX10_does_17 : decode cX10_does 17 = .ok (.bipush 10, 2) := by decide +kernel
theorem dX10_does_19 : decode cX10_does 19 = .ok (.irem, 1) := by decide +kernel
theorem dX10_does_20 : decode cX10_does 20 = .ok (.iload_n 1, 1) := by decide +kernel
theorem dX10_does_21 : decode cX10_does 21 = .ok (.bipush 100, 2) := by decide +kernel
theorem dX10_does_23 : decode cX10_does 23 = .ok (.irem, 1) := by decide +kernel
theorem dX10_does_24 : decode cX10_does 24 = .ok (.invokevirtual 323, 3) := by decide +kernel
theorem dX10_does_27 : decode cX10_does 27 = .ok (.goto 64, 3) := by decide +kernel
theorem dX10_does_30 : decode cX10_does 30 = .ok (.iload_n 1, 1) := by decide +kernel
theorem dX10_does_31 : decode cX10_does 31 = .ok (.sipush 8100, 3) := by decide +kernel
theorem dX10_does_34 : decode cX10_does 34 = .ok (.if_icmp .ge 15, 3) := by decide +kernel
theorem dX10_does_37 : decode cX10_does 37 = .ok (.aload_n 0, 1) := by decide +kernel
theorem dX10_does_38 : decode cX10_does 38 = .ok (.iload_n 1, 1) := by decide +kernel
theorem dX10_does_39 : decode cX10_does 39 = .ok (.sipush 8000, 3) := by decide +kernel
theorem dX10_does_42 : decode cX10_does 42 = .ok (.isub, 1) := by decide +kernel
theorem dX10_does_43 : decode cX10_does 43 = .ok (.invokevirtual 332, 3) := by decide +kernel
theorem dX10_does_46 : decode cX10_does 46 = .ok (.goto 45, 3) := by decide +kernel
theorem dX10_does_49 : decode cX10_does 49 = .ok (.iload_n 1, 1) := by decide +kernel
theorem dX10_does_50 : decode cX10_does 50 = .ok (.sipush 9000, 3) := by decide +kernel
theorem dX10_does_53 : decode cX10_does 53 = .ok (.if_icmp .ge 26, 3) := by decide +kernel
theorem dX10_does_56 : decode cX10_does 56 = .ok (.aload_n 0, 1) := by decide +kernel
theorem dX10_does_57 : decode cX10_does 57 = .ok (.getfield 13, 3) := by decide +kernel
theorem dX10_does_60 : decode cX10_does 60 = .ok (.bipush 64, 2) := by decide +kernel
theorem dX10_does_62 : decode cX10_does 62 = .ok (.iload_n 1, 1) := by decide +kernel
theorem dX10_does_63 : decode cX10_does 63 = .ok (.sipush 8100, 3) := by decide +kernel
theorem dX10_does_66 : decode cX10_does 66 = .ok (.isub, 1) := by decide +kernel
theorem dX10_does_67 : decode cX10_does 67 = .ok (.bipush 100, 2) := by decide +kernel
theorem dX10_does_69 : decode cX10_does 69 = .ok (.idiv, 1) := by decide +kernel
theorem dX10_does_70 : decode cX10_does 70 = .ok (.iadd, 1) := by decide +kernel
theorem dX10_does_71 : decode cX10_does 71 = .ok (.iload_n 1, 1) := by decide +kernel
theorem dX10_does_72 : decode cX10_does 72 = .ok (.bipush 100, 2) := by decide +kernel
theorem dX10_does_74 : decode cX10_does 74 = .ok (.irem, 1) := by decide +kernel
theorem dX10_does_75 : decode cX10_does 75 = .ok (.iastore, 1) := by decide +kernel
theorem dX10_does_76 : decode cX10_does 76 = .ok (.goto 15, 3) := by decide +kernel
theorem dX10_does_79 : decode cX10_does 79 = .ok (.aload_n 0, 1) := by decide +kernel
theorem dX10_does_80 : decode cX10_does 80 = .ok (.getfield 13, 3) := by decide +kernel
theorem dX10_does_83 : decode cX10_does 83 = .ok (.bipush 70, 2) := by decide +kernel
theorem dX10_does_85 : decode cX10_does 85 = .ok (.iload_n 1, 1) := by decide +kernel
theorem dX10_does_86 : decode cX10_does 86 = .ok (.sipush 9000, 3) := by decide +kernel
theorem dX10_does_89 : decode cX10_does 89 = .ok (.isub, 1) := by decide +kernel
theorem dX10_does_90 : decode cX10_does 90 = .ok (.iastore, 1) := by decide +kernel
theorem dX10_does_91 : decode cX10_does 91 = .ok (.return_, 1) := by decide +kernel
theorem dX10_tells_0 : decode cX10_tells 0 = .ok (.aload_n 0, 1) := by decide +kernel
theorem dX10_tells_1 : decode cX10_tells 1 = .ok (.iconst 0, 1) := by decide +kernel
theorem dX10_tells_2 : decode cX10_tells 2 = .ok (.putfield 360, 3) := by decide +kernel
theorem dX10_tells_5 : decode cX10_tells 5 = .ok (.iconst 0, 1) := by decide +kernel
theorem dX10_tells_6 : decode cX10_tells 6 = .ok (.istore_n 2, 1) := by decide +kernel
theorem dX10_tells_7 : decode cX10_tells 7 = .ok (.iload_n 2, 1) := by decide +kernel
theorem dX10_tells_8 : decode cX10_tells 8 = .ok (.aload_n 0, 1) := by decide +kernel
theorem dX10_tells_9 : decode cX10_tells 9 = .ok (.getfield 98, 3) := by decide +kernel
theorem dX10_tells_12 : decode cX10_tells 12 = .ok (.iload_n 1, 1) := by decide +kernel
theorem dX10_tells_13 : decode cX10_tells 13 = .ok (.iaload, 1) := by decide +kernel
theorem dX10_tells_14 : decode cX10_tells 14 = .ok (.if_icmp .ge 53, 3) := by decide +kernel
theorem dX10_tells_17 : decode cX10_tells 17 = .ok (.aload_n 0, 1) := by decide +kernel
theorem dX10_tells_18 : decode cX10_tells 18 = .ok (.aload_n 0, 1) := by decide +kernel
theorem dX10_tells_19 : decode cX10_tells 19 = .ok (.aload_n 0, 1) := by decide +kernel
theorem dX10_tells_20 : decode cX10_tells 20 = .ok (.getfield 101, 3) := by decide +kernel
theorem dX10_tells_23 : decode cX10_tells 23 = .ok (.bipush 40, 2) := by decide +kernel
theorem dX10_tells_25 : decode cX10_tells 25 = .ok (.iload_n 1, 1) := by decide +kernel
theorem dX10_tells_26 : decode cX10_tells 26 = .ok (.imul, 1) := by decide +kernel
theorem dX10_tells_27 : decode cX10_tells 27 = .ok (.iload_n 2, 1) := by decide +kernel
theorem dX10_tells_28 : decode cX10_tells 28 = .ok (.iadd, 1) := by decide +kernel
theorem dX10_tells_29 : decode cX10_tells 29 = .ok (.laload, 1) := by decide +kernel
theorem dX10_tells_30 : decode cX10_tells 30 = .ok (.invokevirtual 363, 3) := by decide +kernel
theorem dX10_tells_33 : decode cX10_tells 33 = .ok (.putfield 360, 3) := by decide +kernel
theorem dX10_tells_36 : decode cX10_tells 36 = .ok (.aload_n 0, 1) := by decide +kernel
theorem dX10_tells_37 : decode cX10_tells 37 = .ok (.getfield 360, 3) := by decide +kernel
theorem dX10_tells_40 : decode cX10_tells 40 = .ok (.ifCond .eq 5, 3) := by decide +kernel
theorem dX10_tells_43 : decode cX10_tells 43 = .ok (.iload_n 2, 1) := by decide +kernel
theorem dX10_tells_44 : decode cX10_tells 44 = .ok (.ireturn, 1) := by decide +kernel
theorem dX10_tells_45 : decode cX10_tells 45 = .ok (.aload_n 0, 1) := by decide +kernel
theorem dX10_tells_46 : decode cX10_tells 46 = .ok (.aload_n 0, 1) := by decide +kernel
theorem dX10_tells_47 : decode cX10_tells 47 = .ok (.getfield 101, 3) := by decide +kernel
theorem dX10_tells_50 : decode cX10_tells 50 = .ok (.bipush 40, 2) := by decide +kernel
theorem dX10_tells_52 : decode cX10_tells 52 = .ok (.iload_n 1, 1) := by decide +kernel
theorem dX10_tells_53 : decode cX10_tells 53 = .ok (.imul, 1) := by decide +kernel
theorem dX10_tells_54 : decode cX10_tells 54 = .ok (.iload_n 2, 1) := by decide +kernel
theorem dX10_tells_55 : decode cX10_tells 55 = .ok (.iadd, 1) := by decide +kernel
theorem dX10_tells_56 : decode cX10_tells 56 = .ok (.laload, 1) := by decide +kernel
theorem dX10_tells_57 : decode cX10_tells 57 = .ok (.l2i, 1) := by decide +kernel
theorem dX10_tells_58 : decode cX10_tells 58 = .ok (.invokevirtual 367, 3) := by decide +kernel
theorem dX10_tells_61 : decode cX10_tells 61 = .ok (.iinc 2 1, 3) := by decide +kernel
theorem dX10_tells_64 : decode cX10_tells 64 = .ok (.goto (-57), 3) := by decide +kernel
theorem dX10_tells_67 : decode cX10_tells 67 = .ok (.aload_n 0, 1) := by decide +kernel
theorem dX10_tells_68 : decode cX10_tells 68 = .ok (.getfield 98, 3) := by decide +kernel
theorem dX10_tells_71 : decode cX10_tells 71 = .ok (.iload_n 1, 1) := by decide +kernel
theorem dX10_tells_72 : decode cX10_tells 72 = .ok (.iaload, 1) := by decide +kernel
theorem dX10_tells_73 : decode cX10_tells 73 = .ok (.ireturn, 1) := by decide +kernel
theorem dX10_noTray_0 : decode cX10_noTray 0 = .ok (.iload_n 1, 1) := by decide +kernel
theorem dX10_noTray_1 : decode cX10_noTray 1 = .ok (.i2l, 1) := by decide +kernel
theorem dX10_noTray_2 : decode cX10_noTray 2 = .ok (.lconst 0, 1) := by decide +kernel
theorem dX10_noTray_3 : decode cX10_noTray 3 = .ok (.ldc2_w 370, 3) := by decide +kernel
theorem dX10_noTray_6 : decode cX10_noTray 6 = .ok (.invokestatic 170, 3) := by decide +kernel
theorem dX10_noTray_9 : decode cX10_noTray 9 = .ok (.ifCond .ne 8, 3) := by decide +kernel
theorem dX10_noTray_12 : decode cX10_noTray 12 = .ok (.bipush (-2), 2) := by decide +kernel
theorem dX10_noTray_14 : decode cX10_noTray 14 = .ok (.goto 19, 3) := by decide +kernel
theorem dX10_noTray_17 : decode cX10_noTray 17 = .ok (.aload_n 0, 1) := by decide +kernel
theorem dX10_noTray_18 : decode cX10_noTray 18 = .ok (.getfield 95, 3) := by decide +kernel
theorem dX10_noTray_21 : decode cX10_noTray 21 = .ok (.iload_n 1, 1) := by decide +kernel
theorem dX10_noTray_22 : decode cX10_noTray 22 = .ok (.iaload, 1) := by decide +kernel
theorem dX10_noTray_23 : decode cX10_noTray 23 = .ok (.iconst (-1), 1) := by decide +kernel
theorem dX10_noTray_24 : decode cX10_noTray 24 = .ok (.if_icmp .ne 8, 3) := by decide +kernel
theorem dX10_noTray_27 : decode cX10_noTray 27 = .ok (.bipush (-6), 2) := by decide +kernel
theorem dX10_noTray_29 : decode cX10_noTray 29 = .ok (.goto 4, 3) := by decide +kernel
theorem dX10_noTray_32 : decode cX10_noTray 32 = .ok (.iconst 0, 1) := by decide +kernel
theorem dX10_noTray_33 : decode cX10_noTray 33 = .ok (.ireturn, 1) := by decide +kernel
theorem dX10_judge_0 : decode cX10_judge 0 = .ok (.aload_n 0, 1) := by decide +kernel
theorem dX10_judge_1 : decode cX10_judge 1 = .ok (.iconst 0, 1) := by decide +kernel
theorem dX10_judge_2 : decode cX10_judge 2 = .ok (.putfield 1, 3) := by decide +kernel
theorem dX10_judge_5 : decode cX10_judge 5 = .ok (.iload_n 2, 1) := by decide +kernel
theorem dX10_judge_6 : decode cX10_judge 6 = .ok (.i2l, 1) := by decide +kernel
theorem dX10_judge_7 : decode cX10_judge 7 = .ok (.lconst 0, 1) := by decide +kernel
theorem dX10_judge_8 : decode cX10_judge 8 = .ok (.ldc2_w 370, 3) := by decide +kernel
theorem dX10_judge_11 : decode cX10_judge 11 = .ok (.invokestatic 170, 3) := by decide +kernel
theorem dX10_judge_14 : decode cX10_judge 14 = .ok (.ifCond .ne 6, 3) := by decide +kernel
theorem dX10_judge_17 : decode cX10_judge 17 = .ok (.bipush (-2), 2) := by decide +kernel
theorem dX10_judge_19 : decode cX10_judge 19 = .ok (.ireturn, 1) := by decide +kernel
theorem dX10_judge_20 : decode cX10_judge 20 = .ok (.aload_n 0, 1) := by decide +kernel
theorem dX10_judge_21 : decode cX10_judge 21 = .ok (.iload_n 1, 1) := by decide +kernel
theorem dX10_judge_22 : decode cX10_judge 22 = .ok (.invokevirtual 372, 3) := by decide +kernel
theorem dX10_judge_25 : decode cX10_judge 25 = .ok (.istore_n 3, 1) := by decide +kernel
theorem dX10_judge_26 : decode cX10_judge 26 = .ok (.iload_n 3, 1) := by decide +kernel
theorem dX10_judge_27 : decode cX10_judge 27 = .ok (.ifCond .eq 5, 3) := by decide +kernel
theorem dX10_judge_30 : decode cX10_judge 30 = .ok (.iload_n 3, 1) := by decide +kernel
theorem dX10_judge_31 : decode cX10_judge 31 = .ok (.ireturn, 1) := by decide +kernel
theorem dX10_judge_32 : decode cX10_judge 32 = .ok (.aload_n 0, 1) := by decide +kernel
theorem dX10_judge_33 : decode cX10_judge 33 = .ok (.invokevirtual 320, 3) := by decide +kernel
theorem dX10_judge_36 : decode cX10_judge 36 = .ok (.aload_n 0, 1) := by decide +kernel
theorem dX10_judge_37 : decode cX10_judge 37 = .ok (.iload_n 1, 1) := by decide +kernel
theorem dX10_judge_38 : decode cX10_judge 38 = .ok (.invokevirtual 375, 3) := by decide +kernel
theorem dX10_judge_41 : decode cX10_judge 41 = .ok (.istore 4, 2) := by decide +kernel
theorem dX10_judge_43 : decode cX10_judge 43 = .ok (.aload_n 0, 1) := by decide +kernel
theorem dX10_judge_44 : decode cX10_judge 44 = .ok (.invokevirtual 308, 3) := by decide +kernel
theorem dX10_judge_47 : decode cX10_judge 47 = .ok (.aload_n 0, 1) := by decide +kernel
theorem dX10_judge_48 : decode cX10_judge 48 = .ok (.invokevirtual 378, 3) := by decide +kernel
theorem dX10_judge_51 : decode cX10_judge 51 = .ok (.iload_n 2, 1) := by decide +kernel
theorem dX10_judge_52 : decode cX10_judge 52 = .ok (.ifCond .ne 19, 3) := by decide +kernel
theorem dX10_judge_55 : decode cX10_judge 55 = .ok (.aload_n 0, 1) := by decide +kernel
theorem dX10_judge_56 : decode cX10_judge 56 = .ok (.getfield 360, 3) := by decide +kernel
theorem dX10_judge_59 : decode cX10_judge 59 = .ok (.ifCond .ne 7, 3) := by decide +kernel
theorem dX10_judge_62 : decode cX10_judge 62 = .ok (.iconst (-1), 1) := by decide +kernel
theorem dX10_judge_63 : decode cX10_judge 63 = .ok (.goto 36, 3) := by decide +kernel
theorem dX10_judge_66 : decode cX10_judge 66 = .ok (.iload 4, 2) := by decide +kernel
theorem dX10_judge_68 : decode cX10_judge 68 = .ok (.goto 31, 3) := by decide +kernel
theorem dX10_judge_71 : decode cX10_judge 71 = .ok (.iload_n 2, 1) := by decide +kernel
theorem dX10_judge_72 : decode cX10_judge 72 = .ok (.iconst 1, 1) := by decide +kernel
theorem dX10_judge_73 : decode cX10_judge 73 = .ok (.if_icmp .ne 10, 3) := by decide +kernel
theorem dX10_judge_76 : decode cX10_judge 76 = .ok (.aload_n 0, 1) := by decide +kernel
theorem dX10_judge_77 : decode cX10_judge 77 = .ok (.getfield 360, 3) := by decide +kernel
theorem dX10_judge_80 : decode cX10_judge 80 = .ok (.goto 19, 3) := by decide +kernel
theorem dX10_judge_83 : decode cX10_judge 83 = .ok (.iload_n 2, 1) := by decide +kernel
theorem dX10_judge_84 : decode cX10_judge 84 = .ok (.iconst 2, 1) := by decide +kernel
theorem dX10_judge_85 : decode cX10_judge 85 = .ok (.if_icmp .ne 10, 3) := by decide +kernel
theorem dX10_judge_88 : decode cX10_judge 88 = .ok (.aload_n 0, 1) := by decide +kernel
theorem dX10_judge_89 : decode cX10_judge 89 = .ok (.getfield 287, 3) := by decide +kernel
theorem dX10_judge_92 : decode cX10_judge 92 = .ok (.goto 7, 3) := by decide +kernel
theorem dX10_judge_95 : decode cX10_judge 95 = .ok (.aload_n 0, 1) := by decide +kernel
theorem dX10_judge_96 : decode cX10_judge 96 = .ok (.invokevirtual 381, 3) := by decide +kernel
theorem dX10_judge_99 : decode cX10_judge 99 = .ok (.ireturn, 1) := by decide +kernel
theorem dX10_perform_0 : decode cX10_perform 0 = .ok (.aload_n 0, 1) := by decide +kernel
theorem dX10_perform_1 : decode cX10_perform 1 = .ok (.iconst 0, 1) := by decide +kernel
theorem dX10_perform_2 : decode cX10_perform 2 = .ok (.putfield 1, 3) := by decide +kernel
theorem dX10_perform_5 : decode cX10_perform 5 = .ok (.aload_n 0, 1) := by decide +kernel
theorem dX10_perform_6 : decode cX10_perform 6 = .ok (.iload_n 1, 1) := by decide +kernel
theorem dX10_perform_7 : decode cX10_perform 7 = .ok (.invokevirtual 372, 3) := by decide +kernel
theorem dX10_perform_10 : decode cX10_perform 10 = .ok (.istore_n 2, 1) := by decide +kernel
theorem dX10_perform_11 : decode cX10_perform 11 = .ok (.iload_n 2, 1) := by decide +kernel
theorem dX10_perform_12 : decode cX10_perform 12 = .ok (.ifCond .eq 5, 3) := by decide +kernel
theorem dX10_perform_15 : decode cX10_perform 15 = .ok (.iload_n 2, 1) := by decide +kernel
theorem dX10_perform_16 : decode cX10_perform 16 = .ok (.ireturn, 1) := by decide +kernel
theorem dX10_perform_17 : decode cX10_perform 17 = .ok (.aload_n 0, 1) := by decide +kernel
theorem dX10_perform_18 : decode cX10_perform 18 = .ok (.invokevirtual 320, 3) := by decide +kernel
theorem dX10_perform_21 : decode cX10_perform 21 = .ok (.aload_n 0, 1) := by decide +kernel
theorem dX10_perform_22 : decode cX10_perform 22 = .ok (.iload_n 1, 1) := by decide +kernel
theorem dX10_perform_23 : decode cX10_perform 23 = .ok (.invokevirtual 375, 3) := by decide +kernel
theorem dX10_perform_26 : decode cX10_perform 26 = .ok (.istore_n 3, 1) := by decide +kernel
theorem dX10_perform_27 : decode cX10_perform 27 = .ok (.iload_n 3, 1) := by decide +kernel
theorem dX10_perform_28 : decode cX10_perform 28 = .ok (.ifCond .le 7, 3) := by decide +kernel
theorem dX10_perform_31 : decode cX10_perform 31 = .ok (.aload_n 0, 1) := by decide +kernel
theorem dX10_perform_32 : decode cX10_perform 32 = .ok (.invokevirtual 326, 3) := by decide +kernel
theorem dX10_perform_35 : decode cX10_perform 35 = .ok (.iload_n 3, 1) := by decide +kernel
theorem dX10_perform_36 : decode cX10_perform 36 = .ok (.ireturn, 1) := by decide +kernel
theorem dX10_draw_0 : decode cX10_draw 0 = .ok (.aload_n 0, 1) := by decide +kernel
theorem dX10_draw_1 : decode cX10_draw 1 = .ok (.ldc_w 384, 3) := by decide +kernel
theorem dX10_draw_4 : decode cX10_draw 4 = .ok (.aload_n 0, 1) := by decide +kernel
theorem dX10_draw_5 : decode cX10_draw 5 = .ok (.getfield 385, 3) := by decide +kernel
theorem dX10_draw_8 : decode cX10_draw 8 = .ok (.imul, 1) := by decide +kernel
theorem dX10_draw_9 : decode cX10_draw 9 = .ok (.sipush 12345, 3) := by decide +kernel
theorem dX10_draw_12 : decode cX10_draw 12 = .ok (.iadd, 1) := by decide +kernel
theorem dX10_draw_13 : decode cX10_draw 13 = .ok (.putfield 385, 3) := by decide +kernel
theorem dX10_draw_16 : decode cX10_draw 16 = .ok (.aload_n 0, 1) := by decide +kernel
theorem dX10_draw_17 : decode cX10_draw 17 = .ok (.getfield 385, 3) := by decide +kernel
theorem dX10_draw_20 : decode cX10_draw 20 = .ok (.bipush 16, 2) := by decide +kernel
theorem dX10_draw_22 : decode cX10_draw 22 = .ok (.iushr, 1) := by decide +kernel
theorem dX10_draw_23 : decode cX10_draw 23 = .ok (.iload_n 1, 1) := by decide +kernel
theorem dX10_draw_24 : decode cX10_draw 24 = .ok (.irem, 1) := by decide +kernel
theorem dX10_draw_25 : decode cX10_draw 25 = .ok (.ireturn, 1) := by decide +kernel
theorem dX10_drawn_0 : decode cX10_drawn 0 = .ok (.aload_n 0, 1) := by decide +kernel
theorem dX10_drawn_1 : decode cX10_drawn 1 = .ok (.iconst 5, 1) := by decide +kernel
theorem dX10_drawn_2 : decode cX10_drawn 2 = .ok (.invokevirtual 388, 3) := by decide +kernel
theorem dX10_drawn_5 : decode cX10_drawn 5 = .ok (.istore_n 1, 1) := by decide +kernel
theorem dX10_drawn_6 : decode cX10_drawn 6 = .ok (.iload_n 1, 1) := by decide +kernel
theorem dX10_drawn_7 : decode cX10_drawn 7 = .ok (.iconst 4, 1) := by decide +kernel
theorem dX10_drawn_8 : decode cX10_drawn 8 = .ok (.if_icmp .ne 14, 3) := by decide +kernel
theorem dX10_drawn_11 : decode cX10_drawn 11 = .ok (.sipush 9000, 3) := by decide +kernel
theorem dX10_drawn_14 : decode cX10_drawn 14 = .ok (.aload_n 0, 1) := by decide +kernel
theorem dX10_drawn_15 : decode cX10_drawn 15 = .ok (.bipush 10, 2) := by decide +kernel
theorem dX10_drawn_17 : decode cX10_drawn 17 = .ok (.invokevirtual 388, 3) := by decide +kernel
theorem dX10_drawn_20 : decode cX10_drawn 20 = .ok (.iadd, 1) := by decide +kernel
theorem dX10_drawn_21 : decode cX10_drawn 21 = .ok (.ireturn, 1) := by decide +kernel
theorem dX10_drawn_22 : decode cX10_drawn 22 = .ok (.iload_n 1, 1) := by decide +kernel
theorem dX10_drawn_23 : decode cX10_drawn 23 = .ok (.iconst 2, 1) := by decide +kernel
theorem dX10_drawn_24 : decode cX10_drawn 24 = .ok (.if_icmp .ne 14, 3) := by decide +kernel
theorem dX10_drawn_27 : decode cX10_drawn 27 = .ok (.sipush 8000, 3) := by decide +kernel
theorem dX10_drawn_30 : decode cX10_drawn 30 = .ok (.aload_n 0, 1) := by decide +kernel
theorem dX10_drawn_31 : decode cX10_drawn 31 = .ok (.bipush 8, 2) := by decide +kernel
theorem dX10_drawn_33 : decode cX10_drawn 33 = .ok (.invokevirtual 388, 3) := by decide +kernel
theorem dX10_drawn_36 : decode cX10_drawn 36 = .ok (.iadd, 1) := by decide +kernel
theorem dX10_drawn_37 : decode cX10_drawn 37 = .ok (.ireturn, 1) := by decide +kernel
theorem dX10_drawn_38 : decode cX10_drawn 38 = .ok (.aload_n 0, 1) := by decide +kernel
theorem dX10_drawn_39 : decode cX10_drawn 39 = .ok (.bipush 6, 2) := by decide +kernel
theorem dX10_drawn_41 : decode cX10_drawn 41 = .ok (.invokevirtual 388, 3) := by decide +kernel
theorem dX10_drawn_44 : decode cX10_drawn 44 = .ok (.istore_n 2, 1) := by decide +kernel
theorem dX10_drawn_45 : decode cX10_drawn 45 = .ok (.iload_n 1, 1) := by decide +kernel
theorem dX10_drawn_46 : decode cX10_drawn 46 = .ok (.iconst 3, 1) := by decide +kernel
theorem dX10_drawn_47 : decode cX10_drawn 47 = .ok (.if_icmp .ne 19, 3) := by decide +kernel
theorem dX10_drawn_50 : decode cX10_drawn 50 = .ok (.sipush 8100, 3) := by decide +kernel
theorem dX10_drawn_53 : decode cX10_drawn 53 = .ok (.bipush 100, 2) := by decide +kernel
theorem dX10_drawn_55 : decode cX10_drawn 55 = .ok (.iload_n 2, 1) := by decide +kernel
theorem dX10_drawn_56 : decode cX10_drawn 56 = .ok (.imul, 1) := by decide +kernel
theorem dX10_drawn_57 : decode cX10_drawn 57 = .ok (.iadd, 1) := by decide +kernel
theorem dX10_drawn_58 : decode cX10_drawn 58 = .ok (.aload_n 0, 1) := by decide +kernel
theorem dX10_drawn_59 : decode cX10_drawn 59 = .ok (.bipush 64, 2) := by decide +kernel
theorem dX10_drawn_61 : decode cX10_drawn 61 = .ok (.invokevirtual 388, 3) := by decide +kernel
theorem dX10_drawn_64 : decode cX10_drawn 64 = .ok (.iadd, 1) := by decide +kernel
theorem dX10_drawn_65 : decode cX10_drawn 65 = .ok (.ireturn, 1) := by decide +kernel
theorem dX10_drawn_66 : decode cX10_drawn 66 = .ok (.aload_n 0, 1) := by decide +kernel
theorem dX10_drawn_67 : decode cX10_drawn 67 = .ok (.bipush 6, 2) := by decide +kernel
theorem dX10_drawn_69 : decode cX10_drawn 69 = .ok (.invokevirtual 388, 3) := by decide +kernel
theorem dX10_drawn_72 : decode cX10_drawn 72 = .ok (.istore_n 3, 1) := by decide +kernel
theorem dX10_drawn_73 : decode cX10_drawn 73 = .ok (.sipush 1000, 3) := by decide +kernel
theorem dX10_drawn_76 : decode cX10_drawn 76 = .ok (.iload_n 2, 1) := by decide +kernel
theorem dX10_drawn_77 : decode cX10_drawn 77 = .ok (.imul, 1) := by decide +kernel
theorem dX10_drawn_78 : decode cX10_drawn 78 = .ok (.bipush 100, 2) := by decide +kernel
theorem dX10_drawn_80 : decode cX10_drawn 80 = .ok (.iload_n 3, 1) := by decide +kernel
theorem dX10_drawn_81 : decode cX10_drawn 81 = .ok (.imul, 1) := by decide +kernel
theorem dX10_drawn_82 : decode cX10_drawn 82 = .ok (.iadd, 1) := by decide +kernel
theorem dX10_drawn_83 : decode cX10_drawn 83 = .ok (.aload_n 0, 1) := by decide +kernel
theorem dX10_drawn_84 : decode cX10_drawn 84 = .ok (.bipush 100, 2) := by decide +kernel
theorem dX10_drawn_86 : decode cX10_drawn 86 = .ok (.invokevirtual 388, 3) := by decide +kernel
theorem dX10_drawn_89 : decode cX10_drawn 89 = .ok (.iadd, 1) := by decide +kernel
theorem dX10_drawn_90 : decode cX10_drawn 90 = .ok (.ireturn, 1) := by decide +kernel
theorem dX10_week_0 : decode cX10_week 0 = .ok (.aload_n 0, 1) := by decide +kernel
theorem dX10_week_1 : decode cX10_week 1 = .ok (.iconst 0, 1) := by decide +kernel
theorem dX10_week_2 : decode cX10_week 2 = .ok (.putfield 1, 3) := by decide +kernel
theorem dX10_week_5 : decode cX10_week 5 = .ok (.iload_n 2, 1) := by decide +kernel
theorem dX10_week_6 : decode cX10_week 6 = .ok (.i2l, 1) := by decide +kernel
theorem dX10_week_7 : decode cX10_week 7 = .ok (.lconst 1, 1) := by decide +kernel
theorem dX10_week_8 : decode cX10_week 8 = .ok (.ldc2_w 391, 3) := by decide +kernel
theorem dX10_week_11 : decode cX10_week 11 = .ok (.invokestatic 170, 3) := by decide +kernel
theorem dX10_week_14 : decode cX10_week 14 = .ok (.ifCond .ne 6, 3) := by decide +kernel
theorem dX10_week_17 : decode cX10_week 17 = .ok (.bipush (-3), 2) := by decide +kernel
theorem dX10_week_19 : decode cX10_week 19 = .ok (.ireturn, 1) := by decide +kernel
theorem dX10_week_20 : decode cX10_week 20 = .ok (.aload_n 0, 1) := by decide +kernel
theorem dX10_week_21 : decode cX10_week 21 = .ok (.invokevirtual 320, 3) := by decide +kernel
theorem dX10_week_24 : decode cX10_week 24 = .ok (.aload_n 0, 1) := by decide +kernel
theorem dX10_week_25 : decode cX10_week 25 = .ok (.iload_n 1, 1) := by decide +kernel
theorem dX10_week_26 : decode cX10_week 26 = .ok (.putfield 385, 3) := by decide +kernel
theorem dX10_week_29 : decode cX10_week 29 = .ok (.iconst 0, 1) := by decide +kernel
theorem dX10_week_30 : decode cX10_week 30 = .ok (.istore_n 3, 1) := by decide +kernel
theorem dX10_week_31 : decode cX10_week 31 = .ok (.iconst 0, 1) := by decide +kernel
theorem dX10_week_32 : decode cX10_week 32 = .ok (.istore 4, 2) := by decide +kernel
theorem dX10_week_34 : decode cX10_week 34 = .ok (.iload 4, 2) := by decide +kernel
theorem dX10_week_36 : decode cX10_week 36 = .ok (.iload_n 2, 1) := by decide +kernel
theorem dX10_week_37 : decode cX10_week 37 = .ok (.if_icmp .ge 37, 3) := by decide +kernel
theorem dX10_week_40 : decode cX10_week 40 = .ok (.aload_n 0, 1) := by decide +kernel
theorem dX10_week_41 : decode cX10_week 41 = .ok (.invokevirtual 393, 3) := by decide +kernel
theorem dX10_week_44 : decode cX10_week 44 = .ok (.istore 5, 2) := by decide +kernel
theorem dX10_week_46 : decode cX10_week 46 = .ok (.aload_n 0, 1) := by decide +kernel
theorem dX10_week_47 : decode cX10_week 47 = .ok (.iload 5, 2) := by decide +kernel
theorem dX10_week_49 : decode cX10_week 49 = .ok (.i2l, 1) := by decide +kernel
theorem dX10_week_50 : decode cX10_week 50 = .ok (.invokevirtual 363, 3) := by decide +kernel
theorem dX10_week_53 : decode cX10_week 53 = .ok (.ifCond .eq 6, 3) := by decide +kernel
theorem dX10_week_56 : decode cX10_week 56 = .ok (.goto 12, 3) := by decide +kernel
theorem dX10_week_59 : decode cX10_week 59 = .ok (.aload_n 0, 1) := by decide +kernel
theorem dX10_week_60 : decode cX10_week 60 = .ok (.iload 5, 2) := by decide +kernel
theorem dX10_week_62 : decode cX10_week 62 = .ok (.invokevirtual 367, 3) := by decide +kernel
theorem dX10_week_65 : decode cX10_week 65 = .ok (.iinc 3 1, 3) := by decide +kernel
theorem dX10_week_68 : decode cX10_week 68 = .ok (.iinc 4 1, 3) := by decide +kernel
theorem dX10_week_71 : decode cX10_week 71 = .ok (.goto (-37), 3) := by decide +kernel
theorem dX10_week_74 : decode cX10_week 74 = .ok (.iload_n 3, 1) := by decide +kernel
theorem dX10_week_75 : decode cX10_week 75 = .ok (.ifCond .le 7, 3) := by decide +kernel
theorem dX10_week_78 : decode cX10_week 78 = .ok (.aload_n 0, 1) := by decide +kernel
theorem dX10_week_79 : decode cX10_week 79 = .ok (.invokevirtual 326, 3) := by decide +kernel
theorem dX10_week_82 : decode cX10_week 82 = .ok (.iload_n 3, 1) := by decide +kernel
theorem dX10_week_83 : decode cX10_week 83 = .ok (.ireturn, 1) := by decide +kernel
theorem dX10_hiccups_0 : decode cX10_hiccups 0 = .ok (.aload_n 0, 1) := by decide +kernel
theorem dX10_hiccups_1 : decode cX10_hiccups 1 = .ok (.iconst 0, 1) := by decide +kernel
theorem dX10_hiccups_2 : decode cX10_hiccups 2 = .ok (.putfield 1, 3) := by decide +kernel
theorem dX10_hiccups_5 : decode cX10_hiccups 5 = .ok (.iload_n 1, 1) := by decide +kernel
theorem dX10_hiccups_6 : decode cX10_hiccups 6 = .ok (.iconst (-1), 1) := by decide +kernel
theorem dX10_hiccups_7 : decode cX10_hiccups 7 = .ok (.if_icmp .eq 15, 3) := by decide +kernel
theorem dX10_hiccups_10 : decode cX10_hiccups 10 = .ok (.aload_n 0, 1) := by decide +kernel
theorem dX10_hiccups_11 : decode cX10_hiccups 11 = .ok (.iload_n 1, 1) := by decide +kernel
theorem dX10_hiccups_12 : decode cX10_hiccups 12 = .ok (.i2l, 1) := by decide +kernel
theorem dX10_hiccups_13 : decode cX10_hiccups 13 = .ok (.invokevirtual 235, 3) := by decide +kernel
theorem dX10_hiccups_16 : decode cX10_hiccups 16 = .ok (.ifCond .ne 6, 3) := by decide +kernel
theorem dX10_hiccups_19 : decode cX10_hiccups 19 = .ok (.bipush (-2), 2) := by decide +kernel
theorem dX10_hiccups_21 : decode cX10_hiccups 21 = .ok (.ireturn, 1) := by decide +kernel
theorem dX10_hiccups_22 : decode cX10_hiccups 22 = .ok (.aload_n 0, 1) := by decide +kernel
theorem dX10_hiccups_23 : decode cX10_hiccups 23 = .ok (.invokevirtual 308, 3) := by decide +kernel
theorem dX10_hiccups_26 : decode cX10_hiccups 26 = .ok (.iload_n 1, 1) := by decide +kernel
theorem dX10_hiccups_27 : decode cX10_hiccups 27 = .ok (.iconst (-1), 1) := by decide +kernel
theorem dX10_hiccups_28 : decode cX10_hiccups 28 = .ok (.if_icmp .ne 10, 3) := by decide +kernel
theorem dX10_hiccups_31 : decode cX10_hiccups 31 = .ok (.aload_n 0, 1) := by decide +kernel
theorem dX10_hiccups_32 : decode cX10_hiccups 32 = .ok (.getfield 287, 3) := by decide +kernel
theorem dX10_hiccups_35 : decode cX10_hiccups 35 = .ok (.goto 8, 3) := by decide +kernel
theorem dX10_hiccups_38 : decode cX10_hiccups 38 = .ok (.aload_n 0, 1) := by decide +kernel
theorem dX10_hiccups_39 : decode cX10_hiccups 39 = .ok (.iload_n 1, 1) := by decide +kernel
theorem dX10_hiccups_40 : decode cX10_hiccups 40 = .ok (.invokevirtual 396, 3) := by decide +kernel
theorem dX10_hiccups_43 : decode cX10_hiccups 43 = .ok (.ireturn, 1) := by decide +kernel
theorem dX10_hiccup_0 : decode cX10_hiccup 0 = .ok (.aload_n 0, 1) := by decide +kernel
theorem dX10_hiccup_1 : decode cX10_hiccup 1 = .ok (.iconst 0, 1) := by decide +kernel
theorem dX10_hiccup_2 : decode cX10_hiccup 2 = .ok (.putfield 1, 3) := by decide +kernel
theorem dX10_hiccup_5 : decode cX10_hiccup 5 = .ok (.iload_n 2, 1) := by decide +kernel
theorem dX10_hiccup_6 : decode cX10_hiccup 6 = .ok (.i2l, 1) := by decide +kernel
theorem dX10_hiccup_7 : decode cX10_hiccup 7 = .ok (.lconst 0, 1) := by decide +kernel
theorem dX10_hiccup_8 : decode cX10_hiccup 8 = .ok (.ldc2_w 306, 3) := by decide +kernel
theorem dX10_hiccup_11 : decode cX10_hiccup 11 = .ok (.invokestatic 170, 3) := by decide +kernel
theorem dX10_hiccup_14 : decode cX10_hiccup 14 = .ok (.ifCond .ne 6, 3) := by decide +kernel
theorem dX10_hiccup_17 : decode cX10_hiccup 17 = .ok (.bipush (-2), 2) := by decide +kernel
theorem dX10_hiccup_19 : decode cX10_hiccup 19 = .ok (.ireturn, 1) := by decide +kernel
theorem dX10_hiccup_20 : decode cX10_hiccup 20 = .ok (.iload_n 1, 1) := by decide +kernel
theorem dX10_hiccup_21 : decode cX10_hiccup 21 = .ok (.ifCond .ge 6, 3) := by decide +kernel
theorem dX10_hiccup_24 : decode cX10_hiccup 24 = .ok (.bipush (-3), 2) := by decide +kernel
theorem dX10_hiccup_26 : decode cX10_hiccup 26 = .ok (.ireturn, 1) := by decide +kernel
theorem dX10_hiccup_27 : decode cX10_hiccup 27 = .ok (.aload_n 0, 1) := by decide +kernel
theorem dX10_hiccup_28 : decode cX10_hiccup 28 = .ok (.invokevirtual 308, 3) := by decide +kernel
theorem dX10_hiccup_31 : decode cX10_hiccup 31 = .ok (.iload_n 1, 1) := by decide +kernel
theorem dX10_hiccup_32 : decode cX10_hiccup 32 = .ok (.aload_n 0, 1) := by decide +kernel
theorem dX10_hiccup_33 : decode cX10_hiccup 33 = .ok (.getfield 287, 3) := by decide +kernel
theorem dX10_hiccup_36 : decode cX10_hiccup 36 = .ok (.if_icmp .lt 5, 3) := by decide +kernel
theorem dX10_hiccup_39 : decode cX10_hiccup 39 = .ok (.iconst (-1), 1) := by decide +kernel
theorem dX10_hiccup_40 : decode cX10_hiccup 40 = .ok (.ireturn, 1) := by decide +kernel
theorem dX10_hiccup_41 : decode cX10_hiccup 41 = .ok (.iload_n 2, 1) := by decide +kernel
theorem dX10_hiccup_42 : decode cX10_hiccup 42 = .ok (.tableswitch 68 0 3 #[30, 37, 44, 51], 30) := by decide +kernel
theorem dX10_hiccup_72 : decode cX10_hiccup 72 = .ok (.aload_n 0, 1) := by decide +kernel
theorem dX10_hiccup_73 : decode cX10_hiccup 73 = .ok (.getfield 67, 3) := by decide +kernel
theorem dX10_hiccup_76 : decode cX10_hiccup 76 = .ok (.iload_n 1, 1) := by decide +kernel
theorem dX10_hiccup_77 : decode cX10_hiccup 77 = .ok (.iaload, 1) := by decide +kernel
theorem dX10_hiccup_78 : decode cX10_hiccup 78 = .ok (.ireturn, 1) := by decide +kernel
theorem dX10_hiccup_79 : decode cX10_hiccup 79 = .ok (.aload_n 0, 1) := by decide +kernel
theorem dX10_hiccup_80 : decode cX10_hiccup 80 = .ok (.getfield 70, 3) := by decide +kernel
theorem dX10_hiccup_83 : decode cX10_hiccup 83 = .ok (.iload_n 1, 1) := by decide +kernel
theorem dX10_hiccup_84 : decode cX10_hiccup 84 = .ok (.iaload, 1) := by decide +kernel
theorem dX10_hiccup_85 : decode cX10_hiccup 85 = .ok (.ireturn, 1) := by decide +kernel
theorem dX10_hiccup_86 : decode cX10_hiccup 86 = .ok (.aload_n 0, 1) := by decide +kernel
theorem dX10_hiccup_87 : decode cX10_hiccup 87 = .ok (.getfield 73, 3) := by decide +kernel
theorem dX10_hiccup_90 : decode cX10_hiccup 90 = .ok (.iload_n 1, 1) := by decide +kernel
theorem dX10_hiccup_91 : decode cX10_hiccup 91 = .ok (.iaload, 1) := by decide +kernel
theorem dX10_hiccup_92 : decode cX10_hiccup 92 = .ok (.ireturn, 1) := by decide +kernel
theorem dX10_hiccup_93 : decode cX10_hiccup 93 = .ok (.aload_n 0, 1) := by decide +kernel
theorem dX10_hiccup_94 : decode cX10_hiccup 94 = .ok (.aload_n 0, 1) := by decide +kernel
theorem dX10_hiccup_95 : decode cX10_hiccup 95 = .ok (.getfield 73, 3) := by decide +kernel
theorem dX10_hiccup_98 : decode cX10_hiccup 98 = .ok (.iload_n 1, 1) := by decide +kernel
theorem dX10_hiccup_99 : decode cX10_hiccup 99 = .ok (.iaload, 1) := by decide +kernel
theorem dX10_hiccup_100 : decode cX10_hiccup 100 = .ok (.aload_n 0, 1) := by decide +kernel
theorem dX10_hiccup_101 : decode cX10_hiccup 101 = .ok (.getfield 67, 3) := by decide +kernel
theorem dX10_hiccup_104 : decode cX10_hiccup 104 = .ok (.iload_n 1, 1) := by decide +kernel
theorem dX10_hiccup_105 : decode cX10_hiccup 105 = .ok (.iaload, 1) := by decide +kernel
theorem dX10_hiccup_106 : decode cX10_hiccup 106 = .ok (.invokevirtual 266, 3) := by decide +kernel
theorem dX10_hiccup_109 : decode cX10_hiccup 109 = .ok (.ireturn, 1) := by decide +kernel
theorem dX10_hiccup_110 : decode cX10_hiccup 110 = .ok (.aload_n 0, 1) := by decide +kernel
theorem dX10_hiccup_111 : decode cX10_hiccup 111 = .ok (.getfield 49, 3) := by decide +kernel
theorem dX10_hiccup_114 : decode cX10_hiccup 114 = .ok (.bipush 6, 2) := by decide +kernel
theorem dX10_hiccup_116 : decode cX10_hiccup 116 = .ok (.aload_n 0, 1) := by decide +kernel
theorem dX10_hiccup_117 : decode cX10_hiccup 117 = .ok (.getfield 73, 3) := by decide +kernel
theorem dX10_hiccup_120 : decode cX10_hiccup 120 = .ok (.iload_n 1, 1) := by decide +kernel
theorem dX10_hiccup_121 : decode cX10_hiccup 121 = .ok (.iaload, 1) := by decide +kernel
theorem dX10_hiccup_122 : decode cX10_hiccup 122 = .ok (.imul, 1) := by decide +kernel
theorem dX10_hiccup_123 : decode cX10_hiccup 123 = .ok (.aload_n 0, 1) := by decide +kernel
theorem dX10_hiccup_124 : decode cX10_hiccup 124 = .ok (.getfield 67, 3) := by decide +kernel
theorem dX10_hiccup_127 : decode cX10_hiccup 127 = .ok (.iload_n 1, 1) := by decide +kernel
theorem dX10_hiccup_128 : decode cX10_hiccup 128 = .ok (.iaload, 1) := by decide +kernel
theorem dX10_hiccup_129 : decode cX10_hiccup 129 = .ok (.iadd, 1) := by decide +kernel
theorem dX10_hiccup_130 : decode cX10_hiccup 130 = .ok (.iaload, 1) := by decide +kernel
theorem dX10_hiccup_131 : decode cX10_hiccup 131 = .ok (.ireturn, 1) := by decide +kernel
theorem dX10_minuteAt_0 : decode cX10_minuteAt 0 = .ok (.iconst 0, 1) := by decide +kernel
theorem dX10_minuteAt_1 : decode cX10_minuteAt 1 = .ok (.istore_n 3, 1) := by decide +kernel
theorem dX10_minuteAt_2 : decode cX10_minuteAt 2 = .ok (.iconst 0, 1) := by decide +kernel
theorem dX10_minuteAt_3 : decode cX10_minuteAt 3 = .ok (.istore 4, 2) := by decide +kernel
theorem dX10_minuteAt_5 : decode cX10_minuteAt 5 = .ok (.iload 4, 2) := by decide +kernel
theorem dX10_minuteAt_7 : decode cX10_minuteAt 7 = .ok (.aload_n 0, 1) := by decide +kernel
theorem dX10_minuteAt_8 : decode cX10_minuteAt 8 = .ok (.getfield 287, 3) := by decide +kernel
theorem dX10_minuteAt_11 : decode cX10_minuteAt 11 = .ok (.if_icmp .ge 39, 3) := by decide +kernel
theorem dX10_minuteAt_14 : decode cX10_minuteAt 14 = .ok (.aload_n 0, 1) := by decide +kernel
theorem dX10_minuteAt_15 : decode cX10_minuteAt 15 = .ok (.getfield 67, 3) := by decide +kernel
theorem dX10_minuteAt_18 : decode cX10_minuteAt 18 = .ok (.iload 4, 2) := by decide +kernel
theorem dX10_minuteAt_20 : decode cX10_minuteAt 20 = .ok (.iaload, 1) := by decide +kernel
theorem dX10_minuteAt_21 : decode cX10_minuteAt 21 = .ok (.iload_n 1, 1) := by decide +kernel
theorem dX10_minuteAt_22 : decode cX10_minuteAt 22 = .ok (.if_icmp .eq 6, 3) := by decide +kernel
theorem dX10_minuteAt_25 : decode cX10_minuteAt 25 = .ok (.goto 19, 3) := by decide +kernel
theorem dX10_minuteAt_28 : decode cX10_minuteAt 28 = .ok (.iload_n 3, 1) := by decide +kernel
theorem dX10_minuteAt_29 : decode cX10_minuteAt 29 = .ok (.iload_n 2, 1) := by decide +kernel
theorem dX10_minuteAt_30 : decode cX10_minuteAt 30 = .ok (.if_icmp .ne 11, 3) := by decide +kernel
theorem dX10_minuteAt_33 : decode cX10_minuteAt 33 = .ok (.aload_n 0, 1) := by decide +kernel
theorem dX10_minuteAt_34 : decode cX10_minuteAt 34 = .ok (.getfield 70, 3) := by decide +kernel
theorem dX10_minuteAt_37 : decode cX10_minuteAt 37 = .ok (.iload 4, 2) := by decide +kernel
theorem dX10_minuteAt_39 : decode cX10_minuteAt 39 = .ok (.iaload, 1) := by decide +kernel
theorem dX10_minuteAt_40 : decode cX10_minuteAt 40 = .ok (.ireturn, 1) := by decide +kernel
theorem dX10_minuteAt_41 : decode cX10_minuteAt 41 = .ok (.iinc 3 1, 3) := by decide +kernel
theorem dX10_minuteAt_44 : decode cX10_minuteAt 44 = .ok (.iinc 4 1, 3) := by decide +kernel
theorem dX10_minuteAt_47 : decode cX10_minuteAt 47 = .ok (.goto (-42), 3) := by decide +kernel
theorem dX10_minuteAt_50 : decode cX10_minuteAt 50 = .ok (.iconst (-1), 1) := by decide +kernel
theorem dX10_minuteAt_51 : decode cX10_minuteAt 51 = .ok (.ireturn, 1) := by decide +kernel
theorem dX10_minute_0 : decode cX10_minute 0 = .ok (.aload_n 0, 1) := by decide +kernel
theorem dX10_minute_1 : decode cX10_minute 1 = .ok (.iconst 0, 1) := by decide +kernel
theorem dX10_minute_2 : decode cX10_minute 2 = .ok (.putfield 1, 3) := by decide +kernel
theorem dX10_minute_5 : decode cX10_minute 5 = .ok (.aload_n 0, 1) := by decide +kernel
theorem dX10_minute_6 : decode cX10_minute 6 = .ok (.iload_n 1, 1) := by decide +kernel
theorem dX10_minute_7 : decode cX10_minute 7 = .ok (.i2l, 1) := by decide +kernel
theorem dX10_minute_8 : decode cX10_minute 8 = .ok (.invokevirtual 235, 3) := by decide +kernel
theorem dX10_minute_11 : decode cX10_minute 11 = .ok (.ifCond .ne 6, 3) := by decide +kernel
theorem dX10_minute_14 : decode cX10_minute 14 = .ok (.bipush (-2), 2) := by decide +kernel
theorem dX10_minute_16 : decode cX10_minute 16 = .ok (.ireturn, 1) := by decide +kernel
theorem dX10_minute_17 : decode cX10_minute 17 = .ok (.iload_n 2, 1) := by decide +kernel
theorem dX10_minute_18 : decode cX10_minute 18 = .ok (.ifCond .ge 6, 3) := by decide +kernel
theorem dX10_minute_21 : decode cX10_minute 21 = .ok (.bipush (-3), 2) := by decide +kernel
theorem dX10_minute_23 : decode cX10_minute 23 = .ok (.ireturn, 1) := by decide +kernel
theorem dX10_minute_24 : decode cX10_minute 24 = .ok (.aload_n 0, 1) := by decide +kernel
theorem dX10_minute_25 : decode cX10_minute 25 = .ok (.invokevirtual 308, 3) := by decide +kernel
theorem dX10_minute_28 : decode cX10_minute 28 = .ok (.aload_n 0, 1) := by decide +kernel
theorem dX10_minute_29 : decode cX10_minute 29 = .ok (.iload_n 1, 1) := by decide +kernel
theorem dX10_minute_30 : decode cX10_minute 30 = .ok (.iload_n 2, 1) := by decide +kernel
theorem dX10_minute_31 : decode cX10_minute 31 = .ok (.invokevirtual 399, 3) := by decide +kernel
theorem dX10_minute_34 : decode cX10_minute 34 = .ok (.ireturn, 1) := by decide +kernel
theorem dX10_crowdAt_0 : decode cX10_crowdAt 0 = .ok (.iconst 0, 1) := by decide +kernel
theorem dX10_crowdAt_1 : decode cX10_crowdAt 1 = .ok (.istore_n 2, 1) := by decide +kernel
theorem dX10_crowdAt_2 : decode cX10_crowdAt 2 = .ok (.iconst 0, 1) := by decide +kernel
theorem dX10_crowdAt_3 : decode cX10_crowdAt 3 = .ok (.istore_n 3, 1) := by decide +kernel
theorem dX10_crowdAt_4 : decode cX10_crowdAt 4 = .ok (.iload_n 3, 1) := by decide +kernel
theorem dX10_crowdAt_5 : decode cX10_crowdAt 5 = .ok (.aload_n 0, 1) := by decide +kernel
theorem dX10_crowdAt_6 : decode cX10_crowdAt 6 = .ok (.getfield 287, 3) := by decide +kernel
theorem dX10_crowdAt_9 : decode cX10_crowdAt 9 = .ok (.if_icmp .ge 27, 3) := by decide +kernel
theorem dX10_crowdAt_12 : decode cX10_crowdAt 12 = .ok (.iload_n 2, 1) := by decide +kernel
theorem dX10_crowdAt_13 : decode cX10_crowdAt 13 = .ok (.aload_n 0, 1) := by decide +kernel
theorem dX10_crowdAt_14 : decode cX10_crowdAt 14 = .ok (.getfield 70, 3) := by decide +kernel
theorem dX10_crowdAt_17 : decode cX10_crowdAt 17 = .ok (.iload_n 3, 1) := by decide +kernel
theorem dX10_crowdAt_18 : decode cX10_crowdAt 18 = .ok (.iaload, 1) := by decide +kernel
theorem dX10_crowdAt_19 : decode cX10_crowdAt 19 = .ok (.iload_n 1, 1) := by decide +kernel
theorem dX10_crowdAt_20 : decode cX10_crowdAt 20 = .ok (.if_icmp .ne 7, 3) := by decide +kernel
theorem dX10_crowdAt_23 : decode cX10_crowdAt 23 = .ok (.iconst 1, 1) := by decide +kernel
theorem dX10_crowdAt_24 : decode cX10_crowdAt 24 = .ok (.goto 4, 3) := by decide +kernel
theorem dX10_crowdAt_27 : decode cX10_crowdAt 27 = .ok (.iconst 0, 1) := by decide +kernel
theorem dX10_crowdAt_28 : decode cX10_crowdAt 28 = .ok (.iadd, 1) := by decide +kernel
theorem dX10_crowdAt_29 : decode cX10_crowdAt 29 = .ok (.istore_n 2, 1) := by decide +kernel
theorem dX10_crowdAt_30 : decode cX10_crowdAt 30 = .ok (.iinc 3 1, 3) := by decide +kernel
theorem dX10_crowdAt_33 : decode cX10_crowdAt 33 = .ok (.goto (-29), 3) := by decide +kernel
theorem dX10_crowdAt_36 : decode cX10_crowdAt 36 = .ok (.iload_n 2, 1) := by decide +kernel
theorem dX10_crowdAt_37 : decode cX10_crowdAt 37 = .ok (.ireturn, 1) := by decide +kernel
theorem dX10_crowd_0 : decode cX10_crowd 0 = .ok (.aload_n 0, 1) := by decide +kernel
theorem dX10_crowd_1 : decode cX10_crowd 1 = .ok (.iconst 0, 1) := by decide +kernel
theorem dX10_crowd_2 : decode cX10_crowd 2 = .ok (.putfield 1, 3) := by decide +kernel
theorem dX10_crowd_5 : decode cX10_crowd 5 = .ok (.iload_n 1, 1) := by decide +kernel
theorem dX10_crowd_6 : decode cX10_crowd 6 = .ok (.i2l, 1) := by decide +kernel
theorem dX10_crowd_7 : decode cX10_crowd 7 = .ok (.lconst 0, 1) := by decide +kernel
theorem dX10_crowd_8 : decode cX10_crowd 8 = .ok (.ldc2_w 311, 3) := by decide +kernel
theorem dX10_crowd_11 : decode cX10_crowd 11 = .ok (.invokestatic 170, 3) := by decide +kernel
theorem dX10_crowd_14 : decode cX10_crowd 14 = .ok (.ifCond .ne 6, 3) := by decide +kernel
theorem dX10_crowd_17 : decode cX10_crowd 17 = .ok (.bipush (-3), 2) := by decide +kernel
theorem dX10_crowd_19 : decode cX10_crowd 19 = .ok (.ireturn, 1) := by decide +kernel
theorem dX10_crowd_20 : decode cX10_crowd 20 = .ok (.aload_n 0, 1) := by decide +kernel
theorem dX10_crowd_21 : decode cX10_crowd 21 = .ok (.invokevirtual 308, 3) := by decide +kernel
theorem dX10_crowd_24 : decode cX10_crowd 24 = .ok (.aload_n 0, 1) := by decide +kernel
theorem dX10_crowd_25 : decode cX10_crowd 25 = .ok (.iload_n 1, 1) := by decide +kernel
theorem dX10_crowd_26 : decode cX10_crowd 26 = .ok (.invokevirtual 402, 3) := by decide +kernel
theorem dX10_crowd_29 : decode cX10_crowd 29 = .ok (.ireturn, 1) := by decide +kernel
theorem dX10_worst_0 : decode cX10_worst 0 = .ok (.aload_n 0, 1) := by decide +kernel
theorem dX10_worst_1 : decode cX10_worst 1 = .ok (.iconst 0, 1) := by decide +kernel
theorem dX10_worst_2 : decode cX10_worst 2 = .ok (.putfield 1, 3) := by decide +kernel
theorem dX10_worst_5 : decode cX10_worst 5 = .ok (.aload_n 0, 1) := by decide +kernel
theorem dX10_worst_6 : decode cX10_worst 6 = .ok (.invokevirtual 308, 3) := by decide +kernel
theorem dX10_worst_9 : decode cX10_worst 9 = .ok (.iconst (-1), 1) := by decide +kernel
theorem dX10_worst_10 : decode cX10_worst 10 = .ok (.istore_n 1, 1) := by decide +kernel
theorem dX10_worst_11 : decode cX10_worst 11 = .ok (.iconst 0, 1) := by decide +kernel
theorem dX10_worst_12 : decode cX10_worst 12 = .ok (.istore_n 2, 1) := by decide +kernel
theorem dX10_worst_13 : decode cX10_worst 13 = .ok (.iconst 0, 1) := by decide +kernel
theorem dX10_worst_14 : decode cX10_worst 14 = .ok (.istore_n 3, 1) := by decide +kernel
theorem dX10_worst_15 : decode cX10_worst 15 = .ok (.iload_n 3, 1) := by decide +kernel
theorem dX10_worst_16 : decode cX10_worst 16 = .ok (.bipush 100, 2) := by decide +kernel
theorem dX10_worst_18 : decode cX10_worst 18 = .ok (.if_icmp .ge 29, 3) := by decide +kernel
theorem dX10_worst_21 : decode cX10_worst 21 = .ok (.aload_n 0, 1) := by decide +kernel
theorem dX10_worst_22 : decode cX10_worst 22 = .ok (.iload_n 3, 1) := by decide +kernel
theorem dX10_worst_23 : decode cX10_worst 23 = .ok (.invokevirtual 402, 3) := by decide +kernel
theorem dX10_worst_26 : decode cX10_worst 26 = .ok (.iload_n 2, 1) := by decide +kernel
theorem dX10_worst_27 : decode cX10_worst 27 = .ok (.if_icmp .gt 6, 3) := by decide +kernel
theorem dX10_worst_30 : decode cX10_worst 30 = .ok (.goto 11, 3) := by decide +kernel
theorem dX10_worst_33 : decode cX10_worst 33 = .ok (.iload_n 3, 1) := by decide +kernel
theorem dX10_worst_34 : decode cX10_worst 34 = .ok (.istore_n 1, 1) := by decide +kernel
theorem dX10_worst_35 : decode cX10_worst 35 = .ok (.aload_n 0, 1) := by decide +kernel
theorem dX10_worst_36 : decode cX10_worst 36 = .ok (.iload_n 3, 1) := by decide +kernel
theorem dX10_worst_37 : decode cX10_worst 37 = .ok (.invokevirtual 402, 3) := by decide +kernel
theorem dX10_worst_40 : decode cX10_worst 40 = .ok (.istore_n 2, 1) := by decide +kernel
theorem dX10_worst_41 : decode cX10_worst 41 = .ok (.iinc 3 1, 3) := by decide +kernel
theorem dX10_worst_44 : decode cX10_worst 44 = .ok (.goto (-29), 3) := by decide +kernel
theorem dX10_worst_47 : decode cX10_worst 47 = .ok (.iload_n 1, 1) := by decide +kernel
theorem dX10_worst_48 : decode cX10_worst 48 = .ok (.ireturn, 1) := by decide +kernel
theorem dX10_answers_0 : decode cX10_answers 0 = .ok (.aload_n 0, 1) := by decide +kernel
theorem dX10_answers_1 : decode cX10_answers 1 = .ok (.iconst 0, 1) := by decide +kernel
theorem dX10_answers_2 : decode cX10_answers 2 = .ok (.putfield 1, 3) := by decide +kernel
theorem dX10_answers_5 : decode cX10_answers 5 = .ok (.aload_n 0, 1) := by decide +kernel
theorem dX10_answers_6 : decode cX10_answers 6 = .ok (.iload_n 1, 1) := by decide +kernel
theorem dX10_answers_7 : decode cX10_answers 7 = .ok (.i2l, 1) := by decide +kernel
theorem dX10_answers_8 : decode cX10_answers 8 = .ok (.invokevirtual 235, 3) := by decide +kernel
theorem dX10_answers_11 : decode cX10_answers 11 = .ok (.ifCond .ne 6, 3) := by decide +kernel
theorem dX10_answers_14 : decode cX10_answers 14 = .ok (.bipush (-2), 2) := by decide +kernel
theorem dX10_answers_16 : decode cX10_answers 16 = .ok (.ireturn, 1) := by decide +kernel
theorem dX10_answers_17 : decode cX10_answers 17 = .ok (.aload_n 0, 1) := by decide +kernel
theorem dX10_answers_18 : decode cX10_answers 18 = .ok (.invokevirtual 308, 3) := by decide +kernel
theorem dX10_answers_21 : decode cX10_answers 21 = .ok (.aload_n 0, 1) := by decide +kernel
theorem dX10_answers_22 : decode cX10_answers 22 = .ok (.getfield 76, 3) := by decide +kernel
theorem dX10_answers_25 : decode cX10_answers 25 = .ok (.iload_n 1, 1) := by decide +kernel
theorem dX10_answers_26 : decode cX10_answers 26 = .ok (.iaload, 1) := by decide +kernel
theorem dX10_answers_27 : decode cX10_answers 27 = .ok (.ireturn, 1) := by decide +kernel
theorem dX10_nobody_0 : decode cX10_nobody 0 = .ok (.aload_n 0, 1) := by decide +kernel
theorem dX10_nobody_1 : decode cX10_nobody 1 = .ok (.iconst 0, 1) := by decide +kernel
theorem dX10_nobody_2 : decode cX10_nobody 2 = .ok (.putfield 1, 3) := by decide +kernel
theorem dX10_nobody_5 : decode cX10_nobody 5 = .ok (.aload_n 0, 1) := by decide +kernel
theorem dX10_nobody_6 : decode cX10_nobody 6 = .ok (.invokevirtual 308, 3) := by decide +kernel
theorem dX10_nobody_9 : decode cX10_nobody 9 = .ok (.aload_n 0, 1) := by decide +kernel
theorem dX10_nobody_10 : decode cX10_nobody 10 = .ok (.invokevirtual 381, 3) := by decide +kernel
theorem dX10_nobody_13 : decode cX10_nobody 13 = .ok (.ireturn, 1) := by decide +kernel
theorem dX10_who_0 : decode cX10_who 0 = .ok (.aload_n 0, 1) := by decide +kernel
theorem dX10_who_1 : decode cX10_who 1 = .ok (.iconst 0, 1) := by decide +kernel
theorem dX10_who_2 : decode cX10_who 2 = .ok (.putfield 1, 3) := by decide +kernel
theorem dX10_who_5 : decode cX10_who 5 = .ok (.aload_n 0, 1) := by decide +kernel
theorem dX10_who_6 : decode cX10_who 6 = .ok (.iload_n 1, 1) := by decide +kernel
theorem dX10_who_7 : decode cX10_who 7 = .ok (.i2l, 1) := by decide +kernel
theorem dX10_who_8 : decode cX10_who 8 = .ok (.invokevirtual 235, 3) := by decide +kernel
theorem dX10_who_11 : decode cX10_who 11 = .ok (.ifCond .ne 6, 3) := by decide +kernel
theorem dX10_who_14 : decode cX10_who 14 = .ok (.bipush (-2), 2) := by decide +kernel
theorem dX10_who_16 : decode cX10_who 16 = .ok (.ireturn, 1) := by decide +kernel
theorem dX10_who_17 : decode cX10_who 17 = .ok (.iload_n 2, 1) := by decide +kernel
theorem dX10_who_18 : decode cX10_who 18 = .ok (.i2l, 1) := by decide +kernel
theorem dX10_who_19 : decode cX10_who 19 = .ok (.lconst 1, 1) := by decide +kernel
theorem dX10_who_20 : decode cX10_who 20 = .ok (.ldc2_w 405, 3) := by decide +kernel
theorem dX10_who_23 : decode cX10_who 23 = .ok (.invokestatic 170, 3) := by decide +kernel
theorem dX10_who_26 : decode cX10_who 26 = .ok (.ifCond .eq 15, 3) := by decide +kernel
theorem dX10_who_29 : decode cX10_who 29 = .ok (.iload_n 3, 1) := by decide +kernel
theorem dX10_who_30 : decode cX10_who 30 = .ok (.i2l, 1) := by decide +kernel
theorem dX10_who_31 : decode cX10_who 31 = .ok (.lconst 0, 1) := by decide +kernel
theorem dX10_who_32 : decode cX10_who 32 = .ok (.ldc2_w 338, 3) := by decide +kernel
theorem dX10_who_35 : decode cX10_who 35 = .ok (.invokestatic 170, 3) := by decide +kernel
theorem dX10_who_38 : decode cX10_who 38 = .ok (.ifCond .ne 6, 3) := by decide +kernel
theorem dX10_who_41 : decode cX10_who 41 = .ok (.bipush (-3), 2) := by decide +kernel
theorem dX10_who_43 : decode cX10_who 43 = .ok (.ireturn, 1) := by decide +kernel
theorem dX10_who_44 : decode cX10_who 44 = .ok (.iconst 0, 1) := by decide +kernel
theorem dX10_who_45 : decode cX10_who 45 = .ok (.istore 4, 2) := by decide +kernel
theorem dX10_who_47 : decode cX10_who 47 = .ok (.iconst 0, 1) := by decide +kernel
theorem dX10_who_48 : decode cX10_who 48 = .ok (.istore 5, 2) := by decide +kernel
theorem dX10_who_50 : decode cX10_who 50 = .ok (.iload 5, 2) := by decide +kernel
theorem dX10_who_52 : decode cX10_who 52 = .ok (.aload_n 0, 1) := by decide +kernel
theorem dX10_who_53 : decode cX10_who 53 = .ok (.getfield 13, 3) := by decide +kernel
theorem dX10_who_56 : decode cX10_who 56 = .ok (.iconst 3, 1) := by decide +kernel
theorem dX10_who_57 : decode cX10_who 57 = .ok (.iaload, 1) := by decide +kernel
theorem dX10_who_58 : decode cX10_who 58 = .ok (.if_icmp .ge 50, 3) := by decide +kernel
theorem dX10_who_61 : decode cX10_who 61 = .ok (.iload 4, 2) := by decide +kernel
theorem dX10_who_63 : decode cX10_who 63 = .ok (.iload 5, 2) := by decide +kernel
theorem dX10_who_65 : decode cX10_who 65 = .ok (.iload_n 1, 1) := by decide +kernel
theorem dX10_who_66 : decode cX10_who 66 = .ok (.if_icmp .eq 32, 3) := by decide +kernel
theorem dX10_who_69 : decode cX10_who 69 = .ok (.aload_n 0, 1) := by decide +kernel
theorem dX10_who_70 : decode cX10_who 70 = .ok (.iload 5, 2) := by decide +kernel
theorem dX10_who_72 : decode cX10_who 72 = .ok (.iload_n 1, 1) := by decide +kernel
theorem dX10_who_73 : decode cX10_who 73 = .ok (.invokevirtual 263, 3) := by decide +kernel
theorem dX10_who_76 : decode cX10_who 76 = .ok (.iload_n 2, 1) := by decide +kernel
theorem dX10_who_77 : decode cX10_who 77 = .ok (.if_icmp .ne 21, 3) := by decide +kernel
theorem dX10_who_80 : decode cX10_who 80 = .ok (.aload_n 0, 1) := by decide +kernel
theorem dX10_who_81 : decode cX10_who 81 = .ok (.iload 5, 2) := by decide +kernel
theorem dX10_who_83 : decode cX10_who 83 = .ok (.iload_n 1, 1) := by decide +kernel
theorem dX10_who_84 : decode cX10_who 84 = .ok (.invokevirtual 266, 3) := by decide +kernel
theorem dX10_who_87 : decode cX10_who 87 = .ok (.iload_n 3, 1) := by decide +kernel
theorem dX10_who_88 : decode cX10_who 88 = .ok (.if_icmp .ne 10, 3) := by decide +kernel
theorem dX10_who_91 : decode cX10_who 91 = .ok (.iconst 1, 1) := by decide +kernel
theorem dX10_who_92 : decode cX10_who 92 = .ok (.iload 5, 2) := by decide +kernel
theorem dX10_who_94 : decode cX10_who 94 = .ok (.ishl, 1) := by decide +kernel
theorem dX10_who_95 : decode cX10_who 95 = .ok (.goto 4, 3) := by decide +kernel
theorem dX10_who_98 : decode cX10_who 98 = .ok (.iconst 0, 1) := by decide +kernel
theorem dX10_who_99 : decode cX10_who 99 = .ok (.ior, 1) := by decide +kernel
theorem dX10_who_100 : decode cX10_who 100 = .ok (.istore 4, 2) := by decide +kernel
theorem dX10_who_102 : decode cX10_who 102 = .ok (.iinc 5 1, 3) := by decide +kernel
theorem dX10_who_105 : decode cX10_who 105 = .ok (.goto (-55), 3) := by decide +kernel
theorem dX10_who_108 : decode cX10_who 108 = .ok (.iload 4, 2) := by decide +kernel
theorem dX10_who_110 : decode cX10_who 110 = .ok (.ireturn, 1) := by decide +kernel
theorem dX10_hasOneAt_0 : decode cX10_hasOneAt 0 = .ok (.iconst 0, 1) := by decide +kernel
theorem dX10_hasOneAt_1 : decode cX10_hasOneAt 1 = .ok (.istore_n 3, 1) := by decide +kernel
theorem dX10_hasOneAt_2 : decode cX10_hasOneAt 2 = .ok (.iload_n 3, 1) := by decide +kernel
theorem dX10_hasOneAt_3 : decode cX10_hasOneAt 3 = .ok (.aload_n 0, 1) := by decide +kernel
theorem dX10_hasOneAt_4 : decode cX10_hasOneAt 4 = .ok (.getfield 287, 3) := by decide +kernel
theorem dX10_hasOneAt_7 : decode cX10_hasOneAt 7 = .ok (.if_icmp .ge 31, 3) := by decide +kernel
theorem dX10_hasOneAt_10 : decode cX10_hasOneAt 10 = .ok (.aload_n 0, 1) := by decide +kernel
theorem dX10_hasOneAt_11 : decode cX10_hasOneAt 11 = .ok (.getfield 67, 3) := by decide +kernel
theorem dX10_hasOneAt_14 : decode cX10_hasOneAt 14 = .ok (.iload_n 3, 1) := by decide +kernel
theorem dX10_hasOneAt_15 : decode cX10_hasOneAt 15 = .ok (.iaload, 1) := by decide +kernel
theorem dX10_hasOneAt_16 : decode cX10_hasOneAt 16 = .ok (.iload_n 1, 1) := by decide +kernel
theorem dX10_hasOneAt_17 : decode cX10_hasOneAt 17 = .ok (.if_icmp .ne 15, 3) := by decide +kernel
theorem dX10_hasOneAt_20 : decode cX10_hasOneAt 20 = .ok (.aload_n 0, 1) := by decide +kernel
theorem dX10_hasOneAt_21 : decode cX10_hasOneAt 21 = .ok (.getfield 70, 3) := by decide +kernel
theorem dX10_hasOneAt_24 : decode cX10_hasOneAt 24 = .ok (.iload_n 3, 1) := by decide +kernel
theorem dX10_hasOneAt_25 : decode cX10_hasOneAt 25 = .ok (.iaload, 1) := by decide +kernel
theorem dX10_hasOneAt_26 : decode cX10_hasOneAt 26 = .ok (.iload_n 2, 1) := by decide +kernel
theorem dX10_hasOneAt_27 : decode cX10_hasOneAt 27 = .ok (.if_icmp .ne 5, 3) := by decide +kernel
theorem dX10_hasOneAt_30 : decode cX10_hasOneAt 30 = .ok (.iconst 1, 1) := by decide +kernel
theorem dX10_hasOneAt_31 : decode cX10_hasOneAt 31 = .ok (.ireturn, 1) := by decide +kernel
theorem dX10_hasOneAt_32 : decode cX10_hasOneAt 32 = .ok (.iinc 3 1, 3) := by decide +kernel
theorem dX10_hasOneAt_35 : decode cX10_hasOneAt 35 = .ok (.goto (-33), 3) := by decide +kernel
theorem dX10_hasOneAt_38 : decode cX10_hasOneAt 38 = .ok (.iconst 0, 1) := by decide +kernel
theorem dX10_hasOneAt_39 : decode cX10_hasOneAt 39 = .ok (.ireturn, 1) := by decide +kernel
theorem dX10_stopAt_0 : decode cX10_stopAt 0 = .ok (.aload_n 0, 1) := by decide +kernel
theorem dX10_stopAt_1 : decode cX10_stopAt 1 = .ok (.invokevirtual 297, 3) := by decide +kernel
theorem dX10_stopAt_4 : decode cX10_stopAt 4 = .ok (.iconst 0, 1) := by decide +kernel
theorem dX10_stopAt_5 : decode cX10_stopAt 5 = .ok (.istore 4, 2) := by decide +kernel
theorem dX10_stopAt_7 : decode cX10_stopAt 7 = .ok (.iconst 0, 1) := by decide +kernel
theorem dX10_stopAt_8 : decode cX10_stopAt 8 = .ok (.istore 5, 2) := by decide +kernel
theorem dX10_stopAt_10 : decode cX10_stopAt 10 = .ok (.iload 5, 2) := by decide +kernel
theorem dX10_stopAt_12 : decode cX10_stopAt 12 = .ok (.sipush 10000, 3) := by decide +kernel
theorem dX10_stopAt_15 : decode cX10_stopAt 15 = .ok (.if_icmp .ge 86, 3) := by decide +kernel
theorem dX10_stopAt_18 : decode cX10_stopAt 18 = .ok (.iload 5, 2) := by decide +kernel
theorem dX10_stopAt_20 : decode cX10_stopAt 20 = .ok (.bipush 100, 2) := by decide +kernel
theorem dX10_stopAt_22 : decode cX10_stopAt 22 = .ok (.irem, 1) := by decide +kernel
theorem dX10_stopAt_23 : decode cX10_stopAt 23 = .ok (.istore 6, 2) := by decide +kernel
theorem dX10_stopAt_25 : decode cX10_stopAt 25 = .ok (.aload_n 0, 1) := by decide +kernel
theorem dX10_stopAt_26 : decode cX10_stopAt 26 = .ok (.iload 6, 2) := by decide +kernel
theorem dX10_stopAt_28 : decode cX10_stopAt 28 = .ok (.i2l, 1) := by decide +kernel
theorem dX10_stopAt_29 : decode cX10_stopAt 29 = .ok (.iload_n 1, 1) := by decide +kernel
theorem dX10_stopAt_30 : decode cX10_stopAt 30 = .ok (.i2l, 1) := by decide +kernel
theorem dX10_stopAt_31 : decode cX10_stopAt 31 = .ok (.invokevirtual 259, 3) := by decide +kernel
theorem dX10_stopAt_34 : decode cX10_stopAt 34 = .ok (.ifCond .ne 6, 3) := by decide +kernel
theorem dX10_stopAt_37 : decode cX10_stopAt 37 = .ok (.goto 58, 3) := by decide +kernel
theorem dX10_stopAt_40 : decode cX10_stopAt 40 = .ok (.aload_n 0, 1) := by decide +kernel
theorem dX10_stopAt_41 : decode cX10_stopAt 41 = .ok (.iconst 1, 1) := by decide +kernel
theorem dX10_stopAt_42 : decode cX10_stopAt 42 = .ok (.aload_n 0, 1) := by decide +kernel
theorem dX10_stopAt_43 : decode cX10_stopAt 43 = .ok (.getfield 13, 3) := by decide +kernel
theorem dX10_stopAt_46 : decode cX10_stopAt 46 = .ok (.bipush 31, 2) := by decide +kernel
theorem dX10_stopAt_48 : decode cX10_stopAt 48 = .ok (.iaload, 1) := by decide +kernel
theorem dX10_stopAt_49 : decode cX10_stopAt 49 = .ok (.ishl, 1) := by decide +kernel
theorem dX10_stopAt_50 : decode cX10_stopAt 50 = .ok (.iconst 1, 1) := by decide +kernel
theorem dX10_stopAt_51 : decode cX10_stopAt 51 = .ok (.isub, 1) := by decide +kernel
theorem dX10_stopAt_52 : decode cX10_stopAt 52 = .ok (.invokevirtual 300, 3) := by decide +kernel
theorem dX10_stopAt_55 : decode cX10_stopAt 55 = .ok (.aload_n 0, 1) := by decide +kernel
theorem dX10_stopAt_56 : decode cX10_stopAt 56 = .ok (.iload 6, 2) := by decide +kernel
theorem dX10_stopAt_58 : decode cX10_stopAt 58 = .ok (.iload_n 1, 1) := by decide +kernel
theorem dX10_stopAt_59 : decode cX10_stopAt 59 = .ok (.iload 5, 2) := by decide +kernel
theorem dX10_stopAt_61 : decode cX10_stopAt 61 = .ok (.bipush 100, 2) := by decide +kernel
theorem dX10_stopAt_63 : decode cX10_stopAt 63 = .ok (.idiv, 1) := by decide +kernel
theorem dX10_stopAt_64 : decode cX10_stopAt 64 = .ok (.invokevirtual 280, 3) := by decide +kernel
theorem dX10_stopAt_67 : decode cX10_stopAt 67 = .ok (.aload_n 0, 1) := by decide +kernel
theorem dX10_stopAt_68 : decode cX10_stopAt 68 = .ok (.invokevirtual 303, 3) := by decide +kernel
theorem dX10_stopAt_71 : decode cX10_stopAt 71 = .ok (.aload_n 0, 1) := by decide +kernel
theorem dX10_stopAt_72 : decode cX10_stopAt 72 = .ok (.iload_n 1, 1) := by decide +kernel
theorem dX10_stopAt_73 : decode cX10_stopAt 73 = .ok (.iload_n 2, 1) := by decide +kernel
theorem dX10_stopAt_74 : decode cX10_stopAt 74 = .ok (.invokevirtual 407, 3) := by decide +kernel
theorem dX10_stopAt_77 : decode cX10_stopAt 77 = .ok (.ifCond .ne 6, 3) := by decide +kernel
theorem dX10_stopAt_80 : decode cX10_stopAt 80 = .ok (.goto 15, 3) := by decide +kernel
theorem dX10_stopAt_83 : decode cX10_stopAt 83 = .ok (.iload 4, 2) := by decide +kernel
theorem dX10_stopAt_85 : decode cX10_stopAt 85 = .ok (.iload_n 3, 1) := by decide +kernel
theorem dX10_stopAt_86 : decode cX10_stopAt 86 = .ok (.if_icmp .ne 6, 3) := by decide +kernel
theorem dX10_stopAt_89 : decode cX10_stopAt 89 = .ok (.iload 5, 2) := by decide +kernel
theorem dX10_stopAt_91 : decode cX10_stopAt 91 = .ok (.ireturn, 1) := by decide +kernel
theorem dX10_stopAt_92 : decode cX10_stopAt 92 = .ok (.iinc 4 1, 3) := by decide +kernel
theorem dX10_stopAt_95 : decode cX10_stopAt 95 = .ok (.iinc 5 1, 3) := by decide +kernel
theorem dX10_stopAt_98 : decode cX10_stopAt 98 = .ok (.goto (-88), 3) := by decide +kernel
theorem dX10_stopAt_101 : decode cX10_stopAt 101 = .ok (.iload_n 3, 1) := by decide +kernel
theorem dX10_stopAt_102 : decode cX10_stopAt 102 = .ok (.ifCond .ge 8, 3) := by decide +kernel
theorem dX10_stopAt_105 : decode cX10_stopAt 105 = .ok (.iload 4, 2) := by decide +kernel
theorem dX10_stopAt_107 : decode cX10_stopAt 107 = .ok (.goto 4, 3) := by decide +kernel
theorem dX10_stopAt_110 : decode cX10_stopAt 110 = .ok (.iconst (-1), 1) := by decide +kernel
theorem dX10_stopAt_111 : decode cX10_stopAt 111 = .ok (.ireturn, 1) := by decide +kernel
theorem dX10_noStop_0 : decode cX10_noStop 0 = .ok (.aload_n 0, 1) := by decide +kernel
theorem dX10_noStop_1 : decode cX10_noStop 1 = .ok (.iload_n 1, 1) := by decide +kernel
theorem dX10_noStop_2 : decode cX10_noStop 2 = .ok (.i2l, 1) := by decide +kernel
theorem dX10_noStop_3 : decode cX10_noStop 3 = .ok (.invokevirtual 235, 3) := by decide +kernel
theorem dX10_noStop_6 : decode cX10_noStop 6 = .ok (.ifCond .ne 8, 3) := by decide +kernel
theorem dX10_noStop_9 : decode cX10_noStop 9 = .ok (.bipush (-2), 2) := by decide +kernel
theorem dX10_noStop_11 : decode cX10_noStop 11 = .ok (.goto 21, 3) := by decide +kernel
theorem dX10_noStop_14 : decode cX10_noStop 14 = .ok (.iload_n 2, 1) := by decide +kernel
theorem dX10_noStop_15 : decode cX10_noStop 15 = .ok (.i2l, 1) := by decide +kernel
theorem dX10_noStop_16 : decode cX10_noStop 16 = .ok (.lconst 0, 1) := by decide +kernel
theorem dX10_noStop_17 : decode cX10_noStop 17 = .ok (.ldc2_w 311, 3) := by decide +kernel
theorem dX10_noStop_20 : decode cX10_noStop 20 = .ok (.invokestatic 170, 3) := by decide +kernel
theorem dX10_noStop_23 : decode cX10_noStop 23 = .ok (.ifCond .eq 7, 3) := by decide +kernel
theorem dX10_noStop_26 : decode cX10_noStop 26 = .ok (.iconst 0, 1) := by decide +kernel
theorem dX10_noStop_27 : decode cX10_noStop 27 = .ok (.goto 5, 3) := by decide +kernel
theorem dX10_noStop_30 : decode cX10_noStop 30 = .ok (.bipush (-3), 2) := by decide +kernel
theorem dX10_noStop_32 : decode cX10_noStop 32 = .ok (.ireturn, 1) := by decide +kernel
theorem dX10_stops_0 : decode cX10_stops 0 = .ok (.aload_n 0, 1) := by decide +kernel
theorem dX10_stops_1 : decode cX10_stops 1 = .ok (.iconst 0, 1) := by decide +kernel
theorem dX10_stops_2 : decode cX10_stops 2 = .ok (.putfield 1, 3) := by decide +kernel
theorem dX10_stops_5 : decode cX10_stops 5 = .ok (.aload_n 0, 1) := by decide +kernel
theorem dX10_stops_6 : decode cX10_stops 6 = .ok (.iload_n 1, 1) := by decide +kernel
theorem dX10_stops_7 : decode cX10_stops 7 = .ok (.iload_n 2, 1) := by decide +kernel
theorem dX10_stops_8 : decode cX10_stops 8 = .ok (.invokevirtual 411, 3) := by decide +kernel
theorem dX10_stops_11 : decode cX10_stops 11 = .ok (.istore_n 3, 1) := by decide +kernel
theorem dX10_stops_12 : decode cX10_stops 12 = .ok (.iload_n 3, 1) := by decide +kernel
theorem dX10_stops_13 : decode cX10_stops 13 = .ok (.ifCond .eq 7, 3) := by decide +kernel
theorem dX10_stops_16 : decode cX10_stops 16 = .ok (.iload_n 3, 1) := by decide +kernel
theorem dX10_stops_17 : decode cX10_stops 17 = .ok (.goto 10, 3) := by decide +kernel
theorem dX10_stops_20 : decode cX10_stops 20 = .ok (.aload_n 0, 1) := by decide +kernel
theorem dX10_stops_21 : decode cX10_stops 21 = .ok (.iload_n 1, 1) := by decide +kernel
theorem dX10_stops_22 : decode cX10_stops 22 = .ok (.iload_n 2, 1) := by decide +kernel
theorem dX10_stops_23 : decode cX10_stops 23 = .ok (.iconst (-1), 1) := by decide +kernel
theorem dX10_stops_24 : decode cX10_stops 24 = .ok (.invokevirtual 414, 3) := by decide +kernel
theorem dX10_stops_27 : decode cX10_stops 27 = .ok (.ireturn, 1) := by decide +kernel
theorem dX10_stopBy_0 : decode cX10_stopBy 0 = .ok (.aload_n 0, 1) := by decide +kernel
theorem dX10_stopBy_1 : decode cX10_stopBy 1 = .ok (.iconst 0, 1) := by decide +kernel
theorem dX10_stopBy_2 : decode cX10_stopBy 2 = .ok (.putfield 1, 3) := by decide +kernel
theorem dX10_stopBy_5 : decode cX10_stopBy 5 = .ok (.aload_n 0, 1) := by decide +kernel
theorem dX10_stopBy_6 : decode cX10_stopBy 6 = .ok (.iload_n 1, 1) := by decide +kernel
theorem dX10_stopBy_7 : decode cX10_stopBy 7 = .ok (.iload_n 2, 1) := by decide +kernel
theorem dX10_stopBy_8 : decode cX10_stopBy 8 = .ok (.invokevirtual 411, 3) := by decide +kernel
theorem dX10_stopBy_11 : decode cX10_stopBy 11 = .ok (.istore 4, 2) := by decide +kernel
theorem dX10_stopBy_13 : decode cX10_stopBy 13 = .ok (.iload 4, 2) := by decide +kernel
theorem dX10_stopBy_15 : decode cX10_stopBy 15 = .ok (.ifCond .eq 6, 3) := by decide +kernel
theorem dX10_stopBy_18 : decode cX10_stopBy 18 = .ok (.iload 4, 2) := by decide +kernel
theorem dX10_stopBy_20 : decode cX10_stopBy 20 = .ok (.ireturn, 1) := by decide +kernel
theorem dX10_stopBy_21 : decode cX10_stopBy 21 = .ok (.iload_n 3, 1) := by decide +kernel
theorem dX10_stopBy_22 : decode cX10_stopBy 22 = .ok (.ifCond .ge 8, 3) := by decide +kernel
theorem dX10_stopBy_25 : decode cX10_stopBy 25 = .ok (.bipush (-3), 2) := by decide +kernel
theorem dX10_stopBy_27 : decode cX10_stopBy 27 = .ok (.goto 10, 3) := by decide +kernel
theorem dX10_stopBy_30 : decode cX10_stopBy 30 = .ok (.aload_n 0, 1) := by decide +kernel
theorem dX10_stopBy_31 : decode cX10_stopBy 31 = .ok (.iload_n 1, 1) := by decide +kernel
theorem dX10_stopBy_32 : decode cX10_stopBy 32 = .ok (.iload_n 2, 1) := by decide +kernel
theorem dX10_stopBy_33 : decode cX10_stopBy 33 = .ok (.iload_n 3, 1) := by decide +kernel
theorem dX10_stopBy_34 : decode cX10_stopBy 34 = .ok (.invokevirtual 414, 3) := by decide +kernel
theorem dX10_stopBy_37 : decode cX10_stopBy 37 = .ok (.ireturn, 1) := by decide +kernel
theorem dX10_quiet_0 : decode cX10_quiet 0 = .ok (.aload_n 0, 1) := by decide +kernel
theorem dX10_quiet_1 : decode cX10_quiet 1 = .ok (.iconst 0, 1) := by decide +kernel
theorem dX10_quiet_2 : decode cX10_quiet 2 = .ok (.putfield 1, 3) := by decide +kernel
theorem dX10_quiet_5 : decode cX10_quiet 5 = .ok (.aload_n 0, 1) := by decide +kernel
theorem dX10_quiet_6 : decode cX10_quiet 6 = .ok (.iload_n 1, 1) := by decide +kernel
theorem dX10_quiet_7 : decode cX10_quiet 7 = .ok (.i2l, 1) := by decide +kernel
theorem dX10_quiet_8 : decode cX10_quiet 8 = .ok (.invokevirtual 235, 3) := by decide +kernel
theorem dX10_quiet_11 : decode cX10_quiet 11 = .ok (.ifCond .eq 13, 3) := by decide +kernel
theorem dX10_quiet_14 : decode cX10_quiet 14 = .ok (.iload_n 2, 1) := by decide +kernel
theorem dX10_quiet_15 : decode cX10_quiet 15 = .ok (.i2l, 1) := by decide +kernel
theorem dX10_quiet_16 : decode cX10_quiet 16 = .ok (.lconst 0, 1) := by decide +kernel
theorem dX10_quiet_17 : decode cX10_quiet 17 = .ok (.lconst 1, 1) := by decide +kernel
theorem dX10_quiet_18 : decode cX10_quiet 18 = .ok (.invokestatic 170, 3) := by decide +kernel
theorem dX10_quiet_21 : decode cX10_quiet 21 = .ok (.ifCond .ne 6, 3) := by decide +kernel
theorem dX10_quiet_24 : decode cX10_quiet 24 = .ok (.bipush (-2), 2) := by decide +kernel
theorem dX10_quiet_26 : decode cX10_quiet 26 = .ok (.ireturn, 1) := by decide +kernel
theorem dX10_quiet_27 : decode cX10_quiet 27 = .ok (.aload_n 0, 1) := by decide +kernel
theorem dX10_quiet_28 : decode cX10_quiet 28 = .ok (.getfield 13, 3) := by decide +kernel
theorem dX10_quiet_31 : decode cX10_quiet 31 = .ok (.bipush 64, 2) := by decide +kernel
theorem dX10_quiet_33 : decode cX10_quiet 33 = .ok (.iload_n 1, 1) := by decide +kernel
theorem dX10_quiet_34 : decode cX10_quiet 34 = .ok (.iadd, 1) := by decide +kernel
theorem dX10_quiet_35 : decode cX10_quiet 35 = .ok (.iaload, 1) := by decide +kernel
theorem dX10_quiet_36 : decode cX10_quiet 36 = .ok (.istore_n 3, 1) := by decide +kernel
theorem dX10_quiet_37 : decode cX10_quiet 37 = .ok (.iconst (-1), 1) := by decide +kernel
theorem dX10_quiet_38 : decode cX10_quiet 38 = .ok (.istore 4, 2) := by decide +kernel
theorem dX10_quiet_40 : decode cX10_quiet 40 = .ok (.ldc_w 417, 3) := by decide +kernel
theorem dX10_quiet_43 : decode cX10_quiet 43 = .ok (.istore 5, 2) := by decide +kernel
theorem dX10_quiet_45 : decode cX10_quiet 45 = .ok (.iconst 0, 1) := by decide +kernel
theorem dX10_quiet_46 : decode cX10_quiet 46 = .ok (.istore 6, 2) := by decide +kernel
theorem dX10_quiet_48 : decode cX10_quiet 48 = .ok (.iload 6, 2) := by decide +kernel
theorem dX10_quiet_50 : decode cX10_quiet 50 = .ok (.aload_n 0, 1) := by decide +kernel
theorem dX10_quiet_51 : decode cX10_quiet 51 = .ok (.invokevirtual 313, 3) := by decide +kernel
theorem dX10_quiet_54 : decode cX10_quiet 54 = .ok (.if_icmp .ge 63, 3) := by decide +kernel
theorem dX10_quiet_57 : decode cX10_quiet 57 = .ok (.aload_n 0, 1) := by decide +kernel
theorem dX10_quiet_58 : decode cX10_quiet 58 = .ok (.getfield 13, 3) := by decide +kernel
theorem dX10_quiet_61 : decode cX10_quiet 61 = .ok (.bipush 64, 2) := by decide +kernel
theorem dX10_quiet_63 : decode cX10_quiet 63 = .ok (.iload_n 1, 1) := by decide +kernel
theorem dX10_quiet_64 : decode cX10_quiet 64 = .ok (.iadd, 1) := by decide +kernel
theorem dX10_quiet_65 : decode cX10_quiet 65 = .ok (.iload 6, 2) := by decide +kernel
theorem dX10_quiet_67 : decode cX10_quiet 67 = .ok (.iastore, 1) := by decide +kernel
theorem dX10_quiet_68 : decode cX10_quiet 68 = .ok (.aload_n 0, 1) := by decide +kernel
theorem dX10_quiet_69 : decode cX10_quiet 69 = .ok (.iload 6, 2) := by decide +kernel
theorem dX10_quiet_71 : decode cX10_quiet 71 = .ok (.ifCond .le 7, 3) := by decide +kernel
theorem dX10_quiet_74 : decode cX10_quiet 74 = .ok (.iconst 1, 1) := by decide +kernel
theorem dX10_quiet_75 : decode cX10_quiet 75 = .ok (.goto 4, 3) := by decide +kernel
theorem dX10_quiet_78 : decode cX10_quiet 78 = .ok (.iconst 0, 1) := by decide +kernel
theorem dX10_quiet_79 : decode cX10_quiet 79 = .ok (.putfield 269, 3) := by decide +kernel
theorem dX10_quiet_82 : decode cX10_quiet 82 = .ok (.aload_n 0, 1) := by decide +kernel
theorem dX10_quiet_83 : decode cX10_quiet 83 = .ok (.invokevirtual 308, 3) := by decide +kernel
theorem dX10_quiet_86 : decode cX10_quiet 86 = .ok (.aload_n 0, 1) := by decide +kernel
theorem dX10_quiet_87 : decode cX10_quiet 87 = .ok (.iload_n 1, 1) := by decide +kernel
theorem dX10_quiet_88 : decode cX10_quiet 88 = .ok (.invokevirtual 396, 3) := by decide +kernel
theorem dX10_quiet_91 : decode cX10_quiet 91 = .ok (.istore 7, 2) := by decide +kernel
theorem dX10_quiet_93 : decode cX10_quiet 93 = .ok (.iload 7, 2) := by decide +kernel
theorem dX10_quiet_95 : decode cX10_quiet 95 = .ok (.iload 5, 2) := by decide +kernel
theorem dX10_quiet_97 : decode cX10_quiet 97 = .ok (.if_icmp .lt 6, 3) := by decide +kernel
theorem dX10_quiet_100 : decode cX10_quiet 100 = .ok (.goto 11, 3) := by decide +kernel
theorem dX10_quiet_103 : decode cX10_quiet 103 = .ok (.iload 6, 2) := by decide +kernel
theorem dX10_quiet_105 : decode cX10_quiet 105 = .ok (.istore 4, 2) := by decide +kernel
theorem dX10_quiet_107 : decode cX10_quiet 107 = .ok (.iload 7, 2) := by decide +kernel
theorem dX10_quiet_109 : decode cX10_quiet 109 = .ok (.istore 5, 2) := by decide +kernel
theorem dX10_quiet_111 : decode cX10_quiet 111 = .ok (.iinc 6 1, 3) := by decide +kernel
theorem dX10_quiet_114 : decode cX10_quiet 114 = .ok (.goto (-66), 3) := by decide +kernel
theorem dX10_quiet_117 : decode cX10_quiet 117 = .ok (.aload_n 0, 1) := by decide +kernel
theorem dX10_quiet_118 : decode cX10_quiet 118 = .ok (.iconst 0, 1) := by decide +kernel
theorem dX10_quiet_119 : decode cX10_quiet 119 = .ok (.putfield 269, 3) := by decide +kernel
theorem dX10_quiet_122 : decode cX10_quiet 122 = .ok (.aload_n 0, 1) := by decide +kernel
theorem dX10_quiet_123 : decode cX10_quiet 123 = .ok (.getfield 13, 3) := by decide +kernel
theorem dX10_quiet_126 : decode cX10_quiet 126 = .ok (.bipush 64, 2) := by decide +kernel
theorem dX10_quiet_128 : decode cX10_quiet 128 = .ok (.iload_n 1, 1) := by decide +kernel
theorem dX10_quiet_129 : decode cX10_quiet 129 = .ok (.iadd, 1) := by decide +kernel
theorem dX10_quiet_130 : decode cX10_quiet 130 = .ok (.iload_n 3, 1) := by decide +kernel
theorem dX10_quiet_131 : decode cX10_quiet 131 = .ok (.iastore, 1) := by decide +kernel
theorem dX10_quiet_132 : decode cX10_quiet 132 = .ok (.iload_n 2, 1) := by decide +kernel
theorem dX10_quiet_133 : decode cX10_quiet 133 = .ok (.ifCond .ne 8, 3) := by decide +kernel
theorem dX10_quiet_136 : decode cX10_quiet 136 = .ok (.iload 4, 2) := by decide +kernel
theorem dX10_quiet_138 : decode cX10_quiet 138 = .ok (.goto 5, 3) := by decide +kernel
theorem dX10_quiet_141 : decode cX10_quiet 141 = .ok (.iload 5, 2) := by decide +kernel
theorem dX10_quiet_143 : decode cX10_quiet 143 = .ok (.ireturn, 1) := by decide +kernel
theorem dX10_oneGap_0 : decode cX10_oneGap 0 = .ok (.iconst (-1), 1) := by decide +kernel
theorem dX10_oneGap_1 : decode cX10_oneGap 1 = .ok (.istore_n 3, 1) := by decide +kernel
theorem dX10_oneGap_2 : decode cX10_oneGap 2 = .ok (.iconst 0, 1) := by decide +kernel
theorem dX10_oneGap_3 : decode cX10_oneGap 3 = .ok (.istore 4, 2) := by decide +kernel
theorem dX10_oneGap_5 : decode cX10_oneGap 5 = .ok (.iload 4, 2) := by decide +kernel
theorem dX10_oneGap_7 : decode cX10_oneGap 7 = .ok (.aload_n 0, 1) := by decide +kernel
theorem dX10_oneGap_8 : decode cX10_oneGap 8 = .ok (.getfield 13, 3) := by decide +kernel
theorem dX10_oneGap_11 : decode cX10_oneGap 11 = .ok (.iconst 3, 1) := by decide +kernel
theorem dX10_oneGap_12 : decode cX10_oneGap 12 = .ok (.iaload, 1) := by decide +kernel
theorem dX10_oneGap_13 : decode cX10_oneGap 13 = .ok (.if_icmp .ge 53, 3) := by decide +kernel
theorem dX10_oneGap_16 : decode cX10_oneGap 16 = .ok (.iload 4, 2) := by decide +kernel
theorem dX10_oneGap_18 : decode cX10_oneGap 18 = .ok (.iload_n 1, 1) := by decide +kernel
theorem dX10_oneGap_19 : decode cX10_oneGap 19 = .ok (.if_icmp .eq 41, 3) := by decide +kernel
theorem dX10_oneGap_22 : decode cX10_oneGap 22 = .ok (.iload_n 2, 1) := by decide +kernel
theorem dX10_oneGap_23 : decode cX10_oneGap 23 = .ok (.i2l, 1) := by decide +kernel
theorem dX10_oneGap_24 : decode cX10_oneGap 24 = .ok (.iload 4, 2) := by decide +kernel
theorem dX10_oneGap_26 : decode cX10_oneGap 26 = .ok (.invokestatic 276, 3) := by decide +kernel
theorem dX10_oneGap_29 : decode cX10_oneGap 29 = .ok (.ifCond .ne 6, 3) := by decide +kernel
theorem dX10_oneGap_32 : decode cX10_oneGap 32 = .ok (.goto 28, 3) := by decide +kernel
theorem dX10_oneGap_35 : decode cX10_oneGap 35 = .ok (.aload_n 0, 1) := by decide +kernel
theorem dX10_oneGap_36 : decode cX10_oneGap 36 = .ok (.iload_n 1, 1) := by decide +kernel
theorem dX10_oneGap_37 : decode cX10_oneGap 37 = .ok (.iload 4, 2) := by decide +kernel
theorem dX10_oneGap_39 : decode cX10_oneGap 39 = .ok (.invokevirtual 263, 3) := by decide +kernel
theorem dX10_oneGap_42 : decode cX10_oneGap 42 = .ok (.istore 5, 2) := by decide +kernel
theorem dX10_oneGap_44 : decode cX10_oneGap 44 = .ok (.iload_n 3, 1) := by decide +kernel
theorem dX10_oneGap_45 : decode cX10_oneGap 45 = .ok (.iconst (-1), 1) := by decide +kernel
theorem dX10_oneGap_46 : decode cX10_oneGap 46 = .ok (.if_icmp .eq 11, 3) := by decide +kernel
theorem dX10_oneGap_49 : decode cX10_oneGap 49 = .ok (.iload 5, 2) := by decide +kernel
theorem dX10_oneGap_51 : decode cX10_oneGap 51 = .ok (.iload_n 3, 1) := by decide +kernel
theorem dX10_oneGap_52 : decode cX10_oneGap 52 = .ok (.if_icmp .eq 5, 3) := by decide +kernel
theorem dX10_oneGap_55 : decode cX10_oneGap 55 = .ok (.iconst (-1), 1) := by decide +kernel
theorem dX10_oneGap_56 : decode cX10_oneGap 56 = .ok (.ireturn, 1) := by decide +kernel
theorem dX10_oneGap_57 : decode cX10_oneGap 57 = .ok (.iload 5, 2) := by decide +kernel
theorem dX10_oneGap_59 : decode cX10_oneGap 59 = .ok (.istore_n 3, 1) := by decide +kernel
theorem dX10_oneGap_60 : decode cX10_oneGap 60 = .ok (.iinc 4 1, 3) := by decide +kernel
theorem dX10_oneGap_63 : decode cX10_oneGap 63 = .ok (.goto (-58), 3) := by decide +kernel
theorem dX10_oneGap_66 : decode cX10_oneGap 66 = .ok (.iload_n 3, 1) := by decide +kernel
theorem dX10_oneGap_67 : decode cX10_oneGap 67 = .ok (.ireturn, 1) := by decide +kernel
theorem dX10_atOnce_0 : decode cX10_atOnce 0 = .ok (.aload_n 0, 1) := by decide +kernel
theorem dX10_atOnce_1 : decode cX10_atOnce 1 = .ok (.iconst 0, 1) := by decide +kernel
theorem dX10_atOnce_2 : decode cX10_atOnce 2 = .ok (.putfield 1, 3) := by decide +kernel
theorem dX10_atOnce_5 : decode cX10_atOnce 5 = .ok (.aload_n 0, 1) := by decide +kernel
theorem dX10_atOnce_6 : decode cX10_atOnce 6 = .ok (.iload_n 1, 1) := by decide +kernel
theorem dX10_atOnce_7 : decode cX10_atOnce 7 = .ok (.i2l, 1) := by decide +kernel
theorem dX10_atOnce_8 : decode cX10_atOnce 8 = .ok (.invokevirtual 235, 3) := by decide +kernel
theorem dX10_atOnce_11 : decode cX10_atOnce 11 = .ok (.ifCond .ne 6, 3) := by decide +kernel
theorem dX10_atOnce_14 : decode cX10_atOnce 14 = .ok (.bipush (-2), 2) := by decide +kernel
theorem dX10_atOnce_16 : decode cX10_atOnce 16 = .ok (.ireturn, 1) := by decide +kernel
theorem dX10_atOnce_17 : decode cX10_atOnce 17 = .ok (.iload_n 2, 1) := by decide +kernel
theorem dX10_atOnce_18 : decode cX10_atOnce 18 = .ok (.i2l, 1) := by decide +kernel
theorem dX10_atOnce_19 : decode cX10_atOnce 19 = .ok (.lconst 0, 1) := by decide +kernel
theorem dX10_atOnce_20 : decode cX10_atOnce 20 = .ok (.iconst 1, 1) := by decide +kernel
theorem dX10_atOnce_21 : decode cX10_atOnce 21 = .ok (.aload_n 0, 1) := by decide +kernel
theorem dX10_atOnce_22 : decode cX10_atOnce 22 = .ok (.getfield 13, 3) := by decide +kernel
theorem dX10_atOnce_25 : decode cX10_atOnce 25 = .ok (.iconst 3, 1) := by decide +kernel
theorem dX10_atOnce_26 : decode cX10_atOnce 26 = .ok (.iaload, 1) := by decide +kernel
theorem dX10_atOnce_27 : decode cX10_atOnce 27 = .ok (.ishl, 1) := by decide +kernel
theorem dX10_atOnce_28 : decode cX10_atOnce 28 = .ok (.iconst 1, 1) := by decide +kernel
theorem dX10_atOnce_29 : decode cX10_atOnce 29 = .ok (.isub, 1) := by decide +kernel
theorem dX10_atOnce_30 : decode cX10_atOnce 30 = .ok (.i2l, 1) := by decide +kernel
theorem dX10_atOnce_31 : decode cX10_atOnce 31 = .ok (.invokestatic 170, 3) := by decide +kernel
theorem dX10_atOnce_34 : decode cX10_atOnce 34 = .ok (.ifCond .ne 6, 3) := by decide +kernel
theorem dX10_atOnce_37 : decode cX10_atOnce 37 = .ok (.bipush (-3), 2) := by decide +kernel
theorem dX10_atOnce_39 : decode cX10_atOnce 39 = .ok (.ireturn, 1) := by decide +kernel
theorem dX10_atOnce_40 : decode cX10_atOnce 40 = .ok (.aload_n 0, 1) := by decide +kernel
theorem dX10_atOnce_41 : decode cX10_atOnce 41 = .ok (.getfield 13, 3) := by decide +kernel
theorem dX10_atOnce_44 : decode cX10_atOnce 44 = .ok (.bipush 64, 2) := by decide +kernel
theorem dX10_atOnce_46 : decode cX10_atOnce 46 = .ok (.iload_n 1, 1) := by decide +kernel
theorem dX10_atOnce_47 : decode cX10_atOnce 47 = .ok (.iadd, 1) := by decide +kernel
theorem dX10_atOnce_48 : decode cX10_atOnce 48 = .ok (.iaload, 1) := by decide +kernel
theorem dX10_atOnce_49 : decode cX10_atOnce 49 = .ok (.istore_n 3, 1) := by decide +kernel
theorem dX10_atOnce_50 : decode cX10_atOnce 50 = .ok (.iconst 0, 1) := by decide +kernel
theorem dX10_atOnce_51 : decode cX10_atOnce 51 = .ok (.istore 4, 2) := by decide +kernel
theorem dX10_atOnce_53 : decode cX10_atOnce 53 = .ok (.iconst 0, 1) := by decide +kernel
theorem dX10_atOnce_54 : decode cX10_atOnce 54 = .ok (.istore 5, 2) := by decide +kernel
theorem dX10_atOnce_56 : decode cX10_atOnce 56 = .ok (.iload 5, 2) := by decide +kernel
theorem dX10_atOnce_58 : decode cX10_atOnce 58 = .ok (.aload_n 0, 1) := by decide +kernel
theorem dX10_atOnce_59 : decode cX10_atOnce 59 = .ok (.invokevirtual 313, 3) := by decide +kernel
theorem dX10_atOnce_62 : decode cX10_atOnce 62 = .ok (.if_icmp .ge 40, 3) := by decide +kernel
theorem dX10_atOnce_65 : decode cX10_atOnce 65 = .ok (.aload_n 0, 1) := by decide +kernel
theorem dX10_atOnce_66 : decode cX10_atOnce 66 = .ok (.getfield 13, 3) := by decide +kernel
theorem dX10_atOnce_69 : decode cX10_atOnce 69 = .ok (.bipush 64, 2) := by decide +kernel
theorem dX10_atOnce_71 : decode cX10_atOnce 71 = .ok (.iload_n 1, 1) := by decide +kernel
theorem dX10_atOnce_72 : decode cX10_atOnce 72 = .ok (.iadd, 1) := by decide +kernel
theorem dX10_atOnce_73 : decode cX10_atOnce 73 = .ok (.iload 5, 2) := by decide +kernel
theorem dX10_atOnce_75 : decode cX10_atOnce 75 = .ok (.iastore, 1) := by decide +kernel
theorem dX10_atOnce_76 : decode cX10_atOnce 76 = .ok (.iload 4, 2) := by decide +kernel
theorem dX10_atOnce_78 : decode cX10_atOnce 78 = .ok (.aload_n 0, 1) := by decide +kernel
theorem dX10_atOnce_79 : decode cX10_atOnce 79 = .ok (.iload_n 1, 1) := by decide +kernel
theorem dX10_atOnce_80 : decode cX10_atOnce 80 = .ok (.iload_n 2, 1) := by decide +kernel
theorem dX10_atOnce_81 : decode cX10_atOnce 81 = .ok (.invokevirtual 418, 3) := by decide +kernel
theorem dX10_atOnce_84 : decode cX10_atOnce 84 = .ok (.iconst (-1), 1) := by decide +kernel
theorem dX10_atOnce_85 : decode cX10_atOnce 85 = .ok (.if_icmp .ne 7, 3) := by decide +kernel
theorem dX10_atOnce_88 : decode cX10_atOnce 88 = .ok (.iconst 0, 1) := by decide +kernel
theorem dX10_atOnce_89 : decode cX10_atOnce 89 = .ok (.goto 4, 3) := by decide +kernel
theorem dX10_atOnce_92 : decode cX10_atOnce 92 = .ok (.iconst 1, 1) := by decide +kernel
theorem dX10_atOnce_93 : decode cX10_atOnce 93 = .ok (.iadd, 1) := by decide +kernel
theorem dX10_atOnce_94 : decode cX10_atOnce 94 = .ok (.istore 4, 2) := by decide +kernel
theorem dX10_atOnce_96 : decode cX10_atOnce 96 = .ok (.iinc 5 1, 3) := by decide +kernel
theorem dX10_atOnce_99 : decode cX10_atOnce 99 = .ok (.goto (-43), 3) := by decide +kernel
theorem dX10_atOnce_102 : decode cX10_atOnce 102 = .ok (.aload_n 0, 1) := by decide +kernel
theorem dX10_atOnce_103 : decode cX10_atOnce 103 = .ok (.getfield 13, 3) := by decide +kernel
theorem dX10_atOnce_106 : decode cX10_atOnce 106 = .ok (.bipush 64, 2) := by decide +kernel
theorem dX10_atOnce_108 : decode cX10_atOnce 108 = .ok (.iload_n 1, 1) := by decide +kernel
theorem dX10_atOnce_109 : decode cX10_atOnce 109 = .ok (.iadd, 1) := by decide +kernel
theorem dX10_atOnce_110 : decode cX10_atOnce 110 = .ok (.iload_n 3, 1) := by decide +kernel
theorem dX10_atOnce_111 : decode cX10_atOnce 111 = .ok (.iastore, 1) := by decide +kernel
theorem dX10_atOnce_112 : decode cX10_atOnce 112 = .ok (.iload 4, 2) := by decide +kernel
theorem dX10_atOnce_114 : decode cX10_atOnce 114 = .ok (.ireturn, 1) := by decide +kernel
theorem dX10_isSilent_0 : decode cX10_isSilent 0 = .ok (.aload_n 0, 1) := by decide +kernel
theorem dX10_isSilent_1 : decode cX10_isSilent 1 = .ok (.iconst 1, 1) := by decide +kernel
theorem dX10_isSilent_2 : decode cX10_isSilent 2 = .ok (.aload_n 0, 1) := by decide +kernel
theorem dX10_isSilent_3 : decode cX10_isSilent 3 = .ok (.getfield 13, 3) := by decide +kernel
theorem dX10_isSilent_6 : decode cX10_isSilent 6 = .ok (.bipush 31, 2) := by decide +kernel
theorem dX10_isSilent_8 : decode cX10_isSilent 8 = .ok (.iaload, 1) := by decide +kernel
theorem dX10_isSilent_9 : decode cX10_isSilent 9 = .ok (.ishl, 1) := by decide +kernel
theorem dX10_isSilent_10 : decode cX10_isSilent 10 = .ok (.iconst 1, 1) := by decide +kernel
theorem dX10_isSilent_11 : decode cX10_isSilent 11 = .ok (.isub, 1) := by decide +kernel
theorem dX10_isSilent_12 : decode cX10_isSilent 12 = .ok (.invokevirtual 300, 3) := by decide +kernel
theorem dX10_isSilent_15 : decode cX10_isSilent 15 = .ok (.iload_n 2, 1) := by decide +kernel
theorem dX10_isSilent_16 : decode cX10_isSilent 16 = .ok (.iconst (-1), 1) := by decide +kernel
theorem dX10_isSilent_17 : decode cX10_isSilent 17 = .ok (.if_icmp .eq 16, 3) := by decide +kernel
theorem dX10_isSilent_20 : decode cX10_isSilent 20 = .ok (.aload_n 0, 1) := by decide +kernel
theorem dX10_isSilent_21 : decode cX10_isSilent 21 = .ok (.iload_n 2, 1) := by decide +kernel
theorem dX10_isSilent_22 : decode cX10_isSilent 22 = .ok (.bipush 100, 2) := by decide +kernel
theorem dX10_isSilent_24 : decode cX10_isSilent 24 = .ok (.irem, 1) := by decide +kernel
theorem dX10_isSilent_25 : decode cX10_isSilent 25 = .ok (.iload_n 1, 1) := by decide +kernel
theorem dX10_isSilent_26 : decode cX10_isSilent 26 = .ok (.iload_n 2, 1) := by decide +kernel
theorem dX10_isSilent_27 : decode cX10_isSilent 27 = .ok (.bipush 100, 2) := by decide +kernel
theorem dX10_isSilent_29 : decode cX10_isSilent 29 = .ok (.idiv, 1) := by decide +kernel
theorem dX10_isSilent_30 : decode cX10_isSilent 30 = .ok (.invokevirtual 280, 3) := by decide +kernel
theorem dX10_isSilent_33 : decode cX10_isSilent 33 = .ok (.iload_n 3, 1) := by decide +kernel
theorem dX10_isSilent_34 : decode cX10_isSilent 34 = .ok (.iconst (-1), 1) := by decide +kernel
theorem dX10_isSilent_35 : decode cX10_isSilent 35 = .ok (.if_icmp .eq 16, 3) := by decide +kernel
theorem dX10_isSilent_38 : decode cX10_isSilent 38 = .ok (.aload_n 0, 1) := by decide +kernel
theorem dX10_isSilent_39 : decode cX10_isSilent 39 = .ok (.iload_n 3, 1) := by decide +kernel
theorem dX10_isSilent_40 : decode cX10_isSilent 40 = .ok (.bipush 100, 2) := by decide +kernel
theorem dX10_isSilent_42 : decode cX10_isSilent 42 = .ok (.irem, 1) := by decide +kernel
theorem dX10_isSilent_43 : decode cX10_isSilent 43 = .ok (.iload_n 1, 1) := by decide +kernel
theorem dX10_isSilent_44 : decode cX10_isSilent 44 = .ok (.iload_n 3, 1) := by decide +kernel
theorem dX10_isSilent_45 : decode cX10_isSilent 45 = .ok (.bipush 100, 2) := by decide +kernel
theorem dX10_isSilent_47 : decode cX10_isSilent 47 = .ok (.idiv, 1) := by decide +kernel
theorem dX10_isSilent_48 : decode cX10_isSilent 48 = .ok (.invokevirtual 280, 3) := by decide +kernel
theorem dX10_isSilent_51 : decode cX10_isSilent 51 = .ok (.aload_n 0, 1) := by decide +kernel
theorem dX10_isSilent_52 : decode cX10_isSilent 52 = .ok (.invokevirtual 303, 3) := by decide +kernel
theorem dX10_isSilent_55 : decode cX10_isSilent 55 = .ok (.iconst 0, 1) := by decide +kernel
theorem dX10_isSilent_56 : decode cX10_isSilent 56 = .ok (.istore 4, 2) := by decide +kernel
theorem dX10_isSilent_58 : decode cX10_isSilent 58 = .ok (.iload 4, 2) := by decide +kernel
theorem dX10_isSilent_60 : decode cX10_isSilent 60 = .ok (.aload_n 0, 1) := by decide +kernel
theorem dX10_isSilent_61 : decode cX10_isSilent 61 = .ok (.getfield 13, 3) := by decide +kernel
theorem dX10_isSilent_64 : decode cX10_isSilent 64 = .ok (.bipush 31, 2) := by decide +kernel
theorem dX10_isSilent_66 : decode cX10_isSilent 66 = .ok (.iaload, 1) := by decide +kernel
theorem dX10_isSilent_67 : decode cX10_isSilent 67 = .ok (.if_icmp .ge 32, 3) := by decide +kernel
theorem dX10_isSilent_70 : decode cX10_isSilent 70 = .ok (.aload_n 0, 1) := by decide +kernel
theorem dX10_isSilent_71 : decode cX10_isSilent 71 = .ok (.getfield 40, 3) := by decide +kernel
theorem dX10_isSilent_74 : decode cX10_isSilent 74 = .ok (.iload 4, 2) := by decide +kernel
theorem dX10_isSilent_76 : decode cX10_isSilent 76 = .ok (.iaload, 1) := by decide +kernel
theorem dX10_isSilent_77 : decode cX10_isSilent 77 = .ok (.iload_n 1, 1) := by decide +kernel
theorem dX10_isSilent_78 : decode cX10_isSilent 78 = .ok (.if_icmp .ne 15, 3) := by decide +kernel
theorem dX10_isSilent_81 : decode cX10_isSilent 81 = .ok (.aload_n 0, 1) := by decide +kernel
theorem dX10_isSilent_82 : decode cX10_isSilent 82 = .ok (.getfield 79, 3) := by decide +kernel
theorem dX10_isSilent_85 : decode cX10_isSilent 85 = .ok (.iload 4, 2) := by decide +kernel
theorem dX10_isSilent_87 : decode cX10_isSilent 87 = .ok (.baload, 1) := by decide +kernel
theorem dX10_isSilent_88 : decode cX10_isSilent 88 = .ok (.ifCond .eq 5, 3) := by decide +kernel
theorem dX10_isSilent_91 : decode cX10_isSilent 91 = .ok (.iconst 0, 1) := by decide +kernel
theorem dX10_isSilent_92 : decode cX10_isSilent 92 = .ok (.ireturn, 1) := by decide +kernel
theorem dX10_isSilent_93 : decode cX10_isSilent 93 = .ok (.iinc 4 1, 3) := by decide +kernel
theorem dX10_isSilent_96 : decode cX10_isSilent 96 = .ok (.goto (-38), 3) := by decide +kernel
theorem dX10_isSilent_99 : decode cX10_isSilent 99 = .ok (.iconst 1, 1) := by decide +kernel
theorem dX10_isSilent_100 : decode cX10_isSilent 100 = .ok (.ireturn, 1) := by decide +kernel
theorem dX10_laysSilence_0 : decode cX10_laysSilence 0 = .ok (.aload_n 0, 1) := by decide +kernel
theorem dX10_laysSilence_1 : decode cX10_laysSilence 1 = .ok (.invokevirtual 297, 3) := by decide +kernel
theorem dX10_laysSilence_4 : decode cX10_laysSilence 4 = .ok (.aload_n 0, 1) := by decide +kernel
theorem dX10_laysSilence_5 : decode cX10_laysSilence 5 = .ok (.iconst 0, 1) := by decide +kernel
theorem dX10_laysSilence_6 : decode cX10_laysSilence 6 = .ok (.putfield 421, 3) := by decide +kernel
theorem dX10_laysSilence_9 : decode cX10_laysSilence 9 = .ok (.aload_n 0, 1) := by decide +kernel
theorem dX10_laysSilence_10 : decode cX10_laysSilence 10 = .ok (.iconst (-1), 1) := by decide +kernel
theorem dX10_laysSilence_11 : decode cX10_laysSilence 11 = .ok (.putfield 424, 3) := by decide +kernel
theorem dX10_laysSilence_14 : decode cX10_laysSilence 14 = .ok (.aload_n 0, 1) := by decide +kernel
theorem dX10_laysSilence_15 : decode cX10_laysSilence 15 = .ok (.iconst (-1), 1) := by decide +kernel
theorem dX10_laysSilence_16 : decode cX10_laysSilence 16 = .ok (.putfield 427, 3) := by decide +kernel
theorem dX10_laysSilence_19 : decode cX10_laysSilence 19 = .ok (.aload_n 0, 1) := by decide +kernel
theorem dX10_laysSilence_20 : decode cX10_laysSilence 20 = .ok (.iload_n 1, 1) := by decide +kernel
theorem dX10_laysSilence_21 : decode cX10_laysSilence 21 = .ok (.iconst (-1), 1) := by decide +kernel
theorem dX10_laysSilence_22 : decode cX10_laysSilence 22 = .ok (.iconst (-1), 1) := by decide +kernel
theorem dX10_laysSilence_23 : decode cX10_laysSilence 23 = .ok (.invokevirtual 430, 3) := by decide +kernel
theorem dX10_laysSilence_26 : decode cX10_laysSilence 26 = .ok (.ifCond .eq 4, 3) := by decide +kernel
theorem dX10_laysSilence_29 : decode cX10_laysSilence 29 = .ok (.return_, 1) := by decide +kernel
theorem dX10_laysSilence_30 : decode cX10_laysSilence 30 = .ok (.aload_n 0, 1) := by decide +kernel
theorem dX10_laysSilence_31 : decode cX10_laysSilence 31 = .ok (.iconst 1, 1) := by decide +kernel
theorem dX10_laysSilence_32 : decode cX10_laysSilence 32 = .ok (.putfield 421, 3) := by decide +kernel
theorem dX10_laysSilence_35 : decode cX10_laysSilence 35 = .ok (.iconst 0, 1) := by decide +kernel
theorem dX10_laysSilence_36 : decode cX10_laysSilence 36 = .ok (.istore_n 2, 1) := by decide +kernel
theorem dX10_laysSilence_37 : decode cX10_laysSilence 37 = .ok (.iload_n 2, 1) := by decide +kernel
theorem dX10_laysSilence_38 : decode cX10_laysSilence 38 = .ok (.sipush 2000, 3) := by decide +kernel
theorem dX10_laysSilence_41 : decode cX10_laysSilence 41 = .ok (.if_icmp .ge 42, 3) := by decide +kernel
theorem dX10_laysSilence_44 : decode cX10_laysSilence 44 = .ok (.aload_n 0, 1) := by decide +kernel
theorem dX10_laysSilence_45 : decode cX10_laysSilence 45 = .ok (.iload_n 2, 1) := by decide +kernel
theorem dX10_laysSilence_46 : decode cX10_laysSilence 46 = .ok (.bipush 100, 2) := by decide +kernel
theorem dX10_laysSilence_48 : decode cX10_laysSilence 48 = .ok (.irem, 1) := by decide +kernel
theorem dX10_laysSilence_49 : decode cX10_laysSilence 49 = .ok (.i2l, 1) := by decide +kernel
theorem dX10_laysSilence_50 : decode cX10_laysSilence 50 = .ok (.iload_n 1, 1) := by decide +kernel
theorem dX10_laysSilence_51 : decode cX10_laysSilence 51 = .ok (.i2l, 1) := by decide +kernel
theorem dX10_laysSilence_52 : decode cX10_laysSilence 52 = .ok (.invokevirtual 259, 3) := by decide +kernel
theorem dX10_laysSilence_55 : decode cX10_laysSilence 55 = .ok (.ifCond .eq 22, 3) := by decide +kernel
theorem dX10_laysSilence_58 : decode cX10_laysSilence 58 = .ok (.aload_n 0, 1) := by decide +kernel
theorem dX10_laysSilence_59 : decode cX10_laysSilence 59 = .ok (.iload_n 1, 1) := by decide +kernel
theorem dX10_laysSilence_60 : decode cX10_laysSilence 60 = .ok (.iload_n 2, 1) := by decide +kernel
theorem dX10_laysSilence_61 : decode cX10_laysSilence 61 = .ok (.iconst (-1), 1) := by decide +kernel
theorem dX10_laysSilence_62 : decode cX10_laysSilence 62 = .ok (.invokevirtual 430, 3) := by decide +kernel
theorem dX10_laysSilence_65 : decode cX10_laysSilence 65 = .ok (.ifCond .ne 6, 3) := by decide +kernel
theorem dX10_laysSilence_68 : decode cX10_laysSilence 68 = .ok (.goto 9, 3) := by decide +kernel
theorem dX10_laysSilence_71 : decode cX10_laysSilence 71 = .ok (.aload_n 0, 1) := by decide +kernel
theorem dX10_laysSilence_72 : decode cX10_laysSilence 72 = .ok (.iload_n 2, 1) := by decide +kernel
theorem dX10_laysSilence_73 : decode cX10_laysSilence 73 = .ok (.putfield 424, 3) := by decide +kernel
theorem dX10_laysSilence_76 : decode cX10_laysSilence 76 = .ok (.return_, 1) := by decide +kernel
theorem dX10_laysSilence_77 : decode cX10_laysSilence 77 = .ok (.iinc 2 1, 3) := by decide +kernel
theorem dX10_laysSilence_80 : decode cX10_laysSilence 80 = .ok (.goto (-43), 3) := by decide +kernel
theorem dX10_laysSilence_83 : decode cX10_laysSilence 83 = .ok (.aload_n 0, 1) := by decide +kernel
theorem dX10_laysSilence_84 : decode cX10_laysSilence 84 = .ok (.iconst 2, 1) := by decide +kernel
theorem dX10_laysSilence_85 : decode cX10_laysSilence 85 = .ok (.putfield 421, 3) := by decide +kernel
theorem dX10_laysSilence_88 : decode cX10_laysSilence 88 = .ok (.iconst 0, 1) := by decide +kernel
theorem dX10_laysSilence_89 : decode cX10_laysSilence 89 = .ok (.istore_n 2, 1) := by decide +kernel
theorem dX10_laysSilence_90 : decode cX10_laysSilence 90 = .ok (.iload_n 2, 1) := by decide +kernel
theorem dX10_laysSilence_91 : decode cX10_laysSilence 91 = .ok (.sipush 2000, 3) := by decide +kernel
theorem dX10_laysSilence_94 : decode cX10_laysSilence 94 = .ok (.if_icmp .ge 78, 3) := by decide +kernel
theorem dX10_laysSilence_97 : decode cX10_laysSilence 97 = .ok (.iload_n 2, 1) := by decide +kernel
theorem dX10_laysSilence_98 : decode cX10_laysSilence 98 = .ok (.iconst 1, 1) := by decide +kernel
theorem dX10_laysSilence_99 : decode cX10_laysSilence 99 = .ok (.iadd, 1) := by decide +kernel
theorem dX10_laysSilence_100 : decode cX10_laysSilence 100 = .ok (.istore_n 3, 1) := by decide +kernel
theorem dX10_laysSilence_101 : decode cX10_laysSilence 101 = .ok (.iload_n 3, 1) := by decide +kernel
theorem dX10_laysSilence_102 : decode cX10_laysSilence 102 = .ok (.sipush 2000, 3) := by decide +kernel
theorem dX10_laysSilence_105 : decode cX10_laysSilence 105 = .ok (.if_icmp .ge 61, 3) := by decide +kernel
theorem dX10_laysSilence_108 : decode cX10_laysSilence 108 = .ok (.aload_n 0, 1) := by decide +kernel
theorem dX10_laysSilence_109 : decode cX10_laysSilence 109 = .ok (.iload_n 2, 1) := by decide +kernel
theorem dX10_laysSilence_110 : decode cX10_laysSilence 110 = .ok (.bipush 100, 2) := by decide +kernel
theorem dX10_laysSilence_112 : decode cX10_laysSilence 112 = .ok (.irem, 1) := by decide +kernel
theorem dX10_laysSilence_113 : decode cX10_laysSilence 113 = .ok (.i2l, 1) := by decide +kernel
theorem dX10_laysSilence_114 : decode cX10_laysSilence 114 = .ok (.iload_n 1, 1) := by decide +kernel
theorem dX10_laysSilence_115 : decode cX10_laysSilence 115 = .ok (.i2l, 1) := by decide +kernel
theorem dX10_laysSilence_116 : decode cX10_laysSilence 116 = .ok (.invokevirtual 259, 3) := by decide +kernel
theorem dX10_laysSilence_119 : decode cX10_laysSilence 119 = .ok (.ifCond .eq 47, 3) := by decide +kernel
theorem dX10_laysSilence_122 : decode cX10_laysSilence 122 = .ok (.aload_n 0, 1) := by decide +kernel
theorem dX10_laysSilence_123 : decode cX10_laysSilence 123 = .ok (.iload_n 3, 1) := by decide +kernel
theorem dX10_laysSilence_124 : decode cX10_laysSilence 124 = .ok (.bipush 100, 2) := by decide +kernel
theorem dX10_laysSilence_126 : decode cX10_laysSilence 126 = .ok (.irem, 1) := by decide +kernel
theorem dX10_laysSilence_127 : decode cX10_laysSilence 127 = .ok (.i2l, 1) := by decide +kernel
theorem dX10_laysSilence_128 : decode cX10_laysSilence 128 = .ok (.iload_n 1, 1) := by decide +kernel
theorem dX10_laysSilence_129 : decode cX10_laysSilence 129 = .ok (.i2l, 1) := by decide +kernel
theorem dX10_laysSilence_130 : decode cX10_laysSilence 130 = .ok (.invokevirtual 259, 3) := by decide +kernel
theorem dX10_laysSilence_133 : decode cX10_laysSilence 133 = .ok (.ifCond .eq 27, 3) := by decide +kernel
theorem dX10_laysSilence_136 : decode cX10_laysSilence 136 = .ok (.aload_n 0, 1) := by decide +kernel
theorem dX10_laysSilence_137 : decode cX10_laysSilence 137 = .ok (.iload_n 1, 1) := by decide +kernel
theorem dX10_laysSilence_138 : decode cX10_laysSilence 138 = .ok (.iload_n 2, 1) := by decide +kernel
theorem dX10_laysSilence_139 : decode cX10_laysSilence 139 = .ok (.iload_n 3, 1) := by decide +kernel
theorem dX10_laysSilence_140 : decode cX10_laysSilence 140 = .ok (.invokevirtual 430, 3) := by decide +kernel
theorem dX10_laysSilence_143 : decode cX10_laysSilence 143 = .ok (.ifCond .ne 6, 3) := by decide +kernel
theorem dX10_laysSilence_146 : decode cX10_laysSilence 146 = .ok (.goto 14, 3) := by decide +kernel
theorem dX10_laysSilence_149 : decode cX10_laysSilence 149 = .ok (.aload_n 0, 1) := by decide +kernel
theorem dX10_laysSilence_150 : decode cX10_laysSilence 150 = .ok (.iload_n 2, 1) := by decide +kernel
theorem dX10_laysSilence_151 : decode cX10_laysSilence 151 = .ok (.putfield 424, 3) := by decide +kernel
theorem dX10_laysSilence_154 : decode cX10_laysSilence 154 = .ok (.aload_n 0, 1) := by decide +kernel
theorem dX10_laysSilence_155 : decode cX10_laysSilence 155 = .ok (.iload_n 3, 1) := by decide +kernel
theorem dX10_laysSilence_156 : decode cX10_laysSilence 156 = .ok (.putfield 427, 3) := by decide +kernel
theorem dX10_laysSilence_159 : decode cX10_laysSilence 159 = .ok (.return_, 1) := by decide +kernel
theorem dX10_laysSilence_160 : decode cX10_laysSilence 160 = .ok (.iinc 3 1, 3) := by decide +kernel
theorem dX10_laysSilence_163 : decode cX10_laysSilence 163 = .ok (.goto (-62), 3) := by decide +kernel
theorem dX10_laysSilence_166 : decode cX10_laysSilence 166 = .ok (.iinc 2 1, 3) := by decide +kernel
theorem dX10_laysSilence_169 : decode cX10_laysSilence 169 = .ok (.goto (-79), 3) := by decide +kernel
theorem dX10_laysSilence_172 : decode cX10_laysSilence 172 = .ok (.aload_n 0, 1) := by decide +kernel
theorem dX10_laysSilence_173 : decode cX10_laysSilence 173 = .ok (.iconst (-1), 1) := by decide +kernel
theorem dX10_laysSilence_174 : decode cX10_laysSilence 174 = .ok (.putfield 421, 3) := by decide +kernel
theorem dX10_laysSilence_177 : decode cX10_laysSilence 177 = .ok (.return_, 1) := by decide +kernel
theorem dX10_silence_0 : decode cX10_silence 0 = .ok (.aload_n 0, 1) := by decide +kernel
theorem dX10_silence_1 : decode cX10_silence 1 = .ok (.iconst 0, 1) := by decide +kernel
theorem dX10_silence_2 : decode cX10_silence 2 = .ok (.putfield 1, 3) := by decide +kernel
theorem dX10_silence_5 : decode cX10_silence 5 = .ok (.aload_n 0, 1) := by decide +kernel
theorem dX10_silence_6 : decode cX10_silence 6 = .ok (.iload_n 1, 1) := by decide +kernel
theorem dX10_silence_7 : decode cX10_silence 7 = .ok (.i2l, 1) := by decide +kernel
theorem dX10_silence_8 : decode cX10_silence 8 = .ok (.invokevirtual 235, 3) := by decide +kernel
theorem dX10_silence_11 : decode cX10_silence 11 = .ok (.ifCond .eq 15, 3) := by decide +kernel
theorem dX10_silence_14 : decode cX10_silence 14 = .ok (.iload_n 2, 1) := by decide +kernel
theorem dX10_silence_15 : decode cX10_silence 15 = .ok (.i2l, 1) := by decide +kernel
theorem dX10_silence_16 : decode cX10_silence 16 = .ok (.lconst 0, 1) := by decide +kernel
theorem dX10_silence_17 : decode cX10_silence 17 = .ok (.ldc2_w 434, 3) := by decide +kernel
theorem dX10_silence_20 : decode cX10_silence 20 = .ok (.invokestatic 170, 3) := by decide +kernel
theorem dX10_silence_23 : decode cX10_silence 23 = .ok (.ifCond .ne 6, 3) := by decide +kernel
theorem dX10_silence_26 : decode cX10_silence 26 = .ok (.bipush (-2), 2) := by decide +kernel
theorem dX10_silence_28 : decode cX10_silence 28 = .ok (.ireturn, 1) := by decide +kernel
theorem dX10_silence_29 : decode cX10_silence 29 = .ok (.aload_n 0, 1) := by decide +kernel
theorem dX10_silence_30 : decode cX10_silence 30 = .ok (.iload_n 1, 1) := by decide +kernel
theorem dX10_silence_31 : decode cX10_silence 31 = .ok (.invokevirtual 436, 3) := by decide +kernel
theorem dX10_silence_34 : decode cX10_silence 34 = .ok (.iload_n 2, 1) := by decide +kernel
theorem dX10_silence_35 : decode cX10_silence 35 = .ok (.ifCond .ne 10, 3) := by decide +kernel
theorem dX10_silence_38 : decode cX10_silence 38 = .ok (.aload_n 0, 1) := by decide +kernel
theorem dX10_silence_39 : decode cX10_silence 39 = .ok (.getfield 421, 3) := by decide +kernel
theorem dX10_silence_42 : decode cX10_silence 42 = .ok (.goto 19, 3) := by decide +kernel
theorem dX10_silence_45 : decode cX10_silence 45 = .ok (.iload_n 2, 1) := by decide +kernel
theorem dX10_silence_46 : decode cX10_silence 46 = .ok (.iconst 1, 1) := by decide +kernel
theorem dX10_silence_47 : decode cX10_silence 47 = .ok (.if_icmp .ne 10, 3) := by decide +kernel
theorem dX10_silence_50 : decode cX10_silence 50 = .ok (.aload_n 0, 1) := by decide +kernel
theorem dX10_silence_51 : decode cX10_silence 51 = .ok (.getfield 424, 3) := by decide +kernel
theorem dX10_silence_54 : decode cX10_silence 54 = .ok (.goto 7, 3) := by decide +kernel
theorem dX10_silence_57 : decode cX10_silence 57 = .ok (.aload_n 0, 1) := by decide +kernel
theorem dX10_silence_58 : decode cX10_silence 58 = .ok (.getfield 427, 3) := by decide +kernel
theorem dX10_silence_61 : decode cX10_silence 61 = .ok (.ireturn, 1) := by decide +kernel
theorem dX10_noHeard_0 : decode cX10_noHeard 0 = .ok (.iload_n 1, 1) := by decide +kernel
theorem dX10_noHeard_1 : decode cX10_noHeard 1 = .ok (.i2l, 1) := by decide +kernel
theorem dX10_noHeard_2 : decode cX10_noHeard 2 = .ok (.lconst 0, 1) := by decide +kernel
theorem dX10_noHeard_3 : decode cX10_noHeard 3 = .ok (.ldc2_w 370, 3) := by decide +kernel
theorem dX10_noHeard_6 : decode cX10_noHeard 6 = .ok (.invokestatic 170, 3) := by decide +kernel
theorem dX10_noHeard_9 : decode cX10_noHeard 9 = .ok (.ifCond .eq 12, 3) := by decide +kernel
theorem dX10_noHeard_12 : decode cX10_noHeard 12 = .ok (.aload_n 0, 1) := by decide +kernel
theorem dX10_noHeard_13 : decode cX10_noHeard 13 = .ok (.iload_n 2, 1) := by decide +kernel
theorem dX10_noHeard_14 : decode cX10_noHeard 14 = .ok (.i2l, 1) := by decide +kernel
theorem dX10_noHeard_15 : decode cX10_noHeard 15 = .ok (.invokevirtual 235, 3) := by decide +kernel
theorem dX10_noHeard_18 : decode cX10_noHeard 18 = .ok (.ifCond .ne 6, 3) := by decide +kernel
theorem dX10_noHeard_21 : decode cX10_noHeard 21 = .ok (.bipush (-2), 2) := by decide +kernel
theorem dX10_noHeard_23 : decode cX10_noHeard 23 = .ok (.ireturn, 1) := by decide +kernel
theorem dX10_noHeard_24 : decode cX10_noHeard 24 = .ok (.aload_n 0, 1) := by decide +kernel
theorem dX10_noHeard_25 : decode cX10_noHeard 25 = .ok (.iload_n 1, 1) := by decide +kernel
theorem dX10_noHeard_26 : decode cX10_noHeard 26 = .ok (.invokevirtual 372, 3) := by decide +kernel
theorem dX10_noHeard_29 : decode cX10_noHeard 29 = .ok (.istore_n 3, 1) := by decide +kernel
theorem dX10_noHeard_30 : decode cX10_noHeard 30 = .ok (.iload_n 3, 1) := by decide +kernel
theorem dX10_noHeard_31 : decode cX10_noHeard 31 = .ok (.ifCond .eq 5, 3) := by decide +kernel
theorem dX10_noHeard_34 : decode cX10_noHeard 34 = .ok (.iload_n 3, 1) := by decide +kernel
theorem dX10_noHeard_35 : decode cX10_noHeard 35 = .ok (.ireturn, 1) := by decide +kernel
theorem dX10_noHeard_36 : decode cX10_noHeard 36 = .ok (.aload_n 0, 1) := by decide +kernel
theorem dX10_noHeard_37 : decode cX10_noHeard 37 = .ok (.getfield 98, 3) := by decide +kernel
theorem dX10_noHeard_40 : decode cX10_noHeard 40 = .ok (.iload_n 1, 1) := by decide +kernel
theorem dX10_noHeard_41 : decode cX10_noHeard 41 = .ok (.iaload, 1) := by decide +kernel
theorem dX10_noHeard_42 : decode cX10_noHeard 42 = .ok (.i2l, 1) := by decide +kernel
theorem dX10_noHeard_43 : decode cX10_noHeard 43 = .ok (.lconst 1, 1) := by decide +kernel
theorem dX10_noHeard_44 : decode cX10_noHeard 44 = .ok (.ldc2_w 439, 3) := by decide +kernel
theorem dX10_noHeard_47 : decode cX10_noHeard 47 = .ok (.invokestatic 170, 3) := by decide +kernel
theorem dX10_noHeard_50 : decode cX10_noHeard 50 = .ok (.ifCond .ne 6, 3) := by decide +kernel
theorem dX10_noHeard_53 : decode cX10_noHeard 53 = .ok (.bipush (-4), 2) := by decide +kernel
theorem dX10_noHeard_55 : decode cX10_noHeard 55 = .ok (.ireturn, 1) := by decide +kernel
theorem dX10_noHeard_56 : decode cX10_noHeard 56 = .ok (.iconst 0, 1) := by decide +kernel
theorem dX10_noHeard_57 : decode cX10_noHeard 57 = .ok (.istore 4, 2) := by decide +kernel
theorem dX10_noHeard_59 : decode cX10_noHeard 59 = .ok (.iload 4, 2) := by decide +kernel
theorem dX10_noHeard_61 : decode cX10_noHeard 61 = .ok (.aload_n 0, 1) := by decide +kernel
theorem dX10_noHeard_62 : decode cX10_noHeard 62 = .ok (.getfield 98, 3) := by decide +kernel
theorem dX10_noHeard_65 : decode cX10_noHeard 65 = .ok (.iload_n 1, 1) := by decide +kernel
theorem dX10_noHeard_66 : decode cX10_noHeard 66 = .ok (.iaload, 1) := by decide +kernel
theorem dX10_noHeard_67 : decode cX10_noHeard 67 = .ok (.if_icmp .ge 64, 3) := by decide +kernel
theorem dX10_noHeard_70 : decode cX10_noHeard 70 = .ok (.aload_n 0, 1) := by decide +kernel
theorem dX10_noHeard_71 : decode cX10_noHeard 71 = .ok (.getfield 101, 3) := by decide +kernel
theorem dX10_noHeard_74 : decode cX10_noHeard 74 = .ok (.bipush 40, 2) := by decide +kernel
theorem dX10_noHeard_76 : decode cX10_noHeard 76 = .ok (.iload_n 1, 1) := by decide +kernel
theorem dX10_noHeard_77 : decode cX10_noHeard 77 = .ok (.imul, 1) := by decide +kernel
theorem dX10_noHeard_78 : decode cX10_noHeard 78 = .ok (.iload 4, 2) := by decide +kernel
theorem dX10_noHeard_80 : decode cX10_noHeard 80 = .ok (.iadd, 1) := by decide +kernel
theorem dX10_noHeard_81 : decode cX10_noHeard 81 = .ok (.laload, 1) := by decide +kernel
theorem dX10_noHeard_82 : decode cX10_noHeard 82 = .ok (.lstore 5, 2) := by decide +kernel
theorem dX10_noHeard_84 : decode cX10_noHeard 84 = .ok (.lload 5, 2) := by decide +kernel
theorem dX10_noHeard_86 : decode cX10_noHeard 86 = .ok (.lconst 0, 1) := by decide +kernel
theorem dX10_noHeard_87 : decode cX10_noHeard 87 = .ok (.lcmp, 1) := by decide +kernel
theorem dX10_noHeard_88 : decode cX10_noHeard 88 = .ok (.ifCond .lt 34, 3) := by decide +kernel
theorem dX10_noHeard_91 : decode cX10_noHeard 91 = .ok (.aload_n 0, 1) := by decide +kernel
theorem dX10_noHeard_92 : decode cX10_noHeard 92 = .ok (.lload 5, 2) := by decide +kernel
theorem dX10_noHeard_94 : decode cX10_noHeard 94 = .ok (.ldc2_w 346, 3) := by decide +kernel
theorem dX10_noHeard_97 : decode cX10_noHeard 97 = .ok (.ldiv, 1) := by decide +kernel
theorem dX10_noHeard_98 : decode cX10_noHeard 98 = .ok (.iload_n 2, 1) := by decide +kernel
theorem dX10_noHeard_99 : decode cX10_noHeard 99 = .ok (.i2l, 1) := by decide +kernel
theorem dX10_noHeard_100 : decode cX10_noHeard 100 = .ok (.invokevirtual 259, 3) := by decide +kernel
theorem dX10_noHeard_103 : decode cX10_noHeard 103 = .ok (.ifCond .eq 19, 3) := by decide +kernel
theorem dX10_noHeard_106 : decode cX10_noHeard 106 = .ok (.lload 5, 2) := by decide +kernel
theorem dX10_noHeard_108 : decode cX10_noHeard 108 = .ok (.ldc2_w 346, 3) := by decide +kernel
theorem dX10_noHeard_111 : decode cX10_noHeard 111 = .ok (.lrem, 1) := by decide +kernel
theorem dX10_noHeard_112 : decode cX10_noHeard 112 = .ok (.lconst 1, 1) := by decide +kernel
theorem dX10_noHeard_113 : decode cX10_noHeard 113 = .ok (.ldc2_w 405, 3) := by decide +kernel
theorem dX10_noHeard_116 : decode cX10_noHeard 116 = .ok (.invokestatic 170, 3) := by decide +kernel
theorem dX10_noHeard_119 : decode cX10_noHeard 119 = .ok (.ifCond .ne 6, 3) := by decide +kernel
theorem dX10_noHeard_122 : decode cX10_noHeard 122 = .ok (.bipush (-3), 2) := by decide +kernel
theorem dX10_noHeard_124 : decode cX10_noHeard 124 = .ok (.ireturn, 1) := by decide +kernel
theorem dX10_noHeard_125 : decode cX10_noHeard 125 = .ok (.iinc 4 1, 3) := by decide +kernel
theorem dX10_noHeard_128 : decode cX10_noHeard 128 = .ok (.goto (-69), 3) := by decide +kernel
theorem dX10_noHeard_131 : decode cX10_noHeard 131 = .ok (.iconst 0, 1) := by decide +kernel
theorem dX10_noHeard_132 : decode cX10_noHeard 132 = .ok (.ireturn, 1) := by decide +kernel
theorem dX10_isHeard_0 : decode cX10_isHeard 0 = .ok (.iconst 0, 1) := by decide +kernel
theorem dX10_isHeard_1 : decode cX10_isHeard 1 = .ok (.istore_n 3, 1) := by decide +kernel
theorem dX10_isHeard_2 : decode cX10_isHeard 2 = .ok (.iload_n 3, 1) := by decide +kernel
theorem dX10_isHeard_3 : decode cX10_isHeard 3 = .ok (.aload_n 0, 1) := by decide +kernel
theorem dX10_isHeard_4 : decode cX10_isHeard 4 = .ok (.getfield 98, 3) := by decide +kernel
theorem dX10_isHeard_7 : decode cX10_isHeard 7 = .ok (.iload_n 1, 1) := by decide +kernel
theorem dX10_isHeard_8 : decode cX10_isHeard 8 = .ok (.iaload, 1) := by decide +kernel
theorem dX10_isHeard_9 : decode cX10_isHeard 9 = .ok (.if_icmp .ge 43, 3) := by decide +kernel
theorem dX10_isHeard_12 : decode cX10_isHeard 12 = .ok (.aload_n 0, 1) := by decide +kernel
theorem dX10_isHeard_13 : decode cX10_isHeard 13 = .ok (.getfield 101, 3) := by decide +kernel
theorem dX10_isHeard_16 : decode cX10_isHeard 16 = .ok (.bipush 40, 2) := by decide +kernel
theorem dX10_isHeard_18 : decode cX10_isHeard 18 = .ok (.iload_n 1, 1) := by decide +kernel
theorem dX10_isHeard_19 : decode cX10_isHeard 19 = .ok (.imul, 1) := by decide +kernel
theorem dX10_isHeard_20 : decode cX10_isHeard 20 = .ok (.iload_n 3, 1) := by decide +kernel
theorem dX10_isHeard_21 : decode cX10_isHeard 21 = .ok (.iadd, 1) := by decide +kernel
theorem dX10_isHeard_22 : decode cX10_isHeard 22 = .ok (.laload, 1) := by decide +kernel
theorem dX10_isHeard_23 : decode cX10_isHeard 23 = .ok (.l2i, 1) := by decide +kernel
theorem dX10_isHeard_24 : decode cX10_isHeard 24 = .ok (.istore 4, 2) := by decide +kernel
theorem dX10_isHeard_26 : decode cX10_isHeard 26 = .ok (.aload_n 0, 1) := by decide +kernel
theorem dX10_isHeard_27 : decode cX10_isHeard 27 = .ok (.iload_n 2, 1) := by decide +kernel
theorem dX10_isHeard_28 : decode cX10_isHeard 28 = .ok (.iload 4, 2) := by decide +kernel
theorem dX10_isHeard_30 : decode cX10_isHeard 30 = .ok (.bipush 100, 2) := by decide +kernel
theorem dX10_isHeard_32 : decode cX10_isHeard 32 = .ok (.idiv, 1) := by decide +kernel
theorem dX10_isHeard_33 : decode cX10_isHeard 33 = .ok (.invokevirtual 263, 3) := by decide +kernel
theorem dX10_isHeard_36 : decode cX10_isHeard 36 = .ok (.iload 4, 2) := by decide +kernel
theorem dX10_isHeard_38 : decode cX10_isHeard 38 = .ok (.bipush 100, 2) := by decide +kernel
theorem dX10_isHeard_40 : decode cX10_isHeard 40 = .ok (.irem, 1) := by decide +kernel
theorem dX10_isHeard_41 : decode cX10_isHeard 41 = .ok (.if_icmp .eq 5, 3) := by decide +kernel
theorem dX10_isHeard_44 : decode cX10_isHeard 44 = .ok (.iconst 0, 1) := by decide +kernel
theorem dX10_isHeard_45 : decode cX10_isHeard 45 = .ok (.ireturn, 1) := by decide +kernel
theorem dX10_isHeard_46 : decode cX10_isHeard 46 = .ok (.iinc 3 1, 3) := by decide +kernel
theorem dX10_isHeard_49 : decode cX10_isHeard 49 = .ok (.goto (-47), 3) := by decide +kernel
theorem dX10_isHeard_52 : decode cX10_isHeard 52 = .ok (.iconst 1, 1) := by decide +kernel
theorem dX10_isHeard_53 : decode cX10_isHeard 53 = .ok (.ireturn, 1) := by decide +kernel
theorem dX10_heardOf_0 : decode cX10_heardOf 0 = .ok (.aload_n 0, 1) := by decide +kernel
theorem dX10_heardOf_1 : decode cX10_heardOf 1 = .ok (.getfield 13, 3) := by decide +kernel
theorem dX10_heardOf_4 : decode cX10_heardOf 4 = .ok (.bipush 64, 2) := by decide +kernel
theorem dX10_heardOf_6 : decode cX10_heardOf 6 = .ok (.iload_n 2, 1) := by decide +kernel
theorem dX10_heardOf_7 : decode cX10_heardOf 7 = .ok (.iadd, 1) := by decide +kernel
theorem dX10_heardOf_8 : decode cX10_heardOf 8 = .ok (.iaload, 1) := by decide +kernel
theorem dX10_heardOf_9 : decode cX10_heardOf 9 = .ok (.istore 4, 2) := by decide +kernel
theorem dX10_heardOf_11 : decode cX10_heardOf 11 = .ok (.iconst (-1), 1) := by decide +kernel
theorem dX10_heardOf_12 : decode cX10_heardOf 12 = .ok (.istore 5, 2) := by decide +kernel
theorem dX10_heardOf_14 : decode cX10_heardOf 14 = .ok (.iconst 0, 1) := by decide +kernel
theorem dX10_heardOf_15 : decode cX10_heardOf 15 = .ok (.istore 6, 2) := by decide +kernel
theorem dX10_heardOf_17 : decode cX10_heardOf 17 = .ok (.iconst 0, 1) := by decide +kernel
theorem dX10_heardOf_18 : decode cX10_heardOf 18 = .ok (.istore 7, 2) := by decide +kernel
theorem dX10_heardOf_20 : decode cX10_heardOf 20 = .ok (.iload 7, 2) := by decide +kernel
theorem dX10_heardOf_22 : decode cX10_heardOf 22 = .ok (.aload_n 0, 1) := by decide +kernel
theorem dX10_heardOf_23 : decode cX10_heardOf 23 = .ok (.invokevirtual 313, 3) := by decide +kernel
theorem dX10_heardOf_26 : decode cX10_heardOf 26 = .ok (.if_icmp .ge 50, 3) := by decide +kernel
theorem dX10_heardOf_29 : decode cX10_heardOf 29 = .ok (.aload_n 0, 1) := by decide +kernel
theorem dX10_heardOf_30 : decode cX10_heardOf 30 = .ok (.getfield 13, 3) := by decide +kernel
theorem dX10_heardOf_33 : decode cX10_heardOf 33 = .ok (.bipush 64, 2) := by decide +kernel
theorem dX10_heardOf_35 : decode cX10_heardOf 35 = .ok (.iload_n 2, 1) := by decide +kernel
theorem dX10_heardOf_36 : decode cX10_heardOf 36 = .ok (.iadd, 1) := by decide +kernel
theorem dX10_heardOf_37 : decode cX10_heardOf 37 = .ok (.iload 7, 2) := by decide +kernel
theorem dX10_heardOf_39 : decode cX10_heardOf 39 = .ok (.iastore, 1) := by decide +kernel
theorem dX10_heardOf_40 : decode cX10_heardOf 40 = .ok (.aload_n 0, 1) := by decide +kernel
theorem dX10_heardOf_41 : decode cX10_heardOf 41 = .ok (.iload_n 1, 1) := by decide +kernel
theorem dX10_heardOf_42 : decode cX10_heardOf 42 = .ok (.iload_n 2, 1) := by decide +kernel
theorem dX10_heardOf_43 : decode cX10_heardOf 43 = .ok (.invokevirtual 441, 3) := by decide +kernel
theorem dX10_heardOf_46 : decode cX10_heardOf 46 = .ok (.ifCond .ne 6, 3) := by decide +kernel
theorem dX10_heardOf_49 : decode cX10_heardOf 49 = .ok (.goto 21, 3) := by decide +kernel
theorem dX10_heardOf_52 : decode cX10_heardOf 52 = .ok (.iload 6, 2) := by decide +kernel
theorem dX10_heardOf_54 : decode cX10_heardOf 54 = .ok (.iload_n 3, 1) := by decide +kernel
theorem dX10_heardOf_55 : decode cX10_heardOf 55 = .ok (.if_icmp .ne 8, 3) := by decide +kernel
theorem dX10_heardOf_58 : decode cX10_heardOf 58 = .ok (.iload 7, 2) := by decide +kernel
theorem dX10_heardOf_60 : decode cX10_heardOf 60 = .ok (.goto 5, 3) := by decide +kernel
theorem dX10_heardOf_63 : decode cX10_heardOf 63 = .ok (.iload 5, 2) := by decide +kernel
theorem dX10_heardOf_65 : decode cX10_heardOf 65 = .ok (.istore 5, 2) := by decide +kernel
theorem dX10_heardOf_67 : decode cX10_heardOf 67 = .ok (.iinc 6 1, 3) := by decide +kernel
theorem dX10_heardOf_70 : decode cX10_heardOf 70 = .ok (.iinc 7 1, 3) := by decide +kernel
theorem dX10_heardOf_73 : decode cX10_heardOf 73 = .ok (.goto (-53), 3) := by decide +kernel
theorem dX10_heardOf_76 : decode cX10_heardOf 76 = .ok (.aload_n 0, 1) := by decide +kernel
theorem dX10_heardOf_77 : decode cX10_heardOf 77 = .ok (.getfield 13, 3) := by decide +kernel
theorem dX10_heardOf_80 : decode cX10_heardOf 80 = .ok (.bipush 64, 2) := by decide +kernel
theorem dX10_heardOf_82 : decode cX10_heardOf 82 = .ok (.iload_n 2, 1) := by decide +kernel
theorem dX10_heardOf_83 : decode cX10_heardOf 83 = .ok (.iadd, 1) := by decide +kernel
theorem dX10_heardOf_84 : decode cX10_heardOf 84 = .ok (.iload 4, 2) := by decide +kernel
theorem dX10_heardOf_86 : decode cX10_heardOf 86 = .ok (.iastore, 1) := by decide +kernel
theorem dX10_heardOf_87 : decode cX10_heardOf 87 = .ok (.iload_n 3, 1) := by decide +kernel
theorem dX10_heardOf_88 : decode cX10_heardOf 88 = .ok (.ifCond .ge 8, 3) := by decide +kernel
theorem dX10_heardOf_91 : decode cX10_heardOf 91 = .ok (.iload 6, 2) := by decide +kernel
theorem dX10_heardOf_93 : decode cX10_heardOf 93 = .ok (.goto 5, 3) := by decide +kernel
theorem dX10_heardOf_96 : decode cX10_heardOf 96 = .ok (.iload 5, 2) := by decide +kernel
theorem dX10_heardOf_98 : decode cX10_heardOf 98 = .ok (.ireturn, 1) := by decide +kernel
theorem dX10_heard_0 : decode cX10_heard 0 = .ok (.aload_n 0, 1) := by decide +kernel
theorem dX10_heard_1 : decode cX10_heard 1 = .ok (.iconst 0, 1) := by decide +kernel
theorem dX10_heard_2 : decode cX10_heard 2 = .ok (.putfield 1, 3) := by decide +kernel
theorem dX10_heard_5 : decode cX10_heard 5 = .ok (.aload_n 0, 1) := by decide +kernel
theorem dX10_heard_6 : decode cX10_heard 6 = .ok (.iload_n 1, 1) := by decide +kernel
theorem dX10_heard_7 : decode cX10_heard 7 = .ok (.iload_n 2, 1) := by decide +kernel
theorem dX10_heard_8 : decode cX10_heard 8 = .ok (.invokevirtual 444, 3) := by decide +kernel
theorem dX10_heard_11 : decode cX10_heard 11 = .ok (.istore_n 3, 1) := by decide +kernel
theorem dX10_heard_12 : decode cX10_heard 12 = .ok (.iload_n 3, 1) := by decide +kernel
theorem dX10_heard_13 : decode cX10_heard 13 = .ok (.ifCond .eq 7, 3) := by decide +kernel
theorem dX10_heard_16 : decode cX10_heard 16 = .ok (.iload_n 3, 1) := by decide +kernel
theorem dX10_heard_17 : decode cX10_heard 17 = .ok (.goto 10, 3) := by decide +kernel
theorem dX10_heard_20 : decode cX10_heard 20 = .ok (.aload_n 0, 1) := by decide +kernel
theorem dX10_heard_21 : decode cX10_heard 21 = .ok (.iload_n 1, 1) := by decide +kernel
theorem dX10_heard_22 : decode cX10_heard 22 = .ok (.iload_n 2, 1) := by decide +kernel
theorem dX10_heard_23 : decode cX10_heard 23 = .ok (.iconst (-1), 1) := by decide +kernel
theorem dX10_heard_24 : decode cX10_heard 24 = .ok (.invokevirtual 447, 3) := by decide +kernel
theorem dX10_heard_27 : decode cX10_heard 27 = .ok (.ireturn, 1) := by decide +kernel
theorem dX10_heardAt_0 : decode cX10_heardAt 0 = .ok (.aload_n 0, 1) := by decide +kernel
theorem dX10_heardAt_1 : decode cX10_heardAt 1 = .ok (.iconst 0, 1) := by decide +kernel
theorem dX10_heardAt_2 : decode cX10_heardAt 2 = .ok (.putfield 1, 3) := by decide +kernel
theorem dX10_heardAt_5 : decode cX10_heardAt 5 = .ok (.aload_n 0, 1) := by decide +kernel
theorem dX10_heardAt_6 : decode cX10_heardAt 6 = .ok (.iload_n 1, 1) := by decide +kernel
theorem dX10_heardAt_7 : decode cX10_heardAt 7 = .ok (.iload_n 2, 1) := by decide +kernel
theorem dX10_heardAt_8 : decode cX10_heardAt 8 = .ok (.invokevirtual 444, 3) := by decide +kernel
theorem dX10_heardAt_11 : decode cX10_heardAt 11 = .ok (.istore 4, 2) := by decide +kernel
theorem dX10_heardAt_13 : decode cX10_heardAt 13 = .ok (.iload 4, 2) := by decide +kernel
theorem dX10_heardAt_15 : decode cX10_heardAt 15 = .ok (.ifCond .eq 6, 3) := by decide +kernel
theorem dX10_heardAt_18 : decode cX10_heardAt 18 = .ok (.iload 4, 2) := by decide +kernel
theorem dX10_heardAt_20 : decode cX10_heardAt 20 = .ok (.ireturn, 1) := by decide +kernel
theorem dX10_heardAt_21 : decode cX10_heardAt 21 = .ok (.iload_n 3, 1) := by decide +kernel
theorem dX10_heardAt_22 : decode cX10_heardAt 22 = .ok (.ifCond .ge 8, 3) := by decide +kernel
theorem dX10_heardAt_25 : decode cX10_heardAt 25 = .ok (.bipush (-3), 2) := by decide +kernel
theorem dX10_heardAt_27 : decode cX10_heardAt 27 = .ok (.goto 10, 3) := by decide +kernel
theorem dX10_heardAt_30 : decode cX10_heardAt 30 = .ok (.aload_n 0, 1) := by decide +kernel
theorem dX10_heardAt_31 : decode cX10_heardAt 31 = .ok (.iload_n 1, 1) := by decide +kernel
theorem dX10_heardAt_32 : decode cX10_heardAt 32 = .ok (.iload_n 2, 1) := by decide +kernel
theorem dX10_heardAt_33 : decode cX10_heardAt 33 = .ok (.iload_n 3, 1) := by decide +kernel
theorem dX10_heardAt_34 : decode cX10_heardAt 34 = .ok (.invokevirtual 447, 3) := by decide +kernel
theorem dX10_heardAt_37 : decode cX10_heardAt 37 = .ok (.ireturn, 1) := by decide +kernel
theorem dX10_mostOften_0 : decode cX10_mostOften 0 = .ok (.aload_n 0, 1) := by decide +kernel
theorem dX10_mostOften_1 : decode cX10_mostOften 1 = .ok (.getfield 13, 3) := by decide +kernel
theorem dX10_mostOften_4 : decode cX10_mostOften 4 = .ok (.bipush 64, 2) := by decide +kernel
theorem dX10_mostOften_6 : decode cX10_mostOften 6 = .ok (.iload_n 2, 1) := by decide +kernel
theorem dX10_mostOften_7 : decode cX10_mostOften 7 = .ok (.iadd, 1) := by decide +kernel
theorem dX10_mostOften_8 : decode cX10_mostOften 8 = .ok (.iaload, 1) := by decide +kernel
theorem dX10_mostOften_9 : decode cX10_mostOften 9 = .ok (.istore 4, 2) := by decide +kernel
theorem dX10_mostOften_11 : decode cX10_mostOften 11 = .ok (.iconst 0, 1) := by decide +kernel
theorem dX10_mostOften_12 : decode cX10_mostOften 12 = .ok (.istore 5, 2) := by decide +kernel
theorem dX10_mostOften_14 : decode cX10_mostOften 14 = .ok (.iconst 0, 1) := by decide +kernel
theorem dX10_mostOften_15 : decode cX10_mostOften 15 = .ok (.istore 6, 2) := by decide +kernel
theorem dX10_mostOften_17 : decode cX10_mostOften 17 = .ok (.iload 6, 2) := by decide +kernel
theorem dX10_mostOften_19 : decode cX10_mostOften 19 = .ok (.bipush 20, 2) := by decide +kernel
theorem dX10_mostOften_21 : decode cX10_mostOften 21 = .ok (.if_icmp .gt 17, 3) := by decide +kernel
theorem dX10_mostOften_24 : decode cX10_mostOften 24 = .ok (.aload_n 0, 1) := by decide +kernel
theorem dX10_mostOften_25 : decode cX10_mostOften 25 = .ok (.getfield 85, 3) := by decide +kernel
theorem dX10_mostOften_28 : decode cX10_mostOften 28 = .ok (.iload 6, 2) := by decide +kernel
theorem dX10_mostOften_30 : decode cX10_mostOften 30 = .ok (.iconst 0, 1) := by decide +kernel
theorem dX10_mostOften_31 : decode cX10_mostOften 31 = .ok (.iastore, 1) := by decide +kernel
theorem dX10_mostOften_32 : decode cX10_mostOften 32 = .ok (.iinc 6 1, 3) := by decide +kernel
theorem dX10_mostOften_35 : decode cX10_mostOften 35 = .ok (.goto (-18), 3) := by decide +kernel
theorem dX10_mostOften_38 : decode cX10_mostOften 38 = .ok (.iconst 0, 1) := by decide +kernel
theorem dX10_mostOften_39 : decode cX10_mostOften 39 = .ok (.istore 6, 2) := by decide +kernel
theorem dX10_mostOften_41 : decode cX10_mostOften 41 = .ok (.iload 6, 2) := by decide +kernel
theorem dX10_mostOften_43 : decode cX10_mostOften 43 = .ok (.aload_n 0, 1) := by decide +kernel
theorem dX10_mostOften_44 : decode cX10_mostOften 44 = .ok (.invokevirtual 313, 3) := by decide +kernel
theorem dX10_mostOften_47 : decode cX10_mostOften 47 = .ok (.if_icmp .ge 77, 3) := by decide +kernel
theorem dX10_mostOften_50 : decode cX10_mostOften 50 = .ok (.aload_n 0, 1) := by decide +kernel
theorem dX10_mostOften_51 : decode cX10_mostOften 51 = .ok (.getfield 13, 3) := by decide +kernel
theorem dX10_mostOften_54 : decode cX10_mostOften 54 = .ok (.bipush 64, 2) := by decide +kernel
theorem dX10_mostOften_56 : decode cX10_mostOften 56 = .ok (.iload_n 2, 1) := by decide +kernel
theorem dX10_mostOften_57 : decode cX10_mostOften 57 = .ok (.iadd, 1) := by decide +kernel
theorem dX10_mostOften_58 : decode cX10_mostOften 58 = .ok (.iload 6, 2) := by decide +kernel
theorem dX10_mostOften_60 : decode cX10_mostOften 60 = .ok (.iastore, 1) := by decide +kernel
theorem dX10_mostOften_61 : decode cX10_mostOften 61 = .ok (.aload_n 0, 1) := by decide +kernel
theorem dX10_mostOften_62 : decode cX10_mostOften 62 = .ok (.iload_n 1, 1) := by decide +kernel
theorem dX10_mostOften_63 : decode cX10_mostOften 63 = .ok (.iload_n 2, 1) := by decide +kernel
theorem dX10_mostOften_64 : decode cX10_mostOften 64 = .ok (.invokevirtual 441, 3) := by decide +kernel
theorem dX10_mostOften_67 : decode cX10_mostOften 67 = .ok (.ifCond .ne 6, 3) := by decide +kernel
theorem dX10_mostOften_70 : decode cX10_mostOften 70 = .ok (.goto 48, 3) := by decide +kernel
theorem dX10_mostOften_73 : decode cX10_mostOften 73 = .ok (.aload_n 0, 1) := by decide +kernel
theorem dX10_mostOften_74 : decode cX10_mostOften 74 = .ok (.iload_n 2, 1) := by decide +kernel
theorem dX10_mostOften_75 : decode cX10_mostOften 75 = .ok (.iload_n 3, 1) := by decide +kernel
theorem dX10_mostOften_76 : decode cX10_mostOften 76 = .ok (.invokevirtual 263, 3) := by decide +kernel
theorem dX10_mostOften_79 : decode cX10_mostOften 79 = .ok (.istore 7, 2) := by decide +kernel
theorem dX10_mostOften_81 : decode cX10_mostOften 81 = .ok (.aload_n 0, 1) := by decide +kernel
theorem dX10_mostOften_82 : decode cX10_mostOften 82 = .ok (.getfield 85, 3) := by decide +kernel
theorem dX10_mostOften_85 : decode cX10_mostOften 85 = .ok (.iload 7, 2) := by decide +kernel
theorem dX10_mostOften_87 : decode cX10_mostOften 87 = .ok (.dup2, 1) := by decide +kernel
theorem dX10_mostOften_88 : decode cX10_mostOften 88 = .ok (.iaload, 1) := by decide +kernel
theorem dX10_mostOften_89 : decode cX10_mostOften 89 = .ok (.iconst 1, 1) := by decide +kernel
theorem dX10_mostOften_90 : decode cX10_mostOften 90 = .ok (.iadd, 1) := by decide +kernel
theorem dX10_mostOften_91 : decode cX10_mostOften 91 = .ok (.iastore, 1) := by decide +kernel
theorem dX10_mostOften_92 : decode cX10_mostOften 92 = .ok (.aload_n 0, 1) := by decide +kernel
theorem dX10_mostOften_93 : decode cX10_mostOften 93 = .ok (.getfield 85, 3) := by decide +kernel
theorem dX10_mostOften_96 : decode cX10_mostOften 96 = .ok (.iload 7, 2) := by decide +kernel
theorem dX10_mostOften_98 : decode cX10_mostOften 98 = .ok (.iaload, 1) := by decide +kernel
theorem dX10_mostOften_99 : decode cX10_mostOften 99 = .ok (.iload 5, 2) := by decide +kernel
theorem dX10_mostOften_101 : decode cX10_mostOften 101 = .ok (.if_icmp .le 13, 3) := by decide +kernel
theorem dX10_mostOften_104 : decode cX10_mostOften 104 = .ok (.aload_n 0, 1) := by decide +kernel
theorem dX10_mostOften_105 : decode cX10_mostOften 105 = .ok (.getfield 85, 3) := by decide +kernel
theorem dX10_mostOften_108 : decode cX10_mostOften 108 = .ok (.iload 7, 2) := by decide +kernel
theorem dX10_mostOften_110 : decode cX10_mostOften 110 = .ok (.iaload, 1) := by decide +kernel
theorem dX10_mostOften_111 : decode cX10_mostOften 111 = .ok (.goto 5, 3) := by decide +kernel
theorem dX10_mostOften_114 : decode cX10_mostOften 114 = .ok (.iload 5, 2) := by decide +kernel
theorem dX10_mostOften_116 : decode cX10_mostOften 116 = .ok (.istore 5, 2) := by decide +kernel
theorem dX10_mostOften_118 : decode cX10_mostOften 118 = .ok (.iinc 6 1, 3) := by decide +kernel
theorem dX10_mostOften_121 : decode cX10_mostOften 121 = .ok (.goto (-80), 3) := by decide +kernel
theorem dX10_mostOften_124 : decode cX10_mostOften 124 = .ok (.aload_n 0, 1) := by decide +kernel
theorem dX10_mostOften_125 : decode cX10_mostOften 125 = .ok (.getfield 13, 3) := by decide +kernel
theorem dX10_mostOften_128 : decode cX10_mostOften 128 = .ok (.bipush 64, 2) := by decide +kernel
theorem dX10_mostOften_130 : decode cX10_mostOften 130 = .ok (.iload_n 2, 1) := by decide +kernel
theorem dX10_mostOften_131 : decode cX10_mostOften 131 = .ok (.iadd, 1) := by decide +kernel
theorem dX10_mostOften_132 : decode cX10_mostOften 132 = .ok (.iload 4, 2) := by decide +kernel
theorem dX10_mostOften_134 : decode cX10_mostOften 134 = .ok (.iastore, 1) := by decide +kernel
theorem dX10_mostOften_135 : decode cX10_mostOften 135 = .ok (.iload 5, 2) := by decide +kernel
theorem dX10_mostOften_137 : decode cX10_mostOften 137 = .ok (.ireturn, 1) := by decide +kernel
theorem dX10_attempt_0 : decode cX10_attempt 0 = .ok (.aload_n 0, 1) := by decide +kernel
theorem dX10_attempt_1 : decode cX10_attempt 1 = .ok (.iconst 0, 1) := by decide +kernel
theorem dX10_attempt_2 : decode cX10_attempt 2 = .ok (.putfield 1, 3) := by decide +kernel
theorem dX10_attempt_5 : decode cX10_attempt 5 = .ok (.aload_n 0, 1) := by decide +kernel
theorem dX10_attempt_6 : decode cX10_attempt 6 = .ok (.iload_n 1, 1) := by decide +kernel
theorem dX10_attempt_7 : decode cX10_attempt 7 = .ok (.iload_n 2, 1) := by decide +kernel
theorem dX10_attempt_8 : decode cX10_attempt 8 = .ok (.invokevirtual 444, 3) := by decide +kernel
theorem dX10_attempt_11 : decode cX10_attempt 11 = .ok (.istore_n 3, 1) := by decide +kernel
theorem dX10_attempt_12 : decode cX10_attempt 12 = .ok (.iload_n 3, 1) := by decide +kernel
theorem dX10_attempt_13 : decode cX10_attempt 13 = .ok (.ifCond .eq 5, 3) := by decide +kernel
theorem dX10_attempt_16 : decode cX10_attempt 16 = .ok (.iload_n 3, 1) := by decide +kernel
theorem dX10_attempt_17 : decode cX10_attempt 17 = .ok (.ireturn, 1) := by decide +kernel
theorem dX10_attempt_18 : decode cX10_attempt 18 = .ok (.aload_n 0, 1) := by decide +kernel
theorem dX10_attempt_19 : decode cX10_attempt 19 = .ok (.iload_n 1, 1) := by decide +kernel
theorem dX10_attempt_20 : decode cX10_attempt 20 = .ok (.iload_n 2, 1) := by decide +kernel
theorem dX10_attempt_21 : decode cX10_attempt 21 = .ok (.iconst (-1), 1) := by decide +kernel
theorem dX10_attempt_22 : decode cX10_attempt 22 = .ok (.invokevirtual 447, 3) := by decide +kernel
theorem dX10_attempt_25 : decode cX10_attempt 25 = .ok (.ifCond .ne 5, 3) := by decide +kernel
theorem dX10_attempt_28 : decode cX10_attempt 28 = .ok (.iconst (-1), 1) := by decide +kernel
theorem dX10_attempt_29 : decode cX10_attempt 29 = .ok (.ireturn, 1) := by decide +kernel
theorem dX10_attempt_30 : decode cX10_attempt 30 = .ok (.iconst (-1), 1) := by decide +kernel
theorem dX10_attempt_31 : decode cX10_attempt 31 = .ok (.istore 4, 2) := by decide +kernel
theorem dX10_attempt_33 : decode cX10_attempt 33 = .ok (.ldc_w 417, 3) := by decide +kernel
theorem dX10_attempt_36 : decode cX10_attempt 36 = .ok (.istore 5, 2) := by decide +kernel
theorem dX10_attempt_38 : decode cX10_attempt 38 = .ok (.iconst 0, 1) := by decide +kernel
theorem dX10_attempt_39 : decode cX10_attempt 39 = .ok (.istore 6, 2) := by decide +kernel
theorem dX10_attempt_41 : decode cX10_attempt 41 = .ok (.iload 6, 2) := by decide +kernel
theorem dX10_attempt_43 : decode cX10_attempt 43 = .ok (.aload_n 0, 1) := by decide +kernel
theorem dX10_attempt_44 : decode cX10_attempt 44 = .ok (.getfield 13, 3) := by decide +kernel
theorem dX10_attempt_47 : decode cX10_attempt 47 = .ok (.iconst 3, 1) := by decide +kernel
theorem dX10_attempt_48 : decode cX10_attempt 48 = .ok (.iaload, 1) := by decide +kernel
theorem dX10_attempt_49 : decode cX10_attempt 49 = .ok (.if_icmp .ge 49, 3) := by decide +kernel
theorem dX10_attempt_52 : decode cX10_attempt 52 = .ok (.iload 6, 2) := by decide +kernel
theorem dX10_attempt_54 : decode cX10_attempt 54 = .ok (.iload_n 2, 1) := by decide +kernel
theorem dX10_attempt_55 : decode cX10_attempt 55 = .ok (.if_icmp .ne 9, 3) := by decide +kernel
theorem dX10_attempt_58 : decode cX10_attempt 58 = .ok (.ldc_w 417, 3) := by decide +kernel
theorem dX10_attempt_61 : decode cX10_attempt 61 = .ok (.goto 11, 3) := by decide +kernel
theorem dX10_attempt_64 : decode cX10_attempt 64 = .ok (.aload_n 0, 1) := by decide +kernel
theorem dX10_attempt_65 : decode cX10_attempt 65 = .ok (.iload_n 1, 1) := by decide +kernel
theorem dX10_attempt_66 : decode cX10_attempt 66 = .ok (.iload_n 2, 1) := by decide +kernel
theorem dX10_attempt_67 : decode cX10_attempt 67 = .ok (.iload 6, 2) := by decide +kernel
theorem dX10_attempt_69 : decode cX10_attempt 69 = .ok (.invokevirtual 450, 3) := by decide +kernel
theorem dX10_attempt_72 : decode cX10_attempt 72 = .ok (.istore 7, 2) := by decide +kernel
theorem dX10_attempt_74 : decode cX10_attempt 74 = .ok (.iload 7, 2) := by decide +kernel
theorem dX10_attempt_76 : decode cX10_attempt 76 = .ok (.iload 5, 2) := by decide +kernel
theorem dX10_attempt_78 : decode cX10_attempt 78 = .ok (.if_icmp .lt 6, 3) := by decide +kernel
theorem dX10_attempt_81 : decode cX10_attempt 81 = .ok (.goto 11, 3) := by decide +kernel
theorem dX10_attempt_84 : decode cX10_attempt 84 = .ok (.iload 6, 2) := by decide +kernel
theorem dX10_attempt_86 : decode cX10_attempt 86 = .ok (.istore 4, 2) := by decide +kernel
theorem dX10_attempt_88 : decode cX10_attempt 88 = .ok (.iload 7, 2) := by decide +kernel
theorem dX10_attempt_90 : decode cX10_attempt 90 = .ok (.istore 5, 2) := by decide +kernel
theorem dX10_attempt_92 : decode cX10_attempt 92 = .ok (.iinc 6 1, 3) := by decide +kernel
theorem dX10_attempt_95 : decode cX10_attempt 95 = .ok (.goto (-54), 3) := by decide +kernel
theorem dX10_attempt_98 : decode cX10_attempt 98 = .ok (.iload 4, 2) := by decide +kernel
theorem dX10_attempt_100 : decode cX10_attempt 100 = .ok (.ireturn, 1) := by decide +kernel
theorem dX10_isTimed_0 : decode cX10_isTimed 0 = .ok (.aload_n 0, 1) := by decide +kernel
theorem dX10_isTimed_1 : decode cX10_isTimed 1 = .ok (.iload_n 2, 1) := by decide +kernel
theorem dX10_isTimed_2 : decode cX10_isTimed 2 = .ok (.invokevirtual 396, 3) := by decide +kernel
theorem dX10_isTimed_5 : decode cX10_isTimed 5 = .ok (.aload_n 0, 1) := by decide +kernel
theorem dX10_isTimed_6 : decode cX10_isTimed 6 = .ok (.getfield 98, 3) := by decide +kernel
theorem dX10_isTimed_9 : decode cX10_isTimed 9 = .ok (.iload_n 1, 1) := by decide +kernel
theorem dX10_isTimed_10 : decode cX10_isTimed 10 = .ok (.iaload, 1) := by decide +kernel
theorem dX10_isTimed_11 : decode cX10_isTimed 11 = .ok (.if_icmp .eq 5, 3) := by decide +kernel
theorem dX10_isTimed_14 : decode cX10_isTimed 14 = .ok (.iconst 0, 1) := by decide +kernel
theorem dX10_isTimed_15 : decode cX10_isTimed 15 = .ok (.ireturn, 1) := by decide +kernel
theorem dX10_isTimed_16 : decode cX10_isTimed 16 = .ok (.iconst 0, 1) := by decide +kernel
theorem dX10_isTimed_17 : decode cX10_isTimed 17 = .ok (.istore_n 3, 1) := by decide +kernel
theorem dX10_isTimed_18 : decode cX10_isTimed 18 = .ok (.iload_n 3, 1) := by decide +kernel
theorem dX10_isTimed_19 : decode cX10_isTimed 19 = .ok (.aload_n 0, 1) := by decide +kernel
theorem dX10_isTimed_20 : decode cX10_isTimed 20 = .ok (.getfield 98, 3) := by decide +kernel
theorem dX10_isTimed_23 : decode cX10_isTimed 23 = .ok (.iload_n 1, 1) := by decide +kernel
theorem dX10_isTimed_24 : decode cX10_isTimed 24 = .ok (.iaload, 1) := by decide +kernel
theorem dX10_isTimed_25 : decode cX10_isTimed 25 = .ok (.if_icmp .ge 33, 3) := by decide +kernel
theorem dX10_isTimed_28 : decode cX10_isTimed 28 = .ok (.aload_n 0, 1) := by decide +kernel
theorem dX10_isTimed_29 : decode cX10_isTimed 29 = .ok (.iload_n 2, 1) := by decide +kernel
theorem dX10_isTimed_30 : decode cX10_isTimed 30 = .ok (.iload_n 3, 1) := by decide +kernel
theorem dX10_isTimed_31 : decode cX10_isTimed 31 = .ok (.invokevirtual 399, 3) := by decide +kernel
theorem dX10_isTimed_34 : decode cX10_isTimed 34 = .ok (.i2l, 1) := by decide +kernel
theorem dX10_isTimed_35 : decode cX10_isTimed 35 = .ok (.aload_n 0, 1) := by decide +kernel
theorem dX10_isTimed_36 : decode cX10_isTimed 36 = .ok (.getfield 101, 3) := by decide +kernel
theorem dX10_isTimed_39 : decode cX10_isTimed 39 = .ok (.bipush 40, 2) := by decide +kernel
theorem dX10_isTimed_41 : decode cX10_isTimed 41 = .ok (.iload_n 1, 1) := by decide +kernel
theorem dX10_isTimed_42 : decode cX10_isTimed 42 = .ok (.imul, 1) := by decide +kernel
theorem dX10_isTimed_43 : decode cX10_isTimed 43 = .ok (.iload_n 3, 1) := by decide +kernel
theorem dX10_isTimed_44 : decode cX10_isTimed 44 = .ok (.iadd, 1) := by decide +kernel
theorem dX10_isTimed_45 : decode cX10_isTimed 45 = .ok (.laload, 1) := by decide +kernel
theorem dX10_isTimed_46 : decode cX10_isTimed 46 = .ok (.lcmp, 1) := by decide +kernel
theorem dX10_isTimed_47 : decode cX10_isTimed 47 = .ok (.ifCond .eq 5, 3) := by decide +kernel
theorem dX10_isTimed_50 : decode cX10_isTimed 50 = .ok (.iconst 0, 1) := by decide +kernel
theorem dX10_isTimed_51 : decode cX10_isTimed 51 = .ok (.ireturn, 1) := by decide +kernel
theorem dX10_isTimed_52 : decode cX10_isTimed 52 = .ok (.iinc 3 1, 3) := by decide +kernel
theorem dX10_isTimed_55 : decode cX10_isTimed 55 = .ok (.goto (-37), 3) := by decide +kernel
theorem dX10_isTimed_58 : decode cX10_isTimed 58 = .ok (.iconst 1, 1) := by decide +kernel
theorem dX10_isTimed_59 : decode cX10_isTimed 59 = .ok (.ireturn, 1) := by decide +kernel
theorem dX10_winds_0 : decode cX10_winds 0 = .ok (.aload_n 0, 1) := by decide +kernel
theorem dX10_winds_1 : decode cX10_winds 1 = .ok (.iconst 0, 1) := by decide +kernel
theorem dX10_winds_2 : decode cX10_winds 2 = .ok (.putfield 1, 3) := by decide +kernel
theorem dX10_winds_5 : decode cX10_winds 5 = .ok (.iload_n 1, 1) := by decide +kernel
theorem dX10_winds_6 : decode cX10_winds 6 = .ok (.i2l, 1) := by decide +kernel
theorem dX10_winds_7 : decode cX10_winds 7 = .ok (.lconst 0, 1) := by decide +kernel
theorem dX10_winds_8 : decode cX10_winds 8 = .ok (.ldc2_w 370, 3) := by decide +kernel
theorem dX10_winds_11 : decode cX10_winds 11 = .ok (.invokestatic 170, 3) := by decide +kernel
theorem dX10_winds_14 : decode cX10_winds 14 = .ok (.ifCond .eq 12, 3) := by decide +kernel
theorem dX10_winds_17 : decode cX10_winds 17 = .ok (.aload_n 0, 1) := by decide +kernel
theorem dX10_winds_18 : decode cX10_winds 18 = .ok (.iload_n 2, 1) := by decide +kernel
theorem dX10_winds_19 : decode cX10_winds 19 = .ok (.i2l, 1) := by decide +kernel
theorem dX10_winds_20 : decode cX10_winds 20 = .ok (.invokevirtual 235, 3) := by decide +kernel
theorem dX10_winds_23 : decode cX10_winds 23 = .ok (.ifCond .ne 6, 3) := by decide +kernel
theorem dX10_winds_26 : decode cX10_winds 26 = .ok (.bipush (-2), 2) := by decide +kernel
theorem dX10_winds_28 : decode cX10_winds 28 = .ok (.ireturn, 1) := by decide +kernel
theorem dX10_winds_29 : decode cX10_winds 29 = .ok (.aload_n 0, 1) := by decide +kernel
theorem dX10_winds_30 : decode cX10_winds 30 = .ok (.iload_n 1, 1) := by decide +kernel
theorem dX10_winds_31 : decode cX10_winds 31 = .ok (.invokevirtual 372, 3) := by decide +kernel
theorem dX10_winds_34 : decode cX10_winds 34 = .ok (.istore_n 3, 1) := by decide +kernel
theorem dX10_winds_35 : decode cX10_winds 35 = .ok (.iload_n 3, 1) := by decide +kernel
theorem dX10_winds_36 : decode cX10_winds 36 = .ok (.ifCond .eq 5, 3) := by decide +kernel
theorem dX10_winds_39 : decode cX10_winds 39 = .ok (.iload_n 3, 1) := by decide +kernel
theorem dX10_winds_40 : decode cX10_winds 40 = .ok (.ireturn, 1) := by decide +kernel
theorem dX10_winds_41 : decode cX10_winds 41 = .ok (.aload_n 0, 1) := by decide +kernel
theorem dX10_winds_42 : decode cX10_winds 42 = .ok (.getfield 98, 3) := by decide +kernel
theorem dX10_winds_45 : decode cX10_winds 45 = .ok (.iload_n 1, 1) := by decide +kernel
theorem dX10_winds_46 : decode cX10_winds 46 = .ok (.iaload, 1) := by decide +kernel
theorem dX10_winds_47 : decode cX10_winds 47 = .ok (.i2l, 1) := by decide +kernel
theorem dX10_winds_48 : decode cX10_winds 48 = .ok (.lconst 1, 1) := by decide +kernel
theorem dX10_winds_49 : decode cX10_winds 49 = .ok (.ldc2_w 453, 3) := by decide +kernel
theorem dX10_winds_52 : decode cX10_winds 52 = .ok (.invokestatic 170, 3) := by decide +kernel
theorem dX10_winds_55 : decode cX10_winds 55 = .ok (.ifCond .ne 6, 3) := by decide +kernel
theorem dX10_winds_58 : decode cX10_winds 58 = .ok (.bipush (-4), 2) := by decide +kernel
theorem dX10_winds_60 : decode cX10_winds 60 = .ok (.ireturn, 1) := by decide +kernel
theorem dX10_winds_61 : decode cX10_winds 61 = .ok (.iconst 0, 1) := by decide +kernel
theorem dX10_winds_62 : decode cX10_winds 62 = .ok (.istore 4, 2) := by decide +kernel
theorem dX10_winds_64 : decode cX10_winds 64 = .ok (.iload 4, 2) := by decide +kernel
theorem dX10_winds_66 : decode cX10_winds 66 = .ok (.aload_n 0, 1) := by decide +kernel
theorem dX10_winds_67 : decode cX10_winds 67 = .ok (.getfield 98, 3) := by decide +kernel
theorem dX10_winds_70 : decode cX10_winds 70 = .ok (.iload_n 1, 1) := by decide +kernel
theorem dX10_winds_71 : decode cX10_winds 71 = .ok (.iaload, 1) := by decide +kernel
theorem dX10_winds_72 : decode cX10_winds 72 = .ok (.if_icmp .ge 34, 3) := by decide +kernel
theorem dX10_winds_75 : decode cX10_winds 75 = .ok (.aload_n 0, 1) := by decide +kernel
theorem dX10_winds_76 : decode cX10_winds 76 = .ok (.getfield 101, 3) := by decide +kernel
theorem dX10_winds_79 : decode cX10_winds 79 = .ok (.bipush 40, 2) := by decide +kernel
theorem dX10_winds_81 : decode cX10_winds 81 = .ok (.iload_n 1, 1) := by decide +kernel
theorem dX10_winds_82 : decode cX10_winds 82 = .ok (.imul, 1) := by decide +kernel
theorem dX10_winds_83 : decode cX10_winds 83 = .ok (.iload 4, 2) := by decide +kernel
theorem dX10_winds_85 : decode cX10_winds 85 = .ok (.iadd, 1) := by decide +kernel
theorem dX10_winds_86 : decode cX10_winds 86 = .ok (.laload, 1) := by decide +kernel
theorem dX10_winds_87 : decode cX10_winds 87 = .ok (.lconst 0, 1) := by decide +kernel
theorem dX10_winds_88 : decode cX10_winds 88 = .ok (.ldc2_w 311, 3) := by decide +kernel
theorem dX10_winds_91 : decode cX10_winds 91 = .ok (.invokestatic 170, 3) := by decide +kernel
theorem dX10_winds_94 : decode cX10_winds 94 = .ok (.ifCond .ne 6, 3) := by decide +kernel
theorem dX10_winds_97 : decode cX10_winds 97 = .ok (.bipush (-3), 2) := by decide +kernel
theorem dX10_winds_99 : decode cX10_winds 99 = .ok (.ireturn, 1) := by decide +kernel
theorem dX10_winds_100 : decode cX10_winds 100 = .ok (.iinc 4 1, 3) := by decide +kernel
theorem dX10_winds_103 : decode cX10_winds 103 = .ok (.goto (-39), 3) := by decide +kernel
theorem dX10_winds_106 : decode cX10_winds 106 = .ok (.aload_n 0, 1) := by decide +kernel
theorem dX10_winds_107 : decode cX10_winds 107 = .ok (.getfield 13, 3) := by decide +kernel
theorem dX10_winds_110 : decode cX10_winds 110 = .ok (.bipush 70, 2) := by decide +kernel
theorem dX10_winds_112 : decode cX10_winds 112 = .ok (.iaload, 1) := by decide +kernel
theorem dX10_winds_113 : decode cX10_winds 113 = .ok (.istore 4, 2) := by decide +kernel
theorem dX10_winds_115 : decode cX10_winds 115 = .ok (.iconst 0, 1) := by decide +kernel
theorem dX10_winds_116 : decode cX10_winds 116 = .ok (.istore 5, 2) := by decide +kernel
theorem dX10_winds_118 : decode cX10_winds 118 = .ok (.iconst 0, 1) := by decide +kernel
theorem dX10_winds_119 : decode cX10_winds 119 = .ok (.istore 6, 2) := by decide +kernel
theorem dX10_winds_121 : decode cX10_winds 121 = .ok (.iload 6, 2) := by decide +kernel
theorem dX10_winds_123 : decode cX10_winds 123 = .ok (.bipush 10, 2) := by decide +kernel
theorem dX10_winds_125 : decode cX10_winds 125 = .ok (.if_icmp .ge 44, 3) := by decide +kernel
theorem dX10_winds_128 : decode cX10_winds 128 = .ok (.aload_n 0, 1) := by decide +kernel
theorem dX10_winds_129 : decode cX10_winds 129 = .ok (.getfield 13, 3) := by decide +kernel
theorem dX10_winds_132 : decode cX10_winds 132 = .ok (.bipush 70, 2) := by decide +kernel
theorem dX10_winds_134 : decode cX10_winds 134 = .ok (.iload 6, 2) := by decide +kernel
theorem dX10_winds_136 : decode cX10_winds 136 = .ok (.iastore, 1) := by decide +kernel
theorem dX10_winds_137 : decode cX10_winds 137 = .ok (.aload_n 0, 1) := by decide +kernel
theorem dX10_winds_138 : decode cX10_winds 138 = .ok (.invokevirtual 308, 3) := by decide +kernel
theorem dX10_winds_141 : decode cX10_winds 141 = .ok (.iload 5, 2) := by decide +kernel
theorem dX10_winds_143 : decode cX10_winds 143 = .ok (.aload_n 0, 1) := by decide +kernel
theorem dX10_winds_144 : decode cX10_winds 144 = .ok (.iload_n 1, 1) := by decide +kernel
theorem dX10_winds_145 : decode cX10_winds 145 = .ok (.iload_n 2, 1) := by decide +kernel
theorem dX10_winds_146 : decode cX10_winds 146 = .ok (.invokevirtual 455, 3) := by decide +kernel
theorem dX10_winds_149 : decode cX10_winds 149 = .ok (.ifCond .eq 10, 3) := by decide +kernel
theorem dX10_winds_152 : decode cX10_winds 152 = .ok (.iconst 1, 1) := by decide +kernel
theorem dX10_winds_153 : decode cX10_winds 153 = .ok (.iload 6, 2) := by decide +kernel
theorem dX10_winds_155 : decode cX10_winds 155 = .ok (.ishl, 1) := by decide +kernel
theorem dX10_winds_156 : decode cX10_winds 156 = .ok (.goto 4, 3) := by decide +kernel
theorem dX10_winds_159 : decode cX10_winds 159 = .ok (.iconst 0, 1) := by decide +kernel
theorem dX10_winds_160 : decode cX10_winds 160 = .ok (.ior, 1) := by decide +kernel
theorem dX10_winds_161 : decode cX10_winds 161 = .ok (.istore 5, 2) := by decide +kernel
theorem dX10_winds_163 : decode cX10_winds 163 = .ok (.iinc 6 1, 3) := by decide +kernel
theorem dX10_winds_166 : decode cX10_winds 166 = .ok (.goto (-45), 3) := by decide +kernel
theorem dX10_winds_169 : decode cX10_winds 169 = .ok (.aload_n 0, 1) := by decide +kernel
theorem dX10_winds_170 : decode cX10_winds 170 = .ok (.getfield 13, 3) := by decide +kernel
theorem dX10_winds_173 : decode cX10_winds 173 = .ok (.bipush 70, 2) := by decide +kernel
theorem dX10_winds_175 : decode cX10_winds 175 = .ok (.iload 4, 2) := by decide +kernel
theorem dX10_winds_177 : decode cX10_winds 177 = .ok (.iastore, 1) := by decide +kernel
theorem dX10_winds_178 : decode cX10_winds 178 = .ok (.iload 5, 2) := by decide +kernel
theorem dX10_winds_180 : decode cX10_winds 180 = .ok (.ireturn, 1) := by decide +kernel
theorem dX10_wholeOf_0 : decode cX10_wholeOf 0 = .ok (.lconst 1, 1) := by decide +kernel
theorem dX10_wholeOf_1 : decode cX10_wholeOf 1 = .ok (.lstore_n 1, 1) := by decide +kernel
theorem dX10_wholeOf_2 : decode cX10_wholeOf 2 = .ok (.iconst 0, 1) := by decide +kernel
theorem dX10_wholeOf_3 : decode cX10_wholeOf 3 = .ok (.istore_n 3, 1) := by decide +kernel
theorem dX10_wholeOf_4 : decode cX10_wholeOf 4 = .ok (.iload_n 3, 1) := by decide +kernel
theorem dX10_wholeOf_5 : decode cX10_wholeOf 5 = .ok (.iload_n 0, 1) := by decide +kernel
theorem dX10_wholeOf_6 : decode cX10_wholeOf 6 = .ok (.if_icmp .ge 15, 3) := by decide +kernel
theorem dX10_wholeOf_9 : decode cX10_wholeOf 9 = .ok (.lload_n 1, 1) := by decide +kernel
theorem dX10_wholeOf_10 : decode cX10_wholeOf 10 = .ok (.ldc2_w 340, 3) := by decide +kernel
theorem dX10_wholeOf_13 : decode cX10_wholeOf 13 = .ok (.lmul, 1) := by decide +kernel
theorem dX10_wholeOf_14 : decode cX10_wholeOf 14 = .ok (.lstore_n 1, 1) := by decide +kernel
theorem dX10_wholeOf_15 : decode cX10_wholeOf 15 = .ok (.iinc 3 1, 3) := by decide +kernel
theorem dX10_wholeOf_18 : decode cX10_wholeOf 18 = .ok (.goto (-14), 3) := by decide +kernel
theorem dX10_wholeOf_21 : decode cX10_wholeOf 21 = .ok (.lload_n 1, 1) := by decide +kernel
theorem dX10_wholeOf_22 : decode cX10_wholeOf 22 = .ok (.lreturn, 1) := by decide +kernel
theorem dX10_laysChances_0 : decode cX10_laysChances 0 = .ok (.aload_n 0, 1) := by decide +kernel
theorem dX10_laysChances_1 : decode cX10_laysChances 1 = .ok (.invokevirtual 297, 3) := by decide +kernel
theorem dX10_laysChances_4 : decode cX10_laysChances 4 = .ok (.iconst 0, 1) := by decide +kernel
theorem dX10_laysChances_5 : decode cX10_laysChances 5 = .ok (.istore_n 1, 1) := by decide +kernel
theorem dX10_laysChances_6 : decode cX10_laysChances 6 = .ok (.iload_n 1, 1) := by decide +kernel
theorem dX10_laysChances_7 : decode cX10_laysChances 7 = .ok (.bipush 6, 2) := by decide +kernel
theorem dX10_laysChances_9 : decode cX10_laysChances 9 = .ok (.if_icmp .ge 23, 3) := by decide +kernel
theorem dX10_laysChances_12 : decode cX10_laysChances 12 = .ok (.aload_n 0, 1) := by decide +kernel
theorem dX10_laysChances_13 : decode cX10_laysChances 13 = .ok (.getfield 88, 3) := by decide +kernel
theorem dX10_laysChances_16 : decode cX10_laysChances 16 = .ok (.iload_n 1, 1) := by decide +kernel
theorem dX10_laysChances_17 : decode cX10_laysChances 17 = .ok (.lconst 0, 1) := by decide +kernel
theorem dX10_laysChances_18 : decode cX10_laysChances 18 = .ok (.lastore, 1) := by decide +kernel
theorem dX10_laysChances_19 : decode cX10_laysChances 19 = .ok (.aload_n 0, 1) := by decide +kernel
theorem dX10_laysChances_20 : decode cX10_laysChances 20 = .ok (.getfield 92, 3) := by decide +kernel
theorem dX10_laysChances_23 : decode cX10_laysChances 23 = .ok (.iload_n 1, 1) := by decide +kernel
theorem dX10_laysChances_24 : decode cX10_laysChances 24 = .ok (.lconst 0, 1) := by decide +kernel
theorem dX10_laysChances_25 : decode cX10_laysChances 25 = .ok (.lastore, 1) := by decide +kernel
theorem dX10_laysChances_26 : decode cX10_laysChances 26 = .ok (.iinc 1 1, 3) := by decide +kernel
theorem dX10_laysChances_29 : decode cX10_laysChances 29 = .ok (.goto (-23), 3) := by decide +kernel
theorem dX10_laysChances_32 : decode cX10_laysChances 32 = .ok (.iconst 0, 1) := by decide +kernel
theorem dX10_laysChances_33 : decode cX10_laysChances 33 = .ok (.istore_n 1, 1) := by decide +kernel
theorem dX10_laysChances_34 : decode cX10_laysChances 34 = .ok (.iload_n 1, 1) := by decide +kernel
theorem dX10_laysChances_35 : decode cX10_laysChances 35 = .ok (.iconst 1, 1) := by decide +kernel
theorem dX10_laysChances_36 : decode cX10_laysChances 36 = .ok (.aload_n 0, 1) := by decide +kernel
theorem dX10_laysChances_37 : decode cX10_laysChances 37 = .ok (.getfield 13, 3) := by decide +kernel
theorem dX10_laysChances_40 : decode cX10_laysChances 40 = .ok (.bipush 31, 2) := by decide +kernel
theorem dX10_laysChances_42 : decode cX10_laysChances 42 = .ok (.iaload, 1) := by decide +kernel
theorem dX10_laysChances_43 : decode cX10_laysChances 43 = .ok (.ishl, 1) := by decide +kernel
theorem dX10_laysChances_44 : decode cX10_laysChances 44 = .ok (.if_icmp .ge 162, 3) := by decide +kernel
theorem dX10_laysChances_47 : decode cX10_laysChances 47 = .ok (.lconst 1, 1) := by decide +kernel
theorem dX10_laysChances_48 : decode cX10_laysChances 48 = .ok (.lstore_n 2, 1) := by decide +kernel
theorem dX10_laysChances_49 : decode cX10_laysChances 49 = .ok (.iconst 0, 1) := by decide +kernel
theorem dX10_laysChances_50 : decode cX10_laysChances 50 = .ok (.istore 4, 2) := by decide +kernel
theorem dX10_laysChances_52 : decode cX10_laysChances 52 = .ok (.iload 4, 2) := by decide +kernel
theorem dX10_laysChances_54 : decode cX10_laysChances 54 = .ok (.aload_n 0, 1) := by decide +kernel
theorem dX10_laysChances_55 : decode cX10_laysChances 55 = .ok (.getfield 13, 3) := by decide +kernel
theorem dX10_laysChances_58 : decode cX10_laysChances 58 = .ok (.bipush 31, 2) := by decide +kernel
theorem dX10_laysChances_60 : decode cX10_laysChances 60 = .ok (.iaload, 1) := by decide +kernel
theorem dX10_laysChances_61 : decode cX10_laysChances 61 = .ok (.if_icmp .ge 58, 3) := by decide +kernel
theorem dX10_laysChances_64 : decode cX10_laysChances 64 = .ok (.lload_n 2, 1) := by decide +kernel
theorem dX10_laysChances_65 : decode cX10_laysChances 65 = .ok (.iload_n 1, 1) := by decide +kernel
theorem dX10_laysChances_66 : decode cX10_laysChances 66 = .ok (.i2l, 1) := by decide +kernel
theorem dX10_laysChances_67 : decode cX10_laysChances 67 = .ok (.iload 4, 2) := by decide +kernel
theorem dX10_laysChances_69 : decode cX10_laysChances 69 = .ok (.invokestatic 276, 3) := by decide +kernel
theorem dX10_laysChances_72 : decode cX10_laysChances 72 = .ok (.ifCond .eq 21, 3) := by decide +kernel
theorem dX10_laysChances_75 : decode cX10_laysChances 75 = .ok (.aload_n 0, 1) := by decide +kernel
theorem dX10_laysChances_76 : decode cX10_laysChances 76 = .ok (.getfield 13, 3) := by decide +kernel
theorem dX10_laysChances_79 : decode cX10_laysChances 79 = .ok (.bipush 32, 2) := by decide +kernel
theorem dX10_laysChances_81 : decode cX10_laysChances 81 = .ok (.iconst 4, 1) := by decide +kernel
theorem dX10_laysChances_82 : decode cX10_laysChances 82 = .ok (.iload 4, 2) := by decide +kernel
theorem dX10_laysChances_84 : decode cX10_laysChances 84 = .ok (.imul, 1) := by decide +kernel
theorem dX10_laysChances_85 : decode cX10_laysChances 85 = .ok (.iadd, 1) := by decide +kernel
theorem dX10_laysChances_86 : decode cX10_laysChances 86 = .ok (.iconst 3, 1) := by decide +kernel
theorem dX10_laysChances_87 : decode cX10_laysChances 87 = .ok (.iadd, 1) := by decide +kernel
theorem dX10_laysChances_88 : decode cX10_laysChances 88 = .ok (.iaload, 1) := by decide +kernel
theorem dX10_laysChances_89 : decode cX10_laysChances 89 = .ok (.i2l, 1) := by decide +kernel
theorem dX10_laysChances_90 : decode cX10_laysChances 90 = .ok (.goto 21, 3) := by decide +kernel
theorem dX10_laysChances_93 : decode cX10_laysChances 93 = .ok (.bipush 10, 2) := by decide +kernel
theorem dX10_laysChances_95 : decode cX10_laysChances 95 = .ok (.aload_n 0, 1) := by decide +kernel
theorem dX10_laysChances_96 : decode cX10_laysChances 96 = .ok (.getfield 13, 3) := by decide +kernel
theorem dX10_laysChances_99 : decode cX10_laysChances 99 = .ok (.bipush 32, 2) := by decide +kernel
theorem dX10_laysChances_101 : decode cX10_laysChances 101 = .ok (.iconst 4, 1) := by decide +kernel
theorem dX10_laysChances_102 : decode cX10_laysChances 102 = .ok (.iload 4, 2) := by decide +kernel
theorem dX10_laysChances_104 : decode cX10_laysChances 104 = .ok (.imul, 1) := by decide +kernel
theorem dX10_laysChances_105 : decode cX10_laysChances 105 = .ok (.iadd, 1) := by decide +kernel
theorem dX10_laysChances_106 : decode cX10_laysChances 106 = .ok (.iconst 3, 1) := by decide +kernel
theorem dX10_laysChances_107 : decode cX10_laysChances 107 = .ok (.iadd, 1) := by decide +kernel
theorem dX10_laysChances_108 : decode cX10_laysChances 108 = .ok (.iaload, 1) := by decide +kernel
theorem dX10_laysChances_109 : decode cX10_laysChances 109 = .ok (.isub, 1) := by decide +kernel
theorem dX10_laysChances_110 : decode cX10_laysChances 110 = .ok (.i2l, 1) := by decide +kernel
theorem dX10_laysChances_111 : decode cX10_laysChances 111 = .ok (.lmul, 1) := by decide +kernel
theorem dX10_laysChances_112 : decode cX10_laysChances 112 = .ok (.lstore_n 2, 1) := by decide +kernel
theorem dX10_laysChances_113 : decode cX10_laysChances 113 = .ok (.iinc 4 1, 3) := by decide +kernel
theorem dX10_laysChances_116 : decode cX10_laysChances 116 = .ok (.goto (-64), 3) := by decide +kernel
theorem dX10_laysChances_119 : decode cX10_laysChances 119 = .ok (.lload_n 2, 1) := by decide +kernel
theorem dX10_laysChances_120 : decode cX10_laysChances 120 = .ok (.lconst 0, 1) := by decide +kernel
theorem dX10_laysChances_121 : decode cX10_laysChances 121 = .ok (.lcmp, 1) := by decide +kernel
theorem dX10_laysChances_122 : decode cX10_laysChances 122 = .ok (.ifCond .ne 6, 3) := by decide +kernel
theorem dX10_laysChances_125 : decode cX10_laysChances 125 = .ok (.goto 75, 3) := by decide +kernel
theorem dX10_laysChances_128 : decode cX10_laysChances 128 = .ok (.aload_n 0, 1) := by decide +kernel
theorem dX10_laysChances_129 : decode cX10_laysChances 129 = .ok (.iload_n 1, 1) := by decide +kernel
theorem dX10_laysChances_130 : decode cX10_laysChances 130 = .ok (.invokevirtual 300, 3) := by decide +kernel
theorem dX10_laysChances_133 : decode cX10_laysChances 133 = .ok (.aload_n 0, 1) := by decide +kernel
theorem dX10_laysChances_134 : decode cX10_laysChances 134 = .ok (.invokevirtual 303, 3) := by decide +kernel
theorem dX10_laysChances_137 : decode cX10_laysChances 137 = .ok (.iconst 0, 1) := by decide +kernel
theorem dX10_laysChances_138 : decode cX10_laysChances 138 = .ok (.istore 4, 2) := by decide +kernel
theorem dX10_laysChances_140 : decode cX10_laysChances 140 = .ok (.iload 4, 2) := by decide +kernel
theorem dX10_laysChances_142 : decode cX10_laysChances 142 = .ok (.aload_n 0, 1) := by decide +kernel
theorem dX10_laysChances_143 : decode cX10_laysChances 143 = .ok (.getfield 13, 3) := by decide +kernel
theorem dX10_laysChances_146 : decode cX10_laysChances 146 = .ok (.iconst 3, 1) := by decide +kernel
theorem dX10_laysChances_147 : decode cX10_laysChances 147 = .ok (.iaload, 1) := by decide +kernel
theorem dX10_laysChances_148 : decode cX10_laysChances 148 = .ok (.if_icmp .ge 52, 3) := by decide +kernel
theorem dX10_laysChances_151 : decode cX10_laysChances 151 = .ok (.aload_n 0, 1) := by decide +kernel
theorem dX10_laysChances_152 : decode cX10_laysChances 152 = .ok (.iload 4, 2) := by decide +kernel
theorem dX10_laysChances_154 : decode cX10_laysChances 154 = .ok (.invokevirtual 396, 3) := by decide +kernel
theorem dX10_laysChances_157 : decode cX10_laysChances 157 = .ok (.istore 5, 2) := by decide +kernel
theorem dX10_laysChances_159 : decode cX10_laysChances 159 = .ok (.aload_n 0, 1) := by decide +kernel
theorem dX10_laysChances_160 : decode cX10_laysChances 160 = .ok (.getfield 88, 3) := by decide +kernel
theorem dX10_laysChances_163 : decode cX10_laysChances 163 = .ok (.iload 4, 2) := by decide +kernel
theorem dX10_laysChances_165 : decode cX10_laysChances 165 = .ok (.dup2, 1) := by decide +kernel
theorem dX10_laysChances_166 : decode cX10_laysChances 166 = .ok (.laload, 1) := by decide +kernel
theorem dX10_laysChances_167 : decode cX10_laysChances 167 = .ok (.iload 5, 2) := by decide +kernel
theorem dX10_laysChances_169 : decode cX10_laysChances 169 = .ok (.ifCond .ne 7, 3) := by decide +kernel
theorem dX10_laysChances_172 : decode cX10_laysChances 172 = .ok (.lload_n 2, 1) := by decide +kernel
theorem dX10_laysChances_173 : decode cX10_laysChances 173 = .ok (.goto 4, 3) := by decide +kernel
theorem dX10_laysChances_176 : decode cX10_laysChances 176 = .ok (.lconst 0, 1) := by decide +kernel
theorem dX10_laysChances_177 : decode cX10_laysChances 177 = .ok (.ladd, 1) := by decide +kernel
theorem dX10_laysChances_178 : decode cX10_laysChances 178 = .ok (.lastore, 1) := by decide +kernel
theorem dX10_laysChances_179 : decode cX10_laysChances 179 = .ok (.aload_n 0, 1) := by decide +kernel
theorem dX10_laysChances_180 : decode cX10_laysChances 180 = .ok (.getfield 92, 3) := by decide +kernel
theorem dX10_laysChances_183 : decode cX10_laysChances 183 = .ok (.iload 4, 2) := by decide +kernel
theorem dX10_laysChances_185 : decode cX10_laysChances 185 = .ok (.dup2, 1) := by decide +kernel
theorem dX10_laysChances_186 : decode cX10_laysChances 186 = .ok (.laload, 1) := by decide +kernel
theorem dX10_laysChances_187 : decode cX10_laysChances 187 = .ok (.lload_n 2, 1) := by decide +kernel
theorem dX10_laysChances_188 : decode cX10_laysChances 188 = .ok (.iload 5, 2) := by decide +kernel
theorem dX10_laysChances_190 : decode cX10_laysChances 190 = .ok (.i2l, 1) := by decide +kernel
theorem dX10_laysChances_191 : decode cX10_laysChances 191 = .ok (.lmul, 1) := by decide +kernel
theorem dX10_laysChances_192 : decode cX10_laysChances 192 = .ok (.ladd, 1) := by decide +kernel
theorem dX10_laysChances_193 : decode cX10_laysChances 193 = .ok (.lastore, 1) := by decide +kernel
theorem dX10_laysChances_194 : decode cX10_laysChances 194 = .ok (.iinc 4 1, 3) := by decide +kernel
theorem dX10_laysChances_197 : decode cX10_laysChances 197 = .ok (.goto (-57), 3) := by decide +kernel
theorem dX10_laysChances_200 : decode cX10_laysChances 200 = .ok (.iinc 1 1, 3) := by decide +kernel
theorem dX10_laysChances_203 : decode cX10_laysChances 203 = .ok (.goto (-169), 3) := by decide +kernel
theorem dX10_laysChances_206 : decode cX10_laysChances 206 = .ok (.return_, 1) := by decide +kernel
theorem dX10_common_0 : decode cX10_common 0 = .ok (.lload_n 2, 1) := by decide +kernel
theorem dX10_common_1 : decode cX10_common 1 = .ok (.lconst 0, 1) := by decide +kernel
theorem dX10_common_2 : decode cX10_common 2 = .ok (.lcmp, 1) := by decide +kernel
theorem dX10_common_3 : decode cX10_common 3 = .ok (.ifCond .ne 7, 3) := by decide +kernel
theorem dX10_common_6 : decode cX10_common 6 = .ok (.lload_n 0, 1) := by decide +kernel
theorem dX10_common_7 : decode cX10_common 7 = .ok (.goto 10, 3) := by decide +kernel
theorem dX10_common_10 : decode cX10_common 10 = .ok (.lload_n 2, 1) := by decide +kernel
theorem dX10_common_11 : decode cX10_common 11 = .ok (.lload_n 0, 1) := by decide +kernel
theorem dX10_common_12 : decode cX10_common 12 = .ok (.lload_n 2, 1) := by decide +kernel
theorem dX10_common_13 : decode cX10_common 13 = .ok (.lrem, 1) := by decide +kernel
theorem dX10_common_14 : decode cX10_common 14 = .ok (.invokestatic 458, 3) := by decide +kernel
theorem dX10_common_17 : decode cX10_common 17 = .ok (.lreturn, 1) := by decide +kernel
theorem dX10_part_0 : decode cX10_part 0 = .ok (.iload 4, 2) := by decide +kernel
theorem dX10_part_2 : decode cX10_part 2 = .ok (.ifCond .ne 7, 3) := by decide +kernel
theorem dX10_part_5 : decode cX10_part 5 = .ok (.lload_n 0, 1) := by decide +kernel
theorem dX10_part_6 : decode cX10_part 6 = .ok (.goto 4, 3) := by decide +kernel
theorem dX10_part_9 : decode cX10_part 9 = .ok (.lload_n 2, 1) := by decide +kernel
theorem dX10_part_10 : decode cX10_part 10 = .ok (.lload_n 0, 1) := by decide +kernel
theorem dX10_part_11 : decode cX10_part 11 = .ok (.lload_n 2, 1) := by decide +kernel
theorem dX10_part_12 : decode cX10_part 12 = .ok (.invokestatic 458, 3) := by decide +kernel
theorem dX10_part_15 : decode cX10_part 15 = .ok (.ldiv, 1) := by decide +kernel
theorem dX10_part_16 : decode cX10_part 16 = .ok (.lreturn, 1) := by decide +kernel
theorem dX10_chance_0 : decode cX10_chance 0 = .ok (.aload_n 0, 1) := by decide +kernel
theorem dX10_chance_1 : decode cX10_chance 1 = .ok (.iconst 0, 1) := by decide +kernel
theorem dX10_chance_2 : decode cX10_chance 2 = .ok (.putfield 1, 3) := by decide +kernel
theorem dX10_chance_5 : decode cX10_chance 5 = .ok (.aload_n 0, 1) := by decide +kernel
theorem dX10_chance_6 : decode cX10_chance 6 = .ok (.iload_n 1, 1) := by decide +kernel
theorem dX10_chance_7 : decode cX10_chance 7 = .ok (.i2l, 1) := by decide +kernel
theorem dX10_chance_8 : decode cX10_chance 8 = .ok (.invokevirtual 235, 3) := by decide +kernel
theorem dX10_chance_11 : decode cX10_chance 11 = .ok (.ifCond .eq 13, 3) := by decide +kernel
theorem dX10_chance_14 : decode cX10_chance 14 = .ok (.iload_n 2, 1) := by decide +kernel
theorem dX10_chance_15 : decode cX10_chance 15 = .ok (.i2l, 1) := by decide +kernel
theorem dX10_chance_16 : decode cX10_chance 16 = .ok (.lconst 0, 1) := by decide +kernel
theorem dX10_chance_17 : decode cX10_chance 17 = .ok (.lconst 1, 1) := by decide +kernel
theorem dX10_chance_18 : decode cX10_chance 18 = .ok (.invokestatic 170, 3) := by decide +kernel
theorem dX10_chance_21 : decode cX10_chance 21 = .ok (.ifCond .ne 6, 3) := by decide +kernel
theorem dX10_chance_24 : decode cX10_chance 24 = .ok (.bipush (-2), 2) := by decide +kernel
theorem dX10_chance_26 : decode cX10_chance 26 = .ok (.ireturn, 1) := by decide +kernel
theorem dX10_chance_27 : decode cX10_chance 27 = .ok (.aload_n 0, 1) := by decide +kernel
theorem dX10_chance_28 : decode cX10_chance 28 = .ok (.invokevirtual 462, 3) := by decide +kernel
theorem dX10_chance_31 : decode cX10_chance 31 = .ok (.aload_n 0, 1) := by decide +kernel
theorem dX10_chance_32 : decode cX10_chance 32 = .ok (.getfield 88, 3) := by decide +kernel
theorem dX10_chance_35 : decode cX10_chance 35 = .ok (.iload_n 1, 1) := by decide +kernel
theorem dX10_chance_36 : decode cX10_chance 36 = .ok (.laload, 1) := by decide +kernel
theorem dX10_chance_37 : decode cX10_chance 37 = .ok (.aload_n 0, 1) := by decide +kernel
theorem dX10_chance_38 : decode cX10_chance 38 = .ok (.getfield 13, 3) := by decide +kernel
theorem dX10_chance_41 : decode cX10_chance 41 = .ok (.bipush 31, 2) := by decide +kernel
theorem dX10_chance_43 : decode cX10_chance 43 = .ok (.iaload, 1) := by decide +kernel
theorem dX10_chance_44 : decode cX10_chance 44 = .ok (.invokestatic 465, 3) := by decide +kernel
theorem dX10_chance_47 : decode cX10_chance 47 = .ok (.iload_n 2, 1) := by decide +kernel
theorem dX10_chance_48 : decode cX10_chance 48 = .ok (.invokestatic 469, 3) := by decide +kernel
theorem dX10_chance_51 : decode cX10_chance 51 = .ok (.l2i, 1) := by decide +kernel
theorem dX10_chance_52 : decode cX10_chance 52 = .ok (.ireturn, 1) := by decide +kernel
theorem dX10_mean_0 : decode cX10_mean 0 = .ok (.aload_n 0, 1) := by decide +kernel
theorem dX10_mean_1 : decode cX10_mean 1 = .ok (.iconst 0, 1) := by decide +kernel
theorem dX10_mean_2 : decode cX10_mean 2 = .ok (.putfield 1, 3) := by decide +kernel
theorem dX10_mean_5 : decode cX10_mean 5 = .ok (.aload_n 0, 1) := by decide +kernel
theorem dX10_mean_6 : decode cX10_mean 6 = .ok (.iload_n 1, 1) := by decide +kernel
theorem dX10_mean_7 : decode cX10_mean 7 = .ok (.i2l, 1) := by decide +kernel
theorem dX10_mean_8 : decode cX10_mean 8 = .ok (.invokevirtual 235, 3) := by decide +kernel
theorem dX10_mean_11 : decode cX10_mean 11 = .ok (.ifCond .eq 13, 3) := by decide +kernel
theorem dX10_mean_14 : decode cX10_mean 14 = .ok (.iload_n 2, 1) := by decide +kernel
theorem dX10_mean_15 : decode cX10_mean 15 = .ok (.i2l, 1) := by decide +kernel
theorem dX10_mean_16 : decode cX10_mean 16 = .ok (.lconst 0, 1) := by decide +kernel
theorem dX10_mean_17 : decode cX10_mean 17 = .ok (.lconst 1, 1) := by decide +kernel
theorem dX10_mean_18 : decode cX10_mean 18 = .ok (.invokestatic 170, 3) := by decide +kernel
theorem dX10_mean_21 : decode cX10_mean 21 = .ok (.ifCond .ne 7, 3) := by decide +kernel
theorem dX10_mean_24 : decode cX10_mean 24 = .ok (.ldc2_w 473, 3) := by decide +kernel
theorem dX10_mean_27 : decode cX10_mean 27 = .ok (.lreturn, 1) := by decide +kernel
theorem dX10_mean_28 : decode cX10_mean 28 = .ok (.aload_n 0, 1) := by decide +kernel
theorem dX10_mean_29 : decode cX10_mean 29 = .ok (.invokevirtual 462, 3) := by decide +kernel
theorem dX10_mean_32 : decode cX10_mean 32 = .ok (.aload_n 0, 1) := by decide +kernel
theorem dX10_mean_33 : decode cX10_mean 33 = .ok (.getfield 92, 3) := by decide +kernel
theorem dX10_mean_36 : decode cX10_mean 36 = .ok (.iload_n 1, 1) := by decide +kernel
theorem dX10_mean_37 : decode cX10_mean 37 = .ok (.laload, 1) := by decide +kernel
theorem dX10_mean_38 : decode cX10_mean 38 = .ok (.aload_n 0, 1) := by decide +kernel
theorem dX10_mean_39 : decode cX10_mean 39 = .ok (.getfield 13, 3) := by decide +kernel
theorem dX10_mean_42 : decode cX10_mean 42 = .ok (.bipush 31, 2) := by decide +kernel
theorem dX10_mean_44 : decode cX10_mean 44 = .ok (.iaload, 1) := by decide +kernel
theorem dX10_mean_45 : decode cX10_mean 45 = .ok (.invokestatic 465, 3) := by decide +kernel
theorem dX10_mean_48 : decode cX10_mean 48 = .ok (.iload_n 2, 1) := by decide +kernel
theorem dX10_mean_49 : decode cX10_mean 49 = .ok (.invokestatic 469, 3) := by decide +kernel
theorem dX10_mean_52 : decode cX10_mean 52 = .ok (.lreturn, 1) := by decide +kernel
theorem dX10_famous_0 : decode cX10_famous 0 = .ok (.aload_n 0, 1) := by decide +kernel
theorem dX10_famous_1 : decode cX10_famous 1 = .ok (.iconst 0, 1) := by decide +kernel
theorem dX10_famous_2 : decode cX10_famous 2 = .ok (.putfield 1, 3) := by decide +kernel
theorem dX10_famous_5 : decode cX10_famous 5 = .ok (.aload_n 0, 1) := by decide +kernel
theorem dX10_famous_6 : decode cX10_famous 6 = .ok (.getfield 13, 3) := by decide +kernel
