/-! decode rows of the law -/
theorem d_L_law_0 : decode (mC M_L_law) 0 = .ok (.new 8, 3) := by decide +kernel
theorem d_L_law_3 : decode (mC M_L_law) 3 = .ok (.dup, 1) := by decide +kernel
theorem d_L_law_4 : decode (mC M_L_law) 4 = .ok (.invokespecial 15, 3) := by decide +kernel
theorem d_L_law_7 : decode (mC M_L_law) 7 = .ok (.astore_n 1, 1) := by decide +kernel
theorem d_L_law_8 : decode (mC M_L_law) 8 = .ok (.new 16, 3) := by decide +kernel
theorem d_L_law_11 : decode (mC M_L_law) 11 = .ok (.dup, 1) := by decide +kernel
theorem d_L_law_12 : decode (mC M_L_law) 12 = .ok (.invokespecial 18, 3) := by decide +kernel
theorem d_L_law_15 : decode (mC M_L_law) 15 = .ok (.astore_n 2, 1) := by decide +kernel
theorem d_L_law_16 : decode (mC M_L_law) 16 = .ok (.iconst 1, 1) := by decide +kernel
theorem d_L_law_17 : decode (mC M_L_law) 17 = .ok (.newarray .long, 2) := by decide +kernel
theorem d_L_law_19 : decode (mC M_L_law) 19 = .ok (.astore_n 3, 1) := by decide +kernel
theorem d_L_law_20 : decode (mC M_L_law) 20 = .ok (.iconst 0, 1) := by decide +kernel
theorem d_L_law_21 : decode (mC M_L_law) 21 = .ok (.istore 4, 2) := by decide +kernel
theorem d_L_law_23 : decode (mC M_L_law) 23 = .ok (.iload 4, 2) := by decide +kernel
theorem d_L_law_25 : decode (mC M_L_law) 25 = .ok (.aload_n 0, 1) := by decide +kernel
theorem d_L_law_26 : decode (mC M_L_law) 26 = .ok (.arraylength, 1) := by decide +kernel
theorem d_L_law_27 : decode (mC M_L_law) 27 = .ok (.bipush 6, 2) := by decide +kernel
theorem d_L_law_29 : decode (mC M_L_law) 29 = .ok (.isub, 1) := by decide +kernel
theorem d_L_law_30 : decode (mC M_L_law) 30 = .ok (.if_icmp .gt 975, 3) := by decide +kernel
theorem d_L_law_33 : decode (mC M_L_law) 33 = .ok (.aload_n 0, 1) := by decide +kernel
theorem d_L_law_34 : decode (mC M_L_law) 34 = .ok (.iload 4, 2) := by decide +kernel
theorem d_L_law_36 : decode (mC M_L_law) 36 = .ok (.iaload, 1) := by decide +kernel
theorem d_L_law_37 : decode (mC M_L_law) 37 = .ok (.bipush 31, 2) := by decide +kernel
theorem d_L_law_39 : decode (mC M_L_law) 39 = .ok (.iand, 1) := by decide +kernel
theorem d_L_law_40 : decode (mC M_L_law) 40 = .ok (.tableswitch 959 0 22 #[108, 181, 234, 307, 332, 345, 358, 371, 420, 433, 458, 483, 508, 545, 594, 631, 711, 748, 773, 810, 847, 884, 934], 108) := by decide +kernel
theorem d_L_law_148 : decode (mC M_L_law) 148 = .ok (.aload_n 1, 1) := by decide +kernel
theorem d_L_law_149 : decode (mC M_L_law) 149 = .ok (.aload_n 0, 1) := by decide +kernel
theorem d_L_law_150 : decode (mC M_L_law) 150 = .ok (.iload 4, 2) := by decide +kernel
theorem d_L_law_152 : decode (mC M_L_law) 152 = .ok (.iconst 1, 1) := by decide +kernel
theorem d_L_law_153 : decode (mC M_L_law) 153 = .ok (.iadd, 1) := by decide +kernel
theorem d_L_law_154 : decode (mC M_L_law) 154 = .ok (.iaload, 1) := by decide +kernel
theorem d_L_law_155 : decode (mC M_L_law) 155 = .ok (.aload_n 0, 1) := by decide +kernel
theorem d_L_law_156 : decode (mC M_L_law) 156 = .ok (.iload 4, 2) := by decide +kernel
theorem d_L_law_158 : decode (mC M_L_law) 158 = .ok (.iconst 2, 1) := by decide +kernel
theorem d_L_law_159 : decode (mC M_L_law) 159 = .ok (.iadd, 1) := by decide +kernel
theorem d_L_law_160 : decode (mC M_L_law) 160 = .ok (.iaload, 1) := by decide +kernel
theorem d_L_law_161 : decode (mC M_L_law) 161 = .ok (.aload_n 0, 1) := by decide +kernel
theorem d_L_law_162 : decode (mC M_L_law) 162 = .ok (.iload 4, 2) := by decide +kernel
theorem d_L_law_164 : decode (mC M_L_law) 164 = .ok (.iconst 3, 1) := by decide +kernel
theorem d_L_law_165 : decode (mC M_L_law) 165 = .ok (.iadd, 1) := by decide +kernel
theorem d_L_law_166 : decode (mC M_L_law) 166 = .ok (.iaload, 1) := by decide +kernel
theorem d_L_law_167 : decode (mC M_L_law) 167 = .ok (.aload_n 0, 1) := by decide +kernel
theorem d_L_law_168 : decode (mC M_L_law) 168 = .ok (.iload 4, 2) := by decide +kernel
theorem d_L_law_170 : decode (mC M_L_law) 170 = .ok (.iconst 4, 1) := by decide +kernel
theorem d_L_law_171 : decode (mC M_L_law) 171 = .ok (.iadd, 1) := by decide +kernel
theorem d_L_law_172 : decode (mC M_L_law) 172 = .ok (.iaload, 1) := by decide +kernel
theorem d_L_law_173 : decode (mC M_L_law) 173 = .ok (.aload_n 0, 1) := by decide +kernel
theorem d_L_law_174 : decode (mC M_L_law) 174 = .ok (.iload 4, 2) := by decide +kernel
theorem d_L_law_176 : decode (mC M_L_law) 176 = .ok (.iconst 5, 1) := by decide +kernel
theorem d_L_law_177 : decode (mC M_L_law) 177 = .ok (.iadd, 1) := by decide +kernel
theorem d_L_law_178 : decode (mC M_L_law) 178 = .ok (.iaload, 1) := by decide +kernel
theorem d_L_law_179 : decode (mC M_L_law) 179 = .ok (.invokevirtual 19, 3) := by decide +kernel
theorem d_L_law_182 : decode (mC M_L_law) 182 = .ok (.aload_n 2, 1) := by decide +kernel
theorem d_L_law_183 : decode (mC M_L_law) 183 = .ok (.aload_n 0, 1) := by decide +kernel
theorem d_L_law_184 : decode (mC M_L_law) 184 = .ok (.iload 4, 2) := by decide +kernel
theorem d_L_law_186 : decode (mC M_L_law) 186 = .ok (.iconst 1, 1) := by decide +kernel
theorem d_L_law_187 : decode (mC M_L_law) 187 = .ok (.iadd, 1) := by decide +kernel
theorem d_L_law_188 : decode (mC M_L_law) 188 = .ok (.iaload, 1) := by decide +kernel
theorem d_L_law_189 : decode (mC M_L_law) 189 = .ok (.aload_n 0, 1) := by decide +kernel
theorem d_L_law_190 : decode (mC M_L_law) 190 = .ok (.iload 4, 2) := by decide +kernel
theorem d_L_law_192 : decode (mC M_L_law) 192 = .ok (.iconst 2, 1) := by decide +kernel
theorem d_L_law_193 : decode (mC M_L_law) 193 = .ok (.iadd, 1) := by decide +kernel
theorem d_L_law_194 : decode (mC M_L_law) 194 = .ok (.iaload, 1) := by decide +kernel
theorem d_L_law_195 : decode (mC M_L_law) 195 = .ok (.aload_n 0, 1) := by decide +kernel
theorem d_L_law_196 : decode (mC M_L_law) 196 = .ok (.iload 4, 2) := by decide +kernel
theorem d_L_law_198 : decode (mC M_L_law) 198 = .ok (.iconst 3, 1) := by decide +kernel
theorem d_L_law_199 : decode (mC M_L_law) 199 = .ok (.iadd, 1) := by decide +kernel
theorem d_L_law_200 : decode (mC M_L_law) 200 = .ok (.iaload, 1) := by decide +kernel
theorem d_L_law_201 : decode (mC M_L_law) 201 = .ok (.aload_n 0, 1) := by decide +kernel
theorem d_L_law_202 : decode (mC M_L_law) 202 = .ok (.iload 4, 2) := by decide +kernel
theorem d_L_law_204 : decode (mC M_L_law) 204 = .ok (.iconst 4, 1) := by decide +kernel
theorem d_L_law_205 : decode (mC M_L_law) 205 = .ok (.iadd, 1) := by decide +kernel
theorem d_L_law_206 : decode (mC M_L_law) 206 = .ok (.iaload, 1) := by decide +kernel
theorem d_L_law_207 : decode (mC M_L_law) 207 = .ok (.aload_n 0, 1) := by decide +kernel
theorem d_L_law_208 : decode (mC M_L_law) 208 = .ok (.iload 4, 2) := by decide +kernel
theorem d_L_law_210 : decode (mC M_L_law) 210 = .ok (.iconst 5, 1) := by decide +kernel
theorem d_L_law_211 : decode (mC M_L_law) 211 = .ok (.iadd, 1) := by decide +kernel
theorem d_L_law_212 : decode (mC M_L_law) 212 = .ok (.iaload, 1) := by decide +kernel
theorem d_L_law_213 : decode (mC M_L_law) 213 = .ok (.invokevirtual 23, 3) := by decide +kernel
theorem d_L_law_216 : decode (mC M_L_law) 216 = .ok (.if_icmp .eq 783, 3) := by decide +kernel
theorem d_L_law_219 : decode (mC M_L_law) 219 = .ok (.iconst 0, 1) := by decide +kernel
theorem d_L_law_220 : decode (mC M_L_law) 220 = .ok (.ireturn, 1) := by decide +kernel
theorem d_L_law_221 : decode (mC M_L_law) 221 = .ok (.aload_n 1, 1) := by decide +kernel
theorem d_L_law_222 : decode (mC M_L_law) 222 = .ok (.aload_n 0, 1) := by decide +kernel
theorem d_L_law_223 : decode (mC M_L_law) 223 = .ok (.iload 4, 2) := by decide +kernel
theorem d_L_law_225 : decode (mC M_L_law) 225 = .ok (.iconst 1, 1) := by decide +kernel
theorem d_L_law_226 : decode (mC M_L_law) 226 = .ok (.iadd, 1) := by decide +kernel
theorem d_L_law_227 : decode (mC M_L_law) 227 = .ok (.iaload, 1) := by decide +kernel
theorem d_L_law_228 : decode (mC M_L_law) 228 = .ok (.aload_n 0, 1) := by decide +kernel
theorem d_L_law_229 : decode (mC M_L_law) 229 = .ok (.iload 4, 2) := by decide +kernel
theorem d_L_law_231 : decode (mC M_L_law) 231 = .ok (.iconst 2, 1) := by decide +kernel
theorem d_L_law_232 : decode (mC M_L_law) 232 = .ok (.iadd, 1) := by decide +kernel
theorem d_L_law_233 : decode (mC M_L_law) 233 = .ok (.iaload, 1) := by decide +kernel
theorem d_L_law_234 : decode (mC M_L_law) 234 = .ok (.ifCond .eq 7, 3) := by decide +kernel
theorem d_L_law_237 : decode (mC M_L_law) 237 = .ok (.iconst 1, 1) := by decide +kernel
theorem d_L_law_238 : decode (mC M_L_law) 238 = .ok (.goto 4, 3) := by decide +kernel
theorem d_L_law_241 : decode (mC M_L_law) 241 = .ok (.iconst 0, 1) := by decide +kernel
theorem d_L_law_242 : decode (mC M_L_law) 242 = .ok (.invokevirtual 24, 3) := by decide +kernel
theorem d_L_law_245 : decode (mC M_L_law) 245 = .ok (.aload_n 2, 1) := by decide +kernel
theorem d_L_law_246 : decode (mC M_L_law) 246 = .ok (.aload_n 0, 1) := by decide +kernel
theorem d_L_law_247 : decode (mC M_L_law) 247 = .ok (.iload 4, 2) := by decide +kernel
theorem d_L_law_249 : decode (mC M_L_law) 249 = .ok (.iconst 1, 1) := by decide +kernel
theorem d_L_law_250 : decode (mC M_L_law) 250 = .ok (.iadd, 1) := by decide +kernel
theorem d_L_law_251 : decode (mC M_L_law) 251 = .ok (.iaload, 1) := by decide +kernel
theorem d_L_law_252 : decode (mC M_L_law) 252 = .ok (.aload_n 0, 1) := by decide +kernel
theorem d_L_law_253 : decode (mC M_L_law) 253 = .ok (.iload 4, 2) := by decide +kernel
theorem d_L_law_255 : decode (mC M_L_law) 255 = .ok (.iconst 2, 1) := by decide +kernel
theorem d_L_law_256 : decode (mC M_L_law) 256 = .ok (.iadd, 1) := by decide +kernel
theorem d_L_law_257 : decode (mC M_L_law) 257 = .ok (.iaload, 1) := by decide +kernel
theorem d_L_law_258 : decode (mC M_L_law) 258 = .ok (.ifCond .eq 7, 3) := by decide +kernel
theorem d_L_law_261 : decode (mC M_L_law) 261 = .ok (.iconst 1, 1) := by decide +kernel
theorem d_L_law_262 : decode (mC M_L_law) 262 = .ok (.goto 4, 3) := by decide +kernel
theorem d_L_law_265 : decode (mC M_L_law) 265 = .ok (.iconst 0, 1) := by decide +kernel
theorem d_L_law_266 : decode (mC M_L_law) 266 = .ok (.invokevirtual 28, 3) := by decide +kernel
theorem d_L_law_269 : decode (mC M_L_law) 269 = .ok (.if_icmp .eq 730, 3) := by decide +kernel
theorem d_L_law_272 : decode (mC M_L_law) 272 = .ok (.iconst 0, 1) := by decide +kernel
theorem d_L_law_273 : decode (mC M_L_law) 273 = .ok (.ireturn, 1) := by decide +kernel
theorem d_L_law_274 : decode (mC M_L_law) 274 = .ok (.aload_n 1, 1) := by decide +kernel
theorem d_L_law_275 : decode (mC M_L_law) 275 = .ok (.aload_n 0, 1) := by decide +kernel
theorem d_L_law_276 : decode (mC M_L_law) 276 = .ok (.iload 4, 2) := by decide +kernel
theorem d_L_law_278 : decode (mC M_L_law) 278 = .ok (.iconst 1, 1) := by decide +kernel
theorem d_L_law_279 : decode (mC M_L_law) 279 = .ok (.iadd, 1) := by decide +kernel
theorem d_L_law_280 : decode (mC M_L_law) 280 = .ok (.iaload, 1) := by decide +kernel
theorem d_L_law_281 : decode (mC M_L_law) 281 = .ok (.aload_n 0, 1) := by decide +kernel
theorem d_L_law_282 : decode (mC M_L_law) 282 = .ok (.iload 4, 2) := by decide +kernel
theorem d_L_law_284 : decode (mC M_L_law) 284 = .ok (.iconst 2, 1) := by decide +kernel
theorem d_L_law_285 : decode (mC M_L_law) 285 = .ok (.iadd, 1) := by decide +kernel
theorem d_L_law_286 : decode (mC M_L_law) 286 = .ok (.iaload, 1) := by decide +kernel
theorem d_L_law_287 : decode (mC M_L_law) 287 = .ok (.aload_n 0, 1) := by decide +kernel
theorem d_L_law_288 : decode (mC M_L_law) 288 = .ok (.iload 4, 2) := by decide +kernel
theorem d_L_law_290 : decode (mC M_L_law) 290 = .ok (.iconst 3, 1) := by decide +kernel
theorem d_L_law_291 : decode (mC M_L_law) 291 = .ok (.iadd, 1) := by decide +kernel
theorem d_L_law_292 : decode (mC M_L_law) 292 = .ok (.iaload, 1) := by decide +kernel
theorem d_L_law_293 : decode (mC M_L_law) 293 = .ok (.aload_n 0, 1) := by decide +kernel
theorem d_L_law_294 : decode (mC M_L_law) 294 = .ok (.iload 4, 2) := by decide +kernel
theorem d_L_law_296 : decode (mC M_L_law) 296 = .ok (.iconst 4, 1) := by decide +kernel
theorem d_L_law_297 : decode (mC M_L_law) 297 = .ok (.iadd, 1) := by decide +kernel
theorem d_L_law_298 : decode (mC M_L_law) 298 = .ok (.iaload, 1) := by decide +kernel
theorem d_L_law_299 : decode (mC M_L_law) 299 = .ok (.aload_n 0, 1) := by decide +kernel
theorem d_L_law_300 : decode (mC M_L_law) 300 = .ok (.iload 4, 2) := by decide +kernel
theorem d_L_law_302 : decode (mC M_L_law) 302 = .ok (.iconst 5, 1) := by decide +kernel
theorem d_L_law_303 : decode (mC M_L_law) 303 = .ok (.iadd, 1) := by decide +kernel
theorem d_L_law_304 : decode (mC M_L_law) 304 = .ok (.iaload, 1) := by decide +kernel
theorem d_L_law_305 : decode (mC M_L_law) 305 = .ok (.invokevirtual 29, 3) := by decide +kernel
theorem d_L_law_308 : decode (mC M_L_law) 308 = .ok (.aload_n 2, 1) := by decide +kernel
theorem d_L_law_309 : decode (mC M_L_law) 309 = .ok (.aload_n 0, 1) := by decide +kernel
theorem d_L_law_310 : decode (mC M_L_law) 310 = .ok (.iload 4, 2) := by decide +kernel
theorem d_L_law_312 : decode (mC M_L_law) 312 = .ok (.iconst 1, 1) := by decide +kernel
theorem d_L_law_313 : decode (mC M_L_law) 313 = .ok (.iadd, 1) := by decide +kernel
theorem d_L_law_314 : decode (mC M_L_law) 314 = .ok (.iaload, 1) := by decide +kernel
theorem d_L_law_315 : decode (mC M_L_law) 315 = .ok (.aload_n 0, 1) := by decide +kernel
theorem d_L_law_316 : decode (mC M_L_law) 316 = .ok (.iload 4, 2) := by decide +kernel
theorem d_L_law_318 : decode (mC M_L_law) 318 = .ok (.iconst 2, 1) := by decide +kernel
theorem d_L_law_319 : decode (mC M_L_law) 319 = .ok (.iadd, 1) := by decide +kernel
theorem d_L_law_320 : decode (mC M_L_law) 320 = .ok (.iaload, 1) := by decide +kernel
theorem d_L_law_321 : decode (mC M_L_law) 321 = .ok (.aload_n 0, 1) := by decide +kernel
theorem d_L_law_322 : decode (mC M_L_law) 322 = .ok (.iload 4, 2) := by decide +kernel
theorem d_L_law_324 : decode (mC M_L_law) 324 = .ok (.iconst 3, 1) := by decide +kernel
theorem d_L_law_325 : decode (mC M_L_law) 325 = .ok (.iadd, 1) := by decide +kernel
theorem d_L_law_326 : decode (mC M_L_law) 326 = .ok (.iaload, 1) := by decide +kernel
theorem d_L_law_327 : decode (mC M_L_law) 327 = .ok (.aload_n 0, 1) := by decide +kernel
theorem d_L_law_328 : decode (mC M_L_law) 328 = .ok (.iload 4, 2) := by decide +kernel
theorem d_L_law_330 : decode (mC M_L_law) 330 = .ok (.iconst 4, 1) := by decide +kernel
theorem d_L_law_331 : decode (mC M_L_law) 331 = .ok (.iadd, 1) := by decide +kernel
theorem d_L_law_332 : decode (mC M_L_law) 332 = .ok (.iaload, 1) := by decide +kernel
theorem d_L_law_333 : decode (mC M_L_law) 333 = .ok (.aload_n 0, 1) := by decide +kernel
theorem d_L_law_334 : decode (mC M_L_law) 334 = .ok (.iload 4, 2) := by decide +kernel
theorem d_L_law_336 : decode (mC M_L_law) 336 = .ok (.iconst 5, 1) := by decide +kernel
theorem d_L_law_337 : decode (mC M_L_law) 337 = .ok (.iadd, 1) := by decide +kernel
theorem d_L_law_338 : decode (mC M_L_law) 338 = .ok (.iaload, 1) := by decide +kernel
theorem d_L_law_339 : decode (mC M_L_law) 339 = .ok (.invokevirtual 32, 3) := by decide +kernel
theorem d_L_law_342 : decode (mC M_L_law) 342 = .ok (.if_icmp .eq 657, 3) := by decide +kernel
theorem d_L_law_345 : decode (mC M_L_law) 345 = .ok (.iconst 0, 1) := by decide +kernel
theorem d_L_law_346 : decode (mC M_L_law) 346 = .ok (.ireturn, 1) := by decide +kernel
theorem d_L_law_347 : decode (mC M_L_law) 347 = .ok (.aload_n 1, 1) := by decide +kernel
theorem d_L_law_348 : decode (mC M_L_law) 348 = .ok (.aload_n 0, 1) := by decide +kernel
theorem d_L_law_349 : decode (mC M_L_law) 349 = .ok (.iload 4, 2) := by decide +kernel
theorem d_L_law_351 : decode (mC M_L_law) 351 = .ok (.iconst 1, 1) := by decide +kernel
theorem d_L_law_352 : decode (mC M_L_law) 352 = .ok (.iadd, 1) := by decide +kernel
theorem d_L_law_353 : decode (mC M_L_law) 353 = .ok (.iaload, 1) := by decide +kernel
theorem d_L_law_354 : decode (mC M_L_law) 354 = .ok (.invokevirtual 33, 3) := by decide +kernel
theorem d_L_law_357 : decode (mC M_L_law) 357 = .ok (.aload_n 2, 1) := by decide +kernel
theorem d_L_law_358 : decode (mC M_L_law) 358 = .ok (.aload_n 0, 1) := by decide +kernel
theorem d_L_law_359 : decode (mC M_L_law) 359 = .ok (.iload 4, 2) := by decide +kernel
theorem d_L_law_361 : decode (mC M_L_law) 361 = .ok (.iconst 1, 1) := by decide +kernel
theorem d_L_law_362 : decode (mC M_L_law) 362 = .ok (.iadd, 1) := by decide +kernel
theorem d_L_law_363 : decode (mC M_L_law) 363 = .ok (.iaload, 1) := by decide +kernel
theorem d_L_law_364 : decode (mC M_L_law) 364 = .ok (.invokevirtual 37, 3) := by decide +kernel
theorem d_L_law_367 : decode (mC M_L_law) 367 = .ok (.if_icmp .eq 632, 3) := by decide +kernel
theorem d_L_law_370 : decode (mC M_L_law) 370 = .ok (.iconst 0, 1) := by decide +kernel
theorem d_L_law_371 : decode (mC M_L_law) 371 = .ok (.ireturn, 1) := by decide +kernel
theorem d_L_law_372 : decode (mC M_L_law) 372 = .ok (.aload_n 1, 1) := by decide +kernel
theorem d_L_law_373 : decode (mC M_L_law) 373 = .ok (.invokevirtual 38, 3) := by decide +kernel
theorem d_L_law_376 : decode (mC M_L_law) 376 = .ok (.aload_n 2, 1) := by decide +kernel
theorem d_L_law_377 : decode (mC M_L_law) 377 = .ok (.invokevirtual 42, 3) := by decide +kernel
theorem d_L_law_380 : decode (mC M_L_law) 380 = .ok (.if_icmp .eq 619, 3) := by decide +kernel
theorem d_L_law_383 : decode (mC M_L_law) 383 = .ok (.iconst 0, 1) := by decide +kernel
theorem d_L_law_384 : decode (mC M_L_law) 384 = .ok (.ireturn, 1) := by decide +kernel
theorem d_L_law_385 : decode (mC M_L_law) 385 = .ok (.aload_n 1, 1) := by decide +kernel
theorem d_L_law_386 : decode (mC M_L_law) 386 = .ok (.invokevirtual 43, 3) := by decide +kernel
theorem d_L_law_389 : decode (mC M_L_law) 389 = .ok (.aload_n 2, 1) := by decide +kernel
theorem d_L_law_390 : decode (mC M_L_law) 390 = .ok (.invokevirtual 46, 3) := by decide +kernel
theorem d_L_law_393 : decode (mC M_L_law) 393 = .ok (.if_icmp .eq 606, 3) := by decide +kernel
theorem d_L_law_396 : decode (mC M_L_law) 396 = .ok (.iconst 0, 1) := by decide +kernel
theorem d_L_law_397 : decode (mC M_L_law) 397 = .ok (.ireturn, 1) := by decide +kernel
theorem d_L_law_398 : decode (mC M_L_law) 398 = .ok (.aload_n 1, 1) := by decide +kernel
theorem d_L_law_399 : decode (mC M_L_law) 399 = .ok (.invokevirtual 47, 3) := by decide +kernel
theorem d_L_law_402 : decode (mC M_L_law) 402 = .ok (.aload_n 2, 1) := by decide +kernel
theorem d_L_law_403 : decode (mC M_L_law) 403 = .ok (.invokevirtual 50, 3) := by decide +kernel
theorem d_L_law_406 : decode (mC M_L_law) 406 = .ok (.if_icmp .eq 593, 3) := by decide +kernel
theorem d_L_law_409 : decode (mC M_L_law) 409 = .ok (.iconst 0, 1) := by decide +kernel
theorem d_L_law_410 : decode (mC M_L_law) 410 = .ok (.ireturn, 1) := by decide +kernel
theorem d_L_law_411 : decode (mC M_L_law) 411 = .ok (.aload_n 1, 1) := by decide +kernel
theorem d_L_law_412 : decode (mC M_L_law) 412 = .ok (.aload_n 0, 1) := by decide +kernel
theorem d_L_law_413 : decode (mC M_L_law) 413 = .ok (.iload 4, 2) := by decide +kernel
theorem d_L_law_415 : decode (mC M_L_law) 415 = .ok (.iconst 1, 1) := by decide +kernel
theorem d_L_law_416 : decode (mC M_L_law) 416 = .ok (.iadd, 1) := by decide +kernel
theorem d_L_law_417 : decode (mC M_L_law) 417 = .ok (.iaload, 1) := by decide +kernel
theorem d_L_law_418 : decode (mC M_L_law) 418 = .ok (.aload_n 0, 1) := by decide +kernel
theorem d_L_law_419 : decode (mC M_L_law) 419 = .ok (.iload 4, 2) := by decide +kernel
theorem d_L_law_421 : decode (mC M_L_law) 421 = .ok (.iconst 2, 1) := by decide +kernel
theorem d_L_law_422 : decode (mC M_L_law) 422 = .ok (.iadd, 1) := by decide +kernel
theorem d_L_law_423 : decode (mC M_L_law) 423 = .ok (.iaload, 1) := by decide +kernel
theorem d_L_law_424 : decode (mC M_L_law) 424 = .ok (.aload_n 0, 1) := by decide +kernel
theorem d_L_law_425 : decode (mC M_L_law) 425 = .ok (.iload 4, 2) := by decide +kernel
theorem d_L_law_427 : decode (mC M_L_law) 427 = .ok (.iconst 3, 1) := by decide +kernel
theorem d_L_law_428 : decode (mC M_L_law) 428 = .ok (.iadd, 1) := by decide +kernel
theorem d_L_law_429 : decode (mC M_L_law) 429 = .ok (.iaload, 1) := by decide +kernel
theorem d_L_law_430 : decode (mC M_L_law) 430 = .ok (.invokevirtual 51, 3) := by decide +kernel
theorem d_L_law_433 : decode (mC M_L_law) 433 = .ok (.aload_n 2, 1) := by decide +kernel
theorem d_L_law_434 : decode (mC M_L_law) 434 = .ok (.aload_n 0, 1) := by decide +kernel
theorem d_L_law_435 : decode (mC M_L_law) 435 = .ok (.iload 4, 2) := by decide +kernel
theorem d_L_law_437 : decode (mC M_L_law) 437 = .ok (.iconst 1, 1) := by decide +kernel
theorem d_L_law_438 : decode (mC M_L_law) 438 = .ok (.iadd, 1) := by decide +kernel
theorem d_L_law_439 : decode (mC M_L_law) 439 = .ok (.iaload, 1) := by decide +kernel
theorem d_L_law_440 : decode (mC M_L_law) 440 = .ok (.aload_n 0, 1) := by decide +kernel
theorem d_L_law_441 : decode (mC M_L_law) 441 = .ok (.iload 4, 2) := by decide +kernel
theorem d_L_law_443 : decode (mC M_L_law) 443 = .ok (.iconst 2, 1) := by decide +kernel
theorem d_L_law_444 : decode (mC M_L_law) 444 = .ok (.iadd, 1) := by decide +kernel
theorem d_L_law_445 : decode (mC M_L_law) 445 = .ok (.iaload, 1) := by decide +kernel
theorem d_L_law_446 : decode (mC M_L_law) 446 = .ok (.aload_n 0, 1) := by decide +kernel
theorem d_L_law_447 : decode (mC M_L_law) 447 = .ok (.iload 4, 2) := by decide +kernel
theorem d_L_law_449 : decode (mC M_L_law) 449 = .ok (.iconst 3, 1) := by decide +kernel
theorem d_L_law_450 : decode (mC M_L_law) 450 = .ok (.iadd, 1) := by decide +kernel
theorem d_L_law_451 : decode (mC M_L_law) 451 = .ok (.iaload, 1) := by decide +kernel
theorem d_L_law_452 : decode (mC M_L_law) 452 = .ok (.invokevirtual 54, 3) := by decide +kernel
theorem d_L_law_455 : decode (mC M_L_law) 455 = .ok (.if_icmp .eq 544, 3) := by decide +kernel
theorem d_L_law_458 : decode (mC M_L_law) 458 = .ok (.iconst 0, 1) := by decide +kernel
theorem d_L_law_459 : decode (mC M_L_law) 459 = .ok (.ireturn, 1) := by decide +kernel
theorem d_L_law_460 : decode (mC M_L_law) 460 = .ok (.aload_n 1, 1) := by decide +kernel
theorem d_L_law_461 : decode (mC M_L_law) 461 = .ok (.invokevirtual 55, 3) := by decide +kernel
theorem d_L_law_464 : decode (mC M_L_law) 464 = .ok (.aload_n 2, 1) := by decide +kernel
theorem d_L_law_465 : decode (mC M_L_law) 465 = .ok (.invokevirtual 58, 3) := by decide +kernel
theorem d_L_law_468 : decode (mC M_L_law) 468 = .ok (.if_icmp .eq 531, 3) := by decide +kernel
theorem d_L_law_471 : decode (mC M_L_law) 471 = .ok (.iconst 0, 1) := by decide +kernel
theorem d_L_law_472 : decode (mC M_L_law) 472 = .ok (.ireturn, 1) := by decide +kernel
theorem d_L_law_473 : decode (mC M_L_law) 473 = .ok (.aload_n 1, 1) := by decide +kernel
theorem d_L_law_474 : decode (mC M_L_law) 474 = .ok (.aload_n 0, 1) := by decide +kernel
theorem d_L_law_475 : decode (mC M_L_law) 475 = .ok (.iload 4, 2) := by decide +kernel
theorem d_L_law_477 : decode (mC M_L_law) 477 = .ok (.iconst 1, 1) := by decide +kernel
theorem d_L_law_478 : decode (mC M_L_law) 478 = .ok (.iadd, 1) := by decide +kernel
theorem d_L_law_479 : decode (mC M_L_law) 479 = .ok (.iaload, 1) := by decide +kernel
theorem d_L_law_480 : decode (mC M_L_law) 480 = .ok (.invokevirtual 59, 3) := by decide +kernel
theorem d_L_law_483 : decode (mC M_L_law) 483 = .ok (.aload_n 2, 1) := by decide +kernel
theorem d_L_law_484 : decode (mC M_L_law) 484 = .ok (.aload_n 0, 1) := by decide +kernel
theorem d_L_law_485 : decode (mC M_L_law) 485 = .ok (.iload 4, 2) := by decide +kernel
theorem d_L_law_487 : decode (mC M_L_law) 487 = .ok (.iconst 1, 1) := by decide +kernel
theorem d_L_law_488 : decode (mC M_L_law) 488 = .ok (.iadd, 1) := by decide +kernel
theorem d_L_law_489 : decode (mC M_L_law) 489 = .ok (.iaload, 1) := by decide +kernel
theorem d_L_law_490 : decode (mC M_L_law) 490 = .ok (.invokevirtual 62, 3) := by decide +kernel
theorem d_L_law_493 : decode (mC M_L_law) 493 = .ok (.if_icmp .eq 506, 3) := by decide +kernel
theorem d_L_law_496 : decode (mC M_L_law) 496 = .ok (.iconst 0, 1) := by decide +kernel
theorem d_L_law_497 : decode (mC M_L_law) 497 = .ok (.ireturn, 1) := by decide +kernel
theorem d_L_law_498 : decode (mC M_L_law) 498 = .ok (.aload_n 1, 1) := by decide +kernel
theorem d_L_law_499 : decode (mC M_L_law) 499 = .ok (.aload_n 0, 1) := by decide +kernel
theorem d_L_law_500 : decode (mC M_L_law) 500 = .ok (.iload 4, 2) := by decide +kernel
theorem d_L_law_502 : decode (mC M_L_law) 502 = .ok (.iconst 1, 1) := by decide +kernel
theorem d_L_law_503 : decode (mC M_L_law) 503 = .ok (.iadd, 1) := by decide +kernel
theorem d_L_law_504 : decode (mC M_L_law) 504 = .ok (.iaload, 1) := by decide +kernel
theorem d_L_law_505 : decode (mC M_L_law) 505 = .ok (.invokevirtual 63, 3) := by decide +kernel
theorem d_L_law_508 : decode (mC M_L_law) 508 = .ok (.aload_n 2, 1) := by decide +kernel
theorem d_L_law_509 : decode (mC M_L_law) 509 = .ok (.aload_n 0, 1) := by decide +kernel
theorem d_L_law_510 : decode (mC M_L_law) 510 = .ok (.iload 4, 2) := by decide +kernel
theorem d_L_law_512 : decode (mC M_L_law) 512 = .ok (.iconst 1, 1) := by decide +kernel
theorem d_L_law_513 : decode (mC M_L_law) 513 = .ok (.iadd, 1) := by decide +kernel
theorem d_L_law_514 : decode (mC M_L_law) 514 = .ok (.iaload, 1) := by decide +kernel
theorem d_L_law_515 : decode (mC M_L_law) 515 = .ok (.invokevirtual 66, 3) := by decide +kernel
theorem d_L_law_518 : decode (mC M_L_law) 518 = .ok (.if_icmp .eq 481, 3) := by decide +kernel
theorem d_L_law_521 : decode (mC M_L_law) 521 = .ok (.iconst 0, 1) := by decide +kernel
theorem d_L_law_522 : decode (mC M_L_law) 522 = .ok (.ireturn, 1) := by decide +kernel
theorem d_L_law_523 : decode (mC M_L_law) 523 = .ok (.aload_n 1, 1) := by decide +kernel
theorem d_L_law_524 : decode (mC M_L_law) 524 = .ok (.aload_n 0, 1) := by decide +kernel
theorem d_L_law_525 : decode (mC M_L_law) 525 = .ok (.iload 4, 2) := by decide +kernel
theorem d_L_law_527 : decode (mC M_L_law) 527 = .ok (.iconst 1, 1) := by decide +kernel
theorem d_L_law_528 : decode (mC M_L_law) 528 = .ok (.iadd, 1) := by decide +kernel
theorem d_L_law_529 : decode (mC M_L_law) 529 = .ok (.iaload, 1) := by decide +kernel
theorem d_L_law_530 : decode (mC M_L_law) 530 = .ok (.invokevirtual 67, 3) := by decide +kernel
theorem d_L_law_533 : decode (mC M_L_law) 533 = .ok (.aload_n 2, 1) := by decide +kernel
theorem d_L_law_534 : decode (mC M_L_law) 534 = .ok (.aload_n 0, 1) := by decide +kernel
theorem d_L_law_535 : decode (mC M_L_law) 535 = .ok (.iload 4, 2) := by decide +kernel
theorem d_L_law_537 : decode (mC M_L_law) 537 = .ok (.iconst 1, 1) := by decide +kernel
theorem d_L_law_538 : decode (mC M_L_law) 538 = .ok (.iadd, 1) := by decide +kernel
theorem d_L_law_539 : decode (mC M_L_law) 539 = .ok (.iaload, 1) := by decide +kernel
theorem d_L_law_540 : decode (mC M_L_law) 540 = .ok (.invokevirtual 70, 3) := by decide +kernel
theorem d_L_law_543 : decode (mC M_L_law) 543 = .ok (.if_icmp .eq 456, 3) := by decide +kernel
theorem d_L_law_546 : decode (mC M_L_law) 546 = .ok (.iconst 0, 1) := by decide +kernel
theorem d_L_law_547 : decode (mC M_L_law) 547 = .ok (.ireturn, 1) := by decide +kernel
theorem d_L_law_548 : decode (mC M_L_law) 548 = .ok (.aload_n 1, 1) := by decide +kernel
theorem d_L_law_549 : decode (mC M_L_law) 549 = .ok (.aload_n 0, 1) := by decide +kernel
theorem d_L_law_550 : decode (mC M_L_law) 550 = .ok (.iload 4, 2) := by decide +kernel
theorem d_L_law_552 : decode (mC M_L_law) 552 = .ok (.iconst 1, 1) := by decide +kernel
theorem d_L_law_553 : decode (mC M_L_law) 553 = .ok (.iadd, 1) := by decide +kernel
theorem d_L_law_554 : decode (mC M_L_law) 554 = .ok (.iaload, 1) := by decide +kernel
theorem d_L_law_555 : decode (mC M_L_law) 555 = .ok (.aload_n 0, 1) := by decide +kernel
theorem d_L_law_556 : decode (mC M_L_law) 556 = .ok (.iload 4, 2) := by decide +kernel
theorem d_L_law_558 : decode (mC M_L_law) 558 = .ok (.iconst 2, 1) := by decide +kernel
theorem d_L_law_559 : decode (mC M_L_law) 559 = .ok (.iadd, 1) := by decide +kernel
theorem d_L_law_560 : decode (mC M_L_law) 560 = .ok (.iaload, 1) := by decide +kernel
theorem d_L_law_561 : decode (mC M_L_law) 561 = .ok (.invokevirtual 71, 3) := by decide +kernel
theorem d_L_law_564 : decode (mC M_L_law) 564 = .ok (.aload_n 2, 1) := by decide +kernel
theorem d_L_law_565 : decode (mC M_L_law) 565 = .ok (.aload_n 0, 1) := by decide +kernel
theorem d_L_law_566 : decode (mC M_L_law) 566 = .ok (.iload 4, 2) := by decide +kernel
theorem d_L_law_568 : decode (mC M_L_law) 568 = .ok (.iconst 1, 1) := by decide +kernel
theorem d_L_law_569 : decode (mC M_L_law) 569 = .ok (.iadd, 1) := by decide +kernel
theorem d_L_law_570 : decode (mC M_L_law) 570 = .ok (.iaload, 1) := by decide +kernel
theorem d_L_law_571 : decode (mC M_L_law) 571 = .ok (.aload_n 0, 1) := by decide +kernel
theorem d_L_law_572 : decode (mC M_L_law) 572 = .ok (.iload 4, 2) := by decide +kernel
theorem d_L_law_574 : decode (mC M_L_law) 574 = .ok (.iconst 2, 1) := by decide +kernel
theorem d_L_law_575 : decode (mC M_L_law) 575 = .ok (.iadd, 1) := by decide +kernel
theorem d_L_law_576 : decode (mC M_L_law) 576 = .ok (.iaload, 1) := by decide +kernel
theorem d_L_law_577 : decode (mC M_L_law) 577 = .ok (.invokevirtual 75, 3) := by decide +kernel
theorem d_L_law_580 : decode (mC M_L_law) 580 = .ok (.if_icmp .eq 419, 3) := by decide +kernel
theorem d_L_law_583 : decode (mC M_L_law) 583 = .ok (.iconst 0, 1) := by decide +kernel
theorem d_L_law_584 : decode (mC M_L_law) 584 = .ok (.ireturn, 1) := by decide +kernel
theorem d_L_law_585 : decode (mC M_L_law) 585 = .ok (.aload_n 1, 1) := by decide +kernel
theorem d_L_law_586 : decode (mC M_L_law) 586 = .ok (.aload_n 0, 1) := by decide +kernel
theorem d_L_law_587 : decode (mC M_L_law) 587 = .ok (.iload 4, 2) := by decide +kernel
theorem d_L_law_589 : decode (mC M_L_law) 589 = .ok (.iconst 1, 1) := by decide +kernel
theorem d_L_law_590 : decode (mC M_L_law) 590 = .ok (.iadd, 1) := by decide +kernel
theorem d_L_law_591 : decode (mC M_L_law) 591 = .ok (.iaload, 1) := by decide +kernel
theorem d_L_law_592 : decode (mC M_L_law) 592 = .ok (.aload_n 0, 1) := by decide +kernel
theorem d_L_law_593 : decode (mC M_L_law) 593 = .ok (.iload 4, 2) := by decide +kernel
theorem d_L_law_595 : decode (mC M_L_law) 595 = .ok (.iconst 2, 1) := by decide +kernel
theorem d_L_law_596 : decode (mC M_L_law) 596 = .ok (.iadd, 1) := by decide +kernel
theorem d_L_law_597 : decode (mC M_L_law) 597 = .ok (.iaload, 1) := by decide +kernel
theorem d_L_law_598 : decode (mC M_L_law) 598 = .ok (.aload_n 0, 1) := by decide +kernel
theorem d_L_law_599 : decode (mC M_L_law) 599 = .ok (.iload 4, 2) := by decide +kernel
theorem d_L_law_601 : decode (mC M_L_law) 601 = .ok (.iconst 3, 1) := by decide +kernel
theorem d_L_law_602 : decode (mC M_L_law) 602 = .ok (.iadd, 1) := by decide +kernel
theorem d_L_law_603 : decode (mC M_L_law) 603 = .ok (.iaload, 1) := by decide +kernel
theorem d_L_law_604 : decode (mC M_L_law) 604 = .ok (.invokevirtual 76, 3) := by decide +kernel
theorem d_L_law_607 : decode (mC M_L_law) 607 = .ok (.aload_n 2, 1) := by decide +kernel
theorem d_L_law_608 : decode (mC M_L_law) 608 = .ok (.aload_n 0, 1) := by decide +kernel
theorem d_L_law_609 : decode (mC M_L_law) 609 = .ok (.iload 4, 2) := by decide +kernel
theorem d_L_law_611 : decode (mC M_L_law) 611 = .ok (.iconst 1, 1) := by decide +kernel
theorem d_L_law_612 : decode (mC M_L_law) 612 = .ok (.iadd, 1) := by decide +kernel
theorem d_L_law_613 : decode (mC M_L_law) 613 = .ok (.iaload, 1) := by decide +kernel
theorem d_L_law_614 : decode (mC M_L_law) 614 = .ok (.aload_n 0, 1) := by decide +kernel
theorem d_L_law_615 : decode (mC M_L_law) 615 = .ok (.iload 4, 2) := by decide +kernel
theorem d_L_law_617 : decode (mC M_L_law) 617 = .ok (.iconst 2, 1) := by decide +kernel
theorem d_L_law_618 : decode (mC M_L_law) 618 = .ok (.iadd, 1) := by decide +kernel
theorem d_L_law_619 : decode (mC M_L_law) 619 = .ok (.iaload, 1) := by decide +kernel
theorem d_L_law_620 : decode (mC M_L_law) 620 = .ok (.aload_n 0, 1) := by decide +kernel
theorem d_L_law_621 : decode (mC M_L_law) 621 = .ok (.iload 4, 2) := by decide +kernel
theorem d_L_law_623 : decode (mC M_L_law) 623 = .ok (.iconst 3, 1) := by decide +kernel
theorem d_L_law_624 : decode (mC M_L_law) 624 = .ok (.iadd, 1) := by decide +kernel
theorem d_L_law_625 : decode (mC M_L_law) 625 = .ok (.iaload, 1) := by decide +kernel
theorem d_L_law_626 : decode (mC M_L_law) 626 = .ok (.invokevirtual 79, 3) := by decide +kernel
theorem d_L_law_629 : decode (mC M_L_law) 629 = .ok (.if_icmp .eq 370, 3) := by decide +kernel
theorem d_L_law_632 : decode (mC M_L_law) 632 = .ok (.iconst 0, 1) := by decide +kernel
theorem d_L_law_633 : decode (mC M_L_law) 633 = .ok (.ireturn, 1) := by decide +kernel
theorem d_L_law_634 : decode (mC M_L_law) 634 = .ok (.aload_n 1, 1) := by decide +kernel
theorem d_L_law_635 : decode (mC M_L_law) 635 = .ok (.aload_n 0, 1) := by decide +kernel
theorem d_L_law_636 : decode (mC M_L_law) 636 = .ok (.iload 4, 2) := by decide +kernel
theorem d_L_law_638 : decode (mC M_L_law) 638 = .ok (.iconst 1, 1) := by decide +kernel
theorem d_L_law_639 : decode (mC M_L_law) 639 = .ok (.iadd, 1) := by decide +kernel
theorem d_L_law_640 : decode (mC M_L_law) 640 = .ok (.iaload, 1) := by decide +kernel
theorem d_L_law_641 : decode (mC M_L_law) 641 = .ok (.aload_n 0, 1) := by decide +kernel
theorem d_L_law_642 : decode (mC M_L_law) 642 = .ok (.iload 4, 2) := by decide +kernel
theorem d_L_law_644 : decode (mC M_L_law) 644 = .ok (.iconst 2, 1) := by decide +kernel
theorem d_L_law_645 : decode (mC M_L_law) 645 = .ok (.iadd, 1) := by decide +kernel
theorem d_L_law_646 : decode (mC M_L_law) 646 = .ok (.iaload, 1) := by decide +kernel
theorem d_L_law_647 : decode (mC M_L_law) 647 = .ok (.invokevirtual 80, 3) := by decide +kernel
theorem d_L_law_650 : decode (mC M_L_law) 650 = .ok (.aload_n 2, 1) := by decide +kernel
theorem d_L_law_651 : decode (mC M_L_law) 651 = .ok (.aload_n 0, 1) := by decide +kernel
theorem d_L_law_652 : decode (mC M_L_law) 652 = .ok (.iload 4, 2) := by decide +kernel
theorem d_L_law_654 : decode (mC M_L_law) 654 = .ok (.iconst 1, 1) := by decide +kernel
theorem d_L_law_655 : decode (mC M_L_law) 655 = .ok (.iadd, 1) := by decide +kernel
theorem d_L_law_656 : decode (mC M_L_law) 656 = .ok (.iaload, 1) := by decide +kernel
theorem d_L_law_657 : decode (mC M_L_law) 657 = .ok (.aload_n 0, 1) := by decide +kernel
theorem d_L_law_658 : decode (mC M_L_law) 658 = .ok (.iload 4, 2) := by decide +kernel
theorem d_L_law_660 : decode (mC M_L_law) 660 = .ok (.iconst 2, 1) := by decide +kernel
theorem d_L_law_661 : decode (mC M_L_law) 661 = .ok (.iadd, 1) := by decide +kernel
theorem d_L_law_662 : decode (mC M_L_law) 662 = .ok (.iaload, 1) := by decide +kernel
theorem d_L_law_663 : decode (mC M_L_law) 663 = .ok (.invokevirtual 83, 3) := by decide +kernel
theorem d_L_law_666 : decode (mC M_L_law) 666 = .ok (.if_icmp .eq 333, 3) := by decide +kernel
theorem d_L_law_669 : decode (mC M_L_law) 669 = .ok (.iconst 0, 1) := by decide +kernel
theorem d_L_law_670 : decode (mC M_L_law) 670 = .ok (.ireturn, 1) := by decide +kernel
theorem d_L_law_671 : decode (mC M_L_law) 671 = .ok (.aload_n 1, 1) := by decide +kernel
theorem d_L_law_672 : decode (mC M_L_law) 672 = .ok (.aload_n 0, 1) := by decide +kernel
theorem d_L_law_673 : decode (mC M_L_law) 673 = .ok (.iload 4, 2) := by decide +kernel
theorem d_L_law_675 : decode (mC M_L_law) 675 = .ok (.iconst 1, 1) := by decide +kernel
theorem d_L_law_676 : decode (mC M_L_law) 676 = .ok (.iadd, 1) := by decide +kernel
theorem d_L_law_677 : decode (mC M_L_law) 677 = .ok (.iaload, 1) := by decide +kernel
theorem d_L_law_678 : decode (mC M_L_law) 678 = .ok (.aload_n 0, 1) := by decide +kernel
theorem d_L_law_679 : decode (mC M_L_law) 679 = .ok (.iload 4, 2) := by decide +kernel
theorem d_L_law_681 : decode (mC M_L_law) 681 = .ok (.iconst 2, 1) := by decide +kernel
theorem d_L_law_682 : decode (mC M_L_law) 682 = .ok (.iadd, 1) := by decide +kernel
theorem d_L_law_683 : decode (mC M_L_law) 683 = .ok (.iaload, 1) := by decide +kernel
theorem d_L_law_684 : decode (mC M_L_law) 684 = .ok (.aload_n 0, 1) := by decide +kernel
theorem d_L_law_685 : decode (mC M_L_law) 685 = .ok (.iload 4, 2) := by decide +kernel
theorem d_L_law_687 : decode (mC M_L_law) 687 = .ok (.iconst 3, 1) := by decide +kernel
theorem d_L_law_688 : decode (mC M_L_law) 688 = .ok (.iadd, 1) := by decide +kernel
theorem d_L_law_689 : decode (mC M_L_law) 689 = .ok (.iaload, 1) := by decide +kernel
theorem d_L_law_690 : decode (mC M_L_law) 690 = .ok (.aload_n 3, 1) := by decide +kernel
theorem d_L_law_691 : decode (mC M_L_law) 691 = .ok (.invokestatic 84, 3) := by decide +kernel
theorem d_L_law_694 : decode (mC M_L_law) 694 = .ok (.istore 5, 2) := by decide +kernel
theorem d_L_law_696 : decode (mC M_L_law) 696 = .ok (.aload_n 2, 1) := by decide +kernel
theorem d_L_law_697 : decode (mC M_L_law) 697 = .ok (.aload_n 0, 1) := by decide +kernel
theorem d_L_law_698 : decode (mC M_L_law) 698 = .ok (.iload 4, 2) := by decide +kernel
theorem d_L_law_700 : decode (mC M_L_law) 700 = .ok (.iconst 1, 1) := by decide +kernel
theorem d_L_law_701 : decode (mC M_L_law) 701 = .ok (.iadd, 1) := by decide +kernel
theorem d_L_law_702 : decode (mC M_L_law) 702 = .ok (.iaload, 1) := by decide +kernel
theorem d_L_law_703 : decode (mC M_L_law) 703 = .ok (.aload_n 0, 1) := by decide +kernel
theorem d_L_law_704 : decode (mC M_L_law) 704 = .ok (.iload 4, 2) := by decide +kernel
theorem d_L_law_706 : decode (mC M_L_law) 706 = .ok (.iconst 2, 1) := by decide +kernel
theorem d_L_law_707 : decode (mC M_L_law) 707 = .ok (.iadd, 1) := by decide +kernel
theorem d_L_law_708 : decode (mC M_L_law) 708 = .ok (.iaload, 1) := by decide +kernel
theorem d_L_law_709 : decode (mC M_L_law) 709 = .ok (.aload_n 0, 1) := by decide +kernel
theorem d_L_law_710 : decode (mC M_L_law) 710 = .ok (.iload 4, 2) := by decide +kernel
theorem d_L_law_712 : decode (mC M_L_law) 712 = .ok (.iconst 3, 1) := by decide +kernel
theorem d_L_law_713 : decode (mC M_L_law) 713 = .ok (.iadd, 1) := by decide +kernel
theorem d_L_law_714 : decode (mC M_L_law) 714 = .ok (.iaload, 1) := by decide +kernel
theorem d_L_law_715 : decode (mC M_L_law) 715 = .ok (.invokevirtual 89, 3) := by decide +kernel
theorem d_L_law_718 : decode (mC M_L_law) 718 = .ok (.istore 6, 2) := by decide +kernel
theorem d_L_law_720 : decode (mC M_L_law) 720 = .ok (.aload_n 2, 1) := by decide +kernel
theorem d_L_law_721 : decode (mC M_L_law) 721 = .ok (.invokevirtual 90, 3) := by decide +kernel
theorem d_L_law_724 : decode (mC M_L_law) 724 = .ok (.iload 5, 2) := by decide +kernel
theorem d_L_law_726 : decode (mC M_L_law) 726 = .ok (.if_icmp .eq 5, 3) := by decide +kernel
theorem d_L_law_729 : decode (mC M_L_law) 729 = .ok (.iconst 0, 1) := by decide +kernel
theorem d_L_law_730 : decode (mC M_L_law) 730 = .ok (.ireturn, 1) := by decide +kernel
theorem d_L_law_731 : decode (mC M_L_law) 731 = .ok (.iload 5, 2) := by decide +kernel
theorem d_L_law_733 : decode (mC M_L_law) 733 = .ok (.ifCond .ne 15, 3) := by decide +kernel
theorem d_L_law_736 : decode (mC M_L_law) 736 = .ok (.aload_n 3, 1) := by decide +kernel
theorem d_L_law_737 : decode (mC M_L_law) 737 = .ok (.iconst 0, 1) := by decide +kernel
theorem d_L_law_738 : decode (mC M_L_law) 738 = .ok (.laload, 1) := by decide +kernel
theorem d_L_law_739 : decode (mC M_L_law) 739 = .ok (.iload 6, 2) := by decide +kernel
theorem d_L_law_741 : decode (mC M_L_law) 741 = .ok (.i2l, 1) := by decide +kernel
theorem d_L_law_742 : decode (mC M_L_law) 742 = .ok (.lcmp, 1) := by decide +kernel
theorem d_L_law_743 : decode (mC M_L_law) 743 = .ok (.ifCond .eq 5, 3) := by decide +kernel
theorem d_L_law_746 : decode (mC M_L_law) 746 = .ok (.iconst 0, 1) := by decide +kernel
theorem d_L_law_747 : decode (mC M_L_law) 747 = .ok (.ireturn, 1) := by decide +kernel
theorem d_L_law_748 : decode (mC M_L_law) 748 = .ok (.goto 251, 3) := by decide +kernel
theorem d_L_law_751 : decode (mC M_L_law) 751 = .ok (.aload_n 1, 1) := by decide +kernel
theorem d_L_law_752 : decode (mC M_L_law) 752 = .ok (.aload_n 0, 1) := by decide +kernel
theorem d_L_law_753 : decode (mC M_L_law) 753 = .ok (.iload 4, 2) := by decide +kernel
theorem d_L_law_755 : decode (mC M_L_law) 755 = .ok (.iconst 1, 1) := by decide +kernel
theorem d_L_law_756 : decode (mC M_L_law) 756 = .ok (.iadd, 1) := by decide +kernel
theorem d_L_law_757 : decode (mC M_L_law) 757 = .ok (.iaload, 1) := by decide +kernel
theorem d_L_law_758 : decode (mC M_L_law) 758 = .ok (.aload_n 0, 1) := by decide +kernel
theorem d_L_law_759 : decode (mC M_L_law) 759 = .ok (.iload 4, 2) := by decide +kernel
theorem d_L_law_761 : decode (mC M_L_law) 761 = .ok (.iconst 2, 1) := by decide +kernel
theorem d_L_law_762 : decode (mC M_L_law) 762 = .ok (.iadd, 1) := by decide +kernel
theorem d_L_law_763 : decode (mC M_L_law) 763 = .ok (.iaload, 1) := by decide +kernel
theorem d_L_law_764 : decode (mC M_L_law) 764 = .ok (.invokevirtual 93, 3) := by decide +kernel
theorem d_L_law_767 : decode (mC M_L_law) 767 = .ok (.aload_n 2, 1) := by decide +kernel
theorem d_L_law_768 : decode (mC M_L_law) 768 = .ok (.aload_n 0, 1) := by decide +kernel
theorem d_L_law_769 : decode (mC M_L_law) 769 = .ok (.iload 4, 2) := by decide +kernel
theorem d_L_law_771 : decode (mC M_L_law) 771 = .ok (.iconst 1, 1) := by decide +kernel
theorem d_L_law_772 : decode (mC M_L_law) 772 = .ok (.iadd, 1) := by decide +kernel
theorem d_L_law_773 : decode (mC M_L_law) 773 = .ok (.iaload, 1) := by decide +kernel
theorem d_L_law_774 : decode (mC M_L_law) 774 = .ok (.aload_n 0, 1) := by decide +kernel
theorem d_L_law_775 : decode (mC M_L_law) 775 = .ok (.iload 4, 2) := by decide +kernel
theorem d_L_law_777 : decode (mC M_L_law) 777 = .ok (.iconst 2, 1) := by decide +kernel
theorem d_L_law_778 : decode (mC M_L_law) 778 = .ok (.iadd, 1) := by decide +kernel
theorem d_L_law_779 : decode (mC M_L_law) 779 = .ok (.iaload, 1) := by decide +kernel
theorem d_L_law_780 : decode (mC M_L_law) 780 = .ok (.invokevirtual 96, 3) := by decide +kernel
theorem d_L_law_783 : decode (mC M_L_law) 783 = .ok (.if_icmp .eq 216, 3) := by decide +kernel
theorem d_L_law_786 : decode (mC M_L_law) 786 = .ok (.iconst 0, 1) := by decide +kernel
theorem d_L_law_787 : decode (mC M_L_law) 787 = .ok (.ireturn, 1) := by decide +kernel
theorem d_L_law_788 : decode (mC M_L_law) 788 = .ok (.aload_n 1, 1) := by decide +kernel
theorem d_L_law_789 : decode (mC M_L_law) 789 = .ok (.aload_n 0, 1) := by decide +kernel
theorem d_L_law_790 : decode (mC M_L_law) 790 = .ok (.iload 4, 2) := by decide +kernel
theorem d_L_law_792 : decode (mC M_L_law) 792 = .ok (.iconst 1, 1) := by decide +kernel
theorem d_L_law_793 : decode (mC M_L_law) 793 = .ok (.iadd, 1) := by decide +kernel
theorem d_L_law_794 : decode (mC M_L_law) 794 = .ok (.iaload, 1) := by decide +kernel
theorem d_L_law_795 : decode (mC M_L_law) 795 = .ok (.invokevirtual 97, 3) := by decide +kernel
theorem d_L_law_798 : decode (mC M_L_law) 798 = .ok (.aload_n 2, 1) := by decide +kernel
theorem d_L_law_799 : decode (mC M_L_law) 799 = .ok (.aload_n 0, 1) := by decide +kernel
theorem d_L_law_800 : decode (mC M_L_law) 800 = .ok (.iload 4, 2) := by decide +kernel
theorem d_L_law_802 : decode (mC M_L_law) 802 = .ok (.iconst 1, 1) := by decide +kernel
theorem d_L_law_803 : decode (mC M_L_law) 803 = .ok (.iadd, 1) := by decide +kernel
theorem d_L_law_804 : decode (mC M_L_law) 804 = .ok (.iaload, 1) := by decide +kernel
theorem d_L_law_805 : decode (mC M_L_law) 805 = .ok (.invokevirtual 100, 3) := by decide +kernel
theorem d_L_law_808 : decode (mC M_L_law) 808 = .ok (.if_icmp .eq 191, 3) := by decide +kernel
theorem d_L_law_811 : decode (mC M_L_law) 811 = .ok (.iconst 0, 1) := by decide +kernel
theorem d_L_law_812 : decode (mC M_L_law) 812 = .ok (.ireturn, 1) := by decide +kernel
theorem d_L_law_813 : decode (mC M_L_law) 813 = .ok (.aload_n 1, 1) := by decide +kernel
theorem d_L_law_814 : decode (mC M_L_law) 814 = .ok (.aload_n 0, 1) := by decide +kernel
theorem d_L_law_815 : decode (mC M_L_law) 815 = .ok (.iload 4, 2) := by decide +kernel
theorem d_L_law_817 : decode (mC M_L_law) 817 = .ok (.iconst 1, 1) := by decide +kernel
theorem d_L_law_818 : decode (mC M_L_law) 818 = .ok (.iadd, 1) := by decide +kernel
theorem d_L_law_819 : decode (mC M_L_law) 819 = .ok (.iaload, 1) := by decide +kernel
theorem d_L_law_820 : decode (mC M_L_law) 820 = .ok (.aload_n 0, 1) := by decide +kernel
theorem d_L_law_821 : decode (mC M_L_law) 821 = .ok (.iload 4, 2) := by decide +kernel
theorem d_L_law_823 : decode (mC M_L_law) 823 = .ok (.iconst 2, 1) := by decide +kernel
theorem d_L_law_824 : decode (mC M_L_law) 824 = .ok (.iadd, 1) := by decide +kernel
theorem d_L_law_825 : decode (mC M_L_law) 825 = .ok (.iaload, 1) := by decide +kernel
theorem d_L_law_826 : decode (mC M_L_law) 826 = .ok (.invokevirtual 101, 3) := by decide +kernel
theorem d_L_law_829 : decode (mC M_L_law) 829 = .ok (.aload_n 2, 1) := by decide +kernel
theorem d_L_law_830 : decode (mC M_L_law) 830 = .ok (.aload_n 0, 1) := by decide +kernel
theorem d_L_law_831 : decode (mC M_L_law) 831 = .ok (.iload 4, 2) := by decide +kernel
theorem d_L_law_833 : decode (mC M_L_law) 833 = .ok (.iconst 1, 1) := by decide +kernel
theorem d_L_law_834 : decode (mC M_L_law) 834 = .ok (.iadd, 1) := by decide +kernel
theorem d_L_law_835 : decode (mC M_L_law) 835 = .ok (.iaload, 1) := by decide +kernel
theorem d_L_law_836 : decode (mC M_L_law) 836 = .ok (.aload_n 0, 1) := by decide +kernel
theorem d_L_law_837 : decode (mC M_L_law) 837 = .ok (.iload 4, 2) := by decide +kernel
theorem d_L_law_839 : decode (mC M_L_law) 839 = .ok (.iconst 2, 1) := by decide +kernel
theorem d_L_law_840 : decode (mC M_L_law) 840 = .ok (.iadd, 1) := by decide +kernel
theorem d_L_law_841 : decode (mC M_L_law) 841 = .ok (.iaload, 1) := by decide +kernel
theorem d_L_law_842 : decode (mC M_L_law) 842 = .ok (.invokevirtual 104, 3) := by decide +kernel
theorem d_L_law_845 : decode (mC M_L_law) 845 = .ok (.if_icmp .eq 154, 3) := by decide +kernel
theorem d_L_law_848 : decode (mC M_L_law) 848 = .ok (.iconst 0, 1) := by decide +kernel
theorem d_L_law_849 : decode (mC M_L_law) 849 = .ok (.ireturn, 1) := by decide +kernel
theorem d_L_law_850 : decode (mC M_L_law) 850 = .ok (.aload_n 1, 1) := by decide +kernel
theorem d_L_law_851 : decode (mC M_L_law) 851 = .ok (.aload_n 0, 1) := by decide +kernel
theorem d_L_law_852 : decode (mC M_L_law) 852 = .ok (.iload 4, 2) := by decide +kernel
theorem d_L_law_854 : decode (mC M_L_law) 854 = .ok (.iconst 1, 1) := by decide +kernel
theorem d_L_law_855 : decode (mC M_L_law) 855 = .ok (.iadd, 1) := by decide +kernel
theorem d_L_law_856 : decode (mC M_L_law) 856 = .ok (.iaload, 1) := by decide +kernel
theorem d_L_law_857 : decode (mC M_L_law) 857 = .ok (.aload_n 0, 1) := by decide +kernel
theorem d_L_law_858 : decode (mC M_L_law) 858 = .ok (.iload 4, 2) := by decide +kernel
theorem d_L_law_860 : decode (mC M_L_law) 860 = .ok (.iconst 2, 1) := by decide +kernel
theorem d_L_law_861 : decode (mC M_L_law) 861 = .ok (.iadd, 1) := by decide +kernel
theorem d_L_law_862 : decode (mC M_L_law) 862 = .ok (.iaload, 1) := by decide +kernel
theorem d_L_law_863 : decode (mC M_L_law) 863 = .ok (.invokevirtual 105, 3) := by decide +kernel
theorem d_L_law_866 : decode (mC M_L_law) 866 = .ok (.aload_n 2, 1) := by decide +kernel
theorem d_L_law_867 : decode (mC M_L_law) 867 = .ok (.aload_n 0, 1) := by decide +kernel
theorem d_L_law_868 : decode (mC M_L_law) 868 = .ok (.iload 4, 2) := by decide +kernel
theorem d_L_law_870 : decode (mC M_L_law) 870 = .ok (.iconst 1, 1) := by decide +kernel
theorem d_L_law_871 : decode (mC M_L_law) 871 = .ok (.iadd, 1) := by decide +kernel
theorem d_L_law_872 : decode (mC M_L_law) 872 = .ok (.iaload, 1) := by decide +kernel
theorem d_L_law_873 : decode (mC M_L_law) 873 = .ok (.aload_n 0, 1) := by decide +kernel
theorem d_L_law_874 : decode (mC M_L_law) 874 = .ok (.iload 4, 2) := by decide +kernel
theorem d_L_law_876 : decode (mC M_L_law) 876 = .ok (.iconst 2, 1) := by decide +kernel
theorem d_L_law_877 : decode (mC M_L_law) 877 = .ok (.iadd, 1) := by decide +kernel
theorem d_L_law_878 : decode (mC M_L_law) 878 = .ok (.iaload, 1) := by decide +kernel
theorem d_L_law_879 : decode (mC M_L_law) 879 = .ok (.invokevirtual 108, 3) := by decide +kernel
theorem d_L_law_882 : decode (mC M_L_law) 882 = .ok (.if_icmp .eq 117, 3) := by decide +kernel
theorem d_L_law_885 : decode (mC M_L_law) 885 = .ok (.iconst 0, 1) := by decide +kernel
theorem d_L_law_886 : decode (mC M_L_law) 886 = .ok (.ireturn, 1) := by decide +kernel
theorem d_L_law_887 : decode (mC M_L_law) 887 = .ok (.aload_n 1, 1) := by decide +kernel
theorem d_L_law_888 : decode (mC M_L_law) 888 = .ok (.aload_n 0, 1) := by decide +kernel
theorem d_L_law_889 : decode (mC M_L_law) 889 = .ok (.iload 4, 2) := by decide +kernel
theorem d_L_law_891 : decode (mC M_L_law) 891 = .ok (.iconst 1, 1) := by decide +kernel
theorem d_L_law_892 : decode (mC M_L_law) 892 = .ok (.iadd, 1) := by decide +kernel
theorem d_L_law_893 : decode (mC M_L_law) 893 = .ok (.iaload, 1) := by decide +kernel
theorem d_L_law_894 : decode (mC M_L_law) 894 = .ok (.aload_n 0, 1) := by decide +kernel
theorem d_L_law_895 : decode (mC M_L_law) 895 = .ok (.iload 4, 2) := by decide +kernel
theorem d_L_law_897 : decode (mC M_L_law) 897 = .ok (.iconst 2, 1) := by decide +kernel
theorem d_L_law_898 : decode (mC M_L_law) 898 = .ok (.iadd, 1) := by decide +kernel
theorem d_L_law_899 : decode (mC M_L_law) 899 = .ok (.iaload, 1) := by decide +kernel
theorem d_L_law_900 : decode (mC M_L_law) 900 = .ok (.invokevirtual 109, 3) := by decide +kernel
theorem d_L_law_903 : decode (mC M_L_law) 903 = .ok (.aload_n 2, 1) := by decide +kernel
theorem d_L_law_904 : decode (mC M_L_law) 904 = .ok (.aload_n 0, 1) := by decide +kernel
theorem d_L_law_905 : decode (mC M_L_law) 905 = .ok (.iload 4, 2) := by decide +kernel
theorem d_L_law_907 : decode (mC M_L_law) 907 = .ok (.iconst 1, 1) := by decide +kernel
theorem d_L_law_908 : decode (mC M_L_law) 908 = .ok (.iadd, 1) := by decide +kernel
theorem d_L_law_909 : decode (mC M_L_law) 909 = .ok (.iaload, 1) := by decide +kernel
theorem d_L_law_910 : decode (mC M_L_law) 910 = .ok (.aload_n 0, 1) := by decide +kernel
theorem d_L_law_911 : decode (mC M_L_law) 911 = .ok (.iload 4, 2) := by decide +kernel
theorem d_L_law_913 : decode (mC M_L_law) 913 = .ok (.iconst 2, 1) := by decide +kernel
theorem d_L_law_914 : decode (mC M_L_law) 914 = .ok (.iadd, 1) := by decide +kernel
theorem d_L_law_915 : decode (mC M_L_law) 915 = .ok (.iaload, 1) := by decide +kernel
theorem d_L_law_916 : decode (mC M_L_law) 916 = .ok (.invokevirtual 112, 3) := by decide +kernel
theorem d_L_law_919 : decode (mC M_L_law) 919 = .ok (.if_icmp .eq 80, 3) := by decide +kernel
theorem d_L_law_922 : decode (mC M_L_law) 922 = .ok (.iconst 0, 1) := by decide +kernel
theorem d_L_law_923 : decode (mC M_L_law) 923 = .ok (.ireturn, 1) := by decide +kernel
theorem d_L_law_924 : decode (mC M_L_law) 924 = .ok (.aload_n 1, 1) := by decide +kernel
theorem d_L_law_925 : decode (mC M_L_law) 925 = .ok (.aload_n 0, 1) := by decide +kernel
theorem d_L_law_926 : decode (mC M_L_law) 926 = .ok (.iload 4, 2) := by decide +kernel
theorem d_L_law_928 : decode (mC M_L_law) 928 = .ok (.iconst 1, 1) := by decide +kernel
theorem d_L_law_929 : decode (mC M_L_law) 929 = .ok (.iadd, 1) := by decide +kernel
theorem d_L_law_930 : decode (mC M_L_law) 930 = .ok (.iaload, 1) := by decide +kernel
theorem d_L_law_931 : decode (mC M_L_law) 931 = .ok (.aload_n 0, 1) := by decide +kernel
theorem d_L_law_932 : decode (mC M_L_law) 932 = .ok (.iload 4, 2) := by decide +kernel
theorem d_L_law_934 : decode (mC M_L_law) 934 = .ok (.iconst 2, 1) := by decide +kernel
theorem d_L_law_935 : decode (mC M_L_law) 935 = .ok (.iadd, 1) := by decide +kernel
theorem d_L_law_936 : decode (mC M_L_law) 936 = .ok (.iaload, 1) := by decide +kernel
theorem d_L_law_937 : decode (mC M_L_law) 937 = .ok (.aload_n 0, 1) := by decide +kernel
theorem d_L_law_938 : decode (mC M_L_law) 938 = .ok (.iload 4, 2) := by decide +kernel
theorem d_L_law_940 : decode (mC M_L_law) 940 = .ok (.iconst 3, 1) := by decide +kernel
theorem d_L_law_941 : decode (mC M_L_law) 941 = .ok (.iadd, 1) := by decide +kernel
theorem d_L_law_942 : decode (mC M_L_law) 942 = .ok (.iaload, 1) := by decide +kernel
theorem d_L_law_943 : decode (mC M_L_law) 943 = .ok (.invokevirtual 113, 3) := by decide +kernel
theorem d_L_law_946 : decode (mC M_L_law) 946 = .ok (.aload_n 2, 1) := by decide +kernel
theorem d_L_law_947 : decode (mC M_L_law) 947 = .ok (.aload_n 0, 1) := by decide +kernel
theorem d_L_law_948 : decode (mC M_L_law) 948 = .ok (.iload 4, 2) := by decide +kernel
theorem d_L_law_950 : decode (mC M_L_law) 950 = .ok (.iconst 1, 1) := by decide +kernel
theorem d_L_law_951 : decode (mC M_L_law) 951 = .ok (.iadd, 1) := by decide +kernel
theorem d_L_law_952 : decode (mC M_L_law) 952 = .ok (.iaload, 1) := by decide +kernel
theorem d_L_law_953 : decode (mC M_L_law) 953 = .ok (.aload_n 0, 1) := by decide +kernel
theorem d_L_law_954 : decode (mC M_L_law) 954 = .ok (.iload 4, 2) := by decide +kernel
theorem d_L_law_956 : decode (mC M_L_law) 956 = .ok (.iconst 2, 1) := by decide +kernel
theorem d_L_law_957 : decode (mC M_L_law) 957 = .ok (.iadd, 1) := by decide +kernel
theorem d_L_law_958 : decode (mC M_L_law) 958 = .ok (.iaload, 1) := by decide +kernel
theorem d_L_law_959 : decode (mC M_L_law) 959 = .ok (.aload_n 0, 1) := by decide +kernel
theorem d_L_law_960 : decode (mC M_L_law) 960 = .ok (.iload 4, 2) := by decide +kernel
theorem d_L_law_962 : decode (mC M_L_law) 962 = .ok (.iconst 3, 1) := by decide +kernel
theorem d_L_law_963 : decode (mC M_L_law) 963 = .ok (.iadd, 1) := by decide +kernel
theorem d_L_law_964 : decode (mC M_L_law) 964 = .ok (.iaload, 1) := by decide +kernel
theorem d_L_law_965 : decode (mC M_L_law) 965 = .ok (.invokevirtual 117, 3) := by decide +kernel
theorem d_L_law_968 : decode (mC M_L_law) 968 = .ok (.lcmp, 1) := by decide +kernel
theorem d_L_law_969 : decode (mC M_L_law) 969 = .ok (.ifCond .eq 30, 3) := by decide +kernel
theorem d_L_law_972 : decode (mC M_L_law) 972 = .ok (.iconst 0, 1) := by decide +kernel
theorem d_L_law_973 : decode (mC M_L_law) 973 = .ok (.ireturn, 1) := by decide +kernel
theorem d_L_law_974 : decode (mC M_L_law) 974 = .ok (.aload_n 1, 1) := by decide +kernel
theorem d_L_law_975 : decode (mC M_L_law) 975 = .ok (.aload_n 0, 1) := by decide +kernel
theorem d_L_law_976 : decode (mC M_L_law) 976 = .ok (.iload 4, 2) := by decide +kernel
theorem d_L_law_978 : decode (mC M_L_law) 978 = .ok (.iconst 1, 1) := by decide +kernel
theorem d_L_law_979 : decode (mC M_L_law) 979 = .ok (.iadd, 1) := by decide +kernel
theorem d_L_law_980 : decode (mC M_L_law) 980 = .ok (.iaload, 1) := by decide +kernel
theorem d_L_law_981 : decode (mC M_L_law) 981 = .ok (.invokevirtual 118, 3) := by decide +kernel
theorem d_L_law_984 : decode (mC M_L_law) 984 = .ok (.aload_n 2, 1) := by decide +kernel
theorem d_L_law_985 : decode (mC M_L_law) 985 = .ok (.aload_n 0, 1) := by decide +kernel
theorem d_L_law_986 : decode (mC M_L_law) 986 = .ok (.iload 4, 2) := by decide +kernel
theorem d_L_law_988 : decode (mC M_L_law) 988 = .ok (.iconst 1, 1) := by decide +kernel
theorem d_L_law_989 : decode (mC M_L_law) 989 = .ok (.iadd, 1) := by decide +kernel
theorem d_L_law_990 : decode (mC M_L_law) 990 = .ok (.iaload, 1) := by decide +kernel
theorem d_L_law_991 : decode (mC M_L_law) 991 = .ok (.invokevirtual 121, 3) := by decide +kernel
theorem d_L_law_994 : decode (mC M_L_law) 994 = .ok (.if_icmp .eq 5, 3) := by decide +kernel
theorem d_L_law_997 : decode (mC M_L_law) 997 = .ok (.iconst 0, 1) := by decide +kernel
theorem d_L_law_998 : decode (mC M_L_law) 998 = .ok (.ireturn, 1) := by decide +kernel
theorem d_L_law_999 : decode (mC M_L_law) 999 = .ok (.iinc 4 6, 3) := by decide +kernel
theorem d_L_law_1002 : decode (mC M_L_law) 1002 = .ok (.goto (-979), 3) := by decide +kernel
theorem d_L_law_1005 : decode (mC M_L_law) 1005 = .ok (.iconst 1, 1) := by decide +kernel
theorem d_L_law_1006 : decode (mC M_L_law) 1006 = .ok (.ireturn, 1) := by decide +kernel
