theorem m_205 : Cond.code yX1_isKind cX1_isKind 1 (some .boolean) ∈ q_T := q_mem 205 (by decide +kernel) (by decide +kernel)
theorem m_7 : Cond.initialized RX1 ∈ q_T := q_mem 7 (by decide +kernel) (by decide +kernel)
theorem m_204 : Cond.static yX1_isKind ∈ q_T := q_mem 204 (by decide +kernel) (by decide +kernel)
theorem m_203 : Cond.methodLink RX5 51 yX1_isKind ∈ q_T := q_mem 203 (by decide +kernel) (by decide +kernel)
theorem m_174 : Cond.fieldLink RX5 10 RX5 (TX5 0).2.1 (TX5 0).2.2.1 ∈ q_T := q_mem 174 (by decide +kernel) (by decide +kernel)
theorem m_30 : Cond.fieldLink RX5 62 RX0 (TX0 0).2.1 (TX0 0).2.2.1 ∈ q_T := q_mem 30 (by decide +kernel) (by decide +kernel)
theorem m_29 : Cond.fieldLink RX0 40 RX0 (TX0 0).2.1 (TX0 0).2.2.1 ∈ q_T := q_mem 29 (by decide +kernel) (by decide +kernel)
theorem m_56 : Cond.fieldLink RX0 9 RX0 (TX0 10).2.1 (TX0 10).2.2.1 ∈ q_T := q_mem 56 (by decide +kernel) (by decide +kernel)
theorem m_57 : Cond.fieldLink RX0 15 RX0 (TX0 11).2.1 (TX0 11).2.2.1 ∈ q_T := q_mem 57 (by decide +kernel) (by decide +kernel)
theorem m_58 : Cond.fieldLink RX0 18 RX0 (TX0 12).2.1 (TX0 12).2.2.1 ∈ q_T := q_mem 58 (by decide +kernel) (by decide +kernel)
theorem m_215 : Cond.code yX0_addDoll cX0_addDoll 2 (some .int) ∈ q_T := q_mem 215 (by decide +kernel) (by decide +kernel)
theorem m_2 : Cond.initialized RX0 ∈ q_T := q_mem 2 (by decide +kernel) (by decide +kernel)
theorem m_213 : Cond.instanceMethod yX0_addDoll ∈ q_T := q_mem 213 (by decide +kernel) (by decide +kernel)
theorem m_214 : Cond.selects RX0 yX0_addDoll yX0_addDoll ∈ q_T := q_mem 214 (by decide +kernel) (by decide +kernel)
theorem m_212 : Cond.methodLink RX5 67 yX0_addDoll ∈ q_T := q_mem 212 (by decide +kernel) (by decide +kernel)
theorem m_211 : Cond.constant RX5 66 (-1000002) ∈ q_T := q_mem 211 (by decide +kernel) (by decide +kernel)
theorem m_206 : Cond.constant RX5 57 (-1000001) ∈ q_T := q_mem 206 (by decide +kernel) (by decide +kernel)
theorem m_180 : Cond.fieldLink RX5 43 RX5 (TX5 6).2.1 (TX5 6).2.2.1 ∈ q_T := q_mem 180 (by decide +kernel) (by decide +kernel)
theorem m_210 : Cond.code yX5_finding cX5_finding 3 (some .int) ∈ q_T := q_mem 210 (by decide +kernel) (by decide +kernel)
theorem m_1 : Cond.initialized RX5 ∈ q_T := q_mem 1 (by decide +kernel) (by decide +kernel)
theorem m_209 : Cond.instanceMethod yX5_finding ∈ q_T := q_mem 209 (by decide +kernel) (by decide +kernel)
theorem ms_0 : Cond.selects RX5 yX5_finding yX5_finding ∈ q_T := q_memS 0 (by decide +kernel) (by decide +kernel)
theorem m_207 : Cond.methodLink RX5 58 yX5_finding ∈ q_T := q_mem 207 (by decide +kernel) (by decide +kernel)
theorem m_223 : Cond.code yX0_isDoll cX0_isDoll 2 (some .boolean) ∈ q_T := q_mem 223 (by decide +kernel) (by decide +kernel)
theorem m_221 : Cond.instanceMethod yX0_isDoll ∈ q_T := q_mem 221 (by decide +kernel) (by decide +kernel)
theorem m_222 : Cond.selects RX0 yX0_isDoll yX0_isDoll ∈ q_T := q_mem 222 (by decide +kernel) (by decide +kernel)
theorem m_220 : Cond.methodLink RX5 70 yX0_isDoll ∈ q_T := q_mem 220 (by decide +kernel) (by decide +kernel)
theorem m_228 : Cond.methodLink RX0 67 yX0_isDoll ∈ q_T := q_mem 228 (by decide +kernel) (by decide +kernel)
theorem m_227 : Cond.code yX0_kindOf cX0_kindOf 2 (some .int) ∈ q_T := q_mem 227 (by decide +kernel) (by decide +kernel)
theorem m_225 : Cond.instanceMethod yX0_kindOf ∈ q_T := q_mem 225 (by decide +kernel) (by decide +kernel)
theorem m_226 : Cond.selects RX0 yX0_kindOf yX0_kindOf ∈ q_T := q_mem 226 (by decide +kernel) (by decide +kernel)
theorem m_224 : Cond.methodLink RX5 73 yX0_kindOf ∈ q_T := q_mem 224 (by decide +kernel) (by decide +kernel)
theorem m_232 : Cond.code yX0_sizeOf cX0_sizeOf 2 (some .int) ∈ q_T := q_mem 232 (by decide +kernel) (by decide +kernel)
theorem m_230 : Cond.instanceMethod yX0_sizeOf ∈ q_T := q_mem 230 (by decide +kernel) (by decide +kernel)
theorem m_231 : Cond.selects RX0 yX0_sizeOf yX0_sizeOf ∈ q_T := q_mem 231 (by decide +kernel) (by decide +kernel)
theorem m_229 : Cond.methodLink RX5 76 yX0_sizeOf ∈ q_T := q_mem 229 (by decide +kernel) (by decide +kernel)
theorem m_239 : Cond.code yX1_wanted cX1_wanted 1 (some .int) ∈ q_T := q_mem 239 (by decide +kernel) (by decide +kernel)
theorem m_238 : Cond.static yX1_wanted ∈ q_T := q_mem 238 (by decide +kernel) (by decide +kernel)
theorem m_237 : Cond.methodLink RX0 77 yX1_wanted ∈ q_T := q_mem 237 (by decide +kernel) (by decide +kernel)
theorem m_236 : Cond.code yX0_wantOf cX0_wantOf 2 (some .int) ∈ q_T := q_mem 236 (by decide +kernel) (by decide +kernel)
theorem m_234 : Cond.instanceMethod yX0_wantOf ∈ q_T := q_mem 234 (by decide +kernel) (by decide +kernel)
theorem m_235 : Cond.selects RX0 yX0_wantOf yX0_wantOf ∈ q_T := q_mem 235 (by decide +kernel) (by decide +kernel)
theorem m_233 : Cond.methodLink RX5 79 yX0_wantOf ∈ q_T := q_mem 233 (by decide +kernel) (by decide +kernel)
theorem m_246 : Cond.code yX1_on cX1_on 2 (some .int) ∈ q_T := q_mem 246 (by decide +kernel) (by decide +kernel)
theorem m_245 : Cond.static yX1_on ∈ q_T := q_mem 245 (by decide +kernel) (by decide +kernel)
theorem m_244 : Cond.methodLink RX0 71 yX1_on ∈ q_T := q_mem 244 (by decide +kernel) (by decide +kernel)
theorem m_243 : Cond.code yX0_onOf cX0_onOf 2 (some .int) ∈ q_T := q_mem 243 (by decide +kernel) (by decide +kernel)
theorem m_241 : Cond.instanceMethod yX0_onOf ∈ q_T := q_mem 241 (by decide +kernel) (by decide +kernel)
theorem m_242 : Cond.selects RX0 yX0_onOf yX0_onOf ∈ q_T := q_mem 242 (by decide +kernel) (by decide +kernel)
theorem m_240 : Cond.methodLink RX5 82 yX0_onOf ∈ q_T := q_mem 240 (by decide +kernel) (by decide +kernel)
theorem m_253 : Cond.code yX1_voice cX1_voice 1 (some .int) ∈ q_T := q_mem 253 (by decide +kernel) (by decide +kernel)
theorem m_252 : Cond.static yX1_voice ∈ q_T := q_mem 252 (by decide +kernel) (by decide +kernel)
theorem m_251 : Cond.methodLink RX0 81 yX1_voice ∈ q_T := q_mem 251 (by decide +kernel) (by decide +kernel)
theorem m_250 : Cond.code yX0_voiceOf cX0_voiceOf 2 (some .int) ∈ q_T := q_mem 250 (by decide +kernel) (by decide +kernel)
theorem m_248 : Cond.instanceMethod yX0_voiceOf ∈ q_T := q_mem 248 (by decide +kernel) (by decide +kernel)
theorem m_249 : Cond.selects RX0 yX0_voiceOf yX0_voiceOf ∈ q_T := q_mem 249 (by decide +kernel) (by decide +kernel)
theorem m_247 : Cond.methodLink RX5 85 yX0_voiceOf ∈ q_T := q_mem 247 (by decide +kernel) (by decide +kernel)
theorem m_257 : Cond.code yX0_hookOf cX0_hookOf 2 (some .int) ∈ q_T := q_mem 257 (by decide +kernel) (by decide +kernel)
theorem m_255 : Cond.instanceMethod yX0_hookOf ∈ q_T := q_mem 255 (by decide +kernel) (by decide +kernel)
theorem m_256 : Cond.selects RX0 yX0_hookOf yX0_hookOf ∈ q_T := q_mem 256 (by decide +kernel) (by decide +kernel)
theorem m_254 : Cond.methodLink RX5 88 yX0_hookOf ∈ q_T := q_mem 254 (by decide +kernel) (by decide +kernel)
theorem m_265 : Cond.code yX0_setKind cX0_setKind 3 none ∈ q_T := q_mem 265 (by decide +kernel) (by decide +kernel)
theorem m_263 : Cond.instanceMethod yX0_setKind ∈ q_T := q_mem 263 (by decide +kernel) (by decide +kernel)
theorem m_264 : Cond.selects RX0 yX0_setKind yX0_setKind ∈ q_T := q_mem 264 (by decide +kernel) (by decide +kernel)
theorem m_262 : Cond.methodLink RX5 91 yX0_setKind ∈ q_T := q_mem 262 (by decide +kernel) (by decide +kernel)
theorem m_268 : Cond.code yX5_isSize cX5_isSize 1 (some .boolean) ∈ q_T := q_mem 268 (by decide +kernel) (by decide +kernel)
theorem m_267 : Cond.static yX5_isSize ∈ q_T := q_mem 267 (by decide +kernel) (by decide +kernel)
theorem m_266 : Cond.methodLink RX5 95 yX5_isSize ∈ q_T := q_mem 266 (by decide +kernel) (by decide +kernel)
theorem m_272 : Cond.code yX0_setSize cX0_setSize 3 none ∈ q_T := q_mem 272 (by decide +kernel) (by decide +kernel)
theorem m_270 : Cond.instanceMethod yX0_setSize ∈ q_T := q_mem 270 (by decide +kernel) (by decide +kernel)
theorem m_271 : Cond.selects RX0 yX0_setSize yX0_setSize ∈ q_T := q_mem 271 (by decide +kernel) (by decide +kernel)
theorem m_269 : Cond.methodLink RX5 98 yX0_setSize ∈ q_T := q_mem 269 (by decide +kernel) (by decide +kernel)
theorem m_280 : Cond.code yX0_swapHooks cX0_swapHooks 4 none ∈ q_T := q_mem 280 (by decide +kernel) (by decide +kernel)
theorem m_278 : Cond.instanceMethod yX0_swapHooks ∈ q_T := q_mem 278 (by decide +kernel) (by decide +kernel)
theorem m_279 : Cond.selects RX0 yX0_swapHooks yX0_swapHooks ∈ q_T := q_mem 279 (by decide +kernel) (by decide +kernel)
theorem m_277 : Cond.methodLink RX5 101 yX0_swapHooks ∈ q_T := q_mem 277 (by decide +kernel) (by decide +kernel)
theorem m_44 : Cond.fieldLink RX5 104 RX0 (TX0 4).2.1 (TX0 4).2.2.1 ∈ q_T := q_mem 44 (by decide +kernel) (by decide +kernel)
theorem m_292 : Cond.code yX0_isCast cX0_isCast 2 (some .boolean) ∈ q_T := q_mem 292 (by decide +kernel) (by decide +kernel)
theorem m_290 : Cond.instanceMethod yX0_isCast ∈ q_T := q_mem 290 (by decide +kernel) (by decide +kernel)
theorem m_291 : Cond.selects RX0 yX0_isCast yX0_isCast ∈ q_T := q_mem 291 (by decide +kernel) (by decide +kernel)
theorem m_289 : Cond.methodLink RX5 107 yX0_isCast ∈ q_T := q_mem 289 (by decide +kernel) (by decide +kernel)
theorem m_296 : Cond.code yX0_isDollOrNone cX0_isDollOrNone 2 (some .boolean) ∈ q_T := q_mem 296 (by decide +kernel) (by decide +kernel)
theorem m_294 : Cond.instanceMethod yX0_isDollOrNone ∈ q_T := q_mem 294 (by decide +kernel) (by decide +kernel)
theorem m_295 : Cond.selects RX0 yX0_isDollOrNone yX0_isDollOrNone ∈ q_T := q_mem 295 (by decide +kernel) (by decide +kernel)
theorem m_293 : Cond.methodLink RX5 110 yX0_isDollOrNone ∈ q_T := q_mem 293 (by decide +kernel) (by decide +kernel)
theorem m_36 : Cond.fieldLink RX5 113 RX0 (TX0 1).2.1 (TX0 1).2.2.1 ∈ q_T := q_mem 36 (by decide +kernel) (by decide +kernel)
theorem m_34 : Cond.fieldLink RX0 43 RX0 (TX0 1).2.1 (TX0 1).2.2.1 ∈ q_T := q_mem 34 (by decide +kernel) (by decide +kernel)
theorem m_59 : Cond.fieldLink RX0 21 RX0 (TX0 13).2.1 (TX0 13).2.2.1 ∈ q_T := q_mem 59 (by decide +kernel) (by decide +kernel)
theorem m_60 : Cond.fieldLink RX0 24 RX0 (TX0 14).2.1 (TX0 14).2.2.1 ∈ q_T := q_mem 60 (by decide +kernel) (by decide +kernel)
theorem m_300 : Cond.code yX0_addBeat cX0_addBeat 3 (some .int) ∈ q_T := q_mem 300 (by decide +kernel) (by decide +kernel)
theorem m_298 : Cond.instanceMethod yX0_addBeat ∈ q_T := q_mem 298 (by decide +kernel) (by decide +kernel)
theorem m_299 : Cond.selects RX0 yX0_addBeat yX0_addBeat ∈ q_T := q_mem 299 (by decide +kernel) (by decide +kernel)
theorem m_297 : Cond.methodLink RX5 116 yX0_addBeat ∈ q_T := q_mem 297 (by decide +kernel) (by decide +kernel)
theorem m_308 : Cond.code yX0_isBeat cX0_isBeat 2 (some .boolean) ∈ q_T := q_mem 308 (by decide +kernel) (by decide +kernel)
theorem m_306 : Cond.instanceMethod yX0_isBeat ∈ q_T := q_mem 306 (by decide +kernel) (by decide +kernel)
theorem m_307 : Cond.selects RX0 yX0_isBeat yX0_isBeat ∈ q_T := q_mem 307 (by decide +kernel) (by decide +kernel)
theorem m_305 : Cond.methodLink RX5 120 yX0_isBeat ∈ q_T := q_mem 305 (by decide +kernel) (by decide +kernel)
theorem m_313 : Cond.methodLink RX0 87 yX0_isBeat ∈ q_T := q_mem 313 (by decide +kernel) (by decide +kernel)
theorem m_312 : Cond.code yX0_castOf cX0_castOf 2 (some .int) ∈ q_T := q_mem 312 (by decide +kernel) (by decide +kernel)
theorem m_310 : Cond.instanceMethod yX0_castOf ∈ q_T := q_mem 310 (by decide +kernel) (by decide +kernel)
theorem m_311 : Cond.selects RX0 yX0_castOf yX0_castOf ∈ q_T := q_mem 311 (by decide +kernel) (by decide +kernel)
theorem m_309 : Cond.methodLink RX5 123 yX0_castOf ∈ q_T := q_mem 309 (by decide +kernel) (by decide +kernel)
theorem m_317 : Cond.code yX0_speakerOf cX0_speakerOf 2 (some .int) ∈ q_T := q_mem 317 (by decide +kernel) (by decide +kernel)
theorem m_315 : Cond.instanceMethod yX0_speakerOf ∈ q_T := q_mem 315 (by decide +kernel) (by decide +kernel)
theorem m_316 : Cond.selects RX0 yX0_speakerOf yX0_speakerOf ∈ q_T := q_mem 316 (by decide +kernel) (by decide +kernel)
theorem m_314 : Cond.methodLink RX5 126 yX0_speakerOf ∈ q_T := q_mem 314 (by decide +kernel) (by decide +kernel)
theorem m_322 : Cond.methodLink RX0 90 yX0_castOf ∈ q_T := q_mem 322 (by decide +kernel) (by decide +kernel)
theorem m_323 : Cond.methodLink RX0 97 yX0_speakerOf ∈ q_T := q_mem 323 (by decide +kernel) (by decide +kernel)
theorem m_329 : Cond.code yX0_bit cX0_bit 1 (some .int) ∈ q_T := q_mem 329 (by decide +kernel) (by decide +kernel)
theorem m_328 : Cond.static yX0_bit ∈ q_T := q_mem 328 (by decide +kernel) (by decide +kernel)
theorem m_327 : Cond.methodLink RX0 129 yX0_bit ∈ q_T := q_mem 327 (by decide +kernel) (by decide +kernel)
theorem m_326 : Cond.code yX0_contains cX0_contains 2 (some .boolean) ∈ q_T := q_mem 326 (by decide +kernel) (by decide +kernel)
theorem m_325 : Cond.static yX0_contains ∈ q_T := q_mem 325 (by decide +kernel) (by decide +kernel)
theorem m_324 : Cond.methodLink RX0 110 yX0_contains ∈ q_T := q_mem 324 (by decide +kernel) (by decide +kernel)
theorem m_333 : Cond.constant RJ6 265 (1431655765) ∈ q_T := q_mem 333 (by decide +kernel) (by decide +kernel)
theorem m_334 : Cond.constant RJ6 266 (858993459) ∈ q_T := q_mem 334 (by decide +kernel) (by decide +kernel)
theorem m_335 : Cond.constant RJ6 267 (252645135) ∈ q_T := q_mem 335 (by decide +kernel) (by decide +kernel)
theorem m_332 : Cond.code yJ6_bitCount_0f7a4 cJ6_bitCount_0f7a4 1 (some .int) ∈ q_T := q_mem 332 (by decide +kernel) (by decide +kernel)
theorem m_9 : Cond.initialized RJ6 ∈ q_T := q_mem 9 (by decide +kernel) (by decide +kernel)
theorem m_331 : Cond.static yJ6_bitCount_0f7a4 ∈ q_T := q_mem 331 (by decide +kernel) (by decide +kernel)
theorem m_330 : Cond.methodLink RX0 114 yJ6_bitCount_0f7a4 ∈ q_T := q_mem 330 (by decide +kernel) (by decide +kernel)
theorem m_340 : Cond.methodLink RX0 122 yX0_wantOf ∈ q_T := q_mem 340 (by decide +kernel) (by decide +kernel)
theorem m_339 : Cond.code yX0_wanting cX0_wanting 5 (some .int) ∈ q_T := q_mem 339 (by decide +kernel) (by decide +kernel)
theorem m_338 : Cond.instanceMethod yX0_wanting ∈ q_T := q_mem 338 (by decide +kernel) (by decide +kernel)
theorem ms_1 : Cond.selects RX0 yX0_wanting yX0_wanting ∈ q_T := q_memS 1 (by decide +kernel) (by decide +kernel)
theorem m_336 : Cond.methodLink RX0 119 yX0_wanting ∈ q_T := q_mem 336 (by decide +kernel) (by decide +kernel)
theorem m_321 : Cond.code yX0_isWrong cX0_isWrong 4 (some .boolean) ∈ q_T := q_mem 321 (by decide +kernel) (by decide +kernel)
theorem m_319 : Cond.instanceMethod yX0_isWrong ∈ q_T := q_mem 319 (by decide +kernel) (by decide +kernel)
theorem m_320 : Cond.selects RX0 yX0_isWrong yX0_isWrong ∈ q_T := q_mem 320 (by decide +kernel) (by decide +kernel)
theorem m_318 : Cond.methodLink RX5 129 yX0_isWrong ∈ q_T := q_mem 318 (by decide +kernel) (by decide +kernel)
theorem m_348 : Cond.code yX0_setCast cX0_setCast 3 none ∈ q_T := q_mem 348 (by decide +kernel) (by decide +kernel)
theorem m_346 : Cond.instanceMethod yX0_setCast ∈ q_T := q_mem 346 (by decide +kernel) (by decide +kernel)
theorem m_347 : Cond.selects RX0 yX0_setCast yX0_setCast ∈ q_T := q_mem 347 (by decide +kernel) (by decide +kernel)
theorem m_345 : Cond.methodLink RX5 132 yX0_setCast ∈ q_T := q_mem 345 (by decide +kernel) (by decide +kernel)
theorem m_352 : Cond.code yX0_setSpeaker cX0_setSpeaker 3 none ∈ q_T := q_mem 352 (by decide +kernel) (by decide +kernel)
theorem m_350 : Cond.instanceMethod yX0_setSpeaker ∈ q_T := q_mem 350 (by decide +kernel) (by decide +kernel)
theorem m_351 : Cond.selects RX0 yX0_setSpeaker yX0_setSpeaker ∈ q_T := q_mem 351 (by decide +kernel) (by decide +kernel)
theorem m_349 : Cond.methodLink RX5 135 yX0_setSpeaker ∈ q_T := q_mem 349 (by decide +kernel) (by decide +kernel)
theorem m_361 : Cond.methodLink RX0 93 yX0_setCast ∈ q_T := q_mem 361 (by decide +kernel) (by decide +kernel)
theorem m_362 : Cond.methodLink RX0 100 yX0_setSpeaker ∈ q_T := q_mem 362 (by decide +kernel) (by decide +kernel)
theorem m_360 : Cond.code yX0_dropBeat cX0_dropBeat 3 none ∈ q_T := q_mem 360 (by decide +kernel) (by decide +kernel)
theorem m_358 : Cond.instanceMethod yX0_dropBeat ∈ q_T := q_mem 358 (by decide +kernel) (by decide +kernel)
theorem m_359 : Cond.selects RX0 yX0_dropBeat yX0_dropBeat ∈ q_T := q_mem 359 (by decide +kernel) (by decide +kernel)
theorem m_357 : Cond.methodLink RX5 138 yX0_dropBeat ∈ q_T := q_mem 357 (by decide +kernel) (by decide +kernel)
theorem m_371 : Cond.methodLink RX0 107 yX0_isWrong ∈ q_T := q_mem 371 (by decide +kernel) (by decide +kernel)
theorem m_370 : Cond.code yX0_wrongBeats cX0_wrongBeats 3 (some .int) ∈ q_T := q_mem 370 (by decide +kernel) (by decide +kernel)
theorem m_368 : Cond.instanceMethod yX0_wrongBeats ∈ q_T := q_mem 368 (by decide +kernel) (by decide +kernel)
theorem m_369 : Cond.selects RX0 yX0_wrongBeats yX0_wrongBeats ∈ q_T := q_mem 369 (by decide +kernel) (by decide +kernel)
theorem m_367 : Cond.methodLink RX5 142 yX0_wrongBeats ∈ q_T := q_mem 367 (by decide +kernel) (by decide +kernel)
theorem m_382 : Cond.code yX5_isHand cX5_isHand 1 (some .boolean) ∈ q_T := q_mem 382 (by decide +kernel) (by decide +kernel)
theorem m_381 : Cond.static yX5_isHand ∈ q_T := q_mem 381 (by decide +kernel) (by decide +kernel)
theorem m_380 : Cond.methodLink RX5 146 yX5_isHand ∈ q_T := q_mem 380 (by decide +kernel) (by decide +kernel)
theorem m_40 : Cond.fieldLink RX0 34 RX0 (TX0 3).2.1 (TX0 3).2.2.1 ∈ q_T := q_mem 40 (by decide +kernel) (by decide +kernel)
theorem m_37 : Cond.fieldLink RX0 30 RX0 (TX0 2).2.1 (TX0 2).2.2.1 ∈ q_T := q_mem 37 (by decide +kernel) (by decide +kernel)
theorem m_386 : Cond.code yX0_inHand cX0_inHand 2 (some .int) ∈ q_T := q_mem 386 (by decide +kernel) (by decide +kernel)
theorem m_384 : Cond.instanceMethod yX0_inHand ∈ q_T := q_mem 384 (by decide +kernel) (by decide +kernel)
theorem m_385 : Cond.selects RX0 yX0_inHand yX0_inHand ∈ q_T := q_mem 385 (by decide +kernel) (by decide +kernel)
theorem m_392 : Cond.methodLink RX0 141 yX0_inHand ∈ q_T := q_mem 392 (by decide +kernel) (by decide +kernel)
theorem m_397 : Cond.methodLink RX0 147 yX0_onOf ∈ q_T := q_mem 397 (by decide +kernel) (by decide +kernel)
theorem m_398 : Cond.methodLink RX0 150 yX0_hookOf ∈ q_T := q_mem 398 (by decide +kernel) (by decide +kernel)
theorem m_396 : Cond.code yX0_price cX0_price 3 (some .int) ∈ q_T := q_mem 396 (by decide +kernel) (by decide +kernel)
theorem m_394 : Cond.instanceMethod yX0_price ∈ q_T := q_mem 394 (by decide +kernel) (by decide +kernel)
theorem m_395 : Cond.selects RX0 yX0_price yX0_price ∈ q_T := q_mem 395 (by decide +kernel) (by decide +kernel)
theorem m_393 : Cond.methodLink RX0 144 yX0_price ∈ q_T := q_mem 393 (by decide +kernel) (by decide +kernel)
theorem m_48 : Cond.fieldLink RX0 49 RX0 (TX0 6).2.1 (TX0 6).2.2.1 ∈ q_T := q_mem 48 (by decide +kernel) (by decide +kernel)
theorem m_50 : Cond.fieldLink RX0 52 RX0 (TX0 7).2.1 (TX0 7).2.2.1 ∈ q_T := q_mem 50 (by decide +kernel) (by decide +kernel)
theorem m_391 : Cond.code yX0_putInHand cX0_putInHand 5 (some .int) ∈ q_T := q_mem 391 (by decide +kernel) (by decide +kernel)
theorem m_389 : Cond.instanceMethod yX0_putInHand ∈ q_T := q_mem 389 (by decide +kernel) (by decide +kernel)
theorem m_390 : Cond.selects RX0 yX0_putInHand yX0_putInHand ∈ q_T := q_mem 390 (by decide +kernel) (by decide +kernel)
theorem m_388 : Cond.methodLink RX5 153 yX0_putInHand ∈ q_T := q_mem 388 (by decide +kernel) (by decide +kernel)
theorem m_383 : Cond.methodLink RX5 149 yX0_inHand ∈ q_T := q_mem 383 (by decide +kernel) (by decide +kernel)
theorem m_387 : Cond.constant RX5 152 (-1000005) ∈ q_T := q_mem 387 (by decide +kernel) (by decide +kernel)
theorem m_39 : Cond.fieldLink RX5 156 RX0 (TX0 2).2.1 (TX0 2).2.2.1 ∈ q_T := q_mem 39 (by decide +kernel) (by decide +kernel)
theorem m_42 : Cond.fieldLink RX5 159 RX0 (TX0 3).2.1 (TX0 3).2.2.1 ∈ q_T := q_mem 42 (by decide +kernel) (by decide +kernel)
theorem m_411 : Cond.methodLink RX0 132 yX0_isDollOrNone ∈ q_T := q_mem 411 (by decide +kernel) (by decide +kernel)
theorem m_419 : Cond.constant RJ6 264 (65536) ∈ q_T := q_mem 419 (by decide +kernel) (by decide +kernel)
theorem m_418 : Cond.code yJ6_numberOfTrailingZeros_0f7a4 cJ6_numberOfTrailingZeros_0f7a4 2 (some .int) ∈ q_T := q_mem 418 (by decide +kernel) (by decide +kernel)
theorem m_417 : Cond.static yJ6_numberOfTrailingZeros_0f7a4 ∈ q_T := q_mem 417 (by decide +kernel) (by decide +kernel)
theorem m_416 : Cond.methodLink RX0 135 yJ6_numberOfTrailingZeros_0f7a4 ∈ q_T := q_mem 416 (by decide +kernel) (by decide +kernel)
theorem m_415 : Cond.code yX0_rightsBeside cX0_rightsBeside 7 (some .int) ∈ q_T := q_mem 415 (by decide +kernel) (by decide +kernel)
theorem m_413 : Cond.instanceMethod yX0_rightsBeside ∈ q_T := q_mem 413 (by decide +kernel) (by decide +kernel)
theorem m_414 : Cond.selects RX0 yX0_rightsBeside yX0_rightsBeside ∈ q_T := q_mem 414 (by decide +kernel) (by decide +kernel)
theorem m_412 : Cond.methodLink RX0 138 yX0_rightsBeside ∈ q_T := q_mem 412 (by decide +kernel) (by decide +kernel)
theorem m_410 : Cond.code yX0_isSuited cX0_isSuited 4 (some .boolean) ∈ q_T := q_mem 410 (by decide +kernel) (by decide +kernel)
theorem m_408 : Cond.instanceMethod yX0_isSuited ∈ q_T := q_mem 408 (by decide +kernel) (by decide +kernel)
theorem m_409 : Cond.selects RX0 yX0_isSuited yX0_isSuited ∈ q_T := q_mem 409 (by decide +kernel) (by decide +kernel)
theorem m_407 : Cond.methodLink RX5 162 yX0_isSuited ∈ q_T := q_mem 407 (by decide +kernel) (by decide +kernel)
theorem m_49 : Cond.fieldLink RX5 166 RX0 (TX0 6).2.1 (TX0 6).2.2.1 ∈ q_T := q_mem 49 (by decide +kernel) (by decide +kernel)
theorem m_51 : Cond.fieldLink RX5 169 RX0 (TX0 7).2.1 (TX0 7).2.2.1 ∈ q_T := q_mem 51 (by decide +kernel) (by decide +kernel)
theorem m_53 : Cond.fieldLink RX5 172 RX0 (TX0 8).2.1 (TX0 8).2.2.1 ∈ q_T := q_mem 53 (by decide +kernel) (by decide +kernel)
theorem m_55 : Cond.fieldLink RX5 175 RX0 (TX0 9).2.1 (TX0 9).2.2.1 ∈ q_T := q_mem 55 (by decide +kernel) (by decide +kernel)
theorem m_430 : Cond.code yX5_isWorth cX5_isWorth 1 (some .boolean) ∈ q_T := q_mem 430 (by decide +kernel) (by decide +kernel)
theorem m_429 : Cond.static yX5_isWorth ∈ q_T := q_mem 429 (by decide +kernel) (by decide +kernel)
theorem m_428 : Cond.methodLink RX5 178 yX5_isWorth ∈ q_T := q_mem 428 (by decide +kernel) (by decide +kernel)
theorem m_435 : Cond.methodLink RX0 125 yX0_wrongBeats ∈ q_T := q_mem 435 (by decide +kernel) (by decide +kernel)
theorem m_434 : Cond.code yX0_isGoing cX0_isGoing 1 (some .boolean) ∈ q_T := q_mem 434 (by decide +kernel) (by decide +kernel)
theorem m_432 : Cond.instanceMethod yX0_isGoing ∈ q_T := q_mem 432 (by decide +kernel) (by decide +kernel)
theorem m_433 : Cond.selects RX0 yX0_isGoing yX0_isGoing ∈ q_T := q_mem 433 (by decide +kernel) (by decide +kernel)
theorem m_431 : Cond.methodLink RX5 181 yX0_isGoing ∈ q_T := q_mem 431 (by decide +kernel) (by decide +kernel)
theorem m_177 : Cond.fieldLink RX5 25 RX5 (TX5 3).2.1 (TX5 3).2.2.1 ∈ q_T := q_mem 177 (by decide +kernel) (by decide +kernel)
theorem m_32 : Cond.fieldLink RX4 92 RX0 (TX0 0).2.1 (TX0 0).2.2.1 ∈ q_T := q_mem 32 (by decide +kernel) (by decide +kernel)
theorem m_33 : Cond.fieldLink RX4 34 RX0 (TX0 1).2.1 (TX0 1).2.2.1 ∈ q_T := q_mem 33 (by decide +kernel) (by decide +kernel)
theorem m_102 : Cond.fieldLink RX4 11 RX4 (TX4 0).2.1 (TX4 0).2.2.1 ∈ q_T := q_mem 102 (by decide +kernel) (by decide +kernel)
theorem m_445 : Cond.methodLink RX4 61 yX4_put ∈ q_T := q_mem 445 (by decide +kernel) (by decide +kernel)
theorem m_447 : Cond.code yX4_put cX4_put 3 none ∈ q_T := q_mem 447 (by decide +kernel) (by decide +kernel)
theorem m_3 : Cond.initialized RX4 ∈ q_T := q_mem 3 (by decide +kernel) (by decide +kernel)
theorem m_446 : Cond.static yX4_put ∈ q_T := q_mem 446 (by decide +kernel) (by decide +kernel)
theorem m_451 : Cond.code yX4_fillRow cX4_fillRow 4 none ∈ q_T := q_mem 451 (by decide +kernel) (by decide +kernel)
theorem m_450 : Cond.instanceMethod yX4_fillRow ∈ q_T := q_mem 450 (by decide +kernel) (by decide +kernel)
theorem ms_3 : Cond.selects RX4 yX4_fillRow yX4_fillRow ∈ q_T := q_memS 3 (by decide +kernel) (by decide +kernel)
theorem m_448 : Cond.methodLink RX4 70 yX4_fillRow ∈ q_T := q_mem 448 (by decide +kernel) (by decide +kernel)
theorem m_105 : Cond.fieldLink RX4 21 RX4 (TX4 3).2.1 (TX4 3).2.2.1 ∈ q_T := q_mem 105 (by decide +kernel) (by decide +kernel)
theorem m_444 : Cond.methodLink RX4 95 yX0_price ∈ q_T := q_mem 444 (by decide +kernel) (by decide +kernel)
theorem m_443 : Cond.code yX4_begin cX4_begin 4 none ∈ q_T := q_mem 443 (by decide +kernel) (by decide +kernel)
theorem m_442 : Cond.instanceMethod yX4_begin ∈ q_T := q_mem 442 (by decide +kernel) (by decide +kernel)
theorem ms_2 : Cond.selects RX4 yX4_begin yX4_begin ∈ q_T := q_memS 2 (by decide +kernel) (by decide +kernel)
theorem m_440 : Cond.methodLink RX4 30 yX4_begin ∈ q_T := q_mem 440 (by decide +kernel) (by decide +kernel)
theorem m_38 : Cond.fieldLink RX4 43 RX0 (TX0 2).2.1 (TX0 2).2.2.1 ∈ q_T := q_mem 38 (by decide +kernel) (by decide +kernel)
theorem m_41 : Cond.fieldLink RX4 46 RX0 (TX0 3).2.1 (TX0 3).2.2.1 ∈ q_T := q_mem 41 (by decide +kernel) (by decide +kernel)
theorem m_460 : Cond.code yX4_place cX4_place 2 (some .int) ∈ q_T := q_mem 460 (by decide +kernel) (by decide +kernel)
theorem m_459 : Cond.static yX4_place ∈ q_T := q_mem 459 (by decide +kernel) (by decide +kernel)
theorem m_458 : Cond.methodLink RX4 84 yX4_place ∈ q_T := q_mem 458 (by decide +kernel) (by decide +kernel)
theorem m_461 : Cond.methodLink RX4 88 yX4_at ∈ q_T := q_mem 461 (by decide +kernel) (by decide +kernel)
theorem m_463 : Cond.code yX4_at cX4_at 2 (some .int) ∈ q_T := q_mem 463 (by decide +kernel) (by decide +kernel)
theorem m_462 : Cond.static yX4_at ∈ q_T := q_mem 462 (by decide +kernel) (by decide +kernel)
theorem m_470 : Cond.code yX4_worthFrom cX4_worthFrom 4 (some .int) ∈ q_T := q_mem 470 (by decide +kernel) (by decide +kernel)
theorem m_469 : Cond.instanceMethod yX4_worthFrom ∈ q_T := q_mem 469 (by decide +kernel) (by decide +kernel)
theorem ms_5 : Cond.selects RX4 yX4_worthFrom yX4_worthFrom ∈ q_T := q_memS 5 (by decide +kernel) (by decide +kernel)
theorem m_467 : Cond.methodLink RX4 49 yX4_worthFrom ∈ q_T := q_mem 467 (by decide +kernel) (by decide +kernel)
theorem m_456 : Cond.methodLink RX4 98 yX0_rightsBeside ∈ q_T := q_mem 456 (by decide +kernel) (by decide +kernel)
theorem m_457 : Cond.constant RX4 69 (1000000) ∈ q_T := q_mem 457 (by decide +kernel) (by decide +kernel)
theorem m_104 : Cond.fieldLink RX4 18 RX4 (TX4 2).2.1 (TX4 2).2.2.1 ∈ q_T := q_mem 104 (by decide +kernel) (by decide +kernel)
theorem m_464 : Cond.methodLink RX4 101 Lib.Math.min.name ∈ q_T := q_mem 464 (by decide +kernel) (by decide +kernel)
theorem m_465 : Cond.static Lib.Math.min.name ∈ q_T := q_mem 465 (by decide +kernel) (by decide +kernel)
theorem m_8 : Cond.initialized "java/lang/Math" ∈ q_T := q_mem 8 (by decide +kernel) (by decide +kernel)
theorem m_466 : Cond.code Lib.Math.min.name Lib.Math.min.code 2 (some .int) ∈ q_T := q_mem 466 (by decide +kernel) (by decide +kernel)
theorem m_455 : Cond.code yX4_stepBack cX4_stepBack 11 none ∈ q_T := q_mem 455 (by decide +kernel) (by decide +kernel)
theorem m_454 : Cond.instanceMethod yX4_stepBack ∈ q_T := q_mem 454 (by decide +kernel) (by decide +kernel)
theorem ms_4 : Cond.selects RX4 yX4_stepBack yX4_stepBack ∈ q_T := q_memS 4 (by decide +kernel) (by decide +kernel)
theorem m_452 : Cond.methodLink RX4 40 yX4_stepBack ∈ q_T := q_mem 452 (by decide +kernel) (by decide +kernel)
theorem m_439 : Cond.code yX4_worth cX4_worth 4 (some .int) ∈ q_T := q_mem 439 (by decide +kernel) (by decide +kernel)
theorem m_437 : Cond.instanceMethod yX4_worth ∈ q_T := q_mem 437 (by decide +kernel) (by decide +kernel)
theorem m_438 : Cond.selects RX4 yX4_worth yX4_worth ∈ q_T := q_mem 438 (by decide +kernel) (by decide +kernel)
theorem m_436 : Cond.methodLink RX5 185 yX4_worth ∈ q_T := q_mem 436 (by decide +kernel) (by decide +kernel)
theorem m_479 : Cond.methodLink RX4 53 yX4_worth ∈ q_T := q_mem 479 (by decide +kernel) (by decide +kernel)
theorem m_487 : Cond.code yX4_move cX4_move 3 (some .int) ∈ q_T := q_mem 487 (by decide +kernel) (by decide +kernel)
theorem m_486 : Cond.instanceMethod yX4_move ∈ q_T := q_mem 486 (by decide +kernel) (by decide +kernel)
theorem ms_7 : Cond.selects RX4 yX4_move yX4_move ∈ q_T := q_memS 7 (by decide +kernel) (by decide +kernel)
theorem m_484 : Cond.methodLink RX4 106 yX4_move ∈ q_T := q_mem 484 (by decide +kernel) (by decide +kernel)
theorem m_488 : Cond.methodLink RX4 109 yX0_isSuited ∈ q_T := q_mem 488 (by decide +kernel) (by decide +kernel)
theorem m_483 : Cond.code yX4_firstBest cX4_firstBest 9 (some .int) ∈ q_T := q_mem 483 (by decide +kernel) (by decide +kernel)
theorem m_482 : Cond.instanceMethod yX4_firstBest ∈ q_T := q_mem 482 (by decide +kernel) (by decide +kernel)
theorem ms_6 : Cond.selects RX4 yX4_firstBest yX4_firstBest ∈ q_T := q_memS 6 (by decide +kernel) (by decide +kernel)
theorem m_480 : Cond.methodLink RX4 57 yX4_firstBest ∈ q_T := q_mem 480 (by decide +kernel) (by decide +kernel)
theorem m_106 : Cond.fieldLink RX4 24 RX4 (TX4 4).2.1 (TX4 4).2.2.1 ∈ q_T := q_mem 106 (by decide +kernel) (by decide +kernel)
theorem m_107 : Cond.fieldLink RX4 27 RX4 (TX4 5).2.1 (TX4 5).2.2.1 ∈ q_T := q_mem 107 (by decide +kernel) (by decide +kernel)
theorem m_478 : Cond.code yX4_follow cX4_follow 7 none ∈ q_T := q_mem 478 (by decide +kernel) (by decide +kernel)
theorem m_476 : Cond.instanceMethod yX4_follow ∈ q_T := q_mem 476 (by decide +kernel) (by decide +kernel)
theorem m_477 : Cond.selects RX4 yX4_follow yX4_follow ∈ q_T := q_mem 477 (by decide +kernel) (by decide +kernel)
theorem m_475 : Cond.methodLink RX5 189 yX4_follow ∈ q_T := q_mem 475 (by decide +kernel) (by decide +kernel)
theorem m_496 : Cond.code yX4_rightIn cX4_rightIn 2 (some .int) ∈ q_T := q_mem 496 (by decide +kernel) (by decide +kernel)
theorem m_494 : Cond.instanceMethod yX4_rightIn ∈ q_T := q_mem 494 (by decide +kernel) (by decide +kernel)
theorem m_495 : Cond.selects RX4 yX4_rightIn yX4_rightIn ∈ q_T := q_mem 495 (by decide +kernel) (by decide +kernel)
theorem m_493 : Cond.methodLink RX5 196 yX4_rightIn ∈ q_T := q_mem 493 (by decide +kernel) (by decide +kernel)
theorem m_492 : Cond.code yX4_leftIn cX4_leftIn 2 (some .int) ∈ q_T := q_mem 492 (by decide +kernel) (by decide +kernel)
theorem m_490 : Cond.instanceMethod yX4_leftIn ∈ q_T := q_mem 490 (by decide +kernel) (by decide +kernel)
theorem m_491 : Cond.selects RX4 yX4_leftIn yX4_leftIn ∈ q_T := q_mem 491 (by decide +kernel) (by decide +kernel)
theorem m_489 : Cond.methodLink RX5 193 yX4_leftIn ∈ q_T := q_mem 489 (by decide +kernel) (by decide +kernel)
theorem m_176 : Cond.fieldLink RX5 19 RX5 (TX5 2).2.1 (TX5 2).2.2.1 ∈ q_T := q_mem 176 (by decide +kernel) (by decide +kernel)
theorem m_43 : Cond.fieldLink RX0 46 RX0 (TX0 4).2.1 (TX0 4).2.2.1 ∈ q_T := q_mem 43 (by decide +kernel) (by decide +kernel)
theorem m_46 : Cond.fieldLink RX0 37 RX0 (TX0 5).2.1 (TX0 5).2.2.1 ∈ q_T := q_mem 46 (by decide +kernel) (by decide +kernel)
theorem m_52 : Cond.fieldLink RX0 55 RX0 (TX0 8).2.1 (TX0 8).2.2.1 ∈ q_T := q_mem 52 (by decide +kernel) (by decide +kernel)
theorem m_54 : Cond.fieldLink RX0 58 RX0 (TX0 9).2.1 (TX0 9).2.2.1 ∈ q_T := q_mem 54 (by decide +kernel) (by decide +kernel)
theorem m_505 : Cond.methodLink RX0 61 arraycopyName ∈ q_T := q_mem 505 (by decide +kernel) (by decide +kernel)
theorem m_507 : Cond.native arraycopyName ∈ q_T := q_mem 507 (by decide +kernel) (by decide +kernel)
theorem m_506 : Cond.static arraycopyName ∈ q_T := q_mem 506 (by decide +kernel) (by decide +kernel)
theorem m_10 : Cond.initialized "java/lang/System" ∈ q_T := q_mem 10 (by decide +kernel) (by decide +kernel)
theorem m_61 : Cond.fieldLink RX0 27 RX0 (TX0 15).2.1 (TX0 15).2.2.1 ∈ q_T := q_mem 61 (by decide +kernel) (by decide +kernel)
theorem m_504 : Cond.code yX0_take cX0_take 2 none ∈ q_T := q_mem 504 (by decide +kernel) (by decide +kernel)
theorem m_502 : Cond.instanceMethod yX0_take ∈ q_T := q_mem 502 (by decide +kernel) (by decide +kernel)
theorem m_503 : Cond.selects RX0 yX0_take yX0_take ∈ q_T := q_mem 503 (by decide +kernel) (by decide +kernel)
theorem m_501 : Cond.methodLink RX5 199 yX0_take ∈ q_T := q_mem 501 (by decide +kernel) (by decide +kernel)
theorem m_512 : Cond.methodLink RX0 103 yX0_dropBeat ∈ q_T := q_mem 512 (by decide +kernel) (by decide +kernel)
theorem m_511 : Cond.code yX0_keepBeats cX0_keepBeats 4 none ∈ q_T := q_mem 511 (by decide +kernel) (by decide +kernel)
theorem m_509 : Cond.instanceMethod yX0_keepBeats ∈ q_T := q_mem 509 (by decide +kernel) (by decide +kernel)
theorem m_510 : Cond.selects RX0 yX0_keepBeats yX0_keepBeats ∈ q_T := q_mem 510 (by decide +kernel) (by decide +kernel)
theorem m_508 : Cond.methodLink RX5 203 yX0_keepBeats ∈ q_T := q_mem 508 (by decide +kernel) (by decide +kernel)
theorem m_518 : Cond.constant RX5 207 (1000000) ∈ q_T := q_mem 518 (by decide +kernel) (by decide +kernel)
theorem m_517 : Cond.constant RX5 206 (-1000004) ∈ q_T := q_mem 517 (by decide +kernel) (by decide +kernel)
theorem m_530 : Cond.code yX5_worthIfSwapped cX5_worthIfSwapped 2 (some .int) ∈ q_T := q_mem 530 (by decide +kernel) (by decide +kernel)
theorem m_529 : Cond.instanceMethod yX5_worthIfSwapped ∈ q_T := q_mem 529 (by decide +kernel) (by decide +kernel)
theorem ms_9 : Cond.selects RX5 yX5_worthIfSwapped yX5_worthIfSwapped ∈ q_T := q_memS 9 (by decide +kernel) (by decide +kernel)
theorem m_527 : Cond.methodLink RX5 211 yX5_worthIfSwapped ∈ q_T := q_mem 527 (by decide +kernel) (by decide +kernel)
theorem m_526 : Cond.code yX5_bestPair cX5_bestPair 6 (some .int) ∈ q_T := q_mem 526 (by decide +kernel) (by decide +kernel)
theorem m_525 : Cond.instanceMethod yX5_bestPair ∈ q_T := q_mem 525 (by decide +kernel) (by decide +kernel)
theorem ms_8 : Cond.selects RX5 yX5_bestPair yX5_bestPair ∈ q_T := q_memS 8 (by decide +kernel) (by decide +kernel)
theorem m_523 : Cond.methodLink RX5 208 yX5_bestPair ∈ q_T := q_mem 523 (by decide +kernel) (by decide +kernel)
theorem m_542 : Cond.code yX0_dropWrongBeats cX0_dropWrongBeats 2 none ∈ q_T := q_mem 542 (by decide +kernel) (by decide +kernel)
theorem m_540 : Cond.instanceMethod yX0_dropWrongBeats ∈ q_T := q_mem 540 (by decide +kernel) (by decide +kernel)
theorem m_541 : Cond.selects RX0 yX0_dropWrongBeats yX0_dropWrongBeats ∈ q_T := q_mem 541 (by decide +kernel) (by decide +kernel)
theorem m_539 : Cond.methodLink RX5 214 yX0_dropWrongBeats ∈ q_T := q_mem 539 (by decide +kernel) (by decide +kernel)
theorem m_550 : Cond.code yX0_areTogether cX0_areTogether 4 (some .boolean) ∈ q_T := q_mem 550 (by decide +kernel) (by decide +kernel)
theorem m_548 : Cond.instanceMethod yX0_areTogether ∈ q_T := q_mem 548 (by decide +kernel) (by decide +kernel)
theorem m_549 : Cond.selects RX0 yX0_areTogether yX0_areTogether ∈ q_T := q_mem 549 (by decide +kernel) (by decide +kernel)
theorem m_547 : Cond.methodLink RX5 217 yX0_areTogether ∈ q_T := q_mem 547 (by decide +kernel) (by decide +kernel)
theorem m_554 : Cond.code yX0_replace cX0_replace 5 none ∈ q_T := q_mem 554 (by decide +kernel) (by decide +kernel)
theorem m_552 : Cond.instanceMethod yX0_replace ∈ q_T := q_mem 552 (by decide +kernel) (by decide +kernel)
theorem m_553 : Cond.selects RX0 yX0_replace yX0_replace ∈ q_T := q_mem 553 (by decide +kernel) (by decide +kernel)
theorem m_551 : Cond.methodLink RX5 221 yX0_replace ∈ q_T := q_mem 551 (by decide +kernel) (by decide +kernel)
theorem m_103 : Cond.fieldLink RX4 15 RX4 (TX4 1).2.1 (TX4 1).2.2.1 ∈ q_T := q_mem 103 (by decide +kernel) (by decide +kernel)
theorem m_568 : Cond.methodLink RX4 78 arraycopyName ∈ q_T := q_mem 568 (by decide +kernel) (by decide +kernel)
theorem m_563 : Cond.methodLink RX4 65 yX0_isWrong ∈ q_T := q_mem 563 (by decide +kernel) (by decide +kernel)
theorem m_567 : Cond.code yX4_leaveOut cX4_leaveOut 5 none ∈ q_T := q_mem 567 (by decide +kernel) (by decide +kernel)
theorem m_566 : Cond.instanceMethod yX4_leaveOut ∈ q_T := q_mem 566 (by decide +kernel) (by decide +kernel)
theorem ms_10 : Cond.selects RX4 yX4_leaveOut yX4_leaveOut ∈ q_T := q_memS 10 (by decide +kernel) (by decide +kernel)
theorem m_564 : Cond.methodLink RX4 74 yX4_leaveOut ∈ q_T := q_mem 564 (by decide +kernel) (by decide +kernel)
theorem m_562 : Cond.code yX4_fewestLeftOut cX4_fewestLeftOut 5 (some .int) ∈ q_T := q_mem 562 (by decide +kernel) (by decide +kernel)
theorem m_560 : Cond.instanceMethod yX4_fewestLeftOut ∈ q_T := q_mem 560 (by decide +kernel) (by decide +kernel)
theorem m_561 : Cond.selects RX4 yX4_fewestLeftOut yX4_fewestLeftOut ∈ q_T := q_mem 561 (by decide +kernel) (by decide +kernel)
theorem m_559 : Cond.methodLink RX5 224 yX4_fewestLeftOut ∈ q_T := q_mem 559 (by decide +kernel) (by decide +kernel)
theorem m_179 : Cond.fieldLink RX5 38 RX5 (TX5 5).2.1 (TX5 5).2.2.1 ∈ q_T := q_mem 179 (by decide +kernel) (by decide +kernel)
theorem m_576 : Cond.code yX5_sheetAt cX5_sheetAt 2 (some (.object "PunchByHeart$Sheet")) ∈ q_T := q_mem 576 (by decide +kernel) (by decide +kernel)
theorem m_575 : Cond.instanceMethod yX5_sheetAt ∈ q_T := q_mem 575 (by decide +kernel) (by decide +kernel)
theorem ms_11 : Cond.selects RX5 yX5_sheetAt yX5_sheetAt ∈ q_T := q_memS 11 (by decide +kernel) (by decide +kernel)
theorem m_573 : Cond.methodLink RX5 227 yX5_sheetAt ∈ q_T := q_mem 573 (by decide +kernel) (by decide +kernel)
theorem m_161 : Cond.fieldLink RX2 15 RX2 (TX2 0).2.1 (TX2 0).2.2.1 ∈ q_T := q_mem 161 (by decide +kernel) (by decide +kernel)
theorem m_580 : Cond.code yX2_isMissing cX2_isMissing 1 (some .boolean) ∈ q_T := q_mem 580 (by decide +kernel) (by decide +kernel)
theorem m_5 : Cond.initialized RX2 ∈ q_T := q_mem 5 (by decide +kernel) (by decide +kernel)
theorem m_578 : Cond.instanceMethod yX2_isMissing ∈ q_T := q_mem 578 (by decide +kernel) (by decide +kernel)
theorem m_579 : Cond.selects RX2 yX2_isMissing yX2_isMissing ∈ q_T := q_mem 579 (by decide +kernel) (by decide +kernel)
theorem m_577 : Cond.methodLink RX5 231 yX2_isMissing ∈ q_T := q_mem 577 (by decide +kernel) (by decide +kernel)
theorem m_601 : Cond.constantLong RX5 335 (1000000001) ∈ q_T := q_mem 601 (by decide +kernel) (by decide +kernel)
theorem m_602 : Cond.methodLink RX5 337 Lib.MathLoose.min_long.x ∈ q_T := q_mem 602 (by decide +kernel) (by decide +kernel)
theorem m_603 : Cond.static Lib.MathLoose.min_long.x ∈ q_T := q_mem 603 (by decide +kernel) (by decide +kernel)
theorem m_604 : Cond.code Lib.MathLoose.min_long.x Lib.MathLoose.min_long.code 4 (some .long) ∈ q_T := q_mem 604 (by decide +kernel) (by decide +kernel)
theorem m_163 : Cond.fieldLink RX2 28 RX2 (TX2 1).2.1 (TX2 1).2.2.1 ∈ q_T := q_mem 163 (by decide +kernel) (by decide +kernel)
theorem m_593 : Cond.code yX2_isPlace cX2_isPlace 2 (some .boolean) ∈ q_T := q_mem 593 (by decide +kernel) (by decide +kernel)
theorem m_591 : Cond.instanceMethod yX2_isPlace ∈ q_T := q_mem 591 (by decide +kernel) (by decide +kernel)
theorem m_592 : Cond.selects RX2 yX2_isPlace yX2_isPlace ∈ q_T := q_mem 592 (by decide +kernel) (by decide +kernel)
theorem m_590 : Cond.methodLink RX5 293 yX2_isPlace ∈ q_T := q_mem 590 (by decide +kernel) (by decide +kernel)
theorem m_598 : Cond.methodLink RX2 31 yX2_isPlace ∈ q_T := q_mem 598 (by decide +kernel) (by decide +kernel)
theorem m_165 : Cond.fieldLink RX2 9 RX2 (TX2 2).2.1 (TX2 2).2.2.1 ∈ q_T := q_mem 165 (by decide +kernel) (by decide +kernel)
theorem m_597 : Cond.code yX2_number cX2_number 2 (some .int) ∈ q_T := q_mem 597 (by decide +kernel) (by decide +kernel)
theorem m_595 : Cond.instanceMethod yX2_number ∈ q_T := q_mem 595 (by decide +kernel) (by decide +kernel)
theorem m_596 : Cond.selects RX2 yX2_number yX2_number ∈ q_T := q_mem 596 (by decide +kernel) (by decide +kernel)
theorem m_594 : Cond.methodLink RX5 314 yX2_number ∈ q_T := q_mem 594 (by decide +kernel) (by decide +kernel)
theorem m_589 : Cond.code yX5_isDrawn cX5_isDrawn 5 (some .boolean) ∈ q_T := q_mem 589 (by decide +kernel) (by decide +kernel)
theorem m_588 : Cond.instanceMethod yX5_isDrawn ∈ q_T := q_mem 588 (by decide +kernel) (by decide +kernel)
theorem ms_13 : Cond.selects RX5 yX5_isDrawn yX5_isDrawn ∈ q_T := q_memS 13 (by decide +kernel) (by decide +kernel)
theorem m_586 : Cond.methodLink RX5 323 yX5_isDrawn ∈ q_T := q_mem 586 (by decide +kernel) (by decide +kernel)
theorem m_599 : Cond.methodLink RX5 327 yX0_rightsBeside ∈ q_T := q_mem 599 (by decide +kernel) (by decide +kernel)
theorem m_600 : Cond.methodLink RX5 330 yJ6_bitCount_0f7a4 ∈ q_T := q_mem 600 (by decide +kernel) (by decide +kernel)
theorem m_585 : Cond.code yX5_rowsBy cX5_rowsBy 7 (some .long) ∈ q_T := q_mem 585 (by decide +kernel) (by decide +kernel)
theorem m_584 : Cond.instanceMethod yX5_rowsBy ∈ q_T := q_mem 584 (by decide +kernel) (by decide +kernel)
theorem ms_12 : Cond.selects RX5 yX5_rowsBy yX5_rowsBy ∈ q_T := q_memS 12 (by decide +kernel) (by decide +kernel)
theorem m_582 : Cond.methodLink RX5 235 yX5_rowsBy ∈ q_T := q_mem 582 (by decide +kernel) (by decide +kernel)
theorem m_605 : Cond.constantLong RX5 239 (1000000000) ∈ q_T := q_mem 605 (by decide +kernel) (by decide +kernel)
theorem m_606 : Cond.constant RX5 241 (-1000007) ∈ q_T := q_mem 606 (by decide +kernel) (by decide +kernel)
theorem m_581 : Cond.constant RX5 234 (-1000006) ∈ q_T := q_mem 581 (by decide +kernel) (by decide +kernel)
theorem m_614 : Cond.code yX5_rightsBy cX5_rightsBy 5 (some .int) ∈ q_T := q_mem 614 (by decide +kernel) (by decide +kernel)
theorem m_613 : Cond.instanceMethod yX5_rightsBy ∈ q_T := q_mem 613 (by decide +kernel) (by decide +kernel)
theorem ms_14 : Cond.selects RX5 yX5_rightsBy yX5_rightsBy ∈ q_T := q_memS 14 (by decide +kernel) (by decide +kernel)
theorem m_611 : Cond.methodLink RX5 242 yX5_rightsBy ∈ q_T := q_mem 611 (by decide +kernel) (by decide +kernel)
theorem m_623 : Cond.methodLink RX0 153 yX0_kindOf ∈ q_T := q_mem 623 (by decide +kernel) (by decide +kernel)
theorem m_627 : Cond.methodLink RX1 9 yX1_isKind ∈ q_T := q_mem 627 (by decide +kernel) (by decide +kernel)
theorem m_628 : Cond.fieldLink RX1 13 "PunchByHeart$Kinds" "ABOVE" "[I" ∈ q_T := q_mem 628 (by decide +kernel) (by decide +kernel)
theorem m_626 : Cond.code yX1_isUnder cX1_isUnder 4 (some .boolean) ∈ q_T := q_mem 626 (by decide +kernel) (by decide +kernel)
theorem m_625 : Cond.static yX1_isUnder ∈ q_T := q_mem 625 (by decide +kernel) (by decide +kernel)
theorem m_624 : Cond.methodLink RX0 156 yX1_isUnder ∈ q_T := q_mem 624 (by decide +kernel) (by decide +kernel)
theorem m_622 : Cond.code yX0_dogsIn cX0_dogsIn 4 (some .int) ∈ q_T := q_mem 622 (by decide +kernel) (by decide +kernel)
theorem m_620 : Cond.instanceMethod yX0_dogsIn ∈ q_T := q_mem 620 (by decide +kernel) (by decide +kernel)
theorem m_621 : Cond.selects RX0 yX0_dogsIn yX0_dogsIn ∈ q_T := q_mem 621 (by decide +kernel) (by decide +kernel)
theorem m_619 : Cond.methodLink RX5 246 yX0_dogsIn ∈ q_T := q_mem 619 (by decide +kernel) (by decide +kernel)
theorem m_638 : Cond.methodLink RX0 159 yX0_dogsIn ∈ q_T := q_mem 638 (by decide +kernel) (by decide +kernel)
theorem m_637 : Cond.code yX0_dogsInAll cX0_dogsInAll 3 (some .int) ∈ q_T := q_mem 637 (by decide +kernel) (by decide +kernel)
theorem m_635 : Cond.instanceMethod yX0_dogsInAll ∈ q_T := q_mem 635 (by decide +kernel) (by decide +kernel)
theorem m_636 : Cond.selects RX0 yX0_dogsInAll yX0_dogsInAll ∈ q_T := q_mem 636 (by decide +kernel) (by decide +kernel)
theorem m_634 : Cond.methodLink RX5 249 yX0_dogsInAll ∈ q_T := q_mem 634 (by decide +kernel) (by decide +kernel)
theorem m_639 : Cond.constantLong RX5 252 (1000000000000000) ∈ q_T := q_mem 639 (by decide +kernel) (by decide +kernel)
theorem m_652 : Cond.constant RX0 165 (1103515245) ∈ q_T := q_mem 652 (by decide +kernel) (by decide +kernel)
theorem m_651 : Cond.code yX0_draw cX0_draw 1 (some .int) ∈ q_T := q_mem 651 (by decide +kernel) (by decide +kernel)
theorem m_650 : Cond.instanceMethod yX0_draw ∈ q_T := q_mem 650 (by decide +kernel) (by decide +kernel)
theorem ms_15 : Cond.selects RX0 yX0_draw yX0_draw ∈ q_T := q_memS 15 (by decide +kernel) (by decide +kernel)
theorem m_648 : Cond.methodLink RX0 162 yX0_draw ∈ q_T := q_mem 648 (by decide +kernel) (by decide +kernel)
theorem m_647 : Cond.code yX0_drawEvening cX0_drawEvening 6 (some .int) ∈ q_T := q_mem 647 (by decide +kernel) (by decide +kernel)
theorem m_645 : Cond.instanceMethod yX0_drawEvening ∈ q_T := q_mem 645 (by decide +kernel) (by decide +kernel)
theorem m_646 : Cond.selects RX0 yX0_drawEvening yX0_drawEvening ∈ q_T := q_mem 646 (by decide +kernel) (by decide +kernel)
theorem m_644 : Cond.methodLink RX5 254 yX0_drawEvening ∈ q_T := q_mem 644 (by decide +kernel) (by decide +kernel)
theorem m_47 : Cond.fieldLink RX5 257 RX0 (TX0 5).2.1 (TX0 5).2.2.1 ∈ q_T := q_mem 47 (by decide +kernel) (by decide +kernel)
theorem m_178 : Cond.fieldLink RX5 32 RX5 (TX5 4).2.1 (TX5 4).2.2.1 ∈ q_T := q_mem 178 (by decide +kernel) (by decide +kernel)
theorem m_128 : Cond.fieldLink RX5 260 RX3 (TX3 0).2.1 (TX3 0).2.2.1 ∈ q_T := q_mem 128 (by decide +kernel) (by decide +kernel)
theorem m_127 : Cond.fieldLink RX3 15 RX3 (TX3 0).2.1 (TX3 0).2.2.1 ∈ q_T := q_mem 127 (by decide +kernel) (by decide +kernel)
theorem m_131 : Cond.fieldLink RX3 9 RX3 (TX3 2).2.1 (TX3 2).2.2.1 ∈ q_T := q_mem 131 (by decide +kernel) (by decide +kernel)
theorem m_668 : Cond.code yX3_append cX3_append 2 none ∈ q_T := q_mem 668 (by decide +kernel) (by decide +kernel)
theorem m_4 : Cond.initialized RX3 ∈ q_T := q_mem 4 (by decide +kernel) (by decide +kernel)
theorem m_666 : Cond.instanceMethod yX3_append ∈ q_T := q_mem 666 (by decide +kernel) (by decide +kernel)
theorem m_667 : Cond.selects RX3 yX3_append yX3_append ∈ q_T := q_mem 667 (by decide +kernel) (by decide +kernel)
theorem m_665 : Cond.methodLink RX5 263 yX3_append ∈ q_T := q_mem 665 (by decide +kernel) (by decide +kernel)
theorem m_129 : Cond.fieldLink RX3 19 RX3 (TX3 1).2.1 (TX3 1).2.2.1 ∈ q_T := q_mem 129 (by decide +kernel) (by decide +kernel)
theorem m_132 : Cond.fieldLink RX3 22 RX3 (TX3 3).2.1 (TX3 3).2.2.1 ∈ q_T := q_mem 132 (by decide +kernel) (by decide +kernel)
theorem m_688 : Cond.code yX3_byteAt cX3_byteAt 2 (some .int) ∈ q_T := q_mem 688 (by decide +kernel) (by decide +kernel)
theorem m_687 : Cond.instanceMethod yX3_byteAt ∈ q_T := q_mem 687 (by decide +kernel) (by decide +kernel)
theorem ms_17 : Cond.selects RX3 yX3_byteAt yX3_byteAt ∈ q_T := q_memS 17 (by decide +kernel) (by decide +kernel)
theorem m_685 : Cond.methodLink RX3 102 yX3_byteAt ∈ q_T := q_mem 685 (by decide +kernel) (by decide +kernel)
theorem m_133 : Cond.fieldLink RX3 32 RX3 (TX3 4).2.1 (TX3 4).2.2.1 ∈ q_T := q_mem 133 (by decide +kernel) (by decide +kernel)
theorem m_691 : Cond.code yX3_isLetter cX3_isLetter 1 (some .boolean) ∈ q_T := q_mem 691 (by decide +kernel) (by decide +kernel)
theorem m_690 : Cond.static yX3_isLetter ∈ q_T := q_mem 690 (by decide +kernel) (by decide +kernel)
theorem m_689 : Cond.methodLink RX3 105 yX3_isLetter ∈ q_T := q_mem 689 (by decide +kernel) (by decide +kernel)
theorem m_766 : Cond.code yX3_isDigit cX3_isDigit 1 (some .boolean) ∈ q_T := q_mem 766 (by decide +kernel) (by decide +kernel)
theorem m_765 : Cond.static yX3_isDigit ∈ q_T := q_mem 765 (by decide +kernel) (by decide +kernel)
theorem m_764 : Cond.methodLink RX3 111 yX3_isDigit ∈ q_T := q_mem 764 (by decide +kernel) (by decide +kernel)
theorem m_134 : Cond.fieldLink RX3 35 RX3 (TX3 5).2.1 (TX3 5).2.2.1 ∈ q_T := q_mem 134 (by decide +kernel) (by decide +kernel)
theorem m_135 : Cond.fieldLink RX3 76 RX3 (TX3 6).2.1 (TX3 6).2.2.1 ∈ q_T := q_mem 135 (by decide +kernel) (by decide +kernel)
theorem m_771 : Cond.methodLink RX3 125 Lib.Math.min.name ∈ q_T := q_mem 771 (by decide +kernel) (by decide +kernel)
theorem m_770 : Cond.code yX3_nextNumber cX3_nextNumber 1 none ∈ q_T := q_mem 770 (by decide +kernel) (by decide +kernel)
theorem m_769 : Cond.instanceMethod yX3_nextNumber ∈ q_T := q_mem 769 (by decide +kernel) (by decide +kernel)
theorem ms_20 : Cond.selects RX3 yX3_nextNumber yX3_nextNumber ∈ q_T := q_memS 20 (by decide +kernel) (by decide +kernel)
theorem m_767 : Cond.methodLink RX3 114 yX3_nextNumber ∈ q_T := q_mem 767 (by decide +kernel) (by decide +kernel)
theorem m_136 : Cond.fieldLink RX3 38 RX3 (TX3 7).2.1 (TX3 7).2.2.1 ∈ q_T := q_mem 136 (by decide +kernel) (by decide +kernel)
theorem m_698 : Cond.code yX3_spelling cX3_spelling 1 (some (.object "java/lang/String")) ∈ q_T := q_mem 698 (by decide +kernel) (by decide +kernel)
theorem m_697 : Cond.static yX3_spelling ∈ q_T := q_mem 697 (by decide +kernel) (by decide +kernel)
theorem m_696 : Cond.methodLink RX3 117 yX3_spelling ∈ q_T := q_mem 696 (by decide +kernel) (by decide +kernel)
theorem m_1435 : Cond.fieldLink RJ0 9 "java/lang/String" "value" "[B" ∈ q_T := q_mem 1435 (by decide +kernel) (by decide +kernel)
theorem m_724 : Cond.fieldLink RJ0 38 "java/lang/String" "COMPACT_STRINGS" "Z" ∈ q_T := q_mem 724 (by decide +kernel) (by decide +kernel)
theorem m_1436 : Cond.fieldLink RJ0 15 "java/lang/String" "coder" "B" ∈ q_T := q_mem 1436 (by decide +kernel) (by decide +kernel)
theorem m_723 : Cond.code yJ0_coder_7d493 cJ0_coder_7d493 1 (some .byte) ∈ q_T := q_mem 723 (by decide +kernel) (by decide +kernel)
theorem m_11 : Cond.initialized RJ0 ∈ q_T := q_mem 11 (by decide +kernel) (by decide +kernel)
theorem m_721 : Cond.instanceMethod yJ0_coder_7d493 ∈ q_T := q_mem 721 (by decide +kernel) (by decide +kernel)
theorem m_722 : Cond.selects RJ0 yJ0_coder_7d493 yJ0_coder_7d493 ∈ q_T := q_mem 722 (by decide +kernel) (by decide +kernel)
theorem m_720 : Cond.methodLink RJ0 335 yJ0_coder_7d493 ∈ q_T := q_mem 720 (by decide +kernel) (by decide +kernel)
theorem m_719 : Cond.code yJ0_length_8abf5 cJ0_length_8abf5 1 (some .int) ∈ q_T := q_mem 719 (by decide +kernel) (by decide +kernel)
theorem m_717 : Cond.instanceMethod yJ0_length_8abf5 ∈ q_T := q_mem 717 (by decide +kernel) (by decide +kernel)
theorem m_718 : Cond.selects RJ0 yJ0_length_8abf5 yJ0_length_8abf5 ∈ q_T := q_mem 718 (by decide +kernel) (by decide +kernel)
theorem m_716 : Cond.methodLink RX3 130 yJ0_length_8abf5 ∈ q_T := q_mem 716 (by decide +kernel) (by decide +kernel)
theorem m_733 : Cond.code yJ0_isLatin1_aae02 cJ0_isLatin1_aae02 1 (some .boolean) ∈ q_T := q_mem 733 (by decide +kernel) (by decide +kernel)
theorem m_731 : Cond.instanceMethod yJ0_isLatin1_aae02 ∈ q_T := q_mem 731 (by decide +kernel) (by decide +kernel)
theorem m_732 : Cond.selects RJ0 yJ0_isLatin1_aae02 yJ0_isLatin1_aae02 ∈ q_T := q_mem 732 (by decide +kernel) (by decide +kernel)
theorem m_730 : Cond.methodLink RJ0 492 yJ0_isLatin1_aae02 ∈ q_T := q_mem 730 (by decide +kernel) (by decide +kernel)
theorem m_740 : Cond.fieldLink RJ0 1053 "jdk/internal/util/Preconditions" "SIOOBE_FORMATTER" "Ljava/util/function/BiFunction;" ∈ q_T := q_mem 740 (by decide +kernel) (by decide +kernel)
theorem m_744 : Cond.code yJ3_checkIndex_8e157 cJ3_checkIndex_8e157 3 (some .int) ∈ q_T := q_mem 744 (by decide +kernel) (by decide +kernel)
theorem m_13 : Cond.initialized RJ3 ∈ q_T := q_mem 13 (by decide +kernel) (by decide +kernel)
theorem m_743 : Cond.static yJ3_checkIndex_8e157 ∈ q_T := q_mem 743 (by decide +kernel) (by decide +kernel)
theorem m_742 : Cond.methodLink RJ0 1059 yJ3_checkIndex_8e157 ∈ q_T := q_mem 742 (by decide +kernel) (by decide +kernel)
theorem m_739 : Cond.code yJ0_checkIndex_df160 cJ0_checkIndex_df160 2 none ∈ q_T := q_mem 739 (by decide +kernel) (by decide +kernel)
theorem m_738 : Cond.static yJ0_checkIndex_df160 ∈ q_T := q_mem 738 (by decide +kernel) (by decide +kernel)
theorem m_737 : Cond.methodLink RJ1 9 yJ0_checkIndex_df160 ∈ q_T := q_mem 737 (by decide +kernel) (by decide +kernel)
theorem m_736 : Cond.code yJ1_charAt_3b067 cJ1_charAt_3b067 2 (some .char) ∈ q_T := q_mem 736 (by decide +kernel) (by decide +kernel)
theorem m_12 : Cond.initialized RJ1 ∈ q_T := q_mem 12 (by decide +kernel) (by decide +kernel)
theorem m_735 : Cond.static yJ1_charAt_3b067 ∈ q_T := q_mem 735 (by decide +kernel) (by decide +kernel)
theorem m_734 : Cond.methodLink RJ0 495 yJ1_charAt_3b067 ∈ q_T := q_mem 734 (by decide +kernel) (by decide +kernel)
theorem m_729 : Cond.code yJ0_charAt_5068e cJ0_charAt_5068e 2 (some .char) ∈ q_T := q_mem 729 (by decide +kernel) (by decide +kernel)
theorem m_727 : Cond.instanceMethod yJ0_charAt_5068e ∈ q_T := q_mem 727 (by decide +kernel) (by decide +kernel)
theorem m_728 : Cond.selects RJ0 yJ0_charAt_5068e yJ0_charAt_5068e ∈ q_T := q_mem 728 (by decide +kernel) (by decide +kernel)
theorem m_726 : Cond.methodLink RX3 135 yJ0_charAt_5068e ∈ q_T := q_mem 726 (by decide +kernel) (by decide +kernel)
theorem m_715 : Cond.code yX3_isSpelt cX3_isSpelt 3 (some .boolean) ∈ q_T := q_mem 715 (by decide +kernel) (by decide +kernel)
theorem m_714 : Cond.instanceMethod yX3_isSpelt ∈ q_T := q_mem 714 (by decide +kernel) (by decide +kernel)
theorem ms_19 : Cond.selects RX3 yX3_isSpelt yX3_isSpelt ∈ q_T := q_memS 19 (by decide +kernel) (by decide +kernel)
theorem m_712 : Cond.methodLink RX3 121 yX3_isSpelt ∈ q_T := q_mem 712 (by decide +kernel) (by decide +kernel)
theorem m_695 : Cond.code yX3_nextWord cX3_nextWord 2 none ∈ q_T := q_mem 695 (by decide +kernel) (by decide +kernel)
theorem m_694 : Cond.instanceMethod yX3_nextWord ∈ q_T := q_mem 694 (by decide +kernel) (by decide +kernel)
theorem ms_18 : Cond.selects RX3 yX3_nextWord yX3_nextWord ∈ q_T := q_memS 18 (by decide +kernel) (by decide +kernel)
theorem m_692 : Cond.methodLink RX3 108 yX3_nextWord ∈ q_T := q_mem 692 (by decide +kernel) (by decide +kernel)
theorem m_684 : Cond.code yX3_nextToken cX3_nextToken 1 none ∈ q_T := q_mem 684 (by decide +kernel) (by decide +kernel)
theorem m_683 : Cond.instanceMethod yX3_nextToken ∈ q_T := q_mem 683 (by decide +kernel) (by decide +kernel)
theorem ms_16 : Cond.selects RX3 yX3_nextToken yX3_nextToken ∈ q_T := q_memS 16 (by decide +kernel) (by decide +kernel)
theorem m_681 : Cond.methodLink RX3 25 yX3_nextToken ∈ q_T := q_mem 681 (by decide +kernel) (by decide +kernel)
theorem m_35 : Cond.fieldLink RX3 83 RX0 (TX0 1).2.1 (TX0 1).2.2.1 ∈ q_T := q_mem 35 (by decide +kernel) (by decide +kernel)
theorem m_780 : Cond.methodLink RX3 86 yX0_isCast ∈ q_T := q_mem 780 (by decide +kernel) (by decide +kernel)
theorem m_781 : Cond.methodLink RX3 89 yX0_addBeat ∈ q_T := q_mem 781 (by decide +kernel) (by decide +kernel)
theorem m_785 : Cond.code yX3_isWord cX3_isWord 2 (some .boolean) ∈ q_T := q_mem 785 (by decide +kernel) (by decide +kernel)
theorem m_784 : Cond.instanceMethod yX3_isWord ∈ q_T := q_mem 784 (by decide +kernel) (by decide +kernel)
theorem ms_23 : Cond.selects RX3 yX3_isWord yX3_isWord ∈ q_T := q_memS 23 (by decide +kernel) (by decide +kernel)
theorem m_782 : Cond.methodLink RX3 69 yX3_isWord ∈ q_T := q_mem 782 (by decide +kernel) (by decide +kernel)
theorem m_31 : Cond.fieldLink RX3 60 RX0 (TX0 0).2.1 (TX0 0).2.2.1 ∈ q_T := q_mem 31 (by decide +kernel) (by decide +kernel)
theorem m_789 : Cond.code yX3_isNumber cX3_isNumber 3 (some .boolean) ∈ q_T := q_mem 789 (by decide +kernel) (by decide +kernel)
theorem m_788 : Cond.instanceMethod yX3_isNumber ∈ q_T := q_mem 788 (by decide +kernel) (by decide +kernel)
theorem ms_24 : Cond.selects RX3 yX3_isNumber yX3_isNumber ∈ q_T := q_memS 24 (by decide +kernel) (by decide +kernel)
theorem m_786 : Cond.methodLink RX3 72 yX3_isNumber ∈ q_T := q_mem 786 (by decide +kernel) (by decide +kernel)
theorem m_790 : Cond.methodLink RX3 93 yX0_setSpeaker ∈ q_T := q_mem 790 (by decide +kernel) (by decide +kernel)
theorem m_779 : Cond.code yX3_readBeat cX3_readBeat 3 (some .boolean) ∈ q_T := q_mem 779 (by decide +kernel) (by decide +kernel)
theorem m_778 : Cond.instanceMethod yX3_readBeat ∈ q_T := q_mem 778 (by decide +kernel) (by decide +kernel)
theorem ms_22 : Cond.selects RX3 yX3_readBeat yX3_readBeat ∈ q_T := q_memS 22 (by decide +kernel) (by decide +kernel)
theorem m_776 : Cond.methodLink RX3 41 yX3_readBeat ∈ q_T := q_mem 776 (by decide +kernel) (by decide +kernel)
theorem m_45 : Cond.fieldLink RX3 96 RX0 (TX0 4).2.1 (TX0 4).2.2.1 ∈ q_T := q_mem 45 (by decide +kernel) (by decide +kernel)
theorem m_794 : Cond.code yX3_readLeaves cX3_readLeaves 2 (some .boolean) ∈ q_T := q_mem 794 (by decide +kernel) (by decide +kernel)
theorem m_793 : Cond.instanceMethod yX3_readLeaves ∈ q_T := q_mem 793 (by decide +kernel) (by decide +kernel)
theorem ms_25 : Cond.selects RX3 yX3_readLeaves yX3_readLeaves ∈ q_T := q_memS 25 (by decide +kernel) (by decide +kernel)
theorem m_791 : Cond.methodLink RX3 44 yX3_readLeaves ∈ q_T := q_mem 791 (by decide +kernel) (by decide +kernel)
theorem m_799 : Cond.methodLink RX3 99 yX0_swapHooks ∈ q_T := q_mem 799 (by decide +kernel) (by decide +kernel)
theorem m_798 : Cond.code yX3_readHook cX3_readHook 3 (some .boolean) ∈ q_T := q_mem 798 (by decide +kernel) (by decide +kernel)
theorem m_797 : Cond.instanceMethod yX3_readHook ∈ q_T := q_mem 797 (by decide +kernel) (by decide +kernel)
theorem ms_26 : Cond.selects RX3 yX3_readHook yX3_readHook ∈ q_T := q_memS 26 (by decide +kernel) (by decide +kernel)
theorem m_795 : Cond.methodLink RX3 47 yX3_readHook ∈ q_T := q_mem 795 (by decide +kernel) (by decide +kernel)
theorem m_800 : Cond.methodLink RX3 50 yX1_isKind ∈ q_T := q_mem 800 (by decide +kernel) (by decide +kernel)
theorem m_805 : Cond.methodLink RX3 65 yX0_addDoll ∈ q_T := q_mem 805 (by decide +kernel) (by decide +kernel)
theorem m_806 : Cond.methodLink RX3 79 yX0_setSize ∈ q_T := q_mem 806 (by decide +kernel) (by decide +kernel)
theorem m_804 : Cond.code yX3_readDoll cX3_readDoll 4 (some .boolean) ∈ q_T := q_mem 804 (by decide +kernel) (by decide +kernel)
theorem m_803 : Cond.instanceMethod yX3_readDoll ∈ q_T := q_mem 803 (by decide +kernel) (by decide +kernel)
theorem ms_27 : Cond.selects RX3 yX3_readDoll yX3_readDoll ∈ q_T := q_memS 27 (by decide +kernel) (by decide +kernel)
theorem m_801 : Cond.methodLink RX3 56 yX3_readDoll ∈ q_T := q_mem 801 (by decide +kernel) (by decide +kernel)
theorem m_775 : Cond.code yX3_readItem cX3_readItem 2 (some .boolean) ∈ q_T := q_mem 775 (by decide +kernel) (by decide +kernel)
theorem m_774 : Cond.instanceMethod yX3_readItem ∈ q_T := q_mem 774 (by decide +kernel) (by decide +kernel)
theorem ms_21 : Cond.selects RX3 yX3_readItem yX3_readItem ∈ q_T := q_memS 21 (by decide +kernel) (by decide +kernel)
theorem m_772 : Cond.methodLink RX3 28 yX3_readItem ∈ q_T := q_mem 772 (by decide +kernel) (by decide +kernel)
theorem m_680 : Cond.code yX3_read cX3_read 3 (some .int) ∈ q_T := q_mem 680 (by decide +kernel) (by decide +kernel)
theorem m_678 : Cond.instanceMethod yX3_read ∈ q_T := q_mem 678 (by decide +kernel) (by decide +kernel)
theorem m_679 : Cond.selects RX3 yX3_read yX3_read ∈ q_T := q_mem 679 (by decide +kernel) (by decide +kernel)
theorem m_677 : Cond.methodLink RX5 266 yX3_read ∈ q_T := q_mem 677 (by decide +kernel) (by decide +kernel)
theorem m_130 : Cond.fieldLink RX5 270 RX3 (TX3 1).2.1 (TX3 1).2.2.1 ∈ q_T := q_mem 130 (by decide +kernel) (by decide +kernel)
theorem m_815 : Cond.code yX0_isSpot cX0_isSpot 2 (some .boolean) ∈ q_T := q_mem 815 (by decide +kernel) (by decide +kernel)
theorem m_813 : Cond.instanceMethod yX0_isSpot ∈ q_T := q_mem 813 (by decide +kernel) (by decide +kernel)
theorem m_814 : Cond.selects RX0 yX0_isSpot yX0_isSpot ∈ q_T := q_mem 814 (by decide +kernel) (by decide +kernel)
theorem m_812 : Cond.methodLink RX5 273 yX0_isSpot ∈ q_T := q_mem 812 (by decide +kernel) (by decide +kernel)
theorem m_820 : Cond.methodLink RX0 166 yX0_isSpot ∈ q_T := q_mem 820 (by decide +kernel) (by decide +kernel)
theorem m_819 : Cond.code yX0_setSpot cX0_setSpot 3 none ∈ q_T := q_mem 819 (by decide +kernel) (by decide +kernel)
theorem m_817 : Cond.instanceMethod yX0_setSpot ∈ q_T := q_mem 817 (by decide +kernel) (by decide +kernel)
theorem m_818 : Cond.selects RX0 yX0_setSpot yX0_setSpot ∈ q_T := q_mem 818 (by decide +kernel) (by decide +kernel)
theorem m_816 : Cond.methodLink RX5 276 yX0_setSpot ∈ q_T := q_mem 816 (by decide +kernel) (by decide +kernel)
theorem m_828 : Cond.code yX0_spotOf cX0_spotOf 2 (some .int) ∈ q_T := q_mem 828 (by decide +kernel) (by decide +kernel)
theorem m_826 : Cond.instanceMethod yX0_spotOf ∈ q_T := q_mem 826 (by decide +kernel) (by decide +kernel)
theorem m_827 : Cond.selects RX0 yX0_spotOf yX0_spotOf ∈ q_T := q_mem 827 (by decide +kernel) (by decide +kernel)
theorem m_825 : Cond.methodLink RX5 279 yX0_spotOf ∈ q_T := q_mem 825 (by decide +kernel) (by decide +kernel)
theorem m_829 : Cond.methodLink RX5 282 yX1_isUnder ∈ q_T := q_mem 829 (by decide +kernel) (by decide +kernel)
theorem m_830 : Cond.constant RX5 285 (-1000003) ∈ q_T := q_mem 830 (by decide +kernel) (by decide +kernel)
theorem m_837 : Cond.code yX2_isBits cX2_isBits 1 (some .boolean) ∈ q_T := q_mem 837 (by decide +kernel) (by decide +kernel)
theorem m_836 : Cond.static yX2_isBits ∈ q_T := q_mem 836 (by decide +kernel) (by decide +kernel)
theorem m_835 : Cond.methodLink RX5 286 yX2_isBits ∈ q_T := q_mem 835 (by decide +kernel) (by decide +kernel)
theorem m_842 : Cond.methodLink RX2 19 Lib.Math.min.name ∈ q_T := q_mem 842 (by decide +kernel) (by decide +kernel)
theorem m_843 : Cond.methodLink RX2 25 Lib.Math.max.name ∈ q_T := q_mem 843 (by decide +kernel) (by decide +kernel)
theorem m_844 : Cond.static Lib.Math.max.name ∈ q_T := q_mem 844 (by decide +kernel) (by decide +kernel)
theorem m_845 : Cond.code Lib.Math.max.name Lib.Math.max.code 2 (some .int) ∈ q_T := q_mem 845 (by decide +kernel) (by decide +kernel)
theorem m_841 : Cond.code yX2_begin cX2_begin 4 none ∈ q_T := q_mem 841 (by decide +kernel) (by decide +kernel)
theorem m_839 : Cond.instanceMethod yX2_begin ∈ q_T := q_mem 839 (by decide +kernel) (by decide +kernel)
theorem m_840 : Cond.selects RX2 yX2_begin yX2_begin ∈ q_T := q_mem 840 (by decide +kernel) (by decide +kernel)
theorem m_838 : Cond.methodLink RX5 289 yX2_begin ∈ q_T := q_mem 838 (by decide +kernel) (by decide +kernel)
theorem m_164 : Cond.fieldLink RX5 292 RX2 (TX2 1).2.1 (TX2 1).2.2.1 ∈ q_T := q_mem 164 (by decide +kernel) (by decide +kernel)
theorem m_853 : Cond.code yX2_put cX2_put 3 none ∈ q_T := q_mem 853 (by decide +kernel) (by decide +kernel)
theorem m_851 : Cond.instanceMethod yX2_put ∈ q_T := q_mem 851 (by decide +kernel) (by decide +kernel)
theorem m_852 : Cond.selects RX2 yX2_put yX2_put ∈ q_T := q_mem 852 (by decide +kernel) (by decide +kernel)
theorem m_850 : Cond.methodLink RX5 296 yX2_put ∈ q_T := q_mem 850 (by decide +kernel) (by decide +kernel)
theorem m_162 : Cond.fieldLink RX5 299 RX2 (TX2 0).2.1 (TX2 0).2.2.1 ∈ q_T := q_mem 162 (by decide +kernel) (by decide +kernel)
theorem m_861 : Cond.code yX2_isStretch cX2_isStretch 3 (some .boolean) ∈ q_T := q_mem 861 (by decide +kernel) (by decide +kernel)
theorem m_859 : Cond.instanceMethod yX2_isStretch ∈ q_T := q_mem 859 (by decide +kernel) (by decide +kernel)
theorem m_860 : Cond.selects RX2 yX2_isStretch yX2_isStretch ∈ q_T := q_mem 860 (by decide +kernel) (by decide +kernel)
theorem m_858 : Cond.methodLink RX5 302 yX2_isStretch ∈ q_T := q_mem 858 (by decide +kernel) (by decide +kernel)
theorem m_166 : Cond.fieldLink RX5 305 RX2 (TX2 2).2.1 (TX2 2).2.2.1 ∈ q_T := q_mem 166 (by decide +kernel) (by decide +kernel)
theorem m_862 : Cond.methodLink RX5 308 arraycopyName ∈ q_T := q_mem 862 (by decide +kernel) (by decide +kernel)
theorem m_175 : Cond.fieldLink RX5 16 RX5 (TX5 1).2.1 (TX5 1).2.2.1 ∈ q_T := q_mem 175 (by decide +kernel) (by decide +kernel)
theorem m_181 : Cond.fieldLink RX5 47 RX5 (TX5 7).2.1 (TX5 7).2.2.1 ∈ q_T := q_mem 181 (by decide +kernel) (by decide +kernel)
theorem m_891 : Cond.methodLink RX0 84 yX0_sizeOf ∈ q_T := q_mem 891 (by decide +kernel) (by decide +kernel)
theorem m_890 : Cond.code yX0_sizesTogether cX0_sizesTogether 3 (some .int) ∈ q_T := q_mem 890 (by decide +kernel) (by decide +kernel)
theorem m_888 : Cond.instanceMethod yX0_sizesTogether ∈ q_T := q_mem 888 (by decide +kernel) (by decide +kernel)
theorem m_889 : Cond.selects RX0 yX0_sizesTogether yX0_sizesTogether ∈ q_T := q_mem 889 (by decide +kernel) (by decide +kernel)
theorem m_887 : Cond.methodLink RX5 317 yX0_sizesTogether ∈ q_T := q_mem 887 (by decide +kernel) (by decide +kernel)
theorem m_895 : Cond.code yX0_spotsInUse cX0_spotsInUse 3 (some .int) ∈ q_T := q_mem 895 (by decide +kernel) (by decide +kernel)
theorem m_893 : Cond.instanceMethod yX0_spotsInUse ∈ q_T := q_mem 893 (by decide +kernel) (by decide +kernel)
theorem m_894 : Cond.selects RX0 yX0_spotsInUse yX0_spotsInUse ∈ q_T := q_mem 894 (by decide +kernel) (by decide +kernel)
theorem m_892 : Cond.methodLink RX5 320 yX0_spotsInUse ∈ q_T := q_mem 892 (by decide +kernel) (by decide +kernel)
theorem m_919 : Cond.fieldLink RX6 19 RX6 (TX6 4).2.1 (TX6 4).2.2.1 ∈ q_T := q_mem 919 (by decide +kernel) (by decide +kernel)
theorem m_1002 : Cond.constant RX6 70 (-1000001) ∈ q_T := q_mem 1002 (by decide +kernel) (by decide +kernel)
theorem m_915 : Cond.fieldLink RX6 9 RX6 (TX6 0).2.1 (TX6 0).2.2.1 ∈ q_T := q_mem 915 (by decide +kernel) (by decide +kernel)
theorem m_917 : Cond.fieldLink RX6 16 RX6 (TX6 2).2.1 (TX6 2).2.2.1 ∈ q_T := q_mem 917 (by decide +kernel) (by decide +kernel)
theorem m_1234 : Cond.code yX6_copyRow cX6_copyRow 3 none ∈ q_T := q_mem 1234 (by decide +kernel) (by decide +kernel)
theorem m_6 : Cond.initialized RX6 ∈ q_T := q_mem 6 (by decide +kernel) (by decide +kernel)
theorem m_1233 : Cond.static yX6_copyRow ∈ q_T := q_mem 1233 (by decide +kernel) (by decide +kernel)
theorem m_1232 : Cond.methodLink RX6 71 yX6_copyRow ∈ q_T := q_mem 1232 (by decide +kernel) (by decide +kernel)
theorem m_1001 : Cond.code yX6_within cX6_within 3 (some .boolean) ∈ q_T := q_mem 1001 (by decide +kernel) (by decide +kernel)
theorem m_1000 : Cond.static yX6_within ∈ q_T := q_mem 1000 (by decide +kernel) (by decide +kernel)
theorem m_999 : Cond.methodLink RX6 75 yX6_within ∈ q_T := q_mem 999 (by decide +kernel) (by decide +kernel)
theorem m_1014 : Cond.code yX6_at cX6_at 2 (some .int) ∈ q_T := q_mem 1014 (by decide +kernel) (by decide +kernel)
theorem m_1013 : Cond.static yX6_at ∈ q_T := q_mem 1013 (by decide +kernel) (by decide +kernel)
theorem m_1012 : Cond.methodLink RX6 79 yX6_at ∈ q_T := q_mem 1012 (by decide +kernel) (by decide +kernel)
theorem m_998 : Cond.code yX6_isKind cX6_isKind 1 (some .boolean) ∈ q_T := q_mem 998 (by decide +kernel) (by decide +kernel)
theorem m_997 : Cond.static yX6_isKind ∈ q_T := q_mem 997 (by decide +kernel) (by decide +kernel)
theorem m_996 : Cond.methodLink RX6 83 yX6_isKind ∈ q_T := q_mem 996 (by decide +kernel) (by decide +kernel)
theorem m_1011 : Cond.code yX6_comes cX6_comes 4 (some .int) ∈ q_T := q_mem 1011 (by decide +kernel) (by decide +kernel)
theorem m_1010 : Cond.instanceMethod yX6_comes ∈ q_T := q_mem 1010 (by decide +kernel) (by decide +kernel)
theorem ms_29 : Cond.selects RX6 yX6_comes yX6_comes ∈ q_T := q_memS 29 (by decide +kernel) (by decide +kernel)
theorem m_1008 : Cond.methodLink RX6 92 yX6_comes ∈ q_T := q_mem 1008 (by decide +kernel) (by decide +kernel)
theorem m_1007 : Cond.constant RX6 91 (-1000002) ∈ q_T := q_mem 1007 (by decide +kernel) (by decide +kernel)
theorem m_1006 : Cond.code yX6_finding cX6_finding 2 (some .int) ∈ q_T := q_mem 1006 (by decide +kernel) (by decide +kernel)
theorem m_1005 : Cond.instanceMethod yX6_finding ∈ q_T := q_mem 1005 (by decide +kernel) (by decide +kernel)
theorem ms_28 : Cond.selects RX6 yX6_finding yX6_finding ∈ q_T := q_memS 28 (by decide +kernel) (by decide +kernel)
theorem m_1003 : Cond.methodLink RX6 87 yX6_finding ∈ q_T := q_mem 1003 (by decide +kernel) (by decide +kernel)
theorem m_1036 : Cond.code yX6_above cX6_above 1 (some .int) ∈ q_T := q_mem 1036 (by decide +kernel) (by decide +kernel)
theorem m_1035 : Cond.static yX6_above ∈ q_T := q_mem 1035 (by decide +kernel) (by decide +kernel)
theorem m_1034 : Cond.methodLink RX6 95 yX6_above ∈ q_T := q_mem 1034 (by decide +kernel) (by decide +kernel)
theorem m_1026 : Cond.code yX6_dollIs cX6_dollIs 3 (some .int) ∈ q_T := q_mem 1026 (by decide +kernel) (by decide +kernel)
theorem m_1025 : Cond.instanceMethod yX6_dollIs ∈ q_T := q_mem 1025 (by decide +kernel) (by decide +kernel)
theorem ms_31 : Cond.selects RX6 yX6_dollIs yX6_dollIs ∈ q_T := q_memS 31 (by decide +kernel) (by decide +kernel)
theorem m_1023 : Cond.methodLink RX6 98 yX6_dollIs ∈ q_T := q_mem 1023 (by decide +kernel) (by decide +kernel)
theorem m_1033 : Cond.code yX6_isUnder cX6_isUnder 3 (some .boolean) ∈ q_T := q_mem 1033 (by decide +kernel) (by decide +kernel)
theorem m_1032 : Cond.static yX6_isUnder ∈ q_T := q_mem 1032 (by decide +kernel) (by decide +kernel)
theorem m_1031 : Cond.methodLink RX6 101 yX6_isUnder ∈ q_T := q_mem 1031 (by decide +kernel) (by decide +kernel)
theorem m_1041 : Cond.methodLink RX6 105 Lib.Math.max.name ∈ q_T := q_mem 1041 (by decide +kernel) (by decide +kernel)
theorem m_1022 : Cond.code yX6_isDoll cX6_isDoll 2 (some .boolean) ∈ q_T := q_mem 1022 (by decide +kernel) (by decide +kernel)
theorem m_1021 : Cond.instanceMethod yX6_isDoll ∈ q_T := q_mem 1021 (by decide +kernel) (by decide +kernel)
theorem ms_30 : Cond.selects RX6 yX6_isDoll yX6_isDoll ∈ q_T := q_memS 30 (by decide +kernel) (by decide +kernel)
theorem m_1019 : Cond.methodLink RX6 110 yX6_isDoll ∈ q_T := q_mem 1019 (by decide +kernel) (by decide +kernel)
theorem m_1030 : Cond.code yX6_wants cX6_wants 3 (some .int) ∈ q_T := q_mem 1030 (by decide +kernel) (by decide +kernel)
theorem m_1029 : Cond.instanceMethod yX6_wants ∈ q_T := q_mem 1029 (by decide +kernel) (by decide +kernel)
theorem ms_32 : Cond.selects RX6 yX6_wants yX6_wants ∈ q_T := q_memS 32 (by decide +kernel) (by decide +kernel)
theorem m_1027 : Cond.methodLink RX6 113 yX6_wants ∈ q_T := q_mem 1027 (by decide +kernel) (by decide +kernel)
theorem m_1040 : Cond.code yX6_takesOn cX6_takesOn 3 (some .int) ∈ q_T := q_mem 1040 (by decide +kernel) (by decide +kernel)
theorem m_1039 : Cond.instanceMethod yX6_takesOn ∈ q_T := q_mem 1039 (by decide +kernel) (by decide +kernel)
theorem ms_33 : Cond.selects RX6 yX6_takesOn yX6_takesOn ∈ q_T := q_memS 33 (by decide +kernel) (by decide +kernel)
theorem m_1037 : Cond.methodLink RX6 116 yX6_takesOn ∈ q_T := q_mem 1037 (by decide +kernel) (by decide +kernel)
theorem m_1045 : Cond.code yX6_voice cX6_voice 2 (some .int) ∈ q_T := q_mem 1045 (by decide +kernel) (by decide +kernel)
theorem m_1044 : Cond.instanceMethod yX6_voice ∈ q_T := q_mem 1044 (by decide +kernel) (by decide +kernel)
theorem ms_34 : Cond.selects RX6 yX6_voice yX6_voice ∈ q_T := q_memS 34 (by decide +kernel) (by decide +kernel)
theorem m_1042 : Cond.methodLink RX6 119 yX6_voice ∈ q_T := q_mem 1042 (by decide +kernel) (by decide +kernel)
theorem m_1053 : Cond.code yX6_become cX6_become 4 (some .int) ∈ q_T := q_mem 1053 (by decide +kernel) (by decide +kernel)
theorem m_1052 : Cond.instanceMethod yX6_become ∈ q_T := q_mem 1052 (by decide +kernel) (by decide +kernel)
theorem ms_35 : Cond.selects RX6 yX6_become yX6_become ∈ q_T := q_memS 35 (by decide +kernel) (by decide +kernel)
theorem m_1050 : Cond.methodLink RX6 122 yX6_become ∈ q_T := q_mem 1050 (by decide +kernel) (by decide +kernel)
theorem m_1061 : Cond.code yX6_swapsHooks cX6_swapsHooks 4 (some .int) ∈ q_T := q_mem 1061 (by decide +kernel) (by decide +kernel)
theorem m_1060 : Cond.instanceMethod yX6_swapsHooks ∈ q_T := q_mem 1060 (by decide +kernel) (by decide +kernel)
theorem ms_36 : Cond.selects RX6 yX6_swapsHooks yX6_swapsHooks ∈ q_T := q_memS 36 (by decide +kernel) (by decide +kernel)
theorem m_1058 : Cond.methodLink RX6 125 yX6_swapsHooks ∈ q_T := q_mem 1058 (by decide +kernel) (by decide +kernel)
theorem m_1073 : Cond.code yX6_isCast cX6_isCast 2 (some .boolean) ∈ q_T := q_mem 1073 (by decide +kernel) (by decide +kernel)
theorem m_1072 : Cond.instanceMethod yX6_isCast ∈ q_T := q_mem 1072 (by decide +kernel) (by decide +kernel)
theorem ms_37 : Cond.selects RX6 yX6_isCast yX6_isCast ∈ q_T := q_memS 37 (by decide +kernel) (by decide +kernel)
theorem m_1070 : Cond.methodLink RX6 128 yX6_isCast ∈ q_T := q_mem 1070 (by decide +kernel) (by decide +kernel)
theorem m_1077 : Cond.code yX6_maySpeak cX6_maySpeak 2 (some .boolean) ∈ q_T := q_mem 1077 (by decide +kernel) (by decide +kernel)
theorem m_1076 : Cond.instanceMethod yX6_maySpeak ∈ q_T := q_mem 1076 (by decide +kernel) (by decide +kernel)
theorem ms_38 : Cond.selects RX6 yX6_maySpeak yX6_maySpeak ∈ q_T := q_memS 38 (by decide +kernel) (by decide +kernel)
theorem m_1074 : Cond.methodLink RX6 131 yX6_maySpeak ∈ q_T := q_mem 1074 (by decide +kernel) (by decide +kernel)
theorem m_1081 : Cond.code yX6_comesBeat cX6_comesBeat 4 (some .int) ∈ q_T := q_mem 1081 (by decide +kernel) (by decide +kernel)
theorem m_1080 : Cond.instanceMethod yX6_comesBeat ∈ q_T := q_mem 1080 (by decide +kernel) (by decide +kernel)
theorem ms_39 : Cond.selects RX6 yX6_comesBeat yX6_comesBeat ∈ q_T := q_memS 39 (by decide +kernel) (by decide +kernel)
theorem m_1078 : Cond.methodLink RX6 134 yX6_comesBeat ∈ q_T := q_mem 1078 (by decide +kernel) (by decide +kernel)
theorem m_1099 : Cond.code yX6_bits cX6_bits 3 (some .int) ∈ q_T := q_mem 1099 (by decide +kernel) (by decide +kernel)
theorem m_1098 : Cond.static yX6_bits ∈ q_T := q_mem 1098 (by decide +kernel) (by decide +kernel)
theorem m_1097 : Cond.methodLink RX6 140 yX6_bits ∈ q_T := q_mem 1097 (by decide +kernel) (by decide +kernel)
theorem m_1096 : Cond.code yX6_has cX6_has 2 (some .boolean) ∈ q_T := q_mem 1096 (by decide +kernel) (by decide +kernel)
theorem m_1095 : Cond.static yX6_has ∈ q_T := q_mem 1095 (by decide +kernel) (by decide +kernel)
theorem m_1094 : Cond.methodLink RX6 137 yX6_has ∈ q_T := q_mem 1094 (by decide +kernel) (by decide +kernel)
theorem m_1089 : Cond.code yX6_isBeat cX6_isBeat 2 (some .boolean) ∈ q_T := q_mem 1089 (by decide +kernel) (by decide +kernel)
theorem m_1088 : Cond.instanceMethod yX6_isBeat ∈ q_T := q_mem 1088 (by decide +kernel) (by decide +kernel)
theorem ms_40 : Cond.selects RX6 yX6_isBeat yX6_isBeat ∈ q_T := q_memS 40 (by decide +kernel) (by decide +kernel)
theorem m_1086 : Cond.methodLink RX6 143 yX6_isBeat ∈ q_T := q_mem 1086 (by decide +kernel) (by decide +kernel)
theorem m_1093 : Cond.code yX6_isWrongBeat cX6_isWrongBeat 6 (some .boolean) ∈ q_T := q_mem 1093 (by decide +kernel) (by decide +kernel)
theorem m_1092 : Cond.instanceMethod yX6_isWrongBeat ∈ q_T := q_mem 1092 (by decide +kernel) (by decide +kernel)
theorem ms_41 : Cond.selects RX6 yX6_isWrongBeat yX6_isWrongBeat ∈ q_T := q_memS 41 (by decide +kernel) (by decide +kernel)
theorem m_1090 : Cond.methodLink RX6 146 yX6_isWrongBeat ∈ q_T := q_mem 1090 (by decide +kernel) (by decide +kernel)
theorem m_1111 : Cond.code yX6_goes cX6_goes 3 (some .int) ∈ q_T := q_mem 1111 (by decide +kernel) (by decide +kernel)
theorem m_1110 : Cond.instanceMethod yX6_goes ∈ q_T := q_mem 1110 (by decide +kernel) (by decide +kernel)
theorem ms_42 : Cond.selects RX6 yX6_goes yX6_goes ∈ q_T := q_memS 42 (by decide +kernel) (by decide +kernel)
theorem m_1108 : Cond.methodLink RX6 149 yX6_goes ∈ q_T := q_mem 1108 (by decide +kernel) (by decide +kernel)
theorem m_1119 : Cond.code yX6_wrongBeats cX6_wrongBeats 3 (some .int) ∈ q_T := q_mem 1119 (by decide +kernel) (by decide +kernel)
theorem m_1118 : Cond.instanceMethod yX6_wrongBeats ∈ q_T := q_mem 1118 (by decide +kernel) (by decide +kernel)
theorem ms_43 : Cond.selects RX6 yX6_wrongBeats yX6_wrongBeats ∈ q_T := q_memS 43 (by decide +kernel) (by decide +kernel)
theorem m_1116 : Cond.methodLink RX6 152 yX6_wrongBeats ∈ q_T := q_mem 1116 (by decide +kernel) (by decide +kernel)
theorem m_1139 : Cond.code yX6_takes cX6_takes 3 (some .int) ∈ q_T := q_mem 1139 (by decide +kernel) (by decide +kernel)
theorem m_1138 : Cond.instanceMethod yX6_takes ∈ q_T := q_mem 1138 (by decide +kernel) (by decide +kernel)
theorem ms_45 : Cond.selects RX6 yX6_takes yX6_takes ∈ q_T := q_memS 45 (by decide +kernel) (by decide +kernel)
theorem m_1136 : Cond.methodLink RX6 156 yX6_takes ∈ q_T := q_mem 1136 (by decide +kernel) (by decide +kernel)
theorem m_1130 : Cond.code yX6_isHand cX6_isHand 1 (some .boolean) ∈ q_T := q_mem 1130 (by decide +kernel) (by decide +kernel)
theorem m_1129 : Cond.static yX6_isHand ∈ q_T := q_mem 1129 (by decide +kernel) (by decide +kernel)
theorem m_1128 : Cond.methodLink RX6 159 yX6_isHand ∈ q_T := q_mem 1128 (by decide +kernel) (by decide +kernel)
theorem m_1135 : Cond.code yX6_putsIt cX6_putsIt 4 (some .int) ∈ q_T := q_mem 1135 (by decide +kernel) (by decide +kernel)
theorem m_1134 : Cond.instanceMethod yX6_putsIt ∈ q_T := q_mem 1134 (by decide +kernel) (by decide +kernel)
theorem ms_44 : Cond.selects RX6 yX6_putsIt yX6_putsIt ∈ q_T := q_memS 44 (by decide +kernel) (by decide +kernel)
theorem m_1132 : Cond.methodLink RX6 163 yX6_putsIt ∈ q_T := q_mem 1132 (by decide +kernel) (by decide +kernel)
theorem m_1131 : Cond.constant RX6 162 (-1000005) ∈ q_T := q_mem 1131 (by decide +kernel) (by decide +kernel)
theorem m_1151 : Cond.code yX6_doesSuit cX6_doesSuit 5 (some .boolean) ∈ q_T := q_mem 1151 (by decide +kernel) (by decide +kernel)
theorem m_1150 : Cond.instanceMethod yX6_doesSuit ∈ q_T := q_mem 1150 (by decide +kernel) (by decide +kernel)
theorem ms_46 : Cond.selects RX6 yX6_doesSuit yX6_doesSuit ∈ q_T := q_memS 46 (by decide +kernel) (by decide +kernel)
theorem m_1148 : Cond.methodLink RX6 166 yX6_doesSuit ∈ q_T := q_mem 1148 (by decide +kernel) (by decide +kernel)
theorem m_1177 : Cond.code yX6_leftOf cX6_leftOf 1 (some .int) ∈ q_T := q_mem 1177 (by decide +kernel) (by decide +kernel)
theorem m_1176 : Cond.static yX6_leftOf ∈ q_T := q_mem 1176 (by decide +kernel) (by decide +kernel)
theorem m_1175 : Cond.methodLink RX6 169 yX6_leftOf ∈ q_T := q_mem 1175 (by decide +kernel) (by decide +kernel)
theorem m_1180 : Cond.code yX6_rightOf cX6_rightOf 1 (some .int) ∈ q_T := q_mem 1180 (by decide +kernel) (by decide +kernel)
theorem m_1179 : Cond.static yX6_rightOf ∈ q_T := q_mem 1179 (by decide +kernel) (by decide +kernel)
theorem m_1178 : Cond.methodLink RX6 172 yX6_rightOf ∈ q_T := q_mem 1178 (by decide +kernel) (by decide +kernel)
theorem m_920 : Cond.fieldLink RX6 22 RX6 (TX6 5).2.1 (TX6 5).2.2.1 ∈ q_T := q_mem 920 (by decide +kernel) (by decide +kernel)
theorem m_1194 : Cond.code yX6_holdNow cX6_holdNow 1 (some .int) ∈ q_T := q_mem 1194 (by decide +kernel) (by decide +kernel)
theorem m_1193 : Cond.instanceMethod yX6_holdNow ∈ q_T := q_mem 1193 (by decide +kernel) (by decide +kernel)
theorem ms_52 : Cond.selects RX6 yX6_holdNow yX6_holdNow ∈ q_T := q_memS 52 (by decide +kernel) (by decide +kernel)
theorem m_1191 : Cond.methodLink RX6 186 yX6_holdNow ∈ q_T := q_mem 1191 (by decide +kernel) (by decide +kernel)
theorem m_921 : Cond.fieldLink RX6 25 RX6 (TX6 6).2.1 (TX6 6).2.2.1 ∈ q_T := q_mem 921 (by decide +kernel) (by decide +kernel)
theorem m_1184 : Cond.code yX6_isHold cX6_isHold 3 (some .boolean) ∈ q_T := q_mem 1184 (by decide +kernel) (by decide +kernel)
theorem m_1183 : Cond.instanceMethod yX6_isHold ∈ q_T := q_mem 1183 (by decide +kernel) (by decide +kernel)
theorem ms_50 : Cond.selects RX6 yX6_isHold yX6_isHold ∈ q_T := q_memS 50 (by decide +kernel) (by decide +kernel)
theorem m_1181 : Cond.methodLink RX6 175 yX6_isHold ∈ q_T := q_mem 1181 (by decide +kernel) (by decide +kernel)
theorem m_1185 : Cond.constant RX6 178 (1000000) ∈ q_T := q_mem 1185 (by decide +kernel) (by decide +kernel)
theorem m_1189 : Cond.code yX6_worthBetween cX6_worthBetween 4 (some .int) ∈ q_T := q_mem 1189 (by decide +kernel) (by decide +kernel)
theorem m_1188 : Cond.instanceMethod yX6_worthBetween ∈ q_T := q_mem 1188 (by decide +kernel) (by decide +kernel)
theorem ms_51 : Cond.selects RX6 yX6_worthBetween yX6_worthBetween ∈ q_T := q_memS 51 (by decide +kernel) (by decide +kernel)
theorem m_1186 : Cond.methodLink RX6 179 yX6_worthBetween ∈ q_T := q_mem 1186 (by decide +kernel) (by decide +kernel)
theorem m_1190 : Cond.methodLink RX6 183 Lib.Math.min.name ∈ q_T := q_mem 1190 (by decide +kernel) (by decide +kernel)
theorem m_1162 : Cond.code yX6_isWhat cX6_isWhat 1 (some .boolean) ∈ q_T := q_mem 1162 (by decide +kernel) (by decide +kernel)
theorem m_1161 : Cond.static yX6_isWhat ∈ q_T := q_mem 1161 (by decide +kernel) (by decide +kernel)
theorem m_1160 : Cond.methodLink RX6 189 yX6_isWhat ∈ q_T := q_mem 1160 (by decide +kernel) (by decide +kernel)
theorem m_1166 : Cond.code yX6_doesGo cX6_doesGo 1 (some .boolean) ∈ q_T := q_mem 1166 (by decide +kernel) (by decide +kernel)
theorem m_1165 : Cond.instanceMethod yX6_doesGo ∈ q_T := q_mem 1165 (by decide +kernel) (by decide +kernel)
theorem ms_47 : Cond.selects RX6 yX6_doesGo yX6_doesGo ∈ q_T := q_memS 47 (by decide +kernel) (by decide +kernel)
theorem m_1163 : Cond.methodLink RX6 192 yX6_doesGo ∈ q_T := q_mem 1163 (by decide +kernel) (by decide +kernel)
theorem m_1170 : Cond.code yX6_allBeats cX6_allBeats 1 (some .int) ∈ q_T := q_mem 1170 (by decide +kernel) (by decide +kernel)
theorem m_1169 : Cond.instanceMethod yX6_allBeats ∈ q_T := q_mem 1169 (by decide +kernel) (by decide +kernel)
theorem ms_48 : Cond.selects RX6 yX6_allBeats yX6_allBeats ∈ q_T := q_memS 48 (by decide +kernel) (by decide +kernel)
theorem m_1167 : Cond.methodLink RX6 196 yX6_allBeats ∈ q_T := q_mem 1167 (by decide +kernel) (by decide +kernel)
theorem m_1174 : Cond.code yX6_findWay cX6_findWay 7 (some .int) ∈ q_T := q_mem 1174 (by decide +kernel) (by decide +kernel)
theorem m_1173 : Cond.instanceMethod yX6_findWay ∈ q_T := q_mem 1173 (by decide +kernel) (by decide +kernel)
theorem ms_49 : Cond.selects RX6 yX6_findWay yX6_findWay ∈ q_T := q_memS 49 (by decide +kernel) (by decide +kernel)
theorem m_1171 : Cond.methodLink RX6 199 yX6_findWay ∈ q_T := q_mem 1171 (by decide +kernel) (by decide +kernel)
theorem m_1202 : Cond.code yX6_nextHold cX6_nextHold 5 (some .int) ∈ q_T := q_mem 1202 (by decide +kernel) (by decide +kernel)
theorem m_1201 : Cond.instanceMethod yX6_nextHold ∈ q_T := q_mem 1201 (by decide +kernel) (by decide +kernel)
theorem ms_53 : Cond.selects RX6 yX6_nextHold yX6_nextHold ∈ q_T := q_memS 53 (by decide +kernel) (by decide +kernel)
theorem m_1199 : Cond.methodLink RX6 202 yX6_nextHold ∈ q_T := q_mem 1199 (by decide +kernel) (by decide +kernel)
theorem m_1211 : Cond.constant RX6 205 (-1000004) ∈ q_T := q_mem 1211 (by decide +kernel) (by decide +kernel)
theorem m_922 : Cond.fieldLink RX6 206 RX6 (TX6 7).2.1 (TX6 7).2.2.1 ∈ q_T := q_mem 922 (by decide +kernel) (by decide +kernel)
theorem m_1219 : Cond.code yX6_bestRehang cX6_bestRehang 6 (some .int) ∈ q_T := q_mem 1219 (by decide +kernel) (by decide +kernel)
theorem m_1218 : Cond.instanceMethod yX6_bestRehang ∈ q_T := q_mem 1218 (by decide +kernel) (by decide +kernel)
theorem ms_54 : Cond.selects RX6 yX6_bestRehang yX6_bestRehang ∈ q_T := q_memS 54 (by decide +kernel) (by decide +kernel)
theorem m_1216 : Cond.methodLink RX6 210 yX6_bestRehang ∈ q_T := q_mem 1216 (by decide +kernel) (by decide +kernel)
theorem m_1238 : Cond.code yX6_areTogether cX6_areTogether 5 (some .boolean) ∈ q_T := q_mem 1238 (by decide +kernel) (by decide +kernel)
theorem m_1237 : Cond.instanceMethod yX6_areTogether ∈ q_T := q_mem 1237 (by decide +kernel) (by decide +kernel)
theorem ms_55 : Cond.selects RX6 yX6_areTogether yX6_areTogether ∈ q_T := q_memS 55 (by decide +kernel) (by decide +kernel)
theorem m_1235 : Cond.methodLink RX6 213 yX6_areTogether ∈ q_T := q_mem 1235 (by decide +kernel) (by decide +kernel)
theorem m_1242 : Cond.code yX6_comesFor cX6_comesFor 5 none ∈ q_T := q_mem 1242 (by decide +kernel) (by decide +kernel)
theorem m_1241 : Cond.instanceMethod yX6_comesFor ∈ q_T := q_mem 1241 (by decide +kernel) (by decide +kernel)
theorem ms_56 : Cond.selects RX6 yX6_comesFor yX6_comesFor ∈ q_T := q_memS 56 (by decide +kernel) (by decide +kernel)
theorem m_1239 : Cond.methodLink RX6 216 yX6_comesFor ∈ q_T := q_mem 1239 (by decide +kernel) (by decide +kernel)
theorem m_923 : Cond.fieldLink RX6 29 RX6 (TX6 8).2.1 (TX6 8).2.2.1 ∈ q_T := q_mem 923 (by decide +kernel) (by decide +kernel)
theorem m_937 : Cond.fieldLink RX6 61 RX6 (TX6 22).2.1 (TX6 22).2.2.1 ∈ q_T := q_mem 937 (by decide +kernel) (by decide +kernel)
theorem m_938 : Cond.fieldLink RX6 64 RX6 (TX6 23).2.1 (TX6 23).2.2.1 ∈ q_T := q_mem 938 (by decide +kernel) (by decide +kernel)
theorem m_1266 : Cond.code yX6_isDrawn cX6_isDrawn 5 (some .boolean) ∈ q_T := q_mem 1266 (by decide +kernel) (by decide +kernel)
theorem m_1265 : Cond.instanceMethod yX6_isDrawn ∈ q_T := q_mem 1265 (by decide +kernel) (by decide +kernel)
theorem ms_59 : Cond.selects RX6 yX6_isDrawn yX6_isDrawn ∈ q_T := q_memS 59 (by decide +kernel) (by decide +kernel)
theorem m_1263 : Cond.methodLink RX6 220 yX6_isDrawn ∈ q_T := q_mem 1263 (by decide +kernel) (by decide +kernel)
theorem m_1262 : Cond.code yX6_holdsFor cX6_holdsFor 6 (some .int) ∈ q_T := q_mem 1262 (by decide +kernel) (by decide +kernel)
theorem m_1261 : Cond.instanceMethod yX6_holdsFor ∈ q_T := q_mem 1261 (by decide +kernel) (by decide +kernel)
theorem ms_58 : Cond.selects RX6 yX6_holdsFor yX6_holdsFor ∈ q_T := q_memS 58 (by decide +kernel) (by decide +kernel)
theorem m_1259 : Cond.methodLink RX6 223 yX6_holdsFor ∈ q_T := q_mem 1259 (by decide +kernel) (by decide +kernel)
theorem m_1267 : Cond.constantLong RX6 226 (1000000001) ∈ q_T := q_mem 1267 (by decide +kernel) (by decide +kernel)
theorem m_1268 : Cond.methodLink RX6 228 Lib.MathLoose.min_long.x ∈ q_T := q_mem 1268 (by decide +kernel) (by decide +kernel)
theorem m_1253 : Cond.code yX6_isSheet cX6_isSheet 1 (some .boolean) ∈ q_T := q_mem 1253 (by decide +kernel) (by decide +kernel)
theorem m_1252 : Cond.static yX6_isSheet ∈ q_T := q_mem 1252 (by decide +kernel) (by decide +kernel)
theorem m_1251 : Cond.methodLink RX6 231 yX6_isSheet ∈ q_T := q_mem 1251 (by decide +kernel) (by decide +kernel)
theorem m_936 : Cond.fieldLink RX6 58 RX6 (TX6 21).2.1 (TX6 21).2.2.1 ∈ q_T := q_mem 936 (by decide +kernel) (by decide +kernel)
theorem m_1258 : Cond.code yX6_rowsOf cX6_rowsOf 7 (some .int) ∈ q_T := q_mem 1258 (by decide +kernel) (by decide +kernel)
theorem m_1257 : Cond.instanceMethod yX6_rowsOf ∈ q_T := q_mem 1257 (by decide +kernel) (by decide +kernel)
theorem ms_57 : Cond.selects RX6 yX6_rowsOf yX6_rowsOf ∈ q_T := q_memS 57 (by decide +kernel) (by decide +kernel)
theorem m_1255 : Cond.methodLink RX6 235 yX6_rowsOf ∈ q_T := q_mem 1255 (by decide +kernel) (by decide +kernel)
theorem m_1269 : Cond.constant RX6 238 (1000000000) ∈ q_T := q_mem 1269 (by decide +kernel) (by decide +kernel)
theorem m_1270 : Cond.constant RX6 239 (-1000007) ∈ q_T := q_mem 1270 (by decide +kernel) (by decide +kernel)
theorem m_1254 : Cond.constant RX6 234 (-1000006) ∈ q_T := q_mem 1254 (by decide +kernel) (by decide +kernel)
theorem m_1282 : Cond.code yX6_dogsIn cX6_dogsIn 4 (some .int) ∈ q_T := q_mem 1282 (by decide +kernel) (by decide +kernel)
theorem m_1281 : Cond.instanceMethod yX6_dogsIn ∈ q_T := q_mem 1281 (by decide +kernel) (by decide +kernel)
theorem ms_60 : Cond.selects RX6 yX6_dogsIn yX6_dogsIn ∈ q_T := q_memS 60 (by decide +kernel) (by decide +kernel)
theorem m_1279 : Cond.methodLink RX6 240 yX6_dogsIn ∈ q_T := q_mem 1279 (by decide +kernel) (by decide +kernel)
theorem m_1287 : Cond.constantLong RX6 243 (10) ∈ q_T := q_mem 1287 (by decide +kernel) (by decide +kernel)
theorem m_1290 : Cond.code yX6_common cX6_common 10 (some .long) ∈ q_T := q_mem 1290 (by decide +kernel) (by decide +kernel)
theorem m_1289 : Cond.static yX6_common ∈ q_T := q_mem 1289 (by decide +kernel) (by decide +kernel)
theorem m_1288 : Cond.methodLink RX6 245 yX6_common ∈ q_T := q_mem 1288 (by decide +kernel) (by decide +kernel)
theorem m_1291 : Cond.constantLong RX6 248 (1000000000000000) ∈ q_T := q_mem 1291 (by decide +kernel) (by decide +kernel)
theorem m_1308 : Cond.constant RX6 250 (1103515245) ∈ q_T := q_mem 1308 (by decide +kernel) (by decide +kernel)
theorem m_1307 : Cond.code yX6_drawn cX6_drawn 2 (some .int) ∈ q_T := q_mem 1307 (by decide +kernel) (by decide +kernel)
theorem m_1306 : Cond.instanceMethod yX6_drawn ∈ q_T := q_mem 1306 (by decide +kernel) (by decide +kernel)
theorem ms_63 : Cond.selects RX6 yX6_drawn yX6_drawn ∈ q_T := q_memS 63 (by decide +kernel) (by decide +kernel)
theorem m_1304 : Cond.methodLink RX6 251 yX6_drawn ∈ q_T := q_mem 1304 (by decide +kernel) (by decide +kernel)
theorem m_1299 : Cond.code yX6_canPlay cX6_canPlay 1 (some .boolean) ∈ q_T := q_mem 1299 (by decide +kernel) (by decide +kernel)
theorem m_1298 : Cond.instanceMethod yX6_canPlay ∈ q_T := q_mem 1298 (by decide +kernel) (by decide +kernel)
theorem ms_61 : Cond.selects RX6 yX6_canPlay yX6_canPlay ∈ q_T := q_memS 61 (by decide +kernel) (by decide +kernel)
theorem m_1296 : Cond.methodLink RX6 254 yX6_canPlay ∈ q_T := q_mem 1296 (by decide +kernel) (by decide +kernel)
theorem m_1303 : Cond.code yX6_evening cX6_evening 9 (some .int) ∈ q_T := q_mem 1303 (by decide +kernel) (by decide +kernel)
theorem m_1302 : Cond.instanceMethod yX6_evening ∈ q_T := q_mem 1302 (by decide +kernel) (by decide +kernel)
theorem ms_62 : Cond.selects RX6 yX6_evening yX6_evening ∈ q_T := q_memS 62 (by decide +kernel) (by decide +kernel)
theorem m_1300 : Cond.methodLink RX6 257 yX6_evening ∈ q_T := q_mem 1300 (by decide +kernel) (by decide +kernel)
theorem m_1316 : Cond.code yX6_putBack cX6_putBack 2 (some .int) ∈ q_T := q_mem 1316 (by decide +kernel) (by decide +kernel)
theorem m_1315 : Cond.instanceMethod yX6_putBack ∈ q_T := q_mem 1315 (by decide +kernel) (by decide +kernel)
theorem ms_64 : Cond.selects RX6 yX6_putBack yX6_putBack ∈ q_T := q_memS 64 (by decide +kernel) (by decide +kernel)
theorem m_1313 : Cond.methodLink RX6 260 yX6_putBack ∈ q_T := q_mem 1313 (by decide +kernel) (by decide +kernel)
theorem m_925 : Cond.fieldLink RX6 263 RX6 (TX6 10).2.1 (TX6 10).2.2.1 ∈ q_T := q_mem 925 (by decide +kernel) (by decide +kernel)
theorem m_924 : Cond.fieldLink RX6 32 RX6 (TX6 9).2.1 (TX6 9).2.2.1 ∈ q_T := q_mem 924 (by decide +kernel) (by decide +kernel)
theorem m_927 : Cond.fieldLink RX6 266 RX6 (TX6 12).2.1 (TX6 12).2.2.1 ∈ q_T := q_mem 927 (by decide +kernel) (by decide +kernel)
theorem m_926 : Cond.fieldLink RX6 269 RX6 (TX6 11).2.1 (TX6 11).2.2.1 ∈ q_T := q_mem 926 (by decide +kernel) (by decide +kernel)
theorem m_1340 : Cond.code yX6_byteAt cX6_byteAt 2 (some .int) ∈ q_T := q_mem 1340 (by decide +kernel) (by decide +kernel)
theorem m_1339 : Cond.instanceMethod yX6_byteAt ∈ q_T := q_mem 1339 (by decide +kernel) (by decide +kernel)
theorem ms_66 : Cond.selects RX6 yX6_byteAt yX6_byteAt ∈ q_T := q_memS 66 (by decide +kernel) (by decide +kernel)
theorem m_1337 : Cond.methodLink RX6 272 yX6_byteAt ∈ q_T := q_mem 1337 (by decide +kernel) (by decide +kernel)
theorem m_929 : Cond.fieldLink RX6 275 RX6 (TX6 14).2.1 (TX6 14).2.2.1 ∈ q_T := q_mem 929 (by decide +kernel) (by decide +kernel)
theorem m_928 : Cond.fieldLink RX6 278 RX6 (TX6 13).2.1 (TX6 13).2.2.1 ∈ q_T := q_mem 928 (by decide +kernel) (by decide +kernel)
theorem m_1353 : Cond.methodLink RX6 281 yJ0_length_8abf5 ∈ q_T := q_mem 1353 (by decide +kernel) (by decide +kernel)
theorem m_1354 : Cond.methodLink RX6 284 yJ0_charAt_5068e ∈ q_T := q_mem 1354 (by decide +kernel) (by decide +kernel)
theorem m_930 : Cond.fieldLink RX6 288 RX6 (TX6 15).2.1 (TX6 15).2.2.1 ∈ q_T := q_mem 930 (by decide +kernel) (by decide +kernel)
theorem m_1336 : Cond.code yX6_next cX6_next 2 none ∈ q_T := q_mem 1336 (by decide +kernel) (by decide +kernel)
theorem m_1335 : Cond.instanceMethod yX6_next ∈ q_T := q_mem 1335 (by decide +kernel) (by decide +kernel)
theorem ms_65 : Cond.selects RX6 yX6_next yX6_next ∈ q_T := q_memS 65 (by decide +kernel) (by decide +kernel)
theorem m_1333 : Cond.methodLink RX6 292 yX6_next ∈ q_T := q_mem 1333 (by decide +kernel) (by decide +kernel)
theorem m_1358 : Cond.code yX6_must cX6_must 2 none ∈ q_T := q_mem 1358 (by decide +kernel) (by decide +kernel)
theorem m_1357 : Cond.instanceMethod yX6_must ∈ q_T := q_mem 1357 (by decide +kernel) (by decide +kernel)
theorem ms_70 : Cond.selects RX6 yX6_must yX6_must ∈ q_T := q_memS 70 (by decide +kernel) (by decide +kernel)
theorem m_1355 : Cond.methodLink RX6 295 yX6_must ∈ q_T := q_mem 1355 (by decide +kernel) (by decide +kernel)
theorem m_933 : Cond.fieldLink RX6 299 RX6 (TX6 18).2.1 (TX6 18).2.2.1 ∈ q_T := q_mem 933 (by decide +kernel) (by decide +kernel)
theorem m_932 : Cond.fieldLink RX6 55 RX6 (TX6 17).2.1 (TX6 17).2.2.1 ∈ q_T := q_mem 932 (by decide +kernel) (by decide +kernel)
theorem m_931 : Cond.fieldLink RX6 51 RX6 (TX6 16).2.1 (TX6 16).2.2.1 ∈ q_T := q_mem 931 (by decide +kernel) (by decide +kernel)
theorem m_1352 : Cond.code yX6_isWord cX6_isWord 4 (some .boolean) ∈ q_T := q_mem 1352 (by decide +kernel) (by decide +kernel)
theorem m_1351 : Cond.instanceMethod yX6_isWord ∈ q_T := q_mem 1351 (by decide +kernel) (by decide +kernel)
theorem ms_69 : Cond.selects RX6 yX6_isWord yX6_isWord ∈ q_T := q_memS 69 (by decide +kernel) (by decide +kernel)
theorem m_1349 : Cond.methodLink RX6 302 yX6_isWord ∈ q_T := q_mem 1349 (by decide +kernel) (by decide +kernel)
theorem m_1348 : Cond.code yX6_kindTold cX6_kindTold 3 (some .int) ∈ q_T := q_mem 1348 (by decide +kernel) (by decide +kernel)
theorem m_1347 : Cond.instanceMethod yX6_kindTold ∈ q_T := q_mem 1347 (by decide +kernel) (by decide +kernel)
theorem ms_68 : Cond.selects RX6 yX6_kindTold yX6_kindTold ∈ q_T := q_memS 68 (by decide +kernel) (by decide +kernel)
theorem m_1345 : Cond.methodLink RX6 306 yX6_kindTold ∈ q_T := q_mem 1345 (by decide +kernel) (by decide +kernel)
theorem m_1363 : Cond.code yX6_isNext cX6_isNext 3 (some .boolean) ∈ q_T := q_mem 1363 (by decide +kernel) (by decide +kernel)
theorem m_1362 : Cond.instanceMethod yX6_isNext ∈ q_T := q_mem 1362 (by decide +kernel) (by decide +kernel)
theorem ms_71 : Cond.selects RX6 yX6_isNext yX6_isNext ∈ q_T := q_memS 71 (by decide +kernel) (by decide +kernel)
theorem m_1360 : Cond.methodLink RX6 314 yX6_isNext ∈ q_T := q_mem 1360 (by decide +kernel) (by decide +kernel)
theorem m_934 : Cond.fieldLink RX6 309 RX6 (TX6 19).2.1 (TX6 19).2.2.1 ∈ q_T := q_mem 934 (by decide +kernel) (by decide +kernel)
theorem m_1367 : Cond.code yX6_number cX6_number 4 (some .int) ∈ q_T := q_mem 1367 (by decide +kernel) (by decide +kernel)
theorem m_1366 : Cond.instanceMethod yX6_number ∈ q_T := q_mem 1366 (by decide +kernel) (by decide +kernel)
theorem ms_72 : Cond.selects RX6 yX6_number yX6_number ∈ q_T := q_memS 72 (by decide +kernel) (by decide +kernel)
theorem m_1364 : Cond.methodLink RX6 317 yX6_number ∈ q_T := q_mem 1364 (by decide +kernel) (by decide +kernel)
theorem m_1371 : Cond.code yX6_item cX6_item 5 none ∈ q_T := q_mem 1371 (by decide +kernel) (by decide +kernel)
theorem m_1370 : Cond.instanceMethod yX6_item ∈ q_T := q_mem 1370 (by decide +kernel) (by decide +kernel)
theorem ms_73 : Cond.selects RX6 yX6_item yX6_item ∈ q_T := q_memS 73 (by decide +kernel) (by decide +kernel)
theorem m_1368 : Cond.methodLink RX6 320 yX6_item ∈ q_T := q_mem 1368 (by decide +kernel) (by decide +kernel)
theorem m_935 : Cond.fieldLink RX6 326 RX6 (TX6 20).2.1 (TX6 20).2.2.1 ∈ q_T := q_mem 935 (by decide +kernel) (by decide +kernel)
theorem m_1344 : Cond.code yX6_readItem cX6_readItem 3 none ∈ q_T := q_mem 1344 (by decide +kernel) (by decide +kernel)
theorem m_1343 : Cond.instanceMethod yX6_readItem ∈ q_T := q_mem 1343 (by decide +kernel) (by decide +kernel)
theorem ms_67 : Cond.selects RX6 yX6_readItem yX6_readItem ∈ q_T := q_memS 67 (by decide +kernel) (by decide +kernel)
theorem m_1341 : Cond.methodLink RX6 335 yX6_readItem ∈ q_T := q_mem 1341 (by decide +kernel) (by decide +kernel)
theorem m_1379 : Cond.code yX6_isSo cX6_isSo 4 (some .int) ∈ q_T := q_mem 1379 (by decide +kernel) (by decide +kernel)
theorem m_1378 : Cond.instanceMethod yX6_isSo ∈ q_T := q_mem 1378 (by decide +kernel) (by decide +kernel)
theorem ms_74 : Cond.selects RX6 yX6_isSo yX6_isSo ∈ q_T := q_memS 74 (by decide +kernel) (by decide +kernel)
theorem m_1376 : Cond.methodLink RX6 338 yX6_isSo ∈ q_T := q_mem 1376 (by decide +kernel) (by decide +kernel)
theorem m_1386 : Cond.code yX6_isSpot cX6_isSpot 1 (some .boolean) ∈ q_T := q_mem 1386 (by decide +kernel) (by decide +kernel)
theorem m_1385 : Cond.static yX6_isSpot ∈ q_T := q_mem 1385 (by decide +kernel) (by decide +kernel)
theorem m_1384 : Cond.methodLink RX6 341 yX6_isSpot ∈ q_T := q_mem 1384 (by decide +kernel) (by decide +kernel)
theorem m_1391 : Cond.constant RX6 344 (-1000003) ∈ q_T := q_mem 1391 (by decide +kernel) (by decide +kernel)
theorem m_1402 : Cond.code yX6_cutTo cX6_cutTo 2 (some .int) ∈ q_T := q_mem 1402 (by decide +kernel) (by decide +kernel)
theorem m_1401 : Cond.static yX6_cutTo ∈ q_T := q_mem 1401 (by decide +kernel) (by decide +kernel)
theorem m_1400 : Cond.methodLink RX6 345 yX6_cutTo ∈ q_T := q_mem 1400 (by decide +kernel) (by decide +kernel)
theorem m_939 : Cond.fieldLink RX6 67 RX6 (TX6 24).2.1 (TX6 24).2.2.1 ∈ q_T := q_mem 939 (by decide +kernel) (by decide +kernel)
theorem m_916 : Cond.fieldLink RX6 13 RX6 (TX6 1).2.1 (TX6 1).2.2.1 ∈ q_T := q_mem 916 (by decide +kernel) (by decide +kernel)
theorem m_918 : Cond.fieldLink RX6 348 RX6 (TX6 3).2.1 (TX6 3).2.2.1 ∈ q_T := q_mem 918 (by decide +kernel) (by decide +kernel)
theorem v_X1_isKind : q_cS yX1_isKind cX1_isKind 1 (some .boolean) 1 := ⟨m_205, m_204, m_7, by decide +kernel, by decide +kernel, by decide +kernel⟩
theorem v_X0_addDoll : q_cV yX0_addDoll cX0_addDoll 2 (some .int) 1 := ⟨m_215, m_213, m_214, m_2, by decide +kernel, by decide +kernel, by decide +kernel⟩
theorem v_X5_finding : q_cV yX5_finding cX5_finding 3 (some .int) 1 := ⟨m_210, m_209, ms_0, m_1, by decide +kernel, by decide +kernel, by decide +kernel⟩
theorem v_X0_isDoll : q_cV yX0_isDoll cX0_isDoll 2 (some .boolean) 1 := ⟨m_223, m_221, m_222, m_2, by decide +kernel, by decide +kernel, by decide +kernel⟩
theorem v_X0_kindOf : q_cV yX0_kindOf cX0_kindOf 2 (some .int) 1 := ⟨m_227, m_225, m_226, m_2, by decide +kernel, by decide +kernel, by decide +kernel⟩
theorem v_X0_sizeOf : q_cV yX0_sizeOf cX0_sizeOf 2 (some .int) 1 := ⟨m_232, m_230, m_231, m_2, by decide +kernel, by decide +kernel, by decide +kernel⟩
theorem v_X1_wanted : q_cS yX1_wanted cX1_wanted 1 (some .int) 1 := ⟨m_239, m_238, m_7, by decide +kernel, by decide +kernel, by decide +kernel⟩
theorem v_X0_wantOf : q_cV yX0_wantOf cX0_wantOf 2 (some .int) 1 := ⟨m_236, m_234, m_235, m_2, by decide +kernel, by decide +kernel, by decide +kernel⟩
theorem v_X1_on : q_cS yX1_on cX1_on 2 (some .int) 2 := ⟨m_246, m_245, m_7, by decide +kernel, by decide +kernel, by decide +kernel⟩
theorem v_X0_onOf : q_cV yX0_onOf cX0_onOf 2 (some .int) 1 := ⟨m_243, m_241, m_242, m_2, by decide +kernel, by decide +kernel, by decide +kernel⟩
theorem v_X1_voice : q_cS yX1_voice cX1_voice 1 (some .int) 1 := ⟨m_253, m_252, m_7, by decide +kernel, by decide +kernel, by decide +kernel⟩
theorem v_X0_voiceOf : q_cV yX0_voiceOf cX0_voiceOf 2 (some .int) 1 := ⟨m_250, m_248, m_249, m_2, by decide +kernel, by decide +kernel, by decide +kernel⟩
theorem v_X0_hookOf : q_cV yX0_hookOf cX0_hookOf 2 (some .int) 1 := ⟨m_257, m_255, m_256, m_2, by decide +kernel, by decide +kernel, by decide +kernel⟩
theorem v_X0_setKind : q_cV yX0_setKind cX0_setKind 3 none 2 := ⟨m_265, m_263, m_264, m_2, by decide +kernel, by decide +kernel, by decide +kernel⟩
theorem v_X5_isSize : q_cS yX5_isSize cX5_isSize 1 (some .boolean) 1 := ⟨m_268, m_267, m_1, by decide +kernel, by decide +kernel, by decide +kernel⟩
theorem v_X0_setSize : q_cV yX0_setSize cX0_setSize 3 none 2 := ⟨m_272, m_270, m_271, m_2, by decide +kernel, by decide +kernel, by decide +kernel⟩
theorem v_X0_swapHooks : q_cV yX0_swapHooks cX0_swapHooks 4 none 2 := ⟨m_280, m_278, m_279, m_2, by decide +kernel, by decide +kernel, by decide +kernel⟩
theorem v_X0_isCast : q_cV yX0_isCast cX0_isCast 2 (some .boolean) 1 := ⟨m_292, m_290, m_291, m_2, by decide +kernel, by decide +kernel, by decide +kernel⟩
theorem v_X0_isDollOrNone : q_cV yX0_isDollOrNone cX0_isDollOrNone 2 (some .boolean) 1 := ⟨m_296, m_294, m_295, m_2, by decide +kernel, by decide +kernel, by decide +kernel⟩
theorem v_X0_addBeat : q_cV yX0_addBeat cX0_addBeat 3 (some .int) 2 := ⟨m_300, m_298, m_299, m_2, by decide +kernel, by decide +kernel, by decide +kernel⟩
theorem v_X0_isBeat : q_cV yX0_isBeat cX0_isBeat 2 (some .boolean) 1 := ⟨m_308, m_306, m_307, m_2, by decide +kernel, by decide +kernel, by decide +kernel⟩
theorem v_X0_castOf : q_cV yX0_castOf cX0_castOf 2 (some .int) 1 := ⟨m_312, m_310, m_311, m_2, by decide +kernel, by decide +kernel, by decide +kernel⟩
theorem v_X0_speakerOf : q_cV yX0_speakerOf cX0_speakerOf 2 (some .int) 1 := ⟨m_317, m_315, m_316, m_2, by decide +kernel, by decide +kernel, by decide +kernel⟩
theorem v_X0_bit : q_cS yX0_bit cX0_bit 1 (some .int) 1 := ⟨m_329, m_328, m_2, by decide +kernel, by decide +kernel, by decide +kernel⟩
theorem v_X0_contains : q_cS yX0_contains cX0_contains 2 (some .boolean) 2 := ⟨m_326, m_325, m_2, by decide +kernel, by decide +kernel, by decide +kernel⟩
theorem v_J6_bitCount_0f7a4 : q_cS yJ6_bitCount_0f7a4 cJ6_bitCount_0f7a4 1 (some .int) 1 := ⟨m_332, m_331, m_9, by decide +kernel, by decide +kernel, by decide +kernel⟩
theorem v_X0_wanting : q_cV yX0_wanting cX0_wanting 5 (some .int) 2 := ⟨m_339, m_338, ms_1, m_2, by decide +kernel, by decide +kernel, by decide +kernel⟩
theorem v_X0_isWrong : q_cV yX0_isWrong cX0_isWrong 4 (some .boolean) 1 := ⟨m_321, m_319, m_320, m_2, by decide +kernel, by decide +kernel, by decide +kernel⟩
theorem v_X0_setCast : q_cV yX0_setCast cX0_setCast 3 none 2 := ⟨m_348, m_346, m_347, m_2, by decide +kernel, by decide +kernel, by decide +kernel⟩
theorem v_X0_setSpeaker : q_cV yX0_setSpeaker cX0_setSpeaker 3 none 2 := ⟨m_352, m_350, m_351, m_2, by decide +kernel, by decide +kernel, by decide +kernel⟩
theorem v_X0_dropBeat : q_cV yX0_dropBeat cX0_dropBeat 3 none 1 := ⟨m_360, m_358, m_359, m_2, by decide +kernel, by decide +kernel, by decide +kernel⟩
theorem v_X0_wrongBeats : q_cV yX0_wrongBeats cX0_wrongBeats 3 (some .int) 0 := ⟨m_370, m_368, m_369, m_2, by decide +kernel, by decide +kernel, by decide +kernel⟩
theorem v_X5_isHand : q_cS yX5_isHand cX5_isHand 1 (some .boolean) 1 := ⟨m_382, m_381, m_1, by decide +kernel, by decide +kernel, by decide +kernel⟩
theorem v_X0_inHand : q_cV yX0_inHand cX0_inHand 2 (some .int) 1 := ⟨m_386, m_384, m_385, m_2, by decide +kernel, by decide +kernel, by decide +kernel⟩
theorem v_X0_price : q_cV yX0_price cX0_price 3 (some .int) 2 := ⟨m_396, m_394, m_395, m_2, by decide +kernel, by decide +kernel, by decide +kernel⟩
theorem v_X0_putInHand : q_cV yX0_putInHand cX0_putInHand 5 (some .int) 2 := ⟨m_391, m_389, m_390, m_2, by decide +kernel, by decide +kernel, by decide +kernel⟩
theorem v_J6_numberOfTrailingZeros_0f7a4 : q_cS yJ6_numberOfTrailingZeros_0f7a4 cJ6_numberOfTrailingZeros_0f7a4 2 (some .int) 1 := ⟨m_418, m_417, m_9, by decide +kernel, by decide +kernel, by decide +kernel⟩
theorem v_X0_rightsBeside : q_cV yX0_rightsBeside cX0_rightsBeside 7 (some .int) 2 := ⟨m_415, m_413, m_414, m_2, by decide +kernel, by decide +kernel, by decide +kernel⟩
theorem v_X0_isSuited : q_cV yX0_isSuited cX0_isSuited 4 (some .boolean) 3 := ⟨m_410, m_408, m_409, m_2, by decide +kernel, by decide +kernel, by decide +kernel⟩
theorem v_X5_isWorth : q_cS yX5_isWorth cX5_isWorth 1 (some .boolean) 1 := ⟨m_430, m_429, m_1, by decide +kernel, by decide +kernel, by decide +kernel⟩
theorem v_X0_isGoing : q_cV yX0_isGoing cX0_isGoing 1 (some .boolean) 0 := ⟨m_434, m_432, m_433, m_2, by decide +kernel, by decide +kernel, by decide +kernel⟩
theorem v_X4_put : q_cS yX4_put cX4_put 3 none 3 := ⟨m_447, m_446, m_3, by decide +kernel, by decide +kernel, by decide +kernel⟩
theorem v_X4_fillRow : q_cV yX4_fillRow cX4_fillRow 4 none 2 := ⟨m_451, m_450, ms_3, m_3, by decide +kernel, by decide +kernel, by decide +kernel⟩
theorem v_X4_begin : q_cV yX4_begin cX4_begin 4 none 2 := ⟨m_443, m_442, ms_2, m_3, by decide +kernel, by decide +kernel, by decide +kernel⟩
theorem v_X4_place : q_cS yX4_place cX4_place 2 (some .int) 2 := ⟨m_460, m_459, m_3, by decide +kernel, by decide +kernel, by decide +kernel⟩
theorem v_X4_at : q_cS yX4_at cX4_at 2 (some .int) 2 := ⟨m_463, m_462, m_3, by decide +kernel, by decide +kernel, by decide +kernel⟩
theorem v_X4_worthFrom : q_cV yX4_worthFrom cX4_worthFrom 4 (some .int) 3 := ⟨m_470, m_469, ms_5, m_3, by decide +kernel, by decide +kernel, by decide +kernel⟩
theorem v_X4_stepBack : q_cV yX4_stepBack cX4_stepBack 11 none 2 := ⟨m_455, m_454, ms_4, m_3, by decide +kernel, by decide +kernel, by decide +kernel⟩
theorem v_X4_worth : q_cV yX4_worth cX4_worth 4 (some .int) 2 := ⟨m_439, m_437, m_438, m_3, by decide +kernel, by decide +kernel, by decide +kernel⟩
theorem v_X4_move : q_cV yX4_move cX4_move 3 (some .int) 2 := ⟨m_487, m_486, ms_7, m_3, by decide +kernel, by decide +kernel, by decide +kernel⟩
theorem v_X4_firstBest : q_cV yX4_firstBest cX4_firstBest 9 (some .int) 4 := ⟨m_483, m_482, ms_6, m_3, by decide +kernel, by decide +kernel, by decide +kernel⟩
theorem v_X4_follow : q_cV yX4_follow cX4_follow 7 none 2 := ⟨m_478, m_476, m_477, m_3, by decide +kernel, by decide +kernel, by decide +kernel⟩
theorem v_X4_rightIn : q_cV yX4_rightIn cX4_rightIn 2 (some .int) 1 := ⟨m_496, m_494, m_495, m_3, by decide +kernel, by decide +kernel, by decide +kernel⟩
theorem v_X4_leftIn : q_cV yX4_leftIn cX4_leftIn 2 (some .int) 1 := ⟨m_492, m_490, m_491, m_3, by decide +kernel, by decide +kernel, by decide +kernel⟩
theorem v_X0_take : q_cV yX0_take cX0_take 2 none 1 := ⟨m_504, m_502, m_503, m_2, by decide +kernel, by decide +kernel, by decide +kernel⟩
theorem v_X0_keepBeats : q_cV yX0_keepBeats cX0_keepBeats 4 none 2 := ⟨m_511, m_509, m_510, m_2, by decide +kernel, by decide +kernel, by decide +kernel⟩
theorem v_X5_worthIfSwapped : q_cV yX5_worthIfSwapped cX5_worthIfSwapped 2 (some .int) 1 := ⟨m_530, m_529, ms_9, m_1, by decide +kernel, by decide +kernel, by decide +kernel⟩
theorem v_X5_bestPair : q_cV yX5_bestPair cX5_bestPair 6 (some .int) 0 := ⟨m_526, m_525, ms_8, m_1, by decide +kernel, by decide +kernel, by decide +kernel⟩
theorem v_X0_dropWrongBeats : q_cV yX0_dropWrongBeats cX0_dropWrongBeats 2 none 0 := ⟨m_542, m_540, m_541, m_2, by decide +kernel, by decide +kernel, by decide +kernel⟩
theorem v_X0_areTogether : q_cV yX0_areTogether cX0_areTogether 4 (some .boolean) 2 := ⟨m_550, m_548, m_549, m_2, by decide +kernel, by decide +kernel, by decide +kernel⟩
theorem v_X0_replace : q_cV yX0_replace cX0_replace 5 none 2 := ⟨m_554, m_552, m_553, m_2, by decide +kernel, by decide +kernel, by decide +kernel⟩
theorem v_X4_leaveOut : q_cV yX4_leaveOut cX4_leaveOut 5 none 1 := ⟨m_567, m_566, ms_10, m_3, by decide +kernel, by decide +kernel, by decide +kernel⟩
theorem v_X4_fewestLeftOut : q_cV yX4_fewestLeftOut cX4_fewestLeftOut 5 (some .int) 2 := ⟨m_562, m_560, m_561, m_3, by decide +kernel, by decide +kernel, by decide +kernel⟩
theorem v_X5_sheetAt : q_cV yX5_sheetAt cX5_sheetAt 2 (some (.object "PunchByHeart$Sheet")) 1 := ⟨m_576, m_575, ms_11, m_1, by decide +kernel, by decide +kernel, by decide +kernel⟩
theorem v_X2_isMissing : q_cV yX2_isMissing cX2_isMissing 1 (some .boolean) 0 := ⟨m_580, m_578, m_579, m_5, by decide +kernel, by decide +kernel, by decide +kernel⟩
theorem v_X2_isPlace : q_cV yX2_isPlace cX2_isPlace 2 (some .boolean) 1 := ⟨m_593, m_591, m_592, m_5, by decide +kernel, by decide +kernel, by decide +kernel⟩
theorem v_X2_number : q_cV yX2_number cX2_number 2 (some .int) 1 := ⟨m_597, m_595, m_596, m_5, by decide +kernel, by decide +kernel, by decide +kernel⟩
theorem v_X5_isDrawn : q_cV yX5_isDrawn cX5_isDrawn 5 (some .boolean) 3 := ⟨m_589, m_588, ms_13, m_1, by decide +kernel, by decide +kernel, by decide +kernel⟩
theorem v_X5_rowsBy : q_cV yX5_rowsBy cX5_rowsBy 7 (some .long) 1 := ⟨m_585, m_584, ms_12, m_1, by decide +kernel, by decide +kernel, by decide +kernel⟩
theorem v_X5_rightsBy : q_cV yX5_rightsBy cX5_rightsBy 5 (some .int) 2 := ⟨m_614, m_613, ms_14, m_1, by decide +kernel, by decide +kernel, by decide +kernel⟩
theorem v_X1_isUnder : q_cS yX1_isUnder cX1_isUnder 4 (some .boolean) 2 := ⟨m_626, m_625, m_7, by decide +kernel, by decide +kernel, by decide +kernel⟩
theorem v_X0_dogsIn : q_cV yX0_dogsIn cX0_dogsIn 4 (some .int) 1 := ⟨m_622, m_620, m_621, m_2, by decide +kernel, by decide +kernel, by decide +kernel⟩
theorem v_X0_dogsInAll : q_cV yX0_dogsInAll cX0_dogsInAll 3 (some .int) 0 := ⟨m_637, m_635, m_636, m_2, by decide +kernel, by decide +kernel, by decide +kernel⟩
theorem v_X0_draw : q_cV yX0_draw cX0_draw 1 (some .int) 0 := ⟨m_651, m_650, ms_15, m_2, by decide +kernel, by decide +kernel, by decide +kernel⟩
theorem v_X0_drawEvening : q_cV yX0_drawEvening cX0_drawEvening 6 (some .int) 0 := ⟨m_647, m_645, m_646, m_2, by decide +kernel, by decide +kernel, by decide +kernel⟩
theorem v_X3_append : q_cV yX3_append cX3_append 2 none 1 := ⟨m_668, m_666, m_667, m_4, by decide +kernel, by decide +kernel, by decide +kernel⟩
theorem v_X3_byteAt : q_cV yX3_byteAt cX3_byteAt 2 (some .int) 1 := ⟨m_688, m_687, ms_17, m_4, by decide +kernel, by decide +kernel, by decide +kernel⟩
theorem v_X3_isLetter : q_cS yX3_isLetter cX3_isLetter 1 (some .boolean) 1 := ⟨m_691, m_690, m_4, by decide +kernel, by decide +kernel, by decide +kernel⟩
theorem v_X3_isDigit : q_cS yX3_isDigit cX3_isDigit 1 (some .boolean) 1 := ⟨m_766, m_765, m_4, by decide +kernel, by decide +kernel, by decide +kernel⟩
theorem v_X3_nextNumber : q_cV yX3_nextNumber cX3_nextNumber 1 none 0 := ⟨m_770, m_769, ms_20, m_4, by decide +kernel, by decide +kernel, by decide +kernel⟩
theorem v_X3_spelling : q_cS yX3_spelling cX3_spelling 1 (some (.object "java/lang/String")) 1 := ⟨m_698, m_697, m_4, by decide +kernel, by decide +kernel, by decide +kernel⟩
theorem v_J0_coder_7d493 : q_cV yJ0_coder_7d493 cJ0_coder_7d493 1 (some .byte) 0 := ⟨m_723, m_721, m_722, m_11, by decide +kernel, by decide +kernel, by decide +kernel⟩
theorem v_J0_length_8abf5 : q_cV yJ0_length_8abf5 cJ0_length_8abf5 1 (some .int) 0 := ⟨m_719, m_717, m_718, m_11, by decide +kernel, by decide +kernel, by decide +kernel⟩
theorem v_J0_isLatin1_aae02 : q_cV yJ0_isLatin1_aae02 cJ0_isLatin1_aae02 1 (some .boolean) 0 := ⟨m_733, m_731, m_732, m_11, by decide +kernel, by decide +kernel, by decide +kernel⟩
theorem v_J3_checkIndex_8e157 : q_cS yJ3_checkIndex_8e157 cJ3_checkIndex_8e157 3 (some .int) 3 := ⟨m_744, m_743, m_13, by decide +kernel, by decide +kernel, by decide +kernel⟩
theorem v_J0_checkIndex_df160 : q_cS yJ0_checkIndex_df160 cJ0_checkIndex_df160 2 none 2 := ⟨m_739, m_738, m_11, by decide +kernel, by decide +kernel, by decide +kernel⟩
theorem v_J1_charAt_3b067 : q_cS yJ1_charAt_3b067 cJ1_charAt_3b067 2 (some .char) 2 := ⟨m_736, m_735, m_12, by decide +kernel, by decide +kernel, by decide +kernel⟩
theorem v_J0_charAt_5068e : q_cV yJ0_charAt_5068e cJ0_charAt_5068e 2 (some .char) 1 := ⟨m_729, m_727, m_728, m_11, by decide +kernel, by decide +kernel, by decide +kernel⟩
theorem v_X3_isSpelt : q_cV yX3_isSpelt cX3_isSpelt 3 (some .boolean) 1 := ⟨m_715, m_714, ms_19, m_4, by decide +kernel, by decide +kernel, by decide +kernel⟩
theorem v_X3_nextWord : q_cV yX3_nextWord cX3_nextWord 2 none 0 := ⟨m_695, m_694, ms_18, m_4, by decide +kernel, by decide +kernel, by decide +kernel⟩
theorem v_X3_nextToken : q_cV yX3_nextToken cX3_nextToken 1 none 0 := ⟨m_684, m_683, ms_16, m_4, by decide +kernel, by decide +kernel, by decide +kernel⟩
theorem v_X3_isWord : q_cV yX3_isWord cX3_isWord 2 (some .boolean) 1 := ⟨m_785, m_784, ms_23, m_4, by decide +kernel, by decide +kernel, by decide +kernel⟩
theorem v_X3_isNumber : q_cV yX3_isNumber cX3_isNumber 3 (some .boolean) 2 := ⟨m_789, m_788, ms_24, m_4, by decide +kernel, by decide +kernel, by decide +kernel⟩
theorem v_X3_readBeat : q_cV yX3_readBeat cX3_readBeat 3 (some .boolean) 1 := ⟨m_779, m_778, ms_22, m_4, by decide +kernel, by decide +kernel, by decide +kernel⟩
theorem v_X3_readLeaves : q_cV yX3_readLeaves cX3_readLeaves 2 (some .boolean) 1 := ⟨m_794, m_793, ms_25, m_4, by decide +kernel, by decide +kernel, by decide +kernel⟩
theorem v_X3_readHook : q_cV yX3_readHook cX3_readHook 3 (some .boolean) 1 := ⟨m_798, m_797, ms_26, m_4, by decide +kernel, by decide +kernel, by decide +kernel⟩
theorem v_X3_readDoll : q_cV yX3_readDoll cX3_readDoll 4 (some .boolean) 2 := ⟨m_804, m_803, ms_27, m_4, by decide +kernel, by decide +kernel, by decide +kernel⟩
theorem v_X3_readItem : q_cV yX3_readItem cX3_readItem 2 (some .boolean) 1 := ⟨m_775, m_774, ms_21, m_4, by decide +kernel, by decide +kernel, by decide +kernel⟩
theorem v_X3_read : q_cV yX3_read cX3_read 3 (some .int) 1 := ⟨m_680, m_678, m_679, m_4, by decide +kernel, by decide +kernel, by decide +kernel⟩
theorem v_X0_isSpot : q_cV yX0_isSpot cX0_isSpot 2 (some .boolean) 1 := ⟨m_815, m_813, m_814, m_2, by decide +kernel, by decide +kernel, by decide +kernel⟩
theorem v_X0_setSpot : q_cV yX0_setSpot cX0_setSpot 3 none 2 := ⟨m_819, m_817, m_818, m_2, by decide +kernel, by decide +kernel, by decide +kernel⟩
theorem v_X0_spotOf : q_cV yX0_spotOf cX0_spotOf 2 (some .int) 1 := ⟨m_828, m_826, m_827, m_2, by decide +kernel, by decide +kernel, by decide +kernel⟩
theorem v_X2_isBits : q_cS yX2_isBits cX2_isBits 1 (some .boolean) 1 := ⟨m_837, m_836, m_5, by decide +kernel, by decide +kernel, by decide +kernel⟩
theorem v_X2_begin : q_cV yX2_begin cX2_begin 4 none 2 := ⟨m_841, m_839, m_840, m_5, by decide +kernel, by decide +kernel, by decide +kernel⟩
theorem v_X2_put : q_cV yX2_put cX2_put 3 none 2 := ⟨m_853, m_851, m_852, m_5, by decide +kernel, by decide +kernel, by decide +kernel⟩
theorem v_X2_isStretch : q_cV yX2_isStretch cX2_isStretch 3 (some .boolean) 2 := ⟨m_861, m_859, m_860, m_5, by decide +kernel, by decide +kernel, by decide +kernel⟩
theorem v_X0_sizesTogether : q_cV yX0_sizesTogether cX0_sizesTogether 3 (some .int) 0 := ⟨m_890, m_888, m_889, m_2, by decide +kernel, by decide +kernel, by decide +kernel⟩
theorem v_X0_spotsInUse : q_cV yX0_spotsInUse cX0_spotsInUse 3 (some .int) 0 := ⟨m_895, m_893, m_894, m_2, by decide +kernel, by decide +kernel, by decide +kernel⟩
theorem v_X6_copyRow : q_cS yX6_copyRow cX6_copyRow 3 none 2 := ⟨m_1234, m_1233, m_6, by decide +kernel, by decide +kernel, by decide +kernel⟩
theorem v_X6_within : q_cS yX6_within cX6_within 3 (some .boolean) 3 := ⟨m_1001, m_1000, m_6, by decide +kernel, by decide +kernel, by decide +kernel⟩
theorem v_X6_at : q_cS yX6_at cX6_at 2 (some .int) 2 := ⟨m_1014, m_1013, m_6, by decide +kernel, by decide +kernel, by decide +kernel⟩
theorem v_X6_isKind : q_cS yX6_isKind cX6_isKind 1 (some .boolean) 1 := ⟨m_998, m_997, m_6, by decide +kernel, by decide +kernel, by decide +kernel⟩
theorem v_X6_comes : q_cV yX6_comes cX6_comes 4 (some .int) 2 := ⟨m_1011, m_1010, ms_29, m_6, by decide +kernel, by decide +kernel, by decide +kernel⟩
theorem v_X6_finding : q_cV yX6_finding cX6_finding 2 (some .int) 1 := ⟨m_1006, m_1005, ms_28, m_6, by decide +kernel, by decide +kernel, by decide +kernel⟩
theorem v_X6_above : q_cS yX6_above cX6_above 1 (some .int) 1 := ⟨m_1036, m_1035, m_6, by decide +kernel, by decide +kernel, by decide +kernel⟩
theorem v_X6_dollIs : q_cV yX6_dollIs cX6_dollIs 3 (some .int) 2 := ⟨m_1026, m_1025, ms_31, m_6, by decide +kernel, by decide +kernel, by decide +kernel⟩
theorem v_X6_isUnder : q_cS yX6_isUnder cX6_isUnder 3 (some .boolean) 2 := ⟨m_1033, m_1032, m_6, by decide +kernel, by decide +kernel, by decide +kernel⟩
theorem v_X6_isDoll : q_cV yX6_isDoll cX6_isDoll 2 (some .boolean) 1 := ⟨m_1022, m_1021, ms_30, m_6, by decide +kernel, by decide +kernel, by decide +kernel⟩
theorem v_X6_wants : q_cV yX6_wants cX6_wants 3 (some .int) 1 := ⟨m_1030, m_1029, ms_32, m_6, by decide +kernel, by decide +kernel, by decide +kernel⟩
theorem v_X6_takesOn : q_cV yX6_takesOn cX6_takesOn 3 (some .int) 1 := ⟨m_1040, m_1039, ms_33, m_6, by decide +kernel, by decide +kernel, by decide +kernel⟩
theorem v_X6_voice : q_cV yX6_voice cX6_voice 2 (some .int) 1 := ⟨m_1045, m_1044, ms_34, m_6, by decide +kernel, by decide +kernel, by decide +kernel⟩
theorem v_X6_become : q_cV yX6_become cX6_become 4 (some .int) 2 := ⟨m_1053, m_1052, ms_35, m_6, by decide +kernel, by decide +kernel, by decide +kernel⟩
theorem v_X6_swapsHooks : q_cV yX6_swapsHooks cX6_swapsHooks 4 (some .int) 2 := ⟨m_1061, m_1060, ms_36, m_6, by decide +kernel, by decide +kernel, by decide +kernel⟩
theorem v_X6_isCast : q_cV yX6_isCast cX6_isCast 2 (some .boolean) 1 := ⟨m_1073, m_1072, ms_37, m_6, by decide +kernel, by decide +kernel, by decide +kernel⟩
theorem v_X6_maySpeak : q_cV yX6_maySpeak cX6_maySpeak 2 (some .boolean) 1 := ⟨m_1077, m_1076, ms_38, m_6, by decide +kernel, by decide +kernel, by decide +kernel⟩
theorem v_X6_comesBeat : q_cV yX6_comesBeat cX6_comesBeat 4 (some .int) 2 := ⟨m_1081, m_1080, ms_39, m_6, by decide +kernel, by decide +kernel, by decide +kernel⟩
theorem v_X6_bits : q_cS yX6_bits cX6_bits 3 (some .int) 1 := ⟨m_1099, m_1098, m_6, by decide +kernel, by decide +kernel, by decide +kernel⟩
theorem v_X6_has : q_cS yX6_has cX6_has 2 (some .boolean) 2 := ⟨m_1096, m_1095, m_6, by decide +kernel, by decide +kernel, by decide +kernel⟩
theorem v_X6_isBeat : q_cV yX6_isBeat cX6_isBeat 2 (some .boolean) 1 := ⟨m_1089, m_1088, ms_40, m_6, by decide +kernel, by decide +kernel, by decide +kernel⟩
theorem v_X6_isWrongBeat : q_cV yX6_isWrongBeat cX6_isWrongBeat 6 (some .boolean) 1 := ⟨m_1093, m_1092, ms_41, m_6, by decide +kernel, by decide +kernel, by decide +kernel⟩
theorem v_X6_goes : q_cV yX6_goes cX6_goes 3 (some .int) 1 := ⟨m_1111, m_1110, ms_42, m_6, by decide +kernel, by decide +kernel, by decide +kernel⟩
theorem v_X6_wrongBeats : q_cV yX6_wrongBeats cX6_wrongBeats 3 (some .int) 0 := ⟨m_1119, m_1118, ms_43, m_6, by decide +kernel, by decide +kernel, by decide +kernel⟩
theorem v_X6_takes : q_cV yX6_takes cX6_takes 3 (some .int) 2 := ⟨m_1139, m_1138, ms_45, m_6, by decide +kernel, by decide +kernel, by decide +kernel⟩
theorem v_X6_isHand : q_cS yX6_isHand cX6_isHand 1 (some .boolean) 1 := ⟨m_1130, m_1129, m_6, by decide +kernel, by decide +kernel, by decide +kernel⟩
theorem v_X6_putsIt : q_cV yX6_putsIt cX6_putsIt 4 (some .int) 2 := ⟨m_1135, m_1134, ms_44, m_6, by decide +kernel, by decide +kernel, by decide +kernel⟩
theorem v_X6_doesSuit : q_cV yX6_doesSuit cX6_doesSuit 5 (some .boolean) 3 := ⟨m_1151, m_1150, ms_46, m_6, by decide +kernel, by decide +kernel, by decide +kernel⟩
theorem v_X6_leftOf : q_cS yX6_leftOf cX6_leftOf 1 (some .int) 1 := ⟨m_1177, m_1176, m_6, by decide +kernel, by decide +kernel, by decide +kernel⟩
theorem v_X6_rightOf : q_cS yX6_rightOf cX6_rightOf 1 (some .int) 1 := ⟨m_1180, m_1179, m_6, by decide +kernel, by decide +kernel, by decide +kernel⟩
theorem v_X6_holdNow : q_cV yX6_holdNow cX6_holdNow 1 (some .int) 0 := ⟨m_1194, m_1193, ms_52, m_6, by decide +kernel, by decide +kernel, by decide +kernel⟩
theorem v_X6_isHold : q_cV yX6_isHold cX6_isHold 3 (some .boolean) 2 := ⟨m_1184, m_1183, ms_50, m_6, by decide +kernel, by decide +kernel, by decide +kernel⟩
theorem v_X6_worthBetween : q_cV yX6_worthBetween cX6_worthBetween 4 (some .int) 3 := ⟨m_1189, m_1188, ms_51, m_6, by decide +kernel, by decide +kernel, by decide +kernel⟩
theorem v_X6_isWhat : q_cS yX6_isWhat cX6_isWhat 1 (some .boolean) 1 := ⟨m_1162, m_1161, m_6, by decide +kernel, by decide +kernel, by decide +kernel⟩
theorem v_X6_doesGo : q_cV yX6_doesGo cX6_doesGo 1 (some .boolean) 0 := ⟨m_1166, m_1165, ms_47, m_6, by decide +kernel, by decide +kernel, by decide +kernel⟩
theorem v_X6_allBeats : q_cV yX6_allBeats cX6_allBeats 1 (some .int) 0 := ⟨m_1170, m_1169, ms_48, m_6, by decide +kernel, by decide +kernel, by decide +kernel⟩
theorem v_X6_findWay : q_cV yX6_findWay cX6_findWay 7 (some .int) 2 := ⟨m_1174, m_1173, ms_49, m_6, by decide +kernel, by decide +kernel, by decide +kernel⟩
theorem v_X6_nextHold : q_cV yX6_nextHold cX6_nextHold 5 (some .int) 3 := ⟨m_1202, m_1201, ms_53, m_6, by decide +kernel, by decide +kernel, by decide +kernel⟩
theorem v_X6_bestRehang : q_cV yX6_bestRehang cX6_bestRehang 6 (some .int) 0 := ⟨m_1219, m_1218, ms_54, m_6, by decide +kernel, by decide +kernel, by decide +kernel⟩
theorem v_X6_areTogether : q_cV yX6_areTogether cX6_areTogether 5 (some .boolean) 2 := ⟨m_1238, m_1237, ms_55, m_6, by decide +kernel, by decide +kernel, by decide +kernel⟩
theorem v_X6_comesFor : q_cV yX6_comesFor cX6_comesFor 5 none 2 := ⟨m_1242, m_1241, ms_56, m_6, by decide +kernel, by decide +kernel, by decide +kernel⟩
theorem v_X6_isDrawn : q_cV yX6_isDrawn cX6_isDrawn 5 (some .boolean) 3 := ⟨m_1266, m_1265, ms_59, m_6, by decide +kernel, by decide +kernel, by decide +kernel⟩
theorem v_X6_holdsFor : q_cV yX6_holdsFor cX6_holdsFor 6 (some .int) 2 := ⟨m_1262, m_1261, ms_58, m_6, by decide +kernel, by decide +kernel, by decide +kernel⟩
theorem v_X6_isSheet : q_cS yX6_isSheet cX6_isSheet 1 (some .boolean) 1 := ⟨m_1253, m_1252, m_6, by decide +kernel, by decide +kernel, by decide +kernel⟩
theorem v_X6_rowsOf : q_cV yX6_rowsOf cX6_rowsOf 7 (some .int) 1 := ⟨m_1258, m_1257, ms_57, m_6, by decide +kernel, by decide +kernel, by decide +kernel⟩
theorem v_X6_dogsIn : q_cV yX6_dogsIn cX6_dogsIn 4 (some .int) 1 := ⟨m_1282, m_1281, ms_60, m_6, by decide +kernel, by decide +kernel, by decide +kernel⟩
theorem v_X6_common : q_cS yX6_common cX6_common 10 (some .long) 2 := ⟨m_1290, m_1289, m_6, by decide +kernel, by decide +kernel, by decide +kernel⟩
theorem v_X6_drawn : q_cV yX6_drawn cX6_drawn 2 (some .int) 1 := ⟨m_1307, m_1306, ms_63, m_6, by decide +kernel, by decide +kernel, by decide +kernel⟩
theorem v_X6_canPlay : q_cV yX6_canPlay cX6_canPlay 1 (some .boolean) 0 := ⟨m_1299, m_1298, ms_61, m_6, by decide +kernel, by decide +kernel, by decide +kernel⟩
theorem v_X6_evening : q_cV yX6_evening cX6_evening 9 (some .int) 0 := ⟨m_1303, m_1302, ms_62, m_6, by decide +kernel, by decide +kernel, by decide +kernel⟩
theorem v_X6_putBack : q_cV yX6_putBack cX6_putBack 2 (some .int) 1 := ⟨m_1316, m_1315, ms_64, m_6, by decide +kernel, by decide +kernel, by decide +kernel⟩
theorem v_X6_byteAt : q_cV yX6_byteAt cX6_byteAt 2 (some .int) 1 := ⟨m_1340, m_1339, ms_66, m_6, by decide +kernel, by decide +kernel, by decide +kernel⟩
theorem v_X6_next : q_cV yX6_next cX6_next 2 none 0 := ⟨m_1336, m_1335, ms_65, m_6, by decide +kernel, by decide +kernel, by decide +kernel⟩
theorem v_X6_must : q_cV yX6_must cX6_must 2 none 1 := ⟨m_1358, m_1357, ms_70, m_6, by decide +kernel, by decide +kernel, by decide +kernel⟩
theorem v_X6_isWord : q_cV yX6_isWord cX6_isWord 4 (some .boolean) 1 := ⟨m_1352, m_1351, ms_69, m_6, by decide +kernel, by decide +kernel, by decide +kernel⟩
theorem v_X6_kindTold : q_cV yX6_kindTold cX6_kindTold 3 (some .int) 0 := ⟨m_1348, m_1347, ms_68, m_6, by decide +kernel, by decide +kernel, by decide +kernel⟩
theorem v_X6_isNext : q_cV yX6_isNext cX6_isNext 3 (some .boolean) 1 := ⟨m_1363, m_1362, ms_71, m_6, by decide +kernel, by decide +kernel, by decide +kernel⟩
theorem v_X6_number : q_cV yX6_number cX6_number 4 (some .int) 2 := ⟨m_1367, m_1366, ms_72, m_6, by decide +kernel, by decide +kernel, by decide +kernel⟩
theorem v_X6_item : q_cV yX6_item cX6_item 5 none 3 := ⟨m_1371, m_1370, ms_73, m_6, by decide +kernel, by decide +kernel, by decide +kernel⟩
theorem v_X6_readItem : q_cV yX6_readItem cX6_readItem 3 none 0 := ⟨m_1344, m_1343, ms_67, m_6, by decide +kernel, by decide +kernel, by decide +kernel⟩
theorem v_X6_isSo : q_cV yX6_isSo cX6_isSo 4 (some .int) 1 := ⟨m_1379, m_1378, ms_74, m_6, by decide +kernel, by decide +kernel, by decide +kernel⟩
theorem v_X6_isSpot : q_cS yX6_isSpot cX6_isSpot 1 (some .boolean) 1 := ⟨m_1386, m_1385, m_6, by decide +kernel, by decide +kernel, by decide +kernel⟩
theorem v_X6_cutTo : q_cS yX6_cutTo cX6_cutTo 2 (some .int) 2 := ⟨m_1402, m_1401, m_6, by decide +kernel, by decide +kernel, by decide +kernel⟩
/-- the state of an object of the claim: its fields, its rows, by slots -/
abbrev q_St : Type := (Nat → Int32) × (Nat → Nat → Int32)
/-- rounds: more than any loop of the claim needs -/
def q_N : Nat := 3000
theorem q_N_eq : q_N = 3000 := rfl
/-- the reader's row of words; the row of sheets -/
def q_kf : Nat → Option Nat
  | 0 => some 0
  | 1 => some 1
  | 2 => some 2
  | 3 => some 3
  | 4 => some 4
  | 5 => some 5
  | 6 => some 6
  | _ => none
def q_sf : Nat → Option Nat
  | 0 => some 82
  | 1 => some 84
  | 2 => some 86
  | 3 => some 88
  | _ => none
def w_X0 (B : q_St) : List va_E := [
  .inr (0, [.int (B.1 0), .int (B.1 1), .int (B.1 2), .int (B.1 3), .int (B.1 4), .int (B.1 5), .int (B.1 6), .int (B.1 7), .int (B.1 8), .int (B.1 9), .ref 51, .ref 52, .ref 53, .ref 54, .ref 55, .ref 56]),
  .inl (0, 8, .inl (B.2 10)),
  .inl (0, 8, .inl (B.2 11)),
  .inl (0, 8, .inl (B.2 12)),
  .inl (0, 12, .inl (B.2 13)),
  .inl (0, 12, .inl (B.2 14)),
  .inl (0, 10, .inl (B.2 15))]
def w_X0X0 (B : q_St) (B2 : q_St) : List va_E := [
  .inr (0, [.int (B.1 0), .int (B.1 1), .int (B.1 2), .int (B.1 3), .int (B.1 4), .int (B.1 5), .int (B.1 6), .int (B.1 7), .int (B.1 8), .int (B.1 9), .ref 51, .ref 52, .ref 53, .ref 54, .ref 55, .ref 56]),
  .inl (0, 8, .inl (B.2 10)),
  .inl (0, 8, .inl (B.2 11)),
  .inl (0, 8, .inl (B.2 12)),
  .inl (0, 12, .inl (B.2 13)),
  .inl (0, 12, .inl (B.2 14)),
  .inl (0, 10, .inl (B.2 15)),
  .inr (0, [.int (B2.1 0), .int (B2.1 1), .int (B2.1 2), .int (B2.1 3), .int (B2.1 4), .int (B2.1 5), .int (B2.1 6), .int (B2.1 7), .int (B2.1 8), .int (B2.1 9), .ref 58, .ref 59, .ref 60, .ref 61, .ref 62, .ref 63]),
  .inl (0, 8, .inl (B2.2 10)),
  .inl (0, 8, .inl (B2.2 11)),
  .inl (0, 8, .inl (B2.2 12)),
  .inl (0, 12, .inl (B2.2 13)),
  .inl (0, 12, .inl (B2.2 14)),
  .inl (0, 10, .inl (B2.2 15))]
def w_X2 (S : q_St) : List va_E := [
  .inr (1, [.int (S.1 0), .int (S.1 1), .ref 51]),
  .inl (0, 40, .inl (S.2 2))]
def w_X3 (T : q_St) : List va_E := [
  .inr (2, [.int (T.1 0), .int (T.1 1), .ref 51, .int (T.1 3), .int (T.1 4), .int (T.1 5), .int (T.1 6), .int (T.1 7)]),
  .inl (0, 120, .inl (T.2 2))]
def w_X3X0 (T : q_St) (B : q_St) : List va_E := [
  .inr (2, [.int (T.1 0), .int (T.1 1), .ref 51, .int (T.1 3), .int (T.1 4), .int (T.1 5), .int (T.1 6), .int (T.1 7)]),
  .inl (0, 120, .inl (T.2 2)),
  .inr (0, [.int (B.1 0), .int (B.1 1), .int (B.1 2), .int (B.1 3), .int (B.1 4), .int (B.1 5), .int (B.1 6), .int (B.1 7), .int (B.1 8), .int (B.1 9), .ref 53, .ref 54, .ref 55, .ref 56, .ref 57, .ref 58]),
  .inl (0, 8, .inl (B.2 10)),
  .inl (0, 8, .inl (B.2 11)),
  .inl (0, 8, .inl (B.2 12)),
  .inl (0, 12, .inl (B.2 13)),
  .inl (0, 12, .inl (B.2 14)),
  .inl (0, 10, .inl (B.2 15))]
def w_X4 (Y : q_St) : List va_E := [
  .inr (3, [.ref 51, .ref 52, .ref 53, .ref 54, .ref 55, .ref 56]),
  .inl (0, 1053, .inl (Y.2 0)),
  .inl (0, 1053, .inl (Y.2 1)),
  .inl (0, 81, .inl (Y.2 2)),
  .inl (0, 9, .inl (Y.2 3)),
  .inl (0, 12, .inl (Y.2 4)),
  .inl (0, 12, .inl (Y.2 5))]
def w_X4X0 (Y : q_St) (B : q_St) : List va_E := [
  .inr (3, [.ref 51, .ref 52, .ref 53, .ref 54, .ref 55, .ref 56]),
  .inl (0, 1053, .inl (Y.2 0)),
  .inl (0, 1053, .inl (Y.2 1)),
  .inl (0, 81, .inl (Y.2 2)),
  .inl (0, 9, .inl (Y.2 3)),
  .inl (0, 12, .inl (Y.2 4)),
  .inl (0, 12, .inl (Y.2 5)),
  .inr (0, [.int (B.1 0), .int (B.1 1), .int (B.1 2), .int (B.1 3), .int (B.1 4), .int (B.1 5), .int (B.1 6), .int (B.1 7), .int (B.1 8), .int (B.1 9), .ref 58, .ref 59, .ref 60, .ref 61, .ref 62, .ref 63]),
  .inl (0, 8, .inl (B.2 10)),
  .inl (0, 8, .inl (B.2 11)),
  .inl (0, 8, .inl (B.2 12)),
  .inl (0, 12, .inl (B.2 13)),
  .inl (0, 12, .inl (B.2 14)),
  .inl (0, 10, .inl (B.2 15))]
def w_X5 (X : (Nat → q_St)) : List va_E := [
  .inr (4, [.ref 51, .ref 58, .ref 65, .ref 72, .ref 79, .ref 81, .ref 90, .int ((X 0).1 7)]),
  .inr (0, [.int ((X 1).1 0), .int ((X 1).1 1), .int ((X 1).1 2), .int ((X 1).1 3), .int ((X 1).1 4), .int ((X 1).1 5), .int ((X 1).1 6), .int ((X 1).1 7), .int ((X 1).1 8), .int ((X 1).1 9), .ref 52, .ref 53, .ref 54, .ref 55, .ref 56, .ref 57]),
  .inl (0, 8, .inl ((X 1).2 10)),
  .inl (0, 8, .inl ((X 1).2 11)),
  .inl (0, 8, .inl ((X 1).2 12)),
  .inl (0, 12, .inl ((X 1).2 13)),
  .inl (0, 12, .inl ((X 1).2 14)),
  .inl (0, 10, .inl ((X 1).2 15)),
  .inr (0, [.int ((X 2).1 0), .int ((X 2).1 1), .int ((X 2).1 2), .int ((X 2).1 3), .int ((X 2).1 4), .int ((X 2).1 5), .int ((X 2).1 6), .int ((X 2).1 7), .int ((X 2).1 8), .int ((X 2).1 9), .ref 59, .ref 60, .ref 61, .ref 62, .ref 63, .ref 64]),
  .inl (0, 8, .inl ((X 2).2 10)),
  .inl (0, 8, .inl ((X 2).2 11)),
  .inl (0, 8, .inl ((X 2).2 12)),
  .inl (0, 12, .inl ((X 2).2 13)),
  .inl (0, 12, .inl ((X 2).2 14)),
  .inl (0, 10, .inl ((X 2).2 15)),
  .inr (0, [.int ((X 3).1 0), .int ((X 3).1 1), .int ((X 3).1 2), .int ((X 3).1 3), .int ((X 3).1 4), .int ((X 3).1 5), .int ((X 3).1 6), .int ((X 3).1 7), .int ((X 3).1 8), .int ((X 3).1 9), .ref 66, .ref 67, .ref 68, .ref 69, .ref 70, .ref 71]),
  .inl (0, 8, .inl ((X 3).2 10)),
  .inl (0, 8, .inl ((X 3).2 11)),
  .inl (0, 8, .inl ((X 3).2 12)),
  .inl (0, 12, .inl ((X 3).2 13)),
  .inl (0, 12, .inl ((X 3).2 14)),
  .inl (0, 10, .inl ((X 3).2 15)),
  .inr (3, [.ref 73, .ref 74, .ref 75, .ref 76, .ref 77, .ref 78]),
  .inl (0, 1053, .inl ((X 4).2 0)),
  .inl (0, 1053, .inl ((X 4).2 1)),
  .inl (0, 81, .inl ((X 4).2 2)),
  .inl (0, 9, .inl ((X 4).2 3)),
  .inl (0, 12, .inl ((X 4).2 4)),
  .inl (0, 12, .inl ((X 4).2 5)),
  .inr (2, [.int ((X 5).1 0), .int ((X 5).1 1), .ref 80, .int ((X 5).1 3), .int ((X 5).1 4), .int ((X 5).1 5), .int ((X 5).1 6), .int ((X 5).1 7)]),
  .inl (0, 120, .inl ((X 5).2 2)),
  .inl (2, 4, .inr (.inr (.inr (.inr q_sf)))),
  .inr (1, [.int ((X 6).1 0), .int ((X 6).1 1), .ref 83]),
  .inl (0, 40, .inl ((X 6).2 2)),
  .inr (1, [.int ((X 7).1 0), .int ((X 7).1 1), .ref 85]),
  .inl (0, 40, .inl ((X 7).2 2)),
  .inr (1, [.int ((X 8).1 0), .int ((X 8).1 1), .ref 87]),
  .inl (0, 40, .inl ((X 8).2 2)),
  .inr (1, [.int ((X 9).1 0), .int ((X 9).1 1), .ref 89]),
  .inl (0, 40, .inl ((X 9).2 2)),
  .inl (0, 7, .inl ((X 0).2 6))]
def w_X6 (M : q_St) : List va_E := [
  .inr (5, [.ref 51, .ref 52, .ref 53, .int (M.1 3), .ref 54, .ref 55, .ref 56, .int (M.1 7), .ref 57, .ref 58, .int (M.1 10), .int (M.1 11), .int (M.1 12), .int (M.1 13), .int (M.1 14), .int (M.1 15), .ref 59, .ref 60, .int (M.1 18), .int (M.1 19), .int (M.1 20), .ref 61, .ref 62, .ref 63, .ref 64]),
  .inl (0, 68, .inl (M.2 0)),
  .inl (0, 68, .inl (M.2 1)),
  .inl (0, 68, .inl (M.2 2)),
  .inl (0, 8, .inl (M.2 4)),
  .inl (0, 1053, .inl (M.2 5)),
  .inl (1, 972, .inl (M.2 6)),
  .inl (0, 1053, .inl (M.2 8)),
  .inl (0, 120, .inl (M.2 9)),
  .inl (3, 7, .inr (.inr (.inr (.inr q_kf)))),
  .inl (0, 360, .inl (M.2 17)),
  .inl (0, 4, .inl (M.2 21)),
  .inl (0, 4, .inl (M.2 22)),
  .inl (0, 160, .inl (M.2 23)),
  .inl (0, 40, .inl (M.2 24))]
def w_AA (P : q_St) : List va_E := [
  .inl (0, 68, .inl (P.2 0)),
  .inl (0, 68, .inl (P.2 1))]
theorem q_ix_j {ρ : List Nat} {n j : Nat} (h : j < 13) : q_ix2 ρ n j = j := by unfold q_ix2; rw [if_pos (by omega)]
theorem q_ix_b {ρ : List Nat} {n j : Nat} (h : j < 13) : q_ix2 ρ n (20 + j) = 20 + j := by unfold q_ix2; rw [if_pos (by omega)]
theorem K_X0 : q_Kl 0 RX0 TX0 16 tyX0 := ⟨rfl, q_all (by decide +kernel), tyX0_ok, nmX0⟩
theorem K_X2 : q_Kl 1 RX2 TX2 3 tyX2 := ⟨rfl, q_all (by decide +kernel), tyX2_ok, nmX2⟩
theorem K_X3 : q_Kl 2 RX3 TX3 8 tyX3 := ⟨rfl, q_all (by decide +kernel), tyX3_ok, nmX3⟩
theorem K_X4 : q_Kl 3 RX4 TX4 6 tyX4 := ⟨rfl, q_all (by decide +kernel), tyX4_ok, nmX4⟩
theorem K_X5 : q_Kl 4 RX5 TX5 8 tyX5 := ⟨rfl, q_all (by decide +kernel), tyX5_ok, nmX5⟩
theorem K_X6 : q_Kl 5 RX6 TX6 25 tyX6 := ⟨rfl, q_all (by decide +kernel), tyX6_ok, nmX6⟩
def q_s13 {τ : Type} (u : Nat) (A : Option τ) : Option τ := if u < 13 then A else none
theorem q_kf_at {k : Nat} (h : k < 7) : q_kf k = some k := by
  have : k = 0 ∨ k = 1 ∨ k = 2 ∨ k = 3 ∨ k = 4 ∨ k = 5 ∨ k = 6 := by omega
  rcases this with rfl | rfl | rfl | rfl | rfl | rfl | rfl <;> rfl
theorem q_sf_ref (u : Nat) : va_rf (q_sf u) = .null ∨ ∃ a, va_rf (q_sf u) = .ref a := by
  cases q_sf u with
  | none => exact Or.inl rfl
  | some a => exact Or.inr ⟨a, rfl⟩
section G13
variable {p : Program} {l : Launch} {e : Env} {R : Room} {s : State} {m : MethodId} {args : Array Value} {below : List Frame} {meth : Method} {c : Code} {nL : Nat} {dC : Nat → ClassId} {dI : Nat → Nat → Nat} {dA : Nat → ClassId} {A : Nat → Prop} {α : Nat → Nat} {Q : State → Prop} {cells slots pc : Nat} {lv : List (Nat × Value)} {st : List Value} {hp : List va_E} {τ : Type} {F : Option τ} {t : τ}
theorem r_gs13 {u : Nat} (k : u < 13 → q_S p l e R s m args below meth c nL dC dI dA A α Q cells slots F t pc lv st hp) : q_S p l e R s m args below meth c nL dC dI dA A α Q cells slots (q_s13 u F) t pc lv st hp := fun hF => by
  unfold q_s13 at hF
  by_cases h : u < 13
  · rw [if_pos h] at hF; exact k h hF
  · rw [if_neg h] at hF; cases hF
def q_chz {τ : Type} (x : Int32) (A : Option τ) : Option τ := if x.toUInt32.toUInt16.toUInt32.toInt32 = x then A else none
theorem r_gchz {x : Int32} (k : narrow .char (.int x) = .int x → q_S p l e R s m args below meth c nL dC dI dA A α Q cells slots F t pc lv st hp) : q_S p l e R s m args below meth c nL dC dI dA A α Q cells slots (q_chz x F) t pc lv st hp := fun hF => by
  unfold q_chz at hF
  by_cases h : x.toUInt32.toUInt16.toUInt32.toInt32 = x
  · rw [if_pos h] at hF; exact k (by show Value.int _ = _; rw [h]) hF
  · rw [if_neg h] at hF; cases hF
end G13
