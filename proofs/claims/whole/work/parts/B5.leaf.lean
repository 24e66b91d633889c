/-! Printed by wip/whole/tools/gen_ctor.py: words, the small constructors -/
set_option maxRecDepth 100000 in
theorem gw_151 : Cond.methodLink "LeaderTerms$Fraction" 1 Lib.objectInit ∈ x_tb := x_tm 151 rfl rfl
set_option maxRecDepth 100000 in
theorem gf_157 : x_FL "LeaderTerms$Fraction" 7 2 1 := x_tm 157 rfl rfl
set_option maxRecDepth 100000 in
theorem gw_174 : Cond.methodLink "LeaderTerms$Follower" 3 Lib.objectInit ∈ x_tb := x_tm 174 rfl rfl
set_option maxRecDepth 100000 in
theorem gf_190 : x_FL "LeaderTerms$Follower" 9 1 4 := x_tm 190 rfl rfl
set_option maxRecDepth 100000 in
theorem gf_193 : x_FL "LeaderTerms$Follower" 15 1 5 := x_tm 193 rfl rfl
set_option maxRecDepth 100000 in
theorem gf_197 : x_FL "LeaderTerms$Follower" 18 1 6 := x_tm 197 rfl rfl
set_option maxRecDepth 100000 in
theorem gw_257 : Cond.methodLink "LeaderTerms$Square" 3 Lib.objectInit ∈ x_tb := x_tm 257 rfl rfl
set_option maxRecDepth 100000 in
theorem gf_258 : x_FL "LeaderTerms$Square" 9 8 0 := x_tm 258 rfl rfl
set_option maxRecDepth 100000 in
theorem gf_259 : x_FL "LeaderTerms$Square" 15 8 1 := x_tm 259 rfl rfl
set_option maxRecDepth 100000 in
theorem gf_260 : x_FL "LeaderTerms$Square" 18 8 2 := x_tm 260 rfl rfl
set_option maxRecDepth 100000 in
theorem gw_289 : Cond.methodLink "LeaderTerms$Breaks" 3 Lib.objectInit ∈ x_tb := x_tm 289 rfl rfl
set_option maxRecDepth 100000 in
theorem gf_295 : x_FL "LeaderTerms$Breaks" 9 0 1 := x_tm 295 rfl rfl
set_option maxRecDepth 100000 in
theorem gf_298 : x_FL "LeaderTerms$Breaks" 15 0 2 := x_tm 298 rfl rfl
set_option maxRecDepth 100000 in
theorem gw_290 : Cond.classLink "LeaderTerms$Breaks" 18 "LeaderTerms$Fraction" ∈ x_tb := x_tm 290 rfl rfl
set_option maxRecDepth 100000 in
theorem gw_147 : Cond.instantiable "LeaderTerms$Fraction" 2 ∈ x_tb := x_tm 147 rfl rfl
set_option maxRecDepth 100000 in
theorem gw_118 : Cond.initialized "LeaderTerms$Fraction" ∈ x_tb := x_tm 118 rfl rfl
set_option maxRecDepth 100000 in
theorem gw_291 : Cond.methodLinkNest "LeaderTerms$Breaks" 20 m_X2_init.1 "LeaderTerms" ∈ lw_tbl := List.mem_of_getElem? (i := 291) rfl
set_option maxRecDepth 100000 in
theorem gw_149 : Cond.instanceMethod m_X2_init.1 ∈ x_tb := x_tm 149 rfl rfl
theorem gk_X2 : g_Cok m_X2_init 0 := ⟨gw_149, gw_118, by decide +kernel, rfl, rfl, by decide +kernel⟩
set_option maxRecDepth 100000 in
theorem gf_301 : x_FL "LeaderTerms$Breaks" 21 0 3 := x_tm 301 rfl rfl
set_option maxRecDepth 100000 in
theorem gw_317 : Cond.methodLink "LeaderTerms$Plans" 3 Lib.objectInit ∈ x_tb := x_tm 317 rfl rfl
set_option maxRecDepth 100000 in
theorem gf_322 : x_FL "LeaderTerms$Plans" 9 4 3 := x_tm 322 rfl rfl
set_option maxRecDepth 100000 in
theorem gf_324 : x_FL "LeaderTerms$Plans" 15 4 4 := x_tm 324 rfl rfl
set_option maxRecDepth 100000 in
theorem gf_327 : x_FL "LeaderTerms$Plans" 18 4 5 := x_tm 327 rfl rfl
set_option maxRecDepth 100000 in
theorem gf_329 : x_FL "LeaderTerms$Plans" 22 4 6 := x_tm 329 rfl rfl
set_option maxRecDepth 100000 in
theorem gf_330 : x_FL "LeaderTerms$Plans" 25 4 7 := x_tm 330 rfl rfl
set_option maxRecDepth 100000 in
theorem gf_332 : x_FL "LeaderTerms$Plans" 28 4 8 := x_tm 332 rfl rfl
set_option maxRecDepth 100000 in
theorem gf_333 : x_FL "LeaderTerms$Plans" 31 4 9 := x_tm 333 rfl rfl
set_option maxRecDepth 100000 in
theorem gf_335 : x_FL "LeaderTerms$Plans" 34 4 10 := x_tm 335 rfl rfl
set_option maxRecDepth 100000 in
theorem gf_338 : x_FL "LeaderTerms$Plans" 37 4 11 := x_tm 338 rfl rfl
set_option maxRecDepth 100000 in
theorem gf_318 : x_FL "LeaderTerms$Plans" 41 4 0 := x_tm 318 rfl rfl
set_option maxRecDepth 100000 in
theorem gf_319 : x_FL "LeaderTerms$Plans" 45 4 1 := x_tm 319 rfl rfl
set_option maxRecDepth 100000 in
theorem gw_403 : Cond.methodLink "LeaderTerms$Prices" 3 Lib.objectInit ∈ x_tb := x_tm 403 rfl rfl
set_option maxRecDepth 100000 in
theorem gf_410 : x_FL "LeaderTerms$Prices" 9 5 4 := x_tm 410 rfl rfl
set_option maxRecDepth 100000 in
theorem gf_411 : x_FL "LeaderTerms$Prices" 15 5 5 := x_tm 411 rfl rfl
set_option maxRecDepth 100000 in
theorem gf_412 : x_FL "LeaderTerms$Prices" 19 5 6 := x_tm 412 rfl rfl
set_option maxRecDepth 100000 in
theorem gf_413 : x_FL "LeaderTerms$Prices" 22 5 7 := x_tm 413 rfl rfl
set_option maxRecDepth 100000 in
theorem gf_415 : x_FL "LeaderTerms$Prices" 26 5 8 := x_tm 415 rfl rfl
set_option maxRecDepth 100000 in
theorem gf_404 : x_FL "LeaderTerms$Prices" 29 5 0 := x_tm 404 rfl rfl
set_option maxRecDepth 100000 in
theorem gw_447 : Cond.methodLink "LeaderTerms$Spot" 1 Lib.objectInit ∈ x_tb := x_tm 447 rfl rfl
set_option maxRecDepth 100000 in
theorem gw_132 : Cond.classLink "LeaderTermsLaw" 7 "LeaderTerms" ∈ x_tb := x_tm 132 rfl rfl
set_option maxRecDepth 100000 in
theorem gw_133 : Cond.instantiable "LeaderTerms" 15 ∈ x_tb := x_tm 133 rfl rfl
set_option maxRecDepth 100000 in
theorem gw_116 : Cond.initialized "LeaderTerms" ∈ x_tb := x_tm 116 rfl rfl
set_option maxRecDepth 100000 in
theorem gw_134 : Cond.methodLink "LeaderTermsLaw" 9 m_X10_init.1 ∈ x_tb := x_tm 134 rfl rfl
set_option maxRecDepth 100000 in
theorem gw_135 : Cond.instanceMethod m_X10_init.1 ∈ x_tb := x_tm 135 rfl rfl
theorem gk_X10 : g_Cok m_X10_init 0 := ⟨gw_135, gw_116, by decide +kernel, rfl, rfl, by decide +kernel⟩
set_option maxRecDepth 100000 in
theorem gw_137 : Cond.methodLink "LeaderTerms" 3 Lib.objectInit ∈ x_tb := x_tm 137 rfl rfl
set_option maxRecDepth 100000 in
theorem gw_140 : Cond.classLink "LeaderTerms" 9 "LeaderTerms$World" ∈ x_tb := x_tm 140 rfl rfl
set_option maxRecDepth 100000 in
theorem gw_141 : Cond.instantiable "LeaderTerms$World" 7 ∈ x_tb := x_tm 141 rfl rfl
set_option maxRecDepth 100000 in
theorem gw_117 : Cond.initialized "LeaderTerms$World" ∈ x_tb := x_tm 117 rfl rfl
set_option maxRecDepth 100000 in
theorem gw_142 : Cond.methodLink "LeaderTerms" 11 m_X9_init.1 ∈ x_tb := x_tm 142 rfl rfl
set_option maxRecDepth 100000 in
theorem gw_143 : Cond.instanceMethod m_X9_init.1 ∈ x_tb := x_tm 143 rfl rfl
theorem gk_X9 : g_Cok m_X9_init 0 := ⟨gw_143, gw_117, by decide +kernel, rfl, rfl, by decide +kernel⟩
set_option maxRecDepth 100000 in
theorem gw_145 : Cond.methodLink "LeaderTerms$World" 3 Lib.objectInit ∈ x_tb := x_tm 145 rfl rfl
set_option maxRecDepth 100000 in
theorem gf_222 : x_FL "LeaderTerms$World" 9 9 1 := x_tm 222 rfl rfl
set_option maxRecDepth 100000 in
theorem gf_227 : x_FL "LeaderTerms$World" 15 9 3 := x_tm 227 rfl rfl
set_option maxRecDepth 100000 in
theorem gw_146 : Cond.classLink "LeaderTerms$World" 18 "LeaderTerms$Fraction" ∈ x_tb := x_tm 146 rfl rfl
set_option maxRecDepth 100000 in
theorem gw_148 : Cond.methodLinkNest "LeaderTerms$World" 20 m_X2_init.1 "LeaderTerms" ∈ lw_tbl := List.mem_of_getElem? (i := 148) rfl
set_option maxRecDepth 100000 in
theorem gf_231 : x_FL "LeaderTerms$World" 21 9 5 := x_tm 231 rfl rfl
set_option maxRecDepth 100000 in
theorem gw_168 : Cond.classLink "LeaderTerms$World" 25 "LeaderTerms$Follower" ∈ x_tb := x_tm 168 rfl rfl
set_option maxRecDepth 100000 in
theorem gw_169 : Cond.arrayOver (Jvm.ClassFile.FieldType.object "LeaderTerms$Follower") ∈ lw_tbl := List.mem_of_getElem? (i := 169) rfl
set_option maxRecDepth 100000 in
theorem gf_234 : x_FL "LeaderTerms$World" 27 9 6 := x_tm 234 rfl rfl
set_option maxRecDepth 100000 in
theorem gw_170 : Cond.instantiable "LeaderTerms$Follower" 7 ∈ x_tb := x_tm 170 rfl rfl
set_option maxRecDepth 100000 in
theorem gw_119 : Cond.initialized "LeaderTerms$Follower" ∈ x_tb := x_tm 119 rfl rfl
set_option maxRecDepth 100000 in
theorem gw_171 : Cond.methodLinkNest "LeaderTerms$World" 31 m_X1_init.1 "LeaderTerms" ∈ lw_tbl := List.mem_of_getElem? (i := 171) rfl
set_option maxRecDepth 100000 in
theorem gw_172 : Cond.instanceMethod m_X1_init.1 ∈ x_tb := x_tm 172 rfl rfl
theorem gk_X1 : g_Cok m_X1_init 0 := ⟨gw_172, gw_119, by decide +kernel, rfl, rfl, by decide +kernel⟩
set_option maxRecDepth 100000 in
theorem gf_461 : x_FL "LeaderTerms" 12 10 0 := x_tm 461 rfl rfl
set_option maxRecDepth 100000 in
theorem gf_462 : x_FL "LeaderTerms" 16 10 1 := x_tm 462 rfl rfl
set_option maxRecDepth 100000 in
theorem gw_252 : Cond.classLink "LeaderTerms" 19 "LeaderTerms$Square" ∈ x_tb := x_tm 252 rfl rfl
set_option maxRecDepth 100000 in
theorem gw_253 : Cond.instantiable "LeaderTerms$Square" 4 ∈ x_tb := x_tm 253 rfl rfl
set_option maxRecDepth 100000 in
theorem gw_120 : Cond.initialized "LeaderTerms$Square" ∈ x_tb := x_tm 120 rfl rfl
set_option maxRecDepth 100000 in
theorem gw_254 : Cond.methodLinkNest "LeaderTerms" 21 m_X8_init.1 "LeaderTerms" ∈ lw_tbl := List.mem_of_getElem? (i := 254) rfl
set_option maxRecDepth 100000 in
theorem gw_255 : Cond.instanceMethod m_X8_init.1 ∈ x_tb := x_tm 255 rfl rfl
theorem gk_X8 : g_Cok m_X8_init 0 := ⟨gw_255, gw_120, by decide +kernel, rfl, rfl, by decide +kernel⟩
set_option maxRecDepth 100000 in
theorem gw_276 : Cond.classLink "LeaderTerms" 22 "LeaderTerms$Market" ∈ x_tb := x_tm 276 rfl rfl
set_option maxRecDepth 100000 in
theorem gw_277 : Cond.instantiable "LeaderTerms$Market" 8 ∈ x_tb := x_tm 277 rfl rfl
set_option maxRecDepth 100000 in
theorem gw_121 : Cond.initialized "LeaderTerms$Market" ∈ x_tb := x_tm 121 rfl rfl
set_option maxRecDepth 100000 in
theorem gw_278 : Cond.methodLink "LeaderTerms" 24 m_X3_init.1 ∈ x_tb := x_tm 278 rfl rfl
set_option maxRecDepth 100000 in
theorem gw_279 : Cond.instanceMethod m_X3_init.1 ∈ x_tb := x_tm 279 rfl rfl
theorem gk_X3 : g_Cok m_X3_init 2 := ⟨gw_279, gw_121, by decide +kernel, rfl, rfl, by decide +kernel⟩
set_option maxRecDepth 100000 in
theorem gw_281 : Cond.methodLink "LeaderTerms$Market" 3 Lib.objectInit ∈ x_tb := x_tm 281 rfl rfl
set_option maxRecDepth 100000 in
theorem gw_282 : Cond.classLink "LeaderTerms$Market" 9 "LeaderTerms$Plans" ∈ x_tb := x_tm 282 rfl rfl
set_option maxRecDepth 100000 in
theorem gw_283 : Cond.arrayOver (Jvm.ClassFile.FieldType.object "LeaderTerms$Plans") ∈ lw_tbl := List.mem_of_getElem? (i := 283) rfl
set_option maxRecDepth 100000 in
theorem gf_369 : x_FL "LeaderTerms$Market" 11 3 1 := x_tm 369 rfl rfl
set_option maxRecDepth 100000 in
theorem gw_284 : Cond.classLink "LeaderTerms$Market" 17 "LeaderTerms$Breaks" ∈ x_tb := x_tm 284 rfl rfl
set_option maxRecDepth 100000 in
theorem gw_285 : Cond.instantiable "LeaderTerms$Breaks" 4 ∈ x_tb := x_tm 285 rfl rfl
set_option maxRecDepth 100000 in
theorem gw_122 : Cond.initialized "LeaderTerms$Breaks" ∈ x_tb := x_tm 122 rfl rfl
set_option maxRecDepth 100000 in
theorem gw_286 : Cond.methodLinkNest "LeaderTerms$Market" 19 m_X0_init.1 "LeaderTerms" ∈ lw_tbl := List.mem_of_getElem? (i := 286) rfl
set_option maxRecDepth 100000 in
theorem gw_287 : Cond.instanceMethod m_X0_init.1 ∈ x_tb := x_tm 287 rfl rfl
theorem gk_X0 : g_Cok m_X0_init 0 := ⟨gw_287, gw_122, by decide +kernel, rfl, rfl, by decide +kernel⟩
set_option maxRecDepth 100000 in
theorem gf_371 : x_FL "LeaderTerms$Market" 20 3 2 := x_tm 371 rfl rfl
set_option maxRecDepth 100000 in
theorem gw_311 : Cond.classLink "LeaderTerms$Market" 24 "LeaderTerms$Fraction" ∈ x_tb := x_tm 311 rfl rfl
set_option maxRecDepth 100000 in
theorem gw_312 : Cond.methodLinkNest "LeaderTerms$Market" 26 m_X2_init.1 "LeaderTerms" ∈ lw_tbl := List.mem_of_getElem? (i := 312) rfl
set_option maxRecDepth 100000 in
theorem gf_373 : x_FL "LeaderTerms$Market" 27 3 3 := x_tm 373 rfl rfl
set_option maxRecDepth 100000 in
theorem gf_375 : x_FL "LeaderTerms$Market" 31 3 4 := x_tm 375 rfl rfl
set_option maxRecDepth 100000 in
theorem gf_379 : x_FL "LeaderTerms$Market" 34 3 6 := x_tm 379 rfl rfl
set_option maxRecDepth 100000 in
theorem gf_380 : x_FL "LeaderTerms$Market" 37 3 7 := x_tm 380 rfl rfl
set_option maxRecDepth 100000 in
theorem gf_368 : x_FL "LeaderTerms$Market" 41 3 0 := x_tm 368 rfl rfl
set_option maxRecDepth 100000 in
theorem gw_313 : Cond.instantiable "LeaderTerms$Plans" 13 ∈ x_tb := x_tm 313 rfl rfl
set_option maxRecDepth 100000 in
theorem gw_123 : Cond.initialized "LeaderTerms$Plans" ∈ x_tb := x_tm 123 rfl rfl
set_option maxRecDepth 100000 in
theorem gf_235 : x_FL "LeaderTerms$Market" 45 9 6 := x_tm 235 rfl rfl
set_option maxRecDepth 100000 in
theorem gw_314 : Cond.methodLink "LeaderTerms$Market" 51 m_X4_init.1 ∈ x_tb := x_tm 314 rfl rfl
set_option maxRecDepth 100000 in
theorem gw_315 : Cond.instanceMethod m_X4_init.1 ∈ x_tb := x_tm 315 rfl rfl
theorem gk_X4 : g_Cok m_X4_init 2 := ⟨gw_315, gw_123, by decide +kernel, rfl, rfl, by decide +kernel⟩
set_option maxRecDepth 100000 in
theorem gf_464 : x_FL "LeaderTerms" 27 10 3 := x_tm 464 rfl rfl
set_option maxRecDepth 100000 in
theorem gw_398 : Cond.classLink "LeaderTerms" 31 "LeaderTerms$Prices" ∈ x_tb := x_tm 398 rfl rfl
set_option maxRecDepth 100000 in
theorem gw_399 : Cond.instantiable "LeaderTerms$Prices" 9 ∈ x_tb := x_tm 399 rfl rfl
set_option maxRecDepth 100000 in
theorem gw_124 : Cond.initialized "LeaderTerms$Prices" ∈ x_tb := x_tm 124 rfl rfl
set_option maxRecDepth 100000 in
theorem gw_400 : Cond.methodLink "LeaderTerms" 33 m_X5_init.1 ∈ x_tb := x_tm 400 rfl rfl
set_option maxRecDepth 100000 in
theorem gw_401 : Cond.instanceMethod m_X5_init.1 ∈ x_tb := x_tm 401 rfl rfl
theorem gk_X5 : g_Cok m_X5_init 1 := ⟨gw_401, gw_124, by decide +kernel, rfl, rfl, by decide +kernel⟩
set_option maxRecDepth 100000 in
theorem gf_465 : x_FL "LeaderTerms" 36 10 4 := x_tm 465 rfl rfl
set_option maxRecDepth 100000 in
theorem gw_435 : Cond.classLink "LeaderTerms" 40 "LeaderTerms$Follower" ∈ x_tb := x_tm 435 rfl rfl
set_option maxRecDepth 100000 in
theorem gw_436 : Cond.methodLinkNest "LeaderTerms" 42 m_X1_init.1 "LeaderTerms" ∈ lw_tbl := List.mem_of_getElem? (i := 436) rfl
set_option maxRecDepth 100000 in
theorem gf_466 : x_FL "LeaderTerms" 43 10 5 := x_tm 466 rfl rfl
set_option maxRecDepth 100000 in
theorem gf_467 : x_FL "LeaderTerms" 47 10 6 := x_tm 467 rfl rfl
set_option maxRecDepth 100000 in
theorem gw_437 : Cond.classLink "LeaderTerms" 51 "LeaderTerms$Fraction" ∈ x_tb := x_tm 437 rfl rfl
set_option maxRecDepth 100000 in
theorem gw_438 : Cond.methodLinkNest "LeaderTerms" 53 m_X2_init.1 "LeaderTerms" ∈ lw_tbl := List.mem_of_getElem? (i := 438) rfl
set_option maxRecDepth 100000 in
theorem gf_468 : x_FL "LeaderTerms" 54 10 7 := x_tm 468 rfl rfl
set_option maxRecDepth 100000 in
theorem gf_469 : x_FL "LeaderTerms" 58 10 8 := x_tm 469 rfl rfl
set_option maxRecDepth 100000 in
theorem gw_439 : Cond.classLink "LeaderTerms" 61 "LeaderTerms$Row" ∈ x_tb := x_tm 439 rfl rfl
set_option maxRecDepth 100000 in
theorem gw_440 : Cond.arrayOver (Jvm.ClassFile.FieldType.object "LeaderTerms$Row") ∈ lw_tbl := List.mem_of_getElem? (i := 440) rfl
set_option maxRecDepth 100000 in
theorem gf_470 : x_FL "LeaderTerms" 63 10 9 := x_tm 470 rfl rfl
set_option maxRecDepth 100000 in
theorem gw_441 : Cond.classLink "LeaderTerms" 67 "LeaderTerms$Spot" ∈ x_tb := x_tm 441 rfl rfl
set_option maxRecDepth 100000 in
theorem gw_442 : Cond.arrayOver (Jvm.ClassFile.FieldType.object "LeaderTerms$Spot") ∈ lw_tbl := List.mem_of_getElem? (i := 442) rfl
set_option maxRecDepth 100000 in
theorem gf_471 : x_FL "LeaderTerms" 69 10 10 := x_tm 471 rfl rfl
set_option maxRecDepth 100000 in
theorem gw_443 : Cond.instantiable "LeaderTerms$Spot" 3 ∈ x_tb := x_tm 443 rfl rfl
set_option maxRecDepth 100000 in
theorem gw_125 : Cond.initialized "LeaderTerms$Spot" ∈ x_tb := x_tm 125 rfl rfl
set_option maxRecDepth 100000 in
theorem gw_444 : Cond.methodLinkNest "LeaderTerms" 73 m_X7_init.1 "LeaderTerms" ∈ lw_tbl := List.mem_of_getElem? (i := 444) rfl
set_option maxRecDepth 100000 in
theorem gw_445 : Cond.instanceMethod m_X7_init.1 ∈ x_tb := x_tm 445 rfl rfl
theorem gk_X7 : g_Cok m_X7_init 0 := ⟨gw_445, gw_125, by decide +kernel, rfl, rfl, by decide +kernel⟩
set_option maxRecDepth 100000 in
theorem gf_472 : x_FL "LeaderTerms" 74 10 11 := x_tm 472 rfl rfl
set_option maxRecDepth 100000 in
theorem gf_474 : x_FL "LeaderTerms" 78 10 13 := x_tm 474 rfl rfl
set_option maxRecDepth 100000 in
theorem gf_475 : x_FL "LeaderTerms" 81 10 14 := x_tm 475 rfl rfl
set_option maxRecDepth 100000 in
theorem gw_1150 : Cond.classLink "LeaderTermsLaw" 10 "LeaderTermsModel" ∈ x_tb := x_tm 1150 rfl rfl
set_option maxRecDepth 100000 in
theorem gw_1151 : Cond.instantiable "LeaderTermsModel" 58 ∈ x_tb := x_tm 1151 rfl rfl
set_option maxRecDepth 100000 in
theorem gw_126 : Cond.initialized "LeaderTermsModel" ∈ x_tb := x_tm 126 rfl rfl
set_option maxRecDepth 100000 in
theorem gw_1152 : Cond.methodLink "LeaderTermsLaw" 12 m_X11_init.1 ∈ x_tb := x_tm 1152 rfl rfl
set_option maxRecDepth 100000 in
theorem gw_1153 : Cond.instanceMethod m_X11_init.1 ∈ x_tb := x_tm 1153 rfl rfl
theorem gk_X11 : g_Cok m_X11_init 0 := ⟨gw_1153, gw_126, by decide +kernel, rfl, rfl, by decide +kernel⟩
set_option maxRecDepth 100000 in
theorem gw_1155 : Cond.methodLink "LeaderTermsModel" 1 Lib.objectInit ∈ x_tb := x_tm 1155 rfl rfl
set_option maxRecDepth 100000 in
theorem gf_1165 : x_FL "LeaderTermsModel" 7 11 1 := x_tm 1165 rfl rfl
set_option maxRecDepth 100000 in
theorem gf_1166 : x_FL "LeaderTermsModel" 13 11 2 := x_tm 1166 rfl rfl
set_option maxRecDepth 100000 in
theorem gf_1167 : x_FL "LeaderTermsModel" 16 11 3 := x_tm 1167 rfl rfl
set_option maxRecDepth 100000 in
theorem gf_1168 : x_FL "LeaderTermsModel" 19 11 4 := x_tm 1168 rfl rfl
set_option maxRecDepth 100000 in
theorem gw_1156 : Cond.classLink "LeaderTermsModel" 22 "[[[I" ∈ x_tb := x_tm 1156 rfl rfl
set_option maxRecDepth 100000 in
theorem gw_1157 : Cond.arrayOver (Jvm.ClassFile.FieldType.array (Jvm.ClassFile.FieldType.array Jvm.ClassFile.FieldType.int)) ∈ lw_tbl := List.mem_of_getElem? (i := 1157) rfl
set_option maxRecDepth 100000 in
theorem gw_1158 : Cond.arrayOver (Jvm.ClassFile.FieldType.array Jvm.ClassFile.FieldType.int) ∈ lw_tbl := List.mem_of_getElem? (i := 1158) rfl
set_option maxRecDepth 100000 in
theorem gf_1169 : x_FL "LeaderTermsModel" 24 11 5 := x_tm 1169 rfl rfl
set_option maxRecDepth 100000 in
theorem gf_1170 : x_FL "LeaderTermsModel" 27 11 6 := x_tm 1170 rfl rfl
set_option maxRecDepth 100000 in
theorem gw_1159 : Cond.classLink "LeaderTermsModel" 30 "[[I" ∈ x_tb := x_tm 1159 rfl rfl
set_option maxRecDepth 100000 in
theorem gf_1171 : x_FL "LeaderTermsModel" 32 11 7 := x_tm 1171 rfl rfl
set_option maxRecDepth 100000 in
theorem gf_1172 : x_FL "LeaderTermsModel" 35 11 8 := x_tm 1172 rfl rfl
set_option maxRecDepth 100000 in
theorem gf_1174 : x_FL "LeaderTermsModel" 39 11 10 := x_tm 1174 rfl rfl
set_option maxRecDepth 100000 in
theorem gf_1177 : x_FL "LeaderTermsModel" 43 11 13 := x_tm 1177 rfl rfl
set_option maxRecDepth 100000 in
theorem gf_1178 : x_FL "LeaderTermsModel" 46 11 14 := x_tm 1178 rfl rfl
set_option maxRecDepth 100000 in
theorem gw_1160 : Cond.classLink "LeaderTermsModel" 49 "[[J" ∈ x_tb := x_tm 1160 rfl rfl
set_option maxRecDepth 100000 in
theorem gw_1161 : Cond.arrayOver (Jvm.ClassFile.FieldType.array Jvm.ClassFile.FieldType.long) ∈ lw_tbl := List.mem_of_getElem? (i := 1161) rfl
set_option maxRecDepth 100000 in
theorem gf_1182 : x_FL "LeaderTermsModel" 51 11 18 := x_tm 1182 rfl rfl
set_option maxRecDepth 100000 in
theorem gf_1183 : x_FL "LeaderTermsModel" 54 11 19 := x_tm 1183 rfl rfl
set_option maxRecDepth 100000 in
theorem gf_1184 : x_FL "LeaderTermsModel" 58 11 20 := x_tm 1184 rfl rfl
set_option maxRecDepth 100000 in
theorem gf_1185 : x_FL "LeaderTermsModel" 61 11 21 := x_tm 1185 rfl rfl
set_option maxRecDepth 100000 in
theorem gw_1162 : Cond.classLink "LeaderTermsModel" 64 "[[[J" ∈ x_tb := x_tm 1162 rfl rfl
set_option maxRecDepth 100000 in
theorem gw_1163 : Cond.arrayOver (Jvm.ClassFile.FieldType.array (Jvm.ClassFile.FieldType.array Jvm.ClassFile.FieldType.long)) ∈ lw_tbl := List.mem_of_getElem? (i := 1163) rfl
set_option maxRecDepth 100000 in
theorem gf_1186 : x_FL "LeaderTermsModel" 66 11 22 := x_tm 1186 rfl rfl
set_option maxRecDepth 100000 in
theorem gf_1187 : x_FL "LeaderTermsModel" 69 11 23 := x_tm 1187 rfl rfl
set_option maxRecDepth 100000 in
theorem gf_1188 : x_FL "LeaderTermsModel" 72 11 24 := x_tm 1188 rfl rfl
set_option maxRecDepth 100000 in
theorem gf_1190 : x_FL "LeaderTermsModel" 75 11 26 := x_tm 1190 rfl rfl
set_option maxRecDepth 100000 in
theorem gf_1191 : x_FL "LeaderTermsModel" 78 11 27 := x_tm 1191 rfl rfl
set_option maxRecDepth 100000 in
theorem gf_1198 : x_FL "LeaderTermsModel" 81 11 34 := x_tm 1198 rfl rfl
set_option maxRecDepth 100000 in
theorem gf_1199 : x_FL "LeaderTermsModel" 84 11 35 := x_tm 1199 rfl rfl
set_option maxRecDepth 100000 in
theorem gf_1200 : x_FL "LeaderTermsModel" 87 11 36 := x_tm 1200 rfl rfl
set_option maxRecDepth 100000 in
theorem gf_1204 : x_FL "LeaderTermsModel" 90 11 40 := x_tm 1204 rfl rfl
set_option maxRecDepth 100000 in
theorem gf_1205 : x_FL "LeaderTermsModel" 93 11 41 := x_tm 1205 rfl rfl
set_option maxRecDepth 100000 in
theorem gf_1207 : x_FL "LeaderTermsModel" 96 11 43 := x_tm 1207 rfl rfl
set_option maxRecDepth 100000 in
theorem gf_1208 : x_FL "LeaderTermsModel" 99 11 44 := x_tm 1208 rfl rfl
set_option maxRecDepth 100000 in
theorem gf_1209 : x_FL "LeaderTermsModel" 102 11 45 := x_tm 1209 rfl rfl
set_option maxRecDepth 100000 in
theorem gf_1210 : x_FL "LeaderTermsModel" 105 11 46 := x_tm 1210 rfl rfl
set_option maxRecDepth 100000 in
theorem gf_1211 : x_FL "LeaderTermsModel" 108 11 47 := x_tm 1211 rfl rfl
set_option maxRecDepth 100000 in
theorem gf_1212 : x_FL "LeaderTermsModel" 111 11 48 := x_tm 1212 rfl rfl
set_option maxRecDepth 100000 in
theorem gf_1213 : x_FL "LeaderTermsModel" 114 11 49 := x_tm 1213 rfl rfl
set_option maxRecDepth 100000 in
theorem gf_1214 : x_FL "LeaderTermsModel" 117 11 50 := x_tm 1214 rfl rfl
set_option maxRecDepth 100000 in
theorem gf_1217 : x_FL "LeaderTermsModel" 120 11 53 := x_tm 1217 rfl rfl
set_option maxRecDepth 100000 in
theorem gf_1218 : x_FL "LeaderTermsModel" 123 11 54 := x_tm 1218 rfl rfl
set_option maxRecDepth 100000 in
theorem gf_1219 : x_FL "LeaderTermsModel" 126 11 55 := x_tm 1219 rfl rfl
set_option maxRecDepth 100000 in
theorem gf_1220 : x_FL "LeaderTermsModel" 129 11 56 := x_tm 1220 rfl rfl
set_option maxRecDepth 100000 in
theorem gf_1221 : x_FL "LeaderTermsModel" 132 11 57 := x_tm 1221 rfl rfl
theorem g_rgs (x : Int) (h0 : 0 ≤ x) (h1 : x ≤ 1000) : x_rg 0 x := ⟨by omega, by omega⟩
def kq2_1 (a n : Nat) (g : Nat → gC) : Nat → gC := g_st g a 1 (1, 1)
theorem c_X2 {l : Launch} {E : xE} {a n : Nat} {g : Nat → gC} {Q : Nat → (Nat → gC) → Prop} (ha : 5 ≤ a ∧ a < n) (hg : (g a).1 = 2) (k : Q n (kq2_1 a n g)) : g_Ev l E (1, 0, 0) m_X2_init 0 [(2, ((a : Nat) : Int))] [] n g (g_QQ E Q) := by
  refine j_aload 0 rfl rfl ?_
  refine j_obj (a := a) 1 rfl gw_151 (Nat.le_of_ble_eq_true rfl) ?_
  show g_Ev l E (1, 0, 0) m_X2_init 4 [(2, ((a : Nat) : Int))] [] (n) g (g_QQ E Q)
  refine j_aload 2 rfl rfl ?_
  refine j_lconst 1 3 rfl (by decide +kernel) ?_
  refine j_putf (c := 2) (kf := 1) (a := a) (v := (1, 1)) 4 rfl (by decide) gf_157 (Or.inl rfl) ⟨ha.1, by omega⟩ hg (fun _ => ⟨rfl, rfl⟩) ?_
  have t1 : ((kq2_1 a n g) a).1 = 2 := g_tS hg
  show g_Ev l E (1, 0, 0) m_X2_init 9 [(2, ((a : Nat) : Int))] [] (n) (kq2_1 a n g) (g_QQ E Q)
  exact j_ret 5 rfl rfl k
def kq1_1 (a n : Nat) (g : Nat → gC) : Nat → gC := g_up g (n) (g_ar 0 9)
def kq1_2 (a n : Nat) (g : Nat → gC) : Nat → gC := g_st (kq1_1 a n g) a 4 (2, ((n : Nat) : Int))
def kq1_3 (a n : Nat) (g : Nat → gC) : Nat → gC := g_up (kq1_2 a n g) (n + 1) (g_ar 0 12)
def kq1_4 (a n : Nat) (g : Nat → gC) : Nat → gC := g_st (kq1_3 a n g) a 5 (2, ((n + 1 : Nat) : Int))
def kq1_5 (a n : Nat) (g : Nat → gC) : Nat → gC := g_up (kq1_4 a n g) (n + 1 + 1) (g_ar 0 4)
def kq1_6 (a n : Nat) (g : Nat → gC) : Nat → gC := g_st (kq1_5 a n g) a 6 (2, ((n + 1 + 1 : Nat) : Int))
theorem c_X1 {l : Launch} {E : xE} {a n : Nat} {g : Nat → gC} {Q : Nat → (Nat → gC) → Prop} (ha : 5 ≤ a ∧ a < n) (hg : (g a).1 = 1) (k : Q (n + 1 + 1 + 1) (kq1_6 a n g)) : g_Ev l E (1, 3, 25) m_X1_init 0 [(2, ((a : Nat) : Int))] [] n g (g_QQ E Q) := by
  refine j_aload 0 rfl rfl ?_
  refine j_obj (a := a) 1 rfl gw_174 (Nat.le_of_ble_eq_true rfl) ?_
  show g_Ev l E (1, 3, 25) m_X1_init 4 [(2, ((a : Nat) : Int))] [] (n) g (g_QQ E Q)
  refine j_aload 2 rfl rfl ?_
  refine j_bipush 3 rfl (by decide +kernel) ?_
  refine j_newa (t := 0) (N := 9) (z2 := (1, 2, 16)) 4 rfl (Or.inl ⟨rfl, rfl⟩) (Nat.le_of_ble_eq_true rfl) ⟨rfl, rfl, rfl⟩ ?_
  have t1 : ((kq1_1 a n g) a).1 = 1 := g_tU hg (by omega)
  show g_Ev l E (1, 2, 16) m_X1_init 9 [(2, ((a : Nat) : Int))] [(2, ((n : Nat) : Int)), (2, ((a : Nat) : Int))] (n + 1) (kq1_1 a n g) (g_QQ E Q)
  refine j_putf (c := 1) (kf := 4) (a := a) (v := (2, ((n : Nat) : Int))) 5 rfl (by decide) gf_190 (Or.inr ⟨rfl, rfl, rfl⟩) ⟨ha.1, by omega⟩ t1 (g_fitR rfl (n)) ?_
  have t2 : ((kq1_2 a n g) a).1 = 1 := g_tS t1
  show g_Ev l E (1, 2, 16) m_X1_init 12 [(2, ((a : Nat) : Int))] [] (n + 1) (kq1_2 a n g) (g_QQ E Q)
  refine j_aload 6 rfl rfl ?_
  refine j_bipush 7 rfl (by decide +kernel) ?_
  refine j_newa (t := 0) (N := 12) (z2 := (1, 1, 4)) 8 rfl (Or.inl ⟨rfl, rfl⟩) (Nat.le_of_ble_eq_true rfl) ⟨rfl, rfl, rfl⟩ ?_
  have t3 : ((kq1_3 a n g) a).1 = 1 := g_tU t2 (by omega)
  show g_Ev l E (1, 1, 4) m_X1_init 17 [(2, ((a : Nat) : Int))] [(2, ((n + 1 : Nat) : Int)), (2, ((a : Nat) : Int))] (n + 1 + 1) (kq1_3 a n g) (g_QQ E Q)
  refine j_putf (c := 1) (kf := 5) (a := a) (v := (2, ((n + 1 : Nat) : Int))) 9 rfl (by decide) gf_193 (Or.inr ⟨rfl, rfl, rfl⟩) ⟨ha.1, by omega⟩ t3 (g_fitR rfl (n + 1)) ?_
  have t4 : ((kq1_4 a n g) a).1 = 1 := g_tS t3
  show g_Ev l E (1, 1, 4) m_X1_init 20 [(2, ((a : Nat) : Int))] [] (n + 1 + 1) (kq1_4 a n g) (g_QQ E Q)
  refine j_aload 10 rfl rfl ?_
  refine j_iconst 11 rfl ?_
  refine j_newa (t := 0) (N := 4) (z2 := (1, 0, 0)) 12 rfl (Or.inl ⟨rfl, rfl⟩) (Nat.le_of_ble_eq_true rfl) ⟨rfl, rfl, rfl⟩ ?_
  have t5 : ((kq1_5 a n g) a).1 = 1 := g_tU t4 (by omega)
  show g_Ev l E (1, 0, 0) m_X1_init 24 [(2, ((a : Nat) : Int))] [(2, ((n + 1 + 1 : Nat) : Int)), (2, ((a : Nat) : Int))] (n + 1 + 1 + 1) (kq1_5 a n g) (g_QQ E Q)
  refine j_putf (c := 1) (kf := 6) (a := a) (v := (2, ((n + 1 + 1 : Nat) : Int))) 13 rfl (by decide) gf_197 (Or.inr ⟨rfl, rfl, rfl⟩) ⟨ha.1, by omega⟩ t5 (g_fitR rfl (n + 1 + 1)) ?_
  have t6 : ((kq1_6 a n g) a).1 = 1 := g_tS t5
  show g_Ev l E (1, 0, 0) m_X1_init 27 [(2, ((a : Nat) : Int))] [] (n + 1 + 1 + 1) (kq1_6 a n g) (g_QQ E Q)
  exact j_ret 14 rfl rfl k
def kq8_1 (a n : Nat) (g : Nat → gC) : Nat → gC := g_up g (n) (g_ar 1 9)
def kq8_2 (a n : Nat) (g : Nat → gC) : Nat → gC := g_st (kq8_1 a n g) a 0 (2, ((n : Nat) : Int))
def kq8_3 (a n : Nat) (g : Nat → gC) : Nat → gC := g_up (kq8_2 a n g) (n + 1) (g_ar 1 3)
def kq8_4 (a n : Nat) (g : Nat → gC) : Nat → gC := g_st (kq8_3 a n g) a 1 (2, ((n + 1 : Nat) : Int))
def kq8_5 (a n : Nat) (g : Nat → gC) : Nat → gC := g_up (kq8_4 a n g) (n + 1 + 1) (g_ar 1 3)
def kq8_6 (a n : Nat) (g : Nat → gC) : Nat → gC := g_st (kq8_5 a n g) a 2 (2, ((n + 1 + 1 : Nat) : Int))
theorem c_X8 {l : Launch} {E : xE} {a n : Nat} {g : Nat → gC} {Q : Nat → (Nat → gC) → Prop} (ha : 5 ≤ a ∧ a < n) (hg : (g a).1 = 8) (k : Q (n + 1 + 1 + 1) (kq8_6 a n g)) : g_Ev l E (1, 3, 15) m_X8_init 0 [(2, ((a : Nat) : Int))] [] n g (g_QQ E Q) := by
  refine j_aload 0 rfl rfl ?_
  refine j_obj (a := a) 1 rfl gw_257 (Nat.le_of_ble_eq_true rfl) ?_
  show g_Ev l E (1, 3, 15) m_X8_init 4 [(2, ((a : Nat) : Int))] [] (n) g (g_QQ E Q)
  refine j_aload 2 rfl rfl ?_
  refine j_bipush 3 rfl (by decide +kernel) ?_
  refine j_newa (t := 1) (N := 9) (z2 := (1, 2, 6)) 4 rfl (Or.inr ⟨rfl, rfl⟩) (Nat.le_of_ble_eq_true rfl) ⟨rfl, rfl, rfl⟩ ?_
  have t1 : ((kq8_1 a n g) a).1 = 8 := g_tU hg (by omega)
  show g_Ev l E (1, 2, 6) m_X8_init 9 [(2, ((a : Nat) : Int))] [(2, ((n : Nat) : Int)), (2, ((a : Nat) : Int))] (n + 1) (kq8_1 a n g) (g_QQ E Q)
  refine j_putf (c := 8) (kf := 0) (a := a) (v := (2, ((n : Nat) : Int))) 5 rfl (by decide) gf_258 (Or.inr ⟨rfl, rfl, rfl⟩) ⟨ha.1, by omega⟩ t1 (g_fitR rfl (n)) ?_
  have t2 : ((kq8_2 a n g) a).1 = 8 := g_tS t1
  show g_Ev l E (1, 2, 6) m_X8_init 12 [(2, ((a : Nat) : Int))] [] (n + 1) (kq8_2 a n g) (g_QQ E Q)
  refine j_aload 6 rfl rfl ?_
  refine j_iconst 7 rfl ?_
  refine j_newa (t := 1) (N := 3) (z2 := (1, 1, 3)) 8 rfl (Or.inr ⟨rfl, rfl⟩) (Nat.le_of_ble_eq_true rfl) ⟨rfl, rfl, rfl⟩ ?_
  have t3 : ((kq8_3 a n g) a).1 = 8 := g_tU t2 (by omega)
  show g_Ev l E (1, 1, 3) m_X8_init 16 [(2, ((a : Nat) : Int))] [(2, ((n + 1 : Nat) : Int)), (2, ((a : Nat) : Int))] (n + 1 + 1) (kq8_3 a n g) (g_QQ E Q)
  refine j_putf (c := 8) (kf := 1) (a := a) (v := (2, ((n + 1 : Nat) : Int))) 9 rfl (by decide) gf_259 (Or.inr ⟨rfl, rfl, rfl⟩) ⟨ha.1, by omega⟩ t3 (g_fitR rfl (n + 1)) ?_
  have t4 : ((kq8_4 a n g) a).1 = 8 := g_tS t3
  show g_Ev l E (1, 1, 3) m_X8_init 19 [(2, ((a : Nat) : Int))] [] (n + 1 + 1) (kq8_4 a n g) (g_QQ E Q)
  refine j_aload 10 rfl rfl ?_
  refine j_iconst 11 rfl ?_
  refine j_newa (t := 1) (N := 3) (z2 := (1, 0, 0)) 12 rfl (Or.inr ⟨rfl, rfl⟩) (Nat.le_of_ble_eq_true rfl) ⟨rfl, rfl, rfl⟩ ?_
  have t5 : ((kq8_5 a n g) a).1 = 8 := g_tU t4 (by omega)
  show g_Ev l E (1, 0, 0) m_X8_init 23 [(2, ((a : Nat) : Int))] [(2, ((n + 1 + 1 : Nat) : Int)), (2, ((a : Nat) : Int))] (n + 1 + 1 + 1) (kq8_5 a n g) (g_QQ E Q)
  refine j_putf (c := 8) (kf := 2) (a := a) (v := (2, ((n + 1 + 1 : Nat) : Int))) 13 rfl (by decide) gf_260 (Or.inr ⟨rfl, rfl, rfl⟩) ⟨ha.1, by omega⟩ t5 (g_fitR rfl (n + 1 + 1)) ?_
  have t6 : ((kq8_6 a n g) a).1 = 8 := g_tS t5
  show g_Ev l E (1, 0, 0) m_X8_init 26 [(2, ((a : Nat) : Int))] [] (n + 1 + 1 + 1) (kq8_6 a n g) (g_QQ E Q)
  exact j_ret 14 rfl rfl k
def kq0_1 (a n : Nat) (g : Nat → gC) : Nat → gC := g_up g (n) (g_ar 1 27)
def kq0_2 (a n : Nat) (g : Nat → gC) : Nat → gC := g_st (kq0_1 a n g) a 1 (2, ((n : Nat) : Int))
def kq0_3 (a n : Nat) (g : Nat → gC) : Nat → gC := g_up (kq0_2 a n g) (n + 1) (g_ar 1 27)
def kq0_4 (a n : Nat) (g : Nat → gC) : Nat → gC := g_st (kq0_3 a n g) a 2 (2, ((n + 1 : Nat) : Int))
def kq0_5 (a n : Nat) (g : Nat → gC) : Nat → gC := g_up (kq0_4 a n g) (n + 1 + 1) (g_new 2)
def kq0_6 (a n : Nat) (g : Nat → gC) : Nat → gC := kq2_1 (n + 1 + 1) (n + 1 + 1 + 1) (kq0_5 a n g)
def kq0_7 (a n : Nat) (g : Nat → gC) : Nat → gC := g_st (kq0_6 a n g) a 3 (2, ((n + 1 + 1 : Nat) : Int))
theorem c_X0 {l : Launch} {E : xE} {a n : Nat} {g : Nat → gC} {Q : Nat → (Nat → gC) → Prop} (ha : 5 ≤ a ∧ a < n) (hg : (g a).1 = 0) (k : Q (n + 1 + 1 + 1) (kq0_7 a n g)) : g_Ev l E (2, 3, 56) m_X0_init 0 [(2, ((a : Nat) : Int))] [] n g (g_QQ E Q) := by
  refine j_aload 0 rfl rfl ?_
  refine j_obj (a := a) 1 rfl gw_289 (Nat.le_of_ble_eq_true rfl) ?_
  show g_Ev l E (2, 3, 56) m_X0_init 4 [(2, ((a : Nat) : Int))] [] (n) g (g_QQ E Q)
  refine j_aload 2 rfl rfl ?_
  refine j_bipush 3 rfl (by decide +kernel) ?_
  refine j_newa (t := 1) (N := 27) (z2 := (2, 2, 29)) 4 rfl (Or.inr ⟨rfl, rfl⟩) (Nat.le_of_ble_eq_true rfl) ⟨rfl, rfl, rfl⟩ ?_
  have t1 : ((kq0_1 a n g) a).1 = 0 := g_tU hg (by omega)
  show g_Ev l E (2, 2, 29) m_X0_init 9 [(2, ((a : Nat) : Int))] [(2, ((n : Nat) : Int)), (2, ((a : Nat) : Int))] (n + 1) (kq0_1 a n g) (g_QQ E Q)
  refine j_putf (c := 0) (kf := 1) (a := a) (v := (2, ((n : Nat) : Int))) 5 rfl (by decide) gf_295 (Or.inr ⟨rfl, rfl, rfl⟩) ⟨ha.1, by omega⟩ t1 (g_fitR rfl (n)) ?_
  have t2 : ((kq0_2 a n g) a).1 = 0 := g_tS t1
  show g_Ev l E (2, 2, 29) m_X0_init 12 [(2, ((a : Nat) : Int))] [] (n + 1) (kq0_2 a n g) (g_QQ E Q)
  refine j_aload 6 rfl rfl ?_
  refine j_bipush 7 rfl (by decide +kernel) ?_
  refine j_newa (t := 1) (N := 27) (z2 := (2, 1, 2)) 8 rfl (Or.inr ⟨rfl, rfl⟩) (Nat.le_of_ble_eq_true rfl) ⟨rfl, rfl, rfl⟩ ?_
  have t3 : ((kq0_3 a n g) a).1 = 0 := g_tU t2 (by omega)
  show g_Ev l E (2, 1, 2) m_X0_init 17 [(2, ((a : Nat) : Int))] [(2, ((n + 1 : Nat) : Int)), (2, ((a : Nat) : Int))] (n + 1 + 1) (kq0_3 a n g) (g_QQ E Q)
  refine j_putf (c := 0) (kf := 2) (a := a) (v := (2, ((n + 1 : Nat) : Int))) 9 rfl (by decide) gf_298 (Or.inr ⟨rfl, rfl, rfl⟩) ⟨ha.1, by omega⟩ t3 (g_fitR rfl (n + 1)) ?_
  have t4 : ((kq0_4 a n g) a).1 = 0 := g_tS t3
  show g_Ev l E (2, 1, 2) m_X0_init 20 [(2, ((a : Nat) : Int))] [] (n + 1 + 1) (kq0_4 a n g) (g_QQ E Q)
  refine j_aload 10 rfl rfl ?_
  refine j_new (c := 2) (z2 := (2, 0, 0)) 11 rfl (by decide) gw_290 gw_147 gw_118 ⟨rfl, rfl, rfl⟩ ?_
  have t5 : ((kq0_5 a n g) a).1 = 0 := g_tU t4 (by omega)
  show g_Ev l E (2, 0, 0) m_X0_init 24 [(2, ((a : Nat) : Int))] [(2, ((n + 1 + 1 : Nat) : Int)), (2, ((a : Nat) : Int))] (n + 1 + 1 + 1) (kq0_5 a n g) (g_QQ E Q)
  refine j_dup 12 rfl (Nat.ne_of_beq_eq_false rfl) ?_
  refine j_call (y1 := m_X2_init) (a := n + 1 + 1) (ls0 := [(2, ((n + 1 + 1 : Nat) : Int))]) (st := [(2, ((n + 1 + 1 : Nat) : Int)), (2, ((a : Nat) : Int))]) (z1 := (1, 0, 0)) (z2 := (2, 0, 0)) [] 13 rfl (Or.inr ⟨_, gw_291⟩) ok_X2_init gk_X2 rfl ⟨rfl, Nat.le_of_ble_eq_true rfl⟩ (Nat.le_of_ble_eq_true rfl) ⟨Nat.le_of_ble_eq_true rfl, rfl, rfl, rfl⟩ ?_
  refine c_X2 (by omega) (by show (g_up _ _ _ _).1 = _; rw [g_tN]; rfl) ?_
  have t6 : ((kq0_6 a n g) a).1 = 0 := g_tS t5
  show g_Ev l E (2, 0, 0) m_X0_init 28 [(2, ((a : Nat) : Int))] [(2, ((n + 1 + 1 : Nat) : Int)), (2, ((a : Nat) : Int))] (n + 1 + 1 + 1) (kq0_6 a n g) (g_QQ E Q)
  refine j_putf (c := 0) (kf := 3) (a := a) (v := (2, ((n + 1 + 1 : Nat) : Int))) 14 rfl (by decide) gf_301 (Or.inr ⟨rfl, rfl, rfl⟩) ⟨ha.1, by omega⟩ t6 (g_fitR rfl (n + 1 + 1)) ?_
  have t7 : ((kq0_7 a n g) a).1 = 0 := g_tS t6
  show g_Ev l E (2, 0, 0) m_X0_init 31 [(2, ((a : Nat) : Int))] [] (n + 1 + 1 + 1) (kq0_7 a n g) (g_QQ E Q)
  exact j_ret 15 rfl rfl k
def kq4_1 (a n w q : Nat) (g : Nat → gC) : Nat → gC := g_up g (n) (g_ar 1 30)
def kq4_2 (a n w q : Nat) (g : Nat → gC) : Nat → gC := g_st (kq4_1 a n w q g) a 3 (2, ((n : Nat) : Int))
def kq4_3 (a n w q : Nat) (g : Nat → gC) : Nat → gC := g_up (kq4_2 a n w q g) (n + 1) (g_ar 1 10)
def kq4_4 (a n w q : Nat) (g : Nat → gC) : Nat → gC := g_st (kq4_3 a n w q g) a 4 (2, ((n + 1 : Nat) : Int))
def kq4_5 (a n w q : Nat) (g : Nat → gC) : Nat → gC := g_up (kq4_4 a n w q g) (n + 1 + 1) (g_ar 0 10)
def kq4_6 (a n w q : Nat) (g : Nat → gC) : Nat → gC := g_st (kq4_5 a n w q g) a 5 (2, ((n + 1 + 1 : Nat) : Int))
def kq4_7 (a n w q : Nat) (g : Nat → gC) : Nat → gC := g_up (kq4_6 a n w q g) (n + 1 + 1 + 1) (g_ar 1 10)
def kq4_8 (a n w q : Nat) (g : Nat → gC) : Nat → gC := g_st (kq4_7 a n w q g) a 6 (2, ((n + 1 + 1 + 1 : Nat) : Int))
def kq4_9 (a n w q : Nat) (g : Nat → gC) : Nat → gC := g_up (kq4_8 a n w q g) (n + 1 + 1 + 1 + 1) (g_ar 1 10)
def kq4_10 (a n w q : Nat) (g : Nat → gC) : Nat → gC := g_st (kq4_9 a n w q g) a 7 (2, ((n + 1 + 1 + 1 + 1 : Nat) : Int))
def kq4_11 (a n w q : Nat) (g : Nat → gC) : Nat → gC := g_up (kq4_10 a n w q g) (n + 1 + 1 + 1 + 1 + 1) (g_ar 1 10)
def kq4_12 (a n w q : Nat) (g : Nat → gC) : Nat → gC := g_st (kq4_11 a n w q g) a 8 (2, ((n + 1 + 1 + 1 + 1 + 1 : Nat) : Int))
def kq4_13 (a n w q : Nat) (g : Nat → gC) : Nat → gC := g_up (kq4_12 a n w q g) (n + 1 + 1 + 1 + 1 + 1 + 1) (g_ar 1 10)
def kq4_14 (a n w q : Nat) (g : Nat → gC) : Nat → gC := g_st (kq4_13 a n w q g) a 9 (2, ((n + 1 + 1 + 1 + 1 + 1 + 1 : Nat) : Int))
def kq4_15 (a n w q : Nat) (g : Nat → gC) : Nat → gC := g_up (kq4_14 a n w q g) (n + 1 + 1 + 1 + 1 + 1 + 1 + 1) (g_ar 1 10)
def kq4_16 (a n w q : Nat) (g : Nat → gC) : Nat → gC := g_st (kq4_15 a n w q g) a 10 (2, ((n + 1 + 1 + 1 + 1 + 1 + 1 + 1 : Nat) : Int))
def kq4_17 (a n w q : Nat) (g : Nat → gC) : Nat → gC := g_st (kq4_16 a n w q g) a 11 (1, 1)
def kq4_18 (a n w q : Nat) (g : Nat → gC) : Nat → gC := g_st (kq4_17 a n w q g) a 0 (2, ((w : Nat) : Int))
def kq4_19 (a n w q : Nat) (g : Nat → gC) : Nat → gC := g_st (kq4_18 a n w q g) a 1 (2, ((q : Nat) : Int))
theorem c_X4 {l : Launch} {E : xE} {a n w q : Nat} {g : Nat → gC} {Q : Nat → (Nat → gC) → Prop} (ha : 5 ≤ a ∧ a < n) (hg : (g a).1 = 4) (k : Q (n + 1 + 1 + 1 + 1 + 1 + 1 + 1 + 1) (kq4_19 a n w q g)) : g_Ev l E (1, 8, 100) m_X4_init 0 [(2, ((a : Nat) : Int)), (2, ((w : Nat) : Int)), (2, ((q : Nat) : Int))] [] n g (g_QQ E Q) := by
  refine j_aload 0 rfl rfl ?_
  refine j_obj (a := a) 1 rfl gw_317 (Nat.le_of_ble_eq_true rfl) ?_
  show g_Ev l E (1, 8, 100) m_X4_init 4 [(2, ((a : Nat) : Int)), (2, ((w : Nat) : Int)), (2, ((q : Nat) : Int))] [] (n) g (g_QQ E Q)
  refine j_aload 2 rfl rfl ?_
  refine j_bipush 3 rfl (by decide +kernel) ?_
  refine j_newa (t := 1) (N := 30) (z2 := (1, 7, 70)) 4 rfl (Or.inr ⟨rfl, rfl⟩) (Nat.le_of_ble_eq_true rfl) ⟨rfl, rfl, rfl⟩ ?_
  have t1 : ((kq4_1 a n w q g) a).1 = 4 := g_tU hg (by omega)
  show g_Ev l E (1, 7, 70) m_X4_init 9 [(2, ((a : Nat) : Int)), (2, ((w : Nat) : Int)), (2, ((q : Nat) : Int))] [(2, ((n : Nat) : Int)), (2, ((a : Nat) : Int))] (n + 1) (kq4_1 a n w q g) (g_QQ E Q)
  refine j_putf (c := 4) (kf := 3) (a := a) (v := (2, ((n : Nat) : Int))) 5 rfl (by decide) gf_322 (Or.inr ⟨rfl, rfl, rfl⟩) ⟨ha.1, by omega⟩ t1 (g_fitR rfl (n)) ?_
  have t2 : ((kq4_2 a n w q g) a).1 = 4 := g_tS t1
  show g_Ev l E (1, 7, 70) m_X4_init 12 [(2, ((a : Nat) : Int)), (2, ((w : Nat) : Int)), (2, ((q : Nat) : Int))] [] (n + 1) (kq4_2 a n w q g) (g_QQ E Q)
  refine j_aload 6 rfl rfl ?_
  refine j_bipush 7 rfl (by decide +kernel) ?_
  refine j_newa (t := 1) (N := 10) (z2 := (1, 6, 60)) 8 rfl (Or.inr ⟨rfl, rfl⟩) (Nat.le_of_ble_eq_true rfl) ⟨rfl, rfl, rfl⟩ ?_
  have t3 : ((kq4_3 a n w q g) a).1 = 4 := g_tU t2 (by omega)
  show g_Ev l E (1, 6, 60) m_X4_init 17 [(2, ((a : Nat) : Int)), (2, ((w : Nat) : Int)), (2, ((q : Nat) : Int))] [(2, ((n + 1 : Nat) : Int)), (2, ((a : Nat) : Int))] (n + 1 + 1) (kq4_3 a n w q g) (g_QQ E Q)
  refine j_putf (c := 4) (kf := 4) (a := a) (v := (2, ((n + 1 : Nat) : Int))) 9 rfl (by decide) gf_324 (Or.inr ⟨rfl, rfl, rfl⟩) ⟨ha.1, by omega⟩ t3 (g_fitR rfl (n + 1)) ?_
  have t4 : ((kq4_4 a n w q g) a).1 = 4 := g_tS t3
  show g_Ev l E (1, 6, 60) m_X4_init 20 [(2, ((a : Nat) : Int)), (2, ((w : Nat) : Int)), (2, ((q : Nat) : Int))] [] (n + 1 + 1) (kq4_4 a n w q g) (g_QQ E Q)
  refine j_aload 10 rfl rfl ?_
  refine j_bipush 11 rfl (by decide +kernel) ?_
  refine j_newa (t := 0) (N := 10) (z2 := (1, 5, 50)) 12 rfl (Or.inl ⟨rfl, rfl⟩) (Nat.le_of_ble_eq_true rfl) ⟨rfl, rfl, rfl⟩ ?_
  have t5 : ((kq4_5 a n w q g) a).1 = 4 := g_tU t4 (by omega)
  show g_Ev l E (1, 5, 50) m_X4_init 25 [(2, ((a : Nat) : Int)), (2, ((w : Nat) : Int)), (2, ((q : Nat) : Int))] [(2, ((n + 1 + 1 : Nat) : Int)), (2, ((a : Nat) : Int))] (n + 1 + 1 + 1) (kq4_5 a n w q g) (g_QQ E Q)
  refine j_putf (c := 4) (kf := 5) (a := a) (v := (2, ((n + 1 + 1 : Nat) : Int))) 13 rfl (by decide) gf_327 (Or.inr ⟨rfl, rfl, rfl⟩) ⟨ha.1, by omega⟩ t5 (g_fitR rfl (n + 1 + 1)) ?_
  have t6 : ((kq4_6 a n w q g) a).1 = 4 := g_tS t5
  show g_Ev l E (1, 5, 50) m_X4_init 28 [(2, ((a : Nat) : Int)), (2, ((w : Nat) : Int)), (2, ((q : Nat) : Int))] [] (n + 1 + 1 + 1) (kq4_6 a n w q g) (g_QQ E Q)
  refine j_aload 14 rfl rfl ?_
  refine j_bipush 15 rfl (by decide +kernel) ?_
  refine j_newa (t := 1) (N := 10) (z2 := (1, 4, 40)) 16 rfl (Or.inr ⟨rfl, rfl⟩) (Nat.le_of_ble_eq_true rfl) ⟨rfl, rfl, rfl⟩ ?_
  have t7 : ((kq4_7 a n w q g) a).1 = 4 := g_tU t6 (by omega)
  show g_Ev l E (1, 4, 40) m_X4_init 33 [(2, ((a : Nat) : Int)), (2, ((w : Nat) : Int)), (2, ((q : Nat) : Int))] [(2, ((n + 1 + 1 + 1 : Nat) : Int)), (2, ((a : Nat) : Int))] (n + 1 + 1 + 1 + 1) (kq4_7 a n w q g) (g_QQ E Q)
  refine j_putf (c := 4) (kf := 6) (a := a) (v := (2, ((n + 1 + 1 + 1 : Nat) : Int))) 17 rfl (by decide) gf_329 (Or.inr ⟨rfl, rfl, rfl⟩) ⟨ha.1, by omega⟩ t7 (g_fitR rfl (n + 1 + 1 + 1)) ?_
  have t8 : ((kq4_8 a n w q g) a).1 = 4 := g_tS t7
  show g_Ev l E (1, 4, 40) m_X4_init 36 [(2, ((a : Nat) : Int)), (2, ((w : Nat) : Int)), (2, ((q : Nat) : Int))] [] (n + 1 + 1 + 1 + 1) (kq4_8 a n w q g) (g_QQ E Q)
  refine j_aload 18 rfl rfl ?_
  refine j_bipush 19 rfl (by decide +kernel) ?_
  refine j_newa (t := 1) (N := 10) (z2 := (1, 3, 30)) 20 rfl (Or.inr ⟨rfl, rfl⟩) (Nat.le_of_ble_eq_true rfl) ⟨rfl, rfl, rfl⟩ ?_
  have t9 : ((kq4_9 a n w q g) a).1 = 4 := g_tU t8 (by omega)
  show g_Ev l E (1, 3, 30) m_X4_init 41 [(2, ((a : Nat) : Int)), (2, ((w : Nat) : Int)), (2, ((q : Nat) : Int))] [(2, ((n + 1 + 1 + 1 + 1 : Nat) : Int)), (2, ((a : Nat) : Int))] (n + 1 + 1 + 1 + 1 + 1) (kq4_9 a n w q g) (g_QQ E Q)
  refine j_putf (c := 4) (kf := 7) (a := a) (v := (2, ((n + 1 + 1 + 1 + 1 : Nat) : Int))) 21 rfl (by decide) gf_330 (Or.inr ⟨rfl, rfl, rfl⟩) ⟨ha.1, by omega⟩ t9 (g_fitR rfl (n + 1 + 1 + 1 + 1)) ?_
  have t10 : ((kq4_10 a n w q g) a).1 = 4 := g_tS t9
  show g_Ev l E (1, 3, 30) m_X4_init 44 [(2, ((a : Nat) : Int)), (2, ((w : Nat) : Int)), (2, ((q : Nat) : Int))] [] (n + 1 + 1 + 1 + 1 + 1) (kq4_10 a n w q g) (g_QQ E Q)
  refine j_aload 22 rfl rfl ?_
  refine j_bipush 23 rfl (by decide +kernel) ?_
  refine j_newa (t := 1) (N := 10) (z2 := (1, 2, 20)) 24 rfl (Or.inr ⟨rfl, rfl⟩) (Nat.le_of_ble_eq_true rfl) ⟨rfl, rfl, rfl⟩ ?_
  have t11 : ((kq4_11 a n w q g) a).1 = 4 := g_tU t10 (by omega)
  show g_Ev l E (1, 2, 20) m_X4_init 49 [(2, ((a : Nat) : Int)), (2, ((w : Nat) : Int)), (2, ((q : Nat) : Int))] [(2, ((n + 1 + 1 + 1 + 1 + 1 : Nat) : Int)), (2, ((a : Nat) : Int))] (n + 1 + 1 + 1 + 1 + 1 + 1) (kq4_11 a n w q g) (g_QQ E Q)
  refine j_putf (c := 4) (kf := 8) (a := a) (v := (2, ((n + 1 + 1 + 1 + 1 + 1 : Nat) : Int))) 25 rfl (by decide) gf_332 (Or.inr ⟨rfl, rfl, rfl⟩) ⟨ha.1, by omega⟩ t11 (g_fitR rfl (n + 1 + 1 + 1 + 1 + 1)) ?_
  have t12 : ((kq4_12 a n w q g) a).1 = 4 := g_tS t11
  show g_Ev l E (1, 2, 20) m_X4_init 52 [(2, ((a : Nat) : Int)), (2, ((w : Nat) : Int)), (2, ((q : Nat) : Int))] [] (n + 1 + 1 + 1 + 1 + 1 + 1) (kq4_12 a n w q g) (g_QQ E Q)
  refine j_aload 26 rfl rfl ?_
  refine j_bipush 27 rfl (by decide +kernel) ?_
  refine j_newa (t := 1) (N := 10) (z2 := (1, 1, 10)) 28 rfl (Or.inr ⟨rfl, rfl⟩) (Nat.le_of_ble_eq_true rfl) ⟨rfl, rfl, rfl⟩ ?_
  have t13 : ((kq4_13 a n w q g) a).1 = 4 := g_tU t12 (by omega)
  show g_Ev l E (1, 1, 10) m_X4_init 57 [(2, ((a : Nat) : Int)), (2, ((w : Nat) : Int)), (2, ((q : Nat) : Int))] [(2, ((n + 1 + 1 + 1 + 1 + 1 + 1 : Nat) : Int)), (2, ((a : Nat) : Int))] (n + 1 + 1 + 1 + 1 + 1 + 1 + 1) (kq4_13 a n w q g) (g_QQ E Q)
  refine j_putf (c := 4) (kf := 9) (a := a) (v := (2, ((n + 1 + 1 + 1 + 1 + 1 + 1 : Nat) : Int))) 29 rfl (by decide) gf_333 (Or.inr ⟨rfl, rfl, rfl⟩) ⟨ha.1, by omega⟩ t13 (g_fitR rfl (n + 1 + 1 + 1 + 1 + 1 + 1)) ?_
  have t14 : ((kq4_14 a n w q g) a).1 = 4 := g_tS t13
  show g_Ev l E (1, 1, 10) m_X4_init 60 [(2, ((a : Nat) : Int)), (2, ((w : Nat) : Int)), (2, ((q : Nat) : Int))] [] (n + 1 + 1 + 1 + 1 + 1 + 1 + 1) (kq4_14 a n w q g) (g_QQ E Q)
  refine j_aload 30 rfl rfl ?_
  refine j_bipush 31 rfl (by decide +kernel) ?_
  refine j_newa (t := 1) (N := 10) (z2 := (1, 0, 0)) 32 rfl (Or.inr ⟨rfl, rfl⟩) (Nat.le_of_ble_eq_true rfl) ⟨rfl, rfl, rfl⟩ ?_
  have t15 : ((kq4_15 a n w q g) a).1 = 4 := g_tU t14 (by omega)
  show g_Ev l E (1, 0, 0) m_X4_init 65 [(2, ((a : Nat) : Int)), (2, ((w : Nat) : Int)), (2, ((q : Nat) : Int))] [(2, ((n + 1 + 1 + 1 + 1 + 1 + 1 + 1 : Nat) : Int)), (2, ((a : Nat) : Int))] (n + 1 + 1 + 1 + 1 + 1 + 1 + 1 + 1) (kq4_15 a n w q g) (g_QQ E Q)
  refine j_putf (c := 4) (kf := 10) (a := a) (v := (2, ((n + 1 + 1 + 1 + 1 + 1 + 1 + 1 : Nat) : Int))) 33 rfl (by decide) gf_335 (Or.inr ⟨rfl, rfl, rfl⟩) ⟨ha.1, by omega⟩ t15 (g_fitR rfl (n + 1 + 1 + 1 + 1 + 1 + 1 + 1)) ?_
  have t16 : ((kq4_16 a n w q g) a).1 = 4 := g_tS t15
  show g_Ev l E (1, 0, 0) m_X4_init 68 [(2, ((a : Nat) : Int)), (2, ((w : Nat) : Int)), (2, ((q : Nat) : Int))] [] (n + 1 + 1 + 1 + 1 + 1 + 1 + 1 + 1) (kq4_16 a n w q g) (g_QQ E Q)
  refine j_aload 34 rfl rfl ?_
  refine j_lconst 1 35 rfl (by decide +kernel) ?_
  refine j_putf (c := 4) (kf := 11) (a := a) (v := (1, 1)) 36 rfl (by decide) gf_338 (Or.inl rfl) ⟨ha.1, by omega⟩ t16 (fun _ => ⟨rfl, rfl⟩) ?_
  have t17 : ((kq4_17 a n w q g) a).1 = 4 := g_tS t16
  show g_Ev l E (1, 0, 0) m_X4_init 73 [(2, ((a : Nat) : Int)), (2, ((w : Nat) : Int)), (2, ((q : Nat) : Int))] [] (n + 1 + 1 + 1 + 1 + 1 + 1 + 1 + 1) (kq4_17 a n w q g) (g_QQ E Q)
  refine j_aload 37 rfl rfl ?_
  refine j_aload 38 rfl rfl ?_
  refine j_putf (c := 4) (kf := 0) (a := a) (v := (2, ((w : Nat) : Int))) 39 rfl (by decide) gf_318 (Or.inr ⟨rfl, rfl, rfl⟩) ⟨ha.1, by omega⟩ t17 (g_fitR rfl (w)) ?_
  have t18 : ((kq4_18 a n w q g) a).1 = 4 := g_tS t17
  show g_Ev l E (1, 0, 0) m_X4_init 78 [(2, ((a : Nat) : Int)), (2, ((w : Nat) : Int)), (2, ((q : Nat) : Int))] [] (n + 1 + 1 + 1 + 1 + 1 + 1 + 1 + 1) (kq4_18 a n w q g) (g_QQ E Q)
  refine j_aload 40 rfl rfl ?_
  refine j_aload 41 rfl rfl ?_
  refine j_putf (c := 4) (kf := 1) (a := a) (v := (2, ((q : Nat) : Int))) 42 rfl (by decide) gf_319 (Or.inr ⟨rfl, rfl, rfl⟩) ⟨ha.1, by omega⟩ t18 (g_fitR rfl (q)) ?_
  have t19 : ((kq4_19 a n w q g) a).1 = 4 := g_tS t18
  show g_Ev l E (1, 0, 0) m_X4_init 83 [(2, ((a : Nat) : Int)), (2, ((w : Nat) : Int)), (2, ((q : Nat) : Int))] [] (n + 1 + 1 + 1 + 1 + 1 + 1 + 1 + 1) (kq4_19 a n w q g) (g_QQ E Q)
  exact j_ret 43 rfl rfl k
def kq5_1 (a n q : Nat) (g : Nat → gC) : Nat → gC := g_st g a 4 (1, 1)
def kq5_2 (a n q : Nat) (g : Nat → gC) : Nat → gC := g_up (kq5_1 a n q g) (n) (g_ar 1 140)
def kq5_3 (a n q : Nat) (g : Nat → gC) : Nat → gC := g_st (kq5_2 a n q g) a 5 (2, ((n : Nat) : Int))
def kq5_4 (a n q : Nat) (g : Nat → gC) : Nat → gC := g_up (kq5_3 a n q g) (n + 1) (g_ar 1 35)
def kq5_5 (a n q : Nat) (g : Nat → gC) : Nat → gC := g_st (kq5_4 a n q g) a 6 (2, ((n + 1 : Nat) : Int))
def kq5_6 (a n q : Nat) (g : Nat → gC) : Nat → gC := g_up (kq5_5 a n q g) (n + 1 + 1) (g_ar 0 35)
def kq5_7 (a n q : Nat) (g : Nat → gC) : Nat → gC := g_st (kq5_6 a n q g) a 7 (2, ((n + 1 + 1 : Nat) : Int))
def kq5_8 (a n q : Nat) (g : Nat → gC) : Nat → gC := g_up (kq5_7 a n q g) (n + 1 + 1 + 1) (g_ar 1 35)
def kq5_9 (a n q : Nat) (g : Nat → gC) : Nat → gC := g_st (kq5_8 a n q g) a 8 (2, ((n + 1 + 1 + 1 : Nat) : Int))
def kq5_10 (a n q : Nat) (g : Nat → gC) : Nat → gC := g_st (kq5_9 a n q g) a 0 (2, ((q : Nat) : Int))
theorem c_X5 {l : Launch} {E : xE} {a n q : Nat} {g : Nat → gC} {Q : Nat → (Nat → gC) → Prop} (ha : 5 ≤ a ∧ a < n) (hg : (g a).1 = 5) (k : Q (n + 1 + 1 + 1 + 1) (kq5_10 a n q g)) : g_Ev l E (1, 4, 245) m_X5_init 0 [(2, ((a : Nat) : Int)), (2, ((q : Nat) : Int))] [] n g (g_QQ E Q) := by
  refine j_aload 0 rfl rfl ?_
  refine j_obj (a := a) 1 rfl gw_403 (Nat.le_of_ble_eq_true rfl) ?_
  show g_Ev l E (1, 4, 245) m_X5_init 4 [(2, ((a : Nat) : Int)), (2, ((q : Nat) : Int))] [] (n) g (g_QQ E Q)
  refine j_aload 2 rfl rfl ?_
  refine j_lconst 1 3 rfl (by decide +kernel) ?_
  refine j_putf (c := 5) (kf := 4) (a := a) (v := (1, 1)) 4 rfl (by decide) gf_410 (Or.inl rfl) ⟨ha.1, by omega⟩ hg (fun _ => ⟨rfl, rfl⟩) ?_
  have t1 : ((kq5_1 a n q g) a).1 = 5 := g_tS hg
  show g_Ev l E (1, 4, 245) m_X5_init 9 [(2, ((a : Nat) : Int)), (2, ((q : Nat) : Int))] [] (n) (kq5_1 a n q g) (g_QQ E Q)
  refine j_aload 5 rfl rfl ?_
  refine j_sipush 6 rfl (by decide +kernel) ?_
  refine j_newa (t := 1) (N := 140) (z2 := (1, 3, 105)) 7 rfl (Or.inr ⟨rfl, rfl⟩) (Nat.le_of_ble_eq_true rfl) ⟨rfl, rfl, rfl⟩ ?_
  have t2 : ((kq5_2 a n q g) a).1 = 5 := g_tU t1 (by omega)
  show g_Ev l E (1, 3, 105) m_X5_init 15 [(2, ((a : Nat) : Int)), (2, ((q : Nat) : Int))] [(2, ((n : Nat) : Int)), (2, ((a : Nat) : Int))] (n + 1) (kq5_2 a n q g) (g_QQ E Q)
  refine j_putf (c := 5) (kf := 5) (a := a) (v := (2, ((n : Nat) : Int))) 8 rfl (by decide) gf_411 (Or.inr ⟨rfl, rfl, rfl⟩) ⟨ha.1, by omega⟩ t2 (g_fitR rfl (n)) ?_
  have t3 : ((kq5_3 a n q g) a).1 = 5 := g_tS t2
  show g_Ev l E (1, 3, 105) m_X5_init 18 [(2, ((a : Nat) : Int)), (2, ((q : Nat) : Int))] [] (n + 1) (kq5_3 a n q g) (g_QQ E Q)
  refine j_aload 9 rfl rfl ?_
  refine j_bipush 10 rfl (by decide +kernel) ?_
  refine j_newa (t := 1) (N := 35) (z2 := (1, 2, 70)) 11 rfl (Or.inr ⟨rfl, rfl⟩) (Nat.le_of_ble_eq_true rfl) ⟨rfl, rfl, rfl⟩ ?_
  have t4 : ((kq5_4 a n q g) a).1 = 5 := g_tU t3 (by omega)
  show g_Ev l E (1, 2, 70) m_X5_init 23 [(2, ((a : Nat) : Int)), (2, ((q : Nat) : Int))] [(2, ((n + 1 : Nat) : Int)), (2, ((a : Nat) : Int))] (n + 1 + 1) (kq5_4 a n q g) (g_QQ E Q)
  refine j_putf (c := 5) (kf := 6) (a := a) (v := (2, ((n + 1 : Nat) : Int))) 12 rfl (by decide) gf_412 (Or.inr ⟨rfl, rfl, rfl⟩) ⟨ha.1, by omega⟩ t4 (g_fitR rfl (n + 1)) ?_
  have t5 : ((kq5_5 a n q g) a).1 = 5 := g_tS t4
  show g_Ev l E (1, 2, 70) m_X5_init 26 [(2, ((a : Nat) : Int)), (2, ((q : Nat) : Int))] [] (n + 1 + 1) (kq5_5 a n q g) (g_QQ E Q)
  refine j_aload 13 rfl rfl ?_
  refine j_bipush 14 rfl (by decide +kernel) ?_
  refine j_newa (t := 0) (N := 35) (z2 := (1, 1, 35)) 15 rfl (Or.inl ⟨rfl, rfl⟩) (Nat.le_of_ble_eq_true rfl) ⟨rfl, rfl, rfl⟩ ?_
  have t6 : ((kq5_6 a n q g) a).1 = 5 := g_tU t5 (by omega)
  show g_Ev l E (1, 1, 35) m_X5_init 31 [(2, ((a : Nat) : Int)), (2, ((q : Nat) : Int))] [(2, ((n + 1 + 1 : Nat) : Int)), (2, ((a : Nat) : Int))] (n + 1 + 1 + 1) (kq5_6 a n q g) (g_QQ E Q)
  refine j_putf (c := 5) (kf := 7) (a := a) (v := (2, ((n + 1 + 1 : Nat) : Int))) 16 rfl (by decide) gf_413 (Or.inr ⟨rfl, rfl, rfl⟩) ⟨ha.1, by omega⟩ t6 (g_fitR rfl (n + 1 + 1)) ?_
  have t7 : ((kq5_7 a n q g) a).1 = 5 := g_tS t6
  show g_Ev l E (1, 1, 35) m_X5_init 34 [(2, ((a : Nat) : Int)), (2, ((q : Nat) : Int))] [] (n + 1 + 1 + 1) (kq5_7 a n q g) (g_QQ E Q)
  refine j_aload 17 rfl rfl ?_
  refine j_bipush 18 rfl (by decide +kernel) ?_
  refine j_newa (t := 1) (N := 35) (z2 := (1, 0, 0)) 19 rfl (Or.inr ⟨rfl, rfl⟩) (Nat.le_of_ble_eq_true rfl) ⟨rfl, rfl, rfl⟩ ?_
  have t8 : ((kq5_8 a n q g) a).1 = 5 := g_tU t7 (by omega)
  show g_Ev l E (1, 0, 0) m_X5_init 39 [(2, ((a : Nat) : Int)), (2, ((q : Nat) : Int))] [(2, ((n + 1 + 1 + 1 : Nat) : Int)), (2, ((a : Nat) : Int))] (n + 1 + 1 + 1 + 1) (kq5_8 a n q g) (g_QQ E Q)
  refine j_putf (c := 5) (kf := 8) (a := a) (v := (2, ((n + 1 + 1 + 1 : Nat) : Int))) 20 rfl (by decide) gf_415 (Or.inr ⟨rfl, rfl, rfl⟩) ⟨ha.1, by omega⟩ t8 (g_fitR rfl (n + 1 + 1 + 1)) ?_
  have t9 : ((kq5_9 a n q g) a).1 = 5 := g_tS t8
  show g_Ev l E (1, 0, 0) m_X5_init 42 [(2, ((a : Nat) : Int)), (2, ((q : Nat) : Int))] [] (n + 1 + 1 + 1 + 1) (kq5_9 a n q g) (g_QQ E Q)
  refine j_aload 21 rfl rfl ?_
  refine j_aload 22 rfl rfl ?_
  refine j_putf (c := 5) (kf := 0) (a := a) (v := (2, ((q : Nat) : Int))) 23 rfl (by decide) gf_404 (Or.inr ⟨rfl, rfl, rfl⟩) ⟨ha.1, by omega⟩ t9 (g_fitR rfl (q)) ?_
  have t10 : ((kq5_10 a n q g) a).1 = 5 := g_tS t9
  show g_Ev l E (1, 0, 0) m_X5_init 47 [(2, ((a : Nat) : Int)), (2, ((q : Nat) : Int))] [] (n + 1 + 1 + 1 + 1) (kq5_10 a n q g) (g_QQ E Q)
  exact j_ret 24 rfl rfl k
theorem c_X7 {l : Launch} {E : xE} {a n : Nat} {g : Nat → gC} {Q : Nat → (Nat → gC) → Prop} (ha : 5 ≤ a ∧ a < n) (hg : (g a).1 = 7) (k : Q n g) : g_Ev l E (1, 0, 0) m_X7_init 0 [(2, ((a : Nat) : Int))] [] n g (g_QQ E Q) := by
  refine j_aload 0 rfl rfl ?_
  refine j_obj (a := a) 1 rfl gw_447 (Nat.le_of_ble_eq_true rfl) ?_
  show g_Ev l E (1, 0, 0) m_X7_init 4 [(2, ((a : Nat) : Int))] [] (n) g (g_QQ E Q)
  exact j_ret 2 rfl rfl k
