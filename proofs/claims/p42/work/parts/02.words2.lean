theorem tw_205 : Cond.constantFloat RL 70 (3212836864) ∈ TB := tb_3 (i := 182) (by decide +kernel) rfl
theorem tw_259 : Cond.methodLink RL 58 yX10_tags ∈ TB := tb_3 (i := 134) (by decide +kernel) rfl
theorem tw_260 : Cond.instanceMethod yX10_tags ∈ TB := tb_3 (i := 135) (by decide +kernel) rfl
theorem tw_261 : Cond.selects RX10 yX10_tags yX10_tags ∈ TB := tb_3 (i := 136) (by decide +kernel) rfl
theorem tw_262 : Cond.code yX10_tags cX10_tags 1 (some .int) ∈ TB := tb_3 (i := 137) (by decide +kernel) rfl
theorem tw_263 : Cond.methodLink RX10 128 yX8_tagMask ∈ TB := tb_3 (i := 138) (by decide +kernel) rfl
theorem tw_264 : Cond.instanceMethod yX8_tagMask ∈ TB := tb_3 (i := 139) (by decide +kernel) rfl
theorem tw_265 : Cond.selects RX8 yX8_tagMask yX8_tagMask ∈ TB := tb_3 (i := 140) (by decide +kernel) rfl
theorem tw_266 : Cond.code yX8_tagMask cX8_tagMask 1 (some .int) ∈ TB := tb_3 (i := 141) (by decide +kernel) rfl
theorem tw_268 : Cond.methodLink RL 61 yX10_terms ∈ TB := tb_3 (i := 142) (by decide +kernel) rfl
theorem tw_269 : Cond.instanceMethod yX10_terms ∈ TB := tb_3 (i := 143) (by decide +kernel) rfl
theorem tw_270 : Cond.selects RX10 yX10_terms yX10_terms ∈ TB := tb_3 (i := 144) (by decide +kernel) rfl
theorem tw_271 : Cond.code yX10_terms cX10_terms 4 (some .int) ∈ TB := tb_3 (i := 145) (by decide +kernel) rfl
theorem tw_282 : Cond.methodLink RX10 229 yX10_isForm ∈ TB := tb_3 (i := 146) (by decide +kernel) rfl
theorem tw_283 : Cond.static yX10_isForm ∈ TB := tb_3 (i := 147) (by decide +kernel) rfl
theorem tw_284 : Cond.code yX10_isForm cX10_isForm 1 (some .boolean) ∈ TB := tb_3 (i := 148) (by decide +kernel) rfl
theorem tw_285 : Cond.methodLink RX10 232 yX5_setToForm ∈ TB := tb_3 (i := 149) (by decide +kernel) rfl
theorem tw_286 : Cond.instanceMethod yX5_setToForm ∈ TB := tb_3 (i := 150) (by decide +kernel) rfl
theorem tw_287 : Cond.selects RX5 yX5_setToForm yX5_setToForm ∈ TB := tb_3 (i := 151) (by decide +kernel) rfl
theorem tw_289 : Cond.code yX5_setToForm cX5_setToForm 6 none ∈ TB := tb_3 (i := 152) (by decide +kernel) rfl
theorem tw_308 : Cond.methodLink RX5 54 yX4_withoutPowers ∈ TB := tb_3 (i := 153) (by decide +kernel) rfl
theorem tw_309 : Cond.static yX4_withoutPowers ∈ TB := tb_3 (i := 154) (by decide +kernel) rfl
theorem tw_311 : Cond.code yX4_withoutPowers cX4_withoutPowers 2 (some .long) ∈ TB := tb_3 (i := 155) (by decide +kernel) rfl
theorem tw_312 : Cond.constantLong RX4 11 (1229782938247303441) ∈ TB := tb_3 (i := 156) (by decide +kernel) rfl
theorem tw_323 : Cond.methodLink RX5 58 yX5_dropContaining ∈ TB := tb_3 (i := 157) (by decide +kernel) rfl
theorem tw_324 : Cond.instanceMethod yX5_dropContaining ∈ TB := tb_3 (i := 159) (by decide +kernel) rfl
theorem tw_325 : Cond.selects RX5 yX5_dropContaining yX5_dropContaining ∈ TB := tb_p (q := (yX5_dropContaining, 3)) (List.mem_of_getElem? (i := 22) (by decide +kernel))
theorem tw_326 : Cond.code yX5_dropContaining cX5_dropContaining 4 none ∈ TB := tb_3 (i := 160) (by decide +kernel) rfl
theorem tw_327 : Cond.methodLink RX5 64 yX5_containsAnother ∈ TB := tb_3 (i := 161) (by decide +kernel) rfl
theorem tw_328 : Cond.instanceMethod yX5_containsAnother ∈ TB := tb_3 (i := 163) (by decide +kernel) rfl
theorem tw_329 : Cond.selects RX5 yX5_containsAnother yX5_containsAnother ∈ TB := tb_p (q := (yX5_containsAnother, 3)) (List.mem_of_getElem? (i := 23) (by decide +kernel))
theorem tw_330 : Cond.code yX5_containsAnother cX5_containsAnother 7 (some .boolean) ∈ TB := tb_3 (i := 164) (by decide +kernel) rfl
theorem tw_331 : Cond.methodLink RX5 61 yX5_setFactorsToOne ∈ TB := tb_3 (i := 165) (by decide +kernel) rfl
theorem tw_332 : Cond.instanceMethod yX5_setFactorsToOne ∈ TB := tb_3 (i := 167) (by decide +kernel) rfl
theorem tw_333 : Cond.selects RX5 yX5_setFactorsToOne yX5_setFactorsToOne ∈ TB := tb_p (q := (yX5_setFactorsToOne, 3)) (List.mem_of_getElem? (i := 24) (by decide +kernel))
theorem tw_334 : Cond.code yX5_setFactorsToOne cX5_setFactorsToOne 2 none ∈ TB := tb_3 (i := 168) (by decide +kernel) rfl
theorem tw_350 : Cond.methodLink RL 66 yX10_confidence ∈ TB := tb_3 (i := 169) (by decide +kernel) rfl
theorem tw_351 : Cond.instanceMethod yX10_confidence ∈ TB := tb_3 (i := 170) (by decide +kernel) rfl
theorem tw_352 : Cond.selects RX10 yX10_confidence yX10_confidence ∈ TB := tb_3 (i := 171) (by decide +kernel) rfl
theorem tw_353 : Cond.code yX10_confidence cX10_confidence 5 (some .float) ∈ TB := tb_3 (i := 172) (by decide +kernel) rfl
theorem tw_354 : Cond.constantFloat RX10 281 (3212836864) ∈ TB := tb_3 (i := 173) (by decide +kernel) rfl
theorem tw_367 : Cond.methodLink RX10 248 yX5_monomialAt ∈ TB := tb_3 (i := 174) (by decide +kernel) rfl
theorem tw_368 : Cond.methodLink RX10 282 yX8_confidenceOfTerm ∈ TB := tb_3 (i := 175) (by decide +kernel) rfl
theorem tw_369 : Cond.instanceMethod yX8_confidenceOfTerm ∈ TB := tb_3 (i := 176) (by decide +kernel) rfl
theorem tw_370 : Cond.selects RX8 yX8_confidenceOfTerm yX8_confidenceOfTerm ∈ TB := tb_3 (i := 177) (by decide +kernel) rfl
theorem tw_371 : Cond.code yX8_confidenceOfTerm cX8_confidenceOfTerm 7 (some .float) ∈ TB := tb_3 (i := 178) (by decide +kernel) rfl
theorem tw_372 : Cond.constantFloat RX8 81 (1120403456) ∈ TB := tb_3 (i := 180) (by decide +kernel) rfl
theorem tw_373 : Cond.methodLink RX8 72 yX8_trustOf ∈ TB := tb_3 (i := 179) (by decide +kernel) rfl
theorem tw_382 : Cond.methodLink RX8 62 yX4_power ∈ TB := tb_3 (i := 181) (by decide +kernel) rfl
theorem tw_407 : Cond.methodLink RL 71 yL_low ∈ TB := tb_2 (i := 239) (by decide +kernel) rfl
theorem tw_408 : Cond.static yL_low ∈ TB := tb_3 (i := 0) (by decide +kernel) rfl
theorem tw_409 : Cond.initialized RL ∈ TB := tb_1 (i := 0) (by decide +kernel) rfl
theorem tw_410 : Cond.code yL_low cL_low 2 (some .int) ∈ TB := tb_3 (i := 1) (by rfl) rfl
theorem tw_411 : Cond.constant RL 8 (2147483647) ∈ TB := tb_3 (i := 2) (by decide +kernel) rfl
theorem tw_412 : Cond.methodLink RL 74 yX10_exponent ∈ TB := tb_3 (i := 183) (by decide +kernel) rfl
theorem tw_413 : Cond.instanceMethod yX10_exponent ∈ TB := tb_3 (i := 184) (by decide +kernel) rfl
theorem tw_414 : Cond.selects RX10 yX10_exponent yX10_exponent ∈ TB := tb_3 (i := 185) (by decide +kernel) rfl
theorem tw_415 : Cond.code yX10_exponent cX10_exponent 6 (some .int) ∈ TB := tb_3 (i := 186) (by decide +kernel) rfl
theorem tw_416 : Cond.methodLink RX10 241 yX5_hasTerm ∈ TB := tb_3 (i := 187) (by decide +kernel) rfl
theorem tw_417 : Cond.methodLink RX10 251 yX4_power ∈ TB := tb_3 (i := 188) (by decide +kernel) rfl
theorem tw_418 : Cond.methodLink RL 78 yX10_coefficient ∈ TB := tb_3 (i := 189) (by decide +kernel) rfl
theorem tw_419 : Cond.instanceMethod yX10_coefficient ∈ TB := tb_3 (i := 190) (by decide +kernel) rfl
theorem tw_420 : Cond.selects RX10 yX10_coefficient yX10_coefficient ∈ TB := tb_3 (i := 191) (by decide +kernel) rfl
theorem tw_421 : Cond.code yX10_coefficient cX10_coefficient 5 (some .long) ∈ TB := tb_3 (i := 192) (by decide +kernel) rfl
theorem tw_423 : Cond.constantLong RX10 239 (-2) ∈ TB := tb_3 (i := 193) (by decide +kernel) rfl
theorem tw_429 : Cond.methodLink RL 82 yX10_leastCost ∈ TB := tb_3 (i := 194) (by decide +kernel) rfl
theorem tw_430 : Cond.instanceMethod yX10_leastCost ∈ TB := tb_3 (i := 195) (by decide +kernel) rfl
theorem tw_431 : Cond.selects RX10 yX10_leastCost yX10_leastCost ∈ TB := tb_3 (i := 196) (by decide +kernel) rfl
theorem tw_432 : Cond.code yX10_leastCost cX10_leastCost 2 (some .int) ∈ TB := tb_3 (i := 197) (by decide +kernel) rfl
theorem tw_433 : Cond.methodLink RX10 263 yX10_cheapestShown ∈ TB := tb_3 (i := 198) (by decide +kernel) rfl
theorem tw_434 : Cond.instanceMethod yX10_cheapestShown ∈ TB := tb_3 (i := 200) (by decide +kernel) rfl
theorem tw_435 : Cond.selects RX10 yX10_cheapestShown yX10_cheapestShown ∈ TB := tb_p (q := (yX10_cheapestShown, 10)) (List.mem_of_getElem? (i := 25) (by decide +kernel))
theorem tw_436 : Cond.code yX10_cheapestShown cX10_cheapestShown 5 (some .int) ∈ TB := tb_3 (i := 201) (by decide +kernel) rfl
theorem tw_437 : Cond.methodLink RX10 266 yX8_costOfTerm ∈ TB := tb_3 (i := 202) (by decide +kernel) rfl
theorem tw_438 : Cond.instanceMethod yX8_costOfTerm ∈ TB := tb_3 (i := 203) (by decide +kernel) rfl
theorem tw_439 : Cond.selects RX8 yX8_costOfTerm yX8_costOfTerm ∈ TB := tb_3 (i := 204) (by decide +kernel) rfl
theorem tw_440 : Cond.code yX8_costOfTerm cX8_costOfTerm 5 (some .int) ∈ TB := tb_3 (i := 205) (by decide +kernel) rfl
theorem tw_441 : Cond.methodLink RX8 68 yX8_costOf ∈ TB := tb_3 (i := 206) (by decide +kernel) rfl
theorem tw_446 : Cond.methodLink RL 85 yX10_answerTrust ∈ TB := tb_3 (i := 207) (by decide +kernel) rfl
theorem tw_447 : Cond.instanceMethod yX10_answerTrust ∈ TB := tb_3 (i := 208) (by decide +kernel) rfl
theorem tw_448 : Cond.selects RX10 yX10_answerTrust yX10_answerTrust ∈ TB := tb_3 (i := 209) (by decide +kernel) rfl
theorem tw_449 : Cond.code yX10_answerTrust cX10_answerTrust 4 (some .int) ∈ TB := tb_3 (i := 210) (by decide +kernel) rfl
theorem tw_450 : Cond.methodLink RX10 276 Lib.Math.max.name ∈ TB := tb_3 (i := 218) (by decide +kernel) rfl
theorem tw_451 : Cond.static Lib.Math.max.name ∈ TB := tb_1 (i := 35) (by decide +kernel) rfl
theorem tw_452 : Cond.initialized "java/lang/Math" ∈ TB := tb_1 (i := 4) (by decide +kernel) rfl
theorem tw_453 : Cond.code Lib.Math.max.name Lib.Math.max.code 2 (some .int) ∈ TB := tb_1 (i := 36) (by decide +kernel) rfl
theorem tw_454 : Cond.methodLink RX10 273 yX8_trustOfTerm ∈ TB := tb_3 (i := 211) (by decide +kernel) rfl
theorem tw_455 : Cond.instanceMethod yX8_trustOfTerm ∈ TB := tb_3 (i := 212) (by decide +kernel) rfl
theorem tw_456 : Cond.selects RX8 yX8_trustOfTerm yX8_trustOfTerm ∈ TB := tb_3 (i := 213) (by decide +kernel) rfl
theorem tw_457 : Cond.code yX8_trustOfTerm cX8_trustOfTerm 5 (some .int) ∈ TB := tb_3 (i := 214) (by decide +kernel) rfl
theorem tw_458 : Cond.methodLink RX8 75 Lib.Math.min.name ∈ TB := tb_3 (i := 215) (by decide +kernel) rfl
theorem tw_459 : Cond.static Lib.Math.min.name ∈ TB := tb_3 (i := 216) (by decide +kernel) rfl
theorem tw_460 : Cond.code Lib.Math.min.name Lib.Math.min.code 2 (some .int) ∈ TB := tb_3 (i := 217) (by decide +kernel) rfl
theorem tw_461 : Cond.methodLink RL 88 yX10_cheapestTags ∈ TB := tb_3 (i := 219) (by decide +kernel) rfl
theorem tw_462 : Cond.instanceMethod yX10_cheapestTags ∈ TB := tb_3 (i := 220) (by decide +kernel) rfl
theorem tw_463 : Cond.selects RX10 yX10_cheapestTags yX10_cheapestTags ∈ TB := tb_3 (i := 221) (by decide +kernel) rfl
theorem tw_464 : Cond.code yX10_cheapestTags cX10_cheapestTags 2 (some .int) ∈ TB := tb_3 (i := 222) (by decide +kernel) rfl
theorem tw_465 : Cond.methodLink RX10 270 yX4_tagSet ∈ TB := tb_3 (i := 223) (by decide +kernel) rfl
theorem tw_466 : Cond.methodLink RL 91 yX10_needed ∈ TB := tb_3 (i := 224) (by decide +kernel) rfl
theorem tw_467 : Cond.instanceMethod yX10_needed ∈ TB := tb_3 (i := 225) (by decide +kernel) rfl
theorem tw_468 : Cond.selects RX10 yX10_needed yX10_needed ∈ TB := tb_3 (i := 226) (by decide +kernel) rfl
theorem tw_469 : Cond.code yX10_needed cX10_needed 4 (some .int) ∈ TB := tb_3 (i := 227) (by decide +kernel) rfl
theorem tw_470 : Cond.methodLink RL 94 yX10_worlds ∈ TB := tb_3 (i := 228) (by decide +kernel) rfl
theorem tw_471 : Cond.instanceMethod yX10_worlds ∈ TB := tb_3 (i := 229) (by decide +kernel) rfl
theorem tw_472 : Cond.selects RX10 yX10_worlds yX10_worlds ∈ TB := tb_3 (i := 230) (by decide +kernel) rfl
theorem tw_473 : Cond.code yX10_worlds cX10_worlds 3 (some .int) ∈ TB := tb_3 (i := 231) (by decide +kernel) rfl
theorem tw_474 : Cond.fieldLink RX10 65 "ProvenanceTables" "tagSets" "LProvenanceTables$TagSets;" ∈ TB := tb_1 (i := 213) (by decide +kernel) rfl
theorem tw_475 : Cond.methodLink RX10 286 yX9_setTo ∈ TB := tb_3 (i := 232) (by decide +kernel) rfl
theorem tw_476 : Cond.instanceMethod yX9_setTo ∈ TB := tb_3 (i := 233) (by decide +kernel) rfl
theorem tw_477 : Cond.selects RX9 yX9_setTo yX9_setTo ∈ TB := tb_3 (i := 234) (by decide +kernel) rfl
theorem tw_478 : Cond.initialized RX9 ∈ TB := tb_1 (i := 10) (by decide +kernel) rfl
theorem tw_479 : Cond.code yX9_setTo cX9_setTo 3 none ∈ TB := tb_3 (i := 235) (by decide +kernel) rfl
theorem tw_480 : Cond.methodLink RX9 27 Lib.Math.min.name ∈ TB := tb_3 (i := 237) (by decide +kernel) rfl
theorem tw_481 : Cond.fieldLink RX9 33 "ProvenanceTables$TagSets" "size" "I" ∈ TB := tb_1 (i := 194) (by decide +kernel) rfl
theorem tw_482 : Cond.fieldLink RX9 9 "ProvenanceTables$TagSets" "sets" "[I" ∈ TB := tb_1 (i := 191) (by decide +kernel) rfl
theorem tw_483 : Cond.methodLink RX9 21 yX5_size ∈ TB := tb_3 (i := 236) (by decide +kernel) rfl
theorem tw_484 : Cond.methodLink RX9 36 yX5_monomialAt ∈ TB := tb_3 (i := 238) (by decide +kernel) rfl
theorem tw_485 : Cond.methodLink RX9 40 yX4_tagSet ∈ TB := tb_3 (i := 239) (by decide +kernel) rfl
theorem tw_486 : Cond.methodLink RX10 293 yX9_countWorlds ∈ TB := tb_4 (i := 0) (by decide +kernel) rfl
theorem tw_487 : Cond.instanceMethod yX9_countWorlds ∈ TB := tb_4 (i := 1) (by decide +kernel) rfl
theorem tw_488 : Cond.selects RX9 yX9_countWorlds yX9_countWorlds ∈ TB := tb_4 (i := 2) (by decide +kernel) rfl
theorem tw_489 : Cond.code yX9_countWorlds cX9_countWorlds 3 (some .int) ∈ TB := tb_4 (i := 3) (by decide +kernel) rfl
theorem tw_490 : Cond.fieldLink RX9 15 "ProvenanceTables$TagSets" "users" "[I" ∈ TB := tb_1 (i := 192) (by decide +kernel) rfl
theorem tw_491 : Cond.fieldLink RX9 18 "ProvenanceTables$TagSets" "endings" "[I" ∈ TB := tb_1 (i := 193) (by decide +kernel) rfl
theorem tw_492 : Cond.methodLink RX9 53 yX9_termsWith ∈ TB := tb_4 (i := 4) (by decide +kernel) rfl
theorem tw_493 : Cond.instanceMethod yX9_termsWith ∈ TB := tb_4 (i := 6) (by decide +kernel) rfl
theorem tw_494 : Cond.selects RX9 yX9_termsWith yX9_termsWith ∈ TB := tb_p (q := (yX9_termsWith, 4)) (List.mem_of_getElem? (i := 26) (by decide +kernel))
theorem tw_495 : Cond.code yX9_termsWith cX9_termsWith 6 (some .int) ∈ TB := tb_4 (i := 7) (by decide +kernel) rfl
theorem tw_496 : Cond.methodLink RX9 46 yX9_union ∈ TB := tb_4 (i := 8) (by decide +kernel) rfl
theorem tw_497 : Cond.instanceMethod yX9_union ∈ TB := tb_4 (i := 10) (by decide +kernel) rfl
theorem tw_498 : Cond.selects RX9 yX9_union yX9_union ∈ TB := tb_p (q := (yX9_union, 4)) (List.mem_of_getElem? (i := 27) (by decide +kernel))
theorem tw_499 : Cond.code yX9_union cX9_union 3 (some .int) ∈ TB := tb_4 (i := 11) (by decide +kernel) rfl
theorem tw_500 : Cond.methodLink RX9 57 yX9_countFrom ∈ TB := tb_4 (i := 12) (by decide +kernel) rfl
theorem tw_501 : Cond.static yX9_countFrom ∈ TB := tb_4 (i := 13) (by decide +kernel) rfl
theorem tw_502 : Cond.code yX9_countFrom cX9_countFrom 6 (some .int) ∈ TB := tb_4 (i := 14) (by decide +kernel) rfl
theorem tw_503 : Cond.methodLink RX9 69 yJ6_bitCount_0f7a4 ∈ TB := tb_4 (i := 15) (by decide +kernel) rfl
theorem tw_504 : Cond.static yJ6_bitCount_0f7a4 ∈ TB := tb_4 (i := 16) (by decide +kernel) rfl
theorem tw_505 : Cond.initialized RJ6 ∈ TB := tb_1 (i := 13) (by decide +kernel) rfl
theorem tw_506 : Cond.code yJ6_bitCount_0f7a4 cJ6_bitCount_0f7a4 1 (some .int) ∈ TB := tb_4 (i := 17) (by decide +kernel) rfl
theorem tw_507 : Cond.constant RJ6 265 (1431655765) ∈ TB := tb_4 (i := 18) (by decide +kernel) rfl
theorem tw_508 : Cond.constant RJ6 266 (858993459) ∈ TB := tb_4 (i := 19) (by decide +kernel) rfl
theorem tw_509 : Cond.constant RJ6 267 (252645135) ∈ TB := tb_4 (i := 20) (by decide +kernel) rfl
theorem tw_510 : Cond.methodLink RL 97 yX10_clearText ∈ TB := tb_4 (i := 111) (by decide +kernel) rfl
theorem tw_511 : Cond.instanceMethod yX10_clearText ∈ TB := tb_4 (i := 112) (by decide +kernel) rfl
theorem tw_512 : Cond.selects RX10 yX10_clearText yX10_clearText ∈ TB := tb_4 (i := 113) (by decide +kernel) rfl
theorem tw_514 : Cond.code yX10_clearText cX10_clearText 2 (some .int) ∈ TB := tb_4 (i := 114) (by decide +kernel) rfl
theorem tw_515 : Cond.fieldLink RX10 31 "ProvenanceTables" "text" "LProvenanceTables$Line;" ∈ TB := tb_1 (i := 207) (by decide +kernel) rfl
theorem tw_522 : Cond.methodLink RX10 176 yX3_clear ∈ TB := tb_4 (i := 115) (by decide +kernel) rfl
theorem tw_523 : Cond.instanceMethod yX3_clear ∈ TB := tb_2 (i := 15) (by decide +kernel) rfl
theorem tw_524 : Cond.selects RX3 yX3_clear yX3_clear ∈ TB := tb_2 (i := 16) (by decide +kernel) rfl
theorem tw_525 : Cond.code yX3_clear cX3_clear 1 none ∈ TB := tb_2 (i := 17) (by decide +kernel) rfl
theorem tw_531 : Cond.methodLink RL 100 yX10_append ∈ TB := tb_4 (i := 116) (by decide +kernel) rfl
theorem tw_532 : Cond.instanceMethod yX10_append ∈ TB := tb_4 (i := 117) (by decide +kernel) rfl
theorem tw_533 : Cond.selects RX10 yX10_append yX10_append ∈ TB := tb_4 (i := 118) (by decide +kernel) rfl
theorem tw_534 : Cond.code yX10_append cX10_append 2 (some .int) ∈ TB := tb_4 (i := 119) (by decide +kernel) rfl
theorem tw_535 : Cond.methodLink RX10 179 yX3_add ∈ TB := tb_4 (i := 120) (by decide +kernel) rfl
theorem tw_536 : Cond.instanceMethod yX3_add ∈ TB := tb_2 (i := 27) (by decide +kernel) rfl
theorem tw_537 : Cond.selects RX3 yX3_add yX3_add ∈ TB := tb_2 (i := 28) (by decide +kernel) rfl
theorem tw_538 : Cond.code yX3_add cX3_add 2 (some .boolean) ∈ TB := tb_2 (i := 29) (by decide +kernel) rfl
theorem tw_558 : Cond.methodLink RL 103 yL_types ∈ TB := tb_4 (i := 108) (by decide +kernel) rfl
theorem tw_559 : Cond.static yL_types ∈ TB := tb_4 (i := 109) (by decide +kernel) rfl
theorem tw_561 : Cond.code yL_types cL_types 8 (some .boolean) ∈ TB := tb_4 (i := 110) (by rfl) rfl
theorem tw_584 : Cond.methodLink RL 107 yX10_fault ∈ TB := tb_4 (i := 121) (by decide +kernel) rfl
theorem tw_585 : Cond.instanceMethod yX10_fault ∈ TB := tb_4 (i := 122) (by decide +kernel) rfl
theorem tw_586 : Cond.selects RX10 yX10_fault yX10_fault ∈ TB := tb_4 (i := 123) (by decide +kernel) rfl
theorem tw_587 : Cond.code yX10_fault cX10_fault 1 (some .int) ∈ TB := tb_4 (i := 124) (by decide +kernel) rfl
theorem tw_588 : Cond.fieldLink RX10 41 "ProvenanceTables" "draft" "LProvenanceTables$Query;" ∈ TB := tb_1 (i := 209) (by decide +kernel) rfl
theorem tw_589 : Cond.methodLink RX10 155 yX6_read ∈ TB := tb_2 (i := 34) (by decide +kernel) rfl
theorem tw_590 : Cond.instanceMethod yX6_read ∈ TB := tb_2 (i := 35) (by decide +kernel) rfl
theorem tw_591 : Cond.selects RX6 yX6_read yX6_read ∈ TB := tb_2 (i := 36) (by decide +kernel) rfl
theorem tw_592 : Cond.initialized RX6 ∈ TB := tb_1 (i := 6) (by decide +kernel) rfl
theorem tw_593 : Cond.code yX6_read cX6_read 5 (some .boolean) ∈ TB := tb_2 (i := 37) (by decide +kernel) rfl
theorem tw_594 : Cond.fieldLink RX6 43 "ProvenanceTables$Query" "line" "LProvenanceTables$Line;" ∈ TB := tb_1 (i := 100) (by decide +kernel) rfl
theorem tw_595 : Cond.fieldLink RX6 32 "ProvenanceTables$Query" "size" "I" ∈ TB := tb_1 (i := 101) (by decide +kernel) rfl
theorem tw_596 : Cond.fieldLink RX6 36 "ProvenanceTables$Query" "at" "I" ∈ TB := tb_1 (i := 102) (by decide +kernel) rfl
theorem tw_597 : Cond.fieldLink RX6 47 "ProvenanceTables$Query" "dueCount" "I" ∈ TB := tb_1 (i := 103) (by decide +kernel) rfl
theorem tw_598 : Cond.fieldLink RX6 28 "ProvenanceTables$Query" "isWhole" "Z" ∈ TB := tb_1 (i := 104) (by decide +kernel) rfl
theorem tw_599 : Cond.methodLink RX6 50 yX6_push ∈ TB := tb_2 (i := 38) (by decide +kernel) rfl
theorem tw_600 : Cond.instanceMethod yX6_push ∈ TB := tb_2 (i := 40) (by decide +kernel) rfl
theorem tw_601 : Cond.selects RX6 yX6_push yX6_push ∈ TB := tb_p (q := (yX6_push, 10)) (List.mem_of_getElem? (i := 0) (by decide +kernel))
theorem tw_602 : Cond.code yX6_push cX6_push 2 none ∈ TB := tb_2 (i := 41) (by decide +kernel) rfl
theorem tw_603 : Cond.fieldLink RX6 24 "ProvenanceTables$Query" "due" "[C" ∈ TB := tb_1 (i := 99) (by decide +kernel) rfl
theorem tw_604 : Cond.methodLink RX6 54 yX6_pop ∈ TB := tb_2 (i := 42) (by decide +kernel) rfl
theorem tw_605 : Cond.instanceMethod yX6_pop ∈ TB := tb_2 (i := 44) (by decide +kernel) rfl
theorem tw_606 : Cond.selects RX6 yX6_pop yX6_pop ∈ TB := tb_p (q := (yX6_pop, 10)) (List.mem_of_getElem? (i := 1) (by decide +kernel))
theorem tw_607 : Cond.code yX6_pop cX6_pop 1 (some .char) ∈ TB := tb_2 (i := 45) (by decide +kernel) rfl
theorem tw_608 : Cond.methodLink RX6 58 yX6_readHead ∈ TB := tb_2 (i := 46) (by decide +kernel) rfl
theorem tw_609 : Cond.instanceMethod yX6_readHead ∈ TB := tb_2 (i := 48) (by decide +kernel) rfl
theorem tw_610 : Cond.selects RX6 yX6_readHead yX6_readHead ∈ TB := tb_p (q := (yX6_readHead, 10)) (List.mem_of_getElem? (i := 2) (by decide +kernel))
theorem tw_611 : Cond.code yX6_readHead cX6_readHead 2 (some .boolean) ∈ TB := tb_2 (i := 49) (by decide +kernel) rfl
theorem tw_612 : Cond.methodLink RX6 104 yX6_nextCode ∈ TB := tb_2 (i := 50) (by decide +kernel) rfl
theorem tw_613 : Cond.instanceMethod yX6_nextCode ∈ TB := tb_2 (i := 52) (by decide +kernel) rfl
theorem tw_614 : Cond.selects RX6 yX6_nextCode yX6_nextCode ∈ TB := tb_p (q := (yX6_nextCode, 10)) (List.mem_of_getElem? (i := 3) (by decide +kernel))
theorem tw_615 : Cond.code yX6_nextCode cX6_nextCode 1 (some .int) ∈ TB := tb_2 (i := 53) (by decide +kernel) rfl
theorem tw_616 : Cond.methodLink RX6 125 yX3_codeAt ∈ TB := tb_2 (i := 54) (by decide +kernel) rfl
theorem tw_620 : Cond.methodLink RX6 107 yX6_addNode ∈ TB := tb_2 (i := 55) (by decide +kernel) rfl
theorem tw_621 : Cond.instanceMethod yX6_addNode ∈ TB := tb_2 (i := 57) (by decide +kernel) rfl
theorem tw_622 : Cond.selects RX6 yX6_addNode yX6_addNode ∈ TB := tb_p (q := (yX6_addNode, 10)) (List.mem_of_getElem? (i := 4) (by decide +kernel))
theorem tw_623 : Cond.code yX6_addNode cX6_addNode 5 (some .boolean) ∈ TB := tb_2 (i := 58) (by decide +kernel) rfl
theorem tw_624 : Cond.fieldLink RX6 9 "ProvenanceTables$Query" "kinds" "[I" ∈ TB := tb_1 (i := 95) (by decide +kernel) rfl
theorem tw_625 : Cond.fieldLink RX6 15 "ProvenanceTables$Query" "firsts" "[I" ∈ TB := tb_1 (i := 96) (by decide +kernel) rfl
theorem tw_626 : Cond.fieldLink RX6 18 "ProvenanceTables$Query" "seconds" "[I" ∈ TB := tb_1 (i := 97) (by decide +kernel) rfl
theorem tw_627 : Cond.methodLink RX6 80 yX6_partsOf ∈ TB := tb_2 (i := 59) (by decide +kernel) rfl
theorem tw_628 : Cond.static yX6_partsOf ∈ TB := tb_2 (i := 60) (by decide +kernel) rfl
theorem tw_629 : Cond.code yX6_partsOf cX6_partsOf 1 (some .int) ∈ TB := tb_2 (i := 61) (by decide +kernel) rfl
