theorem lay_0 : ∀ w ∈ u_ws RX0 TX0 3, w ∈ lwG := by decide +kernel
theorem lay_1 : ∀ w ∈ u_ws RX1 TX1 12, w ∈ lwG := by decide +kernel
theorem lay_2 : ∀ w ∈ u_ws RX2 TX2 4, w ∈ lwG := by decide +kernel
theorem lay_3 : ∀ w ∈ u_ws RX3 TX3 3, w ∈ lwG := by decide +kernel
theorem lay_4 : ∀ w ∈ u_ws RX4 TX4 10, w ∈ lwG := by decide +kernel
theorem lay_5 : ∀ w ∈ u_ws RX5 TX5 9, w ∈ lwG := by decide +kernel
theorem lay_6 : ∀ w ∈ u_ws RX6 TX6 3, w ∈ lwG := by decide +kernel
theorem lay_7 : ∀ w ∈ u_ws RX7 TX7 8, w ∈ lwG := by decide +kernel
theorem lay_8 : ∀ w ∈ u_ws RX8 TX8 6, w ∈ lwG := by decide +kernel
theorem lay_9 : ∀ w ∈ u_ws RX9 TX9 16, w ∈ lwG := by decide +kernel
theorem lay_10 : ∀ w ∈ u_ws RX10 TX10 8, w ∈ lwG := by decide +kernel
theorem lay_11 : ∀ w ∈ u_ws RX11 TX11 14, w ∈ lwG := by decide +kernel
theorem lay_12 : ∀ w ∈ u_ws RX12 TX12 85, w ∈ lwG := by decide +kernel
theorem gw_144 : Cond.fieldLink RX8 9 "GluedPaper$Tape" "signs" "[C" ∈ lwG := gw 144 (by decide +kernel) rfl
theorem gw_145 : Cond.fieldLink RX8 13 "GluedPaper$Tape" "length" "I" ∈ lwG := gw 145 (by decide +kernel) rfl
theorem gw_146 : Cond.fieldLink RX11 110 "GluedPaper$Tape" "length" "I" ∈ lwG := gw 146 (by decide +kernel) rfl
theorem gw_147 : Cond.fieldLink RX8 17 "GluedPaper$Tape" "kind" "[I" ∈ lwG := gw 147 (by decide +kernel) rfl
theorem gw_148 : Cond.fieldLink RX7 72 "GluedPaper$Tape" "kind" "[I" ∈ lwG := gw 148 (by decide +kernel) rfl
theorem gw_149 : Cond.fieldLink RX8 21 "GluedPaper$Tape" "place" "[I" ∈ lwG := gw 149 (by decide +kernel) rfl
theorem gw_150 : Cond.fieldLink RX7 74 "GluedPaper$Tape" "place" "[I" ∈ lwG := gw 150 (by decide +kernel) rfl
theorem gw_151 : Cond.fieldLink RX8 24 "GluedPaper$Tape" "value" "[J" ∈ lwG := gw 151 (by decide +kernel) rfl
theorem gw_152 : Cond.fieldLink RX7 96 "GluedPaper$Tape" "value" "[J" ∈ lwG := gw 152 (by decide +kernel) rfl
theorem gw_153 : Cond.fieldLink RX8 28 "GluedPaper$Tape" "tokens" "I" ∈ lwG := gw 153 (by decide +kernel) rfl
theorem gw_154 : Cond.fieldLink RX7 51 "GluedPaper$Tape" "tokens" "I" ∈ lwG := gw 154 (by decide +kernel) rfl
theorem gw_177 : Cond.fieldLink RX7 11 "GluedPaper$Reader" "rows" "[I" ∈ lwG := gw 177 (by decide +kernel) rfl
theorem gw_178 : Cond.fieldLink RX11 98 "GluedPaper$Reader" "rows" "[I" ∈ lwG := gw 178 (by decide +kernel) rfl
theorem gw_179 : Cond.fieldLink RX7 15 "GluedPaper$Reader" "names" "[J" ∈ lwG := gw 179 (by decide +kernel) rfl
theorem gw_180 : Cond.fieldLink RX7 19 "GluedPaper$Reader" "numbers" "[I" ∈ lwG := gw 180 (by decide +kernel) rfl
theorem gw_181 : Cond.fieldLink RX7 31 "GluedPaper$Reader" "told" "I" ∈ lwG := gw 181 (by decide +kernel) rfl
theorem gw_182 : Cond.fieldLink RX7 22 "GluedPaper$Reader" "text" "LGluedPaper$Tape;" ∈ lwG := gw 182 (by decide +kernel) rfl
theorem gw_183 : Cond.fieldLink RX7 48 "GluedPaper$Reader" "at" "I" ∈ lwG := gw 183 (by decide +kernel) rfl
theorem gw_184 : Cond.fieldLink RX7 35 "GluedPaper$Reader" "fault" "I" ∈ lwG := gw 184 (by decide +kernel) rfl
theorem gw_185 : Cond.fieldLink RX7 44 "GluedPaper$Reader" "working" "Z" ∈ lwG := gw 185 (by decide +kernel) rfl
theorem gw_209 : Cond.fieldLink RX4 11 "GluedPaper$Figure" "rows" "[I" ∈ lwG := gw 209 (by decide +kernel) rfl
theorem gw_210 : Cond.fieldLink RX11 297 "GluedPaper$Figure" "rows" "[I" ∈ lwG := gw 210 (by decide +kernel) rfl
theorem gw_211 : Cond.fieldLink RX4 17 "GluedPaper$Figure" "x" "[I" ∈ lwG := gw 211 (by decide +kernel) rfl
theorem gw_212 : Cond.fieldLink RX11 126 "GluedPaper$Figure" "x" "[I" ∈ lwG := gw 212 (by decide +kernel) rfl
theorem gw_213 : Cond.fieldLink RX4 20 "GluedPaper$Figure" "y" "[I" ∈ lwG := gw 213 (by decide +kernel) rfl
theorem gw_214 : Cond.fieldLink RX11 129 "GluedPaper$Figure" "y" "[I" ∈ lwG := gw 214 (by decide +kernel) rfl
theorem gw_215 : Cond.fieldLink RX4 38 "GluedPaper$Figure" "cells" "I" ∈ lwG := gw 215 (by decide +kernel) rfl
theorem gw_216 : Cond.fieldLink RX2 25 "GluedPaper$Figure" "cells" "I" ∈ lwG := gw 216 (by decide +kernel) rfl
theorem gw_217 : Cond.fieldLink RX11 310 "GluedPaper$Figure" "cells" "I" ∈ lwG := gw 217 (by decide +kernel) rfl
theorem gw_218 : Cond.fieldLink RX4 23 "GluedPaper$Figure" "next" "[I" ∈ lwG := gw 218 (by decide +kernel) rfl
theorem gw_219 : Cond.fieldLink RX2 41 "GluedPaper$Figure" "next" "[I" ∈ lwG := gw 219 (by decide +kernel) rfl
theorem gw_220 : Cond.fieldLink RX4 26 "GluedPaper$Figure" "edgeAt" "[I" ∈ lwG := gw 220 (by decide +kernel) rfl
theorem gw_221 : Cond.fieldLink RX2 28 "GluedPaper$Figure" "edgeAt" "[I" ∈ lwG := gw 221 (by decide +kernel) rfl
theorem gw_222 : Cond.fieldLink RX11 132 "GluedPaper$Figure" "edgeAt" "[I" ∈ lwG := gw 222 (by decide +kernel) rfl
theorem gw_223 : Cond.fieldLink RX3 18 "GluedPaper$Figure" "edges" "I" ∈ lwG := gw 223 (by decide +kernel) rfl
theorem gw_224 : Cond.fieldLink RX4 42 "GluedPaper$Figure" "edges" "I" ∈ lwG := gw 224 (by decide +kernel) rfl
theorem gw_225 : Cond.fieldLink RX5 63 "GluedPaper$Figure" "edges" "I" ∈ lwG := gw 225 (by decide +kernel) rfl
theorem gw_226 : Cond.fieldLink RX11 311 "GluedPaper$Figure" "edges" "I" ∈ lwG := gw 226 (by decide +kernel) rfl
theorem gw_227 : Cond.fieldLink RX4 29 "GluedPaper$Figure" "edgeCell" "[I" ∈ lwG := gw 227 (by decide +kernel) rfl
theorem gw_228 : Cond.fieldLink RX2 35 "GluedPaper$Figure" "edgeCell" "[I" ∈ lwG := gw 228 (by decide +kernel) rfl
theorem gw_229 : Cond.fieldLink RX11 138 "GluedPaper$Figure" "edgeCell" "[I" ∈ lwG := gw 229 (by decide +kernel) rfl
theorem gw_230 : Cond.fieldLink RX4 32 "GluedPaper$Figure" "edgeSide" "[I" ∈ lwG := gw 230 (by decide +kernel) rfl
theorem gw_231 : Cond.fieldLink RX2 38 "GluedPaper$Figure" "edgeSide" "[I" ∈ lwG := gw 231 (by decide +kernel) rfl
theorem gw_232 : Cond.fieldLink RX11 141 "GluedPaper$Figure" "edgeSide" "[I" ∈ lwG := gw 232 (by decide +kernel) rfl
theorem gw_233 : Cond.fieldLink RX4 35 "GluedPaper$Figure" "quarters" "[I" ∈ lwG := gw 233 (by decide +kernel) rfl
theorem gw_234 : Cond.fieldLink RX3 25 "GluedPaper$Figure" "quarters" "[I" ∈ lwG := gw 234 (by decide +kernel) rfl
theorem gw_235 : Cond.fieldLink RX11 144 "GluedPaper$Figure" "quarters" "[I" ∈ lwG := gw 235 (by decide +kernel) rfl
theorem gw_265 : Cond.fieldLink RX0 13 "GluedPaper$Acts" "states" "[[I" ∈ lwG := gw 265 (by decide +kernel) rfl
theorem gw_266 : Cond.fieldLink RX0 16 "GluedPaper$Acts" "at" "I" ∈ lwG := gw 266 (by decide +kernel) rfl
theorem gw_267 : Cond.fieldLink RX11 204 "GluedPaper$Acts" "at" "I" ∈ lwG := gw 267 (by decide +kernel) rfl
theorem gw_268 : Cond.fieldLink RX0 20 "GluedPaper$Acts" "last" "I" ∈ lwG := gw 268 (by decide +kernel) rfl
theorem gw_269 : Cond.fieldLink RX11 207 "GluedPaper$Acts" "last" "I" ∈ lwG := gw 269 (by decide +kernel) rfl
theorem gw_283 : Cond.fieldLink RX3 24 "GluedPaper$Corners" "edges" "I" ∈ lwG := gw 283 (by decide +kernel) rfl
theorem gw_284 : Cond.fieldLink RX3 9 "GluedPaper$Corners" "least" "[I" ∈ lwG := gw 284 (by decide +kernel) rfl
theorem gw_285 : Cond.fieldLink RX11 210 "GluedPaper$Corners" "least" "[I" ∈ lwG := gw 285 (by decide +kernel) rfl
theorem gw_286 : Cond.fieldLink RX3 15 "GluedPaper$Corners" "quarters" "[I" ∈ lwG := gw 286 (by decide +kernel) rfl
theorem gw_287 : Cond.fieldLink RX11 213 "GluedPaper$Corners" "quarters" "[I" ∈ lwG := gw 287 (by decide +kernel) rfl
theorem gw_304 : Cond.fieldLink RX5 30 "GluedPaper$Gluings" "figure" "LGluedPaper$Figure;" ∈ lwG := gw 304 (by decide +kernel) rfl
theorem gw_305 : Cond.fieldLink RX5 46 "GluedPaper$Gluings" "known" "Z" ∈ lwG := gw 305 (by decide +kernel) rfl
theorem gw_306 : Cond.fieldLink RX11 320 "GluedPaper$Gluings" "known" "Z" ∈ lwG := gw 306 (by decide +kernel) rfl
theorem gw_307 : Cond.fieldLink RX5 38 "GluedPaper$Gluings" "tooMany" "Z" ∈ lwG := gw 307 (by decide +kernel) rfl
theorem gw_308 : Cond.fieldLink RX1 63 "GluedPaper$Gluings" "tooMany" "Z" ∈ lwG := gw 308 (by decide +kernel) rfl
theorem gw_309 : Cond.fieldLink RX11 154 "GluedPaper$Gluings" "tooMany" "Z" ∈ lwG := gw 309 (by decide +kernel) rfl
theorem gw_310 : Cond.fieldLink RX5 42 "GluedPaper$Gluings" "found" "I" ∈ lwG := gw 310 (by decide +kernel) rfl
theorem gw_311 : Cond.fieldLink RX1 66 "GluedPaper$Gluings" "found" "I" ∈ lwG := gw 311 (by decide +kernel) rfl
theorem gw_312 : Cond.fieldLink RX11 158 "GluedPaper$Gluings" "found" "I" ∈ lwG := gw 312 (by decide +kernel) rfl
theorem gw_313 : Cond.fieldLink RX5 11 "GluedPaper$Gluings" "openers" "[I" ∈ lwG := gw 313 (by decide +kernel) rfl
theorem gw_314 : Cond.fieldLink RX5 15 "GluedPaper$Gluings" "mates" "[I" ∈ lwG := gw 314 (by decide +kernel) rfl
theorem gw_315 : Cond.fieldLink RX5 20 "GluedPaper$Gluings" "corners" "[LGluedPaper$Corners;" ∈ lwG := gw 315 (by decide +kernel) rfl
theorem gw_316 : Cond.fieldLink RX5 24 "GluedPaper$Gluings" "open" "[I" ∈ lwG := gw 316 (by decide +kernel) rfl
theorem gw_317 : Cond.fieldLink RX5 27 "GluedPaper$Gluings" "told" "[I" ∈ lwG := gw 317 (by decide +kernel) rfl
theorem gw_318 : Cond.fieldLink RX1 84 "GluedPaper$Gluings" "told" "[I" ∈ lwG := gw 318 (by decide +kernel) rfl
theorem gw_319 : Cond.fieldLink RX11 168 "GluedPaper$Gluings" "told" "[I" ∈ lwG := gw 319 (by decide +kernel) rfl
theorem gw_345 : Cond.fieldLink RX2 21 "GluedPaper$Body" "cells" "I" ∈ lwG := gw 345 (by decide +kernel) rfl
theorem gw_346 : Cond.fieldLink RX9 51 "GluedPaper$Body" "cells" "I" ∈ lwG := gw 346 (by decide +kernel) rfl
theorem gw_347 : Cond.fieldLink RX1 97 "GluedPaper$Body" "cells" "I" ∈ lwG := gw 347 (by decide +kernel) rfl
theorem gw_348 : Cond.fieldLink RX10 73 "GluedPaper$Body" "cells" "I" ∈ lwG := gw 348 (by decide +kernel) rfl
theorem gw_349 : Cond.fieldLink RX11 284 "GluedPaper$Body" "cells" "I" ∈ lwG := gw 349 (by decide +kernel) rfl
theorem gw_350 : Cond.fieldLink RX2 9 "GluedPaper$Body" "cellBehind" "[I" ∈ lwG := gw 350 (by decide +kernel) rfl
theorem gw_351 : Cond.fieldLink RX9 82 "GluedPaper$Body" "cellBehind" "[I" ∈ lwG := gw 351 (by decide +kernel) rfl
theorem gw_352 : Cond.fieldLink RX10 53 "GluedPaper$Body" "cellBehind" "[I" ∈ lwG := gw 352 (by decide +kernel) rfl
theorem gw_353 : Cond.fieldLink RX1 106 "GluedPaper$Body" "cellBehind" "[I" ∈ lwG := gw 353 (by decide +kernel) rfl
theorem gw_354 : Cond.fieldLink RX11 226 "GluedPaper$Body" "cellBehind" "[I" ∈ lwG := gw 354 (by decide +kernel) rfl
theorem gw_355 : Cond.fieldLink RX2 15 "GluedPaper$Body" "sideBehind" "[I" ∈ lwG := gw 355 (by decide +kernel) rfl
theorem gw_356 : Cond.fieldLink RX9 85 "GluedPaper$Body" "sideBehind" "[I" ∈ lwG := gw 356 (by decide +kernel) rfl
theorem gw_357 : Cond.fieldLink RX10 56 "GluedPaper$Body" "sideBehind" "[I" ∈ lwG := gw 357 (by decide +kernel) rfl
theorem gw_358 : Cond.fieldLink RX1 109 "GluedPaper$Body" "sideBehind" "[I" ∈ lwG := gw 358 (by decide +kernel) rfl
theorem gw_359 : Cond.fieldLink RX11 229 "GluedPaper$Body" "sideBehind" "[I" ∈ lwG := gw 359 (by decide +kernel) rfl
theorem gw_360 : Cond.fieldLink RX2 18 "GluedPaper$Body" "turn" "[I" ∈ lwG := gw 360 (by decide +kernel) rfl
theorem gw_361 : Cond.fieldLink RX10 44 "GluedPaper$Body" "turn" "[I" ∈ lwG := gw 361 (by decide +kernel) rfl
theorem gw_362 : Cond.fieldLink RX11 232 "GluedPaper$Body" "turn" "[I" ∈ lwG := gw 362 (by decide +kernel) rfl
theorem gw_380 : Cond.fieldLink RX1 38 "GluedPaper$Bodies" "figure" "LGluedPaper$Figure;" ∈ lwG := gw 380 (by decide +kernel) rfl
theorem gw_381 : Cond.fieldLink RX1 42 "GluedPaper$Bodies" "gluings" "LGluedPaper$Gluings;" ∈ lwG := gw 381 (by decide +kernel) rfl
theorem gw_382 : Cond.fieldLink RX1 12 "GluedPaper$Bodies" "body" "LGluedPaper$Body;" ∈ lwG := gw 382 (by decide +kernel) rfl
theorem gw_383 : Cond.fieldLink RX1 18 "GluedPaper$Bodies" "number" "[I" ∈ lwG := gw 383 (by decide +kernel) rfl
theorem gw_384 : Cond.fieldLink RX1 22 "GluedPaper$Bodies" "firstSide" "[I" ∈ lwG := gw 384 (by decide +kernel) rfl
theorem gw_385 : Cond.fieldLink RX1 25 "GluedPaper$Bodies" "order" "[I" ∈ lwG := gw 385 (by decide +kernel) rfl
theorem gw_386 : Cond.fieldLink RX1 28 "GluedPaper$Bodies" "best" "[I" ∈ lwG := gw 386 (by decide +kernel) rfl
theorem gw_387 : Cond.fieldLink RX1 31 "GluedPaper$Bodies" "described" "[J" ∈ lwG := gw 387 (by decide +kernel) rfl
theorem gw_388 : Cond.fieldLink RX1 35 "GluedPaper$Bodies" "leastOf" "[I" ∈ lwG := gw 388 (by decide +kernel) rfl
theorem gw_389 : Cond.fieldLink RX1 54 "GluedPaper$Bodies" "known" "Z" ∈ lwG := gw 389 (by decide +kernel) rfl
theorem gw_390 : Cond.fieldLink RX11 323 "GluedPaper$Bodies" "known" "Z" ∈ lwG := gw 390 (by decide +kernel) rfl
theorem gw_391 : Cond.fieldLink RX1 70 "GluedPaper$Bodies" "counted" "Z" ∈ lwG := gw 391 (by decide +kernel) rfl
theorem gw_392 : Cond.fieldLink RX1 73 "GluedPaper$Bodies" "kinds" "I" ∈ lwG := gw 392 (by decide +kernel) rfl
theorem gw_393 : Cond.fieldLink RX11 243 "GluedPaper$Bodies" "kinds" "I" ∈ lwG := gw 393 (by decide +kernel) rfl
theorem gw_425 : Cond.fieldLink RX10 28 "GluedPaper$Ways" "body" "LGluedPaper$Body;" ∈ lwG := gw 425 (by decide +kernel) rfl
theorem gw_426 : Cond.fieldLink RX10 38 "GluedPaper$Ways" "end" "I" ∈ lwG := gw 426 (by decide +kernel) rfl
theorem gw_427 : Cond.fieldLink RX11 253 "GluedPaper$Ways" "end" "I" ∈ lwG := gw 427 (by decide +kernel) rfl
theorem gw_428 : Cond.fieldLink RX10 41 "GluedPaper$Ways" "turned" "I" ∈ lwG := gw 428 (by decide +kernel) rfl
theorem gw_429 : Cond.fieldLink RX11 256 "GluedPaper$Ways" "turned" "I" ∈ lwG := gw 429 (by decide +kernel) rfl
theorem gw_430 : Cond.fieldLink RX10 9 "GluedPaper$Ways" "lookedFrom" "I" ∈ lwG := gw 430 (by decide +kernel) rfl
theorem gw_431 : Cond.fieldLink RX11 331 "GluedPaper$Ways" "lookedFrom" "I" ∈ lwG := gw 431 (by decide +kernel) rfl
theorem gw_432 : Cond.fieldLink RX10 15 "GluedPaper$Ways" "square" "[I" ∈ lwG := gw 432 (by decide +kernel) rfl
theorem gw_433 : Cond.fieldLink RX10 19 "GluedPaper$Ways" "many" "[I" ∈ lwG := gw 433 (by decide +kernel) rfl
theorem gw_434 : Cond.fieldLink RX11 269 "GluedPaper$Ways" "many" "[I" ∈ lwG := gw 434 (by decide +kernel) rfl
theorem gw_435 : Cond.fieldLink RX10 22 "GluedPaper$Ways" "firstX" "[I" ∈ lwG := gw 435 (by decide +kernel) rfl
theorem gw_436 : Cond.fieldLink RX10 25 "GluedPaper$Ways" "firstY" "[I" ∈ lwG := gw 436 (by decide +kernel) rfl
theorem gw_461 : Cond.fieldLink RX9 43 "GluedPaper$Unfolder" "body" "LGluedPaper$Body;" ∈ lwG := gw 461 (by decide +kernel) rfl
theorem gw_462 : Cond.fieldLink RX9 47 "GluedPaper$Unfolder" "known" "Z" ∈ lwG := gw 462 (by decide +kernel) rfl
theorem gw_463 : Cond.fieldLink RX11 334 "GluedPaper$Unfolder" "known" "Z" ∈ lwG := gw 463 (by decide +kernel) rfl
theorem gw_464 : Cond.fieldLink RX9 57 "GluedPaper$Unfolder" "trees" "I" ∈ lwG := gw 464 (by decide +kernel) rfl
theorem gw_465 : Cond.fieldLink RX11 288 "GluedPaper$Unfolder" "trees" "I" ∈ lwG := gw 465 (by decide +kernel) rfl
theorem gw_466 : Cond.fieldLink RX9 60 "GluedPaper$Unfolder" "good" "I" ∈ lwG := gw 466 (by decide +kernel) rfl
theorem gw_467 : Cond.fieldLink RX11 291 "GluedPaper$Unfolder" "good" "I" ∈ lwG := gw 467 (by decide +kernel) rfl
theorem gw_468 : Cond.fieldLink RX9 63 "GluedPaper$Unfolder" "unlike" "I" ∈ lwG := gw 468 (by decide +kernel) rfl
theorem gw_469 : Cond.fieldLink RX11 294 "GluedPaper$Unfolder" "unlike" "I" ∈ lwG := gw 469 (by decide +kernel) rfl
theorem gw_470 : Cond.fieldLink RX9 11 "GluedPaper$Unfolder" "pairSide" "[I" ∈ lwG := gw 470 (by decide +kernel) rfl
theorem gw_471 : Cond.fieldLink RX9 15 "GluedPaper$Unfolder" "pairOther" "[I" ∈ lwG := gw 471 (by decide +kernel) rfl
theorem gw_472 : Cond.fieldLink RX9 79 "GluedPaper$Unfolder" "pairs" "I" ∈ lwG := gw 472 (by decide +kernel) rfl
theorem gw_473 : Cond.fieldLink RX9 18 "GluedPaper$Unfolder" "joined" "[Z" ∈ lwG := gw 473 (by decide +kernel) rfl
theorem gw_474 : Cond.fieldLink RX9 24 "GluedPaper$Unfolder" "least" "[[I" ∈ lwG := gw 474 (by decide +kernel) rfl
theorem gw_475 : Cond.fieldLink RX9 27 "GluedPaper$Unfolder" "x" "[I" ∈ lwG := gw 475 (by decide +kernel) rfl
theorem gw_476 : Cond.fieldLink RX9 30 "GluedPaper$Unfolder" "y" "[I" ∈ lwG := gw 476 (by decide +kernel) rfl
theorem gw_477 : Cond.fieldLink RX9 33 "GluedPaper$Unfolder" "turned" "[I" ∈ lwG := gw 477 (by decide +kernel) rfl
theorem gw_478 : Cond.fieldLink RX9 36 "GluedPaper$Unfolder" "order" "[I" ∈ lwG := gw 478 (by decide +kernel) rfl
theorem gw_479 : Cond.fieldLink RX9 107 "GluedPaper$Unfolder" "placed" "I" ∈ lwG := gw 479 (by decide +kernel) rfl
theorem gw_480 : Cond.fieldLink RX9 39 "GluedPaper$Unfolder" "seen" "[J" ∈ lwG := gw 480 (by decide +kernel) rfl
theorem gw_522 : Cond.fieldLink RX6 11 "GluedPaper$Marks" "laid" "[Z" ∈ lwG := gw 522 (by decide +kernel) rfl
theorem gw_523 : Cond.fieldLink RX11 301 "GluedPaper$Marks" "laid" "[Z" ∈ lwG := gw 523 (by decide +kernel) rfl
theorem gw_524 : Cond.fieldLink RX6 19 "GluedPaper$Marks" "rows" "[[I" ∈ lwG := gw 524 (by decide +kernel) rfl
theorem gw_525 : Cond.fieldLink RX11 305 "GluedPaper$Marks" "rows" "[[I" ∈ lwG := gw 525 (by decide +kernel) rfl
theorem gw_526 : Cond.fieldLink RX6 22 "GluedPaper$Marks" "mates" "[[I" ∈ lwG := gw 526 (by decide +kernel) rfl
theorem gw_527 : Cond.fieldLink RX11 308 "GluedPaper$Marks" "mates" "[[I" ∈ lwG := gw 527 (by decide +kernel) rfl
theorem gw_619 : Cond.fieldLink RX11 10 "GluedPaper" "tape" "LGluedPaper$Tape;" ∈ lwG := gw 619 (by decide +kernel) rfl
theorem gw_620 : Cond.fieldLink RX11 19 "GluedPaper" "reader" "LGluedPaper$Reader;" ∈ lwG := gw 620 (by decide +kernel) rfl
theorem gw_621 : Cond.fieldLink RX11 26 "GluedPaper" "sheet" "LGluedPaper$Figure;" ∈ lwG := gw 621 (by decide +kernel) rfl
theorem gw_622 : Cond.fieldLink RX11 30 "GluedPaper" "draft" "LGluedPaper$Figure;" ∈ lwG := gw 622 (by decide +kernel) rfl
theorem gw_623 : Cond.fieldLink RX11 36 "GluedPaper" "acts" "LGluedPaper$Acts;" ∈ lwG := gw 623 (by decide +kernel) rfl
theorem gw_624 : Cond.fieldLink RX11 43 "GluedPaper" "now" "LGluedPaper$Corners;" ∈ lwG := gw 624 (by decide +kernel) rfl
theorem gw_625 : Cond.fieldLink RX11 47 "GluedPaper" "trial" "LGluedPaper$Corners;" ∈ lwG := gw 625 (by decide +kernel) rfl
theorem gw_626 : Cond.fieldLink RX11 55 "GluedPaper" "all" "LGluedPaper$Gluings;" ∈ lwG := gw 626 (by decide +kernel) rfl
theorem gw_627 : Cond.fieldLink RX11 62 "GluedPaper" "body" "LGluedPaper$Body;" ∈ lwG := gw 627 (by decide +kernel) rfl
theorem gw_628 : Cond.fieldLink RX11 71 "GluedPaper" "kindred" "LGluedPaper$Bodies;" ∈ lwG := gw 628 (by decide +kernel) rfl
theorem gw_629 : Cond.fieldLink RX11 80 "GluedPaper" "ways" "LGluedPaper$Ways;" ∈ lwG := gw 629 (by decide +kernel) rfl
theorem gw_630 : Cond.fieldLink RX11 87 "GluedPaper" "unfolder" "LGluedPaper$Unfolder;" ∈ lwG := gw 630 (by decide +kernel) rfl
theorem gw_631 : Cond.fieldLink RX11 94 "GluedPaper" "marks" "LGluedPaper$Marks;" ∈ lwG := gw 631 (by decide +kernel) rfl
theorem gw_632 : Cond.fieldLink RX11 314 "GluedPaper" "pairs" "I" ∈ lwG := gw 632 (by decide +kernel) rfl
theorem gw_1227 : Cond.fieldLink RX12 184 "GluedPaperModel" "thrown" "I" ∈ lwG := gw 1227 (by decide +kernel) rfl
theorem gw_1228 : Cond.fieldLink RX12 189 "GluedPaperModel" "taped" "I" ∈ lwG := gw 1228 (by decide +kernel) rfl
theorem gw_1229 : Cond.fieldLink RX12 7 "GluedPaperModel" "tape" "[I" ∈ lwG := gw 1229 (by decide +kernel) rfl
theorem gw_1230 : Cond.fieldLink RX12 192 "GluedPaperModel" "size" "I" ∈ lwG := gw 1230 (by decide +kernel) rfl
theorem gw_1231 : Cond.fieldLink RX12 195 "GluedPaperModel" "place" "I" ∈ lwG := gw 1231 (by decide +kernel) rfl
theorem gw_1232 : Cond.fieldLink RX12 198 "GluedPaperModel" "begin" "I" ∈ lwG := gw 1232 (by decide +kernel) rfl
theorem gw_1233 : Cond.fieldLink RX12 208 "GluedPaperModel" "token" "I" ∈ lwG := gw 1233 (by decide +kernel) rfl
theorem gw_1234 : Cond.fieldLink RX12 201 "GluedPaperModel" "word" "J" ∈ lwG := gw 1234 (by decide +kernel) rfl
theorem gw_1235 : Cond.fieldLink RX12 205 "GluedPaperModel" "told" "I" ∈ lwG := gw 1235 (by decide +kernel) rfl
theorem gw_1236 : Cond.fieldLink RX12 219 "GluedPaperModel" "wrong" "I" ∈ lwG := gw 1236 (by decide +kernel) rfl
theorem gw_1237 : Cond.fieldLink RX12 282 "GluedPaperModel" "steps" "I" ∈ lwG := gw 1237 (by decide +kernel) rfl
theorem gw_1238 : Cond.fieldLink RX12 13 "GluedPaperModel" "stepKind" "[I" ∈ lwG := gw 1238 (by decide +kernel) rfl
theorem gw_1239 : Cond.fieldLink RX12 16 "GluedPaperModel" "stepName" "[I" ∈ lwG := gw 1239 (by decide +kernel) rfl
theorem gw_1240 : Cond.fieldLink RX12 19 "GluedPaperModel" "stepAt" "[I" ∈ lwG := gw 1240 (by decide +kernel) rfl
theorem gw_1241 : Cond.fieldLink RX12 22 "GluedPaperModel" "eachName" "[I" ∈ lwG := gw 1241 (by decide +kernel) rfl
theorem gw_1242 : Cond.fieldLink RX12 25 "GluedPaperModel" "eachAt" "[I" ∈ lwG := gw 1242 (by decide +kernel) rfl
theorem gw_1243 : Cond.fieldLink RX12 28 "GluedPaperModel" "lineFrom" "[I" ∈ lwG := gw 1243 (by decide +kernel) rfl
theorem gw_1244 : Cond.fieldLink RX12 31 "GluedPaperModel" "lineTo" "[I" ∈ lwG := gw 1244 (by decide +kernel) rfl
theorem gw_1245 : Cond.fieldLink RX12 34 "GluedPaperModel" "codes" "[I" ∈ lwG := gw 1245 (by decide +kernel) rfl
theorem gw_1246 : Cond.fieldLink RX12 37 "GluedPaperModel" "names" "[J" ∈ lwG := gw 1246 (by decide +kernel) rfl
theorem gw_1247 : Cond.fieldLink RX12 235 "GluedPaperModel" "named" "I" ∈ lwG := gw 1247 (by decide +kernel) rfl
theorem gw_1248 : Cond.fieldLink RX12 222 "GluedPaperModel" "code" "I" ∈ lwG := gw 1248 (by decide +kernel) rfl
theorem gw_1249 : Cond.fieldLink RX12 41 "GluedPaperModel" "kept" "[I" ∈ lwG := gw 1249 (by decide +kernel) rfl
theorem gw_1250 : Cond.fieldLink RX12 44 "GluedPaperModel" "keptBy" "[I" ∈ lwG := gw 1250 (by decide +kernel) rfl
theorem gw_1251 : Cond.fieldLink RX12 47 "GluedPaperModel" "ahead" "[I" ∈ lwG := gw 1251 (by decide +kernel) rfl
theorem gw_1252 : Cond.fieldLink RX12 50 "GluedPaperModel" "against" "[I" ∈ lwG := gw 1252 (by decide +kernel) rfl
theorem gw_1253 : Cond.fieldLink RX12 53 "GluedPaperModel" "sum" "[I" ∈ lwG := gw 1253 (by decide +kernel) rfl
theorem gw_1254 : Cond.fieldLink RX12 56 "GluedPaperModel" "sumBy" "[I" ∈ lwG := gw 1254 (by decide +kernel) rfl
theorem gw_1255 : Cond.fieldLink RX12 59 "GluedPaperModel" "term" "[I" ∈ lwG := gw 1255 (by decide +kernel) rfl
theorem gw_1256 : Cond.fieldLink RX12 62 "GluedPaperModel" "termBy" "[I" ∈ lwG := gw 1256 (by decide +kernel) rfl
theorem gw_1257 : Cond.fieldLink RX12 65 "GluedPaperModel" "byNot" "[I" ∈ lwG := gw 1257 (by decide +kernel) rfl
theorem gw_1258 : Cond.fieldLink RX12 68 "GluedPaperModel" "valueOf" "[I" ∈ lwG := gw 1258 (by decide +kernel) rfl
theorem gw_1259 : Cond.fieldLink RX12 269 "GluedPaperModel" "newName" "J" ∈ lwG := gw 1259 (by decide +kernel) rfl
theorem gw_1260 : Cond.fieldLink RX12 71 "GluedPaperModel" "isThere" "[Z" ∈ lwG := gw 1260 (by decide +kernel) rfl
theorem gw_1261 : Cond.fieldLink RX12 315 "GluedPaperModel" "squares" "I" ∈ lwG := gw 1261 (by decide +kernel) rfl
theorem gw_1262 : Cond.fieldLink RX12 177 "GluedPaperModel" "cells" "I" ∈ lwG := gw 1262 (by decide +kernel) rfl
theorem gw_1263 : Cond.fieldLink RX12 75 "GluedPaperModel" "cellX" "[I" ∈ lwG := gw 1263 (by decide +kernel) rfl
theorem gw_1264 : Cond.fieldLink RX12 78 "GluedPaperModel" "cellY" "[I" ∈ lwG := gw 1264 (by decide +kernel) rfl
theorem gw_1265 : Cond.fieldLink RX12 332 "GluedPaperModel" "edges" "I" ∈ lwG := gw 1265 (by decide +kernel) rfl
theorem gw_1266 : Cond.fieldLink RX12 81 "GluedPaperModel" "edgeCell" "[I" ∈ lwG := gw 1266 (by decide +kernel) rfl
theorem gw_1267 : Cond.fieldLink RX12 84 "GluedPaperModel" "edgeSide" "[I" ∈ lwG := gw 1267 (by decide +kernel) rfl
theorem gw_1268 : Cond.fieldLink RX12 87 "GluedPaperModel" "quarters" "[I" ∈ lwG := gw 1268 (by decide +kernel) rfl
theorem gw_1269 : Cond.fieldLink RX12 90 "GluedPaperModel" "edgeAt" "[I" ∈ lwG := gw 1269 (by decide +kernel) rfl
theorem gw_1270 : Cond.fieldLink RX12 93 "GluedPaperModel" "wasX" "[I" ∈ lwG := gw 1270 (by decide +kernel) rfl
theorem gw_1271 : Cond.fieldLink RX12 96 "GluedPaperModel" "wasY" "[I" ∈ lwG := gw 1271 (by decide +kernel) rfl
theorem gw_1272 : Cond.fieldLink RX12 99 "GluedPaperModel" "glued" "[I" ∈ lwG := gw 1272 (by decide +kernel) rfl
theorem gw_1273 : Cond.fieldLink RX12 102 "GluedPaperModel" "oneWith" "[I" ∈ lwG := gw 1273 (by decide +kernel) rfl
theorem gw_1274 : Cond.fieldLink RX12 338 "GluedPaperModel" "isListed" "Z" ∈ lwG := gw 1274 (by decide +kernel) rfl
theorem gw_1275 : Cond.fieldLink RX12 386 "GluedPaperModel" "listed" "I" ∈ lwG := gw 1275 (by decide +kernel) rfl
theorem gw_1276 : Cond.fieldLink RX12 106 "GluedPaperModel" "list" "[B" ∈ lwG := gw 1276 (by decide +kernel) rfl
theorem gw_1277 : Cond.fieldLink RX12 110 "GluedPaperModel" "trial" "[I" ∈ lwG := gw 1277 (by decide +kernel) rfl
theorem gw_1278 : Cond.fieldLink RX12 342 "GluedPaperModel" "done" "I" ∈ lwG := gw 1278 (by decide +kernel) rfl
theorem gw_1279 : Cond.fieldLink RX12 345 "GluedPaperModel" "undone" "I" ∈ lwG := gw 1279 (by decide +kernel) rfl
theorem gw_1280 : Cond.fieldLink RX12 113 "GluedPaperModel" "before" "[B" ∈ lwG := gw 1280 (by decide +kernel) rfl
theorem gw_1281 : Cond.fieldLink RX12 116 "GluedPaperModel" "later" "[B" ∈ lwG := gw 1281 (by decide +kernel) rfl
theorem gw_1282 : Cond.fieldLink RX12 119 "GluedPaperModel" "beyond" "[I" ∈ lwG := gw 1282 (by decide +kernel) rfl
theorem gw_1283 : Cond.fieldLink RX12 122 "GluedPaperModel" "cellTo" "[I" ∈ lwG := gw 1283 (by decide +kernel) rfl
theorem gw_1284 : Cond.fieldLink RX12 125 "GluedPaperModel" "sideTo" "[I" ∈ lwG := gw 1284 (by decide +kernel) rfl
theorem gw_1285 : Cond.fieldLink RX12 128 "GluedPaperModel" "queue" "[I" ∈ lwG := gw 1285 (by decide +kernel) rfl
theorem gw_1286 : Cond.fieldLink RX12 396 "GluedPaperModel" "areBodies" "Z" ∈ lwG := gw 1286 (by decide +kernel) rfl
theorem gw_1287 : Cond.fieldLink RX12 131 "GluedPaperModel" "bodyOf" "[I" ∈ lwG := gw 1287 (by decide +kernel) rfl
theorem gw_1288 : Cond.fieldLink RX12 443 "GluedPaperModel" "inCell" "I" ∈ lwG := gw 1288 (by decide +kernel) rfl
theorem gw_1289 : Cond.fieldLink RX12 446 "GluedPaperModel" "turned" "I" ∈ lwG := gw 1289 (by decide +kernel) rfl
theorem gw_1290 : Cond.fieldLink RX12 455 "GluedPaperModel" "square" "I" ∈ lwG := gw 1290 (by decide +kernel) rfl
theorem gw_1291 : Cond.fieldLink RX12 458 "GluedPaperModel" "manyWays" "I" ∈ lwG := gw 1291 (by decide +kernel) rfl
theorem gw_1292 : Cond.fieldLink RX12 461 "GluedPaperModel" "firstX" "I" ∈ lwG := gw 1292 (by decide +kernel) rfl
theorem gw_1293 : Cond.fieldLink RX12 464 "GluedPaperModel" "firstY" "I" ∈ lwG := gw 1293 (by decide +kernel) rfl
theorem gw_1294 : Cond.fieldLink RX12 500 "GluedPaperModel" "joints" "I" ∈ lwG := gw 1294 (by decide +kernel) rfl
theorem gw_1295 : Cond.fieldLink RX12 134 "GluedPaperModel" "joint" "[I" ∈ lwG := gw 1295 (by decide +kernel) rfl
theorem gw_1296 : Cond.fieldLink RX12 137 "GluedPaperModel" "flatX" "[I" ∈ lwG := gw 1296 (by decide +kernel) rfl
theorem gw_1297 : Cond.fieldLink RX12 140 "GluedPaperModel" "flatY" "[I" ∈ lwG := gw 1297 (by decide +kernel) rfl
theorem gw_1298 : Cond.fieldLink RX12 143 "GluedPaperModel" "flatTurn" "[I" ∈ lwG := gw 1298 (by decide +kernel) rfl
theorem gw_1299 : Cond.fieldLink RX12 146 "GluedPaperModel" "group" "[I" ∈ lwG := gw 1299 (by decide +kernel) rfl
theorem gw_1300 : Cond.fieldLink RX12 488 "GluedPaperModel" "trees" "I" ∈ lwG := gw 1300 (by decide +kernel) rfl
theorem gw_1301 : Cond.fieldLink RX12 494 "GluedPaperModel" "goods" "I" ∈ lwG := gw 1301 (by decide +kernel) rfl
theorem gw_1302 : Cond.fieldLink RX12 485 "GluedPaperModel" "nets" "I" ∈ lwG := gw 1302 (by decide +kernel) rfl
theorem gw_1303 : Cond.fieldLink RX12 149 "GluedPaperModel" "netOf" "[J" ∈ lwG := gw 1303 (by decide +kernel) rfl
theorem gw_1304 : Cond.fieldLink RX12 153 "GluedPaperModel" "spots" "[I" ∈ lwG := gw 1304 (by decide +kernel) rfl
theorem gw_1305 : Cond.fieldLink RX12 156 "GluedPaperModel" "chosen" "[I" ∈ lwG := gw 1305 (by decide +kernel) rfl
theorem gw_1306 : Cond.fieldLink RX12 159 "GluedPaperModel" "spot" "[I" ∈ lwG := gw 1306 (by decide +kernel) rfl
theorem gw_1307 : Cond.fieldLink RX12 162 "GluedPaperModel" "isLaid" "[Z" ∈ lwG := gw 1307 (by decide +kernel) rfl
theorem gw_1308 : Cond.fieldLink RX12 165 "GluedPaperModel" "markCells" "[I" ∈ lwG := gw 1308 (by decide +kernel) rfl
theorem gw_1309 : Cond.fieldLink RX12 168 "GluedPaperModel" "markX" "[I" ∈ lwG := gw 1309 (by decide +kernel) rfl
theorem gw_1310 : Cond.fieldLink RX12 171 "GluedPaperModel" "markY" "[I" ∈ lwG := gw 1310 (by decide +kernel) rfl
theorem gw_1311 : Cond.fieldLink RX12 174 "GluedPaperModel" "markGlued" "[I" ∈ lwG := gw 1311 (by decide +kernel) rfl
theorem gw_535 : Cond.methodLink RX11 102 yX11_takeFigure ∈ lwG := gw 535 (by decide +kernel) rfl
theorem gw_103 : Cond.initialized RX11 ∈ lwG := gw 103 (by decide +kernel) rfl
theorem gw_538 : Cond.code yX11_takeFigure cX11_takeFigure 2 (Option.none : Option FieldType) ∈ lwG := gw 538 (by decide +kernel) rfl
theorem gw_537 : Cond.instanceMethod yX11_takeFigure ∈ lwG := gw 537 (by decide +kernel) rfl
theorem gw_0 : Cond.selects RX11 yX11_takeFigure yX11_takeFigure ∈ lwG := gw 0 (by decide +kernel) rfl
theorem pd_yX11_takeFigure : yX11_takeFigure.cls ≠ "java/lang/invoke/MethodHandle" ∧ yX11_takeFigure.cls ≠ "java/lang/invoke/VarHandle" ∧ (parseMethodDescriptor yX11_takeFigure.desc).map (fun d => d.parameters.length) = some 1 := by decide +kernel
theorem gw_539 : Cond.methodLink RX11 118 yX4_lay ∈ lwG := gw 539 (by decide +kernel) rfl
theorem gw_106 : Cond.initialized RX4 ∈ lwG := gw 106 (by decide +kernel) rfl
theorem gw_542 : Cond.code yX4_lay cX4_lay 3 (Option.some FieldType.int) ∈ lwG := gw 542 (by decide +kernel) rfl
theorem gw_540 : Cond.instanceMethod yX4_lay ∈ lwG := gw 540 (by decide +kernel) rfl
theorem gw_541 : Cond.selects RX4 yX4_lay yX4_lay ∈ lwG := gw 541 (by decide +kernel) rfl
theorem pd_yX4_lay : yX4_lay.cls ≠ "java/lang/invoke/MethodHandle" ∧ yX4_lay.cls ≠ "java/lang/invoke/VarHandle" ∧ (parseMethodDescriptor yX4_lay.desc).map (fun d => d.parameters.length) = some 1 := by decide +kernel
theorem gw_546 : Cond.methodLink RX4 51 yX4_numberCells ∈ lwG := gw 546 (by decide +kernel) rfl
theorem gw_549 : Cond.code yX4_numberCells cX4_numberCells 3 (Option.none : Option FieldType) ∈ lwG := gw 549 (by decide +kernel) rfl
theorem gw_548 : Cond.instanceMethod yX4_numberCells ∈ lwG := gw 548 (by decide +kernel) rfl
theorem gw_1 : Cond.selects RX4 yX4_numberCells yX4_numberCells ∈ lwG := gw 1 (by decide +kernel) rfl
theorem pd_yX4_numberCells : yX4_numberCells.cls ≠ "java/lang/invoke/MethodHandle" ∧ yX4_numberCells.cls ≠ "java/lang/invoke/VarHandle" ∧ (parseMethodDescriptor yX4_numberCells.desc).map (fun d => d.parameters.length) = some 0 := by decide +kernel
theorem gw_550 : Cond.methodLink RX4 54 yX4_linkCells ∈ lwG := gw 550 (by decide +kernel) rfl
theorem gw_553 : Cond.code yX4_linkCells cX4_linkCells 5 (Option.some FieldType.int) ∈ lwG := gw 553 (by decide +kernel) rfl
theorem gw_552 : Cond.instanceMethod yX4_linkCells ∈ lwG := gw 552 (by decide +kernel) rfl
theorem gw_2 : Cond.selects RX4 yX4_linkCells yX4_linkCells ∈ lwG := gw 2 (by decide +kernel) rfl
theorem pd_yX4_linkCells : yX4_linkCells.cls ≠ "java/lang/invoke/MethodHandle" ∧ yX4_linkCells.cls ≠ "java/lang/invoke/VarHandle" ∧ (parseMethodDescriptor yX4_linkCells.desc).map (fun d => d.parameters.length) = some 0 := by decide +kernel
theorem gw_558 : Cond.methodLink RX4 71 yX4_cellAt ∈ lwG := gw 558 (by decide +kernel) rfl
theorem gw_561 : Cond.code yX4_cellAt cX4_cellAt 4 (Option.some FieldType.int) ∈ lwG := gw 561 (by decide +kernel) rfl
theorem gw_560 : Cond.instanceMethod yX4_cellAt ∈ lwG := gw 560 (by decide +kernel) rfl
theorem gw_3 : Cond.selects RX4 yX4_cellAt yX4_cellAt ∈ lwG := gw 3 (by decide +kernel) rfl
theorem pd_yX4_cellAt : yX4_cellAt.cls ≠ "java/lang/invoke/MethodHandle" ∧ yX4_cellAt.cls ≠ "java/lang/invoke/VarHandle" ∧ (parseMethodDescriptor yX4_cellAt.desc).map (fun d => d.parameters.length) = some 2 := by decide +kernel
theorem gw_562 : Cond.methodLink RX4 58 yX4_hangsTogether ∈ lwG := gw 562 (by decide +kernel) rfl
theorem gw_565 : Cond.code yX4_hangsTogether cX4_hangsTogether 4 (Option.some FieldType.boolean) ∈ lwG := gw 565 (by decide +kernel) rfl
theorem gw_564 : Cond.instanceMethod yX4_hangsTogether ∈ lwG := gw 564 (by decide +kernel) rfl
theorem gw_4 : Cond.selects RX4 yX4_hangsTogether yX4_hangsTogether ∈ lwG := gw 4 (by decide +kernel) rfl
theorem pd_yX4_hangsTogether : yX4_hangsTogether.cls ≠ "java/lang/invoke/MethodHandle" ∧ yX4_hangsTogether.cls ≠ "java/lang/invoke/VarHandle" ∧ (parseMethodDescriptor yX4_hangsTogether.desc).map (fun d => d.parameters.length) = some 0 := by decide +kernel
theorem gw_566 : Cond.methodLink RX4 62 yX4_traceRim ∈ lwG := gw 566 (by decide +kernel) rfl
theorem gw_569 : Cond.code yX4_traceRim cX4_traceRim 8 (Option.none : Option FieldType) ∈ lwG := gw 569 (by decide +kernel) rfl
theorem gw_568 : Cond.instanceMethod yX4_traceRim ∈ lwG := gw 568 (by decide +kernel) rfl
theorem gw_5 : Cond.selects RX4 yX4_traceRim yX4_traceRim ∈ lwG := gw 5 (by decide +kernel) rfl
theorem pd_yX4_traceRim : yX4_traceRim.cls ≠ "java/lang/invoke/MethodHandle" ∧ yX4_traceRim.cls ≠ "java/lang/invoke/VarHandle" ∧ (parseMethodDescriptor yX4_traceRim.desc).map (fun d => d.parameters.length) = some 0 := by decide +kernel
theorem gw_570 : Cond.methodLink RX11 317 yX0_forget ∈ lwG := gw 570 (by decide +kernel) rfl
theorem gw_107 : Cond.initialized RX0 ∈ lwG := gw 107 (by decide +kernel) rfl
theorem gw_573 : Cond.code yX0_forget cX0_forget 1 (Option.none : Option FieldType) ∈ lwG := gw 573 (by decide +kernel) rfl
theorem gw_571 : Cond.instanceMethod yX0_forget ∈ lwG := gw 571 (by decide +kernel) rfl
theorem gw_572 : Cond.selects RX0 yX0_forget yX0_forget ∈ lwG := gw 572 (by decide +kernel) rfl
theorem pd_yX0_forget : yX0_forget.cls ≠ "java/lang/invoke/MethodHandle" ∧ yX0_forget.cls ≠ "java/lang/invoke/VarHandle" ∧ (parseMethodDescriptor yX0_forget.desc).map (fun d => d.parameters.length) = some 0 := by decide +kernel
theorem gw_574 : Cond.methodLink RX0 23 yJ7_fill_53178 ∈ lwG := gw 574 (by decide +kernel) rfl
theorem gw_116 : Cond.initialized RJ7 ∈ lwG := gw 116 (by decide +kernel) rfl
theorem gw_576 : Cond.code yJ7_fill_53178 cJ7_fill_53178 4 (Option.none : Option FieldType) ∈ lwG := gw 576 (by decide +kernel) rfl
theorem gw_575 : Cond.static yJ7_fill_53178 ∈ lwG := gw 575 (by decide +kernel) rfl
theorem pd_yJ7_fill_53178 : yJ7_fill_53178.cls ≠ "java/lang/invoke/MethodHandle" ∧ yJ7_fill_53178.cls ≠ "java/lang/invoke/VarHandle" ∧ (parseMethodDescriptor yJ7_fill_53178.desc).map (fun d => d.parameters.length) = some 2 := by decide +kernel
theorem gw_577 : Cond.methodLink RX11 195 yX11_settle ∈ lwG := gw 577 (by decide +kernel) rfl
theorem gw_580 : Cond.code yX11_settle cX11_settle 3 (Option.none : Option FieldType) ∈ lwG := gw 580 (by decide +kernel) rfl
theorem gw_579 : Cond.instanceMethod yX11_settle ∈ lwG := gw 579 (by decide +kernel) rfl
theorem gw_6 : Cond.selects RX11 yX11_settle yX11_settle ∈ lwG := gw 6 (by decide +kernel) rfl
theorem pd_yX11_settle : yX11_settle.cls ≠ "java/lang/invoke/MethodHandle" ∧ yX11_settle.cls ≠ "java/lang/invoke/VarHandle" ∧ (parseMethodDescriptor yX11_settle.desc).map (fun d => d.parameters.length) = some 0 := by decide +kernel
theorem gw_581 : Cond.methodLink RX11 147 yX0_mates ∈ lwG := gw 581 (by decide +kernel) rfl
theorem gw_584 : Cond.code yX0_mates cX0_mates 1 (Option.some (FieldType.array FieldType.int)) ∈ lwG := gw 584 (by decide +kernel) rfl
theorem gw_582 : Cond.instanceMethod yX0_mates ∈ lwG := gw 582 (by decide +kernel) rfl
theorem gw_583 : Cond.selects RX0 yX0_mates yX0_mates ∈ lwG := gw 583 (by decide +kernel) rfl
theorem pd_yX0_mates : yX0_mates.cls ≠ "java/lang/invoke/MethodHandle" ∧ yX0_mates.cls ≠ "java/lang/invoke/VarHandle" ∧ (parseMethodDescriptor yX0_mates.desc).map (fun d => d.parameters.length) = some 0 := by decide +kernel
theorem gw_585 : Cond.methodLink RX11 324 yX3_start ∈ lwG := gw 585 (by decide +kernel) rfl
theorem gw_108 : Cond.initialized RX3 ∈ lwG := gw 108 (by decide +kernel) rfl
theorem gw_588 : Cond.code yX3_start cX3_start 3 (Option.none : Option FieldType) ∈ lwG := gw 588 (by decide +kernel) rfl
theorem gw_586 : Cond.instanceMethod yX3_start ∈ lwG := gw 586 (by decide +kernel) rfl
theorem gw_587 : Cond.selects RX3 yX3_start yX3_start ∈ lwG := gw 587 (by decide +kernel) rfl
theorem pd_yX3_start : yX3_start.cls ≠ "java/lang/invoke/MethodHandle" ∧ yX3_start.cls ≠ "java/lang/invoke/VarHandle" ∧ (parseMethodDescriptor yX3_start.desc).map (fun d => d.parameters.length) = some 1 := by decide +kernel
theorem gw_589 : Cond.methodLink RX11 188 yX3_pair ∈ lwG := gw 589 (by decide +kernel) rfl
theorem gw_592 : Cond.code yX3_pair cX3_pair 5 (Option.some FieldType.boolean) ∈ lwG := gw 592 (by decide +kernel) rfl
theorem gw_590 : Cond.instanceMethod yX3_pair ∈ lwG := gw 590 (by decide +kernel) rfl
theorem gw_591 : Cond.selects RX3 yX3_pair yX3_pair ∈ lwG := gw 591 (by decide +kernel) rfl
theorem pd_yX3_pair : yX3_pair.cls ≠ "java/lang/invoke/MethodHandle" ∧ yX3_pair.cls ≠ "java/lang/invoke/VarHandle" ∧ (parseMethodDescriptor yX3_pair.desc).map (fun d => d.parameters.length) = some 2 := by decide +kernel
theorem gw_593 : Cond.methodLink RX3 32 yX3_unite ∈ lwG := gw 593 (by decide +kernel) rfl
theorem gw_596 : Cond.code yX3_unite cX3_unite 6 (Option.some FieldType.int) ∈ lwG := gw 596 (by decide +kernel) rfl
theorem gw_595 : Cond.instanceMethod yX3_unite ∈ lwG := gw 595 (by decide +kernel) rfl
theorem gw_7 : Cond.selects RX3 yX3_unite yX3_unite ∈ lwG := gw 7 (by decide +kernel) rfl
theorem pd_yX3_unite : yX3_unite.cls ≠ "java/lang/invoke/MethodHandle" ∧ yX3_unite.cls ≠ "java/lang/invoke/VarHandle" ∧ (parseMethodDescriptor yX3_unite.desc).map (fun d => d.parameters.length) = some 2 := by decide +kernel
theorem gw_603 : Cond.methodLink RX11 218 yX11_isBody ∈ lwG := gw 603 (by decide +kernel) rfl
theorem gw_606 : Cond.code yX11_isBody cX11_isBody 1 (Option.some FieldType.boolean) ∈ lwG := gw 606 (by decide +kernel) rfl
theorem gw_605 : Cond.instanceMethod yX11_isBody ∈ lwG := gw 605 (by decide +kernel) rfl
theorem gw_8 : Cond.selects RX11 yX11_isBody yX11_isBody ∈ lwG := gw 8 (by decide +kernel) rfl
theorem pd_yX11_isBody : yX11_isBody.cls ≠ "java/lang/invoke/MethodHandle" ∧ yX11_isBody.cls ≠ "java/lang/invoke/VarHandle" ∧ (parseMethodDescriptor yX11_isBody.desc).map (fun d => d.parameters.length) = some 0 := by decide +kernel
theorem gw_607 : Cond.methodLink RX11 327 yX2_fold ∈ lwG := gw 607 (by decide +kernel) rfl
theorem gw_110 : Cond.initialized RX2 ∈ lwG := gw 110 (by decide +kernel) rfl
theorem gw_610 : Cond.code yX2_fold cX2_fold 6 (Option.none : Option FieldType) ∈ lwG := gw 610 (by decide +kernel) rfl
theorem gw_608 : Cond.instanceMethod yX2_fold ∈ lwG := gw 608 (by decide +kernel) rfl
theorem gw_609 : Cond.selects RX2 yX2_fold yX2_fold ∈ lwG := gw 609 (by decide +kernel) rfl
theorem pd_yX2_fold : yX2_fold.cls ≠ "java/lang/invoke/MethodHandle" ∧ yX2_fold.cls ≠ "java/lang/invoke/VarHandle" ∧ (parseMethodDescriptor yX2_fold.desc).map (fun d => d.parameters.length) = some 2 := by decide +kernel
theorem gw_611 : Cond.methodLink RX2 31 yX4_hasEdge ∈ lwG := gw 611 (by decide +kernel) rfl
theorem gw_614 : Cond.code yX4_hasEdge cX4_hasEdge 2 (Option.some FieldType.boolean) ∈ lwG := gw 614 (by decide +kernel) rfl
theorem gw_612 : Cond.instanceMethod yX4_hasEdge ∈ lwG := gw 612 (by decide +kernel) rfl
theorem gw_613 : Cond.selects RX4 yX4_hasEdge yX4_hasEdge ∈ lwG := gw 613 (by decide +kernel) rfl
theorem pd_yX4_hasEdge : yX4_hasEdge.cls ≠ "java/lang/invoke/MethodHandle" ∧ yX4_hasEdge.cls ≠ "java/lang/invoke/VarHandle" ∧ (parseMethodDescriptor yX4_hasEdge.desc).map (fun d => d.parameters.length) = some 1 := by decide +kernel
theorem gw_615 : Cond.methodLink RX2 44 yX2_turnAt ∈ lwG := gw 615 (by decide +kernel) rfl
theorem gw_618 : Cond.code yX2_turnAt cX2_turnAt 5 (Option.some FieldType.int) ∈ lwG := gw 618 (by decide +kernel) rfl
theorem gw_617 : Cond.instanceMethod yX2_turnAt ∈ lwG := gw 617 (by decide +kernel) rfl
theorem gw_9 : Cond.selects RX2 yX2_turnAt yX2_turnAt ∈ lwG := gw 9 (by decide +kernel) rfl
theorem pd_yX2_turnAt : yX2_turnAt.cls ≠ "java/lang/invoke/MethodHandle" ∧ yX2_turnAt.cls ≠ "java/lang/invoke/VarHandle" ∧ (parseMethodDescriptor yX2_turnAt.desc).map (fun d => d.parameters.length) = some 1 := by decide +kernel
theorem gw_666 : Cond.methodLink RX11 106 yX8_put ∈ lwG := gw 666 (by decide +kernel) rfl
theorem gw_104 : Cond.initialized RX8 ∈ lwG := gw 104 (by decide +kernel) rfl
theorem gw_669 : Cond.code yX8_put cX8_put 6 (Option.none : Option FieldType) ∈ lwG := gw 669 (by decide +kernel) rfl
theorem gw_667 : Cond.instanceMethod yX8_put ∈ lwG := gw 667 (by decide +kernel) rfl
theorem gw_668 : Cond.selects RX8 yX8_put yX8_put ∈ lwG := gw 668 (by decide +kernel) rfl
theorem pd_yX8_put : yX8_put.cls ≠ "java/lang/invoke/MethodHandle" ∧ yX8_put.cls ≠ "java/lang/invoke/VarHandle" ∧ (parseMethodDescriptor yX8_put.desc).map (fun d => d.parameters.length) = some 1 := by decide +kernel
theorem gw_675 : Cond.methodLink RX11 114 yX7_read ∈ lwG := gw 675 (by decide +kernel) rfl
theorem gw_105 : Cond.initialized RX7 ∈ lwG := gw 105 (by decide +kernel) rfl
theorem gw_678 : Cond.code yX7_read cX7_read 4 (Option.some FieldType.int) ∈ lwG := gw 678 (by decide +kernel) rfl
theorem gw_676 : Cond.instanceMethod yX7_read ∈ lwG := gw 676 (by decide +kernel) rfl
theorem gw_677 : Cond.selects RX7 yX7_read yX7_read ∈ lwG := gw 677 (by decide +kernel) rfl
theorem pd_yX7_read : yX7_read.cls ≠ "java/lang/invoke/MethodHandle" ∧ yX7_read.cls ≠ "java/lang/invoke/VarHandle" ∧ (parseMethodDescriptor yX7_read.desc).map (fun d => d.parameters.length) = some 1 := by decide +kernel
theorem gw_679 : Cond.methodLink RX7 26 yX8_cut ∈ lwG := gw 679 (by decide +kernel) rfl
theorem gw_682 : Cond.code yX8_cut cX8_cut 3 (Option.none : Option FieldType) ∈ lwG := gw 682 (by decide +kernel) rfl
theorem gw_680 : Cond.instanceMethod yX8_cut ∈ lwG := gw 680 (by decide +kernel) rfl
theorem gw_681 : Cond.selects RX8 yX8_cut yX8_cut ∈ lwG := gw 681 (by decide +kernel) rfl
theorem pd_yX8_cut : yX8_cut.cls ≠ "java/lang/invoke/MethodHandle" ∧ yX8_cut.cls ≠ "java/lang/invoke/VarHandle" ∧ (parseMethodDescriptor yX8_cut.desc).map (fun d => d.parameters.length) = some 0 := by decide +kernel
theorem gw_683 : Cond.methodLink RX8 33 yX8_isBlank ∈ lwG := gw 683 (by decide +kernel) rfl
theorem gw_685 : Cond.code yX8_isBlank cX8_isBlank 1 (Option.some FieldType.boolean) ∈ lwG := gw 685 (by decide +kernel) rfl
theorem gw_684 : Cond.static yX8_isBlank ∈ lwG := gw 684 (by decide +kernel) rfl
theorem pd_yX8_isBlank : yX8_isBlank.cls ≠ "java/lang/invoke/MethodHandle" ∧ yX8_isBlank.cls ≠ "java/lang/invoke/VarHandle" ∧ (parseMethodDescriptor yX8_isBlank.desc).map (fun d => d.parameters.length) = some 1 := by decide +kernel
theorem gw_686 : Cond.methodLink RX8 37 yX8_endOfRun ∈ lwG := gw 686 (by decide +kernel) rfl
theorem gw_689 : Cond.code yX8_endOfRun cX8_endOfRun 3 (Option.some FieldType.int) ∈ lwG := gw 689 (by decide +kernel) rfl
theorem gw_688 : Cond.instanceMethod yX8_endOfRun ∈ lwG := gw 688 (by decide +kernel) rfl
theorem gw_10 : Cond.selects RX8 yX8_endOfRun yX8_endOfRun ∈ lwG := gw 10 (by decide +kernel) rfl
theorem pd_yX8_endOfRun : yX8_endOfRun.cls ≠ "java/lang/invoke/MethodHandle" ∧ yX8_endOfRun.cls ≠ "java/lang/invoke/VarHandle" ∧ (parseMethodDescriptor yX8_endOfRun.desc).map (fun d => d.parameters.length) = some 1 := by decide +kernel
theorem gw_690 : Cond.methodLink RX8 45 yX8_isLetter ∈ lwG := gw 690 (by decide +kernel) rfl
theorem gw_692 : Cond.code yX8_isLetter cX8_isLetter 1 (Option.some FieldType.boolean) ∈ lwG := gw 692 (by decide +kernel) rfl
theorem gw_691 : Cond.static yX8_isLetter ∈ lwG := gw 691 (by decide +kernel) rfl
theorem pd_yX8_isLetter : yX8_isLetter.cls ≠ "java/lang/invoke/MethodHandle" ∧ yX8_isLetter.cls ≠ "java/lang/invoke/VarHandle" ∧ (parseMethodDescriptor yX8_isLetter.desc).map (fun d => d.parameters.length) = some 1 := by decide +kernel
theorem gw_693 : Cond.methodLink RX8 54 yX8_isDigit ∈ lwG := gw 693 (by decide +kernel) rfl
theorem gw_695 : Cond.code yX8_isDigit cX8_isDigit 1 (Option.some FieldType.boolean) ∈ lwG := gw 695 (by decide +kernel) rfl
theorem gw_694 : Cond.static yX8_isDigit ∈ lwG := gw 694 (by decide +kernel) rfl
theorem pd_yX8_isDigit : yX8_isDigit.cls ≠ "java/lang/invoke/MethodHandle" ∧ yX8_isDigit.cls ≠ "java/lang/invoke/VarHandle" ∧ (parseMethodDescriptor yX8_isDigit.desc).map (fun d => d.parameters.length) = some 1 := by decide +kernel
theorem gw_696 : Cond.methodLink RX8 41 yX8_keep ∈ lwG := gw 696 (by decide +kernel) rfl
theorem gw_699 : Cond.code yX8_keep cX8_keep 6 (Option.none : Option FieldType) ∈ lwG := gw 699 (by decide +kernel) rfl
theorem gw_698 : Cond.instanceMethod yX8_keep ∈ lwG := gw 698 (by decide +kernel) rfl
theorem gw_11 : Cond.selects RX8 yX8_keep yX8_keep ∈ lwG := gw 11 (by decide +kernel) rfl
theorem pd_yX8_keep : yX8_keep.cls ≠ "java/lang/invoke/MethodHandle" ∧ yX8_keep.cls ≠ "java/lang/invoke/VarHandle" ∧ (parseMethodDescriptor yX8_keep.desc).map (fun d => d.parameters.length) = some 2 := by decide +kernel
theorem gw_701 : Cond.methodLink RX8 50 yX8_kindOfWord ∈ lwG := gw 701 (by decide +kernel) rfl
theorem gw_703 : Cond.code yX8_kindOfWord cX8_kindOfWord 2 (Option.some FieldType.int) ∈ lwG := gw 703 (by decide +kernel) rfl
theorem gw_702 : Cond.static yX8_kindOfWord ∈ lwG := gw 702 (by decide +kernel) rfl
theorem pd_yX8_kindOfWord : yX8_kindOfWord.cls ≠ "java/lang/invoke/MethodHandle" ∧ yX8_kindOfWord.cls ≠ "java/lang/invoke/VarHandle" ∧ (parseMethodDescriptor yX8_kindOfWord.desc).map (fun d => d.parameters.length) = some 1 := by decide +kernel
theorem gw_711 : Cond.methodLink RX8 61 yX8_isSign ∈ lwG := gw 711 (by decide +kernel) rfl
theorem gw_713 : Cond.code yX8_isSign cX8_isSign 1 (Option.some FieldType.boolean) ∈ lwG := gw 713 (by decide +kernel) rfl
theorem gw_712 : Cond.static yX8_isSign ∈ lwG := gw 712 (by decide +kernel) rfl
theorem pd_yX8_isSign : yX8_isSign.cls ≠ "java/lang/invoke/MethodHandle" ∧ yX8_isSign.cls ≠ "java/lang/invoke/VarHandle" ∧ (parseMethodDescriptor yX8_isSign.desc).map (fun d => d.parameters.length) = some 1 := by decide +kernel
theorem gw_715 : Cond.methodLink RX8 76 yJ0_indexOf_0f7a4 ∈ lwG := gw 715 (by decide +kernel) rfl
theorem gw_119 : Cond.initialized RJ0 ∈ lwG := gw 119 (by decide +kernel) rfl
theorem gw_718 : Cond.code yJ0_indexOf_0f7a4 cJ0_indexOf_0f7a4 2 (Option.some FieldType.int) ∈ lwG := gw 718 (by decide +kernel) rfl
theorem gw_716 : Cond.instanceMethod yJ0_indexOf_0f7a4 ∈ lwG := gw 716 (by decide +kernel) rfl
theorem gw_717 : Cond.selects RJ0 yJ0_indexOf_0f7a4 yJ0_indexOf_0f7a4 ∈ lwG := gw 717 (by decide +kernel) rfl
theorem pd_yJ0_indexOf_0f7a4 : yJ0_indexOf_0f7a4.cls ≠ "java/lang/invoke/MethodHandle" ∧ yJ0_indexOf_0f7a4.cls ≠ "java/lang/invoke/VarHandle" ∧ (parseMethodDescriptor yJ0_indexOf_0f7a4.desc).map (fun d => d.parameters.length) = some 1 := by decide +kernel
theorem gw_797 : Cond.methodLink RX7 38 yJ7_fill_53178 ∈ lwG := gw 797 (by decide +kernel) rfl
theorem gw_798 : Cond.methodLink RX7 54 yX7_kind ∈ lwG := gw 798 (by decide +kernel) rfl
theorem gw_801 : Cond.code yX7_kind cX7_kind 1 (Option.some FieldType.int) ∈ lwG := gw 801 (by decide +kernel) rfl
theorem gw_800 : Cond.instanceMethod yX7_kind ∈ lwG := gw 800 (by decide +kernel) rfl
theorem gw_12 : Cond.selects RX7 yX7_kind yX7_kind ∈ lwG := gw 12 (by decide +kernel) rfl
theorem pd_yX7_kind : yX7_kind.cls ≠ "java/lang/invoke/MethodHandle" ∧ yX7_kind.cls ≠ "java/lang/invoke/VarHandle" ∧ (parseMethodDescriptor yX7_kind.desc).map (fun d => d.parameters.length) = some 0 := by decide +kernel
theorem gw_802 : Cond.methodLink RX7 58 yX7_readLet ∈ lwG := gw 802 (by decide +kernel) rfl
theorem gw_805 : Cond.code yX7_readLet cX7_readLet 3 (Option.none : Option FieldType) ∈ lwG := gw 805 (by decide +kernel) rfl
theorem gw_804 : Cond.instanceMethod yX7_readLet ∈ lwG := gw 804 (by decide +kernel) rfl
theorem gw_13 : Cond.selects RX7 yX7_readLet yX7_readLet ∈ lwG := gw 13 (by decide +kernel) rfl
theorem pd_yX7_readLet : yX7_readLet.cls ≠ "java/lang/invoke/MethodHandle" ∧ yX7_readLet.cls ≠ "java/lang/invoke/VarHandle" ∧ (parseMethodDescriptor yX7_readLet.desc).map (fun d => d.parameters.length) = some 0 := by decide +kernel
theorem gw_806 : Cond.methodLink RX7 81 yX7_readNewName ∈ lwG := gw 806 (by decide +kernel) rfl
theorem gw_809 : Cond.code yX7_readNewName cX7_readNewName 1 (Option.none : Option FieldType) ∈ lwG := gw 809 (by decide +kernel) rfl
theorem gw_808 : Cond.instanceMethod yX7_readNewName ∈ lwG := gw 808 (by decide +kernel) rfl
theorem gw_14 : Cond.selects RX7 yX7_readNewName yX7_readNewName ∈ lwG := gw 14 (by decide +kernel) rfl
theorem pd_yX7_readNewName : yX7_readNewName.cls ≠ "java/lang/invoke/MethodHandle" ∧ yX7_readNewName.cls ≠ "java/lang/invoke/VarHandle" ∧ (parseMethodDescriptor yX7_readNewName.desc).map (fun d => d.parameters.length) = some 0 := by decide +kernel
theorem gw_810 : Cond.methodLink RX7 77 yX7_fail ∈ lwG := gw 810 (by decide +kernel) rfl
theorem gw_813 : Cond.code yX7_fail cX7_fail 3 (Option.none : Option FieldType) ∈ lwG := gw 813 (by decide +kernel) rfl
theorem gw_812 : Cond.instanceMethod yX7_fail ∈ lwG := gw 812 (by decide +kernel) rfl
theorem gw_15 : Cond.selects RX7 yX7_fail yX7_fail ∈ lwG := gw 15 (by decide +kernel) rfl
theorem pd_yX7_fail : yX7_fail.cls ≠ "java/lang/invoke/MethodHandle" ∧ yX7_fail.cls ≠ "java/lang/invoke/VarHandle" ∧ (parseMethodDescriptor yX7_fail.desc).map (fun d => d.parameters.length) = some 2 := by decide +kernel
theorem gw_814 : Cond.methodLink RX7 93 yX7_slotOf ∈ lwG := gw 814 (by decide +kernel) rfl
theorem gw_817 : Cond.code yX7_slotOf cX7_slotOf 3 (Option.some FieldType.int) ∈ lwG := gw 817 (by decide +kernel) rfl
theorem gw_816 : Cond.instanceMethod yX7_slotOf ∈ lwG := gw 816 (by decide +kernel) rfl
theorem gw_16 : Cond.selects RX7 yX7_slotOf yX7_slotOf ∈ lwG := gw 16 (by decide +kernel) rfl
theorem pd_yX7_slotOf : yX7_slotOf.cls ≠ "java/lang/invoke/MethodHandle" ∧ yX7_slotOf.cls ≠ "java/lang/invoke/VarHandle" ∧ (parseMethodDescriptor yX7_slotOf.desc).map (fun d => d.parameters.length) = some 1 := by decide +kernel
theorem gw_818 : Cond.methodLink RX7 84 yX7_sum ∈ lwG := gw 818 (by decide +kernel) rfl
theorem gw_821 : Cond.code yX7_sum cX7_sum 7 (Option.some FieldType.int) ∈ lwG := gw 821 (by decide +kernel) rfl
theorem gw_820 : Cond.instanceMethod yX7_sum ∈ lwG := gw 820 (by decide +kernel) rfl
theorem gw_17 : Cond.selects RX7 yX7_sum yX7_sum ∈ lwG := gw 17 (by decide +kernel) rfl
theorem pd_yX7_sum : yX7_sum.cls ≠ "java/lang/invoke/MethodHandle" ∧ yX7_sum.cls ≠ "java/lang/invoke/VarHandle" ∧ (parseMethodDescriptor yX7_sum.desc).map (fun d => d.parameters.length) = some 1 := by decide +kernel
theorem gw_822 : Cond.methodLink RX7 118 yX7_part ∈ lwG := gw 822 (by decide +kernel) rfl
theorem gw_825 : Cond.code yX7_part cX7_part 6 (Option.some FieldType.int) ∈ lwG := gw 825 (by decide +kernel) rfl
theorem gw_824 : Cond.instanceMethod yX7_part ∈ lwG := gw 824 (by decide +kernel) rfl
theorem gw_18 : Cond.selects RX7 yX7_part yX7_part ∈ lwG := gw 18 (by decide +kernel) rfl
theorem pd_yX7_part : yX7_part.cls ≠ "java/lang/invoke/MethodHandle" ∧ yX7_part.cls ≠ "java/lang/invoke/VarHandle" ∧ (parseMethodDescriptor yX7_part.desc).map (fun d => d.parameters.length) = some 1 := by decide +kernel
theorem gw_826 : Cond.methodLink RX7 68 yX7_expect ∈ lwG := gw 826 (by decide +kernel) rfl
theorem gw_829 : Cond.code yX7_expect cX7_expect 2 (Option.none : Option FieldType) ∈ lwG := gw 829 (by decide +kernel) rfl
theorem gw_828 : Cond.instanceMethod yX7_expect ∈ lwG := gw 828 (by decide +kernel) rfl
theorem gw_19 : Cond.selects RX7 yX7_expect yX7_expect ∈ lwG := gw 19 (by decide +kernel) rfl
theorem pd_yX7_expect : yX7_expect.cls ≠ "java/lang/invoke/MethodHandle" ∧ yX7_expect.cls ≠ "java/lang/invoke/VarHandle" ∧ (parseMethodDescriptor yX7_expect.desc).map (fun d => d.parameters.length) = some 1 := by decide +kernel
theorem gw_830 : Cond.methodLink RX7 88 yX7_tellName ∈ lwG := gw 830 (by decide +kernel) rfl
theorem gw_833 : Cond.code yX7_tellName cX7_tellName 3 (Option.some FieldType.int) ∈ lwG := gw 833 (by decide +kernel) rfl
theorem gw_832 : Cond.instanceMethod yX7_tellName ∈ lwG := gw 832 (by decide +kernel) rfl
theorem gw_20 : Cond.selects RX7 yX7_tellName yX7_tellName ∈ lwG := gw 20 (by decide +kernel) rfl
theorem pd_yX7_tellName : yX7_tellName.cls ≠ "java/lang/invoke/MethodHandle" ∧ yX7_tellName.cls ≠ "java/lang/invoke/VarHandle" ∧ (parseMethodDescriptor yX7_tellName.desc).map (fun d => d.parameters.length) = some 1 := by decide +kernel
theorem gw_835 : Cond.methodLink RX7 61 yX7_readEach ∈ lwG := gw 835 (by decide +kernel) rfl
theorem gw_838 : Cond.code yX7_readEach cX7_readEach 10 (Option.none : Option FieldType) ∈ lwG := gw 838 (by decide +kernel) rfl
theorem gw_837 : Cond.instanceMethod yX7_readEach ∈ lwG := gw 837 (by decide +kernel) rfl
theorem gw_21 : Cond.selects RX7 yX7_readEach yX7_readEach ∈ lwG := gw 21 (by decide +kernel) rfl
theorem pd_yX7_readEach : yX7_readEach.cls ≠ "java/lang/invoke/MethodHandle" ∧ yX7_readEach.cls ≠ "java/lang/invoke/VarHandle" ∧ (parseMethodDescriptor yX7_readEach.desc).map (fun d => d.parameters.length) = some 0 := by decide +kernel
theorem gw_839 : Cond.methodLink RX7 64 yX7_readStep ∈ lwG := gw 839 (by decide +kernel) rfl
theorem gw_842 : Cond.code yX7_readStep cX7_readStep 8 (Option.none : Option FieldType) ∈ lwG := gw 842 (by decide +kernel) rfl
theorem gw_841 : Cond.instanceMethod yX7_readStep ∈ lwG := gw 841 (by decide +kernel) rfl
theorem gw_22 : Cond.selects RX7 yX7_readStep yX7_readStep ∈ lwG := gw 22 (by decide +kernel) rfl
theorem pd_yX7_readStep : yX7_readStep.cls ≠ "java/lang/invoke/MethodHandle" ∧ yX7_readStep.cls ≠ "java/lang/invoke/VarHandle" ∧ (parseMethodDescriptor yX7_readStep.desc).map (fun d => d.parameters.length) = some 1 := by decide +kernel
theorem gw_843 : Cond.methodLink RX7 105 yX7_isOnField ∈ lwG := gw 843 (by decide +kernel) rfl
theorem gw_845 : Cond.code yX7_isOnField cX7_isOnField 2 (Option.some FieldType.boolean) ∈ lwG := gw 845 (by decide +kernel) rfl
theorem gw_844 : Cond.static yX7_isOnField ∈ lwG := gw 844 (by decide +kernel) rfl
theorem pd_yX7_isOnField : yX7_isOnField.cls ≠ "java/lang/invoke/MethodHandle" ∧ yX7_isOnField.cls ≠ "java/lang/invoke/VarHandle" ∧ (parseMethodDescriptor yX7_isOnField.desc).map (fun d => d.parameters.length) = some 2 := by decide +kernel
theorem gw_846 : Cond.methodLink RX7 109 yX7_putCells ∈ lwG := gw 846 (by decide +kernel) rfl
theorem gw_849 : Cond.code yX7_putCells cX7_putCells 8 (Option.none : Option FieldType) ∈ lwG := gw 849 (by decide +kernel) rfl
theorem gw_848 : Cond.instanceMethod yX7_putCells ∈ lwG := gw 848 (by decide +kernel) rfl
theorem gw_23 : Cond.selects RX7 yX7_putCells yX7_putCells ∈ lwG := gw 23 (by decide +kernel) rfl
theorem pd_yX7_putCells : yX7_putCells.cls ≠ "java/lang/invoke/MethodHandle" ∧ yX7_putCells.cls ≠ "java/lang/invoke/VarHandle" ∧ (parseMethodDescriptor yX7_putCells.desc).map (fun d => d.parameters.length) = some 5 := by decide +kernel
theorem gw_850 : Cond.methodLink RX7 113 yJ6_bitCount_0f7a4 ∈ lwG := gw 850 (by decide +kernel) rfl
theorem gw_124 : Cond.initialized RJ6 ∈ lwG := gw 124 (by decide +kernel) rfl
theorem gw_852 : Cond.code yJ6_bitCount_0f7a4 cJ6_bitCount_0f7a4 1 (Option.some FieldType.int) ∈ lwG := gw 852 (by decide +kernel) rfl
theorem gw_851 : Cond.static yJ6_bitCount_0f7a4 ∈ lwG := gw 851 (by decide +kernel) rfl
theorem pd_yJ6_bitCount_0f7a4 : yJ6_bitCount_0f7a4.cls ≠ "java/lang/invoke/MethodHandle" ∧ yJ6_bitCount_0f7a4.cls ≠ "java/lang/invoke/VarHandle" ∧ (parseMethodDescriptor yJ6_bitCount_0f7a4.desc).map (fun d => d.parameters.length) = some 1 := by decide +kernel
theorem gw_862 : Cond.methodLink RX11 122 yX4_hasCell ∈ lwG := gw 862 (by decide +kernel) rfl
theorem gw_865 : Cond.code yX4_hasCell cX4_hasCell 2 (Option.some FieldType.boolean) ∈ lwG := gw 865 (by decide +kernel) rfl
theorem gw_863 : Cond.instanceMethod yX4_hasCell ∈ lwG := gw 863 (by decide +kernel) rfl
theorem gw_864 : Cond.selects RX4 yX4_hasCell yX4_hasCell ∈ lwG := gw 864 (by decide +kernel) rfl
theorem pd_yX4_hasCell : yX4_hasCell.cls ≠ "java/lang/invoke/MethodHandle" ∧ yX4_hasCell.cls ≠ "java/lang/invoke/VarHandle" ∧ (parseMethodDescriptor yX4_hasCell.desc).map (fun d => d.parameters.length) = some 1 := by decide +kernel
theorem gw_870 : Cond.methodLink RX11 135 yX4_hasEdge ∈ lwG := gw 870 (by decide +kernel) rfl
theorem gw_875 : Cond.methodLink RX11 151 yX5_work ∈ lwG := gw 875 (by decide +kernel) rfl
theorem gw_109 : Cond.initialized RX5 ∈ lwG := gw 109 (by decide +kernel) rfl
theorem gw_878 : Cond.code yX5_work cX5_work 1 (Option.none : Option FieldType) ∈ lwG := gw 878 (by decide +kernel) rfl
theorem gw_876 : Cond.instanceMethod yX5_work ∈ lwG := gw 876 (by decide +kernel) rfl
theorem gw_877 : Cond.selects RX5 yX5_work yX5_work ∈ lwG := gw 877 (by decide +kernel) rfl
theorem pd_yX5_work : yX5_work.cls ≠ "java/lang/invoke/MethodHandle" ∧ yX5_work.cls ≠ "java/lang/invoke/VarHandle" ∧ (parseMethodDescriptor yX5_work.desc).map (fun d => d.parameters.length) = some 0 := by decide +kernel
theorem gw_879 : Cond.methodLink RX5 49 yJ7_fill_53178 ∈ lwG := gw 879 (by decide +kernel) rfl
theorem gw_880 : Cond.methodLink RX5 55 yX3_start ∈ lwG := gw 880 (by decide +kernel) rfl
theorem gw_881 : Cond.methodLink RX5 59 yX5_search ∈ lwG := gw 881 (by decide +kernel) rfl
theorem gw_884 : Cond.code yX5_search cX5_search 5 (Option.none : Option FieldType) ∈ lwG := gw 884 (by decide +kernel) rfl
theorem gw_883 : Cond.instanceMethod yX5_search ∈ lwG := gw 883 (by decide +kernel) rfl
theorem gw_24 : Cond.selects RX5 yX5_search yX5_search ∈ lwG := gw 24 (by decide +kernel) rfl
theorem pd_yX5_search : yX5_search.cls ≠ "java/lang/invoke/MethodHandle" ∧ yX5_search.cls ≠ "java/lang/invoke/VarHandle" ∧ (parseMethodDescriptor yX5_search.desc).map (fun d => d.parameters.length) = some 2 := by decide +kernel
theorem gw_885 : Cond.methodLink RX5 68 yX5_keep ∈ lwG := gw 885 (by decide +kernel) rfl
theorem gw_888 : Cond.code yX5_keep cX5_keep 3 (Option.none : Option FieldType) ∈ lwG := gw 888 (by decide +kernel) rfl
theorem gw_887 : Cond.instanceMethod yX5_keep ∈ lwG := gw 887 (by decide +kernel) rfl
theorem gw_25 : Cond.selects RX5 yX5_keep yX5_keep ∈ lwG := gw 25 (by decide +kernel) rfl
theorem pd_yX5_keep : yX5_keep.cls ≠ "java/lang/invoke/MethodHandle" ∧ yX5_keep.cls ≠ "java/lang/invoke/VarHandle" ∧ (parseMethodDescriptor yX5_keep.desc).map (fun d => d.parameters.length) = some 0 := by decide +kernel
theorem gw_889 : Cond.methodLink RX5 71 yX3_copy ∈ lwG := gw 889 (by decide +kernel) rfl
theorem gw_892 : Cond.code yX3_copy cX3_copy 2 (Option.none : Option FieldType) ∈ lwG := gw 892 (by decide +kernel) rfl
theorem gw_890 : Cond.instanceMethod yX3_copy ∈ lwG := gw 890 (by decide +kernel) rfl
theorem gw_891 : Cond.selects RX3 yX3_copy yX3_copy ∈ lwG := gw 891 (by decide +kernel) rfl
theorem pd_yX3_copy : yX3_copy.cls ≠ "java/lang/invoke/MethodHandle" ∧ yX3_copy.cls ≠ "java/lang/invoke/VarHandle" ∧ (parseMethodDescriptor yX3_copy.desc).map (fun d => d.parameters.length) = some 1 := by decide +kernel
theorem gw_894 : Cond.methodLink RX5 75 yX3_pair ∈ lwG := gw 894 (by decide +kernel) rfl
theorem gw_899 : Cond.methodLink RX11 161 yX5_has ∈ lwG := gw 899 (by decide +kernel) rfl
theorem gw_902 : Cond.code yX5_has cX5_has 2 (Option.some FieldType.boolean) ∈ lwG := gw 902 (by decide +kernel) rfl
theorem gw_900 : Cond.instanceMethod yX5_has ∈ lwG := gw 900 (by decide +kernel) rfl
theorem gw_901 : Cond.selects RX5 yX5_has yX5_has ∈ lwG := gw 901 (by decide +kernel) rfl
theorem pd_yX5_has : yX5_has.cls ≠ "java/lang/invoke/MethodHandle" ∧ yX5_has.cls ≠ "java/lang/invoke/VarHandle" ∧ (parseMethodDescriptor yX5_has.desc).map (fun d => d.parameters.length) = some 1 := by decide +kernel
theorem gw_903 : Cond.methodLink RX5 35 yX5_work ∈ lwG := gw 903 (by decide +kernel) rfl
theorem gw_904 : Cond.methodLink RX11 164 yX5_tell ∈ lwG := gw 904 (by decide +kernel) rfl
theorem gw_907 : Cond.code yX5_tell cX5_tell 5 (Option.none : Option FieldType) ∈ lwG := gw 907 (by decide +kernel) rfl
theorem gw_905 : Cond.instanceMethod yX5_tell ∈ lwG := gw 905 (by decide +kernel) rfl
theorem gw_906 : Cond.selects RX5 yX5_tell yX5_tell ∈ lwG := gw 906 (by decide +kernel) rfl
theorem pd_yX5_tell : yX5_tell.cls ≠ "java/lang/invoke/MethodHandle" ∧ yX5_tell.cls ≠ "java/lang/invoke/VarHandle" ∧ (parseMethodDescriptor yX5_tell.desc).map (fun d => d.parameters.length) = some 1 := by decide +kernel
theorem gw_914 : Cond.methodLink RX11 180 yX11_crosses ∈ lwG := gw 914 (by decide +kernel) rfl
theorem gw_917 : Cond.code yX11_crosses cX11_crosses 5 (Option.some FieldType.boolean) ∈ lwG := gw 917 (by decide +kernel) rfl
theorem gw_916 : Cond.instanceMethod yX11_crosses ∈ lwG := gw 916 (by decide +kernel) rfl
theorem gw_26 : Cond.selects RX11 yX11_crosses yX11_crosses ∈ lwG := gw 26 (by decide +kernel) rfl
theorem pd_yX11_crosses : yX11_crosses.cls ≠ "java/lang/invoke/MethodHandle" ∧ yX11_crosses.cls ≠ "java/lang/invoke/VarHandle" ∧ (parseMethodDescriptor yX11_crosses.desc).map (fun d => d.parameters.length) = some 3 := by decide +kernel
theorem gw_918 : Cond.methodLink RX11 184 yX3_copy ∈ lwG := gw 918 (by decide +kernel) rfl
theorem gw_919 : Cond.methodLink RX11 192 yX0_begin ∈ lwG := gw 919 (by decide +kernel) rfl
theorem gw_922 : Cond.code yX0_begin cX0_begin 3 (Option.some (FieldType.array FieldType.int)) ∈ lwG := gw 922 (by decide +kernel) rfl
theorem gw_920 : Cond.instanceMethod yX0_begin ∈ lwG := gw 920 (by decide +kernel) rfl
theorem gw_921 : Cond.selects RX0 yX0_begin yX0_begin ∈ lwG := gw 921 (by decide +kernel) rfl
theorem pd_yX0_begin : yX0_begin.cls ≠ "java/lang/invoke/MethodHandle" ∧ yX0_begin.cls ≠ "java/lang/invoke/VarHandle" ∧ (parseMethodDescriptor yX0_begin.desc).map (fun d => d.parameters.length) = some 0 := by decide +kernel
theorem gw_941 : Cond.methodLink RX11 214 yX3_howMany ∈ lwG := gw 941 (by decide +kernel) rfl
theorem gw_944 : Cond.code yX3_howMany cX3_howMany 4 (Option.some FieldType.int) ∈ lwG := gw 944 (by decide +kernel) rfl
theorem gw_942 : Cond.instanceMethod yX3_howMany ∈ lwG := gw 942 (by decide +kernel) rfl
theorem gw_943 : Cond.selects RX3 yX3_howMany yX3_howMany ∈ lwG := gw 943 (by decide +kernel) rfl
theorem pd_yX3_howMany : yX3_howMany.cls ≠ "java/lang/invoke/MethodHandle" ∧ yX3_howMany.cls ≠ "java/lang/invoke/VarHandle" ∧ (parseMethodDescriptor yX3_howMany.desc).map (fun d => d.parameters.length) = some 1 := by decide +kernel
theorem gw_949 : Cond.methodLink RX11 222 yX3_howManyOf ∈ lwG := gw 949 (by decide +kernel) rfl
theorem gw_952 : Cond.code yX3_howManyOf cX3_howManyOf 4 (Option.some FieldType.int) ∈ lwG := gw 952 (by decide +kernel) rfl
theorem gw_950 : Cond.instanceMethod yX3_howManyOf ∈ lwG := gw 950 (by decide +kernel) rfl
theorem gw_951 : Cond.selects RX3 yX3_howManyOf yX3_howManyOf ∈ lwG := gw 951 (by decide +kernel) rfl
theorem pd_yX3_howManyOf : yX3_howManyOf.cls ≠ "java/lang/invoke/MethodHandle" ∧ yX3_howManyOf.cls ≠ "java/lang/invoke/VarHandle" ∧ (parseMethodDescriptor yX3_howManyOf.desc).map (fun d => d.parameters.length) = some 1 := by decide +kernel
theorem gw_957 : Cond.methodLink RX11 225 yX2_hasCell ∈ lwG := gw 957 (by decide +kernel) rfl
theorem gw_960 : Cond.code yX2_hasCell cX2_hasCell 2 (Option.some FieldType.boolean) ∈ lwG := gw 960 (by decide +kernel) rfl
theorem gw_958 : Cond.instanceMethod yX2_hasCell ∈ lwG := gw 958 (by decide +kernel) rfl
theorem gw_959 : Cond.selects RX2 yX2_hasCell yX2_hasCell ∈ lwG := gw 959 (by decide +kernel) rfl
theorem pd_yX2_hasCell : yX2_hasCell.cls ≠ "java/lang/invoke/MethodHandle" ∧ yX2_hasCell.cls ≠ "java/lang/invoke/VarHandle" ∧ (parseMethodDescriptor yX2_hasCell.desc).map (fun d => d.parameters.length) = some 1 := by decide +kernel
theorem gw_965 : Cond.methodLink RX11 235 yX1_areAlike ∈ lwG := gw 965 (by decide +kernel) rfl
theorem gw_111 : Cond.initialized RX1 ∈ lwG := gw 111 (by decide +kernel) rfl
theorem gw_968 : Cond.code yX1_areAlike cX1_areAlike 3 (Option.some FieldType.boolean) ∈ lwG := gw 968 (by decide +kernel) rfl
theorem gw_966 : Cond.instanceMethod yX1_areAlike ∈ lwG := gw 966 (by decide +kernel) rfl
theorem gw_967 : Cond.selects RX1 yX1_areAlike yX1_areAlike ∈ lwG := gw 967 (by decide +kernel) rfl
theorem pd_yX1_areAlike : yX1_areAlike.cls ≠ "java/lang/invoke/MethodHandle" ∧ yX1_areAlike.cls ≠ "java/lang/invoke/VarHandle" ∧ (parseMethodDescriptor yX1_areAlike.desc).map (fun d => d.parameters.length) = some 2 := by decide +kernel
theorem gw_969 : Cond.methodLink RX1 46 yX1_describe ∈ lwG := gw 969 (by decide +kernel) rfl
theorem gw_972 : Cond.code yX1_describe cX1_describe 7 (Option.none : Option FieldType) ∈ lwG := gw 972 (by decide +kernel) rfl
theorem gw_971 : Cond.instanceMethod yX1_describe ∈ lwG := gw 971 (by decide +kernel) rfl
theorem gw_27 : Cond.selects RX1 yX1_describe yX1_describe ∈ lwG := gw 27 (by decide +kernel) rfl
theorem pd_yX1_describe : yX1_describe.cls ≠ "java/lang/invoke/MethodHandle" ∧ yX1_describe.cls ≠ "java/lang/invoke/VarHandle" ∧ (parseMethodDescriptor yX1_describe.desc).map (fun d => d.parameters.length) = some 2 := by decide +kernel
theorem gw_973 : Cond.methodLink RX1 80 yX5_tell ∈ lwG := gw 973 (by decide +kernel) rfl
theorem gw_974 : Cond.methodLink RX1 87 yX2_fold ∈ lwG := gw 974 (by decide +kernel) rfl
theorem gw_975 : Cond.methodLink RX1 91 yJ7_fill_53178 ∈ lwG := gw 975 (by decide +kernel) rfl
theorem gw_976 : Cond.methodLink RX1 100 yX1_describeFrom ∈ lwG := gw 976 (by decide +kernel) rfl
theorem gw_979 : Cond.code yX1_describeFrom cX1_describeFrom 12 (Option.none : Option FieldType) ∈ lwG := gw 979 (by decide +kernel) rfl
theorem gw_978 : Cond.instanceMethod yX1_describeFrom ∈ lwG := gw 978 (by decide +kernel) rfl
theorem gw_28 : Cond.selects RX1 yX1_describeFrom yX1_describeFrom ∈ lwG := gw 28 (by decide +kernel) rfl
theorem pd_yX1_describeFrom : yX1_describeFrom.cls ≠ "java/lang/invoke/MethodHandle" ∧ yX1_describeFrom.cls ≠ "java/lang/invoke/VarHandle" ∧ (parseMethodDescriptor yX1_describeFrom.desc).map (fun d => d.parameters.length) = some 3 := by decide +kernel
theorem gw_981 : Cond.methodLink RX1 50 yX1_equal ∈ lwG := gw 981 (by decide +kernel) rfl
theorem gw_984 : Cond.code yX1_equal cX1_equal 4 (Option.some FieldType.boolean) ∈ lwG := gw 984 (by decide +kernel) rfl
theorem gw_983 : Cond.instanceMethod yX1_equal ∈ lwG := gw 983 (by decide +kernel) rfl
theorem gw_29 : Cond.selects RX1 yX1_equal yX1_equal ∈ lwG := gw 29 (by decide +kernel) rfl
theorem pd_yX1_equal : yX1_equal.cls ≠ "java/lang/invoke/MethodHandle" ∧ yX1_equal.cls ≠ "java/lang/invoke/VarHandle" ∧ (parseMethodDescriptor yX1_equal.desc).map (fun d => d.parameters.length) = some 2 := by decide +kernel
theorem gw_989 : Cond.methodLink RX11 238 yX1_work ∈ lwG := gw 989 (by decide +kernel) rfl
theorem gw_992 : Cond.code yX1_work cX1_work 2 (Option.some FieldType.boolean) ∈ lwG := gw 992 (by decide +kernel) rfl
theorem gw_990 : Cond.instanceMethod yX1_work ∈ lwG := gw 990 (by decide +kernel) rfl
theorem gw_991 : Cond.selects RX1 yX1_work yX1_work ∈ lwG := gw 991 (by decide +kernel) rfl
theorem pd_yX1_work : yX1_work.cls ≠ "java/lang/invoke/MethodHandle" ∧ yX1_work.cls ≠ "java/lang/invoke/VarHandle" ∧ (parseMethodDescriptor yX1_work.desc).map (fun d => d.parameters.length) = some 0 := by decide +kernel
theorem gw_993 : Cond.methodLink RX1 58 yX5_work ∈ lwG := gw 993 (by decide +kernel) rfl
theorem gw_994 : Cond.methodLink RX1 76 yX1_firstEqual ∈ lwG := gw 994 (by decide +kernel) rfl
theorem gw_997 : Cond.code yX1_firstEqual cX1_firstEqual 3 (Option.some FieldType.int) ∈ lwG := gw 997 (by decide +kernel) rfl
theorem gw_996 : Cond.instanceMethod yX1_firstEqual ∈ lwG := gw 996 (by decide +kernel) rfl
theorem gw_30 : Cond.selects RX1 yX1_firstEqual yX1_firstEqual ∈ lwG := gw 30 (by decide +kernel) rfl
theorem pd_yX1_firstEqual : yX1_firstEqual.cls ≠ "java/lang/invoke/MethodHandle" ∧ yX1_firstEqual.cls ≠ "java/lang/invoke/VarHandle" ∧ (parseMethodDescriptor yX1_firstEqual.desc).map (fun d => d.parameters.length) = some 1 := by decide +kernel
theorem gw_998 : Cond.methodLink RX11 240 yX1_leastAlike ∈ lwG := gw 998 (by decide +kernel) rfl
theorem gw_1001 : Cond.code yX1_leastAlike cX1_leastAlike 2 (Option.some FieldType.int) ∈ lwG := gw 1001 (by decide +kernel) rfl
theorem gw_999 : Cond.instanceMethod yX1_leastAlike ∈ lwG := gw 999 (by decide +kernel) rfl
theorem gw_1000 : Cond.selects RX1 yX1_leastAlike yX1_leastAlike ∈ lwG := gw 1000 (by decide +kernel) rfl
theorem pd_yX1_leastAlike : yX1_leastAlike.cls ≠ "java/lang/invoke/MethodHandle" ∧ yX1_leastAlike.cls ≠ "java/lang/invoke/VarHandle" ∧ (parseMethodDescriptor yX1_leastAlike.desc).map (fun d => d.parameters.length) = some 1 := by decide +kernel
theorem gw_1010 : Cond.methodLink RX11 246 yX10_isNear ∈ lwG := gw 1010 (by decide +kernel) rfl
theorem gw_112 : Cond.initialized RX10 ∈ lwG := gw 112 (by decide +kernel) rfl
theorem gw_1012 : Cond.code yX10_isNear cX10_isNear 1 (Option.some FieldType.boolean) ∈ lwG := gw 1012 (by decide +kernel) rfl
theorem gw_1011 : Cond.static yX10_isNear ∈ lwG := gw 1011 (by decide +kernel) rfl
theorem pd_yX10_isNear : yX10_isNear.cls ≠ "java/lang/invoke/MethodHandle" ∧ yX10_isNear.cls ≠ "java/lang/invoke/VarHandle" ∧ (parseMethodDescriptor yX10_isNear.desc).map (fun d => d.parameters.length) = some 1 := by decide +kernel
theorem gw_1013 : Cond.methodLink RX11 249 yX10_go ∈ lwG := gw 1013 (by decide +kernel) rfl
theorem gw_1016 : Cond.code yX10_go cX10_go 13 (Option.some FieldType.boolean) ∈ lwG := gw 1016 (by decide +kernel) rfl
theorem gw_1014 : Cond.instanceMethod yX10_go ∈ lwG := gw 1014 (by decide +kernel) rfl
theorem gw_1015 : Cond.selects RX10 yX10_go yX10_go ∈ lwG := gw 1015 (by decide +kernel) rfl
theorem pd_yX10_go : yX10_go.cls ≠ "java/lang/invoke/MethodHandle" ∧ yX10_go.cls ≠ "java/lang/invoke/VarHandle" ∧ (parseMethodDescriptor yX10_go.desc).map (fun d => d.parameters.length) = some 3 := by decide +kernel
theorem gw_1020 : Cond.methodLink RX10 49 yX10_cross ∈ lwG := gw 1020 (by decide +kernel) rfl
theorem gw_1023 : Cond.code yX10_cross cX10_cross 3 (Option.none : Option FieldType) ∈ lwG := gw 1023 (by decide +kernel) rfl
theorem gw_1022 : Cond.instanceMethod yX10_cross ∈ lwG := gw 1022 (by decide +kernel) rfl
theorem gw_31 : Cond.selects RX10 yX10_cross yX10_cross ∈ lwG := gw 31 (by decide +kernel) rfl
theorem pd_yX10_cross : yX10_cross.cls ≠ "java/lang/invoke/MethodHandle" ∧ yX10_cross.cls ≠ "java/lang/invoke/VarHandle" ∧ (parseMethodDescriptor yX10_cross.desc).map (fun d => d.parameters.length) = some 1 := by decide +kernel
theorem gw_1028 : Cond.methodLink RX11 266 yX10_look ∈ lwG := gw 1028 (by decide +kernel) rfl
theorem gw_1031 : Cond.code yX10_look cX10_look 5 (Option.none : Option FieldType) ∈ lwG := gw 1031 (by decide +kernel) rfl
theorem gw_1029 : Cond.instanceMethod yX10_look ∈ lwG := gw 1029 (by decide +kernel) rfl
theorem gw_1030 : Cond.selects RX10 yX10_look yX10_look ∈ lwG := gw 1030 (by decide +kernel) rfl
theorem pd_yX10_look : yX10_look.cls ≠ "java/lang/invoke/MethodHandle" ∧ yX10_look.cls ≠ "java/lang/invoke/VarHandle" ∧ (parseMethodDescriptor yX10_look.desc).map (fun d => d.parameters.length) = some 1 := by decide +kernel
theorem gw_1032 : Cond.methodLink RX10 59 yJ7_fill_53178 ∈ lwG := gw 1032 (by decide +kernel) rfl
theorem gw_1033 : Cond.methodLink RX10 65 yX10_go ∈ lwG := gw 1033 (by decide +kernel) rfl
theorem gw_1034 : Cond.methodLink RX10 69 yX10_keep ∈ lwG := gw 1034 (by decide +kernel) rfl
theorem gw_1037 : Cond.code yX10_keep cX10_keep 5 (Option.none : Option FieldType) ∈ lwG := gw 1037 (by decide +kernel) rfl
theorem gw_1036 : Cond.instanceMethod yX10_keep ∈ lwG := gw 1036 (by decide +kernel) rfl
theorem gw_32 : Cond.selects RX10 yX10_keep yX10_keep ∈ lwG := gw 32 (by decide +kernel) rfl
theorem pd_yX10_keep : yX10_keep.cls ≠ "java/lang/invoke/MethodHandle" ∧ yX10_keep.cls ≠ "java/lang/invoke/VarHandle" ∧ (parseMethodDescriptor yX10_keep.desc).map (fun d => d.parameters.length) = some 4 := by decide +kernel
theorem gw_1038 : Cond.methodLink RX11 280 yX10_farthestEnd ∈ lwG := gw 1038 (by decide +kernel) rfl
theorem gw_1041 : Cond.code yX10_farthestEnd cX10_farthestEnd 4 (Option.some FieldType.int) ∈ lwG := gw 1041 (by decide +kernel) rfl
theorem gw_1039 : Cond.instanceMethod yX10_farthestEnd ∈ lwG := gw 1039 (by decide +kernel) rfl
theorem gw_1040 : Cond.selects RX10 yX10_farthestEnd yX10_farthestEnd ∈ lwG := gw 1040 (by decide +kernel) rfl
theorem pd_yX10_farthestEnd : yX10_farthestEnd.cls ≠ "java/lang/invoke/MethodHandle" ∧ yX10_farthestEnd.cls ≠ "java/lang/invoke/VarHandle" ∧ (parseMethodDescriptor yX10_farthestEnd.desc).map (fun d => d.parameters.length) = some 0 := by decide +kernel
theorem gw_1046 : Cond.methodLink RX11 287 yX9_work ∈ lwG := gw 1046 (by decide +kernel) rfl
theorem gw_113 : Cond.initialized RX9 ∈ lwG := gw 113 (by decide +kernel) rfl
theorem gw_1049 : Cond.code yX9_work cX9_work 2 (Option.none : Option FieldType) ∈ lwG := gw 1049 (by decide +kernel) rfl
theorem gw_1047 : Cond.instanceMethod yX9_work ∈ lwG := gw 1047 (by decide +kernel) rfl
theorem gw_1048 : Cond.selects RX9 yX9_work yX9_work ∈ lwG := gw 1048 (by decide +kernel) rfl
theorem pd_yX9_work : yX9_work.cls ≠ "java/lang/invoke/MethodHandle" ∧ yX9_work.cls ≠ "java/lang/invoke/VarHandle" ∧ (parseMethodDescriptor yX9_work.desc).map (fun d => d.parameters.length) = some 0 := by decide +kernel
theorem gw_1050 : Cond.methodLink RX9 66 yJ7_fill_d0a16 ∈ lwG := gw 1050 (by decide +kernel) rfl
theorem gw_1052 : Cond.code yJ7_fill_d0a16 cJ7_fill_d0a16 5 (Option.none : Option FieldType) ∈ lwG := gw 1052 (by decide +kernel) rfl
theorem gw_1051 : Cond.static yJ7_fill_d0a16 ∈ lwG := gw 1051 (by decide +kernel) rfl
theorem pd_yJ7_fill_d0a16 : yJ7_fill_d0a16.cls ≠ "java/lang/invoke/MethodHandle" ∧ yJ7_fill_d0a16.cls ≠ "java/lang/invoke/VarHandle" ∧ (parseMethodDescriptor yJ7_fill_d0a16.desc).map (fun d => d.parameters.length) = some 2 := by decide +kernel
theorem gw_1053 : Cond.methodLink RX9 72 yX9_listPairs ∈ lwG := gw 1053 (by decide +kernel) rfl
theorem gw_1056 : Cond.code yX9_listPairs cX9_listPairs 3 (Option.none : Option FieldType) ∈ lwG := gw 1056 (by decide +kernel) rfl
theorem gw_1055 : Cond.instanceMethod yX9_listPairs ∈ lwG := gw 1055 (by decide +kernel) rfl
theorem gw_33 : Cond.selects RX9 yX9_listPairs yX9_listPairs ∈ lwG := gw 33 (by decide +kernel) rfl
theorem pd_yX9_listPairs : yX9_listPairs.cls ≠ "java/lang/invoke/MethodHandle" ∧ yX9_listPairs.cls ≠ "java/lang/invoke/VarHandle" ∧ (parseMethodDescriptor yX9_listPairs.desc).map (fun d => d.parameters.length) = some 0 := by decide +kernel
theorem gw_1057 : Cond.methodLink RX9 75 yX9_search ∈ lwG := gw 1057 (by decide +kernel) rfl
theorem gw_1060 : Cond.code yX9_search cX9_search 5 (Option.none : Option FieldType) ∈ lwG := gw 1060 (by decide +kernel) rfl
theorem gw_1059 : Cond.instanceMethod yX9_search ∈ lwG := gw 1059 (by decide +kernel) rfl
theorem gw_34 : Cond.selects RX9 yX9_search yX9_search ∈ lwG := gw 34 (by decide +kernel) rfl
theorem pd_yX9_search : yX9_search.cls ≠ "java/lang/invoke/MethodHandle" ∧ yX9_search.cls ≠ "java/lang/invoke/VarHandle" ∧ (parseMethodDescriptor yX9_search.desc).map (fun d => d.parameters.length) = some 2 := by decide +kernel
theorem gw_1061 : Cond.methodLink RX9 88 yX9_layFlat ∈ lwG := gw 1061 (by decide +kernel) rfl
theorem gw_1064 : Cond.code yX9_layFlat cX9_layFlat 7 (Option.none : Option FieldType) ∈ lwG := gw 1064 (by decide +kernel) rfl
theorem gw_1063 : Cond.instanceMethod yX9_layFlat ∈ lwG := gw 1063 (by decide +kernel) rfl
theorem gw_35 : Cond.selects RX9 yX9_layFlat yX9_layFlat ∈ lwG := gw 35 (by decide +kernel) rfl
theorem pd_yX9_layFlat : yX9_layFlat.cls ≠ "java/lang/invoke/MethodHandle" ∧ yX9_layFlat.cls ≠ "java/lang/invoke/VarHandle" ∧ (parseMethodDescriptor yX9_layFlat.desc).map (fun d => d.parameters.length) = some 0 := by decide +kernel
theorem gw_1065 : Cond.methodLink RX9 104 yJ7_fill_53178 ∈ lwG := gw 1065 (by decide +kernel) rfl
theorem gw_1066 : Cond.methodLink RX9 110 yX9_put ∈ lwG := gw 1066 (by decide +kernel) rfl
theorem gw_1069 : Cond.code yX9_put cX9_put 5 (Option.none : Option FieldType) ∈ lwG := gw 1069 (by decide +kernel) rfl
theorem gw_1068 : Cond.instanceMethod yX9_put ∈ lwG := gw 1068 (by decide +kernel) rfl
theorem gw_36 : Cond.selects RX9 yX9_put yX9_put ∈ lwG := gw 36 (by decide +kernel) rfl
theorem pd_yX9_put : yX9_put.cls ≠ "java/lang/invoke/MethodHandle" ∧ yX9_put.cls ≠ "java/lang/invoke/VarHandle" ∧ (parseMethodDescriptor yX9_put.desc).map (fun d => d.parameters.length) = some 4 := by decide +kernel
theorem gw_1072 : Cond.methodLink RX9 91 yX9_keepIfGood ∈ lwG := gw 1072 (by decide +kernel) rfl
theorem gw_1075 : Cond.code yX9_keepIfGood cX9_keepIfGood 6 (Option.none : Option FieldType) ∈ lwG := gw 1075 (by decide +kernel) rfl
theorem gw_1074 : Cond.instanceMethod yX9_keepIfGood ∈ lwG := gw 1074 (by decide +kernel) rfl
theorem gw_37 : Cond.selects RX9 yX9_keepIfGood yX9_keepIfGood ∈ lwG := gw 37 (by decide +kernel) rfl
theorem pd_yX9_keepIfGood : yX9_keepIfGood.cls ≠ "java/lang/invoke/MethodHandle" ∧ yX9_keepIfGood.cls ≠ "java/lang/invoke/VarHandle" ∧ (parseMethodDescriptor yX9_keepIfGood.desc).map (fun d => d.parameters.length) = some 0 := by decide +kernel
theorem gw_1076 : Cond.methodLink RX9 120 yX9_moveToCorner ∈ lwG := gw 1076 (by decide +kernel) rfl
theorem gw_1079 : Cond.code yX9_moveToCorner cX9_moveToCorner 4 (Option.none : Option FieldType) ∈ lwG := gw 1079 (by decide +kernel) rfl
theorem gw_1078 : Cond.instanceMethod yX9_moveToCorner ∈ lwG := gw 1078 (by decide +kernel) rfl
theorem gw_38 : Cond.selects RX9 yX9_moveToCorner yX9_moveToCorner ∈ lwG := gw 38 (by decide +kernel) rfl
theorem pd_yX9_moveToCorner : yX9_moveToCorner.cls ≠ "java/lang/invoke/MethodHandle" ∧ yX9_moveToCorner.cls ≠ "java/lang/invoke/VarHandle" ∧ (parseMethodDescriptor yX9_moveToCorner.desc).map (fun d => d.parameters.length) = some 1 := by decide +kernel
theorem gw_1081 : Cond.methodLink RX9 124 yX9_squaresSeen ∈ lwG := gw 1081 (by decide +kernel) rfl
theorem gw_1084 : Cond.code yX9_squaresSeen cX9_squaresSeen 9 (Option.some FieldType.long) ∈ lwG := gw 1084 (by decide +kernel) rfl
theorem gw_1083 : Cond.instanceMethod yX9_squaresSeen ∈ lwG := gw 1083 (by decide +kernel) rfl
theorem gw_39 : Cond.selects RX9 yX9_squaresSeen yX9_squaresSeen ∈ lwG := gw 39 (by decide +kernel) rfl
theorem pd_yX9_squaresSeen : yX9_squaresSeen.cls ≠ "java/lang/invoke/MethodHandle" ∧ yX9_squaresSeen.cls ≠ "java/lang/invoke/VarHandle" ∧ (parseMethodDescriptor yX9_squaresSeen.desc).map (fun d => d.parameters.length) = some 1 := by decide +kernel
theorem gw_1086 : Cond.methodLink RX9 128 yJ13_bitCount_95d88 ∈ lwG := gw 1086 (by decide +kernel) rfl
theorem gw_129 : Cond.initialized RJ13 ∈ lwG := gw 129 (by decide +kernel) rfl
theorem gw_1088 : Cond.code yJ13_bitCount_95d88 cJ13_bitCount_95d88 2 (Option.some FieldType.int) ∈ lwG := gw 1088 (by decide +kernel) rfl
theorem gw_1087 : Cond.static yJ13_bitCount_95d88 ∈ lwG := gw 1087 (by decide +kernel) rfl
theorem pd_yJ13_bitCount_95d88 : yJ13_bitCount_95d88.cls ≠ "java/lang/invoke/MethodHandle" ∧ yJ13_bitCount_95d88.cls ≠ "java/lang/invoke/VarHandle" ∧ (parseMethodDescriptor yJ13_bitCount_95d88.desc).map (fun d => d.parameters.length) = some 1 := by decide +kernel
theorem gw_1092 : Cond.methodLink RX9 134 yX9_keepNet ∈ lwG := gw 1092 (by decide +kernel) rfl
theorem gw_1095 : Cond.code yX9_keepNet cX9_keepNet 5 (Option.none : Option FieldType) ∈ lwG := gw 1095 (by decide +kernel) rfl
theorem gw_1094 : Cond.instanceMethod yX9_keepNet ∈ lwG := gw 1094 (by decide +kernel) rfl
theorem gw_40 : Cond.selects RX9 yX9_keepNet yX9_keepNet ∈ lwG := gw 40 (by decide +kernel) rfl
theorem pd_yX9_keepNet : yX9_keepNet.cls ≠ "java/lang/invoke/MethodHandle" ∧ yX9_keepNet.cls ≠ "java/lang/invoke/VarHandle" ∧ (parseMethodDescriptor yX9_keepNet.desc).map (fun d => d.parameters.length) = some 1 := by decide +kernel
theorem gw_1097 : Cond.methodLink RX9 94 yX9_joinGroups ∈ lwG := gw 1097 (by decide +kernel) rfl
theorem gw_1100 : Cond.code yX9_joinGroups cX9_joinGroups 7 (Option.none : Option FieldType) ∈ lwG := gw 1100 (by decide +kernel) rfl
theorem gw_1099 : Cond.instanceMethod yX9_joinGroups ∈ lwG := gw 1099 (by decide +kernel) rfl
theorem gw_41 : Cond.selects RX9 yX9_joinGroups yX9_joinGroups ∈ lwG := gw 41 (by decide +kernel) rfl
theorem pd_yX9_joinGroups : yX9_joinGroups.cls ≠ "java/lang/invoke/MethodHandle" ∧ yX9_joinGroups.cls ≠ "java/lang/invoke/VarHandle" ∧ (parseMethodDescriptor yX9_joinGroups.desc).map (fun d => d.parameters.length) = some 3 := by decide +kernel
theorem gw_1105 : Cond.methodLink RX11 298 yX6_lay ∈ lwG := gw 1105 (by decide +kernel) rfl
theorem gw_114 : Cond.initialized RX6 ∈ lwG := gw 114 (by decide +kernel) rfl
theorem gw_1108 : Cond.code yX6_lay cX6_lay 4 (Option.none : Option FieldType) ∈ lwG := gw 1108 (by decide +kernel) rfl
theorem gw_1106 : Cond.instanceMethod yX6_lay ∈ lwG := gw 1106 (by decide +kernel) rfl
theorem gw_1107 : Cond.selects RX6 yX6_lay yX6_lay ∈ lwG := gw 1107 (by decide +kernel) rfl
theorem pd_yX6_lay : yX6_lay.cls ≠ "java/lang/invoke/MethodHandle" ∧ yX6_lay.cls ≠ "java/lang/invoke/VarHandle" ∧ (parseMethodDescriptor yX6_lay.desc).map (fun d => d.parameters.length) = some 3 := by decide +kernel
theorem gw_1188 : Cond.methodLink RX11 274 yX10_tell ∈ lwG := gw 1188 (by decide +kernel) rfl
theorem gw_1191 : Cond.code yX10_tell cX10_tell 3 (Option.some FieldType.int) ∈ lwG := gw 1191 (by decide +kernel) rfl
theorem gw_1189 : Cond.instanceMethod yX10_tell ∈ lwG := gw 1189 (by decide +kernel) rfl
theorem gw_1190 : Cond.selects RX10 yX10_tell yX10_tell ∈ lwG := gw 1190 (by decide +kernel) rfl
theorem pd_yX10_tell : yX10_tell.cls ≠ "java/lang/invoke/MethodHandle" ∧ yX10_tell.cls ≠ "java/lang/invoke/VarHandle" ∧ (parseMethodDescriptor yX10_tell.desc).map (fun d => d.parameters.length) = some 2 := by decide +kernel
theorem gw_1209 : Cond.methodLink RX12 181 yX12_shapes ∈ lwG := gw 1209 (by decide +kernel) rfl
theorem gw_118 : Cond.initialized RX12 ∈ lwG := gw 118 (by decide +kernel) rfl
theorem gw_1212 : Cond.code yX12_shapes cX12_shapes 6 (Option.none : Option FieldType) ∈ lwG := gw 1212 (by decide +kernel) rfl
theorem gw_1211 : Cond.instanceMethod yX12_shapes ∈ lwG := gw 1211 (by decide +kernel) rfl
theorem gw_43 : Cond.selects RX12 yX12_shapes yX12_shapes ∈ lwG := gw 43 (by decide +kernel) rfl
theorem pd_yX12_shapes : yX12_shapes.cls ≠ "java/lang/invoke/MethodHandle" ∧ yX12_shapes.cls ≠ "java/lang/invoke/VarHandle" ∧ (parseMethodDescriptor yX12_shapes.desc).map (fun d => d.parameters.length) = some 0 := by decide +kernel
theorem gw_1213 : Cond.methodLink RX12 335 yX12_behind ∈ lwG := gw 1213 (by decide +kernel) rfl
theorem gw_1216 : Cond.code yX12_behind cX12_behind 3 (Option.some FieldType.int) ∈ lwG := gw 1216 (by decide +kernel) rfl
theorem gw_1215 : Cond.instanceMethod yX12_behind ∈ lwG := gw 1215 (by decide +kernel) rfl
theorem gw_44 : Cond.selects RX12 yX12_behind yX12_behind ∈ lwG := gw 44 (by decide +kernel) rfl
theorem pd_yX12_behind : yX12_behind.cls ≠ "java/lang/invoke/MethodHandle" ∧ yX12_behind.cls ≠ "java/lang/invoke/VarHandle" ∧ (parseMethodDescriptor yX12_behind.desc).map (fun d => d.parameters.length) = some 2 := by decide +kernel
theorem gw_1217 : Cond.methodLink RX12 323 yX12_east ∈ lwG := gw 1217 (by decide +kernel) rfl
theorem gw_1219 : Cond.code yX12_east cX12_east 1 (Option.some FieldType.int) ∈ lwG := gw 1219 (by decide +kernel) rfl
theorem gw_1218 : Cond.static yX12_east ∈ lwG := gw 1218 (by decide +kernel) rfl
theorem pd_yX12_east : yX12_east.cls ≠ "java/lang/invoke/MethodHandle" ∧ yX12_east.cls ≠ "java/lang/invoke/VarHandle" ∧ (parseMethodDescriptor yX12_east.desc).map (fun d => d.parameters.length) = some 1 := by decide +kernel
theorem gw_1220 : Cond.methodLink RX12 326 yX12_north ∈ lwG := gw 1220 (by decide +kernel) rfl
theorem gw_1222 : Cond.code yX12_north cX12_north 1 (Option.some FieldType.int) ∈ lwG := gw 1222 (by decide +kernel) rfl
theorem gw_1221 : Cond.static yX12_north ∈ lwG := gw 1221 (by decide +kernel) rfl
theorem pd_yX12_north : yX12_north.cls ≠ "java/lang/invoke/MethodHandle" ∧ yX12_north.cls ≠ "java/lang/invoke/VarHandle" ∧ (parseMethodDescriptor yX12_north.desc).map (fun d => d.parameters.length) = some 1 := by decide +kernel
theorem gw_1223 : Cond.methodLink RX12 329 yX12_cellAt ∈ lwG := gw 1223 (by decide +kernel) rfl
theorem gw_1226 : Cond.code yX12_cellAt cX12_cellAt 4 (Option.some FieldType.int) ∈ lwG := gw 1226 (by decide +kernel) rfl
theorem gw_1225 : Cond.instanceMethod yX12_cellAt ∈ lwG := gw 1225 (by decide +kernel) rfl
theorem gw_45 : Cond.selects RX12 yX12_cellAt yX12_cellAt ∈ lwG := gw 45 (by decide +kernel) rfl
theorem pd_yX12_cellAt : yX12_cellAt.cls ≠ "java/lang/invoke/MethodHandle" ∧ yX12_cellAt.cls ≠ "java/lang/invoke/VarHandle" ∧ (parseMethodDescriptor yX12_cellAt.desc).map (fun d => d.parameters.length) = some 2 := by decide +kernel
theorem gw_1496 : Cond.methodLink RX12 357 yX12_readsAll ∈ lwG := gw 1496 (by decide +kernel) rfl
theorem gw_1499 : Cond.code yX12_readsAll cX12_readsAll 1 (Option.some FieldType.boolean) ∈ lwG := gw 1499 (by decide +kernel) rfl
theorem gw_1498 : Cond.instanceMethod yX12_readsAll ∈ lwG := gw 1498 (by decide +kernel) rfl
theorem gw_46 : Cond.selects RX12 yX12_readsAll yX12_readsAll ∈ lwG := gw 46 (by decide +kernel) rfl
theorem pd_yX12_readsAll : yX12_readsAll.cls ≠ "java/lang/invoke/MethodHandle" ∧ yX12_readsAll.cls ≠ "java/lang/invoke/VarHandle" ∧ (parseMethodDescriptor yX12_readsAll.desc).map (fun d => d.parameters.length) = some 0 := by decide +kernel
theorem gw_1500 : Cond.methodLink RX12 266 yX12_nextToken ∈ lwG := gw 1500 (by decide +kernel) rfl
theorem gw_1503 : Cond.code yX12_nextToken cX12_nextToken 2 (Option.none : Option FieldType) ∈ lwG := gw 1503 (by decide +kernel) rfl
theorem gw_1502 : Cond.instanceMethod yX12_nextToken ∈ lwG := gw 1502 (by decide +kernel) rfl
theorem gw_47 : Cond.selects RX12 yX12_nextToken yX12_nextToken ∈ lwG := gw 47 (by decide +kernel) rfl
theorem pd_yX12_nextToken : yX12_nextToken.cls ≠ "java/lang/invoke/MethodHandle" ∧ yX12_nextToken.cls ≠ "java/lang/invoke/VarHandle" ∧ (parseMethodDescriptor yX12_nextToken.desc).map (fun d => d.parameters.length) = some 0 := by decide +kernel
theorem gw_1504 : Cond.methodLink RX12 211 yX12_signAt ∈ lwG := gw 1504 (by decide +kernel) rfl
theorem gw_1507 : Cond.code yX12_signAt cX12_signAt 2 (Option.some FieldType.int) ∈ lwG := gw 1507 (by decide +kernel) rfl
theorem gw_1506 : Cond.instanceMethod yX12_signAt ∈ lwG := gw 1506 (by decide +kernel) rfl
theorem gw_48 : Cond.selects RX12 yX12_signAt yX12_signAt ∈ lwG := gw 48 (by decide +kernel) rfl
theorem pd_yX12_signAt : yX12_signAt.cls ≠ "java/lang/invoke/MethodHandle" ∧ yX12_signAt.cls ≠ "java/lang/invoke/VarHandle" ∧ (parseMethodDescriptor yX12_signAt.desc).map (fun d => d.parameters.length) = some 1 := by decide +kernel
theorem gw_1510 : Cond.methodLink RX12 301 yX12_readsStep ∈ lwG := gw 1510 (by decide +kernel) rfl
theorem gw_1513 : Cond.code yX12_readsStep cX12_readsStep 7 (Option.some FieldType.boolean) ∈ lwG := gw 1513 (by decide +kernel) rfl
theorem gw_1512 : Cond.instanceMethod yX12_readsStep ∈ lwG := gw 1512 (by decide +kernel) rfl
theorem gw_49 : Cond.selects RX12 yX12_readsStep yX12_readsStep ∈ lwG := gw 49 (by decide +kernel) rfl
theorem pd_yX12_readsStep : yX12_readsStep.cls ≠ "java/lang/invoke/MethodHandle" ∧ yX12_readsStep.cls ≠ "java/lang/invoke/VarHandle" ∧ (parseMethodDescriptor yX12_readsStep.desc).map (fun d => d.parameters.length) = some 0 := by decide +kernel
theorem gw_1514 : Cond.methodLink RX12 288 yX12_kindAt ∈ lwG := gw 1514 (by decide +kernel) rfl
theorem gw_1517 : Cond.code yX12_kindAt cX12_kindAt 1 (Option.some FieldType.int) ∈ lwG := gw 1517 (by decide +kernel) rfl
theorem gw_1516 : Cond.instanceMethod yX12_kindAt ∈ lwG := gw 1516 (by decide +kernel) rfl
theorem gw_50 : Cond.selects RX12 yX12_kindAt yX12_kindAt ∈ lwG := gw 50 (by decide +kernel) rfl
theorem pd_yX12_kindAt : yX12_kindAt.cls ≠ "java/lang/invoke/MethodHandle" ∧ yX12_kindAt.cls ≠ "java/lang/invoke/VarHandle" ∧ (parseMethodDescriptor yX12_kindAt.desc).map (fun d => d.parameters.length) = some 0 := by decide +kernel
theorem gw_1519 : Cond.methodLink RX12 278 yX12_isWord ∈ lwG := gw 1519 (by decide +kernel) rfl
theorem gw_1522 : Cond.code yX12_isWord cX12_isWord 3 (Option.some FieldType.boolean) ∈ lwG := gw 1522 (by decide +kernel) rfl
theorem gw_1521 : Cond.instanceMethod yX12_isWord ∈ lwG := gw 1521 (by decide +kernel) rfl
theorem gw_51 : Cond.selects RX12 yX12_isWord yX12_isWord ∈ lwG := gw 51 (by decide +kernel) rfl
theorem pd_yX12_isWord : yX12_isWord.cls ≠ "java/lang/invoke/MethodHandle" ∧ yX12_isWord.cls ≠ "java/lang/invoke/VarHandle" ∧ (parseMethodDescriptor yX12_isWord.desc).map (fun d => d.parameters.length) = some 1 := by decide +kernel
theorem gw_1527 : Cond.methodLink RX12 256 yX12_fails ∈ lwG := gw 1527 (by decide +kernel) rfl
theorem gw_1530 : Cond.code yX12_fails cX12_fails 2 (Option.some FieldType.boolean) ∈ lwG := gw 1530 (by decide +kernel) rfl
theorem gw_1529 : Cond.instanceMethod yX12_fails ∈ lwG := gw 1529 (by decide +kernel) rfl
theorem gw_52 : Cond.selects RX12 yX12_fails yX12_fails ∈ lwG := gw 52 (by decide +kernel) rfl
theorem pd_yX12_fails : yX12_fails.cls ≠ "java/lang/invoke/MethodHandle" ∧ yX12_fails.cls ≠ "java/lang/invoke/VarHandle" ∧ (parseMethodDescriptor yX12_fails.desc).map (fun d => d.parameters.length) = some 1 := by decide +kernel
theorem gw_1531 : Cond.methodLink RX12 291 yX12_readsPlain ∈ lwG := gw 1531 (by decide +kernel) rfl
theorem gw_1534 : Cond.code yX12_readsPlain cX12_readsPlain 3 (Option.some FieldType.boolean) ∈ lwG := gw 1534 (by decide +kernel) rfl
theorem gw_1533 : Cond.instanceMethod yX12_readsPlain ∈ lwG := gw 1533 (by decide +kernel) rfl
theorem gw_53 : Cond.selects RX12 yX12_readsPlain yX12_readsPlain ∈ lwG := gw 53 (by decide +kernel) rfl
theorem pd_yX12_readsPlain : yX12_readsPlain.cls ≠ "java/lang/invoke/MethodHandle" ∧ yX12_readsPlain.cls ≠ "java/lang/invoke/VarHandle" ∧ (parseMethodDescriptor yX12_readsPlain.desc).map (fun d => d.parameters.length) = some 1 := by decide +kernel
theorem gw_1535 : Cond.methodLink RX12 285 yX12_readsE ∈ lwG := gw 1535 (by decide +kernel) rfl
theorem gw_1538 : Cond.code yX12_readsE cX12_readsE 6 (Option.some FieldType.boolean) ∈ lwG := gw 1538 (by decide +kernel) rfl
theorem gw_1537 : Cond.instanceMethod yX12_readsE ∈ lwG := gw 1537 (by decide +kernel) rfl
theorem gw_54 : Cond.selects RX12 yX12_readsE yX12_readsE ∈ lwG := gw 54 (by decide +kernel) rfl
theorem pd_yX12_readsE : yX12_readsE.cls ≠ "java/lang/invoke/MethodHandle" ∧ yX12_readsE.cls ≠ "java/lang/invoke/VarHandle" ∧ (parseMethodDescriptor yX12_readsE.desc).map (fun d => d.parameters.length) = some 1 := by decide +kernel
theorem gw_1539 : Cond.methodLink RX12 248 yX12_isSign ∈ lwG := gw 1539 (by decide +kernel) rfl
theorem gw_1542 : Cond.code yX12_isSign cX12_isSign 2 (Option.some FieldType.boolean) ∈ lwG := gw 1542 (by decide +kernel) rfl
theorem gw_1541 : Cond.instanceMethod yX12_isSign ∈ lwG := gw 1541 (by decide +kernel) rfl
theorem gw_55 : Cond.selects RX12 yX12_isSign yX12_isSign ∈ lwG := gw 55 (by decide +kernel) rfl
theorem pd_yX12_isSign : yX12_isSign.cls ≠ "java/lang/invoke/MethodHandle" ∧ yX12_isSign.cls ≠ "java/lang/invoke/VarHandle" ∧ (parseMethodDescriptor yX12_isSign.desc).map (fun d => d.parameters.length) = some 1 := by decide +kernel
theorem gw_1543 : Cond.methodLink RX12 252 yX12_isKept ∈ lwG := gw 1543 (by decide +kernel) rfl
theorem gw_1546 : Cond.code yX12_isKept cX12_isKept 1 (Option.some FieldType.boolean) ∈ lwG := gw 1546 (by decide +kernel) rfl
theorem gw_1545 : Cond.instanceMethod yX12_isKept ∈ lwG := gw 1545 (by decide +kernel) rfl
theorem gw_56 : Cond.selects RX12 yX12_isKept yX12_isKept ∈ lwG := gw 56 (by decide +kernel) rfl
theorem pd_yX12_isKept : yX12_isKept.cls ≠ "java/lang/invoke/MethodHandle" ∧ yX12_isKept.cls ≠ "java/lang/invoke/VarHandle" ∧ (parseMethodDescriptor yX12_isKept.desc).map (fun d => d.parameters.length) = some 0 := by decide +kernel
theorem gw_1547 : Cond.methodLink RX12 259 yX12_nameOf ∈ lwG := gw 1547 (by decide +kernel) rfl
theorem gw_1550 : Cond.code yX12_nameOf cX12_nameOf 2 (Option.some FieldType.int) ∈ lwG := gw 1550 (by decide +kernel) rfl
theorem gw_1549 : Cond.instanceMethod yX12_nameOf ∈ lwG := gw 1549 (by decide +kernel) rfl
theorem gw_57 : Cond.selects RX12 yX12_nameOf yX12_nameOf ∈ lwG := gw 57 (by decide +kernel) rfl
theorem pd_yX12_nameOf : yX12_nameOf.cls ≠ "java/lang/invoke/MethodHandle" ∧ yX12_nameOf.cls ≠ "java/lang/invoke/VarHandle" ∧ (parseMethodDescriptor yX12_nameOf.desc).map (fun d => d.parameters.length) = some 0 := by decide +kernel
theorem gw_1551 : Cond.methodLink RX12 263 yX12_puts ∈ lwG := gw 1551 (by decide +kernel) rfl
theorem gw_1554 : Cond.code yX12_puts cX12_puts 2 (Option.none : Option FieldType) ∈ lwG := gw 1554 (by decide +kernel) rfl
theorem gw_1553 : Cond.instanceMethod yX12_puts ∈ lwG := gw 1553 (by decide +kernel) rfl
theorem gw_58 : Cond.selects RX12 yX12_puts yX12_puts ∈ lwG := gw 58 (by decide +kernel) rfl
theorem pd_yX12_puts : yX12_puts.cls ≠ "java/lang/invoke/MethodHandle" ∧ yX12_puts.cls ≠ "java/lang/invoke/VarHandle" ∧ (parseMethodDescriptor yX12_puts.desc).map (fun d => d.parameters.length) = some 1 := by decide +kernel
theorem gw_1555 : Cond.methodLink RX12 294 yX12_needsName ∈ lwG := gw 1555 (by decide +kernel) rfl
theorem gw_1558 : Cond.code yX12_needsName cX12_needsName 2 (Option.some FieldType.int) ∈ lwG := gw 1558 (by decide +kernel) rfl
theorem gw_1557 : Cond.instanceMethod yX12_needsName ∈ lwG := gw 1557 (by decide +kernel) rfl
theorem gw_59 : Cond.selects RX12 yX12_needsName yX12_needsName ∈ lwG := gw 59 (by decide +kernel) rfl
theorem pd_yX12_needsName : yX12_needsName.cls ≠ "java/lang/invoke/MethodHandle" ∧ yX12_needsName.cls ≠ "java/lang/invoke/VarHandle" ∧ (parseMethodDescriptor yX12_needsName.desc).map (fun d => d.parameters.length) = some 0 := by decide +kernel
theorem gw_1559 : Cond.methodLink RX12 297 yX12_tells ∈ lwG := gw 1559 (by decide +kernel) rfl
theorem gw_1562 : Cond.code yX12_tells cX12_tells 4 (Option.none : Option FieldType) ∈ lwG := gw 1562 (by decide +kernel) rfl
theorem gw_1561 : Cond.instanceMethod yX12_tells ∈ lwG := gw 1561 (by decide +kernel) rfl
theorem gw_60 : Cond.selects RX12 yX12_tells yX12_tells ∈ lwG := gw 60 (by decide +kernel) rfl
theorem pd_yX12_tells : yX12_tells.cls ≠ "java/lang/invoke/MethodHandle" ∧ yX12_tells.cls ≠ "java/lang/invoke/VarHandle" ∧ (parseMethodDescriptor yX12_tells.desc).map (fun d => d.parameters.length) = some 2 := by decide +kernel
theorem gw_1564 : Cond.methodLink RX12 360 yX12_works ∈ lwG := gw 1564 (by decide +kernel) rfl
theorem gw_1567 : Cond.code yX12_works cX12_works 6 (Option.some FieldType.boolean) ∈ lwG := gw 1567 (by decide +kernel) rfl
theorem gw_1566 : Cond.instanceMethod yX12_works ∈ lwG := gw 1566 (by decide +kernel) rfl
theorem gw_61 : Cond.selects RX12 yX12_works yX12_works ∈ lwG := gw 61 (by decide +kernel) rfl
theorem pd_yX12_works : yX12_works.cls ≠ "java/lang/invoke/MethodHandle" ∧ yX12_works.cls ≠ "java/lang/invoke/VarHandle" ∧ (parseMethodDescriptor yX12_works.desc).map (fun d => d.parameters.length) = some 0 := by decide +kernel
theorem gw_1568 : Cond.methodLink RX12 318 yX12_does ∈ lwG := gw 1568 (by decide +kernel) rfl
theorem gw_1571 : Cond.code yX12_does cX12_does 8 (Option.some FieldType.boolean) ∈ lwG := gw 1571 (by decide +kernel) rfl
theorem gw_1570 : Cond.instanceMethod yX12_does ∈ lwG := gw 1570 (by decide +kernel) rfl
theorem gw_62 : Cond.selects RX12 yX12_does yX12_does ∈ lwG := gw 62 (by decide +kernel) rfl
theorem pd_yX12_does : yX12_does.cls ≠ "java/lang/invoke/MethodHandle" ∧ yX12_does.cls ≠ "java/lang/invoke/VarHandle" ∧ (parseMethodDescriptor yX12_does.desc).map (fun d => d.parameters.length) = some 1 := by decide +kernel
theorem gw_1572 : Cond.methodLink RX12 304 yX12_worked ∈ lwG := gw 1572 (by decide +kernel) rfl
theorem gw_1575 : Cond.code yX12_worked cX12_worked 6 (Option.some FieldType.int) ∈ lwG := gw 1575 (by decide +kernel) rfl
theorem gw_1574 : Cond.instanceMethod yX12_worked ∈ lwG := gw 1574 (by decide +kernel) rfl
theorem gw_63 : Cond.selects RX12 yX12_worked yX12_worked ∈ lwG := gw 63 (by decide +kernel) rfl
theorem pd_yX12_worked : yX12_worked.cls ≠ "java/lang/invoke/MethodHandle" ∧ yX12_worked.cls ≠ "java/lang/invoke/VarHandle" ∧ (parseMethodDescriptor yX12_worked.desc).map (fun d => d.parameters.length) = some 1 := by decide +kernel
theorem gw_1576 : Cond.methodLink RX12 242 yX12_opens ∈ lwG := gw 1576 (by decide +kernel) rfl
theorem gw_1579 : Cond.code yX12_opens cX12_opens 2 (Option.none : Option FieldType) ∈ lwG := gw 1579 (by decide +kernel) rfl
theorem gw_1578 : Cond.instanceMethod yX12_opens ∈ lwG := gw 1578 (by decide +kernel) rfl
theorem gw_64 : Cond.selects RX12 yX12_opens yX12_opens ∈ lwG := gw 64 (by decide +kernel) rfl
theorem pd_yX12_opens : yX12_opens.cls ≠ "java/lang/invoke/MethodHandle" ∧ yX12_opens.cls ≠ "java/lang/invoke/VarHandle" ∧ (parseMethodDescriptor yX12_opens.desc).map (fun d => d.parameters.length) = some 1 := by decide +kernel
theorem gw_1580 : Cond.methodLink RX12 238 yX12_sums ∈ lwG := gw 1580 (by decide +kernel) rfl
theorem gw_1583 : Cond.code yX12_sums cX12_sums 2 (Option.none : Option FieldType) ∈ lwG := gw 1583 (by decide +kernel) rfl
theorem gw_1582 : Cond.instanceMethod yX12_sums ∈ lwG := gw 1582 (by decide +kernel) rfl
theorem gw_65 : Cond.selects RX12 yX12_sums yX12_sums ∈ lwG := gw 65 (by decide +kernel) rfl
theorem pd_yX12_sums : yX12_sums.cls ≠ "java/lang/invoke/MethodHandle" ∧ yX12_sums.cls ≠ "java/lang/invoke/VarHandle" ∧ (parseMethodDescriptor yX12_sums.desc).map (fun d => d.parameters.length) = some 1 := by decide +kernel
theorem gw_1584 : Cond.methodLink RX12 245 yX12_tests ∈ lwG := gw 1584 (by decide +kernel) rfl
theorem gw_1587 : Cond.code yX12_tests cX12_tests 3 (Option.none : Option FieldType) ∈ lwG := gw 1587 (by decide +kernel) rfl
theorem gw_1586 : Cond.instanceMethod yX12_tests ∈ lwG := gw 1586 (by decide +kernel) rfl
theorem gw_66 : Cond.selects RX12 yX12_tests yX12_tests ∈ lwG := gw 66 (by decide +kernel) rfl
theorem pd_yX12_tests : yX12_tests.cls ≠ "java/lang/invoke/MethodHandle" ∧ yX12_tests.cls ≠ "java/lang/invoke/VarHandle" ∧ (parseMethodDescriptor yX12_tests.desc).map (fun d => d.parameters.length) = some 1 := by decide +kernel
theorem gw_1588 : Cond.methodLink RX12 307 yX12_within ∈ lwG := gw 1588 (by decide +kernel) rfl
theorem gw_1590 : Cond.code yX12_within cX12_within 3 (Option.some FieldType.boolean) ∈ lwG := gw 1590 (by decide +kernel) rfl
theorem gw_1589 : Cond.static yX12_within ∈ lwG := gw 1589 (by decide +kernel) rfl
theorem pd_yX12_within : yX12_within.cls ≠ "java/lang/invoke/MethodHandle" ∧ yX12_within.cls ≠ "java/lang/invoke/VarHandle" ∧ (parseMethodDescriptor yX12_within.desc).map (fun d => d.parameters.length) = some 3 := by decide +kernel
theorem gw_1591 : Cond.methodLink RX12 311 yX12_wrongAt ∈ lwG := gw 1591 (by decide +kernel) rfl
theorem gw_1594 : Cond.code yX12_wrongAt cX12_wrongAt 3 (Option.some FieldType.boolean) ∈ lwG := gw 1594 (by decide +kernel) rfl
theorem gw_1593 : Cond.instanceMethod yX12_wrongAt ∈ lwG := gw 1593 (by decide +kernel) rfl
theorem gw_67 : Cond.selects RX12 yX12_wrongAt yX12_wrongAt ∈ lwG := gw 67 (by decide +kernel) rfl
theorem pd_yX12_wrongAt : yX12_wrongAt.cls ≠ "java/lang/invoke/MethodHandle" ∧ yX12_wrongAt.cls ≠ "java/lang/invoke/VarHandle" ∧ (parseMethodDescriptor yX12_wrongAt.desc).map (fun d => d.parameters.length) = some 2 := by decide +kernel
theorem gw_1596 : Cond.methodLink RX12 363 yX12_lays ∈ lwG := gw 1596 (by decide +kernel) rfl
theorem gw_1599 : Cond.code yX12_lays cX12_lays 2 (Option.some FieldType.int) ∈ lwG := gw 1599 (by decide +kernel) rfl
theorem gw_1598 : Cond.instanceMethod yX12_lays ∈ lwG := gw 1598 (by decide +kernel) rfl
theorem gw_68 : Cond.selects RX12 yX12_lays yX12_lays ∈ lwG := gw 68 (by decide +kernel) rfl
theorem pd_yX12_lays : yX12_lays.cls ≠ "java/lang/invoke/MethodHandle" ∧ yX12_lays.cls ≠ "java/lang/invoke/VarHandle" ∧ (parseMethodDescriptor yX12_lays.desc).map (fun d => d.parameters.length) = some 0 := by decide +kernel
theorem gw_1600 : Cond.methodLink RX12 348 yX12_hangs ∈ lwG := gw 1600 (by decide +kernel) rfl
theorem gw_1603 : Cond.code yX12_hangs cX12_hangs 5 (Option.some FieldType.boolean) ∈ lwG := gw 1603 (by decide +kernel) rfl
theorem gw_1602 : Cond.instanceMethod yX12_hangs ∈ lwG := gw 1602 (by decide +kernel) rfl
theorem gw_69 : Cond.selects RX12 yX12_hangs yX12_hangs ∈ lwG := gw 69 (by decide +kernel) rfl
theorem pd_yX12_hangs : yX12_hangs.cls ≠ "java/lang/invoke/MethodHandle" ∧ yX12_hangs.cls ≠ "java/lang/invoke/VarHandle" ∧ (parseMethodDescriptor yX12_hangs.desc).map (fun d => d.parameters.length) = some 0 := by decide +kernel
theorem gw_1604 : Cond.methodLink RX12 351 yX12_rimmed ∈ lwG := gw 1604 (by decide +kernel) rfl
theorem gw_1607 : Cond.code yX12_rimmed cX12_rimmed 7 (Option.some FieldType.int) ∈ lwG := gw 1607 (by decide +kernel) rfl
theorem gw_1606 : Cond.instanceMethod yX12_rimmed ∈ lwG := gw 1606 (by decide +kernel) rfl
theorem gw_70 : Cond.selects RX12 yX12_rimmed yX12_rimmed ∈ lwG := gw 70 (by decide +kernel) rfl
theorem pd_yX12_rimmed : yX12_rimmed.cls ≠ "java/lang/invoke/MethodHandle" ∧ yX12_rimmed.cls ≠ "java/lang/invoke/VarHandle" ∧ (parseMethodDescriptor yX12_rimmed.desc).map (fun d => d.parameters.length) = some 0 := by decide +kernel
theorem gw_1608 : Cond.methodLink RX12 354 yX12_openSides ∈ lwG := gw 1608 (by decide +kernel) rfl
theorem gw_1611 : Cond.code yX12_openSides cX12_openSides 4 (Option.some FieldType.int) ∈ lwG := gw 1611 (by decide +kernel) rfl
theorem gw_1610 : Cond.instanceMethod yX12_openSides ∈ lwG := gw 1610 (by decide +kernel) rfl
theorem gw_71 : Cond.selects RX12 yX12_openSides yX12_openSides ∈ lwG := gw 71 (by decide +kernel) rfl
theorem pd_yX12_openSides : yX12_openSides.cls ≠ "java/lang/invoke/MethodHandle" ∧ yX12_openSides.cls ≠ "java/lang/invoke/VarHandle" ∧ (parseMethodDescriptor yX12_openSides.desc).map (fun d => d.parameters.length) = some 0 := by decide +kernel
theorem gw_1616 : Cond.methodLink RX12 366 yX12_isCell ∈ lwG := gw 1616 (by decide +kernel) rfl
theorem gw_1619 : Cond.code yX12_isCell cX12_isCell 2 (Option.some FieldType.boolean) ∈ lwG := gw 1619 (by decide +kernel) rfl
theorem gw_1618 : Cond.instanceMethod yX12_isCell ∈ lwG := gw 1618 (by decide +kernel) rfl
theorem gw_72 : Cond.selects RX12 yX12_isCell yX12_isCell ∈ lwG := gw 72 (by decide +kernel) rfl
theorem pd_yX12_isCell : yX12_isCell.cls ≠ "java/lang/invoke/MethodHandle" ∧ yX12_isCell.cls ≠ "java/lang/invoke/VarHandle" ∧ (parseMethodDescriptor yX12_isCell.desc).map (fun d => d.parameters.length) = some 1 := by decide +kernel
theorem gw_1624 : Cond.methodLink RX12 369 yX12_isEdge ∈ lwG := gw 1624 (by decide +kernel) rfl
theorem gw_1627 : Cond.code yX12_isEdge cX12_isEdge 2 (Option.some FieldType.boolean) ∈ lwG := gw 1627 (by decide +kernel) rfl
theorem gw_1626 : Cond.instanceMethod yX12_isEdge ∈ lwG := gw 1626 (by decide +kernel) rfl
theorem gw_73 : Cond.selects RX12 yX12_isEdge yX12_isEdge ∈ lwG := gw 73 (by decide +kernel) rfl
theorem pd_yX12_isEdge : yX12_isEdge.cls ≠ "java/lang/invoke/MethodHandle" ∧ yX12_isEdge.cls ≠ "java/lang/invoke/VarHandle" ∧ (parseMethodDescriptor yX12_isEdge.desc).map (fun d => d.parameters.length) = some 1 := by decide +kernel
theorem gw_1632 : Cond.methodLink RX12 382 yX12_corners ∈ lwG := gw 1632 (by decide +kernel) rfl
theorem gw_1635 : Cond.code yX12_corners cX12_corners 4 (Option.some FieldType.boolean) ∈ lwG := gw 1635 (by decide +kernel) rfl
theorem gw_1634 : Cond.instanceMethod yX12_corners ∈ lwG := gw 1634 (by decide +kernel) rfl
theorem gw_74 : Cond.selects RX12 yX12_corners yX12_corners ∈ lwG := gw 74 (by decide +kernel) rfl
theorem pd_yX12_corners : yX12_corners.cls ≠ "java/lang/invoke/MethodHandle" ∧ yX12_corners.cls ≠ "java/lang/invoke/VarHandle" ∧ (parseMethodDescriptor yX12_corners.desc).map (fun d => d.parameters.length) = some 1 := by decide +kernel
theorem gw_1636 : Cond.methodLink RX12 375 yX12_joins ∈ lwG := gw 1636 (by decide +kernel) rfl
theorem gw_1639 : Cond.code yX12_joins cX12_joins 8 (Option.none : Option FieldType) ∈ lwG := gw 1639 (by decide +kernel) rfl
theorem gw_1638 : Cond.instanceMethod yX12_joins ∈ lwG := gw 1638 (by decide +kernel) rfl
theorem gw_75 : Cond.selects RX12 yX12_joins yX12_joins ∈ lwG := gw 75 (by decide +kernel) rfl
theorem pd_yX12_joins : yX12_joins.cls ≠ "java/lang/invoke/MethodHandle" ∧ yX12_joins.cls ≠ "java/lang/invoke/VarHandle" ∧ (parseMethodDescriptor yX12_joins.desc).map (fun d => d.parameters.length) = some 2 := by decide +kernel
theorem gw_1641 : Cond.methodLink RX12 379 yX12_together ∈ lwG := gw 1641 (by decide +kernel) rfl
theorem gw_1644 : Cond.code yX12_together cX12_together 4 (Option.some FieldType.int) ∈ lwG := gw 1644 (by decide +kernel) rfl
theorem gw_1643 : Cond.instanceMethod yX12_together ∈ lwG := gw 1643 (by decide +kernel) rfl
theorem gw_76 : Cond.selects RX12 yX12_together yX12_together ∈ lwG := gw 76 (by decide +kernel) rfl
theorem pd_yX12_together : yX12_together.cls ≠ "java/lang/invoke/MethodHandle" ∧ yX12_together.cls ≠ "java/lang/invoke/VarHandle" ∧ (parseMethodDescriptor yX12_together.desc).map (fun d => d.parameters.length) = some 1 := by decide +kernel
theorem gw_1649 : Cond.methodLink RX12 399 yX12_isListed ∈ lwG := gw 1649 (by decide +kernel) rfl
theorem gw_1652 : Cond.code yX12_isListed cX12_isListed 2 (Option.some FieldType.boolean) ∈ lwG := gw 1652 (by decide +kernel) rfl
theorem gw_1651 : Cond.instanceMethod yX12_isListed ∈ lwG := gw 1651 (by decide +kernel) rfl
theorem gw_77 : Cond.selects RX12 yX12_isListed yX12_isListed ∈ lwG := gw 77 (by decide +kernel) rfl
theorem pd_yX12_isListed : yX12_isListed.cls ≠ "java/lang/invoke/MethodHandle" ∧ yX12_isListed.cls ≠ "java/lang/invoke/VarHandle" ∧ (parseMethodDescriptor yX12_isListed.desc).map (fun d => d.parameters.length) = some 0 := by decide +kernel
theorem gw_1653 : Cond.methodLink RX12 393 yX12_pairs ∈ lwG := gw 1653 (by decide +kernel) rfl
theorem gw_1656 : Cond.code yX12_pairs cX12_pairs 4 (Option.none : Option FieldType) ∈ lwG := gw 1656 (by decide +kernel) rfl
theorem gw_1655 : Cond.instanceMethod yX12_pairs ∈ lwG := gw 1655 (by decide +kernel) rfl
theorem gw_78 : Cond.selects RX12 yX12_pairs yX12_pairs ∈ lwG := gw 78 (by decide +kernel) rfl
theorem pd_yX12_pairs : yX12_pairs.cls ≠ "java/lang/invoke/MethodHandle" ∧ yX12_pairs.cls ≠ "java/lang/invoke/VarHandle" ∧ (parseMethodDescriptor yX12_pairs.desc).map (fun d => d.parameters.length) = some 1 := by decide +kernel
theorem gw_1657 : Cond.methodLink RX12 389 yX12_crosses ∈ lwG := gw 1657 (by decide +kernel) rfl
theorem gw_1660 : Cond.code yX12_crosses cX12_crosses 5 (Option.some FieldType.boolean) ∈ lwG := gw 1660 (by decide +kernel) rfl
theorem gw_1659 : Cond.instanceMethod yX12_crosses ∈ lwG := gw 1659 (by decide +kernel) rfl
theorem gw_79 : Cond.selects RX12 yX12_crosses yX12_crosses ∈ lwG := gw 79 (by decide +kernel) rfl
theorem pd_yX12_crosses : yX12_crosses.cls ≠ "java/lang/invoke/MethodHandle" ∧ yX12_crosses.cls ≠ "java/lang/invoke/VarHandle" ∧ (parseMethodDescriptor yX12_crosses.desc).map (fun d => d.parameters.length) = some 3 := by decide +kernel
theorem gw_1665 : Cond.methodLink RX12 401 yX12_isGluing ∈ lwG := gw 1665 (by decide +kernel) rfl
theorem gw_1668 : Cond.code yX12_isGluing cX12_isGluing 2 (Option.some FieldType.boolean) ∈ lwG := gw 1668 (by decide +kernel) rfl
theorem gw_1667 : Cond.instanceMethod yX12_isGluing ∈ lwG := gw 1667 (by decide +kernel) rfl
theorem gw_80 : Cond.selects RX12 yX12_isGluing yX12_isGluing ∈ lwG := gw 80 (by decide +kernel) rfl
theorem pd_yX12_isGluing : yX12_isGluing.cls ≠ "java/lang/invoke/MethodHandle" ∧ yX12_isGluing.cls ≠ "java/lang/invoke/VarHandle" ∧ (parseMethodDescriptor yX12_isGluing.desc).map (fun d => d.parameters.length) = some 1 := by decide +kernel
theorem gw_1673 : Cond.methodLink RX12 408 yX12_refused ∈ lwG := gw 1673 (by decide +kernel) rfl
theorem gw_1676 : Cond.code yX12_refused cX12_refused 4 (Option.some FieldType.int) ∈ lwG := gw 1676 (by decide +kernel) rfl
theorem gw_1675 : Cond.instanceMethod yX12_refused ∈ lwG := gw 1675 (by decide +kernel) rfl
theorem gw_81 : Cond.selects RX12 yX12_refused yX12_refused ∈ lwG := gw 81 (by decide +kernel) rfl
theorem pd_yX12_refused : yX12_refused.cls ≠ "java/lang/invoke/MethodHandle" ∧ yX12_refused.cls ≠ "java/lang/invoke/VarHandle" ∧ (parseMethodDescriptor yX12_refused.desc).map (fun d => d.parameters.length) = some 2 := by decide +kernel
theorem gw_1677 : Cond.methodLink RX12 411 yX12_remembers ∈ lwG := gw 1677 (by decide +kernel) rfl
theorem gw_1680 : Cond.code yX12_remembers cX12_remembers 2 (Option.none : Option FieldType) ∈ lwG := gw 1680 (by decide +kernel) rfl
theorem gw_1679 : Cond.instanceMethod yX12_remembers ∈ lwG := gw 1679 (by decide +kernel) rfl
theorem gw_82 : Cond.selects RX12 yX12_remembers yX12_remembers ∈ lwG := gw 82 (by decide +kernel) rfl
theorem pd_yX12_remembers : yX12_remembers.cls ≠ "java/lang/invoke/MethodHandle" ∧ yX12_remembers.cls ≠ "java/lang/invoke/VarHandle" ∧ (parseMethodDescriptor yX12_remembers.desc).map (fun d => d.parameters.length) = some 0 := by decide +kernel
theorem gw_1681 : Cond.methodLink RX12 404 yX12_keeps ∈ lwG := gw 1681 (by decide +kernel) rfl
theorem gw_1684 : Cond.code yX12_keeps cX12_keeps 4 (Option.none : Option FieldType) ∈ lwG := gw 1684 (by decide +kernel) rfl
theorem gw_1683 : Cond.instanceMethod yX12_keeps ∈ lwG := gw 1683 (by decide +kernel) rfl
theorem gw_83 : Cond.selects RX12 yX12_keeps yX12_keeps ∈ lwG := gw 83 (by decide +kernel) rfl
theorem pd_yX12_keeps : yX12_keeps.cls ≠ "java/lang/invoke/MethodHandle" ∧ yX12_keeps.cls ≠ "java/lang/invoke/VarHandle" ∧ (parseMethodDescriptor yX12_keeps.desc).map (fun d => d.parameters.length) = some 2 := by decide +kernel
theorem gw_1693 : Cond.methodLink RX12 414 yX12_brings ∈ lwG := gw 1693 (by decide +kernel) rfl
theorem gw_1696 : Cond.code yX12_brings cX12_brings 4 (Option.none : Option FieldType) ∈ lwG := gw 1696 (by decide +kernel) rfl
theorem gw_1695 : Cond.instanceMethod yX12_brings ∈ lwG := gw 1695 (by decide +kernel) rfl
theorem gw_84 : Cond.selects RX12 yX12_brings yX12_brings ∈ lwG := gw 84 (by decide +kernel) rfl
theorem pd_yX12_brings : yX12_brings.cls ≠ "java/lang/invoke/MethodHandle" ∧ yX12_brings.cls ≠ "java/lang/invoke/VarHandle" ∧ (parseMethodDescriptor yX12_brings.desc).map (fun d => d.parameters.length) = some 2 := by decide +kernel
theorem gw_1705 : Cond.methodLink RX12 420 yX12_isBody ∈ lwG := gw 1705 (by decide +kernel) rfl
theorem gw_1708 : Cond.code yX12_isBody cX12_isBody 1 (Option.some FieldType.boolean) ∈ lwG := gw 1708 (by decide +kernel) rfl
theorem gw_1707 : Cond.instanceMethod yX12_isBody ∈ lwG := gw 1707 (by decide +kernel) rfl
theorem gw_85 : Cond.selects RX12 yX12_isBody yX12_isBody ∈ lwG := gw 85 (by decide +kernel) rfl
theorem pd_yX12_isBody : yX12_isBody.cls ≠ "java/lang/invoke/MethodHandle" ∧ yX12_isBody.cls ≠ "java/lang/invoke/VarHandle" ∧ (parseMethodDescriptor yX12_isBody.desc).map (fun d => d.parameters.length) = some 0 := by decide +kernel
theorem gw_1709 : Cond.methodLink RX12 417 yX12_pairsNow ∈ lwG := gw 1709 (by decide +kernel) rfl
theorem gw_1712 : Cond.code yX12_pairsNow cX12_pairsNow 3 (Option.some FieldType.int) ∈ lwG := gw 1712 (by decide +kernel) rfl
theorem gw_1711 : Cond.instanceMethod yX12_pairsNow ∈ lwG := gw 1711 (by decide +kernel) rfl
theorem gw_86 : Cond.selects RX12 yX12_pairsNow yX12_pairsNow ∈ lwG := gw 86 (by decide +kernel) rfl
theorem pd_yX12_pairsNow : yX12_pairsNow.cls ≠ "java/lang/invoke/MethodHandle" ∧ yX12_pairsNow.cls ≠ "java/lang/invoke/VarHandle" ∧ (parseMethodDescriptor yX12_pairsNow.desc).map (fun d => d.parameters.length) = some 0 := by decide +kernel
theorem gw_1713 : Cond.methodLink RX12 423 yX12_laysBody ∈ lwG := gw 1713 (by decide +kernel) rfl
theorem gw_1716 : Cond.code yX12_laysBody cX12_laysBody 7 (Option.none : Option FieldType) ∈ lwG := gw 1716 (by decide +kernel) rfl
theorem gw_1715 : Cond.instanceMethod yX12_laysBody ∈ lwG := gw 1715 (by decide +kernel) rfl
theorem gw_87 : Cond.selects RX12 yX12_laysBody yX12_laysBody ∈ lwG := gw 87 (by decide +kernel) rfl
theorem pd_yX12_laysBody : yX12_laysBody.cls ≠ "java/lang/invoke/MethodHandle" ∧ yX12_laysBody.cls ≠ "java/lang/invoke/VarHandle" ∧ (parseMethodDescriptor yX12_laysBody.desc).map (fun d => d.parameters.length) = some 2 := by decide +kernel
theorem gw_1717 : Cond.methodLink RX12 426 yX12_turnAt ∈ lwG := gw 1717 (by decide +kernel) rfl
theorem gw_1720 : Cond.code yX12_turnAt cX12_turnAt 5 (Option.some FieldType.int) ∈ lwG := gw 1720 (by decide +kernel) rfl
theorem gw_1719 : Cond.instanceMethod yX12_turnAt ∈ lwG := gw 1719 (by decide +kernel) rfl
theorem gw_88 : Cond.selects RX12 yX12_turnAt yX12_turnAt ∈ lwG := gw 88 (by decide +kernel) rfl
theorem pd_yX12_turnAt : yX12_turnAt.cls ≠ "java/lang/invoke/MethodHandle" ∧ yX12_turnAt.cls ≠ "java/lang/invoke/VarHandle" ∧ (parseMethodDescriptor yX12_turnAt.desc).map (fun d => d.parameters.length) = some 2 := by decide +kernel
theorem gw_1729 : Cond.methodLink RX12 437 yX12_areSame ∈ lwG := gw 1729 (by decide +kernel) rfl
theorem gw_1732 : Cond.code yX12_areSame cX12_areSame 4 (Option.some FieldType.boolean) ∈ lwG := gw 1732 (by decide +kernel) rfl
theorem gw_1731 : Cond.instanceMethod yX12_areSame ∈ lwG := gw 1731 (by decide +kernel) rfl
theorem gw_89 : Cond.selects RX12 yX12_areSame yX12_areSame ∈ lwG := gw 89 (by decide +kernel) rfl
theorem pd_yX12_areSame : yX12_areSame.cls ≠ "java/lang/invoke/MethodHandle" ∧ yX12_areSame.cls ≠ "java/lang/invoke/VarHandle" ∧ (parseMethodDescriptor yX12_areSame.desc).map (fun d => d.parameters.length) = some 2 := by decide +kernel
theorem gw_1733 : Cond.methodLink RX12 433 yX12_fits ∈ lwG := gw 1733 (by decide +kernel) rfl
theorem gw_1736 : Cond.code yX12_fits cX12_fits 9 (Option.some FieldType.boolean) ∈ lwG := gw 1736 (by decide +kernel) rfl
theorem gw_1735 : Cond.instanceMethod yX12_fits ∈ lwG := gw 1735 (by decide +kernel) rfl
theorem gw_90 : Cond.selects RX12 yX12_fits yX12_fits ∈ lwG := gw 90 (by decide +kernel) rfl
theorem pd_yX12_fits : yX12_fits.cls ≠ "java/lang/invoke/MethodHandle" ∧ yX12_fits.cls ≠ "java/lang/invoke/VarHandle" ∧ (parseMethodDescriptor yX12_fits.desc).map (fun d => d.parameters.length) = some 2 := by decide +kernel
theorem gw_1737 : Cond.methodLink RX12 429 yX12_imageOf ∈ lwG := gw 1737 (by decide +kernel) rfl
theorem gw_1740 : Cond.code yX12_imageOf cX12_imageOf 5 (Option.some FieldType.int) ∈ lwG := gw 1740 (by decide +kernel) rfl
theorem gw_1739 : Cond.instanceMethod yX12_imageOf ∈ lwG := gw 1739 (by decide +kernel) rfl
theorem gw_91 : Cond.selects RX12 yX12_imageOf yX12_imageOf ∈ lwG := gw 91 (by decide +kernel) rfl
theorem pd_yX12_imageOf : yX12_imageOf.cls ≠ "java/lang/invoke/MethodHandle" ∧ yX12_imageOf.cls ≠ "java/lang/invoke/VarHandle" ∧ (parseMethodDescriptor yX12_imageOf.desc).map (fun d => d.parameters.length) = some 2 := by decide +kernel
theorem gw_1745 : Cond.methodLink RX12 440 yX12_hasBodies ∈ lwG := gw 1745 (by decide +kernel) rfl
theorem gw_1748 : Cond.code yX12_hasBodies cX12_hasBodies 3 (Option.some FieldType.boolean) ∈ lwG := gw 1748 (by decide +kernel) rfl
theorem gw_1747 : Cond.instanceMethod yX12_hasBodies ∈ lwG := gw 1747 (by decide +kernel) rfl
theorem gw_92 : Cond.selects RX12 yX12_hasBodies yX12_hasBodies ∈ lwG := gw 92 (by decide +kernel) rfl
theorem pd_yX12_hasBodies : yX12_hasBodies.cls ≠ "java/lang/invoke/MethodHandle" ∧ yX12_hasBodies.cls ≠ "java/lang/invoke/VarHandle" ∧ (parseMethodDescriptor yX12_hasBodies.desc).map (fun d => d.parameters.length) = some 0 := by decide +kernel
theorem gw_1757 : Cond.methodLink RX12 452 yX12_leads ∈ lwG := gw 1757 (by decide +kernel) rfl
theorem gw_1760 : Cond.code yX12_leads cX12_leads 13 (Option.some FieldType.boolean) ∈ lwG := gw 1760 (by decide +kernel) rfl
theorem gw_1759 : Cond.instanceMethod yX12_leads ∈ lwG := gw 1759 (by decide +kernel) rfl
theorem gw_93 : Cond.selects RX12 yX12_leads yX12_leads ∈ lwG := gw 93 (by decide +kernel) rfl
theorem pd_yX12_leads : yX12_leads.cls ≠ "java/lang/invoke/MethodHandle" ∧ yX12_leads.cls ≠ "java/lang/invoke/VarHandle" ∧ (parseMethodDescriptor yX12_leads.desc).map (fun d => d.parameters.length) = some 3 := by decide +kernel
theorem gw_1761 : Cond.methodLink RX12 449 yX12_goesTo ∈ lwG := gw 1761 (by decide +kernel) rfl
theorem gw_1764 : Cond.code yX12_goesTo cX12_goesTo 3 (Option.none : Option FieldType) ∈ lwG := gw 1764 (by decide +kernel) rfl
theorem gw_1763 : Cond.instanceMethod yX12_goesTo ∈ lwG := gw 1763 (by decide +kernel) rfl
theorem gw_94 : Cond.selects RX12 yX12_goesTo yX12_goesTo ∈ lwG := gw 94 (by decide +kernel) rfl
theorem pd_yX12_goesTo : yX12_goesTo.cls ≠ "java/lang/invoke/MethodHandle" ∧ yX12_goesTo.cls ≠ "java/lang/invoke/VarHandle" ∧ (parseMethodDescriptor yX12_goesTo.desc).map (fun d => d.parameters.length) = some 1 := by decide +kernel
theorem gw_1769 : Cond.methodLink RX12 467 yX12_shortests ∈ lwG := gw 1769 (by decide +kernel) rfl
theorem gw_1772 : Cond.code yX12_shortests cX12_shortests 7 (Option.none : Option FieldType) ∈ lwG := gw 1772 (by decide +kernel) rfl
theorem gw_1771 : Cond.instanceMethod yX12_shortests ∈ lwG := gw 1771 (by decide +kernel) rfl
theorem gw_95 : Cond.selects RX12 yX12_shortests yX12_shortests ∈ lwG := gw 95 (by decide +kernel) rfl
theorem pd_yX12_shortests : yX12_shortests.cls ≠ "java/lang/invoke/MethodHandle" ∧ yX12_shortests.cls ≠ "java/lang/invoke/VarHandle" ∧ (parseMethodDescriptor yX12_shortests.desc).map (fun d => d.parameters.length) = some 3 := by decide +kernel
theorem gw_1773 : Cond.methodLink RX12 471 yX12_told0 ∈ lwG := gw 1773 (by decide +kernel) rfl
theorem gw_1776 : Cond.code yX12_told0 cX12_told0 2 (Option.some FieldType.int) ∈ lwG := gw 1776 (by decide +kernel) rfl
theorem gw_1775 : Cond.instanceMethod yX12_told0 ∈ lwG := gw 1775 (by decide +kernel) rfl
theorem gw_96 : Cond.selects RX12 yX12_told0 yX12_told0 ∈ lwG := gw 96 (by decide +kernel) rfl
theorem pd_yX12_told0 : yX12_told0.cls ≠ "java/lang/invoke/MethodHandle" ∧ yX12_told0.cls ≠ "java/lang/invoke/VarHandle" ∧ (parseMethodDescriptor yX12_told0.desc).map (fun d => d.parameters.length) = some 1 := by decide +kernel
theorem gw_1789 : Cond.methodLink RX12 506 yX12_picks ∈ lwG := gw 1789 (by decide +kernel) rfl
theorem gw_1792 : Cond.code yX12_picks cX12_picks 6 (Option.none : Option FieldType) ∈ lwG := gw 1792 (by decide +kernel) rfl
theorem gw_1791 : Cond.instanceMethod yX12_picks ∈ lwG := gw 1791 (by decide +kernel) rfl
theorem gw_97 : Cond.selects RX12 yX12_picks yX12_picks ∈ lwG := gw 97 (by decide +kernel) rfl
theorem pd_yX12_picks : yX12_picks.cls ≠ "java/lang/invoke/MethodHandle" ∧ yX12_picks.cls ≠ "java/lang/invoke/VarHandle" ∧ (parseMethodDescriptor yX12_picks.desc).map (fun d => d.parameters.length) = some 2 := by decide +kernel
theorem gw_1793 : Cond.methodLink RX12 491 yX12_isFlat ∈ lwG := gw 1793 (by decide +kernel) rfl
theorem gw_1796 : Cond.code yX12_isFlat cX12_isFlat 10 (Option.some FieldType.boolean) ∈ lwG := gw 1796 (by decide +kernel) rfl
theorem gw_1795 : Cond.instanceMethod yX12_isFlat ∈ lwG := gw 1795 (by decide +kernel) rfl
theorem gw_98 : Cond.selects RX12 yX12_isFlat yX12_isFlat ∈ lwG := gw 98 (by decide +kernel) rfl
theorem pd_yX12_isFlat : yX12_isFlat.cls ≠ "java/lang/invoke/MethodHandle" ∧ yX12_isFlat.cls ≠ "java/lang/invoke/VarHandle" ∧ (parseMethodDescriptor yX12_isFlat.desc).map (fun d => d.parameters.length) = some 1 := by decide +kernel
theorem gw_1797 : Cond.methodLink RX12 497 yX12_countsNet ∈ lwG := gw 1797 (by decide +kernel) rfl
theorem gw_1800 : Cond.code yX12_countsNet cX12_countsNet 4 (Option.none : Option FieldType) ∈ lwG := gw 1800 (by decide +kernel) rfl
theorem gw_1799 : Cond.instanceMethod yX12_countsNet ∈ lwG := gw 1799 (by decide +kernel) rfl
theorem gw_99 : Cond.selects RX12 yX12_countsNet yX12_countsNet ∈ lwG := gw 99 (by decide +kernel) rfl
theorem pd_yX12_countsNet : yX12_countsNet.cls ≠ "java/lang/invoke/MethodHandle" ∧ yX12_countsNet.cls ≠ "java/lang/invoke/VarHandle" ∧ (parseMethodDescriptor yX12_countsNet.desc).map (fun d => d.parameters.length) = some 0 := by decide +kernel
theorem gw_1801 : Cond.methodLink RX12 474 yX12_turnedBy ∈ lwG := gw 1801 (by decide +kernel) rfl
theorem gw_1804 : Cond.code yX12_turnedBy cX12_turnedBy 9 (Option.some FieldType.long) ∈ lwG := gw 1804 (by decide +kernel) rfl
theorem gw_1803 : Cond.instanceMethod yX12_turnedBy ∈ lwG := gw 1803 (by decide +kernel) rfl
theorem gw_100 : Cond.selects RX12 yX12_turnedBy yX12_turnedBy ∈ lwG := gw 100 (by decide +kernel) rfl
theorem pd_yX12_turnedBy : yX12_turnedBy.cls ≠ "java/lang/invoke/MethodHandle" ∧ yX12_turnedBy.cls ≠ "java/lang/invoke/VarHandle" ∧ (parseMethodDescriptor yX12_turnedBy.desc).map (fun d => d.parameters.length) = some 1 := by decide +kernel
theorem gw_1810 : Cond.methodLink RX12 503 yX12_groupOf ∈ lwG := gw 1810 (by decide +kernel) rfl
theorem gw_1813 : Cond.code yX12_groupOf cX12_groupOf 3 (Option.some FieldType.int) ∈ lwG := gw 1813 (by decide +kernel) rfl
theorem gw_1812 : Cond.instanceMethod yX12_groupOf ∈ lwG := gw 1812 (by decide +kernel) rfl
theorem gw_101 : Cond.selects RX12 yX12_groupOf yX12_groupOf ∈ lwG := gw 101 (by decide +kernel) rfl
theorem pd_yX12_groupOf : yX12_groupOf.cls ≠ "java/lang/invoke/MethodHandle" ∧ yX12_groupOf.cls ≠ "java/lang/invoke/VarHandle" ∧ (parseMethodDescriptor yX12_groupOf.desc).map (fun d => d.parameters.length) = some 1 := by decide +kernel
theorem gw_670 : Cond.constantLong RX8 31 (255) ∈ lwG := gw 670 (by decide +kernel) rfl
theorem gw_700 : Cond.constantLong RX8 48 (256) ∈ lwG := gw 700 (by decide +kernel) rfl
theorem gw_704 : Cond.constantLong RX8 64 (1667591276) ∈ lwG := gw 704 (by decide +kernel) rfl
theorem gw_705 : Cond.constantLong RX8 66 (1919247220) ∈ lwG := gw 705 (by decide +kernel) rfl
theorem gw_706 : Cond.constantLong RX8 68 (1818588019) ∈ lwG := gw 706 (by decide +kernel) rfl
theorem gw_707 : Cond.constantLong RX8 70 (7103860) ∈ lwG := gw 707 (by decide +kernel) rfl
theorem gw_708 : Cond.constantLong RX8 72 (1700881256) ∈ lwG := gw 708 (by decide +kernel) rfl
theorem gw_709 : Cond.constantLong RX8 57 (10) ∈ lwG := gw 709 (by decide +kernel) rfl
theorem gw_710 : Cond.constantLong RX8 59 (48) ∈ lwG := gw 710 (by decide +kernel) rfl
theorem gw_853 : Cond.constant RJ6 265 (1431655765) ∈ lwG := gw 853 (by decide +kernel) rfl
theorem gw_854 : Cond.constant RJ6 266 (858993459) ∈ lwG := gw 854 (by decide +kernel) rfl
theorem gw_855 : Cond.constant RJ6 267 (252645135) ∈ lwG := gw 855 (by decide +kernel) rfl
theorem gw_856 : Cond.constantLong RX7 91 (64) ∈ lwG := gw 856 (by decide +kernel) rfl
theorem gw_980 : Cond.constantLong RX1 104 (64) ∈ lwG := gw 980 (by decide +kernel) rfl
theorem gw_1089 : Cond.constantLong RJ13 314 (6148914691236517205) ∈ lwG := gw 1089 (by decide +kernel) rfl
theorem gw_1090 : Cond.constantLong RJ13 316 (3689348814741910323) ∈ lwG := gw 1090 (by decide +kernel) rfl
theorem gw_1091 : Cond.constantLong RJ13 318 (1085102592571150095) ∈ lwG := gw 1091 (by decide +kernel) rfl
theorem gw_1096 : Cond.constantLong RX9 141 (-7046029254386353131) ∈ lwG := gw 1096 (by decide +kernel) rfl
theorem gw_1207 : Cond.constant RX12 105 (48048) ∈ lwG := gw 1207 (by decide +kernel) rfl
theorem gw_1208 : Cond.constant RX12 152 (32768) ∈ lwG := gw 1208 (by decide +kernel) rfl
theorem gw_1491 : Cond.constantLong RX12 187 (255) ∈ lwG := gw 1491 (by decide +kernel) rfl
theorem gw_1508 : Cond.constantLong RX12 215 (27) ∈ lwG := gw 1508 (by decide +kernel) rfl
theorem gw_1509 : Cond.constantLong RX12 217 (96) ∈ lwG := gw 1509 (by decide +kernel) rfl
theorem gw_1518 : Cond.constantLong RX12 225 (63030) ∈ lwG := gw 1518 (by decide +kernel) rfl
theorem gw_1523 : Cond.constantLong RX12 227 (358040) ∈ lwG := gw 1523 (by decide +kernel) rfl
theorem gw_1524 : Cond.constantLong RX12 229 (240373) ∈ lwG := gw 1524 (by decide +kernel) rfl
theorem gw_1525 : Cond.constantLong RX12 231 (8903) ∈ lwG := gw 1525 (by decide +kernel) rfl
theorem gw_1526 : Cond.constantLong RX12 233 (99233) ∈ lwG := gw 1526 (by decide +kernel) rfl
theorem gw_1595 : Cond.constantLong RX12 321 (64) ∈ lwG := gw 1595 (by decide +kernel) rfl
theorem gw_1808 : Cond.constantLong RX12 481 (2654435761) ∈ lwG := gw 1808 (by decide +kernel) rfl
theorem gw_1809 : Cond.constantLong RX12 483 (32767) ∈ lwG := gw 1809 (by decide +kernel) rfl
theorem gw_543 : Cond.methodLink RX4 45 arraycopyName ∈ lwG := gw 543 (by decide +kernel) rfl
theorem gs_ac : Cond.static arraycopyName ∈ lwG := gw 544 (by decide +kernel) rfl
theorem gn_ac : Cond.native arraycopyName ∈ lwG := gw 545 (by decide +kernel) rfl
theorem gw_115 : Cond.initialized RJ10 ∈ lwG := gw 115 (by decide +kernel) rfl
theorem gw_597 : Cond.methodLink RX3 36 Lib.Math.min.name ∈ lwG := gw 597 (by decide +kernel) rfl
theorem gs_min : Cond.static Lib.Math.min.name ∈ lwG := gw 598 (by decide +kernel) rfl
theorem gc_min : Cond.code Lib.Math.min.name Lib.Math.min.code 2 (some .int) ∈ lwG := gw 599 (by decide +kernel) rfl
theorem gw_117 : Cond.initialized RJ9 ∈ lwG := gw 117 (by decide +kernel) rfl
theorem gw_600 : Cond.methodLink RX3 41 Lib.Math.max.name ∈ lwG := gw 600 (by decide +kernel) rfl
theorem gs_max : Cond.static Lib.Math.max.name ∈ lwG := gw 601 (by decide +kernel) rfl
theorem gc_max : Cond.code Lib.Math.max.name Lib.Math.max.code 2 (some .int) ∈ lwG := gw 602 (by decide +kernel) rfl
theorem gw_743 : Cond.methodLink RJ1 92 Lib.Math.max.name ∈ lwG := gw 743 (by decide +kernel) rfl
theorem gw_744 : Cond.methodLink RJ1 38 Lib.Math.min.name ∈ lwG := gw 744 (by decide +kernel) rfl
theorem gw_751 : Cond.methodLink RJ2 224 Lib.Math.max.name ∈ lwG := gw 751 (by decide +kernel) rfl
theorem gw_752 : Cond.methodLink RJ2 183 Lib.Math.min.name ∈ lwG := gw 752 (by decide +kernel) rfl
theorem gw_834 : Cond.methodLink RX7 99 Lib.Math.max.name ∈ lwG := gw 834 (by decide +kernel) rfl
theorem gw_893 : Cond.methodLink RX3 26 arraycopyName ∈ lwG := gw 893 (by decide +kernel) rfl
theorem gw_912 : Cond.methodLink RX11 171 Lib.Math.min.name ∈ lwG := gw 912 (by decide +kernel) rfl
theorem gw_913 : Cond.methodLink RX11 177 Lib.Math.max.name ∈ lwG := gw 913 (by decide +kernel) rfl
theorem gw_923 : Cond.methodLink RX0 29 arraycopyName ∈ lwG := gw 923 (by decide +kernel) rfl
theorem gw_928 : Cond.methodLink RX11 198 arraycopyName ∈ lwG := gw 928 (by decide +kernel) rfl
theorem gw_1017 : Cond.methodLink RX10 32 Lib.Math.abs.name ∈ lwG := gw 1017 (by decide +kernel) rfl
theorem gs_abs : Cond.static Lib.Math.abs.name ∈ lwG := gw 1018 (by decide +kernel) rfl
theorem gc_abs : Cond.code Lib.Math.abs.name Lib.Math.abs.code 1 (some .int) ∈ lwG := gw 1019 (by decide +kernel) rfl
theorem gw_1080 : Cond.methodLink RX9 98 Lib.Math.min.name ∈ lwG := gw 1080 (by decide +kernel) rfl
theorem gw_1085 : Cond.methodLink RX9 138 Lib.Math.max.name ∈ lwG := gw 1085 (by decide +kernel) rfl
theorem gw_1109 : Cond.methodLink RX6 25 arraycopyName ∈ lwG := gw 1109 (by decide +kernel) rfl
theorem gw_1563 : Cond.methodLink RX12 272 Lib.Math.max.name ∈ lwG := gw 1563 (by decide +kernel) rfl
theorem gw_1640 : Cond.methodLink RX12 372 Lib.Math.min.name ∈ lwG := gw 1640 (by decide +kernel) rfl
theorem gw_1805 : Cond.methodLink RX12 478 Lib.MathLoose.min_long.x ∈ lwG := gw 1805 (by decide +kernel) rfl
theorem gs_minL : Cond.static Lib.MathLoose.min_long.x ∈ lwG := gw 1806 (by decide +kernel) rfl
theorem gc_minL : Cond.code Lib.MathLoose.min_long.x Lib.MathLoose.min_long.code 4 (some .long) ∈ lwG := gw 1807 (by decide +kernel) rfl
