/-! words, by their places -/
theorem z_in {w : Cond} (i : Nat) (h : lw_tbl[i]? = some w) (hg : goodWord w = true) : w ∈ z_ws := List.mem_filter.mpr ⟨List.mem_of_getElem? h, hg⟩
theorem wf_X0_15 : Cond.fieldLink RX0 15 "HayFootStraw$Pile" "places" "[LHayFootStraw$Standing;" ∈ z_ws := z_in 183 (by decide +kernel) (by decide)
theorem wf_X0_22 : Cond.fieldLink RX0 22 "HayFootStraw$Pile" "size" "I" ∈ z_ws := z_in 184 (by decide +kernel) (by decide)
theorem wf_X1_9 : Cond.fieldLink RX1 9 "HayFootStraw$Script" "letters" "[C" ∈ z_ws := z_in 83 (by decide +kernel) (by decide)
theorem wf_X1_15 : Cond.fieldLink RX1 15 "HayFootStraw$Script" "told" "[I" ∈ z_ws := z_in 86 (by decide +kernel) (by decide)
theorem wf_X1_19 : Cond.fieldLink RX1 19 "HayFootStraw$Script" "length" "I" ∈ z_ws := z_in 84 (by decide +kernel) (by decide)
theorem wf_X2_9 : Cond.fieldLink RX2 9 "HayFootStraw$Squad" "kind" "[I" ∈ z_ws := z_in 108 (by decide +kernel) (by decide)
theorem wf_X2_15 : Cond.fieldLink RX2 15 "HayFootStraw$Squad" "facing" "[I" ∈ z_ws := z_in 110 (by decide +kernel) (by decide)
theorem wf_X2_18 : Cond.fieldLink RX2 18 "HayFootStraw$Squad" "looksAt" "[I" ∈ z_ws := z_in 113 (by decide +kernel) (by decide)
theorem wf_X2_21 : Cond.fieldLink RX2 21 "HayFootStraw$Squad" "erring" "[I" ∈ z_ws := z_in 115 (by decide +kernel) (by decide)
theorem wf_X2_24 : Cond.fieldLink RX2 24 "HayFootStraw$Squad" "men" "I" ∈ z_ws := z_in 102 (by decide +kernel) (by decide)
theorem wf_X2_28 : Cond.fieldLink RX2 28 "HayFootStraw$Squad" "seed" "I" ∈ z_ws := z_in 104 (by decide +kernel) (by decide)
theorem wf_X2_31 : Cond.fieldLink RX2 31 "HayFootStraw$Squad" "shut" "I" ∈ z_ws := z_in 106 (by decide +kernel) (by decide)
theorem wf_X3_9 : Cond.fieldLink RX3 9 "HayFootStraw$Standing" "facing" "[I" ∈ z_ws := z_in 138 (by decide +kernel) (by decide)
theorem wf_X3_15 : Cond.fieldLink RX3 15 "HayFootStraw$Standing" "looksAt" "[I" ∈ z_ws := z_in 140 (by decide +kernel) (by decide)
theorem wf_X3_18 : Cond.fieldLink RX3 18 "HayFootStraw$Squad" "facing" "[I" ∈ z_ws := z_in 111 (by decide +kernel) (by decide)
theorem wf_X3_27 : Cond.fieldLink RX3 27 "HayFootStraw$Squad" "looksAt" "[I" ∈ z_ws := z_in 114 (by decide +kernel) (by decide)
theorem wf_X3_28 : Cond.fieldLink RX3 28 "HayFootStraw$Squad" "shut" "I" ∈ z_ws := z_in 107 (by decide +kernel) (by decide)
theorem wf_X3_32 : Cond.fieldLink RX3 32 "HayFootStraw$Standing" "shut" "I" ∈ z_ws := z_in 142 (by decide +kernel) (by decide)
theorem wf_X3_33 : Cond.fieldLink RX3 33 "HayFootStraw$Standing" "words" "I" ∈ z_ws := z_in 144 (by decide +kernel) (by decide)
theorem wf_X3_36 : Cond.fieldLink RX3 36 "HayFootStraw$Standing" "turnAhead" "I" ∈ z_ws := z_in 146 (by decide +kernel) (by decide)
theorem wf_X3_39 : Cond.fieldLink RX3 39 "HayFootStraw$Standing" "told" "I" ∈ z_ws := z_in 148 (by decide +kernel) (by decide)
theorem wf_X3_42 : Cond.fieldLink RX3 42 "HayFootStraw$Standing" "erred" "I" ∈ z_ws := z_in 150 (by decide +kernel) (by decide)
theorem wf_X3_45 : Cond.fieldLink RX3 45 "HayFootStraw$Standing" "shouted" "I" ∈ z_ws := z_in 152 (by decide +kernel) (by decide)
theorem wf_X4_10 : Cond.fieldLink RX4 10 "HayFootStraw" "script" "LHayFootStraw$Script;" ∈ z_ws := z_in 294 (by decide +kernel) (by decide)
theorem wf_X4_19 : Cond.fieldLink RX4 19 "HayFootStraw" "squad" "LHayFootStraw$Squad;" ∈ z_ws := z_in 295 (by decide +kernel) (by decide)
theorem wf_X4_23 : Cond.fieldLink RX4 23 "HayFootStraw" "draft" "LHayFootStraw$Squad;" ∈ z_ws := z_in 296 (by decide +kernel) (by decide)
theorem wf_X4_29 : Cond.fieldLink RX4 29 "HayFootStraw" "now" "LHayFootStraw$Standing;" ∈ z_ws := z_in 297 (by decide +kernel) (by decide)
theorem wf_X4_33 : Cond.fieldLink RX4 33 "HayFootStraw" "trial" "LHayFootStraw$Standing;" ∈ z_ws := z_in 298 (by decide +kernel) (by decide)
theorem wf_X4_41 : Cond.fieldLink RX4 41 "HayFootStraw" "undoable" "LHayFootStraw$Pile;" ∈ z_ws := z_in 299 (by decide +kernel) (by decide)
theorem wf_X4_45 : Cond.fieldLink RX4 45 "HayFootStraw" "kept" "LHayFootStraw$Pile;" ∈ z_ws := z_in 300 (by decide +kernel) (by decide)
theorem wf_X4_48 : Cond.fieldLink RX4 48 "HayFootStraw" "leader" "[I" ∈ z_ws := z_in 301 (by decide +kernel) (by decide)
theorem wf_X4_52 : Cond.fieldLink RX4 52 "HayFootStraw" "manner" "[I" ∈ z_ws := z_in 302 (by decide +kernel) (by decide)
theorem wf_X4_55 : Cond.fieldLink RX4 55 "HayFootStraw" "rowTurn" "[I" ∈ z_ws := z_in 303 (by decide +kernel) (by decide)
theorem wf_X4_81 : Cond.fieldLink RX4 81 "HayFootStraw$Script" "length" "I" ∈ z_ws := z_in 85 (by decide +kernel) (by decide)
theorem wf_X4_88 : Cond.fieldLink RX4 88 "HayFootStraw$Squad" "men" "I" ∈ z_ws := z_in 103 (by decide +kernel) (by decide)
theorem wf_X4_95 : Cond.fieldLink RX4 95 "HayFootStraw$Squad" "kind" "[I" ∈ z_ws := z_in 109 (by decide +kernel) (by decide)
theorem wf_X4_98 : Cond.fieldLink RX4 98 "HayFootStraw$Standing" "facing" "[I" ∈ z_ws := z_in 139 (by decide +kernel) (by decide)
theorem wf_X4_101 : Cond.fieldLink RX4 101 "HayFootStraw$Standing" "looksAt" "[I" ∈ z_ws := z_in 141 (by decide +kernel) (by decide)
theorem wf_X4_104 : Cond.fieldLink RX4 104 "HayFootStraw$Squad" "erring" "[I" ∈ z_ws := z_in 116 (by decide +kernel) (by decide)
theorem wf_X4_114 : Cond.fieldLink RX4 114 "HayFootStraw$Standing" "words" "I" ∈ z_ws := z_in 145 (by decide +kernel) (by decide)
theorem wf_X4_142 : Cond.fieldLink RX4 142 "HayFootStraw$Standing" "shouted" "I" ∈ z_ws := z_in 153 (by decide +kernel) (by decide)
theorem wf_X4_148 : Cond.fieldLink RX4 148 "HayFootStraw$Standing" "shut" "I" ∈ z_ws := z_in 143 (by decide +kernel) (by decide)
theorem wf_X4_155 : Cond.fieldLink RX4 155 "HayFootStraw$Pile" "size" "I" ∈ z_ws := z_in 185 (by decide +kernel) (by decide)
theorem wf_X4_158 : Cond.fieldLink RX4 158 "HayFootStraw$Standing" "erred" "I" ∈ z_ws := z_in 151 (by decide +kernel) (by decide)
theorem wf_X4_186 : Cond.fieldLink RX4 186 "HayFootStraw" "TURNS" "[I" ∈ z_ws := z_in 385 (by decide +kernel) (by decide)
theorem wf_X4_204 : Cond.fieldLink RX4 204 "HayFootStraw" "ROWS" "[I" ∈ z_ws := z_in 484 (by decide +kernel) (by decide)
theorem wf_X4_238 : Cond.fieldLink RX4 238 "HayFootStraw$Squad" "seed" "I" ∈ z_ws := z_in 105 (by decide +kernel) (by decide)
theorem wf_X4_250 : Cond.fieldLink RX4 250 "HayFootStraw$Standing" "turnAhead" "I" ∈ z_ws := z_in 147 (by decide +kernel) (by decide)
theorem wf_X4_256 : Cond.fieldLink RX4 256 "HayFootStraw$Standing" "told" "I" ∈ z_ws := z_in 149 (by decide +kernel) (by decide)
theorem wf_X4_259 : Cond.fieldLink RX4 259 "HayFootStraw$Squad" "facing" "[I" ∈ z_ws := z_in 112 (by decide +kernel) (by decide)
theorem wf_X5_7 : Cond.fieldLink RX5 7 "HayFootStrawModel" "text" "[I" ∈ z_ws := z_in 594 (by decide +kernel) (by decide)
theorem wf_X5_13 : Cond.fieldLink RX5 13 "HayFootStrawModel" "told" "[I" ∈ z_ws := z_in 596 (by decide +kernel) (by decide)
theorem wf_X5_16 : Cond.fieldLink RX5 16 "HayFootStrawModel" "draft" "[I" ∈ z_ws := z_in 597 (by decide +kernel) (by decide)
theorem wf_X5_19 : Cond.fieldLink RX5 19 "HayFootStrawModel" "s" "[I" ∈ z_ws := z_in 598 (by decide +kernel) (by decide)
theorem wf_X5_22 : Cond.fieldLink RX5 22 "HayFootStrawModel" "past" "[I" ∈ z_ws := z_in 599 (by decide +kernel) (by decide)
theorem wf_X5_25 : Cond.fieldLink RX5 25 "HayFootStrawModel" "images" "[I" ∈ z_ws := z_in 601 (by decide +kernel) (by decide)
theorem wf_X5_28 : Cond.fieldLink RX5 28 "HayFootStrawModel" "taken" "I" ∈ z_ws := z_in 604 (by decide +kernel) (by decide)
theorem wf_X5_32 : Cond.fieldLink RX5 32 "HayFootStrawModel" "held" "[I" ∈ z_ws := z_in 606 (by decide +kernel) (by decide)
theorem wf_X5_49 : Cond.fieldLink RX5 49 "HayFootStrawModel" "typed" "I" ∈ z_ws := z_in 595 (by decide +kernel) (by decide)
theorem wf_X5_52 : Cond.fieldLink RX5 52 "HayFootStrawModel" "at" "I" ∈ z_ws := z_in 603 (by decide +kernel) (by decide)
theorem wf_X5_81 : Cond.fieldLink RX5 81 "HayFootStrawModel" "known" "I" ∈ z_ws := z_in 600 (by decide +kernel) (by decide)
theorem wf_X5_84 : Cond.fieldLink RX5 84 "HayFootStrawModel" "kept" "I" ∈ z_ws := z_in 602 (by decide +kernel) (by decide)
theorem wf_X5_96 : Cond.fieldLink RX5 96 "HayFootStrawModel" "takenAt" "I" ∈ z_ws := z_in 605 (by decide +kernel) (by decide)
theorem wf_X5_159 : Cond.fieldLink RX5 159 "HayFootStrawModel" "firstRow" "I" ∈ z_ws := z_in 607 (by decide +kernel) (by decide)
theorem wm_X0_1 : Cond.methodLink RX0 1 Lib.objectInit ∈ z_ws := z_in 176 (by decide +kernel) (by decide)
theorem wm_X0_7 : Cond.methodLink RX0 7 Lib.Math.max.name ∈ z_ws := z_in 177 (by decide +kernel) (by decide)
theorem wm_X0_26 : Cond.methodLink RX0 26 yX0_loseOldest ∈ z_ws := z_in 365 (by decide +kernel) (by decide)
theorem wm_X0_29 : Cond.methodLink RX0 29 yX3_copy ∈ z_ws := z_in 369 (by decide +kernel) (by decide)
theorem wm_X1_3 : Cond.methodLink RX1 3 Lib.objectInit ∈ z_ws := z_in 82 (by decide +kernel) (by decide)
theorem wm_X1_23 : Cond.methodLink RX1 23 yX2_clear ∈ z_ws := z_in 252 (by decide +kernel) (by decide)
theorem wm_X1_28 : Cond.methodLink RX1 28 yX1_readItem ∈ z_ws := z_in 256 (by decide +kernel) (by decide)
theorem wm_X1_32 : Cond.methodLink RX1 32 yX1_numbersBehind ∈ z_ws := z_in 260 (by decide +kernel) (by decide)
theorem wm_X1_36 : Cond.methodLink RX1 36 yX1_readNumber ∈ z_ws := z_in 263 (by decide +kernel) (by decide)
theorem wm_X1_40 : Cond.methodLink RX1 40 yX2_take ∈ z_ws := z_in 271 (by decide +kernel) (by decide)
theorem wm_X1_44 : Cond.methodLink RX1 44 yX1_isFigure ∈ z_ws := z_in 267 (by decide +kernel) (by decide)
theorem wm_X2_3 : Cond.methodLink RX2 3 Lib.objectInit ∈ z_ws := z_in 101 (by decide +kernel) (by decide)
theorem wm_X2_34 : Cond.methodLink RX2 34 yX2_takeMan ∈ z_ws := z_in 275 (by decide +kernel) (by decide)
theorem wm_X3_3 : Cond.methodLink RX3 3 Lib.objectInit ∈ z_ws := z_in 137 (by decide +kernel) (by decide)
theorem wm_X3_21 : Cond.methodLink RX3 21 arraycopyName ∈ z_ws := z_in 287 (by decide +kernel) (by decide)
theorem wm_X4_1 : Cond.methodLink RX4 1 Lib.objectInit ∈ z_ws := z_in 74 (by decide +kernel) (by decide)
theorem wm_X4_38 : Cond.methodLink RX4 38 yX0_init ∈ z_ws := z_in 173 (by decide +kernel) (by decide)
theorem wm_X4_60 : Cond.methodLink RX4 60 yJ0_length_8abf5 ∈ z_ws := z_in 192 (by decide +kernel) (by decide)
theorem wm_X4_66 : Cond.methodLink RX4 66 yJ0_charAt_5068e ∈ z_ws := z_in 202 (by decide +kernel) (by decide)
theorem wm_X4_70 : Cond.methodLink RX4 70 yX1_add ∈ z_ws := z_in 240 (by decide +kernel) (by decide)
theorem wm_X4_74 : Cond.methodLink RX4 74 yX4_layScript ∈ z_ws := z_in 244 (by decide +kernel) (by decide)
theorem wm_X4_78 : Cond.methodLink RX4 78 yX1_clear ∈ z_ws := z_in 290 (by decide +kernel) (by decide)
theorem wm_X4_84 : Cond.methodLink RX4 84 yX1_readInto ∈ z_ws := z_in 248 (by decide +kernel) (by decide)
theorem wm_X4_91 : Cond.methodLink RX4 91 yX4_isMan ∈ z_ws := z_in 346 (by decide +kernel) (by decide)
theorem wm_X4_107 : Cond.methodLink RX4 107 yX4_dueFacing ∈ z_ws := z_in 350 (by decide +kernel) (by decide)
theorem wm_X4_111 : Cond.methodLink RX4 111 yX4_isWord ∈ z_ws := z_in 358 (by decide +kernel) (by decide)
theorem wm_X4_117 : Cond.methodLink RX4 117 yX0_put ∈ z_ws := z_in 361 (by decide +kernel) (by decide)
theorem wm_X4_121 : Cond.methodLink RX4 121 yX4_findLeaders ∈ z_ws := z_in 373 (by decide +kernel) (by decide)
theorem wm_X4_124 : Cond.methodLink RX4 124 yX4_say ∈ z_ws := z_in 381 (by decide +kernel) (by decide)
theorem wm_X4_128 : Cond.methodLink RX4 128 yX4_wrongMen ∈ z_ws := z_in 410 (by decide +kernel) (by decide)
theorem wm_X4_132 : Cond.methodLink RX4 132 yJ6_bitCount_0f7a4 ∈ z_ws := z_in 414 (by decide +kernel) (by decide)
theorem wm_X4_138 : Cond.methodLink RX4 138 yX4_heeds ∈ z_ws := z_in 424 (by decide +kernel) (by decide)
theorem wm_X4_145 : Cond.methodLink RX4 145 yX4_isEither ∈ z_ws := z_in 432 (by decide +kernel) (by decide)
theorem wm_X4_151 : Cond.methodLink RX4 151 yX0_takeTop ∈ z_ws := z_in 443 (by decide +kernel) (by decide)
theorem wm_X4_161 : Cond.methodLink RX4 161 yX4_chainEnd ∈ z_ws := z_in 377 (by decide +kernel) (by decide)
theorem wm_X4_165 : Cond.methodLink RX4 165 yX4_menFacing ∈ z_ws := z_in 463 (by decide +kernel) (by decide)
theorem wm_X4_168 : Cond.methodLink RX4 168 Lib.Math.max.name ∈ z_ws := z_in 471 (by decide +kernel) (by decide)
theorem wm_X4_173 : Cond.methodLink RX4 173 yX4_findManners ∈ z_ws := z_in 476 (by decide +kernel) (by decide)
theorem wm_X4_176 : Cond.methodLink RX4 176 yX4_firstRowAlike ∈ z_ws := z_in 480 (by decide +kernel) (by decide)
theorem wm_X4_179 : Cond.methodLink RX4 179 yX4_wordOfRow ∈ z_ws := z_in 494 (by decide +kernel) (by decide)
theorem wm_X4_183 : Cond.methodLink RX4 183 yX4_facingForeseen ∈ z_ws := z_in 501 (by decide +kernel) (by decide)
theorem wm_X4_189 : Cond.methodLink RX4 189 yX4_waysAllFace ∈ z_ws := z_in 513 (by decide +kernel) (by decide)
theorem wm_X4_192 : Cond.methodLink RX4 192 yX4_waysToTurn ∈ z_ws := z_in 529 (by decide +kernel) (by decide)
theorem wm_X4_195 : Cond.methodLink RX4 195 yX4_partInLowestTerms ∈ z_ws := z_in 533 (by decide +kernel) (by decide)
theorem wm_X4_198 : Cond.methodLink RX4 198 yX4_facingBy ∈ z_ws := z_in 505 (by decide +kernel) (by decide)
theorem wm_X4_201 : Cond.methodLink RX4 201 yX4_waysOfManner ∈ z_ws := z_in 525 (by decide +kernel) (by decide)
theorem wm_X4_207 : Cond.methodLink RX4 207 yX4_isRowAlike ∈ z_ws := z_in 486 (by decide +kernel) (by decide)
theorem wm_X4_210 : Cond.methodLink RX4 210 yX3_copy ∈ z_ws := z_in 559 (by decide +kernel) (by decide)
theorem wm_X4_217 : Cond.methodLink RX4 217 yX4_drawOf ∈ z_ws := z_in 394 (by decide +kernel) (by decide)
theorem wm_X4_221 : Cond.methodLink RX4 221 yX4_isAlike ∈ z_ws := z_in 560 (by decide +kernel) (by decide)
theorem wm_X4_224 : Cond.methodLink RX4 224 yX2_canBeLaid ∈ z_ws := z_in 279 (by decide +kernel) (by decide)
theorem wm_X4_227 : Cond.methodLink RX4 227 yX3_begin ∈ z_ws := z_in 283 (by decide +kernel) (by decide)
theorem wm_X4_235 : Cond.methodLink RX4 235 yX4_isChancy ∈ z_ws := z_in 403 (by decide +kernel) (by decide)
theorem wm_X4_243 : Cond.methodLink RX4 243 yX4_errsByDraw ∈ z_ws := z_in 387 (by decide +kernel) (by decide)
theorem wm_X4_246 : Cond.methodLink RX4 246 yX4_mannerOf ∈ z_ws := z_in 399 (by decide +kernel) (by decide)
theorem wm_X4_253 : Cond.methodLink RX4 253 yX4_turnBy ∈ z_ws := z_in 407 (by decide +kernel) (by decide)
theorem wm_X4_260 : Cond.methodLink RX4 260 yX4_addUpRow ∈ z_ws := z_in 490 (by decide +kernel) (by decide)
theorem wm_X4_264 : Cond.methodLink RX4 264 yX4_waysLedFace ∈ z_ws := z_in 517 (by decide +kernel) (by decide)
theorem wm_X4_267 : Cond.methodLink RX4 267 yX4_wouldLedFace ∈ z_ws := z_in 521 (by decide +kernel) (by decide)
theorem wm_X4_271 : Cond.methodLink RX4 271 yX4_commonDivisor ∈ z_ws := z_in 536 (by decide +kernel) (by decide)
theorem wm_X5_1 : Cond.methodLink RX5 1 Lib.objectInit ∈ z_ws := z_in 581 (by decide +kernel) (by decide)
theorem wm_X5_35 : Cond.methodLink RX5 35 yX5_begins ∈ z_ws := z_in 582 (by decide +kernel) (by decide)
theorem wm_X5_38 : Cond.methodLink RX5 38 yX5_adds ∈ z_ws := z_in 586 (by decide +kernel) (by decide)
theorem wm_X5_42 : Cond.methodLink RX5 42 yX5_lays ∈ z_ws := z_in 590 (by decide +kernel) (by decide)
theorem wm_X5_45 : Cond.methodLink RX5 45 yX5_in ∈ z_ws := z_in 641 (by decide +kernel) (by decide)
theorem wm_X5_55 : Cond.methodLink RX5 55 yX5_letterAt ∈ z_ws := z_in 664 (by decide +kernel) (by decide)
theorem wm_X5_59 : Cond.methodLink RX5 59 yX5_isFigure ∈ z_ws := z_in 668 (by decide +kernel) (by decide)
theorem wm_X5_63 : Cond.methodLink RX5 63 yX5_number ∈ z_ws := z_in 660 (by decide +kernel) (by decide)
theorem wm_X5_67 : Cond.methodLink RX5 67 yX5_sign ∈ z_ws := z_in 671 (by decide +kernel) (by decide)
theorem wm_X5_70 : Cond.methodLink RX5 70 yX5_readsMan ∈ z_ws := z_in 656 (by decide +kernel) (by decide)
theorem wm_X5_74 : Cond.methodLink RX5 74 yX5_readsOne ∈ z_ws := z_in 675 (by decide +kernel) (by decide)
theorem wm_X5_78 : Cond.methodLink RX5 78 yX5_reads ∈ z_ws := z_in 652 (by decide +kernel) (by decide)
theorem wm_X5_87 : Cond.methodLink RX5 87 yX5_isMan ∈ z_ws := z_in 687 (by decide +kernel) (by decide)
theorem wm_X5_90 : Cond.methodLink RX5 90 yX5_dueOf ∈ z_ws := z_in 691 (by decide +kernel) (by decide)
theorem wm_X5_93 : Cond.methodLink RX5 93 yX5_isLooking ∈ z_ws := z_in 733 (by decide +kernel) (by decide)
theorem wm_X5_99 : Cond.methodLink RX5 99 yX5_leader ∈ z_ws := z_in 729 (by decide +kernel) (by decide)
theorem wm_X5_110 : Cond.methodLink RX5 110 yX5_drawOf ∈ z_ws := z_in 713 (by decide +kernel) (by decide)
theorem wm_X5_114 : Cond.methodLink RX5 114 yX5_turnsAs ∈ z_ws := z_in 725 (by decide +kernel) (by decide)
theorem wm_X5_117 : Cond.methodLink RX5 117 yX5_turnOf ∈ z_ws := z_in 737 (by decide +kernel) (by decide)
theorem wm_X5_120 : Cond.methodLink RX5 120 yX5_mayErr ∈ z_ws := z_in 740 (by decide +kernel) (by decide)
theorem wm_X5_123 : Cond.methodLink RX5 123 yX5_wrongly ∈ z_ws := z_in 744 (by decide +kernel) (by decide)
theorem wm_X5_126 : Cond.methodLink RX5 126 yX5_turnBy ∈ z_ws := z_in 721 (by decide +kernel) (by decide)
theorem wm_X5_130 : Cond.methodLink RX5 130 yX5_isWord ∈ z_ws := z_in 699 (by decide +kernel) (by decide)
theorem wm_X5_133 : Cond.methodLink RX5 133 yX5_keeps ∈ z_ws := z_in 702 (by decide +kernel) (by decide)
theorem wm_X5_136 : Cond.methodLink RX5 136 yX5_errors ∈ z_ws := z_in 706 (by decide +kernel) (by decide)
theorem wm_X5_140 : Cond.methodLink RX5 140 yX5_says ∈ z_ws := z_in 717 (by decide +kernel) (by decide)
theorem wm_X5_144 : Cond.methodLink RX5 144 yX5_wrong ∈ z_ws := z_in 747 (by decide +kernel) (by decide)
theorem wm_X5_147 : Cond.methodLink RX5 147 yX5_ones ∈ z_ws := z_in 751 (by decide +kernel) (by decide)
theorem wm_X5_150 : Cond.methodLink RX5 150 yX5_comesBy ∈ z_ws := z_in 758 (by decide +kernel) (by decide)
theorem wm_X5_153 : Cond.methodLink RX5 153 yX5_holds ∈ z_ws := z_in 802 (by decide +kernel) (by decide)
theorem wm_X5_156 : Cond.methodLink RX5 156 yX5_isOneWay ∈ z_ws := z_in 806 (by decide +kernel) (by decide)
theorem wm_X5_162 : Cond.methodLink RX5 162 yX5_lets ∈ z_ws := z_in 810 (by decide +kernel) (by decide)
theorem wm_X5_165 : Cond.methodLink RX5 165 yX5_rows ∈ z_ws := z_in 798 (by decide +kernel) (by decide)
theorem wm_X5_168 : Cond.methodLink RX5 168 yX5_doubtful ∈ z_ws := z_in 822 (by decide +kernel) (by decide)
theorem wm_X5_171 : Cond.methodLink RX5 171 yX5_common ∈ z_ws := z_in 826 (by decide +kernel) (by decide)
theorem wm_X5_175 : Cond.methodLink RX5 175 yX5_turn ∈ z_ws := z_in 837 (by decide +kernel) (by decide)
theorem wm_X0_21 : (RX0, 21, yX3_init) ∈ z_nest := List.mem_of_getElem? (i := 0) rfl
theorem wm_X4_9 : (RX4, 9, yX1_init) ∈ z_nest := List.mem_of_getElem? (i := 1) rfl
theorem wm_X4_18 : (RX4, 18, yX2_init) ∈ z_nest := List.mem_of_getElem? (i := 2) rfl
theorem wm_X4_28 : (RX4, 28, yX3_init) ∈ z_nest := List.mem_of_getElem? (i := 3) rfl
theorem wc_X0_13 : Cond.classLink RX0 13 RX3 ∈ z_ws := z_in 180 (by decide +kernel) (by decide)
theorem wc_X4_7 : Cond.classLink RX4 7 RX1 ∈ z_ws := z_in 77 (by decide +kernel) (by decide)
theorem wc_X4_16 : Cond.classLink RX4 16 RX2 ∈ z_ws := z_in 96 (by decide +kernel) (by decide)
theorem wc_X4_26 : Cond.classLink RX4 26 RX3 ∈ z_ws := z_in 132 (by decide +kernel) (by decide)
theorem wc_X4_36 : Cond.classLink RX4 36 RX0 ∈ z_ws := z_in 171 (by decide +kernel) (by decide)
theorem wk_J6_265 : Cond.constant RJ6 265 (1431655765) ∈ z_ws := z_in 417 (by decide +kernel) (by decide)
theorem wk_J6_266 : Cond.constant RJ6 266 (858993459) ∈ z_ws := z_in 418 (by decide +kernel) (by decide)
theorem wk_J6_267 : Cond.constant RJ6 267 (252645135) ∈ z_ws := z_in 419 (by decide +kernel) (by decide)
theorem wk_X4_213 : Cond.constantLong RX4 213 (7919) ∈ z_ws := z_in 391 (by decide +kernel) (by decide)
theorem wk_X4_215 : Cond.constantLong RX4 215 (6151) ∈ z_ws := z_in 392 (by decide +kernel) (by decide)
theorem wk_X4_231 : Cond.constantLong RX4 231 (65521) ∈ z_ws := z_in 397 (by decide +kernel) (by decide)
theorem wk_X4_233 : Cond.constantLong RX4 233 (8) ∈ z_ws := z_in 398 (by decide +kernel) (by decide)
theorem wk_X4_241 : Cond.constantLong RX4 241 (3571) ∈ z_ws := z_in 393 (by decide +kernel) (by decide)
theorem wk_X5_102 : Cond.constantLong RX5 102 (65521) ∈ z_ws := z_in 716 (by decide +kernel) (by decide)
theorem wk_X5_104 : Cond.constantLong RX5 104 (7919) ∈ z_ws := z_in 710 (by decide +kernel) (by decide)
theorem wk_X5_106 : Cond.constantLong RX5 106 (6151) ∈ z_ws := z_in 711 (by decide +kernel) (by decide)
theorem wk_X5_108 : Cond.constantLong RX5 108 (3571) ∈ z_ws := z_in 712 (by decide +kernel) (by decide)
theorem wi_X0 : Cond.instantiable RX0 2 ∈ z_ws := z_in 172 (by decide +kernel) (by decide)
theorem wn_X0 : Cond.initialized RX0 ∈ z_ws := z_in 60 (by decide +kernel) (by decide)
theorem wi_X1 : Cond.instantiable RX1 3 ∈ z_ws := z_in 78 (by decide +kernel) (by decide)
theorem wn_X1 : Cond.initialized RX1 ∈ z_ws := z_in 57 (by decide +kernel) (by decide)
theorem wi_X2 : Cond.instantiable RX2 7 ∈ z_ws := z_in 97 (by decide +kernel) (by decide)
theorem wn_X2 : Cond.initialized RX2 ∈ z_ws := z_in 58 (by decide +kernel) (by decide)
theorem wi_X3 : Cond.instantiable RX3 8 ∈ z_ws := z_in 133 (by decide +kernel) (by decide)
theorem wn_X3 : Cond.initialized RX3 ∈ z_ws := z_in 59 (by decide +kernel) (by decide)
theorem wi_X4 : Cond.instantiable RX4 10 ∈ z_ws := z_in 70 (by decide +kernel) (by decide)
theorem wn_X4 : Cond.initialized RX4 ∈ z_ws := z_in 56 (by decide +kernel) (by decide)
theorem wi_X5 : Cond.instantiable RX5 14 ∈ z_ws := z_in 577 (by decide +kernel) (by decide)
theorem wn_X5 : Cond.initialized RX5 ∈ z_ws := z_in 67 (by decide +kernel) (by decide)
theorem mw_J6_bitCount_0f7a4 : z_Mw yJ6_bitCount_0f7a4 cJ6_bitCount_0f7a4 1 (some .int) 1 := ⟨z_in 416 (by decide +kernel) (by decide), z_in 68 (by decide +kernel) (by decide), by decide +kernel⟩
theorem iw_J6_bitCount_0f7a4 : Cond.static yJ6_bitCount_0f7a4 ∈ z_ws := z_in 415 (by decide +kernel) (by decide)
theorem mw_X3_init : z_Mw yX3_init cX3_init 1 none 0 := ⟨z_in 136 (by decide +kernel) (by decide), z_in 59 (by decide +kernel) (by decide), by decide +kernel⟩
theorem iw_X3_init : Cond.instanceMethod yX3_init ∈ z_ws := z_in 135 (by decide +kernel) (by decide)
theorem mw_X0_init : z_Mw yX0_init cX0_init 3 none 1 := ⟨z_in 175 (by decide +kernel) (by decide), z_in 60 (by decide +kernel) (by decide), by decide +kernel⟩
theorem iw_X0_init : Cond.instanceMethod yX0_init ∈ z_ws := z_in 174 (by decide +kernel) (by decide)
theorem mw_X0_loseOldest : z_Mw yX0_loseOldest cX0_loseOldest 3 none 0 := ⟨z_in 368 (by decide +kernel) (by decide), z_in 60 (by decide +kernel) (by decide), by decide +kernel⟩
theorem iw_X0_loseOldest : Cond.instanceMethod yX0_loseOldest ∈ z_ws ∧ Cond.selects RX0 yX0_loseOldest yX0_loseOldest ∈ z_ws := ⟨z_in 367 (by decide +kernel) (by decide), z_in 7 (by decide +kernel) (by decide)⟩
theorem mw_X3_copy : z_Mw yX3_copy cX3_copy 2 none 1 := ⟨z_in 372 (by decide +kernel) (by decide), z_in 59 (by decide +kernel) (by decide), by decide +kernel⟩
theorem iw_X3_copy : Cond.instanceMethod yX3_copy ∈ z_ws ∧ Cond.selects RX3 yX3_copy yX3_copy ∈ z_ws := ⟨z_in 370 (by decide +kernel) (by decide), z_in 371 (by decide +kernel) (by decide)⟩
theorem mw_X0_put : z_Mw yX0_put cX0_put 2 none 1 := ⟨z_in 364 (by decide +kernel) (by decide), z_in 60 (by decide +kernel) (by decide), by decide +kernel⟩
theorem iw_X0_put : Cond.instanceMethod yX0_put ∈ z_ws ∧ Cond.selects RX0 yX0_put yX0_put ∈ z_ws := ⟨z_in 362 (by decide +kernel) (by decide), z_in 363 (by decide +kernel) (by decide)⟩
theorem mw_X0_takeTop : z_Mw yX0_takeTop cX0_takeTop 2 (some .boolean) 1 := ⟨z_in 446 (by decide +kernel) (by decide), z_in 60 (by decide +kernel) (by decide), by decide +kernel⟩
theorem iw_X0_takeTop : Cond.instanceMethod yX0_takeTop ∈ z_ws ∧ Cond.selects RX0 yX0_takeTop yX0_takeTop ∈ z_ws := ⟨z_in 444 (by decide +kernel) (by decide), z_in 445 (by decide +kernel) (by decide)⟩
theorem mw_X1_add : z_Mw yX1_add cX1_add 2 (some .boolean) 1 := ⟨z_in 243 (by decide +kernel) (by decide), z_in 57 (by decide +kernel) (by decide), by decide +kernel⟩
theorem iw_X1_add : Cond.instanceMethod yX1_add ∈ z_ws ∧ Cond.selects RX1 yX1_add yX1_add ∈ z_ws := ⟨z_in 241 (by decide +kernel) (by decide), z_in 242 (by decide +kernel) (by decide)⟩
theorem mw_X1_clear : z_Mw yX1_clear cX1_clear 1 none 0 := ⟨z_in 293 (by decide +kernel) (by decide), z_in 57 (by decide +kernel) (by decide), by decide +kernel⟩
theorem iw_X1_clear : Cond.instanceMethod yX1_clear ∈ z_ws ∧ Cond.selects RX1 yX1_clear yX1_clear ∈ z_ws := ⟨z_in 291 (by decide +kernel) (by decide), z_in 292 (by decide +kernel) (by decide)⟩
theorem mw_X1_init : z_Mw yX1_init cX1_init 1 none 0 := ⟨z_in 81 (by decide +kernel) (by decide), z_in 57 (by decide +kernel) (by decide), by decide +kernel⟩
theorem iw_X1_init : Cond.instanceMethod yX1_init ∈ z_ws := z_in 80 (by decide +kernel) (by decide)
theorem mw_X1_isFigure : z_Mw yX1_isFigure cX1_isFigure 2 (some .boolean) 1 := ⟨z_in 270 (by decide +kernel) (by decide), z_in 57 (by decide +kernel) (by decide), by decide +kernel⟩
theorem iw_X1_isFigure : Cond.instanceMethod yX1_isFigure ∈ z_ws ∧ Cond.selects RX1 yX1_isFigure yX1_isFigure ∈ z_ws := ⟨z_in 269 (by decide +kernel) (by decide), z_in 3 (by decide +kernel) (by decide)⟩
theorem mw_X1_numbersBehind : z_Mw yX1_numbersBehind cX1_numbersBehind 1 (some .int) 1 := ⟨z_in 262 (by decide +kernel) (by decide), z_in 57 (by decide +kernel) (by decide), by decide +kernel⟩
theorem iw_X1_numbersBehind : Cond.static yX1_numbersBehind ∈ z_ws := z_in 261 (by decide +kernel) (by decide)
theorem mw_X1_readNumber : z_Mw yX1_readNumber cX1_readNumber 5 (some .int) 2 := ⟨z_in 266 (by decide +kernel) (by decide), z_in 57 (by decide +kernel) (by decide), by decide +kernel⟩
theorem iw_X1_readNumber : Cond.instanceMethod yX1_readNumber ∈ z_ws ∧ Cond.selects RX1 yX1_readNumber yX1_readNumber ∈ z_ws := ⟨z_in 265 (by decide +kernel) (by decide), z_in 2 (by decide +kernel) (by decide)⟩
theorem mw_X2_takeMan : z_Mw yX2_takeMan cX2_takeMan 5 (some .boolean) 4 := ⟨z_in 278 (by decide +kernel) (by decide), z_in 58 (by decide +kernel) (by decide), by decide +kernel⟩
theorem iw_X2_takeMan : Cond.instanceMethod yX2_takeMan ∈ z_ws ∧ Cond.selects RX2 yX2_takeMan yX2_takeMan ∈ z_ws := ⟨z_in 277 (by decide +kernel) (by decide), z_in 4 (by decide +kernel) (by decide)⟩
theorem mw_X2_take : z_Mw yX2_take cX2_take 3 (some .boolean) 2 := ⟨z_in 274 (by decide +kernel) (by decide), z_in 58 (by decide +kernel) (by decide), by decide +kernel⟩
theorem iw_X2_take : Cond.instanceMethod yX2_take ∈ z_ws ∧ Cond.selects RX2 yX2_take yX2_take ∈ z_ws := ⟨z_in 272 (by decide +kernel) (by decide), z_in 273 (by decide +kernel) (by decide)⟩
theorem mw_X1_readItem : z_Mw yX1_readItem cX1_readItem 9 (some .int) 2 := ⟨z_in 259 (by decide +kernel) (by decide), z_in 57 (by decide +kernel) (by decide), by decide +kernel⟩
theorem iw_X1_readItem : Cond.instanceMethod yX1_readItem ∈ z_ws ∧ Cond.selects RX1 yX1_readItem yX1_readItem ∈ z_ws := ⟨z_in 258 (by decide +kernel) (by decide), z_in 1 (by decide +kernel) (by decide)⟩
theorem mw_X2_clear : z_Mw yX2_clear cX2_clear 1 none 0 := ⟨z_in 255 (by decide +kernel) (by decide), z_in 58 (by decide +kernel) (by decide), by decide +kernel⟩
theorem iw_X2_clear : Cond.instanceMethod yX2_clear ∈ z_ws ∧ Cond.selects RX2 yX2_clear yX2_clear ∈ z_ws := ⟨z_in 253 (by decide +kernel) (by decide), z_in 254 (by decide +kernel) (by decide)⟩
theorem mw_X1_readInto : z_Mw yX1_readInto cX1_readInto 5 (some .int) 1 := ⟨z_in 251 (by decide +kernel) (by decide), z_in 57 (by decide +kernel) (by decide), by decide +kernel⟩
theorem iw_X1_readInto : Cond.instanceMethod yX1_readInto ∈ z_ws ∧ Cond.selects RX1 yX1_readInto yX1_readInto ∈ z_ws := ⟨z_in 249 (by decide +kernel) (by decide), z_in 250 (by decide +kernel) (by decide)⟩
theorem mw_X2_canBeLaid : z_Mw yX2_canBeLaid cX2_canBeLaid 2 (some .boolean) 0 := ⟨z_in 282 (by decide +kernel) (by decide), z_in 58 (by decide +kernel) (by decide), by decide +kernel⟩
theorem iw_X2_canBeLaid : Cond.instanceMethod yX2_canBeLaid ∈ z_ws ∧ Cond.selects RX2 yX2_canBeLaid yX2_canBeLaid ∈ z_ws := ⟨z_in 280 (by decide +kernel) (by decide), z_in 281 (by decide +kernel) (by decide)⟩
theorem mw_X2_init : z_Mw yX2_init cX2_init 1 none 0 := ⟨z_in 100 (by decide +kernel) (by decide), z_in 58 (by decide +kernel) (by decide), by decide +kernel⟩
theorem iw_X2_init : Cond.instanceMethod yX2_init ∈ z_ws := z_in 99 (by decide +kernel) (by decide)
theorem mw_X3_begin : z_Mw yX3_begin cX3_begin 2 none 1 := ⟨z_in 286 (by decide +kernel) (by decide), z_in 59 (by decide +kernel) (by decide), by decide +kernel⟩
theorem iw_X3_begin : Cond.instanceMethod yX3_begin ∈ z_ws ∧ Cond.selects RX3 yX3_begin yX3_begin ∈ z_ws := ⟨z_in 284 (by decide +kernel) (by decide), z_in 285 (by decide +kernel) (by decide)⟩
theorem mw_X4_turnBy : z_Mw yX4_turnBy cX4_turnBy 3 (some .int) 3 := ⟨z_in 409 (by decide +kernel) (by decide), z_in 56 (by decide +kernel) (by decide), by decide +kernel⟩
theorem iw_X4_turnBy : Cond.static yX4_turnBy ∈ z_ws := z_in 408 (by decide +kernel) (by decide)
theorem mw_X4_addUpRow : z_Mw yX4_addUpRow cX4_addUpRow 10 none 2 := ⟨z_in 493 (by decide +kernel) (by decide), z_in 56 (by decide +kernel) (by decide), by decide +kernel⟩
theorem iw_X4_addUpRow : Cond.instanceMethod yX4_addUpRow ∈ z_ws ∧ Cond.selects RX4 yX4_addUpRow yX4_addUpRow ∈ z_ws := ⟨z_in 492 (by decide +kernel) (by decide), z_in 20 (by decide +kernel) (by decide)⟩
theorem mw_X4_chainEnd : z_Mw yX4_chainEnd cX4_chainEnd 5 (some .int) 2 := ⟨z_in 380 (by decide +kernel) (by decide), z_in 56 (by decide +kernel) (by decide), by decide +kernel⟩
theorem iw_X4_chainEnd : Cond.instanceMethod yX4_chainEnd ∈ z_ws ∧ Cond.selects RX4 yX4_chainEnd yX4_chainEnd ∈ z_ws := ⟨z_in 379 (by decide +kernel) (by decide), z_in 9 (by decide +kernel) (by decide)⟩
theorem mw_X4_findLeaders : z_Mw yX4_findLeaders cX4_findLeaders 3 none 0 := ⟨z_in 376 (by decide +kernel) (by decide), z_in 56 (by decide +kernel) (by decide), by decide +kernel⟩
theorem iw_X4_findLeaders : Cond.instanceMethod yX4_findLeaders ∈ z_ws ∧ Cond.selects RX4 yX4_findLeaders yX4_findLeaders ∈ z_ws := ⟨z_in 375 (by decide +kernel) (by decide), z_in 8 (by decide +kernel) (by decide)⟩
theorem mw_X4_isEither : z_Mw yX4_isEither cX4_isEither 1 (some .boolean) 1 := ⟨z_in 434 (by decide +kernel) (by decide), z_in 56 (by decide +kernel) (by decide), by decide +kernel⟩
theorem iw_X4_isEither : Cond.static yX4_isEither ∈ z_ws := z_in 433 (by decide +kernel) (by decide)
theorem mw_X4_isWord : z_Mw yX4_isWord cX4_isWord 1 (some .boolean) 1 := ⟨z_in 360 (by decide +kernel) (by decide), z_in 56 (by decide +kernel) (by decide), by decide +kernel⟩
theorem iw_X4_isWord : Cond.static yX4_isWord ∈ z_ws := z_in 359 (by decide +kernel) (by decide)
theorem mw_X4_commonDivisor : z_Mw yX4_commonDivisor cX4_commonDivisor 6 (some .int) 2 := ⟨z_in 538 (by decide +kernel) (by decide), z_in 56 (by decide +kernel) (by decide), by decide +kernel⟩
theorem iw_X4_commonDivisor : Cond.static yX4_commonDivisor ∈ z_ws := z_in 537 (by decide +kernel) (by decide)
theorem mw_X4_partInLowestTerms : z_Mw yX4_partInLowestTerms cX4_partInLowestTerms 5 (some .int) 3 := ⟨z_in 535 (by decide +kernel) (by decide), z_in 56 (by decide +kernel) (by decide), by decide +kernel⟩
theorem iw_X4_partInLowestTerms : Cond.static yX4_partInLowestTerms ∈ z_ws := z_in 534 (by decide +kernel) (by decide)
theorem mw_X4_isChancy : z_Mw yX4_isChancy cX4_isChancy 2 (some .boolean) 1 := ⟨z_in 406 (by decide +kernel) (by decide), z_in 56 (by decide +kernel) (by decide), by decide +kernel⟩
theorem iw_X4_isChancy : Cond.instanceMethod yX4_isChancy ∈ z_ws ∧ Cond.selects RX4 yX4_isChancy yX4_isChancy ∈ z_ws := ⟨z_in 405 (by decide +kernel) (by decide), z_in 13 (by decide +kernel) (by decide)⟩
theorem mw_X4_mannerOf : z_Mw yX4_mannerOf cX4_mannerOf 3 (some .int) 2 := ⟨z_in 402 (by decide +kernel) (by decide), z_in 56 (by decide +kernel) (by decide), by decide +kernel⟩
theorem iw_X4_mannerOf : Cond.instanceMethod yX4_mannerOf ∈ z_ws ∧ Cond.selects RX4 yX4_mannerOf yX4_mannerOf ∈ z_ws := ⟨z_in 401 (by decide +kernel) (by decide), z_in 12 (by decide +kernel) (by decide)⟩
theorem mw_X4_waysOfManner : z_Mw yX4_waysOfManner cX4_waysOfManner 3 (some .int) 2 := ⟨z_in 528 (by decide +kernel) (by decide), z_in 56 (by decide +kernel) (by decide), by decide +kernel⟩
theorem iw_X4_waysOfManner : Cond.instanceMethod yX4_waysOfManner ∈ z_ws ∧ Cond.selects RX4 yX4_waysOfManner yX4_waysOfManner ∈ z_ws := ⟨z_in 527 (by decide +kernel) (by decide), z_in 26 (by decide +kernel) (by decide)⟩
theorem mw_X4_facingBy : z_Mw yX4_facingBy cX4_facingBy 4 (some .int) 3 := ⟨z_in 508 (by decide +kernel) (by decide), z_in 56 (by decide +kernel) (by decide), by decide +kernel⟩
theorem iw_X4_facingBy : Cond.instanceMethod yX4_facingBy ∈ z_ws ∧ Cond.selects RX4 yX4_facingBy yX4_facingBy ∈ z_ws := ⟨z_in 507 (by decide +kernel) (by decide), z_in 22 (by decide +kernel) (by decide)⟩
theorem mw_X4_wouldLedFace : z_Mw yX4_wouldLedFace cX4_wouldLedFace 6 (some .boolean) 4 := ⟨z_in 524 (by decide +kernel) (by decide), z_in 56 (by decide +kernel) (by decide), by decide +kernel⟩
theorem iw_X4_wouldLedFace : Cond.instanceMethod yX4_wouldLedFace ∈ z_ws ∧ Cond.selects RX4 yX4_wouldLedFace yX4_wouldLedFace ∈ z_ws := ⟨z_in 523 (by decide +kernel) (by decide), z_in 25 (by decide +kernel) (by decide)⟩
theorem mw_X4_waysLedFace : z_Mw yX4_waysLedFace cX4_waysLedFace 6 (some .int) 3 := ⟨z_in 520 (by decide +kernel) (by decide), z_in 56 (by decide +kernel) (by decide), by decide +kernel⟩
theorem iw_X4_waysLedFace : Cond.instanceMethod yX4_waysLedFace ∈ z_ws ∧ Cond.selects RX4 yX4_waysLedFace yX4_waysLedFace ∈ z_ws := ⟨z_in 519 (by decide +kernel) (by decide), z_in 24 (by decide +kernel) (by decide)⟩
theorem mw_X4_waysAllFace : z_Mw yX4_waysAllFace cX4_waysAllFace 5 (some .int) 2 := ⟨z_in 516 (by decide +kernel) (by decide), z_in 56 (by decide +kernel) (by decide), by decide +kernel⟩
theorem iw_X4_waysAllFace : Cond.instanceMethod yX4_waysAllFace ∈ z_ws ∧ Cond.selects RX4 yX4_waysAllFace yX4_waysAllFace ∈ z_ws := ⟨z_in 515 (by decide +kernel) (by decide), z_in 23 (by decide +kernel) (by decide)⟩
theorem mw_X4_waysToTurn : z_Mw yX4_waysToTurn cX4_waysToTurn 2 (some .int) 1 := ⟨z_in 532 (by decide +kernel) (by decide), z_in 56 (by decide +kernel) (by decide), by decide +kernel⟩
theorem iw_X4_waysToTurn : Cond.instanceMethod yX4_waysToTurn ∈ z_ws ∧ Cond.selects RX4 yX4_waysToTurn yX4_waysToTurn ∈ z_ws := ⟨z_in 531 (by decide +kernel) (by decide), z_in 27 (by decide +kernel) (by decide)⟩
theorem mw_X4_alike : z_Mw yX4_alike cX4_alike 6 (some .int) 2 := ⟨z_in 512 (by decide +kernel) (by decide), z_in 56 (by decide +kernel) (by decide), by decide +kernel⟩
theorem iw_X4_alike : Cond.instanceMethod yX4_alike ∈ z_ws ∧ Cond.selects RX4 yX4_alike yX4_alike ∈ z_ws := ⟨z_in 510 (by decide +kernel) (by decide), z_in 511 (by decide +kernel) (by decide)⟩
theorem mw_X4_back : z_Mw yX4_back cX4_back 1 (some .int) 0 := ⟨z_in 571 (by decide +kernel) (by decide), z_in 56 (by decide +kernel) (by decide), by decide +kernel⟩
theorem iw_X4_back : Cond.instanceMethod yX4_back ∈ z_ws ∧ Cond.selects RX4 yX4_back yX4_back ∈ z_ws := ⟨z_in 569 (by decide +kernel) (by decide), z_in 570 (by decide +kernel) (by decide)⟩
theorem mw_X4_count : z_Mw yX4_count cX4_count 2 (some .int) 1 := ⟨z_in 575 (by decide +kernel) (by decide), z_in 56 (by decide +kernel) (by decide), by decide +kernel⟩
theorem iw_X4_count : Cond.instanceMethod yX4_count ∈ z_ws ∧ Cond.selects RX4 yX4_count yX4_count ∈ z_ws := ⟨z_in 573 (by decide +kernel) (by decide), z_in 574 (by decide +kernel) (by decide)⟩
theorem mw_X4_drawOf : z_Mw yX4_drawOf cX4_drawOf 2 (some .int) 1 := ⟨z_in 396 (by decide +kernel) (by decide), z_in 56 (by decide +kernel) (by decide), by decide +kernel⟩
theorem iw_X4_drawOf : Cond.static yX4_drawOf ∈ z_ws := z_in 395 (by decide +kernel) (by decide)
theorem mw_X4_isAlike : z_Mw yX4_isAlike cX4_isAlike 3 (some .boolean) 1 := ⟨z_in 563 (by decide +kernel) (by decide), z_in 56 (by decide +kernel) (by decide), by decide +kernel⟩
theorem iw_X4_isAlike : Cond.instanceMethod yX4_isAlike ∈ z_ws ∧ Cond.selects RX4 yX4_isAlike yX4_isAlike ∈ z_ws := ⟨z_in 562 (by decide +kernel) (by decide), z_in 28 (by decide +kernel) (by decide)⟩
theorem mw_X4_errsByDraw : z_Mw yX4_errsByDraw cX4_errsByDraw 5 (some .boolean) 2 := ⟨z_in 390 (by decide +kernel) (by decide), z_in 56 (by decide +kernel) (by decide), by decide +kernel⟩
theorem iw_X4_errsByDraw : Cond.instanceMethod yX4_errsByDraw ∈ z_ws ∧ Cond.selects RX4 yX4_errsByDraw yX4_errsByDraw ∈ z_ws := ⟨z_in 389 (by decide +kernel) (by decide), z_in 11 (by decide +kernel) (by decide)⟩
theorem mw_X4_say : z_Mw yX4_say cX4_say 7 none 2 := ⟨z_in 384 (by decide +kernel) (by decide), z_in 56 (by decide +kernel) (by decide), by decide +kernel⟩
theorem iw_X4_say : Cond.instanceMethod yX4_say ∈ z_ws ∧ Cond.selects RX4 yX4_say yX4_say ∈ z_ws := ⟨z_in 383 (by decide +kernel) (by decide), z_in 10 (by decide +kernel) (by decide)⟩
theorem mw_X4_dueFacing : z_Mw yX4_dueFacing cX4_dueFacing 3 (some .int) 2 := ⟨z_in 353 (by decide +kernel) (by decide), z_in 56 (by decide +kernel) (by decide), by decide +kernel⟩
theorem iw_X4_dueFacing : Cond.instanceMethod yX4_dueFacing ∈ z_ws ∧ Cond.selects RX4 yX4_dueFacing yX4_dueFacing ∈ z_ws := ⟨z_in 352 (by decide +kernel) (by decide), z_in 6 (by decide +kernel) (by decide)⟩
theorem mw_X4_wrongMen : z_Mw yX4_wrongMen cX4_wrongMen 4 (some .int) 1 := ⟨z_in 413 (by decide +kernel) (by decide), z_in 56 (by decide +kernel) (by decide), by decide +kernel⟩
theorem iw_X4_wrongMen : Cond.instanceMethod yX4_wrongMen ∈ z_ws ∧ Cond.selects RX4 yX4_wrongMen yX4_wrongMen ∈ z_ws := ⟨z_in 412 (by decide +kernel) (by decide), z_in 14 (by decide +kernel) (by decide)⟩
theorem mw_X4_drill : z_Mw yX4_drill cX4_drill 6 (some .int) 3 := ⟨z_in 558 (by decide +kernel) (by decide), z_in 56 (by decide +kernel) (by decide), by decide +kernel⟩
theorem iw_X4_drill : Cond.instanceMethod yX4_drill ∈ z_ws ∧ Cond.selects RX4 yX4_drill yX4_drill ∈ z_ws := ⟨z_in 556 (by decide +kernel) (by decide), z_in 557 (by decide +kernel) (by decide)⟩
theorem mw_X4_eyes : z_Mw yX4_eyes cX4_eyes 3 (some .int) 1 := ⟨z_in 431 (by decide +kernel) (by decide), z_in 56 (by decide +kernel) (by decide), by decide +kernel⟩
theorem iw_X4_eyes : Cond.instanceMethod yX4_eyes ∈ z_ws ∧ Cond.selects RX4 yX4_eyes yX4_eyes ∈ z_ws := ⟨z_in 429 (by decide +kernel) (by decide), z_in 430 (by decide +kernel) (by decide)⟩
theorem mw_X4_facingForeseen : z_Mw yX4_facingForeseen cX4_facingForeseen 3 (some .int) 2 := ⟨z_in 504 (by decide +kernel) (by decide), z_in 56 (by decide +kernel) (by decide), by decide +kernel⟩
theorem iw_X4_facingForeseen : Cond.instanceMethod yX4_facingForeseen ∈ z_ws ∧ Cond.selects RX4 yX4_facingForeseen yX4_facingForeseen ∈ z_ws := ⟨z_in 503 (by decide +kernel) (by decide), z_in 21 (by decide +kernel) (by decide)⟩
theorem mw_X4_fault : z_Mw yX4_fault cX4_fault 1 (some .int) 0 := ⟨z_in 337 (by decide +kernel) (by decide), z_in 56 (by decide +kernel) (by decide), by decide +kernel⟩
theorem iw_X4_fault : Cond.instanceMethod yX4_fault ∈ z_ws ∧ Cond.selects RX4 yX4_fault yX4_fault ∈ z_ws := ⟨z_in 335 (by decide +kernel) (by decide), z_in 336 (by decide +kernel) (by decide)⟩
theorem mw_X4_findManners : z_Mw yX4_findManners cX4_findManners 2 none 0 := ⟨z_in 479 (by decide +kernel) (by decide), z_in 56 (by decide +kernel) (by decide), by decide +kernel⟩
theorem iw_X4_findManners : Cond.instanceMethod yX4_findManners ∈ z_ws ∧ Cond.selects RX4 yX4_findManners yX4_findManners ∈ z_ws := ⟨z_in 478 (by decide +kernel) (by decide), z_in 17 (by decide +kernel) (by decide)⟩
theorem mw_X4_isRowAlike : z_Mw yX4_isRowAlike cX4_isRowAlike 5 (some .boolean) 2 := ⟨z_in 489 (by decide +kernel) (by decide), z_in 56 (by decide +kernel) (by decide), by decide +kernel⟩
theorem iw_X4_isRowAlike : Cond.instanceMethod yX4_isRowAlike ∈ z_ws ∧ Cond.selects RX4 yX4_isRowAlike yX4_isRowAlike ∈ z_ws := ⟨z_in 488 (by decide +kernel) (by decide), z_in 19 (by decide +kernel) (by decide)⟩
theorem mw_X4_firstRowAlike : z_Mw yX4_firstRowAlike cX4_firstRowAlike 3 (some .int) 1 := ⟨z_in 483 (by decide +kernel) (by decide), z_in 56 (by decide +kernel) (by decide), by decide +kernel⟩
theorem iw_X4_firstRowAlike : Cond.instanceMethod yX4_firstRowAlike ∈ z_ws ∧ Cond.selects RX4 yX4_firstRowAlike yX4_firstRowAlike ∈ z_ws := ⟨z_in 482 (by decide +kernel) (by decide), z_in 18 (by decide +kernel) (by decide)⟩
theorem mw_X4_isMan : z_Mw yX4_isMan cX4_isMan 2 (some .boolean) 1 := ⟨z_in 349 (by decide +kernel) (by decide), z_in 56 (by decide +kernel) (by decide), by decide +kernel⟩
theorem iw_X4_isMan : Cond.instanceMethod yX4_isMan ∈ z_ws ∧ Cond.selects RX4 yX4_isMan yX4_isMan ∈ z_ws := ⟨z_in 348 (by decide +kernel) (by decide), z_in 5 (by decide +kernel) (by decide)⟩
theorem mw_X4_follows : z_Mw yX4_follows cX4_follows 2 (some .int) 1 := ⟨z_in 454 (by decide +kernel) (by decide), z_in 56 (by decide +kernel) (by decide), by decide +kernel⟩
theorem iw_X4_follows : Cond.instanceMethod yX4_follows ∈ z_ws ∧ Cond.selects RX4 yX4_follows yX4_follows ∈ z_ws := ⟨z_in 452 (by decide +kernel) (by decide), z_in 453 (by decide +kernel) (by decide)⟩
theorem mw_X4_groups : z_Mw yX4_groups cX4_groups 6 (some .int) 1 := ⟨z_in 470 (by decide +kernel) (by decide), z_in 56 (by decide +kernel) (by decide), by decide +kernel⟩
theorem iw_X4_groups : Cond.instanceMethod yX4_groups ∈ z_ws ∧ Cond.selects RX4 yX4_groups yX4_groups ∈ z_ws := ⟨z_in 468 (by decide +kernel) (by decide), z_in 469 (by decide +kernel) (by decide)⟩
theorem mw_X4_heeds : z_Mw yX4_heeds cX4_heeds 3 (some .boolean) 2 := ⟨z_in 427 (by decide +kernel) (by decide), z_in 56 (by decide +kernel) (by decide), by decide +kernel⟩
theorem iw_X4_heeds : Cond.instanceMethod yX4_heeds ∈ z_ws ∧ Cond.selects RX4 yX4_heeds yX4_heeds ∈ z_ws := ⟨z_in 426 (by decide +kernel) (by decide), z_in 15 (by decide +kernel) (by decide)⟩
theorem mw_X4_layScript : z_Mw yX4_layScript cX4_layScript 2 (some .boolean) 0 := ⟨z_in 247 (by decide +kernel) (by decide), z_in 56 (by decide +kernel) (by decide), by decide +kernel⟩
theorem iw_X4_layScript : Cond.instanceMethod yX4_layScript ∈ z_ws ∧ Cond.selects RX4 yX4_layScript yX4_layScript ∈ z_ws := ⟨z_in 246 (by decide +kernel) (by decide), z_in 0 (by decide +kernel) (by decide)⟩
theorem mw_X4_init : z_Mw yX4_init cX4_init 2 none 0 := ⟨z_in 73 (by decide +kernel) (by decide), z_in 56 (by decide +kernel) (by decide), by decide +kernel⟩
theorem iw_X4_init : Cond.instanceMethod yX4_init ∈ z_ws := z_in 72 (by decide +kernel) (by decide)
theorem mw_X4_keep : z_Mw yX4_keep cX4_keep 1 (some .int) 0 := ⟨z_in 567 (by decide +kernel) (by decide), z_in 56 (by decide +kernel) (by decide), by decide +kernel⟩
theorem iw_X4_keep : Cond.instanceMethod yX4_keep ∈ z_ws ∧ Cond.selects RX4 yX4_keep yX4_keep ∈ z_ws := ⟨z_in 565 (by decide +kernel) (by decide), z_in 566 (by decide +kernel) (by decide)⟩
theorem mw_X4_lay : z_Mw yX4_lay cX4_lay 1 (some .int) 0 := ⟨z_in 341 (by decide +kernel) (by decide), z_in 56 (by decide +kernel) (by decide), by decide +kernel⟩
theorem iw_X4_lay : Cond.instanceMethod yX4_lay ∈ z_ws ∧ Cond.selects RX4 yX4_lay yX4_lay ∈ z_ws := ⟨z_in 339 (by decide +kernel) (by decide), z_in 340 (by decide +kernel) (by decide)⟩
theorem mw_X4_look : z_Mw yX4_look cX4_look 4 (some .int) 2 := ⟨z_in 438 (by decide +kernel) (by decide), z_in 56 (by decide +kernel) (by decide), by decide +kernel⟩
theorem iw_X4_look : Cond.instanceMethod yX4_look ∈ z_ws ∧ Cond.selects RX4 yX4_look yX4_look ∈ z_ws := ⟨z_in 436 (by decide +kernel) (by decide), z_in 437 (by decide +kernel) (by decide)⟩
theorem mw_X4_man : z_Mw yX4_man cX4_man 3 (some .int) 2 := ⟨z_in 345 (by decide +kernel) (by decide), z_in 56 (by decide +kernel) (by decide), by decide +kernel⟩
theorem iw_X4_man : Cond.instanceMethod yX4_man ∈ z_ws ∧ Cond.selects RX4 yX4_man yX4_man ∈ z_ws := ⟨z_in 343 (by decide +kernel) (by decide), z_in 344 (by decide +kernel) (by decide)⟩
theorem mw_X4_menFacing : z_Mw yX4_menFacing cX4_menFacing 4 (some .int) 1 := ⟨z_in 466 (by decide +kernel) (by decide), z_in 56 (by decide +kernel) (by decide), by decide +kernel⟩
theorem iw_X4_menFacing : Cond.instanceMethod yX4_menFacing ∈ z_ws ∧ Cond.selects RX4 yX4_menFacing yX4_menFacing ∈ z_ws := ⟨z_in 465 (by decide +kernel) (by decide), z_in 16 (by decide +kernel) (by decide)⟩
theorem mw_X4_most : z_Mw yX4_most cX4_most 4 (some .int) 1 := ⟨z_in 462 (by decide +kernel) (by decide), z_in 56 (by decide +kernel) (by decide), by decide +kernel⟩
theorem iw_X4_most : Cond.instanceMethod yX4_most ∈ z_ws ∧ Cond.selects RX4 yX4_most yX4_most ∈ z_ws := ⟨z_in 460 (by decide +kernel) (by decide), z_in 461 (by decide +kernel) (by decide)⟩
theorem mw_X4_numbers : z_Mw yX4_numbers cX4_numbers 4 (some .int) 1 := ⟨z_in 554 (by decide +kernel) (by decide), z_in 56 (by decide +kernel) (by decide), by decide +kernel⟩
theorem iw_X4_numbers : Cond.instanceMethod yX4_numbers ∈ z_ws ∧ Cond.selects RX4 yX4_numbers yX4_numbers ∈ z_ws := ⟨z_in 552 (by decide +kernel) (by decide), z_in 553 (by decide +kernel) (by decide)⟩
theorem mw_X4_wordOfRow : z_Mw yX4_wordOfRow cX4_wordOfRow 5 (some .int) 3 := ⟨z_in 496 (by decide +kernel) (by decide), z_in 56 (by decide +kernel) (by decide), by decide +kernel⟩
theorem iw_X4_wordOfRow : Cond.static yX4_wordOfRow ∈ z_ws := z_in 495 (by decide +kernel) (by decide)
theorem mw_X4_plan : z_Mw yX4_plan cX4_plan 4 (some .int) 1 := ⟨z_in 475 (by decide +kernel) (by decide), z_in 56 (by decide +kernel) (by decide), by decide +kernel⟩
theorem iw_X4_plan : Cond.instanceMethod yX4_plan ∈ z_ws ∧ Cond.selects RX4 yX4_plan yX4_plan ∈ z_ws := ⟨z_in 473 (by decide +kernel) (by decide), z_in 474 (by decide +kernel) (by decide)⟩
theorem mw_X4_right : z_Mw yX4_right cX4_right 8 (some .int) 3 := ⟨z_in 542 (by decide +kernel) (by decide), z_in 56 (by decide +kernel) (by decide), by decide +kernel⟩
theorem iw_X4_right : Cond.instanceMethod yX4_right ∈ z_ws ∧ Cond.selects RX4 yX4_right yX4_right ∈ z_ws := ⟨z_in 540 (by decide +kernel) (by decide), z_in 541 (by decide +kernel) (by decide)⟩
theorem mw_X4_runs : z_Mw yX4_runs cX4_runs 4 (some .int) 1 := ⟨z_in 458 (by decide +kernel) (by decide), z_in 56 (by decide +kernel) (by decide), by decide +kernel⟩
theorem iw_X4_runs : Cond.instanceMethod yX4_runs ∈ z_ws ∧ Cond.selects RX4 yX4_runs yX4_runs ∈ z_ws := ⟨z_in 456 (by decide +kernel) (by decide), z_in 457 (by decide +kernel) (by decide)⟩
theorem mw_X4_safe : z_Mw yX4_safe cX4_safe 4 (some .int) 1 := ⟨z_in 550 (by decide +kernel) (by decide), z_in 56 (by decide +kernel) (by decide), by decide +kernel⟩
theorem iw_X4_safe : Cond.instanceMethod yX4_safe ∈ z_ws ∧ Cond.selects RX4 yX4_safe yX4_safe ∈ z_ws := ⟨z_in 548 (by decide +kernel) (by decide), z_in 549 (by decide +kernel) (by decide)⟩
theorem mw_X4_shout : z_Mw yX4_shout cX4_shout 4 (some .int) 1 := ⟨z_in 423 (by decide +kernel) (by decide), z_in 56 (by decide +kernel) (by decide), by decide +kernel⟩
theorem iw_X4_shout : Cond.instanceMethod yX4_shout ∈ z_ws ∧ Cond.selects RX4 yX4_shout yX4_shout ∈ z_ws := ⟨z_in 421 (by decide +kernel) (by decide), z_in 422 (by decide +kernel) (by decide)⟩
theorem mw_X4_turn : z_Mw yX4_turn cX4_turn 3 (some .int) 2 := ⟨z_in 500 (by decide +kernel) (by decide), z_in 56 (by decide +kernel) (by decide), by decide +kernel⟩
theorem iw_X4_turn : Cond.instanceMethod yX4_turn ∈ z_ws ∧ Cond.selects RX4 yX4_turn yX4_turn ∈ z_ws := ⟨z_in 498 (by decide +kernel) (by decide), z_in 499 (by decide +kernel) (by decide)⟩
theorem mw_X4_undo : z_Mw yX4_undo cX4_undo 1 (some .int) 0 := ⟨z_in 442 (by decide +kernel) (by decide), z_in 56 (by decide +kernel) (by decide), by decide +kernel⟩
theorem iw_X4_undo : Cond.instanceMethod yX4_undo ∈ z_ws ∧ Cond.selects RX4 yX4_undo yX4_undo ∈ z_ws := ⟨z_in 440 (by decide +kernel) (by decide), z_in 441 (by decide +kernel) (by decide)⟩
theorem mw_X4_which : z_Mw yX4_which cX4_which 5 (some .int) 2 := ⟨z_in 546 (by decide +kernel) (by decide), z_in 56 (by decide +kernel) (by decide), by decide +kernel⟩
theorem iw_X4_which : Cond.instanceMethod yX4_which ∈ z_ws ∧ Cond.selects RX4 yX4_which yX4_which ∈ z_ws := ⟨z_in 544 (by decide +kernel) (by decide), z_in 545 (by decide +kernel) (by decide)⟩
theorem mw_X4_who : z_Mw yX4_who cX4_who 2 (some .int) 1 := ⟨z_in 450 (by decide +kernel) (by decide), z_in 56 (by decide +kernel) (by decide), by decide +kernel⟩
theorem iw_X4_who : Cond.instanceMethod yX4_who ∈ z_ws ∧ Cond.selects RX4 yX4_who yX4_who ∈ z_ws := ⟨z_in 448 (by decide +kernel) (by decide), z_in 449 (by decide +kernel) (by decide)⟩
theorem mw_X4_wipe : z_Mw yX4_wipe cX4_wipe 2 (some .int) 0 := ⟨z_in 333 (by decide +kernel) (by decide), z_in 56 (by decide +kernel) (by decide), by decide +kernel⟩
theorem iw_X4_wipe : Cond.instanceMethod yX4_wipe ∈ z_ws ∧ Cond.selects RX4 yX4_wipe yX4_wipe ∈ z_ws := ⟨z_in 331 (by decide +kernel) (by decide), z_in 332 (by decide +kernel) (by decide)⟩
theorem mw_X4_word : z_Mw yX4_word cX4_word 2 (some .int) 1 := ⟨z_in 357 (by decide +kernel) (by decide), z_in 56 (by decide +kernel) (by decide), by decide +kernel⟩
theorem iw_X4_word : Cond.instanceMethod yX4_word ∈ z_ws ∧ Cond.selects RX4 yX4_word yX4_word ∈ z_ws := ⟨z_in 355 (by decide +kernel) (by decide), z_in 356 (by decide +kernel) (by decide)⟩
theorem mw_X4_write : z_Mw yX4_write cX4_write 2 (some .int) 1 := ⟨z_in 329 (by decide +kernel) (by decide), z_in 56 (by decide +kernel) (by decide), by decide +kernel⟩
theorem iw_X4_write : Cond.instanceMethod yX4_write ∈ z_ws ∧ Cond.selects RX4 yX4_write yX4_write ∈ z_ws := ⟨z_in 327 (by decide +kernel) (by decide), z_in 328 (by decide +kernel) (by decide)⟩
theorem mw_X5_adds : z_Mw yX5_adds cX5_adds 6 none 4 := ⟨z_in 589 (by decide +kernel) (by decide), z_in 67 (by decide +kernel) (by decide), by decide +kernel⟩
theorem iw_X5_adds : Cond.instanceMethod yX5_adds ∈ z_ws ∧ Cond.selects RX5 yX5_adds yX5_adds ∈ z_ws := ⟨z_in 588 (by decide +kernel) (by decide), z_in 30 (by decide +kernel) (by decide)⟩
theorem mw_X5_common : z_Mw yX5_common cX5_common 5 (some .int) 2 := ⟨z_in 828 (by decide +kernel) (by decide), z_in 67 (by decide +kernel) (by decide), by decide +kernel⟩
theorem iw_X5_common : Cond.static yX5_common ∈ z_ws := z_in 827 (by decide +kernel) (by decide)
theorem mw_X5_mayErr : z_Mw yX5_mayErr cX5_mayErr 2 (some .boolean) 1 := ⟨z_in 743 (by decide +kernel) (by decide), z_in 67 (by decide +kernel) (by decide), by decide +kernel⟩
theorem iw_X5_mayErr : Cond.instanceMethod yX5_mayErr ∈ z_ws ∧ Cond.selects RX5 yX5_mayErr yX5_mayErr ∈ z_ws := ⟨z_in 742 (by decide +kernel) (by decide), z_in 47 (by decide +kernel) (by decide)⟩
theorem mw_X5_isLooking : z_Mw yX5_isLooking cX5_isLooking 2 (some .boolean) 1 := ⟨z_in 736 (by decide +kernel) (by decide), z_in 67 (by decide +kernel) (by decide), by decide +kernel⟩
theorem iw_X5_isLooking : Cond.instanceMethod yX5_isLooking ∈ z_ws ∧ Cond.selects RX5 yX5_isLooking yX5_isLooking ∈ z_ws := ⟨z_in 735 (by decide +kernel) (by decide), z_in 46 (by decide +kernel) (by decide)⟩
theorem mw_X5_leader : z_Mw yX5_leader cX5_leader 4 (some .int) 1 := ⟨z_in 732 (by decide +kernel) (by decide), z_in 67 (by decide +kernel) (by decide), by decide +kernel⟩
theorem iw_X5_leader : Cond.instanceMethod yX5_leader ∈ z_ws ∧ Cond.selects RX5 yX5_leader yX5_leader ∈ z_ws := ⟨z_in 731 (by decide +kernel) (by decide), z_in 45 (by decide +kernel) (by decide)⟩
theorem mw_X5_turnsAs : z_Mw yX5_turnsAs cX5_turnsAs 3 (some .int) 1 := ⟨z_in 728 (by decide +kernel) (by decide), z_in 67 (by decide +kernel) (by decide), by decide +kernel⟩
theorem iw_X5_turnsAs : Cond.instanceMethod yX5_turnsAs ∈ z_ws ∧ Cond.selects RX5 yX5_turnsAs yX5_turnsAs ∈ z_ws := ⟨z_in 727 (by decide +kernel) (by decide), z_in 44 (by decide +kernel) (by decide)⟩
theorem mw_X5_doubtful : z_Mw yX5_doubtful cX5_doubtful 3 (some .int) 0 := ⟨z_in 825 (by decide +kernel) (by decide), z_in 67 (by decide +kernel) (by decide), by decide +kernel⟩
theorem iw_X5_doubtful : Cond.instanceMethod yX5_doubtful ∈ z_ws ∧ Cond.selects RX5 yX5_doubtful yX5_doubtful ∈ z_ws := ⟨z_in 824 (by decide +kernel) (by decide), z_in 54 (by decide +kernel) (by decide)⟩
theorem mw_X5_in : z_Mw yX5_in cX5_in 3 (some .boolean) 3 := ⟨z_in 643 (by decide +kernel) (by decide), z_in 67 (by decide +kernel) (by decide), by decide +kernel⟩
theorem iw_X5_in : Cond.static yX5_in ∈ z_ws := z_in 642 (by decide +kernel) (by decide)
theorem mw_X5_isWord : z_Mw yX5_isWord cX5_isWord 1 (some .boolean) 1 := ⟨z_in 701 (by decide +kernel) (by decide), z_in 67 (by decide +kernel) (by decide), by decide +kernel⟩
theorem iw_X5_isWord : Cond.static yX5_isWord ∈ z_ws := z_in 700 (by decide +kernel) (by decide)
theorem mw_X5_ones : z_Mw yX5_ones cX5_ones 3 (some .int) 1 := ⟨z_in 753 (by decide +kernel) (by decide), z_in 67 (by decide +kernel) (by decide), by decide +kernel⟩
theorem iw_X5_ones : Cond.static yX5_ones ∈ z_ws := z_in 752 (by decide +kernel) (by decide)
theorem mw_X5_turnOf : z_Mw yX5_turnOf cX5_turnOf 1 (some .int) 1 := ⟨z_in 739 (by decide +kernel) (by decide), z_in 67 (by decide +kernel) (by decide), by decide +kernel⟩
theorem iw_X5_turnOf : Cond.static yX5_turnOf ∈ z_ws := z_in 738 (by decide +kernel) (by decide)
theorem mw_X5_wrongly : z_Mw yX5_wrongly cX5_wrongly 1 (some .int) 1 := ⟨z_in 746 (by decide +kernel) (by decide), z_in 67 (by decide +kernel) (by decide), by decide +kernel⟩
theorem iw_X5_wrongly : Cond.static yX5_wrongly ∈ z_ws := z_in 745 (by decide +kernel) (by decide)
theorem mw_X5_turnBy : z_Mw yX5_turnBy cX5_turnBy 6 (some .int) 3 := ⟨z_in 724 (by decide +kernel) (by decide), z_in 67 (by decide +kernel) (by decide), by decide +kernel⟩
theorem iw_X5_turnBy : Cond.instanceMethod yX5_turnBy ∈ z_ws ∧ Cond.selects RX5 yX5_turnBy yX5_turnBy ∈ z_ws := ⟨z_in 723 (by decide +kernel) (by decide), z_in 43 (by decide +kernel) (by decide)⟩
theorem mw_X5_alike : z_Mw yX5_alike cX5_alike 10 (some .int) 2 := ⟨z_in 821 (by decide +kernel) (by decide), z_in 67 (by decide +kernel) (by decide), by decide +kernel⟩
theorem iw_X5_alike : Cond.instanceMethod yX5_alike ∈ z_ws ∧ Cond.selects RX5 yX5_alike yX5_alike ∈ z_ws := ⟨z_in 819 (by decide +kernel) (by decide), z_in 820 (by decide +kernel) (by decide)⟩
theorem mw_X5_back : z_Mw yX5_back cX5_back 2 (some .int) 0 := ⟨z_in 857 (by decide +kernel) (by decide), z_in 67 (by decide +kernel) (by decide), by decide +kernel⟩
theorem iw_X5_back : Cond.instanceMethod yX5_back ∈ z_ws ∧ Cond.selects RX5 yX5_back yX5_back ∈ z_ws := ⟨z_in 855 (by decide +kernel) (by decide), z_in 856 (by decide +kernel) (by decide)⟩
theorem mw_X5_begins : z_Mw yX5_begins cX5_begins 2 none 0 := ⟨z_in 585 (by decide +kernel) (by decide), z_in 67 (by decide +kernel) (by decide), by decide +kernel⟩
theorem iw_X5_begins : Cond.instanceMethod yX5_begins ∈ z_ws ∧ Cond.selects RX5 yX5_begins yX5_begins ∈ z_ws := ⟨z_in 584 (by decide +kernel) (by decide), z_in 29 (by decide +kernel) (by decide)⟩
theorem mw_X5_comesBy : z_Mw yX5_comesBy cX5_comesBy 6 (some .boolean) 2 := ⟨z_in 761 (by decide +kernel) (by decide), z_in 67 (by decide +kernel) (by decide), by decide +kernel⟩
theorem iw_X5_comesBy : Cond.instanceMethod yX5_comesBy ∈ z_ws ∧ Cond.selects RX5 yX5_comesBy yX5_comesBy ∈ z_ws := ⟨z_in 760 (by decide +kernel) (by decide), z_in 49 (by decide +kernel) (by decide)⟩
theorem mw_X5_count : z_Mw yX5_count cX5_count 2 (some .int) 1 := ⟨z_in 861 (by decide +kernel) (by decide), z_in 67 (by decide +kernel) (by decide), by decide +kernel⟩
theorem iw_X5_count : Cond.instanceMethod yX5_count ∈ z_ws ∧ Cond.selects RX5 yX5_count yX5_count ∈ z_ws := ⟨z_in 859 (by decide +kernel) (by decide), z_in 860 (by decide +kernel) (by decide)⟩
theorem mw_X5_drawOf : z_Mw yX5_drawOf cX5_drawOf 2 (some .int) 1 := ⟨z_in 715 (by decide +kernel) (by decide), z_in 67 (by decide +kernel) (by decide), by decide +kernel⟩
theorem iw_X5_drawOf : Cond.static yX5_drawOf ∈ z_ws := z_in 714 (by decide +kernel) (by decide)
theorem mw_X5_errors : z_Mw yX5_errors cX5_errors 5 (some .int) 1 := ⟨z_in 709 (by decide +kernel) (by decide), z_in 67 (by decide +kernel) (by decide), by decide +kernel⟩
theorem iw_X5_errors : Cond.instanceMethod yX5_errors ∈ z_ws ∧ Cond.selects RX5 yX5_errors yX5_errors ∈ z_ws := ⟨z_in 708 (by decide +kernel) (by decide), z_in 41 (by decide +kernel) (by decide)⟩
theorem mw_X5_holds : z_Mw yX5_holds cX5_holds 2 none 0 := ⟨z_in 805 (by decide +kernel) (by decide), z_in 67 (by decide +kernel) (by decide), by decide +kernel⟩
theorem iw_X5_holds : Cond.instanceMethod yX5_holds ∈ z_ws ∧ Cond.selects RX5 yX5_holds yX5_holds ∈ z_ws := ⟨z_in 804 (by decide +kernel) (by decide), z_in 51 (by decide +kernel) (by decide)⟩
theorem mw_X5_isOneWay : z_Mw yX5_isOneWay cX5_isOneWay 3 (some .boolean) 0 := ⟨z_in 809 (by decide +kernel) (by decide), z_in 67 (by decide +kernel) (by decide), by decide +kernel⟩
theorem iw_X5_isOneWay : Cond.instanceMethod yX5_isOneWay ∈ z_ws ∧ Cond.selects RX5 yX5_isOneWay yX5_isOneWay ∈ z_ws := ⟨z_in 808 (by decide +kernel) (by decide), z_in 52 (by decide +kernel) (by decide)⟩
theorem mw_X5_lets : z_Mw yX5_lets cX5_lets 2 none 0 := ⟨z_in 813 (by decide +kernel) (by decide), z_in 67 (by decide +kernel) (by decide), by decide +kernel⟩
theorem iw_X5_lets : Cond.instanceMethod yX5_lets ∈ z_ws ∧ Cond.selects RX5 yX5_lets yX5_lets ∈ z_ws := ⟨z_in 812 (by decide +kernel) (by decide), z_in 53 (by decide +kernel) (by decide)⟩
theorem mw_X5_says : z_Mw yX5_says cX5_says 5 none 2 := ⟨z_in 720 (by decide +kernel) (by decide), z_in 67 (by decide +kernel) (by decide), by decide +kernel⟩
theorem iw_X5_says : Cond.instanceMethod yX5_says ∈ z_ws ∧ Cond.selects RX5 yX5_says yX5_says ∈ z_ws := ⟨z_in 719 (by decide +kernel) (by decide), z_in 42 (by decide +kernel) (by decide)⟩
theorem mw_X5_dueOf : z_Mw yX5_dueOf cX5_dueOf 2 (some .int) 1 := ⟨z_in 694 (by decide +kernel) (by decide), z_in 67 (by decide +kernel) (by decide), by decide +kernel⟩
theorem iw_X5_dueOf : Cond.instanceMethod yX5_dueOf ∈ z_ws ∧ Cond.selects RX5 yX5_dueOf yX5_dueOf ∈ z_ws := ⟨z_in 693 (by decide +kernel) (by decide), z_in 39 (by decide +kernel) (by decide)⟩
theorem mw_X5_wrong : z_Mw yX5_wrong cX5_wrong 3 (some .int) 0 := ⟨z_in 750 (by decide +kernel) (by decide), z_in 67 (by decide +kernel) (by decide), by decide +kernel⟩
theorem iw_X5_wrong : Cond.instanceMethod yX5_wrong ∈ z_ws ∧ Cond.selects RX5 yX5_wrong yX5_wrong ∈ z_ws := ⟨z_in 749 (by decide +kernel) (by decide), z_in 48 (by decide +kernel) (by decide)⟩
theorem mw_X5_drill : z_Mw yX5_drill cX5_drill 6 (some .int) 3 := ⟨z_in 849 (by decide +kernel) (by decide), z_in 67 (by decide +kernel) (by decide), by decide +kernel⟩
theorem iw_X5_drill : Cond.instanceMethod yX5_drill ∈ z_ws ∧ Cond.selects RX5 yX5_drill yX5_drill ∈ z_ws := ⟨z_in 847 (by decide +kernel) (by decide), z_in 848 (by decide +kernel) (by decide)⟩
theorem mw_X5_keeps : z_Mw yX5_keeps cX5_keeps 2 none 0 := ⟨z_in 705 (by decide +kernel) (by decide), z_in 67 (by decide +kernel) (by decide), by decide +kernel⟩
theorem iw_X5_keeps : Cond.instanceMethod yX5_keeps ∈ z_ws ∧ Cond.selects RX5 yX5_keeps yX5_keeps ∈ z_ws := ⟨z_in 704 (by decide +kernel) (by decide), z_in 40 (by decide +kernel) (by decide)⟩
theorem mw_X5_eyes : z_Mw yX5_eyes cX5_eyes 3 (some .int) 1 := ⟨z_in 765 (by decide +kernel) (by decide), z_in 67 (by decide +kernel) (by decide), by decide +kernel⟩
theorem iw_X5_eyes : Cond.instanceMethod yX5_eyes ∈ z_ws ∧ Cond.selects RX5 yX5_eyes yX5_eyes ∈ z_ws := ⟨z_in 763 (by decide +kernel) (by decide), z_in 764 (by decide +kernel) (by decide)⟩
theorem mw_X5_isFigure : z_Mw yX5_isFigure cX5_isFigure 1 (some .boolean) 1 := ⟨z_in 670 (by decide +kernel) (by decide), z_in 67 (by decide +kernel) (by decide), by decide +kernel⟩
theorem iw_X5_isFigure : Cond.static yX5_isFigure ∈ z_ws := z_in 669 (by decide +kernel) (by decide)
theorem mw_X5_letterAt : z_Mw yX5_letterAt cX5_letterAt 2 (some .int) 1 := ⟨z_in 667 (by decide +kernel) (by decide), z_in 67 (by decide +kernel) (by decide), by decide +kernel⟩
theorem iw_X5_letterAt : Cond.instanceMethod yX5_letterAt ∈ z_ws ∧ Cond.selects RX5 yX5_letterAt yX5_letterAt ∈ z_ws := ⟨z_in 666 (by decide +kernel) (by decide), z_in 35 (by decide +kernel) (by decide)⟩
theorem mw_X5_number : z_Mw yX5_number cX5_number 2 (some .int) 0 := ⟨z_in 663 (by decide +kernel) (by decide), z_in 67 (by decide +kernel) (by decide), by decide +kernel⟩
theorem iw_X5_number : Cond.instanceMethod yX5_number ∈ z_ws ∧ Cond.selects RX5 yX5_number yX5_number ∈ z_ws := ⟨z_in 662 (by decide +kernel) (by decide), z_in 34 (by decide +kernel) (by decide)⟩
theorem mw_X5_sign : z_Mw yX5_sign cX5_sign 3 (some .boolean) 1 := ⟨z_in 674 (by decide +kernel) (by decide), z_in 67 (by decide +kernel) (by decide), by decide +kernel⟩
theorem iw_X5_sign : Cond.instanceMethod yX5_sign ∈ z_ws ∧ Cond.selects RX5 yX5_sign yX5_sign ∈ z_ws := ⟨z_in 673 (by decide +kernel) (by decide), z_in 36 (by decide +kernel) (by decide)⟩
theorem mw_X5_readsMan : z_Mw yX5_readsMan cX5_readsMan 5 (some .boolean) 0 := ⟨z_in 659 (by decide +kernel) (by decide), z_in 67 (by decide +kernel) (by decide), by decide +kernel⟩
theorem iw_X5_readsMan : Cond.instanceMethod yX5_readsMan ∈ z_ws ∧ Cond.selects RX5 yX5_readsMan yX5_readsMan ∈ z_ws := ⟨z_in 658 (by decide +kernel) (by decide), z_in 33 (by decide +kernel) (by decide)⟩
theorem mw_X5_readsOne : z_Mw yX5_readsOne cX5_readsOne 3 (some .boolean) 2 := ⟨z_in 678 (by decide +kernel) (by decide), z_in 67 (by decide +kernel) (by decide), by decide +kernel⟩
theorem iw_X5_readsOne : Cond.instanceMethod yX5_readsOne ∈ z_ws ∧ Cond.selects RX5 yX5_readsOne yX5_readsOne ∈ z_ws := ⟨z_in 677 (by decide +kernel) (by decide), z_in 37 (by decide +kernel) (by decide)⟩
theorem mw_X5_reads : z_Mw yX5_reads cX5_reads 4 (some .int) 0 := ⟨z_in 655 (by decide +kernel) (by decide), z_in 67 (by decide +kernel) (by decide), by decide +kernel⟩
theorem iw_X5_reads : Cond.instanceMethod yX5_reads ∈ z_ws ∧ Cond.selects RX5 yX5_reads yX5_reads ∈ z_ws := ⟨z_in 654 (by decide +kernel) (by decide), z_in 32 (by decide +kernel) (by decide)⟩
theorem mw_X5_fault : z_Mw yX5_fault cX5_fault 1 (some .int) 0 := ⟨z_in 651 (by decide +kernel) (by decide), z_in 67 (by decide +kernel) (by decide), by decide +kernel⟩
theorem iw_X5_fault : Cond.instanceMethod yX5_fault ∈ z_ws ∧ Cond.selects RX5 yX5_fault yX5_fault ∈ z_ws := ⟨z_in 649 (by decide +kernel) (by decide), z_in 650 (by decide +kernel) (by decide)⟩
theorem mw_X5_isMan : z_Mw yX5_isMan cX5_isMan 2 (some .boolean) 1 := ⟨z_in 690 (by decide +kernel) (by decide), z_in 67 (by decide +kernel) (by decide), by decide +kernel⟩
theorem iw_X5_isMan : Cond.instanceMethod yX5_isMan ∈ z_ws ∧ Cond.selects RX5 yX5_isMan yX5_isMan ∈ z_ws := ⟨z_in 689 (by decide +kernel) (by decide), z_in 38 (by decide +kernel) (by decide)⟩
theorem mw_X5_follows : z_Mw yX5_follows cX5_follows 2 (some .int) 1 := ⟨z_in 781 (by decide +kernel) (by decide), z_in 67 (by decide +kernel) (by decide), by decide +kernel⟩
theorem iw_X5_follows : Cond.instanceMethod yX5_follows ∈ z_ws ∧ Cond.selects RX5 yX5_follows yX5_follows ∈ z_ws := ⟨z_in 779 (by decide +kernel) (by decide), z_in 780 (by decide +kernel) (by decide)⟩
theorem mw_X5_groups : z_Mw yX5_groups cX5_groups 6 (some .int) 1 := ⟨z_in 793 (by decide +kernel) (by decide), z_in 67 (by decide +kernel) (by decide), by decide +kernel⟩
theorem iw_X5_groups : Cond.instanceMethod yX5_groups ∈ z_ws ∧ Cond.selects RX5 yX5_groups yX5_groups ∈ z_ws := ⟨z_in 791 (by decide +kernel) (by decide), z_in 792 (by decide +kernel) (by decide)⟩
theorem mw_X5_lays : z_Mw yX5_lays cX5_lays 2 none 0 := ⟨z_in 593 (by decide +kernel) (by decide), z_in 67 (by decide +kernel) (by decide), by decide +kernel⟩
theorem iw_X5_lays : Cond.instanceMethod yX5_lays ∈ z_ws ∧ Cond.selects RX5 yX5_lays yX5_lays ∈ z_ws := ⟨z_in 592 (by decide +kernel) (by decide), z_in 31 (by decide +kernel) (by decide)⟩
theorem mw_X5_init : z_Mw yX5_init cX5_init 1 none 0 := ⟨z_in 580 (by decide +kernel) (by decide), z_in 67 (by decide +kernel) (by decide), by decide +kernel⟩
theorem iw_X5_init : Cond.instanceMethod yX5_init ∈ z_ws := z_in 579 (by decide +kernel) (by decide)
theorem mw_X5_keep : z_Mw yX5_keep cX5_keep 2 (some .int) 0 := ⟨z_in 853 (by decide +kernel) (by decide), z_in 67 (by decide +kernel) (by decide), by decide +kernel⟩
theorem iw_X5_keep : Cond.instanceMethod yX5_keep ∈ z_ws ∧ Cond.selects RX5 yX5_keep yX5_keep ∈ z_ws := ⟨z_in 851 (by decide +kernel) (by decide), z_in 852 (by decide +kernel) (by decide)⟩
theorem mw_X5_lay : z_Mw yX5_lay cX5_lay 3 (some .int) 0 := ⟨z_in 682 (by decide +kernel) (by decide), z_in 67 (by decide +kernel) (by decide), by decide +kernel⟩
theorem iw_X5_lay : Cond.instanceMethod yX5_lay ∈ z_ws ∧ Cond.selects RX5 yX5_lay yX5_lay ∈ z_ws := ⟨z_in 680 (by decide +kernel) (by decide), z_in 681 (by decide +kernel) (by decide)⟩
theorem mw_X5_look : z_Mw yX5_look cX5_look 4 (some .int) 2 := ⟨z_in 769 (by decide +kernel) (by decide), z_in 67 (by decide +kernel) (by decide), by decide +kernel⟩
theorem iw_X5_look : Cond.instanceMethod yX5_look ∈ z_ws ∧ Cond.selects RX5 yX5_look yX5_look ∈ z_ws := ⟨z_in 767 (by decide +kernel) (by decide), z_in 768 (by decide +kernel) (by decide)⟩
theorem mw_X5_man : z_Mw yX5_man cX5_man 3 (some .int) 2 := ⟨z_in 686 (by decide +kernel) (by decide), z_in 67 (by decide +kernel) (by decide), by decide +kernel⟩
theorem iw_X5_man : Cond.instanceMethod yX5_man ∈ z_ws ∧ Cond.selects RX5 yX5_man yX5_man ∈ z_ws := ⟨z_in 684 (by decide +kernel) (by decide), z_in 685 (by decide +kernel) (by decide)⟩
theorem mw_X5_most : z_Mw yX5_most cX5_most 7 (some .int) 1 := ⟨z_in 789 (by decide +kernel) (by decide), z_in 67 (by decide +kernel) (by decide), by decide +kernel⟩
theorem iw_X5_most : Cond.instanceMethod yX5_most ∈ z_ws ∧ Cond.selects RX5 yX5_most yX5_most ∈ z_ws := ⟨z_in 787 (by decide +kernel) (by decide), z_in 788 (by decide +kernel) (by decide)⟩
theorem mw_X5_rows : z_Mw yX5_rows cX5_rows 7 (some .int) 1 := ⟨z_in 801 (by decide +kernel) (by decide), z_in 67 (by decide +kernel) (by decide), by decide +kernel⟩
theorem iw_X5_rows : Cond.instanceMethod yX5_rows ∈ z_ws ∧ Cond.selects RX5 yX5_rows yX5_rows ∈ z_ws := ⟨z_in 800 (by decide +kernel) (by decide), z_in 50 (by decide +kernel) (by decide)⟩
theorem mw_X5_numbers : z_Mw yX5_numbers cX5_numbers 2 (some .int) 1 := ⟨z_in 845 (by decide +kernel) (by decide), z_in 67 (by decide +kernel) (by decide), by decide +kernel⟩
theorem iw_X5_numbers : Cond.instanceMethod yX5_numbers ∈ z_ws ∧ Cond.selects RX5 yX5_numbers yX5_numbers ∈ z_ws := ⟨z_in 843 (by decide +kernel) (by decide), z_in 844 (by decide +kernel) (by decide)⟩
theorem mw_X5_plan : z_Mw yX5_plan cX5_plan 5 (some .int) 1 := ⟨z_in 797 (by decide +kernel) (by decide), z_in 67 (by decide +kernel) (by decide), by decide +kernel⟩
theorem iw_X5_plan : Cond.instanceMethod yX5_plan ∈ z_ws ∧ Cond.selects RX5 yX5_plan yX5_plan ∈ z_ws := ⟨z_in 795 (by decide +kernel) (by decide), z_in 796 (by decide +kernel) (by decide)⟩
theorem mw_X5_right : z_Mw yX5_right cX5_right 9 (some .int) 3 := ⟨z_in 832 (by decide +kernel) (by decide), z_in 67 (by decide +kernel) (by decide), by decide +kernel⟩
theorem iw_X5_right : Cond.instanceMethod yX5_right ∈ z_ws ∧ Cond.selects RX5 yX5_right yX5_right ∈ z_ws := ⟨z_in 830 (by decide +kernel) (by decide), z_in 831 (by decide +kernel) (by decide)⟩
theorem mw_X5_runs : z_Mw yX5_runs cX5_runs 4 (some .int) 1 := ⟨z_in 785 (by decide +kernel) (by decide), z_in 67 (by decide +kernel) (by decide), by decide +kernel⟩
theorem iw_X5_runs : Cond.instanceMethod yX5_runs ∈ z_ws ∧ Cond.selects RX5 yX5_runs yX5_runs ∈ z_ws := ⟨z_in 783 (by decide +kernel) (by decide), z_in 784 (by decide +kernel) (by decide)⟩
theorem mw_X5_safe : z_Mw yX5_safe cX5_safe 5 (some .int) 1 := ⟨z_in 841 (by decide +kernel) (by decide), z_in 67 (by decide +kernel) (by decide), by decide +kernel⟩
theorem iw_X5_safe : Cond.instanceMethod yX5_safe ∈ z_ws ∧ Cond.selects RX5 yX5_safe yX5_safe ∈ z_ws := ⟨z_in 839 (by decide +kernel) (by decide), z_in 840 (by decide +kernel) (by decide)⟩
theorem mw_X5_shout : z_Mw yX5_shout cX5_shout 4 (some .int) 1 := ⟨z_in 757 (by decide +kernel) (by decide), z_in 67 (by decide +kernel) (by decide), by decide +kernel⟩
theorem iw_X5_shout : Cond.instanceMethod yX5_shout ∈ z_ws ∧ Cond.selects RX5 yX5_shout yX5_shout ∈ z_ws := ⟨z_in 755 (by decide +kernel) (by decide), z_in 756 (by decide +kernel) (by decide)⟩
theorem mw_X5_turn : z_Mw yX5_turn cX5_turn 3 (some .int) 2 := ⟨z_in 817 (by decide +kernel) (by decide), z_in 67 (by decide +kernel) (by decide), by decide +kernel⟩
theorem iw_X5_turn : Cond.instanceMethod yX5_turn ∈ z_ws ∧ Cond.selects RX5 yX5_turn yX5_turn ∈ z_ws := ⟨z_in 815 (by decide +kernel) (by decide), z_in 816 (by decide +kernel) (by decide)⟩
theorem mw_X5_undo : z_Mw yX5_undo cX5_undo 2 (some .int) 0 := ⟨z_in 773 (by decide +kernel) (by decide), z_in 67 (by decide +kernel) (by decide), by decide +kernel⟩
theorem iw_X5_undo : Cond.instanceMethod yX5_undo ∈ z_ws ∧ Cond.selects RX5 yX5_undo yX5_undo ∈ z_ws := ⟨z_in 771 (by decide +kernel) (by decide), z_in 772 (by decide +kernel) (by decide)⟩
theorem mw_X5_which : z_Mw yX5_which cX5_which 5 (some .int) 2 := ⟨z_in 836 (by decide +kernel) (by decide), z_in 67 (by decide +kernel) (by decide), by decide +kernel⟩
theorem iw_X5_which : Cond.instanceMethod yX5_which ∈ z_ws ∧ Cond.selects RX5 yX5_which yX5_which ∈ z_ws := ⟨z_in 834 (by decide +kernel) (by decide), z_in 835 (by decide +kernel) (by decide)⟩
theorem mw_X5_who : z_Mw yX5_who cX5_who 3 (some .int) 1 := ⟨z_in 777 (by decide +kernel) (by decide), z_in 67 (by decide +kernel) (by decide), by decide +kernel⟩
theorem iw_X5_who : Cond.instanceMethod yX5_who ∈ z_ws ∧ Cond.selects RX5 yX5_who yX5_who ∈ z_ws := ⟨z_in 775 (by decide +kernel) (by decide), z_in 776 (by decide +kernel) (by decide)⟩
theorem mw_X5_wipe : z_Mw yX5_wipe cX5_wipe 2 (some .int) 0 := ⟨z_in 647 (by decide +kernel) (by decide), z_in 67 (by decide +kernel) (by decide), by decide +kernel⟩
theorem iw_X5_wipe : Cond.instanceMethod yX5_wipe ∈ z_ws ∧ Cond.selects RX5 yX5_wipe yX5_wipe ∈ z_ws := ⟨z_in 645 (by decide +kernel) (by decide), z_in 646 (by decide +kernel) (by decide)⟩
theorem mw_X5_word : z_Mw yX5_word cX5_word 2 (some .int) 1 := ⟨z_in 698 (by decide +kernel) (by decide), z_in 67 (by decide +kernel) (by decide), by decide +kernel⟩
theorem iw_X5_word : Cond.instanceMethod yX5_word ∈ z_ws ∧ Cond.selects RX5 yX5_word yX5_word ∈ z_ws := ⟨z_in 696 (by decide +kernel) (by decide), z_in 697 (by decide +kernel) (by decide)⟩
theorem mw_X5_write : z_Mw yX5_write cX5_write 2 (some .int) 1 := ⟨z_in 640 (by decide +kernel) (by decide), z_in 67 (by decide +kernel) (by decide), by decide +kernel⟩
theorem iw_X5_write : Cond.instanceMethod yX5_write ∈ z_ws ∧ Cond.selects RX5 yX5_write yX5_write ∈ z_ws := ⟨z_in 638 (by decide +kernel) (by decide), z_in 639 (by decide +kernel) (by decide)⟩
theorem mw_J0_charAt_5068e : z_Mw yJ0_charAt_5068e cJ0_charAt_5068e 2 (some .char) 1 := ⟨z_in 205 (by decide +kernel) (by decide), z_in 62 (by decide +kernel) (by decide), by decide +kernel⟩
theorem iw_J0_charAt_5068e : Cond.instanceMethod yJ0_charAt_5068e ∈ z_ws ∧ Cond.selects RJ0 yJ0_charAt_5068e yJ0_charAt_5068e ∈ z_ws := ⟨z_in 203 (by decide +kernel) (by decide), z_in 204 (by decide +kernel) (by decide)⟩
theorem mw_J0_checkIndex_df160 : z_Mw yJ0_checkIndex_df160 cJ0_checkIndex_df160 2 none 2 := ⟨z_in 215 (by decide +kernel) (by decide), z_in 62 (by decide +kernel) (by decide), by decide +kernel⟩
theorem iw_J0_checkIndex_df160 : Cond.static yJ0_checkIndex_df160 ∈ z_ws := z_in 214 (by decide +kernel) (by decide)
theorem mw_J0_coder_7d493 : z_Mw yJ0_coder_7d493 cJ0_coder_7d493 1 (some .byte) 0 := ⟨z_in 199 (by decide +kernel) (by decide), z_in 62 (by decide +kernel) (by decide), by decide +kernel⟩
theorem iw_J0_coder_7d493 : Cond.instanceMethod yJ0_coder_7d493 ∈ z_ws ∧ Cond.selects RJ0 yJ0_coder_7d493 yJ0_coder_7d493 ∈ z_ws := ⟨z_in 197 (by decide +kernel) (by decide), z_in 198 (by decide +kernel) (by decide)⟩
theorem mw_J0_isLatin1_aae02 : z_Mw yJ0_isLatin1_aae02 cJ0_isLatin1_aae02 1 (some .boolean) 0 := ⟨z_in 209 (by decide +kernel) (by decide), z_in 62 (by decide +kernel) (by decide), by decide +kernel⟩
theorem iw_J0_isLatin1_aae02 : Cond.instanceMethod yJ0_isLatin1_aae02 ∈ z_ws ∧ Cond.selects RJ0 yJ0_isLatin1_aae02 yJ0_isLatin1_aae02 ∈ z_ws := ⟨z_in 207 (by decide +kernel) (by decide), z_in 208 (by decide +kernel) (by decide)⟩
theorem mw_J0_length_8abf5 : z_Mw yJ0_length_8abf5 cJ0_length_8abf5 1 (some .int) 0 := ⟨z_in 195 (by decide +kernel) (by decide), z_in 62 (by decide +kernel) (by decide), by decide +kernel⟩
theorem iw_J0_length_8abf5 : Cond.instanceMethod yJ0_length_8abf5 ∈ z_ws ∧ Cond.selects RJ0 yJ0_length_8abf5 yJ0_length_8abf5 ∈ z_ws := ⟨z_in 193 (by decide +kernel) (by decide), z_in 194 (by decide +kernel) (by decide)⟩
theorem mw_J1_charAt_3b067 : z_Mw yJ1_charAt_3b067 cJ1_charAt_3b067 2 (some .char) 2 := ⟨z_in 212 (by decide +kernel) (by decide), z_in 63 (by decide +kernel) (by decide), by decide +kernel⟩
theorem iw_J1_charAt_3b067 : Cond.static yJ1_charAt_3b067 ∈ z_ws := z_in 211 (by decide +kernel) (by decide)
theorem mw_J2_charAt_3b067 : z_Mw yJ2_charAt_3b067 cJ2_charAt_3b067 2 (some .char) 2 := ⟨z_in 223 (by decide +kernel) (by decide), z_in 65 (by decide +kernel) (by decide), by decide +kernel⟩
theorem iw_J2_charAt_3b067 : Cond.static yJ2_charAt_3b067 ∈ z_ws := z_in 222 (by decide +kernel) (by decide)
theorem mw_J2_checkIndex_2214a : z_Mw yJ2_checkIndex_2214a cJ2_checkIndex_2214a 2 none 2 := ⟨z_in 226 (by decide +kernel) (by decide), z_in 65 (by decide +kernel) (by decide), by decide +kernel⟩
theorem iw_J2_checkIndex_2214a : Cond.static yJ2_checkIndex_2214a ∈ z_ws := z_in 225 (by decide +kernel) (by decide)
theorem mw_J2_getChar_3b067 : z_Mw yJ2_getChar_3b067 cJ2_getChar_3b067 2 (some .char) 2 := ⟨z_in 233 (by decide +kernel) (by decide), z_in 65 (by decide +kernel) (by decide), by decide +kernel⟩
theorem iw_J2_getChar_3b067 : Cond.static yJ2_getChar_3b067 ∈ z_ws := z_in 232 (by decide +kernel) (by decide)
theorem mw_J2_length_9d52b : z_Mw yJ2_length_9d52b cJ2_length_9d52b 1 (some .int) 1 := ⟨z_in 229 (by decide +kernel) (by decide), z_in 65 (by decide +kernel) (by decide), by decide +kernel⟩
theorem iw_J2_length_9d52b : Cond.static yJ2_length_9d52b ∈ z_ws := z_in 228 (by decide +kernel) (by decide)
theorem mw_J3_checkIndex_8e157 : z_Mw yJ3_checkIndex_8e157 cJ3_checkIndex_8e157 3 (some .int) 3 := ⟨z_in 220 (by decide +kernel) (by decide), z_in 64 (by decide +kernel) (by decide), by decide +kernel⟩
theorem iw_J3_checkIndex_8e157 : Cond.static yJ3_checkIndex_8e157 ∈ z_ws := z_in 219 (by decide +kernel) (by decide)
theorem mw_J9_max_7cf53 : z_Mw yJ9_max_7cf53 cJ9_max_7cf53 2 (some .int) 2 := ⟨z_in 179 (by decide +kernel) (by decide), z_in 61 (by decide +kernel) (by decide), by decide +kernel⟩
theorem iw_J9_max_7cf53 : Cond.static yJ9_max_7cf53 ∈ z_ws := z_in 178 (by decide +kernel) (by decide)
theorem w_max : Cond.static Lib.Math.max.name ∈ z_ws ∧ Cond.initialized "java/lang/Math" ∈ z_ws ∧ Cond.code Lib.Math.max.name Lib.Math.max.code 2 (some .int) ∈ z_ws := ⟨z_in 178 (by decide +kernel) (by decide), z_in 61 (by decide +kernel) (by decide), z_in 179 (by decide +kernel) (by decide)⟩
section
variable {X : z_X} {y : MethodName} {cc : ByteArray} {nL : Nat} {rt : Option FieldType} {d : Nat} {pc : Nat} {lv : List (Nat × Value)} {st : List Value} {mm : z_M} {o : z_R}
theorem z_mmax {ix : Nat} {x y1 : Int32} (hd1 : 1 ≤ d) (hw : Cond.methodLink y.cls ix Lib.Math.max.name ∈ z_ws) (h36 : (st.map fun v => v.category).sum + 13 ≤ 36) (hd : decode cc pc = .ok (.invokestatic ix, 3)) (K : z_Sim X y cc nL rt d (pc + 3) lv (.int (z_mx x y1) :: st) mm o) : z_Sim X y cc nL rt d pc lv (.int y1 :: .int x :: st) mm o := by
  intro r m2 ho
  obtain ⟨⟨a1, a2⟩, b⟩ := K r m2 ho
  refine ⟨⟨a1, a2⟩, fun p e s m args below meth c n0 z0 H locs ls hE h1 h2 hH hS hl => ?_⟩
  have hts := hE.1.2.2.2.2
  exact va_mmax hE.1.1 hE.1.2.1 (by rw [hE.1.2.2.1]; exact hl.1.symm) hE.1.2.2.2.1 (hts _ hw) (hts _ w_max.1) (hts _ w_max.2.1) (hts _ w_max.2.2) hd1 (by show _ + 13 ≤ 36 * d; omega) (by show mm.1 - n0 ≤ m2.1 - n0; omega) (by show mm.2.1 - z0 ≤ m2.2.1 - z0; omega) hd (b p e s m args below meth c n0 z0 H locs ls hE h1 h2 hH hS hl)
end
theorem wf_J0_9 : Cond.fieldLink RJ0 9 "java/lang/String" "value" "[B" ∈ z_ws := z_in 862 (by decide +kernel) (by decide)
theorem wf_J0_15 : Cond.fieldLink RJ0 15 "java/lang/String" "coder" "B" ∈ z_ws := z_in 863 (by decide +kernel) (by decide)
theorem wf_J0_38 : Cond.fieldLink RJ0 38 "java/lang/String" "COMPACT_STRINGS" "Z" ∈ z_ws := z_in 200 (by decide +kernel) (by decide)
theorem wf_J0_1053 : Cond.fieldLink RJ0 1053 "jdk/internal/util/Preconditions" "SIOOBE_FORMATTER" "Ljava/util/function/BiFunction;" ∈ z_ws := z_in 216 (by decide +kernel) (by decide)
theorem wm_J0_335 : Cond.methodLink RJ0 335 yJ0_coder_7d493 ∈ z_ws := z_in 196 (by decide +kernel) (by decide)
theorem wm_J0_492 : Cond.methodLink RJ0 492 yJ0_isLatin1_aae02 ∈ z_ws := z_in 206 (by decide +kernel) (by decide)
theorem wm_J0_495 : Cond.methodLink RJ0 495 yJ1_charAt_3b067 ∈ z_ws := z_in 210 (by decide +kernel) (by decide)
theorem wm_J1_9 : Cond.methodLink RJ1 9 yJ0_checkIndex_df160 ∈ z_ws := z_in 213 (by decide +kernel) (by decide)
theorem wm_J0_1059 : Cond.methodLink RJ0 1059 yJ3_checkIndex_8e157 ∈ z_ws := z_in 218 (by decide +kernel) (by decide)
theorem k_bim4 : (Int8.ofInt (-4)).toInt32 = (-4) := by decide
theorem k_bim3 : (Int8.ofInt (-3)).toInt32 = (-3) := by decide
theorem k_bim2 : (Int8.ofInt (-2)).toInt32 = (-2) := by decide
theorem k_bi6 : (Int8.ofInt (6)).toInt32 = 6 := by decide
theorem k_bi7 : (Int8.ofInt (7)).toInt32 = 7 := by decide
theorem k_bi8 : (Int8.ofInt (8)).toInt32 = 8 := by decide
theorem k_bi10 : (Int8.ofInt (10)).toInt32 = 10 := by decide
theorem k_bi11 : (Int8.ofInt (11)).toInt32 = 11 := by decide
theorem k_bi16 : (Int8.ofInt (16)).toInt32 = 16 := by decide
theorem k_bi17 : (Int8.ofInt (17)).toInt32 = 17 := by decide
theorem k_bi18 : (Int8.ofInt (18)).toInt32 = 18 := by decide
theorem k_bi19 : (Int8.ofInt (19)).toInt32 = 19 := by decide
theorem k_bi20 : (Int8.ofInt (20)).toInt32 = 20 := by decide
theorem k_bi21 : (Int8.ofInt (21)).toInt32 = 21 := by decide
theorem k_bi22 : (Int8.ofInt (22)).toInt32 = 22 := by decide
theorem k_bi27 : (Int8.ofInt (27)).toInt32 = 27 := by decide
theorem k_bi32 : (Int8.ofInt (32)).toInt32 = 32 := by decide
theorem k_bi35 : (Int8.ofInt (35)).toInt32 = 35 := by decide
theorem k_bi44 : (Int8.ofInt (44)).toInt32 = 44 := by decide
theorem k_bi48 : (Int8.ofInt (48)).toInt32 = 48 := by decide
theorem k_bi57 : (Int8.ofInt (57)).toInt32 = 57 := by decide
theorem k_bi59 : (Int8.ofInt (59)).toInt32 = 59 := by decide
theorem k_bi60 : (Int8.ofInt (60)).toInt32 = 60 := by decide
theorem k_bi63 : (Int8.ofInt (63)).toInt32 = 63 := by decide
theorem k_bi64 : (Int8.ofInt (64)).toInt32 = 64 := by decide
theorem k_bi99 : (Int8.ofInt (99)).toInt32 = 99 := by decide
theorem k_bi101 : (Int8.ofInt (101)).toInt32 = 101 := by decide
theorem k_bi109 : (Int8.ofInt (109)).toInt32 = 109 := by decide
theorem k_bi122 : (Int8.ofInt (122)).toInt32 = 122 := by decide
theorem k_bi126 : (Int8.ofInt (126)).toInt32 = 126 := by decide
theorem k_cm1 : Int32.ofInt (-1) = (-1) := by decide
theorem k_c0 : Int32.ofInt (0) = 0 := by decide
theorem k_c1 : Int32.ofInt (1) = 1 := by decide
theorem k_c2 : Int32.ofInt (2) = 2 := by decide
theorem k_c3 : Int32.ofInt (3) = 3 := by decide
theorem k_c4 : Int32.ofInt (4) = 4 := by decide
theorem k_c5 : Int32.ofInt (5) = 5 := by decide
theorem k_im1 (x : Int32) : x + Int32.ofInt (-1) = x + (-1) := congrArg (x + ·) (show Int32.ofInt (-1) = (-1) by decide)
theorem k_i1 (x : Int32) : x + Int32.ofInt (1) = x + 1 := congrArg (x + ·) (show Int32.ofInt (1) = 1 by decide)
theorem k_l1 : Int64.ofNat ((1 : Fin 2) : Nat) = 1 := by decide
theorem k_si154 : (Int16.ofInt (154)).toInt32 = 154 := by decide
theorem k_si176 : (Int16.ofInt (176)).toInt32 = 176 := by decide
theorem k_si200 : (Int16.ofInt (200)).toInt32 = 200 := by decide
theorem k_si255 : (Int16.ofInt (255)).toInt32 = 255 := by decide
theorem k_si256 : (Int16.ofInt (256)).toInt32 = 256 := by decide
theorem k_si999 : (Int16.ofInt (999)).toInt32 = 999 := by decide
theorem k_si9999 : (Int16.ofInt (9999)).toInt32 = 9999 := by decide
