theorem flX12_9 : Cond.fieldLink RX12 9 "TurnBrothers" "tape" "[B" ∈ LW := LW_of 533 (by decide +kernel) (by decide +kernel)
theorem flX12_13 : Cond.fieldLink RX12 13 "TurnBrothers" "taped" "I" ∈ LW := LW_of 534 (by decide +kernel) (by decide +kernel)
theorem flX12_17 : Cond.fieldLink RX12 17 "TurnBrothers" "faultPlace" "I" ∈ LW := LW_of 535 (by decide +kernel) (by decide +kernel)
theorem flX12_20 : Cond.fieldLink RX12 20 "TurnBrothers" "refused" "[I" ∈ LW := LW_of 536 (by decide +kernel) (by decide +kernel)
theorem flX12_29 : Cond.fieldLink RX12 29 "TurnBrothers" "parser" "LTurnBrothers$Parser;" ∈ LW := LW_of 537 (by decide +kernel) (by decide +kernel)
theorem flX12_36 : Cond.fieldLink RX12 36 "TurnBrothers" "reign" "LTurnBrothers$Reign;" ∈ LW := LW_of 538 (by decide +kernel) (by decide +kernel)
theorem flX12_45 : Cond.fieldLink RX12 45 "TurnBrothers" "ahead" "LTurnBrothers$Ahead;" ∈ LW := LW_of 539 (by decide +kernel) (by decide +kernel)
theorem flX12_52 : Cond.fieldLink RX12 52 "TurnBrothers" "city" "LTurnBrothers$City;" ∈ LW := LW_of 540 (by decide +kernel) (by decide +kernel)
theorem flX12_56 : Cond.fieldLink RX12 56 "TurnBrothers" "work" "LTurnBrothers$City;" ∈ LW := LW_of 541 (by decide +kernel) (by decide +kernel)
theorem flX12_62 : Cond.fieldLink RX12 62 "TurnBrothers" "acts" "LTurnBrothers$Acts;" ∈ LW := LW_of 542 (by decide +kernel) (by decide +kernel)
theorem flX12_69 : Cond.fieldLink RX12 69 "TurnBrothers" "seen" "LTurnBrothers$Seen;" ∈ LW := LW_of 543 (by decide +kernel) (by decide +kernel)
theorem flX12_73 : Cond.fieldLink RX12 73 "TurnBrothers" "imageKept" "Z" ∈ LW := LW_of 544 (by decide +kernel) (by decide +kernel)
theorem flX12_77 : Cond.fieldLink RX12 77 "TurnBrothers" "imageCity" "[I" ∈ LW := LW_of 545 (by decide +kernel) (by decide +kernel)
theorem flX12_80 : Cond.fieldLink RX12 80 "TurnBrothers" "imageActs" "LTurnBrothers$Acts;" ∈ LW := LW_of 546 (by decide +kernel) (by decide +kernel)
theorem flX12_83 : Cond.fieldLink RX12 83 "TurnBrothers" "imageSeen" "LTurnBrothers$Seen;" ∈ LW := LW_of 547 (by decide +kernel) (by decide +kernel)
theorem flX12_86 : Cond.fieldLink RX12 86 "TurnBrothers" "reach" "[I" ∈ LW := LW_of 548 (by decide +kernel) (by decide +kernel)
theorem flX12_104 : Cond.fieldLink RX12 104 "TurnBrothers$Parser" "place" "I" ∈ LW := LW_of 416 (by decide +kernel) (by decide +kernel)
theorem flX12_107 : Cond.fieldLink RX12 107 "TurnBrothers$Parser" "land" "LTurnBrothers$Land;" ∈ LW := LW_of 411 (by decide +kernel) (by decide +kernel)
theorem flX12_111 : Cond.fieldLink RX12 111 "TurnBrothers$Reign" "land" "LTurnBrothers$Land;" ∈ LW := LW_of 447 (by decide +kernel) (by decide +kernel)
theorem flX12_112 : Cond.fieldLink RX12 112 "TurnBrothers$Parser" "start" "LTurnBrothers$City;" ∈ LW := LW_of 413 (by decide +kernel) (by decide +kernel)
theorem flX12_119 : Cond.fieldLink RX12 119 "TurnBrothers$Acts" "many" "I" ∈ LW := LW_of 509 (by decide +kernel) (by decide +kernel)
theorem flX12_122 : Cond.fieldLink RX12 122 "TurnBrothers$Seen" "many" "I" ∈ LW := LW_of 523 (by decide +kernel) (by decide +kernel)
theorem flX12_123 : Cond.fieldLink RX12 123 "TurnBrothers$City" "store" "I" ∈ LW := LW_of 302 (by decide +kernel) (by decide +kernel)
theorem flX12_126 : Cond.fieldLink RX12 126 "TurnBrothers$City" "walls" "I" ∈ LW := LW_of 306 (by decide +kernel) (by decide +kernel)
theorem flX12_129 : Cond.fieldLink RX12 129 "TurnBrothers$City" "debt" "I" ∈ LW := LW_of 310 (by decide +kernel) (by decide +kernel)
theorem flX12_132 : Cond.fieldLink RX12 132 "TurnBrothers$City" "year" "I" ∈ LW := LW_of 316 (by decide +kernel) (by decide +kernel)
theorem flX12_135 : Cond.fieldLink RX12 135 "TurnBrothers$City" "ruler" "I" ∈ LW := LW_of 320 (by decide +kernel) (by decide +kernel)
theorem flX12_138 : Cond.fieldLink RX12 138 "TurnBrothers$City" "row" "I" ∈ LW := LW_of 322 (by decide +kernel) (by decide +kernel)
theorem flX12_141 : Cond.fieldLink RX12 141 "TurnBrothers$City" "term" "I" ∈ LW := LW_of 331 (by decide +kernel) (by decide +kernel)
theorem flX12_144 : Cond.fieldLink RX12 144 "TurnBrothers$City" "putOff" "I" ∈ LW := LW_of 325 (by decide +kernel) (by decide +kernel)
theorem flX12_147 : Cond.fieldLink RX12 147 "TurnBrothers$City" "stayed" "I" ∈ LW := LW_of 328 (by decide +kernel) (by decide +kernel)
theorem flX12_150 : Cond.fieldLink RX12 150 "TurnBrothers$Land" "deeds" "I" ∈ LW := LW_of 208 (by decide +kernel) (by decide +kernel)
theorem flX12_155 : Cond.fieldLink RX12 155 "TurnBrothers$Land" "friends" "I" ∈ LW := LW_of 240 (by decide +kernel) (by decide +kernel)
theorem flX12_158 : Cond.fieldLink RX12 158 "TurnBrothers$Land" "champions" "LTurnBrothers$Fighters;" ∈ LW := LW_of 248 (by decide +kernel) (by decide +kernel)
theorem flX12_162 : Cond.fieldLink RX12 162 "TurnBrothers$Fighters" "many" "I" ∈ LW := LW_of 167 (by decide +kernel) (by decide +kernel)
theorem flX12_165 : Cond.fieldLink RX12 165 "TurnBrothers$Land" "gates" "LTurnBrothers$Fighters;" ∈ LW := LW_of 251 (by decide +kernel) (by decide +kernel)
theorem flX12_176 : Cond.fieldLink RX12 176 "TurnBrothers$Land" "cost" "[I" ∈ LW := LW_of 212 (by decide +kernel) (by decide +kernel)
theorem flX12_179 : Cond.fieldLink RX12 179 "TurnBrothers$Land" "builds" "[I" ∈ LW := LW_of 216 (by decide +kernel) (by decide +kernel)
theorem flX12_182 : Cond.fieldLink RX12 182 "TurnBrothers$Land" "owes" "[I" ∈ LW := LW_of 220 (by decide +kernel) (by decide +kernel)
theorem flX12_185 : Cond.fieldLink RX12 185 "TurnBrothers$Land" "glory" "[I" ∈ LW := LW_of 225 (by decide +kernel) (by decide +kernel)
theorem flX12_191 : Cond.fieldLink RX12 191 "TurnBrothers$City" "glory" "[I" ∈ LW := LW_of 338 (by decide +kernel) (by decide +kernel)
theorem flX12_192 : Cond.fieldLink RX12 192 "TurnBrothers$City" "ruled" "[I" ∈ LW := LW_of 336 (by decide +kernel) (by decide +kernel)
theorem flX12_195 : Cond.fieldLink RX12 195 "TurnBrothers$Land" "wayLength" "[I" ∈ LW := LW_of 230 (by decide +kernel) (by decide +kernel)
theorem flX12_214 : Cond.fieldLink RX12 214 "TurnBrothers$City" "way" "[I" ∈ LW := LW_of 342 (by decide +kernel) (by decide +kernel)
theorem flX12_220 : Cond.fieldLink RX12 220 "TurnBrothers$City" "lean" "[I" ∈ LW := LW_of 345 (by decide +kernel) (by decide +kernel)
theorem flX12_223 : Cond.fieldLink RX12 223 "TurnBrothers$Land" "men" "[I" ∈ LW := LW_of 243 (by decide +kernel) (by decide +kernel)
theorem flX12_282 : Cond.fieldLink RX12 282 "TurnBrothers$Ahead" "opening" "I" ∈ LW := LW_of 473 (by decide +kernel) (by decide +kernel)
theorem flX12_294 : Cond.fieldLink RX12 294 "TurnBrothers$Fighters" "strength" "[I" ∈ LW := LW_of 170 (by decide +kernel) (by decide +kernel)
theorem flX12_311 : Cond.fieldLink RX12 311 "TurnBrothers$Fighters" "kind" "[I" ∈ LW := LW_of 173 (by decide +kernel) (by decide +kernel)
theorem flX12_340 : Cond.fieldLink RX12 340 "TurnBrothers$Ahead" "unlike" "[I" ∈ LW := LW_of 477 (by decide +kernel) (by decide +kernel)
theorem flX1_9 : Cond.fieldLink RX1 9 "TurnBrothers$Acts" "many" "I" ∈ LW := LW_of 508 (by decide +kernel) (by decide +kernel)
theorem flX1_17 : Cond.fieldLink RX1 17 "TurnBrothers$Acts" "rows" "[I" ∈ LW := LW_of 510 (by decide +kernel) (by decide +kernel)
theorem flX2_12 : Cond.fieldLink RX2 12 "TurnBrothers$Ahead" "work" "LTurnBrothers$City;" ∈ LW := LW_of 470 (by decide +kernel) (by decide +kernel)
theorem flX2_18 : Cond.fieldLink RX2 18 "TurnBrothers$Ahead" "nodes" "[LTurnBrothers$City;" ∈ LW := LW_of 471 (by decide +kernel) (by decide +kernel)
theorem flX2_22 : Cond.fieldLink RX2 22 "TurnBrothers$Ahead" "opening" "I" ∈ LW := LW_of 472 (by decide +kernel) (by decide +kernel)
theorem flX2_26 : Cond.fieldLink RX2 26 "TurnBrothers$Ahead" "stores" "[I" ∈ LW := LW_of 474 (by decide +kernel) (by decide +kernel)
theorem flX2_30 : Cond.fieldLink RX2 30 "TurnBrothers$Ahead" "met" "[J" ∈ LW := LW_of 475 (by decide +kernel) (by decide +kernel)
theorem flX2_34 : Cond.fieldLink RX2 34 "TurnBrothers$Ahead" "unlike" "[I" ∈ LW := LW_of 476 (by decide +kernel) (by decide +kernel)
theorem flX2_37 : Cond.fieldLink RX2 37 "TurnBrothers$Ahead" "firstGains" "[I" ∈ LW := LW_of 478 (by decide +kernel) (by decide +kernel)
theorem flX2_40 : Cond.fieldLink RX2 40 "TurnBrothers$Ahead" "otherGains" "[I" ∈ LW := LW_of 479 (by decide +kernel) (by decide +kernel)
theorem flX2_43 : Cond.fieldLink RX2 43 "TurnBrothers$Ahead" "reign" "LTurnBrothers$Reign;" ∈ LW := LW_of 469 (by decide +kernel) (by decide +kernel)
theorem flX2_55 : Cond.fieldLink RX2 55 "TurnBrothers$Reign" "land" "LTurnBrothers$Land;" ∈ LW := LW_of 446 (by decide +kernel) (by decide +kernel)
theorem flX2_61 : Cond.fieldLink RX2 61 "TurnBrothers$City" "year" "I" ∈ LW := LW_of 314 (by decide +kernel) (by decide +kernel)
theorem flX2_72 : Cond.fieldLink RX2 72 "TurnBrothers$Land" "deeds" "I" ∈ LW := LW_of 206 (by decide +kernel) (by decide +kernel)
theorem flX2_77 : Cond.fieldLink RX2 77 "TurnBrothers$Land" "cost" "[I" ∈ LW := LW_of 211 (by decide +kernel) (by decide +kernel)
theorem flX2_80 : Cond.fieldLink RX2 80 "TurnBrothers$City" "store" "I" ∈ LW := LW_of 301 (by decide +kernel) (by decide +kernel)
theorem flX2_83 : Cond.fieldLink RX2 83 "TurnBrothers$Land" "glory" "[I" ∈ LW := LW_of 224 (by decide +kernel) (by decide +kernel)
theorem flX2_90 : Cond.fieldLink RX2 90 "TurnBrothers$City" "ruler" "I" ∈ LW := LW_of 319 (by decide +kernel) (by decide +kernel)
theorem flX3_9 : Cond.fieldLink RX3 9 "TurnBrothers$City" "ruled" "[I" ∈ LW := LW_of 334 (by decide +kernel) (by decide +kernel)
theorem flX3_15 : Cond.fieldLink RX3 15 "TurnBrothers$City" "glory" "[I" ∈ LW := LW_of 337 (by decide +kernel) (by decide +kernel)
theorem flX3_18 : Cond.fieldLink RX3 18 "TurnBrothers$City" "way" "[I" ∈ LW := LW_of 340 (by decide +kernel) (by decide +kernel)
theorem flX3_21 : Cond.fieldLink RX3 21 "TurnBrothers$City" "lean" "[I" ∈ LW := LW_of 344 (by decide +kernel) (by decide +kernel)
theorem flX3_27 : Cond.fieldLink RX3 27 "TurnBrothers$City" "store" "I" ∈ LW := LW_of 300 (by decide +kernel) (by decide +kernel)
theorem flX3_31 : Cond.fieldLink RX3 31 "TurnBrothers$City" "walls" "I" ∈ LW := LW_of 305 (by decide +kernel) (by decide +kernel)
theorem flX3_34 : Cond.fieldLink RX3 34 "TurnBrothers$City" "debt" "I" ∈ LW := LW_of 309 (by decide +kernel) (by decide +kernel)
theorem flX3_37 : Cond.fieldLink RX3 37 "TurnBrothers$City" "year" "I" ∈ LW := LW_of 313 (by decide +kernel) (by decide +kernel)
theorem flX3_40 : Cond.fieldLink RX3 40 "TurnBrothers$City" "ruler" "I" ∈ LW := LW_of 317 (by decide +kernel) (by decide +kernel)
theorem flX3_43 : Cond.fieldLink RX3 43 "TurnBrothers$City" "row" "I" ∈ LW := LW_of 321 (by decide +kernel) (by decide +kernel)
theorem flX3_46 : Cond.fieldLink RX3 46 "TurnBrothers$City" "putOff" "I" ∈ LW := LW_of 324 (by decide +kernel) (by decide +kernel)
theorem flX3_49 : Cond.fieldLink RX3 49 "TurnBrothers$City" "stayed" "I" ∈ LW := LW_of 327 (by decide +kernel) (by decide +kernel)
theorem flX3_52 : Cond.fieldLink RX3 52 "TurnBrothers$City" "term" "I" ∈ LW := LW_of 330 (by decide +kernel) (by decide +kernel)
theorem flX4_9 : Cond.fieldLink RX4 9 "TurnBrothers$Fighters" "many" "I" ∈ LW := LW_of 164 (by decide +kernel) (by decide +kernel)
theorem flX4_15 : Cond.fieldLink RX4 15 "TurnBrothers$Fighters" "strength" "[I" ∈ LW := LW_of 168 (by decide +kernel) (by decide +kernel)
theorem flX4_19 : Cond.fieldLink RX4 19 "TurnBrothers$Fighters" "kind" "[I" ∈ LW := LW_of 171 (by decide +kernel) (by decide +kernel)
theorem flX5_9 : Cond.fieldLink RX5 9 "TurnBrothers$Land" "deeds" "I" ∈ LW := LW_of 205 (by decide +kernel) (by decide +kernel)
theorem flX5_15 : Cond.fieldLink RX5 15 "TurnBrothers$Land" "cost" "[I" ∈ LW := LW_of 210 (by decide +kernel) (by decide +kernel)
theorem flX5_19 : Cond.fieldLink RX5 19 "TurnBrothers$Land" "builds" "[I" ∈ LW := LW_of 215 (by decide +kernel) (by decide +kernel)
theorem flX5_22 : Cond.fieldLink RX5 22 "TurnBrothers$Land" "owes" "[I" ∈ LW := LW_of 219 (by decide +kernel) (by decide +kernel)
theorem flX5_25 : Cond.fieldLink RX5 25 "TurnBrothers$Land" "glory" "[I" ∈ LW := LW_of 223 (by decide +kernel) (by decide +kernel)
theorem flX5_28 : Cond.fieldLink RX5 28 "TurnBrothers$Land" "wayLength" "[I" ∈ LW := LW_of 228 (by decide +kernel) (by decide +kernel)
theorem flX5_31 : Cond.fieldLink RX5 31 "TurnBrothers$Land" "harvests" "I" ∈ LW := LW_of 232 (by decide +kernel) (by decide +kernel)
theorem flX5_34 : Cond.fieldLink RX5 34 "TurnBrothers$Land" "harvest" "[I" ∈ LW := LW_of 235 (by decide +kernel) (by decide +kernel)
theorem flX5_37 : Cond.fieldLink RX5 37 "TurnBrothers$Land" "friends" "I" ∈ LW := LW_of 238 (by decide +kernel) (by decide +kernel)
theorem flX5_40 : Cond.fieldLink RX5 40 "TurnBrothers$Land" "men" "[I" ∈ LW := LW_of 242 (by decide +kernel) (by decide +kernel)
theorem flX5_46 : Cond.fieldLink RX5 46 "TurnBrothers$Land" "champions" "LTurnBrothers$Fighters;" ∈ LW := LW_of 246 (by decide +kernel) (by decide +kernel)
theorem flX5_50 : Cond.fieldLink RX5 50 "TurnBrothers$Land" "gates" "LTurnBrothers$Fighters;" ∈ LW := LW_of 249 (by decide +kernel) (by decide +kernel)
theorem flX5_58 : Cond.fieldLink RX5 58 "TurnBrothers$Land" "stays" "LTurnBrothers$Rule;" ∈ LW := LW_of 253 (by decide +kernel) (by decide +kernel)
theorem flX5_62 : Cond.fieldLink RX5 62 "TurnBrothers$Land" "likes" "LTurnBrothers$Rule;" ∈ LW := LW_of 255 (by decide +kernel) (by decide +kernel)
theorem flX5_65 : Cond.fieldLink RX5 65 "TurnBrothers$Fighters" "many" "I" ∈ LW := LW_of 165 (by decide +kernel) (by decide +kernel)
theorem flX6_12 : Cond.fieldLink RX6 12 "TurnBrothers$Parser" "land" "LTurnBrothers$Land;" ∈ LW := LW_of 410 (by decide +kernel) (by decide +kernel)
theorem flX6_21 : Cond.fieldLink RX6 21 "TurnBrothers$Parser" "start" "LTurnBrothers$City;" ∈ LW := LW_of 412 (by decide +kernel) (by decide +kernel)
theorem flX6_25 : Cond.fieldLink RX6 25 "TurnBrothers$Parser" "fault" "I" ∈ LW := LW_of 414 (by decide +kernel) (by decide +kernel)
theorem flX6_29 : Cond.fieldLink RX6 29 "TurnBrothers$Parser" "place" "I" ∈ LW := LW_of 415 (by decide +kernel) (by decide +kernel)
theorem flX6_32 : Cond.fieldLink RX6 32 "TurnBrothers$Parser" "told" "I" ∈ LW := LW_of 417 (by decide +kernel) (by decide +kernel)
theorem flX6_35 : Cond.fieldLink RX6 35 "TurnBrothers$Parser" "heard" "[I" ∈ LW := LW_of 418 (by decide +kernel) (by decide +kernel)
theorem flX6_44 : Cond.fieldLink RX6 44 "TurnBrothers$Parser" "tokens" "LTurnBrothers$Tokens;" ∈ LW := LW_of 409 (by decide +kernel) (by decide +kernel)
theorem flX6_48 : Cond.fieldLink RX6 48 "TurnBrothers$Land" "stays" "LTurnBrothers$Rule;" ∈ LW := LW_of 252 (by decide +kernel) (by decide +kernel)
theorem flX6_52 : Cond.fieldLink RX6 52 "TurnBrothers$Parser" "rule" "LTurnBrothers$Rule;" ∈ LW := LW_of 419 (by decide +kernel) (by decide +kernel)
theorem flX6_65 : Cond.fieldLink RX6 65 "TurnBrothers$Tokens" "kind" "I" ∈ LW := LW_of 389 (by decide +kernel) (by decide +kernel)
theorem flX6_72 : Cond.fieldLink RX6 72 "TurnBrothers$Tokens" "place" "I" ∈ LW := LW_of 387 (by decide +kernel) (by decide +kernel)
theorem flX6_73 : Cond.fieldLink RX6 73 "TurnBrothers$1" "$SwitchMap$TurnBrothers$Word" "[I" ∈ LW := LW_of 915 (by decide +kernel) (by decide +kernel)
theorem flX6_78 : Cond.fieldLink RX6 78 "TurnBrothers$Tokens" "word" "LTurnBrothers$Word;" ∈ LW := LW_of 393 (by decide +kernel) (by decide +kernel)
theorem flX6_95 : Cond.fieldLink RX6 95 "TurnBrothers$Land" "deeds" "I" ∈ LW := LW_of 207 (by decide +kernel) (by decide +kernel)
theorem flX6_114 : Cond.fieldLink RX6 114 "TurnBrothers$Land" "friends" "I" ∈ LW := LW_of 239 (by decide +kernel) (by decide +kernel)
theorem flX6_120 : Cond.fieldLink RX6 120 "TurnBrothers$Land" "champions" "LTurnBrothers$Fighters;" ∈ LW := LW_of 247 (by decide +kernel) (by decide +kernel)
theorem flX6_124 : Cond.fieldLink RX6 124 "TurnBrothers$Fighters" "many" "I" ∈ LW := LW_of 166 (by decide +kernel) (by decide +kernel)
theorem flX6_133 : Cond.fieldLink RX6 133 "TurnBrothers$Land" "gates" "LTurnBrothers$Fighters;" ∈ LW := LW_of 250 (by decide +kernel) (by decide +kernel)
theorem flX6_140 : Cond.fieldLink RX6 140 "TurnBrothers$Land" "likes" "LTurnBrothers$Rule;" ∈ LW := LW_of 256 (by decide +kernel) (by decide +kernel)
theorem flX6_149 : Cond.fieldLink RX6 149 "TurnBrothers$Tokens" "number" "I" ∈ LW := LW_of 391 (by decide +kernel) (by decide +kernel)
theorem flX6_156 : Cond.fieldLink RX6 156 "TurnBrothers$City" "store" "I" ∈ LW := LW_of 304 (by decide +kernel) (by decide +kernel)
theorem flX6_159 : Cond.fieldLink RX6 159 "TurnBrothers$City" "walls" "I" ∈ LW := LW_of 308 (by decide +kernel) (by decide +kernel)
theorem flX6_162 : Cond.fieldLink RX6 162 "TurnBrothers$City" "debt" "I" ∈ LW := LW_of 312 (by decide +kernel) (by decide +kernel)
theorem flX6_168 : Cond.fieldLink RX6 168 "TurnBrothers$Land" "cost" "[I" ∈ LW := LW_of 214 (by decide +kernel) (by decide +kernel)
theorem flX6_171 : Cond.fieldLink RX6 171 "TurnBrothers$Land" "builds" "[I" ∈ LW := LW_of 218 (by decide +kernel) (by decide +kernel)
theorem flX6_174 : Cond.fieldLink RX6 174 "TurnBrothers$Land" "owes" "[I" ∈ LW := LW_of 222 (by decide +kernel) (by decide +kernel)
theorem flX6_177 : Cond.fieldLink RX6 177 "TurnBrothers$Land" "glory" "[I" ∈ LW := LW_of 227 (by decide +kernel) (by decide +kernel)
theorem flX6_180 : Cond.fieldLink RX6 180 "TurnBrothers$City" "way" "[I" ∈ LW := LW_of 343 (by decide +kernel) (by decide +kernel)
theorem flX6_183 : Cond.fieldLink RX6 183 "TurnBrothers$Land" "wayLength" "[I" ∈ LW := LW_of 231 (by decide +kernel) (by decide +kernel)
theorem flX6_186 : Cond.fieldLink RX6 186 "TurnBrothers$Land" "harvest" "[I" ∈ LW := LW_of 237 (by decide +kernel) (by decide +kernel)
theorem flX6_189 : Cond.fieldLink RX6 189 "TurnBrothers$Land" "harvests" "I" ∈ LW := LW_of 234 (by decide +kernel) (by decide +kernel)
theorem flX6_192 : Cond.fieldLink RX6 192 "TurnBrothers$City" "term" "I" ∈ LW := LW_of 333 (by decide +kernel) (by decide +kernel)
theorem flX6_195 : Cond.fieldLink RX6 195 "TurnBrothers$City" "lean" "[I" ∈ LW := LW_of 347 (by decide +kernel) (by decide +kernel)
theorem flX6_198 : Cond.fieldLink RX6 198 "TurnBrothers$Land" "men" "[I" ∈ LW := LW_of 245 (by decide +kernel) (by decide +kernel)
theorem flX6_201 : Cond.fieldLink RX6 201 "TurnBrothers$Fighters" "strength" "[I" ∈ LW := LW_of 169 (by decide +kernel) (by decide +kernel)
theorem flX6_204 : Cond.fieldLink RX6 204 "TurnBrothers$Fighters" "kind" "[I" ∈ LW := LW_of 172 (by decide +kernel) (by decide +kernel)
theorem flX6_206 : Cond.fieldLink RX6 206 "TurnBrothers$Rule" "to" "I" ∈ LW := LW_of 192 (by decide +kernel) (by decide +kernel)
theorem flX6_226 : Cond.fieldLink RX6 226 "TurnBrothers$Word" "OR" "LTurnBrothers$Word;" ∈ LW := LW_of 1016 (by decide +kernel) (by decide +kernel)
theorem flX6_235 : Cond.fieldLink RX6 235 "TurnBrothers$Word" "AND" "LTurnBrothers$Word;" ∈ LW := LW_of 1014 (by decide +kernel) (by decide +kernel)
theorem flX6_238 : Cond.fieldLink RX6 238 "TurnBrothers$Word" "NOT" "LTurnBrothers$Word;" ∈ LW := LW_of 990 (by decide +kernel) (by decide +kernel)
theorem flX6_253 : Cond.fieldLink RX6 253 "TurnBrothers$Word" "inStays" "I" ∈ LW := LW_of 2078 (by decide +kernel) (by decide +kernel)
theorem flX6_256 : Cond.fieldLink RX6 256 "TurnBrothers$Word" "inLikes" "I" ∈ LW := LW_of 2079 (by decide +kernel) (by decide +kernel)
theorem flX6_259 : Cond.fieldLink RX6 259 "TurnBrothers$Rule" "asksMen" "Z" ∈ LW := LW_of 195 (by decide +kernel) (by decide +kernel)
theorem flX6_263 : Cond.fieldLink RX6 263 "TurnBrothers$Word" "MEN" "LTurnBrothers$Word;" ∈ LW := LW_of 1012 (by decide +kernel) (by decide +kernel)
theorem flX7_12 : Cond.fieldLink RX7 12 "TurnBrothers$Reign" "land" "LTurnBrothers$Land;" ∈ LW := LW_of 445 (by decide +kernel) (by decide +kernel)
theorem flX7_20 : Cond.fieldLink RX7 20 "TurnBrothers$Reign" "staysValues" "[I" ∈ LW := LW_of 448 (by decide +kernel) (by decide +kernel)
theorem flX7_24 : Cond.fieldLink RX7 24 "TurnBrothers$Reign" "likesValues" "[I" ∈ LW := LW_of 449 (by decide +kernel) (by decide +kernel)
theorem flX7_27 : Cond.fieldLink RX7 27 "TurnBrothers$Reign" "stack" "[I" ∈ LW := LW_of 450 (by decide +kernel) (by decide +kernel)
theorem flX7_30 : Cond.fieldLink RX7 30 "TurnBrothers$Land" "harvests" "I" ∈ LW := LW_of 233 (by decide +kernel) (by decide +kernel)
theorem flX7_34 : Cond.fieldLink RX7 34 "TurnBrothers$Land" "harvest" "[I" ∈ LW := LW_of 236 (by decide +kernel) (by decide +kernel)
theorem flX7_37 : Cond.fieldLink RX7 37 "TurnBrothers$Land" "wayLength" "[I" ∈ LW := LW_of 229 (by decide +kernel) (by decide +kernel)
theorem flX7_40 : Cond.fieldLink RX7 40 "TurnBrothers$City" "way" "[I" ∈ LW := LW_of 341 (by decide +kernel) (by decide +kernel)
theorem flX7_45 : Cond.fieldLink RX7 45 "TurnBrothers$City" "ruled" "[I" ∈ LW := LW_of 335 (by decide +kernel) (by decide +kernel)
theorem flX7_48 : Cond.fieldLink RX7 48 "TurnBrothers$City" "year" "I" ∈ LW := LW_of 315 (by decide +kernel) (by decide +kernel)
theorem flX7_55 : Cond.fieldLink RX7 55 "TurnBrothers$City" "ruler" "I" ∈ LW := LW_of 318 (by decide +kernel) (by decide +kernel)
theorem flX7_81 : Cond.fieldLink RX7 81 "TurnBrothers$City" "store" "I" ∈ LW := LW_of 303 (by decide +kernel) (by decide +kernel)
theorem flX7_90 : Cond.fieldLink RX7 90 "TurnBrothers$City" "debt" "I" ∈ LW := LW_of 311 (by decide +kernel) (by decide +kernel)
theorem flX7_93 : Cond.fieldLink RX7 93 "TurnBrothers$Land" "deeds" "I" ∈ LW := LW_of 209 (by decide +kernel) (by decide +kernel)
theorem flX7_96 : Cond.fieldLink RX7 96 "TurnBrothers$Land" "cost" "[I" ∈ LW := LW_of 213 (by decide +kernel) (by decide +kernel)
theorem flX7_99 : Cond.fieldLink RX7 99 "TurnBrothers$City" "putOff" "I" ∈ LW := LW_of 326 (by decide +kernel) (by decide +kernel)
theorem flX7_102 : Cond.fieldLink RX7 102 "TurnBrothers$City" "walls" "I" ∈ LW := LW_of 307 (by decide +kernel) (by decide +kernel)
theorem flX7_105 : Cond.fieldLink RX7 105 "TurnBrothers$Land" "builds" "[I" ∈ LW := LW_of 217 (by decide +kernel) (by decide +kernel)
theorem flX7_111 : Cond.fieldLink RX7 111 "TurnBrothers$Land" "owes" "[I" ∈ LW := LW_of 221 (by decide +kernel) (by decide +kernel)
theorem flX7_114 : Cond.fieldLink RX7 114 "TurnBrothers$City" "glory" "[I" ∈ LW := LW_of 339 (by decide +kernel) (by decide +kernel)
theorem flX7_117 : Cond.fieldLink RX7 117 "TurnBrothers$Land" "glory" "[I" ∈ LW := LW_of 226 (by decide +kernel) (by decide +kernel)
theorem flX7_118 : Cond.fieldLink RX7 118 "TurnBrothers$City" "row" "I" ∈ LW := LW_of 323 (by decide +kernel) (by decide +kernel)
theorem flX7_121 : Cond.fieldLink RX7 121 "TurnBrothers$City" "term" "I" ∈ LW := LW_of 332 (by decide +kernel) (by decide +kernel)
theorem flX7_124 : Cond.fieldLink RX7 124 "TurnBrothers$Land" "stays" "LTurnBrothers$Rule;" ∈ LW := LW_of 254 (by decide +kernel) (by decide +kernel)
theorem flX7_132 : Cond.fieldLink RX7 132 "TurnBrothers$Rule" "asksMen" "Z" ∈ LW := LW_of 194 (by decide +kernel) (by decide +kernel)
theorem flX7_146 : Cond.fieldLink RX7 146 "TurnBrothers$City" "stayed" "I" ∈ LW := LW_of 329 (by decide +kernel) (by decide +kernel)
theorem flX7_152 : Cond.fieldLink RX7 152 "TurnBrothers$Land" "friends" "I" ∈ LW := LW_of 241 (by decide +kernel) (by decide +kernel)
theorem flX7_155 : Cond.fieldLink RX7 155 "TurnBrothers$Land" "likes" "LTurnBrothers$Rule;" ∈ LW := LW_of 257 (by decide +kernel) (by decide +kernel)
theorem flX7_162 : Cond.fieldLink RX7 162 "TurnBrothers$City" "lean" "[I" ∈ LW := LW_of 346 (by decide +kernel) (by decide +kernel)
theorem flX7_165 : Cond.fieldLink RX7 165 "TurnBrothers$Land" "men" "[I" ∈ LW := LW_of 244 (by decide +kernel) (by decide +kernel)
theorem flX8_7 : Cond.fieldLink RX8 7 "TurnBrothers$Rule" "from" "I" ∈ LW := LW_of 190 (by decide +kernel) (by decide +kernel)
theorem flX8_13 : Cond.fieldLink RX8 13 "TurnBrothers$Rule" "to" "I" ∈ LW := LW_of 191 (by decide +kernel) (by decide +kernel)
theorem flX8_16 : Cond.fieldLink RX8 16 "TurnBrothers$Rule" "asksMen" "Z" ∈ LW := LW_of 193 (by decide +kernel) (by decide +kernel)
theorem flX8_20 : Cond.fieldLink RX8 20 "TurnBrothers$Rule" "code" "[I" ∈ LW := LW_of 189 (by decide +kernel) (by decide +kernel)
theorem flX9_9 : Cond.fieldLink RX9 9 "TurnBrothers$Seen" "many" "I" ∈ LW := LW_of 522 (by decide +kernel) (by decide +kernel)
theorem flX9_15 : Cond.fieldLink RX9 15 "TurnBrothers$Seen" "years" "[I" ∈ LW := LW_of 524 (by decide +kernel) (by decide +kernel)
theorem flX9_19 : Cond.fieldLink RX9 19 "TurnBrothers$Seen" "stores" "[I" ∈ LW := LW_of 525 (by decide +kernel) (by decide +kernel)
theorem flX10_7 : Cond.fieldLink RX10 7 "TurnBrothers$Tokens" "length" "I" ∈ LW := LW_of 384 (by decide +kernel) (by decide +kernel)
theorem flX10_13 : Cond.fieldLink RX10 13 "TurnBrothers$Tokens" "behind" "I" ∈ LW := LW_of 385 (by decide +kernel) (by decide +kernel)
theorem flX10_16 : Cond.fieldLink RX10 16 "TurnBrothers$Tokens" "place" "I" ∈ LW := LW_of 386 (by decide +kernel) (by decide +kernel)
theorem flX10_19 : Cond.fieldLink RX10 19 "TurnBrothers$Tokens" "kind" "I" ∈ LW := LW_of 388 (by decide +kernel) (by decide +kernel)
theorem flX10_22 : Cond.fieldLink RX10 22 "TurnBrothers$Tokens" "number" "I" ∈ LW := LW_of 390 (by decide +kernel) (by decide +kernel)
theorem flX10_25 : Cond.fieldLink RX10 25 "TurnBrothers$Word" "UNKNOWN" "LTurnBrothers$Word;" ∈ LW := LW_of 381 (by decide +kernel) (by decide +kernel)
theorem flX10_31 : Cond.fieldLink RX10 31 "TurnBrothers$Tokens" "word" "LTurnBrothers$Word;" ∈ LW := LW_of 392 (by decide +kernel) (by decide +kernel)
theorem flX10_34 : Cond.fieldLink RX10 34 "TurnBrothers$Tokens" "text" "[B" ∈ LW := LW_of 383 (by decide +kernel) (by decide +kernel)
theorem flX10_69 : Cond.fieldLink RX10 69 "TurnBrothers$Word" "text" "Ljava/lang/String;" ∈ LW := LW_of 2074 (by decide +kernel) (by decide +kernel)
theorem flX13_9 : Cond.fieldLink RX13 9 "TurnBrothersModel" "staysAt" "I" ∈ LW := LW_of 1368 (by decide +kernel) (by decide +kernel)
theorem flX13_13 : Cond.fieldLink RX13 13 "TurnBrothersModel" "likesAt" "I" ∈ LW := LW_of 1369 (by decide +kernel) (by decide +kernel)
theorem flX13_16 : Cond.fieldLink RX13 16 "TurnBrothersModel" "cost" "[I" ∈ LW := LW_of 1370 (by decide +kernel) (by decide +kernel)
theorem flX13_20 : Cond.fieldLink RX13 20 "TurnBrothersModel" "builds" "[I" ∈ LW := LW_of 1371 (by decide +kernel) (by decide +kernel)
theorem flX13_23 : Cond.fieldLink RX13 23 "TurnBrothersModel" "owes" "[I" ∈ LW := LW_of 1372 (by decide +kernel) (by decide +kernel)
theorem flX13_26 : Cond.fieldLink RX13 26 "TurnBrothersModel" "glory" "[I" ∈ LW := LW_of 1373 (by decide +kernel) (by decide +kernel)
theorem flX13_29 : Cond.fieldLink RX13 29 "TurnBrothersModel" "wayLong" "[I" ∈ LW := LW_of 1374 (by decide +kernel) (by decide +kernel)
theorem flX13_32 : Cond.fieldLink RX13 32 "TurnBrothersModel" "harvest" "[I" ∈ LW := LW_of 1375 (by decide +kernel) (by decide +kernel)
theorem flX13_35 : Cond.fieldLink RX13 35 "TurnBrothersModel" "men" "[I" ∈ LW := LW_of 1376 (by decide +kernel) (by decide +kernel)
theorem flX13_38 : Cond.fieldLink RX13 38 "TurnBrothersModel" "strong" "[I" ∈ LW := LW_of 1377 (by decide +kernel) (by decide +kernel)
theorem flX13_41 : Cond.fieldLink RX13 41 "TurnBrothersModel" "kind" "[I" ∈ LW := LW_of 1378 (by decide +kernel) (by decide +kernel)
theorem flX13_44 : Cond.fieldLink RX13 44 "TurnBrothersModel" "gateStrong" "[I" ∈ LW := LW_of 1379 (by decide +kernel) (by decide +kernel)
theorem flX13_47 : Cond.fieldLink RX13 47 "TurnBrothersModel" "gateKind" "[I" ∈ LW := LW_of 1380 (by decide +kernel) (by decide +kernel)
theorem flX13_50 : Cond.fieldLink RX13 50 "TurnBrothersModel" "code" "[I" ∈ LW := LW_of 1381 (by decide +kernel) (by decide +kernel)
theorem flX13_53 : Cond.fieldLink RX13 53 "TurnBrothersModel" "tape" "[I" ∈ LW := LW_of 1382 (by decide +kernel) (by decide +kernel)
theorem flX13_56 : Cond.fieldLink RX13 56 "TurnBrothersModel" "faultPlace" "I" ∈ LW := LW_of 1385 (by decide +kernel) (by decide +kernel)
theorem flX13_59 : Cond.fieldLink RX13 59 "TurnBrothersModel" "refused" "[I" ∈ LW := LW_of 1386 (by decide +kernel) (by decide +kernel)
theorem flX13_62 : Cond.fieldLink RX13 62 "TurnBrothersModel" "newCost" "[I" ∈ LW := LW_of 1409 (by decide +kernel) (by decide +kernel)
theorem flX13_65 : Cond.fieldLink RX13 65 "TurnBrothersModel" "newBuilds" "[I" ∈ LW := LW_of 1410 (by decide +kernel) (by decide +kernel)
theorem flX13_68 : Cond.fieldLink RX13 68 "TurnBrothersModel" "newOwes" "[I" ∈ LW := LW_of 1411 (by decide +kernel) (by decide +kernel)
theorem flX13_71 : Cond.fieldLink RX13 71 "TurnBrothersModel" "newGlory" "[I" ∈ LW := LW_of 1412 (by decide +kernel) (by decide +kernel)
theorem flX13_74 : Cond.fieldLink RX13 74 "TurnBrothersModel" "newWayLong" "[I" ∈ LW := LW_of 1413 (by decide +kernel) (by decide +kernel)
theorem flX13_77 : Cond.fieldLink RX13 77 "TurnBrothersModel" "newHarvest" "[I" ∈ LW := LW_of 1414 (by decide +kernel) (by decide +kernel)
theorem flX13_80 : Cond.fieldLink RX13 80 "TurnBrothersModel" "newMen" "[I" ∈ LW := LW_of 1415 (by decide +kernel) (by decide +kernel)
theorem flX13_83 : Cond.fieldLink RX13 83 "TurnBrothersModel" "newStrong" "[I" ∈ LW := LW_of 1416 (by decide +kernel) (by decide +kernel)
theorem flX13_86 : Cond.fieldLink RX13 86 "TurnBrothersModel" "newKind" "[I" ∈ LW := LW_of 1417 (by decide +kernel) (by decide +kernel)
theorem flX13_89 : Cond.fieldLink RX13 89 "TurnBrothersModel" "newGateStrong" "[I" ∈ LW := LW_of 1418 (by decide +kernel) (by decide +kernel)
theorem flX13_92 : Cond.fieldLink RX13 92 "TurnBrothersModel" "newGateKind" "[I" ∈ LW := LW_of 1419 (by decide +kernel) (by decide +kernel)
theorem flX13_95 : Cond.fieldLink RX13 95 "TurnBrothersModel" "newRow" "[I" ∈ LW := LW_of 1420 (by decide +kernel) (by decide +kernel)
theorem flX13_98 : Cond.fieldLink RX13 98 "TurnBrothersModel" "readCode" "[I" ∈ LW := LW_of 1421 (by decide +kernel) (by decide +kernel)
theorem flX13_101 : Cond.fieldLink RX13 101 "TurnBrothersModel" "waits" "[I" ∈ LW := LW_of 1422 (by decide +kernel) (by decide +kernel)
theorem flX13_104 : Cond.fieldLink RX13 104 "TurnBrothersModel" "tested" "[Z" ∈ LW := LW_of 1423 (by decide +kernel) (by decide +kernel)
theorem flX13_108 : Cond.fieldLink RX13 108 "TurnBrothersModel" "board" "[I" ∈ LW := LW_of 1424 (by decide +kernel) (by decide +kernel)
theorem flX13_111 : Cond.fieldLink RX13 111 "TurnBrothersModel" "ahead" "[I" ∈ LW := LW_of 1425 (by decide +kernel) (by decide +kernel)
theorem flX13_114 : Cond.fieldLink RX13 114 "TurnBrothersModel" "told" "[I" ∈ LW := LW_of 1427 (by decide +kernel) (by decide +kernel)
theorem flX13_117 : Cond.fieldLink RX13 117 "TurnBrothersModel" "pile" "[I" ∈ LW := LW_of 1428 (by decide +kernel) (by decide +kernel)
theorem flX13_120 : Cond.fieldLink RX13 120 "TurnBrothersModel" "most" "[I" ∈ LW := LW_of 1430 (by decide +kernel) (by decide +kernel)
theorem flX13_123 : Cond.fieldLink RX13 123 "TurnBrothersModel" "seen" "[I" ∈ LW := LW_of 1432 (by decide +kernel) (by decide +kernel)
theorem flX13_126 : Cond.fieldLink RX13 126 "TurnBrothersModel" "stores" "[I" ∈ LW := LW_of 1433 (by decide +kernel) (by decide +kernel)
theorem flX13_129 : Cond.fieldLink RX13 129 "TurnBrothersModel" "storesOf" "[I" ∈ LW := LW_of 1434 (by decide +kernel) (by decide +kernel)
theorem flX13_132 : Cond.fieldLink RX13 132 "TurnBrothersModel" "imageRow" "[I" ∈ LW := LW_of 1439 (by decide +kernel) (by decide +kernel)
theorem flX13_135 : Cond.fieldLink RX13 135 "TurnBrothersModel" "imageAhead" "[I" ∈ LW := LW_of 1440 (by decide +kernel) (by decide +kernel)
theorem flX13_138 : Cond.fieldLink RX13 138 "TurnBrothersModel" "imageSees" "[I" ∈ LW := LW_of 1441 (by decide +kernel) (by decide +kernel)
theorem flX13_141 : Cond.fieldLink RX13 141 "TurnBrothersModel" "thrown" "I" ∈ LW := LW_of 1362 (by decide +kernel) (by decide +kernel)
theorem flX13_144 : Cond.fieldLink RX13 144 "TurnBrothersModel" "taped" "I" ∈ LW := LW_of 1383 (by decide +kernel) (by decide +kernel)
theorem flX13_151 : Cond.fieldLink RX13 151 "TurnBrothersModel" "long1" "I" ∈ LW := LW_of 1387 (by decide +kernel) (by decide +kernel)
theorem flX13_154 : Cond.fieldLink RX13 154 "TurnBrothersModel" "next0" "I" ∈ LW := LW_of 1388 (by decide +kernel) (by decide +kernel)
theorem flX13_161 : Cond.fieldLink RX13 161 "TurnBrothersModel" "place" "I" ∈ LW := LW_of 1390 (by decide +kernel) (by decide +kernel)
theorem flX13_164 : Cond.fieldLink RX13 164 "TurnBrothersModel" "word" "J" ∈ LW := LW_of 1394 (by decide +kernel) (by decide +kernel)
theorem flX13_168 : Cond.fieldLink RX13 168 "TurnBrothersModel" "value" "I" ∈ LW := LW_of 1392 (by decide +kernel) (by decide +kernel)
theorem flX13_171 : Cond.fieldLink RX13 171 "TurnBrothersModel" "sign" "I" ∈ LW := LW_of 1393 (by decide +kernel) (by decide +kernel)
theorem flX13_174 : Cond.fieldLink RX13 174 "TurnBrothersModel" "sort" "I" ∈ LW := LW_of 1389 (by decide +kernel) (by decide +kernel)
theorem flX13_184 : Cond.fieldLink RX13 184 "TurnBrothersModel" "long0" "I" ∈ LW := LW_of 1391 (by decide +kernel) (by decide +kernel)
theorem flX13_197 : Cond.fieldLink RX13 197 "TurnBrothersModel" "faultKind" "I" ∈ LW := LW_of 1384 (by decide +kernel) (by decide +kernel)
theorem flX13_217 : Cond.fieldLink RX13 217 "TurnBrothersModel" "top" "I" ∈ LW := LW_of 1402 (by decide +kernel) (by decide +kernel)
theorem flX13_220 : Cond.fieldLink RX13 220 "TurnBrothersModel" "waiting" "I" ∈ LW := LW_of 1405 (by decide +kernel) (by decide +kernel)
theorem flX13_236 : Cond.fieldLink RX13 236 "TurnBrothersModel" "firstValue" "I" ∈ LW := LW_of 1403 (by decide +kernel) (by decide +kernel)
theorem flX13_239 : Cond.fieldLink RX13 239 "TurnBrothersModel" "lastValue" "I" ∈ LW := LW_of 1404 (by decide +kernel) (by decide +kernel)
theorem flX13_242 : Cond.fieldLink RX13 242 "TurnBrothersModel" "depth" "I" ∈ LW := LW_of 1406 (by decide +kernel) (by decide +kernel)
theorem flX13_267 : Cond.fieldLink RX13 267 "TurnBrothersModel" "hasCity" "Z" ∈ LW := LW_of 1407 (by decide +kernel) (by decide +kernel)
theorem flX13_271 : Cond.fieldLink RX13 271 "TurnBrothersModel" "newDeeds" "I" ∈ LW := LW_of 1395 (by decide +kernel) (by decide +kernel)
theorem flX13_280 : Cond.fieldLink RX13 280 "TurnBrothersModel" "newNumbers" "I" ∈ LW := LW_of 1396 (by decide +kernel) (by decide +kernel)
theorem flX13_283 : Cond.fieldLink RX13 283 "TurnBrothersModel" "newFriends" "I" ∈ LW := LW_of 1397 (by decide +kernel) (by decide +kernel)
theorem flX13_286 : Cond.fieldLink RX13 286 "TurnBrothersModel" "newGates" "I" ∈ LW := LW_of 1399 (by decide +kernel) (by decide +kernel)
theorem flX13_289 : Cond.fieldLink RX13 289 "TurnBrothersModel" "newChampions" "I" ∈ LW := LW_of 1398 (by decide +kernel) (by decide +kernel)
theorem flX13_304 : Cond.fieldLink RX13 304 "TurnBrothersModel" "hasTerm" "Z" ∈ LW := LW_of 1408 (by decide +kernel) (by decide +kernel)
theorem flX13_313 : Cond.fieldLink RX13 313 "TurnBrothersModel" "newStaysAt" "I" ∈ LW := LW_of 1400 (by decide +kernel) (by decide +kernel)
theorem flX13_320 : Cond.fieldLink RX13 320 "TurnBrothersModel" "newLikesAt" "I" ∈ LW := LW_of 1401 (by decide +kernel) (by decide +kernel)
theorem flX13_333 : Cond.fieldLink RX13 333 "TurnBrothersModel" "deeds" "I" ∈ LW := LW_of 1363 (by decide +kernel) (by decide +kernel)
theorem flX13_336 : Cond.fieldLink RX13 336 "TurnBrothersModel" "numbers" "I" ∈ LW := LW_of 1364 (by decide +kernel) (by decide +kernel)
theorem flX13_339 : Cond.fieldLink RX13 339 "TurnBrothersModel" "friends" "I" ∈ LW := LW_of 1365 (by decide +kernel) (by decide +kernel)
theorem flX13_342 : Cond.fieldLink RX13 342 "TurnBrothersModel" "champions" "I" ∈ LW := LW_of 1366 (by decide +kernel) (by decide +kernel)
theorem flX13_345 : Cond.fieldLink RX13 345 "TurnBrothersModel" "gates" "I" ∈ LW := LW_of 1367 (by decide +kernel) (by decide +kernel)
theorem flX13_352 : Cond.fieldLink RX13 352 "TurnBrothersModel" "acts" "I" ∈ LW := LW_of 1426 (by decide +kernel) (by decide +kernel)
theorem flX13_355 : Cond.fieldLink RX13 355 "TurnBrothersModel" "seenMany" "I" ∈ LW := LW_of 1431 (by decide +kernel) (by decide +kernel)
theorem flX13_358 : Cond.fieldLink RX13 358 "TurnBrothersModel" "hasImage" "Z" ∈ LW := LW_of 1436 (by decide +kernel) (by decide +kernel)
theorem flX13_444 : Cond.fieldLink RX13 444 "TurnBrothersModel" "bestDeed" "I" ∈ LW := LW_of 1429 (by decide +kernel) (by decide +kernel)
theorem flX13_480 : Cond.fieldLink RX13 480 "TurnBrothersModel" "its" "I" ∈ LW := LW_of 1435 (by decide +kernel) (by decide +kernel)
theorem flX13_493 : Cond.fieldLink RX13 493 "TurnBrothersModel" "imageActs" "I" ∈ LW := LW_of 1437 (by decide +kernel) (by decide +kernel)
theorem flX13_496 : Cond.fieldLink RX13 496 "TurnBrothersModel" "imageSeen" "I" ∈ LW := LW_of 1438 (by decide +kernel) (by decide +kernel)
theorem flJx29ce0_7 : Cond.fieldLink RJx29ce0 7 "java/lang/Enum" "ordinal" "I" ∈ LW := LW_of 2077 (by decide +kernel) (by decide +kernel)
theorem flJ0_9 : Cond.fieldLink RJ0 9 "java/lang/String" "value" "[B" ∈ LW := LW_of 2075 (by decide +kernel) (by decide +kernel)
theorem flJ0_15 : Cond.fieldLink RJ0 15 "java/lang/String" "coder" "B" ∈ LW := LW_of 2076 (by decide +kernel) (by decide +kernel)
theorem flJ0_38 : Cond.fieldLink RJ0 38 "java/lang/String" "COMPACT_STRINGS" "Z" ∈ LW := LW_of 861 (by decide +kernel) (by decide +kernel)
theorem flJ0_1053 : Cond.fieldLink RJ0 1053 "jdk/internal/util/Preconditions" "SIOOBE_FORMATTER" "Ljava/util/function/BiFunction;" ∈ LW := LW_of 877 (by decide +kernel) (by decide +kernel)
theorem flJ2_44 : Cond.fieldLink RJ2 44 "java/lang/StringUTF16" "$assertionsDisabled" "Z" ∈ LW := LW_of 895 (by decide +kernel) (by decide +kernel)
theorem flJ2_59 : Cond.fieldLink RJ2 59 "java/lang/StringUTF16" "HI_BYTE_SHIFT" "I" ∈ LW := LW_of 897 (by decide +kernel) (by decide +kernel)
theorem flJ2_63 : Cond.fieldLink RJ2 63 "java/lang/StringUTF16" "LO_BYTE_SHIFT" "I" ∈ LW := LW_of 899 (by decide +kernel) (by decide +kernel)
theorem mlX12_1 : Cond.methodLink RX12 1 ⟨"java/lang/Object", "<init>", "()V"⟩ ∈ LW := LW_of 143 (by decide +kernel) (by decide +kernel)
theorem mlX12_26 : Cond.methodLink RX12 26 yX6_init ∈ LW := LW_of 148 (by decide +kernel) (by decide +kernel)
theorem mlX12_42 : Cond.methodLink RX12 42 yX2_init ∈ LW := LW_of 462 (by decide +kernel) (by decide +kernel)
theorem mlX12_51 : Cond.methodLink RX12 51 yX3_init ∈ LW := LW_of 501 (by decide +kernel) (by decide +kernel)
theorem mlX12_89 : Cond.methodLink RX12 89 yX12_tapeNumber ∈ LW := LW_of 586 (by decide +kernel) (by decide +kernel)
theorem mlX12_97 : Cond.methodLink RX12 97 ⟨"java/lang/IllegalArgumentException", "<init>", "(Ljava/lang/String;)V"⟩ ∈ LW := LW_of 797 (by decide +kernel) (by decide +kernel)
theorem mlX12_100 : Cond.methodLink RX12 100 yX6_parse ∈ LW := LW_of 822 (by decide +kernel) (by decide +kernel)
theorem mlX12_115 : Cond.methodLink RX12 115 yX3_become ∈ LW := LW_of 705 (by decide +kernel) (by decide +kernel)
theorem mlX12_172 : Cond.methodLink RX12 172 ⟨"java/util/NoSuchElementException", "<init>", "(Ljava/lang/String;)V"⟩ ∈ LW := LW_of 1036 (by decide +kernel) (by decide +kernel)
theorem mlX12_173 : Cond.methodLink RX12 173 yX12_needDeed ∈ LW := LW_of 1049 (by decide +kernel) (by decide +kernel)
theorem mlX12_188 : Cond.methodLink RX12 188 yX12_needBrother ∈ LW := LW_of 1061 (by decide +kernel) (by decide +kernel)
theorem mlX12_198 : Cond.methodLink RX12 198 yX7_followers ∈ LW := LW_of 1066 (by decide +kernel) (by decide +kernel)
theorem mlX12_202 : Cond.methodLink RX12 202 yX7_menOf ∈ LW := LW_of 1067 (by decide +kernel) (by decide +kernel)
theorem mlX12_205 : Cond.methodLink RX12 205 yX7_wayDeed ∈ LW := LW_of 1068 (by decide +kernel) (by decide +kernel)
theorem mlX12_208 : Cond.methodLink RX12 208 yX12_hasPlace ∈ LW := LW_of 1076 (by decide +kernel) (by decide +kernel)
theorem mlX12_217 : Cond.methodLink RX12 217 yX12_needFriend ∈ LW := LW_of 1088 (by decide +kernel) (by decide +kernel)
theorem mlX12_226 : Cond.methodLink RX12 226 yX7_liking ∈ LW := LW_of 1093 (by decide +kernel) (by decide +kernel)
theorem mlX12_238 : Cond.methodLink RX12 238 yX12_refuse ∈ LW := LW_of 598 (by decide +kernel) (by decide +kernel)
theorem mlX12_241 : Cond.methodLink RX12 241 yX1_keep ∈ LW := LW_of 602 (by decide +kernel) (by decide +kernel)
theorem mlX12_244 : Cond.methodLink RX12 244 yX7_passMany ∈ LW := LW_of 614 (by decide +kernel) (by decide +kernel)
theorem mlX12_248 : Cond.methodLink RX12 248 yJ9_min_7cf53 ∈ LW := LW_of 684 (by decide +kernel) (by decide +kernel)
theorem mlX12_254 : Cond.methodLink RX12 254 yJ9_max_7cf53 ∈ LW := LW_of 1108 (by decide +kernel) (by decide +kernel)
theorem mlX12_257 : Cond.methodLink RX12 257 yX1_takeBack ∈ LW := LW_of 689 (by decide +kernel) (by decide +kernel)
theorem mlX12_261 : Cond.methodLink RX12 261 yX12_needWhat ∈ LW := LW_of 1116 (by decide +kernel) (by decide +kernel)
theorem mlX12_265 : Cond.methodLink RX12 265 yX12_needWithin ∈ LW := LW_of 1120 (by decide +kernel) (by decide +kernel)
theorem mlX12_269 : Cond.methodLink RX12 269 yX12_passWithTerm ∈ LW := LW_of 701 (by decide +kernel) (by decide +kernel)
theorem mlX12_272 : Cond.methodLink RX12 272 yX3_wealth ∈ LW := LW_of 1139 (by decide +kernel) (by decide +kernel)
theorem mlX12_276 : Cond.methodLink RX12 276 yX7_passAlone ∈ LW := LW_of 1143 (by decide +kernel) (by decide +kernel)
theorem mlX12_279 : Cond.methodLink RX12 279 yX2_planned ∈ LW := LW_of 1154 (by decide +kernel) (by decide +kernel)
theorem mlX12_285 : Cond.methodLink RX12 285 yX12_needChampion ∈ LW := LW_of 1179 (by decide +kernel) (by decide +kernel)
theorem mlX12_288 : Cond.methodLink RX12 288 yX12_needGate ∈ LW := LW_of 1184 (by decide +kernel) (by decide +kernel)
theorem mlX12_291 : Cond.methodLink RX12 291 yX12_edge ∈ LW := LW_of 1189 (by decide +kernel) (by decide +kernel)
theorem mlX12_297 : Cond.methodLink RX12 297 yX12_fillReach ∈ LW := LW_of 1200 (by decide +kernel) (by decide +kernel)
theorem mlX12_300 : Cond.methodLink RX12 300 yX12_bestGate ∈ LW := LW_of 1208 (by decide +kernel) (by decide +kernel)
theorem mlX12_303 : Cond.methodLink RX12 303 yX12_beatenBy ∈ LW := LW_of 1204 (by decide +kernel) (by decide +kernel)
theorem mlX12_306 : Cond.methodLink RX12 306 yJ6_bitCount_0f7a4 ∈ LW := LW_of 1219 (by decide +kernel) (by decide +kernel)
theorem mlX12_318 : Cond.methodLink RX12 318 yX12_chances ∈ LW := LW_of 1232 (by decide +kernel) (by decide +kernel)
theorem mlX12_322 : Cond.methodLink RX12 322 yX12_rests ∈ LW := LW_of 1250 (by decide +kernel) (by decide +kernel)
theorem mlX12_326 : Cond.methodLink RX12 326 yX9_add ∈ LW := LW_of 717 (by decide +kernel) (by decide +kernel)
theorem mlX12_329 : Cond.methodLink RX12 329 yX9_last ∈ LW := LW_of 1261 (by decide +kernel) (by decide +kernel)
theorem mlX12_332 : Cond.methodLink RX12 332 yX2_fits ∈ LW := LW_of 1266 (by decide +kernel) (by decide +kernel)
theorem mlX12_336 : Cond.methodLink RX12 336 yX2_survey ∈ LW := LW_of 1283 (by decide +kernel) (by decide +kernel)
theorem mlX12_345 : Cond.methodLink RX12 345 yX2_playOut ∈ LW := LW_of 1300 (by decide +kernel) (by decide +kernel)
theorem mlX12_349 : Cond.methodLink RX12 349 yX2_isAtRest ∈ LW := LW_of 1304 (by decide +kernel) (by decide +kernel)
theorem mlX12_352 : Cond.methodLink RX12 352 yX12_followingSeed ∈ LW := LW_of 1315 (by decide +kernel) (by decide +kernel)
theorem mlX12_355 : Cond.methodLink RX12 355 yX3_handOver ∈ LW := LW_of 1319 (by decide +kernel) (by decide +kernel)
theorem mlX12_358 : Cond.methodLink RX12 358 yX7_live ∈ LW := LW_of 1320 (by decide +kernel) (by decide +kernel)
theorem mlX12_363 : Cond.methodLink RX12 363 yJ9_abs_0f7a4 ∈ LW := LW_of 1335 (by decide +kernel) (by decide +kernel)
theorem mlX12_366 : Cond.methodLink RX12 366 yX12_gloryWithSwap ∈ LW := LW_of 1352 (by decide +kernel) (by decide +kernel)
theorem mlX12_369 : Cond.methodLink RX12 369 yX3_write ∈ LW := LW_of 733 (by decide +kernel) (by decide +kernel)
theorem mlX12_373 : Cond.methodLink RX12 373 yX1_become ∈ LW := LW_of 734 (by decide +kernel) (by decide +kernel)
theorem mlX12_376 : Cond.methodLink RX12 376 yX9_become ∈ LW := LW_of 738 (by decide +kernel) (by decide +kernel)
theorem mlX12_379 : Cond.methodLink RX12 379 yX3_read ∈ LW := LW_of 747 (by decide +kernel) (by decide +kernel)
theorem mlX1_3 : Cond.methodLink RX1 3 ⟨"java/lang/Object", "<init>", "()V"⟩ ∈ LW := LW_of 507 (by decide +kernel) (by decide +kernel)
theorem mlX1_21 : Cond.methodLink RX1 21 ⟨"java/lang/System", "arraycopy", "(Ljava/lang/Object;ILjava/lang/Object;II)V"⟩ ∈ LW := LW_of 606 (by decide +kernel) (by decide +kernel)
theorem mlX1_27 : Cond.methodLink RX1 27 yX3_write ∈ LW := LW_of 609 (by decide +kernel) (by decide +kernel)
theorem mlX1_31 : Cond.methodLink RX1 31 yX3_read ∈ LW := LW_of 693 (by decide +kernel) (by decide +kernel)
theorem mlX2_3 : Cond.methodLink RX2 3 ⟨"java/lang/Object", "<init>", "()V"⟩ ∈ LW := LW_of 465 (by decide +kernel) (by decide +kernel)
theorem mlX2_11 : Cond.methodLink RX2 11 yX3_init ∈ LW := LW_of 467 (by decide +kernel) (by decide +kernel)
theorem mlX2_47 : Cond.methodLink RX2 47 yX3_become ∈ LW := LW_of 1158 (by decide +kernel) (by decide +kernel)
theorem mlX2_51 : Cond.methodLink RX2 51 yX2_bestGain ∈ LW := LW_of 1159 (by decide +kernel) (by decide +kernel)
theorem mlX2_64 : Cond.methodLink RX2 64 yX7_harvestOf ∈ LW := LW_of 1163 (by decide +kernel) (by decide +kernel)
theorem mlX2_68 : Cond.methodLink RX2 68 yX7_reap ∈ LW := LW_of 1164 (by decide +kernel) (by decide +kernel)
theorem mlX2_86 : Cond.methodLink RX2 86 yX2_gainBehind ∈ LW := LW_of 1165 (by decide +kernel) (by decide +kernel)
theorem mlX2_93 : Cond.methodLink RX2 93 yX7_perform ∈ LW := LW_of 1169 (by decide +kernel) (by decide +kernel)
theorem mlX2_97 : Cond.methodLink RX2 97 yX7_age ∈ LW := LW_of 1170 (by decide +kernel) (by decide +kernel)
theorem mlX2_100 : Cond.methodLink RX2 100 yX7_turn ∈ LW := LW_of 1171 (by decide +kernel) (by decide +kernel)
theorem mlX2_103 : Cond.methodLink RX2 103 yX7_wayDeed ∈ LW := LW_of 1270 (by decide +kernel) (by decide +kernel)
theorem mlX2_107 : Cond.methodLink RX2 107 yX7_live ∈ LW := LW_of 1271 (by decide +kernel) (by decide +kernel)
theorem mlX2_111 : Cond.methodLink RX2 111 yX9_allows ∈ LW := LW_of 1272 (by decide +kernel) (by decide +kernel)
theorem mlX2_117 : Cond.methodLink RX2 117 yX2_fits ∈ LW := LW_of 1287 (by decide +kernel) (by decide +kernel)
theorem mlX2_121 : Cond.methodLink RX2 121 yX2_markStores ∈ LW := LW_of 1288 (by decide +kernel) (by decide +kernel)
theorem mlX3_3 : Cond.methodLink RX3 3 ⟨"java/lang/Object", "<init>", "()V"⟩ ∈ LW := LW_of 292 (by decide +kernel) (by decide +kernel)
theorem mlX3_24 : Cond.methodLink RX3 24 yX3_found ∈ LW := LW_of 293 (by decide +kernel) (by decide +kernel)
theorem mlX3_55 : Cond.methodLink RX3 55 yX3_clearRow ∈ LW := LW_of 297 (by decide +kernel) (by decide +kernel)
theorem mlX3_59 : Cond.methodLink RX3 59 ⟨"java/lang/System", "arraycopy", "(Ljava/lang/Object;ILjava/lang/Object;II)V"⟩ ∈ LW := LW_of 613 (by decide +kernel) (by decide +kernel)
theorem mlX4_3 : Cond.methodLink RX4 3 ⟨"java/lang/Object", "<init>", "()V"⟩ ∈ LW := LW_of 163 (by decide +kernel) (by decide +kernel)
theorem mlX5_3 : Cond.methodLink RX5 3 ⟨"java/lang/Object", "<init>", "()V"⟩ ∈ LW := LW_of 157 (by decide +kernel) (by decide +kernel)
theorem mlX5_55 : Cond.methodLink RX5 55 yX8_init ∈ LW := LW_of 185 (by decide +kernel) (by decide +kernel)
theorem mlX5_68 : Cond.methodLink RX5 68 yX8_begin ∈ LW := LW_of 830 (by decide +kernel) (by decide +kernel)
theorem mlX6_3 : Cond.methodLink RX6 3 ⟨"java/lang/Object", "<init>", "()V"⟩ ∈ LW := LW_of 151 (by decide +kernel) (by decide +kernel)
theorem mlX6_11 : Cond.methodLink RX6 11 yX5_init ∈ LW := LW_of 154 (by decide +kernel) (by decide +kernel)
theorem mlX6_20 : Cond.methodLink RX6 20 yX3_init ∈ LW := LW_of 289 (by decide +kernel) (by decide +kernel)
theorem mlX6_41 : Cond.methodLink RX6 41 yX10_init ∈ LW := LW_of 377 (by decide +kernel) (by decide +kernel)
theorem mlX6_55 : Cond.methodLink RX6 55 yX5_clear ∈ LW := LW_of 826 (by decide +kernel) (by decide +kernel)
theorem mlX6_58 : Cond.methodLink RX6 58 yX3_found ∈ LW := LW_of 834 (by decide +kernel) (by decide +kernel)
theorem mlX6_61 : Cond.methodLink RX6 61 yX10_open ∈ LW := LW_of 835 (by decide +kernel) (by decide +kernel)
theorem mlX6_68 : Cond.methodLink RX6 68 yX6_line ∈ LW := LW_of 911 (by decide +kernel) (by decide +kernel)
theorem mlX6_82 : Cond.methodLink RX6 82 ⟨"TurnBrothers$Word", "ordinal", "()I"⟩ ∈ LW := LW_of 917 (by decide +kernel) (by decide +kernel)
theorem mlX6_88 : Cond.methodLink RX6 88 yX6_once ∈ LW := LW_of 923 (by decide +kernel) (by decide +kernel)
theorem mlX6_92 : Cond.methodLink RX6 92 yX6_cityLine ∈ LW := LW_of 932 (by decide +kernel) (by decide +kernel)
theorem mlX6_98 : Cond.methodLink RX6 98 yX6_below ∈ LW := LW_of 944 (by decide +kernel) (by decide +kernel)
theorem mlX6_102 : Cond.methodLink RX6 102 yX6_deedLine ∈ LW := LW_of 948 (by decide +kernel) (by decide +kernel)
theorem mlX6_105 : Cond.methodLink RX6 105 yX6_wayLine ∈ LW := LW_of 952 (by decide +kernel) (by decide +kernel)
theorem mlX6_108 : Cond.methodLink RX6 108 yX6_harvestsLine ∈ LW := LW_of 956 (by decide +kernel) (by decide +kernel)
theorem mlX6_111 : Cond.methodLink RX6 111 yX6_termLine ∈ LW := LW_of 960 (by decide +kernel) (by decide +kernel)
theorem mlX6_117 : Cond.methodLink RX6 117 yX6_friendLine ∈ LW := LW_of 964 (by decide +kernel) (by decide +kernel)
theorem mlX6_129 : Cond.methodLink RX6 129 yX6_fighterLine ∈ LW := LW_of 968 (by decide +kernel) (by decide +kernel)
theorem mlX6_136 : Cond.methodLink RX6 136 yX6_ruleLine ∈ LW := LW_of 972 (by decide +kernel) (by decide +kernel)
theorem mlX6_143 : Cond.methodLink RX6 143 yX6_refuse ∈ LW := LW_of 927 (by decide +kernel) (by decide +kernel)
theorem mlX6_146 : Cond.methodLink RX6 146 yX10_step ∈ LW := LW_of 931 (by decide +kernel) (by decide +kernel)
theorem mlX6_152 : Cond.methodLink RX6 152 yX6_hear ∈ LW := LW_of 936 (by decide +kernel) (by decide +kernel)
theorem mlX6_165 : Cond.methodLink RX6 165 yX6_close ∈ LW := LW_of 940 (by decide +kernel) (by decide +kernel)
theorem mlX6_211 : Cond.methodLink RX6 211 yJ9_max_7cf53 ∈ LW := LW_of 976 (by decide +kernel) (by decide +kernel)
theorem mlX6_217 : Cond.methodLink RX6 217 yX8_begin ∈ LW := LW_of 977 (by decide +kernel) (by decide +kernel)
theorem mlX6_220 : Cond.methodLink RX6 220 yX6_expr ∈ LW := LW_of 978 (by decide +kernel) (by decide +kernel)
theorem mlX6_223 : Cond.methodLink RX6 223 yX6_and ∈ LW := LW_of 982 (by decide +kernel) (by decide +kernel)
theorem mlX6_229 : Cond.methodLink RX6 229 yX8_append ∈ LW := LW_of 1008 (by decide +kernel) (by decide +kernel)
theorem mlX6_232 : Cond.methodLink RX6 232 yX6_not ∈ LW := LW_of 986 (by decide +kernel) (by decide +kernel)
theorem mlX6_241 : Cond.methodLink RX6 241 yX6_test ∈ LW := LW_of 992 (by decide +kernel) (by decide +kernel)
theorem mlX6_244 : Cond.methodLink RX6 244 yX6_sum ∈ LW := LW_of 996 (by decide +kernel) (by decide +kernel)
theorem mlX6_247 : Cond.methodLink RX6 247 yX6_product ∈ LW := LW_of 1000 (by decide +kernel) (by decide +kernel)
theorem mlX6_250 : Cond.methodLink RX6 250 yX6_part ∈ LW := LW_of 1004 (by decide +kernel) (by decide +kernel)
theorem mlX7_3 : Cond.methodLink RX7 3 ⟨"java/lang/Object", "<init>", "()V"⟩ ∈ LW := LW_of 442 (by decide +kernel) (by decide +kernel)
theorem mlX7_11 : Cond.methodLink RX7 11 yX5_init ∈ LW := LW_of 444 (by decide +kernel) (by decide +kernel)
theorem mlX7_51 : Cond.methodLink RX7 51 yX7_harvestOf ∈ LW := LW_of 618 (by decide +kernel) (by decide +kernel)
theorem mlX7_58 : Cond.methodLink RX7 58 yX7_wayDeed ∈ LW := LW_of 622 (by decide +kernel) (by decide +kernel)
theorem mlX7_62 : Cond.methodLink RX7 62 yX7_live ∈ LW := LW_of 626 (by decide +kernel) (by decide +kernel)
theorem mlX7_66 : Cond.methodLink RX7 66 yX7_reap ∈ LW := LW_of 630 (by decide +kernel) (by decide +kernel)
theorem mlX7_70 : Cond.methodLink RX7 70 yX7_perform ∈ LW := LW_of 637 (by decide +kernel) (by decide +kernel)
theorem mlX7_74 : Cond.methodLink RX7 74 yX7_age ∈ LW := LW_of 644 (by decide +kernel) (by decide +kernel)
theorem mlX7_78 : Cond.methodLink RX7 78 yX7_turn ∈ LW := LW_of 648 (by decide +kernel) (by decide +kernel)
theorem mlX7_84 : Cond.methodLink RX7 84 yJ9_min_7cf53 ∈ LW := LW_of 634 (by decide +kernel) (by decide +kernel)
theorem mlX7_108 : Cond.methodLink RX7 108 yJ9_max_7cf53 ∈ LW := LW_of 641 (by decide +kernel) (by decide +kernel)
theorem mlX7_128 : Cond.methodLink RX7 128 yX8_isTold ∈ LW := LW_of 652 (by decide +kernel) (by decide +kernel)
theorem mlX7_136 : Cond.methodLink RX7 136 yX7_followers ∈ LW := LW_of 656 (by decide +kernel) (by decide +kernel)
theorem mlX7_139 : Cond.methodLink RX7 139 yX7_menOf ∈ LW := LW_of 668 (by decide +kernel) (by decide +kernel)
theorem mlX7_142 : Cond.methodLink RX7 142 yX8_evaluate ∈ LW := LW_of 664 (by decide +kernel) (by decide +kernel)
theorem mlX7_149 : Cond.methodLink RX7 149 yX3_handOver ∈ LW := LW_of 672 (by decide +kernel) (by decide +kernel)
theorem mlX7_158 : Cond.methodLink RX7 158 yX7_liking ∈ LW := LW_of 660 (by decide +kernel) (by decide +kernel)
theorem mlX8_1 : Cond.methodLink RX8 1 ⟨"java/lang/Object", "<init>", "()V"⟩ ∈ LW := LW_of 188 (by decide +kernel) (by decide +kernel)
theorem mlX9_3 : Cond.methodLink RX9 3 ⟨"java/lang/Object", "<init>", "()V"⟩ ∈ LW := LW_of 521 (by decide +kernel) (by decide +kernel)
theorem mlX9_22 : Cond.methodLink RX9 22 yJ9_max_7cf53 ∈ LW := LW_of 1265 (by decide +kernel) (by decide +kernel)
theorem mlX9_28 : Cond.methodLink RX9 28 ⟨"java/lang/System", "arraycopy", "(Ljava/lang/Object;ILjava/lang/Object;II)V"⟩ ∈ LW := LW_of 742 (by decide +kernel) (by decide +kernel)
theorem mlX10_1 : Cond.methodLink RX10 1 ⟨"java/lang/Object", "<init>", "()V"⟩ ∈ LW := LW_of 380 (by decide +kernel) (by decide +kernel)
theorem mlX10_38 : Cond.methodLink RX10 38 yJ9_min_7cf53 ∈ LW := LW_of 839 (by decide +kernel) (by decide +kernel)
theorem mlX10_44 : Cond.methodLink RX10 44 yX10_step ∈ LW := LW_of 840 (by decide +kernel) (by decide +kernel)
theorem mlX10_47 : Cond.methodLink RX10 47 yX10_isLetter ∈ LW := LW_of 844 (by decide +kernel) (by decide +kernel)
theorem mlX10_51 : Cond.methodLink RX10 51 yX10_readWord ∈ LW := LW_of 847 (by decide +kernel) (by decide +kernel)
theorem mlX10_54 : Cond.methodLink RX10 54 yX10_isDigit ∈ LW := LW_of 901 (by decide +kernel) (by decide +kernel)
theorem mlX10_57 : Cond.methodLink RX10 57 yX10_readNumber ∈ LW := LW_of 904 (by decide +kernel) (by decide +kernel)
theorem mlX10_60 : Cond.methodLink RX10 60 yX10_isSign ∈ LW := LW_of 908 (by decide +kernel) (by decide +kernel)
theorem mlX10_72 : Cond.methodLink RX10 72 yJ0_length_8abf5 ∈ LW := LW_of 853 (by decide +kernel) (by decide +kernel)
theorem mlX10_77 : Cond.methodLink RX10 77 yJ0_charAt_5068e ∈ LW := LW_of 863 (by decide +kernel) (by decide +kernel)
theorem mlL_7 : Cond.methodLink RL 7 yX12_land ∈ LW := LW_of 752 (by decide +kernel) (by decide +kernel)
theorem mlL_15 : Cond.methodLink RL 15 yX12_count ∈ LW := LW_of 1022 (by decide +kernel) (by decide +kernel)
theorem mlL_20 : Cond.methodLink RL 20 yX12_deed ∈ LW := LW_of 1045 (by decide +kernel) (by decide +kernel)
theorem mlL_24 : Cond.methodLink RL 24 yX12_brother ∈ LW := LW_of 1057 (by decide +kernel) (by decide +kernel)
theorem mlL_27 : Cond.methodLink RL 27 yX12_way ∈ LW := LW_of 1072 (by decide +kernel) (by decide +kernel)
theorem mlL_30 : Cond.methodLink RL 30 yX12_friend ∈ LW := LW_of 1084 (by decide +kernel) (by decide +kernel)
theorem mlL_33 : Cond.methodLink RL 33 yX12_change ∈ LW := LW_of 1097 (by decide +kernel) (by decide +kernel)
theorem mlL_37 : Cond.methodLink RL 37 yX12_gift ∈ LW := LW_of 1104 (by decide +kernel) (by decide +kernel)
theorem mlL_40 : Cond.methodLink RL 40 yX12_then ∈ LW := LW_of 1112 (by decide +kernel) (by decide +kernel)
theorem mlL_43 : Cond.methodLink RL 43 yX12_stays ∈ LW := LW_of 1128 (by decide +kernel) (by decide +kernel)
theorem mlL_46 : Cond.methodLink RL 46 yX12_cost ∈ LW := LW_of 1135 (by decide +kernel) (by decide +kernel)
theorem mlL_49 : Cond.methodLink RL 49 yX12_plan ∈ LW := LW_of 1150 (by decide +kernel) (by decide +kernel)
theorem mlL_52 : Cond.methodLink RL 52 yX12_wins ∈ LW := LW_of 1175 (by decide +kernel) (by decide +kernel)
theorem mlL_56 : Cond.methodLink RL 56 yX12_assault ∈ LW := LW_of 1196 (by decide +kernel) (by decide +kernel)
theorem mlL_59 : Cond.methodLink RL 59 yX12_bought ∈ LW := LW_of 1215 (by decide +kernel) (by decide +kernel)
theorem mlL_62 : Cond.methodLink RL 62 yX12_odds ∈ LW := LW_of 1228 (by decide +kernel) (by decide +kernel)
theorem mlL_65 : Cond.methodLink RL 65 yX12_moved ∈ LW := LW_of 1239 (by decide +kernel) (by decide +kernel)
theorem mlL_68 : Cond.methodLink RL 68 yX12_parties ∈ LW := LW_of 1246 (by decide +kernel) (by decide +kernel)
theorem mlL_71 : Cond.methodLink RL 71 yX12_another ∈ LW := LW_of 1257 (by decide +kernel) (by decide +kernel)
theorem mlL_74 : Cond.methodLink RL 74 yX12_next ∈ LW := LW_of 1279 (by decide +kernel) (by decide +kernel)
theorem mlL_77 : Cond.methodLink RL 77 yX12_game ∈ LW := LW_of 1295 (by decide +kernel) (by decide +kernel)
theorem mlL_80 : Cond.methodLink RL 80 yX12_cities ∈ LW := LW_of 1311 (by decide +kernel) (by decide +kernel)
theorem mlL_83 : Cond.methodLink RL 83 yX12_highest ∈ LW := LW_of 1324 (by decide +kernel) (by decide +kernel)
theorem mlL_86 : Cond.methodLink RL 86 yX12_better ∈ LW := LW_of 1331 (by decide +kernel) (by decide +kernel)
theorem mlL_89 : Cond.methodLink RL 89 yX12_guarded ∈ LW := LW_of 1341 (by decide +kernel) (by decide +kernel)
theorem mlL_92 : Cond.methodLink RL 92 yX12_swap ∈ LW := LW_of 1348 (by decide +kernel) (by decide +kernel)
theorem mlL_95 : Cond.methodLink RL 95 yX12_init ∈ LW := LW_of 140 (by decide +kernel) (by decide +kernel)
theorem mlL_98 : Cond.methodLink RL 98 yX13_init ∈ LW := LW_of 1358 (by decide +kernel) (by decide +kernel)
theorem mlL_99 : Cond.methodLink RL 99 yX12_feed ∈ LW := LW_of 582 (by decide +kernel) (by decide +kernel)
theorem mlL_103 : Cond.methodLink RL 103 yX13_feed ∈ LW := LW_of 1608 (by decide +kernel) (by decide +kernel)
theorem mlL_104 : Cond.methodLink RL 104 yL_land ∈ LW := LW_of 748 (by decide +kernel) (by decide +kernel)
theorem mlL_109 : Cond.methodLink RL 109 yX13_land ∈ LW := LW_of 1616 (by decide +kernel) (by decide +kernel)
theorem mlL_110 : Cond.methodLink RL 110 yX13_thrown ∈ LW := LW_of 1604 (by decide +kernel) (by decide +kernel)
theorem mlL_114 : Cond.methodLink RL 114 yX12_fault ∈ LW := LW_of 590 (by decide +kernel) (by decide +kernel)
theorem mlL_117 : Cond.methodLink RL 117 yX13_fault ∈ LW := LW_of 1751 (by decide +kernel) (by decide +kernel)
theorem mlL_118 : Cond.methodLink RL 118 yL_count ∈ LW := LW_of 1018 (by decide +kernel) (by decide +kernel)
theorem mlL_120 : Cond.methodLink RL 120 yX13_count ∈ LW := LW_of 1759 (by decide +kernel) (by decide +kernel)
theorem mlL_121 : Cond.methodLink RL 121 yL_deed ∈ LW := LW_of 1042 (by decide +kernel) (by decide +kernel)
theorem mlL_124 : Cond.methodLink RL 124 yX13_deed ∈ LW := LW_of 1766 (by decide +kernel) (by decide +kernel)
theorem mlL_125 : Cond.methodLink RL 125 yL_brother ∈ LW := LW_of 1054 (by decide +kernel) (by decide +kernel)
theorem mlL_127 : Cond.methodLink RL 127 yX13_brother ∈ LW := LW_of 1778 (by decide +kernel) (by decide +kernel)
theorem mlL_128 : Cond.methodLink RL 128 yL_way ∈ LW := LW_of 1069 (by decide +kernel) (by decide +kernel)
theorem mlL_130 : Cond.methodLink RL 130 yX13_way ∈ LW := LW_of 1813 (by decide +kernel) (by decide +kernel)
theorem mlL_131 : Cond.methodLink RL 131 yL_friend ∈ LW := LW_of 1081 (by decide +kernel) (by decide +kernel)
theorem mlL_133 : Cond.methodLink RL 133 yX13_friend ∈ LW := LW_of 1817 (by decide +kernel) (by decide +kernel)
theorem mlL_134 : Cond.methodLink RL 134 yX12_years ∈ LW := LW_of 594 (by decide +kernel) (by decide +kernel)
theorem mlL_137 : Cond.methodLink RL 137 yX13_years ∈ LW := LW_of 1825 (by decide +kernel) (by decide +kernel)
theorem mlL_138 : Cond.methodLink RL 138 yL_change ∈ LW := LW_of 1094 (by decide +kernel) (by decide +kernel)
theorem mlL_141 : Cond.methodLink RL 141 yX13_change ∈ LW := LW_of 1868 (by decide +kernel) (by decide +kernel)
theorem mlL_142 : Cond.methodLink RL 142 yX12_term ∈ LW := LW_of 676 (by decide +kernel) (by decide +kernel)
theorem mlL_145 : Cond.methodLink RL 145 yX13_term ∈ LW := LW_of 1872 (by decide +kernel) (by decide +kernel)
theorem mlL_146 : Cond.methodLink RL 146 yX12_loan ∈ LW := LW_of 680 (by decide +kernel) (by decide +kernel)
theorem mlL_149 : Cond.methodLink RL 149 yX13_loan ∈ LW := LW_of 1876 (by decide +kernel) (by decide +kernel)
theorem mlL_150 : Cond.methodLink RL 150 yL_gift ∈ LW := LW_of 1101 (by decide +kernel) (by decide +kernel)
theorem mlL_152 : Cond.methodLink RL 152 yX13_gift ∈ LW := LW_of 1880 (by decide +kernel) (by decide +kernel)
theorem mlL_153 : Cond.methodLink RL 153 yX12_undo ∈ LW := LW_of 685 (by decide +kernel) (by decide +kernel)
theorem mlL_156 : Cond.methodLink RL 156 yX13_undo ∈ LW := LW_of 1755 (by decide +kernel) (by decide +kernel)
theorem mlL_157 : Cond.methodLink RL 157 yL_then ∈ LW := LW_of 1109 (by decide +kernel) (by decide +kernel)
theorem mlL_159 : Cond.methodLink RL 159 yX13_then ∈ LW := LW_of 1884 (by decide +kernel) (by decide +kernel)
theorem mlL_160 : Cond.methodLink RL 160 yL_stays ∈ LW := LW_of 1125 (by decide +kernel) (by decide +kernel)
theorem mlL_162 : Cond.methodLink RL 162 yX13_stays ∈ LW := LW_of 1892 (by decide +kernel) (by decide +kernel)
theorem mlL_163 : Cond.methodLink RL 163 yX12_fair ∈ LW := LW_of 697 (by decide +kernel) (by decide +kernel)
theorem mlL_166 : Cond.methodLink RL 166 yX13_fair ∈ LW := LW_of 1896 (by decide +kernel) (by decide +kernel)
theorem mlL_167 : Cond.methodLink RL 167 yX12_least ∈ LW := LW_of 709 (by decide +kernel) (by decide +kernel)
theorem mlL_170 : Cond.methodLink RL 170 yX13_least ∈ LW := LW_of 1904 (by decide +kernel) (by decide +kernel)
theorem mlL_171 : Cond.methodLink RL 171 yL_cost ∈ LW := LW_of 1132 (by decide +kernel) (by decide +kernel)
theorem mlL_173 : Cond.methodLink RL 173 yX13_cost ∈ LW := LW_of 1908 (by decide +kernel) (by decide +kernel)
theorem mlL_174 : Cond.methodLink RL 174 yL_plan ∈ LW := LW_of 1147 (by decide +kernel) (by decide +kernel)
theorem mlL_176 : Cond.methodLink RL 176 yX13_plan ∈ LW := LW_of 1912 (by decide +kernel) (by decide +kernel)
theorem mlL_177 : Cond.methodLink RL 177 yL_wins ∈ LW := LW_of 1172 (by decide +kernel) (by decide +kernel)
theorem mlL_179 : Cond.methodLink RL 179 yX13_wins ∈ LW := LW_of 1940 (by decide +kernel) (by decide +kernel)
theorem mlL_180 : Cond.methodLink RL 180 yL_assault ∈ LW := LW_of 1193 (by decide +kernel) (by decide +kernel)
theorem mlL_182 : Cond.methodLink RL 182 yX13_assault ∈ LW := LW_of 1948 (by decide +kernel) (by decide +kernel)
theorem mlL_183 : Cond.methodLink RL 183 yL_bought ∈ LW := LW_of 1212 (by decide +kernel) (by decide +kernel)
theorem mlL_185 : Cond.methodLink RL 185 yX13_bought ∈ LW := LW_of 1956 (by decide +kernel) (by decide +kernel)
theorem mlL_186 : Cond.methodLink RL 186 yL_odds ∈ LW := LW_of 1225 (by decide +kernel) (by decide +kernel)
theorem mlL_188 : Cond.methodLink RL 188 yX13_odds ∈ LW := LW_of 1967 (by decide +kernel) (by decide +kernel)
theorem mlL_189 : Cond.methodLink RL 189 yL_moved ∈ LW := LW_of 1236 (by decide +kernel) (by decide +kernel)
theorem mlL_191 : Cond.methodLink RL 191 yX13_moved ∈ LW := LW_of 1971 (by decide +kernel) (by decide +kernel)
theorem mlL_192 : Cond.methodLink RL 192 yL_parties ∈ LW := LW_of 1243 (by decide +kernel) (by decide +kernel)
theorem mlL_194 : Cond.methodLink RL 194 yX13_parties ∈ LW := LW_of 1975 (by decide +kernel) (by decide +kernel)
theorem mlL_195 : Cond.methodLink RL 195 yX12_see ∈ LW := LW_of 713 (by decide +kernel) (by decide +kernel)
theorem mlL_198 : Cond.methodLink RL 198 yX13_see ∈ LW := LW_of 1983 (by decide +kernel) (by decide +kernel)
theorem mlL_199 : Cond.methodLink RL 199 yX12_forget ∈ LW := LW_of 721 (by decide +kernel) (by decide +kernel)
theorem mlL_202 : Cond.methodLink RL 202 yX13_forget ∈ LW := LW_of 1987 (by decide +kernel) (by decide +kernel)
theorem mlL_203 : Cond.methodLink RL 203 yL_another ∈ LW := LW_of 1254 (by decide +kernel) (by decide +kernel)
theorem mlL_205 : Cond.methodLink RL 205 yX13_another ∈ LW := LW_of 1991 (by decide +kernel) (by decide +kernel)
theorem mlL_206 : Cond.methodLink RL 206 yL_next ∈ LW := LW_of 1276 (by decide +kernel) (by decide +kernel)
theorem mlL_208 : Cond.methodLink RL 208 yX13_next ∈ LW := LW_of 1999 (by decide +kernel) (by decide +kernel)
theorem mlL_209 : Cond.methodLink RL 209 yL_game ∈ LW := LW_of 1292 (by decide +kernel) (by decide +kernel)
theorem mlL_211 : Cond.methodLink RL 211 yX13_game ∈ LW := LW_of 2003 (by decide +kernel) (by decide +kernel)
theorem mlL_212 : Cond.methodLink RL 212 yL_cities ∈ LW := LW_of 1308 (by decide +kernel) (by decide +kernel)
theorem mlL_214 : Cond.methodLink RL 214 yX13_cities ∈ LW := LW_of 2011 (by decide +kernel) (by decide +kernel)
theorem mlL_215 : Cond.methodLink RL 215 yX12_ruin ∈ LW := LW_of 725 (by decide +kernel) (by decide +kernel)
theorem mlL_218 : Cond.methodLink RL 218 yX13_ruin ∈ LW := LW_of 2020 (by decide +kernel) (by decide +kernel)
theorem mlL_219 : Cond.methodLink RL 219 yL_highest ∈ LW := LW_of 1321 (by decide +kernel) (by decide +kernel)
theorem mlL_221 : Cond.methodLink RL 221 yX13_highest ∈ LW := LW_of 2024 (by decide +kernel) (by decide +kernel)
theorem mlL_222 : Cond.methodLink RL 222 yL_better ∈ LW := LW_of 1328 (by decide +kernel) (by decide +kernel)
theorem mlL_224 : Cond.methodLink RL 224 yX13_better ∈ LW := LW_of 2028 (by decide +kernel) (by decide +kernel)
theorem mlL_225 : Cond.methodLink RL 225 yL_guarded ∈ LW := LW_of 1338 (by decide +kernel) (by decide +kernel)
theorem mlL_227 : Cond.methodLink RL 227 yX13_guarded ∈ LW := LW_of 2032 (by decide +kernel) (by decide +kernel)
theorem mlL_228 : Cond.methodLink RL 228 yL_swap ∈ LW := LW_of 1345 (by decide +kernel) (by decide +kernel)
theorem mlL_230 : Cond.methodLink RL 230 yX13_swap ∈ LW := LW_of 2036 (by decide +kernel) (by decide +kernel)
theorem mlL_231 : Cond.methodLink RL 231 yX12_image ∈ LW := LW_of 729 (by decide +kernel) (by decide +kernel)
theorem mlL_234 : Cond.methodLink RL 234 yX13_image ∈ LW := LW_of 2048 (by decide +kernel) (by decide +kernel)
theorem mlL_235 : Cond.methodLink RL 235 yX12_restore ∈ LW := LW_of 743 (by decide +kernel) (by decide +kernel)
theorem mlL_239 : Cond.methodLink RL 239 yX13_restore ∈ LW := LW_of 2052 (by decide +kernel) (by decide +kernel)
theorem mlX13_1 : Cond.methodLink RX13 1 ⟨"java/lang/Object", "<init>", "()V"⟩ ∈ LW := LW_of 1361 (by decide +kernel) (by decide +kernel)
theorem mlX13_147 : Cond.methodLink RX13 147 yX13_lays ∈ LW := LW_of 1612 (by decide +kernel) (by decide +kernel)
theorem mlX13_157 : Cond.methodLink RX13 157 yX13_byteAt ∈ LW := LW_of 1628 (by decide +kernel) (by decide +kernel)
theorem mlX13_177 : Cond.methodLink RX13 177 yX13_isLetter ∈ LW := LW_of 1632 (by decide +kernel) (by decide +kernel)
theorem mlX13_181 : Cond.methodLink RX13 181 yX13_isDigit ∈ LW := LW_of 1635 (by decide +kernel) (by decide +kernel)
theorem mlX13_189 : Cond.methodLink RX13 189 yX13_spelled ∈ LW := LW_of 1653 (by decide +kernel) (by decide +kernel)
theorem mlX13_193 : Cond.methodLink RX13 193 yX13_letters ∈ LW := LW_of 1650 (by decide +kernel) (by decide +kernel)
theorem mlX13_200 : Cond.methodLink RX13 200 yX13_isGood ∈ LW := LW_of 1638 (by decide +kernel) (by decide +kernel)
theorem mlX13_204 : Cond.methodLink RX13 204 yX13_goes ∈ LW := LW_of 1624 (by decide +kernel) (by decide +kernel)
theorem mlX13_207 : Cond.methodLink RX13 207 yX13_wrong ∈ LW := LW_of 1661 (by decide +kernel) (by decide +kernel)
theorem mlX13_210 : Cond.methodLink RX13 210 yX13_isSign ∈ LW := LW_of 1677 (by decide +kernel) (by decide +kernel)
theorem mlX13_213 : Cond.methodLink RX13 213 yX13_number ∈ LW := LW_of 1665 (by decide +kernel) (by decide +kernel)
theorem mlX13_223 : Cond.methodLink RX13 223 yX13_isOpen ∈ LW := LW_of 1729 (by decide +kernel) (by decide +kernel)
theorem mlX13_226 : Cond.methodLink RX13 226 yX13_strength ∈ LW := LW_of 1732 (by decide +kernel) (by decide +kernel)
theorem mlX13_229 : Cond.methodLink RX13 229 yX13_puts ∈ LW := LW_of 1721 (by decide +kernel) (by decide +kernel)
theorem mlX13_232 : Cond.methodLink RX13 232 yX13_knownWord ∈ LW := LW_of 1646 (by decide +kernel) (by decide +kernel)
theorem mlX13_245 : Cond.methodLink RX13 245 yX13_waitsFor ∈ LW := LW_of 1713 (by decide +kernel) (by decide +kernel)
theorem mlX13_248 : Cond.methodLink RX13 248 yX13_deeper ∈ LW := LW_of 1705 (by decide +kernel) (by decide +kernel)
theorem mlX13_251 : Cond.methodLink RX13 251 yX13_part ∈ LW := LW_of 1717 (by decide +kernel) (by decide +kernel)
theorem mlX13_254 : Cond.methodLink RX13 254 yX13_drops ∈ LW := LW_of 1725 (by decide +kernel) (by decide +kernel)
theorem mlX13_257 : Cond.methodLink RX13 257 yX13_operand ∈ LW := LW_of 1709 (by decide +kernel) (by decide +kernel)
theorem mlX13_261 : Cond.methodLink RX13 261 yX13_isOpened ∈ LW := LW_of 1735 (by decide +kernel) (by decide +kernel)
theorem mlX13_264 : Cond.methodLink RX13 264 yX13_closes ∈ LW := LW_of 1739 (by decide +kernel) (by decide +kernel)
theorem mlX13_274 : Cond.methodLink RX13 274 yX13_signed ∈ LW := LW_of 1673 (by decide +kernel) (by decide +kernel)
theorem mlX13_277 : Cond.methodLink RX13 277 yX13_among ∈ LW := LW_of 1685 (by decide +kernel) (by decide +kernel)
theorem mlX13_292 : Cond.methodLink RX13 292 yX13_readsCity ∈ LW := LW_of 1657 (by decide +kernel) (by decide +kernel)
theorem mlX13_295 : Cond.methodLink RX13 295 yX13_readsDeed ∈ LW := LW_of 1669 (by decide +kernel) (by decide +kernel)
theorem mlX13_298 : Cond.methodLink RX13 298 yX13_readsWay ∈ LW := LW_of 1681 (by decide +kernel) (by decide +kernel)
theorem mlX13_301 : Cond.methodLink RX13 301 yX13_readsHarvests ∈ LW := LW_of 1689 (by decide +kernel) (by decide +kernel)
theorem mlX13_307 : Cond.methodLink RX13 307 yX13_readsFriend ∈ LW := LW_of 1693 (by decide +kernel) (by decide +kernel)
theorem mlX13_310 : Cond.methodLink RX13 310 yX13_readsFighter ∈ LW := LW_of 1697 (by decide +kernel) (by decide +kernel)
theorem mlX13_316 : Cond.methodLink RX13 316 yX13_expression ∈ LW := LW_of 1701 (by decide +kernel) (by decide +kernel)
theorem mlX13_323 : Cond.methodLink RX13 323 yX13_need ∈ LW := LW_of 1743 (by decide +kernel) (by decide +kernel)
theorem mlX13_326 : Cond.methodLink RX13 326 yX13_right ∈ LW := LW_of 1620 (by decide +kernel) (by decide +kernel)
theorem mlX13_330 : Cond.methodLink RX13 330 yX13_line ∈ LW := LW_of 1642 (by decide +kernel) (by decide +kernel)
theorem mlX13_348 : Cond.methodLink RX13 348 yX13_copies ∈ LW := LW_of 1747 (by decide +kernel) (by decide +kernel)
theorem mlX13_361 : Cond.methodLink RX13 361 yX13_works ∈ LW := LW_of 1802 (by decide +kernel) (by decide +kernel)
theorem mlX13_365 : Cond.methodLink RX13 365 yX13_reckons ∈ LW := LW_of 1798 (by decide +kernel) (by decide +kernel)
theorem mlX13_368 : Cond.methodLink RX13 368 yX13_likeOf ∈ LW := LW_of 1794 (by decide +kernel) (by decide +kernel)
theorem mlX13_372 : Cond.methodLink RX13 372 yX13_follows ∈ LW := LW_of 1790 (by decide +kernel) (by decide +kernel)
theorem mlX13_375 : Cond.methodLink RX13 375 yX13_followers ∈ LW := LW_of 1786 (by decide +kernel) (by decide +kernel)
theorem mlX13_378 : Cond.methodLink RX13 378 yX13_menOf ∈ LW := LW_of 1805 (by decide +kernel) (by decide +kernel)
theorem mlX13_381 : Cond.methodLink RX13 381 yX13_kept ∈ LW := LW_of 1853 (by decide +kernel) (by decide +kernel)
theorem mlX13_384 : Cond.methodLink RX13 384 yX13_isStaying ∈ LW := LW_of 1864 (by decide +kernel) (by decide +kernel)
theorem mlX13_387 : Cond.methodLink RX13 387 yX13_harvestOf ∈ LW := LW_of 1845 (by decide +kernel) (by decide +kernel)
theorem mlX13_390 : Cond.methodLink RX13 390 yX13_gathers ∈ LW := LW_of 1849 (by decide +kernel) (by decide +kernel)
theorem mlX13_393 : Cond.methodLink RX13 393 yX13_wayOf ∈ LW := LW_of 1809 (by decide +kernel) (by decide +kernel)
theorem mlX13_396 : Cond.methodLink RX13 396 yX13_does ∈ LW := LW_of 1856 (by decide +kernel) (by decide +kernel)
theorem mlX13_400 : Cond.methodLink RX13 400 yX13_ends ∈ LW := LW_of 1860 (by decide +kernel) (by decide +kernel)
theorem mlX13_404 : Cond.methodLink RX13 404 yX13_goesBy ∈ LW := LW_of 1841 (by decide +kernel) (by decide +kernel)
theorem mlX13_407 : Cond.methodLink RX13 407 yX13_within ∈ LW := LW_of 1763 (by decide +kernel) (by decide +kernel)
theorem mlX13_411 : Cond.methodLink RX13 411 yX13_isDeed ∈ LW := LW_of 1770 (by decide +kernel) (by decide +kernel)
theorem mlX13_414 : Cond.methodLink RX13 414 yX13_isWhat ∈ LW := LW_of 1774 (by decide +kernel) (by decide +kernel)
theorem mlX13_417 : Cond.methodLink RX13 417 yX13_isBrother ∈ LW := LW_of 1782 (by decide +kernel) (by decide +kernel)
theorem mlX13_420 : Cond.methodLink RX13 420 yX13_isFriend ∈ LW := LW_of 1821 (by decide +kernel) (by decide +kernel)
theorem mlX13_423 : Cond.methodLink RX13 423 yX13_refuses ∈ LW := LW_of 1829 (by decide +kernel) (by decide +kernel)
theorem mlX13_426 : Cond.methodLink RX13 426 yX13_keeps ∈ LW := LW_of 1833 (by decide +kernel) (by decide +kernel)
theorem mlX13_429 : Cond.methodLink RX13 429 yX13_goesYears ∈ LW := LW_of 1837 (by decide +kernel) (by decide +kernel)
theorem mlX13_432 : Cond.methodLink RX13 432 yX13_lays0 ∈ LW := LW_of 1888 (by decide +kernel) (by decide +kernel)
theorem mlX13_435 : Cond.methodLink RX13 435 yX13_goesByTerm ∈ LW := LW_of 1900 (by decide +kernel) (by decide +kernel)
theorem mlX13_438 : Cond.methodLink RX13 438 yX13_triesDeed ∈ LW := LW_of 1920 (by decide +kernel) (by decide +kernel)
theorem mlX13_441 : Cond.methodLink RX13 441 yX13_ahead0 ∈ LW := LW_of 1924 (by decide +kernel) (by decide +kernel)
theorem mlX13_447 : Cond.methodLink RX13 447 yX13_planOne ∈ LW := LW_of 1916 (by decide +kernel) (by decide +kernel)
theorem mlX13_450 : Cond.methodLink RX13 450 yX13_planTwo ∈ LW := LW_of 1928 (by decide +kernel) (by decide +kernel)
theorem mlX13_453 : Cond.methodLink RX13 453 yX13_planThree ∈ LW := LW_of 1932 (by decide +kernel) (by decide +kernel)
theorem mlX13_456 : Cond.methodLink RX13 456 yX13_planFour ∈ LW := LW_of 1936 (by decide +kernel) (by decide +kernel)
theorem mlX13_459 : Cond.methodLink RX13 459 yX13_isWin ∈ LW := LW_of 1944 (by decide +kernel) (by decide +kernel)
theorem mlX13_462 : Cond.methodLink RX13 462 yX13_mostOf ∈ LW := LW_of 1952 (by decide +kernel) (by decide +kernel)
theorem mlX13_465 : Cond.methodLink RX13 465 yX13_bits ∈ LW := LW_of 1960 (by decide +kernel) (by decide +kernel)
theorem mlX13_468 : Cond.methodLink RX13 468 yX13_isBought ∈ LW := LW_of 1963 (by decide +kernel) (by decide +kernel)
theorem mlX13_471 : Cond.methodLink RX13 471 yX13_isResting ∈ LW := LW_of 1979 (by decide +kernel) (by decide +kernel)
theorem mlX13_474 : Cond.methodLink RX13 474 yX13_isSeen ∈ LW := LW_of 1995 (by decide +kernel) (by decide +kernel)
theorem mlX13_477 : Cond.methodLink RX13 477 yX13_gains ∈ LW := LW_of 2007 (by decide +kernel) (by decide +kernel)
theorem mlX13_484 : Cond.methodLink RX13 484 yX13_draw ∈ LW := LW_of 2015 (by decide +kernel) (by decide +kernel)
theorem mlX13_487 : Cond.methodLink RX13 487 yX13_gloryIn ∈ LW := LW_of 2040 (by decide +kernel) (by decide +kernel)
theorem mlX13_490 : Cond.methodLink RX13 490 yX13_swaps ∈ LW := LW_of 2044 (by decide +kernel) (by decide +kernel)
theorem mlJ0_335 : Cond.methodLink RJ0 335 yJ0_coder_7d493 ∈ LW := LW_of 857 (by decide +kernel) (by decide +kernel)
theorem mlJ0_492 : Cond.methodLink RJ0 492 yJ0_isLatin1_aae02 ∈ LW := LW_of 867 (by decide +kernel) (by decide +kernel)
theorem mlJ0_495 : Cond.methodLink RJ0 495 yJ1_charAt_3b067 ∈ LW := LW_of 871 (by decide +kernel) (by decide +kernel)
theorem mlJ0_498 : Cond.methodLink RJ0 498 yJ2_charAt_3b067 ∈ LW := LW_of 882 (by decide +kernel) (by decide +kernel)
theorem mlJ0_1059 : Cond.methodLink RJ0 1059 yJ3_checkIndex_8e157 ∈ LW := LW_of 879 (by decide +kernel) (by decide +kernel)
theorem mlJ1_9 : Cond.methodLink RJ1 9 yJ0_checkIndex_df160 ∈ LW := LW_of 874 (by decide +kernel) (by decide +kernel)
theorem mlJ2_48 : Cond.methodLink RJ2 48 yJ2_length_9d52b ∈ LW := LW_of 888 (by decide +kernel) (by decide +kernel)
theorem mlJ2_67 : Cond.methodLink RJ2 67 yJ2_checkIndex_2214a ∈ LW := LW_of 885 (by decide +kernel) (by decide +kernel)
theorem mlJ2_71 : Cond.methodLink RJ2 71 yJ2_getChar_3b067 ∈ LW := LW_of 892 (by decide +kernel) (by decide +kernel)
theorem mlJ2_414 : Cond.methodLink RJ2 414 yJ0_checkIndex_df160 ∈ LW := LW_of 891 (by decide +kernel) (by decide +kernel)
theorem coX12_362 : Cond.constant RX12 362 (1103515245) ∈ LW := LW_of 1318 (by decide +kernel) (by decide +kernel)
theorem coX13_187 : Cond.constantLong RX13 187 (96) ∈ LW := LW_of 1656 (by decide +kernel) (by decide +kernel)
theorem coX13_483 : Cond.constant RX13 483 (1103515245) ∈ LW := LW_of 2019 (by decide +kernel) (by decide +kernel)
theorem coJ6_265 : Cond.constant RJ6 265 (1431655765) ∈ LW := LW_of 1222 (by decide +kernel) (by decide +kernel)
theorem coJ6_266 : Cond.constant RJ6 266 (858993459) ∈ LW := LW_of 1223 (by decide +kernel) (by decide +kernel)
theorem coJ6_267 : Cond.constant RJ6 267 (252645135) ∈ LW := LW_of 1224 (by decide +kernel) (by decide +kernel)
theorem clX12_24 : Cond.classLink RX12 24 "TurnBrothers$Parser" ∈ LW := LW_of 146 (by decide +kernel) (by decide +kernel)
theorem clX12_33 : Cond.classLink RX12 33 "TurnBrothers$Reign" ∈ LW := LW_of 437 (by decide +kernel) (by decide +kernel)
theorem clX12_40 : Cond.classLink RX12 40 "TurnBrothers$Ahead" ∈ LW := LW_of 460 (by decide +kernel) (by decide +kernel)
theorem clX12_49 : Cond.classLink RX12 49 "TurnBrothers$City" ∈ LW := LW_of 500 (by decide +kernel) (by decide +kernel)
theorem clX12_59 : Cond.classLink RX12 59 "TurnBrothers$Acts" ∈ LW := LW_of 502 (by decide +kernel) (by decide +kernel)
theorem clX12_66 : Cond.classLink RX12 66 "TurnBrothers$Seen" ∈ LW := LW_of 516 (by decide +kernel) (by decide +kernel)
theorem clX12_93 : Cond.classLink RX12 93 "java/lang/IllegalArgumentException" ∈ LW := LW_of 756 (by decide +kernel) (by decide +kernel)
theorem clX12_168 : Cond.classLink RX12 168 "java/util/NoSuchElementException" ∈ LW := LW_of 1026 (by decide +kernel) (by decide +kernel)
theorem clX2_9 : Cond.classLink RX2 9 "TurnBrothers$City" ∈ LW := LW_of 466 (by decide +kernel) (by decide +kernel)
theorem clX5_43 : Cond.classLink RX5 43 "TurnBrothers$Fighters" ∈ LW := LW_of 158 (by decide +kernel) (by decide +kernel)
theorem clX5_53 : Cond.classLink RX5 53 "TurnBrothers$Rule" ∈ LW := LW_of 183 (by decide +kernel) (by decide +kernel)
theorem clX6_9 : Cond.classLink RX6 9 "TurnBrothers$Land" ∈ LW := LW_of 152 (by decide +kernel) (by decide +kernel)
theorem clX6_18 : Cond.classLink RX6 18 "TurnBrothers$City" ∈ LW := LW_of 287 (by decide +kernel) (by decide +kernel)
theorem clX6_39 : Cond.classLink RX6 39 "TurnBrothers$Tokens" ∈ LW := LW_of 375 (by decide +kernel) (by decide +kernel)
theorem clX7_9 : Cond.classLink RX7 9 "TurnBrothers$Land" ∈ LW := LW_of 443 (by decide +kernel) (by decide +kernel)
theorem clL_8 : Cond.classLink RL 8 "TurnBrothers" ∈ LW := LW_of 138 (by decide +kernel) (by decide +kernel)
theorem clL_13 : Cond.classLink RL 13 "java/lang/IllegalArgumentException" ∈ LW := LW_of 751 (by decide +kernel) (by decide +kernel)
theorem clL_18 : Cond.classLink RL 18 "java/util/NoSuchElementException" ∈ LW := LW_of 1021 (by decide +kernel) (by decide +kernel)
theorem clL_96 : Cond.classLink RL 96 "TurnBrothersModel" ∈ LW := LW_of 1356 (by decide +kernel) (by decide +kernel)
theorem ceX12_init : CE yX12_init cX12_init 1 none 0 := ⟨LW_of 142 (by decide +kernel) (by decide +kernel), LW_of 111 (by decide +kernel) (by decide +kernel), by decide +kernel, by decide +kernel, by decide +kernel⟩
theorem imX12_init : Cond.instanceMethod yX12_init ∈ LW := LW_of 141 (by decide +kernel) (by decide +kernel)
theorem ceX6_init : CE yX6_init cX6_init 2 none 1 := ⟨LW_of 150 (by decide +kernel) (by decide +kernel), LW_of 112 (by decide +kernel) (by decide +kernel), by decide +kernel, by decide +kernel, by decide +kernel⟩
theorem imX6_init : Cond.instanceMethod yX6_init ∈ LW := LW_of 149 (by decide +kernel) (by decide +kernel)
theorem ceX5_init : CE yX5_init cX5_init 2 none 0 := ⟨LW_of 156 (by decide +kernel) (by decide +kernel), LW_of 113 (by decide +kernel) (by decide +kernel), by decide +kernel, by decide +kernel, by decide +kernel⟩
theorem imX5_init : Cond.instanceMethod yX5_init ∈ LW := LW_of 155 (by decide +kernel) (by decide +kernel)
theorem ceX4_init : CE yX4_init cX4_init 1 none 0 := ⟨LW_of 162 (by decide +kernel) (by decide +kernel), LW_of 114 (by decide +kernel) (by decide +kernel), by decide +kernel, by decide +kernel, by decide +kernel⟩
theorem imX4_init : Cond.instanceMethod yX4_init ∈ LW := LW_of 161 (by decide +kernel) (by decide +kernel)
theorem ceX8_init : CE yX8_init cX8_init 2 none 1 := ⟨LW_of 187 (by decide +kernel) (by decide +kernel), LW_of 115 (by decide +kernel) (by decide +kernel), by decide +kernel, by decide +kernel, by decide +kernel⟩
theorem imX8_init : Cond.instanceMethod yX8_init ∈ LW := LW_of 186 (by decide +kernel) (by decide +kernel)
theorem ceX3_init : CE yX3_init cX3_init 1 none 0 := ⟨LW_of 291 (by decide +kernel) (by decide +kernel), LW_of 116 (by decide +kernel) (by decide +kernel), by decide +kernel, by decide +kernel, by decide +kernel⟩
theorem imX3_init : Cond.instanceMethod yX3_init ∈ LW := LW_of 290 (by decide +kernel) (by decide +kernel)
theorem ceX3_found : CE yX3_found cX3_found 1 none 0 := ⟨LW_of 296 (by decide +kernel) (by decide +kernel), LW_of 116 (by decide +kernel) (by decide +kernel), by decide +kernel, by decide +kernel, by decide +kernel⟩
theorem imX3_found : Cond.instanceMethod yX3_found ∈ LW := LW_of 294 (by decide +kernel) (by decide +kernel)
theorem seX3_found : ∀ x ∈ [Cond.selects (yX3_found).cls yX3_found yX3_found], x ∈ lw_tbl := fun x hx => by rw [List.mem_singleton.mp hx]; exact List.mem_of_getElem? (i := 295) (by decide +kernel)
theorem ceX3_clearRow : CE yX3_clearRow cX3_clearRow 2 none 1 := ⟨LW_of 299 (by decide +kernel) (by decide +kernel), LW_of 116 (by decide +kernel) (by decide +kernel), by decide +kernel, by decide +kernel, by decide +kernel⟩
theorem smX3_clearRow : Cond.static yX3_clearRow ∈ LW := LW_of 298 (by decide +kernel) (by decide +kernel)
theorem ceX10_init : CE yX10_init cX10_init 2 none 1 := ⟨LW_of 379 (by decide +kernel) (by decide +kernel), LW_of 117 (by decide +kernel) (by decide +kernel), by decide +kernel, by decide +kernel, by decide +kernel⟩
theorem imX10_init : Cond.instanceMethod yX10_init ∈ LW := LW_of 378 (by decide +kernel) (by decide +kernel)
theorem ceX7_init : CE yX7_init cX7_init 1 none 0 := ⟨LW_of 441 (by decide +kernel) (by decide +kernel), LW_of 120 (by decide +kernel) (by decide +kernel), by decide +kernel, by decide +kernel, by decide +kernel⟩
theorem imX7_init : Cond.instanceMethod yX7_init ∈ LW := LW_of 440 (by decide +kernel) (by decide +kernel)
theorem ceX2_init : CE yX2_init cX2_init 3 none 1 := ⟨LW_of 464 (by decide +kernel) (by decide +kernel), LW_of 121 (by decide +kernel) (by decide +kernel), by decide +kernel, by decide +kernel, by decide +kernel⟩
theorem imX2_init : Cond.instanceMethod yX2_init ∈ LW := LW_of 463 (by decide +kernel) (by decide +kernel)
theorem ceX1_init : CE yX1_init cX1_init 1 none 0 := ⟨LW_of 506 (by decide +kernel) (by decide +kernel), LW_of 122 (by decide +kernel) (by decide +kernel), by decide +kernel, by decide +kernel, by decide +kernel⟩
theorem imX1_init : Cond.instanceMethod yX1_init ∈ LW := LW_of 505 (by decide +kernel) (by decide +kernel)
theorem ceX9_init : CE yX9_init cX9_init 1 none 0 := ⟨LW_of 520 (by decide +kernel) (by decide +kernel), LW_of 123 (by decide +kernel) (by decide +kernel), by decide +kernel, by decide +kernel, by decide +kernel⟩
theorem imX9_init : Cond.instanceMethod yX9_init ∈ LW := LW_of 519 (by decide +kernel) (by decide +kernel)
theorem ceX12_feed : CE yX12_feed cX12_feed 6 (some .int) 5 := ⟨LW_of 585 (by decide +kernel) (by decide +kernel), LW_of 111 (by decide +kernel) (by decide +kernel), by decide +kernel, by decide +kernel, by decide +kernel⟩
theorem imX12_feed : Cond.instanceMethod yX12_feed ∈ LW := LW_of 583 (by decide +kernel) (by decide +kernel)
theorem seX12_feed : ∀ x ∈ [Cond.selects (yX12_feed).cls yX12_feed yX12_feed], x ∈ lw_tbl := fun x hx => by rw [List.mem_singleton.mp hx]; exact List.mem_of_getElem? (i := 584) (by decide +kernel)
theorem ceX12_tapeNumber : CE yX12_tapeNumber cX12_tapeNumber 3 none 1 := ⟨LW_of 589 (by decide +kernel) (by decide +kernel), LW_of 111 (by decide +kernel) (by decide +kernel), by decide +kernel, by decide +kernel, by decide +kernel⟩
theorem imX12_tapeNumber : Cond.instanceMethod yX12_tapeNumber ∈ LW := LW_of 588 (by decide +kernel) (by decide +kernel)
theorem seX12_tapeNumber : ∀ x ∈ [Cond.selects (yX12_tapeNumber).cls yX12_tapeNumber yX12_tapeNumber], x ∈ lw_tbl := fun x hx => by rw [List.mem_singleton.mp hx]; exact List.mem_of_getElem? (i := 0) (by decide +kernel)
theorem ceX12_fault : CE yX12_fault cX12_fault 1 (some .int) 0 := ⟨LW_of 593 (by decide +kernel) (by decide +kernel), LW_of 111 (by decide +kernel) (by decide +kernel), by decide +kernel, by decide +kernel, by decide +kernel⟩
theorem imX12_fault : Cond.instanceMethod yX12_fault ∈ LW := LW_of 591 (by decide +kernel) (by decide +kernel)
theorem seX12_fault : ∀ x ∈ [Cond.selects (yX12_fault).cls yX12_fault yX12_fault], x ∈ lw_tbl := fun x hx => by rw [List.mem_singleton.mp hx]; exact List.mem_of_getElem? (i := 592) (by decide +kernel)
theorem ceX12_years : CE yX12_years cX12_years 2 (some .int) 1 := ⟨LW_of 597 (by decide +kernel) (by decide +kernel), LW_of 111 (by decide +kernel) (by decide +kernel), by decide +kernel, by decide +kernel, by decide +kernel⟩
theorem imX12_years : Cond.instanceMethod yX12_years ∈ LW := LW_of 595 (by decide +kernel) (by decide +kernel)
theorem seX12_years : ∀ x ∈ [Cond.selects (yX12_years).cls yX12_years yX12_years], x ∈ lw_tbl := fun x hx => by rw [List.mem_singleton.mp hx]; exact List.mem_of_getElem? (i := 596) (by decide +kernel)
theorem ceX12_refuse : CE yX12_refuse cX12_refuse 2 (some .int) 1 := ⟨LW_of 601 (by decide +kernel) (by decide +kernel), LW_of 111 (by decide +kernel) (by decide +kernel), by decide +kernel, by decide +kernel, by decide +kernel⟩
theorem imX12_refuse : Cond.instanceMethod yX12_refuse ∈ LW := LW_of 600 (by decide +kernel) (by decide +kernel)
theorem seX12_refuse : ∀ x ∈ [Cond.selects (yX12_refuse).cls yX12_refuse yX12_refuse], x ∈ lw_tbl := fun x hx => by rw [List.mem_singleton.mp hx]; exact List.mem_of_getElem? (i := 1) (by decide +kernel)
theorem ceX1_keep : CE yX1_keep cX1_keep 2 none 1 := ⟨LW_of 605 (by decide +kernel) (by decide +kernel), LW_of 122 (by decide +kernel) (by decide +kernel), by decide +kernel, by decide +kernel, by decide +kernel⟩
theorem imX1_keep : Cond.instanceMethod yX1_keep ∈ LW := LW_of 603 (by decide +kernel) (by decide +kernel)
theorem seX1_keep : ∀ x ∈ [Cond.selects (yX1_keep).cls yX1_keep yX1_keep], x ∈ lw_tbl := fun x hx => by rw [List.mem_singleton.mp hx]; exact List.mem_of_getElem? (i := 604) (by decide +kernel)
theorem ceX3_write : CE yX3_write cX3_write 3 none 2 := ⟨LW_of 612 (by decide +kernel) (by decide +kernel), LW_of 116 (by decide +kernel) (by decide +kernel), by decide +kernel, by decide +kernel, by decide +kernel⟩
theorem imX3_write : Cond.instanceMethod yX3_write ∈ LW := LW_of 610 (by decide +kernel) (by decide +kernel)
theorem seX3_write : ∀ x ∈ [Cond.selects (yX3_write).cls yX3_write yX3_write], x ∈ lw_tbl := fun x hx => by rw [List.mem_singleton.mp hx]; exact List.mem_of_getElem? (i := 611) (by decide +kernel)
theorem ceX7_passMany : CE yX7_passMany cX7_passMany 4 none 2 := ⟨LW_of 617 (by decide +kernel) (by decide +kernel), LW_of 120 (by decide +kernel) (by decide +kernel), by decide +kernel, by decide +kernel, by decide +kernel⟩
theorem imX7_passMany : Cond.instanceMethod yX7_passMany ∈ LW := LW_of 615 (by decide +kernel) (by decide +kernel)
theorem seX7_passMany : ∀ x ∈ [Cond.selects (yX7_passMany).cls yX7_passMany yX7_passMany], x ∈ lw_tbl := fun x hx => by rw [List.mem_singleton.mp hx]; exact List.mem_of_getElem? (i := 616) (by decide +kernel)
theorem ceX7_harvestOf : CE yX7_harvestOf cX7_harvestOf 2 (some .int) 1 := ⟨LW_of 621 (by decide +kernel) (by decide +kernel), LW_of 120 (by decide +kernel) (by decide +kernel), by decide +kernel, by decide +kernel, by decide +kernel⟩
theorem imX7_harvestOf : Cond.instanceMethod yX7_harvestOf ∈ LW := LW_of 619 (by decide +kernel) (by decide +kernel)
theorem seX7_harvestOf : ∀ x ∈ [Cond.selects (yX7_harvestOf).cls yX7_harvestOf yX7_harvestOf], x ∈ lw_tbl := fun x hx => by rw [List.mem_singleton.mp hx]; exact List.mem_of_getElem? (i := 620) (by decide +kernel)
theorem ceX7_wayDeed : CE yX7_wayDeed cX7_wayDeed 4 (some .int) 2 := ⟨LW_of 625 (by decide +kernel) (by decide +kernel), LW_of 120 (by decide +kernel) (by decide +kernel), by decide +kernel, by decide +kernel, by decide +kernel⟩
theorem imX7_wayDeed : Cond.instanceMethod yX7_wayDeed ∈ LW := LW_of 623 (by decide +kernel) (by decide +kernel)
theorem seX7_wayDeed : ∀ x ∈ [Cond.selects (yX7_wayDeed).cls yX7_wayDeed yX7_wayDeed], x ∈ lw_tbl := fun x hx => by rw [List.mem_singleton.mp hx]; exact List.mem_of_getElem? (i := 624) (by decide +kernel)
theorem ceX7_live : CE yX7_live cX7_live 5 (some .boolean) 3 := ⟨LW_of 629 (by decide +kernel) (by decide +kernel), LW_of 120 (by decide +kernel) (by decide +kernel), by decide +kernel, by decide +kernel, by decide +kernel⟩
theorem imX7_live : Cond.instanceMethod yX7_live ∈ LW := LW_of 627 (by decide +kernel) (by decide +kernel)
theorem seX7_live : ∀ x ∈ [Cond.selects (yX7_live).cls yX7_live yX7_live], x ∈ lw_tbl := fun x hx => by rw [List.mem_singleton.mp hx]; exact List.mem_of_getElem? (i := 628) (by decide +kernel)
theorem ceX7_reap : CE yX7_reap cX7_reap 3 none 2 := ⟨LW_of 633 (by decide +kernel) (by decide +kernel), LW_of 120 (by decide +kernel) (by decide +kernel), by decide +kernel, by decide +kernel, by decide +kernel⟩
theorem imX7_reap : Cond.instanceMethod yX7_reap ∈ LW := LW_of 631 (by decide +kernel) (by decide +kernel)
theorem seX7_reap : ∀ x ∈ [Cond.selects (yX7_reap).cls yX7_reap yX7_reap], x ∈ lw_tbl := fun x hx => by rw [List.mem_singleton.mp hx]; exact List.mem_of_getElem? (i := 632) (by decide +kernel)
theorem ceJ9_min_7cf53 : CE yJ9_min_7cf53 cJ9_min_7cf53 2 (some .int) 2 := ⟨LW_of 636 (by decide +kernel) (by decide +kernel), LW_of 129 (by decide +kernel) (by decide +kernel), by decide +kernel, by decide +kernel, by decide +kernel⟩
theorem smJ9_min_7cf53 : Cond.static yJ9_min_7cf53 ∈ LW := LW_of 635 (by decide +kernel) (by decide +kernel)
theorem ceX7_perform : CE yX7_perform cX7_perform 3 (some .boolean) 2 := ⟨LW_of 640 (by decide +kernel) (by decide +kernel), LW_of 120 (by decide +kernel) (by decide +kernel), by decide +kernel, by decide +kernel, by decide +kernel⟩
theorem imX7_perform : Cond.instanceMethod yX7_perform ∈ LW := LW_of 638 (by decide +kernel) (by decide +kernel)
theorem seX7_perform : ∀ x ∈ [Cond.selects (yX7_perform).cls yX7_perform yX7_perform], x ∈ lw_tbl := fun x hx => by rw [List.mem_singleton.mp hx]; exact List.mem_of_getElem? (i := 639) (by decide +kernel)
theorem ceJ9_max_7cf53 : CE yJ9_max_7cf53 cJ9_max_7cf53 2 (some .int) 2 := ⟨LW_of 643 (by decide +kernel) (by decide +kernel), LW_of 129 (by decide +kernel) (by decide +kernel), by decide +kernel, by decide +kernel, by decide +kernel⟩
theorem smJ9_max_7cf53 : Cond.static yJ9_max_7cf53 ∈ LW := LW_of 642 (by decide +kernel) (by decide +kernel)
theorem ceX7_age : CE yX7_age cX7_age 2 none 1 := ⟨LW_of 647 (by decide +kernel) (by decide +kernel), LW_of 120 (by decide +kernel) (by decide +kernel), by decide +kernel, by decide +kernel, by decide +kernel⟩
theorem imX7_age : Cond.instanceMethod yX7_age ∈ LW := LW_of 645 (by decide +kernel) (by decide +kernel)
theorem seX7_age : ∀ x ∈ [Cond.selects (yX7_age).cls yX7_age yX7_age], x ∈ lw_tbl := fun x hx => by rw [List.mem_singleton.mp hx]; exact List.mem_of_getElem? (i := 646) (by decide +kernel)
theorem ceX7_turn : CE yX7_turn cX7_turn 2 none 1 := ⟨LW_of 651 (by decide +kernel) (by decide +kernel), LW_of 120 (by decide +kernel) (by decide +kernel), by decide +kernel, by decide +kernel, by decide +kernel⟩
theorem imX7_turn : Cond.instanceMethod yX7_turn ∈ LW := LW_of 649 (by decide +kernel) (by decide +kernel)
theorem seX7_turn : ∀ x ∈ [Cond.selects (yX7_turn).cls yX7_turn yX7_turn], x ∈ lw_tbl := fun x hx => by rw [List.mem_singleton.mp hx]; exact List.mem_of_getElem? (i := 650) (by decide +kernel)
theorem ceX8_isTold : CE yX8_isTold cX8_isTold 1 (some .boolean) 0 := ⟨LW_of 655 (by decide +kernel) (by decide +kernel), LW_of 115 (by decide +kernel) (by decide +kernel), by decide +kernel, by decide +kernel, by decide +kernel⟩
theorem imX8_isTold : Cond.instanceMethod yX8_isTold ∈ LW := LW_of 653 (by decide +kernel) (by decide +kernel)
theorem seX8_isTold : ∀ x ∈ [Cond.selects (yX8_isTold).cls yX8_isTold yX8_isTold], x ∈ lw_tbl := fun x hx => by rw [List.mem_singleton.mp hx]; exact List.mem_of_getElem? (i := 654) (by decide +kernel)
theorem ceX7_followers : CE yX7_followers cX7_followers 6 (some .int) 2 := ⟨LW_of 659 (by decide +kernel) (by decide +kernel), LW_of 120 (by decide +kernel) (by decide +kernel), by decide +kernel, by decide +kernel, by decide +kernel⟩
theorem imX7_followers : Cond.instanceMethod yX7_followers ∈ LW := LW_of 657 (by decide +kernel) (by decide +kernel)
theorem seX7_followers : ∀ x ∈ [Cond.selects (yX7_followers).cls yX7_followers yX7_followers], x ∈ lw_tbl := fun x hx => by rw [List.mem_singleton.mp hx]; exact List.mem_of_getElem? (i := 658) (by decide +kernel)
theorem ceX7_liking : CE yX7_liking cX7_liking 4 (some .int) 3 := ⟨LW_of 663 (by decide +kernel) (by decide +kernel), LW_of 120 (by decide +kernel) (by decide +kernel), by decide +kernel, by decide +kernel, by decide +kernel⟩
theorem imX7_liking : Cond.instanceMethod yX7_liking ∈ LW := LW_of 661 (by decide +kernel) (by decide +kernel)
theorem seX7_liking : ∀ x ∈ [Cond.selects (yX7_liking).cls yX7_liking yX7_liking], x ∈ lw_tbl := fun x hx => by rw [List.mem_singleton.mp hx]; exact List.mem_of_getElem? (i := 662) (by decide +kernel)
theorem ceX8_evaluate : CE yX8_evaluate cX8_evaluate 9 (some .int) 2 := ⟨LW_of 667 (by decide +kernel) (by decide +kernel), LW_of 115 (by decide +kernel) (by decide +kernel), by decide +kernel, by decide +kernel, by decide +kernel⟩
theorem imX8_evaluate : Cond.instanceMethod yX8_evaluate ∈ LW := LW_of 665 (by decide +kernel) (by decide +kernel)
theorem seX8_evaluate : ∀ x ∈ [Cond.selects (yX8_evaluate).cls yX8_evaluate yX8_evaluate], x ∈ lw_tbl := fun x hx => by rw [List.mem_singleton.mp hx]; exact List.mem_of_getElem? (i := 666) (by decide +kernel)
theorem ceX7_menOf : CE yX7_menOf cX7_menOf 4 (some .int) 1 := ⟨LW_of 671 (by decide +kernel) (by decide +kernel), LW_of 120 (by decide +kernel) (by decide +kernel), by decide +kernel, by decide +kernel, by decide +kernel⟩
theorem imX7_menOf : Cond.instanceMethod yX7_menOf ∈ LW := LW_of 669 (by decide +kernel) (by decide +kernel)
theorem seX7_menOf : ∀ x ∈ [Cond.selects (yX7_menOf).cls yX7_menOf yX7_menOf], x ∈ lw_tbl := fun x hx => by rw [List.mem_singleton.mp hx]; exact List.mem_of_getElem? (i := 670) (by decide +kernel)
theorem ceX3_handOver : CE yX3_handOver cX3_handOver 1 none 0 := ⟨LW_of 675 (by decide +kernel) (by decide +kernel), LW_of 116 (by decide +kernel) (by decide +kernel), by decide +kernel, by decide +kernel, by decide +kernel⟩
theorem imX3_handOver : Cond.instanceMethod yX3_handOver ∈ LW := LW_of 673 (by decide +kernel) (by decide +kernel)
theorem seX3_handOver : ∀ x ∈ [Cond.selects (yX3_handOver).cls yX3_handOver yX3_handOver], x ∈ lw_tbl := fun x hx => by rw [List.mem_singleton.mp hx]; exact List.mem_of_getElem? (i := 674) (by decide +kernel)
theorem ceX12_term : CE yX12_term cX12_term 3 (some .int) 1 := ⟨LW_of 679 (by decide +kernel) (by decide +kernel), LW_of 111 (by decide +kernel) (by decide +kernel), by decide +kernel, by decide +kernel, by decide +kernel⟩
theorem imX12_term : Cond.instanceMethod yX12_term ∈ LW := LW_of 677 (by decide +kernel) (by decide +kernel)
theorem seX12_term : ∀ x ∈ [Cond.selects (yX12_term).cls yX12_term yX12_term], x ∈ lw_tbl := fun x hx => by rw [List.mem_singleton.mp hx]; exact List.mem_of_getElem? (i := 678) (by decide +kernel)
theorem ceX12_loan : CE yX12_loan cX12_loan 2 (some .int) 1 := ⟨LW_of 683 (by decide +kernel) (by decide +kernel), LW_of 111 (by decide +kernel) (by decide +kernel), by decide +kernel, by decide +kernel, by decide +kernel⟩
theorem imX12_loan : Cond.instanceMethod yX12_loan ∈ LW := LW_of 681 (by decide +kernel) (by decide +kernel)
theorem seX12_loan : ∀ x ∈ [Cond.selects (yX12_loan).cls yX12_loan yX12_loan], x ∈ lw_tbl := fun x hx => by rw [List.mem_singleton.mp hx]; exact List.mem_of_getElem? (i := 682) (by decide +kernel)
theorem ceX12_undo : CE yX12_undo cX12_undo 1 (some .int) 0 := ⟨LW_of 688 (by decide +kernel) (by decide +kernel), LW_of 111 (by decide +kernel) (by decide +kernel), by decide +kernel, by decide +kernel, by decide +kernel⟩
theorem imX12_undo : Cond.instanceMethod yX12_undo ∈ LW := LW_of 686 (by decide +kernel) (by decide +kernel)
theorem seX12_undo : ∀ x ∈ [Cond.selects (yX12_undo).cls yX12_undo yX12_undo], x ∈ lw_tbl := fun x hx => by rw [List.mem_singleton.mp hx]; exact List.mem_of_getElem? (i := 687) (by decide +kernel)
theorem ceX1_takeBack : CE yX1_takeBack cX1_takeBack 2 (some .boolean) 1 := ⟨LW_of 692 (by decide +kernel) (by decide +kernel), LW_of 122 (by decide +kernel) (by decide +kernel), by decide +kernel, by decide +kernel, by decide +kernel⟩
theorem imX1_takeBack : Cond.instanceMethod yX1_takeBack ∈ LW := LW_of 690 (by decide +kernel) (by decide +kernel)
theorem seX1_takeBack : ∀ x ∈ [Cond.selects (yX1_takeBack).cls yX1_takeBack yX1_takeBack], x ∈ lw_tbl := fun x hx => by rw [List.mem_singleton.mp hx]; exact List.mem_of_getElem? (i := 691) (by decide +kernel)
theorem ceX3_read : CE yX3_read cX3_read 3 none 2 := ⟨LW_of 696 (by decide +kernel) (by decide +kernel), LW_of 116 (by decide +kernel) (by decide +kernel), by decide +kernel, by decide +kernel, by decide +kernel⟩
theorem imX3_read : Cond.instanceMethod yX3_read ∈ LW := LW_of 694 (by decide +kernel) (by decide +kernel)
theorem seX3_read : ∀ x ∈ [Cond.selects (yX3_read).cls yX3_read yX3_read], x ∈ lw_tbl := fun x hx => by rw [List.mem_singleton.mp hx]; exact List.mem_of_getElem? (i := 695) (by decide +kernel)
theorem ceX12_fair : CE yX12_fair cX12_fair 2 (some .int) 0 := ⟨LW_of 700 (by decide +kernel) (by decide +kernel), LW_of 111 (by decide +kernel) (by decide +kernel), by decide +kernel, by decide +kernel, by decide +kernel⟩
theorem imX12_fair : Cond.instanceMethod yX12_fair ∈ LW := LW_of 698 (by decide +kernel) (by decide +kernel)
theorem seX12_fair : ∀ x ∈ [Cond.selects (yX12_fair).cls yX12_fair yX12_fair], x ∈ lw_tbl := fun x hx => by rw [List.mem_singleton.mp hx]; exact List.mem_of_getElem? (i := 699) (by decide +kernel)
theorem ceX12_passWithTerm : CE yX12_passWithTerm cX12_passWithTerm 2 none 1 := ⟨LW_of 704 (by decide +kernel) (by decide +kernel), LW_of 111 (by decide +kernel) (by decide +kernel), by decide +kernel, by decide +kernel, by decide +kernel⟩
theorem imX12_passWithTerm : Cond.instanceMethod yX12_passWithTerm ∈ LW := LW_of 703 (by decide +kernel) (by decide +kernel)
theorem seX12_passWithTerm : ∀ x ∈ [Cond.selects (yX12_passWithTerm).cls yX12_passWithTerm yX12_passWithTerm], x ∈ lw_tbl := fun x hx => by rw [List.mem_singleton.mp hx]; exact List.mem_of_getElem? (i := 2) (by decide +kernel)
theorem ceX3_become : CE yX3_become cX3_become 2 none 1 := ⟨LW_of 708 (by decide +kernel) (by decide +kernel), LW_of 116 (by decide +kernel) (by decide +kernel), by decide +kernel, by decide +kernel, by decide +kernel⟩
theorem imX3_become : Cond.instanceMethod yX3_become ∈ LW := LW_of 706 (by decide +kernel) (by decide +kernel)
theorem seX3_become : ∀ x ∈ [Cond.selects (yX3_become).cls yX3_become yX3_become], x ∈ lw_tbl := fun x hx => by rw [List.mem_singleton.mp hx]; exact List.mem_of_getElem? (i := 707) (by decide +kernel)
theorem ceX12_least : CE yX12_least cX12_least 4 (some .int) 0 := ⟨LW_of 712 (by decide +kernel) (by decide +kernel), LW_of 111 (by decide +kernel) (by decide +kernel), by decide +kernel, by decide +kernel, by decide +kernel⟩
theorem imX12_least : Cond.instanceMethod yX12_least ∈ LW := LW_of 710 (by decide +kernel) (by decide +kernel)
theorem seX12_least : ∀ x ∈ [Cond.selects (yX12_least).cls yX12_least yX12_least], x ∈ lw_tbl := fun x hx => by rw [List.mem_singleton.mp hx]; exact List.mem_of_getElem? (i := 711) (by decide +kernel)
theorem ceX12_see : CE yX12_see cX12_see 3 (some .int) 2 := ⟨LW_of 716 (by decide +kernel) (by decide +kernel), LW_of 111 (by decide +kernel) (by decide +kernel), by decide +kernel, by decide +kernel, by decide +kernel⟩
theorem imX12_see : Cond.instanceMethod yX12_see ∈ LW := LW_of 714 (by decide +kernel) (by decide +kernel)
theorem seX12_see : ∀ x ∈ [Cond.selects (yX12_see).cls yX12_see yX12_see], x ∈ lw_tbl := fun x hx => by rw [List.mem_singleton.mp hx]; exact List.mem_of_getElem? (i := 715) (by decide +kernel)
theorem ceX9_add : CE yX9_add cX9_add 3 (some .boolean) 2 := ⟨LW_of 720 (by decide +kernel) (by decide +kernel), LW_of 123 (by decide +kernel) (by decide +kernel), by decide +kernel, by decide +kernel, by decide +kernel⟩
theorem imX9_add : Cond.instanceMethod yX9_add ∈ LW := LW_of 718 (by decide +kernel) (by decide +kernel)
theorem seX9_add : ∀ x ∈ [Cond.selects (yX9_add).cls yX9_add yX9_add], x ∈ lw_tbl := fun x hx => by rw [List.mem_singleton.mp hx]; exact List.mem_of_getElem? (i := 719) (by decide +kernel)
theorem ceX12_forget : CE yX12_forget cX12_forget 1 none 0 := ⟨LW_of 724 (by decide +kernel) (by decide +kernel), LW_of 111 (by decide +kernel) (by decide +kernel), by decide +kernel, by decide +kernel, by decide +kernel⟩
theorem imX12_forget : Cond.instanceMethod yX12_forget ∈ LW := LW_of 722 (by decide +kernel) (by decide +kernel)
theorem seX12_forget : ∀ x ∈ [Cond.selects (yX12_forget).cls yX12_forget yX12_forget], x ∈ lw_tbl := fun x hx => by rw [List.mem_singleton.mp hx]; exact List.mem_of_getElem? (i := 723) (by decide +kernel)
theorem ceX12_ruin : CE yX12_ruin cX12_ruin 2 (some .int) 0 := ⟨LW_of 728 (by decide +kernel) (by decide +kernel), LW_of 111 (by decide +kernel) (by decide +kernel), by decide +kernel, by decide +kernel, by decide +kernel⟩
theorem imX12_ruin : Cond.instanceMethod yX12_ruin ∈ LW := LW_of 726 (by decide +kernel) (by decide +kernel)
theorem seX12_ruin : ∀ x ∈ [Cond.selects (yX12_ruin).cls yX12_ruin yX12_ruin], x ∈ lw_tbl := fun x hx => by rw [List.mem_singleton.mp hx]; exact List.mem_of_getElem? (i := 727) (by decide +kernel)
theorem ceX12_image : CE yX12_image cX12_image 1 none 0 := ⟨LW_of 732 (by decide +kernel) (by decide +kernel), LW_of 111 (by decide +kernel) (by decide +kernel), by decide +kernel, by decide +kernel, by decide +kernel⟩
theorem imX12_image : Cond.instanceMethod yX12_image ∈ LW := LW_of 730 (by decide +kernel) (by decide +kernel)
theorem seX12_image : ∀ x ∈ [Cond.selects (yX12_image).cls yX12_image yX12_image], x ∈ lw_tbl := fun x hx => by rw [List.mem_singleton.mp hx]; exact List.mem_of_getElem? (i := 731) (by decide +kernel)
theorem ceX1_become : CE yX1_become cX1_become 2 none 1 := ⟨LW_of 737 (by decide +kernel) (by decide +kernel), LW_of 122 (by decide +kernel) (by decide +kernel), by decide +kernel, by decide +kernel, by decide +kernel⟩
theorem imX1_become : Cond.instanceMethod yX1_become ∈ LW := LW_of 735 (by decide +kernel) (by decide +kernel)
theorem seX1_become : ∀ x ∈ [Cond.selects (yX1_become).cls yX1_become yX1_become], x ∈ lw_tbl := fun x hx => by rw [List.mem_singleton.mp hx]; exact List.mem_of_getElem? (i := 736) (by decide +kernel)
theorem ceX9_become : CE yX9_become cX9_become 2 none 1 := ⟨LW_of 741 (by decide +kernel) (by decide +kernel), LW_of 123 (by decide +kernel) (by decide +kernel), by decide +kernel, by decide +kernel, by decide +kernel⟩
theorem imX9_become : Cond.instanceMethod yX9_become ∈ LW := LW_of 739 (by decide +kernel) (by decide +kernel)
theorem seX9_become : ∀ x ∈ [Cond.selects (yX9_become).cls yX9_become yX9_become], x ∈ lw_tbl := fun x hx => by rw [List.mem_singleton.mp hx]; exact List.mem_of_getElem? (i := 740) (by decide +kernel)
theorem ceX12_restore : CE yX12_restore cX12_restore 1 (some .boolean) 0 := ⟨LW_of 746 (by decide +kernel) (by decide +kernel), LW_of 111 (by decide +kernel) (by decide +kernel), by decide +kernel, by decide +kernel, by decide +kernel⟩
theorem imX12_restore : Cond.instanceMethod yX12_restore ∈ LW := LW_of 744 (by decide +kernel) (by decide +kernel)
theorem seX12_restore : ∀ x ∈ [Cond.selects (yX12_restore).cls yX12_restore yX12_restore], x ∈ lw_tbl := fun x hx => by rw [List.mem_singleton.mp hx]; exact List.mem_of_getElem? (i := 745) (by decide +kernel)
theorem ceX12_land : CE yX12_land cX12_land 4 (some .int) 1 := ⟨LW_of 755 (by decide +kernel) (by decide +kernel), LW_of 111 (by decide +kernel) (by decide +kernel), by decide +kernel, by decide +kernel, by decide +kernel⟩
theorem imX12_land : Cond.instanceMethod yX12_land ∈ LW := LW_of 753 (by decide +kernel) (by decide +kernel)
theorem seX12_land : ∀ x ∈ [Cond.selects (yX12_land).cls yX12_land yX12_land], x ∈ lw_tbl := fun x hx => by rw [List.mem_singleton.mp hx]; exact List.mem_of_getElem? (i := 754) (by decide +kernel)
theorem ceX6_parse : CE yX6_parse cX6_parse 3 (some .int) 1 := ⟨LW_of 825 (by decide +kernel) (by decide +kernel), LW_of 112 (by decide +kernel) (by decide +kernel), by decide +kernel, by decide +kernel, by decide +kernel⟩
theorem imX6_parse : Cond.instanceMethod yX6_parse ∈ LW := LW_of 823 (by decide +kernel) (by decide +kernel)
theorem seX6_parse : ∀ x ∈ [Cond.selects (yX6_parse).cls yX6_parse yX6_parse], x ∈ lw_tbl := fun x hx => by rw [List.mem_singleton.mp hx]; exact List.mem_of_getElem? (i := 824) (by decide +kernel)
theorem ceX5_clear : CE yX5_clear cX5_clear 1 none 0 := ⟨LW_of 829 (by decide +kernel) (by decide +kernel), LW_of 113 (by decide +kernel) (by decide +kernel), by decide +kernel, by decide +kernel, by decide +kernel⟩
theorem imX5_clear : Cond.instanceMethod yX5_clear ∈ LW := LW_of 827 (by decide +kernel) (by decide +kernel)
theorem seX5_clear : ∀ x ∈ [Cond.selects (yX5_clear).cls yX5_clear yX5_clear], x ∈ lw_tbl := fun x hx => by rw [List.mem_singleton.mp hx]; exact List.mem_of_getElem? (i := 828) (by decide +kernel)
theorem ceX8_begin : CE yX8_begin cX8_begin 2 none 1 := ⟨LW_of 833 (by decide +kernel) (by decide +kernel), LW_of 115 (by decide +kernel) (by decide +kernel), by decide +kernel, by decide +kernel, by decide +kernel⟩
theorem imX8_begin : Cond.instanceMethod yX8_begin ∈ LW := LW_of 831 (by decide +kernel) (by decide +kernel)
theorem seX8_begin : ∀ x ∈ [Cond.selects (yX8_begin).cls yX8_begin yX8_begin], x ∈ lw_tbl := fun x hx => by rw [List.mem_singleton.mp hx]; exact List.mem_of_getElem? (i := 832) (by decide +kernel)
theorem ceX10_open : CE yX10_open cX10_open 2 none 1 := ⟨LW_of 838 (by decide +kernel) (by decide +kernel), LW_of 117 (by decide +kernel) (by decide +kernel), by decide +kernel, by decide +kernel, by decide +kernel⟩
theorem imX10_open : Cond.instanceMethod yX10_open ∈ LW := LW_of 836 (by decide +kernel) (by decide +kernel)
theorem seX10_open : ∀ x ∈ [Cond.selects (yX10_open).cls yX10_open yX10_open], x ∈ lw_tbl := fun x hx => by rw [List.mem_singleton.mp hx]; exact List.mem_of_getElem? (i := 837) (by decide +kernel)
theorem ceX10_step : CE yX10_step cX10_step 1 none 0 := ⟨LW_of 843 (by decide +kernel) (by decide +kernel), LW_of 117 (by decide +kernel) (by decide +kernel), by decide +kernel, by decide +kernel, by decide +kernel⟩
theorem imX10_step : Cond.instanceMethod yX10_step ∈ LW := LW_of 841 (by decide +kernel) (by decide +kernel)
theorem seX10_step : ∀ x ∈ [Cond.selects (yX10_step).cls yX10_step yX10_step], x ∈ lw_tbl := fun x hx => by rw [List.mem_singleton.mp hx]; exact List.mem_of_getElem? (i := 842) (by decide +kernel)
theorem ceX10_isLetter : CE yX10_isLetter cX10_isLetter 1 (some .boolean) 1 := ⟨LW_of 846 (by decide +kernel) (by decide +kernel), LW_of 117 (by decide +kernel) (by decide +kernel), by decide +kernel, by decide +kernel, by decide +kernel⟩
theorem smX10_isLetter : Cond.static yX10_isLetter ∈ LW := LW_of 845 (by decide +kernel) (by decide +kernel)
theorem ceX10_readWord : CE yX10_readWord cX10_readWord 5 none 0 := ⟨LW_of 850 (by decide +kernel) (by decide +kernel), LW_of 117 (by decide +kernel) (by decide +kernel), by decide +kernel, by decide +kernel, by decide +kernel⟩
theorem imX10_readWord : Cond.instanceMethod yX10_readWord ∈ LW := LW_of 849 (by decide +kernel) (by decide +kernel)
theorem seX10_readWord : ∀ x ∈ [Cond.selects (yX10_readWord).cls yX10_readWord yX10_readWord], x ∈ lw_tbl := fun x hx => by rw [List.mem_singleton.mp hx]; exact List.mem_of_getElem? (i := 4) (by decide +kernel)
theorem ceJ0_length_8abf5 : CE yJ0_length_8abf5 cJ0_length_8abf5 1 (some .int) 0 := ⟨LW_of 856 (by decide +kernel) (by decide +kernel), LW_of 130 (by decide +kernel) (by decide +kernel), by decide +kernel, by decide +kernel, by decide +kernel⟩
theorem imJ0_length_8abf5 : Cond.instanceMethod yJ0_length_8abf5 ∈ LW := LW_of 854 (by decide +kernel) (by decide +kernel)
theorem seJ0_length_8abf5 : ∀ x ∈ [Cond.selects (yJ0_length_8abf5).cls yJ0_length_8abf5 yJ0_length_8abf5], x ∈ lw_tbl := fun x hx => by rw [List.mem_singleton.mp hx]; exact List.mem_of_getElem? (i := 855) (by decide +kernel)
theorem ceJ0_coder_7d493 : CE yJ0_coder_7d493 cJ0_coder_7d493 1 (some .byte) 0 := ⟨LW_of 860 (by decide +kernel) (by decide +kernel), LW_of 130 (by decide +kernel) (by decide +kernel), by decide +kernel, by decide +kernel, by decide +kernel⟩
theorem imJ0_coder_7d493 : Cond.instanceMethod yJ0_coder_7d493 ∈ LW := LW_of 858 (by decide +kernel) (by decide +kernel)
theorem seJ0_coder_7d493 : ∀ x ∈ [Cond.selects (yJ0_coder_7d493).cls yJ0_coder_7d493 yJ0_coder_7d493], x ∈ lw_tbl := fun x hx => by rw [List.mem_singleton.mp hx]; exact List.mem_of_getElem? (i := 859) (by decide +kernel)
theorem ceJ0_charAt_5068e : CE yJ0_charAt_5068e cJ0_charAt_5068e 2 (some .char) 1 := ⟨LW_of 866 (by decide +kernel) (by decide +kernel), LW_of 130 (by decide +kernel) (by decide +kernel), by decide +kernel, by decide +kernel, by decide +kernel⟩
theorem imJ0_charAt_5068e : Cond.instanceMethod yJ0_charAt_5068e ∈ LW := LW_of 864 (by decide +kernel) (by decide +kernel)
theorem seJ0_charAt_5068e : ∀ x ∈ [Cond.selects (yJ0_charAt_5068e).cls yJ0_charAt_5068e yJ0_charAt_5068e], x ∈ lw_tbl := fun x hx => by rw [List.mem_singleton.mp hx]; exact List.mem_of_getElem? (i := 865) (by decide +kernel)
theorem ceJ0_isLatin1_aae02 : CE yJ0_isLatin1_aae02 cJ0_isLatin1_aae02 1 (some .boolean) 0 := ⟨LW_of 870 (by decide +kernel) (by decide +kernel), LW_of 130 (by decide +kernel) (by decide +kernel), by decide +kernel, by decide +kernel, by decide +kernel⟩
theorem imJ0_isLatin1_aae02 : Cond.instanceMethod yJ0_isLatin1_aae02 ∈ LW := LW_of 868 (by decide +kernel) (by decide +kernel)
theorem seJ0_isLatin1_aae02 : ∀ x ∈ [Cond.selects (yJ0_isLatin1_aae02).cls yJ0_isLatin1_aae02 yJ0_isLatin1_aae02], x ∈ lw_tbl := fun x hx => by rw [List.mem_singleton.mp hx]; exact List.mem_of_getElem? (i := 869) (by decide +kernel)
theorem ceJ1_charAt_3b067 : CE yJ1_charAt_3b067 cJ1_charAt_3b067 2 (some .char) 2 := ⟨LW_of 873 (by decide +kernel) (by decide +kernel), LW_of 131 (by decide +kernel) (by decide +kernel), by decide +kernel, by decide +kernel, by decide +kernel⟩
theorem smJ1_charAt_3b067 : Cond.static yJ1_charAt_3b067 ∈ LW := LW_of 872 (by decide +kernel) (by decide +kernel)
theorem ceJ0_checkIndex_df160 : CE yJ0_checkIndex_df160 cJ0_checkIndex_df160 2 none 2 := ⟨LW_of 876 (by decide +kernel) (by decide +kernel), LW_of 130 (by decide +kernel) (by decide +kernel), by decide +kernel, by decide +kernel, by decide +kernel⟩
theorem smJ0_checkIndex_df160 : Cond.static yJ0_checkIndex_df160 ∈ LW := LW_of 875 (by decide +kernel) (by decide +kernel)
theorem ceJ3_checkIndex_8e157 : CE yJ3_checkIndex_8e157 cJ3_checkIndex_8e157 3 (some .int) 3 := ⟨LW_of 881 (by decide +kernel) (by decide +kernel), LW_of 132 (by decide +kernel) (by decide +kernel), by decide +kernel, by decide +kernel, by decide +kernel⟩
theorem smJ3_checkIndex_8e157 : Cond.static yJ3_checkIndex_8e157 ∈ LW := LW_of 880 (by decide +kernel) (by decide +kernel)
theorem ceJ2_charAt_3b067 : CE yJ2_charAt_3b067 cJ2_charAt_3b067 2 (some .char) 2 := ⟨LW_of 884 (by decide +kernel) (by decide +kernel), LW_of 133 (by decide +kernel) (by decide +kernel), by decide +kernel, by decide +kernel, by decide +kernel⟩
theorem smJ2_charAt_3b067 : Cond.static yJ2_charAt_3b067 ∈ LW := LW_of 883 (by decide +kernel) (by decide +kernel)
theorem ceJ2_checkIndex_2214a : CE yJ2_checkIndex_2214a cJ2_checkIndex_2214a 2 none 2 := ⟨LW_of 887 (by decide +kernel) (by decide +kernel), LW_of 133 (by decide +kernel) (by decide +kernel), by decide +kernel, by decide +kernel, by decide +kernel⟩
theorem smJ2_checkIndex_2214a : Cond.static yJ2_checkIndex_2214a ∈ LW := LW_of 886 (by decide +kernel) (by decide +kernel)
theorem ceJ2_length_9d52b : CE yJ2_length_9d52b cJ2_length_9d52b 1 (some .int) 1 := ⟨LW_of 890 (by decide +kernel) (by decide +kernel), LW_of 133 (by decide +kernel) (by decide +kernel), by decide +kernel, by decide +kernel, by decide +kernel⟩
theorem smJ2_length_9d52b : Cond.static yJ2_length_9d52b ∈ LW := LW_of 889 (by decide +kernel) (by decide +kernel)
theorem ceJ2_getChar_3b067 : CE yJ2_getChar_3b067 cJ2_getChar_3b067 2 (some .char) 2 := ⟨LW_of 894 (by decide +kernel) (by decide +kernel), LW_of 133 (by decide +kernel) (by decide +kernel), by decide +kernel, by decide +kernel, by decide +kernel⟩
theorem smJ2_getChar_3b067 : Cond.static yJ2_getChar_3b067 ∈ LW := LW_of 893 (by decide +kernel) (by decide +kernel)
theorem ceX10_isDigit : CE yX10_isDigit cX10_isDigit 1 (some .boolean) 1 := ⟨LW_of 903 (by decide +kernel) (by decide +kernel), LW_of 117 (by decide +kernel) (by decide +kernel), by decide +kernel, by decide +kernel, by decide +kernel⟩
theorem smX10_isDigit : Cond.static yX10_isDigit ∈ LW := LW_of 902 (by decide +kernel) (by decide +kernel)
theorem ceX10_readNumber : CE yX10_readNumber cX10_readNumber 1 none 0 := ⟨LW_of 907 (by decide +kernel) (by decide +kernel), LW_of 117 (by decide +kernel) (by decide +kernel), by decide +kernel, by decide +kernel, by decide +kernel⟩
theorem imX10_readNumber : Cond.instanceMethod yX10_readNumber ∈ LW := LW_of 906 (by decide +kernel) (by decide +kernel)
theorem seX10_readNumber : ∀ x ∈ [Cond.selects (yX10_readNumber).cls yX10_readNumber yX10_readNumber], x ∈ lw_tbl := fun x hx => by rw [List.mem_singleton.mp hx]; exact List.mem_of_getElem? (i := 5) (by decide +kernel)
theorem ceX10_isSign : CE yX10_isSign cX10_isSign 1 (some .boolean) 1 := ⟨LW_of 910 (by decide +kernel) (by decide +kernel), LW_of 117 (by decide +kernel) (by decide +kernel), by decide +kernel, by decide +kernel, by decide +kernel⟩
theorem smX10_isSign : Cond.static yX10_isSign ∈ LW := LW_of 909 (by decide +kernel) (by decide +kernel)
theorem ceX6_line : CE yX6_line cX6_line 1 (some .boolean) 0 := ⟨LW_of 914 (by decide +kernel) (by decide +kernel), LW_of 112 (by decide +kernel) (by decide +kernel), by decide +kernel, by decide +kernel, by decide +kernel⟩
theorem imX6_line : Cond.instanceMethod yX6_line ∈ LW := LW_of 913 (by decide +kernel) (by decide +kernel)
theorem seX6_line : ∀ x ∈ [Cond.selects (yX6_line).cls yX6_line yX6_line], x ∈ lw_tbl := fun x hx => by rw [List.mem_singleton.mp hx]; exact List.mem_of_getElem? (i := 6) (by decide +kernel)
theorem ceJx29ce0_ordinal_8abf5 : CE yJx29ce0_ordinal_8abf5 cJx29ce0_ordinal_8abf5 1 (some .int) 0 := ⟨LW_of 922 (by decide +kernel) (by decide +kernel), LW_of 118 (by decide +kernel) (by decide +kernel), by decide +kernel, by decide +kernel, by decide +kernel⟩
theorem imJx29ce0_ordinal_8abf5 : Cond.instanceMethod yJx29ce0_ordinal_8abf5 ∈ LW := LW_of 921 (by decide +kernel) (by decide +kernel)
theorem ceX6_once : CE yX6_once cX6_once 2 (some .boolean) 1 := ⟨LW_of 926 (by decide +kernel) (by decide +kernel), LW_of 112 (by decide +kernel) (by decide +kernel), by decide +kernel, by decide +kernel, by decide +kernel⟩
theorem imX6_once : Cond.instanceMethod yX6_once ∈ LW := LW_of 925 (by decide +kernel) (by decide +kernel)
theorem seX6_once : ∀ x ∈ [Cond.selects (yX6_once).cls yX6_once yX6_once], x ∈ lw_tbl := fun x hx => by rw [List.mem_singleton.mp hx]; exact List.mem_of_getElem? (i := 7) (by decide +kernel)
theorem ceX6_refuse : CE yX6_refuse cX6_refuse 2 (some .boolean) 1 := ⟨LW_of 930 (by decide +kernel) (by decide +kernel), LW_of 112 (by decide +kernel) (by decide +kernel), by decide +kernel, by decide +kernel, by decide +kernel⟩
theorem imX6_refuse : Cond.instanceMethod yX6_refuse ∈ LW := LW_of 929 (by decide +kernel) (by decide +kernel)
theorem seX6_refuse : ∀ x ∈ [Cond.selects (yX6_refuse).cls yX6_refuse yX6_refuse], x ∈ lw_tbl := fun x hx => by rw [List.mem_singleton.mp hx]; exact List.mem_of_getElem? (i := 8) (by decide +kernel)
theorem ceX6_cityLine : CE yX6_cityLine cX6_cityLine 1 (some .boolean) 0 := ⟨LW_of 935 (by decide +kernel) (by decide +kernel), LW_of 112 (by decide +kernel) (by decide +kernel), by decide +kernel, by decide +kernel, by decide +kernel⟩
theorem imX6_cityLine : Cond.instanceMethod yX6_cityLine ∈ LW := LW_of 934 (by decide +kernel) (by decide +kernel)
theorem seX6_cityLine : ∀ x ∈ [Cond.selects (yX6_cityLine).cls yX6_cityLine yX6_cityLine], x ∈ lw_tbl := fun x hx => by rw [List.mem_singleton.mp hx]; exact List.mem_of_getElem? (i := 9) (by decide +kernel)
theorem ceX6_hear : CE yX6_hear cX6_hear 6 (some .boolean) 3 := ⟨LW_of 939 (by decide +kernel) (by decide +kernel), LW_of 112 (by decide +kernel) (by decide +kernel), by decide +kernel, by decide +kernel, by decide +kernel⟩
theorem imX6_hear : Cond.instanceMethod yX6_hear ∈ LW := LW_of 938 (by decide +kernel) (by decide +kernel)
theorem seX6_hear : ∀ x ∈ [Cond.selects (yX6_hear).cls yX6_hear yX6_hear], x ∈ lw_tbl := fun x hx => by rw [List.mem_singleton.mp hx]; exact List.mem_of_getElem? (i := 10) (by decide +kernel)
theorem ceX6_close : CE yX6_close cX6_close 1 (some .boolean) 0 := ⟨LW_of 943 (by decide +kernel) (by decide +kernel), LW_of 112 (by decide +kernel) (by decide +kernel), by decide +kernel, by decide +kernel, by decide +kernel⟩
theorem imX6_close : Cond.instanceMethod yX6_close ∈ LW := LW_of 942 (by decide +kernel) (by decide +kernel)
theorem seX6_close : ∀ x ∈ [Cond.selects (yX6_close).cls yX6_close yX6_close], x ∈ lw_tbl := fun x hx => by rw [List.mem_singleton.mp hx]; exact List.mem_of_getElem? (i := 11) (by decide +kernel)
theorem ceX6_below : CE yX6_below cX6_below 3 (some .boolean) 2 := ⟨LW_of 947 (by decide +kernel) (by decide +kernel), LW_of 112 (by decide +kernel) (by decide +kernel), by decide +kernel, by decide +kernel, by decide +kernel⟩
theorem imX6_below : Cond.instanceMethod yX6_below ∈ LW := LW_of 946 (by decide +kernel) (by decide +kernel)
theorem seX6_below : ∀ x ∈ [Cond.selects (yX6_below).cls yX6_below yX6_below], x ∈ lw_tbl := fun x hx => by rw [List.mem_singleton.mp hx]; exact List.mem_of_getElem? (i := 12) (by decide +kernel)
theorem ceX6_deedLine : CE yX6_deedLine cX6_deedLine 1 (some .boolean) 0 := ⟨LW_of 951 (by decide +kernel) (by decide +kernel), LW_of 112 (by decide +kernel) (by decide +kernel), by decide +kernel, by decide +kernel, by decide +kernel⟩
theorem imX6_deedLine : Cond.instanceMethod yX6_deedLine ∈ LW := LW_of 950 (by decide +kernel) (by decide +kernel)
theorem seX6_deedLine : ∀ x ∈ [Cond.selects (yX6_deedLine).cls yX6_deedLine yX6_deedLine], x ∈ lw_tbl := fun x hx => by rw [List.mem_singleton.mp hx]; exact List.mem_of_getElem? (i := 13) (by decide +kernel)
theorem ceX6_wayLine : CE yX6_wayLine cX6_wayLine 4 (some .boolean) 1 := ⟨LW_of 955 (by decide +kernel) (by decide +kernel), LW_of 112 (by decide +kernel) (by decide +kernel), by decide +kernel, by decide +kernel, by decide +kernel⟩
theorem imX6_wayLine : Cond.instanceMethod yX6_wayLine ∈ LW := LW_of 954 (by decide +kernel) (by decide +kernel)
theorem seX6_wayLine : ∀ x ∈ [Cond.selects (yX6_wayLine).cls yX6_wayLine yX6_wayLine], x ∈ lw_tbl := fun x hx => by rw [List.mem_singleton.mp hx]; exact List.mem_of_getElem? (i := 14) (by decide +kernel)
theorem ceX6_harvestsLine : CE yX6_harvestsLine cX6_harvestsLine 2 (some .boolean) 0 := ⟨LW_of 959 (by decide +kernel) (by decide +kernel), LW_of 112 (by decide +kernel) (by decide +kernel), by decide +kernel, by decide +kernel, by decide +kernel⟩
theorem imX6_harvestsLine : Cond.instanceMethod yX6_harvestsLine ∈ LW := LW_of 958 (by decide +kernel) (by decide +kernel)
theorem seX6_harvestsLine : ∀ x ∈ [Cond.selects (yX6_harvestsLine).cls yX6_harvestsLine yX6_harvestsLine], x ∈ lw_tbl := fun x hx => by rw [List.mem_singleton.mp hx]; exact List.mem_of_getElem? (i := 15) (by decide +kernel)
theorem ceX6_termLine : CE yX6_termLine cX6_termLine 1 (some .boolean) 0 := ⟨LW_of 963 (by decide +kernel) (by decide +kernel), LW_of 112 (by decide +kernel) (by decide +kernel), by decide +kernel, by decide +kernel, by decide +kernel⟩
theorem imX6_termLine : Cond.instanceMethod yX6_termLine ∈ LW := LW_of 962 (by decide +kernel) (by decide +kernel)
theorem seX6_termLine : ∀ x ∈ [Cond.selects (yX6_termLine).cls yX6_termLine yX6_termLine], x ∈ lw_tbl := fun x hx => by rw [List.mem_singleton.mp hx]; exact List.mem_of_getElem? (i := 16) (by decide +kernel)
theorem ceX6_friendLine : CE yX6_friendLine cX6_friendLine 1 (some .boolean) 0 := ⟨LW_of 967 (by decide +kernel) (by decide +kernel), LW_of 112 (by decide +kernel) (by decide +kernel), by decide +kernel, by decide +kernel, by decide +kernel⟩
theorem imX6_friendLine : Cond.instanceMethod yX6_friendLine ∈ LW := LW_of 966 (by decide +kernel) (by decide +kernel)
theorem seX6_friendLine : ∀ x ∈ [Cond.selects (yX6_friendLine).cls yX6_friendLine yX6_friendLine], x ∈ lw_tbl := fun x hx => by rw [List.mem_singleton.mp hx]; exact List.mem_of_getElem? (i := 17) (by decide +kernel)
theorem ceX6_fighterLine : CE yX6_fighterLine cX6_fighterLine 2 (some .boolean) 1 := ⟨LW_of 971 (by decide +kernel) (by decide +kernel), LW_of 112 (by decide +kernel) (by decide +kernel), by decide +kernel, by decide +kernel, by decide +kernel⟩
theorem imX6_fighterLine : Cond.instanceMethod yX6_fighterLine ∈ LW := LW_of 970 (by decide +kernel) (by decide +kernel)
theorem seX6_fighterLine : ∀ x ∈ [Cond.selects (yX6_fighterLine).cls yX6_fighterLine yX6_fighterLine], x ∈ lw_tbl := fun x hx => by rw [List.mem_singleton.mp hx]; exact List.mem_of_getElem? (i := 18) (by decide +kernel)
theorem ceX6_ruleLine : CE yX6_ruleLine cX6_ruleLine 2 (some .boolean) 1 := ⟨LW_of 975 (by decide +kernel) (by decide +kernel), LW_of 112 (by decide +kernel) (by decide +kernel), by decide +kernel, by decide +kernel, by decide +kernel⟩
theorem imX6_ruleLine : Cond.instanceMethod yX6_ruleLine ∈ LW := LW_of 974 (by decide +kernel) (by decide +kernel)
theorem seX6_ruleLine : ∀ x ∈ [Cond.selects (yX6_ruleLine).cls yX6_ruleLine yX6_ruleLine], x ∈ lw_tbl := fun x hx => by rw [List.mem_singleton.mp hx]; exact List.mem_of_getElem? (i := 19) (by decide +kernel)
theorem ceX6_expr : CE yX6_expr cX6_expr 4 (some .boolean) 1 := ⟨LW_of 981 (by decide +kernel) (by decide +kernel), LW_of 112 (by decide +kernel) (by decide +kernel), by decide +kernel, by decide +kernel, by decide +kernel⟩
theorem imX6_expr : Cond.instanceMethod yX6_expr ∈ LW := LW_of 980 (by decide +kernel) (by decide +kernel)
theorem seX6_expr : ∀ x ∈ [Cond.selects (yX6_expr).cls yX6_expr yX6_expr], x ∈ lw_tbl := fun x hx => by rw [List.mem_singleton.mp hx]; exact List.mem_of_getElem? (i := 20) (by decide +kernel)
theorem ceX6_and : CE yX6_and cX6_and 3 (some .boolean) 1 := ⟨LW_of 985 (by decide +kernel) (by decide +kernel), LW_of 112 (by decide +kernel) (by decide +kernel), by decide +kernel, by decide +kernel, by decide +kernel⟩
theorem imX6_and : Cond.instanceMethod yX6_and ∈ LW := LW_of 984 (by decide +kernel) (by decide +kernel)
theorem seX6_and : ∀ x ∈ [Cond.selects (yX6_and).cls yX6_and yX6_and], x ∈ lw_tbl := fun x hx => by rw [List.mem_singleton.mp hx]; exact List.mem_of_getElem? (i := 21) (by decide +kernel)
theorem ceX6_not : CE yX6_not cX6_not 4 (some .boolean) 1 := ⟨LW_of 989 (by decide +kernel) (by decide +kernel), LW_of 112 (by decide +kernel) (by decide +kernel), by decide +kernel, by decide +kernel, by decide +kernel⟩
theorem imX6_not : Cond.instanceMethod yX6_not ∈ LW := LW_of 988 (by decide +kernel) (by decide +kernel)
theorem seX6_not : ∀ x ∈ [Cond.selects (yX6_not).cls yX6_not yX6_not], x ∈ lw_tbl := fun x hx => by rw [List.mem_singleton.mp hx]; exact List.mem_of_getElem? (i := 22) (by decide +kernel)
theorem ceX6_test : CE yX6_test cX6_test 3 (some .boolean) 1 := ⟨LW_of 995 (by decide +kernel) (by decide +kernel), LW_of 112 (by decide +kernel) (by decide +kernel), by decide +kernel, by decide +kernel, by decide +kernel⟩
theorem imX6_test : Cond.instanceMethod yX6_test ∈ LW := LW_of 994 (by decide +kernel) (by decide +kernel)
theorem seX6_test : ∀ x ∈ [Cond.selects (yX6_test).cls yX6_test yX6_test], x ∈ lw_tbl := fun x hx => by rw [List.mem_singleton.mp hx]; exact List.mem_of_getElem? (i := 23) (by decide +kernel)
theorem ceX6_sum : CE yX6_sum cX6_sum 4 (some .boolean) 1 := ⟨LW_of 999 (by decide +kernel) (by decide +kernel), LW_of 112 (by decide +kernel) (by decide +kernel), by decide +kernel, by decide +kernel, by decide +kernel⟩
theorem imX6_sum : Cond.instanceMethod yX6_sum ∈ LW := LW_of 998 (by decide +kernel) (by decide +kernel)
theorem seX6_sum : ∀ x ∈ [Cond.selects (yX6_sum).cls yX6_sum yX6_sum], x ∈ lw_tbl := fun x hx => by rw [List.mem_singleton.mp hx]; exact List.mem_of_getElem? (i := 24) (by decide +kernel)
theorem ceX6_product : CE yX6_product cX6_product 4 (some .boolean) 1 := ⟨LW_of 1003 (by decide +kernel) (by decide +kernel), LW_of 112 (by decide +kernel) (by decide +kernel), by decide +kernel, by decide +kernel, by decide +kernel⟩
theorem imX6_product : Cond.instanceMethod yX6_product ∈ LW := LW_of 1002 (by decide +kernel) (by decide +kernel)
theorem seX6_product : ∀ x ∈ [Cond.selects (yX6_product).cls yX6_product yX6_product], x ∈ lw_tbl := fun x hx => by rw [List.mem_singleton.mp hx]; exact List.mem_of_getElem? (i := 25) (by decide +kernel)
theorem ceX6_part : CE yX6_part cX6_part 3 (some .boolean) 1 := ⟨LW_of 1007 (by decide +kernel) (by decide +kernel), LW_of 112 (by decide +kernel) (by decide +kernel), by decide +kernel, by decide +kernel, by decide +kernel⟩
theorem imX6_part : Cond.instanceMethod yX6_part ∈ LW := LW_of 1006 (by decide +kernel) (by decide +kernel)
theorem seX6_part : ∀ x ∈ [Cond.selects (yX6_part).cls yX6_part yX6_part], x ∈ lw_tbl := fun x hx => by rw [List.mem_singleton.mp hx]; exact List.mem_of_getElem? (i := 26) (by decide +kernel)
theorem ceX8_append : CE yX8_append cX8_append 2 none 1 := ⟨LW_of 1011 (by decide +kernel) (by decide +kernel), LW_of 115 (by decide +kernel) (by decide +kernel), by decide +kernel, by decide +kernel, by decide +kernel⟩
theorem imX8_append : Cond.instanceMethod yX8_append ∈ LW := LW_of 1009 (by decide +kernel) (by decide +kernel)
theorem seX8_append : ∀ x ∈ [Cond.selects (yX8_append).cls yX8_append yX8_append], x ∈ lw_tbl := fun x hx => by rw [List.mem_singleton.mp hx]; exact List.mem_of_getElem? (i := 1010) (by decide +kernel)
theorem ceX12_count : CE yX12_count cX12_count 2 (some .int) 1 := ⟨LW_of 1025 (by decide +kernel) (by decide +kernel), LW_of 111 (by decide +kernel) (by decide +kernel), by decide +kernel, by decide +kernel, by decide +kernel⟩
theorem imX12_count : Cond.instanceMethod yX12_count ∈ LW := LW_of 1023 (by decide +kernel) (by decide +kernel)
theorem seX12_count : ∀ x ∈ [Cond.selects (yX12_count).cls yX12_count yX12_count], x ∈ lw_tbl := fun x hx => by rw [List.mem_singleton.mp hx]; exact List.mem_of_getElem? (i := 1024) (by decide +kernel)
theorem ceX12_deed : CE yX12_deed cX12_deed 4 (some .int) 2 := ⟨LW_of 1048 (by decide +kernel) (by decide +kernel), LW_of 111 (by decide +kernel) (by decide +kernel), by decide +kernel, by decide +kernel, by decide +kernel⟩
theorem imX12_deed : Cond.instanceMethod yX12_deed ∈ LW := LW_of 1046 (by decide +kernel) (by decide +kernel)
theorem seX12_deed : ∀ x ∈ [Cond.selects (yX12_deed).cls yX12_deed yX12_deed], x ∈ lw_tbl := fun x hx => by rw [List.mem_singleton.mp hx]; exact List.mem_of_getElem? (i := 1047) (by decide +kernel)
theorem ceX12_needDeed : CE yX12_needDeed cX12_needDeed 2 none 1 := ⟨LW_of 1052 (by decide +kernel) (by decide +kernel), LW_of 111 (by decide +kernel) (by decide +kernel), by decide +kernel, by decide +kernel, by decide +kernel⟩
theorem imX12_needDeed : Cond.instanceMethod yX12_needDeed ∈ LW := LW_of 1051 (by decide +kernel) (by decide +kernel)
theorem seX12_needDeed : ∀ x ∈ [Cond.selects (yX12_needDeed).cls yX12_needDeed yX12_needDeed], x ∈ lw_tbl := fun x hx => by rw [List.mem_singleton.mp hx]; exact List.mem_of_getElem? (i := 27) (by decide +kernel)
theorem ceX12_brother : CE yX12_brother cX12_brother 3 (some .int) 2 := ⟨LW_of 1060 (by decide +kernel) (by decide +kernel), LW_of 111 (by decide +kernel) (by decide +kernel), by decide +kernel, by decide +kernel, by decide +kernel⟩
theorem imX12_brother : Cond.instanceMethod yX12_brother ∈ LW := LW_of 1058 (by decide +kernel) (by decide +kernel)
theorem seX12_brother : ∀ x ∈ [Cond.selects (yX12_brother).cls yX12_brother yX12_brother], x ∈ lw_tbl := fun x hx => by rw [List.mem_singleton.mp hx]; exact List.mem_of_getElem? (i := 1059) (by decide +kernel)
theorem ceX12_needBrother : CE yX12_needBrother cX12_needBrother 2 none 1 := ⟨LW_of 1064 (by decide +kernel) (by decide +kernel), LW_of 111 (by decide +kernel) (by decide +kernel), by decide +kernel, by decide +kernel, by decide +kernel⟩
theorem imX12_needBrother : Cond.instanceMethod yX12_needBrother ∈ LW := LW_of 1063 (by decide +kernel) (by decide +kernel)
theorem seX12_needBrother : ∀ x ∈ [Cond.selects (yX12_needBrother).cls yX12_needBrother yX12_needBrother], x ∈ lw_tbl := fun x hx => by rw [List.mem_singleton.mp hx]; exact List.mem_of_getElem? (i := 28) (by decide +kernel)
theorem ceX12_way : CE yX12_way cX12_way 3 (some .int) 2 := ⟨LW_of 1075 (by decide +kernel) (by decide +kernel), LW_of 111 (by decide +kernel) (by decide +kernel), by decide +kernel, by decide +kernel, by decide +kernel⟩
theorem imX12_way : Cond.instanceMethod yX12_way ∈ LW := LW_of 1073 (by decide +kernel) (by decide +kernel)
theorem seX12_way : ∀ x ∈ [Cond.selects (yX12_way).cls yX12_way yX12_way], x ∈ lw_tbl := fun x hx => by rw [List.mem_singleton.mp hx]; exact List.mem_of_getElem? (i := 1074) (by decide +kernel)
theorem ceX12_hasPlace : CE yX12_hasPlace cX12_hasPlace 3 (some .boolean) 2 := ⟨LW_of 1079 (by decide +kernel) (by decide +kernel), LW_of 111 (by decide +kernel) (by decide +kernel), by decide +kernel, by decide +kernel, by decide +kernel⟩
theorem imX12_hasPlace : Cond.instanceMethod yX12_hasPlace ∈ LW := LW_of 1078 (by decide +kernel) (by decide +kernel)
theorem seX12_hasPlace : ∀ x ∈ [Cond.selects (yX12_hasPlace).cls yX12_hasPlace yX12_hasPlace], x ∈ lw_tbl := fun x hx => by rw [List.mem_singleton.mp hx]; exact List.mem_of_getElem? (i := 29) (by decide +kernel)
theorem ceX12_friend : CE yX12_friend cX12_friend 3 (some .int) 2 := ⟨LW_of 1087 (by decide +kernel) (by decide +kernel), LW_of 111 (by decide +kernel) (by decide +kernel), by decide +kernel, by decide +kernel, by decide +kernel⟩
theorem imX12_friend : Cond.instanceMethod yX12_friend ∈ LW := LW_of 1085 (by decide +kernel) (by decide +kernel)
theorem seX12_friend : ∀ x ∈ [Cond.selects (yX12_friend).cls yX12_friend yX12_friend], x ∈ lw_tbl := fun x hx => by rw [List.mem_singleton.mp hx]; exact List.mem_of_getElem? (i := 1086) (by decide +kernel)
theorem ceX12_needFriend : CE yX12_needFriend cX12_needFriend 2 none 1 := ⟨LW_of 1091 (by decide +kernel) (by decide +kernel), LW_of 111 (by decide +kernel) (by decide +kernel), by decide +kernel, by decide +kernel, by decide +kernel⟩
theorem imX12_needFriend : Cond.instanceMethod yX12_needFriend ∈ LW := LW_of 1090 (by decide +kernel) (by decide +kernel)
theorem seX12_needFriend : ∀ x ∈ [Cond.selects (yX12_needFriend).cls yX12_needFriend yX12_needFriend], x ∈ lw_tbl := fun x hx => by rw [List.mem_singleton.mp hx]; exact List.mem_of_getElem? (i := 30) (by decide +kernel)
theorem ceX12_change : CE yX12_change cX12_change 6 (some .int) 3 := ⟨LW_of 1100 (by decide +kernel) (by decide +kernel), LW_of 111 (by decide +kernel) (by decide +kernel), by decide +kernel, by decide +kernel, by decide +kernel⟩
theorem imX12_change : Cond.instanceMethod yX12_change ∈ LW := LW_of 1098 (by decide +kernel) (by decide +kernel)
theorem seX12_change : ∀ x ∈ [Cond.selects (yX12_change).cls yX12_change yX12_change], x ∈ lw_tbl := fun x hx => by rw [List.mem_singleton.mp hx]; exact List.mem_of_getElem? (i := 1099) (by decide +kernel)
theorem ceX12_gift : CE yX12_gift cX12_gift 4 (some .int) 2 := ⟨LW_of 1107 (by decide +kernel) (by decide +kernel), LW_of 111 (by decide +kernel) (by decide +kernel), by decide +kernel, by decide +kernel, by decide +kernel⟩
theorem imX12_gift : Cond.instanceMethod yX12_gift ∈ LW := LW_of 1105 (by decide +kernel) (by decide +kernel)
theorem seX12_gift : ∀ x ∈ [Cond.selects (yX12_gift).cls yX12_gift yX12_gift], x ∈ lw_tbl := fun x hx => by rw [List.mem_singleton.mp hx]; exact List.mem_of_getElem? (i := 1106) (by decide +kernel)
theorem ceX12_then : CE yX12_then cX12_then 3 (some .int) 2 := ⟨LW_of 1115 (by decide +kernel) (by decide +kernel), LW_of 111 (by decide +kernel) (by decide +kernel), by decide +kernel, by decide +kernel, by decide +kernel⟩
theorem imX12_then : Cond.instanceMethod yX12_then ∈ LW := LW_of 1113 (by decide +kernel) (by decide +kernel)
theorem seX12_then : ∀ x ∈ [Cond.selects (yX12_then).cls yX12_then yX12_then], x ∈ lw_tbl := fun x hx => by rw [List.mem_singleton.mp hx]; exact List.mem_of_getElem? (i := 1114) (by decide +kernel)
theorem ceX12_needWhat : CE yX12_needWhat cX12_needWhat 3 none 2 := ⟨LW_of 1119 (by decide +kernel) (by decide +kernel), LW_of 111 (by decide +kernel) (by decide +kernel), by decide +kernel, by decide +kernel, by decide +kernel⟩
theorem imX12_needWhat : Cond.instanceMethod yX12_needWhat ∈ LW := LW_of 1118 (by decide +kernel) (by decide +kernel)
theorem seX12_needWhat : ∀ x ∈ [Cond.selects (yX12_needWhat).cls yX12_needWhat yX12_needWhat], x ∈ lw_tbl := fun x hx => by rw [List.mem_singleton.mp hx]; exact List.mem_of_getElem? (i := 31) (by decide +kernel)
theorem ceX12_needWithin : CE yX12_needWithin cX12_needWithin 4 none 3 := ⟨LW_of 1123 (by decide +kernel) (by decide +kernel), LW_of 111 (by decide +kernel) (by decide +kernel), by decide +kernel, by decide +kernel, by decide +kernel⟩
theorem imX12_needWithin : Cond.instanceMethod yX12_needWithin ∈ LW := LW_of 1122 (by decide +kernel) (by decide +kernel)
theorem seX12_needWithin : ∀ x ∈ [Cond.selects (yX12_needWithin).cls yX12_needWithin yX12_needWithin], x ∈ lw_tbl := fun x hx => by rw [List.mem_singleton.mp hx]; exact List.mem_of_getElem? (i := 32) (by decide +kernel)
theorem ceX12_stays : CE yX12_stays cX12_stays 3 (some .int) 1 := ⟨LW_of 1131 (by decide +kernel) (by decide +kernel), LW_of 111 (by decide +kernel) (by decide +kernel), by decide +kernel, by decide +kernel, by decide +kernel⟩
theorem imX12_stays : Cond.instanceMethod yX12_stays ∈ LW := LW_of 1129 (by decide +kernel) (by decide +kernel)
theorem seX12_stays : ∀ x ∈ [Cond.selects (yX12_stays).cls yX12_stays yX12_stays], x ∈ lw_tbl := fun x hx => by rw [List.mem_singleton.mp hx]; exact List.mem_of_getElem? (i := 1130) (by decide +kernel)
theorem ceX12_cost : CE yX12_cost cX12_cost 4 (some .int) 1 := ⟨LW_of 1138 (by decide +kernel) (by decide +kernel), LW_of 111 (by decide +kernel) (by decide +kernel), by decide +kernel, by decide +kernel, by decide +kernel⟩
theorem imX12_cost : Cond.instanceMethod yX12_cost ∈ LW := LW_of 1136 (by decide +kernel) (by decide +kernel)
theorem seX12_cost : ∀ x ∈ [Cond.selects (yX12_cost).cls yX12_cost yX12_cost], x ∈ lw_tbl := fun x hx => by rw [List.mem_singleton.mp hx]; exact List.mem_of_getElem? (i := 1137) (by decide +kernel)
theorem ceX3_wealth : CE yX3_wealth cX3_wealth 1 (some .int) 0 := ⟨LW_of 1142 (by decide +kernel) (by decide +kernel), LW_of 116 (by decide +kernel) (by decide +kernel), by decide +kernel, by decide +kernel, by decide +kernel⟩
theorem imX3_wealth : Cond.instanceMethod yX3_wealth ∈ LW := LW_of 1140 (by decide +kernel) (by decide +kernel)
theorem seX3_wealth : ∀ x ∈ [Cond.selects (yX3_wealth).cls yX3_wealth yX3_wealth], x ∈ lw_tbl := fun x hx => by rw [List.mem_singleton.mp hx]; exact List.mem_of_getElem? (i := 1141) (by decide +kernel)
theorem ceX7_passAlone : CE yX7_passAlone cX7_passAlone 2 none 1 := ⟨LW_of 1146 (by decide +kernel) (by decide +kernel), LW_of 120 (by decide +kernel) (by decide +kernel), by decide +kernel, by decide +kernel, by decide +kernel⟩
theorem imX7_passAlone : Cond.instanceMethod yX7_passAlone ∈ LW := LW_of 1144 (by decide +kernel) (by decide +kernel)
theorem seX7_passAlone : ∀ x ∈ [Cond.selects (yX7_passAlone).cls yX7_passAlone yX7_passAlone], x ∈ lw_tbl := fun x hx => by rw [List.mem_singleton.mp hx]; exact List.mem_of_getElem? (i := 1145) (by decide +kernel)
theorem ceX12_plan : CE yX12_plan cX12_plan 4 (some .int) 2 := ⟨LW_of 1153 (by decide +kernel) (by decide +kernel), LW_of 111 (by decide +kernel) (by decide +kernel), by decide +kernel, by decide +kernel, by decide +kernel⟩
theorem imX12_plan : Cond.instanceMethod yX12_plan ∈ LW := LW_of 1151 (by decide +kernel) (by decide +kernel)
theorem seX12_plan : ∀ x ∈ [Cond.selects (yX12_plan).cls yX12_plan yX12_plan], x ∈ lw_tbl := fun x hx => by rw [List.mem_singleton.mp hx]; exact List.mem_of_getElem? (i := 1152) (by decide +kernel)
theorem ceX2_planned : CE yX2_planned cX2_planned 3 (some .int) 2 := ⟨LW_of 1157 (by decide +kernel) (by decide +kernel), LW_of 121 (by decide +kernel) (by decide +kernel), by decide +kernel, by decide +kernel, by decide +kernel⟩
theorem imX2_planned : Cond.instanceMethod yX2_planned ∈ LW := LW_of 1155 (by decide +kernel) (by decide +kernel)
theorem seX2_planned : ∀ x ∈ [Cond.selects (yX2_planned).cls yX2_planned yX2_planned], x ∈ lw_tbl := fun x hx => by rw [List.mem_singleton.mp hx]; exact List.mem_of_getElem? (i := 1156) (by decide +kernel)
theorem ceX2_bestGain : CE yX2_bestGain cX2_bestGain 11 (some .int) 2 := ⟨LW_of 1162 (by decide +kernel) (by decide +kernel), LW_of 121 (by decide +kernel) (by decide +kernel), by decide +kernel, by decide +kernel, by decide +kernel⟩
theorem imX2_bestGain : Cond.instanceMethod yX2_bestGain ∈ LW := LW_of 1161 (by decide +kernel) (by decide +kernel)
theorem seX2_bestGain : ∀ x ∈ [Cond.selects (yX2_bestGain).cls yX2_bestGain yX2_bestGain], x ∈ lw_tbl := fun x hx => by rw [List.mem_singleton.mp hx]; exact List.mem_of_getElem? (i := 33) (by decide +kernel)
theorem ceX2_gainBehind : CE yX2_gainBehind cX2_gainBehind 8 (some .int) 3 := ⟨LW_of 1168 (by decide +kernel) (by decide +kernel), LW_of 121 (by decide +kernel) (by decide +kernel), by decide +kernel, by decide +kernel, by decide +kernel⟩
theorem imX2_gainBehind : Cond.instanceMethod yX2_gainBehind ∈ LW := LW_of 1167 (by decide +kernel) (by decide +kernel)
theorem seX2_gainBehind : ∀ x ∈ [Cond.selects (yX2_gainBehind).cls yX2_gainBehind yX2_gainBehind], x ∈ lw_tbl := fun x hx => by rw [List.mem_singleton.mp hx]; exact List.mem_of_getElem? (i := 34) (by decide +kernel)
theorem ceX12_wins : CE yX12_wins cX12_wins 3 (some .boolean) 2 := ⟨LW_of 1178 (by decide +kernel) (by decide +kernel), LW_of 111 (by decide +kernel) (by decide +kernel), by decide +kernel, by decide +kernel, by decide +kernel⟩
theorem imX12_wins : Cond.instanceMethod yX12_wins ∈ LW := LW_of 1176 (by decide +kernel) (by decide +kernel)
theorem seX12_wins : ∀ x ∈ [Cond.selects (yX12_wins).cls yX12_wins yX12_wins], x ∈ lw_tbl := fun x hx => by rw [List.mem_singleton.mp hx]; exact List.mem_of_getElem? (i := 1177) (by decide +kernel)
theorem ceX12_needChampion : CE yX12_needChampion cX12_needChampion 2 none 1 := ⟨LW_of 1182 (by decide +kernel) (by decide +kernel), LW_of 111 (by decide +kernel) (by decide +kernel), by decide +kernel, by decide +kernel, by decide +kernel⟩
theorem imX12_needChampion : Cond.instanceMethod yX12_needChampion ∈ LW := LW_of 1181 (by decide +kernel) (by decide +kernel)
theorem seX12_needChampion : ∀ x ∈ [Cond.selects (yX12_needChampion).cls yX12_needChampion yX12_needChampion], x ∈ lw_tbl := fun x hx => by rw [List.mem_singleton.mp hx]; exact List.mem_of_getElem? (i := 35) (by decide +kernel)
theorem ceX12_needGate : CE yX12_needGate cX12_needGate 2 none 1 := ⟨LW_of 1187 (by decide +kernel) (by decide +kernel), LW_of 111 (by decide +kernel) (by decide +kernel), by decide +kernel, by decide +kernel, by decide +kernel⟩
theorem imX12_needGate : Cond.instanceMethod yX12_needGate ∈ LW := LW_of 1186 (by decide +kernel) (by decide +kernel)
theorem seX12_needGate : ∀ x ∈ [Cond.selects (yX12_needGate).cls yX12_needGate yX12_needGate], x ∈ lw_tbl := fun x hx => by rw [List.mem_singleton.mp hx]; exact List.mem_of_getElem? (i := 36) (by decide +kernel)
theorem ceX12_edge : CE yX12_edge cX12_edge 5 (some .int) 2 := ⟨LW_of 1192 (by decide +kernel) (by decide +kernel), LW_of 111 (by decide +kernel) (by decide +kernel), by decide +kernel, by decide +kernel, by decide +kernel⟩
theorem imX12_edge : Cond.instanceMethod yX12_edge ∈ LW := LW_of 1191 (by decide +kernel) (by decide +kernel)
theorem seX12_edge : ∀ x ∈ [Cond.selects (yX12_edge).cls yX12_edge yX12_edge], x ∈ lw_tbl := fun x hx => by rw [List.mem_singleton.mp hx]; exact List.mem_of_getElem? (i := 37) (by decide +kernel)
theorem ceX12_assault : CE yX12_assault cX12_assault 5 (some .int) 1 := ⟨LW_of 1199 (by decide +kernel) (by decide +kernel), LW_of 111 (by decide +kernel) (by decide +kernel), by decide +kernel, by decide +kernel, by decide +kernel⟩
theorem imX12_assault : Cond.instanceMethod yX12_assault ∈ LW := LW_of 1197 (by decide +kernel) (by decide +kernel)
theorem seX12_assault : ∀ x ∈ [Cond.selects (yX12_assault).cls yX12_assault yX12_assault], x ∈ lw_tbl := fun x hx => by rw [List.mem_singleton.mp hx]; exact List.mem_of_getElem? (i := 1198) (by decide +kernel)
theorem ceX12_fillReach : CE yX12_fillReach cX12_fillReach 8 none 1 := ⟨LW_of 1203 (by decide +kernel) (by decide +kernel), LW_of 111 (by decide +kernel) (by decide +kernel), by decide +kernel, by decide +kernel, by decide +kernel⟩
theorem imX12_fillReach : Cond.instanceMethod yX12_fillReach ∈ LW := LW_of 1202 (by decide +kernel) (by decide +kernel)
theorem seX12_fillReach : ∀ x ∈ [Cond.selects (yX12_fillReach).cls yX12_fillReach yX12_fillReach], x ∈ lw_tbl := fun x hx => by rw [List.mem_singleton.mp hx]; exact List.mem_of_getElem? (i := 38) (by decide +kernel)
theorem ceX12_beatenBy : CE yX12_beatenBy cX12_beatenBy 4 (some .int) 1 := ⟨LW_of 1207 (by decide +kernel) (by decide +kernel), LW_of 111 (by decide +kernel) (by decide +kernel), by decide +kernel, by decide +kernel, by decide +kernel⟩
theorem imX12_beatenBy : Cond.instanceMethod yX12_beatenBy ∈ LW := LW_of 1206 (by decide +kernel) (by decide +kernel)
theorem seX12_beatenBy : ∀ x ∈ [Cond.selects (yX12_beatenBy).cls yX12_beatenBy yX12_beatenBy], x ∈ lw_tbl := fun x hx => by rw [List.mem_singleton.mp hx]; exact List.mem_of_getElem? (i := 39) (by decide +kernel)
theorem ceX12_bestGate : CE yX12_bestGate cX12_bestGate 8 (some .int) 2 := ⟨LW_of 1211 (by decide +kernel) (by decide +kernel), LW_of 111 (by decide +kernel) (by decide +kernel), by decide +kernel, by decide +kernel, by decide +kernel⟩
theorem imX12_bestGate : Cond.instanceMethod yX12_bestGate ∈ LW := LW_of 1210 (by decide +kernel) (by decide +kernel)
theorem seX12_bestGate : ∀ x ∈ [Cond.selects (yX12_bestGate).cls yX12_bestGate yX12_bestGate], x ∈ lw_tbl := fun x hx => by rw [List.mem_singleton.mp hx]; exact List.mem_of_getElem? (i := 40) (by decide +kernel)
theorem ceX12_bought : CE yX12_bought cX12_bought 7 (some .int) 1 := ⟨LW_of 1218 (by decide +kernel) (by decide +kernel), LW_of 111 (by decide +kernel) (by decide +kernel), by decide +kernel, by decide +kernel, by decide +kernel⟩
theorem imX12_bought : Cond.instanceMethod yX12_bought ∈ LW := LW_of 1216 (by decide +kernel) (by decide +kernel)
theorem seX12_bought : ∀ x ∈ [Cond.selects (yX12_bought).cls yX12_bought yX12_bought], x ∈ lw_tbl := fun x hx => by rw [List.mem_singleton.mp hx]; exact List.mem_of_getElem? (i := 1217) (by decide +kernel)
theorem ceJ6_bitCount_0f7a4 : CE yJ6_bitCount_0f7a4 cJ6_bitCount_0f7a4 1 (some .int) 1 := ⟨LW_of 1221 (by decide +kernel) (by decide +kernel), LW_of 137 (by decide +kernel) (by decide +kernel), by decide +kernel, by decide +kernel, by decide +kernel⟩
theorem smJ6_bitCount_0f7a4 : Cond.static yJ6_bitCount_0f7a4 ∈ LW := LW_of 1220 (by decide +kernel) (by decide +kernel)
theorem ceX12_odds : CE yX12_odds cX12_odds 7 (some .int) 3 := ⟨LW_of 1231 (by decide +kernel) (by decide +kernel), LW_of 111 (by decide +kernel) (by decide +kernel), by decide +kernel, by decide +kernel, by decide +kernel⟩
theorem imX12_odds : Cond.instanceMethod yX12_odds ∈ LW := LW_of 1229 (by decide +kernel) (by decide +kernel)
theorem seX12_odds : ∀ x ∈ [Cond.selects (yX12_odds).cls yX12_odds yX12_odds], x ∈ lw_tbl := fun x hx => by rw [List.mem_singleton.mp hx]; exact List.mem_of_getElem? (i := 1230) (by decide +kernel)
theorem ceX12_chances : CE yX12_chances cX12_chances 6 (some .int) 3 := ⟨LW_of 1235 (by decide +kernel) (by decide +kernel), LW_of 111 (by decide +kernel) (by decide +kernel), by decide +kernel, by decide +kernel, by decide +kernel⟩
theorem imX12_chances : Cond.instanceMethod yX12_chances ∈ LW := LW_of 1234 (by decide +kernel) (by decide +kernel)
theorem seX12_chances : ∀ x ∈ [Cond.selects (yX12_chances).cls yX12_chances yX12_chances], x ∈ lw_tbl := fun x hx => by rw [List.mem_singleton.mp hx]; exact List.mem_of_getElem? (i := 41) (by decide +kernel)
theorem ceX12_moved : CE yX12_moved cX12_moved 3 (some .int) 2 := ⟨LW_of 1242 (by decide +kernel) (by decide +kernel), LW_of 111 (by decide +kernel) (by decide +kernel), by decide +kernel, by decide +kernel, by decide +kernel⟩
theorem imX12_moved : Cond.instanceMethod yX12_moved ∈ LW := LW_of 1240 (by decide +kernel) (by decide +kernel)
theorem seX12_moved : ∀ x ∈ [Cond.selects (yX12_moved).cls yX12_moved yX12_moved], x ∈ lw_tbl := fun x hx => by rw [List.mem_singleton.mp hx]; exact List.mem_of_getElem? (i := 1241) (by decide +kernel)
theorem ceX12_parties : CE yX12_parties cX12_parties 5 (some .int) 1 := ⟨LW_of 1249 (by decide +kernel) (by decide +kernel), LW_of 111 (by decide +kernel) (by decide +kernel), by decide +kernel, by decide +kernel, by decide +kernel⟩
theorem imX12_parties : Cond.instanceMethod yX12_parties ∈ LW := LW_of 1247 (by decide +kernel) (by decide +kernel)
theorem seX12_parties : ∀ x ∈ [Cond.selects (yX12_parties).cls yX12_parties yX12_parties], x ∈ lw_tbl := fun x hx => by rw [List.mem_singleton.mp hx]; exact List.mem_of_getElem? (i := 1248) (by decide +kernel)
theorem ceX12_rests : CE yX12_rests cX12_rests 8 (some .boolean) 1 := ⟨LW_of 1253 (by decide +kernel) (by decide +kernel), LW_of 111 (by decide +kernel) (by decide +kernel), by decide +kernel, by decide +kernel, by decide +kernel⟩
theorem imX12_rests : Cond.instanceMethod yX12_rests ∈ LW := LW_of 1252 (by decide +kernel) (by decide +kernel)
theorem seX12_rests : ∀ x ∈ [Cond.selects (yX12_rests).cls yX12_rests yX12_rests], x ∈ lw_tbl := fun x hx => by rw [List.mem_singleton.mp hx]; exact List.mem_of_getElem? (i := 42) (by decide +kernel)
theorem ceX12_another : CE yX12_another cX12_another 6 (some .int) 1 := ⟨LW_of 1260 (by decide +kernel) (by decide +kernel), LW_of 111 (by decide +kernel) (by decide +kernel), by decide +kernel, by decide +kernel, by decide +kernel⟩
theorem imX12_another : Cond.instanceMethod yX12_another ∈ LW := LW_of 1258 (by decide +kernel) (by decide +kernel)
theorem seX12_another : ∀ x ∈ [Cond.selects (yX12_another).cls yX12_another yX12_another], x ∈ lw_tbl := fun x hx => by rw [List.mem_singleton.mp hx]; exact List.mem_of_getElem? (i := 1259) (by decide +kernel)
theorem ceX9_last : CE yX9_last cX9_last 3 (some .int) 0 := ⟨LW_of 1264 (by decide +kernel) (by decide +kernel), LW_of 123 (by decide +kernel) (by decide +kernel), by decide +kernel, by decide +kernel, by decide +kernel⟩
theorem imX9_last : Cond.instanceMethod yX9_last ∈ LW := LW_of 1262 (by decide +kernel) (by decide +kernel)
theorem seX9_last : ∀ x ∈ [Cond.selects (yX9_last).cls yX9_last yX9_last], x ∈ lw_tbl := fun x hx => by rw [List.mem_singleton.mp hx]; exact List.mem_of_getElem? (i := 1263) (by decide +kernel)
theorem ceX2_fits : CE yX2_fits cX2_fits 8 (some .boolean) 5 := ⟨LW_of 1269 (by decide +kernel) (by decide +kernel), LW_of 121 (by decide +kernel) (by decide +kernel), by decide +kernel, by decide +kernel, by decide +kernel⟩
theorem imX2_fits : Cond.instanceMethod yX2_fits ∈ LW := LW_of 1267 (by decide +kernel) (by decide +kernel)
theorem seX2_fits : ∀ x ∈ [Cond.selects (yX2_fits).cls yX2_fits yX2_fits], x ∈ lw_tbl := fun x hx => by rw [List.mem_singleton.mp hx]; exact List.mem_of_getElem? (i := 1268) (by decide +kernel)
theorem ceX9_allows : CE yX9_allows cX9_allows 4 (some .boolean) 2 := ⟨LW_of 1275 (by decide +kernel) (by decide +kernel), LW_of 123 (by decide +kernel) (by decide +kernel), by decide +kernel, by decide +kernel, by decide +kernel⟩
theorem imX9_allows : Cond.instanceMethod yX9_allows ∈ LW := LW_of 1273 (by decide +kernel) (by decide +kernel)
theorem seX9_allows : ∀ x ∈ [Cond.selects (yX9_allows).cls yX9_allows yX9_allows], x ∈ lw_tbl := fun x hx => by rw [List.mem_singleton.mp hx]; exact List.mem_of_getElem? (i := 1274) (by decide +kernel)
theorem ceX12_next : CE yX12_next cX12_next 5 (some .int) 1 := ⟨LW_of 1282 (by decide +kernel) (by decide +kernel), LW_of 111 (by decide +kernel) (by decide +kernel), by decide +kernel, by decide +kernel, by decide +kernel⟩
theorem imX12_next : Cond.instanceMethod yX12_next ∈ LW := LW_of 1280 (by decide +kernel) (by decide +kernel)
theorem seX12_next : ∀ x ∈ [Cond.selects (yX12_next).cls yX12_next yX12_next], x ∈ lw_tbl := fun x hx => by rw [List.mem_singleton.mp hx]; exact List.mem_of_getElem? (i := 1281) (by decide +kernel)
theorem ceX2_survey : CE yX2_survey cX2_survey 5 none 2 := ⟨LW_of 1286 (by decide +kernel) (by decide +kernel), LW_of 121 (by decide +kernel) (by decide +kernel), by decide +kernel, by decide +kernel, by decide +kernel⟩
theorem imX2_survey : Cond.instanceMethod yX2_survey ∈ LW := LW_of 1284 (by decide +kernel) (by decide +kernel)
theorem seX2_survey : ∀ x ∈ [Cond.selects (yX2_survey).cls yX2_survey yX2_survey], x ∈ lw_tbl := fun x hx => by rw [List.mem_singleton.mp hx]; exact List.mem_of_getElem? (i := 1285) (by decide +kernel)
theorem ceX2_markStores : CE yX2_markStores cX2_markStores 6 none 0 := ⟨LW_of 1291 (by decide +kernel) (by decide +kernel), LW_of 121 (by decide +kernel) (by decide +kernel), by decide +kernel, by decide +kernel, by decide +kernel⟩
theorem imX2_markStores : Cond.instanceMethod yX2_markStores ∈ LW := LW_of 1290 (by decide +kernel) (by decide +kernel)
theorem seX2_markStores : ∀ x ∈ [Cond.selects (yX2_markStores).cls yX2_markStores yX2_markStores], x ∈ lw_tbl := fun x hx => by rw [List.mem_singleton.mp hx]; exact List.mem_of_getElem? (i := 43) (by decide +kernel)
theorem ceX12_game : CE yX12_game cX12_game 7 (some .int) 3 := ⟨LW_of 1298 (by decide +kernel) (by decide +kernel), LW_of 111 (by decide +kernel) (by decide +kernel), by decide +kernel, by decide +kernel, by decide +kernel⟩
theorem imX12_game : Cond.instanceMethod yX12_game ∈ LW := LW_of 1296 (by decide +kernel) (by decide +kernel)
theorem seX12_game : ∀ x ∈ [Cond.selects (yX12_game).cls yX12_game yX12_game], x ∈ lw_tbl := fun x hx => by rw [List.mem_singleton.mp hx]; exact List.mem_of_getElem? (i := 1297) (by decide +kernel)
theorem ceX2_playOut : CE yX2_playOut cX2_playOut 10 none 3 := ⟨LW_of 1303 (by decide +kernel) (by decide +kernel), LW_of 121 (by decide +kernel) (by decide +kernel), by decide +kernel, by decide +kernel, by decide +kernel⟩
theorem imX2_playOut : Cond.instanceMethod yX2_playOut ∈ LW := LW_of 1301 (by decide +kernel) (by decide +kernel)
theorem seX2_playOut : ∀ x ∈ [Cond.selects (yX2_playOut).cls yX2_playOut yX2_playOut], x ∈ lw_tbl := fun x hx => by rw [List.mem_singleton.mp hx]; exact List.mem_of_getElem? (i := 1302) (by decide +kernel)
theorem ceX2_isAtRest : CE yX2_isAtRest cX2_isAtRest 2 (some .boolean) 1 := ⟨LW_of 1307 (by decide +kernel) (by decide +kernel), LW_of 121 (by decide +kernel) (by decide +kernel), by decide +kernel, by decide +kernel, by decide +kernel⟩
theorem imX2_isAtRest : Cond.instanceMethod yX2_isAtRest ∈ LW := LW_of 1305 (by decide +kernel) (by decide +kernel)
theorem seX2_isAtRest : ∀ x ∈ [Cond.selects (yX2_isAtRest).cls yX2_isAtRest yX2_isAtRest], x ∈ lw_tbl := fun x hx => by rw [List.mem_singleton.mp hx]; exact List.mem_of_getElem? (i := 1306) (by decide +kernel)
theorem ceX12_cities : CE yX12_cities cX12_cities 7 (some .int) 3 := ⟨LW_of 1314 (by decide +kernel) (by decide +kernel), LW_of 111 (by decide +kernel) (by decide +kernel), by decide +kernel, by decide +kernel, by decide +kernel⟩
theorem imX12_cities : Cond.instanceMethod yX12_cities ∈ LW := LW_of 1312 (by decide +kernel) (by decide +kernel)
theorem seX12_cities : ∀ x ∈ [Cond.selects (yX12_cities).cls yX12_cities yX12_cities], x ∈ lw_tbl := fun x hx => by rw [List.mem_singleton.mp hx]; exact List.mem_of_getElem? (i := 1313) (by decide +kernel)
theorem ceX12_followingSeed : CE yX12_followingSeed cX12_followingSeed 1 (some .int) 1 := ⟨LW_of 1317 (by decide +kernel) (by decide +kernel), LW_of 111 (by decide +kernel) (by decide +kernel), by decide +kernel, by decide +kernel, by decide +kernel⟩
theorem smX12_followingSeed : Cond.static yX12_followingSeed ∈ LW := LW_of 1316 (by decide +kernel) (by decide +kernel)
theorem ceX12_highest : CE yX12_highest cX12_highest 5 (some .int) 1 := ⟨LW_of 1327 (by decide +kernel) (by decide +kernel), LW_of 111 (by decide +kernel) (by decide +kernel), by decide +kernel, by decide +kernel, by decide +kernel⟩
theorem imX12_highest : Cond.instanceMethod yX12_highest ∈ LW := LW_of 1325 (by decide +kernel) (by decide +kernel)
theorem seX12_highest : ∀ x ∈ [Cond.selects (yX12_highest).cls yX12_highest yX12_highest], x ∈ lw_tbl := fun x hx => by rw [List.mem_singleton.mp hx]; exact List.mem_of_getElem? (i := 1326) (by decide +kernel)
theorem ceX12_better : CE yX12_better cX12_better 7 (some .int) 1 := ⟨LW_of 1334 (by decide +kernel) (by decide +kernel), LW_of 111 (by decide +kernel) (by decide +kernel), by decide +kernel, by decide +kernel, by decide +kernel⟩
theorem imX12_better : Cond.instanceMethod yX12_better ∈ LW := LW_of 1332 (by decide +kernel) (by decide +kernel)
theorem seX12_better : ∀ x ∈ [Cond.selects (yX12_better).cls yX12_better yX12_better], x ∈ lw_tbl := fun x hx => by rw [List.mem_singleton.mp hx]; exact List.mem_of_getElem? (i := 1333) (by decide +kernel)
theorem ceJ9_abs_0f7a4 : CE yJ9_abs_0f7a4 cJ9_abs_0f7a4 1 (some .int) 1 := ⟨LW_of 1337 (by decide +kernel) (by decide +kernel), LW_of 129 (by decide +kernel) (by decide +kernel), by decide +kernel, by decide +kernel, by decide +kernel⟩
theorem smJ9_abs_0f7a4 : Cond.static yJ9_abs_0f7a4 ∈ LW := LW_of 1336 (by decide +kernel) (by decide +kernel)
theorem ceX12_guarded : CE yX12_guarded cX12_guarded 4 (some .int) 1 := ⟨LW_of 1344 (by decide +kernel) (by decide +kernel), LW_of 111 (by decide +kernel) (by decide +kernel), by decide +kernel, by decide +kernel, by decide +kernel⟩
theorem imX12_guarded : Cond.instanceMethod yX12_guarded ∈ LW := LW_of 1342 (by decide +kernel) (by decide +kernel)
theorem seX12_guarded : ∀ x ∈ [Cond.selects (yX12_guarded).cls yX12_guarded yX12_guarded], x ∈ lw_tbl := fun x hx => by rw [List.mem_singleton.mp hx]; exact List.mem_of_getElem? (i := 1343) (by decide +kernel)
theorem ceX12_swap : CE yX12_swap cX12_swap 8 (some .int) 1 := ⟨LW_of 1351 (by decide +kernel) (by decide +kernel), LW_of 111 (by decide +kernel) (by decide +kernel), by decide +kernel, by decide +kernel, by decide +kernel⟩
theorem imX12_swap : Cond.instanceMethod yX12_swap ∈ LW := LW_of 1349 (by decide +kernel) (by decide +kernel)
theorem seX12_swap : ∀ x ∈ [Cond.selects (yX12_swap).cls yX12_swap yX12_swap], x ∈ lw_tbl := fun x hx => by rw [List.mem_singleton.mp hx]; exact List.mem_of_getElem? (i := 1350) (by decide +kernel)
theorem ceX12_gloryWithSwap : CE yX12_gloryWithSwap cX12_gloryWithSwap 5 (some .int) 3 := ⟨LW_of 1355 (by decide +kernel) (by decide +kernel), LW_of 111 (by decide +kernel) (by decide +kernel), by decide +kernel, by decide +kernel, by decide +kernel⟩
theorem imX12_gloryWithSwap : Cond.instanceMethod yX12_gloryWithSwap ∈ LW := LW_of 1354 (by decide +kernel) (by decide +kernel)
theorem seX12_gloryWithSwap : ∀ x ∈ [Cond.selects (yX12_gloryWithSwap).cls yX12_gloryWithSwap yX12_gloryWithSwap], x ∈ lw_tbl := fun x hx => by rw [List.mem_singleton.mp hx]; exact List.mem_of_getElem? (i := 44) (by decide +kernel)
theorem ceX13_init : CE yX13_init cX13_init 1 none 0 := ⟨LW_of 1360 (by decide +kernel) (by decide +kernel), LW_of 124 (by decide +kernel) (by decide +kernel), by decide +kernel, by decide +kernel, by decide +kernel⟩
theorem imX13_init : Cond.instanceMethod yX13_init ∈ LW := LW_of 1359 (by decide +kernel) (by decide +kernel)
theorem ceX13_thrown : CE yX13_thrown cX13_thrown 1 (some .int) 0 := ⟨LW_of 1607 (by decide +kernel) (by decide +kernel), LW_of 124 (by decide +kernel) (by decide +kernel), by decide +kernel, by decide +kernel, by decide +kernel⟩
theorem imX13_thrown : Cond.instanceMethod yX13_thrown ∈ LW := LW_of 1605 (by decide +kernel) (by decide +kernel)
theorem seX13_thrown : ∀ x ∈ [Cond.selects (yX13_thrown).cls yX13_thrown yX13_thrown], x ∈ lw_tbl := fun x hx => by rw [List.mem_singleton.mp hx]; exact List.mem_of_getElem? (i := 1606) (by decide +kernel)
theorem ceX13_feed : CE yX13_feed cX13_feed 6 (some .int) 5 := ⟨LW_of 1611 (by decide +kernel) (by decide +kernel), LW_of 124 (by decide +kernel) (by decide +kernel), by decide +kernel, by decide +kernel, by decide +kernel⟩
theorem imX13_feed : Cond.instanceMethod yX13_feed ∈ LW := LW_of 1609 (by decide +kernel) (by decide +kernel)
theorem seX13_feed : ∀ x ∈ [Cond.selects (yX13_feed).cls yX13_feed yX13_feed], x ∈ lw_tbl := fun x hx => by rw [List.mem_singleton.mp hx]; exact List.mem_of_getElem? (i := 1610) (by decide +kernel)
theorem ceX13_lays : CE yX13_lays cX13_lays 3 none 1 := ⟨LW_of 1615 (by decide +kernel) (by decide +kernel), LW_of 124 (by decide +kernel) (by decide +kernel), by decide +kernel, by decide +kernel, by decide +kernel⟩
theorem imX13_lays : Cond.instanceMethod yX13_lays ∈ LW := LW_of 1614 (by decide +kernel) (by decide +kernel)
theorem seX13_lays : ∀ x ∈ [Cond.selects (yX13_lays).cls yX13_lays yX13_lays], x ∈ lw_tbl := fun x hx => by rw [List.mem_singleton.mp hx]; exact List.mem_of_getElem? (i := 45) (by decide +kernel)
theorem ceX13_land : CE yX13_land cX13_land 3 (some .int) 1 := ⟨LW_of 1619 (by decide +kernel) (by decide +kernel), LW_of 124 (by decide +kernel) (by decide +kernel), by decide +kernel, by decide +kernel, by decide +kernel⟩
theorem imX13_land : Cond.instanceMethod yX13_land ∈ LW := LW_of 1617 (by decide +kernel) (by decide +kernel)
theorem seX13_land : ∀ x ∈ [Cond.selects (yX13_land).cls yX13_land yX13_land], x ∈ lw_tbl := fun x hx => by rw [List.mem_singleton.mp hx]; exact List.mem_of_getElem? (i := 1618) (by decide +kernel)
theorem ceX13_right : CE yX13_right cX13_right 3 (some .boolean) 2 := ⟨LW_of 1623 (by decide +kernel) (by decide +kernel), LW_of 124 (by decide +kernel) (by decide +kernel), by decide +kernel, by decide +kernel, by decide +kernel⟩
theorem imX13_right : Cond.instanceMethod yX13_right ∈ LW := LW_of 1622 (by decide +kernel) (by decide +kernel)
theorem seX13_right : ∀ x ∈ [Cond.selects (yX13_right).cls yX13_right yX13_right], x ∈ lw_tbl := fun x hx => by rw [List.mem_singleton.mp hx]; exact List.mem_of_getElem? (i := 46) (by decide +kernel)
theorem ceX13_goes : CE yX13_goes cX13_goes 2 none 0 := ⟨LW_of 1627 (by decide +kernel) (by decide +kernel), LW_of 124 (by decide +kernel) (by decide +kernel), by decide +kernel, by decide +kernel, by decide +kernel⟩
theorem imX13_goes : Cond.instanceMethod yX13_goes ∈ LW := LW_of 1626 (by decide +kernel) (by decide +kernel)
theorem seX13_goes : ∀ x ∈ [Cond.selects (yX13_goes).cls yX13_goes yX13_goes], x ∈ lw_tbl := fun x hx => by rw [List.mem_singleton.mp hx]; exact List.mem_of_getElem? (i := 47) (by decide +kernel)
theorem ceX13_byteAt : CE yX13_byteAt cX13_byteAt 2 (some .int) 1 := ⟨LW_of 1631 (by decide +kernel) (by decide +kernel), LW_of 124 (by decide +kernel) (by decide +kernel), by decide +kernel, by decide +kernel, by decide +kernel⟩
theorem imX13_byteAt : Cond.instanceMethod yX13_byteAt ∈ LW := LW_of 1630 (by decide +kernel) (by decide +kernel)
theorem seX13_byteAt : ∀ x ∈ [Cond.selects (yX13_byteAt).cls yX13_byteAt yX13_byteAt], x ∈ lw_tbl := fun x hx => by rw [List.mem_singleton.mp hx]; exact List.mem_of_getElem? (i := 48) (by decide +kernel)
theorem ceX13_isLetter : CE yX13_isLetter cX13_isLetter 1 (some .boolean) 1 := ⟨LW_of 1634 (by decide +kernel) (by decide +kernel), LW_of 124 (by decide +kernel) (by decide +kernel), by decide +kernel, by decide +kernel, by decide +kernel⟩
theorem smX13_isLetter : Cond.static yX13_isLetter ∈ LW := LW_of 1633 (by decide +kernel) (by decide +kernel)
theorem ceX13_isDigit : CE yX13_isDigit cX13_isDigit 1 (some .boolean) 1 := ⟨LW_of 1637 (by decide +kernel) (by decide +kernel), LW_of 124 (by decide +kernel) (by decide +kernel), by decide +kernel, by decide +kernel, by decide +kernel⟩
theorem smX13_isDigit : Cond.static yX13_isDigit ∈ LW := LW_of 1636 (by decide +kernel) (by decide +kernel)
theorem ceX13_isGood : CE yX13_isGood cX13_isGood 1 (some .boolean) 0 := ⟨LW_of 1641 (by decide +kernel) (by decide +kernel), LW_of 124 (by decide +kernel) (by decide +kernel), by decide +kernel, by decide +kernel, by decide +kernel⟩
theorem imX13_isGood : Cond.instanceMethod yX13_isGood ∈ LW := LW_of 1640 (by decide +kernel) (by decide +kernel)
theorem seX13_isGood : ∀ x ∈ [Cond.selects (yX13_isGood).cls yX13_isGood yX13_isGood], x ∈ lw_tbl := fun x hx => by rw [List.mem_singleton.mp hx]; exact List.mem_of_getElem? (i := 49) (by decide +kernel)
theorem ceX13_line : CE yX13_line cX13_line 2 none 0 := ⟨LW_of 1645 (by decide +kernel) (by decide +kernel), LW_of 124 (by decide +kernel) (by decide +kernel), by decide +kernel, by decide +kernel, by decide +kernel⟩
theorem imX13_line : Cond.instanceMethod yX13_line ∈ LW := LW_of 1644 (by decide +kernel) (by decide +kernel)
theorem seX13_line : ∀ x ∈ [Cond.selects (yX13_line).cls yX13_line yX13_line], x ∈ lw_tbl := fun x hx => by rw [List.mem_singleton.mp hx]; exact List.mem_of_getElem? (i := 50) (by decide +kernel)
theorem ceX13_knownWord : CE yX13_knownWord cX13_knownWord 2 (some .int) 0 := ⟨LW_of 1649 (by decide +kernel) (by decide +kernel), LW_of 124 (by decide +kernel) (by decide +kernel), by decide +kernel, by decide +kernel, by decide +kernel⟩
theorem imX13_knownWord : Cond.instanceMethod yX13_knownWord ∈ LW := LW_of 1648 (by decide +kernel) (by decide +kernel)
theorem seX13_knownWord : ∀ x ∈ [Cond.selects (yX13_knownWord).cls yX13_knownWord yX13_knownWord], x ∈ lw_tbl := fun x hx => by rw [List.mem_singleton.mp hx]; exact List.mem_of_getElem? (i := 51) (by decide +kernel)
theorem ceX13_letters : CE yX13_letters cX13_letters 1 (some .long) 1 := ⟨LW_of 1652 (by decide +kernel) (by decide +kernel), LW_of 124 (by decide +kernel) (by decide +kernel), by decide +kernel, by decide +kernel, by decide +kernel⟩
theorem smX13_letters : Cond.static yX13_letters ∈ LW := LW_of 1651 (by decide +kernel) (by decide +kernel)
theorem ceX13_spelled : CE yX13_spelled cX13_spelled 10 (some .long) 8 := ⟨LW_of 1655 (by decide +kernel) (by decide +kernel), LW_of 124 (by decide +kernel) (by decide +kernel), by decide +kernel, by decide +kernel, by decide +kernel⟩
theorem smX13_spelled : Cond.static yX13_spelled ∈ LW := LW_of 1654 (by decide +kernel) (by decide +kernel)
theorem ceX13_readsCity : CE yX13_readsCity cX13_readsCity 1 none 0 := ⟨LW_of 1660 (by decide +kernel) (by decide +kernel), LW_of 124 (by decide +kernel) (by decide +kernel), by decide +kernel, by decide +kernel, by decide +kernel⟩
theorem imX13_readsCity : Cond.instanceMethod yX13_readsCity ∈ LW := LW_of 1659 (by decide +kernel) (by decide +kernel)
theorem seX13_readsCity : ∀ x ∈ [Cond.selects (yX13_readsCity).cls yX13_readsCity yX13_readsCity], x ∈ lw_tbl := fun x hx => by rw [List.mem_singleton.mp hx]; exact List.mem_of_getElem? (i := 52) (by decide +kernel)
theorem ceX13_wrong : CE yX13_wrong cX13_wrong 2 none 1 := ⟨LW_of 1664 (by decide +kernel) (by decide +kernel), LW_of 124 (by decide +kernel) (by decide +kernel), by decide +kernel, by decide +kernel, by decide +kernel⟩
theorem imX13_wrong : Cond.instanceMethod yX13_wrong ∈ LW := LW_of 1663 (by decide +kernel) (by decide +kernel)
theorem seX13_wrong : ∀ x ∈ [Cond.selects (yX13_wrong).cls yX13_wrong yX13_wrong], x ∈ lw_tbl := fun x hx => by rw [List.mem_singleton.mp hx]; exact List.mem_of_getElem? (i := 53) (by decide +kernel)
theorem ceX13_number : CE yX13_number cX13_number 4 (some .int) 2 := ⟨LW_of 1668 (by decide +kernel) (by decide +kernel), LW_of 124 (by decide +kernel) (by decide +kernel), by decide +kernel, by decide +kernel, by decide +kernel⟩
theorem imX13_number : Cond.instanceMethod yX13_number ∈ LW := LW_of 1667 (by decide +kernel) (by decide +kernel)
theorem seX13_number : ∀ x ∈ [Cond.selects (yX13_number).cls yX13_number yX13_number], x ∈ lw_tbl := fun x hx => by rw [List.mem_singleton.mp hx]; exact List.mem_of_getElem? (i := 54) (by decide +kernel)
theorem ceX13_readsDeed : CE yX13_readsDeed cX13_readsDeed 1 none 0 := ⟨LW_of 1672 (by decide +kernel) (by decide +kernel), LW_of 124 (by decide +kernel) (by decide +kernel), by decide +kernel, by decide +kernel, by decide +kernel⟩
theorem imX13_readsDeed : Cond.instanceMethod yX13_readsDeed ∈ LW := LW_of 1671 (by decide +kernel) (by decide +kernel)
theorem seX13_readsDeed : ∀ x ∈ [Cond.selects (yX13_readsDeed).cls yX13_readsDeed yX13_readsDeed], x ∈ lw_tbl := fun x hx => by rw [List.mem_singleton.mp hx]; exact List.mem_of_getElem? (i := 55) (by decide +kernel)
theorem ceX13_signed : CE yX13_signed cX13_signed 4 (some .int) 1 := ⟨LW_of 1676 (by decide +kernel) (by decide +kernel), LW_of 124 (by decide +kernel) (by decide +kernel), by decide +kernel, by decide +kernel, by decide +kernel⟩
theorem imX13_signed : Cond.instanceMethod yX13_signed ∈ LW := LW_of 1675 (by decide +kernel) (by decide +kernel)
theorem seX13_signed : ∀ x ∈ [Cond.selects (yX13_signed).cls yX13_signed yX13_signed], x ∈ lw_tbl := fun x hx => by rw [List.mem_singleton.mp hx]; exact List.mem_of_getElem? (i := 56) (by decide +kernel)
theorem ceX13_isSign : CE yX13_isSign cX13_isSign 2 (some .boolean) 1 := ⟨LW_of 1680 (by decide +kernel) (by decide +kernel), LW_of 124 (by decide +kernel) (by decide +kernel), by decide +kernel, by decide +kernel, by decide +kernel⟩
theorem imX13_isSign : Cond.instanceMethod yX13_isSign ∈ LW := LW_of 1679 (by decide +kernel) (by decide +kernel)
theorem seX13_isSign : ∀ x ∈ [Cond.selects (yX13_isSign).cls yX13_isSign yX13_isSign], x ∈ lw_tbl := fun x hx => by rw [List.mem_singleton.mp hx]; exact List.mem_of_getElem? (i := 57) (by decide +kernel)
theorem ceX13_readsWay : CE yX13_readsWay cX13_readsWay 4 none 1 := ⟨LW_of 1684 (by decide +kernel) (by decide +kernel), LW_of 124 (by decide +kernel) (by decide +kernel), by decide +kernel, by decide +kernel, by decide +kernel⟩
theorem imX13_readsWay : Cond.instanceMethod yX13_readsWay ∈ LW := LW_of 1683 (by decide +kernel) (by decide +kernel)
theorem seX13_readsWay : ∀ x ∈ [Cond.selects (yX13_readsWay).cls yX13_readsWay yX13_readsWay], x ∈ lw_tbl := fun x hx => by rw [List.mem_singleton.mp hx]; exact List.mem_of_getElem? (i := 58) (by decide +kernel)
theorem ceX13_among : CE yX13_among cX13_among 3 (some .int) 1 := ⟨LW_of 1688 (by decide +kernel) (by decide +kernel), LW_of 124 (by decide +kernel) (by decide +kernel), by decide +kernel, by decide +kernel, by decide +kernel⟩
theorem imX13_among : Cond.instanceMethod yX13_among ∈ LW := LW_of 1687 (by decide +kernel) (by decide +kernel)
theorem seX13_among : ∀ x ∈ [Cond.selects (yX13_among).cls yX13_among yX13_among], x ∈ lw_tbl := fun x hx => by rw [List.mem_singleton.mp hx]; exact List.mem_of_getElem? (i := 59) (by decide +kernel)
theorem ceX13_readsHarvests : CE yX13_readsHarvests cX13_readsHarvests 3 none 0 := ⟨LW_of 1692 (by decide +kernel) (by decide +kernel), LW_of 124 (by decide +kernel) (by decide +kernel), by decide +kernel, by decide +kernel, by decide +kernel⟩
theorem imX13_readsHarvests : Cond.instanceMethod yX13_readsHarvests ∈ LW := LW_of 1691 (by decide +kernel) (by decide +kernel)
theorem seX13_readsHarvests : ∀ x ∈ [Cond.selects (yX13_readsHarvests).cls yX13_readsHarvests yX13_readsHarvests], x ∈ lw_tbl := fun x hx => by rw [List.mem_singleton.mp hx]; exact List.mem_of_getElem? (i := 60) (by decide +kernel)
theorem ceX13_readsFriend : CE yX13_readsFriend cX13_readsFriend 1 none 0 := ⟨LW_of 1696 (by decide +kernel) (by decide +kernel), LW_of 124 (by decide +kernel) (by decide +kernel), by decide +kernel, by decide +kernel, by decide +kernel⟩
theorem imX13_readsFriend : Cond.instanceMethod yX13_readsFriend ∈ LW := LW_of 1695 (by decide +kernel) (by decide +kernel)
theorem seX13_readsFriend : ∀ x ∈ [Cond.selects (yX13_readsFriend).cls yX13_readsFriend yX13_readsFriend], x ∈ lw_tbl := fun x hx => by rw [List.mem_singleton.mp hx]; exact List.mem_of_getElem? (i := 61) (by decide +kernel)
theorem ceX13_readsFighter : CE yX13_readsFighter cX13_readsFighter 4 none 1 := ⟨LW_of 1700 (by decide +kernel) (by decide +kernel), LW_of 124 (by decide +kernel) (by decide +kernel), by decide +kernel, by decide +kernel, by decide +kernel⟩
theorem imX13_readsFighter : Cond.instanceMethod yX13_readsFighter ∈ LW := LW_of 1699 (by decide +kernel) (by decide +kernel)
theorem seX13_readsFighter : ∀ x ∈ [Cond.selects (yX13_readsFighter).cls yX13_readsFighter yX13_readsFighter], x ∈ lw_tbl := fun x hx => by rw [List.mem_singleton.mp hx]; exact List.mem_of_getElem? (i := 62) (by decide +kernel)
theorem ceX13_expression : CE yX13_expression cX13_expression 5 none 2 := ⟨LW_of 1704 (by decide +kernel) (by decide +kernel), LW_of 124 (by decide +kernel) (by decide +kernel), by decide +kernel, by decide +kernel, by decide +kernel⟩
theorem imX13_expression : Cond.instanceMethod yX13_expression ∈ LW := LW_of 1703 (by decide +kernel) (by decide +kernel)
theorem seX13_expression : ∀ x ∈ [Cond.selects (yX13_expression).cls yX13_expression yX13_expression], x ∈ lw_tbl := fun x hx => by rw [List.mem_singleton.mp hx]; exact List.mem_of_getElem? (i := 63) (by decide +kernel)
theorem ceX13_deeper : CE yX13_deeper cX13_deeper 1 none 0 := ⟨LW_of 1708 (by decide +kernel) (by decide +kernel), LW_of 124 (by decide +kernel) (by decide +kernel), by decide +kernel, by decide +kernel, by decide +kernel⟩
theorem imX13_deeper : Cond.instanceMethod yX13_deeper ∈ LW := LW_of 1707 (by decide +kernel) (by decide +kernel)
theorem seX13_deeper : ∀ x ∈ [Cond.selects (yX13_deeper).cls yX13_deeper yX13_deeper], x ∈ lw_tbl := fun x hx => by rw [List.mem_singleton.mp hx]; exact List.mem_of_getElem? (i := 64) (by decide +kernel)
theorem ceX13_operand : CE yX13_operand cX13_operand 5 none 1 := ⟨LW_of 1712 (by decide +kernel) (by decide +kernel), LW_of 124 (by decide +kernel) (by decide +kernel), by decide +kernel, by decide +kernel, by decide +kernel⟩
theorem imX13_operand : Cond.instanceMethod yX13_operand ∈ LW := LW_of 1711 (by decide +kernel) (by decide +kernel)
theorem seX13_operand : ∀ x ∈ [Cond.selects (yX13_operand).cls yX13_operand yX13_operand], x ∈ lw_tbl := fun x hx => by rw [List.mem_singleton.mp hx]; exact List.mem_of_getElem? (i := 65) (by decide +kernel)
theorem ceX13_waitsFor : CE yX13_waitsFor cX13_waitsFor 2 none 1 := ⟨LW_of 1716 (by decide +kernel) (by decide +kernel), LW_of 124 (by decide +kernel) (by decide +kernel), by decide +kernel, by decide +kernel, by decide +kernel⟩
theorem imX13_waitsFor : Cond.instanceMethod yX13_waitsFor ∈ LW := LW_of 1715 (by decide +kernel) (by decide +kernel)
theorem seX13_waitsFor : ∀ x ∈ [Cond.selects (yX13_waitsFor).cls yX13_waitsFor yX13_waitsFor], x ∈ lw_tbl := fun x hx => by rw [List.mem_singleton.mp hx]; exact List.mem_of_getElem? (i := 66) (by decide +kernel)
theorem ceX13_part : CE yX13_part cX13_part 2 none 0 := ⟨LW_of 1720 (by decide +kernel) (by decide +kernel), LW_of 124 (by decide +kernel) (by decide +kernel), by decide +kernel, by decide +kernel, by decide +kernel⟩
theorem imX13_part : Cond.instanceMethod yX13_part ∈ LW := LW_of 1719 (by decide +kernel) (by decide +kernel)
theorem seX13_part : ∀ x ∈ [Cond.selects (yX13_part).cls yX13_part yX13_part], x ∈ lw_tbl := fun x hx => by rw [List.mem_singleton.mp hx]; exact List.mem_of_getElem? (i := 67) (by decide +kernel)
theorem ceX13_puts : CE yX13_puts cX13_puts 2 none 1 := ⟨LW_of 1724 (by decide +kernel) (by decide +kernel), LW_of 124 (by decide +kernel) (by decide +kernel), by decide +kernel, by decide +kernel, by decide +kernel⟩
theorem imX13_puts : Cond.instanceMethod yX13_puts ∈ LW := LW_of 1723 (by decide +kernel) (by decide +kernel)
theorem seX13_puts : ∀ x ∈ [Cond.selects (yX13_puts).cls yX13_puts yX13_puts], x ∈ lw_tbl := fun x hx => by rw [List.mem_singleton.mp hx]; exact List.mem_of_getElem? (i := 68) (by decide +kernel)
theorem ceX13_drops : CE yX13_drops cX13_drops 2 none 1 := ⟨LW_of 1728 (by decide +kernel) (by decide +kernel), LW_of 124 (by decide +kernel) (by decide +kernel), by decide +kernel, by decide +kernel, by decide +kernel⟩
theorem imX13_drops : Cond.instanceMethod yX13_drops ∈ LW := LW_of 1727 (by decide +kernel) (by decide +kernel)
theorem seX13_drops : ∀ x ∈ [Cond.selects (yX13_drops).cls yX13_drops yX13_drops], x ∈ lw_tbl := fun x hx => by rw [List.mem_singleton.mp hx]; exact List.mem_of_getElem? (i := 69) (by decide +kernel)
theorem ceX13_isOpen : CE yX13_isOpen cX13_isOpen 1 (some .boolean) 1 := ⟨LW_of 1731 (by decide +kernel) (by decide +kernel), LW_of 124 (by decide +kernel) (by decide +kernel), by decide +kernel, by decide +kernel, by decide +kernel⟩
theorem smX13_isOpen : Cond.static yX13_isOpen ∈ LW := LW_of 1730 (by decide +kernel) (by decide +kernel)
theorem ceX13_strength : CE yX13_strength cX13_strength 1 (some .int) 1 := ⟨LW_of 1734 (by decide +kernel) (by decide +kernel), LW_of 124 (by decide +kernel) (by decide +kernel), by decide +kernel, by decide +kernel, by decide +kernel⟩
theorem smX13_strength : Cond.static yX13_strength ∈ LW := LW_of 1733 (by decide +kernel) (by decide +kernel)
theorem ceX13_isOpened : CE yX13_isOpened cX13_isOpened 2 (some .boolean) 0 := ⟨LW_of 1738 (by decide +kernel) (by decide +kernel), LW_of 124 (by decide +kernel) (by decide +kernel), by decide +kernel, by decide +kernel, by decide +kernel⟩
theorem imX13_isOpened : Cond.instanceMethod yX13_isOpened ∈ LW := LW_of 1737 (by decide +kernel) (by decide +kernel)
theorem seX13_isOpened : ∀ x ∈ [Cond.selects (yX13_isOpened).cls yX13_isOpened yX13_isOpened], x ∈ lw_tbl := fun x hx => by rw [List.mem_singleton.mp hx]; exact List.mem_of_getElem? (i := 70) (by decide +kernel)
theorem ceX13_closes : CE yX13_closes cX13_closes 1 none 0 := ⟨LW_of 1742 (by decide +kernel) (by decide +kernel), LW_of 124 (by decide +kernel) (by decide +kernel), by decide +kernel, by decide +kernel, by decide +kernel⟩
theorem imX13_closes : Cond.instanceMethod yX13_closes ∈ LW := LW_of 1741 (by decide +kernel) (by decide +kernel)
theorem seX13_closes : ∀ x ∈ [Cond.selects (yX13_closes).cls yX13_closes yX13_closes], x ∈ lw_tbl := fun x hx => by rw [List.mem_singleton.mp hx]; exact List.mem_of_getElem? (i := 71) (by decide +kernel)
theorem ceX13_need : CE yX13_need cX13_need 2 none 1 := ⟨LW_of 1746 (by decide +kernel) (by decide +kernel), LW_of 124 (by decide +kernel) (by decide +kernel), by decide +kernel, by decide +kernel, by decide +kernel⟩
theorem imX13_need : Cond.instanceMethod yX13_need ∈ LW := LW_of 1745 (by decide +kernel) (by decide +kernel)
theorem seX13_need : ∀ x ∈ [Cond.selects (yX13_need).cls yX13_need yX13_need], x ∈ lw_tbl := fun x hx => by rw [List.mem_singleton.mp hx]; exact List.mem_of_getElem? (i := 72) (by decide +kernel)
theorem ceX13_copies : CE yX13_copies cX13_copies 4 none 2 := ⟨LW_of 1750 (by decide +kernel) (by decide +kernel), LW_of 124 (by decide +kernel) (by decide +kernel), by decide +kernel, by decide +kernel, by decide +kernel⟩
theorem imX13_copies : Cond.instanceMethod yX13_copies ∈ LW := LW_of 1749 (by decide +kernel) (by decide +kernel)
theorem seX13_copies : ∀ x ∈ [Cond.selects (yX13_copies).cls yX13_copies yX13_copies], x ∈ lw_tbl := fun x hx => by rw [List.mem_singleton.mp hx]; exact List.mem_of_getElem? (i := 73) (by decide +kernel)
theorem ceX13_fault : CE yX13_fault cX13_fault 1 (some .int) 0 := ⟨LW_of 1754 (by decide +kernel) (by decide +kernel), LW_of 124 (by decide +kernel) (by decide +kernel), by decide +kernel, by decide +kernel, by decide +kernel⟩
theorem imX13_fault : Cond.instanceMethod yX13_fault ∈ LW := LW_of 1752 (by decide +kernel) (by decide +kernel)
theorem seX13_fault : ∀ x ∈ [Cond.selects (yX13_fault).cls yX13_fault yX13_fault], x ∈ lw_tbl := fun x hx => by rw [List.mem_singleton.mp hx]; exact List.mem_of_getElem? (i := 1753) (by decide +kernel)
theorem ceX13_undo : CE yX13_undo cX13_undo 2 (some .int) 0 := ⟨LW_of 1758 (by decide +kernel) (by decide +kernel), LW_of 124 (by decide +kernel) (by decide +kernel), by decide +kernel, by decide +kernel, by decide +kernel⟩
theorem imX13_undo : Cond.instanceMethod yX13_undo ∈ LW := LW_of 1756 (by decide +kernel) (by decide +kernel)
theorem seX13_undo : ∀ x ∈ [Cond.selects (yX13_undo).cls yX13_undo yX13_undo], x ∈ lw_tbl := fun x hx => by rw [List.mem_singleton.mp hx]; exact List.mem_of_getElem? (i := 1757) (by decide +kernel)
theorem ceX13_count : CE yX13_count cX13_count 2 (some .int) 1 := ⟨LW_of 1762 (by decide +kernel) (by decide +kernel), LW_of 124 (by decide +kernel) (by decide +kernel), by decide +kernel, by decide +kernel, by decide +kernel⟩
theorem imX13_count : Cond.instanceMethod yX13_count ∈ LW := LW_of 1760 (by decide +kernel) (by decide +kernel)
theorem seX13_count : ∀ x ∈ [Cond.selects (yX13_count).cls yX13_count yX13_count], x ∈ lw_tbl := fun x hx => by rw [List.mem_singleton.mp hx]; exact List.mem_of_getElem? (i := 1761) (by decide +kernel)
theorem ceX13_within : CE yX13_within cX13_within 3 (some .boolean) 3 := ⟨LW_of 1765 (by decide +kernel) (by decide +kernel), LW_of 124 (by decide +kernel) (by decide +kernel), by decide +kernel, by decide +kernel, by decide +kernel⟩
theorem smX13_within : Cond.static yX13_within ∈ LW := LW_of 1764 (by decide +kernel) (by decide +kernel)
theorem ceX13_deed : CE yX13_deed cX13_deed 3 (some .int) 2 := ⟨LW_of 1769 (by decide +kernel) (by decide +kernel), LW_of 124 (by decide +kernel) (by decide +kernel), by decide +kernel, by decide +kernel, by decide +kernel⟩
theorem imX13_deed : Cond.instanceMethod yX13_deed ∈ LW := LW_of 1767 (by decide +kernel) (by decide +kernel)
theorem seX13_deed : ∀ x ∈ [Cond.selects (yX13_deed).cls yX13_deed yX13_deed], x ∈ lw_tbl := fun x hx => by rw [List.mem_singleton.mp hx]; exact List.mem_of_getElem? (i := 1768) (by decide +kernel)
theorem ceX13_isDeed : CE yX13_isDeed cX13_isDeed 2 (some .boolean) 1 := ⟨LW_of 1773 (by decide +kernel) (by decide +kernel), LW_of 124 (by decide +kernel) (by decide +kernel), by decide +kernel, by decide +kernel, by decide +kernel⟩
theorem imX13_isDeed : Cond.instanceMethod yX13_isDeed ∈ LW := LW_of 1772 (by decide +kernel) (by decide +kernel)
theorem seX13_isDeed : ∀ x ∈ [Cond.selects (yX13_isDeed).cls yX13_isDeed yX13_isDeed], x ∈ lw_tbl := fun x hx => by rw [List.mem_singleton.mp hx]; exact List.mem_of_getElem? (i := 74) (by decide +kernel)
theorem ceX13_isWhat : CE yX13_isWhat cX13_isWhat 3 (some .boolean) 2 := ⟨LW_of 1777 (by decide +kernel) (by decide +kernel), LW_of 124 (by decide +kernel) (by decide +kernel), by decide +kernel, by decide +kernel, by decide +kernel⟩
theorem imX13_isWhat : Cond.instanceMethod yX13_isWhat ∈ LW := LW_of 1776 (by decide +kernel) (by decide +kernel)
theorem seX13_isWhat : ∀ x ∈ [Cond.selects (yX13_isWhat).cls yX13_isWhat yX13_isWhat], x ∈ lw_tbl := fun x hx => by rw [List.mem_singleton.mp hx]; exact List.mem_of_getElem? (i := 75) (by decide +kernel)
theorem ceX13_brother : CE yX13_brother cX13_brother 3 (some .int) 2 := ⟨LW_of 1781 (by decide +kernel) (by decide +kernel), LW_of 124 (by decide +kernel) (by decide +kernel), by decide +kernel, by decide +kernel, by decide +kernel⟩
theorem imX13_brother : Cond.instanceMethod yX13_brother ∈ LW := LW_of 1779 (by decide +kernel) (by decide +kernel)
theorem seX13_brother : ∀ x ∈ [Cond.selects (yX13_brother).cls yX13_brother yX13_brother], x ∈ lw_tbl := fun x hx => by rw [List.mem_singleton.mp hx]; exact List.mem_of_getElem? (i := 1780) (by decide +kernel)
theorem ceX13_isBrother : CE yX13_isBrother cX13_isBrother 2 (some .boolean) 1 := ⟨LW_of 1785 (by decide +kernel) (by decide +kernel), LW_of 124 (by decide +kernel) (by decide +kernel), by decide +kernel, by decide +kernel, by decide +kernel⟩
theorem imX13_isBrother : Cond.instanceMethod yX13_isBrother ∈ LW := LW_of 1784 (by decide +kernel) (by decide +kernel)
theorem seX13_isBrother : ∀ x ∈ [Cond.selects (yX13_isBrother).cls yX13_isBrother yX13_isBrother], x ∈ lw_tbl := fun x hx => by rw [List.mem_singleton.mp hx]; exact List.mem_of_getElem? (i := 76) (by decide +kernel)
theorem ceX13_followers : CE yX13_followers cX13_followers 5 (some .int) 2 := ⟨LW_of 1789 (by decide +kernel) (by decide +kernel), LW_of 124 (by decide +kernel) (by decide +kernel), by decide +kernel, by decide +kernel, by decide +kernel⟩
theorem imX13_followers : Cond.instanceMethod yX13_followers ∈ LW := LW_of 1788 (by decide +kernel) (by decide +kernel)
theorem seX13_followers : ∀ x ∈ [Cond.selects (yX13_followers).cls yX13_followers yX13_followers], x ∈ lw_tbl := fun x hx => by rw [List.mem_singleton.mp hx]; exact List.mem_of_getElem? (i := 77) (by decide +kernel)
theorem ceX13_follows : CE yX13_follows cX13_follows 7 (some .int) 4 := ⟨LW_of 1793 (by decide +kernel) (by decide +kernel), LW_of 124 (by decide +kernel) (by decide +kernel), by decide +kernel, by decide +kernel, by decide +kernel⟩
theorem imX13_follows : Cond.instanceMethod yX13_follows ∈ LW := LW_of 1792 (by decide +kernel) (by decide +kernel)
theorem seX13_follows : ∀ x ∈ [Cond.selects (yX13_follows).cls yX13_follows yX13_follows], x ∈ lw_tbl := fun x hx => by rw [List.mem_singleton.mp hx]; exact List.mem_of_getElem? (i := 78) (by decide +kernel)
theorem ceX13_likeOf : CE yX13_likeOf cX13_likeOf 6 (some .int) 4 := ⟨LW_of 1797 (by decide +kernel) (by decide +kernel), LW_of 124 (by decide +kernel) (by decide +kernel), by decide +kernel, by decide +kernel, by decide +kernel⟩
theorem imX13_likeOf : Cond.instanceMethod yX13_likeOf ∈ LW := LW_of 1796 (by decide +kernel) (by decide +kernel)
theorem seX13_likeOf : ∀ x ∈ [Cond.selects (yX13_likeOf).cls yX13_likeOf yX13_likeOf], x ∈ lw_tbl := fun x hx => by rw [List.mem_singleton.mp hx]; exact List.mem_of_getElem? (i := 79) (by decide +kernel)
theorem ceX13_reckons : CE yX13_reckons cX13_reckons 5 (some .int) 1 := ⟨LW_of 1801 (by decide +kernel) (by decide +kernel), LW_of 124 (by decide +kernel) (by decide +kernel), by decide +kernel, by decide +kernel, by decide +kernel⟩
theorem imX13_reckons : Cond.instanceMethod yX13_reckons ∈ LW := LW_of 1800 (by decide +kernel) (by decide +kernel)
theorem seX13_reckons : ∀ x ∈ [Cond.selects (yX13_reckons).cls yX13_reckons yX13_reckons], x ∈ lw_tbl := fun x hx => by rw [List.mem_singleton.mp hx]; exact List.mem_of_getElem? (i := 80) (by decide +kernel)
theorem ceX13_works : CE yX13_works cX13_works 3 (some .int) 3 := ⟨LW_of 1804 (by decide +kernel) (by decide +kernel), LW_of 124 (by decide +kernel) (by decide +kernel), by decide +kernel, by decide +kernel, by decide +kernel⟩
theorem smX13_works : Cond.static yX13_works ∈ LW := LW_of 1803 (by decide +kernel) (by decide +kernel)
theorem ceX13_menOf : CE yX13_menOf cX13_menOf 4 (some .int) 1 := ⟨LW_of 1808 (by decide +kernel) (by decide +kernel), LW_of 124 (by decide +kernel) (by decide +kernel), by decide +kernel, by decide +kernel, by decide +kernel⟩
theorem imX13_menOf : Cond.instanceMethod yX13_menOf ∈ LW := LW_of 1807 (by decide +kernel) (by decide +kernel)
theorem seX13_menOf : ∀ x ∈ [Cond.selects (yX13_menOf).cls yX13_menOf yX13_menOf], x ∈ lw_tbl := fun x hx => by rw [List.mem_singleton.mp hx]; exact List.mem_of_getElem? (i := 81) (by decide +kernel)
theorem ceX13_wayOf : CE yX13_wayOf cX13_wayOf 3 (some .int) 2 := ⟨LW_of 1812 (by decide +kernel) (by decide +kernel), LW_of 124 (by decide +kernel) (by decide +kernel), by decide +kernel, by decide +kernel, by decide +kernel⟩
theorem imX13_wayOf : Cond.instanceMethod yX13_wayOf ∈ LW := LW_of 1811 (by decide +kernel) (by decide +kernel)
theorem seX13_wayOf : ∀ x ∈ [Cond.selects (yX13_wayOf).cls yX13_wayOf yX13_wayOf], x ∈ lw_tbl := fun x hx => by rw [List.mem_singleton.mp hx]; exact List.mem_of_getElem? (i := 82) (by decide +kernel)
theorem ceX13_way : CE yX13_way cX13_way 3 (some .int) 2 := ⟨LW_of 1816 (by decide +kernel) (by decide +kernel), LW_of 124 (by decide +kernel) (by decide +kernel), by decide +kernel, by decide +kernel, by decide +kernel⟩
theorem imX13_way : Cond.instanceMethod yX13_way ∈ LW := LW_of 1814 (by decide +kernel) (by decide +kernel)
theorem seX13_way : ∀ x ∈ [Cond.selects (yX13_way).cls yX13_way yX13_way], x ∈ lw_tbl := fun x hx => by rw [List.mem_singleton.mp hx]; exact List.mem_of_getElem? (i := 1815) (by decide +kernel)
theorem ceX13_friend : CE yX13_friend cX13_friend 3 (some .int) 2 := ⟨LW_of 1820 (by decide +kernel) (by decide +kernel), LW_of 124 (by decide +kernel) (by decide +kernel), by decide +kernel, by decide +kernel, by decide +kernel⟩
theorem imX13_friend : Cond.instanceMethod yX13_friend ∈ LW := LW_of 1818 (by decide +kernel) (by decide +kernel)
theorem seX13_friend : ∀ x ∈ [Cond.selects (yX13_friend).cls yX13_friend yX13_friend], x ∈ lw_tbl := fun x hx => by rw [List.mem_singleton.mp hx]; exact List.mem_of_getElem? (i := 1819) (by decide +kernel)
theorem ceX13_isFriend : CE yX13_isFriend cX13_isFriend 2 (some .boolean) 1 := ⟨LW_of 1824 (by decide +kernel) (by decide +kernel), LW_of 124 (by decide +kernel) (by decide +kernel), by decide +kernel, by decide +kernel, by decide +kernel⟩
theorem imX13_isFriend : Cond.instanceMethod yX13_isFriend ∈ LW := LW_of 1823 (by decide +kernel) (by decide +kernel)
theorem seX13_isFriend : ∀ x ∈ [Cond.selects (yX13_isFriend).cls yX13_isFriend yX13_isFriend], x ∈ lw_tbl := fun x hx => by rw [List.mem_singleton.mp hx]; exact List.mem_of_getElem? (i := 83) (by decide +kernel)
theorem ceX13_years : CE yX13_years cX13_years 2 (some .int) 1 := ⟨LW_of 1828 (by decide +kernel) (by decide +kernel), LW_of 124 (by decide +kernel) (by decide +kernel), by decide +kernel, by decide +kernel, by decide +kernel⟩
theorem imX13_years : Cond.instanceMethod yX13_years ∈ LW := LW_of 1826 (by decide +kernel) (by decide +kernel)
theorem seX13_years : ∀ x ∈ [Cond.selects (yX13_years).cls yX13_years yX13_years], x ∈ lw_tbl := fun x hx => by rw [List.mem_singleton.mp hx]; exact List.mem_of_getElem? (i := 1827) (by decide +kernel)
theorem ceX13_refuses : CE yX13_refuses cX13_refuses 2 (some .int) 1 := ⟨LW_of 1832 (by decide +kernel) (by decide +kernel), LW_of 124 (by decide +kernel) (by decide +kernel), by decide +kernel, by decide +kernel, by decide +kernel⟩
theorem imX13_refuses : Cond.instanceMethod yX13_refuses ∈ LW := LW_of 1831 (by decide +kernel) (by decide +kernel)
theorem seX13_refuses : ∀ x ∈ [Cond.selects (yX13_refuses).cls yX13_refuses yX13_refuses], x ∈ lw_tbl := fun x hx => by rw [List.mem_singleton.mp hx]; exact List.mem_of_getElem? (i := 84) (by decide +kernel)
theorem ceX13_keeps : CE yX13_keeps cX13_keeps 2 none 0 := ⟨LW_of 1836 (by decide +kernel) (by decide +kernel), LW_of 124 (by decide +kernel) (by decide +kernel), by decide +kernel, by decide +kernel, by decide +kernel⟩
theorem imX13_keeps : Cond.instanceMethod yX13_keeps ∈ LW := LW_of 1835 (by decide +kernel) (by decide +kernel)
theorem seX13_keeps : ∀ x ∈ [Cond.selects (yX13_keeps).cls yX13_keeps yX13_keeps], x ∈ lw_tbl := fun x hx => by rw [List.mem_singleton.mp hx]; exact List.mem_of_getElem? (i := 85) (by decide +kernel)
theorem ceX13_goesYears : CE yX13_goesYears cX13_goesYears 4 none 2 := ⟨LW_of 1840 (by decide +kernel) (by decide +kernel), LW_of 124 (by decide +kernel) (by decide +kernel), by decide +kernel, by decide +kernel, by decide +kernel⟩
theorem imX13_goesYears : Cond.instanceMethod yX13_goesYears ∈ LW := LW_of 1839 (by decide +kernel) (by decide +kernel)
theorem seX13_goesYears : ∀ x ∈ [Cond.selects (yX13_goesYears).cls yX13_goesYears yX13_goesYears], x ∈ lw_tbl := fun x hx => by rw [List.mem_singleton.mp hx]; exact List.mem_of_getElem? (i := 86) (by decide +kernel)
theorem ceX13_goesBy : CE yX13_goesBy cX13_goesBy 3 none 2 := ⟨LW_of 1844 (by decide +kernel) (by decide +kernel), LW_of 124 (by decide +kernel) (by decide +kernel), by decide +kernel, by decide +kernel, by decide +kernel⟩
theorem imX13_goesBy : Cond.instanceMethod yX13_goesBy ∈ LW := LW_of 1843 (by decide +kernel) (by decide +kernel)
theorem seX13_goesBy : ∀ x ∈ [Cond.selects (yX13_goesBy).cls yX13_goesBy yX13_goesBy], x ∈ lw_tbl := fun x hx => by rw [List.mem_singleton.mp hx]; exact List.mem_of_getElem? (i := 87) (by decide +kernel)
theorem ceX13_harvestOf : CE yX13_harvestOf cX13_harvestOf 2 (some .int) 1 := ⟨LW_of 1848 (by decide +kernel) (by decide +kernel), LW_of 124 (by decide +kernel) (by decide +kernel), by decide +kernel, by decide +kernel, by decide +kernel⟩
theorem imX13_harvestOf : Cond.instanceMethod yX13_harvestOf ∈ LW := LW_of 1847 (by decide +kernel) (by decide +kernel)
theorem seX13_harvestOf : ∀ x ∈ [Cond.selects (yX13_harvestOf).cls yX13_harvestOf yX13_harvestOf], x ∈ lw_tbl := fun x hx => by rw [List.mem_singleton.mp hx]; exact List.mem_of_getElem? (i := 88) (by decide +kernel)
theorem ceX13_gathers : CE yX13_gathers cX13_gathers 3 none 2 := ⟨LW_of 1852 (by decide +kernel) (by decide +kernel), LW_of 124 (by decide +kernel) (by decide +kernel), by decide +kernel, by decide +kernel, by decide +kernel⟩
theorem imX13_gathers : Cond.instanceMethod yX13_gathers ∈ LW := LW_of 1851 (by decide +kernel) (by decide +kernel)
theorem seX13_gathers : ∀ x ∈ [Cond.selects (yX13_gathers).cls yX13_gathers yX13_gathers], x ∈ lw_tbl := fun x hx => by rw [List.mem_singleton.mp hx]; exact List.mem_of_getElem? (i := 89) (by decide +kernel)
theorem ceX13_kept : CE yX13_kept cX13_kept 3 (some .int) 3 := ⟨LW_of 1855 (by decide +kernel) (by decide +kernel), LW_of 124 (by decide +kernel) (by decide +kernel), by decide +kernel, by decide +kernel, by decide +kernel⟩
theorem smX13_kept : Cond.static yX13_kept ∈ LW := LW_of 1854 (by decide +kernel) (by decide +kernel)
theorem ceX13_does : CE yX13_does cX13_does 3 (some .boolean) 2 := ⟨LW_of 1859 (by decide +kernel) (by decide +kernel), LW_of 124 (by decide +kernel) (by decide +kernel), by decide +kernel, by decide +kernel, by decide +kernel⟩
theorem imX13_does : Cond.instanceMethod yX13_does ∈ LW := LW_of 1858 (by decide +kernel) (by decide +kernel)
theorem seX13_does : ∀ x ∈ [Cond.selects (yX13_does).cls yX13_does yX13_does], x ∈ lw_tbl := fun x hx => by rw [List.mem_singleton.mp hx]; exact List.mem_of_getElem? (i := 90) (by decide +kernel)
theorem ceX13_ends : CE yX13_ends cX13_ends 3 none 2 := ⟨LW_of 1863 (by decide +kernel) (by decide +kernel), LW_of 124 (by decide +kernel) (by decide +kernel), by decide +kernel, by decide +kernel, by decide +kernel⟩
theorem imX13_ends : Cond.instanceMethod yX13_ends ∈ LW := LW_of 1862 (by decide +kernel) (by decide +kernel)
theorem seX13_ends : ∀ x ∈ [Cond.selects (yX13_ends).cls yX13_ends yX13_ends], x ∈ lw_tbl := fun x hx => by rw [List.mem_singleton.mp hx]; exact List.mem_of_getElem? (i := 91) (by decide +kernel)
theorem ceX13_isStaying : CE yX13_isStaying cX13_isStaying 4 (some .boolean) 1 := ⟨LW_of 1867 (by decide +kernel) (by decide +kernel), LW_of 124 (by decide +kernel) (by decide +kernel), by decide +kernel, by decide +kernel, by decide +kernel⟩
theorem imX13_isStaying : Cond.instanceMethod yX13_isStaying ∈ LW := LW_of 1866 (by decide +kernel) (by decide +kernel)
theorem seX13_isStaying : ∀ x ∈ [Cond.selects (yX13_isStaying).cls yX13_isStaying yX13_isStaying], x ∈ lw_tbl := fun x hx => by rw [List.mem_singleton.mp hx]; exact List.mem_of_getElem? (i := 92) (by decide +kernel)
theorem ceX13_change : CE yX13_change cX13_change 5 (some .int) 3 := ⟨LW_of 1871 (by decide +kernel) (by decide +kernel), LW_of 124 (by decide +kernel) (by decide +kernel), by decide +kernel, by decide +kernel, by decide +kernel⟩
theorem imX13_change : Cond.instanceMethod yX13_change ∈ LW := LW_of 1869 (by decide +kernel) (by decide +kernel)
theorem seX13_change : ∀ x ∈ [Cond.selects (yX13_change).cls yX13_change yX13_change], x ∈ lw_tbl := fun x hx => by rw [List.mem_singleton.mp hx]; exact List.mem_of_getElem? (i := 1870) (by decide +kernel)
theorem ceX13_term : CE yX13_term cX13_term 3 (some .int) 1 := ⟨LW_of 1875 (by decide +kernel) (by decide +kernel), LW_of 124 (by decide +kernel) (by decide +kernel), by decide +kernel, by decide +kernel, by decide +kernel⟩
theorem imX13_term : Cond.instanceMethod yX13_term ∈ LW := LW_of 1873 (by decide +kernel) (by decide +kernel)
theorem seX13_term : ∀ x ∈ [Cond.selects (yX13_term).cls yX13_term yX13_term], x ∈ lw_tbl := fun x hx => by rw [List.mem_singleton.mp hx]; exact List.mem_of_getElem? (i := 1874) (by decide +kernel)
theorem ceX13_loan : CE yX13_loan cX13_loan 2 (some .int) 1 := ⟨LW_of 1879 (by decide +kernel) (by decide +kernel), LW_of 124 (by decide +kernel) (by decide +kernel), by decide +kernel, by decide +kernel, by decide +kernel⟩
theorem imX13_loan : Cond.instanceMethod yX13_loan ∈ LW := LW_of 1877 (by decide +kernel) (by decide +kernel)
theorem seX13_loan : ∀ x ∈ [Cond.selects (yX13_loan).cls yX13_loan yX13_loan], x ∈ lw_tbl := fun x hx => by rw [List.mem_singleton.mp hx]; exact List.mem_of_getElem? (i := 1878) (by decide +kernel)
theorem ceX13_gift : CE yX13_gift cX13_gift 3 (some .int) 2 := ⟨LW_of 1883 (by decide +kernel) (by decide +kernel), LW_of 124 (by decide +kernel) (by decide +kernel), by decide +kernel, by decide +kernel, by decide +kernel⟩
theorem imX13_gift : Cond.instanceMethod yX13_gift ∈ LW := LW_of 1881 (by decide +kernel) (by decide +kernel)
theorem seX13_gift : ∀ x ∈ [Cond.selects (yX13_gift).cls yX13_gift yX13_gift], x ∈ lw_tbl := fun x hx => by rw [List.mem_singleton.mp hx]; exact List.mem_of_getElem? (i := 1882) (by decide +kernel)
theorem ceX13_then : CE yX13_then cX13_then 3 (some .int) 2 := ⟨LW_of 1887 (by decide +kernel) (by decide +kernel), LW_of 124 (by decide +kernel) (by decide +kernel), by decide +kernel, by decide +kernel, by decide +kernel⟩
theorem imX13_then : Cond.instanceMethod yX13_then ∈ LW := LW_of 1885 (by decide +kernel) (by decide +kernel)
theorem seX13_then : ∀ x ∈ [Cond.selects (yX13_then).cls yX13_then yX13_then], x ∈ lw_tbl := fun x hx => by rw [List.mem_singleton.mp hx]; exact List.mem_of_getElem? (i := 1886) (by decide +kernel)
theorem ceX13_lays0 : CE yX13_lays0 cX13_lays0 4 none 2 := ⟨LW_of 1891 (by decide +kernel) (by decide +kernel), LW_of 124 (by decide +kernel) (by decide +kernel), by decide +kernel, by decide +kernel, by decide +kernel⟩
theorem imX13_lays0 : Cond.instanceMethod yX13_lays0 ∈ LW := LW_of 1890 (by decide +kernel) (by decide +kernel)
theorem seX13_lays0 : ∀ x ∈ [Cond.selects (yX13_lays0).cls yX13_lays0 yX13_lays0], x ∈ lw_tbl := fun x hx => by rw [List.mem_singleton.mp hx]; exact List.mem_of_getElem? (i := 93) (by decide +kernel)
theorem ceX13_stays : CE yX13_stays cX13_stays 4 (some .int) 1 := ⟨LW_of 1895 (by decide +kernel) (by decide +kernel), LW_of 124 (by decide +kernel) (by decide +kernel), by decide +kernel, by decide +kernel, by decide +kernel⟩
theorem imX13_stays : Cond.instanceMethod yX13_stays ∈ LW := LW_of 1893 (by decide +kernel) (by decide +kernel)
theorem seX13_stays : ∀ x ∈ [Cond.selects (yX13_stays).cls yX13_stays yX13_stays], x ∈ lw_tbl := fun x hx => by rw [List.mem_singleton.mp hx]; exact List.mem_of_getElem? (i := 1894) (by decide +kernel)
theorem ceX13_fair : CE yX13_fair cX13_fair 2 (some .int) 0 := ⟨LW_of 1899 (by decide +kernel) (by decide +kernel), LW_of 124 (by decide +kernel) (by decide +kernel), by decide +kernel, by decide +kernel, by decide +kernel⟩
theorem imX13_fair : Cond.instanceMethod yX13_fair ∈ LW := LW_of 1897 (by decide +kernel) (by decide +kernel)
theorem seX13_fair : ∀ x ∈ [Cond.selects (yX13_fair).cls yX13_fair yX13_fair], x ∈ lw_tbl := fun x hx => by rw [List.mem_singleton.mp hx]; exact List.mem_of_getElem? (i := 1898) (by decide +kernel)
theorem ceX13_goesByTerm : CE yX13_goesByTerm cX13_goesByTerm 2 none 1 := ⟨LW_of 1903 (by decide +kernel) (by decide +kernel), LW_of 124 (by decide +kernel) (by decide +kernel), by decide +kernel, by decide +kernel, by decide +kernel⟩
theorem imX13_goesByTerm : Cond.instanceMethod yX13_goesByTerm ∈ LW := LW_of 1902 (by decide +kernel) (by decide +kernel)
theorem seX13_goesByTerm : ∀ x ∈ [Cond.selects (yX13_goesByTerm).cls yX13_goesByTerm yX13_goesByTerm], x ∈ lw_tbl := fun x hx => by rw [List.mem_singleton.mp hx]; exact List.mem_of_getElem? (i := 94) (by decide +kernel)
theorem ceX13_least : CE yX13_least cX13_least 4 (some .int) 0 := ⟨LW_of 1907 (by decide +kernel) (by decide +kernel), LW_of 124 (by decide +kernel) (by decide +kernel), by decide +kernel, by decide +kernel, by decide +kernel⟩
theorem imX13_least : Cond.instanceMethod yX13_least ∈ LW := LW_of 1905 (by decide +kernel) (by decide +kernel)
theorem seX13_least : ∀ x ∈ [Cond.selects (yX13_least).cls yX13_least yX13_least], x ∈ lw_tbl := fun x hx => by rw [List.mem_singleton.mp hx]; exact List.mem_of_getElem? (i := 1906) (by decide +kernel)
theorem ceX13_cost : CE yX13_cost cX13_cost 4 (some .int) 1 := ⟨LW_of 1911 (by decide +kernel) (by decide +kernel), LW_of 124 (by decide +kernel) (by decide +kernel), by decide +kernel, by decide +kernel, by decide +kernel⟩
theorem imX13_cost : Cond.instanceMethod yX13_cost ∈ LW := LW_of 1909 (by decide +kernel) (by decide +kernel)
theorem seX13_cost : ∀ x ∈ [Cond.selects (yX13_cost).cls yX13_cost yX13_cost], x ∈ lw_tbl := fun x hx => by rw [List.mem_singleton.mp hx]; exact List.mem_of_getElem? (i := 1910) (by decide +kernel)
theorem ceX13_plan : CE yX13_plan cX13_plan 5 (some .int) 2 := ⟨LW_of 1915 (by decide +kernel) (by decide +kernel), LW_of 124 (by decide +kernel) (by decide +kernel), by decide +kernel, by decide +kernel, by decide +kernel⟩
theorem imX13_plan : Cond.instanceMethod yX13_plan ∈ LW := LW_of 1913 (by decide +kernel) (by decide +kernel)
theorem seX13_plan : ∀ x ∈ [Cond.selects (yX13_plan).cls yX13_plan yX13_plan], x ∈ lw_tbl := fun x hx => by rw [List.mem_singleton.mp hx]; exact List.mem_of_getElem? (i := 1914) (by decide +kernel)
theorem ceX13_planOne : CE yX13_planOne cX13_planOne 8 (some .int) 2 := ⟨LW_of 1919 (by decide +kernel) (by decide +kernel), LW_of 124 (by decide +kernel) (by decide +kernel), by decide +kernel, by decide +kernel, by decide +kernel⟩
theorem imX13_planOne : Cond.instanceMethod yX13_planOne ∈ LW := LW_of 1918 (by decide +kernel) (by decide +kernel)
theorem seX13_planOne : ∀ x ∈ [Cond.selects (yX13_planOne).cls yX13_planOne yX13_planOne], x ∈ lw_tbl := fun x hx => by rw [List.mem_singleton.mp hx]; exact List.mem_of_getElem? (i := 95) (by decide +kernel)
theorem ceX13_triesDeed : CE yX13_triesDeed cX13_triesDeed 3 (some .boolean) 2 := ⟨LW_of 1923 (by decide +kernel) (by decide +kernel), LW_of 124 (by decide +kernel) (by decide +kernel), by decide +kernel, by decide +kernel, by decide +kernel⟩
theorem imX13_triesDeed : Cond.instanceMethod yX13_triesDeed ∈ LW := LW_of 1922 (by decide +kernel) (by decide +kernel)
theorem seX13_triesDeed : ∀ x ∈ [Cond.selects (yX13_triesDeed).cls yX13_triesDeed yX13_triesDeed], x ∈ lw_tbl := fun x hx => by rw [List.mem_singleton.mp hx]; exact List.mem_of_getElem? (i := 96) (by decide +kernel)
theorem ceX13_ahead0 : CE yX13_ahead0 cX13_ahead0 3 (some .int) 2 := ⟨LW_of 1927 (by decide +kernel) (by decide +kernel), LW_of 124 (by decide +kernel) (by decide +kernel), by decide +kernel, by decide +kernel, by decide +kernel⟩
theorem imX13_ahead0 : Cond.instanceMethod yX13_ahead0 ∈ LW := LW_of 1926 (by decide +kernel) (by decide +kernel)
theorem seX13_ahead0 : ∀ x ∈ [Cond.selects (yX13_ahead0).cls yX13_ahead0 yX13_ahead0], x ∈ lw_tbl := fun x hx => by rw [List.mem_singleton.mp hx]; exact List.mem_of_getElem? (i := 97) (by decide +kernel)
theorem ceX13_planTwo : CE yX13_planTwo cX13_planTwo 8 (some .int) 2 := ⟨LW_of 1931 (by decide +kernel) (by decide +kernel), LW_of 124 (by decide +kernel) (by decide +kernel), by decide +kernel, by decide +kernel, by decide +kernel⟩
theorem imX13_planTwo : Cond.instanceMethod yX13_planTwo ∈ LW := LW_of 1930 (by decide +kernel) (by decide +kernel)
theorem seX13_planTwo : ∀ x ∈ [Cond.selects (yX13_planTwo).cls yX13_planTwo yX13_planTwo], x ∈ lw_tbl := fun x hx => by rw [List.mem_singleton.mp hx]; exact List.mem_of_getElem? (i := 98) (by decide +kernel)
theorem ceX13_planThree : CE yX13_planThree cX13_planThree 8 (some .int) 2 := ⟨LW_of 1935 (by decide +kernel) (by decide +kernel), LW_of 124 (by decide +kernel) (by decide +kernel), by decide +kernel, by decide +kernel, by decide +kernel⟩
theorem imX13_planThree : Cond.instanceMethod yX13_planThree ∈ LW := LW_of 1934 (by decide +kernel) (by decide +kernel)
theorem seX13_planThree : ∀ x ∈ [Cond.selects (yX13_planThree).cls yX13_planThree yX13_planThree], x ∈ lw_tbl := fun x hx => by rw [List.mem_singleton.mp hx]; exact List.mem_of_getElem? (i := 99) (by decide +kernel)
theorem ceX13_planFour : CE yX13_planFour cX13_planFour 8 (some .int) 2 := ⟨LW_of 1939 (by decide +kernel) (by decide +kernel), LW_of 124 (by decide +kernel) (by decide +kernel), by decide +kernel, by decide +kernel, by decide +kernel⟩
theorem imX13_planFour : Cond.instanceMethod yX13_planFour ∈ LW := LW_of 1938 (by decide +kernel) (by decide +kernel)
theorem seX13_planFour : ∀ x ∈ [Cond.selects (yX13_planFour).cls yX13_planFour yX13_planFour], x ∈ lw_tbl := fun x hx => by rw [List.mem_singleton.mp hx]; exact List.mem_of_getElem? (i := 100) (by decide +kernel)
theorem ceX13_wins : CE yX13_wins cX13_wins 3 (some .boolean) 2 := ⟨LW_of 1943 (by decide +kernel) (by decide +kernel), LW_of 124 (by decide +kernel) (by decide +kernel), by decide +kernel, by decide +kernel, by decide +kernel⟩
theorem imX13_wins : Cond.instanceMethod yX13_wins ∈ LW := LW_of 1941 (by decide +kernel) (by decide +kernel)
theorem seX13_wins : ∀ x ∈ [Cond.selects (yX13_wins).cls yX13_wins yX13_wins], x ∈ lw_tbl := fun x hx => by rw [List.mem_singleton.mp hx]; exact List.mem_of_getElem? (i := 1942) (by decide +kernel)
theorem ceX13_isWin : CE yX13_isWin cX13_isWin 3 (some .boolean) 2 := ⟨LW_of 1947 (by decide +kernel) (by decide +kernel), LW_of 124 (by decide +kernel) (by decide +kernel), by decide +kernel, by decide +kernel, by decide +kernel⟩
theorem imX13_isWin : Cond.instanceMethod yX13_isWin ∈ LW := LW_of 1946 (by decide +kernel) (by decide +kernel)
theorem seX13_isWin : ∀ x ∈ [Cond.selects (yX13_isWin).cls yX13_isWin yX13_isWin], x ∈ lw_tbl := fun x hx => by rw [List.mem_singleton.mp hx]; exact List.mem_of_getElem? (i := 101) (by decide +kernel)
theorem ceX13_assault : CE yX13_assault cX13_assault 6 (some .int) 1 := ⟨LW_of 1951 (by decide +kernel) (by decide +kernel), LW_of 124 (by decide +kernel) (by decide +kernel), by decide +kernel, by decide +kernel, by decide +kernel⟩
theorem imX13_assault : Cond.instanceMethod yX13_assault ∈ LW := LW_of 1949 (by decide +kernel) (by decide +kernel)
theorem seX13_assault : ∀ x ∈ [Cond.selects (yX13_assault).cls yX13_assault yX13_assault], x ∈ lw_tbl := fun x hx => by rw [List.mem_singleton.mp hx]; exact List.mem_of_getElem? (i := 1950) (by decide +kernel)
theorem ceX13_mostOf : CE yX13_mostOf cX13_mostOf 3 (some .int) 2 := ⟨LW_of 1955 (by decide +kernel) (by decide +kernel), LW_of 124 (by decide +kernel) (by decide +kernel), by decide +kernel, by decide +kernel, by decide +kernel⟩
theorem imX13_mostOf : Cond.instanceMethod yX13_mostOf ∈ LW := LW_of 1954 (by decide +kernel) (by decide +kernel)
theorem seX13_mostOf : ∀ x ∈ [Cond.selects (yX13_mostOf).cls yX13_mostOf yX13_mostOf], x ∈ lw_tbl := fun x hx => by rw [List.mem_singleton.mp hx]; exact List.mem_of_getElem? (i := 102) (by decide +kernel)
theorem ceX13_bought : CE yX13_bought cX13_bought 5 (some .int) 1 := ⟨LW_of 1959 (by decide +kernel) (by decide +kernel), LW_of 124 (by decide +kernel) (by decide +kernel), by decide +kernel, by decide +kernel, by decide +kernel⟩
theorem imX13_bought : Cond.instanceMethod yX13_bought ∈ LW := LW_of 1957 (by decide +kernel) (by decide +kernel)
theorem seX13_bought : ∀ x ∈ [Cond.selects (yX13_bought).cls yX13_bought yX13_bought], x ∈ lw_tbl := fun x hx => by rw [List.mem_singleton.mp hx]; exact List.mem_of_getElem? (i := 1958) (by decide +kernel)
theorem ceX13_bits : CE yX13_bits cX13_bits 3 (some .int) 1 := ⟨LW_of 1962 (by decide +kernel) (by decide +kernel), LW_of 124 (by decide +kernel) (by decide +kernel), by decide +kernel, by decide +kernel, by decide +kernel⟩
theorem smX13_bits : Cond.static yX13_bits ∈ LW := LW_of 1961 (by decide +kernel) (by decide +kernel)
theorem ceX13_isBought : CE yX13_isBought cX13_isBought 4 (some .boolean) 1 := ⟨LW_of 1966 (by decide +kernel) (by decide +kernel), LW_of 124 (by decide +kernel) (by decide +kernel), by decide +kernel, by decide +kernel, by decide +kernel⟩
theorem imX13_isBought : Cond.instanceMethod yX13_isBought ∈ LW := LW_of 1965 (by decide +kernel) (by decide +kernel)
theorem seX13_isBought : ∀ x ∈ [Cond.selects (yX13_isBought).cls yX13_isBought yX13_isBought], x ∈ lw_tbl := fun x hx => by rw [List.mem_singleton.mp hx]; exact List.mem_of_getElem? (i := 103) (by decide +kernel)
theorem ceX13_odds : CE yX13_odds cX13_odds 9 (some .int) 3 := ⟨LW_of 1970 (by decide +kernel) (by decide +kernel), LW_of 124 (by decide +kernel) (by decide +kernel), by decide +kernel, by decide +kernel, by decide +kernel⟩
theorem imX13_odds : Cond.instanceMethod yX13_odds ∈ LW := LW_of 1968 (by decide +kernel) (by decide +kernel)
theorem seX13_odds : ∀ x ∈ [Cond.selects (yX13_odds).cls yX13_odds yX13_odds], x ∈ lw_tbl := fun x hx => by rw [List.mem_singleton.mp hx]; exact List.mem_of_getElem? (i := 1969) (by decide +kernel)
theorem ceX13_moved : CE yX13_moved cX13_moved 5 (some .int) 2 := ⟨LW_of 1974 (by decide +kernel) (by decide +kernel), LW_of 124 (by decide +kernel) (by decide +kernel), by decide +kernel, by decide +kernel, by decide +kernel⟩
theorem imX13_moved : Cond.instanceMethod yX13_moved ∈ LW := LW_of 1972 (by decide +kernel) (by decide +kernel)
theorem seX13_moved : ∀ x ∈ [Cond.selects (yX13_moved).cls yX13_moved yX13_moved], x ∈ lw_tbl := fun x hx => by rw [List.mem_singleton.mp hx]; exact List.mem_of_getElem? (i := 1973) (by decide +kernel)
theorem ceX13_parties : CE yX13_parties cX13_parties 5 (some .int) 1 := ⟨LW_of 1978 (by decide +kernel) (by decide +kernel), LW_of 124 (by decide +kernel) (by decide +kernel), by decide +kernel, by decide +kernel, by decide +kernel⟩
theorem imX13_parties : Cond.instanceMethod yX13_parties ∈ LW := LW_of 1976 (by decide +kernel) (by decide +kernel)
theorem seX13_parties : ∀ x ∈ [Cond.selects (yX13_parties).cls yX13_parties yX13_parties], x ∈ lw_tbl := fun x hx => by rw [List.mem_singleton.mp hx]; exact List.mem_of_getElem? (i := 1977) (by decide +kernel)
theorem ceX13_isResting : CE yX13_isResting cX13_isResting 6 (some .boolean) 1 := ⟨LW_of 1982 (by decide +kernel) (by decide +kernel), LW_of 124 (by decide +kernel) (by decide +kernel), by decide +kernel, by decide +kernel, by decide +kernel⟩
theorem imX13_isResting : Cond.instanceMethod yX13_isResting ∈ LW := LW_of 1981 (by decide +kernel) (by decide +kernel)
theorem seX13_isResting : ∀ x ∈ [Cond.selects (yX13_isResting).cls yX13_isResting yX13_isResting], x ∈ lw_tbl := fun x hx => by rw [List.mem_singleton.mp hx]; exact List.mem_of_getElem? (i := 104) (by decide +kernel)
theorem ceX13_see : CE yX13_see cX13_see 3 (some .int) 2 := ⟨LW_of 1986 (by decide +kernel) (by decide +kernel), LW_of 124 (by decide +kernel) (by decide +kernel), by decide +kernel, by decide +kernel, by decide +kernel⟩
theorem imX13_see : Cond.instanceMethod yX13_see ∈ LW := LW_of 1984 (by decide +kernel) (by decide +kernel)
theorem seX13_see : ∀ x ∈ [Cond.selects (yX13_see).cls yX13_see yX13_see], x ∈ lw_tbl := fun x hx => by rw [List.mem_singleton.mp hx]; exact List.mem_of_getElem? (i := 1985) (by decide +kernel)
theorem ceX13_forget : CE yX13_forget cX13_forget 1 none 0 := ⟨LW_of 1990 (by decide +kernel) (by decide +kernel), LW_of 124 (by decide +kernel) (by decide +kernel), by decide +kernel, by decide +kernel, by decide +kernel⟩
theorem imX13_forget : Cond.instanceMethod yX13_forget ∈ LW := LW_of 1988 (by decide +kernel) (by decide +kernel)
theorem seX13_forget : ∀ x ∈ [Cond.selects (yX13_forget).cls yX13_forget yX13_forget], x ∈ lw_tbl := fun x hx => by rw [List.mem_singleton.mp hx]; exact List.mem_of_getElem? (i := 1989) (by decide +kernel)
theorem ceX13_another : CE yX13_another cX13_another 6 (some .int) 1 := ⟨LW_of 1994 (by decide +kernel) (by decide +kernel), LW_of 124 (by decide +kernel) (by decide +kernel), by decide +kernel, by decide +kernel, by decide +kernel⟩
theorem imX13_another : Cond.instanceMethod yX13_another ∈ LW := LW_of 1992 (by decide +kernel) (by decide +kernel)
theorem seX13_another : ∀ x ∈ [Cond.selects (yX13_another).cls yX13_another yX13_another], x ∈ lw_tbl := fun x hx => by rw [List.mem_singleton.mp hx]; exact List.mem_of_getElem? (i := 1993) (by decide +kernel)
theorem ceX13_isSeen : CE yX13_isSeen cX13_isSeen 4 (some .boolean) 2 := ⟨LW_of 1998 (by decide +kernel) (by decide +kernel), LW_of 124 (by decide +kernel) (by decide +kernel), by decide +kernel, by decide +kernel, by decide +kernel⟩
theorem imX13_isSeen : Cond.instanceMethod yX13_isSeen ∈ LW := LW_of 1997 (by decide +kernel) (by decide +kernel)
theorem seX13_isSeen : ∀ x ∈ [Cond.selects (yX13_isSeen).cls yX13_isSeen yX13_isSeen], x ∈ lw_tbl := fun x hx => by rw [List.mem_singleton.mp hx]; exact List.mem_of_getElem? (i := 105) (by decide +kernel)
theorem ceX13_next : CE yX13_next cX13_next 10 (some .int) 1 := ⟨LW_of 2002 (by decide +kernel) (by decide +kernel), LW_of 124 (by decide +kernel) (by decide +kernel), by decide +kernel, by decide +kernel, by decide +kernel⟩
theorem imX13_next : Cond.instanceMethod yX13_next ∈ LW := LW_of 2000 (by decide +kernel) (by decide +kernel)
theorem seX13_next : ∀ x ∈ [Cond.selects (yX13_next).cls yX13_next yX13_next], x ∈ lw_tbl := fun x hx => by rw [List.mem_singleton.mp hx]; exact List.mem_of_getElem? (i := 2001) (by decide +kernel)
theorem ceX13_game : CE yX13_game cX13_game 11 (some .int) 3 := ⟨LW_of 2006 (by decide +kernel) (by decide +kernel), LW_of 124 (by decide +kernel) (by decide +kernel), by decide +kernel, by decide +kernel, by decide +kernel⟩
theorem imX13_game : Cond.instanceMethod yX13_game ∈ LW := LW_of 2004 (by decide +kernel) (by decide +kernel)
theorem seX13_game : ∀ x ∈ [Cond.selects (yX13_game).cls yX13_game yX13_game], x ∈ lw_tbl := fun x hx => by rw [List.mem_singleton.mp hx]; exact List.mem_of_getElem? (i := 2005) (by decide +kernel)
theorem ceX13_gains : CE yX13_gains cX13_gains 7 (some .int) 3 := ⟨LW_of 2010 (by decide +kernel) (by decide +kernel), LW_of 124 (by decide +kernel) (by decide +kernel), by decide +kernel, by decide +kernel, by decide +kernel⟩
theorem imX13_gains : Cond.instanceMethod yX13_gains ∈ LW := LW_of 2009 (by decide +kernel) (by decide +kernel)
theorem seX13_gains : ∀ x ∈ [Cond.selects (yX13_gains).cls yX13_gains yX13_gains], x ∈ lw_tbl := fun x hx => by rw [List.mem_singleton.mp hx]; exact List.mem_of_getElem? (i := 106) (by decide +kernel)
theorem ceX13_cities : CE yX13_cities cX13_cities 6 (some .int) 3 := ⟨LW_of 2014 (by decide +kernel) (by decide +kernel), LW_of 124 (by decide +kernel) (by decide +kernel), by decide +kernel, by decide +kernel, by decide +kernel⟩
theorem imX13_cities : Cond.instanceMethod yX13_cities ∈ LW := LW_of 2012 (by decide +kernel) (by decide +kernel)
theorem seX13_cities : ∀ x ∈ [Cond.selects (yX13_cities).cls yX13_cities yX13_cities], x ∈ lw_tbl := fun x hx => by rw [List.mem_singleton.mp hx]; exact List.mem_of_getElem? (i := 2013) (by decide +kernel)
theorem ceX13_draw : CE yX13_draw cX13_draw 2 (some .int) 1 := ⟨LW_of 2018 (by decide +kernel) (by decide +kernel), LW_of 124 (by decide +kernel) (by decide +kernel), by decide +kernel, by decide +kernel, by decide +kernel⟩
theorem imX13_draw : Cond.instanceMethod yX13_draw ∈ LW := LW_of 2017 (by decide +kernel) (by decide +kernel)
theorem seX13_draw : ∀ x ∈ [Cond.selects (yX13_draw).cls yX13_draw yX13_draw], x ∈ lw_tbl := fun x hx => by rw [List.mem_singleton.mp hx]; exact List.mem_of_getElem? (i := 107) (by decide +kernel)
theorem ceX13_ruin : CE yX13_ruin cX13_ruin 2 (some .int) 0 := ⟨LW_of 2023 (by decide +kernel) (by decide +kernel), LW_of 124 (by decide +kernel) (by decide +kernel), by decide +kernel, by decide +kernel, by decide +kernel⟩
theorem imX13_ruin : Cond.instanceMethod yX13_ruin ∈ LW := LW_of 2021 (by decide +kernel) (by decide +kernel)
theorem seX13_ruin : ∀ x ∈ [Cond.selects (yX13_ruin).cls yX13_ruin yX13_ruin], x ∈ lw_tbl := fun x hx => by rw [List.mem_singleton.mp hx]; exact List.mem_of_getElem? (i := 2022) (by decide +kernel)
theorem ceX13_highest : CE yX13_highest cX13_highest 5 (some .int) 1 := ⟨LW_of 2027 (by decide +kernel) (by decide +kernel), LW_of 124 (by decide +kernel) (by decide +kernel), by decide +kernel, by decide +kernel, by decide +kernel⟩
theorem imX13_highest : Cond.instanceMethod yX13_highest ∈ LW := LW_of 2025 (by decide +kernel) (by decide +kernel)
theorem seX13_highest : ∀ x ∈ [Cond.selects (yX13_highest).cls yX13_highest yX13_highest], x ∈ lw_tbl := fun x hx => by rw [List.mem_singleton.mp hx]; exact List.mem_of_getElem? (i := 2026) (by decide +kernel)
theorem ceX13_better : CE yX13_better cX13_better 7 (some .int) 1 := ⟨LW_of 2031 (by decide +kernel) (by decide +kernel), LW_of 124 (by decide +kernel) (by decide +kernel), by decide +kernel, by decide +kernel, by decide +kernel⟩
theorem imX13_better : Cond.instanceMethod yX13_better ∈ LW := LW_of 2029 (by decide +kernel) (by decide +kernel)
theorem seX13_better : ∀ x ∈ [Cond.selects (yX13_better).cls yX13_better yX13_better], x ∈ lw_tbl := fun x hx => by rw [List.mem_singleton.mp hx]; exact List.mem_of_getElem? (i := 2030) (by decide +kernel)
theorem ceX13_guarded : CE yX13_guarded cX13_guarded 5 (some .int) 1 := ⟨LW_of 2035 (by decide +kernel) (by decide +kernel), LW_of 124 (by decide +kernel) (by decide +kernel), by decide +kernel, by decide +kernel, by decide +kernel⟩
theorem imX13_guarded : Cond.instanceMethod yX13_guarded ∈ LW := LW_of 2033 (by decide +kernel) (by decide +kernel)
theorem seX13_guarded : ∀ x ∈ [Cond.selects (yX13_guarded).cls yX13_guarded yX13_guarded], x ∈ lw_tbl := fun x hx => by rw [List.mem_singleton.mp hx]; exact List.mem_of_getElem? (i := 2034) (by decide +kernel)
theorem ceX13_swap : CE yX13_swap cX13_swap 8 (some .int) 1 := ⟨LW_of 2039 (by decide +kernel) (by decide +kernel), LW_of 124 (by decide +kernel) (by decide +kernel), by decide +kernel, by decide +kernel, by decide +kernel⟩
theorem imX13_swap : Cond.instanceMethod yX13_swap ∈ LW := LW_of 2037 (by decide +kernel) (by decide +kernel)
theorem seX13_swap : ∀ x ∈ [Cond.selects (yX13_swap).cls yX13_swap yX13_swap], x ∈ lw_tbl := fun x hx => by rw [List.mem_singleton.mp hx]; exact List.mem_of_getElem? (i := 2038) (by decide +kernel)
theorem ceX13_gloryIn : CE yX13_gloryIn cX13_gloryIn 2 (some .int) 1 := ⟨LW_of 2043 (by decide +kernel) (by decide +kernel), LW_of 124 (by decide +kernel) (by decide +kernel), by decide +kernel, by decide +kernel, by decide +kernel⟩
theorem imX13_gloryIn : Cond.instanceMethod yX13_gloryIn ∈ LW := LW_of 2042 (by decide +kernel) (by decide +kernel)
theorem seX13_gloryIn : ∀ x ∈ [Cond.selects (yX13_gloryIn).cls yX13_gloryIn yX13_gloryIn], x ∈ lw_tbl := fun x hx => by rw [List.mem_singleton.mp hx]; exact List.mem_of_getElem? (i := 108) (by decide +kernel)
theorem ceX13_swaps : CE yX13_swaps cX13_swaps 4 none 2 := ⟨LW_of 2047 (by decide +kernel) (by decide +kernel), LW_of 124 (by decide +kernel) (by decide +kernel), by decide +kernel, by decide +kernel, by decide +kernel⟩
theorem imX13_swaps : Cond.instanceMethod yX13_swaps ∈ LW := LW_of 2046 (by decide +kernel) (by decide +kernel)
theorem seX13_swaps : ∀ x ∈ [Cond.selects (yX13_swaps).cls yX13_swaps yX13_swaps], x ∈ lw_tbl := fun x hx => by rw [List.mem_singleton.mp hx]; exact List.mem_of_getElem? (i := 109) (by decide +kernel)
theorem ceX13_image : CE yX13_image cX13_image 2 none 0 := ⟨LW_of 2051 (by decide +kernel) (by decide +kernel), LW_of 124 (by decide +kernel) (by decide +kernel), by decide +kernel, by decide +kernel, by decide +kernel⟩
theorem imX13_image : Cond.instanceMethod yX13_image ∈ LW := LW_of 2049 (by decide +kernel) (by decide +kernel)
theorem seX13_image : ∀ x ∈ [Cond.selects (yX13_image).cls yX13_image yX13_image], x ∈ lw_tbl := fun x hx => by rw [List.mem_singleton.mp hx]; exact List.mem_of_getElem? (i := 2050) (by decide +kernel)
theorem ceX13_restore : CE yX13_restore cX13_restore 2 (some .boolean) 0 := ⟨LW_of 2055 (by decide +kernel) (by decide +kernel), LW_of 124 (by decide +kernel) (by decide +kernel), by decide +kernel, by decide +kernel, by decide +kernel⟩
theorem imX13_restore : Cond.instanceMethod yX13_restore ∈ LW := LW_of 2053 (by decide +kernel) (by decide +kernel)
theorem seX13_restore : ∀ x ∈ [Cond.selects (yX13_restore).cls yX13_restore yX13_restore], x ∈ lw_tbl := fun x hx => by rw [List.mem_singleton.mp hx]; exact List.mem_of_getElem? (i := 2054) (by decide +kernel)
def ixX12 : List Nat := [549, 551, 553, 555, 557, 559, 561, 563, 565, 567, 569, 571, 573, 575, 577, 579]
theorem inW12 : ∀ x ∈ u_ws RX12 TX12 16, x ∈ LW := by
  have h : ((u_ws RX12 TX12 16).zip ixX12).all (fun q => decide (lw_tbl[q.2]? = some q.1) && goodWord q.1) = true := by decide +kernel
  have hl : (u_ws RX12 TX12 16).length ≤ ixX12.length := by decide +kernel
  intro x hx
  obtain ⟨i, hi⟩ := List.getElem?_of_mem hx
  have hlt : i < ixX12.length := Nat.lt_of_lt_of_le (List.getElem?_eq_some_iff.mp hi).1 hl
  have hz : ((u_ws RX12 TX12 16).zip ixX12)[i]? = some (x, ixX12[i]) := by rw [List.getElem?_zip_eq_some]; exact ⟨hi, List.getElem?_eq_getElem hlt⟩
  have h2 := List.all_eq_true.mp h _ (List.mem_of_getElem? hz)
  rw [Bool.and_eq_true] at h2
  exact LW_of _ (of_decide_eq_true h2.1) h2.2
def ixX1 : List Nat := [511, 513]
theorem inW1 : ∀ x ∈ u_ws RX1 TX1 2, x ∈ LW := by
  have h : ((u_ws RX1 TX1 2).zip ixX1).all (fun q => decide (lw_tbl[q.2]? = some q.1) && goodWord q.1) = true := by decide +kernel
  have hl : (u_ws RX1 TX1 2).length ≤ ixX1.length := by decide +kernel
  intro x hx
  obtain ⟨i, hi⟩ := List.getElem?_of_mem hx
  have hlt : i < ixX1.length := Nat.lt_of_lt_of_le (List.getElem?_eq_some_iff.mp hi).1 hl
  have hz : ((u_ws RX1 TX1 2).zip ixX1)[i]? = some (x, ixX1[i]) := by rw [List.getElem?_zip_eq_some]; exact ⟨hi, List.getElem?_eq_getElem hlt⟩
  have h2 := List.all_eq_true.mp h _ (List.mem_of_getElem? hz)
  rw [Bool.and_eq_true] at h2
  exact LW_of _ (of_decide_eq_true h2.1) h2.2
def ixX2 : List Nat := [480, 482, 484, 486, 488, 490, 492, 494, 496]
theorem inW2 : ∀ x ∈ u_ws RX2 TX2 9, x ∈ LW := by
  have h : ((u_ws RX2 TX2 9).zip ixX2).all (fun q => decide (lw_tbl[q.2]? = some q.1) && goodWord q.1) = true := by decide +kernel
  have hl : (u_ws RX2 TX2 9).length ≤ ixX2.length := by decide +kernel
  intro x hx
  obtain ⟨i, hi⟩ := List.getElem?_of_mem hx
  have hlt : i < ixX2.length := Nat.lt_of_lt_of_le (List.getElem?_eq_some_iff.mp hi).1 hl
  have hz : ((u_ws RX2 TX2 9).zip ixX2)[i]? = some (x, ixX2[i]) := by rw [List.getElem?_zip_eq_some]; exact ⟨hi, List.getElem?_eq_getElem hlt⟩
  have h2 := List.all_eq_true.mp h _ (List.mem_of_getElem? hz)
  rw [Bool.and_eq_true] at h2
  exact LW_of _ (of_decide_eq_true h2.1) h2.2
def ixX3 : List Nat := [348, 350, 352, 354, 356, 358, 360, 362, 364, 366, 368, 370, 372]
theorem inW3 : ∀ x ∈ u_ws RX3 TX3 13, x ∈ LW := by
  have h : ((u_ws RX3 TX3 13).zip ixX3).all (fun q => decide (lw_tbl[q.2]? = some q.1) && goodWord q.1) = true := by decide +kernel
  have hl : (u_ws RX3 TX3 13).length ≤ ixX3.length := by decide +kernel
  intro x hx
  obtain ⟨i, hi⟩ := List.getElem?_of_mem hx
  have hlt : i < ixX3.length := Nat.lt_of_lt_of_le (List.getElem?_eq_some_iff.mp hi).1 hl
  have hz : ((u_ws RX3 TX3 13).zip ixX3)[i]? = some (x, ixX3[i]) := by rw [List.getElem?_zip_eq_some]; exact ⟨hi, List.getElem?_eq_getElem hlt⟩
  have h2 := List.all_eq_true.mp h _ (List.mem_of_getElem? hz)
  rw [Bool.and_eq_true] at h2
  exact LW_of _ (of_decide_eq_true h2.1) h2.2
def ixX4 : List Nat := [174, 176, 178]
theorem inW4 : ∀ x ∈ u_ws RX4 TX4 3, x ∈ LW := by
  have h : ((u_ws RX4 TX4 3).zip ixX4).all (fun q => decide (lw_tbl[q.2]? = some q.1) && goodWord q.1) = true := by decide +kernel
  have hl : (u_ws RX4 TX4 3).length ≤ ixX4.length := by decide +kernel
  intro x hx
  obtain ⟨i, hi⟩ := List.getElem?_of_mem hx
  have hlt : i < ixX4.length := Nat.lt_of_lt_of_le (List.getElem?_eq_some_iff.mp hi).1 hl
  have hz : ((u_ws RX4 TX4 3).zip ixX4)[i]? = some (x, ixX4[i]) := by rw [List.getElem?_zip_eq_some]; exact ⟨hi, List.getElem?_eq_getElem hlt⟩
  have h2 := List.all_eq_true.mp h _ (List.mem_of_getElem? hz)
  rw [Bool.and_eq_true] at h2
  exact LW_of _ (of_decide_eq_true h2.1) h2.2
def ixX5 : List Nat := [258, 260, 262, 264, 266, 268, 270, 272, 274, 276, 278, 280, 282, 284]
theorem inW5 : ∀ x ∈ u_ws RX5 TX5 14, x ∈ LW := by
  have h : ((u_ws RX5 TX5 14).zip ixX5).all (fun q => decide (lw_tbl[q.2]? = some q.1) && goodWord q.1) = true := by decide +kernel
  have hl : (u_ws RX5 TX5 14).length ≤ ixX5.length := by decide +kernel
  intro x hx
  obtain ⟨i, hi⟩ := List.getElem?_of_mem hx
  have hlt : i < ixX5.length := Nat.lt_of_lt_of_le (List.getElem?_eq_some_iff.mp hi).1 hl
  have hz : ((u_ws RX5 TX5 14).zip ixX5)[i]? = some (x, ixX5[i]) := by rw [List.getElem?_zip_eq_some]; exact ⟨hi, List.getElem?_eq_getElem hlt⟩
  have h2 := List.all_eq_true.mp h _ (List.mem_of_getElem? hz)
  rw [Bool.and_eq_true] at h2
  exact LW_of _ (of_decide_eq_true h2.1) h2.2
def ixX6 : List Nat := [420, 422, 424, 426, 428, 430, 432, 434]
theorem inW6 : ∀ x ∈ u_ws RX6 TX6 8, x ∈ LW := by
  have h : ((u_ws RX6 TX6 8).zip ixX6).all (fun q => decide (lw_tbl[q.2]? = some q.1) && goodWord q.1) = true := by decide +kernel
  have hl : (u_ws RX6 TX6 8).length ≤ ixX6.length := by decide +kernel
  intro x hx
  obtain ⟨i, hi⟩ := List.getElem?_of_mem hx
  have hlt : i < ixX6.length := Nat.lt_of_lt_of_le (List.getElem?_eq_some_iff.mp hi).1 hl
  have hz : ((u_ws RX6 TX6 8).zip ixX6)[i]? = some (x, ixX6[i]) := by rw [List.getElem?_zip_eq_some]; exact ⟨hi, List.getElem?_eq_getElem hlt⟩
  have h2 := List.all_eq_true.mp h _ (List.mem_of_getElem? hz)
  rw [Bool.and_eq_true] at h2
  exact LW_of _ (of_decide_eq_true h2.1) h2.2
def ixX7 : List Nat := [451, 453, 455, 457]
theorem inW7 : ∀ x ∈ u_ws RX7 TX7 4, x ∈ LW := by
  have h : ((u_ws RX7 TX7 4).zip ixX7).all (fun q => decide (lw_tbl[q.2]? = some q.1) && goodWord q.1) = true := by decide +kernel
  have hl : (u_ws RX7 TX7 4).length ≤ ixX7.length := by decide +kernel
  intro x hx
  obtain ⟨i, hi⟩ := List.getElem?_of_mem hx
  have hlt : i < ixX7.length := Nat.lt_of_lt_of_le (List.getElem?_eq_some_iff.mp hi).1 hl
  have hz : ((u_ws RX7 TX7 4).zip ixX7)[i]? = some (x, ixX7[i]) := by rw [List.getElem?_zip_eq_some]; exact ⟨hi, List.getElem?_eq_getElem hlt⟩
  have h2 := List.all_eq_true.mp h _ (List.mem_of_getElem? hz)
  rw [Bool.and_eq_true] at h2
  exact LW_of _ (of_decide_eq_true h2.1) h2.2
def ixX8 : List Nat := [196, 198, 200, 202]
theorem inW8 : ∀ x ∈ u_ws RX8 TX8 4, x ∈ LW := by
  have h : ((u_ws RX8 TX8 4).zip ixX8).all (fun q => decide (lw_tbl[q.2]? = some q.1) && goodWord q.1) = true := by decide +kernel
  have hl : (u_ws RX8 TX8 4).length ≤ ixX8.length := by decide +kernel
  intro x hx
  obtain ⟨i, hi⟩ := List.getElem?_of_mem hx
  have hlt : i < ixX8.length := Nat.lt_of_lt_of_le (List.getElem?_eq_some_iff.mp hi).1 hl
  have hz : ((u_ws RX8 TX8 4).zip ixX8)[i]? = some (x, ixX8[i]) := by rw [List.getElem?_zip_eq_some]; exact ⟨hi, List.getElem?_eq_getElem hlt⟩
  have h2 := List.all_eq_true.mp h _ (List.mem_of_getElem? hz)
  rw [Bool.and_eq_true] at h2
  exact LW_of _ (of_decide_eq_true h2.1) h2.2
def ixX9 : List Nat := [526, 528, 530]
theorem inW9 : ∀ x ∈ u_ws RX9 TX9 3, x ∈ LW := by
  have h : ((u_ws RX9 TX9 3).zip ixX9).all (fun q => decide (lw_tbl[q.2]? = some q.1) && goodWord q.1) = true := by decide +kernel
  have hl : (u_ws RX9 TX9 3).length ≤ ixX9.length := by decide +kernel
  intro x hx
  obtain ⟨i, hi⟩ := List.getElem?_of_mem hx
  have hlt : i < ixX9.length := Nat.lt_of_lt_of_le (List.getElem?_eq_some_iff.mp hi).1 hl
  have hz : ((u_ws RX9 TX9 3).zip ixX9)[i]? = some (x, ixX9[i]) := by rw [List.getElem?_zip_eq_some]; exact ⟨hi, List.getElem?_eq_getElem hlt⟩
  have h2 := List.all_eq_true.mp h _ (List.mem_of_getElem? hz)
  rw [Bool.and_eq_true] at h2
  exact LW_of _ (of_decide_eq_true h2.1) h2.2
def ixX10 : List Nat := [394, 396, 398, 400, 402, 404, 406]
theorem inW10 : ∀ x ∈ u_ws RX10 TX10 7, x ∈ LW := by
  have h : ((u_ws RX10 TX10 7).zip ixX10).all (fun q => decide (lw_tbl[q.2]? = some q.1) && goodWord q.1) = true := by decide +kernel
  have hl : (u_ws RX10 TX10 7).length ≤ ixX10.length := by decide +kernel
  intro x hx
  obtain ⟨i, hi⟩ := List.getElem?_of_mem hx
  have hlt : i < ixX10.length := Nat.lt_of_lt_of_le (List.getElem?_eq_some_iff.mp hi).1 hl
  have hz : ((u_ws RX10 TX10 7).zip ixX10)[i]? = some (x, ixX10[i]) := by rw [List.getElem?_zip_eq_some]; exact ⟨hi, List.getElem?_eq_getElem hlt⟩
  have h2 := List.all_eq_true.mp h _ (List.mem_of_getElem? hz)
  rw [Bool.and_eq_true] at h2
  exact LW_of _ (of_decide_eq_true h2.1) h2.2
def ixX13 : List Nat := [1442, 1444, 1446, 1448, 1450, 1452, 1454, 1456, 1458, 1460, 1462, 1464, 1466, 1468, 1470, 1472, 1474, 1476, 1478, 1480, 1482, 1484, 1486, 1488, 1490, 1492, 1494, 1496, 1498, 1500, 1502, 1504, 1506, 1508, 1510, 1512, 1514, 1516, 1518, 1520, 1522, 1524, 1526, 1528, 1530, 1532, 1534, 1536, 1538, 1540, 1542, 1544, 1546, 1548, 1550, 1552, 1554, 1556, 1558, 1560, 1562, 1564, 1566, 1568, 1570, 1572, 1574, 1576, 1578, 1580, 1582, 1584, 1586, 1588, 1590, 1592, 1594, 1596, 1598, 1600]
theorem inW13 : ∀ x ∈ u_ws RX13 TX13 80, x ∈ LW := by
  have h : ((u_ws RX13 TX13 80).zip ixX13).all (fun q => decide (lw_tbl[q.2]? = some q.1) && goodWord q.1) = true := by decide +kernel
  have hl : (u_ws RX13 TX13 80).length ≤ ixX13.length := by decide +kernel
  intro x hx
  obtain ⟨i, hi⟩ := List.getElem?_of_mem hx
  have hlt : i < ixX13.length := Nat.lt_of_lt_of_le (List.getElem?_eq_some_iff.mp hi).1 hl
  have hz : ((u_ws RX13 TX13 80).zip ixX13)[i]? = some (x, ixX13[i]) := by rw [List.getElem?_zip_eq_some]; exact ⟨hi, List.getElem?_eq_getElem hlt⟩
  have h2 := List.all_eq_true.mp h _ (List.mem_of_getElem? hz)
  rw [Bool.and_eq_true] at h2
  exact LW_of _ (of_decide_eq_true h2.1) h2.2
