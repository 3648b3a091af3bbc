set_option maxRecDepth 20000 in
theorem wM_X9_1 : Cond.methodLink "StateShares" 1 (objectInit) ∈ lw_gd := lw_in 28 (by decide +kernel) rfl
set_option maxRecDepth 20000 in
theorem wM_X9_9 : Cond.methodLink "StateShares" 9 (Lib.Math.min.name) ∈ lw_gd := lw_in 31 (by decide +kernel) rfl
set_option maxRecDepth 20000 in
theorem wM_X9_15 : Cond.methodLink "StateShares" 15 (Lib.Math.max.name) ∈ lw_gd := lw_in 34 (by decide +kernel) rfl
set_option maxRecDepth 20000 in
theorem wF_X9_18 : Cond.fieldLink "StateShares" 18 "StateShares" "n" "I" ∈ lw_gd := lw_in 297 (by decide +kernel) rfl
set_option maxRecDepth 20000 in
theorem wC_X9_22 : Cond.classLink "StateShares" 22 "StateShares$Rules" ∈ lw_gd := lw_in 37 (by decide +kernel) rfl
set_option maxRecDepth 20000 in
theorem wN_StateShares_Rules : Cond.instantiable "StateShares$Rules" 9 ∈ lw_gd := lw_in 38 (by decide +kernel) rfl
set_option maxRecDepth 20000 in
theorem wM_X9_24 : Cond.methodLink "StateShares" 24 (yX7_init) ∈ lw_gd := lw_in 39 (by decide +kernel) rfl
set_option maxRecDepth 20000 in
theorem wi_X7_init : Cond.instanceMethod (yX7_init) ∈ lw_gd := lw_in 40 (by decide +kernel) rfl
set_option maxRecDepth 20000 in
theorem wc_X7_init : Cond.code yX7_init cX7_init 2 none ∈ lw_gd := lw_in 41 (by decide +kernel) rfl
set_option maxRecDepth 20000 in
theorem wF_X9_27 : Cond.fieldLink "StateShares" 27 "StateShares" "rules" "LStateShares$Rules;" ∈ lw_gd := lw_in 298 (by decide +kernel) rfl
set_option maxRecDepth 20000 in
theorem wC_X9_31 : Cond.classLink "StateShares" 31 "StateShares$Marks" ∈ lw_gd := lw_in 102 (by decide +kernel) rfl
set_option maxRecDepth 20000 in
theorem wN_StateShares_Marks : Cond.instantiable "StateShares$Marks" 4 ∈ lw_gd := lw_in 103 (by decide +kernel) rfl
set_option maxRecDepth 20000 in
theorem wM_X9_33 : Cond.methodLink "StateShares" 33 (yX3_init) ∈ lw_gd := lw_in 104 (by decide +kernel) rfl
set_option maxRecDepth 20000 in
theorem wi_X3_init : Cond.instanceMethod (yX3_init) ∈ lw_gd := lw_in 105 (by decide +kernel) rfl
set_option maxRecDepth 20000 in
theorem wc_X3_init : Cond.code yX3_init cX3_init 2 none ∈ lw_gd := lw_in 106 (by decide +kernel) rfl
set_option maxRecDepth 20000 in
theorem wF_X9_34 : Cond.fieldLink "StateShares" 34 "StateShares" "marks" "LStateShares$Marks;" ∈ lw_gd := lw_in 299 (by decide +kernel) rfl
set_option maxRecDepth 20000 in
theorem wC_X9_38 : Cond.classLink "StateShares" 38 "StateShares$Moves" ∈ lw_gd := lw_in 121 (by decide +kernel) rfl
set_option maxRecDepth 20000 in
theorem wN_StateShares_Moves : Cond.instantiable "StateShares$Moves" 8 ∈ lw_gd := lw_in 122 (by decide +kernel) rfl
set_option maxRecDepth 20000 in
theorem wM_X9_40 : Cond.methodLink "StateShares" 40 (yX4_init) ∈ lw_gd := lw_in 123 (by decide +kernel) rfl
set_option maxRecDepth 20000 in
theorem wi_X4_init : Cond.instanceMethod (yX4_init) ∈ lw_gd := lw_in 124 (by decide +kernel) rfl
set_option maxRecDepth 20000 in
theorem wc_X4_init : Cond.code yX4_init cX4_init 2 none ∈ lw_gd := lw_in 125 (by decide +kernel) rfl
set_option maxRecDepth 20000 in
theorem wF_X9_41 : Cond.fieldLink "StateShares" 41 "StateShares" "moves" "LStateShares$Moves;" ∈ lw_gd := lw_in 300 (by decide +kernel) rfl
set_option maxRecDepth 20000 in
theorem wC_X9_45 : Cond.classLink "StateShares" 45 "StateShares$Transfers" ∈ lw_gd := lw_in 152 (by decide +kernel) rfl
set_option maxRecDepth 20000 in
theorem wN_StateShares_Transfers : Cond.instantiable "StateShares$Transfers" 5 ∈ lw_gd := lw_in 153 (by decide +kernel) rfl
set_option maxRecDepth 20000 in
theorem wM_X9_47 : Cond.methodLink "StateShares" 47 (yX8_init) ∈ lw_gd := lw_in 154 (by decide +kernel) rfl
set_option maxRecDepth 20000 in
theorem wi_X8_init : Cond.instanceMethod (yX8_init) ∈ lw_gd := lw_in 155 (by decide +kernel) rfl
set_option maxRecDepth 20000 in
theorem wc_X8_init : Cond.code yX8_init cX8_init 1 none ∈ lw_gd := lw_in 156 (by decide +kernel) rfl
set_option maxRecDepth 20000 in
theorem wF_X9_48 : Cond.fieldLink "StateShares" 48 "StateShares" "worksTold" "LStateShares$Transfers;" ∈ lw_gd := lw_in 301 (by decide +kernel) rfl
set_option maxRecDepth 20000 in
theorem wF_X9_52 : Cond.fieldLink "StateShares" 52 "StateShares" "eventsTold" "LStateShares$Transfers;" ∈ lw_gd := lw_in 302 (by decide +kernel) rfl
set_option maxRecDepth 20000 in
theorem wC_X9_55 : Cond.classLink "StateShares" 55 "StateShares$Forecast" ∈ lw_gd := lw_in 174 (by decide +kernel) rfl
set_option maxRecDepth 20000 in
theorem wN_StateShares_Forecast : Cond.instantiable "StateShares$Forecast" 18 ∈ lw_gd := lw_in 175 (by decide +kernel) rfl
set_option maxRecDepth 20000 in
theorem wM_X9_57 : Cond.methodLink "StateShares" 57 (yX1_init) ∈ lw_gd := lw_in 176 (by decide +kernel) rfl
set_option maxRecDepth 20000 in
theorem wi_X1_init : Cond.instanceMethod (yX1_init) ∈ lw_gd := lw_in 177 (by decide +kernel) rfl
set_option maxRecDepth 20000 in
theorem wc_X1_init : Cond.code yX1_init cX1_init 6 none ∈ lw_gd := lw_in 178 (by decide +kernel) rfl
set_option maxRecDepth 20000 in
theorem wF_X9_60 : Cond.fieldLink "StateShares" 60 "StateShares" "forecast" "LStateShares$Forecast;" ∈ lw_gd := lw_in 303 (by decide +kernel) rfl
set_option maxRecDepth 20000 in
theorem wF_X9_64 : Cond.fieldLink "StateShares" 64 "StateShares" "movesAreOld" "Z" ∈ lw_gd := lw_in 304 (by decide +kernel) rfl
set_option maxRecDepth 20000 in
theorem wM_X9_68 : Cond.methodLink "StateShares" 68 (yX9_isThing) ∈ lw_gd := lw_in 489 (by decide +kernel) rfl
set_option maxRecDepth 20000 in
theorem ws_X9_isThing : Cond.static (yX9_isThing) ∈ lw_gd := lw_in 490 (by decide +kernel) rfl
set_option maxRecDepth 20000 in
theorem wc_X9_isThing : Cond.code yX9_isThing cX9_isThing 1 (some .boolean) ∈ lw_gd := lw_in 491 (by decide +kernel) rfl
set_option maxRecDepth 20000 in
theorem wM_X9_72 : Cond.methodLink "StateShares" 72 (yX9_isYear) ∈ lw_gd := lw_in 492 (by decide +kernel) rfl
set_option maxRecDepth 20000 in
theorem ws_X9_isYear : Cond.static (yX9_isYear) ∈ lw_gd := lw_in 493 (by decide +kernel) rfl
set_option maxRecDepth 20000 in
theorem wc_X9_isYear : Cond.code yX9_isYear cX9_isYear 1 (some .boolean) ∈ lw_gd := lw_in 494 (by decide +kernel) rfl
set_option maxRecDepth 20000 in
theorem wM_X9_75 : Cond.methodLink "StateShares" 75 (yX9_isPerson) ∈ lw_gd := lw_in 835 (by decide +kernel) rfl
set_option maxRecDepth 20000 in
theorem ws_X9_isPerson : Cond.static (yX9_isPerson) ∈ lw_gd := lw_in 836 (by decide +kernel) rfl
set_option maxRecDepth 20000 in
theorem wc_X9_isPerson : Cond.code yX9_isPerson cX9_isPerson 1 (some .boolean) ∈ lw_gd := lw_in 837 (by decide +kernel) rfl
set_option maxRecDepth 20000 in
theorem wM_X9_78 : Cond.methodLink "StateShares" 78 (yX9_needState) ∈ lw_gd := lw_in 906 (by decide +kernel) rfl
set_option maxRecDepth 20000 in
theorem wi_X9_needState : Cond.instanceMethod (yX9_needState) ∈ lw_gd := lw_in 908 (by decide +kernel) rfl
set_option maxRecDepth 20000 in
theorem wS_X9_needState : Cond.selects "StateShares" (yX9_needState) (yX9_needState) ∈ lw_gd := lw_inS (q := ((yX9_needState), 8)) 32 (by decide +kernel)
set_option maxRecDepth 20000 in
theorem wc_X9_needState : Cond.code yX9_needState cX9_needState 2 none ∈ lw_gd := lw_in 909 (by decide +kernel) rfl
set_option maxRecDepth 20000 in
theorem wM_X9_81 : Cond.methodLink "StateShares" 81 (yX3_see) ∈ lw_gd := lw_in 980 (by decide +kernel) rfl
set_option maxRecDepth 20000 in
theorem wi_X3_see : Cond.instanceMethod (yX3_see) ∈ lw_gd := lw_in 981 (by decide +kernel) rfl
set_option maxRecDepth 20000 in
theorem wS_X3_see : Cond.selects "StateShares$Marks" (yX3_see) (yX3_see) ∈ lw_gd := lw_in 982 (by decide +kernel) rfl
set_option maxRecDepth 20000 in
theorem wc_X3_see : Cond.code yX3_see cX3_see 5 none ∈ lw_gd := lw_in 983 (by decide +kernel) rfl
set_option maxRecDepth 20000 in
theorem wM_X9_85 : Cond.methodLink "StateShares" 85 (yX3_judgeOne) ∈ lw_gd := lw_in 984 (by decide +kernel) rfl
set_option maxRecDepth 20000 in
theorem wi_X3_judgeOne : Cond.instanceMethod (yX3_judgeOne) ∈ lw_gd := lw_in 985 (by decide +kernel) rfl
set_option maxRecDepth 20000 in
theorem wS_X3_judgeOne : Cond.selects "StateShares$Marks" (yX3_judgeOne) (yX3_judgeOne) ∈ lw_gd := lw_in 986 (by decide +kernel) rfl
set_option maxRecDepth 20000 in
theorem wc_X3_judgeOne : Cond.code yX3_judgeOne cX3_judgeOne 4 none ∈ lw_gd := lw_in 987 (by decide +kernel) rfl
set_option maxRecDepth 20000 in
theorem wM_X9_89 : Cond.methodLink "StateShares" 89 (yX7_collect) ∈ lw_gd := lw_in 326 (by decide +kernel) rfl
set_option maxRecDepth 20000 in
theorem wi_X7_collect : Cond.instanceMethod (yX7_collect) ∈ lw_gd := lw_in 327 (by decide +kernel) rfl
set_option maxRecDepth 20000 in
theorem wS_X7_collect : Cond.selects "StateShares$Rules" (yX7_collect) (yX7_collect) ∈ lw_gd := lw_in 328 (by decide +kernel) rfl
set_option maxRecDepth 20000 in
theorem wc_X7_collect : Cond.code yX7_collect cX7_collect 2 (some .boolean) ∈ lw_gd := lw_in 329 (by decide +kernel) rfl
set_option maxRecDepth 20000 in
theorem wM_X9_92 : Cond.methodLink "StateShares" 92 (yX7_readCollected) ∈ lw_gd := lw_in 334 (by decide +kernel) rfl
set_option maxRecDepth 20000 in
theorem wi_X7_readCollected : Cond.instanceMethod (yX7_readCollected) ∈ lw_gd := lw_in 335 (by decide +kernel) rfl
set_option maxRecDepth 20000 in
theorem wS_X7_readCollected : Cond.selects "StateShares$Rules" (yX7_readCollected) (yX7_readCollected) ∈ lw_gd := lw_in 336 (by decide +kernel) rfl
set_option maxRecDepth 20000 in
theorem wc_X7_readCollected : Cond.code yX7_readCollected cX7_readCollected 2 (some .int) ∈ lw_gd := lw_in 337 (by decide +kernel) rfl
set_option maxRecDepth 20000 in
theorem wM_X9_96 : Cond.methodLink "StateShares" 96 (yX3_judgeAll) ∈ lw_gd := lw_in 450 (by decide +kernel) rfl
set_option maxRecDepth 20000 in
theorem wi_X3_judgeAll : Cond.instanceMethod (yX3_judgeAll) ∈ lw_gd := lw_in 451 (by decide +kernel) rfl
set_option maxRecDepth 20000 in
theorem wS_X3_judgeAll : Cond.selects "StateShares$Marks" (yX3_judgeAll) (yX3_judgeAll) ∈ lw_gd := lw_in 452 (by decide +kernel) rfl
set_option maxRecDepth 20000 in
theorem wc_X3_judgeAll : Cond.code yX3_judgeAll cX3_judgeAll 3 none ∈ lw_gd := lw_in 453 (by decide +kernel) rfl
set_option maxRecDepth 20000 in
theorem wM_X9_100 : Cond.methodLink "StateShares" 100 (yX3_stateOf) ∈ lw_gd := lw_in 495 (by decide +kernel) rfl
set_option maxRecDepth 20000 in
theorem wM_X9_103 : Cond.methodLink "StateShares" 103 (yX9_renewMoves) ∈ lw_gd := lw_in 568 (by decide +kernel) rfl
set_option maxRecDepth 20000 in
theorem wi_X9_renewMoves : Cond.instanceMethod (yX9_renewMoves) ∈ lw_gd := lw_in 570 (by decide +kernel) rfl
set_option maxRecDepth 20000 in
theorem wS_X9_renewMoves : Cond.selects "StateShares" (yX9_renewMoves) (yX9_renewMoves) ∈ lw_gd := lw_inS (q := ((yX9_renewMoves), 8)) 17 (by decide +kernel)
set_option maxRecDepth 20000 in
theorem wc_X9_renewMoves : Cond.code yX9_renewMoves cX9_renewMoves 1 none ∈ lw_gd := lw_in 571 (by decide +kernel) rfl
set_option maxRecDepth 20000 in
theorem wM_X9_106 : Cond.methodLink "StateShares" 106 (yX4_number) ∈ lw_gd := lw_in 779 (by decide +kernel) rfl
set_option maxRecDepth 20000 in
theorem wi_X4_number : Cond.instanceMethod (yX4_number) ∈ lw_gd := lw_in 780 (by decide +kernel) rfl
set_option maxRecDepth 20000 in
theorem wS_X4_number : Cond.selects "StateShares$Moves" (yX4_number) (yX4_number) ∈ lw_gd := lw_in 781 (by decide +kernel) rfl
set_option maxRecDepth 20000 in
theorem wc_X4_number : Cond.code yX4_number cX4_number 3 (some .int) ∈ lw_gd := lw_in 782 (by decide +kernel) rfl
set_option maxRecDepth 20000 in
theorem wM_X9_109 : Cond.methodLink "StateShares" 109 (yX4_setLeast) ∈ lw_gd := lw_in 506 (by decide +kernel) rfl
set_option maxRecDepth 20000 in
theorem wi_X4_setLeast : Cond.instanceMethod (yX4_setLeast) ∈ lw_gd := lw_in 507 (by decide +kernel) rfl
set_option maxRecDepth 20000 in
theorem wS_X4_setLeast : Cond.selects "StateShares$Moves" (yX4_setLeast) (yX4_setLeast) ∈ lw_gd := lw_in 508 (by decide +kernel) rfl
set_option maxRecDepth 20000 in
theorem wc_X4_setLeast : Cond.code yX4_setLeast cX4_setLeast 2 none ∈ lw_gd := lw_in 509 (by decide +kernel) rfl
set_option maxRecDepth 20000 in
theorem wM_X9_112 : Cond.methodLink "StateShares" 112 (yX4_top) ∈ lw_gd := lw_in 1002 (by decide +kernel) rfl
set_option maxRecDepth 20000 in
theorem wM_X9_115 : Cond.methodLink "StateShares" 115 (yX4_bottom) ∈ lw_gd := lw_in 1003 (by decide +kernel) rfl
set_option maxRecDepth 20000 in
theorem wM_X9_119 : Cond.methodLink "StateShares" 119 (yX9_smallPart) ∈ lw_gd := lw_in 787 (by decide +kernel) rfl
set_option maxRecDepth 20000 in
theorem wM_X9_123 : Cond.methodLink "StateShares" 123 (yX9_foretold) ∈ lw_gd := lw_in 564 (by decide +kernel) rfl
set_option maxRecDepth 20000 in
theorem wi_X9_foretold : Cond.instanceMethod (yX9_foretold) ∈ lw_gd := lw_in 566 (by decide +kernel) rfl
set_option maxRecDepth 20000 in
theorem wS_X9_foretold : Cond.selects "StateShares" (yX9_foretold) (yX9_foretold) ∈ lw_gd := lw_inS (q := ((yX9_foretold), 8)) 16 (by decide +kernel)
set_option maxRecDepth 20000 in
theorem wc_X9_foretold : Cond.code yX9_foretold cX9_foretold 2 (some .boolean) ∈ lw_gd := lw_in 567 (by decide +kernel) rfl
set_option maxRecDepth 20000 in
theorem wL_X9_130 : Cond.constantLong "StateShares" 130 (-1) ∈ lw_gd := lw_in 778 (by decide +kernel) rfl
set_option maxRecDepth 20000 in
theorem wM_X9_126 : Cond.methodLink "StateShares" 126 (yX1_stateDigits) ∈ lw_gd := lw_in 1011 (by decide +kernel) rfl
set_option maxRecDepth 20000 in
theorem wi_X1_stateDigits : Cond.instanceMethod (yX1_stateDigits) ∈ lw_gd := lw_in 1012 (by decide +kernel) rfl
set_option maxRecDepth 20000 in
theorem wS_X1_stateDigits : Cond.selects "StateShares$Forecast" (yX1_stateDigits) (yX1_stateDigits) ∈ lw_gd := lw_in 1013 (by decide +kernel) rfl
set_option maxRecDepth 20000 in
theorem wc_X1_stateDigits : Cond.code yX1_stateDigits cX1_stateDigits 4 (some .long) ∈ lw_gd := lw_in 1014 (by decide +kernel) rfl
set_option maxRecDepth 20000 in
theorem wM_X9_132 : Cond.methodLink "StateShares" 132 (yX9_isState) ∈ lw_gd := lw_in 514 (by decide +kernel) rfl
set_option maxRecDepth 20000 in
theorem wi_X9_isState : Cond.instanceMethod (yX9_isState) ∈ lw_gd := lw_in 516 (by decide +kernel) rfl
set_option maxRecDepth 20000 in
theorem wS_X9_isState : Cond.selects "StateShares" (yX9_isState) (yX9_isState) ∈ lw_gd := lw_inS (q := ((yX9_isState), 8)) 14 (by decide +kernel)
set_option maxRecDepth 20000 in
theorem wc_X9_isState : Cond.code yX9_isState cX9_isState 2 (some .boolean) ∈ lw_gd := lw_in 517 (by decide +kernel) rfl
set_option maxRecDepth 20000 in
theorem wM_X9_135 : Cond.methodLink "StateShares" 135 (yX9_isFraction) ∈ lw_gd := lw_in 518 (by decide +kernel) rfl
set_option maxRecDepth 20000 in
theorem ws_X9_isFraction : Cond.static (yX9_isFraction) ∈ lw_gd := lw_in 519 (by decide +kernel) rfl
set_option maxRecDepth 20000 in
theorem wc_X9_isFraction : Cond.code yX9_isFraction cX9_isFraction 4 (some .boolean) ∈ lw_gd := lw_in 520 (by decide +kernel) rfl
set_option maxRecDepth 20000 in
theorem wM_X9_139 : Cond.methodLink "StateShares" 139 (yX1_begin) ∈ lw_gd := lw_in 522 (by decide +kernel) rfl
set_option maxRecDepth 20000 in
theorem wi_X1_begin : Cond.instanceMethod (yX1_begin) ∈ lw_gd := lw_in 523 (by decide +kernel) rfl
set_option maxRecDepth 20000 in
theorem wS_X1_begin : Cond.selects "StateShares$Forecast" (yX1_begin) (yX1_begin) ∈ lw_gd := lw_in 524 (by decide +kernel) rfl
set_option maxRecDepth 20000 in
theorem wc_X1_begin : Cond.code yX1_begin cX1_begin 4 none ∈ lw_gd := lw_in 525 (by decide +kernel) rfl
set_option maxRecDepth 20000 in
theorem wM_X9_143 : Cond.methodLink "StateShares" 143 (yX9_tell) ∈ lw_gd := lw_in 535 (by decide +kernel) rfl
set_option maxRecDepth 20000 in
theorem wi_X9_tell : Cond.instanceMethod (yX9_tell) ∈ lw_gd := lw_in 537 (by decide +kernel) rfl
set_option maxRecDepth 20000 in
theorem wS_X9_tell : Cond.selects "StateShares" (yX9_tell) (yX9_tell) ∈ lw_gd := lw_inS (q := ((yX9_tell), 8)) 15 (by decide +kernel)
set_option maxRecDepth 20000 in
theorem wc_X9_tell : Cond.code yX9_tell cX9_tell 9 (some .boolean) ∈ lw_gd := lw_in 538 (by decide +kernel) rfl
set_option maxRecDepth 20000 in
theorem wM_X9_147 : Cond.methodLink "StateShares" 147 (yX1_isOneTogether) ∈ lw_gd := lw_in 734 (by decide +kernel) rfl
set_option maxRecDepth 20000 in
theorem wi_X1_isOneTogether : Cond.instanceMethod (yX1_isOneTogether) ∈ lw_gd := lw_in 735 (by decide +kernel) rfl
set_option maxRecDepth 20000 in
theorem wS_X1_isOneTogether : Cond.selects "StateShares$Forecast" (yX1_isOneTogether) (yX1_isOneTogether) ∈ lw_gd := lw_in 736 (by decide +kernel) rfl
set_option maxRecDepth 20000 in
theorem wc_X1_isOneTogether : Cond.code yX1_isOneTogether cX1_isOneTogether 2 (some .boolean) ∈ lw_gd := lw_in 737 (by decide +kernel) rfl
set_option maxRecDepth 20000 in
theorem wM_X9_150 : Cond.methodLink "StateShares" 150 (yX3_firstState) ∈ lw_gd := lw_in 756 (by decide +kernel) rfl
set_option maxRecDepth 20000 in
theorem wi_X3_firstState : Cond.instanceMethod (yX3_firstState) ∈ lw_gd := lw_in 757 (by decide +kernel) rfl
set_option maxRecDepth 20000 in
theorem wS_X3_firstState : Cond.selects "StateShares$Marks" (yX3_firstState) (yX3_firstState) ∈ lw_gd := lw_in 758 (by decide +kernel) rfl
set_option maxRecDepth 20000 in
theorem wc_X3_firstState : Cond.code yX3_firstState cX3_firstState 4 (some .int) ∈ lw_gd := lw_in 759 (by decide +kernel) rfl
set_option maxRecDepth 20000 in
theorem wM_X9_153 : Cond.methodLink "StateShares" 153 (yX9_draw) ∈ lw_gd := lw_in 761 (by decide +kernel) rfl
set_option maxRecDepth 20000 in
theorem ws_X9_draw : Cond.static (yX9_draw) ∈ lw_gd := lw_in 762 (by decide +kernel) rfl
set_option maxRecDepth 20000 in
theorem wc_X9_draw : Cond.code yX9_draw cX9_draw 6 (some .long) ∈ lw_gd := lw_in 763 (by decide +kernel) rfl
set_option maxRecDepth 20000 in
theorem wM_X9_157 : Cond.methodLink "StateShares" 157 (yX4_goal) ∈ lw_gd := lw_in 768 (by decide +kernel) rfl
set_option maxRecDepth 20000 in
theorem wi_X4_goal : Cond.instanceMethod (yX4_goal) ∈ lw_gd := lw_in 769 (by decide +kernel) rfl
set_option maxRecDepth 20000 in
theorem wS_X4_goal : Cond.selects "StateShares$Moves" (yX4_goal) (yX4_goal) ∈ lw_gd := lw_in 770 (by decide +kernel) rfl
set_option maxRecDepth 20000 in
theorem wc_X4_goal : Cond.code yX4_goal cX4_goal 7 (some .int) ∈ lw_gd := lw_in 771 (by decide +kernel) rfl
set_option maxRecDepth 20000 in
theorem wM_X9_161 : Cond.methodLink "StateShares" 161 (yX4_total) ∈ lw_gd := lw_in 783 (by decide +kernel) rfl
set_option maxRecDepth 20000 in
theorem wi_X4_total : Cond.instanceMethod (yX4_total) ∈ lw_gd := lw_in 784 (by decide +kernel) rfl
set_option maxRecDepth 20000 in
theorem wS_X4_total : Cond.selects "StateShares$Moves" (yX4_total) (yX4_total) ∈ lw_gd := lw_in 785 (by decide +kernel) rfl
set_option maxRecDepth 20000 in
theorem wc_X4_total : Cond.code yX4_total cX4_total 2 (some .int) ∈ lw_gd := lw_in 786 (by decide +kernel) rfl
set_option maxRecDepth 20000 in
theorem wL_X9_164 : Cond.constantLong "StateShares" 164 (-1000000) ∈ lw_gd := lw_in 792 (by decide +kernel) rfl
set_option maxRecDepth 20000 in
theorem wL_X9_166 : Cond.constantLong "StateShares" 166 (1000000) ∈ lw_gd := lw_in 793 (by decide +kernel) rfl
set_option maxRecDepth 20000 in
theorem wM_X9_168 : Cond.methodLink "StateShares" 168 (yX1_setWorth) ∈ lw_gd := lw_in 794 (by decide +kernel) rfl
set_option maxRecDepth 20000 in
theorem wi_X1_setWorth : Cond.instanceMethod (yX1_setWorth) ∈ lw_gd := lw_in 795 (by decide +kernel) rfl
set_option maxRecDepth 20000 in
theorem wS_X1_setWorth : Cond.selects "StateShares$Forecast" (yX1_setWorth) (yX1_setWorth) ∈ lw_gd := lw_in 796 (by decide +kernel) rfl
set_option maxRecDepth 20000 in
theorem wc_X1_setWorth : Cond.code yX1_setWorth cX1_setWorth 3 none ∈ lw_gd := lw_in 797 (by decide +kernel) rfl
set_option maxRecDepth 20000 in
theorem wM_X9_172 : Cond.methodLink "StateShares" 172 (yX1_worthDigits) ∈ lw_gd := lw_in 802 (by decide +kernel) rfl
set_option maxRecDepth 20000 in
theorem wi_X1_worthDigits : Cond.instanceMethod (yX1_worthDigits) ∈ lw_gd := lw_in 803 (by decide +kernel) rfl
set_option maxRecDepth 20000 in
theorem wS_X1_worthDigits : Cond.selects "StateShares$Forecast" (yX1_worthDigits) (yX1_worthDigits) ∈ lw_gd := lw_in 804 (by decide +kernel) rfl
set_option maxRecDepth 20000 in
theorem wc_X1_worthDigits : Cond.code yX1_worthDigits cX1_worthDigits 3 (some .long) ∈ lw_gd := lw_in 805 (by decide +kernel) rfl
set_option maxRecDepth 20000 in
theorem wM_X9_176 : Cond.methodLink "StateShares" 176 (yX3_seenByBoth) ∈ lw_gd := lw_in 838 (by decide +kernel) rfl
set_option maxRecDepth 20000 in
theorem wi_X3_seenByBoth : Cond.instanceMethod (yX3_seenByBoth) ∈ lw_gd := lw_in 839 (by decide +kernel) rfl
set_option maxRecDepth 20000 in
theorem wS_X3_seenByBoth : Cond.selects "StateShares$Marks" (yX3_seenByBoth) (yX3_seenByBoth) ∈ lw_gd := lw_in 840 (by decide +kernel) rfl
set_option maxRecDepth 20000 in
theorem wc_X3_seenByBoth : Cond.code yX3_seenByBoth cX3_seenByBoth 5 (some .int) ∈ lw_gd := lw_in 841 (by decide +kernel) rfl
set_option maxRecDepth 20000 in
theorem wM_X9_179 : Cond.methodLink "StateShares" 179 (yX3_sameByBoth) ∈ lw_gd := lw_in 846 (by decide +kernel) rfl
set_option maxRecDepth 20000 in
theorem wi_X3_sameByBoth : Cond.instanceMethod (yX3_sameByBoth) ∈ lw_gd := lw_in 847 (by decide +kernel) rfl
set_option maxRecDepth 20000 in
theorem wS_X3_sameByBoth : Cond.selects "StateShares$Marks" (yX3_sameByBoth) (yX3_sameByBoth) ∈ lw_gd := lw_in 848 (by decide +kernel) rfl
set_option maxRecDepth 20000 in
theorem wc_X3_sameByBoth : Cond.code yX3_sameByBoth cX3_sameByBoth 6 (some .int) ∈ lw_gd := lw_in 849 (by decide +kernel) rfl
set_option maxRecDepth 20000 in
theorem wM_X9_183 : Cond.methodLink "StateShares" 183 (yX3_seenAmongBoth) ∈ lw_gd := lw_in 850 (by decide +kernel) rfl
set_option maxRecDepth 20000 in
theorem wi_X3_seenAmongBoth : Cond.instanceMethod (yX3_seenAmongBoth) ∈ lw_gd := lw_in 851 (by decide +kernel) rfl
set_option maxRecDepth 20000 in
theorem wS_X3_seenAmongBoth : Cond.selects "StateShares$Marks" (yX3_seenAmongBoth) (yX3_seenAmongBoth) ∈ lw_gd := lw_in 852 (by decide +kernel) rfl
set_option maxRecDepth 20000 in
theorem wc_X3_seenAmongBoth : Cond.code yX3_seenAmongBoth cX3_seenAmongBoth 6 (some .int) ∈ lw_gd := lw_in 853 (by decide +kernel) rfl
set_option maxRecDepth 20000 in
theorem wM_X9_186 : Cond.methodLink "StateShares" 186 (yX4_inOneGroup) ∈ lw_gd := lw_in 858 (by decide +kernel) rfl
set_option maxRecDepth 20000 in
theorem wi_X4_inOneGroup : Cond.instanceMethod (yX4_inOneGroup) ∈ lw_gd := lw_in 859 (by decide +kernel) rfl
set_option maxRecDepth 20000 in
theorem wS_X4_inOneGroup : Cond.selects "StateShares$Moves" (yX4_inOneGroup) (yX4_inOneGroup) ∈ lw_gd := lw_in 860 (by decide +kernel) rfl
set_option maxRecDepth 20000 in
theorem wc_X4_inOneGroup : Cond.code yX4_inOneGroup cX4_inOneGroup 3 (some .boolean) ∈ lw_gd := lw_in 861 (by decide +kernel) rfl
set_option maxRecDepth 20000 in
theorem wM_X9_190 : Cond.methodLink "StateShares" 190 (yX1_reaches) ∈ lw_gd := lw_in 866 (by decide +kernel) rfl
set_option maxRecDepth 20000 in
theorem wi_X1_reaches : Cond.instanceMethod (yX1_reaches) ∈ lw_gd := lw_in 867 (by decide +kernel) rfl
set_option maxRecDepth 20000 in
theorem wS_X1_reaches : Cond.selects "StateShares$Forecast" (yX1_reaches) (yX1_reaches) ∈ lw_gd := lw_in 868 (by decide +kernel) rfl
set_option maxRecDepth 20000 in
theorem wc_X1_reaches : Cond.code yX1_reaches cX1_reaches 5 (some .boolean) ∈ lw_gd := lw_in 869 (by decide +kernel) rfl
set_option maxRecDepth 20000 in
theorem wM_X9_194 : Cond.methodLink "StateShares" 194 (yX3_gap) ∈ lw_gd := lw_in 879 (by decide +kernel) rfl
set_option maxRecDepth 20000 in
theorem wi_X3_gap : Cond.instanceMethod (yX3_gap) ∈ lw_gd := lw_in 880 (by decide +kernel) rfl
set_option maxRecDepth 20000 in
theorem wS_X3_gap : Cond.selects "StateShares$Marks" (yX3_gap) (yX3_gap) ∈ lw_gd := lw_in 881 (by decide +kernel) rfl
set_option maxRecDepth 20000 in
theorem wc_X3_gap : Cond.code yX3_gap cX3_gap 7 (some .int) ∈ lw_gd := lw_in 882 (by decide +kernel) rfl
set_option maxRecDepth 20000 in
theorem wM_X9_197 : Cond.methodLink "StateShares" 197 (yX3_setKind) ∈ lw_gd := lw_in 891 (by decide +kernel) rfl
set_option maxRecDepth 20000 in
theorem wi_X3_setKind : Cond.instanceMethod (yX3_setKind) ∈ lw_gd := lw_in 892 (by decide +kernel) rfl
set_option maxRecDepth 20000 in
theorem wS_X3_setKind : Cond.selects "StateShares$Marks" (yX3_setKind) (yX3_setKind) ∈ lw_gd := lw_in 893 (by decide +kernel) rfl
set_option maxRecDepth 20000 in
theorem wc_X3_setKind : Cond.code yX3_setKind cX3_setKind 3 none ∈ lw_gd := lw_in 894 (by decide +kernel) rfl
set_option maxRecDepth 20000 in
theorem wL_X9_200 : Cond.constantLong "StateShares" 200 (1000) ∈ lw_gd := lw_in 521 (by decide +kernel) rfl
set_option maxRecDepth 20000 in
theorem wM_X9_209 : Cond.methodLink "StateShares" 209 (yX8_add) ∈ lw_gd := lw_in 539 (by decide +kernel) rfl
set_option maxRecDepth 20000 in
theorem wi_X8_add : Cond.instanceMethod (yX8_add) ∈ lw_gd := lw_in 540 (by decide +kernel) rfl
set_option maxRecDepth 20000 in
theorem wS_X8_add : Cond.selects "StateShares$Transfers" (yX8_add) (yX8_add) ∈ lw_gd := lw_in 541 (by decide +kernel) rfl
set_option maxRecDepth 20000 in
theorem wc_X8_add : Cond.code yX8_add cX8_add 7 (some .boolean) ∈ lw_gd := lw_in 542 (by decide +kernel) rfl
set_option maxRecDepth 20000 in
theorem wM_X9_213 : Cond.methodLink "StateShares" 213 (yX1_forget) ∈ lw_gd := lw_in 555 (by decide +kernel) rfl
set_option maxRecDepth 20000 in
theorem wM_X9_216 : Cond.methodLink "StateShares" 216 (yX4_renew) ∈ lw_gd := lw_in 572 (by decide +kernel) rfl
set_option maxRecDepth 20000 in
theorem wi_X4_renew : Cond.instanceMethod (yX4_renew) ∈ lw_gd := lw_in 573 (by decide +kernel) rfl
set_option maxRecDepth 20000 in
theorem wS_X4_renew : Cond.selects "StateShares$Moves" (yX4_renew) (yX4_renew) ∈ lw_gd := lw_in 574 (by decide +kernel) rfl
set_option maxRecDepth 20000 in
theorem wc_X4_renew : Cond.code yX4_renew cX4_renew 3 (some .boolean) ∈ lw_gd := lw_in 575 (by decide +kernel) rfl
set_option maxRecDepth 20000 in
theorem wM_X9_220 : Cond.methodLink "StateShares" 220 (yX1_stands) ∈ lw_gd := lw_in 602 (by decide +kernel) rfl
set_option maxRecDepth 20000 in
theorem wi_X1_stands : Cond.instanceMethod (yX1_stands) ∈ lw_gd := lw_in 603 (by decide +kernel) rfl
set_option maxRecDepth 20000 in
theorem wS_X1_stands : Cond.selects "StateShares$Forecast" (yX1_stands) (yX1_stands) ∈ lw_gd := lw_in 604 (by decide +kernel) rfl
set_option maxRecDepth 20000 in
theorem wc_X1_stands : Cond.code yX1_stands cX1_stands 3 (some .boolean) ∈ lw_gd := lw_in 605 (by decide +kernel) rfl
set_option maxRecDepth 20000 in
theorem wL_X9_223 : Cond.constantLong "StateShares" 223 (1000003) ∈ lw_gd := lw_in 764 (by decide +kernel) rfl
set_option maxRecDepth 20000 in
theorem wL_X9_225 : Cond.constantLong "StateShares" 225 (7919) ∈ lw_gd := lw_in 765 (by decide +kernel) rfl
set_option maxRecDepth 20000 in
theorem wL_X9_227 : Cond.constantLong "StateShares" 227 (6364136223846793005) ∈ lw_gd := lw_in 766 (by decide +kernel) rfl
set_option maxRecDepth 20000 in
theorem wL_X9_229 : Cond.constantLong "StateShares" 229 (1442695040888963407) ∈ lw_gd := lw_in 767 (by decide +kernel) rfl
abbrev M_X9_agree : xM := (yX9_agree, cX9_agree, 8, (some .long), { frames := 2, cells := 0, slots := 0, locals := 56 })
abbrev M_X9_at : xM := (yX9_at, cX9_at, 4, (some .long), { frames := 9, cells := 1, slots := 6, locals := 168 })
abbrev M_X9_count : xM := (yX9_count, cX9_count, 3, (some .int), { frames := 9, cells := 2, slots := 12, locals := 161 })
abbrev M_X9_draw : xM := (yX9_draw, cX9_draw, 6, (some .long), { frames := 0, cells := 0, slots := 0, locals := 0 })
abbrev M_X9_drawn : xM := (yX9_drawn, cX9_drawn, 7, (some .int), { frames := 5, cells := 0, slots := 0, locals := 110 })
abbrev M_X9_event : xM := (yX9_event, cX9_event, 8, (some .boolean), { frames := 4, cells := 0, slots := 0, locals := 110 })
abbrev M_X9_foretold : xM := (yX9_foretold, cX9_foretold, 2, (some .boolean), { frames := 6, cells := 0, slots := 0, locals := 147 })
abbrev M_X9_grade : xM := (yX9_grade, cX9_grade, 2, (some .int), { frames := 10, cells := 0, slots := 0, locals := 221 })
abbrev M_X9_graded : xM := (yX9_graded, cX9_graded, 3, (some .int), { frames := 2, cells := 0, slots := 0, locals := 43 })
abbrev M_X9_init : xM := (yX9_init, cX9_init, 2, none, { frames := 4, cells := 640, slots := 32501, locals := 92 })
abbrev M_X9_isFraction : xM := (yX9_isFraction, cX9_isFraction, 4, (some .boolean), { frames := 0, cells := 0, slots := 0, locals := 0 })
abbrev M_X9_isPerson : xM := (yX9_isPerson, cX9_isPerson, 1, (some .boolean), { frames := 0, cells := 0, slots := 0, locals := 0 })
abbrev M_X9_isState : xM := (yX9_isState, cX9_isState, 2, (some .boolean), { frames := 0, cells := 0, slots := 0, locals := 0 })
abbrev M_X9_isThing : xM := (yX9_isThing, cX9_isThing, 1, (some .boolean), { frames := 0, cells := 0, slots := 0, locals := 0 })
abbrev M_X9_isYear : xM := (yX9_isYear, cX9_isYear, 1, (some .boolean), { frames := 0, cells := 0, slots := 0, locals := 0 })
abbrev M_X9_joined : xM := (yX9_joined, cX9_joined, 3, (some .int), { frames := 5, cells := 0, slots := 0, locals := 110 })
abbrev M_X9_kind : xM := (yX9_kind, cX9_kind, 3, (some .boolean), { frames := 1, cells := 0, slots := 0, locals := 22 })
abbrev M_X9_least : xM := (yX9_least, cX9_least, 2, (some .boolean), { frames := 1, cells := 0, slots := 0, locals := 21 })
abbrev M_X9_mark : xM := (yX9_mark, cX9_mark, 5, (some .boolean), { frames := 9, cells := 1, slots := 6, locals := 162 })
abbrev M_X9_missing : xM := (yX9_missing, cX9_missing, 2, (some .int), { frames := 4, cells := 0, slots := 0, locals := 91 })
abbrev M_X9_needState : xM := (yX9_needState, cX9_needState, 2, none, { frames := 8, cells := 1, slots := 6, locals := 140 })
abbrev M_X9_part2 : xM := (yX9_part2, cX9_part2, 4, (some .boolean), { frames := 1, cells := 0, slots := 0, locals := 22 })
abbrev M_X9_renewMoves : xM := (yX9_renewMoves, cX9_renewMoves, 1, none, { frames := 4, cells := 0, slots := 0, locals := 90 })
abbrev M_X9_share : xM := (yX9_share, cX9_share, 4, (some .long), { frames := 9, cells := 2, slots := 12, locals := 161 })
abbrev M_X9_span : xM := (yX9_span, cX9_span, 6, (some .long), { frames := 5, cells := 0, slots := 0, locals := 110 })
abbrev M_X9_start : xM := (yX9_start, cX9_start, 6, (some .boolean), { frames := 3, cells := 0, slots := 0, locals := 67 })
abbrev M_X9_sums : xM := (yX9_sums, cX9_sums, 2, (some .boolean), { frames := 7, cells := 0, slots := 0, locals := 168 })
abbrev M_X9_target : xM := (yX9_target, cX9_target, 7, (some .int), { frames := 7, cells := 0, slots := 0, locals := 168 })
abbrev M_X9_tell : xM := (yX9_tell, cX9_tell, 9, (some .boolean), { frames := 3, cells := 0, slots := 0, locals := 82 })
abbrev M_X9_unit : xM := (yX9_unit, cX9_unit, 2, (some .boolean), { frames := 1, cells := 0, slots := 0, locals := 21 })
abbrev M_X9_works : xM := (yX9_works, cX9_works, 8, (some .boolean), { frames := 4, cells := 0, slots := 0, locals := 110 })
abbrev M_X9_worth : xM := (yX9_worth, cX9_worth, 3, (some .long), { frames := 7, cells := 0, slots := 0, locals := 168 })
theorem dX9_init_0 : decode cX9_init 0 = .ok (.aload_n 0, 1) := by decide +kernel
theorem dX9_init_1 : decode cX9_init 1 = .ok (.invokespecial 1, 3) := by decide +kernel
theorem dX9_init_4 : decode cX9_init 4 = .ok (.aload_n 0, 1) := by decide +kernel
theorem dX9_init_5 : decode cX9_init 5 = .ok (.iconst 2, 1) := by decide +kernel
theorem dX9_init_6 : decode cX9_init 6 = .ok (.bipush 6, 2) := by decide +kernel
theorem dX9_init_8 : decode cX9_init 8 = .ok (.iload_n 1, 1) := by decide +kernel
theorem dX9_init_9 : decode cX9_init 9 = .ok (.invokestatic 9, 3) := by decide +kernel
theorem dX9_init_12 : decode cX9_init 12 = .ok (.invokestatic 15, 3) := by decide +kernel
theorem dX9_init_15 : decode cX9_init 15 = .ok (.putfield 18, 3) := by decide +kernel
theorem dX9_init_18 : decode cX9_init 18 = .ok (.aload_n 0, 1) := by decide +kernel
theorem dX9_init_19 : decode cX9_init 19 = .ok (.new 22, 3) := by decide +kernel
theorem dX9_init_22 : decode cX9_init 22 = .ok (.dup, 1) := by decide +kernel
theorem dX9_init_23 : decode cX9_init 23 = .ok (.aload_n 0, 1) := by decide +kernel
theorem dX9_init_24 : decode cX9_init 24 = .ok (.getfield 18, 3) := by decide +kernel
theorem dX9_init_27 : decode cX9_init 27 = .ok (.invokespecial 24, 3) := by decide +kernel
theorem dX9_init_30 : decode cX9_init 30 = .ok (.putfield 27, 3) := by decide +kernel
theorem dX9_init_33 : decode cX9_init 33 = .ok (.aload_n 0, 1) := by decide +kernel
theorem dX9_init_34 : decode cX9_init 34 = .ok (.new 31, 3) := by decide +kernel
theorem dX9_init_37 : decode cX9_init 37 = .ok (.dup, 1) := by decide +kernel
theorem dX9_init_38 : decode cX9_init 38 = .ok (.invokespecial 33, 3) := by decide +kernel
theorem dX9_init_41 : decode cX9_init 41 = .ok (.putfield 34, 3) := by decide +kernel
theorem dX9_init_44 : decode cX9_init 44 = .ok (.aload_n 0, 1) := by decide +kernel
theorem dX9_init_45 : decode cX9_init 45 = .ok (.new 38, 3) := by decide +kernel
theorem dX9_init_48 : decode cX9_init 48 = .ok (.dup, 1) := by decide +kernel
theorem dX9_init_49 : decode cX9_init 49 = .ok (.aload_n 0, 1) := by decide +kernel
theorem dX9_init_50 : decode cX9_init 50 = .ok (.getfield 18, 3) := by decide +kernel
theorem dX9_init_53 : decode cX9_init 53 = .ok (.invokespecial 40, 3) := by decide +kernel
theorem dX9_init_56 : decode cX9_init 56 = .ok (.putfield 41, 3) := by decide +kernel
theorem dX9_init_59 : decode cX9_init 59 = .ok (.aload_n 0, 1) := by decide +kernel
theorem dX9_init_60 : decode cX9_init 60 = .ok (.new 45, 3) := by decide +kernel
theorem dX9_init_63 : decode cX9_init 63 = .ok (.dup, 1) := by decide +kernel
theorem dX9_init_64 : decode cX9_init 64 = .ok (.invokespecial 47, 3) := by decide +kernel
theorem dX9_init_67 : decode cX9_init 67 = .ok (.putfield 48, 3) := by decide +kernel
theorem dX9_init_70 : decode cX9_init 70 = .ok (.aload_n 0, 1) := by decide +kernel
theorem dX9_init_71 : decode cX9_init 71 = .ok (.new 45, 3) := by decide +kernel
theorem dX9_init_74 : decode cX9_init 74 = .ok (.dup, 1) := by decide +kernel
theorem dX9_init_75 : decode cX9_init 75 = .ok (.invokespecial 47, 3) := by decide +kernel
theorem dX9_init_78 : decode cX9_init 78 = .ok (.putfield 52, 3) := by decide +kernel
theorem dX9_init_81 : decode cX9_init 81 = .ok (.aload_n 0, 1) := by decide +kernel
theorem dX9_init_82 : decode cX9_init 82 = .ok (.new 55, 3) := by decide +kernel
theorem dX9_init_85 : decode cX9_init 85 = .ok (.dup, 1) := by decide +kernel
theorem dX9_init_86 : decode cX9_init 86 = .ok (.aload_n 0, 1) := by decide +kernel
theorem dX9_init_87 : decode cX9_init 87 = .ok (.getfield 18, 3) := by decide +kernel
theorem dX9_init_90 : decode cX9_init 90 = .ok (.aload_n 0, 1) := by decide +kernel
theorem dX9_init_91 : decode cX9_init 91 = .ok (.getfield 41, 3) := by decide +kernel
theorem dX9_init_94 : decode cX9_init 94 = .ok (.aload_n 0, 1) := by decide +kernel
theorem dX9_init_95 : decode cX9_init 95 = .ok (.getfield 48, 3) := by decide +kernel
theorem dX9_init_98 : decode cX9_init 98 = .ok (.aload_n 0, 1) := by decide +kernel
theorem dX9_init_99 : decode cX9_init 99 = .ok (.getfield 52, 3) := by decide +kernel
theorem dX9_init_102 : decode cX9_init 102 = .ok (.invokespecial 57, 3) := by decide +kernel
theorem dX9_init_105 : decode cX9_init 105 = .ok (.putfield 60, 3) := by decide +kernel
theorem dX9_init_108 : decode cX9_init 108 = .ok (.aload_n 0, 1) := by decide +kernel
theorem dX9_init_109 : decode cX9_init 109 = .ok (.iconst 1, 1) := by decide +kernel
theorem dX9_init_110 : decode cX9_init 110 = .ok (.putfield 64, 3) := by decide +kernel
theorem dX9_init_113 : decode cX9_init 113 = .ok (.return_, 1) := by decide +kernel
theorem dX9_mark_0 : decode cX9_mark 0 = .ok (.iload_n 1, 1) := by decide +kernel
theorem dX9_mark_1 : decode cX9_mark 1 = .ok (.invokestatic 68, 3) := by decide +kernel
theorem dX9_mark_4 : decode cX9_mark 4 = .ok (.ifCond .eq 17, 3) := by decide +kernel
theorem dX9_mark_7 : decode cX9_mark 7 = .ok (.iload_n 2, 1) := by decide +kernel
theorem dX9_mark_8 : decode cX9_mark 8 = .ok (.invokestatic 72, 3) := by decide +kernel
theorem dX9_mark_11 : decode cX9_mark 11 = .ok (.ifCond .eq 10, 3) := by decide +kernel
theorem dX9_mark_14 : decode cX9_mark 14 = .ok (.iload_n 3, 1) := by decide +kernel
theorem dX9_mark_15 : decode cX9_mark 15 = .ok (.invokestatic 75, 3) := by decide +kernel
theorem dX9_mark_18 : decode cX9_mark 18 = .ok (.ifCond .ne 5, 3) := by decide +kernel
theorem dX9_mark_21 : decode cX9_mark 21 = .ok (.iconst 0, 1) := by decide +kernel
theorem dX9_mark_22 : decode cX9_mark 22 = .ok (.ireturn, 1) := by decide +kernel
theorem dX9_mark_23 : decode cX9_mark 23 = .ok (.aload_n 0, 1) := by decide +kernel
theorem dX9_mark_24 : decode cX9_mark 24 = .ok (.iload 4, 2) := by decide +kernel
theorem dX9_mark_26 : decode cX9_mark 26 = .ok (.invokevirtual 78, 3) := by decide +kernel
theorem dX9_mark_29 : decode cX9_mark 29 = .ok (.aload_n 0, 1) := by decide +kernel
theorem dX9_mark_30 : decode cX9_mark 30 = .ok (.getfield 34, 3) := by decide +kernel
theorem dX9_mark_33 : decode cX9_mark 33 = .ok (.iload_n 1, 1) := by decide +kernel
theorem dX9_mark_34 : decode cX9_mark 34 = .ok (.iload_n 2, 1) := by decide +kernel
theorem dX9_mark_35 : decode cX9_mark 35 = .ok (.iload_n 3, 1) := by decide +kernel
theorem dX9_mark_36 : decode cX9_mark 36 = .ok (.iload 4, 2) := by decide +kernel
theorem dX9_mark_38 : decode cX9_mark 38 = .ok (.invokevirtual 81, 3) := by decide +kernel
theorem dX9_mark_41 : decode cX9_mark 41 = .ok (.aload_n 0, 1) := by decide +kernel
theorem dX9_mark_42 : decode cX9_mark 42 = .ok (.getfield 34, 3) := by decide +kernel
theorem dX9_mark_45 : decode cX9_mark 45 = .ok (.iload_n 1, 1) := by decide +kernel
theorem dX9_mark_46 : decode cX9_mark 46 = .ok (.iload_n 2, 1) := by decide +kernel
theorem dX9_mark_47 : decode cX9_mark 47 = .ok (.aload_n 0, 1) := by decide +kernel
theorem dX9_mark_48 : decode cX9_mark 48 = .ok (.getfield 27, 3) := by decide +kernel
theorem dX9_mark_51 : decode cX9_mark 51 = .ok (.invokevirtual 85, 3) := by decide +kernel
theorem dX9_mark_54 : decode cX9_mark 54 = .ok (.aload_n 0, 1) := by decide +kernel
theorem dX9_mark_55 : decode cX9_mark 55 = .ok (.iconst 1, 1) := by decide +kernel
theorem dX9_mark_56 : decode cX9_mark 56 = .ok (.putfield 64, 3) := by decide +kernel
theorem dX9_mark_59 : decode cX9_mark 59 = .ok (.iconst 1, 1) := by decide +kernel
theorem dX9_mark_60 : decode cX9_mark 60 = .ok (.ireturn, 1) := by decide +kernel
theorem dX9_unit_0 : decode cX9_unit 0 = .ok (.aload_n 0, 1) := by decide +kernel
theorem dX9_unit_1 : decode cX9_unit 1 = .ok (.getfield 27, 3) := by decide +kernel
theorem dX9_unit_4 : decode cX9_unit 4 = .ok (.iload_n 1, 1) := by decide +kernel
theorem dX9_unit_5 : decode cX9_unit 5 = .ok (.invokevirtual 89, 3) := by decide +kernel
theorem dX9_unit_8 : decode cX9_unit 8 = .ok (.ireturn, 1) := by decide +kernel
theorem dX9_grade_0 : decode cX9_grade 0 = .ok (.aload_n 0, 1) := by decide +kernel
theorem dX9_grade_1 : decode cX9_grade 1 = .ok (.getfield 27, 3) := by decide +kernel
theorem dX9_grade_4 : decode cX9_grade 4 = .ok (.invokevirtual 92, 3) := by decide +kernel
theorem dX9_grade_7 : decode cX9_grade 7 = .ok (.istore_n 1, 1) := by decide +kernel
theorem dX9_grade_8 : decode cX9_grade 8 = .ok (.iload_n 1, 1) := by decide +kernel
theorem dX9_grade_9 : decode cX9_grade 9 = .ok (.ifCond .le 19, 3) := by decide +kernel
theorem dX9_grade_12 : decode cX9_grade 12 = .ok (.aload_n 0, 1) := by decide +kernel
theorem dX9_grade_13 : decode cX9_grade 13 = .ok (.getfield 34, 3) := by decide +kernel
theorem dX9_grade_16 : decode cX9_grade 16 = .ok (.aload_n 0, 1) := by decide +kernel
theorem dX9_grade_17 : decode cX9_grade 17 = .ok (.getfield 27, 3) := by decide +kernel
theorem dX9_grade_20 : decode cX9_grade 20 = .ok (.invokevirtual 96, 3) := by decide +kernel
theorem dX9_grade_23 : decode cX9_grade 23 = .ok (.aload_n 0, 1) := by decide +kernel
theorem dX9_grade_24 : decode cX9_grade 24 = .ok (.iconst 1, 1) := by decide +kernel
theorem dX9_grade_25 : decode cX9_grade 25 = .ok (.putfield 64, 3) := by decide +kernel
theorem dX9_grade_28 : decode cX9_grade 28 = .ok (.iload_n 1, 1) := by decide +kernel
theorem dX9_grade_29 : decode cX9_grade 29 = .ok (.ireturn, 1) := by decide +kernel
theorem dX9_graded_0 : decode cX9_graded 0 = .ok (.iload_n 1, 1) := by decide +kernel
theorem dX9_graded_1 : decode cX9_graded 1 = .ok (.invokestatic 68, 3) := by decide +kernel
theorem dX9_graded_4 : decode cX9_graded 4 = .ok (.ifCond .eq 22, 3) := by decide +kernel
theorem dX9_graded_7 : decode cX9_graded 7 = .ok (.iload_n 2, 1) := by decide +kernel
theorem dX9_graded_8 : decode cX9_graded 8 = .ok (.invokestatic 72, 3) := by decide +kernel
theorem dX9_graded_11 : decode cX9_graded 11 = .ok (.ifCond .eq 15, 3) := by decide +kernel
theorem dX9_graded_14 : decode cX9_graded 14 = .ok (.aload_n 0, 1) := by decide +kernel
theorem dX9_graded_15 : decode cX9_graded 15 = .ok (.getfield 34, 3) := by decide +kernel
theorem dX9_graded_18 : decode cX9_graded 18 = .ok (.iload_n 1, 1) := by decide +kernel
theorem dX9_graded_19 : decode cX9_graded 19 = .ok (.iload_n 2, 1) := by decide +kernel
theorem dX9_graded_20 : decode cX9_graded 20 = .ok (.invokevirtual 100, 3) := by decide +kernel
theorem dX9_graded_23 : decode cX9_graded 23 = .ok (.goto 4, 3) := by decide +kernel
theorem dX9_graded_26 : decode cX9_graded 26 = .ok (.iconst (-1), 1) := by decide +kernel
theorem dX9_graded_27 : decode cX9_graded 27 = .ok (.ireturn, 1) := by decide +kernel
theorem dX9_count_0 : decode cX9_count 0 = .ok (.aload_n 0, 1) := by decide +kernel
theorem dX9_count_1 : decode cX9_count 1 = .ok (.iload_n 1, 1) := by decide +kernel
theorem dX9_count_2 : decode cX9_count 2 = .ok (.invokevirtual 78, 3) := by decide +kernel
theorem dX9_count_5 : decode cX9_count 5 = .ok (.aload_n 0, 1) := by decide +kernel
theorem dX9_count_6 : decode cX9_count 6 = .ok (.iload_n 2, 1) := by decide +kernel
theorem dX9_count_7 : decode cX9_count 7 = .ok (.invokevirtual 78, 3) := by decide +kernel
theorem dX9_count_10 : decode cX9_count 10 = .ok (.aload_n 0, 1) := by decide +kernel
theorem dX9_count_11 : decode cX9_count 11 = .ok (.invokevirtual 103, 3) := by decide +kernel
theorem dX9_count_14 : decode cX9_count 14 = .ok (.aload_n 0, 1) := by decide +kernel
theorem dX9_count_15 : decode cX9_count 15 = .ok (.getfield 41, 3) := by decide +kernel
theorem dX9_count_18 : decode cX9_count 18 = .ok (.iload_n 1, 1) := by decide +kernel
theorem dX9_count_19 : decode cX9_count 19 = .ok (.iload_n 2, 1) := by decide +kernel
theorem dX9_count_20 : decode cX9_count 20 = .ok (.invokevirtual 106, 3) := by decide +kernel
theorem dX9_count_23 : decode cX9_count 23 = .ok (.ireturn, 1) := by decide +kernel
theorem dX9_least_0 : decode cX9_least 0 = .ok (.iload_n 1, 1) := by decide +kernel
theorem dX9_least_1 : decode cX9_least 1 = .ok (.ifCond .lt 9, 3) := by decide +kernel
theorem dX9_least_4 : decode cX9_least 4 = .ok (.iload_n 1, 1) := by decide +kernel
theorem dX9_least_5 : decode cX9_least 5 = .ok (.bipush 50, 2) := by decide +kernel
theorem dX9_least_7 : decode cX9_least 7 = .ok (.if_icmp .le 5, 3) := by decide +kernel
theorem dX9_least_10 : decode cX9_least 10 = .ok (.iconst 0, 1) := by decide +kernel
theorem dX9_least_11 : decode cX9_least 11 = .ok (.ireturn, 1) := by decide +kernel
theorem dX9_least_12 : decode cX9_least 12 = .ok (.aload_n 0, 1) := by decide +kernel
theorem dX9_least_13 : decode cX9_least 13 = .ok (.getfield 41, 3) := by decide +kernel
theorem dX9_least_16 : decode cX9_least 16 = .ok (.iload_n 1, 1) := by decide +kernel
theorem dX9_least_17 : decode cX9_least 17 = .ok (.invokevirtual 109, 3) := by decide +kernel
theorem dX9_least_20 : decode cX9_least 20 = .ok (.aload_n 0, 1) := by decide +kernel
theorem dX9_least_21 : decode cX9_least 21 = .ok (.iconst 1, 1) := by decide +kernel
theorem dX9_least_22 : decode cX9_least 22 = .ok (.putfield 64, 3) := by decide +kernel
theorem dX9_least_25 : decode cX9_least 25 = .ok (.iconst 1, 1) := by decide +kernel
theorem dX9_least_26 : decode cX9_least 26 = .ok (.ireturn, 1) := by decide +kernel
theorem dX9_share_0 : decode cX9_share 0 = .ok (.aload_n 0, 1) := by decide +kernel
theorem dX9_share_1 : decode cX9_share 1 = .ok (.iload_n 1, 1) := by decide +kernel
theorem dX9_share_2 : decode cX9_share 2 = .ok (.invokevirtual 78, 3) := by decide +kernel
theorem dX9_share_5 : decode cX9_share 5 = .ok (.aload_n 0, 1) := by decide +kernel
theorem dX9_share_6 : decode cX9_share 6 = .ok (.iload_n 2, 1) := by decide +kernel
theorem dX9_share_7 : decode cX9_share 7 = .ok (.invokevirtual 78, 3) := by decide +kernel
theorem dX9_share_10 : decode cX9_share 10 = .ok (.aload_n 0, 1) := by decide +kernel
theorem dX9_share_11 : decode cX9_share 11 = .ok (.invokevirtual 103, 3) := by decide +kernel
theorem dX9_share_14 : decode cX9_share 14 = .ok (.aload_n 0, 1) := by decide +kernel
theorem dX9_share_15 : decode cX9_share 15 = .ok (.getfield 41, 3) := by decide +kernel
theorem dX9_share_18 : decode cX9_share 18 = .ok (.iload_n 1, 1) := by decide +kernel
theorem dX9_share_19 : decode cX9_share 19 = .ok (.iload_n 2, 1) := by decide +kernel
theorem dX9_share_20 : decode cX9_share 20 = .ok (.invokevirtual 112, 3) := by decide +kernel
theorem dX9_share_23 : decode cX9_share 23 = .ok (.i2l, 1) := by decide +kernel
theorem dX9_share_24 : decode cX9_share 24 = .ok (.aload_n 0, 1) := by decide +kernel
theorem dX9_share_25 : decode cX9_share 25 = .ok (.getfield 41, 3) := by decide +kernel
theorem dX9_share_28 : decode cX9_share 28 = .ok (.iload_n 1, 1) := by decide +kernel
theorem dX9_share_29 : decode cX9_share 29 = .ok (.invokevirtual 115, 3) := by decide +kernel
theorem dX9_share_32 : decode cX9_share 32 = .ok (.i2l, 1) := by decide +kernel
theorem dX9_share_33 : decode cX9_share 33 = .ok (.iload_n 3, 1) := by decide +kernel
theorem dX9_share_34 : decode cX9_share 34 = .ok (.invokestatic 119, 3) := by decide +kernel
theorem dX9_share_37 : decode cX9_share 37 = .ok (.lreturn, 1) := by decide +kernel
theorem dX9_at_0 : decode cX9_at 0 = .ok (.aload_n 0, 1) := by decide +kernel
theorem dX9_at_1 : decode cX9_at 1 = .ok (.iload_n 1, 1) := by decide +kernel
theorem dX9_at_2 : decode cX9_at 2 = .ok (.invokevirtual 78, 3) := by decide +kernel
theorem dX9_at_5 : decode cX9_at 5 = .ok (.aload_n 0, 1) := by decide +kernel
theorem dX9_at_6 : decode cX9_at 6 = .ok (.iload_n 2, 1) := by decide +kernel
theorem dX9_at_7 : decode cX9_at 7 = .ok (.invokevirtual 123, 3) := by decide +kernel
theorem dX9_at_10 : decode cX9_at 10 = .ok (.ifCond .eq 16, 3) := by decide +kernel
theorem dX9_at_13 : decode cX9_at 13 = .ok (.aload_n 0, 1) := by decide +kernel
theorem dX9_at_14 : decode cX9_at 14 = .ok (.getfield 60, 3) := by decide +kernel
theorem dX9_at_17 : decode cX9_at 17 = .ok (.iload_n 1, 1) := by decide +kernel
theorem dX9_at_18 : decode cX9_at 18 = .ok (.iload_n 2, 1) := by decide +kernel
theorem dX9_at_19 : decode cX9_at 19 = .ok (.iload_n 3, 1) := by decide +kernel
theorem dX9_at_20 : decode cX9_at 20 = .ok (.invokevirtual 126, 3) := by decide +kernel
theorem dX9_at_23 : decode cX9_at 23 = .ok (.goto 6, 3) := by decide +kernel
theorem dX9_at_26 : decode cX9_at 26 = .ok (.ldc2_w 130, 3) := by decide +kernel
theorem dX9_at_29 : decode cX9_at 29 = .ok (.lreturn, 1) := by decide +kernel
theorem dX9_start_0 : decode cX9_start 0 = .ok (.aload_n 0, 1) := by decide +kernel
theorem dX9_start_1 : decode cX9_start 1 = .ok (.iload_n 1, 1) := by decide +kernel
theorem dX9_start_2 : decode cX9_start 2 = .ok (.invokevirtual 132, 3) := by decide +kernel
theorem dX9_start_5 : decode cX9_start 5 = .ok (.ifCond .eq 12, 3) := by decide +kernel
theorem dX9_start_8 : decode cX9_start 8 = .ok (.lload_n 2, 1) := by decide +kernel
theorem dX9_start_9 : decode cX9_start 9 = .ok (.lload 4, 2) := by decide +kernel
theorem dX9_start_11 : decode cX9_start 11 = .ok (.invokestatic 135, 3) := by decide +kernel
theorem dX9_start_14 : decode cX9_start 14 = .ok (.ifCond .ne 5, 3) := by decide +kernel
theorem dX9_start_17 : decode cX9_start 17 = .ok (.iconst 0, 1) := by decide +kernel
theorem dX9_start_18 : decode cX9_start 18 = .ok (.ireturn, 1) := by decide +kernel
theorem dX9_start_19 : decode cX9_start 19 = .ok (.aload_n 0, 1) := by decide +kernel
theorem dX9_start_20 : decode cX9_start 20 = .ok (.getfield 60, 3) := by decide +kernel
theorem dX9_start_23 : decode cX9_start 23 = .ok (.iload_n 1, 1) := by decide +kernel
theorem dX9_start_24 : decode cX9_start 24 = .ok (.lload_n 2, 1) := by decide +kernel
theorem dX9_start_25 : decode cX9_start 25 = .ok (.l2i, 1) := by decide +kernel
theorem dX9_start_26 : decode cX9_start 26 = .ok (.lload 4, 2) := by decide +kernel
theorem dX9_start_28 : decode cX9_start 28 = .ok (.l2i, 1) := by decide +kernel
theorem dX9_start_29 : decode cX9_start 29 = .ok (.invokevirtual 139, 3) := by decide +kernel
theorem dX9_start_32 : decode cX9_start 32 = .ok (.iconst 1, 1) := by decide +kernel
theorem dX9_start_33 : decode cX9_start 33 = .ok (.ireturn, 1) := by decide +kernel
theorem dX9_works_0 : decode cX9_works 0 = .ok (.aload_n 0, 1) := by decide +kernel
theorem dX9_works_1 : decode cX9_works 1 = .ok (.aload_n 0, 1) := by decide +kernel
theorem dX9_works_2 : decode cX9_works 2 = .ok (.getfield 48, 3) := by decide +kernel
theorem dX9_works_5 : decode cX9_works 5 = .ok (.iload_n 1, 1) := by decide +kernel
theorem dX9_works_6 : decode cX9_works 6 = .ok (.iload_n 2, 1) := by decide +kernel
theorem dX9_works_7 : decode cX9_works 7 = .ok (.iload_n 3, 1) := by decide +kernel
theorem dX9_works_8 : decode cX9_works 8 = .ok (.lload 4, 2) := by decide +kernel
theorem dX9_works_10 : decode cX9_works 10 = .ok (.lload 6, 2) := by decide +kernel
theorem dX9_works_12 : decode cX9_works 12 = .ok (.invokevirtual 143, 3) := by decide +kernel
theorem dX9_works_15 : decode cX9_works 15 = .ok (.ireturn, 1) := by decide +kernel
theorem dX9_event_0 : decode cX9_event 0 = .ok (.aload_n 0, 1) := by decide +kernel
theorem dX9_event_1 : decode cX9_event 1 = .ok (.aload_n 0, 1) := by decide +kernel
theorem dX9_event_2 : decode cX9_event 2 = .ok (.getfield 52, 3) := by decide +kernel
theorem dX9_event_5 : decode cX9_event 5 = .ok (.iload_n 1, 1) := by decide +kernel
theorem dX9_event_6 : decode cX9_event 6 = .ok (.iload_n 2, 1) := by decide +kernel
theorem dX9_event_7 : decode cX9_event 7 = .ok (.iload_n 3, 1) := by decide +kernel
theorem dX9_event_8 : decode cX9_event 8 = .ok (.lload 4, 2) := by decide +kernel
theorem dX9_event_10 : decode cX9_event 10 = .ok (.lload 6, 2) := by decide +kernel
theorem dX9_event_12 : decode cX9_event 12 = .ok (.invokevirtual 143, 3) := by decide +kernel
theorem dX9_event_15 : decode cX9_event 15 = .ok (.ireturn, 1) := by decide +kernel
theorem dX9_sums_0 : decode cX9_sums 0 = .ok (.aload_n 0, 1) := by decide +kernel
theorem dX9_sums_1 : decode cX9_sums 1 = .ok (.iload_n 1, 1) := by decide +kernel
theorem dX9_sums_2 : decode cX9_sums 2 = .ok (.invokevirtual 123, 3) := by decide +kernel
theorem dX9_sums_5 : decode cX9_sums 5 = .ok (.ifCond .eq 18, 3) := by decide +kernel
theorem dX9_sums_8 : decode cX9_sums 8 = .ok (.aload_n 0, 1) := by decide +kernel
theorem dX9_sums_9 : decode cX9_sums 9 = .ok (.getfield 60, 3) := by decide +kernel
theorem dX9_sums_12 : decode cX9_sums 12 = .ok (.iload_n 1, 1) := by decide +kernel
theorem dX9_sums_13 : decode cX9_sums 13 = .ok (.invokevirtual 147, 3) := by decide +kernel
theorem dX9_sums_16 : decode cX9_sums 16 = .ok (.ifCond .eq 7, 3) := by decide +kernel
theorem dX9_sums_19 : decode cX9_sums 19 = .ok (.iconst 1, 1) := by decide +kernel
theorem dX9_sums_20 : decode cX9_sums 20 = .ok (.goto 4, 3) := by decide +kernel
theorem dX9_sums_23 : decode cX9_sums 23 = .ok (.iconst 0, 1) := by decide +kernel
theorem dX9_sums_24 : decode cX9_sums 24 = .ok (.ireturn, 1) := by decide +kernel
theorem dX9_drawn_0 : decode cX9_drawn 0 = .ok (.iload_n 3, 1) := by decide +kernel
theorem dX9_drawn_1 : decode cX9_drawn 1 = .ok (.invokestatic 68, 3) := by decide +kernel
theorem dX9_drawn_4 : decode cX9_drawn 4 = .ok (.ifCond .eq 11, 3) := by decide +kernel
theorem dX9_drawn_7 : decode cX9_drawn 7 = .ok (.iload 4, 2) := by decide +kernel
theorem dX9_drawn_9 : decode cX9_drawn 9 = .ok (.invokestatic 72, 3) := by decide +kernel
theorem dX9_drawn_12 : decode cX9_drawn 12 = .ok (.ifCond .ne 5, 3) := by decide +kernel
theorem dX9_drawn_15 : decode cX9_drawn 15 = .ok (.iconst (-1), 1) := by decide +kernel
theorem dX9_drawn_16 : decode cX9_drawn 16 = .ok (.ireturn, 1) := by decide +kernel
theorem dX9_drawn_17 : decode cX9_drawn 17 = .ok (.aload_n 0, 1) := by decide +kernel
theorem dX9_drawn_18 : decode cX9_drawn 18 = .ok (.invokevirtual 103, 3) := by decide +kernel
theorem dX9_drawn_21 : decode cX9_drawn 21 = .ok (.aload_n 0, 1) := by decide +kernel
theorem dX9_drawn_22 : decode cX9_drawn 22 = .ok (.getfield 34, 3) := by decide +kernel
theorem dX9_drawn_25 : decode cX9_drawn 25 = .ok (.iload_n 3, 1) := by decide +kernel
theorem dX9_drawn_26 : decode cX9_drawn 26 = .ok (.invokevirtual 150, 3) := by decide +kernel
theorem dX9_drawn_29 : decode cX9_drawn 29 = .ok (.istore 5, 2) := by decide +kernel
theorem dX9_drawn_31 : decode cX9_drawn 31 = .ok (.iconst 0, 1) := by decide +kernel
theorem dX9_drawn_32 : decode cX9_drawn 32 = .ok (.istore 6, 2) := by decide +kernel
theorem dX9_drawn_34 : decode cX9_drawn 34 = .ok (.iload 6, 2) := by decide +kernel
theorem dX9_drawn_36 : decode cX9_drawn 36 = .ok (.iload 4, 2) := by decide +kernel
theorem dX9_drawn_38 : decode cX9_drawn 38 = .ok (.if_icmp .ge 27, 3) := by decide +kernel
theorem dX9_drawn_41 : decode cX9_drawn 41 = .ok (.aload_n 0, 1) := by decide +kernel
theorem dX9_drawn_42 : decode cX9_drawn 42 = .ok (.getfield 41, 3) := by decide +kernel
theorem dX9_drawn_45 : decode cX9_drawn 45 = .ok (.iload 5, 2) := by decide +kernel
theorem dX9_drawn_47 : decode cX9_drawn 47 = .ok (.lload_n 1, 1) := by decide +kernel
theorem dX9_drawn_48 : decode cX9_drawn 48 = .ok (.iload_n 3, 1) := by decide +kernel
theorem dX9_drawn_49 : decode cX9_drawn 49 = .ok (.iload 6, 2) := by decide +kernel
theorem dX9_drawn_51 : decode cX9_drawn 51 = .ok (.invokestatic 153, 3) := by decide +kernel
theorem dX9_drawn_54 : decode cX9_drawn 54 = .ok (.invokevirtual 157, 3) := by decide +kernel
theorem dX9_drawn_57 : decode cX9_drawn 57 = .ok (.istore 5, 2) := by decide +kernel
theorem dX9_drawn_59 : decode cX9_drawn 59 = .ok (.iinc 6 1, 3) := by decide +kernel
theorem dX9_drawn_62 : decode cX9_drawn 62 = .ok (.goto (-28), 3) := by decide +kernel
theorem dX9_drawn_65 : decode cX9_drawn 65 = .ok (.iload 5, 2) := by decide +kernel
theorem dX9_drawn_67 : decode cX9_drawn 67 = .ok (.ireturn, 1) := by decide +kernel
theorem dX9_span_0 : decode cX9_span 0 = .ok (.aload_n 0, 1) := by decide +kernel
theorem dX9_span_1 : decode cX9_span 1 = .ok (.iload_n 1, 1) := by decide +kernel
theorem dX9_span_2 : decode cX9_span 2 = .ok (.invokevirtual 132, 3) := by decide +kernel
theorem dX9_span_5 : decode cX9_span 5 = .ok (.ifCond .eq 31, 3) := by decide +kernel
theorem dX9_span_8 : decode cX9_span 8 = .ok (.aload_n 0, 1) := by decide +kernel
theorem dX9_span_9 : decode cX9_span 9 = .ok (.iload_n 2, 1) := by decide +kernel
theorem dX9_span_10 : decode cX9_span 10 = .ok (.invokevirtual 132, 3) := by decide +kernel
theorem dX9_span_13 : decode cX9_span 13 = .ok (.ifCond .eq 23, 3) := by decide +kernel
theorem dX9_span_16 : decode cX9_span 16 = .ok (.iload_n 3, 1) := by decide +kernel
theorem dX9_span_17 : decode cX9_span 17 = .ok (.ifCond .lt 19, 3) := by decide +kernel
theorem dX9_span_20 : decode cX9_span 20 = .ok (.iload_n 3, 1) := by decide +kernel
theorem dX9_span_21 : decode cX9_span 21 = .ok (.iconst 1, 1) := by decide +kernel
theorem dX9_span_22 : decode cX9_span 22 = .ok (.if_icmp .gt 14, 3) := by decide +kernel
theorem dX9_span_25 : decode cX9_span 25 = .ok (.iload 4, 2) := by decide +kernel
theorem dX9_span_27 : decode cX9_span 27 = .ok (.ifCond .lt 9, 3) := by decide +kernel
theorem dX9_span_30 : decode cX9_span 30 = .ok (.iload 4, 2) := by decide +kernel
theorem dX9_span_32 : decode cX9_span 32 = .ok (.iconst 1, 1) := by decide +kernel
theorem dX9_span_33 : decode cX9_span 33 = .ok (.if_icmp .le 7, 3) := by decide +kernel
theorem dX9_span_36 : decode cX9_span 36 = .ok (.ldc2_w 130, 3) := by decide +kernel
theorem dX9_span_39 : decode cX9_span 39 = .ok (.lreturn, 1) := by decide +kernel
theorem dX9_span_40 : decode cX9_span 40 = .ok (.aload_n 0, 1) := by decide +kernel
theorem dX9_span_41 : decode cX9_span 41 = .ok (.invokevirtual 103, 3) := by decide +kernel
theorem dX9_span_44 : decode cX9_span 44 = .ok (.aload_n 0, 1) := by decide +kernel
theorem dX9_span_45 : decode cX9_span 45 = .ok (.getfield 41, 3) := by decide +kernel
theorem dX9_span_48 : decode cX9_span 48 = .ok (.iload_n 1, 1) := by decide +kernel
theorem dX9_span_49 : decode cX9_span 49 = .ok (.iload_n 2, 1) := by decide +kernel
theorem dX9_span_50 : decode cX9_span 50 = .ok (.invokevirtual 106, 3) := by decide +kernel
theorem dX9_span_53 : decode cX9_span 53 = .ok (.iconst 2, 1) := by decide +kernel
theorem dX9_span_54 : decode cX9_span 54 = .ok (.iload_n 3, 1) := by decide +kernel
theorem dX9_span_55 : decode cX9_span 55 = .ok (.imul, 1) := by decide +kernel
theorem dX9_span_56 : decode cX9_span 56 = .ok (.iadd, 1) := by decide +kernel
theorem dX9_span_57 : decode cX9_span 57 = .ok (.istore 5, 2) := by decide +kernel
theorem dX9_span_59 : decode cX9_span 59 = .ok (.iload 5, 2) := by decide +kernel
theorem dX9_span_61 : decode cX9_span 61 = .ok (.i2l, 1) := by decide +kernel
theorem dX9_span_62 : decode cX9_span 62 = .ok (.aload_n 0, 1) := by decide +kernel
theorem dX9_span_63 : decode cX9_span 63 = .ok (.getfield 41, 3) := by decide +kernel
theorem dX9_span_66 : decode cX9_span 66 = .ok (.iload_n 1, 1) := by decide +kernel
theorem dX9_span_67 : decode cX9_span 67 = .ok (.invokevirtual 161, 3) := by decide +kernel
theorem dX9_span_70 : decode cX9_span 70 = .ok (.iconst 2, 1) := by decide +kernel
theorem dX9_span_71 : decode cX9_span 71 = .ok (.iadd, 1) := by decide +kernel
theorem dX9_span_72 : decode cX9_span 72 = .ok (.i2l, 1) := by decide +kernel
theorem dX9_span_73 : decode cX9_span 73 = .ok (.iload 4, 2) := by decide +kernel
theorem dX9_span_75 : decode cX9_span 75 = .ok (.invokestatic 119, 3) := by decide +kernel
theorem dX9_span_78 : decode cX9_span 78 = .ok (.lreturn, 1) := by decide +kernel
theorem dX9_part2_0 : decode cX9_part2 0 = .ok (.aload_n 0, 1) := by decide +kernel
theorem dX9_part2_1 : decode cX9_part2 1 = .ok (.iload_n 1, 1) := by decide +kernel
theorem dX9_part2_2 : decode cX9_part2 2 = .ok (.invokevirtual 132, 3) := by decide +kernel
theorem dX9_part2_5 : decode cX9_part2 5 = .ok (.ifCond .eq 19, 3) := by decide +kernel
theorem dX9_part2_8 : decode cX9_part2 8 = .ok (.lload_n 2, 1) := by decide +kernel
theorem dX9_part2_9 : decode cX9_part2 9 = .ok (.ldc2_w 164, 3) := by decide +kernel
theorem dX9_part2_12 : decode cX9_part2 12 = .ok (.lcmp, 1) := by decide +kernel
theorem dX9_part2_13 : decode cX9_part2 13 = .ok (.ifCond .lt 11, 3) := by decide +kernel
theorem dX9_part2_16 : decode cX9_part2 16 = .ok (.lload_n 2, 1) := by decide +kernel
theorem dX9_part2_17 : decode cX9_part2 17 = .ok (.ldc2_w 166, 3) := by decide +kernel
theorem dX9_part2_20 : decode cX9_part2 20 = .ok (.lcmp, 1) := by decide +kernel
theorem dX9_part2_21 : decode cX9_part2 21 = .ok (.ifCond .le 5, 3) := by decide +kernel
theorem dX9_part2_24 : decode cX9_part2 24 = .ok (.iconst 0, 1) := by decide +kernel
theorem dX9_part2_25 : decode cX9_part2 25 = .ok (.ireturn, 1) := by decide +kernel
theorem dX9_part2_26 : decode cX9_part2 26 = .ok (.aload_n 0, 1) := by decide +kernel
theorem dX9_part2_27 : decode cX9_part2 27 = .ok (.getfield 60, 3) := by decide +kernel
theorem dX9_part2_30 : decode cX9_part2 30 = .ok (.iload_n 1, 1) := by decide +kernel
theorem dX9_part2_31 : decode cX9_part2 31 = .ok (.lload_n 2, 1) := by decide +kernel
theorem dX9_part2_32 : decode cX9_part2 32 = .ok (.l2i, 1) := by decide +kernel
theorem dX9_part2_33 : decode cX9_part2 33 = .ok (.invokevirtual 168, 3) := by decide +kernel
theorem dX9_part2_36 : decode cX9_part2 36 = .ok (.iconst 1, 1) := by decide +kernel
theorem dX9_part2_37 : decode cX9_part2 37 = .ok (.ireturn, 1) := by decide +kernel
theorem dX9_worth_0 : decode cX9_worth 0 = .ok (.aload_n 0, 1) := by decide +kernel
theorem dX9_worth_1 : decode cX9_worth 1 = .ok (.iload_n 1, 1) := by decide +kernel
theorem dX9_worth_2 : decode cX9_worth 2 = .ok (.invokevirtual 123, 3) := by decide +kernel
theorem dX9_worth_5 : decode cX9_worth 5 = .ok (.ifCond .eq 15, 3) := by decide +kernel
theorem dX9_worth_8 : decode cX9_worth 8 = .ok (.aload_n 0, 1) := by decide +kernel
theorem dX9_worth_9 : decode cX9_worth 9 = .ok (.getfield 60, 3) := by decide +kernel
theorem dX9_worth_12 : decode cX9_worth 12 = .ok (.iload_n 1, 1) := by decide +kernel
theorem dX9_worth_13 : decode cX9_worth 13 = .ok (.iload_n 2, 1) := by decide +kernel
theorem dX9_worth_14 : decode cX9_worth 14 = .ok (.invokevirtual 172, 3) := by decide +kernel
theorem dX9_worth_17 : decode cX9_worth 17 = .ok (.goto 6, 3) := by decide +kernel
theorem dX9_worth_20 : decode cX9_worth 20 = .ok (.ldc2_w 130, 3) := by decide +kernel
theorem dX9_worth_23 : decode cX9_worth 23 = .ok (.lreturn, 1) := by decide +kernel
theorem dX9_agree_0 : decode cX9_agree 0 = .ok (.iload_n 1, 1) := by decide +kernel
theorem dX9_agree_1 : decode cX9_agree 1 = .ok (.invokestatic 75, 3) := by decide +kernel
theorem dX9_agree_4 : decode cX9_agree 4 = .ok (.ifCond .eq 24, 3) := by decide +kernel
theorem dX9_agree_7 : decode cX9_agree 7 = .ok (.iload_n 2, 1) := by decide +kernel
theorem dX9_agree_8 : decode cX9_agree 8 = .ok (.invokestatic 75, 3) := by decide +kernel
theorem dX9_agree_11 : decode cX9_agree 11 = .ok (.ifCond .eq 17, 3) := by decide +kernel
theorem dX9_agree_14 : decode cX9_agree 14 = .ok (.iload_n 1, 1) := by decide +kernel
theorem dX9_agree_15 : decode cX9_agree 15 = .ok (.iload_n 2, 1) := by decide +kernel
theorem dX9_agree_16 : decode cX9_agree 16 = .ok (.if_icmp .eq 12, 3) := by decide +kernel
theorem dX9_agree_19 : decode cX9_agree 19 = .ok (.iload_n 3, 1) := by decide +kernel
theorem dX9_agree_20 : decode cX9_agree 20 = .ok (.ifCond .lt 8, 3) := by decide +kernel
theorem dX9_agree_23 : decode cX9_agree 23 = .ok (.iload_n 3, 1) := by decide +kernel
theorem dX9_agree_24 : decode cX9_agree 24 = .ok (.iconst 1, 1) := by decide +kernel
theorem dX9_agree_25 : decode cX9_agree 25 = .ok (.if_icmp .le 7, 3) := by decide +kernel
theorem dX9_agree_28 : decode cX9_agree 28 = .ok (.ldc2_w 130, 3) := by decide +kernel
theorem dX9_agree_31 : decode cX9_agree 31 = .ok (.lreturn, 1) := by decide +kernel
theorem dX9_agree_32 : decode cX9_agree 32 = .ok (.aload_n 0, 1) := by decide +kernel
theorem dX9_agree_33 : decode cX9_agree 33 = .ok (.getfield 34, 3) := by decide +kernel
theorem dX9_agree_36 : decode cX9_agree 36 = .ok (.iload_n 1, 1) := by decide +kernel
theorem dX9_agree_37 : decode cX9_agree 37 = .ok (.iload_n 2, 1) := by decide +kernel
theorem dX9_agree_38 : decode cX9_agree 38 = .ok (.invokevirtual 176, 3) := by decide +kernel
theorem dX9_agree_41 : decode cX9_agree 41 = .ok (.istore 4, 2) := by decide +kernel
theorem dX9_agree_43 : decode cX9_agree 43 = .ok (.iconst 0, 1) := by decide +kernel
theorem dX9_agree_44 : decode cX9_agree 44 = .ok (.istore 5, 2) := by decide +kernel
theorem dX9_agree_46 : decode cX9_agree 46 = .ok (.iconst 0, 1) := by decide +kernel
theorem dX9_agree_47 : decode cX9_agree 47 = .ok (.istore 6, 2) := by decide +kernel
theorem dX9_agree_49 : decode cX9_agree 49 = .ok (.iconst 0, 1) := by decide +kernel
theorem dX9_agree_50 : decode cX9_agree 50 = .ok (.istore 7, 2) := by decide +kernel
theorem dX9_agree_52 : decode cX9_agree 52 = .ok (.iload 7, 2) := by decide +kernel
theorem dX9_agree_54 : decode cX9_agree 54 = .ok (.aload_n 0, 1) := by decide +kernel
theorem dX9_agree_55 : decode cX9_agree 55 = .ok (.getfield 18, 3) := by decide +kernel
theorem dX9_agree_58 : decode cX9_agree 58 = .ok (.if_icmp .ge 53, 3) := by decide +kernel
theorem dX9_agree_61 : decode cX9_agree 61 = .ok (.iload 5, 2) := by decide +kernel
theorem dX9_agree_63 : decode cX9_agree 63 = .ok (.aload_n 0, 1) := by decide +kernel
theorem dX9_agree_64 : decode cX9_agree 64 = .ok (.getfield 34, 3) := by decide +kernel
theorem dX9_agree_67 : decode cX9_agree 67 = .ok (.iload_n 1, 1) := by decide +kernel
theorem dX9_agree_68 : decode cX9_agree 68 = .ok (.iload_n 2, 1) := by decide +kernel
theorem dX9_agree_69 : decode cX9_agree 69 = .ok (.iload 7, 2) := by decide +kernel
theorem dX9_agree_71 : decode cX9_agree 71 = .ok (.invokevirtual 179, 3) := by decide +kernel
theorem dX9_agree_74 : decode cX9_agree 74 = .ok (.iadd, 1) := by decide +kernel
theorem dX9_agree_75 : decode cX9_agree 75 = .ok (.istore 5, 2) := by decide +kernel
theorem dX9_agree_77 : decode cX9_agree 77 = .ok (.iload 6, 2) := by decide +kernel
theorem dX9_agree_79 : decode cX9_agree 79 = .ok (.aload_n 0, 1) := by decide +kernel
theorem dX9_agree_80 : decode cX9_agree 80 = .ok (.getfield 34, 3) := by decide +kernel
theorem dX9_agree_83 : decode cX9_agree 83 = .ok (.iload_n 1, 1) := by decide +kernel
theorem dX9_agree_84 : decode cX9_agree 84 = .ok (.iload_n 2, 1) := by decide +kernel
theorem dX9_agree_85 : decode cX9_agree 85 = .ok (.iload 7, 2) := by decide +kernel
theorem dX9_agree_87 : decode cX9_agree 87 = .ok (.invokevirtual 183, 3) := by decide +kernel
theorem dX9_agree_90 : decode cX9_agree 90 = .ok (.aload_n 0, 1) := by decide +kernel
theorem dX9_agree_91 : decode cX9_agree 91 = .ok (.getfield 34, 3) := by decide +kernel
theorem dX9_agree_94 : decode cX9_agree 94 = .ok (.iload_n 2, 1) := by decide +kernel
theorem dX9_agree_95 : decode cX9_agree 95 = .ok (.iload_n 1, 1) := by decide +kernel
theorem dX9_agree_96 : decode cX9_agree 96 = .ok (.iload 7, 2) := by decide +kernel
theorem dX9_agree_98 : decode cX9_agree 98 = .ok (.invokevirtual 183, 3) := by decide +kernel
theorem dX9_agree_101 : decode cX9_agree 101 = .ok (.imul, 1) := by decide +kernel
theorem dX9_agree_102 : decode cX9_agree 102 = .ok (.iadd, 1) := by decide +kernel
theorem dX9_agree_103 : decode cX9_agree 103 = .ok (.istore 6, 2) := by decide +kernel
theorem dX9_agree_105 : decode cX9_agree 105 = .ok (.iinc 7 1, 3) := by decide +kernel
theorem dX9_agree_108 : decode cX9_agree 108 = .ok (.goto (-56), 3) := by decide +kernel
theorem dX9_agree_111 : decode cX9_agree 111 = .ok (.iload 4, 2) := by decide +kernel
theorem dX9_agree_113 : decode cX9_agree 113 = .ok (.iload 4, 2) := by decide +kernel
theorem dX9_agree_115 : decode cX9_agree 115 = .ok (.imul, 1) := by decide +kernel
theorem dX9_agree_116 : decode cX9_agree 116 = .ok (.iload 6, 2) := by decide +kernel
theorem dX9_agree_118 : decode cX9_agree 118 = .ok (.isub, 1) := by decide +kernel
theorem dX9_agree_119 : decode cX9_agree 119 = .ok (.istore 7, 2) := by decide +kernel
theorem dX9_agree_121 : decode cX9_agree 121 = .ok (.iload 7, 2) := by decide +kernel
theorem dX9_agree_123 : decode cX9_agree 123 = .ok (.ifCond .gt 7, 3) := by decide +kernel
theorem dX9_agree_126 : decode cX9_agree 126 = .ok (.lconst 0, 1) := by decide +kernel
theorem dX9_agree_127 : decode cX9_agree 127 = .ok (.goto 19, 3) := by decide +kernel
theorem dX9_agree_130 : decode cX9_agree 130 = .ok (.iload 4, 2) := by decide +kernel
theorem dX9_agree_132 : decode cX9_agree 132 = .ok (.iload 5, 2) := by decide +kernel
theorem dX9_agree_134 : decode cX9_agree 134 = .ok (.imul, 1) := by decide +kernel
theorem dX9_agree_135 : decode cX9_agree 135 = .ok (.iload 6, 2) := by decide +kernel
theorem dX9_agree_137 : decode cX9_agree 137 = .ok (.isub, 1) := by decide +kernel
theorem dX9_agree_138 : decode cX9_agree 138 = .ok (.i2l, 1) := by decide +kernel
theorem dX9_agree_139 : decode cX9_agree 139 = .ok (.iload 7, 2) := by decide +kernel
theorem dX9_agree_141 : decode cX9_agree 141 = .ok (.i2l, 1) := by decide +kernel
theorem dX9_agree_142 : decode cX9_agree 142 = .ok (.iload_n 3, 1) := by decide +kernel
theorem dX9_agree_143 : decode cX9_agree 143 = .ok (.invokestatic 119, 3) := by decide +kernel
theorem dX9_agree_146 : decode cX9_agree 146 = .ok (.lreturn, 1) := by decide +kernel
theorem dX9_joined_0 : decode cX9_joined 0 = .ok (.aload_n 0, 1) := by decide +kernel
theorem dX9_joined_1 : decode cX9_joined 1 = .ok (.iload_n 1, 1) := by decide +kernel
theorem dX9_joined_2 : decode cX9_joined 2 = .ok (.invokevirtual 132, 3) := by decide +kernel
theorem dX9_joined_5 : decode cX9_joined 5 = .ok (.ifCond .eq 11, 3) := by decide +kernel
theorem dX9_joined_8 : decode cX9_joined 8 = .ok (.aload_n 0, 1) := by decide +kernel
theorem dX9_joined_9 : decode cX9_joined 9 = .ok (.iload_n 2, 1) := by decide +kernel
theorem dX9_joined_10 : decode cX9_joined 10 = .ok (.invokevirtual 132, 3) := by decide +kernel
theorem dX9_joined_13 : decode cX9_joined 13 = .ok (.ifCond .ne 5, 3) := by decide +kernel
theorem dX9_joined_16 : decode cX9_joined 16 = .ok (.iconst (-1), 1) := by decide +kernel
theorem dX9_joined_17 : decode cX9_joined 17 = .ok (.ireturn, 1) := by decide +kernel
theorem dX9_joined_18 : decode cX9_joined 18 = .ok (.aload_n 0, 1) := by decide +kernel
theorem dX9_joined_19 : decode cX9_joined 19 = .ok (.invokevirtual 103, 3) := by decide +kernel
theorem dX9_joined_22 : decode cX9_joined 22 = .ok (.aload_n 0, 1) := by decide +kernel
theorem dX9_joined_23 : decode cX9_joined 23 = .ok (.getfield 41, 3) := by decide +kernel
theorem dX9_joined_26 : decode cX9_joined 26 = .ok (.iload_n 1, 1) := by decide +kernel
theorem dX9_joined_27 : decode cX9_joined 27 = .ok (.iload_n 2, 1) := by decide +kernel
theorem dX9_joined_28 : decode cX9_joined 28 = .ok (.invokevirtual 186, 3) := by decide +kernel
theorem dX9_joined_31 : decode cX9_joined 31 = .ok (.ifCond .eq 7, 3) := by decide +kernel
theorem dX9_joined_34 : decode cX9_joined 34 = .ok (.iconst 1, 1) := by decide +kernel
theorem dX9_joined_35 : decode cX9_joined 35 = .ok (.goto 4, 3) := by decide +kernel
theorem dX9_joined_38 : decode cX9_joined 38 = .ok (.iconst 0, 1) := by decide +kernel
theorem dX9_joined_39 : decode cX9_joined 39 = .ok (.ireturn, 1) := by decide +kernel
theorem dX9_target_0 : decode cX9_target 0 = .ok (.aload_n 0, 1) := by decide +kernel
theorem dX9_target_1 : decode cX9_target 1 = .ok (.iload_n 1, 1) := by decide +kernel
theorem dX9_target_2 : decode cX9_target 2 = .ok (.invokevirtual 132, 3) := by decide +kernel
theorem dX9_target_5 : decode cX9_target 5 = .ok (.ifCond .eq 12, 3) := by decide +kernel
theorem dX9_target_8 : decode cX9_target 8 = .ok (.lload_n 2, 1) := by decide +kernel
theorem dX9_target_9 : decode cX9_target 9 = .ok (.lload 4, 2) := by decide +kernel
theorem dX9_target_11 : decode cX9_target 11 = .ok (.invokestatic 135, 3) := by decide +kernel
theorem dX9_target_14 : decode cX9_target 14 = .ok (.ifCond .ne 5, 3) := by decide +kernel
theorem dX9_target_17 : decode cX9_target 17 = .ok (.iconst (-1), 1) := by decide +kernel
theorem dX9_target_18 : decode cX9_target 18 = .ok (.ireturn, 1) := by decide +kernel
theorem dX9_target_19 : decode cX9_target 19 = .ok (.iconst 0, 1) := by decide +kernel
theorem dX9_target_20 : decode cX9_target 20 = .ok (.istore 6, 2) := by decide +kernel
theorem dX9_target_22 : decode cX9_target 22 = .ok (.iload 6, 2) := by decide +kernel
theorem dX9_target_24 : decode cX9_target 24 = .ok (.bipush 12, 2) := by decide +kernel
theorem dX9_target_26 : decode cX9_target 26 = .ok (.if_icmp .ge 39, 3) := by decide +kernel
theorem dX9_target_29 : decode cX9_target 29 = .ok (.aload_n 0, 1) := by decide +kernel
theorem dX9_target_30 : decode cX9_target 30 = .ok (.iload 6, 2) := by decide +kernel
theorem dX9_target_32 : decode cX9_target 32 = .ok (.invokevirtual 123, 3) := by decide +kernel
theorem dX9_target_35 : decode cX9_target 35 = .ok (.ifCond .eq 30, 3) := by decide +kernel
theorem dX9_target_38 : decode cX9_target 38 = .ok (.aload_n 0, 1) := by decide +kernel
theorem dX9_target_39 : decode cX9_target 39 = .ok (.getfield 60, 3) := by decide +kernel
theorem dX9_target_42 : decode cX9_target 42 = .ok (.iload 6, 2) := by decide +kernel
theorem dX9_target_44 : decode cX9_target 44 = .ok (.iload_n 1, 1) := by decide +kernel
theorem dX9_target_45 : decode cX9_target 45 = .ok (.lload_n 2, 1) := by decide +kernel
theorem dX9_target_46 : decode cX9_target 46 = .ok (.l2i, 1) := by decide +kernel
theorem dX9_target_47 : decode cX9_target 47 = .ok (.lload 4, 2) := by decide +kernel
theorem dX9_target_49 : decode cX9_target 49 = .ok (.l2i, 1) := by decide +kernel
theorem dX9_target_50 : decode cX9_target 50 = .ok (.invokevirtual 190, 3) := by decide +kernel
theorem dX9_target_53 : decode cX9_target 53 = .ok (.ifCond .eq 6, 3) := by decide +kernel
theorem dX9_target_56 : decode cX9_target 56 = .ok (.iload 6, 2) := by decide +kernel
theorem dX9_target_58 : decode cX9_target 58 = .ok (.ireturn, 1) := by decide +kernel
theorem dX9_target_59 : decode cX9_target 59 = .ok (.iinc 6 1, 3) := by decide +kernel
theorem dX9_target_62 : decode cX9_target 62 = .ok (.goto (-40), 3) := by decide +kernel
theorem dX9_target_65 : decode cX9_target 65 = .ok (.iconst (-1), 1) := by decide +kernel
theorem dX9_target_66 : decode cX9_target 66 = .ok (.ireturn, 1) := by decide +kernel
theorem dX9_missing_0 : decode cX9_missing 0 = .ok (.aload_n 0, 1) := by decide +kernel
theorem dX9_missing_1 : decode cX9_missing 1 = .ok (.getfield 34, 3) := by decide +kernel
theorem dX9_missing_4 : decode cX9_missing 4 = .ok (.iload_n 1, 1) := by decide +kernel
theorem dX9_missing_5 : decode cX9_missing 5 = .ok (.invokevirtual 194, 3) := by decide +kernel
theorem dX9_missing_8 : decode cX9_missing 8 = .ok (.ireturn, 1) := by decide +kernel
theorem dX9_kind_0 : decode cX9_kind 0 = .ok (.iload_n 1, 1) := by decide +kernel
theorem dX9_kind_1 : decode cX9_kind 1 = .ok (.invokestatic 68, 3) := by decide +kernel
theorem dX9_kind_4 : decode cX9_kind 4 = .ok (.ifCond .eq 12, 3) := by decide +kernel
theorem dX9_kind_7 : decode cX9_kind 7 = .ok (.iload_n 2, 1) := by decide +kernel
theorem dX9_kind_8 : decode cX9_kind 8 = .ok (.ifCond .lt 8, 3) := by decide +kernel
theorem dX9_kind_11 : decode cX9_kind 11 = .ok (.iload_n 2, 1) := by decide +kernel
theorem dX9_kind_12 : decode cX9_kind 12 = .ok (.iconst 4, 1) := by decide +kernel
theorem dX9_kind_13 : decode cX9_kind 13 = .ok (.if_icmp .lt 5, 3) := by decide +kernel
theorem dX9_kind_16 : decode cX9_kind 16 = .ok (.iconst 0, 1) := by decide +kernel
theorem dX9_kind_17 : decode cX9_kind 17 = .ok (.ireturn, 1) := by decide +kernel
theorem dX9_kind_18 : decode cX9_kind 18 = .ok (.aload_n 0, 1) := by decide +kernel
theorem dX9_kind_19 : decode cX9_kind 19 = .ok (.getfield 34, 3) := by decide +kernel
theorem dX9_kind_22 : decode cX9_kind 22 = .ok (.iload_n 1, 1) := by decide +kernel
theorem dX9_kind_23 : decode cX9_kind 23 = .ok (.iload_n 2, 1) := by decide +kernel
theorem dX9_kind_24 : decode cX9_kind 24 = .ok (.invokevirtual 197, 3) := by decide +kernel
theorem dX9_kind_27 : decode cX9_kind 27 = .ok (.iconst 1, 1) := by decide +kernel
theorem dX9_kind_28 : decode cX9_kind 28 = .ok (.ireturn, 1) := by decide +kernel
theorem dX9_isState_0 : decode cX9_isState 0 = .ok (.iload_n 1, 1) := by decide +kernel
theorem dX9_isState_1 : decode cX9_isState 1 = .ok (.ifCond .lt 15, 3) := by decide +kernel
theorem dX9_isState_4 : decode cX9_isState 4 = .ok (.iload_n 1, 1) := by decide +kernel
theorem dX9_isState_5 : decode cX9_isState 5 = .ok (.aload_n 0, 1) := by decide +kernel
theorem dX9_isState_6 : decode cX9_isState 6 = .ok (.getfield 18, 3) := by decide +kernel
theorem dX9_isState_9 : decode cX9_isState 9 = .ok (.if_icmp .ge 7, 3) := by decide +kernel
theorem dX9_isState_12 : decode cX9_isState 12 = .ok (.iconst 1, 1) := by decide +kernel
theorem dX9_isState_13 : decode cX9_isState 13 = .ok (.goto 4, 3) := by decide +kernel
theorem dX9_isState_16 : decode cX9_isState 16 = .ok (.iconst 0, 1) := by decide +kernel
theorem dX9_isState_17 : decode cX9_isState 17 = .ok (.ireturn, 1) := by decide +kernel
theorem dX9_isThing_0 : decode cX9_isThing 0 = .ok (.iload_n 0, 1) := by decide +kernel
theorem dX9_isThing_1 : decode cX9_isThing 1 = .ok (.ifCond .lt 13, 3) := by decide +kernel
theorem dX9_isThing_4 : decode cX9_isThing 4 = .ok (.iload_n 0, 1) := by decide +kernel
theorem dX9_isThing_5 : decode cX9_isThing 5 = .ok (.bipush 10, 2) := by decide +kernel
theorem dX9_isThing_7 : decode cX9_isThing 7 = .ok (.if_icmp .ge 7, 3) := by decide +kernel
theorem dX9_isThing_10 : decode cX9_isThing 10 = .ok (.iconst 1, 1) := by decide +kernel
theorem dX9_isThing_11 : decode cX9_isThing 11 = .ok (.goto 4, 3) := by decide +kernel
theorem dX9_isThing_14 : decode cX9_isThing 14 = .ok (.iconst 0, 1) := by decide +kernel
theorem dX9_isThing_15 : decode cX9_isThing 15 = .ok (.ireturn, 1) := by decide +kernel
theorem dX9_isYear_0 : decode cX9_isYear 0 = .ok (.iload_n 0, 1) := by decide +kernel
theorem dX9_isYear_1 : decode cX9_isYear 1 = .ok (.ifCond .lt 13, 3) := by decide +kernel
theorem dX9_isYear_4 : decode cX9_isYear 4 = .ok (.iload_n 0, 1) := by decide +kernel
theorem dX9_isYear_5 : decode cX9_isYear 5 = .ok (.bipush 12, 2) := by decide +kernel
theorem dX9_isYear_7 : decode cX9_isYear 7 = .ok (.if_icmp .ge 7, 3) := by decide +kernel
theorem dX9_isYear_10 : decode cX9_isYear 10 = .ok (.iconst 1, 1) := by decide +kernel
theorem dX9_isYear_11 : decode cX9_isYear 11 = .ok (.goto 4, 3) := by decide +kernel
theorem dX9_isYear_14 : decode cX9_isYear 14 = .ok (.iconst 0, 1) := by decide +kernel
theorem dX9_isYear_15 : decode cX9_isYear 15 = .ok (.ireturn, 1) := by decide +kernel
theorem dX9_isPerson_0 : decode cX9_isPerson 0 = .ok (.iload_n 0, 1) := by decide +kernel
theorem dX9_isPerson_1 : decode cX9_isPerson 1 = .ok (.ifCond .lt 12, 3) := by decide +kernel
theorem dX9_isPerson_4 : decode cX9_isPerson 4 = .ok (.iload_n 0, 1) := by decide +kernel
theorem dX9_isPerson_5 : decode cX9_isPerson 5 = .ok (.iconst 4, 1) := by decide +kernel
theorem dX9_isPerson_6 : decode cX9_isPerson 6 = .ok (.if_icmp .ge 7, 3) := by decide +kernel
theorem dX9_isPerson_9 : decode cX9_isPerson 9 = .ok (.iconst 1, 1) := by decide +kernel
theorem dX9_isPerson_10 : decode cX9_isPerson 10 = .ok (.goto 4, 3) := by decide +kernel
theorem dX9_isPerson_13 : decode cX9_isPerson 13 = .ok (.iconst 0, 1) := by decide +kernel
theorem dX9_isPerson_14 : decode cX9_isPerson 14 = .ok (.ireturn, 1) := by decide +kernel
theorem dX9_isFraction_0 : decode cX9_isFraction 0 = .ok (.lload_n 0, 1) := by decide +kernel
theorem dX9_isFraction_1 : decode cX9_isFraction 1 = .ok (.lconst 0, 1) := by decide +kernel
theorem dX9_isFraction_2 : decode cX9_isFraction 2 = .ok (.lcmp, 1) := by decide +kernel
theorem dX9_isFraction_3 : decode cX9_isFraction 3 = .ok (.ifCond .lt 27, 3) := by decide +kernel
theorem dX9_isFraction_6 : decode cX9_isFraction 6 = .ok (.lload_n 0, 1) := by decide +kernel
theorem dX9_isFraction_7 : decode cX9_isFraction 7 = .ok (.lload_n 2, 1) := by decide +kernel
theorem dX9_isFraction_8 : decode cX9_isFraction 8 = .ok (.lcmp, 1) := by decide +kernel
theorem dX9_isFraction_9 : decode cX9_isFraction 9 = .ok (.ifCond .gt 21, 3) := by decide +kernel
theorem dX9_isFraction_12 : decode cX9_isFraction 12 = .ok (.lload_n 2, 1) := by decide +kernel
theorem dX9_isFraction_13 : decode cX9_isFraction 13 = .ok (.lconst 0, 1) := by decide +kernel
theorem dX9_isFraction_14 : decode cX9_isFraction 14 = .ok (.lcmp, 1) := by decide +kernel
theorem dX9_isFraction_15 : decode cX9_isFraction 15 = .ok (.ifCond .le 15, 3) := by decide +kernel
theorem dX9_isFraction_18 : decode cX9_isFraction 18 = .ok (.lload_n 2, 1) := by decide +kernel
theorem dX9_isFraction_19 : decode cX9_isFraction 19 = .ok (.ldc2_w 200, 3) := by decide +kernel
theorem dX9_isFraction_22 : decode cX9_isFraction 22 = .ok (.lcmp, 1) := by decide +kernel
theorem dX9_isFraction_23 : decode cX9_isFraction 23 = .ok (.ifCond .gt 7, 3) := by decide +kernel
theorem dX9_isFraction_26 : decode cX9_isFraction 26 = .ok (.iconst 1, 1) := by decide +kernel
theorem dX9_isFraction_27 : decode cX9_isFraction 27 = .ok (.goto 4, 3) := by decide +kernel
theorem dX9_isFraction_30 : decode cX9_isFraction 30 = .ok (.iconst 0, 1) := by decide +kernel
theorem dX9_isFraction_31 : decode cX9_isFraction 31 = .ok (.ireturn, 1) := by decide +kernel
theorem dX9_needState_0 : decode cX9_needState 0 = .ok (.aload_n 0, 1) := by decide +kernel
theorem dX9_needState_1 : decode cX9_needState 1 = .ok (.iload_n 1, 1) := by decide +kernel
theorem dX9_needState_2 : decode cX9_needState 2 = .ok (.invokevirtual 132, 3) := by decide +kernel
theorem dX9_needState_5 : decode cX9_needState 5 = .ok (.ifCond .ne 13, 3) := by decide +kernel
theorem dX9_needState_8 : decode cX9_needState 8 = .ok (.new 202, 3) := by decide +kernel
theorem dX9_needState_18 : decode cX9_needState 18 = .ok (.return_, 1) := by decide +kernel
theorem dX9_tell_0 : decode cX9_tell 0 = .ok (.iload_n 2, 1) := by decide +kernel
theorem dX9_tell_1 : decode cX9_tell 1 = .ok (.invokestatic 72, 3) := by decide +kernel
theorem dX9_tell_4 : decode cX9_tell 4 = .ok (.ifCond .eq 59, 3) := by decide +kernel
theorem dX9_tell_7 : decode cX9_tell 7 = .ok (.iload_n 2, 1) := by decide +kernel
theorem dX9_tell_8 : decode cX9_tell 8 = .ok (.bipush 11, 2) := by decide +kernel
theorem dX9_tell_10 : decode cX9_tell 10 = .ok (.if_icmp .eq 53, 3) := by decide +kernel
theorem dX9_tell_13 : decode cX9_tell 13 = .ok (.aload_n 0, 1) := by decide +kernel
theorem dX9_tell_14 : decode cX9_tell 14 = .ok (.iload_n 3, 1) := by decide +kernel
theorem dX9_tell_15 : decode cX9_tell 15 = .ok (.invokevirtual 132, 3) := by decide +kernel
theorem dX9_tell_18 : decode cX9_tell 18 = .ok (.ifCond .eq 45, 3) := by decide +kernel
theorem dX9_tell_21 : decode cX9_tell 21 = .ok (.aload_n 0, 1) := by decide +kernel
theorem dX9_tell_22 : decode cX9_tell 22 = .ok (.iload 4, 2) := by decide +kernel
theorem dX9_tell_24 : decode cX9_tell 24 = .ok (.invokevirtual 132, 3) := by decide +kernel
theorem dX9_tell_27 : decode cX9_tell 27 = .ok (.ifCond .eq 36, 3) := by decide +kernel
theorem dX9_tell_30 : decode cX9_tell 30 = .ok (.iload_n 3, 1) := by decide +kernel
theorem dX9_tell_31 : decode cX9_tell 31 = .ok (.iload 4, 2) := by decide +kernel
theorem dX9_tell_33 : decode cX9_tell 33 = .ok (.if_icmp .eq 30, 3) := by decide +kernel
theorem dX9_tell_36 : decode cX9_tell 36 = .ok (.lload 5, 2) := by decide +kernel
theorem dX9_tell_38 : decode cX9_tell 38 = .ok (.lload 7, 2) := by decide +kernel
theorem dX9_tell_40 : decode cX9_tell 40 = .ok (.invokestatic 135, 3) := by decide +kernel
theorem dX9_tell_43 : decode cX9_tell 43 = .ok (.ifCond .eq 20, 3) := by decide +kernel
theorem dX9_tell_46 : decode cX9_tell 46 = .ok (.aload_n 1, 1) := by decide +kernel
theorem dX9_tell_47 : decode cX9_tell 47 = .ok (.iload_n 2, 1) := by decide +kernel
theorem dX9_tell_48 : decode cX9_tell 48 = .ok (.iload_n 3, 1) := by decide +kernel
theorem dX9_tell_49 : decode cX9_tell 49 = .ok (.iload 4, 2) := by decide +kernel
theorem dX9_tell_51 : decode cX9_tell 51 = .ok (.lload 5, 2) := by decide +kernel
theorem dX9_tell_53 : decode cX9_tell 53 = .ok (.l2i, 1) := by decide +kernel
theorem dX9_tell_54 : decode cX9_tell 54 = .ok (.lload 7, 2) := by decide +kernel
theorem dX9_tell_56 : decode cX9_tell 56 = .ok (.l2i, 1) := by decide +kernel
theorem dX9_tell_57 : decode cX9_tell 57 = .ok (.invokevirtual 209, 3) := by decide +kernel
theorem dX9_tell_60 : decode cX9_tell 60 = .ok (.ifCond .ne 5, 3) := by decide +kernel
theorem dX9_tell_63 : decode cX9_tell 63 = .ok (.iconst 0, 1) := by decide +kernel
theorem dX9_tell_64 : decode cX9_tell 64 = .ok (.ireturn, 1) := by decide +kernel
theorem dX9_tell_65 : decode cX9_tell 65 = .ok (.aload_n 0, 1) := by decide +kernel
theorem dX9_tell_66 : decode cX9_tell 66 = .ok (.getfield 60, 3) := by decide +kernel
theorem dX9_tell_69 : decode cX9_tell 69 = .ok (.iload_n 2, 1) := by decide +kernel
theorem dX9_tell_70 : decode cX9_tell 70 = .ok (.iconst 1, 1) := by decide +kernel
theorem dX9_tell_71 : decode cX9_tell 71 = .ok (.iadd, 1) := by decide +kernel
theorem dX9_tell_72 : decode cX9_tell 72 = .ok (.invokevirtual 213, 3) := by decide +kernel
theorem dX9_tell_75 : decode cX9_tell 75 = .ok (.iconst 1, 1) := by decide +kernel
theorem dX9_tell_76 : decode cX9_tell 76 = .ok (.ireturn, 1) := by decide +kernel
theorem dX9_renewMoves_0 : decode cX9_renewMoves 0 = .ok (.aload_n 0, 1) := by decide +kernel
theorem dX9_renewMoves_1 : decode cX9_renewMoves 1 = .ok (.getfield 64, 3) := by decide +kernel
theorem dX9_renewMoves_4 : decode cX9_renewMoves 4 = .ok (.ifCond .eq 30, 3) := by decide +kernel
theorem dX9_renewMoves_7 : decode cX9_renewMoves 7 = .ok (.aload_n 0, 1) := by decide +kernel
theorem dX9_renewMoves_8 : decode cX9_renewMoves 8 = .ok (.iconst 0, 1) := by decide +kernel
theorem dX9_renewMoves_9 : decode cX9_renewMoves 9 = .ok (.putfield 64, 3) := by decide +kernel
theorem dX9_renewMoves_12 : decode cX9_renewMoves 12 = .ok (.aload_n 0, 1) := by decide +kernel
theorem dX9_renewMoves_13 : decode cX9_renewMoves 13 = .ok (.getfield 41, 3) := by decide +kernel
theorem dX9_renewMoves_16 : decode cX9_renewMoves 16 = .ok (.aload_n 0, 1) := by decide +kernel
theorem dX9_renewMoves_17 : decode cX9_renewMoves 17 = .ok (.getfield 34, 3) := by decide +kernel
theorem dX9_renewMoves_20 : decode cX9_renewMoves 20 = .ok (.invokevirtual 216, 3) := by decide +kernel
theorem dX9_renewMoves_23 : decode cX9_renewMoves 23 = .ok (.ifCond .eq 11, 3) := by decide +kernel
theorem dX9_renewMoves_26 : decode cX9_renewMoves 26 = .ok (.aload_n 0, 1) := by decide +kernel
theorem dX9_renewMoves_27 : decode cX9_renewMoves 27 = .ok (.getfield 60, 3) := by decide +kernel
theorem dX9_renewMoves_30 : decode cX9_renewMoves 30 = .ok (.iconst 1, 1) := by decide +kernel
theorem dX9_renewMoves_31 : decode cX9_renewMoves 31 = .ok (.invokevirtual 213, 3) := by decide +kernel
theorem dX9_renewMoves_34 : decode cX9_renewMoves 34 = .ok (.return_, 1) := by decide +kernel
theorem dX9_foretold_0 : decode cX9_foretold 0 = .ok (.iload_n 1, 1) := by decide +kernel
theorem dX9_foretold_1 : decode cX9_foretold 1 = .ok (.invokestatic 72, 3) := by decide +kernel
theorem dX9_foretold_4 : decode cX9_foretold 4 = .ok (.ifCond .ne 5, 3) := by decide +kernel
theorem dX9_foretold_7 : decode cX9_foretold 7 = .ok (.iconst 0, 1) := by decide +kernel
theorem dX9_foretold_8 : decode cX9_foretold 8 = .ok (.ireturn, 1) := by decide +kernel
theorem dX9_foretold_9 : decode cX9_foretold 9 = .ok (.aload_n 0, 1) := by decide +kernel
theorem dX9_foretold_10 : decode cX9_foretold 10 = .ok (.invokevirtual 103, 3) := by decide +kernel
theorem dX9_foretold_13 : decode cX9_foretold 13 = .ok (.aload_n 0, 1) := by decide +kernel
theorem dX9_foretold_14 : decode cX9_foretold 14 = .ok (.getfield 60, 3) := by decide +kernel
theorem dX9_foretold_17 : decode cX9_foretold 17 = .ok (.iload_n 1, 1) := by decide +kernel
theorem dX9_foretold_18 : decode cX9_foretold 18 = .ok (.invokevirtual 220, 3) := by decide +kernel
theorem dX9_foretold_21 : decode cX9_foretold 21 = .ok (.ireturn, 1) := by decide +kernel
theorem dX9_draw_0 : decode cX9_draw 0 = .ok (.lload_n 0, 1) := by decide +kernel
theorem dX9_draw_1 : decode cX9_draw 1 = .ok (.ldc2_w 223, 3) := by decide +kernel
theorem dX9_draw_4 : decode cX9_draw 4 = .ok (.iload_n 2, 1) := by decide +kernel
theorem dX9_draw_5 : decode cX9_draw 5 = .ok (.i2l, 1) := by decide +kernel
theorem dX9_draw_6 : decode cX9_draw 6 = .ok (.lmul, 1) := by decide +kernel
theorem dX9_draw_7 : decode cX9_draw 7 = .ok (.ladd, 1) := by decide +kernel
theorem dX9_draw_8 : decode cX9_draw 8 = .ok (.ldc2_w 225, 3) := by decide +kernel
theorem dX9_draw_11 : decode cX9_draw 11 = .ok (.iload_n 3, 1) := by decide +kernel
theorem dX9_draw_12 : decode cX9_draw 12 = .ok (.i2l, 1) := by decide +kernel
theorem dX9_draw_13 : decode cX9_draw 13 = .ok (.lmul, 1) := by decide +kernel
theorem dX9_draw_14 : decode cX9_draw 14 = .ok (.ladd, 1) := by decide +kernel
theorem dX9_draw_15 : decode cX9_draw 15 = .ok (.lstore 4, 2) := by decide +kernel
theorem dX9_draw_17 : decode cX9_draw 17 = .ok (.lload 4, 2) := by decide +kernel
theorem dX9_draw_19 : decode cX9_draw 19 = .ok (.ldc2_w 227, 3) := by decide +kernel
theorem dX9_draw_22 : decode cX9_draw 22 = .ok (.lmul, 1) := by decide +kernel
theorem dX9_draw_23 : decode cX9_draw 23 = .ok (.ldc2_w 229, 3) := by decide +kernel
theorem dX9_draw_26 : decode cX9_draw 26 = .ok (.ladd, 1) := by decide +kernel
theorem dX9_draw_27 : decode cX9_draw 27 = .ok (.lstore 4, 2) := by decide +kernel
theorem dX9_draw_29 : decode cX9_draw 29 = .ok (.lload 4, 2) := by decide +kernel
theorem dX9_draw_31 : decode cX9_draw 31 = .ok (.ldc2_w 227, 3) := by decide +kernel
theorem dX9_draw_34 : decode cX9_draw 34 = .ok (.lmul, 1) := by decide +kernel
theorem dX9_draw_35 : decode cX9_draw 35 = .ok (.ldc2_w 229, 3) := by decide +kernel
theorem dX9_draw_38 : decode cX9_draw 38 = .ok (.ladd, 1) := by decide +kernel
theorem dX9_draw_39 : decode cX9_draw 39 = .ok (.lstore 4, 2) := by decide +kernel
theorem dX9_draw_41 : decode cX9_draw 41 = .ok (.lload 4, 2) := by decide +kernel
theorem dX9_draw_43 : decode cX9_draw 43 = .ok (.bipush 33, 2) := by decide +kernel
theorem dX9_draw_45 : decode cX9_draw 45 = .ok (.lushr, 1) := by decide +kernel
theorem dX9_draw_46 : decode cX9_draw 46 = .ok (.lreturn, 1) := by decide +kernel
set_option maxRecDepth 20000 in
theorem v_X9_init_0 {g : xG} {post : xPost} {h : xHp} {nx : Nat} {x0 : Nat} {x1 : Int32} (V : (h x0 = some (xo 10 [.int (nI 0), .null, .null, .null, .null, .null, .null, .int (nI 0)]) ∧ ∃ z2 : Nat, (if (nI 2) < (if x1 < (nI 6) then x1 else (nI 6)) then (if x1 < (nI 6) then x1 else (nI 6)) else (nI 2)) = nI z2 ∧ (x0 ≠ nx ∧ (Ct g M_X7_init [.ref nx, .int (nI z2)] (xup (xup h x0 (xo 10 [.int (nI z2), .null, .null, .null, .null, .null, .null, .int (nI 0)])) nx (xo 8 [.int (nI 0), .null, .int (nI 0), .null, .null, .int (nI 0), .int (nI 0), .null, .null])) (nx + 1) (fun r h6 n7 => r = none ∧ (∃ (o9 : Nat), h6 x0 = some (xo 10 [.int (nI o9), .null, .null, .null, .null, .null, .null, .int (nI 0)]) ∧ (Ct g M_X3_init [.ref n7] (xup (xup h6 x0 (xo 10 [.int (nI o9), .ref nx, .null, .null, .null, .null, .null, .int (nI 0)])) n7 (xo 4 [.null, .null, .null, .null])) (n7 + 1) (fun r h10 n11 => r = none ∧ (∃ (o13 : Nat) (o14 : Nat), h10 x0 = some (xo 10 [.int (nI o13), .ref o14, .null, .null, .null, .null, .null, .int (nI 0)]) ∧ (x0 ≠ n11 ∧ (Ct g M_X4_init [.ref n11, .int (nI o13)] (xup (xup h10 x0 (xo 10 [.int (nI o13), .ref o14, .ref n7, .null, .null, .null, .null, .int (nI 0)])) n11 (xo 5 [.int (nI 0), .null, .null, .null, .null, .null, .int (nI 0), .int (nI 0)])) (n11 + 1) (fun r h17 n18 => r = none ∧ (∃ (o20 : Nat) (o21 : Nat) (o22 : Nat), h17 x0 = some (xo 10 [.int (nI o20), .ref o21, .ref o22, .null, .null, .null, .null, .int (nI 0)]) ∧ (Ct g M_X8_init [.ref n18] (xup (xup h17 x0 (xo 10 [.int (nI o20), .ref o21, .ref o22, .ref n11, .null, .null, .null, .int (nI 0)])) n18 (xo 9 [.null, .null, .null, .null, .null])) (n18 + 1) (fun r h23 n24 => r = none ∧ (∃ (o26 : Nat) (o27 : Nat) (o28 : Nat) (o29 : Nat), h23 x0 = some (xo 10 [.int (nI o26), .ref o27, .ref o28, .ref o29, .null, .null, .null, .int (nI 0)]) ∧ (Ct g M_X8_init [.ref n24] (xup (xup h23 x0 (xo 10 [.int (nI o26), .ref o27, .ref o28, .ref o29, .ref n18, .null, .null, .int (nI 0)])) n24 (xo 9 [.null, .null, .null, .null, .null])) (n24 + 1) (fun r h30 n31 => r = none ∧ (∃ (o33 : Nat) (o34 : Nat) (o35 : Nat) (o36 : Nat) (o37 : Nat), h30 x0 = some (xo 10 [.int (nI o33), .ref o34, .ref o35, .ref o36, .ref o37, .null, .null, .int (nI 0)]) ∧ (x0 ≠ n31 ∧ (Ct g M_X1_init [.ref n31, .int (nI o33), .ref o36, .ref o37, .ref n24] (xup (xup h30 x0 (xo 10 [.int (nI o33), .ref o34, .ref o35, .ref o36, .ref o37, .ref n24, .null, .int (nI 0)])) n31 (xo 2 [.int (nI 0), .null, .null, .null, .null, .null, .null, .null, .null, .null, .null, .null, .null, .int (nI 0), .int (nI 0), .int (nI 0), .int (nI 0), .int (nI 0)])) (n31 + 1) (fun r h40 n41 => r = none ∧ (∃ (o43 : Nat) (o44 : Nat) (o45 : Nat) (o46 : Nat) (o47 : Nat) (o48 : Nat), h40 x0 = some (xo 10 [.int (nI o43), .ref o44, .ref o45, .ref o46, .ref o47, .ref o48, .null, .int (nI 0)]) ∧ (post none (xup h40 x0 (xo 10 [.int (nI o43), .ref o44, .ref o45, .ref o46, .ref o47, .ref o48, .ref n31, .int (nI 1)])) n41)))))))))))))))))))))))) : Blk g M_X9_init post 0 [(0, .ref x0), (1, .int x1)] [] h nx 0 0 := by
  refine r_aload_n 0 dX9_init_0 rfl rfl ?_
  refine r_oinit wM_X9_1 wi_java_lang_Object__init____V wc_java_lang_Object__init____V dX9_init_1 (by decide) (Nat.le_of_ble_eq_true rfl) ?_
  refine r_aload_n 0 dX9_init_4 rfl rfl ?_
  refine r_iconst (v := (nI 2)) dX9_init_5 rfl ?_
  refine r_bipush (v := (nI 6)) dX9_init_6 rfl ?_
  refine r_iload_n 1 dX9_init_8 rfl rfl ?_
  refine r_mmin wM_X9_9 ws_J9_min_7cf53 wI_java_lang_Math wc_J9_min_7cf53 dX9_init_9 (by decide) (Nat.le_of_ble_eq_true rfl) (by decide) (by decide) ?_
  refine r_mmax wM_X9_15 ws_J9_max_7cf53 wI_java_lang_Math wc_J9_max_7cf53 dX9_init_12 (by decide) (Nat.le_of_ble_eq_true rfl) (by decide) (by decide) ?_
  obtain ⟨q1, V⟩ := V
  obtain ⟨z2, e3, V⟩ := V
  refine Blk.to (st' := [.int (nI z2), .ref x0]) ?_ ⟨rfl, by rw [e3], rfl⟩
  refine r_putF (ci := 10) (kf := 0) (T := TX9) rfl in_X9 tyX9_ok nmX9 (by decide) wF_X9_18 rfl rfl rfl (tyX9_ok 0 (by decide)) dX9_init_15 q1 (Nat.le_of_ble_eq_true rfl) rfl rfl ?_
  show Blk g M_X9_init post 18 [(0, .ref x0), (1, .int x1)] [] (xup h x0 (xo 10 [.int (nI z2), .null, .null, .null, .null, .null, .null, .int (nI 0)])) nx 0 0
  refine r_aload_n 0 dX9_init_18 rfl rfl ?_
  refine r_new (ci := 8) (N := 9) (fs := [.int (nI 0), .null, .int (nI 0), .null, .null, .int (nI 0), .int (nI 0), .null, .null]) (T := TX7) rfl in_X7 tyX7_ok wC_X9_22 wN_StateShares_Rules wI_StateShares_Rules dX9_init_19 df_X7 (by decide) (by decide) ?_
  show Blk g M_X9_init post 22 [(0, .ref x0), (1, .int x1)] [.ref nx, .ref x0] (xup (xup h x0 (xo 10 [.int (nI z2), .null, .null, .null, .null, .null, .null, .int (nI 0)])) nx (xo 8 [.int (nI 0), .null, .int (nI 0), .null, .null, .int (nI 0), .int (nI 0), .null, .null])) (nx + 1) 1 9
  refine r_dup dX9_init_22 rfl ?_
  refine r_aload_n 0 dX9_init_23 rfl rfl ?_
  obtain ⟨n4, V⟩ := V
  have q5 : (xup (xup h x0 (xo 10 [.int (nI z2), .null, .null, .null, .null, .null, .null, .int (nI 0)])) nx (xo 8 [.int (nI 0), .null, .int (nI 0), .null, .null, .int (nI 0), .int (nI 0), .null, .null])) x0 = some (xo 10 [.int (nI z2), .null, .null, .null, .null, .null, .null, .int (nI 0)]) := (xup_n n4).trans (xup_s _ _ _)
  refine r_getf (ci := 10) (kf := 0) (T := TX9) rfl in_X9 (by decide) wF_X9_18 dX9_init_24 q5 rfl ?_
  refine r_callI (M2 := M_X7_init) (n := 1) (As := [.int (nI z2)]) (wl4 wM_X9_24 wi_X7_init wI_StateShares_Rules wc_X7_init) rfl rfl (by decide +kernel) (by decide) rfl rfl (Nat.le_of_ble_eq_true rfl) dX9_init_27 (by decide) (by decide) (Ct.imp V (fun r h6 n7 V => ?_))
  obtain ⟨rfl, V⟩ := V
  show Blk g M_X9_init post 30 [(0, .ref x0), (1, .int x1)] [.ref nx, .ref x0] h6 n7 16 581
  obtain ⟨o9, q8, V⟩ := V
  refine r_putF (ci := 10) (kf := 1) (T := TX9) rfl in_X9 tyX9_ok nmX9 (by decide) wF_X9_27 rfl rfl rfl (tyX9_ok 1 (by decide)) dX9_init_30 q8 (Nat.le_of_ble_eq_true rfl) rfl rfl ?_
  show Blk g M_X9_init post 33 [(0, .ref x0), (1, .int x1)] [] (xup h6 x0 (xo 10 [.int (nI o9), .ref nx, .null, .null, .null, .null, .null, .int (nI 0)])) n7 16 581
  refine r_aload_n 0 dX9_init_33 rfl rfl ?_
  refine r_new (ci := 4) (N := 4) (fs := [.null, .null, .null, .null]) (T := TX3) rfl in_X3 tyX3_ok wC_X9_31 wN_StateShares_Marks wI_StateShares_Marks dX9_init_34 df_X3 (by decide) (by decide) ?_
  show Blk g M_X9_init post 37 [(0, .ref x0), (1, .int x1)] [.ref n7, .ref x0] (xup (xup h6 x0 (xo 10 [.int (nI o9), .ref nx, .null, .null, .null, .null, .null, .int (nI 0)])) n7 (xo 4 [.null, .null, .null, .null])) (n7 + 1) 17 585
  refine r_dup dX9_init_37 rfl ?_
  refine r_callI (M2 := M_X3_init) (n := 0) (As := []) (wl4 wM_X9_33 wi_X3_init wI_StateShares_Marks wc_X3_init) rfl rfl (by decide +kernel) (by decide) rfl rfl (Nat.le_of_ble_eq_true rfl) dX9_init_38 (by decide) (by decide) (Ct.imp V (fun r h10 n11 V => ?_))
  obtain ⟨rfl, V⟩ := V
  show Blk g M_X9_init post 41 [(0, .ref x0), (1, .int x1)] [.ref n7, .ref x0] h10 n11 21 1199
  obtain ⟨o13, o14, q12, V⟩ := V
  refine r_putF (ci := 10) (kf := 2) (T := TX9) rfl in_X9 tyX9_ok nmX9 (by decide) wF_X9_34 rfl rfl rfl (tyX9_ok 2 (by decide)) dX9_init_41 q12 (Nat.le_of_ble_eq_true rfl) rfl rfl ?_
  show Blk g M_X9_init post 44 [(0, .ref x0), (1, .int x1)] [] (xup h10 x0 (xo 10 [.int (nI o13), .ref o14, .ref n7, .null, .null, .null, .null, .int (nI 0)])) n11 21 1199
  refine r_aload_n 0 dX9_init_44 rfl rfl ?_
  refine r_new (ci := 5) (N := 8) (fs := [.int (nI 0), .null, .null, .null, .null, .null, .int (nI 0), .int (nI 0)]) (T := TX4) rfl in_X4 tyX4_ok wC_X9_38 wN_StateShares_Moves wI_StateShares_Moves dX9_init_45 df_X4 (by decide) (by decide) ?_
  show Blk g M_X9_init post 48 [(0, .ref x0), (1, .int x1)] [.ref n11, .ref x0] (xup (xup h10 x0 (xo 10 [.int (nI o13), .ref o14, .ref n7, .null, .null, .null, .null, .int (nI 0)])) n11 (xo 5 [.int (nI 0), .null, .null, .null, .null, .null, .int (nI 0), .int (nI 0)])) (n11 + 1) 22 1207
  refine r_dup dX9_init_48 rfl ?_
  refine r_aload_n 0 dX9_init_49 rfl rfl ?_
  obtain ⟨n15, V⟩ := V
  have q16 : (xup (xup h10 x0 (xo 10 [.int (nI o13), .ref o14, .ref n7, .null, .null, .null, .null, .int (nI 0)])) n11 (xo 5 [.int (nI 0), .null, .null, .null, .null, .null, .int (nI 0), .int (nI 0)])) x0 = some (xo 10 [.int (nI o13), .ref o14, .ref n7, .null, .null, .null, .null, .int (nI 0)]) := (xup_n n15).trans (xup_s _ _ _)
  refine r_getf (ci := 10) (kf := 0) (T := TX9) rfl in_X9 (by decide) wF_X9_18 dX9_init_50 q16 rfl ?_
  refine r_callI (M2 := M_X4_init) (n := 1) (As := [.int (nI o13)]) (wl4 wM_X9_40 wi_X4_init wI_StateShares_Moves wc_X4_init) rfl rfl (by decide +kernel) (by decide) rfl rfl (Nat.le_of_ble_eq_true rfl) dX9_init_53 (by decide) (by decide) (Ct.imp V (fun r h17 n18 V => ?_))
  obtain ⟨rfl, V⟩ := V
  show Blk g M_X9_init post 56 [(0, .ref x0), (1, .int x1)] [.ref n11, .ref x0] h17 n18 27 1297
  obtain ⟨o20, o21, o22, q19, V⟩ := V
  refine r_putF (ci := 10) (kf := 3) (T := TX9) rfl in_X9 tyX9_ok nmX9 (by decide) wF_X9_41 rfl rfl rfl (tyX9_ok 3 (by decide)) dX9_init_56 q19 (Nat.le_of_ble_eq_true rfl) rfl rfl ?_
  show Blk g M_X9_init post 59 [(0, .ref x0), (1, .int x1)] [] (xup h17 x0 (xo 10 [.int (nI o20), .ref o21, .ref o22, .ref n11, .null, .null, .null, .int (nI 0)])) n18 27 1297
  refine r_aload_n 0 dX9_init_59 rfl rfl ?_
  refine r_new (ci := 9) (N := 5) (fs := [.null, .null, .null, .null, .null]) (T := TX8) rfl in_X8 tyX8_ok wC_X9_45 wN_StateShares_Transfers wI_StateShares_Transfers dX9_init_60 df_X8 (by decide) (by decide) ?_
  show Blk g M_X9_init post 63 [(0, .ref x0), (1, .int x1)] [.ref n18, .ref x0] (xup (xup h17 x0 (xo 10 [.int (nI o20), .ref o21, .ref o22, .ref n11, .null, .null, .null, .int (nI 0)])) n18 (xo 9 [.null, .null, .null, .null, .null])) (n18 + 1) 28 1302
  refine r_dup dX9_init_63 rfl ?_
  refine r_callI (M2 := M_X8_init) (n := 0) (As := []) (wl4 wM_X9_47 wi_X8_init wI_StateShares_Transfers wc_X8_init) rfl rfl (by decide +kernel) (by decide) rfl rfl (Nat.le_of_ble_eq_true rfl) dX9_init_64 (by decide) (by decide) (Ct.imp V (fun r h23 n24 V => ?_))
  obtain ⟨rfl, V⟩ := V
  show Blk g M_X9_init post 67 [(0, .ref x0), (1, .int x1)] [.ref n18, .ref x0] h23 n24 33 1890
  obtain ⟨o26, o27, o28, o29, q25, V⟩ := V
  refine r_putF (ci := 10) (kf := 4) (T := TX9) rfl in_X9 tyX9_ok nmX9 (by decide) wF_X9_48 rfl rfl rfl (tyX9_ok 4 (by decide)) dX9_init_67 q25 (Nat.le_of_ble_eq_true rfl) rfl rfl ?_
  show Blk g M_X9_init post 70 [(0, .ref x0), (1, .int x1)] [] (xup h23 x0 (xo 10 [.int (nI o26), .ref o27, .ref o28, .ref o29, .ref n18, .null, .null, .int (nI 0)])) n24 33 1890
  refine r_aload_n 0 dX9_init_70 rfl rfl ?_
  refine r_new (ci := 9) (N := 5) (fs := [.null, .null, .null, .null, .null]) (T := TX8) rfl in_X8 tyX8_ok wC_X9_45 wN_StateShares_Transfers wI_StateShares_Transfers dX9_init_71 df_X8 (by decide) (by decide) ?_
  show Blk g M_X9_init post 74 [(0, .ref x0), (1, .int x1)] [.ref n24, .ref x0] (xup (xup h23 x0 (xo 10 [.int (nI o26), .ref o27, .ref o28, .ref o29, .ref n18, .null, .null, .int (nI 0)])) n24 (xo 9 [.null, .null, .null, .null, .null])) (n24 + 1) 34 1895
  refine r_dup dX9_init_74 rfl ?_
  refine r_callI (M2 := M_X8_init) (n := 0) (As := []) (wl4 wM_X9_47 wi_X8_init wI_StateShares_Transfers wc_X8_init) rfl rfl (by decide +kernel) (by decide) rfl rfl (Nat.le_of_ble_eq_true rfl) dX9_init_75 (by decide) (by decide) (Ct.imp V (fun r h30 n31 V => ?_))
  obtain ⟨rfl, V⟩ := V
  show Blk g M_X9_init post 78 [(0, .ref x0), (1, .int x1)] [.ref n24, .ref x0] h30 n31 39 2483
  obtain ⟨o33, o34, o35, o36, o37, q32, V⟩ := V
  refine r_putF (ci := 10) (kf := 5) (T := TX9) rfl in_X9 tyX9_ok nmX9 (by decide) wF_X9_52 rfl rfl rfl (tyX9_ok 5 (by decide)) dX9_init_78 q32 (Nat.le_of_ble_eq_true rfl) rfl rfl ?_
  show Blk g M_X9_init post 81 [(0, .ref x0), (1, .int x1)] [] (xup h30 x0 (xo 10 [.int (nI o33), .ref o34, .ref o35, .ref o36, .ref o37, .ref n24, .null, .int (nI 0)])) n31 39 2483
  refine r_aload_n 0 dX9_init_81 rfl rfl ?_
  refine r_new (ci := 2) (N := 18) (fs := [.int (nI 0), .null, .null, .null, .null, .null, .null, .null, .null, .null, .null, .null, .null, .int (nI 0), .int (nI 0), .int (nI 0), .int (nI 0), .int (nI 0)]) (T := TX1) rfl in_X1 tyX1_ok wC_X9_55 wN_StateShares_Forecast wI_StateShares_Forecast dX9_init_82 df_X1 (by decide) (by decide) ?_
  show Blk g M_X9_init post 85 [(0, .ref x0), (1, .int x1)] [.ref n31, .ref x0] (xup (xup h30 x0 (xo 10 [.int (nI o33), .ref o34, .ref o35, .ref o36, .ref o37, .ref n24, .null, .int (nI 0)])) n31 (xo 2 [.int (nI 0), .null, .null, .null, .null, .null, .null, .null, .null, .null, .null, .null, .null, .int (nI 0), .int (nI 0), .int (nI 0), .int (nI 0), .int (nI 0)])) (n31 + 1) 40 2501
  refine r_dup dX9_init_85 rfl ?_
  refine r_aload_n 0 dX9_init_86 rfl rfl ?_
  obtain ⟨n38, V⟩ := V
  have q39 : (xup (xup h30 x0 (xo 10 [.int (nI o33), .ref o34, .ref o35, .ref o36, .ref o37, .ref n24, .null, .int (nI 0)])) n31 (xo 2 [.int (nI 0), .null, .null, .null, .null, .null, .null, .null, .null, .null, .null, .null, .null, .int (nI 0), .int (nI 0), .int (nI 0), .int (nI 0), .int (nI 0)])) x0 = some (xo 10 [.int (nI o33), .ref o34, .ref o35, .ref o36, .ref o37, .ref n24, .null, .int (nI 0)]) := (xup_n n38).trans (xup_s _ _ _)
  refine r_getf (ci := 10) (kf := 0) (T := TX9) rfl in_X9 (by decide) wF_X9_18 dX9_init_87 q39 rfl ?_
  refine r_aload_n 0 dX9_init_90 rfl rfl ?_
  refine r_getf (ci := 10) (kf := 3) (T := TX9) rfl in_X9 (by decide) wF_X9_41 dX9_init_91 q39 rfl ?_
  refine r_aload_n 0 dX9_init_94 rfl rfl ?_
  refine r_getf (ci := 10) (kf := 4) (T := TX9) rfl in_X9 (by decide) wF_X9_48 dX9_init_95 q39 rfl ?_
  refine r_aload_n 0 dX9_init_98 rfl rfl ?_
  refine r_getf (ci := 10) (kf := 5) (T := TX9) rfl in_X9 (by decide) wF_X9_52 dX9_init_99 q39 rfl ?_
  refine r_callI (M2 := M_X1_init) (n := 4) (As := [.int (nI o33), .ref o36, .ref o37, .ref n24]) (wl4 wM_X9_57 wi_X1_init wI_StateShares_Forecast wc_X1_init) rfl rfl (by decide +kernel) (by decide) rfl rfl (Nat.le_of_ble_eq_true rfl) dX9_init_102 (by decide) (by decide) (Ct.imp V (fun r h40 n41 V => ?_))
  obtain ⟨rfl, V⟩ := V
  show Blk g M_X9_init post 105 [(0, .ref x0), (1, .int x1)] [.ref n31, .ref x0] h40 n41 640 32501
  obtain ⟨o43, o44, o45, o46, o47, o48, q42, V⟩ := V
  refine r_putF (ci := 10) (kf := 6) (T := TX9) rfl in_X9 tyX9_ok nmX9 (by decide) wF_X9_60 rfl rfl rfl (tyX9_ok 6 (by decide)) dX9_init_105 q42 (Nat.le_of_ble_eq_true rfl) rfl rfl ?_
  show Blk g M_X9_init post 108 [(0, .ref x0), (1, .int x1)] [] (xup h40 x0 (xo 10 [.int (nI o43), .ref o44, .ref o45, .ref o46, .ref o47, .ref o48, .ref n31, .int (nI 0)])) n41 640 32501
  refine r_aload_n 0 dX9_init_108 rfl rfl ?_
  refine r_iconst (v := (nI 1)) dX9_init_109 rfl ?_
  refine r_putf (ci := 10) (kf := 7) (T := TX9) rfl in_X9 tyX9_ok nmX9 (by decide) wF_X9_64 rfl (tyX9_ok 7 (by decide)) dX9_init_110 (xup_s _ _ _) (Nat.le_of_ble_eq_true rfl) rfl rfl ?_
  show Blk g M_X9_init post 113 [(0, .ref x0), (1, .int x1)] [] (xup (xup h40 x0 (xo 10 [.int (nI o43), .ref o44, .ref o45, .ref o46, .ref o47, .ref o48, .ref n31, .int (nI 0)])) x0 (xo 10 [.int (nI o43), .ref o44, .ref o45, .ref o46, .ref o47, .ref o48, .ref n31, .int (nI 1)])) n41 640 32501
  rw [xup_up]
  show Blk g M_X9_init post 113 [(0, .ref x0), (1, .int x1)] [] (xup h40 x0 (xo 10 [.int (nI o43), .ref o44, .ref o45, .ref o46, .ref o47, .ref o48, .ref n31, .int (nI 1)])) n41 640 32501
  exact r_vret dX9_init_113 rfl (by decide) (by decide) V
set_option maxRecDepth 20000 in
theorem v_X9_mark_0 {g : xG} {post : xPost} {h : xHp} {nx : Nat} {x0 : Nat} {x1 : Int32} {x2 : Int32} {x3 : Int32} {x4 : Int32} (V : (Ct g M_X9_isThing [.int x1] h nx (fun r h1 n2 => ∃ v3 : Nat, r = some (.int (nI v3)) ∧ (v3 < 2 ^ 31 ∧ ((v3 = 0 → (post (some (.int (nI 0))) h1 n2)) ∧ (¬ v3 = 0 → (Ct g M_X9_isYear [.int x2] h1 n2 (fun r h4 n5 => ∃ v6 : Nat, r = some (.int (nI v6)) ∧ (v6 < 2 ^ 31 ∧ ((v6 = 0 → (post (some (.int (nI 0))) h4 n5)) ∧ (¬ v6 = 0 → (Ct g M_X9_isPerson [.int x3] h4 n5 (fun r h7 n8 => ∃ v9 : Nat, r = some (.int (nI v9)) ∧ (v9 < 2 ^ 31 ∧ ((¬ v9 = 0 → (∃ (o13 : Nat) (o14 : Nat) (o15 : Nat) (o16 : Nat) (o17 : Nat) (o18 : Nat) (o19 : Nat) (o20 : Nat), h7 x0 = some (xo 10 [.int (nI o13), .ref o14, .ref o15, .ref o16, .ref o17, .ref o18, .ref o19, .int (nI o20)]) ∧ Ct g M_X9_needState [.ref x0, .int x4] h7 n8 (fun r h10 n11 => r = none ∧ (∃ (o22 : Nat) (o23 : Nat) (o24 : Nat) (o25 : Nat) (o26 : Nat) (o27 : Nat) (o28 : Nat) (o29 : Nat), h10 x0 = some (xo 10 [.int (nI o22), .ref o23, .ref o24, .ref o25, .ref o26, .ref o27, .ref o28, .int (nI o29)]) ∧ (∃ (o33 : Nat) (o34 : Nat) (o35 : Nat) (o36 : Nat), h10 o24 = some (xo 4 [.ref o33, .ref o34, .ref o35, .ref o36]) ∧ Ct g M_X3_see [.ref o24, .int x1, .int x2, .int x3, .int x4] h10 n11 (fun r h30 n31 => r = none ∧ (∃ (o38 : Nat) (o39 : Nat) (o40 : Nat) (o41 : Nat) (o42 : Nat) (o43 : Nat) (o44 : Nat) (o45 : Nat), h30 x0 = some (xo 10 [.int (nI o38), .ref o39, .ref o40, .ref o41, .ref o42, .ref o43, .ref o44, .int (nI o45)]) ∧ (∃ (o49 : Nat) (o50 : Nat) (o51 : Nat) (o52 : Nat), h30 o40 = some (xo 4 [.ref o49, .ref o50, .ref o51, .ref o52]) ∧ Ct g M_X3_judgeOne [.ref o40, .int x1, .int x2, .ref o39] h30 n31 (fun r h46 n47 => r = none ∧ (∃ (o54 : Nat) (o55 : Nat) (o56 : Nat) (o57 : Nat) (o58 : Nat) (o59 : Nat) (o60 : Nat) (o61 : Nat), h46 x0 = some (xo 10 [.int (nI o54), .ref o55, .ref o56, .ref o57, .ref o58, .ref o59, .ref o60, .int (nI o61)]) ∧ (post (some (.int (nI 1))) (xup h46 x0 (xo 10 [.int (nI o54), .ref o55, .ref o56, .ref o57, .ref o58, .ref o59, .ref o60, .int (nI 1)])) n47))))))))))) ∧ (v9 = 0 → (post (some (.int (nI 0))) h7 n8))))))))))))))))) : Blk g M_X9_mark post 0 [(0, .ref x0), (1, .int x1), (2, .int x2), (3, .int x3), (4, .int x4)] [] h nx 0 0 := by
  refine r_iload_n 1 dX9_mark_0 rfl rfl ?_
  refine r_callS (M2 := M_X9_isThing) (n := 1) (As := [.int x1]) (wl4 wM_X9_68 ws_X9_isThing wI_StateShares wc_X9_isThing) (by decide +kernel) (by decide) rfl rfl (Nat.le_of_ble_eq_true rfl) dX9_mark_1 (by decide) (by decide) (Ct.imp V (fun r h1 n2 V => ?_))
  obtain ⟨v3, rfl, V⟩ := V
  show Blk g M_X9_mark post 4 [(0, .ref x0), (1, .int x1), (2, .int x2), (3, .int x3), (4, .int x4)] [.int (nI v3)] h1 n2 0 0
  obtain ⟨c, V⟩ := V
  refine r_if_eqN (tgt := 21) dX9_mark_4 (by decide) c (fun c => ?_) (fun c => ?_)
  · have V := V.1 c
    refine r_iconst (v := (nI 0)) dX9_mark_21 rfl ?_
    exact r_zret (ty := .boolean) dX9_mark_22 rfl rfl (by decide) (by decide) V
  · have V := V.2 c
    refine r_iload_n 2 dX9_mark_7 rfl rfl ?_
    refine r_callS (M2 := M_X9_isYear) (n := 1) (As := [.int x2]) (wl4 wM_X9_72 ws_X9_isYear wI_StateShares wc_X9_isYear) (by decide +kernel) (by decide) rfl rfl (Nat.le_of_ble_eq_true rfl) dX9_mark_8 (by decide) (by decide) (Ct.imp V (fun r h4 n5 V => ?_))
    obtain ⟨v6, rfl, V⟩ := V
    show Blk g M_X9_mark post 11 [(0, .ref x0), (1, .int x1), (2, .int x2), (3, .int x3), (4, .int x4)] [.int (nI v6)] h4 n5 0 0
    obtain ⟨c, V⟩ := V
    refine r_if_eqN (tgt := 21) dX9_mark_11 (by decide) c (fun c => ?_) (fun c => ?_)
    · have V := V.1 c
      refine r_iconst (v := (nI 0)) dX9_mark_21 rfl ?_
      exact r_zret (ty := .boolean) dX9_mark_22 rfl rfl (by decide) (by decide) V
    · have V := V.2 c
      refine r_iload_n 3 dX9_mark_14 rfl rfl ?_
      refine r_callS (M2 := M_X9_isPerson) (n := 1) (As := [.int x3]) (wl4 wM_X9_75 ws_X9_isPerson wI_StateShares wc_X9_isPerson) (by decide +kernel) (by decide) rfl rfl (Nat.le_of_ble_eq_true rfl) dX9_mark_15 (by decide) (by decide) (Ct.imp V (fun r h7 n8 V => ?_))
      obtain ⟨v9, rfl, V⟩ := V
      show Blk g M_X9_mark post 18 [(0, .ref x0), (1, .int x1), (2, .int x2), (3, .int x3), (4, .int x4)] [.int (nI v9)] h7 n8 0 0
      obtain ⟨c, V⟩ := V
      refine r_if_neN (tgt := 23) dX9_mark_18 (by decide) c (fun c => ?_) (fun c => ?_)
      · have V := V.1 c
        refine r_aload_n 0 dX9_mark_23 rfl rfl ?_
        refine r_iload 4 dX9_mark_24 rfl ?_
        obtain ⟨o13, o14, o15, o16, o17, o18, o19, o20, q12, V⟩ := V
        refine r_callV (M2 := M_X9_needState) (ci := 10) (n := 1) (As := [.int x4]) rfl (wl5 wM_X9_78 wi_X9_needState wS_X9_needState wI_StateShares wc_X9_needState) (by decide +kernel) (by decide) rfl rfl (Nat.le_of_ble_eq_true rfl) dX9_mark_26 q12 (by decide) (by decide) (Ct.imp V (fun r h10 n11 V => ?_))
        obtain ⟨rfl, V⟩ := V
        show Blk g M_X9_mark post 29 [(0, .ref x0), (1, .int x1), (2, .int x2), (3, .int x3), (4, .int x4)] [] h10 n11 1 6
        refine r_aload_n 0 dX9_mark_29 rfl rfl ?_
        obtain ⟨o22, o23, o24, o25, o26, o27, o28, o29, q21, V⟩ := V
        refine r_getf (ci := 10) (kf := 2) (T := TX9) rfl in_X9 (by decide) wF_X9_34 dX9_mark_30 q21 rfl ?_
        refine r_iload_n 1 dX9_mark_33 rfl rfl ?_
        refine r_iload_n 2 dX9_mark_34 rfl rfl ?_
        refine r_iload_n 3 dX9_mark_35 rfl rfl ?_
        refine r_iload 4 dX9_mark_36 rfl ?_
        obtain ⟨o33, o34, o35, o36, q32, V⟩ := V
        refine r_callV (M2 := M_X3_see) (ci := 4) (n := 4) (As := [.int x1, .int x2, .int x3, .int x4]) rfl (wl5 wM_X9_81 wi_X3_see wS_X3_see wI_StateShares_Marks wc_X3_see) (by decide +kernel) (by decide) rfl rfl (Nat.le_of_ble_eq_true rfl) dX9_mark_38 q32 (by decide) (by decide) (Ct.imp V (fun r h30 n31 V => ?_))
        obtain ⟨rfl, V⟩ := V
        show Blk g M_X9_mark post 41 [(0, .ref x0), (1, .int x1), (2, .int x2), (3, .int x3), (4, .int x4)] [] h30 n31 1 6
        refine r_aload_n 0 dX9_mark_41 rfl rfl ?_
        obtain ⟨o38, o39, o40, o41, o42, o43, o44, o45, q37, V⟩ := V
        refine r_getf (ci := 10) (kf := 2) (T := TX9) rfl in_X9 (by decide) wF_X9_34 dX9_mark_42 q37 rfl ?_
        refine r_iload_n 1 dX9_mark_45 rfl rfl ?_
        refine r_iload_n 2 dX9_mark_46 rfl rfl ?_
        refine r_aload_n 0 dX9_mark_47 rfl rfl ?_
        refine r_getf (ci := 10) (kf := 1) (T := TX9) rfl in_X9 (by decide) wF_X9_27 dX9_mark_48 q37 rfl ?_
        obtain ⟨o49, o50, o51, o52, q48, V⟩ := V
        refine r_callV (M2 := M_X3_judgeOne) (ci := 4) (n := 3) (As := [.int x1, .int x2, .ref o39]) rfl (wl5 wM_X9_85 wi_X3_judgeOne wS_X3_judgeOne wI_StateShares_Marks wc_X3_judgeOne) (by decide +kernel) (by decide) rfl rfl (Nat.le_of_ble_eq_true rfl) dX9_mark_51 q48 (by decide) (by decide) (Ct.imp V (fun r h46 n47 V => ?_))
        obtain ⟨rfl, V⟩ := V
        show Blk g M_X9_mark post 54 [(0, .ref x0), (1, .int x1), (2, .int x2), (3, .int x3), (4, .int x4)] [] h46 n47 1 6
        refine r_aload_n 0 dX9_mark_54 rfl rfl ?_
        refine r_iconst (v := (nI 1)) dX9_mark_55 rfl ?_
        obtain ⟨o54, o55, o56, o57, o58, o59, o60, o61, q53, V⟩ := V
        refine r_putf (ci := 10) (kf := 7) (T := TX9) rfl in_X9 tyX9_ok nmX9 (by decide) wF_X9_64 rfl (tyX9_ok 7 (by decide)) dX9_mark_56 q53 (Nat.le_of_ble_eq_true rfl) rfl rfl ?_
        show Blk g M_X9_mark post 59 [(0, .ref x0), (1, .int x1), (2, .int x2), (3, .int x3), (4, .int x4)] [] (xup h46 x0 (xo 10 [.int (nI o54), .ref o55, .ref o56, .ref o57, .ref o58, .ref o59, .ref o60, .int (nI 1)])) n47 1 6
        refine r_iconst (v := (nI 1)) dX9_mark_59 rfl ?_
        exact r_zret (ty := .boolean) dX9_mark_60 rfl rfl (by decide) (by decide) V
      · have V := V.2 c
        refine r_iconst (v := (nI 0)) dX9_mark_21 rfl ?_
        exact r_zret (ty := .boolean) dX9_mark_22 rfl rfl (by decide) (by decide) V
set_option maxRecDepth 20000 in
theorem v_X9_unit_0 {g : xG} {post : xPost} {h : xHp} {nx : Nat} {x0 : Nat} {x1 : Int32} (V : (∃ (o2 : Nat) (o3 : Nat) (o4 : Nat) (o5 : Nat) (o6 : Nat) (o7 : Nat) (o8 : Nat) (o9 : Nat), h x0 = some (xo 10 [.int (nI o2), .ref o3, .ref o4, .ref o5, .ref o6, .ref o7, .ref o8, .int (nI o9)]) ∧ (∃ (o13 : Nat) (o14 : Nat) (o15 : Nat) (o16 : Nat) (o17 : Nat) (o18 : Nat) (o19 : Nat) (o20 : Nat) (o21 : Nat), h o3 = some (xo 8 [.int (nI o13), .ref o14, .int (nI o15), .ref o16, .ref o17, .int (nI o18), .int (nI o19), .ref o20, .ref o21]) ∧ Ct g M_X7_collect [.ref o3, .int x1] h nx (fun r h10 n11 => ∃ v22 : Nat, r = some (.int (nI v22)) ∧ (v22 ≤ 1 ∧ post (some (.int (nI v22))) h10 n11))))) : Blk g M_X9_unit post 0 [(0, .ref x0), (1, .int x1)] [] h nx 0 0 := by
  refine r_aload_n 0 dX9_unit_0 rfl rfl ?_
  obtain ⟨o2, o3, o4, o5, o6, o7, o8, o9, q1, V⟩ := V
  refine r_getf (ci := 10) (kf := 1) (T := TX9) rfl in_X9 (by decide) wF_X9_27 dX9_unit_1 q1 rfl ?_
  refine r_iload_n 1 dX9_unit_4 rfl rfl ?_
  obtain ⟨o13, o14, o15, o16, o17, o18, o19, o20, o21, q12, V⟩ := V
  refine r_callV (M2 := M_X7_collect) (ci := 8) (n := 1) (As := [.int x1]) rfl (wl5 wM_X9_89 wi_X7_collect wS_X7_collect wI_StateShares_Rules wc_X7_collect) (by decide +kernel) (by decide) rfl rfl (Nat.le_of_ble_eq_true rfl) dX9_unit_5 q12 (by decide) (by decide) (Ct.imp V (fun r h10 n11 V => ?_))
  obtain ⟨v22, rfl, V⟩ := V
  show Blk g M_X9_unit post 8 [(0, .ref x0), (1, .int x1)] [.int (nI v22)] h10 n11 0 0
  obtain ⟨c, V⟩ := V
  exact r_zret (ty := .boolean) dX9_unit_8 rfl (n_bool c) (by decide) (by decide) V
set_option maxRecDepth 20000 in
theorem v_X9_grade_0 {g : xG} {post : xPost} {h : xHp} {nx : Nat} {x0 : Nat} (V : (∃ (o2 : Nat) (o3 : Nat) (o4 : Nat) (o5 : Nat) (o6 : Nat) (o7 : Nat) (o8 : Nat) (o9 : Nat), h x0 = some (xo 10 [.int (nI o2), .ref o3, .ref o4, .ref o5, .ref o6, .ref o7, .ref o8, .int (nI o9)]) ∧ (∃ (o13 : Nat) (o14 : Nat) (o15 : Nat) (o16 : Nat) (o17 : Nat) (o18 : Nat) (o19 : Nat) (o20 : Nat) (o21 : Nat), h o3 = some (xo 8 [.int (nI o13), .ref o14, .int (nI o15), .ref o16, .ref o17, .int (nI o18), .int (nI o19), .ref o20, .ref o21]) ∧ Ct g M_X7_readCollected [.ref o3] h nx (fun r h10 n11 => ∃ v22 : Int32, r = some (.int v22) ∧ ((v22 ≤ 0 → (post (some (.int v22)) h10 n11)) ∧ (¬ v22 ≤ 0 → (∃ (o24 : Nat) (o25 : Nat) (o26 : Nat) (o27 : Nat) (o28 : Nat) (o29 : Nat) (o30 : Nat) (o31 : Nat), h10 x0 = some (xo 10 [.int (nI o24), .ref o25, .ref o26, .ref o27, .ref o28, .ref o29, .ref o30, .int (nI o31)]) ∧ (∃ (o35 : Nat) (o36 : Nat) (o37 : Nat) (o38 : Nat), h10 o26 = some (xo 4 [.ref o35, .ref o36, .ref o37, .ref o38]) ∧ Ct g M_X3_judgeAll [.ref o26, .ref o25] h10 n11 (fun r h32 n33 => r = none ∧ (∃ (o40 : Nat) (o41 : Nat) (o42 : Nat) (o43 : Nat) (o44 : Nat) (o45 : Nat) (o46 : Nat) (o47 : Nat), h32 x0 = some (xo 10 [.int (nI o40), .ref o41, .ref o42, .ref o43, .ref o44, .ref o45, .ref o46, .int (nI o47)]) ∧ (post (some (.int v22)) (xup h32 x0 (xo 10 [.int (nI o40), .ref o41, .ref o42, .ref o43, .ref o44, .ref o45, .ref o46, .int (nI 1)])) n33))))))))))) : Blk g M_X9_grade post 0 [(0, .ref x0)] [] h nx 0 0 := by
  refine r_aload_n 0 dX9_grade_0 rfl rfl ?_
  obtain ⟨o2, o3, o4, o5, o6, o7, o8, o9, q1, V⟩ := V
  refine r_getf (ci := 10) (kf := 1) (T := TX9) rfl in_X9 (by decide) wF_X9_27 dX9_grade_1 q1 rfl ?_
  obtain ⟨o13, o14, o15, o16, o17, o18, o19, o20, o21, q12, V⟩ := V
  refine r_callV (M2 := M_X7_readCollected) (ci := 8) (n := 0) (As := []) rfl (wl5 wM_X9_92 wi_X7_readCollected wS_X7_readCollected wI_StateShares_Rules wc_X7_readCollected) (by decide +kernel) (by decide) rfl rfl (Nat.le_of_ble_eq_true rfl) dX9_grade_4 q12 (by decide) (by decide) (Ct.imp V (fun r h10 n11 V => ?_))
  obtain ⟨v22, rfl, V⟩ := V
  show Blk g M_X9_grade post 7 [(0, .ref x0)] [.int v22] h10 n11 0 0
  refine r_istore_n (L' := [(1, .int v22), (0, .ref x0)]) dX9_grade_7 rfl (by decide) rfl ?_
  refine r_iload_n 0 dX9_grade_8 rfl rfl ?_
  refine r_if_le (tgt := 28) dX9_grade_9 (by decide) (fun c => ?_) (fun c => ?_)
  · have V := V.1 c
    refine r_iload_n 0 dX9_grade_28 rfl rfl ?_
    exact r_iret dX9_grade_29 rfl (by decide) (by decide) V
  · have V := V.2 c
    refine r_aload_n 1 dX9_grade_12 rfl rfl ?_
    obtain ⟨o24, o25, o26, o27, o28, o29, o30, o31, q23, V⟩ := V
    refine r_getf (ci := 10) (kf := 2) (T := TX9) rfl in_X9 (by decide) wF_X9_34 dX9_grade_13 q23 rfl ?_
    refine r_aload_n 1 dX9_grade_16 rfl rfl ?_
    refine r_getf (ci := 10) (kf := 1) (T := TX9) rfl in_X9 (by decide) wF_X9_27 dX9_grade_17 q23 rfl ?_
    obtain ⟨o35, o36, o37, o38, q34, V⟩ := V
    refine r_callV (M2 := M_X3_judgeAll) (ci := 4) (n := 1) (As := [.ref o25]) rfl (wl5 wM_X9_96 wi_X3_judgeAll wS_X3_judgeAll wI_StateShares_Marks wc_X3_judgeAll) (by decide +kernel) (by decide) rfl rfl (Nat.le_of_ble_eq_true rfl) dX9_grade_20 q34 (by decide) (by decide) (Ct.imp V (fun r h32 n33 V => ?_))
    obtain ⟨rfl, V⟩ := V
    show Blk g M_X9_grade post 23 [(1, .int v22), (0, .ref x0)] [] h32 n33 0 0
    refine r_aload_n 1 dX9_grade_23 rfl rfl ?_
    refine r_iconst (v := (nI 1)) dX9_grade_24 rfl ?_
    obtain ⟨o40, o41, o42, o43, o44, o45, o46, o47, q39, V⟩ := V
    refine r_putf (ci := 10) (kf := 7) (T := TX9) rfl in_X9 tyX9_ok nmX9 (by decide) wF_X9_64 rfl (tyX9_ok 7 (by decide)) dX9_grade_25 q39 (Nat.le_of_ble_eq_true rfl) rfl rfl ?_
    show Blk g M_X9_grade post 28 [(1, .int v22), (0, .ref x0)] [] (xup h32 x0 (xo 10 [.int (nI o40), .ref o41, .ref o42, .ref o43, .ref o44, .ref o45, .ref o46, .int (nI 1)])) n33 0 0
    refine r_iload_n 0 dX9_grade_28 rfl rfl ?_
    exact r_iret dX9_grade_29 rfl (by decide) (by decide) V
set_option maxRecDepth 20000 in
theorem v_X9_graded_0 {g : xG} {post : xPost} {h : xHp} {nx : Nat} {x0 : Nat} {x1 : Int32} {x2 : Int32} (V : (Ct g M_X9_isThing [.int x1] h nx (fun r h1 n2 => ∃ v3 : Nat, r = some (.int (nI v3)) ∧ (v3 < 2 ^ 31 ∧ ((v3 = 0 → (post (some (.int (-1))) h1 n2)) ∧ (¬ v3 = 0 → (Ct g M_X9_isYear [.int x2] h1 n2 (fun r h4 n5 => ∃ v6 : Nat, r = some (.int (nI v6)) ∧ (v6 < 2 ^ 31 ∧ ((v6 = 0 → (post (some (.int (-1))) h4 n5)) ∧ (¬ v6 = 0 → (∃ (o8 : Nat) (o9 : Nat) (o10 : Nat) (o11 : Nat) (o12 : Nat) (o13 : Nat) (o14 : Nat) (o15 : Nat), h4 x0 = some (xo 10 [.int (nI o8), .ref o9, .ref o10, .ref o11, .ref o12, .ref o13, .ref o14, .int (nI o15)]) ∧ (∃ (o19 : Nat) (o20 : Nat) (o21 : Nat) (o22 : Nat), h4 o10 = some (xo 4 [.ref o19, .ref o20, .ref o21, .ref o22]) ∧ Ct g M_X3_stateOf [.ref o10, .int x1, .int x2] h4 n5 (fun r h16 n17 => ∃ v23 : Int32, r = some (.int v23) ∧ (post (some (.int v23)) h16 n17))))))))))))))) : Blk g M_X9_graded post 0 [(0, .ref x0), (1, .int x1), (2, .int x2)] [] h nx 0 0 := by
  refine r_iload_n 1 dX9_graded_0 rfl rfl ?_
  refine r_callS (M2 := M_X9_isThing) (n := 1) (As := [.int x1]) (wl4 wM_X9_68 ws_X9_isThing wI_StateShares wc_X9_isThing) (by decide +kernel) (by decide) rfl rfl (Nat.le_of_ble_eq_true rfl) dX9_graded_1 (by decide) (by decide) (Ct.imp V (fun r h1 n2 V => ?_))
  obtain ⟨v3, rfl, V⟩ := V
  show Blk g M_X9_graded post 4 [(0, .ref x0), (1, .int x1), (2, .int x2)] [.int (nI v3)] h1 n2 0 0
  obtain ⟨c, V⟩ := V
  refine r_if_eqN (tgt := 26) dX9_graded_4 (by decide) c (fun c => ?_) (fun c => ?_)
  · have V := V.1 c
    refine r_iconst (v := (-1)) dX9_graded_26 rfl ?_
    exact r_iret dX9_graded_27 rfl (by decide) (by decide) V
  · have V := V.2 c
    refine r_iload_n 2 dX9_graded_7 rfl rfl ?_
    refine r_callS (M2 := M_X9_isYear) (n := 1) (As := [.int x2]) (wl4 wM_X9_72 ws_X9_isYear wI_StateShares wc_X9_isYear) (by decide +kernel) (by decide) rfl rfl (Nat.le_of_ble_eq_true rfl) dX9_graded_8 (by decide) (by decide) (Ct.imp V (fun r h4 n5 V => ?_))
    obtain ⟨v6, rfl, V⟩ := V
    show Blk g M_X9_graded post 11 [(0, .ref x0), (1, .int x1), (2, .int x2)] [.int (nI v6)] h4 n5 0 0
    obtain ⟨c, V⟩ := V
    refine r_if_eqN (tgt := 26) dX9_graded_11 (by decide) c (fun c => ?_) (fun c => ?_)
    · have V := V.1 c
      refine r_iconst (v := (-1)) dX9_graded_26 rfl ?_
      exact r_iret dX9_graded_27 rfl (by decide) (by decide) V
    · have V := V.2 c
      refine r_aload_n 0 dX9_graded_14 rfl rfl ?_
      obtain ⟨o8, o9, o10, o11, o12, o13, o14, o15, q7, V⟩ := V
      refine r_getf (ci := 10) (kf := 2) (T := TX9) rfl in_X9 (by decide) wF_X9_34 dX9_graded_15 q7 rfl ?_
      refine r_iload_n 1 dX9_graded_18 rfl rfl ?_
      refine r_iload_n 2 dX9_graded_19 rfl rfl ?_
      obtain ⟨o19, o20, o21, o22, q18, V⟩ := V
      refine r_callV (M2 := M_X3_stateOf) (ci := 4) (n := 2) (As := [.int x1, .int x2]) rfl (wl5 wM_X9_100 wi_X3_stateOf wS_X3_stateOf wI_StateShares_Marks wc_X3_stateOf) (by decide +kernel) (by decide) rfl rfl (Nat.le_of_ble_eq_true rfl) dX9_graded_20 q18 (by decide) (by decide) (Ct.imp V (fun r h16 n17 V => ?_))
      obtain ⟨v23, rfl, V⟩ := V
      show Blk g M_X9_graded post 23 [(0, .ref x0), (1, .int x1), (2, .int x2)] [.int v23] h16 n17 0 0
      refine r_goto (tgt := 27) dX9_graded_23 (by decide) ?_
      exact r_iret dX9_graded_27 rfl (by decide) (by decide) V
set_option maxRecDepth 20000 in
theorem v_X9_count_0 {g : xG} {post : xPost} {h : xHp} {nx : Nat} {x0 : Nat} {x1 : Int32} {x2 : Int32} (V : (∃ (o4 : Nat) (o5 : Nat) (o6 : Nat) (o7 : Nat) (o8 : Nat) (o9 : Nat) (o10 : Nat) (o11 : Nat), h x0 = some (xo 10 [.int (nI o4), .ref o5, .ref o6, .ref o7, .ref o8, .ref o9, .ref o10, .int (nI o11)]) ∧ Ct g M_X9_needState [.ref x0, .int x1] h nx (fun r h1 n2 => r = none ∧ (∃ (o15 : Nat) (o16 : Nat) (o17 : Nat) (o18 : Nat) (o19 : Nat) (o20 : Nat) (o21 : Nat) (o22 : Nat), h1 x0 = some (xo 10 [.int (nI o15), .ref o16, .ref o17, .ref o18, .ref o19, .ref o20, .ref o21, .int (nI o22)]) ∧ Ct g M_X9_needState [.ref x0, .int x2] h1 n2 (fun r h12 n13 => r = none ∧ (∃ (o26 : Nat) (o27 : Nat) (o28 : Nat) (o29 : Nat) (o30 : Nat) (o31 : Nat) (o32 : Nat) (o33 : Nat), h12 x0 = some (xo 10 [.int (nI o26), .ref o27, .ref o28, .ref o29, .ref o30, .ref o31, .ref o32, .int (nI o33)]) ∧ Ct g M_X9_renewMoves [.ref x0] h12 n13 (fun r h23 n24 => r = none ∧ (∃ (o35 : Nat) (o36 : Nat) (o37 : Nat) (o38 : Nat) (o39 : Nat) (o40 : Nat) (o41 : Nat) (o42 : Nat), h23 x0 = some (xo 10 [.int (nI o35), .ref o36, .ref o37, .ref o38, .ref o39, .ref o40, .ref o41, .int (nI o42)]) ∧ (∃ (o46 : Nat) (o47 : Nat) (o48 : Nat) (o49 : Nat) (o50 : Nat) (o51 : Nat) (o52 : Nat) (o53 : Nat), h23 o38 = some (xo 5 [.int (nI o46), .ref o47, .ref o48, .ref o49, .ref o50, .ref o51, .int (nI o52), .int (nI o53)]) ∧ Ct g M_X4_number [.ref o38, .int x1, .int x2] h23 n24 (fun r h43 n44 => ∃ v54 : Nat, r = some (.int (nI v54)) ∧ (post (some (.int (nI v54))) h43 n44))))))))))) : Blk g M_X9_count post 0 [(0, .ref x0), (1, .int x1), (2, .int x2)] [] h nx 0 0 := by
  refine r_aload_n 0 dX9_count_0 rfl rfl ?_
  refine r_iload_n 1 dX9_count_1 rfl rfl ?_
  obtain ⟨o4, o5, o6, o7, o8, o9, o10, o11, q3, V⟩ := V
  refine r_callV (M2 := M_X9_needState) (ci := 10) (n := 1) (As := [.int x1]) rfl (wl5 wM_X9_78 wi_X9_needState wS_X9_needState wI_StateShares wc_X9_needState) (by decide +kernel) (by decide) rfl rfl (Nat.le_of_ble_eq_true rfl) dX9_count_2 q3 (by decide) (by decide) (Ct.imp V (fun r h1 n2 V => ?_))
  obtain ⟨rfl, V⟩ := V
  show Blk g M_X9_count post 5 [(0, .ref x0), (1, .int x1), (2, .int x2)] [] h1 n2 1 6
  refine r_aload_n 0 dX9_count_5 rfl rfl ?_
  refine r_iload_n 2 dX9_count_6 rfl rfl ?_
  obtain ⟨o15, o16, o17, o18, o19, o20, o21, o22, q14, V⟩ := V
  refine r_callV (M2 := M_X9_needState) (ci := 10) (n := 1) (As := [.int x2]) rfl (wl5 wM_X9_78 wi_X9_needState wS_X9_needState wI_StateShares wc_X9_needState) (by decide +kernel) (by decide) rfl rfl (Nat.le_of_ble_eq_true rfl) dX9_count_7 q14 (by decide) (by decide) (Ct.imp V (fun r h12 n13 V => ?_))
  obtain ⟨rfl, V⟩ := V
  show Blk g M_X9_count post 10 [(0, .ref x0), (1, .int x1), (2, .int x2)] [] h12 n13 2 12
  refine r_aload_n 0 dX9_count_10 rfl rfl ?_
  obtain ⟨o26, o27, o28, o29, o30, o31, o32, o33, q25, V⟩ := V
  refine r_callV (M2 := M_X9_renewMoves) (ci := 10) (n := 0) (As := []) rfl (wl5 wM_X9_103 wi_X9_renewMoves wS_X9_renewMoves wI_StateShares wc_X9_renewMoves) (by decide +kernel) (by decide) rfl rfl (Nat.le_of_ble_eq_true rfl) dX9_count_11 q25 (by decide) (by decide) (Ct.imp V (fun r h23 n24 V => ?_))
  obtain ⟨rfl, V⟩ := V
  show Blk g M_X9_count post 14 [(0, .ref x0), (1, .int x1), (2, .int x2)] [] h23 n24 2 12
  refine r_aload_n 0 dX9_count_14 rfl rfl ?_
  obtain ⟨o35, o36, o37, o38, o39, o40, o41, o42, q34, V⟩ := V
  refine r_getf (ci := 10) (kf := 3) (T := TX9) rfl in_X9 (by decide) wF_X9_41 dX9_count_15 q34 rfl ?_
  refine r_iload_n 1 dX9_count_18 rfl rfl ?_
  refine r_iload_n 2 dX9_count_19 rfl rfl ?_
  obtain ⟨o46, o47, o48, o49, o50, o51, o52, o53, q45, V⟩ := V
  refine r_callV (M2 := M_X4_number) (ci := 5) (n := 2) (As := [.int x1, .int x2]) rfl (wl5 wM_X9_106 wi_X4_number wS_X4_number wI_StateShares_Moves wc_X4_number) (by decide +kernel) (by decide) rfl rfl (Nat.le_of_ble_eq_true rfl) dX9_count_20 q45 (by decide) (by decide) (Ct.imp V (fun r h43 n44 V => ?_))
  obtain ⟨v54, rfl, V⟩ := V
  show Blk g M_X9_count post 23 [(0, .ref x0), (1, .int x1), (2, .int x2)] [.int (nI v54)] h43 n44 2 12
  exact r_iret dX9_count_23 rfl (by decide) (by decide) V
set_option maxRecDepth 20000 in
theorem v_X9_least_0 {g : xG} {post : xPost} {h : xHp} {nx : Nat} {x0 : Nat} {x1 : Int32} (V : ((x1 < 0 → (post (some (.int (nI 0))) h nx)) ∧ (¬ x1 < 0 → ((x1 ≤ (nI 50) → (∃ (o2 : Nat) (o3 : Nat) (o4 : Nat) (o5 : Nat) (o6 : Nat) (o7 : Nat) (o8 : Nat) (o9 : Nat), h x0 = some (xo 10 [.int (nI o2), .ref o3, .ref o4, .ref o5, .ref o6, .ref o7, .ref o8, .int (nI o9)]) ∧ (∃ (o13 : Nat) (o14 : Nat) (o15 : Nat) (o16 : Nat) (o17 : Nat) (o18 : Nat) (o19 : Nat) (o20 : Nat), h o5 = some (xo 5 [.int (nI o13), .ref o14, .ref o15, .ref o16, .ref o17, .ref o18, .int (nI o19), .int (nI o20)]) ∧ Ct g M_X4_setLeast [.ref o5, .int x1] h nx (fun r h10 n11 => r = none ∧ (∃ (o22 : Nat) (o23 : Nat) (o24 : Nat) (o25 : Nat) (o26 : Nat) (o27 : Nat) (o28 : Nat) (o29 : Nat), h10 x0 = some (xo 10 [.int (nI o22), .ref o23, .ref o24, .ref o25, .ref o26, .ref o27, .ref o28, .int (nI o29)]) ∧ (post (some (.int (nI 1))) (xup h10 x0 (xo 10 [.int (nI o22), .ref o23, .ref o24, .ref o25, .ref o26, .ref o27, .ref o28, .int (nI 1)])) n11)))))) ∧ (¬ x1 ≤ (nI 50) → (post (some (.int (nI 0))) h nx)))))) : Blk g M_X9_least post 0 [(0, .ref x0), (1, .int x1)] [] h nx 0 0 := by
  refine r_iload_n 1 dX9_least_0 rfl rfl ?_
  refine r_if_lt (tgt := 10) dX9_least_1 (by decide) (fun c => ?_) (fun c => ?_)
  · have V := V.1 c
    refine r_iconst (v := (nI 0)) dX9_least_10 rfl ?_
    exact r_zret (ty := .boolean) dX9_least_11 rfl rfl (by decide) (by decide) V
  · have V := V.2 c
    refine r_iload_n 1 dX9_least_4 rfl rfl ?_
    refine r_bipush (v := (nI 50)) dX9_least_5 rfl ?_
    refine r_icmp_le (tgt := 12) dX9_least_7 (by decide) (fun c => ?_) (fun c => ?_)
    · have V := V.1 c
      refine r_aload_n 0 dX9_least_12 rfl rfl ?_
      obtain ⟨o2, o3, o4, o5, o6, o7, o8, o9, q1, V⟩ := V
      refine r_getf (ci := 10) (kf := 3) (T := TX9) rfl in_X9 (by decide) wF_X9_41 dX9_least_13 q1 rfl ?_
      refine r_iload_n 1 dX9_least_16 rfl rfl ?_
      obtain ⟨o13, o14, o15, o16, o17, o18, o19, o20, q12, V⟩ := V
      refine r_callV (M2 := M_X4_setLeast) (ci := 5) (n := 1) (As := [.int x1]) rfl (wl5 wM_X9_109 wi_X4_setLeast wS_X4_setLeast wI_StateShares_Moves wc_X4_setLeast) (by decide +kernel) (by decide) rfl rfl (Nat.le_of_ble_eq_true rfl) dX9_least_17 q12 (by decide) (by decide) (Ct.imp V (fun r h10 n11 V => ?_))
      obtain ⟨rfl, V⟩ := V
      show Blk g M_X9_least post 20 [(0, .ref x0), (1, .int x1)] [] h10 n11 0 0
      refine r_aload_n 0 dX9_least_20 rfl rfl ?_
      refine r_iconst (v := (nI 1)) dX9_least_21 rfl ?_
      obtain ⟨o22, o23, o24, o25, o26, o27, o28, o29, q21, V⟩ := V
      refine r_putf (ci := 10) (kf := 7) (T := TX9) rfl in_X9 tyX9_ok nmX9 (by decide) wF_X9_64 rfl (tyX9_ok 7 (by decide)) dX9_least_22 q21 (Nat.le_of_ble_eq_true rfl) rfl rfl ?_
      show Blk g M_X9_least post 25 [(0, .ref x0), (1, .int x1)] [] (xup h10 x0 (xo 10 [.int (nI o22), .ref o23, .ref o24, .ref o25, .ref o26, .ref o27, .ref o28, .int (nI 1)])) n11 0 0
      refine r_iconst (v := (nI 1)) dX9_least_25 rfl ?_
      exact r_zret (ty := .boolean) dX9_least_26 rfl rfl (by decide) (by decide) V
    · have V := V.2 c
      refine r_iconst (v := (nI 0)) dX9_least_10 rfl ?_
      exact r_zret (ty := .boolean) dX9_least_11 rfl rfl (by decide) (by decide) V
set_option maxRecDepth 20000 in
theorem v_X9_share_0 {g : xG} {post : xPost} {h : xHp} {nx : Nat} {x0 : Nat} {x1 : Int32} {x2 : Int32} {x3 : Int32} (V : (∃ (o4 : Nat) (o5 : Nat) (o6 : Nat) (o7 : Nat) (o8 : Nat) (o9 : Nat) (o10 : Nat) (o11 : Nat), h x0 = some (xo 10 [.int (nI o4), .ref o5, .ref o6, .ref o7, .ref o8, .ref o9, .ref o10, .int (nI o11)]) ∧ Ct g M_X9_needState [.ref x0, .int x1] h nx (fun r h1 n2 => r = none ∧ (∃ (o15 : Nat) (o16 : Nat) (o17 : Nat) (o18 : Nat) (o19 : Nat) (o20 : Nat) (o21 : Nat) (o22 : Nat), h1 x0 = some (xo 10 [.int (nI o15), .ref o16, .ref o17, .ref o18, .ref o19, .ref o20, .ref o21, .int (nI o22)]) ∧ Ct g M_X9_needState [.ref x0, .int x2] h1 n2 (fun r h12 n13 => r = none ∧ (∃ (o26 : Nat) (o27 : Nat) (o28 : Nat) (o29 : Nat) (o30 : Nat) (o31 : Nat) (o32 : Nat) (o33 : Nat), h12 x0 = some (xo 10 [.int (nI o26), .ref o27, .ref o28, .ref o29, .ref o30, .ref o31, .ref o32, .int (nI o33)]) ∧ Ct g M_X9_renewMoves [.ref x0] h12 n13 (fun r h23 n24 => r = none ∧ (∃ (o35 : Nat) (o36 : Nat) (o37 : Nat) (o38 : Nat) (o39 : Nat) (o40 : Nat) (o41 : Nat) (o42 : Nat), h23 x0 = some (xo 10 [.int (nI o35), .ref o36, .ref o37, .ref o38, .ref o39, .ref o40, .ref o41, .int (nI o42)]) ∧ (∃ (o46 : Nat) (o47 : Nat) (o48 : Nat) (o49 : Nat) (o50 : Nat) (o51 : Nat) (o52 : Nat) (o53 : Nat), h23 o38 = some (xo 5 [.int (nI o46), .ref o47, .ref o48, .ref o49, .ref o50, .ref o51, .int (nI o52), .int (nI o53)]) ∧ Ct g M_X4_top [.ref o38, .int x1, .int x2] h23 n24 (fun r h43 n44 => ∃ v54 : Nat, r = some (.int (nI v54)) ∧ (v54 < 2 ^ 31 ∧ (∃ (o56 : Nat) (o57 : Nat) (o58 : Nat) (o59 : Nat) (o60 : Nat) (o61 : Nat) (o62 : Nat) (o63 : Nat), h43 x0 = some (xo 10 [.int (nI o56), .ref o57, .ref o58, .ref o59, .ref o60, .ref o61, .ref o62, .int (nI o63)]) ∧ (∃ (o67 : Nat) (o68 : Nat) (o69 : Nat) (o70 : Nat) (o71 : Nat) (o72 : Nat) (o73 : Nat) (o74 : Nat), h43 o59 = some (xo 5 [.int (nI o67), .ref o68, .ref o69, .ref o70, .ref o71, .ref o72, .int (nI o73), .int (nI o74)]) ∧ Ct g M_X4_bottom [.ref o59, .int x1] h43 n44 (fun r h64 n65 => ∃ v75 : Nat, r = some (.int (nI v75)) ∧ (v75 < 2 ^ 31 ∧ (Ct g M_X9_smallPart [.long (lN v54), .long (lN v75), .int x3] h64 n65 (fun r h76 n77 => ∃ v78 : Int64, r = some (.long v78) ∧ (post (some (.long v78)) h76 n77)))))))))))))))))) : Blk g M_X9_share post 0 [(0, .ref x0), (1, .int x1), (2, .int x2), (3, .int x3)] [] h nx 0 0 := by
  refine r_aload_n 0 dX9_share_0 rfl rfl ?_
  refine r_iload_n 1 dX9_share_1 rfl rfl ?_
  obtain ⟨o4, o5, o6, o7, o8, o9, o10, o11, q3, V⟩ := V
  refine r_callV (M2 := M_X9_needState) (ci := 10) (n := 1) (As := [.int x1]) rfl (wl5 wM_X9_78 wi_X9_needState wS_X9_needState wI_StateShares wc_X9_needState) (by decide +kernel) (by decide) rfl rfl (Nat.le_of_ble_eq_true rfl) dX9_share_2 q3 (by decide) (by decide) (Ct.imp V (fun r h1 n2 V => ?_))
  obtain ⟨rfl, V⟩ := V
  show Blk g M_X9_share post 5 [(0, .ref x0), (1, .int x1), (2, .int x2), (3, .int x3)] [] h1 n2 1 6
  refine r_aload_n 0 dX9_share_5 rfl rfl ?_
  refine r_iload_n 2 dX9_share_6 rfl rfl ?_
  obtain ⟨o15, o16, o17, o18, o19, o20, o21, o22, q14, V⟩ := V
  refine r_callV (M2 := M_X9_needState) (ci := 10) (n := 1) (As := [.int x2]) rfl (wl5 wM_X9_78 wi_X9_needState wS_X9_needState wI_StateShares wc_X9_needState) (by decide +kernel) (by decide) rfl rfl (Nat.le_of_ble_eq_true rfl) dX9_share_7 q14 (by decide) (by decide) (Ct.imp V (fun r h12 n13 V => ?_))
  obtain ⟨rfl, V⟩ := V
  show Blk g M_X9_share post 10 [(0, .ref x0), (1, .int x1), (2, .int x2), (3, .int x3)] [] h12 n13 2 12
  refine r_aload_n 0 dX9_share_10 rfl rfl ?_
  obtain ⟨o26, o27, o28, o29, o30, o31, o32, o33, q25, V⟩ := V
  refine r_callV (M2 := M_X9_renewMoves) (ci := 10) (n := 0) (As := []) rfl (wl5 wM_X9_103 wi_X9_renewMoves wS_X9_renewMoves wI_StateShares wc_X9_renewMoves) (by decide +kernel) (by decide) rfl rfl (Nat.le_of_ble_eq_true rfl) dX9_share_11 q25 (by decide) (by decide) (Ct.imp V (fun r h23 n24 V => ?_))
  obtain ⟨rfl, V⟩ := V
  show Blk g M_X9_share post 14 [(0, .ref x0), (1, .int x1), (2, .int x2), (3, .int x3)] [] h23 n24 2 12
  refine r_aload_n 0 dX9_share_14 rfl rfl ?_
  obtain ⟨o35, o36, o37, o38, o39, o40, o41, o42, q34, V⟩ := V
  refine r_getf (ci := 10) (kf := 3) (T := TX9) rfl in_X9 (by decide) wF_X9_41 dX9_share_15 q34 rfl ?_
  refine r_iload_n 1 dX9_share_18 rfl rfl ?_
  refine r_iload_n 2 dX9_share_19 rfl rfl ?_
  obtain ⟨o46, o47, o48, o49, o50, o51, o52, o53, q45, V⟩ := V
  refine r_callV (M2 := M_X4_top) (ci := 5) (n := 2) (As := [.int x1, .int x2]) rfl (wl5 wM_X9_112 wi_X4_top wS_X4_top wI_StateShares_Moves wc_X4_top) (by decide +kernel) (by decide) rfl rfl (Nat.le_of_ble_eq_true rfl) dX9_share_20 q45 (by decide) (by decide) (Ct.imp V (fun r h43 n44 V => ?_))
  obtain ⟨v54, rfl, V⟩ := V
  show Blk g M_X9_share post 23 [(0, .ref x0), (1, .int x1), (2, .int x2), (3, .int x3)] [.int (nI v54)] h43 n44 2 12
  obtain ⟨c, V⟩ := V
  refine r_i2lN dX9_share_23 c ?_
  refine r_aload_n 0 dX9_share_24 rfl rfl ?_
  obtain ⟨o56, o57, o58, o59, o60, o61, o62, o63, q55, V⟩ := V
  refine r_getf (ci := 10) (kf := 3) (T := TX9) rfl in_X9 (by decide) wF_X9_41 dX9_share_25 q55 rfl ?_
  refine r_iload_n 1 dX9_share_28 rfl rfl ?_
  obtain ⟨o67, o68, o69, o70, o71, o72, o73, o74, q66, V⟩ := V
  refine r_callV (M2 := M_X4_bottom) (ci := 5) (n := 1) (As := [.int x1]) rfl (wl5 wM_X9_115 wi_X4_bottom wS_X4_bottom wI_StateShares_Moves wc_X4_bottom) (by decide +kernel) (by decide) rfl rfl (Nat.le_of_ble_eq_true rfl) dX9_share_29 q66 (by decide) (by decide) (Ct.imp V (fun r h64 n65 V => ?_))
  obtain ⟨v75, rfl, V⟩ := V
  show Blk g M_X9_share post 32 [(0, .ref x0), (1, .int x1), (2, .int x2), (3, .int x3)] [.int (nI v75), .long (lN v54)] h64 n65 2 12
  obtain ⟨c, V⟩ := V
  refine r_i2lN dX9_share_32 c ?_
  refine r_iload_n 3 dX9_share_33 rfl rfl ?_
  refine r_callS (M2 := M_X9_smallPart) (n := 3) (As := [.long (lN v54), .long (lN v75), .int x3]) (wl4 wM_X9_119 ws_X9_smallPart wI_StateShares wc_X9_smallPart) (by decide +kernel) (by decide) rfl rfl (Nat.le_of_ble_eq_true rfl) dX9_share_34 (by decide) (by decide) (Ct.imp V (fun r h76 n77 V => ?_))
  obtain ⟨v78, rfl, V⟩ := V
  show Blk g M_X9_share post 37 [(0, .ref x0), (1, .int x1), (2, .int x2), (3, .int x3)] [.long v78] h76 n77 2 12
  exact r_lret dX9_share_37 rfl (by decide) (by decide) V
set_option maxRecDepth 20000 in
theorem v_X9_at_0 {g : xG} {post : xPost} {h : xHp} {nx : Nat} {x0 : Nat} {x1 : Int32} {x2 : Int32} {x3 : Int32} (V : (∃ (o4 : Nat) (o5 : Nat) (o6 : Nat) (o7 : Nat) (o8 : Nat) (o9 : Nat) (o10 : Nat) (o11 : Nat), h x0 = some (xo 10 [.int (nI o4), .ref o5, .ref o6, .ref o7, .ref o8, .ref o9, .ref o10, .int (nI o11)]) ∧ Ct g M_X9_needState [.ref x0, .int x1] h nx (fun r h1 n2 => r = none ∧ (∃ (o15 : Nat) (o16 : Nat) (o17 : Nat) (o18 : Nat) (o19 : Nat) (o20 : Nat) (o21 : Nat) (o22 : Nat), h1 x0 = some (xo 10 [.int (nI o15), .ref o16, .ref o17, .ref o18, .ref o19, .ref o20, .ref o21, .int (nI o22)]) ∧ Ct g M_X9_foretold [.ref x0, .int x2] h1 n2 (fun r h12 n13 => ∃ v23 : Nat, r = some (.int (nI v23)) ∧ (v23 < 2 ^ 31 ∧ ((v23 = 0 → (post (some (.long (-1))) h12 n13)) ∧ (¬ v23 = 0 → (∃ (o25 : Nat) (o26 : Nat) (o27 : Nat) (o28 : Nat) (o29 : Nat) (o30 : Nat) (o31 : Nat) (o32 : Nat), h12 x0 = some (xo 10 [.int (nI o25), .ref o26, .ref o27, .ref o28, .ref o29, .ref o30, .ref o31, .int (nI o32)]) ∧ (∃ (o36 : Nat) (o37 : Nat) (o38 : Nat) (o39 : Nat) (o40 : Nat) (o41 : Nat) (o42 : Nat) (o43 : Nat) (o44 : Nat) (o45 : Nat) (o46 : Nat) (o47 : Nat) (o48 : Nat) (o49 : Nat) (o50 : Nat) (o51 : Nat) (o52 : Int32) (o53 : Int32), h12 o31 = some (xo 2 [.int (nI o36), .ref o37, .ref o38, .ref o39, .ref o40, .ref o41, .ref o42, .ref o43, .ref o44, .ref o45, .ref o46, .ref o47, .ref o48, .int (nI o49), .int (nI o50), .int (nI o51), .int o52, .int o53]) ∧ Ct g M_X1_stateDigits [.ref o31, .int x1, .int x2, .int x3] h12 n13 (fun r h33 n34 => ∃ v54 : Nat, r = some (.long (lN v54)) ∧ (post (some (.long (lN v54))) h33 n34)))))))))))) : Blk g M_X9_at post 0 [(0, .ref x0), (1, .int x1), (2, .int x2), (3, .int x3)] [] h nx 0 0 := by
  refine r_aload_n 0 dX9_at_0 rfl rfl ?_
  refine r_iload_n 1 dX9_at_1 rfl rfl ?_
  obtain ⟨o4, o5, o6, o7, o8, o9, o10, o11, q3, V⟩ := V
  refine r_callV (M2 := M_X9_needState) (ci := 10) (n := 1) (As := [.int x1]) rfl (wl5 wM_X9_78 wi_X9_needState wS_X9_needState wI_StateShares wc_X9_needState) (by decide +kernel) (by decide) rfl rfl (Nat.le_of_ble_eq_true rfl) dX9_at_2 q3 (by decide) (by decide) (Ct.imp V (fun r h1 n2 V => ?_))
  obtain ⟨rfl, V⟩ := V
  show Blk g M_X9_at post 5 [(0, .ref x0), (1, .int x1), (2, .int x2), (3, .int x3)] [] h1 n2 1 6
  refine r_aload_n 0 dX9_at_5 rfl rfl ?_
  refine r_iload_n 2 dX9_at_6 rfl rfl ?_
  obtain ⟨o15, o16, o17, o18, o19, o20, o21, o22, q14, V⟩ := V
  refine r_callV (M2 := M_X9_foretold) (ci := 10) (n := 1) (As := [.int x2]) rfl (wl5 wM_X9_123 wi_X9_foretold wS_X9_foretold wI_StateShares wc_X9_foretold) (by decide +kernel) (by decide) rfl rfl (Nat.le_of_ble_eq_true rfl) dX9_at_7 q14 (by decide) (by decide) (Ct.imp V (fun r h12 n13 V => ?_))
  obtain ⟨v23, rfl, V⟩ := V
  show Blk g M_X9_at post 10 [(0, .ref x0), (1, .int x1), (2, .int x2), (3, .int x3)] [.int (nI v23)] h12 n13 1 6
  obtain ⟨c, V⟩ := V
  refine r_if_eqN (tgt := 26) dX9_at_10 (by decide) c (fun c => ?_) (fun c => ?_)
  · have V := V.1 c
    refine r_ldc2 (v := (-1)) wL_X9_130 dX9_at_26 ?_
    exact r_lret dX9_at_29 rfl (by decide) (by decide) V
  · have V := V.2 c
    refine r_aload_n 0 dX9_at_13 rfl rfl ?_
    obtain ⟨o25, o26, o27, o28, o29, o30, o31, o32, q24, V⟩ := V
    refine r_getf (ci := 10) (kf := 6) (T := TX9) rfl in_X9 (by decide) wF_X9_60 dX9_at_14 q24 rfl ?_
    refine r_iload_n 1 dX9_at_17 rfl rfl ?_
    refine r_iload_n 2 dX9_at_18 rfl rfl ?_
    refine r_iload_n 3 dX9_at_19 rfl rfl ?_
    obtain ⟨o36, o37, o38, o39, o40, o41, o42, o43, o44, o45, o46, o47, o48, o49, o50, o51, o52, o53, q35, V⟩ := V
    refine r_callV (M2 := M_X1_stateDigits) (ci := 2) (n := 3) (As := [.int x1, .int x2, .int x3]) rfl (wl5 wM_X9_126 wi_X1_stateDigits wS_X1_stateDigits wI_StateShares_Forecast wc_X1_stateDigits) (by decide +kernel) (by decide) rfl rfl (Nat.le_of_ble_eq_true rfl) dX9_at_20 q35 (by decide) (by decide) (Ct.imp V (fun r h33 n34 V => ?_))
    obtain ⟨v54, rfl, V⟩ := V
    show Blk g M_X9_at post 23 [(0, .ref x0), (1, .int x1), (2, .int x2), (3, .int x3)] [.long (lN v54)] h33 n34 1 6
    refine r_goto (tgt := 29) dX9_at_23 (by decide) ?_
    exact r_lret dX9_at_29 rfl (by decide) (by decide) V
set_option maxRecDepth 20000 in
theorem v_X9_start_0 {g : xG} {post : xPost} {h : xHp} {nx : Nat} {x0 : Nat} {x1 : Int32} {x2 : Int64} {x4 : Int64} (V : (∃ (o4 : Nat) (o5 : Nat) (o6 : Nat) (o7 : Nat) (o8 : Nat) (o9 : Nat) (o10 : Nat) (o11 : Nat), h x0 = some (xo 10 [.int (nI o4), .ref o5, .ref o6, .ref o7, .ref o8, .ref o9, .ref o10, .int (nI o11)]) ∧ Ct g M_X9_isState [.ref x0, .int x1] h nx (fun r h1 n2 => ∃ v12 : Nat, r = some (.int (nI v12)) ∧ (v12 < 2 ^ 31 ∧ ((v12 = 0 → (post (some (.int (nI 0))) h1 n2)) ∧ (¬ v12 = 0 → (Ct g M_X9_isFraction [.long x2, .long x4] h1 n2 (fun r h13 n14 => ∃ v15 : Nat, r = some (.int (nI v15)) ∧ (v15 < 2 ^ 31 ∧ ((¬ v15 = 0 → (∃ (o17 : Nat) (o18 : Nat) (o19 : Nat) (o20 : Nat) (o21 : Nat) (o22 : Nat) (o23 : Nat) (o24 : Nat), h13 x0 = some (xo 10 [.int (nI o17), .ref o18, .ref o19, .ref o20, .ref o21, .ref o22, .ref o23, .int (nI o24)]) ∧ (∃ (o28 : Nat) (o29 : Nat) (o30 : Nat) (o31 : Nat) (o32 : Nat) (o33 : Nat) (o34 : Nat) (o35 : Nat) (o36 : Nat) (o37 : Nat) (o38 : Nat) (o39 : Nat) (o40 : Nat) (o41 : Nat) (o42 : Nat) (o43 : Nat) (o44 : Int32) (o45 : Int32), h13 o23 = some (xo 2 [.int (nI o28), .ref o29, .ref o30, .ref o31, .ref o32, .ref o33, .ref o34, .ref o35, .ref o36, .ref o37, .ref o38, .ref o39, .ref o40, .int (nI o41), .int (nI o42), .int (nI o43), .int o44, .int o45]) ∧ Ct g M_X1_begin [.ref o23, .int x1, .int (x2.toInt32), .int (x4.toInt32)] h13 n14 (fun r h25 n26 => r = none ∧ (post (some (.int (nI 1))) h25 n26))))) ∧ (v15 = 0 → (post (some (.int (nI 0))) h13 n14)))))))))))) : Blk g M_X9_start post 0 [(0, .ref x0), (1, .int x1), (2, .long x2), (4, .long x4)] [] h nx 0 0 := by
  refine r_aload_n 0 dX9_start_0 rfl rfl ?_
  refine r_iload_n 1 dX9_start_1 rfl rfl ?_
  obtain ⟨o4, o5, o6, o7, o8, o9, o10, o11, q3, V⟩ := V
  refine r_callV (M2 := M_X9_isState) (ci := 10) (n := 1) (As := [.int x1]) rfl (wl5 wM_X9_132 wi_X9_isState wS_X9_isState wI_StateShares wc_X9_isState) (by decide +kernel) (by decide) rfl rfl (Nat.le_of_ble_eq_true rfl) dX9_start_2 q3 (by decide) (by decide) (Ct.imp V (fun r h1 n2 V => ?_))
  obtain ⟨v12, rfl, V⟩ := V
  show Blk g M_X9_start post 5 [(0, .ref x0), (1, .int x1), (2, .long x2), (4, .long x4)] [.int (nI v12)] h1 n2 0 0
  obtain ⟨c, V⟩ := V
  refine r_if_eqN (tgt := 17) dX9_start_5 (by decide) c (fun c => ?_) (fun c => ?_)
  · have V := V.1 c
    refine r_iconst (v := (nI 0)) dX9_start_17 rfl ?_
    exact r_zret (ty := .boolean) dX9_start_18 rfl rfl (by decide) (by decide) V
  · have V := V.2 c
    refine r_lload_n 2 dX9_start_8 rfl rfl ?_
    refine r_lload 3 dX9_start_9 rfl ?_
    refine r_callS (M2 := M_X9_isFraction) (n := 2) (As := [.long x2, .long x4]) (wl4 wM_X9_135 ws_X9_isFraction wI_StateShares wc_X9_isFraction) (by decide +kernel) (by decide) rfl rfl (Nat.le_of_ble_eq_true rfl) dX9_start_11 (by decide) (by decide) (Ct.imp V (fun r h13 n14 V => ?_))
    obtain ⟨v15, rfl, V⟩ := V
    show Blk g M_X9_start post 14 [(0, .ref x0), (1, .int x1), (2, .long x2), (4, .long x4)] [.int (nI v15)] h13 n14 0 0
    obtain ⟨c, V⟩ := V
    refine r_if_neN (tgt := 19) dX9_start_14 (by decide) c (fun c => ?_) (fun c => ?_)
    · have V := V.1 c
      refine r_aload_n 0 dX9_start_19 rfl rfl ?_
      obtain ⟨o17, o18, o19, o20, o21, o22, o23, o24, q16, V⟩ := V
      refine r_getf (ci := 10) (kf := 6) (T := TX9) rfl in_X9 (by decide) wF_X9_60 dX9_start_20 q16 rfl ?_
      refine r_iload_n 1 dX9_start_23 rfl rfl ?_
      refine r_lload_n 2 dX9_start_24 rfl rfl ?_
      refine r_l2i dX9_start_25 ?_
      refine r_lload 3 dX9_start_26 rfl ?_
      refine r_l2i dX9_start_28 ?_
      obtain ⟨o28, o29, o30, o31, o32, o33, o34, o35, o36, o37, o38, o39, o40, o41, o42, o43, o44, o45, q27, V⟩ := V
      refine r_callV (M2 := M_X1_begin) (ci := 2) (n := 3) (As := [.int x1, .int (x2.toInt32), .int (x4.toInt32)]) rfl (wl5 wM_X9_139 wi_X1_begin wS_X1_begin wI_StateShares_Forecast wc_X1_begin) (by decide +kernel) (by decide) rfl rfl (Nat.le_of_ble_eq_true rfl) dX9_start_29 q27 (by decide) (by decide) (Ct.imp V (fun r h25 n26 V => ?_))
      obtain ⟨rfl, V⟩ := V
      show Blk g M_X9_start post 32 [(0, .ref x0), (1, .int x1), (2, .long x2), (4, .long x4)] [] h25 n26 0 0
      refine r_iconst (v := (nI 1)) dX9_start_32 rfl ?_
      exact r_zret (ty := .boolean) dX9_start_33 rfl rfl (by decide) (by decide) V
    · have V := V.2 c
      refine r_iconst (v := (nI 0)) dX9_start_17 rfl ?_
      exact r_zret (ty := .boolean) dX9_start_18 rfl rfl (by decide) (by decide) V
set_option maxRecDepth 20000 in
theorem v_X9_works_0 {g : xG} {post : xPost} {h : xHp} {nx : Nat} {x0 : Nat} {x1 : Int32} {x2 : Int32} {x3 : Int32} {x4 : Int64} {x6 : Int64} (V : (∃ (o2 : Nat) (o3 : Nat) (o4 : Nat) (o5 : Nat) (o6 : Nat) (o7 : Nat) (o8 : Nat) (o9 : Nat), h x0 = some (xo 10 [.int (nI o2), .ref o3, .ref o4, .ref o5, .ref o6, .ref o7, .ref o8, .int (nI o9)]) ∧ (Ct g M_X9_tell [.ref x0, .ref o6, .int x1, .int x2, .int x3, .long x4, .long x6] h nx (fun r h10 n11 => ∃ v12 : Nat, r = some (.int (nI v12)) ∧ (v12 ≤ 1 ∧ post (some (.int (nI v12))) h10 n11))))) : Blk g M_X9_works post 0 [(0, .ref x0), (1, .int x1), (2, .int x2), (3, .int x3), (4, .long x4), (6, .long x6)] [] h nx 0 0 := by
  refine r_aload_n 0 dX9_works_0 rfl rfl ?_
  refine r_aload_n 0 dX9_works_1 rfl rfl ?_
  obtain ⟨o2, o3, o4, o5, o6, o7, o8, o9, q1, V⟩ := V
  refine r_getf (ci := 10) (kf := 4) (T := TX9) rfl in_X9 (by decide) wF_X9_48 dX9_works_2 q1 rfl ?_
  refine r_iload_n 1 dX9_works_5 rfl rfl ?_
  refine r_iload_n 2 dX9_works_6 rfl rfl ?_
  refine r_iload_n 3 dX9_works_7 rfl rfl ?_
  refine r_lload 4 dX9_works_8 rfl ?_
  refine r_lload 5 dX9_works_10 rfl ?_
  refine r_callV (M2 := M_X9_tell) (ci := 10) (n := 6) (As := [.ref o6, .int x1, .int x2, .int x3, .long x4, .long x6]) rfl (wl5 wM_X9_143 wi_X9_tell wS_X9_tell wI_StateShares wc_X9_tell) (by decide +kernel) (by decide) rfl rfl (Nat.le_of_ble_eq_true rfl) dX9_works_12 q1 (by decide) (by decide) (Ct.imp V (fun r h10 n11 V => ?_))
  obtain ⟨v12, rfl, V⟩ := V
  show Blk g M_X9_works post 15 [(0, .ref x0), (1, .int x1), (2, .int x2), (3, .int x3), (4, .long x4), (6, .long x6)] [.int (nI v12)] h10 n11 0 0
  obtain ⟨c, V⟩ := V
  exact r_zret (ty := .boolean) dX9_works_15 rfl (n_bool c) (by decide) (by decide) V
set_option maxRecDepth 20000 in
theorem v_X9_event_0 {g : xG} {post : xPost} {h : xHp} {nx : Nat} {x0 : Nat} {x1 : Int32} {x2 : Int32} {x3 : Int32} {x4 : Int64} {x6 : Int64} (V : (∃ (o2 : Nat) (o3 : Nat) (o4 : Nat) (o5 : Nat) (o6 : Nat) (o7 : Nat) (o8 : Nat) (o9 : Nat), h x0 = some (xo 10 [.int (nI o2), .ref o3, .ref o4, .ref o5, .ref o6, .ref o7, .ref o8, .int (nI o9)]) ∧ (Ct g M_X9_tell [.ref x0, .ref o7, .int x1, .int x2, .int x3, .long x4, .long x6] h nx (fun r h10 n11 => ∃ v12 : Nat, r = some (.int (nI v12)) ∧ (v12 ≤ 1 ∧ post (some (.int (nI v12))) h10 n11))))) : Blk g M_X9_event post 0 [(0, .ref x0), (1, .int x1), (2, .int x2), (3, .int x3), (4, .long x4), (6, .long x6)] [] h nx 0 0 := by
  refine r_aload_n 0 dX9_event_0 rfl rfl ?_
  refine r_aload_n 0 dX9_event_1 rfl rfl ?_
  obtain ⟨o2, o3, o4, o5, o6, o7, o8, o9, q1, V⟩ := V
  refine r_getf (ci := 10) (kf := 5) (T := TX9) rfl in_X9 (by decide) wF_X9_52 dX9_event_2 q1 rfl ?_
  refine r_iload_n 1 dX9_event_5 rfl rfl ?_
  refine r_iload_n 2 dX9_event_6 rfl rfl ?_
  refine r_iload_n 3 dX9_event_7 rfl rfl ?_
  refine r_lload 4 dX9_event_8 rfl ?_
  refine r_lload 5 dX9_event_10 rfl ?_
  refine r_callV (M2 := M_X9_tell) (ci := 10) (n := 6) (As := [.ref o7, .int x1, .int x2, .int x3, .long x4, .long x6]) rfl (wl5 wM_X9_143 wi_X9_tell wS_X9_tell wI_StateShares wc_X9_tell) (by decide +kernel) (by decide) rfl rfl (Nat.le_of_ble_eq_true rfl) dX9_event_12 q1 (by decide) (by decide) (Ct.imp V (fun r h10 n11 V => ?_))
  obtain ⟨v12, rfl, V⟩ := V
  show Blk g M_X9_event post 15 [(0, .ref x0), (1, .int x1), (2, .int x2), (3, .int x3), (4, .long x4), (6, .long x6)] [.int (nI v12)] h10 n11 0 0
  obtain ⟨c, V⟩ := V
  exact r_zret (ty := .boolean) dX9_event_15 rfl (n_bool c) (by decide) (by decide) V
set_option maxRecDepth 20000 in
theorem v_X9_sums_0 {g : xG} {post : xPost} {h : xHp} {nx : Nat} {x0 : Nat} {x1 : Int32} (V : (∃ (o4 : Nat) (o5 : Nat) (o6 : Nat) (o7 : Nat) (o8 : Nat) (o9 : Nat) (o10 : Nat) (o11 : Nat), h x0 = some (xo 10 [.int (nI o4), .ref o5, .ref o6, .ref o7, .ref o8, .ref o9, .ref o10, .int (nI o11)]) ∧ Ct g M_X9_foretold [.ref x0, .int x1] h nx (fun r h1 n2 => ∃ v12 : Nat, r = some (.int (nI v12)) ∧ (v12 < 2 ^ 31 ∧ ((v12 = 0 → (post (some (.int (nI 0))) h1 n2)) ∧ (¬ v12 = 0 → (∃ (o14 : Nat) (o15 : Nat) (o16 : Nat) (o17 : Nat) (o18 : Nat) (o19 : Nat) (o20 : Nat) (o21 : Nat), h1 x0 = some (xo 10 [.int (nI o14), .ref o15, .ref o16, .ref o17, .ref o18, .ref o19, .ref o20, .int (nI o21)]) ∧ (∃ (o25 : Nat) (o26 : Nat) (o27 : Nat) (o28 : Nat) (o29 : Nat) (o30 : Nat) (o31 : Nat) (o32 : Nat) (o33 : Nat) (o34 : Nat) (o35 : Nat) (o36 : Nat) (o37 : Nat) (o38 : Nat) (o39 : Nat) (o40 : Nat) (o41 : Int32) (o42 : Int32), h1 o20 = some (xo 2 [.int (nI o25), .ref o26, .ref o27, .ref o28, .ref o29, .ref o30, .ref o31, .ref o32, .ref o33, .ref o34, .ref o35, .ref o36, .ref o37, .int (nI o38), .int (nI o39), .int (nI o40), .int o41, .int o42]) ∧ Ct g M_X1_isOneTogether [.ref o20, .int x1] h1 n2 (fun r h22 n23 => ∃ v43 : Nat, r = some (.int (nI v43)) ∧ (v43 < 2 ^ 31 ∧ ((v43 = 0 → (post (some (.int (nI 0))) h22 n23)) ∧ (¬ v43 = 0 → (post (some (.int (nI 1))) h22 n23))))))))))))) : Blk g M_X9_sums post 0 [(0, .ref x0), (1, .int x1)] [] h nx 0 0 := by
  refine r_aload_n 0 dX9_sums_0 rfl rfl ?_
  refine r_iload_n 1 dX9_sums_1 rfl rfl ?_
  obtain ⟨o4, o5, o6, o7, o8, o9, o10, o11, q3, V⟩ := V
  refine r_callV (M2 := M_X9_foretold) (ci := 10) (n := 1) (As := [.int x1]) rfl (wl5 wM_X9_123 wi_X9_foretold wS_X9_foretold wI_StateShares wc_X9_foretold) (by decide +kernel) (by decide) rfl rfl (Nat.le_of_ble_eq_true rfl) dX9_sums_2 q3 (by decide) (by decide) (Ct.imp V (fun r h1 n2 V => ?_))
  obtain ⟨v12, rfl, V⟩ := V
  show Blk g M_X9_sums post 5 [(0, .ref x0), (1, .int x1)] [.int (nI v12)] h1 n2 0 0
  obtain ⟨c, V⟩ := V
  refine r_if_eqN (tgt := 23) dX9_sums_5 (by decide) c (fun c => ?_) (fun c => ?_)
  · have V := V.1 c
    refine r_iconst (v := (nI 0)) dX9_sums_23 rfl ?_
    exact r_zret (ty := .boolean) dX9_sums_24 rfl rfl (by decide) (by decide) V
  · have V := V.2 c
    refine r_aload_n 0 dX9_sums_8 rfl rfl ?_
    obtain ⟨o14, o15, o16, o17, o18, o19, o20, o21, q13, V⟩ := V
    refine r_getf (ci := 10) (kf := 6) (T := TX9) rfl in_X9 (by decide) wF_X9_60 dX9_sums_9 q13 rfl ?_
    refine r_iload_n 1 dX9_sums_12 rfl rfl ?_
    obtain ⟨o25, o26, o27, o28, o29, o30, o31, o32, o33, o34, o35, o36, o37, o38, o39, o40, o41, o42, q24, V⟩ := V
    refine r_callV (M2 := M_X1_isOneTogether) (ci := 2) (n := 1) (As := [.int x1]) rfl (wl5 wM_X9_147 wi_X1_isOneTogether wS_X1_isOneTogether wI_StateShares_Forecast wc_X1_isOneTogether) (by decide +kernel) (by decide) rfl rfl (Nat.le_of_ble_eq_true rfl) dX9_sums_13 q24 (by decide) (by decide) (Ct.imp V (fun r h22 n23 V => ?_))
    obtain ⟨v43, rfl, V⟩ := V
    show Blk g M_X9_sums post 16 [(0, .ref x0), (1, .int x1)] [.int (nI v43)] h22 n23 0 0
    obtain ⟨c, V⟩ := V
    refine r_if_eqN (tgt := 23) dX9_sums_16 (by decide) c (fun c => ?_) (fun c => ?_)
    · have V := V.1 c
      refine r_iconst (v := (nI 0)) dX9_sums_23 rfl ?_
      exact r_zret (ty := .boolean) dX9_sums_24 rfl rfl (by decide) (by decide) V
    · have V := V.2 c
      refine r_iconst (v := (nI 1)) dX9_sums_19 rfl ?_
      refine r_goto (tgt := 24) dX9_sums_20 (by decide) ?_
      exact r_zret (ty := .boolean) dX9_sums_24 rfl rfl (by decide) (by decide) V
set_option maxRecDepth 20000 in
theorem v_X9_drawn_0 {g : xG} {post : xPost} {h : xHp} {nx : Nat} {x0 : Nat} {x1 : Int64} {x3 : Int32} {x4 : Int32} (V : (Ct g M_X9_isThing [.int x3] h nx (fun r h1 n2 => ∃ v3 : Nat, r = some (.int (nI v3)) ∧ (v3 < 2 ^ 31 ∧ ((v3 = 0 → (post (some (.int (-1))) h1 n2)) ∧ (¬ v3 = 0 → (Ct g M_X9_isYear [.int x4] h1 n2 (fun r h4 n5 => ∃ v6 : Nat, r = some (.int (nI v6)) ∧ (v6 < 2 ^ 31 ∧ ((¬ v6 = 0 → (∃ (o10 : Nat) (o11 : Nat) (o12 : Nat) (o13 : Nat) (o14 : Nat) (o15 : Nat) (o16 : Nat) (o17 : Nat), h4 x0 = some (xo 10 [.int (nI o10), .ref o11, .ref o12, .ref o13, .ref o14, .ref o15, .ref o16, .int (nI o17)]) ∧ Ct g M_X9_renewMoves [.ref x0] h4 n5 (fun r h7 n8 => r = none ∧ (∃ (o19 : Nat) (o20 : Nat) (o21 : Nat) (o22 : Nat) (o23 : Nat) (o24 : Nat) (o25 : Nat) (o26 : Nat), h7 x0 = some (xo 10 [.int (nI o19), .ref o20, .ref o21, .ref o22, .ref o23, .ref o24, .ref o25, .int (nI o26)]) ∧ (∃ (o30 : Nat) (o31 : Nat) (o32 : Nat) (o33 : Nat), h7 o21 = some (xo 4 [.ref o30, .ref o31, .ref o32, .ref o33]) ∧ Ct g M_X3_firstState [.ref o21, .int x3] h7 n8 (fun r h27 n28 => ∃ v34 : Int32, r = some (.int v34) ∧ Blk g M_X9_drawn post 34 [(0, .ref x0), (1, .long x1), (3, .int x3), (4, .int x4), (5, .int v34), (6, .int (nI 0))] [] h27 n28 0 0)))))) ∧ (v6 = 0 → (post (some (.int (-1))) h4 n5)))))))))))) : Blk g M_X9_drawn post 0 [(0, .ref x0), (1, .long x1), (3, .int x3), (4, .int x4)] [] h nx 0 0 := by
  refine r_iload_n 2 dX9_drawn_0 rfl rfl ?_
  refine r_callS (M2 := M_X9_isThing) (n := 1) (As := [.int x3]) (wl4 wM_X9_68 ws_X9_isThing wI_StateShares wc_X9_isThing) (by decide +kernel) (by decide) rfl rfl (Nat.le_of_ble_eq_true rfl) dX9_drawn_1 (by decide) (by decide) (Ct.imp V (fun r h1 n2 V => ?_))
  obtain ⟨v3, rfl, V⟩ := V
  show Blk g M_X9_drawn post 4 [(0, .ref x0), (1, .long x1), (3, .int x3), (4, .int x4)] [.int (nI v3)] h1 n2 0 0
  obtain ⟨c, V⟩ := V
  refine r_if_eqN (tgt := 15) dX9_drawn_4 (by decide) c (fun c => ?_) (fun c => ?_)
  · have V := V.1 c
    refine r_iconst (v := (-1)) dX9_drawn_15 rfl ?_
    exact r_iret dX9_drawn_16 rfl (by decide) (by decide) V
  · have V := V.2 c
    refine r_iload 3 dX9_drawn_7 rfl ?_
    refine r_callS (M2 := M_X9_isYear) (n := 1) (As := [.int x4]) (wl4 wM_X9_72 ws_X9_isYear wI_StateShares wc_X9_isYear) (by decide +kernel) (by decide) rfl rfl (Nat.le_of_ble_eq_true rfl) dX9_drawn_9 (by decide) (by decide) (Ct.imp V (fun r h4 n5 V => ?_))
    obtain ⟨v6, rfl, V⟩ := V
    show Blk g M_X9_drawn post 12 [(0, .ref x0), (1, .long x1), (3, .int x3), (4, .int x4)] [.int (nI v6)] h4 n5 0 0
    obtain ⟨c, V⟩ := V
    refine r_if_neN (tgt := 17) dX9_drawn_12 (by decide) c (fun c => ?_) (fun c => ?_)
    · have V := V.1 c
      refine r_aload_n 0 dX9_drawn_17 rfl rfl ?_
      obtain ⟨o10, o11, o12, o13, o14, o15, o16, o17, q9, V⟩ := V
      refine r_callV (M2 := M_X9_renewMoves) (ci := 10) (n := 0) (As := []) rfl (wl5 wM_X9_103 wi_X9_renewMoves wS_X9_renewMoves wI_StateShares wc_X9_renewMoves) (by decide +kernel) (by decide) rfl rfl (Nat.le_of_ble_eq_true rfl) dX9_drawn_18 q9 (by decide) (by decide) (Ct.imp V (fun r h7 n8 V => ?_))
      obtain ⟨rfl, V⟩ := V
      show Blk g M_X9_drawn post 21 [(0, .ref x0), (1, .long x1), (3, .int x3), (4, .int x4)] [] h7 n8 0 0
      refine r_aload_n 0 dX9_drawn_21 rfl rfl ?_
      obtain ⟨o19, o20, o21, o22, o23, o24, o25, o26, q18, V⟩ := V
      refine r_getf (ci := 10) (kf := 2) (T := TX9) rfl in_X9 (by decide) wF_X9_34 dX9_drawn_22 q18 rfl ?_
      refine r_iload_n 2 dX9_drawn_25 rfl rfl ?_
      obtain ⟨o30, o31, o32, o33, q29, V⟩ := V
      refine r_callV (M2 := M_X3_firstState) (ci := 4) (n := 1) (As := [.int x3]) rfl (wl5 wM_X9_150 wi_X3_firstState wS_X3_firstState wI_StateShares_Marks wc_X3_firstState) (by decide +kernel) (by decide) rfl rfl (Nat.le_of_ble_eq_true rfl) dX9_drawn_26 q29 (by decide) (by decide) (Ct.imp V (fun r h27 n28 V => ?_))
      obtain ⟨v34, rfl, V⟩ := V
      show Blk g M_X9_drawn post 29 [(0, .ref x0), (1, .long x1), (3, .int x3), (4, .int x4)] [.int v34] h27 n28 0 0
      refine r_istore (L' := [(5, .int v34), (0, .ref x0), (1, .long x1), (3, .int x3), (4, .int x4)]) dX9_drawn_29 (by decide) rfl ?_
      refine r_iconst (v := (nI 0)) dX9_drawn_31 rfl ?_
      refine r_istore (L' := [(6, .int (nI 0)), (5, .int v34), (0, .ref x0), (1, .long x1), (3, .int x3), (4, .int x4)]) dX9_drawn_32 (by decide) rfl ?_
      exact Blk.sub [2, 3, 4, 5, 1, 0] rfl V
    · have V := V.2 c
      refine r_iconst (v := (-1)) dX9_drawn_15 rfl ?_
      exact r_iret dX9_drawn_16 rfl (by decide) (by decide) V
set_option maxRecDepth 20000 in
theorem v_X9_drawn_34 {g : xG} {post : xPost} {h : xHp} {nx : Nat} {x0 : Nat} {x1 : Int64} {x3 : Int32} {x4 : Int32} {x5 : Int32} {x6 : Nat} (V : ((x4 ≤ (nI x6) → (post (some (.int x5)) h nx)) ∧ (¬ x4 ≤ (nI x6) → (∃ (o2 : Nat) (o3 : Nat) (o4 : Nat) (o5 : Nat) (o6 : Nat) (o7 : Nat) (o8 : Nat) (o9 : Nat), h x0 = some (xo 10 [.int (nI o2), .ref o3, .ref o4, .ref o5, .ref o6, .ref o7, .ref o8, .int (nI o9)]) ∧ (Ct g M_X9_draw [.long x1, .int x3, .int (nI x6)] h nx (fun r h10 n11 => ∃ v12 : Int64, r = some (.long v12) ∧ (∃ (o16 : Nat) (o17 : Nat) (o18 : Nat) (o19 : Nat) (o20 : Nat) (o21 : Nat) (o22 : Nat) (o23 : Nat), h10 o5 = some (xo 5 [.int (nI o16), .ref o17, .ref o18, .ref o19, .ref o20, .ref o21, .int (nI o22), .int (nI o23)]) ∧ Ct g M_X4_goal [.ref o5, .int x5, .long v12] h10 n11 (fun r h13 n14 => ∃ v24 : Nat, r = some (.int (nI v24)) ∧ Blk g M_X9_drawn post 34 [(0, .ref x0), (1, .long x1), (3, .int x3), (4, .int x4), (5, .int (nI v24)), (6, .int (nI (x6 + 1)))] [] h13 n14 0 0)))))))) : Blk g M_X9_drawn post 34 [(0, .ref x0), (1, .long x1), (3, .int x3), (4, .int x4), (5, .int x5), (6, .int (nI x6))] [] h nx 0 0 := by
  refine r_iload 5 dX9_drawn_34 rfl ?_
  refine r_iload 3 dX9_drawn_36 rfl ?_
  refine r_icmp_ge (tgt := 65) dX9_drawn_38 (by decide) (fun c => ?_) (fun c => ?_)
  · have V := V.1 c
    refine r_iload 4 dX9_drawn_65 rfl ?_
    exact r_iret dX9_drawn_67 rfl (by decide) (by decide) V
  · have V := V.2 c
    refine r_aload_n 0 dX9_drawn_41 rfl rfl ?_
    obtain ⟨o2, o3, o4, o5, o6, o7, o8, o9, q1, V⟩ := V
    refine r_getf (ci := 10) (kf := 3) (T := TX9) rfl in_X9 (by decide) wF_X9_41 dX9_drawn_42 q1 rfl ?_
    refine r_iload 4 dX9_drawn_45 rfl ?_
    refine r_lload_n 1 dX9_drawn_47 rfl rfl ?_
    refine r_iload_n 2 dX9_drawn_48 rfl rfl ?_
    refine r_iload 5 dX9_drawn_49 rfl ?_
    refine r_callS (M2 := M_X9_draw) (n := 3) (As := [.long x1, .int x3, .int (nI x6)]) (wl4 wM_X9_153 ws_X9_draw wI_StateShares wc_X9_draw) (by decide +kernel) (by decide) rfl rfl (Nat.le_of_ble_eq_true rfl) dX9_drawn_51 (by decide) (by decide) (Ct.imp V (fun r h10 n11 V => ?_))
    obtain ⟨v12, rfl, V⟩ := V
    show Blk g M_X9_drawn post 54 [(0, .ref x0), (1, .long x1), (3, .int x3), (4, .int x4), (5, .int x5), (6, .int (nI x6))] [.long v12, .int x5, .ref o5] h10 n11 0 0
    obtain ⟨o16, o17, o18, o19, o20, o21, o22, o23, q15, V⟩ := V
    refine r_callV (M2 := M_X4_goal) (ci := 5) (n := 2) (As := [.int x5, .long v12]) rfl (wl5 wM_X9_157 wi_X4_goal wS_X4_goal wI_StateShares_Moves wc_X4_goal) (by decide +kernel) (by decide) rfl rfl (Nat.le_of_ble_eq_true rfl) dX9_drawn_54 q15 (by decide) (by decide) (Ct.imp V (fun r h13 n14 V => ?_))
    obtain ⟨v24, rfl, V⟩ := V
    show Blk g M_X9_drawn post 57 [(0, .ref x0), (1, .long x1), (3, .int x3), (4, .int x4), (5, .int x5), (6, .int (nI x6))] [.int (nI v24)] h13 n14 0 0
    refine r_istore (L' := [(5, .int (nI v24)), (0, .ref x0), (1, .long x1), (3, .int x3), (4, .int x4), (6, .int (nI x6))]) dX9_drawn_57 (by decide) rfl ?_
    refine r_iincN 5 (b := 1) (L' := [(6, .int (nI (x6 + 1))), (5, .int (nI v24)), (0, .ref x0), (1, .long x1), (3, .int x3), (4, .int x4)]) dX9_drawn_59 rfl rfl (by decide) rfl ?_
    refine r_goto (tgt := 34) dX9_drawn_62 (by decide) ?_
    exact Blk.sub [2, 3, 4, 5, 1, 0] rfl V
set_option maxRecDepth 20000 in
theorem v_X9_span_0 {g : xG} {post : xPost} {h : xHp} {nx : Nat} {x0 : Nat} {x1 : Int32} {x2 : Int32} {x3 : Int32} {x4 : Int32} (V : (∃ (o4 : Nat) (o5 : Nat) (o6 : Nat) (o7 : Nat) (o8 : Nat) (o9 : Nat) (o10 : Nat) (o11 : Nat), h x0 = some (xo 10 [.int (nI o4), .ref o5, .ref o6, .ref o7, .ref o8, .ref o9, .ref o10, .int (nI o11)]) ∧ Ct g M_X9_isState [.ref x0, .int x1] h nx (fun r h1 n2 => ∃ v12 : Nat, r = some (.int (nI v12)) ∧ (v12 < 2 ^ 31 ∧ ((v12 = 0 → (post (some (.long (-1))) h1 n2)) ∧ (¬ v12 = 0 → (∃ (o16 : Nat) (o17 : Nat) (o18 : Nat) (o19 : Nat) (o20 : Nat) (o21 : Nat) (o22 : Nat) (o23 : Nat), h1 x0 = some (xo 10 [.int (nI o16), .ref o17, .ref o18, .ref o19, .ref o20, .ref o21, .ref o22, .int (nI o23)]) ∧ Ct g M_X9_isState [.ref x0, .int x2] h1 n2 (fun r h13 n14 => ∃ v24 : Nat, r = some (.int (nI v24)) ∧ (v24 < 2 ^ 31 ∧ ((v24 = 0 → (post (some (.long (-1))) h13 n14)) ∧ (¬ v24 = 0 → ((x3 < 0 → (post (some (.long (-1))) h13 n14)) ∧ (¬ x3 < 0 → (((nI 1) < x3 → (post (some (.long (-1))) h13 n14)) ∧ (¬ (nI 1) < x3 → ((x4 < 0 → (post (some (.long (-1))) h13 n14)) ∧ (¬ x4 < 0 → ((x4 ≤ (nI 1) → (∃ (o28 : Nat) (o29 : Nat) (o30 : Nat) (o31 : Nat) (o32 : Nat) (o33 : Nat) (o34 : Nat) (o35 : Nat), h13 x0 = some (xo 10 [.int (nI o28), .ref o29, .ref o30, .ref o31, .ref o32, .ref o33, .ref o34, .int (nI o35)]) ∧ Ct g M_X9_renewMoves [.ref x0] h13 n14 (fun r h25 n26 => r = none ∧ (∃ (o37 : Nat) (o38 : Nat) (o39 : Nat) (o40 : Nat) (o41 : Nat) (o42 : Nat) (o43 : Nat) (o44 : Nat), h25 x0 = some (xo 10 [.int (nI o37), .ref o38, .ref o39, .ref o40, .ref o41, .ref o42, .ref o43, .int (nI o44)]) ∧ (∃ (o48 : Nat) (o49 : Nat) (o50 : Nat) (o51 : Nat) (o52 : Nat) (o53 : Nat) (o54 : Nat) (o55 : Nat), h25 o40 = some (xo 5 [.int (nI o48), .ref o49, .ref o50, .ref o51, .ref o52, .ref o53, .int (nI o54), .int (nI o55)]) ∧ Ct g M_X4_number [.ref o40, .int x1, .int x2] h25 n26 (fun r h45 n46 => ∃ v56 : Nat, r = some (.int (nI v56)) ∧ (∃ (o58 : Nat) (o59 : Nat) (o60 : Nat) (o61 : Nat) (o62 : Nat) (o63 : Nat) (o64 : Nat) (o65 : Nat), h45 x0 = some (xo 10 [.int (nI o58), .ref o59, .ref o60, .ref o61, .ref o62, .ref o63, .ref o64, .int (nI o65)]) ∧ (∃ (o69 : Nat) (o70 : Nat) (o71 : Nat) (o72 : Nat) (o73 : Nat) (o74 : Nat) (o75 : Nat) (o76 : Nat), h45 o61 = some (xo 5 [.int (nI o69), .ref o70, .ref o71, .ref o72, .ref o73, .ref o74, .int (nI o75), .int (nI o76)]) ∧ Ct g M_X4_total [.ref o61, .int x1] h45 n46 (fun r h66 n67 => ∃ v77 : Nat, r = some (.int (nI v77)) ∧ ((v77 + 2) < 2 ^ 31 ∧ (Ct g M_X9_smallPart [.long (((nI v56) + ((nI 2) * x3)).toInt64), .long (lN (v77 + 2)), .int x4] h66 n67 (fun r h78 n79 => ∃ v80 : Int64, r = some (.long v80) ∧ (post (some (.long v80)) h78 n79))))))))))))) ∧ (¬ x4 ≤ (nI 1) → (post (some (.long (-1))) h13 n14)))))))))))))))))))) : Blk g M_X9_span post 0 [(0, .ref x0), (1, .int x1), (2, .int x2), (3, .int x3), (4, .int x4)] [] h nx 0 0 := by
  refine r_aload_n 0 dX9_span_0 rfl rfl ?_
  refine r_iload_n 1 dX9_span_1 rfl rfl ?_
  obtain ⟨o4, o5, o6, o7, o8, o9, o10, o11, q3, V⟩ := V
  refine r_callV (M2 := M_X9_isState) (ci := 10) (n := 1) (As := [.int x1]) rfl (wl5 wM_X9_132 wi_X9_isState wS_X9_isState wI_StateShares wc_X9_isState) (by decide +kernel) (by decide) rfl rfl (Nat.le_of_ble_eq_true rfl) dX9_span_2 q3 (by decide) (by decide) (Ct.imp V (fun r h1 n2 V => ?_))
  obtain ⟨v12, rfl, V⟩ := V
  show Blk g M_X9_span post 5 [(0, .ref x0), (1, .int x1), (2, .int x2), (3, .int x3), (4, .int x4)] [.int (nI v12)] h1 n2 0 0
  obtain ⟨c, V⟩ := V
  refine r_if_eqN (tgt := 36) dX9_span_5 (by decide) c (fun c => ?_) (fun c => ?_)
  · have V := V.1 c
    refine r_ldc2 (v := (-1)) wL_X9_130 dX9_span_36 ?_
    exact r_lret dX9_span_39 rfl (by decide) (by decide) V
  · have V := V.2 c
    refine r_aload_n 0 dX9_span_8 rfl rfl ?_
    refine r_iload_n 2 dX9_span_9 rfl rfl ?_
    obtain ⟨o16, o17, o18, o19, o20, o21, o22, o23, q15, V⟩ := V
    refine r_callV (M2 := M_X9_isState) (ci := 10) (n := 1) (As := [.int x2]) rfl (wl5 wM_X9_132 wi_X9_isState wS_X9_isState wI_StateShares wc_X9_isState) (by decide +kernel) (by decide) rfl rfl (Nat.le_of_ble_eq_true rfl) dX9_span_10 q15 (by decide) (by decide) (Ct.imp V (fun r h13 n14 V => ?_))
    obtain ⟨v24, rfl, V⟩ := V
    show Blk g M_X9_span post 13 [(0, .ref x0), (1, .int x1), (2, .int x2), (3, .int x3), (4, .int x4)] [.int (nI v24)] h13 n14 0 0
    obtain ⟨c, V⟩ := V
    refine r_if_eqN (tgt := 36) dX9_span_13 (by decide) c (fun c => ?_) (fun c => ?_)
    · have V := V.1 c
      refine r_ldc2 (v := (-1)) wL_X9_130 dX9_span_36 ?_
      exact r_lret dX9_span_39 rfl (by decide) (by decide) V
    · have V := V.2 c
      refine r_iload_n 3 dX9_span_16 rfl rfl ?_
      refine r_if_lt (tgt := 36) dX9_span_17 (by decide) (fun c => ?_) (fun c => ?_)
      · have V := V.1 c
        refine r_ldc2 (v := (-1)) wL_X9_130 dX9_span_36 ?_
        exact r_lret dX9_span_39 rfl (by decide) (by decide) V
      · have V := V.2 c
        refine r_iload_n 3 dX9_span_20 rfl rfl ?_
        refine r_iconst (v := (nI 1)) dX9_span_21 rfl ?_
        refine r_icmp_gt (tgt := 36) dX9_span_22 (by decide) (fun c => ?_) (fun c => ?_)
        · have V := V.1 c
          refine r_ldc2 (v := (-1)) wL_X9_130 dX9_span_36 ?_
          exact r_lret dX9_span_39 rfl (by decide) (by decide) V
        · have V := V.2 c
          refine r_iload 4 dX9_span_25 rfl ?_
          refine r_if_lt (tgt := 36) dX9_span_27 (by decide) (fun c => ?_) (fun c => ?_)
          · have V := V.1 c
            refine r_ldc2 (v := (-1)) wL_X9_130 dX9_span_36 ?_
            exact r_lret dX9_span_39 rfl (by decide) (by decide) V
          · have V := V.2 c
            refine r_iload 4 dX9_span_30 rfl ?_
            refine r_iconst (v := (nI 1)) dX9_span_32 rfl ?_
            refine r_icmp_le (tgt := 40) dX9_span_33 (by decide) (fun c => ?_) (fun c => ?_)
            · have V := V.1 c
              refine r_aload_n 0 dX9_span_40 rfl rfl ?_
              obtain ⟨o28, o29, o30, o31, o32, o33, o34, o35, q27, V⟩ := V
              refine r_callV (M2 := M_X9_renewMoves) (ci := 10) (n := 0) (As := []) rfl (wl5 wM_X9_103 wi_X9_renewMoves wS_X9_renewMoves wI_StateShares wc_X9_renewMoves) (by decide +kernel) (by decide) rfl rfl (Nat.le_of_ble_eq_true rfl) dX9_span_41 q27 (by decide) (by decide) (Ct.imp V (fun r h25 n26 V => ?_))
              obtain ⟨rfl, V⟩ := V
              show Blk g M_X9_span post 44 [(0, .ref x0), (1, .int x1), (2, .int x2), (3, .int x3), (4, .int x4)] [] h25 n26 0 0
              refine r_aload_n 0 dX9_span_44 rfl rfl ?_
              obtain ⟨o37, o38, o39, o40, o41, o42, o43, o44, q36, V⟩ := V
              refine r_getf (ci := 10) (kf := 3) (T := TX9) rfl in_X9 (by decide) wF_X9_41 dX9_span_45 q36 rfl ?_
              refine r_iload_n 1 dX9_span_48 rfl rfl ?_
              refine r_iload_n 2 dX9_span_49 rfl rfl ?_
              obtain ⟨o48, o49, o50, o51, o52, o53, o54, o55, q47, V⟩ := V
              refine r_callV (M2 := M_X4_number) (ci := 5) (n := 2) (As := [.int x1, .int x2]) rfl (wl5 wM_X9_106 wi_X4_number wS_X4_number wI_StateShares_Moves wc_X4_number) (by decide +kernel) (by decide) rfl rfl (Nat.le_of_ble_eq_true rfl) dX9_span_50 q47 (by decide) (by decide) (Ct.imp V (fun r h45 n46 V => ?_))
              obtain ⟨v56, rfl, V⟩ := V
              show Blk g M_X9_span post 53 [(0, .ref x0), (1, .int x1), (2, .int x2), (3, .int x3), (4, .int x4)] [.int (nI v56)] h45 n46 0 0
              refine r_iconst (v := (nI 2)) dX9_span_53 rfl ?_
              refine r_iload_n 3 dX9_span_54 rfl rfl ?_
              refine r_imul dX9_span_55 ?_
              refine r_iadd dX9_span_56 ?_
              refine r_istore (L' := [(5, .int ((nI v56) + ((nI 2) * x3))), (0, .ref x0), (1, .int x1), (2, .int x2), (3, .int x3), (4, .int x4)]) dX9_span_57 (by decide) rfl ?_
              refine r_iload 0 dX9_span_59 rfl ?_
              refine r_i2l dX9_span_61 ?_
              refine r_aload_n 1 dX9_span_62 rfl rfl ?_
              obtain ⟨o58, o59, o60, o61, o62, o63, o64, o65, q57, V⟩ := V
              refine r_getf (ci := 10) (kf := 3) (T := TX9) rfl in_X9 (by decide) wF_X9_41 dX9_span_63 q57 rfl ?_
              refine r_iload_n 2 dX9_span_66 rfl rfl ?_
              obtain ⟨o69, o70, o71, o72, o73, o74, o75, o76, q68, V⟩ := V
              refine r_callV (M2 := M_X4_total) (ci := 5) (n := 1) (As := [.int x1]) rfl (wl5 wM_X9_161 wi_X4_total wS_X4_total wI_StateShares_Moves wc_X4_total) (by decide +kernel) (by decide) rfl rfl (Nat.le_of_ble_eq_true rfl) dX9_span_67 q68 (by decide) (by decide) (Ct.imp V (fun r h66 n67 V => ?_))
              obtain ⟨v77, rfl, V⟩ := V
              show Blk g M_X9_span post 70 [(5, .int ((nI v56) + ((nI 2) * x3))), (0, .ref x0), (1, .int x1), (2, .int x2), (3, .int x3), (4, .int x4)] [.int (nI v77), .long (((nI v56) + ((nI 2) * x3)).toInt64)] h66 n67 0 0
              refine r_iconst (v := (nI 2)) dX9_span_70 rfl ?_
              refine r_iaddN dX9_span_71 ?_
              obtain ⟨c, V⟩ := V
              refine r_i2lN dX9_span_72 c ?_
              refine r_iload 5 dX9_span_73 rfl ?_
              refine r_callS (M2 := M_X9_smallPart) (n := 3) (As := [.long (((nI v56) + ((nI 2) * x3)).toInt64), .long (lN (v77 + 2)), .int x4]) (wl4 wM_X9_119 ws_X9_smallPart wI_StateShares wc_X9_smallPart) (by decide +kernel) (by decide) rfl rfl (Nat.le_of_ble_eq_true rfl) dX9_span_75 (by decide) (by decide) (Ct.imp V (fun r h78 n79 V => ?_))
              obtain ⟨v80, rfl, V⟩ := V
              show Blk g M_X9_span post 78 [(5, .int ((nI v56) + ((nI 2) * x3))), (0, .ref x0), (1, .int x1), (2, .int x2), (3, .int x3), (4, .int x4)] [.long v80] h78 n79 0 0
              exact r_lret dX9_span_78 rfl (by decide) (by decide) V
            · have V := V.2 c
              refine r_ldc2 (v := (-1)) wL_X9_130 dX9_span_36 ?_
              exact r_lret dX9_span_39 rfl (by decide) (by decide) V
set_option maxRecDepth 20000 in
theorem v_X9_part2_0 {g : xG} {post : xPost} {h : xHp} {nx : Nat} {x0 : Nat} {x1 : Int32} {x2 : Int64} (V : (∃ (o4 : Nat) (o5 : Nat) (o6 : Nat) (o7 : Nat) (o8 : Nat) (o9 : Nat) (o10 : Nat) (o11 : Nat), h x0 = some (xo 10 [.int (nI o4), .ref o5, .ref o6, .ref o7, .ref o8, .ref o9, .ref o10, .int (nI o11)]) ∧ Ct g M_X9_isState [.ref x0, .int x1] h nx (fun r h1 n2 => ∃ v12 : Nat, r = some (.int (nI v12)) ∧ (v12 < 2 ^ 31 ∧ ((v12 = 0 → (post (some (.int (nI 0))) h1 n2)) ∧ (¬ v12 = 0 → ((x2 < (-1000000) → (post (some (.int (nI 0))) h1 n2)) ∧ (¬ x2 < (-1000000) → ((x2 ≤ (lN 1000000) → (∃ (o14 : Nat) (o15 : Nat) (o16 : Nat) (o17 : Nat) (o18 : Nat) (o19 : Nat) (o20 : Nat) (o21 : Nat), h1 x0 = some (xo 10 [.int (nI o14), .ref o15, .ref o16, .ref o17, .ref o18, .ref o19, .ref o20, .int (nI o21)]) ∧ (∃ (o25 : Nat) (o26 : Nat) (o27 : Nat) (o28 : Nat) (o29 : Nat) (o30 : Nat) (o31 : Nat) (o32 : Nat) (o33 : Nat) (o34 : Nat) (o35 : Nat) (o36 : Nat) (o37 : Nat) (o38 : Nat) (o39 : Nat) (o40 : Nat) (o41 : Int32) (o42 : Int32), h1 o20 = some (xo 2 [.int (nI o25), .ref o26, .ref o27, .ref o28, .ref o29, .ref o30, .ref o31, .ref o32, .ref o33, .ref o34, .ref o35, .ref o36, .ref o37, .int (nI o38), .int (nI o39), .int (nI o40), .int o41, .int o42]) ∧ Ct g M_X1_setWorth [.ref o20, .int x1, .int (x2.toInt32)] h1 n2 (fun r h22 n23 => r = none ∧ (post (some (.int (nI 1))) h22 n23))))) ∧ (¬ x2 ≤ (lN 1000000) → (post (some (.int (nI 0))) h1 n2))))))))))) : Blk g M_X9_part2 post 0 [(0, .ref x0), (1, .int x1), (2, .long x2)] [] h nx 0 0 := by
  refine r_aload_n 0 dX9_part2_0 rfl rfl ?_
  refine r_iload_n 1 dX9_part2_1 rfl rfl ?_
  obtain ⟨o4, o5, o6, o7, o8, o9, o10, o11, q3, V⟩ := V
  refine r_callV (M2 := M_X9_isState) (ci := 10) (n := 1) (As := [.int x1]) rfl (wl5 wM_X9_132 wi_X9_isState wS_X9_isState wI_StateShares wc_X9_isState) (by decide +kernel) (by decide) rfl rfl (Nat.le_of_ble_eq_true rfl) dX9_part2_2 q3 (by decide) (by decide) (Ct.imp V (fun r h1 n2 V => ?_))
  obtain ⟨v12, rfl, V⟩ := V
  show Blk g M_X9_part2 post 5 [(0, .ref x0), (1, .int x1), (2, .long x2)] [.int (nI v12)] h1 n2 0 0
  obtain ⟨c, V⟩ := V
  refine r_if_eqN (tgt := 24) dX9_part2_5 (by decide) c (fun c => ?_) (fun c => ?_)
  · have V := V.1 c
    refine r_iconst (v := (nI 0)) dX9_part2_24 rfl ?_
    exact r_zret (ty := .boolean) dX9_part2_25 rfl rfl (by decide) (by decide) V
  · have V := V.2 c
    refine r_lload_n 2 dX9_part2_8 rfl rfl ?_
    refine r_ldc2 (v := (-1000000)) wL_X9_164 dX9_part2_9 ?_
    refine r_lcmp dX9_part2_12 ?_
    refine r_if_lt (tgt := 24) dX9_part2_13 (by decide) (fun c => ?_) (fun c => ?_)
    · have V := V.1 ((lg_cmp_lt _ _).mp c)
      refine r_iconst (v := (nI 0)) dX9_part2_24 rfl ?_
      exact r_zret (ty := .boolean) dX9_part2_25 rfl rfl (by decide) (by decide) V
    · have V := V.2 (fun q => c ((lg_cmp_lt _ _).mpr q))
      refine r_lload_n 2 dX9_part2_16 rfl rfl ?_
      refine r_ldc2 (v := (lN 1000000)) wL_X9_166 dX9_part2_17 ?_
      refine r_lcmp dX9_part2_20 ?_
      refine r_if_le (tgt := 26) dX9_part2_21 (by decide) (fun c => ?_) (fun c => ?_)
      · have V := V.1 ((lg_cmp_le _ _).mp c)
        refine r_aload_n 0 dX9_part2_26 rfl rfl ?_
        obtain ⟨o14, o15, o16, o17, o18, o19, o20, o21, q13, V⟩ := V
        refine r_getf (ci := 10) (kf := 6) (T := TX9) rfl in_X9 (by decide) wF_X9_60 dX9_part2_27 q13 rfl ?_
        refine r_iload_n 1 dX9_part2_30 rfl rfl ?_
        refine r_lload_n 2 dX9_part2_31 rfl rfl ?_
        refine r_l2i dX9_part2_32 ?_
        obtain ⟨o25, o26, o27, o28, o29, o30, o31, o32, o33, o34, o35, o36, o37, o38, o39, o40, o41, o42, q24, V⟩ := V
        refine r_callV (M2 := M_X1_setWorth) (ci := 2) (n := 2) (As := [.int x1, .int (x2.toInt32)]) rfl (wl5 wM_X9_168 wi_X1_setWorth wS_X1_setWorth wI_StateShares_Forecast wc_X1_setWorth) (by decide +kernel) (by decide) rfl rfl (Nat.le_of_ble_eq_true rfl) dX9_part2_33 q24 (by decide) (by decide) (Ct.imp V (fun r h22 n23 V => ?_))
        obtain ⟨rfl, V⟩ := V
        show Blk g M_X9_part2 post 36 [(0, .ref x0), (1, .int x1), (2, .long x2)] [] h22 n23 0 0
        refine r_iconst (v := (nI 1)) dX9_part2_36 rfl ?_
        exact r_zret (ty := .boolean) dX9_part2_37 rfl rfl (by decide) (by decide) V
      · have V := V.2 (fun q => c ((lg_cmp_le _ _).mpr q))
        refine r_iconst (v := (nI 0)) dX9_part2_24 rfl ?_
        exact r_zret (ty := .boolean) dX9_part2_25 rfl rfl (by decide) (by decide) V
set_option maxRecDepth 20000 in
theorem v_X9_worth_0 {g : xG} {post : xPost} {h : xHp} {nx : Nat} {x0 : Nat} {x1 : Int32} {x2 : Int32} (V : (∃ (o4 : Nat) (o5 : Nat) (o6 : Nat) (o7 : Nat) (o8 : Nat) (o9 : Nat) (o10 : Nat) (o11 : Nat), h x0 = some (xo 10 [.int (nI o4), .ref o5, .ref o6, .ref o7, .ref o8, .ref o9, .ref o10, .int (nI o11)]) ∧ Ct g M_X9_foretold [.ref x0, .int x1] h nx (fun r h1 n2 => ∃ v12 : Nat, r = some (.int (nI v12)) ∧ (v12 < 2 ^ 31 ∧ ((v12 = 0 → (post (some (.long (-1))) h1 n2)) ∧ (¬ v12 = 0 → (∃ (o14 : Nat) (o15 : Nat) (o16 : Nat) (o17 : Nat) (o18 : Nat) (o19 : Nat) (o20 : Nat) (o21 : Nat), h1 x0 = some (xo 10 [.int (nI o14), .ref o15, .ref o16, .ref o17, .ref o18, .ref o19, .ref o20, .int (nI o21)]) ∧ (∃ (o25 : Nat) (o26 : Nat) (o27 : Nat) (o28 : Nat) (o29 : Nat) (o30 : Nat) (o31 : Nat) (o32 : Nat) (o33 : Nat) (o34 : Nat) (o35 : Nat) (o36 : Nat) (o37 : Nat) (o38 : Nat) (o39 : Nat) (o40 : Nat) (o41 : Int32) (o42 : Int32), h1 o20 = some (xo 2 [.int (nI o25), .ref o26, .ref o27, .ref o28, .ref o29, .ref o30, .ref o31, .ref o32, .ref o33, .ref o34, .ref o35, .ref o36, .ref o37, .int (nI o38), .int (nI o39), .int (nI o40), .int o41, .int o42]) ∧ Ct g M_X1_worthDigits [.ref o20, .int x1, .int x2] h1 n2 (fun r h22 n23 => ∃ v43 : Int64, r = some (.long v43) ∧ (post (some (.long v43)) h22 n23)))))))))) : Blk g M_X9_worth post 0 [(0, .ref x0), (1, .int x1), (2, .int x2)] [] h nx 0 0 := by
  refine r_aload_n 0 dX9_worth_0 rfl rfl ?_
  refine r_iload_n 1 dX9_worth_1 rfl rfl ?_
  obtain ⟨o4, o5, o6, o7, o8, o9, o10, o11, q3, V⟩ := V
  refine r_callV (M2 := M_X9_foretold) (ci := 10) (n := 1) (As := [.int x1]) rfl (wl5 wM_X9_123 wi_X9_foretold wS_X9_foretold wI_StateShares wc_X9_foretold) (by decide +kernel) (by decide) rfl rfl (Nat.le_of_ble_eq_true rfl) dX9_worth_2 q3 (by decide) (by decide) (Ct.imp V (fun r h1 n2 V => ?_))
  obtain ⟨v12, rfl, V⟩ := V
  show Blk g M_X9_worth post 5 [(0, .ref x0), (1, .int x1), (2, .int x2)] [.int (nI v12)] h1 n2 0 0
  obtain ⟨c, V⟩ := V
  refine r_if_eqN (tgt := 20) dX9_worth_5 (by decide) c (fun c => ?_) (fun c => ?_)
  · have V := V.1 c
    refine r_ldc2 (v := (-1)) wL_X9_130 dX9_worth_20 ?_
    exact r_lret dX9_worth_23 rfl (by decide) (by decide) V
  · have V := V.2 c
    refine r_aload_n 0 dX9_worth_8 rfl rfl ?_
    obtain ⟨o14, o15, o16, o17, o18, o19, o20, o21, q13, V⟩ := V
    refine r_getf (ci := 10) (kf := 6) (T := TX9) rfl in_X9 (by decide) wF_X9_60 dX9_worth_9 q13 rfl ?_
    refine r_iload_n 1 dX9_worth_12 rfl rfl ?_
    refine r_iload_n 2 dX9_worth_13 rfl rfl ?_
    obtain ⟨o25, o26, o27, o28, o29, o30, o31, o32, o33, o34, o35, o36, o37, o38, o39, o40, o41, o42, q24, V⟩ := V
    refine r_callV (M2 := M_X1_worthDigits) (ci := 2) (n := 2) (As := [.int x1, .int x2]) rfl (wl5 wM_X9_172 wi_X1_worthDigits wS_X1_worthDigits wI_StateShares_Forecast wc_X1_worthDigits) (by decide +kernel) (by decide) rfl rfl (Nat.le_of_ble_eq_true rfl) dX9_worth_14 q24 (by decide) (by decide) (Ct.imp V (fun r h22 n23 V => ?_))
    obtain ⟨v43, rfl, V⟩ := V
    show Blk g M_X9_worth post 17 [(0, .ref x0), (1, .int x1), (2, .int x2)] [.long v43] h22 n23 0 0
    refine r_goto (tgt := 23) dX9_worth_17 (by decide) ?_
    exact r_lret dX9_worth_23 rfl (by decide) (by decide) V
set_option maxRecDepth 20000 in
theorem v_X9_agree_0 {g : xG} {post : xPost} {h : xHp} {nx : Nat} {x0 : Nat} {x1 : Int32} {x2 : Int32} {x3 : Int32} (V : (Ct g M_X9_isPerson [.int x1] h nx (fun r h1 n2 => ∃ v3 : Nat, r = some (.int (nI v3)) ∧ (v3 < 2 ^ 31 ∧ ((v3 = 0 → (post (some (.long (-1))) h1 n2)) ∧ (¬ v3 = 0 → (Ct g M_X9_isPerson [.int x2] h1 n2 (fun r h4 n5 => ∃ v6 : Nat, r = some (.int (nI v6)) ∧ (v6 < 2 ^ 31 ∧ ((v6 = 0 → (post (some (.long (-1))) h4 n5)) ∧ (¬ v6 = 0 → ((x1 = x2 → (post (some (.long (-1))) h4 n5)) ∧ (¬ x1 = x2 → ((x3 < 0 → (post (some (.long (-1))) h4 n5)) ∧ (¬ x3 < 0 → ((x3 ≤ (nI 1) → (∃ (o8 : Nat) (o9 : Nat) (o10 : Nat) (o11 : Nat) (o12 : Nat) (o13 : Nat) (o14 : Nat) (o15 : Nat), h4 x0 = some (xo 10 [.int (nI o8), .ref o9, .ref o10, .ref o11, .ref o12, .ref o13, .ref o14, .int (nI o15)]) ∧ (∃ (o19 : Nat) (o20 : Nat) (o21 : Nat) (o22 : Nat), h4 o10 = some (xo 4 [.ref o19, .ref o20, .ref o21, .ref o22]) ∧ Ct g M_X3_seenByBoth [.ref o10, .int x1, .int x2] h4 n5 (fun r h16 n17 => ∃ v23 : Nat, r = some (.int (nI v23)) ∧ Blk g M_X9_agree post 52 [(0, .ref x0), (1, .int x1), (2, .int x2), (3, .int x3), (4, .int (nI v23)), (5, .int (nI 0)), (6, .int (nI 0)), (7, .int (nI 0))] [] h16 n17 0 0)))) ∧ (¬ x3 ≤ (nI 1) → (post (some (.long (-1))) h4 n5)))))))))))))))))) : Blk g M_X9_agree post 0 [(0, .ref x0), (1, .int x1), (2, .int x2), (3, .int x3)] [] h nx 0 0 := by
  refine r_iload_n 1 dX9_agree_0 rfl rfl ?_
  refine r_callS (M2 := M_X9_isPerson) (n := 1) (As := [.int x1]) (wl4 wM_X9_75 ws_X9_isPerson wI_StateShares wc_X9_isPerson) (by decide +kernel) (by decide) rfl rfl (Nat.le_of_ble_eq_true rfl) dX9_agree_1 (by decide) (by decide) (Ct.imp V (fun r h1 n2 V => ?_))
  obtain ⟨v3, rfl, V⟩ := V
  show Blk g M_X9_agree post 4 [(0, .ref x0), (1, .int x1), (2, .int x2), (3, .int x3)] [.int (nI v3)] h1 n2 0 0
  obtain ⟨c, V⟩ := V
  refine r_if_eqN (tgt := 28) dX9_agree_4 (by decide) c (fun c => ?_) (fun c => ?_)
  · have V := V.1 c
    refine r_ldc2 (v := (-1)) wL_X9_130 dX9_agree_28 ?_
    exact r_lret dX9_agree_31 rfl (by decide) (by decide) V
  · have V := V.2 c
    refine r_iload_n 2 dX9_agree_7 rfl rfl ?_
    refine r_callS (M2 := M_X9_isPerson) (n := 1) (As := [.int x2]) (wl4 wM_X9_75 ws_X9_isPerson wI_StateShares wc_X9_isPerson) (by decide +kernel) (by decide) rfl rfl (Nat.le_of_ble_eq_true rfl) dX9_agree_8 (by decide) (by decide) (Ct.imp V (fun r h4 n5 V => ?_))
    obtain ⟨v6, rfl, V⟩ := V
    show Blk g M_X9_agree post 11 [(0, .ref x0), (1, .int x1), (2, .int x2), (3, .int x3)] [.int (nI v6)] h4 n5 0 0
    obtain ⟨c, V⟩ := V
    refine r_if_eqN (tgt := 28) dX9_agree_11 (by decide) c (fun c => ?_) (fun c => ?_)
    · have V := V.1 c
      refine r_ldc2 (v := (-1)) wL_X9_130 dX9_agree_28 ?_
      exact r_lret dX9_agree_31 rfl (by decide) (by decide) V
    · have V := V.2 c
      refine r_iload_n 1 dX9_agree_14 rfl rfl ?_
      refine r_iload_n 2 dX9_agree_15 rfl rfl ?_
      refine r_icmp_eq (tgt := 28) dX9_agree_16 (by decide) (fun c => ?_) (fun c => ?_)
      · have V := V.1 c
        refine r_ldc2 (v := (-1)) wL_X9_130 dX9_agree_28 ?_
        exact r_lret dX9_agree_31 rfl (by decide) (by decide) V
      · have V := V.2 c
        refine r_iload_n 3 dX9_agree_19 rfl rfl ?_
        refine r_if_lt (tgt := 28) dX9_agree_20 (by decide) (fun c => ?_) (fun c => ?_)
        · have V := V.1 c
          refine r_ldc2 (v := (-1)) wL_X9_130 dX9_agree_28 ?_
          exact r_lret dX9_agree_31 rfl (by decide) (by decide) V
        · have V := V.2 c
          refine r_iload_n 3 dX9_agree_23 rfl rfl ?_
          refine r_iconst (v := (nI 1)) dX9_agree_24 rfl ?_
          refine r_icmp_le (tgt := 32) dX9_agree_25 (by decide) (fun c => ?_) (fun c => ?_)
          · have V := V.1 c
            refine r_aload_n 0 dX9_agree_32 rfl rfl ?_
            obtain ⟨o8, o9, o10, o11, o12, o13, o14, o15, q7, V⟩ := V
            refine r_getf (ci := 10) (kf := 2) (T := TX9) rfl in_X9 (by decide) wF_X9_34 dX9_agree_33 q7 rfl ?_
            refine r_iload_n 1 dX9_agree_36 rfl rfl ?_
            refine r_iload_n 2 dX9_agree_37 rfl rfl ?_
            obtain ⟨o19, o20, o21, o22, q18, V⟩ := V
            refine r_callV (M2 := M_X3_seenByBoth) (ci := 4) (n := 2) (As := [.int x1, .int x2]) rfl (wl5 wM_X9_176 wi_X3_seenByBoth wS_X3_seenByBoth wI_StateShares_Marks wc_X3_seenByBoth) (by decide +kernel) (by decide) rfl rfl (Nat.le_of_ble_eq_true rfl) dX9_agree_38 q18 (by decide) (by decide) (Ct.imp V (fun r h16 n17 V => ?_))
            obtain ⟨v23, rfl, V⟩ := V
            show Blk g M_X9_agree post 41 [(0, .ref x0), (1, .int x1), (2, .int x2), (3, .int x3)] [.int (nI v23)] h16 n17 0 0
            refine r_istore (L' := [(4, .int (nI v23)), (0, .ref x0), (1, .int x1), (2, .int x2), (3, .int x3)]) dX9_agree_41 (by decide) rfl ?_
            refine r_iconst (v := (nI 0)) dX9_agree_43 rfl ?_
            refine r_istore (L' := [(5, .int (nI 0)), (4, .int (nI v23)), (0, .ref x0), (1, .int x1), (2, .int x2), (3, .int x3)]) dX9_agree_44 (by decide) rfl ?_
            refine r_iconst (v := (nI 0)) dX9_agree_46 rfl ?_
            refine r_istore (L' := [(6, .int (nI 0)), (5, .int (nI 0)), (4, .int (nI v23)), (0, .ref x0), (1, .int x1), (2, .int x2), (3, .int x3)]) dX9_agree_47 (by decide) rfl ?_
            refine r_iconst (v := (nI 0)) dX9_agree_49 rfl ?_
            refine r_istore (L' := [(7, .int (nI 0)), (6, .int (nI 0)), (5, .int (nI 0)), (4, .int (nI v23)), (0, .ref x0), (1, .int x1), (2, .int x2), (3, .int x3)]) dX9_agree_50 (by decide) rfl ?_
            exact Blk.sub [4, 5, 6, 7, 3, 2, 1, 0] rfl V
          · have V := V.2 c
            refine r_ldc2 (v := (-1)) wL_X9_130 dX9_agree_28 ?_
            exact r_lret dX9_agree_31 rfl (by decide) (by decide) V
set_option maxRecDepth 20000 in
theorem v_X9_agree_52 {g : xG} {post : xPost} {h : xHp} {nx : Nat} {x0 : Nat} {x1 : Int32} {x2 : Int32} {x3 : Int32} {x4 : Nat} {x5 : Nat} {x6 : Nat} {x7 : Nat} (V : (∃ (o2 : Nat) (o3 : Nat) (o4 : Nat) (o5 : Nat) (o6 : Nat) (o7 : Nat) (o8 : Nat) (o9 : Nat), h x0 = some (xo 10 [.int (nI o2), .ref o3, .ref o4, .ref o5, .ref o6, .ref o7, .ref o8, .int (nI o9)]) ∧ ((x7 < 2 ^ 31 ∧ o2 < 2 ^ 31) ∧ ((o2 ≤ x7 → (x6 ≤ (x4 * x4) ∧ (((x4 * x4) - x6) < 2 ^ 31 ∧ ((0 < ((x4 * x4) - x6) → (((x4 * x4) - x6) < 2 ^ 31 ∧ (Ct g M_X9_smallPart [.long (((nI (x4 * x5)) - (nI x6)).toInt64), .long (lN ((x4 * x4) - x6)), .int x3] h nx (fun r h10 n11 => ∃ v12 : Int64, r = some (.long v12) ∧ (post (some (.long v12)) h10 n11))))) ∧ (((x4 * x4) - x6) = 0 → (post (some (.long (lN 0))) h nx)))))) ∧ (x7 < o2 → (∃ (o16 : Nat) (o17 : Nat) (o18 : Nat) (o19 : Nat), h o4 = some (xo 4 [.ref o16, .ref o17, .ref o18, .ref o19]) ∧ Ct g M_X3_sameByBoth [.ref o4, .int x1, .int x2, .int (nI x7)] h nx (fun r h13 n14 => ∃ v20 : Nat, r = some (.int (nI v20)) ∧ (∃ (o22 : Nat) (o23 : Nat) (o24 : Nat) (o25 : Nat) (o26 : Nat) (o27 : Nat) (o28 : Nat) (o29 : Nat), h13 x0 = some (xo 10 [.int (nI o22), .ref o23, .ref o24, .ref o25, .ref o26, .ref o27, .ref o28, .int (nI o29)]) ∧ (∃ (o33 : Nat) (o34 : Nat) (o35 : Nat) (o36 : Nat), h13 o24 = some (xo 4 [.ref o33, .ref o34, .ref o35, .ref o36]) ∧ Ct g M_X3_seenAmongBoth [.ref o24, .int x1, .int x2, .int (nI x7)] h13 n14 (fun r h30 n31 => ∃ v37 : Nat, r = some (.int (nI v37)) ∧ (∃ (o39 : Nat) (o40 : Nat) (o41 : Nat) (o42 : Nat) (o43 : Nat) (o44 : Nat) (o45 : Nat) (o46 : Nat), h30 x0 = some (xo 10 [.int (nI o39), .ref o40, .ref o41, .ref o42, .ref o43, .ref o44, .ref o45, .int (nI o46)]) ∧ (∃ (o50 : Nat) (o51 : Nat) (o52 : Nat) (o53 : Nat), h30 o41 = some (xo 4 [.ref o50, .ref o51, .ref o52, .ref o53]) ∧ Ct g M_X3_seenAmongBoth [.ref o41, .int x2, .int x1, .int (nI x7)] h30 n31 (fun r h47 n48 => ∃ v54 : Nat, r = some (.int (nI v54)) ∧ Blk g M_X9_agree post 52 [(0, .ref x0), (1, .int x1), (2, .int x2), (3, .int x3), (4, .int (nI x4)), (5, .int (nI (x5 + v20))), (6, .int (nI (x6 + (v37 * v54)))), (7, .int (nI (x7 + 1)))] [] h47 n48 0 0))))))))))))) : Blk g M_X9_agree post 52 [(0, .ref x0), (1, .int x1), (2, .int x2), (3, .int x3), (4, .int (nI x4)), (5, .int (nI x5)), (6, .int (nI x6)), (7, .int (nI x7))] [] h nx 0 0 := by
  refine r_iload 7 dX9_agree_52 rfl ?_
  refine r_aload_n 0 dX9_agree_54 rfl rfl ?_
  obtain ⟨o2, o3, o4, o5, o6, o7, o8, o9, q1, V⟩ := V
  refine r_getf (ci := 10) (kf := 0) (T := TX9) rfl in_X9 (by decide) wF_X9_18 dX9_agree_55 q1 rfl ?_
  obtain ⟨c, V⟩ := V
  refine r_icmp_geN (tgt := 111) dX9_agree_58 (by decide) c (fun c => ?_) (fun c => ?_)
  · have V := V.1 c
    refine r_iload 4 dX9_agree_111 rfl ?_
    refine r_iload 4 dX9_agree_113 rfl ?_
    refine r_imulN dX9_agree_115 ?_
    refine r_iload 6 dX9_agree_116 rfl ?_
    obtain ⟨c, V⟩ := V
    refine r_isubN dX9_agree_118 c ?_
    refine r_istore (L' := [(7, .int (nI ((x4 * x4) - x6))), (0, .ref x0), (1, .int x1), (2, .int x2), (3, .int x3), (4, .int (nI x4)), (5, .int (nI x5)), (6, .int (nI x6))]) dX9_agree_119 (by decide) rfl ?_
    refine r_iload 0 dX9_agree_121 rfl ?_
    obtain ⟨c, V⟩ := V
    refine r_if_gtN (tgt := 130) dX9_agree_123 (by decide) c (fun c => ?_) (fun c => ?_)
    · have V := V.1 c
      refine r_iload 5 dX9_agree_130 rfl ?_
      refine r_iload 6 dX9_agree_132 rfl ?_
      refine r_imulN dX9_agree_134 ?_
      refine r_iload 7 dX9_agree_135 rfl ?_
      refine r_isub dX9_agree_137 ?_
      refine r_i2l dX9_agree_138 ?_
      refine r_iload 0 dX9_agree_139 rfl ?_
      obtain ⟨c, V⟩ := V
      refine r_i2lN dX9_agree_141 c ?_
      refine r_iload_n 4 dX9_agree_142 rfl rfl ?_
      refine r_callS (M2 := M_X9_smallPart) (n := 3) (As := [.long (((nI (x4 * x5)) - (nI x6)).toInt64), .long (lN ((x4 * x4) - x6)), .int x3]) (wl4 wM_X9_119 ws_X9_smallPart wI_StateShares wc_X9_smallPart) (by decide +kernel) (by decide) rfl rfl (Nat.le_of_ble_eq_true rfl) dX9_agree_143 (by decide) (by decide) (Ct.imp V (fun r h10 n11 V => ?_))
      obtain ⟨v12, rfl, V⟩ := V
      show Blk g M_X9_agree post 146 [(7, .int (nI ((x4 * x4) - x6))), (0, .ref x0), (1, .int x1), (2, .int x2), (3, .int x3), (4, .int (nI x4)), (5, .int (nI x5)), (6, .int (nI x6))] [.long v12] h10 n11 0 0
      exact r_lret dX9_agree_146 rfl (by decide) (by decide) V
    · have V := V.2 c
      refine r_lconst (v := (lN 0)) dX9_agree_126 rfl ?_
      refine r_goto (tgt := 146) dX9_agree_127 (by decide) ?_
      exact r_lret dX9_agree_146 rfl (by decide) (by decide) V
  · have V := V.2 c
    refine r_iload 5 dX9_agree_61 rfl ?_
    refine r_aload_n 0 dX9_agree_63 rfl rfl ?_
    refine r_getf (ci := 10) (kf := 2) (T := TX9) rfl in_X9 (by decide) wF_X9_34 dX9_agree_64 q1 rfl ?_
    refine r_iload_n 1 dX9_agree_67 rfl rfl ?_
    refine r_iload_n 2 dX9_agree_68 rfl rfl ?_
    refine r_iload 7 dX9_agree_69 rfl ?_
    obtain ⟨o16, o17, o18, o19, q15, V⟩ := V
    refine r_callV (M2 := M_X3_sameByBoth) (ci := 4) (n := 3) (As := [.int x1, .int x2, .int (nI x7)]) rfl (wl5 wM_X9_179 wi_X3_sameByBoth wS_X3_sameByBoth wI_StateShares_Marks wc_X3_sameByBoth) (by decide +kernel) (by decide) rfl rfl (Nat.le_of_ble_eq_true rfl) dX9_agree_71 q15 (by decide) (by decide) (Ct.imp V (fun r h13 n14 V => ?_))
    obtain ⟨v20, rfl, V⟩ := V
    show Blk g M_X9_agree post 74 [(0, .ref x0), (1, .int x1), (2, .int x2), (3, .int x3), (4, .int (nI x4)), (5, .int (nI x5)), (6, .int (nI x6)), (7, .int (nI x7))] [.int (nI v20), .int (nI x5)] h13 n14 0 0
    refine r_iaddN dX9_agree_74 ?_
    refine r_istore (L' := [(5, .int (nI (x5 + v20))), (0, .ref x0), (1, .int x1), (2, .int x2), (3, .int x3), (4, .int (nI x4)), (6, .int (nI x6)), (7, .int (nI x7))]) dX9_agree_75 (by decide) rfl ?_
    refine r_iload 6 dX9_agree_77 rfl ?_
    refine r_aload_n 1 dX9_agree_79 rfl rfl ?_
    obtain ⟨o22, o23, o24, o25, o26, o27, o28, o29, q21, V⟩ := V
    refine r_getf (ci := 10) (kf := 2) (T := TX9) rfl in_X9 (by decide) wF_X9_34 dX9_agree_80 q21 rfl ?_
    refine r_iload_n 2 dX9_agree_83 rfl rfl ?_
    refine r_iload_n 3 dX9_agree_84 rfl rfl ?_
    refine r_iload 7 dX9_agree_85 rfl ?_
    obtain ⟨o33, o34, o35, o36, q32, V⟩ := V
    refine r_callV (M2 := M_X3_seenAmongBoth) (ci := 4) (n := 3) (As := [.int x1, .int x2, .int (nI x7)]) rfl (wl5 wM_X9_183 wi_X3_seenAmongBoth wS_X3_seenAmongBoth wI_StateShares_Marks wc_X3_seenAmongBoth) (by decide +kernel) (by decide) rfl rfl (Nat.le_of_ble_eq_true rfl) dX9_agree_87 q32 (by decide) (by decide) (Ct.imp V (fun r h30 n31 V => ?_))
    obtain ⟨v37, rfl, V⟩ := V
    show Blk g M_X9_agree post 90 [(5, .int (nI (x5 + v20))), (0, .ref x0), (1, .int x1), (2, .int x2), (3, .int x3), (4, .int (nI x4)), (6, .int (nI x6)), (7, .int (nI x7))] [.int (nI v37), .int (nI x6)] h30 n31 0 0
    refine r_aload_n 1 dX9_agree_90 rfl rfl ?_
    obtain ⟨o39, o40, o41, o42, o43, o44, o45, o46, q38, V⟩ := V
    refine r_getf (ci := 10) (kf := 2) (T := TX9) rfl in_X9 (by decide) wF_X9_34 dX9_agree_91 q38 rfl ?_
    refine r_iload_n 3 dX9_agree_94 rfl rfl ?_
    refine r_iload_n 2 dX9_agree_95 rfl rfl ?_
    refine r_iload 7 dX9_agree_96 rfl ?_
    obtain ⟨o50, o51, o52, o53, q49, V⟩ := V
    refine r_callV (M2 := M_X3_seenAmongBoth) (ci := 4) (n := 3) (As := [.int x2, .int x1, .int (nI x7)]) rfl (wl5 wM_X9_183 wi_X3_seenAmongBoth wS_X3_seenAmongBoth wI_StateShares_Marks wc_X3_seenAmongBoth) (by decide +kernel) (by decide) rfl rfl (Nat.le_of_ble_eq_true rfl) dX9_agree_98 q49 (by decide) (by decide) (Ct.imp V (fun r h47 n48 V => ?_))
    obtain ⟨v54, rfl, V⟩ := V
    show Blk g M_X9_agree post 101 [(5, .int (nI (x5 + v20))), (0, .ref x0), (1, .int x1), (2, .int x2), (3, .int x3), (4, .int (nI x4)), (6, .int (nI x6)), (7, .int (nI x7))] [.int (nI v54), .int (nI v37), .int (nI x6)] h47 n48 0 0
    refine r_imulN dX9_agree_101 ?_
    refine r_iaddN dX9_agree_102 ?_
    refine r_istore (L' := [(6, .int (nI (x6 + (v37 * v54)))), (5, .int (nI (x5 + v20))), (0, .ref x0), (1, .int x1), (2, .int x2), (3, .int x3), (4, .int (nI x4)), (7, .int (nI x7))]) dX9_agree_103 (by decide) rfl ?_
    refine r_iincN 7 (b := 1) (L' := [(7, .int (nI (x7 + 1))), (6, .int (nI (x6 + (v37 * v54)))), (5, .int (nI (x5 + v20))), (0, .ref x0), (1, .int x1), (2, .int x2), (3, .int x3), (4, .int (nI x4))]) dX9_agree_105 rfl rfl (by decide) rfl ?_
    refine r_goto (tgt := 52) dX9_agree_108 (by decide) ?_
    exact Blk.sub [3, 4, 5, 6, 7, 2, 1, 0] rfl V
set_option maxRecDepth 20000 in
theorem v_X9_joined_0 {g : xG} {post : xPost} {h : xHp} {nx : Nat} {x0 : Nat} {x1 : Int32} {x2 : Int32} (V : (∃ (o4 : Nat) (o5 : Nat) (o6 : Nat) (o7 : Nat) (o8 : Nat) (o9 : Nat) (o10 : Nat) (o11 : Nat), h x0 = some (xo 10 [.int (nI o4), .ref o5, .ref o6, .ref o7, .ref o8, .ref o9, .ref o10, .int (nI o11)]) ∧ Ct g M_X9_isState [.ref x0, .int x1] h nx (fun r h1 n2 => ∃ v12 : Nat, r = some (.int (nI v12)) ∧ (v12 < 2 ^ 31 ∧ ((v12 = 0 → (post (some (.int (-1))) h1 n2)) ∧ (¬ v12 = 0 → (∃ (o16 : Nat) (o17 : Nat) (o18 : Nat) (o19 : Nat) (o20 : Nat) (o21 : Nat) (o22 : Nat) (o23 : Nat), h1 x0 = some (xo 10 [.int (nI o16), .ref o17, .ref o18, .ref o19, .ref o20, .ref o21, .ref o22, .int (nI o23)]) ∧ Ct g M_X9_isState [.ref x0, .int x2] h1 n2 (fun r h13 n14 => ∃ v24 : Nat, r = some (.int (nI v24)) ∧ (v24 < 2 ^ 31 ∧ ((¬ v24 = 0 → (∃ (o28 : Nat) (o29 : Nat) (o30 : Nat) (o31 : Nat) (o32 : Nat) (o33 : Nat) (o34 : Nat) (o35 : Nat), h13 x0 = some (xo 10 [.int (nI o28), .ref o29, .ref o30, .ref o31, .ref o32, .ref o33, .ref o34, .int (nI o35)]) ∧ Ct g M_X9_renewMoves [.ref x0] h13 n14 (fun r h25 n26 => r = none ∧ (∃ (o37 : Nat) (o38 : Nat) (o39 : Nat) (o40 : Nat) (o41 : Nat) (o42 : Nat) (o43 : Nat) (o44 : Nat), h25 x0 = some (xo 10 [.int (nI o37), .ref o38, .ref o39, .ref o40, .ref o41, .ref o42, .ref o43, .int (nI o44)]) ∧ (∃ (o48 : Nat) (o49 : Nat) (o50 : Nat) (o51 : Nat) (o52 : Nat) (o53 : Nat) (o54 : Nat) (o55 : Nat), h25 o40 = some (xo 5 [.int (nI o48), .ref o49, .ref o50, .ref o51, .ref o52, .ref o53, .int (nI o54), .int (nI o55)]) ∧ Ct g M_X4_inOneGroup [.ref o40, .int x1, .int x2] h25 n26 (fun r h45 n46 => ∃ v56 : Nat, r = some (.int (nI v56)) ∧ (v56 < 2 ^ 31 ∧ ((v56 = 0 → (post (some (.int (nI 0))) h45 n46)) ∧ (¬ v56 = 0 → (post (some (.int (nI 1))) h45 n46)))))))))) ∧ (v24 = 0 → (post (some (.int (-1))) h13 n14)))))))))))) : Blk g M_X9_joined post 0 [(0, .ref x0), (1, .int x1), (2, .int x2)] [] h nx 0 0 := by
  refine r_aload_n 0 dX9_joined_0 rfl rfl ?_
  refine r_iload_n 1 dX9_joined_1 rfl rfl ?_
  obtain ⟨o4, o5, o6, o7, o8, o9, o10, o11, q3, V⟩ := V
  refine r_callV (M2 := M_X9_isState) (ci := 10) (n := 1) (As := [.int x1]) rfl (wl5 wM_X9_132 wi_X9_isState wS_X9_isState wI_StateShares wc_X9_isState) (by decide +kernel) (by decide) rfl rfl (Nat.le_of_ble_eq_true rfl) dX9_joined_2 q3 (by decide) (by decide) (Ct.imp V (fun r h1 n2 V => ?_))
  obtain ⟨v12, rfl, V⟩ := V
  show Blk g M_X9_joined post 5 [(0, .ref x0), (1, .int x1), (2, .int x2)] [.int (nI v12)] h1 n2 0 0
  obtain ⟨c, V⟩ := V
  refine r_if_eqN (tgt := 16) dX9_joined_5 (by decide) c (fun c => ?_) (fun c => ?_)
  · have V := V.1 c
    refine r_iconst (v := (-1)) dX9_joined_16 rfl ?_
    exact r_iret dX9_joined_17 rfl (by decide) (by decide) V
  · have V := V.2 c
    refine r_aload_n 0 dX9_joined_8 rfl rfl ?_
    refine r_iload_n 2 dX9_joined_9 rfl rfl ?_
    obtain ⟨o16, o17, o18, o19, o20, o21, o22, o23, q15, V⟩ := V
    refine r_callV (M2 := M_X9_isState) (ci := 10) (n := 1) (As := [.int x2]) rfl (wl5 wM_X9_132 wi_X9_isState wS_X9_isState wI_StateShares wc_X9_isState) (by decide +kernel) (by decide) rfl rfl (Nat.le_of_ble_eq_true rfl) dX9_joined_10 q15 (by decide) (by decide) (Ct.imp V (fun r h13 n14 V => ?_))
    obtain ⟨v24, rfl, V⟩ := V
    show Blk g M_X9_joined post 13 [(0, .ref x0), (1, .int x1), (2, .int x2)] [.int (nI v24)] h13 n14 0 0
    obtain ⟨c, V⟩ := V
    refine r_if_neN (tgt := 18) dX9_joined_13 (by decide) c (fun c => ?_) (fun c => ?_)
    · have V := V.1 c
      refine r_aload_n 0 dX9_joined_18 rfl rfl ?_
      obtain ⟨o28, o29, o30, o31, o32, o33, o34, o35, q27, V⟩ := V
      refine r_callV (M2 := M_X9_renewMoves) (ci := 10) (n := 0) (As := []) rfl (wl5 wM_X9_103 wi_X9_renewMoves wS_X9_renewMoves wI_StateShares wc_X9_renewMoves) (by decide +kernel) (by decide) rfl rfl (Nat.le_of_ble_eq_true rfl) dX9_joined_19 q27 (by decide) (by decide) (Ct.imp V (fun r h25 n26 V => ?_))
      obtain ⟨rfl, V⟩ := V
      show Blk g M_X9_joined post 22 [(0, .ref x0), (1, .int x1), (2, .int x2)] [] h25 n26 0 0
      refine r_aload_n 0 dX9_joined_22 rfl rfl ?_
      obtain ⟨o37, o38, o39, o40, o41, o42, o43, o44, q36, V⟩ := V
      refine r_getf (ci := 10) (kf := 3) (T := TX9) rfl in_X9 (by decide) wF_X9_41 dX9_joined_23 q36 rfl ?_
      refine r_iload_n 1 dX9_joined_26 rfl rfl ?_
      refine r_iload_n 2 dX9_joined_27 rfl rfl ?_
      obtain ⟨o48, o49, o50, o51, o52, o53, o54, o55, q47, V⟩ := V
      refine r_callV (M2 := M_X4_inOneGroup) (ci := 5) (n := 2) (As := [.int x1, .int x2]) rfl (wl5 wM_X9_186 wi_X4_inOneGroup wS_X4_inOneGroup wI_StateShares_Moves wc_X4_inOneGroup) (by decide +kernel) (by decide) rfl rfl (Nat.le_of_ble_eq_true rfl) dX9_joined_28 q47 (by decide) (by decide) (Ct.imp V (fun r h45 n46 V => ?_))
      obtain ⟨v56, rfl, V⟩ := V
      show Blk g M_X9_joined post 31 [(0, .ref x0), (1, .int x1), (2, .int x2)] [.int (nI v56)] h45 n46 0 0
      obtain ⟨c, V⟩ := V
      refine r_if_eqN (tgt := 38) dX9_joined_31 (by decide) c (fun c => ?_) (fun c => ?_)
      · have V := V.1 c
        refine r_iconst (v := (nI 0)) dX9_joined_38 rfl ?_
        exact r_iret dX9_joined_39 rfl (by decide) (by decide) V
      · have V := V.2 c
        refine r_iconst (v := (nI 1)) dX9_joined_34 rfl ?_
        refine r_goto (tgt := 39) dX9_joined_35 (by decide) ?_
        exact r_iret dX9_joined_39 rfl (by decide) (by decide) V
    · have V := V.2 c
      refine r_iconst (v := (-1)) dX9_joined_16 rfl ?_
      exact r_iret dX9_joined_17 rfl (by decide) (by decide) V
set_option maxRecDepth 20000 in
theorem v_X9_target_0 {g : xG} {post : xPost} {h : xHp} {nx : Nat} {x0 : Nat} {x1 : Int32} {x2 : Int64} {x4 : Int64} (V : (∃ (o4 : Nat) (o5 : Nat) (o6 : Nat) (o7 : Nat) (o8 : Nat) (o9 : Nat) (o10 : Nat) (o11 : Nat), h x0 = some (xo 10 [.int (nI o4), .ref o5, .ref o6, .ref o7, .ref o8, .ref o9, .ref o10, .int (nI o11)]) ∧ Ct g M_X9_isState [.ref x0, .int x1] h nx (fun r h1 n2 => ∃ v12 : Nat, r = some (.int (nI v12)) ∧ (v12 < 2 ^ 31 ∧ ((v12 = 0 → (post (some (.int (-1))) h1 n2)) ∧ (¬ v12 = 0 → (Ct g M_X9_isFraction [.long x2, .long x4] h1 n2 (fun r h13 n14 => ∃ v15 : Nat, r = some (.int (nI v15)) ∧ (v15 < 2 ^ 31 ∧ ((¬ v15 = 0 → Blk g M_X9_target post 22 [(0, .ref x0), (1, .int x1), (2, .long x2), (4, .long x4), (6, .int (nI 0))] [] h13 n14 0 0) ∧ (v15 = 0 → (post (some (.int (-1))) h13 n14)))))))))))) : Blk g M_X9_target post 0 [(0, .ref x0), (1, .int x1), (2, .long x2), (4, .long x4)] [] h nx 0 0 := by
  refine r_aload_n 0 dX9_target_0 rfl rfl ?_
  refine r_iload_n 1 dX9_target_1 rfl rfl ?_
  obtain ⟨o4, o5, o6, o7, o8, o9, o10, o11, q3, V⟩ := V
  refine r_callV (M2 := M_X9_isState) (ci := 10) (n := 1) (As := [.int x1]) rfl (wl5 wM_X9_132 wi_X9_isState wS_X9_isState wI_StateShares wc_X9_isState) (by decide +kernel) (by decide) rfl rfl (Nat.le_of_ble_eq_true rfl) dX9_target_2 q3 (by decide) (by decide) (Ct.imp V (fun r h1 n2 V => ?_))
  obtain ⟨v12, rfl, V⟩ := V
  show Blk g M_X9_target post 5 [(0, .ref x0), (1, .int x1), (2, .long x2), (4, .long x4)] [.int (nI v12)] h1 n2 0 0
  obtain ⟨c, V⟩ := V
  refine r_if_eqN (tgt := 17) dX9_target_5 (by decide) c (fun c => ?_) (fun c => ?_)
  · have V := V.1 c
    refine r_iconst (v := (-1)) dX9_target_17 rfl ?_
    exact r_iret dX9_target_18 rfl (by decide) (by decide) V
  · have V := V.2 c
    refine r_lload_n 2 dX9_target_8 rfl rfl ?_
    refine r_lload 3 dX9_target_9 rfl ?_
    refine r_callS (M2 := M_X9_isFraction) (n := 2) (As := [.long x2, .long x4]) (wl4 wM_X9_135 ws_X9_isFraction wI_StateShares wc_X9_isFraction) (by decide +kernel) (by decide) rfl rfl (Nat.le_of_ble_eq_true rfl) dX9_target_11 (by decide) (by decide) (Ct.imp V (fun r h13 n14 V => ?_))
    obtain ⟨v15, rfl, V⟩ := V
    show Blk g M_X9_target post 14 [(0, .ref x0), (1, .int x1), (2, .long x2), (4, .long x4)] [.int (nI v15)] h13 n14 0 0
    obtain ⟨c, V⟩ := V
    refine r_if_neN (tgt := 19) dX9_target_14 (by decide) c (fun c => ?_) (fun c => ?_)
    · have V := V.1 c
      refine r_iconst (v := (nI 0)) dX9_target_19 rfl ?_
      refine r_istore (L' := [(6, .int (nI 0)), (0, .ref x0), (1, .int x1), (2, .long x2), (4, .long x4)]) dX9_target_20 (by decide) rfl ?_
      exact Blk.sub [1, 2, 3, 4, 0] rfl V
    · have V := V.2 c
      refine r_iconst (v := (-1)) dX9_target_17 rfl ?_
      exact r_iret dX9_target_18 rfl (by decide) (by decide) V
set_option maxRecDepth 20000 in
theorem v_X9_target_22 {g : xG} {post : xPost} {h : xHp} {nx : Nat} {x0 : Nat} {x1 : Int32} {x2 : Int64} {x4 : Int64} {x6 : Nat} (V : ((x6 < 2 ^ 31 ∧ 12 < 2 ^ 31) ∧ ((12 ≤ x6 → (post (some (.int (-1))) h nx)) ∧ (x6 < 12 → (∃ (o4 : Nat) (o5 : Nat) (o6 : Nat) (o7 : Nat) (o8 : Nat) (o9 : Nat) (o10 : Nat) (o11 : Nat), h x0 = some (xo 10 [.int (nI o4), .ref o5, .ref o6, .ref o7, .ref o8, .ref o9, .ref o10, .int (nI o11)]) ∧ Ct g M_X9_foretold [.ref x0, .int (nI x6)] h nx (fun r h1 n2 => ∃ v12 : Nat, r = some (.int (nI v12)) ∧ (v12 < 2 ^ 31 ∧ ((v12 = 0 → (post (some (.int (-1))) h1 n2)) ∧ (¬ v12 = 0 → (∃ (o14 : Nat) (o15 : Nat) (o16 : Nat) (o17 : Nat) (o18 : Nat) (o19 : Nat) (o20 : Nat) (o21 : Nat), h1 x0 = some (xo 10 [.int (nI o14), .ref o15, .ref o16, .ref o17, .ref o18, .ref o19, .ref o20, .int (nI o21)]) ∧ (∃ (o25 : Nat) (o26 : Nat) (o27 : Nat) (o28 : Nat) (o29 : Nat) (o30 : Nat) (o31 : Nat) (o32 : Nat) (o33 : Nat) (o34 : Nat) (o35 : Nat) (o36 : Nat) (o37 : Nat) (o38 : Nat) (o39 : Nat) (o40 : Nat) (o41 : Int32) (o42 : Int32), h1 o20 = some (xo 2 [.int (nI o25), .ref o26, .ref o27, .ref o28, .ref o29, .ref o30, .ref o31, .ref o32, .ref o33, .ref o34, .ref o35, .ref o36, .ref o37, .int (nI o38), .int (nI o39), .int (nI o40), .int o41, .int o42]) ∧ Ct g M_X1_reaches [.ref o20, .int (nI x6), .int x1, .int (x2.toInt32), .int (x4.toInt32)] h1 n2 (fun r h22 n23 => ∃ v43 : Nat, r = some (.int (nI v43)) ∧ (v43 < 2 ^ 31 ∧ ((v43 = 0 → Blk g M_X9_target post 22 [(0, .ref x0), (1, .int x1), (2, .long x2), (4, .long x4), (6, .int (nI (x6 + 1)))] [] h22 n23 0 0) ∧ (¬ v43 = 0 → (post (some (.int (nI x6))) h22 n23)))))))))))))))) : Blk g M_X9_target post 22 [(0, .ref x0), (1, .int x1), (2, .long x2), (4, .long x4), (6, .int (nI x6))] [] h nx 0 0 := by
  refine r_iload 4 dX9_target_22 rfl ?_
  refine r_bipush (v := (nI 12)) dX9_target_24 rfl ?_
  obtain ⟨c, V⟩ := V
  refine r_icmp_geN (tgt := 65) dX9_target_26 (by decide) c (fun c => ?_) (fun c => ?_)
  · have V := V.1 c
    refine r_iconst (v := (-1)) dX9_target_65 rfl ?_
    exact r_iret dX9_target_66 rfl (by decide) (by decide) V
  · have V := V.2 c
    refine r_aload_n 0 dX9_target_29 rfl rfl ?_
    refine r_iload 4 dX9_target_30 rfl ?_
    obtain ⟨o4, o5, o6, o7, o8, o9, o10, o11, q3, V⟩ := V
    refine r_callV (M2 := M_X9_foretold) (ci := 10) (n := 1) (As := [.int (nI x6)]) rfl (wl5 wM_X9_123 wi_X9_foretold wS_X9_foretold wI_StateShares wc_X9_foretold) (by decide +kernel) (by decide) rfl rfl (Nat.le_of_ble_eq_true rfl) dX9_target_32 q3 (by decide) (by decide) (Ct.imp V (fun r h1 n2 V => ?_))
    obtain ⟨v12, rfl, V⟩ := V
    show Blk g M_X9_target post 35 [(0, .ref x0), (1, .int x1), (2, .long x2), (4, .long x4), (6, .int (nI x6))] [.int (nI v12)] h1 n2 0 0
    obtain ⟨c, V⟩ := V
    refine r_if_eqN (tgt := 65) dX9_target_35 (by decide) c (fun c => ?_) (fun c => ?_)
    · have V := V.1 c
      refine r_iconst (v := (-1)) dX9_target_65 rfl ?_
      exact r_iret dX9_target_66 rfl (by decide) (by decide) V
    · have V := V.2 c
      refine r_aload_n 0 dX9_target_38 rfl rfl ?_
      obtain ⟨o14, o15, o16, o17, o18, o19, o20, o21, q13, V⟩ := V
      refine r_getf (ci := 10) (kf := 6) (T := TX9) rfl in_X9 (by decide) wF_X9_60 dX9_target_39 q13 rfl ?_
      refine r_iload 4 dX9_target_42 rfl ?_
      refine r_iload_n 1 dX9_target_44 rfl rfl ?_
      refine r_lload_n 2 dX9_target_45 rfl rfl ?_
      refine r_l2i dX9_target_46 ?_
      refine r_lload 3 dX9_target_47 rfl ?_
      refine r_l2i dX9_target_49 ?_
      obtain ⟨o25, o26, o27, o28, o29, o30, o31, o32, o33, o34, o35, o36, o37, o38, o39, o40, o41, o42, q24, V⟩ := V
      refine r_callV (M2 := M_X1_reaches) (ci := 2) (n := 4) (As := [.int (nI x6), .int x1, .int (x2.toInt32), .int (x4.toInt32)]) rfl (wl5 wM_X9_190 wi_X1_reaches wS_X1_reaches wI_StateShares_Forecast wc_X1_reaches) (by decide +kernel) (by decide) rfl rfl (Nat.le_of_ble_eq_true rfl) dX9_target_50 q24 (by decide) (by decide) (Ct.imp V (fun r h22 n23 V => ?_))
      obtain ⟨v43, rfl, V⟩ := V
      show Blk g M_X9_target post 53 [(0, .ref x0), (1, .int x1), (2, .long x2), (4, .long x4), (6, .int (nI x6))] [.int (nI v43)] h22 n23 0 0
      obtain ⟨c, V⟩ := V
      refine r_if_eqN (tgt := 59) dX9_target_53 (by decide) c (fun c => ?_) (fun c => ?_)
      · have V := V.1 c
        refine r_iincN 4 (b := 1) (L' := [(6, .int (nI (x6 + 1))), (0, .ref x0), (1, .int x1), (2, .long x2), (4, .long x4)]) dX9_target_59 rfl rfl (by decide) rfl ?_
        refine r_goto (tgt := 22) dX9_target_62 (by decide) ?_
        exact Blk.sub [1, 2, 3, 4, 0] rfl V
      · have V := V.2 c
        refine r_iload 4 dX9_target_56 rfl ?_
        exact r_iret dX9_target_58 rfl (by decide) (by decide) V
set_option maxRecDepth 20000 in
theorem v_X9_missing_0 {g : xG} {post : xPost} {h : xHp} {nx : Nat} {x0 : Nat} {x1 : Int32} (V : (∃ (o2 : Nat) (o3 : Nat) (o4 : Nat) (o5 : Nat) (o6 : Nat) (o7 : Nat) (o8 : Nat) (o9 : Nat), h x0 = some (xo 10 [.int (nI o2), .ref o3, .ref o4, .ref o5, .ref o6, .ref o7, .ref o8, .int (nI o9)]) ∧ (∃ (o13 : Nat) (o14 : Nat) (o15 : Nat) (o16 : Nat), h o4 = some (xo 4 [.ref o13, .ref o14, .ref o15, .ref o16]) ∧ Ct g M_X3_gap [.ref o4, .int x1] h nx (fun r h10 n11 => ∃ v17 : Int32, r = some (.int v17) ∧ (post (some (.int v17)) h10 n11))))) : Blk g M_X9_missing post 0 [(0, .ref x0), (1, .int x1)] [] h nx 0 0 := by
  refine r_aload_n 0 dX9_missing_0 rfl rfl ?_
  obtain ⟨o2, o3, o4, o5, o6, o7, o8, o9, q1, V⟩ := V
  refine r_getf (ci := 10) (kf := 2) (T := TX9) rfl in_X9 (by decide) wF_X9_34 dX9_missing_1 q1 rfl ?_
  refine r_iload_n 1 dX9_missing_4 rfl rfl ?_
  obtain ⟨o13, o14, o15, o16, q12, V⟩ := V
  refine r_callV (M2 := M_X3_gap) (ci := 4) (n := 1) (As := [.int x1]) rfl (wl5 wM_X9_194 wi_X3_gap wS_X3_gap wI_StateShares_Marks wc_X3_gap) (by decide +kernel) (by decide) rfl rfl (Nat.le_of_ble_eq_true rfl) dX9_missing_5 q12 (by decide) (by decide) (Ct.imp V (fun r h10 n11 V => ?_))
  obtain ⟨v17, rfl, V⟩ := V
  show Blk g M_X9_missing post 8 [(0, .ref x0), (1, .int x1)] [.int v17] h10 n11 0 0
  exact r_iret dX9_missing_8 rfl (by decide) (by decide) V
set_option maxRecDepth 20000 in
theorem v_X9_kind_0 {g : xG} {post : xPost} {h : xHp} {nx : Nat} {x0 : Nat} {x1 : Int32} {x2 : Int32} (V : (Ct g M_X9_isThing [.int x1] h nx (fun r h1 n2 => ∃ v3 : Nat, r = some (.int (nI v3)) ∧ (v3 < 2 ^ 31 ∧ ((v3 = 0 → (post (some (.int (nI 0))) h1 n2)) ∧ (¬ v3 = 0 → ((x2 < 0 → (post (some (.int (nI 0))) h1 n2)) ∧ (¬ x2 < 0 → ((x2 < (nI 4) → (∃ (o5 : Nat) (o6 : Nat) (o7 : Nat) (o8 : Nat) (o9 : Nat) (o10 : Nat) (o11 : Nat) (o12 : Nat), h1 x0 = some (xo 10 [.int (nI o5), .ref o6, .ref o7, .ref o8, .ref o9, .ref o10, .ref o11, .int (nI o12)]) ∧ (∃ (o16 : Nat) (o17 : Nat) (o18 : Nat) (o19 : Nat), h1 o7 = some (xo 4 [.ref o16, .ref o17, .ref o18, .ref o19]) ∧ Ct g M_X3_setKind [.ref o7, .int x1, .int x2] h1 n2 (fun r h13 n14 => r = none ∧ (post (some (.int (nI 1))) h13 n14))))) ∧ (¬ x2 < (nI 4) → (post (some (.int (nI 0))) h1 n2))))))))))) : Blk g M_X9_kind post 0 [(0, .ref x0), (1, .int x1), (2, .int x2)] [] h nx 0 0 := by
  refine r_iload_n 1 dX9_kind_0 rfl rfl ?_
  refine r_callS (M2 := M_X9_isThing) (n := 1) (As := [.int x1]) (wl4 wM_X9_68 ws_X9_isThing wI_StateShares wc_X9_isThing) (by decide +kernel) (by decide) rfl rfl (Nat.le_of_ble_eq_true rfl) dX9_kind_1 (by decide) (by decide) (Ct.imp V (fun r h1 n2 V => ?_))
  obtain ⟨v3, rfl, V⟩ := V
  show Blk g M_X9_kind post 4 [(0, .ref x0), (1, .int x1), (2, .int x2)] [.int (nI v3)] h1 n2 0 0
  obtain ⟨c, V⟩ := V
  refine r_if_eqN (tgt := 16) dX9_kind_4 (by decide) c (fun c => ?_) (fun c => ?_)
  · have V := V.1 c
    refine r_iconst (v := (nI 0)) dX9_kind_16 rfl ?_
    exact r_zret (ty := .boolean) dX9_kind_17 rfl rfl (by decide) (by decide) V
  · have V := V.2 c
    refine r_iload_n 2 dX9_kind_7 rfl rfl ?_
    refine r_if_lt (tgt := 16) dX9_kind_8 (by decide) (fun c => ?_) (fun c => ?_)
    · have V := V.1 c
      refine r_iconst (v := (nI 0)) dX9_kind_16 rfl ?_
      exact r_zret (ty := .boolean) dX9_kind_17 rfl rfl (by decide) (by decide) V
    · have V := V.2 c
      refine r_iload_n 2 dX9_kind_11 rfl rfl ?_
      refine r_iconst (v := (nI 4)) dX9_kind_12 rfl ?_
      refine r_icmp_lt (tgt := 18) dX9_kind_13 (by decide) (fun c => ?_) (fun c => ?_)
      · have V := V.1 c
        refine r_aload_n 0 dX9_kind_18 rfl rfl ?_
        obtain ⟨o5, o6, o7, o8, o9, o10, o11, o12, q4, V⟩ := V
        refine r_getf (ci := 10) (kf := 2) (T := TX9) rfl in_X9 (by decide) wF_X9_34 dX9_kind_19 q4 rfl ?_
        refine r_iload_n 1 dX9_kind_22 rfl rfl ?_
        refine r_iload_n 2 dX9_kind_23 rfl rfl ?_
        obtain ⟨o16, o17, o18, o19, q15, V⟩ := V
        refine r_callV (M2 := M_X3_setKind) (ci := 4) (n := 2) (As := [.int x1, .int x2]) rfl (wl5 wM_X9_197 wi_X3_setKind wS_X3_setKind wI_StateShares_Marks wc_X3_setKind) (by decide +kernel) (by decide) rfl rfl (Nat.le_of_ble_eq_true rfl) dX9_kind_24 q15 (by decide) (by decide) (Ct.imp V (fun r h13 n14 V => ?_))
        obtain ⟨rfl, V⟩ := V
        show Blk g M_X9_kind post 27 [(0, .ref x0), (1, .int x1), (2, .int x2)] [] h13 n14 0 0
        refine r_iconst (v := (nI 1)) dX9_kind_27 rfl ?_
        exact r_zret (ty := .boolean) dX9_kind_28 rfl rfl (by decide) (by decide) V
      · have V := V.2 c
        refine r_iconst (v := (nI 0)) dX9_kind_16 rfl ?_
        exact r_zret (ty := .boolean) dX9_kind_17 rfl rfl (by decide) (by decide) V
set_option maxRecDepth 20000 in
theorem v_X9_isState_0 {g : xG} {post : xPost} {h : xHp} {nx : Nat} {x0 : Nat} {x1 : Int32} (V : ((x1 < 0 → (post (some (.int (nI 0))) h nx)) ∧ (¬ x1 < 0 → (∃ (o2 : Nat) (o3 : Nat) (o4 : Nat) (o5 : Nat) (o6 : Nat) (o7 : Nat) (o8 : Nat) (o9 : Nat), h x0 = some (xo 10 [.int (nI o2), .ref o3, .ref o4, .ref o5, .ref o6, .ref o7, .ref o8, .int (nI o9)]) ∧ (((nI o2) ≤ x1 → (post (some (.int (nI 0))) h nx)) ∧ (¬ (nI o2) ≤ x1 → (post (some (.int (nI 1))) h nx))))))) : Blk g M_X9_isState post 0 [(0, .ref x0), (1, .int x1)] [] h nx 0 0 := by
  refine r_iload_n 1 dX9_isState_0 rfl rfl ?_
  refine r_if_lt (tgt := 16) dX9_isState_1 (by decide) (fun c => ?_) (fun c => ?_)
  · have V := V.1 c
    refine r_iconst (v := (nI 0)) dX9_isState_16 rfl ?_
    exact r_zret (ty := .boolean) dX9_isState_17 rfl rfl (by decide) (by decide) V
  · have V := V.2 c
    refine r_iload_n 1 dX9_isState_4 rfl rfl ?_
    refine r_aload_n 0 dX9_isState_5 rfl rfl ?_
    obtain ⟨o2, o3, o4, o5, o6, o7, o8, o9, q1, V⟩ := V
    refine r_getf (ci := 10) (kf := 0) (T := TX9) rfl in_X9 (by decide) wF_X9_18 dX9_isState_6 q1 rfl ?_
    refine r_icmp_ge (tgt := 16) dX9_isState_9 (by decide) (fun c => ?_) (fun c => ?_)
    · have V := V.1 c
      refine r_iconst (v := (nI 0)) dX9_isState_16 rfl ?_
      exact r_zret (ty := .boolean) dX9_isState_17 rfl rfl (by decide) (by decide) V
    · have V := V.2 c
      refine r_iconst (v := (nI 1)) dX9_isState_12 rfl ?_
      refine r_goto (tgt := 17) dX9_isState_13 (by decide) ?_
      exact r_zret (ty := .boolean) dX9_isState_17 rfl rfl (by decide) (by decide) V
set_option maxRecDepth 20000 in
theorem v_X9_isThing_0 {g : xG} {post : xPost} {h : xHp} {nx : Nat} {x0 : Int32} (V : ((x0 < 0 → (post (some (.int (nI 0))) h nx)) ∧ (¬ x0 < 0 → (((nI 10) ≤ x0 → (post (some (.int (nI 0))) h nx)) ∧ (¬ (nI 10) ≤ x0 → (post (some (.int (nI 1))) h nx)))))) : Blk g M_X9_isThing post 0 [(0, .int x0)] [] h nx 0 0 := by
  refine r_iload_n 0 dX9_isThing_0 rfl rfl ?_
  refine r_if_lt (tgt := 14) dX9_isThing_1 (by decide) (fun c => ?_) (fun c => ?_)
  · have V := V.1 c
    refine r_iconst (v := (nI 0)) dX9_isThing_14 rfl ?_
    exact r_zret (ty := .boolean) dX9_isThing_15 rfl rfl (by decide) (by decide) V
  · have V := V.2 c
    refine r_iload_n 0 dX9_isThing_4 rfl rfl ?_
    refine r_bipush (v := (nI 10)) dX9_isThing_5 rfl ?_
    refine r_icmp_ge (tgt := 14) dX9_isThing_7 (by decide) (fun c => ?_) (fun c => ?_)
    · have V := V.1 c
      refine r_iconst (v := (nI 0)) dX9_isThing_14 rfl ?_
      exact r_zret (ty := .boolean) dX9_isThing_15 rfl rfl (by decide) (by decide) V
    · have V := V.2 c
      refine r_iconst (v := (nI 1)) dX9_isThing_10 rfl ?_
      refine r_goto (tgt := 15) dX9_isThing_11 (by decide) ?_
      exact r_zret (ty := .boolean) dX9_isThing_15 rfl rfl (by decide) (by decide) V
set_option maxRecDepth 20000 in
theorem v_X9_isYear_0 {g : xG} {post : xPost} {h : xHp} {nx : Nat} {x0 : Int32} (V : ((x0 < 0 → (post (some (.int (nI 0))) h nx)) ∧ (¬ x0 < 0 → (((nI 12) ≤ x0 → (post (some (.int (nI 0))) h nx)) ∧ (¬ (nI 12) ≤ x0 → (post (some (.int (nI 1))) h nx)))))) : Blk g M_X9_isYear post 0 [(0, .int x0)] [] h nx 0 0 := by
  refine r_iload_n 0 dX9_isYear_0 rfl rfl ?_
  refine r_if_lt (tgt := 14) dX9_isYear_1 (by decide) (fun c => ?_) (fun c => ?_)
  · have V := V.1 c
    refine r_iconst (v := (nI 0)) dX9_isYear_14 rfl ?_
    exact r_zret (ty := .boolean) dX9_isYear_15 rfl rfl (by decide) (by decide) V
  · have V := V.2 c
    refine r_iload_n 0 dX9_isYear_4 rfl rfl ?_
    refine r_bipush (v := (nI 12)) dX9_isYear_5 rfl ?_
    refine r_icmp_ge (tgt := 14) dX9_isYear_7 (by decide) (fun c => ?_) (fun c => ?_)
    · have V := V.1 c
      refine r_iconst (v := (nI 0)) dX9_isYear_14 rfl ?_
      exact r_zret (ty := .boolean) dX9_isYear_15 rfl rfl (by decide) (by decide) V
    · have V := V.2 c
      refine r_iconst (v := (nI 1)) dX9_isYear_10 rfl ?_
      refine r_goto (tgt := 15) dX9_isYear_11 (by decide) ?_
      exact r_zret (ty := .boolean) dX9_isYear_15 rfl rfl (by decide) (by decide) V
set_option maxRecDepth 20000 in
theorem v_X9_isPerson_0 {g : xG} {post : xPost} {h : xHp} {nx : Nat} {x0 : Int32} (V : ((x0 < 0 → (post (some (.int (nI 0))) h nx)) ∧ (¬ x0 < 0 → (((nI 4) ≤ x0 → (post (some (.int (nI 0))) h nx)) ∧ (¬ (nI 4) ≤ x0 → (post (some (.int (nI 1))) h nx)))))) : Blk g M_X9_isPerson post 0 [(0, .int x0)] [] h nx 0 0 := by
  refine r_iload_n 0 dX9_isPerson_0 rfl rfl ?_
  refine r_if_lt (tgt := 13) dX9_isPerson_1 (by decide) (fun c => ?_) (fun c => ?_)
  · have V := V.1 c
    refine r_iconst (v := (nI 0)) dX9_isPerson_13 rfl ?_
    exact r_zret (ty := .boolean) dX9_isPerson_14 rfl rfl (by decide) (by decide) V
  · have V := V.2 c
    refine r_iload_n 0 dX9_isPerson_4 rfl rfl ?_
    refine r_iconst (v := (nI 4)) dX9_isPerson_5 rfl ?_
    refine r_icmp_ge (tgt := 13) dX9_isPerson_6 (by decide) (fun c => ?_) (fun c => ?_)
    · have V := V.1 c
      refine r_iconst (v := (nI 0)) dX9_isPerson_13 rfl ?_
      exact r_zret (ty := .boolean) dX9_isPerson_14 rfl rfl (by decide) (by decide) V
    · have V := V.2 c
      refine r_iconst (v := (nI 1)) dX9_isPerson_9 rfl ?_
      refine r_goto (tgt := 14) dX9_isPerson_10 (by decide) ?_
      exact r_zret (ty := .boolean) dX9_isPerson_14 rfl rfl (by decide) (by decide) V
set_option maxRecDepth 20000 in
theorem v_X9_isFraction_0 {g : xG} {post : xPost} {h : xHp} {nx : Nat} {x0 : Int64} {x2 : Int64} (V : ((x0 < (lN 0) → (post (some (.int (nI 0))) h nx)) ∧ (¬ x0 < (lN 0) → ((x2 < x0 → (post (some (.int (nI 0))) h nx)) ∧ (¬ x2 < x0 → ((x2 ≤ (lN 0) → (post (some (.int (nI 0))) h nx)) ∧ (¬ x2 ≤ (lN 0) → (((lN 1000) < x2 → (post (some (.int (nI 0))) h nx)) ∧ (¬ (lN 1000) < x2 → (post (some (.int (nI 1))) h nx)))))))))) : Blk g M_X9_isFraction post 0 [(0, .long x0), (2, .long x2)] [] h nx 0 0 := by
  refine r_lload_n 0 dX9_isFraction_0 rfl rfl ?_
  refine r_lconst (v := (lN 0)) dX9_isFraction_1 rfl ?_
  refine r_lcmp dX9_isFraction_2 ?_
  refine r_if_lt (tgt := 30) dX9_isFraction_3 (by decide) (fun c => ?_) (fun c => ?_)
  · have V := V.1 ((lg_cmp_lt _ _).mp c)
    refine r_iconst (v := (nI 0)) dX9_isFraction_30 rfl ?_
    exact r_zret (ty := .boolean) dX9_isFraction_31 rfl rfl (by decide) (by decide) V
  · have V := V.2 (fun q => c ((lg_cmp_lt _ _).mpr q))
    refine r_lload_n 0 dX9_isFraction_6 rfl rfl ?_
    refine r_lload_n 1 dX9_isFraction_7 rfl rfl ?_
    refine r_lcmp dX9_isFraction_8 ?_
    refine r_if_gt (tgt := 30) dX9_isFraction_9 (by decide) (fun c => ?_) (fun c => ?_)
    · have V := V.1 ((lg_cmp_gt _ _).mp c)
      refine r_iconst (v := (nI 0)) dX9_isFraction_30 rfl ?_
      exact r_zret (ty := .boolean) dX9_isFraction_31 rfl rfl (by decide) (by decide) V
    · have V := V.2 (fun q => c ((lg_cmp_gt _ _).mpr q))
      refine r_lload_n 1 dX9_isFraction_12 rfl rfl ?_
      refine r_lconst (v := (lN 0)) dX9_isFraction_13 rfl ?_
      refine r_lcmp dX9_isFraction_14 ?_
      refine r_if_le (tgt := 30) dX9_isFraction_15 (by decide) (fun c => ?_) (fun c => ?_)
      · have V := V.1 ((lg_cmp_le _ _).mp c)
        refine r_iconst (v := (nI 0)) dX9_isFraction_30 rfl ?_
        exact r_zret (ty := .boolean) dX9_isFraction_31 rfl rfl (by decide) (by decide) V
      · have V := V.2 (fun q => c ((lg_cmp_le _ _).mpr q))
        refine r_lload_n 1 dX9_isFraction_18 rfl rfl ?_
        refine r_ldc2 (v := (lN 1000)) wL_X9_200 dX9_isFraction_19 ?_
        refine r_lcmp dX9_isFraction_22 ?_
        refine r_if_gt (tgt := 30) dX9_isFraction_23 (by decide) (fun c => ?_) (fun c => ?_)
        · have V := V.1 ((lg_cmp_gt _ _).mp c)
          refine r_iconst (v := (nI 0)) dX9_isFraction_30 rfl ?_
          exact r_zret (ty := .boolean) dX9_isFraction_31 rfl rfl (by decide) (by decide) V
        · have V := V.2 (fun q => c ((lg_cmp_gt _ _).mpr q))
          refine r_iconst (v := (nI 1)) dX9_isFraction_26 rfl ?_
          refine r_goto (tgt := 31) dX9_isFraction_27 (by decide) ?_
          exact r_zret (ty := .boolean) dX9_isFraction_31 rfl rfl (by decide) (by decide) V
set_option maxRecDepth 20000 in
theorem v_X9_needState_0 {g : xG} {post : xPost} {h : xHp} {nx : Nat} {x0 : Nat} {x1 : Int32} (V : (∃ (o4 : Nat) (o5 : Nat) (o6 : Nat) (o7 : Nat) (o8 : Nat) (o9 : Nat) (o10 : Nat) (o11 : Nat), h x0 = some (xo 10 [.int (nI o4), .ref o5, .ref o6, .ref o7, .ref o8, .ref o9, .ref o10, .int (nI o11)]) ∧ Ct g M_X9_isState [.ref x0, .int x1] h nx (fun r h1 n2 => ∃ v12 : Nat, r = some (.int (nI v12)) ∧ (v12 < 2 ^ 31 ∧ ((¬ v12 = 0 → (post none h1 n2)) ∧ (v12 = 0 → False)))))) : Blk g M_X9_needState post 0 [(0, .ref x0), (1, .int x1)] [] h nx 0 0 := by
  refine r_aload_n 0 dX9_needState_0 rfl rfl ?_
  refine r_iload_n 1 dX9_needState_1 rfl rfl ?_
  obtain ⟨o4, o5, o6, o7, o8, o9, o10, o11, q3, V⟩ := V
  refine r_callV (M2 := M_X9_isState) (ci := 10) (n := 1) (As := [.int x1]) rfl (wl5 wM_X9_132 wi_X9_isState wS_X9_isState wI_StateShares wc_X9_isState) (by decide +kernel) (by decide) rfl rfl (Nat.le_of_ble_eq_true rfl) dX9_needState_2 q3 (by decide) (by decide) (Ct.imp V (fun r h1 n2 V => ?_))
  obtain ⟨v12, rfl, V⟩ := V
  show Blk g M_X9_needState post 5 [(0, .ref x0), (1, .int x1)] [.int (nI v12)] h1 n2 0 0
  obtain ⟨c, V⟩ := V
  refine r_if_neN (tgt := 18) dX9_needState_5 (by decide) c (fun c => ?_) (fun c => ?_)
  · have V := V.1 c
    exact r_vret dX9_needState_18 rfl (by decide) (by decide) V
  · have V := V.2 c
    exact V.elim
set_option maxRecDepth 20000 in
theorem v_X9_tell_0 {g : xG} {post : xPost} {h : xHp} {nx : Nat} {x0 : Nat} {x1 : Nat} {x2 : Int32} {x3 : Int32} {x4 : Int32} {x5 : Int64} {x7 : Int64} (V : (Ct g M_X9_isYear [.int x2] h nx (fun r h1 n2 => ∃ v3 : Nat, r = some (.int (nI v3)) ∧ (v3 < 2 ^ 31 ∧ ((v3 = 0 → (post (some (.int (nI 0))) h1 n2)) ∧ (¬ v3 = 0 → ((x2 = (nI 11) → (post (some (.int (nI 0))) h1 n2)) ∧ (¬ x2 = (nI 11) → (∃ (o7 : Nat) (o8 : Nat) (o9 : Nat) (o10 : Nat) (o11 : Nat) (o12 : Nat) (o13 : Nat) (o14 : Nat), h1 x0 = some (xo 10 [.int (nI o7), .ref o8, .ref o9, .ref o10, .ref o11, .ref o12, .ref o13, .int (nI o14)]) ∧ Ct g M_X9_isState [.ref x0, .int x3] h1 n2 (fun r h4 n5 => ∃ v15 : Nat, r = some (.int (nI v15)) ∧ (v15 < 2 ^ 31 ∧ ((v15 = 0 → (post (some (.int (nI 0))) h4 n5)) ∧ (¬ v15 = 0 → (∃ (o19 : Nat) (o20 : Nat) (o21 : Nat) (o22 : Nat) (o23 : Nat) (o24 : Nat) (o25 : Nat) (o26 : Nat), h4 x0 = some (xo 10 [.int (nI o19), .ref o20, .ref o21, .ref o22, .ref o23, .ref o24, .ref o25, .int (nI o26)]) ∧ Ct g M_X9_isState [.ref x0, .int x4] h4 n5 (fun r h16 n17 => ∃ v27 : Nat, r = some (.int (nI v27)) ∧ (v27 < 2 ^ 31 ∧ ((v27 = 0 → (post (some (.int (nI 0))) h16 n17)) ∧ (¬ v27 = 0 → ((x3 = x4 → (post (some (.int (nI 0))) h16 n17)) ∧ (¬ x3 = x4 → (Ct g M_X9_isFraction [.long x5, .long x7] h16 n17 (fun r h28 n29 => ∃ v30 : Nat, r = some (.int (nI v30)) ∧ (v30 < 2 ^ 31 ∧ ((v30 = 0 → (post (some (.int (nI 0))) h28 n29)) ∧ (¬ v30 = 0 → (∃ (o34 : Nat) (o35 : Nat) (o36 : Nat) (o37 : Nat) (o38 : Nat), h28 x1 = some (xo 9 [.ref o34, .ref o35, .ref o36, .ref o37, .ref o38]) ∧ Ct g M_X8_add [.ref x1, .int x2, .int x3, .int x4, .int (x5.toInt32), .int (x7.toInt32)] h28 n29 (fun r h31 n32 => ∃ v39 : Nat, r = some (.int (nI v39)) ∧ (v39 < 2 ^ 31 ∧ ((¬ v39 = 0 → (∃ (o41 : Nat) (o42 : Nat) (o43 : Nat) (o44 : Nat) (o45 : Nat) (o46 : Nat) (o47 : Nat) (o48 : Nat), h31 x0 = some (xo 10 [.int (nI o41), .ref o42, .ref o43, .ref o44, .ref o45, .ref o46, .ref o47, .int (nI o48)]) ∧ (∃ (o52 : Nat) (o53 : Nat) (o54 : Nat) (o55 : Nat) (o56 : Nat) (o57 : Nat) (o58 : Nat) (o59 : Nat) (o60 : Nat) (o61 : Nat) (o62 : Nat) (o63 : Nat) (o64 : Nat) (o65 : Nat) (o66 : Nat) (o67 : Nat) (o68 : Int32) (o69 : Int32), h31 o47 = some (xo 2 [.int (nI o52), .ref o53, .ref o54, .ref o55, .ref o56, .ref o57, .ref o58, .ref o59, .ref o60, .ref o61, .ref o62, .ref o63, .ref o64, .int (nI o65), .int (nI o66), .int (nI o67), .int o68, .int o69]) ∧ Ct g M_X1_forget [.ref o47, .int (x2 + (nI 1))] h31 n32 (fun r h49 n50 => r = none ∧ (post (some (.int (nI 1))) h49 n50))))) ∧ (v39 = 0 → (post (some (.int (nI 0))) h31 n32))))))))))))))))))))))))))))))) : Blk g M_X9_tell post 0 [(0, .ref x0), (1, .ref x1), (2, .int x2), (3, .int x3), (4, .int x4), (5, .long x5), (7, .long x7)] [] h nx 0 0 := by
  refine r_iload_n 2 dX9_tell_0 rfl rfl ?_
  refine r_callS (M2 := M_X9_isYear) (n := 1) (As := [.int x2]) (wl4 wM_X9_72 ws_X9_isYear wI_StateShares wc_X9_isYear) (by decide +kernel) (by decide) rfl rfl (Nat.le_of_ble_eq_true rfl) dX9_tell_1 (by decide) (by decide) (Ct.imp V (fun r h1 n2 V => ?_))
  obtain ⟨v3, rfl, V⟩ := V
  show Blk g M_X9_tell post 4 [(0, .ref x0), (1, .ref x1), (2, .int x2), (3, .int x3), (4, .int x4), (5, .long x5), (7, .long x7)] [.int (nI v3)] h1 n2 0 0
  obtain ⟨c, V⟩ := V
  refine r_if_eqN (tgt := 63) dX9_tell_4 (by decide) c (fun c => ?_) (fun c => ?_)
  · have V := V.1 c
    refine r_iconst (v := (nI 0)) dX9_tell_63 rfl ?_
    exact r_zret (ty := .boolean) dX9_tell_64 rfl rfl (by decide) (by decide) V
  · have V := V.2 c
    refine r_iload_n 2 dX9_tell_7 rfl rfl ?_
    refine r_bipush (v := (nI 11)) dX9_tell_8 rfl ?_
    refine r_icmp_eq (tgt := 63) dX9_tell_10 (by decide) (fun c => ?_) (fun c => ?_)
    · have V := V.1 c
      refine r_iconst (v := (nI 0)) dX9_tell_63 rfl ?_
      exact r_zret (ty := .boolean) dX9_tell_64 rfl rfl (by decide) (by decide) V
    · have V := V.2 c
      refine r_aload_n 0 dX9_tell_13 rfl rfl ?_
      refine r_iload_n 3 dX9_tell_14 rfl rfl ?_
      obtain ⟨o7, o8, o9, o10, o11, o12, o13, o14, q6, V⟩ := V
      refine r_callV (M2 := M_X9_isState) (ci := 10) (n := 1) (As := [.int x3]) rfl (wl5 wM_X9_132 wi_X9_isState wS_X9_isState wI_StateShares wc_X9_isState) (by decide +kernel) (by decide) rfl rfl (Nat.le_of_ble_eq_true rfl) dX9_tell_15 q6 (by decide) (by decide) (Ct.imp V (fun r h4 n5 V => ?_))
      obtain ⟨v15, rfl, V⟩ := V
      show Blk g M_X9_tell post 18 [(0, .ref x0), (1, .ref x1), (2, .int x2), (3, .int x3), (4, .int x4), (5, .long x5), (7, .long x7)] [.int (nI v15)] h4 n5 0 0
      obtain ⟨c, V⟩ := V
      refine r_if_eqN (tgt := 63) dX9_tell_18 (by decide) c (fun c => ?_) (fun c => ?_)
      · have V := V.1 c
        refine r_iconst (v := (nI 0)) dX9_tell_63 rfl ?_
        exact r_zret (ty := .boolean) dX9_tell_64 rfl rfl (by decide) (by decide) V
      · have V := V.2 c
        refine r_aload_n 0 dX9_tell_21 rfl rfl ?_
        refine r_iload 4 dX9_tell_22 rfl ?_
        obtain ⟨o19, o20, o21, o22, o23, o24, o25, o26, q18, V⟩ := V
        refine r_callV (M2 := M_X9_isState) (ci := 10) (n := 1) (As := [.int x4]) rfl (wl5 wM_X9_132 wi_X9_isState wS_X9_isState wI_StateShares wc_X9_isState) (by decide +kernel) (by decide) rfl rfl (Nat.le_of_ble_eq_true rfl) dX9_tell_24 q18 (by decide) (by decide) (Ct.imp V (fun r h16 n17 V => ?_))
        obtain ⟨v27, rfl, V⟩ := V
        show Blk g M_X9_tell post 27 [(0, .ref x0), (1, .ref x1), (2, .int x2), (3, .int x3), (4, .int x4), (5, .long x5), (7, .long x7)] [.int (nI v27)] h16 n17 0 0
        obtain ⟨c, V⟩ := V
        refine r_if_eqN (tgt := 63) dX9_tell_27 (by decide) c (fun c => ?_) (fun c => ?_)
        · have V := V.1 c
          refine r_iconst (v := (nI 0)) dX9_tell_63 rfl ?_
          exact r_zret (ty := .boolean) dX9_tell_64 rfl rfl (by decide) (by decide) V
        · have V := V.2 c
          refine r_iload_n 3 dX9_tell_30 rfl rfl ?_
          refine r_iload 4 dX9_tell_31 rfl ?_
          refine r_icmp_eq (tgt := 63) dX9_tell_33 (by decide) (fun c => ?_) (fun c => ?_)
          · have V := V.1 c
            refine r_iconst (v := (nI 0)) dX9_tell_63 rfl ?_
            exact r_zret (ty := .boolean) dX9_tell_64 rfl rfl (by decide) (by decide) V
          · have V := V.2 c
            refine r_lload 5 dX9_tell_36 rfl ?_
            refine r_lload 6 dX9_tell_38 rfl ?_
            refine r_callS (M2 := M_X9_isFraction) (n := 2) (As := [.long x5, .long x7]) (wl4 wM_X9_135 ws_X9_isFraction wI_StateShares wc_X9_isFraction) (by decide +kernel) (by decide) rfl rfl (Nat.le_of_ble_eq_true rfl) dX9_tell_40 (by decide) (by decide) (Ct.imp V (fun r h28 n29 V => ?_))
            obtain ⟨v30, rfl, V⟩ := V
            show Blk g M_X9_tell post 43 [(0, .ref x0), (1, .ref x1), (2, .int x2), (3, .int x3), (4, .int x4), (5, .long x5), (7, .long x7)] [.int (nI v30)] h28 n29 0 0
            obtain ⟨c, V⟩ := V
            refine r_if_eqN (tgt := 63) dX9_tell_43 (by decide) c (fun c => ?_) (fun c => ?_)
            · have V := V.1 c
              refine r_iconst (v := (nI 0)) dX9_tell_63 rfl ?_
              exact r_zret (ty := .boolean) dX9_tell_64 rfl rfl (by decide) (by decide) V
            · have V := V.2 c
              refine r_aload_n 1 dX9_tell_46 rfl rfl ?_
              refine r_iload_n 2 dX9_tell_47 rfl rfl ?_
              refine r_iload_n 3 dX9_tell_48 rfl rfl ?_
              refine r_iload 4 dX9_tell_49 rfl ?_
              refine r_lload 5 dX9_tell_51 rfl ?_
              refine r_l2i dX9_tell_53 ?_
              refine r_lload 6 dX9_tell_54 rfl ?_
              refine r_l2i dX9_tell_56 ?_
              obtain ⟨o34, o35, o36, o37, o38, q33, V⟩ := V
              refine r_callV (M2 := M_X8_add) (ci := 9) (n := 5) (As := [.int x2, .int x3, .int x4, .int (x5.toInt32), .int (x7.toInt32)]) rfl (wl5 wM_X9_209 wi_X8_add wS_X8_add wI_StateShares_Transfers wc_X8_add) (by decide +kernel) (by decide) rfl rfl (Nat.le_of_ble_eq_true rfl) dX9_tell_57 q33 (by decide) (by decide) (Ct.imp V (fun r h31 n32 V => ?_))
              obtain ⟨v39, rfl, V⟩ := V
              show Blk g M_X9_tell post 60 [(0, .ref x0), (1, .ref x1), (2, .int x2), (3, .int x3), (4, .int x4), (5, .long x5), (7, .long x7)] [.int (nI v39)] h31 n32 0 0
              obtain ⟨c, V⟩ := V
              refine r_if_neN (tgt := 65) dX9_tell_60 (by decide) c (fun c => ?_) (fun c => ?_)
              · have V := V.1 c
                refine r_aload_n 0 dX9_tell_65 rfl rfl ?_
                obtain ⟨o41, o42, o43, o44, o45, o46, o47, o48, q40, V⟩ := V
                refine r_getf (ci := 10) (kf := 6) (T := TX9) rfl in_X9 (by decide) wF_X9_60 dX9_tell_66 q40 rfl ?_
                refine r_iload_n 2 dX9_tell_69 rfl rfl ?_
                refine r_iconst (v := (nI 1)) dX9_tell_70 rfl ?_
                refine r_iadd dX9_tell_71 ?_
                obtain ⟨o52, o53, o54, o55, o56, o57, o58, o59, o60, o61, o62, o63, o64, o65, o66, o67, o68, o69, q51, V⟩ := V
                refine r_callV (M2 := M_X1_forget) (ci := 2) (n := 1) (As := [.int (x2 + (nI 1))]) rfl (wl5 wM_X9_213 wi_X1_forget wS_X1_forget wI_StateShares_Forecast wc_X1_forget) (by decide +kernel) (by decide) rfl rfl (Nat.le_of_ble_eq_true rfl) dX9_tell_72 q51 (by decide) (by decide) (Ct.imp V (fun r h49 n50 V => ?_))
                obtain ⟨rfl, V⟩ := V
                show Blk g M_X9_tell post 75 [(0, .ref x0), (1, .ref x1), (2, .int x2), (3, .int x3), (4, .int x4), (5, .long x5), (7, .long x7)] [] h49 n50 0 0
                refine r_iconst (v := (nI 1)) dX9_tell_75 rfl ?_
                exact r_zret (ty := .boolean) dX9_tell_76 rfl rfl (by decide) (by decide) V
              · have V := V.2 c
                refine r_iconst (v := (nI 0)) dX9_tell_63 rfl ?_
                exact r_zret (ty := .boolean) dX9_tell_64 rfl rfl (by decide) (by decide) V
set_option maxRecDepth 20000 in
theorem v_X9_renewMoves_0 {g : xG} {post : xPost} {h : xHp} {nx : Nat} {x0 : Nat} (V : (∃ (o2 : Nat) (o3 : Nat) (o4 : Nat) (o5 : Nat) (o6 : Nat) (o7 : Nat) (o8 : Nat) (o9 : Nat), h x0 = some (xo 10 [.int (nI o2), .ref o3, .ref o4, .ref o5, .ref o6, .ref o7, .ref o8, .int (nI o9)]) ∧ (o9 < 2 ^ 31 ∧ ((o9 = 0 → (post none h nx)) ∧ (¬ o9 = 0 → (∃ (o13 : Nat) (o14 : Nat) (o15 : Nat) (o16 : Nat) (o17 : Nat) (o18 : Nat) (o19 : Nat) (o20 : Nat), h o5 = some (xo 5 [.int (nI o13), .ref o14, .ref o15, .ref o16, .ref o17, .ref o18, .int (nI o19), .int (nI o20)]) ∧ Ct g M_X4_renew [.ref o5, .ref o4] (xup h x0 (xo 10 [.int (nI o2), .ref o3, .ref o4, .ref o5, .ref o6, .ref o7, .ref o8, .int (nI 0)])) nx (fun r h10 n11 => ∃ v22 : Nat, r = some (.int (nI v22)) ∧ (v22 < 2 ^ 31 ∧ ((v22 = 0 → (post none h10 n11)) ∧ (¬ v22 = 0 → (∃ (o24 : Nat) (o25 : Nat) (o26 : Nat) (o27 : Nat) (o28 : Nat) (o29 : Nat) (o30 : Nat) (o31 : Nat), h10 x0 = some (xo 10 [.int (nI o24), .ref o25, .ref o26, .ref o27, .ref o28, .ref o29, .ref o30, .int (nI o31)]) ∧ (∃ (o35 : Nat) (o36 : Nat) (o37 : Nat) (o38 : Nat) (o39 : Nat) (o40 : Nat) (o41 : Nat) (o42 : Nat) (o43 : Nat) (o44 : Nat) (o45 : Nat) (o46 : Nat) (o47 : Nat) (o48 : Nat) (o49 : Nat) (o50 : Nat) (o51 : Int32) (o52 : Int32), h10 o30 = some (xo 2 [.int (nI o35), .ref o36, .ref o37, .ref o38, .ref o39, .ref o40, .ref o41, .ref o42, .ref o43, .ref o44, .ref o45, .ref o46, .ref o47, .int (nI o48), .int (nI o49), .int (nI o50), .int o51, .int o52]) ∧ Ct g M_X1_forget [.ref o30, .int (nI 1)] h10 n11 (fun r h32 n33 => r = none ∧ (post none h32 n33)))))))))))))) : Blk g M_X9_renewMoves post 0 [(0, .ref x0)] [] h nx 0 0 := by
  refine r_aload_n 0 dX9_renewMoves_0 rfl rfl ?_
  obtain ⟨o2, o3, o4, o5, o6, o7, o8, o9, q1, V⟩ := V
  refine r_getf (ci := 10) (kf := 7) (T := TX9) rfl in_X9 (by decide) wF_X9_64 dX9_renewMoves_1 q1 rfl ?_
  obtain ⟨c, V⟩ := V
  refine r_if_eqN (tgt := 34) dX9_renewMoves_4 (by decide) c (fun c => ?_) (fun c => ?_)
  · have V := V.1 c
    exact r_vret dX9_renewMoves_34 rfl (by decide) (by decide) V
  · have V := V.2 c
    refine r_aload_n 0 dX9_renewMoves_7 rfl rfl ?_
    refine r_iconst (v := (nI 0)) dX9_renewMoves_8 rfl ?_
    refine r_putf (ci := 10) (kf := 7) (T := TX9) rfl in_X9 tyX9_ok nmX9 (by decide) wF_X9_64 rfl (tyX9_ok 7 (by decide)) dX9_renewMoves_9 q1 (Nat.le_of_ble_eq_true rfl) rfl rfl ?_
    show Blk g M_X9_renewMoves post 12 [(0, .ref x0)] [] (xup h x0 (xo 10 [.int (nI o2), .ref o3, .ref o4, .ref o5, .ref o6, .ref o7, .ref o8, .int (nI 0)])) nx 0 0
    refine r_aload_n 0 dX9_renewMoves_12 rfl rfl ?_
    refine r_getf (ci := 10) (kf := 3) (T := TX9) rfl in_X9 (by decide) wF_X9_41 dX9_renewMoves_13 (xup_s _ _ _) rfl ?_
    refine r_aload_n 0 dX9_renewMoves_16 rfl rfl ?_
    refine r_getf (ci := 10) (kf := 2) (T := TX9) rfl in_X9 (by decide) wF_X9_34 dX9_renewMoves_17 (xup_s _ _ _) rfl ?_
    obtain ⟨o13, o14, o15, o16, o17, o18, o19, o20, q12, V⟩ := V
    have q21 : (xup h x0 (xo 10 [.int (nI o2), .ref o3, .ref o4, .ref o5, .ref o6, .ref o7, .ref o8, .int (nI 0)])) o5 = some (xo 5 [.int (nI o13), .ref o14, .ref o15, .ref o16, .ref o17, .ref o18, .int (nI o19), .int (nI o20)]) := (xup_n (x_apart q12 q1 (x_oo (by decide)))).trans q12
    refine r_callV (M2 := M_X4_renew) (ci := 5) (n := 1) (As := [.ref o4]) rfl (wl5 wM_X9_216 wi_X4_renew wS_X4_renew wI_StateShares_Moves wc_X4_renew) (by decide +kernel) (by decide) rfl rfl (Nat.le_of_ble_eq_true rfl) dX9_renewMoves_20 q21 (by decide) (by decide) (Ct.imp V (fun r h10 n11 V => ?_))
    obtain ⟨v22, rfl, V⟩ := V
    show Blk g M_X9_renewMoves post 23 [(0, .ref x0)] [.int (nI v22)] h10 n11 0 0
    obtain ⟨c, V⟩ := V
    refine r_if_eqN (tgt := 34) dX9_renewMoves_23 (by decide) c (fun c => ?_) (fun c => ?_)
    · have V := V.1 c
      exact r_vret dX9_renewMoves_34 rfl (by decide) (by decide) V
    · have V := V.2 c
      refine r_aload_n 0 dX9_renewMoves_26 rfl rfl ?_
      obtain ⟨o24, o25, o26, o27, o28, o29, o30, o31, q23, V⟩ := V
      refine r_getf (ci := 10) (kf := 6) (T := TX9) rfl in_X9 (by decide) wF_X9_60 dX9_renewMoves_27 q23 rfl ?_
      refine r_iconst (v := (nI 1)) dX9_renewMoves_30 rfl ?_
      obtain ⟨o35, o36, o37, o38, o39, o40, o41, o42, o43, o44, o45, o46, o47, o48, o49, o50, o51, o52, q34, V⟩ := V
      refine r_callV (M2 := M_X1_forget) (ci := 2) (n := 1) (As := [.int (nI 1)]) rfl (wl5 wM_X9_213 wi_X1_forget wS_X1_forget wI_StateShares_Forecast wc_X1_forget) (by decide +kernel) (by decide) rfl rfl (Nat.le_of_ble_eq_true rfl) dX9_renewMoves_31 q34 (by decide) (by decide) (Ct.imp V (fun r h32 n33 V => ?_))
      obtain ⟨rfl, V⟩ := V
      show Blk g M_X9_renewMoves post 34 [(0, .ref x0)] [] h32 n33 0 0
      exact r_vret dX9_renewMoves_34 rfl (by decide) (by decide) V
set_option maxRecDepth 20000 in
theorem v_X9_foretold_0 {g : xG} {post : xPost} {h : xHp} {nx : Nat} {x0 : Nat} {x1 : Int32} (V : (Ct g M_X9_isYear [.int x1] h nx (fun r h1 n2 => ∃ v3 : Nat, r = some (.int (nI v3)) ∧ (v3 < 2 ^ 31 ∧ ((¬ v3 = 0 → (∃ (o7 : Nat) (o8 : Nat) (o9 : Nat) (o10 : Nat) (o11 : Nat) (o12 : Nat) (o13 : Nat) (o14 : Nat), h1 x0 = some (xo 10 [.int (nI o7), .ref o8, .ref o9, .ref o10, .ref o11, .ref o12, .ref o13, .int (nI o14)]) ∧ Ct g M_X9_renewMoves [.ref x0] h1 n2 (fun r h4 n5 => r = none ∧ (∃ (o16 : Nat) (o17 : Nat) (o18 : Nat) (o19 : Nat) (o20 : Nat) (o21 : Nat) (o22 : Nat) (o23 : Nat), h4 x0 = some (xo 10 [.int (nI o16), .ref o17, .ref o18, .ref o19, .ref o20, .ref o21, .ref o22, .int (nI o23)]) ∧ (∃ (o27 : Nat) (o28 : Nat) (o29 : Nat) (o30 : Nat) (o31 : Nat) (o32 : Nat) (o33 : Nat) (o34 : Nat) (o35 : Nat) (o36 : Nat) (o37 : Nat) (o38 : Nat) (o39 : Nat) (o40 : Nat) (o41 : Nat) (o42 : Nat) (o43 : Int32) (o44 : Int32), h4 o22 = some (xo 2 [.int (nI o27), .ref o28, .ref o29, .ref o30, .ref o31, .ref o32, .ref o33, .ref o34, .ref o35, .ref o36, .ref o37, .ref o38, .ref o39, .int (nI o40), .int (nI o41), .int (nI o42), .int o43, .int o44]) ∧ Ct g M_X1_stands [.ref o22, .int x1] h4 n5 (fun r h24 n25 => ∃ v45 : Nat, r = some (.int (nI v45)) ∧ (v45 ≤ 1 ∧ post (some (.int (nI v45))) h24 n25))))))) ∧ (v3 = 0 → (post (some (.int (nI 0))) h1 n2))))))) : Blk g M_X9_foretold post 0 [(0, .ref x0), (1, .int x1)] [] h nx 0 0 := by
  refine r_iload_n 1 dX9_foretold_0 rfl rfl ?_
  refine r_callS (M2 := M_X9_isYear) (n := 1) (As := [.int x1]) (wl4 wM_X9_72 ws_X9_isYear wI_StateShares wc_X9_isYear) (by decide +kernel) (by decide) rfl rfl (Nat.le_of_ble_eq_true rfl) dX9_foretold_1 (by decide) (by decide) (Ct.imp V (fun r h1 n2 V => ?_))
  obtain ⟨v3, rfl, V⟩ := V
  show Blk g M_X9_foretold post 4 [(0, .ref x0), (1, .int x1)] [.int (nI v3)] h1 n2 0 0
  obtain ⟨c, V⟩ := V
  refine r_if_neN (tgt := 9) dX9_foretold_4 (by decide) c (fun c => ?_) (fun c => ?_)
  · have V := V.1 c
    refine r_aload_n 0 dX9_foretold_9 rfl rfl ?_
    obtain ⟨o7, o8, o9, o10, o11, o12, o13, o14, q6, V⟩ := V
    refine r_callV (M2 := M_X9_renewMoves) (ci := 10) (n := 0) (As := []) rfl (wl5 wM_X9_103 wi_X9_renewMoves wS_X9_renewMoves wI_StateShares wc_X9_renewMoves) (by decide +kernel) (by decide) rfl rfl (Nat.le_of_ble_eq_true rfl) dX9_foretold_10 q6 (by decide) (by decide) (Ct.imp V (fun r h4 n5 V => ?_))
    obtain ⟨rfl, V⟩ := V
    show Blk g M_X9_foretold post 13 [(0, .ref x0), (1, .int x1)] [] h4 n5 0 0
    refine r_aload_n 0 dX9_foretold_13 rfl rfl ?_
    obtain ⟨o16, o17, o18, o19, o20, o21, o22, o23, q15, V⟩ := V
    refine r_getf (ci := 10) (kf := 6) (T := TX9) rfl in_X9 (by decide) wF_X9_60 dX9_foretold_14 q15 rfl ?_
    refine r_iload_n 1 dX9_foretold_17 rfl rfl ?_
    obtain ⟨o27, o28, o29, o30, o31, o32, o33, o34, o35, o36, o37, o38, o39, o40, o41, o42, o43, o44, q26, V⟩ := V
    refine r_callV (M2 := M_X1_stands) (ci := 2) (n := 1) (As := [.int x1]) rfl (wl5 wM_X9_220 wi_X1_stands wS_X1_stands wI_StateShares_Forecast wc_X1_stands) (by decide +kernel) (by decide) rfl rfl (Nat.le_of_ble_eq_true rfl) dX9_foretold_18 q26 (by decide) (by decide) (Ct.imp V (fun r h24 n25 V => ?_))
    obtain ⟨v45, rfl, V⟩ := V
    show Blk g M_X9_foretold post 21 [(0, .ref x0), (1, .int x1)] [.int (nI v45)] h24 n25 0 0
    obtain ⟨c, V⟩ := V
    exact r_zret (ty := .boolean) dX9_foretold_21 rfl (n_bool c) (by decide) (by decide) V
  · have V := V.2 c
    refine r_iconst (v := (nI 0)) dX9_foretold_7 rfl ?_
    exact r_zret (ty := .boolean) dX9_foretold_8 rfl rfl (by decide) (by decide) V
set_option maxRecDepth 20000 in
theorem v_X9_draw_0 {g : xG} {post : xPost} {h : xHp} {nx : Nat} {x0 : Int64} {x2 : Int32} {x3 : Int32} (V : (post (some (.long ((((((((x0 + ((lN 1000003) * (x2.toInt64))) + ((lN 7919) * (x3.toInt64))) * (lN 6364136223846793005)) + (lN 1442695040888963407)) * (lN 6364136223846793005)) + (lN 1442695040888963407)).toUInt64 >>> ((nI 33).toInt64.toUInt64 &&& Int64.toUInt64 63)).toInt64))) h nx)) : Blk g M_X9_draw post 0 [(0, .long x0), (2, .int x2), (3, .int x3)] [] h nx 0 0 := by
  refine r_lload_n 0 dX9_draw_0 rfl rfl ?_
  refine r_ldc2 (v := (lN 1000003)) wL_X9_223 dX9_draw_1 ?_
  refine r_iload_n 1 dX9_draw_4 rfl rfl ?_
  refine r_i2l dX9_draw_5 ?_
  refine r_lmul dX9_draw_6 ?_
  refine r_ladd dX9_draw_7 ?_
  refine r_ldc2 (v := (lN 7919)) wL_X9_225 dX9_draw_8 ?_
  refine r_iload_n 2 dX9_draw_11 rfl rfl ?_
  refine r_i2l dX9_draw_12 ?_
  refine r_lmul dX9_draw_13 ?_
  refine r_ladd dX9_draw_14 ?_
  refine r_lstore (L' := [(4, .long ((x0 + ((lN 1000003) * (x2.toInt64))) + ((lN 7919) * (x3.toInt64)))), (0, .long x0), (2, .int x2), (3, .int x3)]) dX9_draw_15 (by decide) rfl ?_
  refine r_lload 0 dX9_draw_17 rfl ?_
  refine r_ldc2 (v := (lN 6364136223846793005)) wL_X9_227 dX9_draw_19 ?_
  refine r_lmul dX9_draw_22 ?_
  refine r_ldc2 (v := (lN 1442695040888963407)) wL_X9_229 dX9_draw_23 ?_
  refine r_ladd dX9_draw_26 ?_
  refine r_lstore (L' := [(4, .long ((((x0 + ((lN 1000003) * (x2.toInt64))) + ((lN 7919) * (x3.toInt64))) * (lN 6364136223846793005)) + (lN 1442695040888963407))), (0, .long x0), (2, .int x2), (3, .int x3)]) dX9_draw_27 (by decide) rfl ?_
  refine r_lload 0 dX9_draw_29 rfl ?_
  refine r_ldc2 (v := (lN 6364136223846793005)) wL_X9_227 dX9_draw_31 ?_
  refine r_lmul dX9_draw_34 ?_
  refine r_ldc2 (v := (lN 1442695040888963407)) wL_X9_229 dX9_draw_35 ?_
  refine r_ladd dX9_draw_38 ?_
  refine r_lstore (L' := [(4, .long ((((((x0 + ((lN 1000003) * (x2.toInt64))) + ((lN 7919) * (x3.toInt64))) * (lN 6364136223846793005)) + (lN 1442695040888963407)) * (lN 6364136223846793005)) + (lN 1442695040888963407))), (0, .long x0), (2, .int x2), (3, .int x3)]) dX9_draw_39 (by decide) rfl ?_
  refine r_lload 0 dX9_draw_41 rfl ?_
  refine r_bipush (v := (nI 33)) dX9_draw_43 rfl ?_
  refine r_lushr dX9_draw_45 ?_
  exact r_lret dX9_draw_46 rfl (by decide) (by decide) V
