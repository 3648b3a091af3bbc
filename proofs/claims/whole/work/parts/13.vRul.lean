set_option maxRecDepth 20000 in
theorem wM_X6_3 : Cond.methodLink "StateShares$RuleList" 3 (objectInit) ∈ lw_gd := lw_in 48 (by decide +kernel) rfl
set_option maxRecDepth 20000 in
theorem wF_X6_11 : Cond.fieldLink "StateShares$RuleList" 11 "StateShares$RuleList" "amounts" "[I" ∈ lw_gd := lw_in 49 (by decide +kernel) rfl
set_option maxRecDepth 20000 in
theorem wF_X6_15 : Cond.fieldLink "StateShares$RuleList" 15 "StateShares$RuleList" "counted" "[I" ∈ lw_gd := lw_in 50 (by decide +kernel) rfl
set_option maxRecDepth 20000 in
theorem wA_char : Cond.arrayClass .char ∈ lw_gd := lw_in 68 (by decide +kernel) rfl
set_option maxRecDepth 20000 in
theorem wF_X6_18 : Cond.fieldLink "StateShares$RuleList" 18 "StateShares$RuleList" "comparisons" "[C" ∈ lw_gd := lw_in 51 (by decide +kernel) rfl
set_option maxRecDepth 20000 in
theorem wF_X6_22 : Cond.fieldLink "StateShares$RuleList" 22 "StateShares$RuleList" "bounds" "[I" ∈ lw_gd := lw_in 52 (by decide +kernel) rfl
set_option maxRecDepth 20000 in
theorem wF_X6_25 : Cond.fieldLink "StateShares$RuleList" 25 "StateShares$RuleList" "values" "[I" ∈ lw_gd := lw_in 53 (by decide +kernel) rfl
set_option maxRecDepth 20000 in
theorem wF_X6_28 : Cond.fieldLink "StateShares$RuleList" 28 "StateShares$RuleList" "size" "I" ∈ lw_gd := lw_in 54 (by decide +kernel) rfl
set_option maxRecDepth 20000 in
theorem wM_X6_32 : Cond.methodLink "StateShares$RuleList" 32 (yX6_holds) ∈ lw_gd := lw_in 470 (by decide +kernel) rfl
set_option maxRecDepth 20000 in
theorem wi_X6_holds : Cond.instanceMethod (yX6_holds) ∈ lw_gd := lw_in 472 (by decide +kernel) rfl
set_option maxRecDepth 20000 in
theorem wS_X6_holds : Cond.selects "StateShares$RuleList" (yX6_holds) (yX6_holds) ∈ lw_gd := lw_inS (q := ((yX6_holds), 6)) 12 (by decide +kernel)
set_option maxRecDepth 20000 in
theorem wI_StateShares_RuleList : Cond.initialized "StateShares$RuleList" ∈ lw_gd := lw_in 4 (by decide +kernel) rfl
set_option maxRecDepth 20000 in
theorem wc_X6_holds : Cond.code yX6_holds cX6_holds 5 (some .boolean) ∈ lw_gd := lw_in 473 (by decide +kernel) rfl
set_option maxRecDepth 20000 in
theorem wM_X6_36 : Cond.methodLink "StateShares$RuleList" 36 (yX6_valueOf) ∈ lw_gd := lw_in 481 (by decide +kernel) rfl
set_option maxRecDepth 20000 in
theorem ws_X6_valueOf : Cond.static (yX6_valueOf) ∈ lw_gd := lw_in 482 (by decide +kernel) rfl
set_option maxRecDepth 20000 in
theorem wc_X6_valueOf : Cond.code yX6_valueOf cX6_valueOf 3 (some .int) ∈ lw_gd := lw_in 483 (by decide +kernel) rfl
set_option maxRecDepth 20000 in
theorem wM_X6_40 : Cond.methodLink "StateShares$RuleList" 40 (yX6_amountOf) ∈ lw_gd := lw_in 474 (by decide +kernel) rfl
set_option maxRecDepth 20000 in
theorem wi_X6_amountOf : Cond.instanceMethod (yX6_amountOf) ∈ lw_gd := lw_in 476 (by decide +kernel) rfl
set_option maxRecDepth 20000 in
theorem wS_X6_amountOf : Cond.selects "StateShares$RuleList" (yX6_amountOf) (yX6_amountOf) ∈ lw_gd := lw_inS (q := ((yX6_amountOf), 6)) 13 (by decide +kernel)
set_option maxRecDepth 20000 in
theorem wc_X6_amountOf : Cond.code yX6_amountOf cX6_amountOf 4 (some .int) ∈ lw_gd := lw_in 477 (by decide +kernel) rfl
set_option maxRecDepth 20000 in
theorem wM_X6_43 : Cond.methodLink "StateShares$RuleList" 43 (yX6_howMany) ∈ lw_gd := lw_in 478 (by decide +kernel) rfl
set_option maxRecDepth 20000 in
theorem ws_X6_howMany : Cond.static (yX6_howMany) ∈ lw_gd := lw_in 479 (by decide +kernel) rfl
set_option maxRecDepth 20000 in
theorem wc_X6_howMany : Cond.code yX6_howMany cX6_howMany 5 (some .int) ∈ lw_gd := lw_in 480 (by decide +kernel) rfl
set_option maxRecDepth 20000 in
theorem wM_X7_1 : Cond.methodLink "StateShares$Rules" 1 (objectInit) ∈ lw_gd := lw_in 42 (by decide +kernel) rfl
set_option maxRecDepth 20000 in
theorem wF_X7_7 : Cond.fieldLink "StateShares$Rules" 7 "StateShares$Rules" "n" "I" ∈ lw_gd := lw_in 74 (by decide +kernel) rfl
set_option maxRecDepth 20000 in
theorem wF_X7_13 : Cond.fieldLink "StateShares$Rules" 13 "StateShares$Rules" "text" "[C" ∈ lw_gd := lw_in 75 (by decide +kernel) rfl
set_option maxRecDepth 20000 in
theorem wF_X7_17 : Cond.fieldLink "StateShares$Rules" 17 "StateShares$Rules" "wordStarts" "[I" ∈ lw_gd := lw_in 77 (by decide +kernel) rfl
set_option maxRecDepth 20000 in
theorem wF_X7_21 : Cond.fieldLink "StateShares$Rules" 21 "StateShares$Rules" "wordEnds" "[I" ∈ lw_gd := lw_in 78 (by decide +kernel) rfl
set_option maxRecDepth 20000 in
theorem wC_X7_24 : Cond.classLink "StateShares$Rules" 24 "StateShares$RuleList" ∈ lw_gd := lw_in 43 (by decide +kernel) rfl
set_option maxRecDepth 20000 in
theorem wN_StateShares_RuleList : Cond.instantiable "StateShares$RuleList" 6 ∈ lw_gd := lw_in 44 (by decide +kernel) rfl
set_option maxRecDepth 20000 in
theorem wM_X7_26 : Cond.methodLink "StateShares$Rules" 26 (yX6_init) ∈ lw_gd := lw_in 45 (by decide +kernel) rfl
set_option maxRecDepth 20000 in
theorem wi_X6_init : Cond.instanceMethod (yX6_init) ∈ lw_gd := lw_in 46 (by decide +kernel) rfl
set_option maxRecDepth 20000 in
theorem wc_X6_init : Cond.code yX6_init cX6_init 1 none ∈ lw_gd := lw_in 47 (by decide +kernel) rfl
set_option maxRecDepth 20000 in
theorem wF_X7_27 : Cond.fieldLink "StateShares$Rules" 27 "StateShares$Rules" "holding" "LStateShares$RuleList;" ∈ lw_gd := lw_in 81 (by decide +kernel) rfl
set_option maxRecDepth 20000 in
theorem wF_X7_31 : Cond.fieldLink "StateShares$Rules" 31 "StateShares$Rules" "draft" "LStateShares$RuleList;" ∈ lw_gd := lw_in 82 (by decide +kernel) rfl
set_option maxRecDepth 20000 in
theorem wM_X7_34 : Cond.methodLink "StateShares$Rules" 34 (yX6_add) ∈ lw_gd := lw_in 70 (by decide +kernel) rfl
set_option maxRecDepth 20000 in
theorem wi_X6_add : Cond.instanceMethod (yX6_add) ∈ lw_gd := lw_in 71 (by decide +kernel) rfl
set_option maxRecDepth 20000 in
theorem wS_X6_add : Cond.selects "StateShares$RuleList" (yX6_add) (yX6_add) ∈ lw_gd := lw_in 72 (by decide +kernel) rfl
set_option maxRecDepth 20000 in
theorem wc_X6_add : Cond.code yX6_add cX6_add 6 none ∈ lw_gd := lw_in 73 (by decide +kernel) rfl
set_option maxRecDepth 20000 in
theorem wF_X7_38 : Cond.fieldLink "StateShares$Rules" 38 "StateShares$Rules" "length" "I" ∈ lw_gd := lw_in 76 (by decide +kernel) rfl
set_option maxRecDepth 20000 in
theorem wM_X7_41 : Cond.methodLink "StateShares$Rules" 41 (yX6_judge) ∈ lw_gd := lw_in 466 (by decide +kernel) rfl
set_option maxRecDepth 20000 in
theorem wi_X6_judge : Cond.instanceMethod (yX6_judge) ∈ lw_gd := lw_in 467 (by decide +kernel) rfl
set_option maxRecDepth 20000 in
theorem wS_X6_judge : Cond.selects "StateShares$RuleList" (yX6_judge) (yX6_judge) ∈ lw_gd := lw_in 468 (by decide +kernel) rfl
set_option maxRecDepth 20000 in
theorem wc_X6_judge : Cond.code yX6_judge cX6_judge 4 (some .int) ∈ lw_gd := lw_in 469 (by decide +kernel) rfl
set_option maxRecDepth 20000 in
theorem wM_X7_45 : Cond.methodLink "StateShares$Rules" 45 (yX7_splitWords) ∈ lw_gd := lw_in 338 (by decide +kernel) rfl
set_option maxRecDepth 20000 in
theorem wi_X7_splitWords : Cond.instanceMethod (yX7_splitWords) ∈ lw_gd := lw_in 340 (by decide +kernel) rfl
set_option maxRecDepth 20000 in
theorem wS_X7_splitWords : Cond.selects "StateShares$Rules" (yX7_splitWords) (yX7_splitWords) ∈ lw_gd := lw_inS (q := ((yX7_splitWords), 9)) 0 (by decide +kernel)
set_option maxRecDepth 20000 in
theorem wc_X7_splitWords : Cond.code yX7_splitWords cX7_splitWords 4 none ∈ lw_gd := lw_in 341 (by decide +kernel) rfl
set_option maxRecDepth 20000 in
theorem wF_X7_48 : Cond.fieldLink "StateShares$Rules" 48 "StateShares$Rules" "next" "I" ∈ lw_gd := lw_in 80 (by decide +kernel) rfl
set_option maxRecDepth 20000 in
theorem wM_X7_51 : Cond.methodLink "StateShares$Rules" 51 (yX6_clear) ∈ lw_gd := lw_in 352 (by decide +kernel) rfl
set_option maxRecDepth 20000 in
theorem wi_X6_clear : Cond.instanceMethod (yX6_clear) ∈ lw_gd := lw_in 353 (by decide +kernel) rfl
set_option maxRecDepth 20000 in
theorem wS_X6_clear : Cond.selects "StateShares$RuleList" (yX6_clear) (yX6_clear) ∈ lw_gd := lw_in 354 (by decide +kernel) rfl
set_option maxRecDepth 20000 in
theorem wc_X6_clear : Cond.code yX6_clear cX6_clear 1 none ∈ lw_gd := lw_in 355 (by decide +kernel) rfl
set_option maxRecDepth 20000 in
theorem wM_X7_54 : Cond.methodLink "StateShares$Rules" 54 (yX7_readRules) ∈ lw_gd := lw_in 356 (by decide +kernel) rfl
set_option maxRecDepth 20000 in
theorem wi_X7_readRules : Cond.instanceMethod (yX7_readRules) ∈ lw_gd := lw_in 358 (by decide +kernel) rfl
set_option maxRecDepth 20000 in
theorem wS_X7_readRules : Cond.selects "StateShares$Rules" (yX7_readRules) (yX7_readRules) ∈ lw_gd := lw_inS (q := ((yX7_readRules), 9)) 2 (by decide +kernel)
set_option maxRecDepth 20000 in
theorem wc_X7_readRules : Cond.code yX7_readRules cX7_readRules 2 (some .boolean) ∈ lw_gd := lw_in 359 (by decide +kernel) rfl
set_option maxRecDepth 20000 in
theorem wM_X7_58 : Cond.methodLink "StateShares$Rules" 58 (yX6_size) ∈ lw_gd := lw_in 446 (by decide +kernel) rfl
set_option maxRecDepth 20000 in
theorem wi_X6_size : Cond.instanceMethod (yX6_size) ∈ lw_gd := lw_in 447 (by decide +kernel) rfl
set_option maxRecDepth 20000 in
theorem wS_X6_size : Cond.selects "StateShares$RuleList" (yX6_size) (yX6_size) ∈ lw_gd := lw_in 448 (by decide +kernel) rfl
set_option maxRecDepth 20000 in
theorem wc_X6_size : Cond.code yX6_size cX6_size 1 (some .int) ∈ lw_gd := lw_in 449 (by decide +kernel) rfl
set_option maxRecDepth 20000 in
theorem wF_X7_62 : Cond.fieldLink "StateShares$Rules" 62 "StateShares$Rules" "words" "I" ∈ lw_gd := lw_in 79 (by decide +kernel) rfl
set_option maxRecDepth 20000 in
theorem wM_X7_65 : Cond.methodLink "StateShares$Rules" 65 (yX7_wordEnd) ∈ lw_gd := lw_in 342 (by decide +kernel) rfl
set_option maxRecDepth 20000 in
theorem wi_X7_wordEnd : Cond.instanceMethod (yX7_wordEnd) ∈ lw_gd := lw_in 344 (by decide +kernel) rfl
set_option maxRecDepth 20000 in
theorem wS_X7_wordEnd : Cond.selects "StateShares$Rules" (yX7_wordEnd) (yX7_wordEnd) ∈ lw_gd := lw_inS (q := ((yX7_wordEnd), 9)) 1 (by decide +kernel)
set_option maxRecDepth 20000 in
theorem wc_X7_wordEnd : Cond.code yX7_wordEnd cX7_wordEnd 3 (some .int) ∈ lw_gd := lw_in 345 (by decide +kernel) rfl
set_option maxRecDepth 20000 in
theorem wM_X7_69 : Cond.methodLink "StateShares$Rules" 69 (yX7_isLetter) ∈ lw_gd := lw_in 346 (by decide +kernel) rfl
set_option maxRecDepth 20000 in
theorem ws_X7_isLetter : Cond.static (yX7_isLetter) ∈ lw_gd := lw_in 347 (by decide +kernel) rfl
set_option maxRecDepth 20000 in
theorem wc_X7_isLetter : Cond.code yX7_isLetter cX7_isLetter 1 (some .boolean) ∈ lw_gd := lw_in 348 (by decide +kernel) rfl
set_option maxRecDepth 20000 in
theorem wM_X7_73 : Cond.methodLink "StateShares$Rules" 73 (yX7_isDigit) ∈ lw_gd := lw_in 349 (by decide +kernel) rfl
set_option maxRecDepth 20000 in
theorem ws_X7_isDigit : Cond.static (yX7_isDigit) ∈ lw_gd := lw_in 350 (by decide +kernel) rfl
set_option maxRecDepth 20000 in
theorem wc_X7_isDigit : Cond.code yX7_isDigit cX7_isDigit 1 (some .boolean) ∈ lw_gd := lw_in 351 (by decide +kernel) rfl
set_option maxRecDepth 20000 in
theorem wM_X7_76 : Cond.methodLink "StateShares$Rules" 76 (yX7_readRule) ∈ lw_gd := lw_in 360 (by decide +kernel) rfl
set_option maxRecDepth 20000 in
theorem wi_X7_readRule : Cond.instanceMethod (yX7_readRule) ∈ lw_gd := lw_in 362 (by decide +kernel) rfl
set_option maxRecDepth 20000 in
theorem wS_X7_readRule : Cond.selects "StateShares$Rules" (yX7_readRule) (yX7_readRule) ∈ lw_gd := lw_inS (q := ((yX7_readRule), 9)) 3 (by decide +kernel)
set_option maxRecDepth 20000 in
theorem wc_X7_readRule : Cond.code yX7_readRule cX7_readRule 5 (some .boolean) ∈ lw_gd := lw_in 363 (by decide +kernel) rfl
set_option maxRecDepth 20000 in
theorem wM_X7_81 : Cond.methodLink "StateShares$Rules" 81 (yX7_wordIs) ∈ lw_gd := lw_in 369 (by decide +kernel) rfl
set_option maxRecDepth 20000 in
theorem wi_X7_wordIs : Cond.instanceMethod (yX7_wordIs) ∈ lw_gd := lw_in 371 (by decide +kernel) rfl
set_option maxRecDepth 20000 in
theorem wS_X7_wordIs : Cond.selects "StateShares$Rules" (yX7_wordIs) (yX7_wordIs) ∈ lw_gd := lw_inS (q := ((yX7_wordIs), 9)) 5 (by decide +kernel)
set_option maxRecDepth 20000 in
theorem wc_X7_wordIs : Cond.code yX7_wordIs cX7_wordIs 4 (some .boolean) ∈ lw_gd := lw_in 372 (by decide +kernel) rfl
set_option maxRecDepth 20000 in
theorem wM_X7_85 : Cond.methodLink "StateShares$Rules" 85 (yX7_amountAt) ∈ lw_gd := lw_in 364 (by decide +kernel) rfl
set_option maxRecDepth 20000 in
theorem wi_X7_amountAt : Cond.instanceMethod (yX7_amountAt) ∈ lw_gd := lw_in 366 (by decide +kernel) rfl
set_option maxRecDepth 20000 in
theorem wS_X7_amountAt : Cond.selects "StateShares$Rules" (yX7_amountAt) (yX7_amountAt) ∈ lw_gd := lw_inS (q := ((yX7_amountAt), 9)) 4 (by decide +kernel)
set_option maxRecDepth 20000 in
theorem wc_X7_amountAt : Cond.code yX7_amountAt cX7_amountAt 2 (some .int) ∈ lw_gd := lw_in 367 (by decide +kernel) rfl
set_option maxRecDepth 20000 in
theorem wM_X7_95 : Cond.methodLink "StateShares$Rules" 95 (yX7_isComparison) ∈ lw_gd := lw_in 423 (by decide +kernel) rfl
set_option maxRecDepth 20000 in
theorem wi_X7_isComparison : Cond.instanceMethod (yX7_isComparison) ∈ lw_gd := lw_in 425 (by decide +kernel) rfl
set_option maxRecDepth 20000 in
theorem wS_X7_isComparison : Cond.selects "StateShares$Rules" (yX7_isComparison) (yX7_isComparison) ∈ lw_gd := lw_inS (q := ((yX7_isComparison), 9)) 6 (by decide +kernel)
set_option maxRecDepth 20000 in
theorem wc_X7_isComparison : Cond.code yX7_isComparison cX7_isComparison 2 (some .boolean) ∈ lw_gd := lw_in 426 (by decide +kernel) rfl
set_option maxRecDepth 20000 in
theorem wM_X7_92 : Cond.methodLink "StateShares$Rules" 92 (yX7_numberAt) ∈ lw_gd := lw_in 440 (by decide +kernel) rfl
set_option maxRecDepth 20000 in
theorem wi_X7_numberAt : Cond.instanceMethod (yX7_numberAt) ∈ lw_gd := lw_in 442 (by decide +kernel) rfl
set_option maxRecDepth 20000 in
theorem wS_X7_numberAt : Cond.selects "StateShares$Rules" (yX7_numberAt) (yX7_numberAt) ∈ lw_gd := lw_inS (q := ((yX7_numberAt), 9)) 9 (by decide +kernel)
set_option maxRecDepth 20000 in
theorem wc_X7_numberAt : Cond.code yX7_numberAt cX7_numberAt 4 (some .int) ∈ lw_gd := lw_in 443 (by decide +kernel) rfl
set_option maxRecDepth 20000 in
theorem wM_X7_88 : Cond.methodLink "StateShares$Rules" 88 (yX7_readValue) ∈ lw_gd := lw_in 431 (by decide +kernel) rfl
set_option maxRecDepth 20000 in
theorem wi_X7_readValue : Cond.instanceMethod (yX7_readValue) ∈ lw_gd := lw_in 433 (by decide +kernel) rfl
set_option maxRecDepth 20000 in
theorem wS_X7_readValue : Cond.selects "StateShares$Rules" (yX7_readValue) (yX7_readValue) ∈ lw_gd := lw_inS (q := ((yX7_readValue), 9)) 7 (by decide +kernel)
set_option maxRecDepth 20000 in
theorem wc_X7_readValue : Cond.code yX7_readValue cX7_readValue 6 (some .boolean) ∈ lw_gd := lw_in 434 (by decide +kernel) rfl
set_option maxRecDepth 20000 in
theorem wM_X7_101 : Cond.methodLink "StateShares$Rules" 101 (yX7_valueAt) ∈ lw_gd := lw_in 435 (by decide +kernel) rfl
set_option maxRecDepth 20000 in
theorem wi_X7_valueAt : Cond.instanceMethod (yX7_valueAt) ∈ lw_gd := lw_in 437 (by decide +kernel) rfl
set_option maxRecDepth 20000 in
theorem wS_X7_valueAt : Cond.selects "StateShares$Rules" (yX7_valueAt) (yX7_valueAt) ∈ lw_gd := lw_inS (q := ((yX7_valueAt), 9)) 8 (by decide +kernel)
set_option maxRecDepth 20000 in
theorem wc_X7_valueAt : Cond.code yX7_valueAt cX7_valueAt 3 (some .int) ∈ lw_gd := lw_in 438 (by decide +kernel) rfl
abbrev M_X6_add : xM := (yX6_add, cX6_add, 6, none, { frames := 0, cells := 0, slots := 0, locals := 0 })
abbrev M_X6_amountOf : xM := (yX6_amountOf, cX6_amountOf, 4, (some .int), { frames := 1, cells := 0, slots := 0, locals := 24 })
abbrev M_X6_clear : xM := (yX6_clear, cX6_clear, 1, none, { frames := 0, cells := 0, slots := 0, locals := 0 })
abbrev M_X6_holds : xM := (yX6_holds, cX6_holds, 5, (some .boolean), { frames := 2, cells := 0, slots := 0, locals := 47 })
abbrev M_X6_howMany : xM := (yX6_howMany, cX6_howMany, 5, (some .int), { frames := 0, cells := 0, slots := 0, locals := 0 })
abbrev M_X6_init : xM := (yX6_init, cX6_init, 1, none, { frames := 1, cells := 5, slots := 100, locals := 20 })
abbrev M_X6_judge : xM := (yX6_judge, cX6_judge, 4, (some .int), { frames := 3, cells := 0, slots := 0, locals := 71 })
abbrev M_X6_size : xM := (yX6_size, cX6_size, 1, (some .int), { frames := 0, cells := 0, slots := 0, locals := 0 })
abbrev M_X6_valueOf : xM := (yX6_valueOf, cX6_valueOf, 3, (some .int), { frames := 0, cells := 0, slots := 0, locals := 0 })
abbrev M_X7_amountAt : xM := (yX7_amountAt, cX7_amountAt, 2, (some .int), { frames := 6, cells := 0, slots := 0, locals := 129 })
abbrev M_X7_collect : xM := (yX7_collect, cX7_collect, 2, (some .boolean), { frames := 0, cells := 0, slots := 0, locals := 0 })
abbrev M_X7_init : xM := (yX7_init, cX7_init, 2, none, { frames := 2, cells := 15, slots := 572, locals := 40 })
abbrev M_X7_isComparison : xM := (yX7_isComparison, cX7_isComparison, 2, (some .boolean), { frames := 5, cells := 0, slots := 0, locals := 108 })
abbrev M_X7_isDigit : xM := (yX7_isDigit, cX7_isDigit, 1, (some .boolean), { frames := 0, cells := 0, slots := 0, locals := 0 })
abbrev M_X7_isLetter : xM := (yX7_isLetter, cX7_isLetter, 1, (some .boolean), { frames := 0, cells := 0, slots := 0, locals := 0 })
abbrev M_X7_numberAt : xM := (yX7_numberAt, cX7_numberAt, 4, (some .int), { frames := 1, cells := 0, slots := 0, locals := 20 })
abbrev M_X7_readCollected : xM := (yX7_readCollected, cX7_readCollected, 2, (some .int), { frames := 9, cells := 0, slots := 0, locals := 200 })
abbrev M_X7_readRule : xM := (yX7_readRule, cX7_readRule, 5, (some .boolean), { frames := 7, cells := 0, slots := 0, locals := 155 })
abbrev M_X7_readRules : xM := (yX7_readRules, cX7_readRules, 2, (some .boolean), { frames := 8, cells := 0, slots := 0, locals := 179 })
abbrev M_X7_readValue : xM := (yX7_readValue, cX7_readValue, 6, (some .boolean), { frames := 6, cells := 0, slots := 0, locals := 130 })
abbrev M_X7_splitWords : xM := (yX7_splitWords, cX7_splitWords, 4, none, { frames := 2, cells := 0, slots := 0, locals := 42 })
abbrev M_X7_valueAt : xM := (yX7_valueAt, cX7_valueAt, 3, (some .int), { frames := 5, cells := 0, slots := 0, locals := 108 })
abbrev M_X7_wordEnd : xM := (yX7_wordEnd, cX7_wordEnd, 3, (some .int), { frames := 1, cells := 0, slots := 0, locals := 20 })
abbrev M_X7_wordIs : xM := (yX7_wordIs, cX7_wordIs, 4, (some .boolean), { frames := 4, cells := 0, slots := 0, locals := 85 })
theorem dX6_init_0 : decode cX6_init 0 = .ok (.aload_n 0, 1) := by decide +kernel
theorem dX6_init_1 : decode cX6_init 1 = .ok (.invokespecial 3, 3) := by decide +kernel
theorem dX6_init_4 : decode cX6_init 4 = .ok (.aload_n 0, 1) := by decide +kernel
theorem dX6_init_5 : decode cX6_init 5 = .ok (.bipush 20, 2) := by decide +kernel
theorem dX6_init_7 : decode cX6_init 7 = .ok (.newarray .int, 2) := by decide +kernel
theorem dX6_init_9 : decode cX6_init 9 = .ok (.putfield 11, 3) := by decide +kernel
theorem dX6_init_12 : decode cX6_init 12 = .ok (.aload_n 0, 1) := by decide +kernel
theorem dX6_init_13 : decode cX6_init 13 = .ok (.bipush 20, 2) := by decide +kernel
theorem dX6_init_15 : decode cX6_init 15 = .ok (.newarray .int, 2) := by decide +kernel
theorem dX6_init_17 : decode cX6_init 17 = .ok (.putfield 15, 3) := by decide +kernel
theorem dX6_init_20 : decode cX6_init 20 = .ok (.aload_n 0, 1) := by decide +kernel
theorem dX6_init_21 : decode cX6_init 21 = .ok (.bipush 20, 2) := by decide +kernel
theorem dX6_init_23 : decode cX6_init 23 = .ok (.newarray .char, 2) := by decide +kernel
theorem dX6_init_25 : decode cX6_init 25 = .ok (.putfield 18, 3) := by decide +kernel
theorem dX6_init_28 : decode cX6_init 28 = .ok (.aload_n 0, 1) := by decide +kernel
theorem dX6_init_29 : decode cX6_init 29 = .ok (.bipush 20, 2) := by decide +kernel
theorem dX6_init_31 : decode cX6_init 31 = .ok (.newarray .int, 2) := by decide +kernel
theorem dX6_init_33 : decode cX6_init 33 = .ok (.putfield 22, 3) := by decide +kernel
theorem dX6_init_36 : decode cX6_init 36 = .ok (.aload_n 0, 1) := by decide +kernel
theorem dX6_init_37 : decode cX6_init 37 = .ok (.bipush 20, 2) := by decide +kernel
theorem dX6_init_39 : decode cX6_init 39 = .ok (.newarray .int, 2) := by decide +kernel
theorem dX6_init_41 : decode cX6_init 41 = .ok (.putfield 25, 3) := by decide +kernel
theorem dX6_init_44 : decode cX6_init 44 = .ok (.return_, 1) := by decide +kernel
theorem dX6_clear_0 : decode cX6_clear 0 = .ok (.aload_n 0, 1) := by decide +kernel
theorem dX6_clear_1 : decode cX6_clear 1 = .ok (.iconst 0, 1) := by decide +kernel
theorem dX6_clear_2 : decode cX6_clear 2 = .ok (.putfield 28, 3) := by decide +kernel
theorem dX6_clear_5 : decode cX6_clear 5 = .ok (.return_, 1) := by decide +kernel
theorem dX6_size_0 : decode cX6_size 0 = .ok (.aload_n 0, 1) := by decide +kernel
theorem dX6_size_1 : decode cX6_size 1 = .ok (.getfield 28, 3) := by decide +kernel
theorem dX6_size_4 : decode cX6_size 4 = .ok (.ireturn, 1) := by decide +kernel
theorem dX6_add_0 : decode cX6_add 0 = .ok (.aload_n 0, 1) := by decide +kernel
theorem dX6_add_1 : decode cX6_add 1 = .ok (.getfield 28, 3) := by decide +kernel
theorem dX6_add_4 : decode cX6_add 4 = .ok (.bipush 20, 2) := by decide +kernel
theorem dX6_add_6 : decode cX6_add 6 = .ok (.if_icmp .ge 65, 3) := by decide +kernel
theorem dX6_add_9 : decode cX6_add 9 = .ok (.aload_n 0, 1) := by decide +kernel
theorem dX6_add_10 : decode cX6_add 10 = .ok (.getfield 11, 3) := by decide +kernel
theorem dX6_add_13 : decode cX6_add 13 = .ok (.aload_n 0, 1) := by decide +kernel
theorem dX6_add_14 : decode cX6_add 14 = .ok (.getfield 28, 3) := by decide +kernel
theorem dX6_add_17 : decode cX6_add 17 = .ok (.iload_n 1, 1) := by decide +kernel
theorem dX6_add_18 : decode cX6_add 18 = .ok (.iastore, 1) := by decide +kernel
theorem dX6_add_19 : decode cX6_add 19 = .ok (.aload_n 0, 1) := by decide +kernel
theorem dX6_add_20 : decode cX6_add 20 = .ok (.getfield 15, 3) := by decide +kernel
theorem dX6_add_23 : decode cX6_add 23 = .ok (.aload_n 0, 1) := by decide +kernel
theorem dX6_add_24 : decode cX6_add 24 = .ok (.getfield 28, 3) := by decide +kernel
theorem dX6_add_27 : decode cX6_add 27 = .ok (.iload_n 2, 1) := by decide +kernel
theorem dX6_add_28 : decode cX6_add 28 = .ok (.iastore, 1) := by decide +kernel
theorem dX6_add_29 : decode cX6_add 29 = .ok (.aload_n 0, 1) := by decide +kernel
theorem dX6_add_30 : decode cX6_add 30 = .ok (.getfield 18, 3) := by decide +kernel
theorem dX6_add_33 : decode cX6_add 33 = .ok (.aload_n 0, 1) := by decide +kernel
theorem dX6_add_34 : decode cX6_add 34 = .ok (.getfield 28, 3) := by decide +kernel
theorem dX6_add_37 : decode cX6_add 37 = .ok (.iload_n 3, 1) := by decide +kernel
theorem dX6_add_38 : decode cX6_add 38 = .ok (.castore, 1) := by decide +kernel
theorem dX6_add_39 : decode cX6_add 39 = .ok (.aload_n 0, 1) := by decide +kernel
theorem dX6_add_40 : decode cX6_add 40 = .ok (.getfield 22, 3) := by decide +kernel
theorem dX6_add_43 : decode cX6_add 43 = .ok (.aload_n 0, 1) := by decide +kernel
theorem dX6_add_44 : decode cX6_add 44 = .ok (.getfield 28, 3) := by decide +kernel
theorem dX6_add_47 : decode cX6_add 47 = .ok (.iload 4, 2) := by decide +kernel
theorem dX6_add_49 : decode cX6_add 49 = .ok (.iastore, 1) := by decide +kernel
theorem dX6_add_50 : decode cX6_add 50 = .ok (.aload_n 0, 1) := by decide +kernel
theorem dX6_add_51 : decode cX6_add 51 = .ok (.getfield 25, 3) := by decide +kernel
theorem dX6_add_54 : decode cX6_add 54 = .ok (.aload_n 0, 1) := by decide +kernel
theorem dX6_add_55 : decode cX6_add 55 = .ok (.getfield 28, 3) := by decide +kernel
theorem dX6_add_58 : decode cX6_add 58 = .ok (.iload 5, 2) := by decide +kernel
theorem dX6_add_60 : decode cX6_add 60 = .ok (.iastore, 1) := by decide +kernel
theorem dX6_add_61 : decode cX6_add 61 = .ok (.aload_n 0, 1) := by decide +kernel
theorem dX6_add_62 : decode cX6_add 62 = .ok (.dup, 1) := by decide +kernel
theorem dX6_add_63 : decode cX6_add 63 = .ok (.getfield 28, 3) := by decide +kernel
theorem dX6_add_66 : decode cX6_add 66 = .ok (.iconst 1, 1) := by decide +kernel
theorem dX6_add_67 : decode cX6_add 67 = .ok (.iadd, 1) := by decide +kernel
theorem dX6_add_68 : decode cX6_add 68 = .ok (.putfield 28, 3) := by decide +kernel
theorem dX6_add_71 : decode cX6_add 71 = .ok (.return_, 1) := by decide +kernel
theorem dX6_judge_0 : decode cX6_judge 0 = .ok (.iload_n 2, 1) := by decide +kernel
theorem dX6_judge_1 : decode cX6_judge 1 = .ok (.iconst 1, 1) := by decide +kernel
theorem dX6_judge_2 : decode cX6_judge 2 = .ok (.if_icmp .lt 9, 3) := by decide +kernel
theorem dX6_judge_5 : decode cX6_judge 5 = .ok (.iload_n 2, 1) := by decide +kernel
theorem dX6_judge_6 : decode cX6_judge 6 = .ok (.aload_n 1, 1) := by decide +kernel
theorem dX6_judge_7 : decode cX6_judge 7 = .ok (.arraylength, 1) := by decide +kernel
theorem dX6_judge_8 : decode cX6_judge 8 = .ok (.if_icmp .le 5, 3) := by decide +kernel
theorem dX6_judge_11 : decode cX6_judge 11 = .ok (.iconst (-1), 1) := by decide +kernel
theorem dX6_judge_12 : decode cX6_judge 12 = .ok (.ireturn, 1) := by decide +kernel
theorem dX6_judge_13 : decode cX6_judge 13 = .ok (.iconst 0, 1) := by decide +kernel
theorem dX6_judge_14 : decode cX6_judge 14 = .ok (.istore_n 3, 1) := by decide +kernel
theorem dX6_judge_15 : decode cX6_judge 15 = .ok (.iload_n 3, 1) := by decide +kernel
theorem dX6_judge_16 : decode cX6_judge 16 = .ok (.aload_n 0, 1) := by decide +kernel
theorem dX6_judge_17 : decode cX6_judge 17 = .ok (.getfield 28, 3) := by decide +kernel
theorem dX6_judge_20 : decode cX6_judge 20 = .ok (.if_icmp .ge 31, 3) := by decide +kernel
theorem dX6_judge_23 : decode cX6_judge 23 = .ok (.aload_n 0, 1) := by decide +kernel
theorem dX6_judge_24 : decode cX6_judge 24 = .ok (.iload_n 3, 1) := by decide +kernel
theorem dX6_judge_25 : decode cX6_judge 25 = .ok (.aload_n 1, 1) := by decide +kernel
theorem dX6_judge_26 : decode cX6_judge 26 = .ok (.iload_n 2, 1) := by decide +kernel
theorem dX6_judge_27 : decode cX6_judge 27 = .ok (.invokevirtual 32, 3) := by decide +kernel
theorem dX6_judge_30 : decode cX6_judge 30 = .ok (.ifCond .eq 15, 3) := by decide +kernel
theorem dX6_judge_33 : decode cX6_judge 33 = .ok (.aload_n 0, 1) := by decide +kernel
theorem dX6_judge_34 : decode cX6_judge 34 = .ok (.getfield 25, 3) := by decide +kernel
theorem dX6_judge_37 : decode cX6_judge 37 = .ok (.iload_n 3, 1) := by decide +kernel
theorem dX6_judge_38 : decode cX6_judge 38 = .ok (.iaload, 1) := by decide +kernel
theorem dX6_judge_39 : decode cX6_judge 39 = .ok (.aload_n 1, 1) := by decide +kernel
theorem dX6_judge_40 : decode cX6_judge 40 = .ok (.iload_n 2, 1) := by decide +kernel
theorem dX6_judge_41 : decode cX6_judge 41 = .ok (.invokestatic 36, 3) := by decide +kernel
theorem dX6_judge_44 : decode cX6_judge 44 = .ok (.ireturn, 1) := by decide +kernel
theorem dX6_judge_45 : decode cX6_judge 45 = .ok (.iinc 3 1, 3) := by decide +kernel
theorem dX6_judge_48 : decode cX6_judge 48 = .ok (.goto (-33), 3) := by decide +kernel
theorem dX6_judge_51 : decode cX6_judge 51 = .ok (.aload_n 1, 1) := by decide +kernel
theorem dX6_judge_52 : decode cX6_judge 52 = .ok (.iload_n 2, 1) := by decide +kernel
theorem dX6_judge_53 : decode cX6_judge 53 = .ok (.iconst 1, 1) := by decide +kernel
theorem dX6_judge_54 : decode cX6_judge 54 = .ok (.isub, 1) := by decide +kernel
theorem dX6_judge_55 : decode cX6_judge 55 = .ok (.iaload, 1) := by decide +kernel
theorem dX6_judge_56 : decode cX6_judge 56 = .ok (.ireturn, 1) := by decide +kernel
theorem dX6_holds_0 : decode cX6_holds 0 = .ok (.aload_n 0, 1) := by decide +kernel
theorem dX6_holds_1 : decode cX6_holds 1 = .ok (.getfield 11, 3) := by decide +kernel
theorem dX6_holds_4 : decode cX6_holds 4 = .ok (.iload_n 1, 1) := by decide +kernel
theorem dX6_holds_5 : decode cX6_holds 5 = .ok (.iaload, 1) := by decide +kernel
theorem dX6_holds_6 : decode cX6_holds 6 = .ok (.ifCond .ne 5, 3) := by decide +kernel
theorem dX6_holds_9 : decode cX6_holds 9 = .ok (.iconst 1, 1) := by decide +kernel
theorem dX6_holds_10 : decode cX6_holds 10 = .ok (.ireturn, 1) := by decide +kernel
theorem dX6_holds_11 : decode cX6_holds 11 = .ok (.aload_n 0, 1) := by decide +kernel
theorem dX6_holds_12 : decode cX6_holds 12 = .ok (.iload_n 1, 1) := by decide +kernel
theorem dX6_holds_13 : decode cX6_holds 13 = .ok (.aload_n 2, 1) := by decide +kernel
theorem dX6_holds_14 : decode cX6_holds 14 = .ok (.iload_n 3, 1) := by decide +kernel
theorem dX6_holds_15 : decode cX6_holds 15 = .ok (.invokevirtual 40, 3) := by decide +kernel
theorem dX6_holds_18 : decode cX6_holds 18 = .ok (.istore 4, 2) := by decide +kernel
theorem dX6_holds_20 : decode cX6_holds 20 = .ok (.aload_n 0, 1) := by decide +kernel
theorem dX6_holds_21 : decode cX6_holds 21 = .ok (.getfield 18, 3) := by decide +kernel
theorem dX6_holds_24 : decode cX6_holds 24 = .ok (.iload_n 1, 1) := by decide +kernel
theorem dX6_holds_25 : decode cX6_holds 25 = .ok (.caload, 1) := by decide +kernel
theorem dX6_holds_26 : decode cX6_holds 26 = .ok (.bipush 60, 2) := by decide +kernel
theorem dX6_holds_28 : decode cX6_holds 28 = .ok (.if_icmp .ne 20, 3) := by decide +kernel
theorem dX6_holds_31 : decode cX6_holds 31 = .ok (.iload 4, 2) := by decide +kernel
theorem dX6_holds_33 : decode cX6_holds 33 = .ok (.aload_n 0, 1) := by decide +kernel
theorem dX6_holds_34 : decode cX6_holds 34 = .ok (.getfield 22, 3) := by decide +kernel
theorem dX6_holds_37 : decode cX6_holds 37 = .ok (.iload_n 1, 1) := by decide +kernel
theorem dX6_holds_38 : decode cX6_holds 38 = .ok (.iaload, 1) := by decide +kernel
theorem dX6_holds_39 : decode cX6_holds 39 = .ok (.if_icmp .ge 7, 3) := by decide +kernel
theorem dX6_holds_42 : decode cX6_holds 42 = .ok (.iconst 1, 1) := by decide +kernel
theorem dX6_holds_43 : decode cX6_holds 43 = .ok (.goto 4, 3) := by decide +kernel
theorem dX6_holds_46 : decode cX6_holds 46 = .ok (.iconst 0, 1) := by decide +kernel
theorem dX6_holds_47 : decode cX6_holds 47 = .ok (.ireturn, 1) := by decide +kernel
theorem dX6_holds_48 : decode cX6_holds 48 = .ok (.aload_n 0, 1) := by decide +kernel
theorem dX6_holds_49 : decode cX6_holds 49 = .ok (.getfield 18, 3) := by decide +kernel
theorem dX6_holds_52 : decode cX6_holds 52 = .ok (.iload_n 1, 1) := by decide +kernel
theorem dX6_holds_53 : decode cX6_holds 53 = .ok (.caload, 1) := by decide +kernel
theorem dX6_holds_54 : decode cX6_holds 54 = .ok (.bipush 62, 2) := by decide +kernel
theorem dX6_holds_56 : decode cX6_holds 56 = .ok (.if_icmp .ne 22, 3) := by decide +kernel
theorem dX6_holds_59 : decode cX6_holds 59 = .ok (.iload 4, 2) := by decide +kernel
theorem dX6_holds_61 : decode cX6_holds 61 = .ok (.aload_n 0, 1) := by decide +kernel
theorem dX6_holds_62 : decode cX6_holds 62 = .ok (.getfield 22, 3) := by decide +kernel
theorem dX6_holds_65 : decode cX6_holds 65 = .ok (.iload_n 1, 1) := by decide +kernel
theorem dX6_holds_66 : decode cX6_holds 66 = .ok (.iaload, 1) := by decide +kernel
theorem dX6_holds_67 : decode cX6_holds 67 = .ok (.if_icmp .le 7, 3) := by decide +kernel
theorem dX6_holds_70 : decode cX6_holds 70 = .ok (.iconst 1, 1) := by decide +kernel
theorem dX6_holds_71 : decode cX6_holds 71 = .ok (.goto 23, 3) := by decide +kernel
theorem dX6_holds_74 : decode cX6_holds 74 = .ok (.iconst 0, 1) := by decide +kernel
theorem dX6_holds_75 : decode cX6_holds 75 = .ok (.goto 19, 3) := by decide +kernel
theorem dX6_holds_78 : decode cX6_holds 78 = .ok (.iload 4, 2) := by decide +kernel
theorem dX6_holds_80 : decode cX6_holds 80 = .ok (.aload_n 0, 1) := by decide +kernel
theorem dX6_holds_81 : decode cX6_holds 81 = .ok (.getfield 22, 3) := by decide +kernel
theorem dX6_holds_84 : decode cX6_holds 84 = .ok (.iload_n 1, 1) := by decide +kernel
theorem dX6_holds_85 : decode cX6_holds 85 = .ok (.iaload, 1) := by decide +kernel
theorem dX6_holds_86 : decode cX6_holds 86 = .ok (.if_icmp .ne 7, 3) := by decide +kernel
theorem dX6_holds_89 : decode cX6_holds 89 = .ok (.iconst 1, 1) := by decide +kernel
theorem dX6_holds_90 : decode cX6_holds 90 = .ok (.goto 4, 3) := by decide +kernel
theorem dX6_holds_93 : decode cX6_holds 93 = .ok (.iconst 0, 1) := by decide +kernel
theorem dX6_holds_94 : decode cX6_holds 94 = .ok (.ireturn, 1) := by decide +kernel
theorem dX6_amountOf_0 : decode cX6_amountOf 0 = .ok (.aload_n 0, 1) := by decide +kernel
theorem dX6_amountOf_1 : decode cX6_amountOf 1 = .ok (.getfield 11, 3) := by decide +kernel
theorem dX6_amountOf_4 : decode cX6_amountOf 4 = .ok (.iload_n 1, 1) := by decide +kernel
theorem dX6_amountOf_5 : decode cX6_amountOf 5 = .ok (.iaload, 1) := by decide +kernel
theorem dX6_amountOf_6 : decode cX6_amountOf 6 = .ok (.tableswitch 38 1 3 #[26, 28, 34], 26) := by decide +kernel
theorem dX6_amountOf_32 : decode cX6_amountOf 32 = .ok (.iload_n 3, 1) := by decide +kernel
theorem dX6_amountOf_33 : decode cX6_amountOf 33 = .ok (.ireturn, 1) := by decide +kernel
theorem dX6_amountOf_34 : decode cX6_amountOf 34 = .ok (.aload_n 2, 1) := by decide +kernel
theorem dX6_amountOf_35 : decode cX6_amountOf 35 = .ok (.iload_n 3, 1) := by decide +kernel
theorem dX6_amountOf_36 : decode cX6_amountOf 36 = .ok (.iconst 1, 1) := by decide +kernel
theorem dX6_amountOf_37 : decode cX6_amountOf 37 = .ok (.isub, 1) := by decide +kernel
theorem dX6_amountOf_38 : decode cX6_amountOf 38 = .ok (.iaload, 1) := by decide +kernel
theorem dX6_amountOf_39 : decode cX6_amountOf 39 = .ok (.ireturn, 1) := by decide +kernel
theorem dX6_amountOf_40 : decode cX6_amountOf 40 = .ok (.aload_n 2, 1) := by decide +kernel
theorem dX6_amountOf_41 : decode cX6_amountOf 41 = .ok (.iconst 0, 1) := by decide +kernel
theorem dX6_amountOf_42 : decode cX6_amountOf 42 = .ok (.iaload, 1) := by decide +kernel
theorem dX6_amountOf_43 : decode cX6_amountOf 43 = .ok (.ireturn, 1) := by decide +kernel
theorem dX6_amountOf_44 : decode cX6_amountOf 44 = .ok (.aload_n 0, 1) := by decide +kernel
theorem dX6_amountOf_45 : decode cX6_amountOf 45 = .ok (.getfield 15, 3) := by decide +kernel
theorem dX6_amountOf_48 : decode cX6_amountOf 48 = .ok (.iload_n 1, 1) := by decide +kernel
theorem dX6_amountOf_49 : decode cX6_amountOf 49 = .ok (.iaload, 1) := by decide +kernel
theorem dX6_amountOf_50 : decode cX6_amountOf 50 = .ok (.aload_n 2, 1) := by decide +kernel
theorem dX6_amountOf_51 : decode cX6_amountOf 51 = .ok (.iload_n 3, 1) := by decide +kernel
theorem dX6_amountOf_52 : decode cX6_amountOf 52 = .ok (.invokestatic 43, 3) := by decide +kernel
theorem dX6_amountOf_55 : decode cX6_amountOf 55 = .ok (.ireturn, 1) := by decide +kernel
theorem dX6_howMany_0 : decode cX6_howMany 0 = .ok (.iconst 0, 1) := by decide +kernel
theorem dX6_howMany_1 : decode cX6_howMany 1 = .ok (.istore_n 3, 1) := by decide +kernel
theorem dX6_howMany_2 : decode cX6_howMany 2 = .ok (.iconst 0, 1) := by decide +kernel
theorem dX6_howMany_3 : decode cX6_howMany 3 = .ok (.istore 4, 2) := by decide +kernel
theorem dX6_howMany_5 : decode cX6_howMany 5 = .ok (.iload 4, 2) := by decide +kernel
theorem dX6_howMany_7 : decode cX6_howMany 7 = .ok (.iload_n 2, 1) := by decide +kernel
theorem dX6_howMany_8 : decode cX6_howMany 8 = .ok (.if_icmp .ge 20, 3) := by decide +kernel
theorem dX6_howMany_11 : decode cX6_howMany 11 = .ok (.aload_n 1, 1) := by decide +kernel
theorem dX6_howMany_12 : decode cX6_howMany 12 = .ok (.iload 4, 2) := by decide +kernel
theorem dX6_howMany_14 : decode cX6_howMany 14 = .ok (.iaload, 1) := by decide +kernel
theorem dX6_howMany_15 : decode cX6_howMany 15 = .ok (.iload_n 0, 1) := by decide +kernel
theorem dX6_howMany_16 : decode cX6_howMany 16 = .ok (.if_icmp .ne 6, 3) := by decide +kernel
theorem dX6_howMany_19 : decode cX6_howMany 19 = .ok (.iinc 3 1, 3) := by decide +kernel
theorem dX6_howMany_22 : decode cX6_howMany 22 = .ok (.iinc 4 1, 3) := by decide +kernel
theorem dX6_howMany_25 : decode cX6_howMany 25 = .ok (.goto (-20), 3) := by decide +kernel
theorem dX6_howMany_28 : decode cX6_howMany 28 = .ok (.iload_n 3, 1) := by decide +kernel
theorem dX6_howMany_29 : decode cX6_howMany 29 = .ok (.ireturn, 1) := by decide +kernel
theorem dX6_valueOf_0 : decode cX6_valueOf 0 = .ok (.iload_n 0, 1) := by decide +kernel
theorem dX6_valueOf_1 : decode cX6_valueOf 1 = .ok (.tableswitch 43 1000 1002 #[27, 33, 37], 27) := by decide +kernel
theorem dX6_valueOf_28 : decode cX6_valueOf 28 = .ok (.aload_n 1, 1) := by decide +kernel
theorem dX6_valueOf_29 : decode cX6_valueOf 29 = .ok (.iload_n 2, 1) := by decide +kernel
theorem dX6_valueOf_30 : decode cX6_valueOf 30 = .ok (.iconst 1, 1) := by decide +kernel
theorem dX6_valueOf_31 : decode cX6_valueOf 31 = .ok (.isub, 1) := by decide +kernel
theorem dX6_valueOf_32 : decode cX6_valueOf 32 = .ok (.iaload, 1) := by decide +kernel
theorem dX6_valueOf_33 : decode cX6_valueOf 33 = .ok (.ireturn, 1) := by decide +kernel
theorem dX6_valueOf_34 : decode cX6_valueOf 34 = .ok (.aload_n 1, 1) := by decide +kernel
theorem dX6_valueOf_35 : decode cX6_valueOf 35 = .ok (.iconst 0, 1) := by decide +kernel
theorem dX6_valueOf_36 : decode cX6_valueOf 36 = .ok (.iaload, 1) := by decide +kernel
theorem dX6_valueOf_37 : decode cX6_valueOf 37 = .ok (.ireturn, 1) := by decide +kernel
theorem dX6_valueOf_38 : decode cX6_valueOf 38 = .ok (.aload_n 1, 1) := by decide +kernel
theorem dX6_valueOf_39 : decode cX6_valueOf 39 = .ok (.iload_n 2, 1) := by decide +kernel
theorem dX6_valueOf_40 : decode cX6_valueOf 40 = .ok (.iconst 2, 1) := by decide +kernel
theorem dX6_valueOf_41 : decode cX6_valueOf 41 = .ok (.idiv, 1) := by decide +kernel
theorem dX6_valueOf_42 : decode cX6_valueOf 42 = .ok (.iaload, 1) := by decide +kernel
theorem dX6_valueOf_43 : decode cX6_valueOf 43 = .ok (.ireturn, 1) := by decide +kernel
theorem dX6_valueOf_44 : decode cX6_valueOf 44 = .ok (.iload_n 0, 1) := by decide +kernel
theorem dX6_valueOf_45 : decode cX6_valueOf 45 = .ok (.ireturn, 1) := by decide +kernel
theorem dX7_init_0 : decode cX7_init 0 = .ok (.aload_n 0, 1) := by decide +kernel
theorem dX7_init_1 : decode cX7_init 1 = .ok (.invokespecial 1, 3) := by decide +kernel
theorem dX7_init_4 : decode cX7_init 4 = .ok (.aload_n 0, 1) := by decide +kernel
theorem dX7_init_5 : decode cX7_init 5 = .ok (.iload_n 1, 1) := by decide +kernel
theorem dX7_init_6 : decode cX7_init 6 = .ok (.putfield 7, 3) := by decide +kernel
theorem dX7_init_9 : decode cX7_init 9 = .ok (.aload_n 0, 1) := by decide +kernel
theorem dX7_init_10 : decode cX7_init 10 = .ok (.bipush 120, 2) := by decide +kernel
theorem dX7_init_12 : decode cX7_init 12 = .ok (.newarray .char, 2) := by decide +kernel
theorem dX7_init_14 : decode cX7_init 14 = .ok (.putfield 13, 3) := by decide +kernel
theorem dX7_init_17 : decode cX7_init 17 = .ok (.aload_n 0, 1) := by decide +kernel
theorem dX7_init_18 : decode cX7_init 18 = .ok (.bipush 120, 2) := by decide +kernel
theorem dX7_init_20 : decode cX7_init 20 = .ok (.newarray .int, 2) := by decide +kernel
theorem dX7_init_22 : decode cX7_init 22 = .ok (.putfield 17, 3) := by decide +kernel
theorem dX7_init_25 : decode cX7_init 25 = .ok (.aload_n 0, 1) := by decide +kernel
theorem dX7_init_26 : decode cX7_init 26 = .ok (.bipush 120, 2) := by decide +kernel
theorem dX7_init_28 : decode cX7_init 28 = .ok (.newarray .int, 2) := by decide +kernel
theorem dX7_init_30 : decode cX7_init 30 = .ok (.putfield 21, 3) := by decide +kernel
theorem dX7_init_33 : decode cX7_init 33 = .ok (.aload_n 0, 1) := by decide +kernel
theorem dX7_init_34 : decode cX7_init 34 = .ok (.new 24, 3) := by decide +kernel
theorem dX7_init_37 : decode cX7_init 37 = .ok (.dup, 1) := by decide +kernel
theorem dX7_init_38 : decode cX7_init 38 = .ok (.invokespecial 26, 3) := by decide +kernel
theorem dX7_init_41 : decode cX7_init 41 = .ok (.putfield 27, 3) := by decide +kernel
theorem dX7_init_44 : decode cX7_init 44 = .ok (.aload_n 0, 1) := by decide +kernel
theorem dX7_init_45 : decode cX7_init 45 = .ok (.new 24, 3) := by decide +kernel
theorem dX7_init_48 : decode cX7_init 48 = .ok (.dup, 1) := by decide +kernel
theorem dX7_init_49 : decode cX7_init 49 = .ok (.invokespecial 26, 3) := by decide +kernel
theorem dX7_init_52 : decode cX7_init 52 = .ok (.putfield 31, 3) := by decide +kernel
theorem dX7_init_55 : decode cX7_init 55 = .ok (.aload_n 0, 1) := by decide +kernel
theorem dX7_init_56 : decode cX7_init 56 = .ok (.getfield 27, 3) := by decide +kernel
theorem dX7_init_59 : decode cX7_init 59 = .ok (.iconst 0, 1) := by decide +kernel
theorem dX7_init_60 : decode cX7_init 60 = .ok (.iconst 0, 1) := by decide +kernel
theorem dX7_init_61 : decode cX7_init 61 = .ok (.bipush 61, 2) := by decide +kernel
theorem dX7_init_63 : decode cX7_init 63 = .ok (.iconst 0, 1) := by decide +kernel
theorem dX7_init_64 : decode cX7_init 64 = .ok (.sipush 1000, 3) := by decide +kernel
theorem dX7_init_67 : decode cX7_init 67 = .ok (.invokevirtual 34, 3) := by decide +kernel
theorem dX7_init_70 : decode cX7_init 70 = .ok (.return_, 1) := by decide +kernel
theorem dX7_collect_0 : decode cX7_collect 0 = .ok (.iload_n 1, 1) := by decide +kernel
theorem dX7_collect_1 : decode cX7_collect 1 = .ok (.bipush 32, 2) := by decide +kernel
theorem dX7_collect_3 : decode cX7_collect 3 = .ok (.if_icmp .lt 18, 3) := by decide +kernel
theorem dX7_collect_6 : decode cX7_collect 6 = .ok (.iload_n 1, 1) := by decide +kernel
theorem dX7_collect_7 : decode cX7_collect 7 = .ok (.bipush 126, 2) := by decide +kernel
theorem dX7_collect_9 : decode cX7_collect 9 = .ok (.if_icmp .gt 12, 3) := by decide +kernel
theorem dX7_collect_12 : decode cX7_collect 12 = .ok (.aload_n 0, 1) := by decide +kernel
theorem dX7_collect_13 : decode cX7_collect 13 = .ok (.getfield 38, 3) := by decide +kernel
theorem dX7_collect_16 : decode cX7_collect 16 = .ok (.bipush 120, 2) := by decide +kernel
theorem dX7_collect_18 : decode cX7_collect 18 = .ok (.if_icmp .lt 5, 3) := by decide +kernel
theorem dX7_collect_21 : decode cX7_collect 21 = .ok (.iconst 0, 1) := by decide +kernel
theorem dX7_collect_22 : decode cX7_collect 22 = .ok (.ireturn, 1) := by decide +kernel
theorem dX7_collect_23 : decode cX7_collect 23 = .ok (.aload_n 0, 1) := by decide +kernel
theorem dX7_collect_24 : decode cX7_collect 24 = .ok (.getfield 13, 3) := by decide +kernel
theorem dX7_collect_27 : decode cX7_collect 27 = .ok (.aload_n 0, 1) := by decide +kernel
theorem dX7_collect_28 : decode cX7_collect 28 = .ok (.getfield 38, 3) := by decide +kernel
theorem dX7_collect_31 : decode cX7_collect 31 = .ok (.iload_n 1, 1) := by decide +kernel
theorem dX7_collect_32 : decode cX7_collect 32 = .ok (.i2c, 1) := by decide +kernel
theorem dX7_collect_33 : decode cX7_collect 33 = .ok (.castore, 1) := by decide +kernel
theorem dX7_collect_34 : decode cX7_collect 34 = .ok (.aload_n 0, 1) := by decide +kernel
theorem dX7_collect_35 : decode cX7_collect 35 = .ok (.dup, 1) := by decide +kernel
theorem dX7_collect_36 : decode cX7_collect 36 = .ok (.getfield 38, 3) := by decide +kernel
theorem dX7_collect_39 : decode cX7_collect 39 = .ok (.iconst 1, 1) := by decide +kernel
theorem dX7_collect_40 : decode cX7_collect 40 = .ok (.iadd, 1) := by decide +kernel
theorem dX7_collect_41 : decode cX7_collect 41 = .ok (.putfield 38, 3) := by decide +kernel
theorem dX7_collect_44 : decode cX7_collect 44 = .ok (.iconst 1, 1) := by decide +kernel
theorem dX7_collect_45 : decode cX7_collect 45 = .ok (.ireturn, 1) := by decide +kernel
theorem dX7_judge_0 : decode cX7_judge 0 = .ok (.aload_n 0, 1) := by decide +kernel
theorem dX7_judge_1 : decode cX7_judge 1 = .ok (.getfield 27, 3) := by decide +kernel
theorem dX7_judge_4 : decode cX7_judge 4 = .ok (.aload_n 1, 1) := by decide +kernel
theorem dX7_judge_5 : decode cX7_judge 5 = .ok (.iload_n 2, 1) := by decide +kernel
theorem dX7_judge_6 : decode cX7_judge 6 = .ok (.invokevirtual 41, 3) := by decide +kernel
theorem dX7_judge_9 : decode cX7_judge 9 = .ok (.ireturn, 1) := by decide +kernel
theorem dX7_readCollected_0 : decode cX7_readCollected 0 = .ok (.aload_n 0, 1) := by decide +kernel
theorem dX7_readCollected_1 : decode cX7_readCollected 1 = .ok (.invokevirtual 45, 3) := by decide +kernel
theorem dX7_readCollected_4 : decode cX7_readCollected 4 = .ok (.aload_n 0, 1) := by decide +kernel
theorem dX7_readCollected_5 : decode cX7_readCollected 5 = .ok (.iconst 0, 1) := by decide +kernel
theorem dX7_readCollected_6 : decode cX7_readCollected 6 = .ok (.putfield 38, 3) := by decide +kernel
theorem dX7_readCollected_9 : decode cX7_readCollected 9 = .ok (.aload_n 0, 1) := by decide +kernel
theorem dX7_readCollected_10 : decode cX7_readCollected 10 = .ok (.iconst 0, 1) := by decide +kernel
theorem dX7_readCollected_11 : decode cX7_readCollected 11 = .ok (.putfield 48, 3) := by decide +kernel
theorem dX7_readCollected_14 : decode cX7_readCollected 14 = .ok (.aload_n 0, 1) := by decide +kernel
theorem dX7_readCollected_15 : decode cX7_readCollected 15 = .ok (.getfield 31, 3) := by decide +kernel
theorem dX7_readCollected_18 : decode cX7_readCollected 18 = .ok (.invokevirtual 51, 3) := by decide +kernel
theorem dX7_readCollected_21 : decode cX7_readCollected 21 = .ok (.aload_n 0, 1) := by decide +kernel
theorem dX7_readCollected_22 : decode cX7_readCollected 22 = .ok (.invokevirtual 54, 3) := by decide +kernel
theorem dX7_readCollected_25 : decode cX7_readCollected 25 = .ok (.ifCond .ne 10, 3) := by decide +kernel
theorem dX7_readCollected_28 : decode cX7_readCollected 28 = .ok (.iconst (-1), 1) := by decide +kernel
theorem dX7_readCollected_29 : decode cX7_readCollected 29 = .ok (.aload_n 0, 1) := by decide +kernel
theorem dX7_readCollected_30 : decode cX7_readCollected 30 = .ok (.getfield 48, 3) := by decide +kernel
theorem dX7_readCollected_33 : decode cX7_readCollected 33 = .ok (.isub, 1) := by decide +kernel
theorem dX7_readCollected_34 : decode cX7_readCollected 34 = .ok (.ireturn, 1) := by decide +kernel
theorem dX7_readCollected_35 : decode cX7_readCollected 35 = .ok (.aload_n 0, 1) := by decide +kernel
theorem dX7_readCollected_36 : decode cX7_readCollected 36 = .ok (.getfield 27, 3) := by decide +kernel
theorem dX7_readCollected_39 : decode cX7_readCollected 39 = .ok (.astore_n 1, 1) := by decide +kernel
theorem dX7_readCollected_40 : decode cX7_readCollected 40 = .ok (.aload_n 0, 1) := by decide +kernel
theorem dX7_readCollected_41 : decode cX7_readCollected 41 = .ok (.aload_n 0, 1) := by decide +kernel
theorem dX7_readCollected_42 : decode cX7_readCollected 42 = .ok (.getfield 31, 3) := by decide +kernel
theorem dX7_readCollected_45 : decode cX7_readCollected 45 = .ok (.putfield 27, 3) := by decide +kernel
theorem dX7_readCollected_48 : decode cX7_readCollected 48 = .ok (.aload_n 0, 1) := by decide +kernel
theorem dX7_readCollected_49 : decode cX7_readCollected 49 = .ok (.aload_n 1, 1) := by decide +kernel
theorem dX7_readCollected_50 : decode cX7_readCollected 50 = .ok (.putfield 31, 3) := by decide +kernel
theorem dX7_readCollected_53 : decode cX7_readCollected 53 = .ok (.aload_n 0, 1) := by decide +kernel
theorem dX7_readCollected_54 : decode cX7_readCollected 54 = .ok (.getfield 27, 3) := by decide +kernel
theorem dX7_readCollected_57 : decode cX7_readCollected 57 = .ok (.invokevirtual 58, 3) := by decide +kernel
theorem dX7_readCollected_60 : decode cX7_readCollected 60 = .ok (.ireturn, 1) := by decide +kernel
theorem dX7_splitWords_0 : decode cX7_splitWords 0 = .ok (.aload_n 0, 1) := by decide +kernel
theorem dX7_splitWords_1 : decode cX7_splitWords 1 = .ok (.iconst 0, 1) := by decide +kernel
theorem dX7_splitWords_2 : decode cX7_splitWords 2 = .ok (.putfield 62, 3) := by decide +kernel
theorem dX7_splitWords_5 : decode cX7_splitWords 5 = .ok (.iconst 0, 1) := by decide +kernel
theorem dX7_splitWords_6 : decode cX7_splitWords 6 = .ok (.istore_n 1, 1) := by decide +kernel
theorem dX7_splitWords_7 : decode cX7_splitWords 7 = .ok (.iconst 0, 1) := by decide +kernel
theorem dX7_splitWords_8 : decode cX7_splitWords 8 = .ok (.istore_n 2, 1) := by decide +kernel
theorem dX7_splitWords_9 : decode cX7_splitWords 9 = .ok (.iload_n 2, 1) := by decide +kernel
theorem dX7_splitWords_10 : decode cX7_splitWords 10 = .ok (.bipush 120, 2) := by decide +kernel
theorem dX7_splitWords_12 : decode cX7_splitWords 12 = .ok (.if_icmp .ge 75, 3) := by decide +kernel
theorem dX7_splitWords_15 : decode cX7_splitWords 15 = .ok (.iload_n 1, 1) := by decide +kernel
theorem dX7_splitWords_16 : decode cX7_splitWords 16 = .ok (.aload_n 0, 1) := by decide +kernel
theorem dX7_splitWords_17 : decode cX7_splitWords 17 = .ok (.getfield 38, 3) := by decide +kernel
theorem dX7_splitWords_20 : decode cX7_splitWords 20 = .ok (.if_icmp .ge 67, 3) := by decide +kernel
theorem dX7_splitWords_23 : decode cX7_splitWords 23 = .ok (.aload_n 0, 1) := by decide +kernel
theorem dX7_splitWords_24 : decode cX7_splitWords 24 = .ok (.iload_n 1, 1) := by decide +kernel
theorem dX7_splitWords_25 : decode cX7_splitWords 25 = .ok (.invokevirtual 65, 3) := by decide +kernel
theorem dX7_splitWords_28 : decode cX7_splitWords 28 = .ok (.istore_n 3, 1) := by decide +kernel
theorem dX7_splitWords_29 : decode cX7_splitWords 29 = .ok (.aload_n 0, 1) := by decide +kernel
theorem dX7_splitWords_30 : decode cX7_splitWords 30 = .ok (.getfield 13, 3) := by decide +kernel
theorem dX7_splitWords_33 : decode cX7_splitWords 33 = .ok (.iload_n 1, 1) := by decide +kernel
theorem dX7_splitWords_34 : decode cX7_splitWords 34 = .ok (.caload, 1) := by decide +kernel
theorem dX7_splitWords_35 : decode cX7_splitWords 35 = .ok (.bipush 32, 2) := by decide +kernel
theorem dX7_splitWords_37 : decode cX7_splitWords 37 = .ok (.if_icmp .eq 42, 3) := by decide +kernel
theorem dX7_splitWords_40 : decode cX7_splitWords 40 = .ok (.aload_n 0, 1) := by decide +kernel
theorem dX7_splitWords_41 : decode cX7_splitWords 41 = .ok (.getfield 62, 3) := by decide +kernel
theorem dX7_splitWords_44 : decode cX7_splitWords 44 = .ok (.bipush 120, 2) := by decide +kernel
theorem dX7_splitWords_46 : decode cX7_splitWords 46 = .ok (.if_icmp .ge 33, 3) := by decide +kernel
theorem dX7_splitWords_49 : decode cX7_splitWords 49 = .ok (.aload_n 0, 1) := by decide +kernel
theorem dX7_splitWords_50 : decode cX7_splitWords 50 = .ok (.getfield 17, 3) := by decide +kernel
theorem dX7_splitWords_53 : decode cX7_splitWords 53 = .ok (.aload_n 0, 1) := by decide +kernel
theorem dX7_splitWords_54 : decode cX7_splitWords 54 = .ok (.getfield 62, 3) := by decide +kernel
theorem dX7_splitWords_57 : decode cX7_splitWords 57 = .ok (.iload_n 1, 1) := by decide +kernel
theorem dX7_splitWords_58 : decode cX7_splitWords 58 = .ok (.iastore, 1) := by decide +kernel
theorem dX7_splitWords_59 : decode cX7_splitWords 59 = .ok (.aload_n 0, 1) := by decide +kernel
theorem dX7_splitWords_60 : decode cX7_splitWords 60 = .ok (.getfield 21, 3) := by decide +kernel
theorem dX7_splitWords_63 : decode cX7_splitWords 63 = .ok (.aload_n 0, 1) := by decide +kernel
theorem dX7_splitWords_64 : decode cX7_splitWords 64 = .ok (.getfield 62, 3) := by decide +kernel
theorem dX7_splitWords_67 : decode cX7_splitWords 67 = .ok (.iload_n 3, 1) := by decide +kernel
theorem dX7_splitWords_68 : decode cX7_splitWords 68 = .ok (.iastore, 1) := by decide +kernel
theorem dX7_splitWords_69 : decode cX7_splitWords 69 = .ok (.aload_n 0, 1) := by decide +kernel
theorem dX7_splitWords_70 : decode cX7_splitWords 70 = .ok (.dup, 1) := by decide +kernel
theorem dX7_splitWords_71 : decode cX7_splitWords 71 = .ok (.getfield 62, 3) := by decide +kernel
theorem dX7_splitWords_74 : decode cX7_splitWords 74 = .ok (.iconst 1, 1) := by decide +kernel
theorem dX7_splitWords_75 : decode cX7_splitWords 75 = .ok (.iadd, 1) := by decide +kernel
theorem dX7_splitWords_76 : decode cX7_splitWords 76 = .ok (.putfield 62, 3) := by decide +kernel
theorem dX7_splitWords_79 : decode cX7_splitWords 79 = .ok (.iload_n 3, 1) := by decide +kernel
theorem dX7_splitWords_80 : decode cX7_splitWords 80 = .ok (.istore_n 1, 1) := by decide +kernel
theorem dX7_splitWords_81 : decode cX7_splitWords 81 = .ok (.iinc 2 1, 3) := by decide +kernel
theorem dX7_splitWords_84 : decode cX7_splitWords 84 = .ok (.goto (-75), 3) := by decide +kernel
theorem dX7_splitWords_87 : decode cX7_splitWords 87 = .ok (.return_, 1) := by decide +kernel
theorem dX7_wordEnd_0 : decode cX7_wordEnd 0 = .ok (.iload_n 1, 1) := by decide +kernel
theorem dX7_wordEnd_1 : decode cX7_wordEnd 1 = .ok (.iconst 1, 1) := by decide +kernel
theorem dX7_wordEnd_2 : decode cX7_wordEnd 2 = .ok (.iadd, 1) := by decide +kernel
theorem dX7_wordEnd_3 : decode cX7_wordEnd 3 = .ok (.istore_n 2, 1) := by decide +kernel
theorem dX7_wordEnd_4 : decode cX7_wordEnd 4 = .ok (.aload_n 0, 1) := by decide +kernel
theorem dX7_wordEnd_5 : decode cX7_wordEnd 5 = .ok (.getfield 13, 3) := by decide +kernel
theorem dX7_wordEnd_8 : decode cX7_wordEnd 8 = .ok (.iload_n 1, 1) := by decide +kernel
theorem dX7_wordEnd_9 : decode cX7_wordEnd 9 = .ok (.caload, 1) := by decide +kernel
theorem dX7_wordEnd_10 : decode cX7_wordEnd 10 = .ok (.invokestatic 69, 3) := by decide +kernel
theorem dX7_wordEnd_13 : decode cX7_wordEnd 13 = .ok (.ifCond .eq 29, 3) := by decide +kernel
theorem dX7_wordEnd_16 : decode cX7_wordEnd 16 = .ok (.iload_n 2, 1) := by decide +kernel
theorem dX7_wordEnd_17 : decode cX7_wordEnd 17 = .ok (.aload_n 0, 1) := by decide +kernel
theorem dX7_wordEnd_18 : decode cX7_wordEnd 18 = .ok (.getfield 38, 3) := by decide +kernel
theorem dX7_wordEnd_21 : decode cX7_wordEnd 21 = .ok (.if_icmp .ge 59, 3) := by decide +kernel
theorem dX7_wordEnd_24 : decode cX7_wordEnd 24 = .ok (.aload_n 0, 1) := by decide +kernel
theorem dX7_wordEnd_25 : decode cX7_wordEnd 25 = .ok (.getfield 13, 3) := by decide +kernel
theorem dX7_wordEnd_28 : decode cX7_wordEnd 28 = .ok (.iload_n 2, 1) := by decide +kernel
theorem dX7_wordEnd_29 : decode cX7_wordEnd 29 = .ok (.caload, 1) := by decide +kernel
theorem dX7_wordEnd_30 : decode cX7_wordEnd 30 = .ok (.invokestatic 69, 3) := by decide +kernel
theorem dX7_wordEnd_33 : decode cX7_wordEnd 33 = .ok (.ifCond .eq 47, 3) := by decide +kernel
theorem dX7_wordEnd_36 : decode cX7_wordEnd 36 = .ok (.iinc 2 1, 3) := by decide +kernel
theorem dX7_wordEnd_39 : decode cX7_wordEnd 39 = .ok (.goto (-23), 3) := by decide +kernel
theorem dX7_wordEnd_42 : decode cX7_wordEnd 42 = .ok (.aload_n 0, 1) := by decide +kernel
theorem dX7_wordEnd_43 : decode cX7_wordEnd 43 = .ok (.getfield 13, 3) := by decide +kernel
theorem dX7_wordEnd_46 : decode cX7_wordEnd 46 = .ok (.iload_n 1, 1) := by decide +kernel
theorem dX7_wordEnd_47 : decode cX7_wordEnd 47 = .ok (.caload, 1) := by decide +kernel
theorem dX7_wordEnd_48 : decode cX7_wordEnd 48 = .ok (.invokestatic 73, 3) := by decide +kernel
theorem dX7_wordEnd_51 : decode cX7_wordEnd 51 = .ok (.ifCond .eq 29, 3) := by decide +kernel
theorem dX7_wordEnd_54 : decode cX7_wordEnd 54 = .ok (.iload_n 2, 1) := by decide +kernel
theorem dX7_wordEnd_55 : decode cX7_wordEnd 55 = .ok (.aload_n 0, 1) := by decide +kernel
theorem dX7_wordEnd_56 : decode cX7_wordEnd 56 = .ok (.getfield 38, 3) := by decide +kernel
theorem dX7_wordEnd_59 : decode cX7_wordEnd 59 = .ok (.if_icmp .ge 21, 3) := by decide +kernel
theorem dX7_wordEnd_62 : decode cX7_wordEnd 62 = .ok (.aload_n 0, 1) := by decide +kernel
theorem dX7_wordEnd_63 : decode cX7_wordEnd 63 = .ok (.getfield 13, 3) := by decide +kernel
theorem dX7_wordEnd_66 : decode cX7_wordEnd 66 = .ok (.iload_n 2, 1) := by decide +kernel
theorem dX7_wordEnd_67 : decode cX7_wordEnd 67 = .ok (.caload, 1) := by decide +kernel
theorem dX7_wordEnd_68 : decode cX7_wordEnd 68 = .ok (.invokestatic 73, 3) := by decide +kernel
theorem dX7_wordEnd_71 : decode cX7_wordEnd 71 = .ok (.ifCond .eq 9, 3) := by decide +kernel
theorem dX7_wordEnd_74 : decode cX7_wordEnd 74 = .ok (.iinc 2 1, 3) := by decide +kernel
theorem dX7_wordEnd_77 : decode cX7_wordEnd 77 = .ok (.goto (-23), 3) := by decide +kernel
theorem dX7_wordEnd_80 : decode cX7_wordEnd 80 = .ok (.iload_n 2, 1) := by decide +kernel
theorem dX7_wordEnd_81 : decode cX7_wordEnd 81 = .ok (.ireturn, 1) := by decide +kernel
theorem dX7_isLetter_0 : decode cX7_isLetter 0 = .ok (.iload_n 0, 1) := by decide +kernel
theorem dX7_isLetter_1 : decode cX7_isLetter 1 = .ok (.bipush 97, 2) := by decide +kernel
theorem dX7_isLetter_3 : decode cX7_isLetter 3 = .ok (.if_icmp .lt 9, 3) := by decide +kernel
theorem dX7_isLetter_6 : decode cX7_isLetter 6 = .ok (.iload_n 0, 1) := by decide +kernel
theorem dX7_isLetter_7 : decode cX7_isLetter 7 = .ok (.bipush 122, 2) := by decide +kernel
theorem dX7_isLetter_9 : decode cX7_isLetter 9 = .ok (.if_icmp .le 15, 3) := by decide +kernel
theorem dX7_isLetter_12 : decode cX7_isLetter 12 = .ok (.iload_n 0, 1) := by decide +kernel
theorem dX7_isLetter_13 : decode cX7_isLetter 13 = .ok (.bipush 65, 2) := by decide +kernel
theorem dX7_isLetter_15 : decode cX7_isLetter 15 = .ok (.if_icmp .lt 13, 3) := by decide +kernel
theorem dX7_isLetter_18 : decode cX7_isLetter 18 = .ok (.iload_n 0, 1) := by decide +kernel
theorem dX7_isLetter_19 : decode cX7_isLetter 19 = .ok (.bipush 90, 2) := by decide +kernel
theorem dX7_isLetter_21 : decode cX7_isLetter 21 = .ok (.if_icmp .gt 7, 3) := by decide +kernel
theorem dX7_isLetter_24 : decode cX7_isLetter 24 = .ok (.iconst 1, 1) := by decide +kernel
theorem dX7_isLetter_25 : decode cX7_isLetter 25 = .ok (.goto 4, 3) := by decide +kernel
theorem dX7_isLetter_28 : decode cX7_isLetter 28 = .ok (.iconst 0, 1) := by decide +kernel
theorem dX7_isLetter_29 : decode cX7_isLetter 29 = .ok (.ireturn, 1) := by decide +kernel
theorem dX7_isDigit_0 : decode cX7_isDigit 0 = .ok (.iload_n 0, 1) := by decide +kernel
theorem dX7_isDigit_1 : decode cX7_isDigit 1 = .ok (.bipush 48, 2) := by decide +kernel
theorem dX7_isDigit_3 : decode cX7_isDigit 3 = .ok (.if_icmp .lt 13, 3) := by decide +kernel
theorem dX7_isDigit_6 : decode cX7_isDigit 6 = .ok (.iload_n 0, 1) := by decide +kernel
theorem dX7_isDigit_7 : decode cX7_isDigit 7 = .ok (.bipush 57, 2) := by decide +kernel
theorem dX7_isDigit_9 : decode cX7_isDigit 9 = .ok (.if_icmp .gt 7, 3) := by decide +kernel
theorem dX7_isDigit_12 : decode cX7_isDigit 12 = .ok (.iconst 1, 1) := by decide +kernel
theorem dX7_isDigit_13 : decode cX7_isDigit 13 = .ok (.goto 4, 3) := by decide +kernel
theorem dX7_isDigit_16 : decode cX7_isDigit 16 = .ok (.iconst 0, 1) := by decide +kernel
theorem dX7_isDigit_17 : decode cX7_isDigit 17 = .ok (.ireturn, 1) := by decide +kernel
theorem dX7_readRules_0 : decode cX7_readRules 0 = .ok (.iconst 0, 1) := by decide +kernel
theorem dX7_readRules_1 : decode cX7_readRules 1 = .ok (.istore_n 1, 1) := by decide +kernel
theorem dX7_readRules_2 : decode cX7_readRules 2 = .ok (.iload_n 1, 1) := by decide +kernel
theorem dX7_readRules_3 : decode cX7_readRules 3 = .ok (.bipush 20, 2) := by decide +kernel
theorem dX7_readRules_5 : decode cX7_readRules 5 = .ok (.if_icmp .ge 56, 3) := by decide +kernel
theorem dX7_readRules_8 : decode cX7_readRules 8 = .ok (.aload_n 0, 1) := by decide +kernel
theorem dX7_readRules_9 : decode cX7_readRules 9 = .ok (.invokevirtual 76, 3) := by decide +kernel
theorem dX7_readRules_12 : decode cX7_readRules 12 = .ok (.ifCond .ne 5, 3) := by decide +kernel
theorem dX7_readRules_15 : decode cX7_readRules 15 = .ok (.iconst 0, 1) := by decide +kernel
theorem dX7_readRules_16 : decode cX7_readRules 16 = .ok (.ireturn, 1) := by decide +kernel
theorem dX7_readRules_17 : decode cX7_readRules 17 = .ok (.aload_n 0, 1) := by decide +kernel
theorem dX7_readRules_18 : decode cX7_readRules 18 = .ok (.getfield 48, 3) := by decide +kernel
theorem dX7_readRules_21 : decode cX7_readRules 21 = .ok (.aload_n 0, 1) := by decide +kernel
theorem dX7_readRules_22 : decode cX7_readRules 22 = .ok (.getfield 62, 3) := by decide +kernel
theorem dX7_readRules_25 : decode cX7_readRules 25 = .ok (.if_icmp .ne 5, 3) := by decide +kernel
theorem dX7_readRules_28 : decode cX7_readRules 28 = .ok (.iconst 1, 1) := by decide +kernel
theorem dX7_readRules_29 : decode cX7_readRules 29 = .ok (.ireturn, 1) := by decide +kernel
theorem dX7_readRules_30 : decode cX7_readRules 30 = .ok (.aload_n 0, 1) := by decide +kernel
theorem dX7_readRules_31 : decode cX7_readRules 31 = .ok (.aload_n 0, 1) := by decide +kernel
theorem dX7_readRules_32 : decode cX7_readRules 32 = .ok (.getfield 48, 3) := by decide +kernel
theorem dX7_readRules_35 : decode cX7_readRules 35 = .ok (.ldc 79, 2) := by decide +kernel
theorem dX7_readRules_37 : decode cX7_readRules 37 = .ok (.invokevirtual 81, 3) := by decide +kernel
theorem dX7_readRules_40 : decode cX7_readRules 40 = .ok (.ifCond .ne 5, 3) := by decide +kernel
theorem dX7_readRules_43 : decode cX7_readRules 43 = .ok (.iconst 0, 1) := by decide +kernel
theorem dX7_readRules_44 : decode cX7_readRules 44 = .ok (.ireturn, 1) := by decide +kernel
theorem dX7_readRules_45 : decode cX7_readRules 45 = .ok (.aload_n 0, 1) := by decide +kernel
theorem dX7_readRules_46 : decode cX7_readRules 46 = .ok (.dup, 1) := by decide +kernel
theorem dX7_readRules_47 : decode cX7_readRules 47 = .ok (.getfield 48, 3) := by decide +kernel
theorem dX7_readRules_50 : decode cX7_readRules 50 = .ok (.iconst 1, 1) := by decide +kernel
theorem dX7_readRules_51 : decode cX7_readRules 51 = .ok (.iadd, 1) := by decide +kernel
theorem dX7_readRules_52 : decode cX7_readRules 52 = .ok (.putfield 48, 3) := by decide +kernel
theorem dX7_readRules_55 : decode cX7_readRules 55 = .ok (.iinc 1 1, 3) := by decide +kernel
theorem dX7_readRules_58 : decode cX7_readRules 58 = .ok (.goto (-56), 3) := by decide +kernel
theorem dX7_readRules_61 : decode cX7_readRules 61 = .ok (.iconst 0, 1) := by decide +kernel
theorem dX7_readRules_62 : decode cX7_readRules 62 = .ok (.ireturn, 1) := by decide +kernel
theorem dX7_readRule_0 : decode cX7_readRule 0 = .ok (.aload_n 0, 1) := by decide +kernel
theorem dX7_readRule_1 : decode cX7_readRule 1 = .ok (.aload_n 0, 1) := by decide +kernel
theorem dX7_readRule_2 : decode cX7_readRule 2 = .ok (.getfield 48, 3) := by decide +kernel
theorem dX7_readRule_5 : decode cX7_readRule 5 = .ok (.invokevirtual 85, 3) := by decide +kernel
theorem dX7_readRule_8 : decode cX7_readRule 8 = .ok (.istore_n 1, 1) := by decide +kernel
theorem dX7_readRule_9 : decode cX7_readRule 9 = .ok (.iload_n 1, 1) := by decide +kernel
theorem dX7_readRule_10 : decode cX7_readRule 10 = .ok (.ifCond .ne 13, 3) := by decide +kernel
theorem dX7_readRule_13 : decode cX7_readRule 13 = .ok (.aload_n 0, 1) := by decide +kernel
theorem dX7_readRule_14 : decode cX7_readRule 14 = .ok (.iconst 0, 1) := by decide +kernel
theorem dX7_readRule_15 : decode cX7_readRule 15 = .ok (.iconst 0, 1) := by decide +kernel
theorem dX7_readRule_16 : decode cX7_readRule 16 = .ok (.bipush 61, 2) := by decide +kernel
theorem dX7_readRule_18 : decode cX7_readRule 18 = .ok (.iconst 0, 1) := by decide +kernel
theorem dX7_readRule_19 : decode cX7_readRule 19 = .ok (.invokevirtual 88, 3) := by decide +kernel
theorem dX7_readRule_22 : decode cX7_readRule 22 = .ok (.ireturn, 1) := by decide +kernel
theorem dX7_readRule_23 : decode cX7_readRule 23 = .ok (.aload_n 0, 1) := by decide +kernel
theorem dX7_readRule_24 : decode cX7_readRule 24 = .ok (.dup, 1) := by decide +kernel
theorem dX7_readRule_25 : decode cX7_readRule 25 = .ok (.getfield 48, 3) := by decide +kernel
theorem dX7_readRule_28 : decode cX7_readRule 28 = .ok (.iconst 1, 1) := by decide +kernel
theorem dX7_readRule_29 : decode cX7_readRule 29 = .ok (.iadd, 1) := by decide +kernel
theorem dX7_readRule_30 : decode cX7_readRule 30 = .ok (.putfield 48, 3) := by decide +kernel
theorem dX7_readRule_33 : decode cX7_readRule 33 = .ok (.iconst 0, 1) := by decide +kernel
theorem dX7_readRule_34 : decode cX7_readRule 34 = .ok (.istore_n 2, 1) := by decide +kernel
theorem dX7_readRule_35 : decode cX7_readRule 35 = .ok (.iload_n 1, 1) := by decide +kernel
theorem dX7_readRule_36 : decode cX7_readRule 36 = .ok (.iconst 4, 1) := by decide +kernel
theorem dX7_readRule_37 : decode cX7_readRule 37 = .ok (.if_icmp .ne 29, 3) := by decide +kernel
theorem dX7_readRule_40 : decode cX7_readRule 40 = .ok (.aload_n 0, 1) := by decide +kernel
theorem dX7_readRule_41 : decode cX7_readRule 41 = .ok (.aload_n 0, 1) := by decide +kernel
theorem dX7_readRule_42 : decode cX7_readRule 42 = .ok (.getfield 48, 3) := by decide +kernel
theorem dX7_readRule_45 : decode cX7_readRule 45 = .ok (.invokevirtual 92, 3) := by decide +kernel
theorem dX7_readRule_48 : decode cX7_readRule 48 = .ok (.istore_n 2, 1) := by decide +kernel
theorem dX7_readRule_49 : decode cX7_readRule 49 = .ok (.iload_n 2, 1) := by decide +kernel
theorem dX7_readRule_50 : decode cX7_readRule 50 = .ok (.iconst (-1), 1) := by decide +kernel
theorem dX7_readRule_51 : decode cX7_readRule 51 = .ok (.if_icmp .ne 5, 3) := by decide +kernel
theorem dX7_readRule_54 : decode cX7_readRule 54 = .ok (.iconst 0, 1) := by decide +kernel
theorem dX7_readRule_55 : decode cX7_readRule 55 = .ok (.ireturn, 1) := by decide +kernel
theorem dX7_readRule_56 : decode cX7_readRule 56 = .ok (.aload_n 0, 1) := by decide +kernel
theorem dX7_readRule_57 : decode cX7_readRule 57 = .ok (.dup, 1) := by decide +kernel
theorem dX7_readRule_58 : decode cX7_readRule 58 = .ok (.getfield 48, 3) := by decide +kernel
theorem dX7_readRule_61 : decode cX7_readRule 61 = .ok (.iconst 1, 1) := by decide +kernel
theorem dX7_readRule_62 : decode cX7_readRule 62 = .ok (.iadd, 1) := by decide +kernel
theorem dX7_readRule_63 : decode cX7_readRule 63 = .ok (.putfield 48, 3) := by decide +kernel
theorem dX7_readRule_66 : decode cX7_readRule 66 = .ok (.aload_n 0, 1) := by decide +kernel
theorem dX7_readRule_67 : decode cX7_readRule 67 = .ok (.aload_n 0, 1) := by decide +kernel
theorem dX7_readRule_68 : decode cX7_readRule 68 = .ok (.getfield 48, 3) := by decide +kernel
theorem dX7_readRule_71 : decode cX7_readRule 71 = .ok (.invokevirtual 95, 3) := by decide +kernel
theorem dX7_readRule_74 : decode cX7_readRule 74 = .ok (.ifCond .ne 5, 3) := by decide +kernel
theorem dX7_readRule_77 : decode cX7_readRule 77 = .ok (.iconst 0, 1) := by decide +kernel
theorem dX7_readRule_78 : decode cX7_readRule 78 = .ok (.ireturn, 1) := by decide +kernel
theorem dX7_readRule_79 : decode cX7_readRule 79 = .ok (.aload_n 0, 1) := by decide +kernel
theorem dX7_readRule_80 : decode cX7_readRule 80 = .ok (.getfield 13, 3) := by decide +kernel
theorem dX7_readRule_83 : decode cX7_readRule 83 = .ok (.aload_n 0, 1) := by decide +kernel
theorem dX7_readRule_84 : decode cX7_readRule 84 = .ok (.getfield 17, 3) := by decide +kernel
theorem dX7_readRule_87 : decode cX7_readRule 87 = .ok (.aload_n 0, 1) := by decide +kernel
theorem dX7_readRule_88 : decode cX7_readRule 88 = .ok (.getfield 48, 3) := by decide +kernel
theorem dX7_readRule_91 : decode cX7_readRule 91 = .ok (.iaload, 1) := by decide +kernel
theorem dX7_readRule_92 : decode cX7_readRule 92 = .ok (.caload, 1) := by decide +kernel
theorem dX7_readRule_93 : decode cX7_readRule 93 = .ok (.istore_n 3, 1) := by decide +kernel
theorem dX7_readRule_94 : decode cX7_readRule 94 = .ok (.aload_n 0, 1) := by decide +kernel
theorem dX7_readRule_95 : decode cX7_readRule 95 = .ok (.dup, 1) := by decide +kernel
theorem dX7_readRule_96 : decode cX7_readRule 96 = .ok (.getfield 48, 3) := by decide +kernel
theorem dX7_readRule_99 : decode cX7_readRule 99 = .ok (.iconst 1, 1) := by decide +kernel
theorem dX7_readRule_100 : decode cX7_readRule 100 = .ok (.iadd, 1) := by decide +kernel
theorem dX7_readRule_101 : decode cX7_readRule 101 = .ok (.putfield 48, 3) := by decide +kernel
theorem dX7_readRule_104 : decode cX7_readRule 104 = .ok (.aload_n 0, 1) := by decide +kernel
theorem dX7_readRule_105 : decode cX7_readRule 105 = .ok (.aload_n 0, 1) := by decide +kernel
theorem dX7_readRule_106 : decode cX7_readRule 106 = .ok (.getfield 48, 3) := by decide +kernel
theorem dX7_readRule_109 : decode cX7_readRule 109 = .ok (.invokevirtual 92, 3) := by decide +kernel
theorem dX7_readRule_112 : decode cX7_readRule 112 = .ok (.istore 4, 2) := by decide +kernel
theorem dX7_readRule_114 : decode cX7_readRule 114 = .ok (.iload 4, 2) := by decide +kernel
theorem dX7_readRule_116 : decode cX7_readRule 116 = .ok (.iconst (-1), 1) := by decide +kernel
theorem dX7_readRule_117 : decode cX7_readRule 117 = .ok (.if_icmp .ne 5, 3) := by decide +kernel
theorem dX7_readRule_120 : decode cX7_readRule 120 = .ok (.iconst 0, 1) := by decide +kernel
theorem dX7_readRule_121 : decode cX7_readRule 121 = .ok (.ireturn, 1) := by decide +kernel
theorem dX7_readRule_122 : decode cX7_readRule 122 = .ok (.aload_n 0, 1) := by decide +kernel
theorem dX7_readRule_123 : decode cX7_readRule 123 = .ok (.dup, 1) := by decide +kernel
theorem dX7_readRule_124 : decode cX7_readRule 124 = .ok (.getfield 48, 3) := by decide +kernel
theorem dX7_readRule_127 : decode cX7_readRule 127 = .ok (.iconst 1, 1) := by decide +kernel
theorem dX7_readRule_128 : decode cX7_readRule 128 = .ok (.iadd, 1) := by decide +kernel
theorem dX7_readRule_129 : decode cX7_readRule 129 = .ok (.putfield 48, 3) := by decide +kernel
theorem dX7_readRule_132 : decode cX7_readRule 132 = .ok (.aload_n 0, 1) := by decide +kernel
theorem dX7_readRule_133 : decode cX7_readRule 133 = .ok (.aload_n 0, 1) := by decide +kernel
theorem dX7_readRule_134 : decode cX7_readRule 134 = .ok (.getfield 48, 3) := by decide +kernel
theorem dX7_readRule_137 : decode cX7_readRule 137 = .ok (.ldc 99, 2) := by decide +kernel
theorem dX7_readRule_139 : decode cX7_readRule 139 = .ok (.invokevirtual 81, 3) := by decide +kernel
theorem dX7_readRule_142 : decode cX7_readRule 142 = .ok (.ifCond .ne 5, 3) := by decide +kernel
theorem dX7_readRule_145 : decode cX7_readRule 145 = .ok (.iconst 0, 1) := by decide +kernel
theorem dX7_readRule_146 : decode cX7_readRule 146 = .ok (.ireturn, 1) := by decide +kernel
theorem dX7_readRule_147 : decode cX7_readRule 147 = .ok (.aload_n 0, 1) := by decide +kernel
theorem dX7_readRule_148 : decode cX7_readRule 148 = .ok (.dup, 1) := by decide +kernel
theorem dX7_readRule_149 : decode cX7_readRule 149 = .ok (.getfield 48, 3) := by decide +kernel
theorem dX7_readRule_152 : decode cX7_readRule 152 = .ok (.iconst 1, 1) := by decide +kernel
theorem dX7_readRule_153 : decode cX7_readRule 153 = .ok (.iadd, 1) := by decide +kernel
theorem dX7_readRule_154 : decode cX7_readRule 154 = .ok (.putfield 48, 3) := by decide +kernel
theorem dX7_readRule_157 : decode cX7_readRule 157 = .ok (.aload_n 0, 1) := by decide +kernel
theorem dX7_readRule_158 : decode cX7_readRule 158 = .ok (.iload_n 1, 1) := by decide +kernel
theorem dX7_readRule_159 : decode cX7_readRule 159 = .ok (.iload_n 2, 1) := by decide +kernel
theorem dX7_readRule_160 : decode cX7_readRule 160 = .ok (.iload_n 3, 1) := by decide +kernel
theorem dX7_readRule_161 : decode cX7_readRule 161 = .ok (.iload 4, 2) := by decide +kernel
theorem dX7_readRule_163 : decode cX7_readRule 163 = .ok (.invokevirtual 88, 3) := by decide +kernel
theorem dX7_readRule_166 : decode cX7_readRule 166 = .ok (.ireturn, 1) := by decide +kernel
theorem dX7_readValue_0 : decode cX7_readValue 0 = .ok (.aload_n 0, 1) := by decide +kernel
theorem dX7_readValue_1 : decode cX7_readValue 1 = .ok (.aload_n 0, 1) := by decide +kernel
theorem dX7_readValue_2 : decode cX7_readValue 2 = .ok (.getfield 48, 3) := by decide +kernel
theorem dX7_readValue_5 : decode cX7_readValue 5 = .ok (.invokevirtual 101, 3) := by decide +kernel
theorem dX7_readValue_8 : decode cX7_readValue 8 = .ok (.istore 5, 2) := by decide +kernel
theorem dX7_readValue_10 : decode cX7_readValue 10 = .ok (.iload 5, 2) := by decide +kernel
theorem dX7_readValue_12 : decode cX7_readValue 12 = .ok (.iconst (-1), 1) := by decide +kernel
theorem dX7_readValue_13 : decode cX7_readValue 13 = .ok (.if_icmp .ne 5, 3) := by decide +kernel
theorem dX7_readValue_16 : decode cX7_readValue 16 = .ok (.iconst 0, 1) := by decide +kernel
theorem dX7_readValue_17 : decode cX7_readValue 17 = .ok (.ireturn, 1) := by decide +kernel
theorem dX7_readValue_18 : decode cX7_readValue 18 = .ok (.aload_n 0, 1) := by decide +kernel
theorem dX7_readValue_19 : decode cX7_readValue 19 = .ok (.dup, 1) := by decide +kernel
theorem dX7_readValue_20 : decode cX7_readValue 20 = .ok (.getfield 48, 3) := by decide +kernel
theorem dX7_readValue_23 : decode cX7_readValue 23 = .ok (.iconst 1, 1) := by decide +kernel
theorem dX7_readValue_24 : decode cX7_readValue 24 = .ok (.iadd, 1) := by decide +kernel
theorem dX7_readValue_25 : decode cX7_readValue 25 = .ok (.putfield 48, 3) := by decide +kernel
theorem dX7_readValue_28 : decode cX7_readValue 28 = .ok (.aload_n 0, 1) := by decide +kernel
theorem dX7_readValue_29 : decode cX7_readValue 29 = .ok (.getfield 31, 3) := by decide +kernel
theorem dX7_readValue_32 : decode cX7_readValue 32 = .ok (.iload_n 1, 1) := by decide +kernel
theorem dX7_readValue_33 : decode cX7_readValue 33 = .ok (.iload_n 2, 1) := by decide +kernel
theorem dX7_readValue_34 : decode cX7_readValue 34 = .ok (.iload_n 3, 1) := by decide +kernel
theorem dX7_readValue_35 : decode cX7_readValue 35 = .ok (.iload 4, 2) := by decide +kernel
theorem dX7_readValue_37 : decode cX7_readValue 37 = .ok (.iload 5, 2) := by decide +kernel
theorem dX7_readValue_39 : decode cX7_readValue 39 = .ok (.invokevirtual 34, 3) := by decide +kernel
theorem dX7_readValue_42 : decode cX7_readValue 42 = .ok (.iconst 1, 1) := by decide +kernel
theorem dX7_readValue_43 : decode cX7_readValue 43 = .ok (.ireturn, 1) := by decide +kernel
theorem dX7_amountAt_0 : decode cX7_amountAt 0 = .ok (.aload_n 0, 1) := by decide +kernel
theorem dX7_amountAt_1 : decode cX7_amountAt 1 = .ok (.iload_n 1, 1) := by decide +kernel
theorem dX7_amountAt_2 : decode cX7_amountAt 2 = .ok (.ldc 104, 2) := by decide +kernel
theorem dX7_amountAt_4 : decode cX7_amountAt 4 = .ok (.invokevirtual 81, 3) := by decide +kernel
theorem dX7_amountAt_7 : decode cX7_amountAt 7 = .ok (.ifCond .eq 5, 3) := by decide +kernel
theorem dX7_amountAt_10 : decode cX7_amountAt 10 = .ok (.iconst 1, 1) := by decide +kernel
theorem dX7_amountAt_11 : decode cX7_amountAt 11 = .ok (.ireturn, 1) := by decide +kernel
theorem dX7_amountAt_12 : decode cX7_amountAt 12 = .ok (.aload_n 0, 1) := by decide +kernel
theorem dX7_amountAt_13 : decode cX7_amountAt 13 = .ok (.iload_n 1, 1) := by decide +kernel
theorem dX7_amountAt_14 : decode cX7_amountAt 14 = .ok (.ldc 105, 2) := by decide +kernel
theorem dX7_amountAt_16 : decode cX7_amountAt 16 = .ok (.invokevirtual 81, 3) := by decide +kernel
theorem dX7_amountAt_19 : decode cX7_amountAt 19 = .ok (.ifCond .eq 5, 3) := by decide +kernel
theorem dX7_amountAt_22 : decode cX7_amountAt 22 = .ok (.iconst 4, 1) := by decide +kernel
theorem dX7_amountAt_23 : decode cX7_amountAt 23 = .ok (.ireturn, 1) := by decide +kernel
theorem dX7_amountAt_24 : decode cX7_amountAt 24 = .ok (.aload_n 0, 1) := by decide +kernel
theorem dX7_amountAt_25 : decode cX7_amountAt 25 = .ok (.iload_n 1, 1) := by decide +kernel
theorem dX7_amountAt_26 : decode cX7_amountAt 26 = .ok (.ldc 107, 2) := by decide +kernel
theorem dX7_amountAt_28 : decode cX7_amountAt 28 = .ok (.invokevirtual 81, 3) := by decide +kernel
theorem dX7_amountAt_31 : decode cX7_amountAt 31 = .ok (.ifCond .eq 15, 3) := by decide +kernel
theorem dX7_amountAt_34 : decode cX7_amountAt 34 = .ok (.aload_n 0, 1) := by decide +kernel
theorem dX7_amountAt_35 : decode cX7_amountAt 35 = .ok (.iload_n 1, 1) := by decide +kernel
theorem dX7_amountAt_36 : decode cX7_amountAt 36 = .ok (.iconst 1, 1) := by decide +kernel
theorem dX7_amountAt_37 : decode cX7_amountAt 37 = .ok (.iadd, 1) := by decide +kernel
theorem dX7_amountAt_38 : decode cX7_amountAt 38 = .ok (.invokevirtual 95, 3) := by decide +kernel
theorem dX7_amountAt_41 : decode cX7_amountAt 41 = .ok (.ifCond .eq 5, 3) := by decide +kernel
theorem dX7_amountAt_44 : decode cX7_amountAt 44 = .ok (.iconst 2, 1) := by decide +kernel
theorem dX7_amountAt_45 : decode cX7_amountAt 45 = .ok (.ireturn, 1) := by decide +kernel
theorem dX7_amountAt_46 : decode cX7_amountAt 46 = .ok (.aload_n 0, 1) := by decide +kernel
theorem dX7_amountAt_47 : decode cX7_amountAt 47 = .ok (.iload_n 1, 1) := by decide +kernel
theorem dX7_amountAt_48 : decode cX7_amountAt 48 = .ok (.ldc 109, 2) := by decide +kernel
theorem dX7_amountAt_50 : decode cX7_amountAt 50 = .ok (.invokevirtual 81, 3) := by decide +kernel
theorem dX7_amountAt_53 : decode cX7_amountAt 53 = .ok (.ifCond .eq 15, 3) := by decide +kernel
theorem dX7_amountAt_56 : decode cX7_amountAt 56 = .ok (.aload_n 0, 1) := by decide +kernel
theorem dX7_amountAt_57 : decode cX7_amountAt 57 = .ok (.iload_n 1, 1) := by decide +kernel
theorem dX7_amountAt_58 : decode cX7_amountAt 58 = .ok (.iconst 1, 1) := by decide +kernel
theorem dX7_amountAt_59 : decode cX7_amountAt 59 = .ok (.iadd, 1) := by decide +kernel
theorem dX7_amountAt_60 : decode cX7_amountAt 60 = .ok (.invokevirtual 95, 3) := by decide +kernel
theorem dX7_amountAt_63 : decode cX7_amountAt 63 = .ok (.ifCond .eq 5, 3) := by decide +kernel
theorem dX7_amountAt_66 : decode cX7_amountAt 66 = .ok (.iconst 3, 1) := by decide +kernel
theorem dX7_amountAt_67 : decode cX7_amountAt 67 = .ok (.ireturn, 1) := by decide +kernel
theorem dX7_amountAt_68 : decode cX7_amountAt 68 = .ok (.iconst 0, 1) := by decide +kernel
theorem dX7_amountAt_69 : decode cX7_amountAt 69 = .ok (.ireturn, 1) := by decide +kernel
theorem dX7_valueAt_0 : decode cX7_valueAt 0 = .ok (.aload_n 0, 1) := by decide +kernel
theorem dX7_valueAt_1 : decode cX7_valueAt 1 = .ok (.iload_n 1, 1) := by decide +kernel
theorem dX7_valueAt_2 : decode cX7_valueAt 2 = .ok (.ldc 107, 2) := by decide +kernel
theorem dX7_valueAt_4 : decode cX7_valueAt 4 = .ok (.invokevirtual 81, 3) := by decide +kernel
theorem dX7_valueAt_7 : decode cX7_valueAt 7 = .ok (.ifCond .eq 7, 3) := by decide +kernel
theorem dX7_valueAt_10 : decode cX7_valueAt 10 = .ok (.sipush 1000, 3) := by decide +kernel
theorem dX7_valueAt_13 : decode cX7_valueAt 13 = .ok (.ireturn, 1) := by decide +kernel
theorem dX7_valueAt_14 : decode cX7_valueAt 14 = .ok (.aload_n 0, 1) := by decide +kernel
theorem dX7_valueAt_15 : decode cX7_valueAt 15 = .ok (.iload_n 1, 1) := by decide +kernel
theorem dX7_valueAt_16 : decode cX7_valueAt 16 = .ok (.ldc 109, 2) := by decide +kernel
theorem dX7_valueAt_18 : decode cX7_valueAt 18 = .ok (.invokevirtual 81, 3) := by decide +kernel
theorem dX7_valueAt_21 : decode cX7_valueAt 21 = .ok (.ifCond .eq 7, 3) := by decide +kernel
theorem dX7_valueAt_24 : decode cX7_valueAt 24 = .ok (.sipush 1001, 3) := by decide +kernel
theorem dX7_valueAt_27 : decode cX7_valueAt 27 = .ok (.ireturn, 1) := by decide +kernel
theorem dX7_valueAt_28 : decode cX7_valueAt 28 = .ok (.aload_n 0, 1) := by decide +kernel
theorem dX7_valueAt_29 : decode cX7_valueAt 29 = .ok (.iload_n 1, 1) := by decide +kernel
theorem dX7_valueAt_30 : decode cX7_valueAt 30 = .ok (.ldc 111, 2) := by decide +kernel
theorem dX7_valueAt_32 : decode cX7_valueAt 32 = .ok (.invokevirtual 81, 3) := by decide +kernel
theorem dX7_valueAt_35 : decode cX7_valueAt 35 = .ok (.ifCond .eq 7, 3) := by decide +kernel
theorem dX7_valueAt_38 : decode cX7_valueAt 38 = .ok (.sipush 1002, 3) := by decide +kernel
theorem dX7_valueAt_41 : decode cX7_valueAt 41 = .ok (.ireturn, 1) := by decide +kernel
theorem dX7_valueAt_42 : decode cX7_valueAt 42 = .ok (.aload_n 0, 1) := by decide +kernel
theorem dX7_valueAt_43 : decode cX7_valueAt 43 = .ok (.iload_n 1, 1) := by decide +kernel
theorem dX7_valueAt_44 : decode cX7_valueAt 44 = .ok (.invokevirtual 92, 3) := by decide +kernel
theorem dX7_valueAt_47 : decode cX7_valueAt 47 = .ok (.istore_n 2, 1) := by decide +kernel
theorem dX7_valueAt_48 : decode cX7_valueAt 48 = .ok (.iload_n 2, 1) := by decide +kernel
theorem dX7_valueAt_49 : decode cX7_valueAt 49 = .ok (.aload_n 0, 1) := by decide +kernel
theorem dX7_valueAt_50 : decode cX7_valueAt 50 = .ok (.getfield 7, 3) := by decide +kernel
theorem dX7_valueAt_53 : decode cX7_valueAt 53 = .ok (.if_icmp .ge 7, 3) := by decide +kernel
theorem dX7_valueAt_56 : decode cX7_valueAt 56 = .ok (.iload_n 2, 1) := by decide +kernel
theorem dX7_valueAt_57 : decode cX7_valueAt 57 = .ok (.goto 4, 3) := by decide +kernel
theorem dX7_valueAt_60 : decode cX7_valueAt 60 = .ok (.iconst (-1), 1) := by decide +kernel
theorem dX7_valueAt_61 : decode cX7_valueAt 61 = .ok (.ireturn, 1) := by decide +kernel
theorem dX7_isComparison_0 : decode cX7_isComparison 0 = .ok (.aload_n 0, 1) := by decide +kernel
theorem dX7_isComparison_1 : decode cX7_isComparison 1 = .ok (.iload_n 1, 1) := by decide +kernel
theorem dX7_isComparison_2 : decode cX7_isComparison 2 = .ok (.ldc 113, 2) := by decide +kernel
theorem dX7_isComparison_4 : decode cX7_isComparison 4 = .ok (.invokevirtual 81, 3) := by decide +kernel
theorem dX7_isComparison_7 : decode cX7_isComparison 7 = .ok (.ifCond .ne 23, 3) := by decide +kernel
theorem dX7_isComparison_10 : decode cX7_isComparison 10 = .ok (.aload_n 0, 1) := by decide +kernel
theorem dX7_isComparison_11 : decode cX7_isComparison 11 = .ok (.iload_n 1, 1) := by decide +kernel
theorem dX7_isComparison_12 : decode cX7_isComparison 12 = .ok (.ldc 115, 2) := by decide +kernel
theorem dX7_isComparison_14 : decode cX7_isComparison 14 = .ok (.invokevirtual 81, 3) := by decide +kernel
theorem dX7_isComparison_17 : decode cX7_isComparison 17 = .ok (.ifCond .ne 13, 3) := by decide +kernel
theorem dX7_isComparison_20 : decode cX7_isComparison 20 = .ok (.aload_n 0, 1) := by decide +kernel
theorem dX7_isComparison_21 : decode cX7_isComparison 21 = .ok (.iload_n 1, 1) := by decide +kernel
theorem dX7_isComparison_22 : decode cX7_isComparison 22 = .ok (.ldc 117, 2) := by decide +kernel
theorem dX7_isComparison_24 : decode cX7_isComparison 24 = .ok (.invokevirtual 81, 3) := by decide +kernel
theorem dX7_isComparison_27 : decode cX7_isComparison 27 = .ok (.ifCond .eq 7, 3) := by decide +kernel
theorem dX7_isComparison_30 : decode cX7_isComparison 30 = .ok (.iconst 1, 1) := by decide +kernel
theorem dX7_isComparison_31 : decode cX7_isComparison 31 = .ok (.goto 4, 3) := by decide +kernel
theorem dX7_isComparison_34 : decode cX7_isComparison 34 = .ok (.iconst 0, 1) := by decide +kernel
theorem dX7_isComparison_35 : decode cX7_isComparison 35 = .ok (.ireturn, 1) := by decide +kernel
theorem dX7_numberAt_0 : decode cX7_numberAt 0 = .ok (.iload_n 1, 1) := by decide +kernel
theorem dX7_numberAt_1 : decode cX7_numberAt 1 = .ok (.ifCond .lt 45, 3) := by decide +kernel
theorem dX7_numberAt_4 : decode cX7_numberAt 4 = .ok (.iload_n 1, 1) := by decide +kernel
theorem dX7_numberAt_5 : decode cX7_numberAt 5 = .ok (.aload_n 0, 1) := by decide +kernel
theorem dX7_numberAt_6 : decode cX7_numberAt 6 = .ok (.getfield 62, 3) := by decide +kernel
theorem dX7_numberAt_9 : decode cX7_numberAt 9 = .ok (.if_icmp .ge 37, 3) := by decide +kernel
theorem dX7_numberAt_12 : decode cX7_numberAt 12 = .ok (.aload_n 0, 1) := by decide +kernel
theorem dX7_numberAt_13 : decode cX7_numberAt 13 = .ok (.getfield 21, 3) := by decide +kernel
theorem dX7_numberAt_16 : decode cX7_numberAt 16 = .ok (.iload_n 1, 1) := by decide +kernel
theorem dX7_numberAt_17 : decode cX7_numberAt 17 = .ok (.iaload, 1) := by decide +kernel
theorem dX7_numberAt_18 : decode cX7_numberAt 18 = .ok (.aload_n 0, 1) := by decide +kernel
theorem dX7_numberAt_19 : decode cX7_numberAt 19 = .ok (.getfield 17, 3) := by decide +kernel
theorem dX7_numberAt_22 : decode cX7_numberAt 22 = .ok (.iload_n 1, 1) := by decide +kernel
theorem dX7_numberAt_23 : decode cX7_numberAt 23 = .ok (.iaload, 1) := by decide +kernel
theorem dX7_numberAt_24 : decode cX7_numberAt 24 = .ok (.isub, 1) := by decide +kernel
theorem dX7_numberAt_25 : decode cX7_numberAt 25 = .ok (.iconst 3, 1) := by decide +kernel
theorem dX7_numberAt_26 : decode cX7_numberAt 26 = .ok (.if_icmp .gt 20, 3) := by decide +kernel
theorem dX7_numberAt_29 : decode cX7_numberAt 29 = .ok (.aload_n 0, 1) := by decide +kernel
theorem dX7_numberAt_30 : decode cX7_numberAt 30 = .ok (.getfield 13, 3) := by decide +kernel
theorem dX7_numberAt_33 : decode cX7_numberAt 33 = .ok (.aload_n 0, 1) := by decide +kernel
theorem dX7_numberAt_34 : decode cX7_numberAt 34 = .ok (.getfield 17, 3) := by decide +kernel
theorem dX7_numberAt_37 : decode cX7_numberAt 37 = .ok (.iload_n 1, 1) := by decide +kernel
theorem dX7_numberAt_38 : decode cX7_numberAt 38 = .ok (.iaload, 1) := by decide +kernel
theorem dX7_numberAt_39 : decode cX7_numberAt 39 = .ok (.caload, 1) := by decide +kernel
theorem dX7_numberAt_40 : decode cX7_numberAt 40 = .ok (.invokestatic 73, 3) := by decide +kernel
theorem dX7_numberAt_43 : decode cX7_numberAt 43 = .ok (.ifCond .ne 5, 3) := by decide +kernel
theorem dX7_numberAt_46 : decode cX7_numberAt 46 = .ok (.iconst (-1), 1) := by decide +kernel
theorem dX7_numberAt_47 : decode cX7_numberAt 47 = .ok (.ireturn, 1) := by decide +kernel
theorem dX7_numberAt_48 : decode cX7_numberAt 48 = .ok (.iconst 0, 1) := by decide +kernel
theorem dX7_numberAt_49 : decode cX7_numberAt 49 = .ok (.istore_n 2, 1) := by decide +kernel
theorem dX7_numberAt_50 : decode cX7_numberAt 50 = .ok (.aload_n 0, 1) := by decide +kernel
theorem dX7_numberAt_51 : decode cX7_numberAt 51 = .ok (.getfield 17, 3) := by decide +kernel
theorem dX7_numberAt_54 : decode cX7_numberAt 54 = .ok (.iload_n 1, 1) := by decide +kernel
theorem dX7_numberAt_55 : decode cX7_numberAt 55 = .ok (.iaload, 1) := by decide +kernel
theorem dX7_numberAt_56 : decode cX7_numberAt 56 = .ok (.istore_n 3, 1) := by decide +kernel
theorem dX7_numberAt_57 : decode cX7_numberAt 57 = .ok (.iload_n 3, 1) := by decide +kernel
theorem dX7_numberAt_58 : decode cX7_numberAt 58 = .ok (.aload_n 0, 1) := by decide +kernel
theorem dX7_numberAt_59 : decode cX7_numberAt 59 = .ok (.getfield 21, 3) := by decide +kernel
theorem dX7_numberAt_62 : decode cX7_numberAt 62 = .ok (.iload_n 1, 1) := by decide +kernel
theorem dX7_numberAt_63 : decode cX7_numberAt 63 = .ok (.iaload, 1) := by decide +kernel
theorem dX7_numberAt_64 : decode cX7_numberAt 64 = .ok (.if_icmp .ge 24, 3) := by decide +kernel
theorem dX7_numberAt_67 : decode cX7_numberAt 67 = .ok (.iload_n 2, 1) := by decide +kernel
theorem dX7_numberAt_68 : decode cX7_numberAt 68 = .ok (.bipush 10, 2) := by decide +kernel
theorem dX7_numberAt_70 : decode cX7_numberAt 70 = .ok (.imul, 1) := by decide +kernel
theorem dX7_numberAt_71 : decode cX7_numberAt 71 = .ok (.aload_n 0, 1) := by decide +kernel
theorem dX7_numberAt_72 : decode cX7_numberAt 72 = .ok (.getfield 13, 3) := by decide +kernel
theorem dX7_numberAt_75 : decode cX7_numberAt 75 = .ok (.iload_n 3, 1) := by decide +kernel
theorem dX7_numberAt_76 : decode cX7_numberAt 76 = .ok (.caload, 1) := by decide +kernel
theorem dX7_numberAt_77 : decode cX7_numberAt 77 = .ok (.bipush 48, 2) := by decide +kernel
theorem dX7_numberAt_79 : decode cX7_numberAt 79 = .ok (.isub, 1) := by decide +kernel
theorem dX7_numberAt_80 : decode cX7_numberAt 80 = .ok (.iadd, 1) := by decide +kernel
theorem dX7_numberAt_81 : decode cX7_numberAt 81 = .ok (.istore_n 2, 1) := by decide +kernel
theorem dX7_numberAt_82 : decode cX7_numberAt 82 = .ok (.iinc 3 1, 3) := by decide +kernel
theorem dX7_numberAt_85 : decode cX7_numberAt 85 = .ok (.goto (-28), 3) := by decide +kernel
theorem dX7_numberAt_88 : decode cX7_numberAt 88 = .ok (.iload_n 2, 1) := by decide +kernel
theorem dX7_numberAt_89 : decode cX7_numberAt 89 = .ok (.ireturn, 1) := by decide +kernel
set_option maxRecDepth 20000 in
theorem v_X6_init_0 {g : xG} {post : xPost} {h : xHp} {nx : Nat} {x0 : Nat} (V : (h x0 = some (xo 7 [.null, .null, .null, .null, .null, .int (nI 0)]) ∧ x0 ≠ nx ∧ (x0 ≠ (nx + 1) ∧ (x0 ≠ ((nx + 1) + 1) ∧ (x0 ≠ (((nx + 1) + 1) + 1) ∧ (x0 ≠ ((((nx + 1) + 1) + 1) + 1) ∧ (post none (xup (xup (xup (xup (xup (xup (xup (xup (xup (xup h nx (xna 20 (fun _ => 0))) x0 (xo 7 [.ref nx, .null, .null, .null, .null, .int (nI 0)])) (nx + 1) (xna 20 (fun _ => 0))) x0 (xo 7 [.ref nx, .ref (nx + 1), .null, .null, .null, .int (nI 0)])) ((nx + 1) + 1) (xnc 20 (fun _ => 0))) x0 (xo 7 [.ref nx, .ref (nx + 1), .ref ((nx + 1) + 1), .null, .null, .int (nI 0)])) (((nx + 1) + 1) + 1) (xna 20 (fun _ => 0))) x0 (xo 7 [.ref nx, .ref (nx + 1), .ref ((nx + 1) + 1), .ref (((nx + 1) + 1) + 1), .null, .int (nI 0)])) ((((nx + 1) + 1) + 1) + 1) (xna 20 (fun _ => 0))) x0 (xo 7 [.ref nx, .ref (nx + 1), .ref ((nx + 1) + 1), .ref (((nx + 1) + 1) + 1), .ref ((((nx + 1) + 1) + 1) + 1), .int (nI 0)])) (((((nx + 1) + 1) + 1) + 1) + 1)))))))) : Blk g M_X6_init post 0 [(0, .ref x0)] [] h nx 0 0 := by
  refine r_aload_n 0 dX6_init_0 rfl rfl ?_
  refine r_oinit wM_X6_3 wi_java_lang_Object__init____V wc_java_lang_Object__init____V dX6_init_1 (by decide) (Nat.le_of_ble_eq_true rfl) ?_
  refine r_aload_n 0 dX6_init_4 rfl rfl ?_
  refine r_bipush (v := (nI 20)) dX6_init_5 rfl ?_
  refine r_newi wA_int dX6_init_7 rfl (by decide) (by decide) (by decide) ?_
  show Blk g M_X6_init post 9 [(0, .ref x0)] [.ref nx, .ref x0] (xup h nx (xna 20 (fun _ => 0))) (nx + 1) 1 20
  obtain ⟨q1, V⟩ := V
  obtain ⟨n2, V⟩ := V
  have q3 : (xup h nx (xna 20 (fun _ => 0))) x0 = some (xo 7 [.null, .null, .null, .null, .null, .int (nI 0)]) := (xup_n n2).trans q1
  refine r_putF (ci := 7) (kf := 0) (T := TX6) rfl in_X6 tyX6_ok nmX6 (by decide) wF_X6_11 rfl rfl rfl (tyX6_ok 0 (by decide)) dX6_init_9 q3 (Nat.le_of_ble_eq_true rfl) rfl rfl ?_
  show Blk g M_X6_init post 12 [(0, .ref x0)] [] (xup (xup h nx (xna 20 (fun _ => 0))) x0 (xo 7 [.ref nx, .null, .null, .null, .null, .int (nI 0)])) (nx + 1) 1 20
  refine r_aload_n 0 dX6_init_12 rfl rfl ?_
  refine r_bipush (v := (nI 20)) dX6_init_13 rfl ?_
  refine r_newi wA_int dX6_init_15 rfl (by decide) (by decide) (by decide) ?_
  show Blk g M_X6_init post 17 [(0, .ref x0)] [.ref (nx + 1), .ref x0] (xup (xup (xup h nx (xna 20 (fun _ => 0))) x0 (xo 7 [.ref nx, .null, .null, .null, .null, .int (nI 0)])) (nx + 1) (xna 20 (fun _ => 0))) ((nx + 1) + 1) 2 40
  obtain ⟨n4, V⟩ := V
  have q5 : (xup (xup (xup h nx (xna 20 (fun _ => 0))) x0 (xo 7 [.ref nx, .null, .null, .null, .null, .int (nI 0)])) (nx + 1) (xna 20 (fun _ => 0))) x0 = some (xo 7 [.ref nx, .null, .null, .null, .null, .int (nI 0)]) := (xup_n n4).trans (xup_s _ _ _)
  refine r_putF (ci := 7) (kf := 1) (T := TX6) rfl in_X6 tyX6_ok nmX6 (by decide) wF_X6_15 rfl rfl rfl (tyX6_ok 1 (by decide)) dX6_init_17 q5 (Nat.le_of_ble_eq_true rfl) rfl rfl ?_
  show Blk g M_X6_init post 20 [(0, .ref x0)] [] (xup (xup (xup (xup h nx (xna 20 (fun _ => 0))) x0 (xo 7 [.ref nx, .null, .null, .null, .null, .int (nI 0)])) (nx + 1) (xna 20 (fun _ => 0))) x0 (xo 7 [.ref nx, .ref (nx + 1), .null, .null, .null, .int (nI 0)])) ((nx + 1) + 1) 2 40
  refine r_aload_n 0 dX6_init_20 rfl rfl ?_
  refine r_bipush (v := (nI 20)) dX6_init_21 rfl ?_
  refine r_newc wA_char dX6_init_23 rfl (by decide) (by decide) (by decide) ?_
  show Blk g M_X6_init post 25 [(0, .ref x0)] [.ref ((nx + 1) + 1), .ref x0] (xup (xup (xup (xup (xup h nx (xna 20 (fun _ => 0))) x0 (xo 7 [.ref nx, .null, .null, .null, .null, .int (nI 0)])) (nx + 1) (xna 20 (fun _ => 0))) x0 (xo 7 [.ref nx, .ref (nx + 1), .null, .null, .null, .int (nI 0)])) ((nx + 1) + 1) (xnc 20 (fun _ => 0))) (((nx + 1) + 1) + 1) 3 60
  obtain ⟨n6, V⟩ := V
  have q7 : (xup (xup (xup (xup (xup h nx (xna 20 (fun _ => 0))) x0 (xo 7 [.ref nx, .null, .null, .null, .null, .int (nI 0)])) (nx + 1) (xna 20 (fun _ => 0))) x0 (xo 7 [.ref nx, .ref (nx + 1), .null, .null, .null, .int (nI 0)])) ((nx + 1) + 1) (xnc 20 (fun _ => 0))) x0 = some (xo 7 [.ref nx, .ref (nx + 1), .null, .null, .null, .int (nI 0)]) := (xup_n n6).trans (xup_s _ _ _)
  refine r_putF (ci := 7) (kf := 2) (T := TX6) rfl in_X6 tyX6_ok nmX6 (by decide) wF_X6_18 rfl rfl rfl (tyX6_ok 2 (by decide)) dX6_init_25 q7 (Nat.le_of_ble_eq_true rfl) rfl rfl ?_
  show Blk g M_X6_init post 28 [(0, .ref x0)] [] (xup (xup (xup (xup (xup (xup h nx (xna 20 (fun _ => 0))) x0 (xo 7 [.ref nx, .null, .null, .null, .null, .int (nI 0)])) (nx + 1) (xna 20 (fun _ => 0))) x0 (xo 7 [.ref nx, .ref (nx + 1), .null, .null, .null, .int (nI 0)])) ((nx + 1) + 1) (xnc 20 (fun _ => 0))) x0 (xo 7 [.ref nx, .ref (nx + 1), .ref ((nx + 1) + 1), .null, .null, .int (nI 0)])) (((nx + 1) + 1) + 1) 3 60
  refine r_aload_n 0 dX6_init_28 rfl rfl ?_
  refine r_bipush (v := (nI 20)) dX6_init_29 rfl ?_
  refine r_newi wA_int dX6_init_31 rfl (by decide) (by decide) (by decide) ?_
  show Blk g M_X6_init post 33 [(0, .ref x0)] [.ref (((nx + 1) + 1) + 1), .ref x0] (xup (xup (xup (xup (xup (xup (xup h nx (xna 20 (fun _ => 0))) x0 (xo 7 [.ref nx, .null, .null, .null, .null, .int (nI 0)])) (nx + 1) (xna 20 (fun _ => 0))) x0 (xo 7 [.ref nx, .ref (nx + 1), .null, .null, .null, .int (nI 0)])) ((nx + 1) + 1) (xnc 20 (fun _ => 0))) x0 (xo 7 [.ref nx, .ref (nx + 1), .ref ((nx + 1) + 1), .null, .null, .int (nI 0)])) (((nx + 1) + 1) + 1) (xna 20 (fun _ => 0))) ((((nx + 1) + 1) + 1) + 1) 4 80
  obtain ⟨n8, V⟩ := V
  have q9 : (xup (xup (xup (xup (xup (xup (xup h nx (xna 20 (fun _ => 0))) x0 (xo 7 [.ref nx, .null, .null, .null, .null, .int (nI 0)])) (nx + 1) (xna 20 (fun _ => 0))) x0 (xo 7 [.ref nx, .ref (nx + 1), .null, .null, .null, .int (nI 0)])) ((nx + 1) + 1) (xnc 20 (fun _ => 0))) x0 (xo 7 [.ref nx, .ref (nx + 1), .ref ((nx + 1) + 1), .null, .null, .int (nI 0)])) (((nx + 1) + 1) + 1) (xna 20 (fun _ => 0))) x0 = some (xo 7 [.ref nx, .ref (nx + 1), .ref ((nx + 1) + 1), .null, .null, .int (nI 0)]) := (xup_n n8).trans (xup_s _ _ _)
  refine r_putF (ci := 7) (kf := 3) (T := TX6) rfl in_X6 tyX6_ok nmX6 (by decide) wF_X6_22 rfl rfl rfl (tyX6_ok 3 (by decide)) dX6_init_33 q9 (Nat.le_of_ble_eq_true rfl) rfl rfl ?_
  show Blk g M_X6_init post 36 [(0, .ref x0)] [] (xup (xup (xup (xup (xup (xup (xup (xup h nx (xna 20 (fun _ => 0))) x0 (xo 7 [.ref nx, .null, .null, .null, .null, .int (nI 0)])) (nx + 1) (xna 20 (fun _ => 0))) x0 (xo 7 [.ref nx, .ref (nx + 1), .null, .null, .null, .int (nI 0)])) ((nx + 1) + 1) (xnc 20 (fun _ => 0))) x0 (xo 7 [.ref nx, .ref (nx + 1), .ref ((nx + 1) + 1), .null, .null, .int (nI 0)])) (((nx + 1) + 1) + 1) (xna 20 (fun _ => 0))) x0 (xo 7 [.ref nx, .ref (nx + 1), .ref ((nx + 1) + 1), .ref (((nx + 1) + 1) + 1), .null, .int (nI 0)])) ((((nx + 1) + 1) + 1) + 1) 4 80
  refine r_aload_n 0 dX6_init_36 rfl rfl ?_
  refine r_bipush (v := (nI 20)) dX6_init_37 rfl ?_
  refine r_newi wA_int dX6_init_39 rfl (by decide) (by decide) (by decide) ?_
  show Blk g M_X6_init post 41 [(0, .ref x0)] [.ref ((((nx + 1) + 1) + 1) + 1), .ref x0] (xup (xup (xup (xup (xup (xup (xup (xup (xup h nx (xna 20 (fun _ => 0))) x0 (xo 7 [.ref nx, .null, .null, .null, .null, .int (nI 0)])) (nx + 1) (xna 20 (fun _ => 0))) x0 (xo 7 [.ref nx, .ref (nx + 1), .null, .null, .null, .int (nI 0)])) ((nx + 1) + 1) (xnc 20 (fun _ => 0))) x0 (xo 7 [.ref nx, .ref (nx + 1), .ref ((nx + 1) + 1), .null, .null, .int (nI 0)])) (((nx + 1) + 1) + 1) (xna 20 (fun _ => 0))) x0 (xo 7 [.ref nx, .ref (nx + 1), .ref ((nx + 1) + 1), .ref (((nx + 1) + 1) + 1), .null, .int (nI 0)])) ((((nx + 1) + 1) + 1) + 1) (xna 20 (fun _ => 0))) (((((nx + 1) + 1) + 1) + 1) + 1) 5 100
  obtain ⟨n10, V⟩ := V
  have q11 : (xup (xup (xup (xup (xup (xup (xup (xup (xup h nx (xna 20 (fun _ => 0))) x0 (xo 7 [.ref nx, .null, .null, .null, .null, .int (nI 0)])) (nx + 1) (xna 20 (fun _ => 0))) x0 (xo 7 [.ref nx, .ref (nx + 1), .null, .null, .null, .int (nI 0)])) ((nx + 1) + 1) (xnc 20 (fun _ => 0))) x0 (xo 7 [.ref nx, .ref (nx + 1), .ref ((nx + 1) + 1), .null, .null, .int (nI 0)])) (((nx + 1) + 1) + 1) (xna 20 (fun _ => 0))) x0 (xo 7 [.ref nx, .ref (nx + 1), .ref ((nx + 1) + 1), .ref (((nx + 1) + 1) + 1), .null, .int (nI 0)])) ((((nx + 1) + 1) + 1) + 1) (xna 20 (fun _ => 0))) x0 = some (xo 7 [.ref nx, .ref (nx + 1), .ref ((nx + 1) + 1), .ref (((nx + 1) + 1) + 1), .null, .int (nI 0)]) := (xup_n n10).trans (xup_s _ _ _)
  refine r_putF (ci := 7) (kf := 4) (T := TX6) rfl in_X6 tyX6_ok nmX6 (by decide) wF_X6_25 rfl rfl rfl (tyX6_ok 4 (by decide)) dX6_init_41 q11 (Nat.le_of_ble_eq_true rfl) rfl rfl ?_
  show Blk g M_X6_init post 44 [(0, .ref x0)] [] (xup (xup (xup (xup (xup (xup (xup (xup (xup (xup h nx (xna 20 (fun _ => 0))) x0 (xo 7 [.ref nx, .null, .null, .null, .null, .int (nI 0)])) (nx + 1) (xna 20 (fun _ => 0))) x0 (xo 7 [.ref nx, .ref (nx + 1), .null, .null, .null, .int (nI 0)])) ((nx + 1) + 1) (xnc 20 (fun _ => 0))) x0 (xo 7 [.ref nx, .ref (nx + 1), .ref ((nx + 1) + 1), .null, .null, .int (nI 0)])) (((nx + 1) + 1) + 1) (xna 20 (fun _ => 0))) x0 (xo 7 [.ref nx, .ref (nx + 1), .ref ((nx + 1) + 1), .ref (((nx + 1) + 1) + 1), .null, .int (nI 0)])) ((((nx + 1) + 1) + 1) + 1) (xna 20 (fun _ => 0))) x0 (xo 7 [.ref nx, .ref (nx + 1), .ref ((nx + 1) + 1), .ref (((nx + 1) + 1) + 1), .ref ((((nx + 1) + 1) + 1) + 1), .int (nI 0)])) (((((nx + 1) + 1) + 1) + 1) + 1) 5 100
  exact r_vret dX6_init_44 rfl (by decide) (by decide) V
set_option maxRecDepth 20000 in
theorem v_X6_clear_0 {g : xG} {post : xPost} {h : xHp} {nx : Nat} {x0 : Nat} (V : (∃ (o2 : Nat) (o3 : Nat) (o4 : Nat) (o5 : Nat) (o6 : Nat) (o7 : Nat), h x0 = some (xo 7 [.ref o2, .ref o3, .ref o4, .ref o5, .ref o6, .int (nI o7)]) ∧ (post none (xup h x0 (xo 7 [.ref o2, .ref o3, .ref o4, .ref o5, .ref o6, .int (nI 0)])) nx))) : Blk g M_X6_clear post 0 [(0, .ref x0)] [] h nx 0 0 := by
  refine r_aload_n 0 dX6_clear_0 rfl rfl ?_
  refine r_iconst (v := (nI 0)) dX6_clear_1 rfl ?_
  obtain ⟨o2, o3, o4, o5, o6, o7, q1, V⟩ := V
  refine r_putf (ci := 7) (kf := 5) (T := TX6) rfl in_X6 tyX6_ok nmX6 (by decide) wF_X6_28 rfl (tyX6_ok 5 (by decide)) dX6_clear_2 q1 (Nat.le_of_ble_eq_true rfl) rfl rfl ?_
  show Blk g M_X6_clear post 5 [(0, .ref x0)] [] (xup h x0 (xo 7 [.ref o2, .ref o3, .ref o4, .ref o5, .ref o6, .int (nI 0)])) nx 0 0
  exact r_vret dX6_clear_5 rfl (by decide) (by decide) V
set_option maxRecDepth 20000 in
theorem v_X6_size_0 {g : xG} {post : xPost} {h : xHp} {nx : Nat} {x0 : Nat} (V : (∃ (o2 : Nat) (o3 : Nat) (o4 : Nat) (o5 : Nat) (o6 : Nat) (o7 : Nat), h x0 = some (xo 7 [.ref o2, .ref o3, .ref o4, .ref o5, .ref o6, .int (nI o7)]) ∧ (post (some (.int (nI o7))) h nx))) : Blk g M_X6_size post 0 [(0, .ref x0)] [] h nx 0 0 := by
  refine r_aload_n 0 dX6_size_0 rfl rfl ?_
  obtain ⟨o2, o3, o4, o5, o6, o7, q1, V⟩ := V
  refine r_getf (ci := 7) (kf := 5) (T := TX6) rfl in_X6 (by decide) wF_X6_28 dX6_size_1 q1 rfl ?_
  exact r_iret dX6_size_4 rfl (by decide) (by decide) V
set_option maxRecDepth 20000 in
theorem v_X6_add_0 {g : xG} {post : xPost} {h : xHp} {nx : Nat} {x0 : Nat} {x1 : Nat} {x2 : Nat} {x3 : Nat} {x4 : Nat} {x5 : Nat} (V : (∃ (o2 : Nat) (o3 : Nat) (o4 : Nat) (o5 : Nat) (o6 : Nat) (o7 : Nat), h x0 = some (xo 7 [.ref o2, .ref o3, .ref o4, .ref o5, .ref o6, .int (nI o7)]) ∧ ((o7 < 2 ^ 31 ∧ 20 < 2 ^ 31) ∧ ((20 ≤ o7 → (post none h nx)) ∧ (o7 < 20 → (∃ (N9 : Nat) (f10 : Nat → Nat), h o2 = some (xna N9 f10) ∧ o7 < N9 ∧ N9 < 2 ^ 31 ∧ (∃ (N13 : Nat) (f14 : Nat → Nat), h o3 = some (xna N13 f14) ∧ o3 ≠ o2 ∧ o7 < N13 ∧ N13 < 2 ^ 31 ∧ (∃ (N19 : Nat) (f20 : Nat → Nat), h o4 = some (xnc N19 f20) ∧ o7 < N19 ∧ N19 < 2 ^ 31 ∧ x3 < 65536 ∧ (∃ (N25 : Nat) (f26 : Nat → Nat), h o5 = some (xna N25 f26) ∧ o5 ≠ o2 ∧ o5 ≠ o3 ∧ o7 < N25 ∧ N25 < 2 ^ 31 ∧ (∃ (N34 : Nat) (f35 : Nat → Nat), h o6 = some (xna N34 f35) ∧ o6 ≠ o2 ∧ o6 ≠ o3 ∧ o6 ≠ o5 ∧ o7 < N34 ∧ N34 < 2 ^ 31 ∧ (post none (xup (xup (xup (xup (xup (xup h o2 (xna N9 (va_up f10 o7 x1))) o3 (xna N13 (va_up f14 o7 x2))) o4 (xnc N19 (va_up f20 o7 x3))) o5 (xna N25 (va_up f26 o7 x4))) o6 (xna N34 (va_up f35 o7 x5))) x0 (xo 7 [.ref o2, .ref o3, .ref o4, .ref o5, .ref o6, .int (nI (o7 + 1))])) nx))))))))))) : Blk g M_X6_add post 0 [(0, .ref x0), (1, .int (nI x1)), (2, .int (nI x2)), (3, .int (nI x3)), (4, .int (nI x4)), (5, .int (nI x5))] [] h nx 0 0 := by
  refine r_aload_n 0 dX6_add_0 rfl rfl ?_
  obtain ⟨o2, o3, o4, o5, o6, o7, q1, V⟩ := V
  refine r_getf (ci := 7) (kf := 5) (T := TX6) rfl in_X6 (by decide) wF_X6_28 dX6_add_1 q1 rfl ?_
  refine r_bipush (v := (nI 20)) dX6_add_4 rfl ?_
  obtain ⟨c, V⟩ := V
  refine r_icmp_geN (tgt := 71) dX6_add_6 (by decide) c (fun c => ?_) (fun c => ?_)
  · have V := V.1 c
    exact r_vret dX6_add_71 rfl (by decide) (by decide) V
  · have V := V.2 c
    refine r_aload_n 0 dX6_add_9 rfl rfl ?_
    refine r_getf (ci := 7) (kf := 0) (T := TX6) rfl in_X6 (by decide) wF_X6_11 dX6_add_10 q1 rfl ?_
    refine r_aload_n 0 dX6_add_13 rfl rfl ?_
    refine r_getf (ci := 7) (kf := 5) (T := TX6) rfl in_X6 (by decide) wF_X6_28 dX6_add_14 q1 rfl ?_
    refine r_iload_n 1 dX6_add_17 rfl rfl ?_
    obtain ⟨N9, f10, q8, V⟩ := V
    obtain ⟨c, cN, V⟩ := V
    refine r_iastN dX6_add_18 q8 c cN ?_
    show Blk g M_X6_add post 19 [(0, .ref x0), (1, .int (nI x1)), (2, .int (nI x2)), (3, .int (nI x3)), (4, .int (nI x4)), (5, .int (nI x5))] [] (xup h o2 (xna N9 (va_up f10 o7 x1))) nx 0 0
    refine r_aload_n 0 dX6_add_19 rfl rfl ?_
    have q11 : (xup h o2 (xna N9 (va_up f10 o7 x1))) x0 = some (xo 7 [.ref o2, .ref o3, .ref o4, .ref o5, .ref o6, .int (nI o7)]) := (xup_n (x_apart q1 q8 x_oa)).trans q1
    refine r_getf (ci := 7) (kf := 1) (T := TX6) rfl in_X6 (by decide) wF_X6_15 dX6_add_20 q11 rfl ?_
    refine r_aload_n 0 dX6_add_23 rfl rfl ?_
    refine r_getf (ci := 7) (kf := 5) (T := TX6) rfl in_X6 (by decide) wF_X6_28 dX6_add_24 q11 rfl ?_
    refine r_iload_n 2 dX6_add_27 rfl rfl ?_
    obtain ⟨N13, f14, q12, V⟩ := V
    obtain ⟨n15, V⟩ := V
    have q16 : (xup h o2 (xna N9 (va_up f10 o7 x1))) o3 = some (xna N13 f14) := (xup_n n15).trans q12
    obtain ⟨c, cN, V⟩ := V
    refine r_iastN dX6_add_28 q16 c cN ?_
    show Blk g M_X6_add post 29 [(0, .ref x0), (1, .int (nI x1)), (2, .int (nI x2)), (3, .int (nI x3)), (4, .int (nI x4)), (5, .int (nI x5))] [] (xup (xup h o2 (xna N9 (va_up f10 o7 x1))) o3 (xna N13 (va_up f14 o7 x2))) nx 0 0
    refine r_aload_n 0 dX6_add_29 rfl rfl ?_
    have q17 : (xup (xup h o2 (xna N9 (va_up f10 o7 x1))) o3 (xna N13 (va_up f14 o7 x2))) x0 = some (xo 7 [.ref o2, .ref o3, .ref o4, .ref o5, .ref o6, .int (nI o7)]) := (xup_n (x_apart q11 q16 x_oa)).trans q11
    refine r_getf (ci := 7) (kf := 2) (T := TX6) rfl in_X6 (by decide) wF_X6_18 dX6_add_30 q17 rfl ?_
    refine r_aload_n 0 dX6_add_33 rfl rfl ?_
    refine r_getf (ci := 7) (kf := 5) (T := TX6) rfl in_X6 (by decide) wF_X6_28 dX6_add_34 q17 rfl ?_
    refine r_iload_n 3 dX6_add_37 rfl rfl ?_
    obtain ⟨N19, f20, q18, V⟩ := V
    have q21 : (xup h o2 (xna N9 (va_up f10 o7 x1))) o4 = some (xnc N19 f20) := (xup_n (x_apart q18 q8 (x_aa (by decide)))).trans q18
    have q22 : (xup (xup h o2 (xna N9 (va_up f10 o7 x1))) o3 (xna N13 (va_up f14 o7 x2))) o4 = some (xnc N19 f20) := (xup_n (x_apart q21 q16 (x_aa (by decide)))).trans q21
    obtain ⟨c, cN, c5, V⟩ := V
    refine r_castN dX6_add_38 q22 c cN c5 ?_
    show Blk g M_X6_add post 39 [(0, .ref x0), (1, .int (nI x1)), (2, .int (nI x2)), (3, .int (nI x3)), (4, .int (nI x4)), (5, .int (nI x5))] [] (xup (xup (xup h o2 (xna N9 (va_up f10 o7 x1))) o3 (xna N13 (va_up f14 o7 x2))) o4 (xnc N19 (va_up f20 o7 x3))) nx 0 0
    refine r_aload_n 0 dX6_add_39 rfl rfl ?_
    have q23 : (xup (xup (xup h o2 (xna N9 (va_up f10 o7 x1))) o3 (xna N13 (va_up f14 o7 x2))) o4 (xnc N19 (va_up f20 o7 x3))) x0 = some (xo 7 [.ref o2, .ref o3, .ref o4, .ref o5, .ref o6, .int (nI o7)]) := (xup_n (x_apart q17 q22 x_oa)).trans q17
    refine r_getf (ci := 7) (kf := 3) (T := TX6) rfl in_X6 (by decide) wF_X6_22 dX6_add_40 q23 rfl ?_
    refine r_aload_n 0 dX6_add_43 rfl rfl ?_
    refine r_getf (ci := 7) (kf := 5) (T := TX6) rfl in_X6 (by decide) wF_X6_28 dX6_add_44 q23 rfl ?_
    refine r_iload 4 dX6_add_47 rfl ?_
    obtain ⟨N25, f26, q24, V⟩ := V
    obtain ⟨n27, V⟩ := V
    have q28 : (xup h o2 (xna N9 (va_up f10 o7 x1))) o5 = some (xna N25 f26) := (xup_n n27).trans q24
    obtain ⟨n29, V⟩ := V
    have q30 : (xup (xup h o2 (xna N9 (va_up f10 o7 x1))) o3 (xna N13 (va_up f14 o7 x2))) o5 = some (xna N25 f26) := (xup_n n29).trans q28
    have q31 : (xup (xup (xup h o2 (xna N9 (va_up f10 o7 x1))) o3 (xna N13 (va_up f14 o7 x2))) o4 (xnc N19 (va_up f20 o7 x3))) o5 = some (xna N25 f26) := (xup_n (x_apart q30 q22 (x_aa (by decide)))).trans q30
    obtain ⟨c, cN, V⟩ := V
    refine r_iastN dX6_add_49 q31 c cN ?_
    show Blk g M_X6_add post 50 [(0, .ref x0), (1, .int (nI x1)), (2, .int (nI x2)), (3, .int (nI x3)), (4, .int (nI x4)), (5, .int (nI x5))] [] (xup (xup (xup (xup h o2 (xna N9 (va_up f10 o7 x1))) o3 (xna N13 (va_up f14 o7 x2))) o4 (xnc N19 (va_up f20 o7 x3))) o5 (xna N25 (va_up f26 o7 x4))) nx 0 0
    refine r_aload_n 0 dX6_add_50 rfl rfl ?_
    have q32 : (xup (xup (xup (xup h o2 (xna N9 (va_up f10 o7 x1))) o3 (xna N13 (va_up f14 o7 x2))) o4 (xnc N19 (va_up f20 o7 x3))) o5 (xna N25 (va_up f26 o7 x4))) x0 = some (xo 7 [.ref o2, .ref o3, .ref o4, .ref o5, .ref o6, .int (nI o7)]) := (xup_n (x_apart q23 q31 x_oa)).trans q23
    refine r_getf (ci := 7) (kf := 4) (T := TX6) rfl in_X6 (by decide) wF_X6_25 dX6_add_51 q32 rfl ?_
    refine r_aload_n 0 dX6_add_54 rfl rfl ?_
    refine r_getf (ci := 7) (kf := 5) (T := TX6) rfl in_X6 (by decide) wF_X6_28 dX6_add_55 q32 rfl ?_
    refine r_iload 5 dX6_add_58 rfl ?_
    obtain ⟨N34, f35, q33, V⟩ := V
    obtain ⟨n36, V⟩ := V
    have q37 : (xup h o2 (xna N9 (va_up f10 o7 x1))) o6 = some (xna N34 f35) := (xup_n n36).trans q33
    obtain ⟨n38, V⟩ := V
    have q39 : (xup (xup h o2 (xna N9 (va_up f10 o7 x1))) o3 (xna N13 (va_up f14 o7 x2))) o6 = some (xna N34 f35) := (xup_n n38).trans q37
    have q40 : (xup (xup (xup h o2 (xna N9 (va_up f10 o7 x1))) o3 (xna N13 (va_up f14 o7 x2))) o4 (xnc N19 (va_up f20 o7 x3))) o6 = some (xna N34 f35) := (xup_n (x_apart q39 q22 (x_aa (by decide)))).trans q39
    obtain ⟨n41, V⟩ := V
    have q42 : (xup (xup (xup (xup h o2 (xna N9 (va_up f10 o7 x1))) o3 (xna N13 (va_up f14 o7 x2))) o4 (xnc N19 (va_up f20 o7 x3))) o5 (xna N25 (va_up f26 o7 x4))) o6 = some (xna N34 f35) := (xup_n n41).trans q40
    obtain ⟨c, cN, V⟩ := V
    refine r_iastN dX6_add_60 q42 c cN ?_
    show Blk g M_X6_add post 61 [(0, .ref x0), (1, .int (nI x1)), (2, .int (nI x2)), (3, .int (nI x3)), (4, .int (nI x4)), (5, .int (nI x5))] [] (xup (xup (xup (xup (xup h o2 (xna N9 (va_up f10 o7 x1))) o3 (xna N13 (va_up f14 o7 x2))) o4 (xnc N19 (va_up f20 o7 x3))) o5 (xna N25 (va_up f26 o7 x4))) o6 (xna N34 (va_up f35 o7 x5))) nx 0 0
    refine r_aload_n 0 dX6_add_61 rfl rfl ?_
    refine r_dup dX6_add_62 rfl ?_
    have q43 : (xup (xup (xup (xup (xup h o2 (xna N9 (va_up f10 o7 x1))) o3 (xna N13 (va_up f14 o7 x2))) o4 (xnc N19 (va_up f20 o7 x3))) o5 (xna N25 (va_up f26 o7 x4))) o6 (xna N34 (va_up f35 o7 x5))) x0 = some (xo 7 [.ref o2, .ref o3, .ref o4, .ref o5, .ref o6, .int (nI o7)]) := (xup_n (x_apart q32 q42 x_oa)).trans q32
    refine r_getf (ci := 7) (kf := 5) (T := TX6) rfl in_X6 (by decide) wF_X6_28 dX6_add_63 q43 rfl ?_
    refine r_iconst (v := (nI 1)) dX6_add_66 rfl ?_
    refine r_iaddN dX6_add_67 ?_
    refine r_putf (ci := 7) (kf := 5) (T := TX6) rfl in_X6 tyX6_ok nmX6 (by decide) wF_X6_28 rfl (tyX6_ok 5 (by decide)) dX6_add_68 q43 (Nat.le_of_ble_eq_true rfl) rfl rfl ?_
    show Blk g M_X6_add post 71 [(0, .ref x0), (1, .int (nI x1)), (2, .int (nI x2)), (3, .int (nI x3)), (4, .int (nI x4)), (5, .int (nI x5))] [] (xup (xup (xup (xup (xup (xup h o2 (xna N9 (va_up f10 o7 x1))) o3 (xna N13 (va_up f14 o7 x2))) o4 (xnc N19 (va_up f20 o7 x3))) o5 (xna N25 (va_up f26 o7 x4))) o6 (xna N34 (va_up f35 o7 x5))) x0 (xo 7 [.ref o2, .ref o3, .ref o4, .ref o5, .ref o6, .int (nI (o7 + 1))])) nx 0 0
    exact r_vret dX6_add_71 rfl (by decide) (by decide) V
set_option maxRecDepth 20000 in
theorem v_X6_judge_0 {g : xG} {post : xPost} {h : xHp} {nx : Nat} {x0 : Nat} {x1 : Nat} {x2 : Nat} (V : ((x2 < 2 ^ 31 ∧ 1 < 2 ^ 31) ∧ ((x2 < 1 → (post (some (.int (-1))) h nx)) ∧ (1 ≤ x2 → (∃ (N2 : Nat) (f3 : Nat → Nat), h x1 = some (xna N2 f3) ∧ ((x2 < 2 ^ 31 ∧ N2 < 2 ^ 31) ∧ ((x2 ≤ N2 → Blk g M_X6_judge post 15 [(0, .ref x0), (1, .ref x1), (2, .int (nI x2)), (3, .int (nI 0))] [] h nx 0 0) ∧ (N2 < x2 → (post (some (.int (-1))) h nx))))))))) : Blk g M_X6_judge post 0 [(0, .ref x0), (1, .ref x1), (2, .int (nI x2))] [] h nx 0 0 := by
  refine r_iload_n 2 dX6_judge_0 rfl rfl ?_
  refine r_iconst (v := (nI 1)) dX6_judge_1 rfl ?_
  obtain ⟨c, V⟩ := V
  refine r_icmp_ltN (tgt := 11) dX6_judge_2 (by decide) c (fun c => ?_) (fun c => ?_)
  · have V := V.1 c
    refine r_iconst (v := (-1)) dX6_judge_11 rfl ?_
    exact r_iret dX6_judge_12 rfl (by decide) (by decide) V
  · have V := V.2 c
    refine r_iload_n 2 dX6_judge_5 rfl rfl ?_
    refine r_aload_n 1 dX6_judge_6 rfl rfl ?_
    obtain ⟨N2, f3, q1, V⟩ := V
    refine r_alen (kd := 0) (by decide) dX6_judge_7 q1 ?_
    obtain ⟨c, V⟩ := V
    refine r_icmp_leN (tgt := 13) dX6_judge_8 (by decide) c (fun c => ?_) (fun c => ?_)
    · have V := V.1 c
      refine r_iconst (v := (nI 0)) dX6_judge_13 rfl ?_
      refine r_istore_n (L' := [(3, .int (nI 0)), (0, .ref x0), (1, .ref x1), (2, .int (nI x2))]) dX6_judge_14 rfl (by decide) rfl ?_
      exact Blk.sub [1, 2, 3, 0] rfl V
    · have V := V.2 c
      refine r_iconst (v := (-1)) dX6_judge_11 rfl ?_
      exact r_iret dX6_judge_12 rfl (by decide) (by decide) V
set_option maxRecDepth 20000 in
theorem v_X6_judge_15 {g : xG} {post : xPost} {h : xHp} {nx : Nat} {x0 : Nat} {x1 : Nat} {x2 : Nat} {x3 : Nat} (V : (∃ (o2 : Nat) (o3 : Nat) (o4 : Nat) (o5 : Nat) (o6 : Nat) (o7 : Nat), h x0 = some (xo 7 [.ref o2, .ref o3, .ref o4, .ref o5, .ref o6, .int (nI o7)]) ∧ ((x3 < 2 ^ 31 ∧ o7 < 2 ^ 31) ∧ ((o7 ≤ x3 → (1 ≤ x2 ∧ (∃ (N9 : Nat) (f10 : Nat → Nat), h x1 = some (xna N9 f10) ∧ (x2 - 1) < N9 ∧ N9 < 2 ^ 31 ∧ (post (some (.int (nI (f10 (x2 - 1))))) h nx)))) ∧ (x3 < o7 → (Ct g M_X6_holds [.ref x0, .int (nI x3), .ref x1, .int (nI x2)] h nx (fun r h11 n12 => ∃ v13 : Nat, r = some (.int (nI v13)) ∧ (v13 < 2 ^ 31 ∧ ((v13 = 0 → Blk g M_X6_judge post 15 [(0, .ref x0), (1, .ref x1), (2, .int (nI x2)), (3, .int (nI (x3 + 1)))] [] h11 n12 0 0) ∧ (¬ v13 = 0 → (∃ (o15 : Nat) (o16 : Nat) (o17 : Nat) (o18 : Nat) (o19 : Nat) (o20 : Nat), h11 x0 = some (xo 7 [.ref o15, .ref o16, .ref o17, .ref o18, .ref o19, .int (nI o20)]) ∧ (∃ (N22 : Nat) (f23 : Nat → Nat), h11 o19 = some (xna N22 f23) ∧ x3 < N22 ∧ N22 < 2 ^ 31 ∧ (Ct g M_X6_valueOf [.int (nI (f23 x3)), .ref x1, .int (nI x2)] h11 n12 (fun r h24 n25 => ∃ v26 : Nat, r = some (.int (nI v26)) ∧ (post (some (.int (nI v26))) h24 n25))))))))))))))) : Blk g M_X6_judge post 15 [(0, .ref x0), (1, .ref x1), (2, .int (nI x2)), (3, .int (nI x3))] [] h nx 0 0 := by
  refine r_iload_n 3 dX6_judge_15 rfl rfl ?_
  refine r_aload_n 0 dX6_judge_16 rfl rfl ?_
  obtain ⟨o2, o3, o4, o5, o6, o7, q1, V⟩ := V
  refine r_getf (ci := 7) (kf := 5) (T := TX6) rfl in_X6 (by decide) wF_X6_28 dX6_judge_17 q1 rfl ?_
  obtain ⟨c, V⟩ := V
  refine r_icmp_geN (tgt := 51) dX6_judge_20 (by decide) c (fun c => ?_) (fun c => ?_)
  · have V := V.1 c
    refine r_aload_n 1 dX6_judge_51 rfl rfl ?_
    refine r_iload_n 2 dX6_judge_52 rfl rfl ?_
    refine r_iconst (v := (nI 1)) dX6_judge_53 rfl ?_
    obtain ⟨c, V⟩ := V
    refine r_isubN dX6_judge_54 c ?_
    obtain ⟨N9, f10, q8, V⟩ := V
    obtain ⟨c, cN, V⟩ := V
    refine r_iald dX6_judge_55 q8 rfl c cN ?_
    show Blk g M_X6_judge post 56 [(0, .ref x0), (1, .ref x1), (2, .int (nI x2)), (3, .int (nI x3))] [.int (nI (f10 (x2 - 1)))] h nx 0 0
    exact r_iret dX6_judge_56 rfl (by decide) (by decide) V
  · have V := V.2 c
    refine r_aload_n 0 dX6_judge_23 rfl rfl ?_
    refine r_iload_n 3 dX6_judge_24 rfl rfl ?_
    refine r_aload_n 1 dX6_judge_25 rfl rfl ?_
    refine r_iload_n 2 dX6_judge_26 rfl rfl ?_
    refine r_callV (M2 := M_X6_holds) (ci := 7) (n := 3) (As := [.int (nI x3), .ref x1, .int (nI x2)]) rfl (wl5 wM_X6_32 wi_X6_holds wS_X6_holds wI_StateShares_RuleList wc_X6_holds) (by decide +kernel) (by decide) rfl rfl (Nat.le_of_ble_eq_true rfl) dX6_judge_27 q1 (by decide) (by decide) (Ct.imp V (fun r h11 n12 V => ?_))
    obtain ⟨v13, rfl, V⟩ := V
    show Blk g M_X6_judge post 30 [(0, .ref x0), (1, .ref x1), (2, .int (nI x2)), (3, .int (nI x3))] [.int (nI v13)] h11 n12 0 0
    obtain ⟨c, V⟩ := V
    refine r_if_eqN (tgt := 45) dX6_judge_30 (by decide) c (fun c => ?_) (fun c => ?_)
    · have V := V.1 c
      refine r_iincN 3 (b := 1) (L' := [(3, .int (nI (x3 + 1))), (0, .ref x0), (1, .ref x1), (2, .int (nI x2))]) dX6_judge_45 rfl rfl (by decide) rfl ?_
      refine r_goto (tgt := 15) dX6_judge_48 (by decide) ?_
      exact Blk.sub [1, 2, 3, 0] rfl V
    · have V := V.2 c
      refine r_aload_n 0 dX6_judge_33 rfl rfl ?_
      obtain ⟨o15, o16, o17, o18, o19, o20, q14, V⟩ := V
      refine r_getf (ci := 7) (kf := 4) (T := TX6) rfl in_X6 (by decide) wF_X6_25 dX6_judge_34 q14 rfl ?_
      refine r_iload_n 3 dX6_judge_37 rfl rfl ?_
      obtain ⟨N22, f23, q21, V⟩ := V
      obtain ⟨c, cN, V⟩ := V
      refine r_iald dX6_judge_38 q21 rfl c cN ?_
      show Blk g M_X6_judge post 39 [(0, .ref x0), (1, .ref x1), (2, .int (nI x2)), (3, .int (nI x3))] [.int (nI (f23 x3))] h11 n12 0 0
      refine r_aload_n 1 dX6_judge_39 rfl rfl ?_
      refine r_iload_n 2 dX6_judge_40 rfl rfl ?_
      refine r_callS (M2 := M_X6_valueOf) (n := 3) (As := [.int (nI (f23 x3)), .ref x1, .int (nI x2)]) (wl4 wM_X6_36 ws_X6_valueOf wI_StateShares_RuleList wc_X6_valueOf) (by decide +kernel) (by decide) rfl rfl (Nat.le_of_ble_eq_true rfl) dX6_judge_41 (by decide) (by decide) (Ct.imp V (fun r h24 n25 V => ?_))
      obtain ⟨v26, rfl, V⟩ := V
      show Blk g M_X6_judge post 44 [(0, .ref x0), (1, .ref x1), (2, .int (nI x2)), (3, .int (nI x3))] [.int (nI v26)] h24 n25 0 0
      exact r_iret dX6_judge_44 rfl (by decide) (by decide) V
set_option maxRecDepth 20000 in
theorem v_X6_holds_0 {g : xG} {post : xPost} {h : xHp} {nx : Nat} {x0 : Nat} {x1 : Nat} {x2 : Nat} {x3 : Nat} (V : (∃ (o2 : Nat) (o3 : Nat) (o4 : Nat) (o5 : Nat) (o6 : Nat) (o7 : Nat), h x0 = some (xo 7 [.ref o2, .ref o3, .ref o4, .ref o5, .ref o6, .int (nI o7)]) ∧ (∃ (N9 : Nat) (f10 : Nat → Nat), h o2 = some (xna N9 f10) ∧ x1 < N9 ∧ N9 < 2 ^ 31 ∧ ((f10 x1) < 2 ^ 31 ∧ ((¬ (f10 x1) = 0 → (Ct g M_X6_amountOf [.ref x0, .int (nI x1), .ref x2, .int (nI x3)] h nx (fun r h11 n12 => ∃ v13 : Nat, r = some (.int (nI v13)) ∧ (∃ (o15 : Nat) (o16 : Nat) (o17 : Nat) (o18 : Nat) (o19 : Nat) (o20 : Nat), h11 x0 = some (xo 7 [.ref o15, .ref o16, .ref o17, .ref o18, .ref o19, .int (nI o20)]) ∧ (∃ (N22 : Nat) (f23 : Nat → Nat), h11 o17 = some (xnc N22 f23) ∧ x1 < N22 ∧ N22 < 2 ^ 31 ∧ (((f23 x1) < 2 ^ 31 ∧ 60 < 2 ^ 31) ∧ ((¬ (f23 x1) = 60 → (x1 < N22 ∧ N22 < 2 ^ 31 ∧ (((f23 x1) < 2 ^ 31 ∧ 62 < 2 ^ 31) ∧ ((¬ (f23 x1) = 62 → (∃ (N25 : Nat) (f26 : Nat → Nat), h11 o18 = some (xna N25 f26) ∧ x1 < N25 ∧ N25 < 2 ^ 31 ∧ ((v13 < 2 ^ 31 ∧ (f26 x1) < 2 ^ 31) ∧ ((¬ v13 = (f26 x1) → (post (some (.int (nI 0))) h11 n12)) ∧ (v13 = (f26 x1) → (post (some (.int (nI 1))) h11 n12)))))) ∧ ((f23 x1) = 62 → (∃ (N28 : Nat) (f29 : Nat → Nat), h11 o18 = some (xna N28 f29) ∧ x1 < N28 ∧ N28 < 2 ^ 31 ∧ ((v13 < 2 ^ 31 ∧ (f29 x1) < 2 ^ 31) ∧ ((v13 ≤ (f29 x1) → (post (some (.int (nI 0))) h11 n12)) ∧ ((f29 x1) < v13 → (post (some (.int (nI 1))) h11 n12)))))))))) ∧ ((f23 x1) = 60 → (∃ (N31 : Nat) (f32 : Nat → Nat), h11 o18 = some (xna N31 f32) ∧ x1 < N31 ∧ N31 < 2 ^ 31 ∧ ((v13 < 2 ^ 31 ∧ (f32 x1) < 2 ^ 31) ∧ (((f32 x1) ≤ v13 → (post (some (.int (nI 0))) h11 n12)) ∧ (v13 < (f32 x1) → (post (some (.int (nI 1))) h11 n12))))))))))))) ∧ ((f10 x1) = 0 → (post (some (.int (nI 1))) h nx))))))) : Blk g M_X6_holds post 0 [(0, .ref x0), (1, .int (nI x1)), (2, .ref x2), (3, .int (nI x3))] [] h nx 0 0 := by
  refine r_aload_n 0 dX6_holds_0 rfl rfl ?_
  obtain ⟨o2, o3, o4, o5, o6, o7, q1, V⟩ := V
  refine r_getf (ci := 7) (kf := 0) (T := TX6) rfl in_X6 (by decide) wF_X6_11 dX6_holds_1 q1 rfl ?_
  refine r_iload_n 1 dX6_holds_4 rfl rfl ?_
  obtain ⟨N9, f10, q8, V⟩ := V
  obtain ⟨c, cN, V⟩ := V
  refine r_iald dX6_holds_5 q8 rfl c cN ?_
  show Blk g M_X6_holds post 6 [(0, .ref x0), (1, .int (nI x1)), (2, .ref x2), (3, .int (nI x3))] [.int (nI (f10 x1))] h nx 0 0
  obtain ⟨c, V⟩ := V
  refine r_if_neN (tgt := 11) dX6_holds_6 (by decide) c (fun c => ?_) (fun c => ?_)
  · have V := V.1 c
    refine r_aload_n 0 dX6_holds_11 rfl rfl ?_
    refine r_iload_n 1 dX6_holds_12 rfl rfl ?_
    refine r_aload_n 2 dX6_holds_13 rfl rfl ?_
    refine r_iload_n 3 dX6_holds_14 rfl rfl ?_
    refine r_callV (M2 := M_X6_amountOf) (ci := 7) (n := 3) (As := [.int (nI x1), .ref x2, .int (nI x3)]) rfl (wl5 wM_X6_40 wi_X6_amountOf wS_X6_amountOf wI_StateShares_RuleList wc_X6_amountOf) (by decide +kernel) (by decide) rfl rfl (Nat.le_of_ble_eq_true rfl) dX6_holds_15 q1 (by decide) (by decide) (Ct.imp V (fun r h11 n12 V => ?_))
    obtain ⟨v13, rfl, V⟩ := V
    show Blk g M_X6_holds post 18 [(0, .ref x0), (1, .int (nI x1)), (2, .ref x2), (3, .int (nI x3))] [.int (nI v13)] h11 n12 0 0
    refine r_istore (L' := [(4, .int (nI v13)), (0, .ref x0), (1, .int (nI x1)), (2, .ref x2), (3, .int (nI x3))]) dX6_holds_18 (by decide) rfl ?_
    refine r_aload_n 1 dX6_holds_20 rfl rfl ?_
    obtain ⟨o15, o16, o17, o18, o19, o20, q14, V⟩ := V
    refine r_getf (ci := 7) (kf := 2) (T := TX6) rfl in_X6 (by decide) wF_X6_18 dX6_holds_21 q14 rfl ?_
    refine r_iload_n 2 dX6_holds_24 rfl rfl ?_
    obtain ⟨N22, f23, q21, V⟩ := V
    obtain ⟨c, cN, V⟩ := V
    refine r_cald dX6_holds_25 q21 rfl c cN ?_
    show Blk g M_X6_holds post 26 [(4, .int (nI v13)), (0, .ref x0), (1, .int (nI x1)), (2, .ref x2), (3, .int (nI x3))] [.int (nI (f23 x1))] h11 n12 0 0
    refine r_bipush (v := (nI 60)) dX6_holds_26 rfl ?_
    obtain ⟨c, V⟩ := V
    refine r_icmp_neN (tgt := 48) dX6_holds_28 (by decide) c (fun c => ?_) (fun c => ?_)
    · have V := V.1 c
      refine r_aload_n 1 dX6_holds_48 rfl rfl ?_
      refine r_getf (ci := 7) (kf := 2) (T := TX6) rfl in_X6 (by decide) wF_X6_18 dX6_holds_49 q14 rfl ?_
      refine r_iload_n 2 dX6_holds_52 rfl rfl ?_
      obtain ⟨c, cN, V⟩ := V
      refine r_cald dX6_holds_53 q21 rfl c cN ?_
      show Blk g M_X6_holds post 54 [(4, .int (nI v13)), (0, .ref x0), (1, .int (nI x1)), (2, .ref x2), (3, .int (nI x3))] [.int (nI (f23 x1))] h11 n12 0 0
      refine r_bipush (v := (nI 62)) dX6_holds_54 rfl ?_
      obtain ⟨c, V⟩ := V
      refine r_icmp_neN (tgt := 78) dX6_holds_56 (by decide) c (fun c => ?_) (fun c => ?_)
      · have V := V.1 c
        refine r_iload 0 dX6_holds_78 rfl ?_
        refine r_aload_n 1 dX6_holds_80 rfl rfl ?_
        refine r_getf (ci := 7) (kf := 3) (T := TX6) rfl in_X6 (by decide) wF_X6_22 dX6_holds_81 q14 rfl ?_
        refine r_iload_n 2 dX6_holds_84 rfl rfl ?_
        obtain ⟨N25, f26, q24, V⟩ := V
        obtain ⟨c, cN, V⟩ := V
        refine r_iald dX6_holds_85 q24 rfl c cN ?_
        show Blk g M_X6_holds post 86 [(4, .int (nI v13)), (0, .ref x0), (1, .int (nI x1)), (2, .ref x2), (3, .int (nI x3))] [.int (nI (f26 x1)), .int (nI v13)] h11 n12 0 0
        obtain ⟨c, V⟩ := V
        refine r_icmp_neN (tgt := 93) dX6_holds_86 (by decide) c (fun c => ?_) (fun c => ?_)
        · have V := V.1 c
          refine r_iconst (v := (nI 0)) dX6_holds_93 rfl ?_
          exact r_zret (ty := .boolean) dX6_holds_94 rfl rfl (by decide) (by decide) V
        · have V := V.2 c
          refine r_iconst (v := (nI 1)) dX6_holds_89 rfl ?_
          refine r_goto (tgt := 94) dX6_holds_90 (by decide) ?_
          exact r_zret (ty := .boolean) dX6_holds_94 rfl rfl (by decide) (by decide) V
      · have V := V.2 c
        refine r_iload 0 dX6_holds_59 rfl ?_
        refine r_aload_n 1 dX6_holds_61 rfl rfl ?_
        refine r_getf (ci := 7) (kf := 3) (T := TX6) rfl in_X6 (by decide) wF_X6_22 dX6_holds_62 q14 rfl ?_
        refine r_iload_n 2 dX6_holds_65 rfl rfl ?_
        obtain ⟨N28, f29, q27, V⟩ := V
        obtain ⟨c, cN, V⟩ := V
        refine r_iald dX6_holds_66 q27 rfl c cN ?_
        show Blk g M_X6_holds post 67 [(4, .int (nI v13)), (0, .ref x0), (1, .int (nI x1)), (2, .ref x2), (3, .int (nI x3))] [.int (nI (f29 x1)), .int (nI v13)] h11 n12 0 0
        obtain ⟨c, V⟩ := V
        refine r_icmp_leN (tgt := 74) dX6_holds_67 (by decide) c (fun c => ?_) (fun c => ?_)
        · have V := V.1 c
          refine r_iconst (v := (nI 0)) dX6_holds_74 rfl ?_
          refine r_goto (tgt := 94) dX6_holds_75 (by decide) ?_
          exact r_zret (ty := .boolean) dX6_holds_94 rfl rfl (by decide) (by decide) V
        · have V := V.2 c
          refine r_iconst (v := (nI 1)) dX6_holds_70 rfl ?_
          refine r_goto (tgt := 94) dX6_holds_71 (by decide) ?_
          exact r_zret (ty := .boolean) dX6_holds_94 rfl rfl (by decide) (by decide) V
    · have V := V.2 c
      refine r_iload 0 dX6_holds_31 rfl ?_
      refine r_aload_n 1 dX6_holds_33 rfl rfl ?_
      refine r_getf (ci := 7) (kf := 3) (T := TX6) rfl in_X6 (by decide) wF_X6_22 dX6_holds_34 q14 rfl ?_
      refine r_iload_n 2 dX6_holds_37 rfl rfl ?_
      obtain ⟨N31, f32, q30, V⟩ := V
      obtain ⟨c, cN, V⟩ := V
      refine r_iald dX6_holds_38 q30 rfl c cN ?_
      show Blk g M_X6_holds post 39 [(4, .int (nI v13)), (0, .ref x0), (1, .int (nI x1)), (2, .ref x2), (3, .int (nI x3))] [.int (nI (f32 x1)), .int (nI v13)] h11 n12 0 0
      obtain ⟨c, V⟩ := V
      refine r_icmp_geN (tgt := 46) dX6_holds_39 (by decide) c (fun c => ?_) (fun c => ?_)
      · have V := V.1 c
        refine r_iconst (v := (nI 0)) dX6_holds_46 rfl ?_
        exact r_zret (ty := .boolean) dX6_holds_47 rfl rfl (by decide) (by decide) V
      · have V := V.2 c
        refine r_iconst (v := (nI 1)) dX6_holds_42 rfl ?_
        refine r_goto (tgt := 47) dX6_holds_43 (by decide) ?_
        exact r_zret (ty := .boolean) dX6_holds_47 rfl rfl (by decide) (by decide) V
  · have V := V.2 c
    refine r_iconst (v := (nI 1)) dX6_holds_9 rfl ?_
    exact r_zret (ty := .boolean) dX6_holds_10 rfl rfl (by decide) (by decide) V
set_option maxRecDepth 20000 in
theorem v_X6_amountOf_0 {g : xG} {post : xPost} {h : xHp} {nx : Nat} {x0 : Nat} {x1 : Nat} {x2 : Nat} {x3 : Nat} (V : (∃ (o2 : Nat) (o3 : Nat) (o4 : Nat) (o5 : Nat) (o6 : Nat) (o7 : Nat), h x0 = some (xo 7 [.ref o2, .ref o3, .ref o4, .ref o5, .ref o6, .int (nI o7)]) ∧ (∃ (N9 : Nat) (f10 : Nat → Nat), h o2 = some (xna N9 f10) ∧ x1 < N9 ∧ N9 < 2 ^ 31 ∧ ((f10 x1) < 2 ^ 31 ∧ (((f10 x1) = 1 → (post (some (.int (nI x3))) h nx)) ∧ ((f10 x1) = 2 → (1 ≤ x3 ∧ (∃ (N12 : Nat) (f13 : Nat → Nat), h x2 = some (xna N12 f13) ∧ (x3 - 1) < N12 ∧ N12 < 2 ^ 31 ∧ (post (some (.int (nI (f13 (x3 - 1))))) h nx)))) ∧ ((f10 x1) = 3 → (∃ (N15 : Nat) (f16 : Nat → Nat), h x2 = some (xna N15 f16) ∧ 0 < N15 ∧ N15 < 2 ^ 31 ∧ (post (some (.int (nI (f16 0)))) h nx))) ∧ (¬ (f10 x1) = 1 → ¬ (f10 x1) = 2 → ¬ (f10 x1) = 3 → (∃ (N18 : Nat) (f19 : Nat → Nat), h o3 = some (xna N18 f19) ∧ x1 < N18 ∧ N18 < 2 ^ 31 ∧ (Ct g M_X6_howMany [.int (nI (f19 x1)), .ref x2, .int (nI x3)] h nx (fun r h20 n21 => ∃ v22 : Nat, r = some (.int (nI v22)) ∧ (post (some (.int (nI v22))) h20 n21)))))))))) : Blk g M_X6_amountOf post 0 [(0, .ref x0), (1, .int (nI x1)), (2, .ref x2), (3, .int (nI x3))] [] h nx 0 0 := by
  refine r_aload_n 0 dX6_amountOf_0 rfl rfl ?_
  obtain ⟨o2, o3, o4, o5, o6, o7, q1, V⟩ := V
  refine r_getf (ci := 7) (kf := 0) (T := TX6) rfl in_X6 (by decide) wF_X6_11 dX6_amountOf_1 q1 rfl ?_
  refine r_iload_n 1 dX6_amountOf_4 rfl rfl ?_
  obtain ⟨N9, f10, q8, V⟩ := V
  obtain ⟨c, cN, V⟩ := V
  refine r_iald dX6_amountOf_5 q8 rfl c cN ?_
  show Blk g M_X6_amountOf post 6 [(0, .ref x0), (1, .int (nI x1)), (2, .ref x2), (3, .int (nI x3))] [.int (nI (f10 x1))] h nx 0 0
  obtain ⟨cn, V⟩ := V
  by_cases e6_0 : (f10 x1) = 1
  · have V := V.1 e6_0
    refine r_tswIn (tgt := 32) dX6_amountOf_6 (by rw [e6_0]; decide) (by rw [e6_0]; decide) (by rw [e6_0]; rfl) (by decide) ?_
    refine r_iload_n 3 dX6_amountOf_32 rfl rfl ?_
    exact r_iret dX6_amountOf_33 rfl (by decide) (by decide) V
  by_cases e6_1 : (f10 x1) = 2
  · have V := V.2.1 e6_1
    refine r_tswIn (tgt := 34) dX6_amountOf_6 (by rw [e6_1]; decide) (by rw [e6_1]; decide) (by rw [e6_1]; rfl) (by decide) ?_
    refine r_aload_n 2 dX6_amountOf_34 rfl rfl ?_
    refine r_iload_n 3 dX6_amountOf_35 rfl rfl ?_
    refine r_iconst (v := (nI 1)) dX6_amountOf_36 rfl ?_
    obtain ⟨c, V⟩ := V
    refine r_isubN dX6_amountOf_37 c ?_
    obtain ⟨N12, f13, q11, V⟩ := V
    obtain ⟨c, cN, V⟩ := V
    refine r_iald dX6_amountOf_38 q11 rfl c cN ?_
    show Blk g M_X6_amountOf post 39 [(0, .ref x0), (1, .int (nI x1)), (2, .ref x2), (3, .int (nI x3))] [.int (nI (f13 (x3 - 1)))] h nx 0 0
    exact r_iret dX6_amountOf_39 rfl (by decide) (by decide) V
  by_cases e6_2 : (f10 x1) = 3
  · have V := V.2.2.1 e6_2
    refine r_tswIn (tgt := 40) dX6_amountOf_6 (by rw [e6_2]; decide) (by rw [e6_2]; decide) (by rw [e6_2]; rfl) (by decide) ?_
    refine r_aload_n 2 dX6_amountOf_40 rfl rfl ?_
    refine r_iconst (v := (nI 0)) dX6_amountOf_41 rfl ?_
    obtain ⟨N15, f16, q14, V⟩ := V
    obtain ⟨c, cN, V⟩ := V
    refine r_iald dX6_amountOf_42 q14 rfl c cN ?_
    show Blk g M_X6_amountOf post 43 [(0, .ref x0), (1, .int (nI x1)), (2, .ref x2), (3, .int (nI x3))] [.int (nI (f16 0))] h nx 0 0
    exact r_iret dX6_amountOf_43 rfl (by decide) (by decide) V
  have V := V.2.2.2 e6_0 e6_1 e6_2
  refine r_tswOut (tgt := 44) dX6_amountOf_6 (by rw [nI_toInt cn]; omega) (by decide) ?_
  refine r_aload_n 0 dX6_amountOf_44 rfl rfl ?_
  refine r_getf (ci := 7) (kf := 1) (T := TX6) rfl in_X6 (by decide) wF_X6_15 dX6_amountOf_45 q1 rfl ?_
  refine r_iload_n 1 dX6_amountOf_48 rfl rfl ?_
  obtain ⟨N18, f19, q17, V⟩ := V
  obtain ⟨c, cN, V⟩ := V
  refine r_iald dX6_amountOf_49 q17 rfl c cN ?_
  show Blk g M_X6_amountOf post 50 [(0, .ref x0), (1, .int (nI x1)), (2, .ref x2), (3, .int (nI x3))] [.int (nI (f19 x1))] h nx 0 0
  refine r_aload_n 2 dX6_amountOf_50 rfl rfl ?_
  refine r_iload_n 3 dX6_amountOf_51 rfl rfl ?_
  refine r_callS (M2 := M_X6_howMany) (n := 3) (As := [.int (nI (f19 x1)), .ref x2, .int (nI x3)]) (wl4 wM_X6_43 ws_X6_howMany wI_StateShares_RuleList wc_X6_howMany) (by decide +kernel) (by decide) rfl rfl (Nat.le_of_ble_eq_true rfl) dX6_amountOf_52 (by decide) (by decide) (Ct.imp V (fun r h20 n21 V => ?_))
  obtain ⟨v22, rfl, V⟩ := V
  show Blk g M_X6_amountOf post 55 [(0, .ref x0), (1, .int (nI x1)), (2, .ref x2), (3, .int (nI x3))] [.int (nI v22)] h20 n21 0 0
  exact r_iret dX6_amountOf_55 rfl (by decide) (by decide) V
set_option maxRecDepth 20000 in
theorem v_X6_howMany_0 {g : xG} {post : xPost} {h : xHp} {nx : Nat} {x0 : Nat} {x1 : Nat} {x2 : Nat} (V : Blk g M_X6_howMany post 5 [(0, .int (nI x0)), (1, .ref x1), (2, .int (nI x2)), (3, .int (nI 0)), (4, .int (nI 0))] [] h nx 0 0) : Blk g M_X6_howMany post 0 [(0, .int (nI x0)), (1, .ref x1), (2, .int (nI x2))] [] h nx 0 0 := by
  refine r_iconst (v := (nI 0)) dX6_howMany_0 rfl ?_
  refine r_istore_n (L' := [(3, .int (nI 0)), (0, .int (nI x0)), (1, .ref x1), (2, .int (nI x2))]) dX6_howMany_1 rfl (by decide) rfl ?_
  refine r_iconst (v := (nI 0)) dX6_howMany_2 rfl ?_
  refine r_istore (L' := [(4, .int (nI 0)), (3, .int (nI 0)), (0, .int (nI x0)), (1, .ref x1), (2, .int (nI x2))]) dX6_howMany_3 (by decide) rfl ?_
  exact Blk.sub [2, 3, 4, 1, 0] rfl V
set_option maxRecDepth 20000 in
theorem v_X6_howMany_5 {g : xG} {post : xPost} {h : xHp} {nx : Nat} {x0 : Nat} {x1 : Nat} {x2 : Nat} {x3 : Nat} {x4 : Nat} (V : ((x4 < 2 ^ 31 ∧ x2 < 2 ^ 31) ∧ ((x2 ≤ x4 → (post (some (.int (nI x3))) h nx)) ∧ (x4 < x2 → (∃ (N2 : Nat) (f3 : Nat → Nat), h x1 = some (xna N2 f3) ∧ x4 < N2 ∧ N2 < 2 ^ 31 ∧ (((f3 x4) < 2 ^ 31 ∧ x0 < 2 ^ 31) ∧ ((¬ (f3 x4) = x0 → Blk g M_X6_howMany post 5 [(0, .int (nI x0)), (1, .ref x1), (2, .int (nI x2)), (3, .int (nI x3)), (4, .int (nI (x4 + 1)))] [] h nx 0 0) ∧ ((f3 x4) = x0 → Blk g M_X6_howMany post 5 [(0, .int (nI x0)), (1, .ref x1), (2, .int (nI x2)), (3, .int (nI (x3 + 1))), (4, .int (nI (x4 + 1)))] [] h nx 0 0)))))))) : Blk g M_X6_howMany post 5 [(0, .int (nI x0)), (1, .ref x1), (2, .int (nI x2)), (3, .int (nI x3)), (4, .int (nI x4))] [] h nx 0 0 := by
  refine r_iload 4 dX6_howMany_5 rfl ?_
  refine r_iload_n 2 dX6_howMany_7 rfl rfl ?_
  obtain ⟨c, V⟩ := V
  refine r_icmp_geN (tgt := 28) dX6_howMany_8 (by decide) c (fun c => ?_) (fun c => ?_)
  · have V := V.1 c
    refine r_iload_n 3 dX6_howMany_28 rfl rfl ?_
    exact r_iret dX6_howMany_29 rfl (by decide) (by decide) V
  · have V := V.2 c
    refine r_aload_n 1 dX6_howMany_11 rfl rfl ?_
    refine r_iload 4 dX6_howMany_12 rfl ?_
    obtain ⟨N2, f3, q1, V⟩ := V
    obtain ⟨c, cN, V⟩ := V
    refine r_iald dX6_howMany_14 q1 rfl c cN ?_
    show Blk g M_X6_howMany post 15 [(0, .int (nI x0)), (1, .ref x1), (2, .int (nI x2)), (3, .int (nI x3)), (4, .int (nI x4))] [.int (nI (f3 x4))] h nx 0 0
    refine r_iload_n 0 dX6_howMany_15 rfl rfl ?_
    obtain ⟨c, V⟩ := V
    refine r_icmp_neN (tgt := 22) dX6_howMany_16 (by decide) c (fun c => ?_) (fun c => ?_)
    · have V := V.1 c
      refine r_iincN 4 (b := 1) (L' := [(4, .int (nI (x4 + 1))), (0, .int (nI x0)), (1, .ref x1), (2, .int (nI x2)), (3, .int (nI x3))]) dX6_howMany_22 rfl rfl (by decide) rfl ?_
      refine r_goto (tgt := 5) dX6_howMany_25 (by decide) ?_
      exact Blk.sub [1, 2, 3, 4, 0] rfl V
    · have V := V.2 c
      refine r_iincN 3 (b := 1) (L' := [(3, .int (nI (x3 + 1))), (0, .int (nI x0)), (1, .ref x1), (2, .int (nI x2)), (4, .int (nI x4))]) dX6_howMany_19 rfl rfl (by decide) rfl ?_
      refine r_iincN 4 (b := 1) (L' := [(4, .int (nI (x4 + 1))), (3, .int (nI (x3 + 1))), (0, .int (nI x0)), (1, .ref x1), (2, .int (nI x2))]) dX6_howMany_22 rfl rfl (by decide) rfl ?_
      refine r_goto (tgt := 5) dX6_howMany_25 (by decide) ?_
      exact Blk.sub [2, 3, 4, 1, 0] rfl V
set_option maxRecDepth 20000 in
theorem v_X6_valueOf_0 {g : xG} {post : xPost} {h : xHp} {nx : Nat} {x0 : Nat} {x1 : Nat} {x2 : Nat} (V : (x0 < 2 ^ 31 ∧ ((x0 = 1000 → (1 ≤ x2 ∧ (∃ (N2 : Nat) (f3 : Nat → Nat), h x1 = some (xna N2 f3) ∧ (x2 - 1) < N2 ∧ N2 < 2 ^ 31 ∧ (post (some (.int (nI (f3 (x2 - 1))))) h nx)))) ∧ (x0 = 1001 → (∃ (N5 : Nat) (f6 : Nat → Nat), h x1 = some (xna N5 f6) ∧ 0 < N5 ∧ N5 < 2 ^ 31 ∧ (post (some (.int (nI (f6 0)))) h nx))) ∧ (x0 = 1002 → ((x2 < 2 ^ 31 ∧ 0 < 2 ∧ 2 < 2 ^ 31) ∧ (∃ (N8 : Nat) (f9 : Nat → Nat), h x1 = some (xna N8 f9) ∧ (x2 / 2) < N8 ∧ N8 < 2 ^ 31 ∧ (post (some (.int (nI (f9 (x2 / 2))))) h nx)))) ∧ (¬ x0 = 1000 → ¬ x0 = 1001 → ¬ x0 = 1002 → (post (some (.int (nI x0))) h nx))))) : Blk g M_X6_valueOf post 0 [(0, .int (nI x0)), (1, .ref x1), (2, .int (nI x2))] [] h nx 0 0 := by
  refine r_iload_n 0 dX6_valueOf_0 rfl rfl ?_
  obtain ⟨cn, V⟩ := V
  by_cases e1_0 : x0 = 1000
  · have V := V.1 e1_0
    refine r_tswIn (tgt := 28) dX6_valueOf_1 (by rw [e1_0]; decide) (by rw [e1_0]; decide) (by rw [e1_0]; rfl) (by decide) ?_
    refine r_aload_n 1 dX6_valueOf_28 rfl rfl ?_
    refine r_iload_n 2 dX6_valueOf_29 rfl rfl ?_
    refine r_iconst (v := (nI 1)) dX6_valueOf_30 rfl ?_
    obtain ⟨c, V⟩ := V
    refine r_isubN dX6_valueOf_31 c ?_
    obtain ⟨N2, f3, q1, V⟩ := V
    obtain ⟨c, cN, V⟩ := V
    refine r_iald dX6_valueOf_32 q1 rfl c cN ?_
    show Blk g M_X6_valueOf post 33 [(0, .int (nI x0)), (1, .ref x1), (2, .int (nI x2))] [.int (nI (f3 (x2 - 1)))] h nx 0 0
    exact r_iret dX6_valueOf_33 rfl (by decide) (by decide) V
  by_cases e1_1 : x0 = 1001
  · have V := V.2.1 e1_1
    refine r_tswIn (tgt := 34) dX6_valueOf_1 (by rw [e1_1]; decide) (by rw [e1_1]; decide) (by rw [e1_1]; rfl) (by decide) ?_
    refine r_aload_n 1 dX6_valueOf_34 rfl rfl ?_
    refine r_iconst (v := (nI 0)) dX6_valueOf_35 rfl ?_
    obtain ⟨N5, f6, q4, V⟩ := V
    obtain ⟨c, cN, V⟩ := V
    refine r_iald dX6_valueOf_36 q4 rfl c cN ?_
    show Blk g M_X6_valueOf post 37 [(0, .int (nI x0)), (1, .ref x1), (2, .int (nI x2))] [.int (nI (f6 0))] h nx 0 0
    exact r_iret dX6_valueOf_37 rfl (by decide) (by decide) V
  by_cases e1_2 : x0 = 1002
  · have V := V.2.2.1 e1_2
    refine r_tswIn (tgt := 38) dX6_valueOf_1 (by rw [e1_2]; decide) (by rw [e1_2]; decide) (by rw [e1_2]; rfl) (by decide) ?_
    refine r_aload_n 1 dX6_valueOf_38 rfl rfl ?_
    refine r_iload_n 2 dX6_valueOf_39 rfl rfl ?_
    refine r_iconst (v := (nI 2)) dX6_valueOf_40 rfl ?_
    obtain ⟨c, V⟩ := V
    refine r_idivN dX6_valueOf_41 c ?_
    obtain ⟨N8, f9, q7, V⟩ := V
    obtain ⟨c, cN, V⟩ := V
    refine r_iald dX6_valueOf_42 q7 rfl c cN ?_
    show Blk g M_X6_valueOf post 43 [(0, .int (nI x0)), (1, .ref x1), (2, .int (nI x2))] [.int (nI (f9 (x2 / 2)))] h nx 0 0
    exact r_iret dX6_valueOf_43 rfl (by decide) (by decide) V
  have V := V.2.2.2 e1_0 e1_1 e1_2
  refine r_tswOut (tgt := 44) dX6_valueOf_1 (by rw [nI_toInt cn]; omega) (by decide) ?_
  refine r_iload_n 0 dX6_valueOf_44 rfl rfl ?_
  exact r_iret dX6_valueOf_45 rfl (by decide) (by decide) V
set_option maxRecDepth 20000 in
theorem v_X7_init_0 {g : xG} {post : xPost} {h : xHp} {nx : Nat} {x0 : Nat} {x1 : Nat} (V : (h x0 = some (xo 8 [.int (nI 0), .null, .int (nI 0), .null, .null, .int (nI 0), .int (nI 0), .null, .null]) ∧ (x0 ≠ nx ∧ (x0 ≠ (nx + 1) ∧ (x0 ≠ ((nx + 1) + 1) ∧ (Ct g M_X6_init [.ref (((nx + 1) + 1) + 1)] (xup (xup (xup (xup (xup (xup (xup (xup h x0 (xo 8 [.int (nI x1), .null, .int (nI 0), .null, .null, .int (nI 0), .int (nI 0), .null, .null])) nx (xnc 120 (fun _ => 0))) x0 (xo 8 [.int (nI x1), .ref nx, .int (nI 0), .null, .null, .int (nI 0), .int (nI 0), .null, .null])) (nx + 1) (xna 120 (fun _ => 0))) x0 (xo 8 [.int (nI x1), .ref nx, .int (nI 0), .ref (nx + 1), .null, .int (nI 0), .int (nI 0), .null, .null])) ((nx + 1) + 1) (xna 120 (fun _ => 0))) x0 (xo 8 [.int (nI x1), .ref nx, .int (nI 0), .ref (nx + 1), .ref ((nx + 1) + 1), .int (nI 0), .int (nI 0), .null, .null])) (((nx + 1) + 1) + 1) (xo 7 [.null, .null, .null, .null, .null, .int (nI 0)])) ((((nx + 1) + 1) + 1) + 1) (fun r h8 n9 => r = none ∧ (∃ (o11 : Nat) (o12 : Nat) (o13 : Nat) (o14 : Nat), h8 x0 = some (xo 8 [.int (nI o11), .ref o12, .int (nI 0), .ref o13, .ref o14, .int (nI 0), .int (nI 0), .null, .null]) ∧ (Ct g M_X6_init [.ref n9] (xup (xup h8 x0 (xo 8 [.int (nI o11), .ref o12, .int (nI 0), .ref o13, .ref o14, .int (nI 0), .int (nI 0), .ref (((nx + 1) + 1) + 1), .null])) n9 (xo 7 [.null, .null, .null, .null, .null, .int (nI 0)])) (n9 + 1) (fun r h15 n16 => r = none ∧ (∃ (o18 : Nat) (o19 : Nat) (o20 : Nat) (o21 : Nat) (o22 : Nat), h15 x0 = some (xo 8 [.int (nI o18), .ref o19, .int (nI 0), .ref o20, .ref o21, .int (nI 0), .int (nI 0), .ref o22, .null]) ∧ (∃ (o26 : Nat) (o27 : Nat) (o28 : Nat) (o29 : Nat) (o30 : Nat) (o31 : Nat), h15 o22 = some (xo 7 [.ref o26, .ref o27, .ref o28, .ref o29, .ref o30, .int (nI o31)]) ∧ Ct g M_X6_add [.ref o22, .int (nI 0), .int (nI 0), .int (nI 61), .int (nI 0), .int (nI 1000)] (xup h15 x0 (xo 8 [.int (nI o18), .ref o19, .int (nI 0), .ref o20, .ref o21, .int (nI 0), .int (nI 0), .ref o22, .ref n9])) n16 (fun r h23 n24 => r = none ∧ (post none h23 n24)))))))))))))) : Blk g M_X7_init post 0 [(0, .ref x0), (1, .int (nI x1))] [] h nx 0 0 := by
  refine r_aload_n 0 dX7_init_0 rfl rfl ?_
  refine r_oinit wM_X7_1 wi_java_lang_Object__init____V wc_java_lang_Object__init____V dX7_init_1 (by decide) (Nat.le_of_ble_eq_true rfl) ?_
  refine r_aload_n 0 dX7_init_4 rfl rfl ?_
  refine r_iload_n 1 dX7_init_5 rfl rfl ?_
  obtain ⟨q1, V⟩ := V
  refine r_putF (ci := 8) (kf := 0) (T := TX7) rfl in_X7 tyX7_ok nmX7 (by decide) wF_X7_7 rfl rfl rfl (tyX7_ok 0 (by decide)) dX7_init_6 q1 (Nat.le_of_ble_eq_true rfl) rfl rfl ?_
  show Blk g M_X7_init post 9 [(0, .ref x0), (1, .int (nI x1))] [] (xup h x0 (xo 8 [.int (nI x1), .null, .int (nI 0), .null, .null, .int (nI 0), .int (nI 0), .null, .null])) nx 0 0
  refine r_aload_n 0 dX7_init_9 rfl rfl ?_
  refine r_bipush (v := (nI 120)) dX7_init_10 rfl ?_
  refine r_newc wA_char dX7_init_12 rfl (by decide) (by decide) (by decide) ?_
  show Blk g M_X7_init post 14 [(0, .ref x0), (1, .int (nI x1))] [.ref nx, .ref x0] (xup (xup h x0 (xo 8 [.int (nI x1), .null, .int (nI 0), .null, .null, .int (nI 0), .int (nI 0), .null, .null])) nx (xnc 120 (fun _ => 0))) (nx + 1) 1 120
  obtain ⟨n2, V⟩ := V
  have q3 : (xup (xup h x0 (xo 8 [.int (nI x1), .null, .int (nI 0), .null, .null, .int (nI 0), .int (nI 0), .null, .null])) nx (xnc 120 (fun _ => 0))) x0 = some (xo 8 [.int (nI x1), .null, .int (nI 0), .null, .null, .int (nI 0), .int (nI 0), .null, .null]) := (xup_n n2).trans (xup_s _ _ _)
  refine r_putF (ci := 8) (kf := 1) (T := TX7) rfl in_X7 tyX7_ok nmX7 (by decide) wF_X7_13 rfl rfl rfl (tyX7_ok 1 (by decide)) dX7_init_14 q3 (Nat.le_of_ble_eq_true rfl) rfl rfl ?_
  show Blk g M_X7_init post 17 [(0, .ref x0), (1, .int (nI x1))] [] (xup (xup (xup h x0 (xo 8 [.int (nI x1), .null, .int (nI 0), .null, .null, .int (nI 0), .int (nI 0), .null, .null])) nx (xnc 120 (fun _ => 0))) x0 (xo 8 [.int (nI x1), .ref nx, .int (nI 0), .null, .null, .int (nI 0), .int (nI 0), .null, .null])) (nx + 1) 1 120
  refine r_aload_n 0 dX7_init_17 rfl rfl ?_
  refine r_bipush (v := (nI 120)) dX7_init_18 rfl ?_
  refine r_newi wA_int dX7_init_20 rfl (by decide) (by decide) (by decide) ?_
  show Blk g M_X7_init post 22 [(0, .ref x0), (1, .int (nI x1))] [.ref (nx + 1), .ref x0] (xup (xup (xup (xup h x0 (xo 8 [.int (nI x1), .null, .int (nI 0), .null, .null, .int (nI 0), .int (nI 0), .null, .null])) nx (xnc 120 (fun _ => 0))) x0 (xo 8 [.int (nI x1), .ref nx, .int (nI 0), .null, .null, .int (nI 0), .int (nI 0), .null, .null])) (nx + 1) (xna 120 (fun _ => 0))) ((nx + 1) + 1) 2 240
  obtain ⟨n4, V⟩ := V
  have q5 : (xup (xup (xup (xup h x0 (xo 8 [.int (nI x1), .null, .int (nI 0), .null, .null, .int (nI 0), .int (nI 0), .null, .null])) nx (xnc 120 (fun _ => 0))) x0 (xo 8 [.int (nI x1), .ref nx, .int (nI 0), .null, .null, .int (nI 0), .int (nI 0), .null, .null])) (nx + 1) (xna 120 (fun _ => 0))) x0 = some (xo 8 [.int (nI x1), .ref nx, .int (nI 0), .null, .null, .int (nI 0), .int (nI 0), .null, .null]) := (xup_n n4).trans (xup_s _ _ _)
  refine r_putF (ci := 8) (kf := 3) (T := TX7) rfl in_X7 tyX7_ok nmX7 (by decide) wF_X7_17 rfl rfl rfl (tyX7_ok 3 (by decide)) dX7_init_22 q5 (Nat.le_of_ble_eq_true rfl) rfl rfl ?_
  show Blk g M_X7_init post 25 [(0, .ref x0), (1, .int (nI x1))] [] (xup (xup (xup (xup (xup h x0 (xo 8 [.int (nI x1), .null, .int (nI 0), .null, .null, .int (nI 0), .int (nI 0), .null, .null])) nx (xnc 120 (fun _ => 0))) x0 (xo 8 [.int (nI x1), .ref nx, .int (nI 0), .null, .null, .int (nI 0), .int (nI 0), .null, .null])) (nx + 1) (xna 120 (fun _ => 0))) x0 (xo 8 [.int (nI x1), .ref nx, .int (nI 0), .ref (nx + 1), .null, .int (nI 0), .int (nI 0), .null, .null])) ((nx + 1) + 1) 2 240
  refine r_aload_n 0 dX7_init_25 rfl rfl ?_
  refine r_bipush (v := (nI 120)) dX7_init_26 rfl ?_
  refine r_newi wA_int dX7_init_28 rfl (by decide) (by decide) (by decide) ?_
  show Blk g M_X7_init post 30 [(0, .ref x0), (1, .int (nI x1))] [.ref ((nx + 1) + 1), .ref x0] (xup (xup (xup (xup (xup (xup h x0 (xo 8 [.int (nI x1), .null, .int (nI 0), .null, .null, .int (nI 0), .int (nI 0), .null, .null])) nx (xnc 120 (fun _ => 0))) x0 (xo 8 [.int (nI x1), .ref nx, .int (nI 0), .null, .null, .int (nI 0), .int (nI 0), .null, .null])) (nx + 1) (xna 120 (fun _ => 0))) x0 (xo 8 [.int (nI x1), .ref nx, .int (nI 0), .ref (nx + 1), .null, .int (nI 0), .int (nI 0), .null, .null])) ((nx + 1) + 1) (xna 120 (fun _ => 0))) (((nx + 1) + 1) + 1) 3 360
  obtain ⟨n6, V⟩ := V
  have q7 : (xup (xup (xup (xup (xup (xup h x0 (xo 8 [.int (nI x1), .null, .int (nI 0), .null, .null, .int (nI 0), .int (nI 0), .null, .null])) nx (xnc 120 (fun _ => 0))) x0 (xo 8 [.int (nI x1), .ref nx, .int (nI 0), .null, .null, .int (nI 0), .int (nI 0), .null, .null])) (nx + 1) (xna 120 (fun _ => 0))) x0 (xo 8 [.int (nI x1), .ref nx, .int (nI 0), .ref (nx + 1), .null, .int (nI 0), .int (nI 0), .null, .null])) ((nx + 1) + 1) (xna 120 (fun _ => 0))) x0 = some (xo 8 [.int (nI x1), .ref nx, .int (nI 0), .ref (nx + 1), .null, .int (nI 0), .int (nI 0), .null, .null]) := (xup_n n6).trans (xup_s _ _ _)
  refine r_putF (ci := 8) (kf := 4) (T := TX7) rfl in_X7 tyX7_ok nmX7 (by decide) wF_X7_21 rfl rfl rfl (tyX7_ok 4 (by decide)) dX7_init_30 q7 (Nat.le_of_ble_eq_true rfl) rfl rfl ?_
  show Blk g M_X7_init post 33 [(0, .ref x0), (1, .int (nI x1))] [] (xup (xup (xup (xup (xup (xup (xup h x0 (xo 8 [.int (nI x1), .null, .int (nI 0), .null, .null, .int (nI 0), .int (nI 0), .null, .null])) nx (xnc 120 (fun _ => 0))) x0 (xo 8 [.int (nI x1), .ref nx, .int (nI 0), .null, .null, .int (nI 0), .int (nI 0), .null, .null])) (nx + 1) (xna 120 (fun _ => 0))) x0 (xo 8 [.int (nI x1), .ref nx, .int (nI 0), .ref (nx + 1), .null, .int (nI 0), .int (nI 0), .null, .null])) ((nx + 1) + 1) (xna 120 (fun _ => 0))) x0 (xo 8 [.int (nI x1), .ref nx, .int (nI 0), .ref (nx + 1), .ref ((nx + 1) + 1), .int (nI 0), .int (nI 0), .null, .null])) (((nx + 1) + 1) + 1) 3 360
  refine r_aload_n 0 dX7_init_33 rfl rfl ?_
  refine r_new (ci := 7) (N := 6) (fs := [.null, .null, .null, .null, .null, .int (nI 0)]) (T := TX6) rfl in_X6 tyX6_ok wC_X7_24 wN_StateShares_RuleList wI_StateShares_RuleList dX7_init_34 df_X6 (by decide) (by decide) ?_
  show Blk g M_X7_init post 37 [(0, .ref x0), (1, .int (nI x1))] [.ref (((nx + 1) + 1) + 1), .ref x0] (xup (xup (xup (xup (xup (xup (xup (xup h x0 (xo 8 [.int (nI x1), .null, .int (nI 0), .null, .null, .int (nI 0), .int (nI 0), .null, .null])) nx (xnc 120 (fun _ => 0))) x0 (xo 8 [.int (nI x1), .ref nx, .int (nI 0), .null, .null, .int (nI 0), .int (nI 0), .null, .null])) (nx + 1) (xna 120 (fun _ => 0))) x0 (xo 8 [.int (nI x1), .ref nx, .int (nI 0), .ref (nx + 1), .null, .int (nI 0), .int (nI 0), .null, .null])) ((nx + 1) + 1) (xna 120 (fun _ => 0))) x0 (xo 8 [.int (nI x1), .ref nx, .int (nI 0), .ref (nx + 1), .ref ((nx + 1) + 1), .int (nI 0), .int (nI 0), .null, .null])) (((nx + 1) + 1) + 1) (xo 7 [.null, .null, .null, .null, .null, .int (nI 0)])) ((((nx + 1) + 1) + 1) + 1) 4 366
  refine r_dup dX7_init_37 rfl ?_
  refine r_callI (M2 := M_X6_init) (n := 0) (As := []) (wl4 wM_X7_26 wi_X6_init wI_StateShares_RuleList wc_X6_init) rfl rfl (by decide +kernel) (by decide) rfl rfl (Nat.le_of_ble_eq_true rfl) dX7_init_38 (by decide) (by decide) (Ct.imp V (fun r h8 n9 V => ?_))
  obtain ⟨rfl, V⟩ := V
  show Blk g M_X7_init post 41 [(0, .ref x0), (1, .int (nI x1))] [.ref (((nx + 1) + 1) + 1), .ref x0] h8 n9 9 466
  obtain ⟨o11, o12, o13, o14, q10, V⟩ := V
  refine r_putf (ci := 8) (kf := 7) (T := TX7) rfl in_X7 tyX7_ok nmX7 (by decide) wF_X7_27 rfl (tyX7_ok 7 (by decide)) dX7_init_41 q10 (Nat.le_of_ble_eq_true rfl) rfl rfl ?_
  show Blk g M_X7_init post 44 [(0, .ref x0), (1, .int (nI x1))] [] (xup h8 x0 (xo 8 [.int (nI o11), .ref o12, .int (nI 0), .ref o13, .ref o14, .int (nI 0), .int (nI 0), .ref (((nx + 1) + 1) + 1), .null])) n9 9 466
  refine r_aload_n 0 dX7_init_44 rfl rfl ?_
  refine r_new (ci := 7) (N := 6) (fs := [.null, .null, .null, .null, .null, .int (nI 0)]) (T := TX6) rfl in_X6 tyX6_ok wC_X7_24 wN_StateShares_RuleList wI_StateShares_RuleList dX7_init_45 df_X6 (by decide) (by decide) ?_
  show Blk g M_X7_init post 48 [(0, .ref x0), (1, .int (nI x1))] [.ref n9, .ref x0] (xup (xup h8 x0 (xo 8 [.int (nI o11), .ref o12, .int (nI 0), .ref o13, .ref o14, .int (nI 0), .int (nI 0), .ref (((nx + 1) + 1) + 1), .null])) n9 (xo 7 [.null, .null, .null, .null, .null, .int (nI 0)])) (n9 + 1) 10 472
  refine r_dup dX7_init_48 rfl ?_
  refine r_callI (M2 := M_X6_init) (n := 0) (As := []) (wl4 wM_X7_26 wi_X6_init wI_StateShares_RuleList wc_X6_init) rfl rfl (by decide +kernel) (by decide) rfl rfl (Nat.le_of_ble_eq_true rfl) dX7_init_49 (by decide) (by decide) (Ct.imp V (fun r h15 n16 V => ?_))
  obtain ⟨rfl, V⟩ := V
  show Blk g M_X7_init post 52 [(0, .ref x0), (1, .int (nI x1))] [.ref n9, .ref x0] h15 n16 15 572
  obtain ⟨o18, o19, o20, o21, o22, q17, V⟩ := V
  refine r_putf (ci := 8) (kf := 8) (T := TX7) rfl in_X7 tyX7_ok nmX7 (by decide) wF_X7_31 rfl (tyX7_ok 8 (by decide)) dX7_init_52 q17 (Nat.le_of_ble_eq_true rfl) rfl rfl ?_
  show Blk g M_X7_init post 55 [(0, .ref x0), (1, .int (nI x1))] [] (xup h15 x0 (xo 8 [.int (nI o18), .ref o19, .int (nI 0), .ref o20, .ref o21, .int (nI 0), .int (nI 0), .ref o22, .ref n9])) n16 15 572
  refine r_aload_n 0 dX7_init_55 rfl rfl ?_
  refine r_getf (ci := 8) (kf := 7) (T := TX7) rfl in_X7 (by decide) wF_X7_27 dX7_init_56 (xup_s _ _ _) rfl ?_
  refine r_iconst (v := (nI 0)) dX7_init_59 rfl ?_
  refine r_iconst (v := (nI 0)) dX7_init_60 rfl ?_
  refine r_bipush (v := (nI 61)) dX7_init_61 rfl ?_
  refine r_iconst (v := (nI 0)) dX7_init_63 rfl ?_
  refine r_sipush (v := (nI 1000)) dX7_init_64 rfl ?_
  obtain ⟨o26, o27, o28, o29, o30, o31, q25, V⟩ := V
  have q32 : (xup h15 x0 (xo 8 [.int (nI o18), .ref o19, .int (nI 0), .ref o20, .ref o21, .int (nI 0), .int (nI 0), .ref o22, .ref n9])) o22 = some (xo 7 [.ref o26, .ref o27, .ref o28, .ref o29, .ref o30, .int (nI o31)]) := (xup_n (x_apart q25 q17 (x_oo (by decide)))).trans q25
  refine r_callV (M2 := M_X6_add) (ci := 7) (n := 5) (As := [.int (nI 0), .int (nI 0), .int (nI 61), .int (nI 0), .int (nI 1000)]) rfl (wl5 wM_X7_34 wi_X6_add wS_X6_add wI_StateShares_RuleList wc_X6_add) (by decide +kernel) (by decide) rfl rfl (Nat.le_of_ble_eq_true rfl) dX7_init_67 q32 (by decide) (by decide) (Ct.imp V (fun r h23 n24 V => ?_))
  obtain ⟨rfl, V⟩ := V
  show Blk g M_X7_init post 70 [(0, .ref x0), (1, .int (nI x1))] [] h23 n24 15 572
  exact r_vret dX7_init_70 rfl (by decide) (by decide) V
set_option maxRecDepth 20000 in
theorem v_X7_collect_0 {g : xG} {post : xPost} {h : xHp} {nx : Nat} {x0 : Nat} {x1 : Int32} (V : ((x1 < (nI 32) → (post (some (.int (nI 0))) h nx)) ∧ (¬ x1 < (nI 32) → (((nI 126) < x1 → (post (some (.int (nI 0))) h nx)) ∧ (¬ (nI 126) < x1 → (∃ (o2 : Nat) (o3 : Nat) (o4 : Nat) (o5 : Nat) (o6 : Nat) (o7 : Nat) (o8 : Nat) (o9 : Nat) (o10 : Nat), h x0 = some (xo 8 [.int (nI o2), .ref o3, .int (nI o4), .ref o5, .ref o6, .int (nI o7), .int (nI o8), .ref o9, .ref o10]) ∧ ((o4 < 2 ^ 31 ∧ 120 < 2 ^ 31) ∧ ((o4 < 120 → (∃ (N12 : Nat) (f13 : Nat → Nat), h o3 = some (xnc N12 f13) ∧ ∃ z14 : Nat, ((x1.toUInt32 % 65536).toInt32) = nI z14 ∧ o4 < N12 ∧ N12 < 2 ^ 31 ∧ z14 < 65536 ∧ (post (some (.int (nI 1))) (xup (xup h o3 (xnc N12 (va_up f13 o4 z14))) x0 (xo 8 [.int (nI o2), .ref o3, .int (nI (o4 + 1)), .ref o5, .ref o6, .int (nI o7), .int (nI o8), .ref o9, .ref o10])) nx))) ∧ (120 ≤ o4 → (post (some (.int (nI 0))) h nx)))))))))) : Blk g M_X7_collect post 0 [(0, .ref x0), (1, .int x1)] [] h nx 0 0 := by
  refine r_iload_n 1 dX7_collect_0 rfl rfl ?_
  refine r_bipush (v := (nI 32)) dX7_collect_1 rfl ?_
  refine r_icmp_lt (tgt := 21) dX7_collect_3 (by decide) (fun c => ?_) (fun c => ?_)
  · have V := V.1 c
    refine r_iconst (v := (nI 0)) dX7_collect_21 rfl ?_
    exact r_zret (ty := .boolean) dX7_collect_22 rfl rfl (by decide) (by decide) V
  · have V := V.2 c
    refine r_iload_n 1 dX7_collect_6 rfl rfl ?_
    refine r_bipush (v := (nI 126)) dX7_collect_7 rfl ?_
    refine r_icmp_gt (tgt := 21) dX7_collect_9 (by decide) (fun c => ?_) (fun c => ?_)
    · have V := V.1 c
      refine r_iconst (v := (nI 0)) dX7_collect_21 rfl ?_
      exact r_zret (ty := .boolean) dX7_collect_22 rfl rfl (by decide) (by decide) V
    · have V := V.2 c
      refine r_aload_n 0 dX7_collect_12 rfl rfl ?_
      obtain ⟨o2, o3, o4, o5, o6, o7, o8, o9, o10, q1, V⟩ := V
      refine r_getf (ci := 8) (kf := 2) (T := TX7) rfl in_X7 (by decide) wF_X7_38 dX7_collect_13 q1 rfl ?_
      refine r_bipush (v := (nI 120)) dX7_collect_16 rfl ?_
      obtain ⟨c, V⟩ := V
      refine r_icmp_ltN (tgt := 23) dX7_collect_18 (by decide) c (fun c => ?_) (fun c => ?_)
      · have V := V.1 c
        refine r_aload_n 0 dX7_collect_23 rfl rfl ?_
        refine r_getf (ci := 8) (kf := 1) (T := TX7) rfl in_X7 (by decide) wF_X7_13 dX7_collect_24 q1 rfl ?_
        refine r_aload_n 0 dX7_collect_27 rfl rfl ?_
        refine r_getf (ci := 8) (kf := 2) (T := TX7) rfl in_X7 (by decide) wF_X7_38 dX7_collect_28 q1 rfl ?_
        refine r_iload_n 1 dX7_collect_31 rfl rfl ?_
        refine r_i2c dX7_collect_32 ?_
        obtain ⟨N12, f13, q11, V⟩ := V
        obtain ⟨z14, e15, V⟩ := V
        refine Blk.to (st' := [.int (nI z14), .int (nI o4), .ref o3]) ?_ ⟨rfl, by rw [e15], rfl⟩
        obtain ⟨c, cN, c5, V⟩ := V
        refine r_castN dX7_collect_33 q11 c cN c5 ?_
        show Blk g M_X7_collect post 34 [(0, .ref x0), (1, .int x1)] [] (xup h o3 (xnc N12 (va_up f13 o4 z14))) nx 0 0
        refine r_aload_n 0 dX7_collect_34 rfl rfl ?_
        refine r_dup dX7_collect_35 rfl ?_
        have q16 : (xup h o3 (xnc N12 (va_up f13 o4 z14))) x0 = some (xo 8 [.int (nI o2), .ref o3, .int (nI o4), .ref o5, .ref o6, .int (nI o7), .int (nI o8), .ref o9, .ref o10]) := (xup_n (x_apart q1 q11 x_oa)).trans q1
        refine r_getf (ci := 8) (kf := 2) (T := TX7) rfl in_X7 (by decide) wF_X7_38 dX7_collect_36 q16 rfl ?_
        refine r_iconst (v := (nI 1)) dX7_collect_39 rfl ?_
        refine r_iaddN dX7_collect_40 ?_
        refine r_putf (ci := 8) (kf := 2) (T := TX7) rfl in_X7 tyX7_ok nmX7 (by decide) wF_X7_38 rfl (tyX7_ok 2 (by decide)) dX7_collect_41 q16 (Nat.le_of_ble_eq_true rfl) rfl rfl ?_
        show Blk g M_X7_collect post 44 [(0, .ref x0), (1, .int x1)] [] (xup (xup h o3 (xnc N12 (va_up f13 o4 z14))) x0 (xo 8 [.int (nI o2), .ref o3, .int (nI (o4 + 1)), .ref o5, .ref o6, .int (nI o7), .int (nI o8), .ref o9, .ref o10])) nx 0 0
        refine r_iconst (v := (nI 1)) dX7_collect_44 rfl ?_
        exact r_zret (ty := .boolean) dX7_collect_45 rfl rfl (by decide) (by decide) V
      · have V := V.2 c
        refine r_iconst (v := (nI 0)) dX7_collect_21 rfl ?_
        exact r_zret (ty := .boolean) dX7_collect_22 rfl rfl (by decide) (by decide) V
set_option maxRecDepth 20000 in
theorem v_X7_judge_0 {g : xG} {post : xPost} {h : xHp} {nx : Nat} {x0 : Nat} {x1 : Nat} {x2 : Nat} (V : (∃ (o2 : Nat) (o3 : Nat) (o4 : Nat) (o5 : Nat) (o6 : Nat) (o7 : Nat) (o8 : Nat) (o9 : Nat) (o10 : Nat), h x0 = some (xo 8 [.int (nI o2), .ref o3, .int (nI o4), .ref o5, .ref o6, .int (nI o7), .int (nI o8), .ref o9, .ref o10]) ∧ (∃ (o14 : Nat) (o15 : Nat) (o16 : Nat) (o17 : Nat) (o18 : Nat) (o19 : Nat), h o9 = some (xo 7 [.ref o14, .ref o15, .ref o16, .ref o17, .ref o18, .int (nI o19)]) ∧ Ct g M_X6_judge [.ref o9, .ref x1, .int (nI x2)] h nx (fun r h11 n12 => ∃ v20 : Int32, r = some (.int v20) ∧ (post (some (.int v20)) h11 n12))))) : Blk g M_X7_judge post 0 [(0, .ref x0), (1, .ref x1), (2, .int (nI x2))] [] h nx 0 0 := by
  refine r_aload_n 0 dX7_judge_0 rfl rfl ?_
  obtain ⟨o2, o3, o4, o5, o6, o7, o8, o9, o10, q1, V⟩ := V
  refine r_getf (ci := 8) (kf := 7) (T := TX7) rfl in_X7 (by decide) wF_X7_27 dX7_judge_1 q1 rfl ?_
  refine r_aload_n 1 dX7_judge_4 rfl rfl ?_
  refine r_iload_n 2 dX7_judge_5 rfl rfl ?_
  obtain ⟨o14, o15, o16, o17, o18, o19, q13, V⟩ := V
  refine r_callV (M2 := M_X6_judge) (ci := 7) (n := 2) (As := [.ref x1, .int (nI x2)]) rfl (wl5 wM_X7_41 wi_X6_judge wS_X6_judge wI_StateShares_RuleList wc_X6_judge) (by decide +kernel) (by decide) rfl rfl (Nat.le_of_ble_eq_true rfl) dX7_judge_6 q13 (by decide) (by decide) (Ct.imp V (fun r h11 n12 V => ?_))
  obtain ⟨v20, rfl, V⟩ := V
  show Blk g M_X7_judge post 9 [(0, .ref x0), (1, .ref x1), (2, .int (nI x2))] [.int v20] h11 n12 0 0
  exact r_iret dX7_judge_9 rfl (by decide) (by decide) V
set_option maxRecDepth 20000 in
theorem v_X7_readCollected_0 {g : xG} {post : xPost} {h : xHp} {nx : Nat} {x0 : Nat} (V : (∃ (o4 : Nat) (o5 : Nat) (o6 : Nat) (o7 : Nat) (o8 : Nat) (o9 : Nat) (o10 : Nat) (o11 : Nat) (o12 : Nat), h x0 = some (xo 8 [.int (nI o4), .ref o5, .int (nI o6), .ref o7, .ref o8, .int (nI o9), .int (nI o10), .ref o11, .ref o12]) ∧ Ct g M_X7_splitWords [.ref x0] h nx (fun r h1 n2 => r = none ∧ (∃ (o14 : Nat) (o15 : Nat) (o16 : Nat) (o17 : Nat) (o18 : Nat) (o19 : Nat) (o20 : Nat) (o21 : Nat) (o22 : Nat), h1 x0 = some (xo 8 [.int (nI o14), .ref o15, .int (nI o16), .ref o17, .ref o18, .int (nI o19), .int (nI o20), .ref o21, .ref o22]) ∧ (∃ (o26 : Nat) (o27 : Nat) (o28 : Nat) (o29 : Nat) (o30 : Nat) (o31 : Nat), h1 o22 = some (xo 7 [.ref o26, .ref o27, .ref o28, .ref o29, .ref o30, .int (nI o31)]) ∧ Ct g M_X6_clear [.ref o22] (xup h1 x0 (xo 8 [.int (nI o14), .ref o15, .int (nI 0), .ref o17, .ref o18, .int (nI o19), .int (nI 0), .ref o21, .ref o22])) n2 (fun r h23 n24 => r = none ∧ (∃ (o36 : Nat) (o37 : Nat) (o38 : Nat) (o39 : Nat) (o40 : Nat) (o41 : Nat) (o42 : Nat) (o43 : Nat) (o44 : Nat), h23 x0 = some (xo 8 [.int (nI o36), .ref o37, .int (nI o38), .ref o39, .ref o40, .int (nI o41), .int (nI o42), .ref o43, .ref o44]) ∧ Ct g M_X7_readRules [.ref x0] h23 n24 (fun r h33 n34 => ∃ v45 : Nat, r = some (.int (nI v45)) ∧ (v45 < 2 ^ 31 ∧ ((¬ v45 = 0 → (∃ (o47 : Nat) (o48 : Nat) (o49 : Nat) (o50 : Nat) (o51 : Nat) (o52 : Nat) (o53 : Nat) (o54 : Nat) (o55 : Nat), h33 x0 = some (xo 8 [.int (nI o47), .ref o48, .int (nI o49), .ref o50, .ref o51, .int (nI o52), .int (nI o53), .ref o54, .ref o55]) ∧ (∃ (o59 : Nat) (o60 : Nat) (o61 : Nat) (o62 : Nat) (o63 : Nat) (o64 : Nat), h33 o55 = some (xo 7 [.ref o59, .ref o60, .ref o61, .ref o62, .ref o63, .int (nI o64)]) ∧ Ct g M_X6_size [.ref o55] (xup h33 x0 (xo 8 [.int (nI o47), .ref o48, .int (nI o49), .ref o50, .ref o51, .int (nI o52), .int (nI o53), .ref o55, .ref o54])) n34 (fun r h56 n57 => ∃ v66 : Nat, r = some (.int (nI v66)) ∧ (post (some (.int (nI v66))) h56 n57))))) ∧ (v45 = 0 → (∃ (o68 : Nat) (o69 : Nat) (o70 : Nat) (o71 : Nat) (o72 : Nat) (o73 : Nat) (o74 : Nat) (o75 : Nat) (o76 : Nat), h33 x0 = some (xo 8 [.int (nI o68), .ref o69, .int (nI o70), .ref o71, .ref o72, .int (nI o73), .int (nI o74), .ref o75, .ref o76]) ∧ (post (some (.int ((-1) - (nI o74)))) h33 n34))))))))))))) : Blk g M_X7_readCollected post 0 [(0, .ref x0)] [] h nx 0 0 := by
  refine r_aload_n 0 dX7_readCollected_0 rfl rfl ?_
  obtain ⟨o4, o5, o6, o7, o8, o9, o10, o11, o12, q3, V⟩ := V
  refine r_callV (M2 := M_X7_splitWords) (ci := 8) (n := 0) (As := []) rfl (wl5 wM_X7_45 wi_X7_splitWords wS_X7_splitWords wI_StateShares_Rules wc_X7_splitWords) (by decide +kernel) (by decide) rfl rfl (Nat.le_of_ble_eq_true rfl) dX7_readCollected_1 q3 (by decide) (by decide) (Ct.imp V (fun r h1 n2 V => ?_))
  obtain ⟨rfl, V⟩ := V
  show Blk g M_X7_readCollected post 4 [(0, .ref x0)] [] h1 n2 0 0
  refine r_aload_n 0 dX7_readCollected_4 rfl rfl ?_
  refine r_iconst (v := (nI 0)) dX7_readCollected_5 rfl ?_
  obtain ⟨o14, o15, o16, o17, o18, o19, o20, o21, o22, q13, V⟩ := V
  refine r_putf (ci := 8) (kf := 2) (T := TX7) rfl in_X7 tyX7_ok nmX7 (by decide) wF_X7_38 rfl (tyX7_ok 2 (by decide)) dX7_readCollected_6 q13 (Nat.le_of_ble_eq_true rfl) rfl rfl ?_
  show Blk g M_X7_readCollected post 9 [(0, .ref x0)] [] (xup h1 x0 (xo 8 [.int (nI o14), .ref o15, .int (nI 0), .ref o17, .ref o18, .int (nI o19), .int (nI o20), .ref o21, .ref o22])) n2 0 0
  refine r_aload_n 0 dX7_readCollected_9 rfl rfl ?_
  refine r_iconst (v := (nI 0)) dX7_readCollected_10 rfl ?_
  refine r_putf (ci := 8) (kf := 6) (T := TX7) rfl in_X7 tyX7_ok nmX7 (by decide) wF_X7_48 rfl (tyX7_ok 6 (by decide)) dX7_readCollected_11 (xup_s _ _ _) (Nat.le_of_ble_eq_true rfl) rfl rfl ?_
  show Blk g M_X7_readCollected post 14 [(0, .ref x0)] [] (xup (xup h1 x0 (xo 8 [.int (nI o14), .ref o15, .int (nI 0), .ref o17, .ref o18, .int (nI o19), .int (nI o20), .ref o21, .ref o22])) x0 (xo 8 [.int (nI o14), .ref o15, .int (nI 0), .ref o17, .ref o18, .int (nI o19), .int (nI 0), .ref o21, .ref o22])) n2 0 0
  rw [xup_up]
  show Blk g M_X7_readCollected post 14 [(0, .ref x0)] [] (xup h1 x0 (xo 8 [.int (nI o14), .ref o15, .int (nI 0), .ref o17, .ref o18, .int (nI o19), .int (nI 0), .ref o21, .ref o22])) n2 0 0
  refine r_aload_n 0 dX7_readCollected_14 rfl rfl ?_
  refine r_getf (ci := 8) (kf := 8) (T := TX7) rfl in_X7 (by decide) wF_X7_31 dX7_readCollected_15 (xup_s _ _ _) rfl ?_
  obtain ⟨o26, o27, o28, o29, o30, o31, q25, V⟩ := V
  have q32 : (xup h1 x0 (xo 8 [.int (nI o14), .ref o15, .int (nI 0), .ref o17, .ref o18, .int (nI o19), .int (nI 0), .ref o21, .ref o22])) o22 = some (xo 7 [.ref o26, .ref o27, .ref o28, .ref o29, .ref o30, .int (nI o31)]) := (xup_n (x_apart q25 q13 (x_oo (by decide)))).trans q25
  refine r_callV (M2 := M_X6_clear) (ci := 7) (n := 0) (As := []) rfl (wl5 wM_X7_51 wi_X6_clear wS_X6_clear wI_StateShares_RuleList wc_X6_clear) (by decide +kernel) (by decide) rfl rfl (Nat.le_of_ble_eq_true rfl) dX7_readCollected_18 q32 (by decide) (by decide) (Ct.imp V (fun r h23 n24 V => ?_))
  obtain ⟨rfl, V⟩ := V
  show Blk g M_X7_readCollected post 21 [(0, .ref x0)] [] h23 n24 0 0
  refine r_aload_n 0 dX7_readCollected_21 rfl rfl ?_
  obtain ⟨o36, o37, o38, o39, o40, o41, o42, o43, o44, q35, V⟩ := V
  refine r_callV (M2 := M_X7_readRules) (ci := 8) (n := 0) (As := []) rfl (wl5 wM_X7_54 wi_X7_readRules wS_X7_readRules wI_StateShares_Rules wc_X7_readRules) (by decide +kernel) (by decide) rfl rfl (Nat.le_of_ble_eq_true rfl) dX7_readCollected_22 q35 (by decide) (by decide) (Ct.imp V (fun r h33 n34 V => ?_))
  obtain ⟨v45, rfl, V⟩ := V
  show Blk g M_X7_readCollected post 25 [(0, .ref x0)] [.int (nI v45)] h33 n34 0 0
  obtain ⟨c, V⟩ := V
  refine r_if_neN (tgt := 35) dX7_readCollected_25 (by decide) c (fun c => ?_) (fun c => ?_)
  · have V := V.1 c
    refine r_aload_n 0 dX7_readCollected_35 rfl rfl ?_
    obtain ⟨o47, o48, o49, o50, o51, o52, o53, o54, o55, q46, V⟩ := V
    refine r_getf (ci := 8) (kf := 7) (T := TX7) rfl in_X7 (by decide) wF_X7_27 dX7_readCollected_36 q46 rfl ?_
    refine r_astore_n (L' := [(1, .ref o54), (0, .ref x0)]) dX7_readCollected_39 rfl (by decide) rfl ?_
    refine r_aload_n 1 dX7_readCollected_40 rfl rfl ?_
    refine r_aload_n 1 dX7_readCollected_41 rfl rfl ?_
    refine r_getf (ci := 8) (kf := 8) (T := TX7) rfl in_X7 (by decide) wF_X7_31 dX7_readCollected_42 q46 rfl ?_
    refine r_putf (ci := 8) (kf := 7) (T := TX7) rfl in_X7 tyX7_ok nmX7 (by decide) wF_X7_27 rfl (tyX7_ok 7 (by decide)) dX7_readCollected_45 q46 (Nat.le_of_ble_eq_true rfl) rfl rfl ?_
    show Blk g M_X7_readCollected post 48 [(1, .ref o54), (0, .ref x0)] [] (xup h33 x0 (xo 8 [.int (nI o47), .ref o48, .int (nI o49), .ref o50, .ref o51, .int (nI o52), .int (nI o53), .ref o55, .ref o55])) n34 0 0
    refine r_aload_n 1 dX7_readCollected_48 rfl rfl ?_
    refine r_aload_n 0 dX7_readCollected_49 rfl rfl ?_
    refine r_putf (ci := 8) (kf := 8) (T := TX7) rfl in_X7 tyX7_ok nmX7 (by decide) wF_X7_31 rfl (tyX7_ok 8 (by decide)) dX7_readCollected_50 (xup_s _ _ _) (Nat.le_of_ble_eq_true rfl) rfl rfl ?_
    show Blk g M_X7_readCollected post 53 [(1, .ref o54), (0, .ref x0)] [] (xup (xup h33 x0 (xo 8 [.int (nI o47), .ref o48, .int (nI o49), .ref o50, .ref o51, .int (nI o52), .int (nI o53), .ref o55, .ref o55])) x0 (xo 8 [.int (nI o47), .ref o48, .int (nI o49), .ref o50, .ref o51, .int (nI o52), .int (nI o53), .ref o55, .ref o54])) n34 0 0
    rw [xup_up]
    show Blk g M_X7_readCollected post 53 [(1, .ref o54), (0, .ref x0)] [] (xup h33 x0 (xo 8 [.int (nI o47), .ref o48, .int (nI o49), .ref o50, .ref o51, .int (nI o52), .int (nI o53), .ref o55, .ref o54])) n34 0 0
    refine r_aload_n 1 dX7_readCollected_53 rfl rfl ?_
    refine r_getf (ci := 8) (kf := 7) (T := TX7) rfl in_X7 (by decide) wF_X7_27 dX7_readCollected_54 (xup_s _ _ _) rfl ?_
    obtain ⟨o59, o60, o61, o62, o63, o64, q58, V⟩ := V
    have q65 : (xup h33 x0 (xo 8 [.int (nI o47), .ref o48, .int (nI o49), .ref o50, .ref o51, .int (nI o52), .int (nI o53), .ref o55, .ref o54])) o55 = some (xo 7 [.ref o59, .ref o60, .ref o61, .ref o62, .ref o63, .int (nI o64)]) := (xup_n (x_apart q58 q46 (x_oo (by decide)))).trans q58
    refine r_callV (M2 := M_X6_size) (ci := 7) (n := 0) (As := []) rfl (wl5 wM_X7_58 wi_X6_size wS_X6_size wI_StateShares_RuleList wc_X6_size) (by decide +kernel) (by decide) rfl rfl (Nat.le_of_ble_eq_true rfl) dX7_readCollected_57 q65 (by decide) (by decide) (Ct.imp V (fun r h56 n57 V => ?_))
    obtain ⟨v66, rfl, V⟩ := V
    show Blk g M_X7_readCollected post 60 [(1, .ref o54), (0, .ref x0)] [.int (nI v66)] h56 n57 0 0
    exact r_iret dX7_readCollected_60 rfl (by decide) (by decide) V
  · have V := V.2 c
    refine r_iconst (v := (-1)) dX7_readCollected_28 rfl ?_
    refine r_aload_n 0 dX7_readCollected_29 rfl rfl ?_
    obtain ⟨o68, o69, o70, o71, o72, o73, o74, o75, o76, q67, V⟩ := V
    refine r_getf (ci := 8) (kf := 6) (T := TX7) rfl in_X7 (by decide) wF_X7_48 dX7_readCollected_30 q67 rfl ?_
    refine r_isub dX7_readCollected_33 ?_
    exact r_iret dX7_readCollected_34 rfl (by decide) (by decide) V
set_option maxRecDepth 20000 in
theorem v_X7_splitWords_0 {g : xG} {post : xPost} {h : xHp} {nx : Nat} {x0 : Nat} (V : (∃ (o2 : Nat) (o3 : Nat) (o4 : Nat) (o5 : Nat) (o6 : Nat) (o7 : Nat) (o8 : Nat) (o9 : Nat) (o10 : Nat), h x0 = some (xo 8 [.int (nI o2), .ref o3, .int (nI o4), .ref o5, .ref o6, .int (nI o7), .int (nI o8), .ref o9, .ref o10]) ∧ Blk g M_X7_splitWords post 9 [(0, .ref x0), (1, .int (nI 0)), (2, .int (nI 0))] [] (xup h x0 (xo 8 [.int (nI o2), .ref o3, .int (nI o4), .ref o5, .ref o6, .int (nI 0), .int (nI o8), .ref o9, .ref o10])) nx 0 0)) : Blk g M_X7_splitWords post 0 [(0, .ref x0)] [] h nx 0 0 := by
  refine r_aload_n 0 dX7_splitWords_0 rfl rfl ?_
  refine r_iconst (v := (nI 0)) dX7_splitWords_1 rfl ?_
  obtain ⟨o2, o3, o4, o5, o6, o7, o8, o9, o10, q1, V⟩ := V
  refine r_putf (ci := 8) (kf := 5) (T := TX7) rfl in_X7 tyX7_ok nmX7 (by decide) wF_X7_62 rfl (tyX7_ok 5 (by decide)) dX7_splitWords_2 q1 (Nat.le_of_ble_eq_true rfl) rfl rfl ?_
  show Blk g M_X7_splitWords post 5 [(0, .ref x0)] [] (xup h x0 (xo 8 [.int (nI o2), .ref o3, .int (nI o4), .ref o5, .ref o6, .int (nI 0), .int (nI o8), .ref o9, .ref o10])) nx 0 0
  refine r_iconst (v := (nI 0)) dX7_splitWords_5 rfl ?_
  refine r_istore_n (L' := [(1, .int (nI 0)), (0, .ref x0)]) dX7_splitWords_6 rfl (by decide) rfl ?_
  refine r_iconst (v := (nI 0)) dX7_splitWords_7 rfl ?_
  refine r_istore_n (L' := [(2, .int (nI 0)), (1, .int (nI 0)), (0, .ref x0)]) dX7_splitWords_8 rfl (by decide) rfl ?_
  exact Blk.sub [2, 1, 0] rfl V
set_option maxRecDepth 20000 in
theorem v_X7_splitWords_9 {g : xG} {post : xPost} {h : xHp} {nx : Nat} {x0 : Nat} {x1 : Nat} {x2 : Nat} (V : ((x2 < 2 ^ 31 ∧ 120 < 2 ^ 31) ∧ ((120 ≤ x2 → (post none h nx)) ∧ (x2 < 120 → (∃ (o2 : Nat) (o3 : Nat) (o4 : Nat) (o5 : Nat) (o6 : Nat) (o7 : Nat) (o8 : Nat) (o9 : Nat) (o10 : Nat), h x0 = some (xo 8 [.int (nI o2), .ref o3, .int (nI o4), .ref o5, .ref o6, .int (nI o7), .int (nI o8), .ref o9, .ref o10]) ∧ ((x1 < 2 ^ 31 ∧ o4 < 2 ^ 31) ∧ ((o4 ≤ x1 → (post none h nx)) ∧ (x1 < o4 → (Ct g M_X7_wordEnd [.ref x0, .int (nI x1)] h nx (fun r h11 n12 => ∃ v13 : Nat, r = some (.int (nI v13)) ∧ (∃ (o15 : Nat) (o16 : Nat) (o17 : Nat) (o18 : Nat) (o19 : Nat) (o20 : Nat) (o21 : Nat) (o22 : Nat) (o23 : Nat), h11 x0 = some (xo 8 [.int (nI o15), .ref o16, .int (nI o17), .ref o18, .ref o19, .int (nI o20), .int (nI o21), .ref o22, .ref o23]) ∧ (∃ (N25 : Nat) (f26 : Nat → Nat), h11 o16 = some (xnc N25 f26) ∧ x1 < N25 ∧ N25 < 2 ^ 31 ∧ (((f26 x1) < 2 ^ 31 ∧ 32 < 2 ^ 31) ∧ (((f26 x1) = 32 → Blk g M_X7_splitWords post 9 [(0, .ref x0), (1, .int (nI v13)), (2, .int (nI (x2 + 1)))] [] h11 n12 0 0) ∧ (¬ (f26 x1) = 32 → ((o20 < 2 ^ 31 ∧ 120 < 2 ^ 31) ∧ ((120 ≤ o20 → Blk g M_X7_splitWords post 9 [(0, .ref x0), (1, .int (nI v13)), (2, .int (nI (x2 + 1)))] [] h11 n12 0 0) ∧ (o20 < 120 → (∃ (N28 : Nat) (f29 : Nat → Nat), h11 o18 = some (xna N28 f29) ∧ o20 < N28 ∧ N28 < 2 ^ 31 ∧ (∃ (N32 : Nat) (f33 : Nat → Nat), h11 o19 = some (xna N32 f33) ∧ o19 ≠ o18 ∧ o20 < N32 ∧ N32 < 2 ^ 31 ∧ Blk g M_X7_splitWords post 9 [(0, .ref x0), (1, .int (nI v13)), (2, .int (nI (x2 + 1)))] [] (xup (xup (xup h11 o18 (xna N28 (va_up f29 o20 x1))) o19 (xna N32 (va_up f33 o20 v13))) x0 (xo 8 [.int (nI o15), .ref o16, .int (nI o17), .ref o18, .ref o19, .int (nI (o20 + 1)), .int (nI o21), .ref o22, .ref o23])) n12 0 0)))))))))))))))))))) : Blk g M_X7_splitWords post 9 [(0, .ref x0), (1, .int (nI x1)), (2, .int (nI x2))] [] h nx 0 0 := by
  refine r_iload_n 2 dX7_splitWords_9 rfl rfl ?_
  refine r_bipush (v := (nI 120)) dX7_splitWords_10 rfl ?_
  obtain ⟨c, V⟩ := V
  refine r_icmp_geN (tgt := 87) dX7_splitWords_12 (by decide) c (fun c => ?_) (fun c => ?_)
  · have V := V.1 c
    exact r_vret dX7_splitWords_87 rfl (by decide) (by decide) V
  · have V := V.2 c
    refine r_iload_n 1 dX7_splitWords_15 rfl rfl ?_
    refine r_aload_n 0 dX7_splitWords_16 rfl rfl ?_
    obtain ⟨o2, o3, o4, o5, o6, o7, o8, o9, o10, q1, V⟩ := V
    refine r_getf (ci := 8) (kf := 2) (T := TX7) rfl in_X7 (by decide) wF_X7_38 dX7_splitWords_17 q1 rfl ?_
    obtain ⟨c, V⟩ := V
    refine r_icmp_geN (tgt := 87) dX7_splitWords_20 (by decide) c (fun c => ?_) (fun c => ?_)
    · have V := V.1 c
      exact r_vret dX7_splitWords_87 rfl (by decide) (by decide) V
    · have V := V.2 c
      refine r_aload_n 0 dX7_splitWords_23 rfl rfl ?_
      refine r_iload_n 1 dX7_splitWords_24 rfl rfl ?_
      refine r_callV (M2 := M_X7_wordEnd) (ci := 8) (n := 1) (As := [.int (nI x1)]) rfl (wl5 wM_X7_65 wi_X7_wordEnd wS_X7_wordEnd wI_StateShares_Rules wc_X7_wordEnd) (by decide +kernel) (by decide) rfl rfl (Nat.le_of_ble_eq_true rfl) dX7_splitWords_25 q1 (by decide) (by decide) (Ct.imp V (fun r h11 n12 V => ?_))
      obtain ⟨v13, rfl, V⟩ := V
      show Blk g M_X7_splitWords post 28 [(0, .ref x0), (1, .int (nI x1)), (2, .int (nI x2))] [.int (nI v13)] h11 n12 0 0
      refine r_istore_n (L' := [(3, .int (nI v13)), (0, .ref x0), (1, .int (nI x1)), (2, .int (nI x2))]) dX7_splitWords_28 rfl (by decide) rfl ?_
      refine r_aload_n 1 dX7_splitWords_29 rfl rfl ?_
      obtain ⟨o15, o16, o17, o18, o19, o20, o21, o22, o23, q14, V⟩ := V
      refine r_getf (ci := 8) (kf := 1) (T := TX7) rfl in_X7 (by decide) wF_X7_13 dX7_splitWords_30 q14 rfl ?_
      refine r_iload_n 2 dX7_splitWords_33 rfl rfl ?_
      obtain ⟨N25, f26, q24, V⟩ := V
      obtain ⟨c, cN, V⟩ := V
      refine r_cald dX7_splitWords_34 q24 rfl c cN ?_
      show Blk g M_X7_splitWords post 35 [(3, .int (nI v13)), (0, .ref x0), (1, .int (nI x1)), (2, .int (nI x2))] [.int (nI (f26 x1))] h11 n12 0 0
      refine r_bipush (v := (nI 32)) dX7_splitWords_35 rfl ?_
      obtain ⟨c, V⟩ := V
      refine r_icmp_eqN (tgt := 79) dX7_splitWords_37 (by decide) c (fun c => ?_) (fun c => ?_)
      · have V := V.1 c
        refine r_iload_n 0 dX7_splitWords_79 rfl rfl ?_
        refine r_istore_n (L' := [(1, .int (nI v13)), (3, .int (nI v13)), (0, .ref x0), (2, .int (nI x2))]) dX7_splitWords_80 rfl (by decide) rfl ?_
        refine r_iincN 3 (b := 1) (L' := [(2, .int (nI (x2 + 1))), (1, .int (nI v13)), (3, .int (nI v13)), (0, .ref x0)]) dX7_splitWords_81 rfl rfl (by decide) rfl ?_
        refine r_goto (tgt := 9) dX7_splitWords_84 (by decide) ?_
        exact Blk.sub [3, 1, 0] rfl V
      · have V := V.2 c
        refine r_aload_n 1 dX7_splitWords_40 rfl rfl ?_
        refine r_getf (ci := 8) (kf := 5) (T := TX7) rfl in_X7 (by decide) wF_X7_62 dX7_splitWords_41 q14 rfl ?_
        refine r_bipush (v := (nI 120)) dX7_splitWords_44 rfl ?_
        obtain ⟨c, V⟩ := V
        refine r_icmp_geN (tgt := 79) dX7_splitWords_46 (by decide) c (fun c => ?_) (fun c => ?_)
        · have V := V.1 c
          refine r_iload_n 0 dX7_splitWords_79 rfl rfl ?_
          refine r_istore_n (L' := [(1, .int (nI v13)), (3, .int (nI v13)), (0, .ref x0), (2, .int (nI x2))]) dX7_splitWords_80 rfl (by decide) rfl ?_
          refine r_iincN 3 (b := 1) (L' := [(2, .int (nI (x2 + 1))), (1, .int (nI v13)), (3, .int (nI v13)), (0, .ref x0)]) dX7_splitWords_81 rfl rfl (by decide) rfl ?_
          refine r_goto (tgt := 9) dX7_splitWords_84 (by decide) ?_
          exact Blk.sub [3, 1, 0] rfl V
        · have V := V.2 c
          refine r_aload_n 1 dX7_splitWords_49 rfl rfl ?_
          refine r_getf (ci := 8) (kf := 3) (T := TX7) rfl in_X7 (by decide) wF_X7_17 dX7_splitWords_50 q14 rfl ?_
          refine r_aload_n 1 dX7_splitWords_53 rfl rfl ?_
          refine r_getf (ci := 8) (kf := 5) (T := TX7) rfl in_X7 (by decide) wF_X7_62 dX7_splitWords_54 q14 rfl ?_
          refine r_iload_n 2 dX7_splitWords_57 rfl rfl ?_
          obtain ⟨N28, f29, q27, V⟩ := V
          obtain ⟨c, cN, V⟩ := V
          refine r_iastN dX7_splitWords_58 q27 c cN ?_
          show Blk g M_X7_splitWords post 59 [(3, .int (nI v13)), (0, .ref x0), (1, .int (nI x1)), (2, .int (nI x2))] [] (xup h11 o18 (xna N28 (va_up f29 o20 x1))) n12 0 0
          refine r_aload_n 1 dX7_splitWords_59 rfl rfl ?_
          have q30 : (xup h11 o18 (xna N28 (va_up f29 o20 x1))) x0 = some (xo 8 [.int (nI o15), .ref o16, .int (nI o17), .ref o18, .ref o19, .int (nI o20), .int (nI o21), .ref o22, .ref o23]) := (xup_n (x_apart q14 q27 x_oa)).trans q14
          refine r_getf (ci := 8) (kf := 4) (T := TX7) rfl in_X7 (by decide) wF_X7_21 dX7_splitWords_60 q30 rfl ?_
          refine r_aload_n 1 dX7_splitWords_63 rfl rfl ?_
          refine r_getf (ci := 8) (kf := 5) (T := TX7) rfl in_X7 (by decide) wF_X7_62 dX7_splitWords_64 q30 rfl ?_
          refine r_iload_n 0 dX7_splitWords_67 rfl rfl ?_
          obtain ⟨N32, f33, q31, V⟩ := V
          obtain ⟨n34, V⟩ := V
          have q35 : (xup h11 o18 (xna N28 (va_up f29 o20 x1))) o19 = some (xna N32 f33) := (xup_n n34).trans q31
          obtain ⟨c, cN, V⟩ := V
          refine r_iastN dX7_splitWords_68 q35 c cN ?_
          show Blk g M_X7_splitWords post 69 [(3, .int (nI v13)), (0, .ref x0), (1, .int (nI x1)), (2, .int (nI x2))] [] (xup (xup h11 o18 (xna N28 (va_up f29 o20 x1))) o19 (xna N32 (va_up f33 o20 v13))) n12 0 0
          refine r_aload_n 1 dX7_splitWords_69 rfl rfl ?_
          refine r_dup dX7_splitWords_70 rfl ?_
          have q36 : (xup (xup h11 o18 (xna N28 (va_up f29 o20 x1))) o19 (xna N32 (va_up f33 o20 v13))) x0 = some (xo 8 [.int (nI o15), .ref o16, .int (nI o17), .ref o18, .ref o19, .int (nI o20), .int (nI o21), .ref o22, .ref o23]) := (xup_n (x_apart q30 q35 x_oa)).trans q30
          refine r_getf (ci := 8) (kf := 5) (T := TX7) rfl in_X7 (by decide) wF_X7_62 dX7_splitWords_71 q36 rfl ?_
          refine r_iconst (v := (nI 1)) dX7_splitWords_74 rfl ?_
          refine r_iaddN dX7_splitWords_75 ?_
          refine r_putf (ci := 8) (kf := 5) (T := TX7) rfl in_X7 tyX7_ok nmX7 (by decide) wF_X7_62 rfl (tyX7_ok 5 (by decide)) dX7_splitWords_76 q36 (Nat.le_of_ble_eq_true rfl) rfl rfl ?_
          show Blk g M_X7_splitWords post 79 [(3, .int (nI v13)), (0, .ref x0), (1, .int (nI x1)), (2, .int (nI x2))] [] (xup (xup (xup h11 o18 (xna N28 (va_up f29 o20 x1))) o19 (xna N32 (va_up f33 o20 v13))) x0 (xo 8 [.int (nI o15), .ref o16, .int (nI o17), .ref o18, .ref o19, .int (nI (o20 + 1)), .int (nI o21), .ref o22, .ref o23])) n12 0 0
          refine r_iload_n 0 dX7_splitWords_79 rfl rfl ?_
          refine r_istore_n (L' := [(1, .int (nI v13)), (3, .int (nI v13)), (0, .ref x0), (2, .int (nI x2))]) dX7_splitWords_80 rfl (by decide) rfl ?_
          refine r_iincN 3 (b := 1) (L' := [(2, .int (nI (x2 + 1))), (1, .int (nI v13)), (3, .int (nI v13)), (0, .ref x0)]) dX7_splitWords_81 rfl rfl (by decide) rfl ?_
          refine r_goto (tgt := 9) dX7_splitWords_84 (by decide) ?_
          exact Blk.sub [3, 1, 0] rfl V
set_option maxRecDepth 20000 in
theorem v_X7_wordEnd_0 {g : xG} {post : xPost} {h : xHp} {nx : Nat} {x0 : Nat} {x1 : Nat} (V : (∃ (o2 : Nat) (o3 : Nat) (o4 : Nat) (o5 : Nat) (o6 : Nat) (o7 : Nat) (o8 : Nat) (o9 : Nat) (o10 : Nat), h x0 = some (xo 8 [.int (nI o2), .ref o3, .int (nI o4), .ref o5, .ref o6, .int (nI o7), .int (nI o8), .ref o9, .ref o10]) ∧ (∃ (N12 : Nat) (f13 : Nat → Nat), h o3 = some (xnc N12 f13) ∧ x1 < N12 ∧ N12 < 2 ^ 31 ∧ (Ct g M_X7_isLetter [.int (nI (f13 x1))] h nx (fun r h14 n15 => ∃ v16 : Nat, r = some (.int (nI v16)) ∧ (v16 < 2 ^ 31 ∧ ((v16 = 0 → (∃ (o18 : Nat) (o19 : Nat) (o20 : Nat) (o21 : Nat) (o22 : Nat) (o23 : Nat) (o24 : Nat) (o25 : Nat) (o26 : Nat), h14 x0 = some (xo 8 [.int (nI o18), .ref o19, .int (nI o20), .ref o21, .ref o22, .int (nI o23), .int (nI o24), .ref o25, .ref o26]) ∧ (∃ (N28 : Nat) (f29 : Nat → Nat), h14 o19 = some (xnc N28 f29) ∧ x1 < N28 ∧ N28 < 2 ^ 31 ∧ (Ct g M_X7_isDigit [.int (nI (f29 x1))] h14 n15 (fun r h30 n31 => ∃ v32 : Nat, r = some (.int (nI v32)) ∧ (v32 < 2 ^ 31 ∧ ((v32 = 0 → (post (some (.int (nI (x1 + 1)))) h30 n31)) ∧ (¬ v32 = 0 → Blk g M_X7_wordEnd post 54 [(0, .ref x0), (2, .int (nI (x1 + 1)))] [] h30 n31 0 0)))))))) ∧ (¬ v16 = 0 → Blk g M_X7_wordEnd post 16 [(0, .ref x0), (2, .int (nI (x1 + 1)))] [] h14 n15 0 0)))))))) : Blk g M_X7_wordEnd post 0 [(0, .ref x0), (1, .int (nI x1))] [] h nx 0 0 := by
  refine r_iload_n 1 dX7_wordEnd_0 rfl rfl ?_
  refine r_iconst (v := (nI 1)) dX7_wordEnd_1 rfl ?_
  refine r_iaddN dX7_wordEnd_2 ?_
  refine r_istore_n (L' := [(2, .int (nI (x1 + 1))), (0, .ref x0), (1, .int (nI x1))]) dX7_wordEnd_3 rfl (by decide) rfl ?_
  refine r_aload_n 1 dX7_wordEnd_4 rfl rfl ?_
  obtain ⟨o2, o3, o4, o5, o6, o7, o8, o9, o10, q1, V⟩ := V
  refine r_getf (ci := 8) (kf := 1) (T := TX7) rfl in_X7 (by decide) wF_X7_13 dX7_wordEnd_5 q1 rfl ?_
  refine r_iload_n 2 dX7_wordEnd_8 rfl rfl ?_
  obtain ⟨N12, f13, q11, V⟩ := V
  obtain ⟨c, cN, V⟩ := V
  refine r_cald dX7_wordEnd_9 q11 rfl c cN ?_
  show Blk g M_X7_wordEnd post 10 [(2, .int (nI (x1 + 1))), (0, .ref x0), (1, .int (nI x1))] [.int (nI (f13 x1))] h nx 0 0
  refine r_callS (M2 := M_X7_isLetter) (n := 1) (As := [.int (nI (f13 x1))]) (wl4 wM_X7_69 ws_X7_isLetter wI_StateShares_Rules wc_X7_isLetter) (by decide +kernel) (by decide) rfl rfl (Nat.le_of_ble_eq_true rfl) dX7_wordEnd_10 (by decide) (by decide) (Ct.imp V (fun r h14 n15 V => ?_))
  obtain ⟨v16, rfl, V⟩ := V
  show Blk g M_X7_wordEnd post 13 [(2, .int (nI (x1 + 1))), (0, .ref x0), (1, .int (nI x1))] [.int (nI v16)] h14 n15 0 0
  obtain ⟨c, V⟩ := V
  refine r_if_eqN (tgt := 42) dX7_wordEnd_13 (by decide) c (fun c => ?_) (fun c => ?_)
  · have V := V.1 c
    refine r_aload_n 1 dX7_wordEnd_42 rfl rfl ?_
    obtain ⟨o18, o19, o20, o21, o22, o23, o24, o25, o26, q17, V⟩ := V
    refine r_getf (ci := 8) (kf := 1) (T := TX7) rfl in_X7 (by decide) wF_X7_13 dX7_wordEnd_43 q17 rfl ?_
    refine r_iload_n 2 dX7_wordEnd_46 rfl rfl ?_
    obtain ⟨N28, f29, q27, V⟩ := V
    obtain ⟨c, cN, V⟩ := V
    refine r_cald dX7_wordEnd_47 q27 rfl c cN ?_
    show Blk g M_X7_wordEnd post 48 [(2, .int (nI (x1 + 1))), (0, .ref x0), (1, .int (nI x1))] [.int (nI (f29 x1))] h14 n15 0 0
    refine r_callS (M2 := M_X7_isDigit) (n := 1) (As := [.int (nI (f29 x1))]) (wl4 wM_X7_73 ws_X7_isDigit wI_StateShares_Rules wc_X7_isDigit) (by decide +kernel) (by decide) rfl rfl (Nat.le_of_ble_eq_true rfl) dX7_wordEnd_48 (by decide) (by decide) (Ct.imp V (fun r h30 n31 V => ?_))
    obtain ⟨v32, rfl, V⟩ := V
    show Blk g M_X7_wordEnd post 51 [(2, .int (nI (x1 + 1))), (0, .ref x0), (1, .int (nI x1))] [.int (nI v32)] h30 n31 0 0
    obtain ⟨c, V⟩ := V
    refine r_if_eqN (tgt := 80) dX7_wordEnd_51 (by decide) c (fun c => ?_) (fun c => ?_)
    · have V := V.1 c
      refine r_iload_n 0 dX7_wordEnd_80 rfl rfl ?_
      exact r_iret dX7_wordEnd_81 rfl (by decide) (by decide) V
    · have V := V.2 c
      exact Blk.sub [1, 0] rfl V
  · have V := V.2 c
    exact Blk.sub [1, 0] rfl V
set_option maxRecDepth 20000 in
theorem v_X7_wordEnd_16 {g : xG} {post : xPost} {h : xHp} {nx : Nat} {x0 : Nat} {x2 : Nat} (V : (∃ (o2 : Nat) (o3 : Nat) (o4 : Nat) (o5 : Nat) (o6 : Nat) (o7 : Nat) (o8 : Nat) (o9 : Nat) (o10 : Nat), h x0 = some (xo 8 [.int (nI o2), .ref o3, .int (nI o4), .ref o5, .ref o6, .int (nI o7), .int (nI o8), .ref o9, .ref o10]) ∧ ((x2 < 2 ^ 31 ∧ o4 < 2 ^ 31) ∧ ((o4 ≤ x2 → (post (some (.int (nI x2))) h nx)) ∧ (x2 < o4 → (∃ (N12 : Nat) (f13 : Nat → Nat), h o3 = some (xnc N12 f13) ∧ x2 < N12 ∧ N12 < 2 ^ 31 ∧ (Ct g M_X7_isLetter [.int (nI (f13 x2))] h nx (fun r h14 n15 => ∃ v16 : Nat, r = some (.int (nI v16)) ∧ (v16 < 2 ^ 31 ∧ ((v16 = 0 → (post (some (.int (nI x2))) h14 n15)) ∧ (¬ v16 = 0 → Blk g M_X7_wordEnd post 16 [(0, .ref x0), (2, .int (nI (x2 + 1)))] [] h14 n15 0 0))))))))))) : Blk g M_X7_wordEnd post 16 [(0, .ref x0), (2, .int (nI x2))] [] h nx 0 0 := by
  refine r_iload_n 1 dX7_wordEnd_16 rfl rfl ?_
  refine r_aload_n 0 dX7_wordEnd_17 rfl rfl ?_
  obtain ⟨o2, o3, o4, o5, o6, o7, o8, o9, o10, q1, V⟩ := V
  refine r_getf (ci := 8) (kf := 2) (T := TX7) rfl in_X7 (by decide) wF_X7_38 dX7_wordEnd_18 q1 rfl ?_
  obtain ⟨c, V⟩ := V
  refine r_icmp_geN (tgt := 80) dX7_wordEnd_21 (by decide) c (fun c => ?_) (fun c => ?_)
  · have V := V.1 c
    refine r_iload_n 1 dX7_wordEnd_80 rfl rfl ?_
    exact r_iret dX7_wordEnd_81 rfl (by decide) (by decide) V
  · have V := V.2 c
    refine r_aload_n 0 dX7_wordEnd_24 rfl rfl ?_
    refine r_getf (ci := 8) (kf := 1) (T := TX7) rfl in_X7 (by decide) wF_X7_13 dX7_wordEnd_25 q1 rfl ?_
    refine r_iload_n 1 dX7_wordEnd_28 rfl rfl ?_
    obtain ⟨N12, f13, q11, V⟩ := V
    obtain ⟨c, cN, V⟩ := V
    refine r_cald dX7_wordEnd_29 q11 rfl c cN ?_
    show Blk g M_X7_wordEnd post 30 [(0, .ref x0), (2, .int (nI x2))] [.int (nI (f13 x2))] h nx 0 0
    refine r_callS (M2 := M_X7_isLetter) (n := 1) (As := [.int (nI (f13 x2))]) (wl4 wM_X7_69 ws_X7_isLetter wI_StateShares_Rules wc_X7_isLetter) (by decide +kernel) (by decide) rfl rfl (Nat.le_of_ble_eq_true rfl) dX7_wordEnd_30 (by decide) (by decide) (Ct.imp V (fun r h14 n15 V => ?_))
    obtain ⟨v16, rfl, V⟩ := V
    show Blk g M_X7_wordEnd post 33 [(0, .ref x0), (2, .int (nI x2))] [.int (nI v16)] h14 n15 0 0
    obtain ⟨c, V⟩ := V
    refine r_if_eqN (tgt := 80) dX7_wordEnd_33 (by decide) c (fun c => ?_) (fun c => ?_)
    · have V := V.1 c
      refine r_iload_n 1 dX7_wordEnd_80 rfl rfl ?_
      exact r_iret dX7_wordEnd_81 rfl (by decide) (by decide) V
    · have V := V.2 c
      refine r_iincN 1 (b := 1) (L' := [(2, .int (nI (x2 + 1))), (0, .ref x0)]) dX7_wordEnd_36 rfl rfl (by decide) rfl ?_
      refine r_goto (tgt := 16) dX7_wordEnd_39 (by decide) ?_
      exact Blk.sub [1, 0] rfl V
set_option maxRecDepth 20000 in
theorem v_X7_wordEnd_54 {g : xG} {post : xPost} {h : xHp} {nx : Nat} {x0 : Nat} {x2 : Nat} (V : (∃ (o2 : Nat) (o3 : Nat) (o4 : Nat) (o5 : Nat) (o6 : Nat) (o7 : Nat) (o8 : Nat) (o9 : Nat) (o10 : Nat), h x0 = some (xo 8 [.int (nI o2), .ref o3, .int (nI o4), .ref o5, .ref o6, .int (nI o7), .int (nI o8), .ref o9, .ref o10]) ∧ ((x2 < 2 ^ 31 ∧ o4 < 2 ^ 31) ∧ ((o4 ≤ x2 → (post (some (.int (nI x2))) h nx)) ∧ (x2 < o4 → (∃ (N12 : Nat) (f13 : Nat → Nat), h o3 = some (xnc N12 f13) ∧ x2 < N12 ∧ N12 < 2 ^ 31 ∧ (Ct g M_X7_isDigit [.int (nI (f13 x2))] h nx (fun r h14 n15 => ∃ v16 : Nat, r = some (.int (nI v16)) ∧ (v16 < 2 ^ 31 ∧ ((v16 = 0 → (post (some (.int (nI x2))) h14 n15)) ∧ (¬ v16 = 0 → Blk g M_X7_wordEnd post 54 [(0, .ref x0), (2, .int (nI (x2 + 1)))] [] h14 n15 0 0))))))))))) : Blk g M_X7_wordEnd post 54 [(0, .ref x0), (2, .int (nI x2))] [] h nx 0 0 := by
  refine r_iload_n 1 dX7_wordEnd_54 rfl rfl ?_
  refine r_aload_n 0 dX7_wordEnd_55 rfl rfl ?_
  obtain ⟨o2, o3, o4, o5, o6, o7, o8, o9, o10, q1, V⟩ := V
  refine r_getf (ci := 8) (kf := 2) (T := TX7) rfl in_X7 (by decide) wF_X7_38 dX7_wordEnd_56 q1 rfl ?_
  obtain ⟨c, V⟩ := V
  refine r_icmp_geN (tgt := 80) dX7_wordEnd_59 (by decide) c (fun c => ?_) (fun c => ?_)
  · have V := V.1 c
    refine r_iload_n 1 dX7_wordEnd_80 rfl rfl ?_
    exact r_iret dX7_wordEnd_81 rfl (by decide) (by decide) V
  · have V := V.2 c
    refine r_aload_n 0 dX7_wordEnd_62 rfl rfl ?_
    refine r_getf (ci := 8) (kf := 1) (T := TX7) rfl in_X7 (by decide) wF_X7_13 dX7_wordEnd_63 q1 rfl ?_
    refine r_iload_n 1 dX7_wordEnd_66 rfl rfl ?_
    obtain ⟨N12, f13, q11, V⟩ := V
    obtain ⟨c, cN, V⟩ := V
    refine r_cald dX7_wordEnd_67 q11 rfl c cN ?_
    show Blk g M_X7_wordEnd post 68 [(0, .ref x0), (2, .int (nI x2))] [.int (nI (f13 x2))] h nx 0 0
    refine r_callS (M2 := M_X7_isDigit) (n := 1) (As := [.int (nI (f13 x2))]) (wl4 wM_X7_73 ws_X7_isDigit wI_StateShares_Rules wc_X7_isDigit) (by decide +kernel) (by decide) rfl rfl (Nat.le_of_ble_eq_true rfl) dX7_wordEnd_68 (by decide) (by decide) (Ct.imp V (fun r h14 n15 V => ?_))
    obtain ⟨v16, rfl, V⟩ := V
    show Blk g M_X7_wordEnd post 71 [(0, .ref x0), (2, .int (nI x2))] [.int (nI v16)] h14 n15 0 0
    obtain ⟨c, V⟩ := V
    refine r_if_eqN (tgt := 80) dX7_wordEnd_71 (by decide) c (fun c => ?_) (fun c => ?_)
    · have V := V.1 c
      refine r_iload_n 1 dX7_wordEnd_80 rfl rfl ?_
      exact r_iret dX7_wordEnd_81 rfl (by decide) (by decide) V
    · have V := V.2 c
      refine r_iincN 1 (b := 1) (L' := [(2, .int (nI (x2 + 1))), (0, .ref x0)]) dX7_wordEnd_74 rfl rfl (by decide) rfl ?_
      refine r_goto (tgt := 54) dX7_wordEnd_77 (by decide) ?_
      exact Blk.sub [1, 0] rfl V
set_option maxRecDepth 20000 in
theorem v_X7_isLetter_0 {g : xG} {post : xPost} {h : xHp} {nx : Nat} {x0 : Nat} (V : ((x0 < 2 ^ 31 ∧ 97 < 2 ^ 31) ∧ ((x0 < 97 → ((x0 < 2 ^ 31 ∧ 65 < 2 ^ 31) ∧ ((x0 < 65 → (post (some (.int (nI 0))) h nx)) ∧ (65 ≤ x0 → ((x0 < 2 ^ 31 ∧ 90 < 2 ^ 31) ∧ ((90 < x0 → (post (some (.int (nI 0))) h nx)) ∧ (x0 ≤ 90 → (post (some (.int (nI 1))) h nx)))))))) ∧ (97 ≤ x0 → ((x0 < 2 ^ 31 ∧ 122 < 2 ^ 31) ∧ ((x0 ≤ 122 → (post (some (.int (nI 1))) h nx)) ∧ (122 < x0 → ((x0 < 2 ^ 31 ∧ 65 < 2 ^ 31) ∧ ((x0 < 65 → (post (some (.int (nI 0))) h nx)) ∧ (65 ≤ x0 → ((x0 < 2 ^ 31 ∧ 90 < 2 ^ 31) ∧ ((90 < x0 → (post (some (.int (nI 0))) h nx)) ∧ (x0 ≤ 90 → (post (some (.int (nI 1))) h nx)))))))))))))) : Blk g M_X7_isLetter post 0 [(0, .int (nI x0))] [] h nx 0 0 := by
  refine r_iload_n 0 dX7_isLetter_0 rfl rfl ?_
  refine r_bipush (v := (nI 97)) dX7_isLetter_1 rfl ?_
  obtain ⟨c, V⟩ := V
  refine r_icmp_ltN (tgt := 12) dX7_isLetter_3 (by decide) c (fun c => ?_) (fun c => ?_)
  · have V := V.1 c
    refine r_iload_n 0 dX7_isLetter_12 rfl rfl ?_
    refine r_bipush (v := (nI 65)) dX7_isLetter_13 rfl ?_
    obtain ⟨c, V⟩ := V
    refine r_icmp_ltN (tgt := 28) dX7_isLetter_15 (by decide) c (fun c => ?_) (fun c => ?_)
    · have V := V.1 c
      refine r_iconst (v := (nI 0)) dX7_isLetter_28 rfl ?_
      exact r_zret (ty := .boolean) dX7_isLetter_29 rfl rfl (by decide) (by decide) V
    · have V := V.2 c
      refine r_iload_n 0 dX7_isLetter_18 rfl rfl ?_
      refine r_bipush (v := (nI 90)) dX7_isLetter_19 rfl ?_
      obtain ⟨c, V⟩ := V
      refine r_icmp_gtN (tgt := 28) dX7_isLetter_21 (by decide) c (fun c => ?_) (fun c => ?_)
      · have V := V.1 c
        refine r_iconst (v := (nI 0)) dX7_isLetter_28 rfl ?_
        exact r_zret (ty := .boolean) dX7_isLetter_29 rfl rfl (by decide) (by decide) V
      · have V := V.2 c
        refine r_iconst (v := (nI 1)) dX7_isLetter_24 rfl ?_
        refine r_goto (tgt := 29) dX7_isLetter_25 (by decide) ?_
        exact r_zret (ty := .boolean) dX7_isLetter_29 rfl rfl (by decide) (by decide) V
  · have V := V.2 c
    refine r_iload_n 0 dX7_isLetter_6 rfl rfl ?_
    refine r_bipush (v := (nI 122)) dX7_isLetter_7 rfl ?_
    obtain ⟨c, V⟩ := V
    refine r_icmp_leN (tgt := 24) dX7_isLetter_9 (by decide) c (fun c => ?_) (fun c => ?_)
    · have V := V.1 c
      refine r_iconst (v := (nI 1)) dX7_isLetter_24 rfl ?_
      refine r_goto (tgt := 29) dX7_isLetter_25 (by decide) ?_
      exact r_zret (ty := .boolean) dX7_isLetter_29 rfl rfl (by decide) (by decide) V
    · have V := V.2 c
      refine r_iload_n 0 dX7_isLetter_12 rfl rfl ?_
      refine r_bipush (v := (nI 65)) dX7_isLetter_13 rfl ?_
      obtain ⟨c, V⟩ := V
      refine r_icmp_ltN (tgt := 28) dX7_isLetter_15 (by decide) c (fun c => ?_) (fun c => ?_)
      · have V := V.1 c
        refine r_iconst (v := (nI 0)) dX7_isLetter_28 rfl ?_
        exact r_zret (ty := .boolean) dX7_isLetter_29 rfl rfl (by decide) (by decide) V
      · have V := V.2 c
        refine r_iload_n 0 dX7_isLetter_18 rfl rfl ?_
        refine r_bipush (v := (nI 90)) dX7_isLetter_19 rfl ?_
        obtain ⟨c, V⟩ := V
        refine r_icmp_gtN (tgt := 28) dX7_isLetter_21 (by decide) c (fun c => ?_) (fun c => ?_)
        · have V := V.1 c
          refine r_iconst (v := (nI 0)) dX7_isLetter_28 rfl ?_
          exact r_zret (ty := .boolean) dX7_isLetter_29 rfl rfl (by decide) (by decide) V
        · have V := V.2 c
          refine r_iconst (v := (nI 1)) dX7_isLetter_24 rfl ?_
          refine r_goto (tgt := 29) dX7_isLetter_25 (by decide) ?_
          exact r_zret (ty := .boolean) dX7_isLetter_29 rfl rfl (by decide) (by decide) V
set_option maxRecDepth 20000 in
theorem v_X7_isDigit_0 {g : xG} {post : xPost} {h : xHp} {nx : Nat} {x0 : Nat} (V : ((x0 < 2 ^ 31 ∧ 48 < 2 ^ 31) ∧ ((x0 < 48 → (post (some (.int (nI 0))) h nx)) ∧ (48 ≤ x0 → ((x0 < 2 ^ 31 ∧ 57 < 2 ^ 31) ∧ ((57 < x0 → (post (some (.int (nI 0))) h nx)) ∧ (x0 ≤ 57 → (post (some (.int (nI 1))) h nx)))))))) : Blk g M_X7_isDigit post 0 [(0, .int (nI x0))] [] h nx 0 0 := by
  refine r_iload_n 0 dX7_isDigit_0 rfl rfl ?_
  refine r_bipush (v := (nI 48)) dX7_isDigit_1 rfl ?_
  obtain ⟨c, V⟩ := V
  refine r_icmp_ltN (tgt := 16) dX7_isDigit_3 (by decide) c (fun c => ?_) (fun c => ?_)
  · have V := V.1 c
    refine r_iconst (v := (nI 0)) dX7_isDigit_16 rfl ?_
    exact r_zret (ty := .boolean) dX7_isDigit_17 rfl rfl (by decide) (by decide) V
  · have V := V.2 c
    refine r_iload_n 0 dX7_isDigit_6 rfl rfl ?_
    refine r_bipush (v := (nI 57)) dX7_isDigit_7 rfl ?_
    obtain ⟨c, V⟩ := V
    refine r_icmp_gtN (tgt := 16) dX7_isDigit_9 (by decide) c (fun c => ?_) (fun c => ?_)
    · have V := V.1 c
      refine r_iconst (v := (nI 0)) dX7_isDigit_16 rfl ?_
      exact r_zret (ty := .boolean) dX7_isDigit_17 rfl rfl (by decide) (by decide) V
    · have V := V.2 c
      refine r_iconst (v := (nI 1)) dX7_isDigit_12 rfl ?_
      refine r_goto (tgt := 17) dX7_isDigit_13 (by decide) ?_
      exact r_zret (ty := .boolean) dX7_isDigit_17 rfl rfl (by decide) (by decide) V
set_option maxRecDepth 20000 in
theorem v_X7_readRules_0 {g : xG} {post : xPost} {h : xHp} {nx : Nat} {x0 : Nat} (V : Blk g M_X7_readRules post 2 [(0, .ref x0), (1, .int (nI 0))] [] h nx 0 0) : Blk g M_X7_readRules post 0 [(0, .ref x0)] [] h nx 0 0 := by
  refine r_iconst (v := (nI 0)) dX7_readRules_0 rfl ?_
  refine r_istore_n (L' := [(1, .int (nI 0)), (0, .ref x0)]) dX7_readRules_1 rfl (by decide) rfl ?_
  exact Blk.sub [1, 0] rfl V
set_option maxRecDepth 20000 in
theorem v_X7_readRules_2 {g : xG} {post : xPost} {h : xHp} {nx : Nat} {x0 : Nat} {x1 : Nat} (V : ((x1 < 2 ^ 31 ∧ 20 < 2 ^ 31) ∧ ((20 ≤ x1 → (post (some (.int (nI 0))) h nx)) ∧ (x1 < 20 → (∃ (o4 : Nat) (o5 : Nat) (o6 : Nat) (o7 : Nat) (o8 : Nat) (o9 : Nat) (o10 : Nat) (o11 : Nat) (o12 : Nat), h x0 = some (xo 8 [.int (nI o4), .ref o5, .int (nI o6), .ref o7, .ref o8, .int (nI o9), .int (nI o10), .ref o11, .ref o12]) ∧ Ct g M_X7_readRule [.ref x0] h nx (fun r h1 n2 => ∃ v13 : Nat, r = some (.int (nI v13)) ∧ (v13 < 2 ^ 31 ∧ ((¬ v13 = 0 → (∃ (o15 : Nat) (o16 : Nat) (o17 : Nat) (o18 : Nat) (o19 : Nat) (o20 : Nat) (o21 : Nat) (o22 : Nat) (o23 : Nat), h1 x0 = some (xo 8 [.int (nI o15), .ref o16, .int (nI o17), .ref o18, .ref o19, .int (nI o20), .int (nI o21), .ref o22, .ref o23]) ∧ ((o21 < 2 ^ 31 ∧ o20 < 2 ^ 31) ∧ ((¬ o21 = o20 → (Ct g M_X7_wordIs [.ref x0, .int (nI o21), .ref (gS g 9)] h1 n2 (fun r h24 n25 => ∃ v26 : Nat, r = some (.int (nI v26)) ∧ (v26 < 2 ^ 31 ∧ ((¬ v26 = 0 → (∃ (o28 : Nat) (o29 : Nat) (o30 : Nat) (o31 : Nat) (o32 : Nat) (o33 : Nat) (o34 : Nat) (o35 : Nat) (o36 : Nat), h24 x0 = some (xo 8 [.int (nI o28), .ref o29, .int (nI o30), .ref o31, .ref o32, .int (nI o33), .int (nI o34), .ref o35, .ref o36]) ∧ Blk g M_X7_readRules post 2 [(0, .ref x0), (1, .int (nI (x1 + 1)))] [] (xup h24 x0 (xo 8 [.int (nI o28), .ref o29, .int (nI o30), .ref o31, .ref o32, .int (nI o33), .int (nI (o34 + 1)), .ref o35, .ref o36])) n25 0 0)) ∧ (v26 = 0 → (post (some (.int (nI 0))) h24 n25))))))) ∧ (o21 = o20 → (post (some (.int (nI 1))) h1 n2)))))) ∧ (v13 = 0 → (post (some (.int (nI 0))) h1 n2)))))))))) : Blk g M_X7_readRules post 2 [(0, .ref x0), (1, .int (nI x1))] [] h nx 0 0 := by
  refine r_iload_n 1 dX7_readRules_2 rfl rfl ?_
  refine r_bipush (v := (nI 20)) dX7_readRules_3 rfl ?_
  obtain ⟨c, V⟩ := V
  refine r_icmp_geN (tgt := 61) dX7_readRules_5 (by decide) c (fun c => ?_) (fun c => ?_)
  · have V := V.1 c
    refine r_iconst (v := (nI 0)) dX7_readRules_61 rfl ?_
    exact r_zret (ty := .boolean) dX7_readRules_62 rfl rfl (by decide) (by decide) V
  · have V := V.2 c
    refine r_aload_n 0 dX7_readRules_8 rfl rfl ?_
    obtain ⟨o4, o5, o6, o7, o8, o9, o10, o11, o12, q3, V⟩ := V
    refine r_callV (M2 := M_X7_readRule) (ci := 8) (n := 0) (As := []) rfl (wl5 wM_X7_76 wi_X7_readRule wS_X7_readRule wI_StateShares_Rules wc_X7_readRule) (by decide +kernel) (by decide) rfl rfl (Nat.le_of_ble_eq_true rfl) dX7_readRules_9 q3 (by decide) (by decide) (Ct.imp V (fun r h1 n2 V => ?_))
    obtain ⟨v13, rfl, V⟩ := V
    show Blk g M_X7_readRules post 12 [(0, .ref x0), (1, .int (nI x1))] [.int (nI v13)] h1 n2 0 0
    obtain ⟨c, V⟩ := V
    refine r_if_neN (tgt := 17) dX7_readRules_12 (by decide) c (fun c => ?_) (fun c => ?_)
    · have V := V.1 c
      refine r_aload_n 0 dX7_readRules_17 rfl rfl ?_
      obtain ⟨o15, o16, o17, o18, o19, o20, o21, o22, o23, q14, V⟩ := V
      refine r_getf (ci := 8) (kf := 6) (T := TX7) rfl in_X7 (by decide) wF_X7_48 dX7_readRules_18 q14 rfl ?_
      refine r_aload_n 0 dX7_readRules_21 rfl rfl ?_
      refine r_getf (ci := 8) (kf := 5) (T := TX7) rfl in_X7 (by decide) wF_X7_62 dX7_readRules_22 q14 rfl ?_
      obtain ⟨c, V⟩ := V
      refine r_icmp_neN (tgt := 30) dX7_readRules_25 (by decide) c (fun c => ?_) (fun c => ?_)
      · have V := V.1 c
        refine r_aload_n 0 dX7_readRules_30 rfl rfl ?_
        refine r_aload_n 0 dX7_readRules_31 rfl rfl ?_
        refine r_getf (ci := 8) (kf := 6) (T := TX7) rfl in_X7 (by decide) wF_X7_48 dX7_readRules_32 q14 rfl ?_
        refine r_ldcS (i := 9) (q := ("StateShares$Rules", 79, ";")) rfl rfl dX7_readRules_35 ?_
        refine r_callV (M2 := M_X7_wordIs) (ci := 8) (n := 2) (As := [.int (nI o21), .ref (gS g 9)]) rfl (wl5 wM_X7_81 wi_X7_wordIs wS_X7_wordIs wI_StateShares_Rules wc_X7_wordIs) (by decide +kernel) (by decide) rfl rfl (Nat.le_of_ble_eq_true rfl) dX7_readRules_37 q14 (by decide) (by decide) (Ct.imp V (fun r h24 n25 V => ?_))
        obtain ⟨v26, rfl, V⟩ := V
        show Blk g M_X7_readRules post 40 [(0, .ref x0), (1, .int (nI x1))] [.int (nI v26)] h24 n25 0 0
        obtain ⟨c, V⟩ := V
        refine r_if_neN (tgt := 45) dX7_readRules_40 (by decide) c (fun c => ?_) (fun c => ?_)
        · have V := V.1 c
          refine r_aload_n 0 dX7_readRules_45 rfl rfl ?_
          refine r_dup dX7_readRules_46 rfl ?_
          obtain ⟨o28, o29, o30, o31, o32, o33, o34, o35, o36, q27, V⟩ := V
          refine r_getf (ci := 8) (kf := 6) (T := TX7) rfl in_X7 (by decide) wF_X7_48 dX7_readRules_47 q27 rfl ?_
          refine r_iconst (v := (nI 1)) dX7_readRules_50 rfl ?_
          refine r_iaddN dX7_readRules_51 ?_
          refine r_putf (ci := 8) (kf := 6) (T := TX7) rfl in_X7 tyX7_ok nmX7 (by decide) wF_X7_48 rfl (tyX7_ok 6 (by decide)) dX7_readRules_52 q27 (Nat.le_of_ble_eq_true rfl) rfl rfl ?_
          show Blk g M_X7_readRules post 55 [(0, .ref x0), (1, .int (nI x1))] [] (xup h24 x0 (xo 8 [.int (nI o28), .ref o29, .int (nI o30), .ref o31, .ref o32, .int (nI o33), .int (nI (o34 + 1)), .ref o35, .ref o36])) n25 0 0
          refine r_iincN 1 (b := 1) (L' := [(1, .int (nI (x1 + 1))), (0, .ref x0)]) dX7_readRules_55 rfl rfl (by decide) rfl ?_
          refine r_goto (tgt := 2) dX7_readRules_58 (by decide) ?_
          exact Blk.sub [1, 0] rfl V
        · have V := V.2 c
          refine r_iconst (v := (nI 0)) dX7_readRules_43 rfl ?_
          exact r_zret (ty := .boolean) dX7_readRules_44 rfl rfl (by decide) (by decide) V
      · have V := V.2 c
        refine r_iconst (v := (nI 1)) dX7_readRules_28 rfl ?_
        exact r_zret (ty := .boolean) dX7_readRules_29 rfl rfl (by decide) (by decide) V
    · have V := V.2 c
      refine r_iconst (v := (nI 0)) dX7_readRules_15 rfl ?_
      exact r_zret (ty := .boolean) dX7_readRules_16 rfl rfl (by decide) (by decide) V
set_option maxRecDepth 20000 in
theorem v_X7_readRule_0 {g : xG} {post : xPost} {h : xHp} {nx : Nat} {x0 : Nat} (V : (∃ (o2 : Nat) (o3 : Nat) (o4 : Nat) (o5 : Nat) (o6 : Nat) (o7 : Nat) (o8 : Nat) (o9 : Nat) (o10 : Nat), h x0 = some (xo 8 [.int (nI o2), .ref o3, .int (nI o4), .ref o5, .ref o6, .int (nI o7), .int (nI o8), .ref o9, .ref o10]) ∧ (Ct g M_X7_amountAt [.ref x0, .int (nI o8)] h nx (fun r h11 n12 => ∃ v13 : Nat, r = some (.int (nI v13)) ∧ (v13 < 2 ^ 31 ∧ ((¬ v13 = 0 → (∃ (o15 : Nat) (o16 : Nat) (o17 : Nat) (o18 : Nat) (o19 : Nat) (o20 : Nat) (o21 : Nat) (o22 : Nat) (o23 : Nat), h11 x0 = some (xo 8 [.int (nI o15), .ref o16, .int (nI o17), .ref o18, .ref o19, .int (nI o20), .int (nI o21), .ref o22, .ref o23]) ∧ ((v13 < 2 ^ 31 ∧ 4 < 2 ^ 31) ∧ ((¬ v13 = 4 → (Ct g M_X7_isComparison [.ref x0, .int (nI (o21 + 1))] (xup h11 x0 (xo 8 [.int (nI o15), .ref o16, .int (nI o17), .ref o18, .ref o19, .int (nI o20), .int (nI (o21 + 1)), .ref o22, .ref o23])) n12 (fun r h24 n25 => ∃ v26 : Nat, r = some (.int (nI v26)) ∧ (v26 < 2 ^ 31 ∧ ((¬ v26 = 0 → (∃ (o28 : Nat) (o29 : Nat) (o30 : Nat) (o31 : Nat) (o32 : Nat) (o33 : Nat) (o34 : Nat) (o35 : Nat) (o36 : Nat), h24 x0 = some (xo 8 [.int (nI o28), .ref o29, .int (nI o30), .ref o31, .ref o32, .int (nI o33), .int (nI o34), .ref o35, .ref o36]) ∧ (∃ (N38 : Nat) (f39 : Nat → Nat), h24 o31 = some (xna N38 f39) ∧ o34 < N38 ∧ N38 < 2 ^ 31 ∧ (∃ (N41 : Nat) (f42 : Nat → Nat), h24 o29 = some (xnc N41 f42) ∧ (f39 o34) < N41 ∧ N41 < 2 ^ 31 ∧ (Ct g M_X7_numberAt [.ref x0, .int (nI (o34 + 1))] (xup h24 x0 (xo 8 [.int (nI o28), .ref o29, .int (nI o30), .ref o31, .ref o32, .int (nI o33), .int (nI (o34 + 1)), .ref o35, .ref o36])) n25 (fun r h43 n44 => ∃ v45 : Int32, r = some (.int v45) ∧ ((¬ v45 = (-1) → (∃ (o47 : Nat) (o48 : Nat) (o49 : Nat) (o50 : Nat) (o51 : Nat) (o52 : Nat) (o53 : Nat) (o54 : Nat) (o55 : Nat), h43 x0 = some (xo 8 [.int (nI o47), .ref o48, .int (nI o49), .ref o50, .ref o51, .int (nI o52), .int (nI o53), .ref o54, .ref o55]) ∧ (Ct g M_X7_wordIs [.ref x0, .int (nI (o53 + 1)), .ref (gS g 8)] (xup h43 x0 (xo 8 [.int (nI o47), .ref o48, .int (nI o49), .ref o50, .ref o51, .int (nI o52), .int (nI (o53 + 1)), .ref o54, .ref o55])) n44 (fun r h56 n57 => ∃ v58 : Nat, r = some (.int (nI v58)) ∧ (v58 < 2 ^ 31 ∧ ((¬ v58 = 0 → (∃ (o60 : Nat) (o61 : Nat) (o62 : Nat) (o63 : Nat) (o64 : Nat) (o65 : Nat) (o66 : Nat) (o67 : Nat) (o68 : Nat), h56 x0 = some (xo 8 [.int (nI o60), .ref o61, .int (nI o62), .ref o63, .ref o64, .int (nI o65), .int (nI o66), .ref o67, .ref o68]) ∧ (Ct g M_X7_readValue [.ref x0, .int (nI v13), .int (nI 0), .int (nI (f42 (f39 o34))), .int v45] (xup h56 x0 (xo 8 [.int (nI o60), .ref o61, .int (nI o62), .ref o63, .ref o64, .int (nI o65), .int (nI (o66 + 1)), .ref o67, .ref o68])) n57 (fun r h69 n70 => ∃ v71 : Nat, r = some (.int (nI v71)) ∧ (v71 ≤ 1 ∧ post (some (.int (nI v71))) h69 n70))))) ∧ (v58 = 0 → (post (some (.int (nI 0))) h56 n57)))))))) ∧ (v45 = (-1) → (post (some (.int (nI 0))) h43 n44))))))))) ∧ (v26 = 0 → (post (some (.int (nI 0))) h24 n25))))))) ∧ (v13 = 4 → (Ct g M_X7_numberAt [.ref x0, .int (nI (o21 + 1))] (xup h11 x0 (xo 8 [.int (nI o15), .ref o16, .int (nI o17), .ref o18, .ref o19, .int (nI o20), .int (nI (o21 + 1)), .ref o22, .ref o23])) n12 (fun r h72 n73 => ∃ v74 : Int32, r = some (.int v74) ∧ ((¬ v74 = (-1) → (∃ (o76 : Nat) (o77 : Nat) (o78 : Nat) (o79 : Nat) (o80 : Nat) (o81 : Nat) (o82 : Nat) (o83 : Nat) (o84 : Nat), h72 x0 = some (xo 8 [.int (nI o76), .ref o77, .int (nI o78), .ref o79, .ref o80, .int (nI o81), .int (nI o82), .ref o83, .ref o84]) ∧ (Ct g M_X7_isComparison [.ref x0, .int (nI (o82 + 1))] (xup h72 x0 (xo 8 [.int (nI o76), .ref o77, .int (nI o78), .ref o79, .ref o80, .int (nI o81), .int (nI (o82 + 1)), .ref o83, .ref o84])) n73 (fun r h85 n86 => ∃ v87 : Nat, r = some (.int (nI v87)) ∧ (v87 < 2 ^ 31 ∧ ((¬ v87 = 0 → (∃ (o89 : Nat) (o90 : Nat) (o91 : Nat) (o92 : Nat) (o93 : Nat) (o94 : Nat) (o95 : Nat) (o96 : Nat) (o97 : Nat), h85 x0 = some (xo 8 [.int (nI o89), .ref o90, .int (nI o91), .ref o92, .ref o93, .int (nI o94), .int (nI o95), .ref o96, .ref o97]) ∧ (∃ (N99 : Nat) (f100 : Nat → Nat), h85 o92 = some (xna N99 f100) ∧ o95 < N99 ∧ N99 < 2 ^ 31 ∧ (∃ (N102 : Nat) (f103 : Nat → Nat), h85 o90 = some (xnc N102 f103) ∧ (f100 o95) < N102 ∧ N102 < 2 ^ 31 ∧ (Ct g M_X7_numberAt [.ref x0, .int (nI (o95 + 1))] (xup h85 x0 (xo 8 [.int (nI o89), .ref o90, .int (nI o91), .ref o92, .ref o93, .int (nI o94), .int (nI (o95 + 1)), .ref o96, .ref o97])) n86 (fun r h104 n105 => ∃ v106 : Int32, r = some (.int v106) ∧ ((¬ v106 = (-1) → (∃ (o108 : Nat) (o109 : Nat) (o110 : Nat) (o111 : Nat) (o112 : Nat) (o113 : Nat) (o114 : Nat) (o115 : Nat) (o116 : Nat), h104 x0 = some (xo 8 [.int (nI o108), .ref o109, .int (nI o110), .ref o111, .ref o112, .int (nI o113), .int (nI o114), .ref o115, .ref o116]) ∧ (Ct g M_X7_wordIs [.ref x0, .int (nI (o114 + 1)), .ref (gS g 8)] (xup h104 x0 (xo 8 [.int (nI o108), .ref o109, .int (nI o110), .ref o111, .ref o112, .int (nI o113), .int (nI (o114 + 1)), .ref o115, .ref o116])) n105 (fun r h117 n118 => ∃ v119 : Nat, r = some (.int (nI v119)) ∧ (v119 < 2 ^ 31 ∧ ((¬ v119 = 0 → (∃ (o121 : Nat) (o122 : Nat) (o123 : Nat) (o124 : Nat) (o125 : Nat) (o126 : Nat) (o127 : Nat) (o128 : Nat) (o129 : Nat), h117 x0 = some (xo 8 [.int (nI o121), .ref o122, .int (nI o123), .ref o124, .ref o125, .int (nI o126), .int (nI o127), .ref o128, .ref o129]) ∧ (Ct g M_X7_readValue [.ref x0, .int (nI v13), .int v74, .int (nI (f103 (f100 o95))), .int v106] (xup h117 x0 (xo 8 [.int (nI o121), .ref o122, .int (nI o123), .ref o124, .ref o125, .int (nI o126), .int (nI (o127 + 1)), .ref o128, .ref o129])) n118 (fun r h130 n131 => ∃ v132 : Nat, r = some (.int (nI v132)) ∧ (v132 ≤ 1 ∧ post (some (.int (nI v132))) h130 n131))))) ∧ (v119 = 0 → (post (some (.int (nI 0))) h117 n118)))))))) ∧ (v106 = (-1) → (post (some (.int (nI 0))) h104 n105))))))))) ∧ (v87 = 0 → (post (some (.int (nI 0))) h85 n86)))))))) ∧ (v74 = (-1) → (post (some (.int (nI 0))) h72 n73)))))))))) ∧ (v13 = 0 → (∃ (o136 : Nat) (o137 : Nat) (o138 : Nat) (o139 : Nat) (o140 : Nat) (o141 : Nat) (o142 : Nat) (o143 : Nat) (o144 : Nat), h11 x0 = some (xo 8 [.int (nI o136), .ref o137, .int (nI o138), .ref o139, .ref o140, .int (nI o141), .int (nI o142), .ref o143, .ref o144]) ∧ Ct g M_X7_readValue [.ref x0, .int (nI 0), .int (nI 0), .int (nI 61), .int (nI 0)] h11 n12 (fun r h133 n134 => ∃ v145 : Nat, r = some (.int (nI v145)) ∧ (v145 ≤ 1 ∧ post (some (.int (nI v145))) h133 n134)))))))))) : Blk g M_X7_readRule post 0 [(0, .ref x0)] [] h nx 0 0 := by
  refine r_aload_n 0 dX7_readRule_0 rfl rfl ?_
  refine r_aload_n 0 dX7_readRule_1 rfl rfl ?_
  obtain ⟨o2, o3, o4, o5, o6, o7, o8, o9, o10, q1, V⟩ := V
  refine r_getf (ci := 8) (kf := 6) (T := TX7) rfl in_X7 (by decide) wF_X7_48 dX7_readRule_2 q1 rfl ?_
  refine r_callV (M2 := M_X7_amountAt) (ci := 8) (n := 1) (As := [.int (nI o8)]) rfl (wl5 wM_X7_85 wi_X7_amountAt wS_X7_amountAt wI_StateShares_Rules wc_X7_amountAt) (by decide +kernel) (by decide) rfl rfl (Nat.le_of_ble_eq_true rfl) dX7_readRule_5 q1 (by decide) (by decide) (Ct.imp V (fun r h11 n12 V => ?_))
  obtain ⟨v13, rfl, V⟩ := V
  show Blk g M_X7_readRule post 8 [(0, .ref x0)] [.int (nI v13)] h11 n12 0 0
  refine r_istore_n (L' := [(1, .int (nI v13)), (0, .ref x0)]) dX7_readRule_8 rfl (by decide) rfl ?_
  refine r_iload_n 0 dX7_readRule_9 rfl rfl ?_
  obtain ⟨c, V⟩ := V
  refine r_if_neN (tgt := 23) dX7_readRule_10 (by decide) c (fun c => ?_) (fun c => ?_)
  · have V := V.1 c
    refine r_aload_n 1 dX7_readRule_23 rfl rfl ?_
    refine r_dup dX7_readRule_24 rfl ?_
    obtain ⟨o15, o16, o17, o18, o19, o20, o21, o22, o23, q14, V⟩ := V
    refine r_getf (ci := 8) (kf := 6) (T := TX7) rfl in_X7 (by decide) wF_X7_48 dX7_readRule_25 q14 rfl ?_
    refine r_iconst (v := (nI 1)) dX7_readRule_28 rfl ?_
    refine r_iaddN dX7_readRule_29 ?_
    refine r_putf (ci := 8) (kf := 6) (T := TX7) rfl in_X7 tyX7_ok nmX7 (by decide) wF_X7_48 rfl (tyX7_ok 6 (by decide)) dX7_readRule_30 q14 (Nat.le_of_ble_eq_true rfl) rfl rfl ?_
    show Blk g M_X7_readRule post 33 [(1, .int (nI v13)), (0, .ref x0)] [] (xup h11 x0 (xo 8 [.int (nI o15), .ref o16, .int (nI o17), .ref o18, .ref o19, .int (nI o20), .int (nI (o21 + 1)), .ref o22, .ref o23])) n12 0 0
    refine r_iconst (v := (nI 0)) dX7_readRule_33 rfl ?_
    refine r_istore_n (L' := [(2, .int (nI 0)), (1, .int (nI v13)), (0, .ref x0)]) dX7_readRule_34 rfl (by decide) rfl ?_
    refine r_iload_n 1 dX7_readRule_35 rfl rfl ?_
    refine r_iconst (v := (nI 4)) dX7_readRule_36 rfl ?_
    obtain ⟨c, V⟩ := V
    refine r_icmp_neN (tgt := 66) dX7_readRule_37 (by decide) c (fun c => ?_) (fun c => ?_)
    · have V := V.1 c
      refine r_aload_n 2 dX7_readRule_66 rfl rfl ?_
      refine r_aload_n 2 dX7_readRule_67 rfl rfl ?_
      refine r_getf (ci := 8) (kf := 6) (T := TX7) rfl in_X7 (by decide) wF_X7_48 dX7_readRule_68 (xup_s _ _ _) rfl ?_
      refine r_callV (M2 := M_X7_isComparison) (ci := 8) (n := 1) (As := [.int (nI (o21 + 1))]) rfl (wl5 wM_X7_95 wi_X7_isComparison wS_X7_isComparison wI_StateShares_Rules wc_X7_isComparison) (by decide +kernel) (by decide) rfl rfl (Nat.le_of_ble_eq_true rfl) dX7_readRule_71 (xup_s _ _ _) (by decide) (by decide) (Ct.imp V (fun r h24 n25 V => ?_))
      obtain ⟨v26, rfl, V⟩ := V
      show Blk g M_X7_readRule post 74 [(2, .int (nI 0)), (1, .int (nI v13)), (0, .ref x0)] [.int (nI v26)] h24 n25 0 0
      obtain ⟨c, V⟩ := V
      refine r_if_neN (tgt := 79) dX7_readRule_74 (by decide) c (fun c => ?_) (fun c => ?_)
      · have V := V.1 c
        refine r_aload_n 2 dX7_readRule_79 rfl rfl ?_
        obtain ⟨o28, o29, o30, o31, o32, o33, o34, o35, o36, q27, V⟩ := V
        refine r_getf (ci := 8) (kf := 1) (T := TX7) rfl in_X7 (by decide) wF_X7_13 dX7_readRule_80 q27 rfl ?_
        refine r_aload_n 2 dX7_readRule_83 rfl rfl ?_
        refine r_getf (ci := 8) (kf := 3) (T := TX7) rfl in_X7 (by decide) wF_X7_17 dX7_readRule_84 q27 rfl ?_
        refine r_aload_n 2 dX7_readRule_87 rfl rfl ?_
        refine r_getf (ci := 8) (kf := 6) (T := TX7) rfl in_X7 (by decide) wF_X7_48 dX7_readRule_88 q27 rfl ?_
        obtain ⟨N38, f39, q37, V⟩ := V
        obtain ⟨c, cN, V⟩ := V
        refine r_iald dX7_readRule_91 q37 rfl c cN ?_
        show Blk g M_X7_readRule post 92 [(2, .int (nI 0)), (1, .int (nI v13)), (0, .ref x0)] [.int (nI (f39 o34)), .ref o29] h24 n25 0 0
        obtain ⟨N41, f42, q40, V⟩ := V
        obtain ⟨c, cN, V⟩ := V
        refine r_cald dX7_readRule_92 q40 rfl c cN ?_
        show Blk g M_X7_readRule post 93 [(2, .int (nI 0)), (1, .int (nI v13)), (0, .ref x0)] [.int (nI (f42 (f39 o34)))] h24 n25 0 0
        refine r_istore_n (L' := [(3, .int (nI (f42 (f39 o34)))), (2, .int (nI 0)), (1, .int (nI v13)), (0, .ref x0)]) dX7_readRule_93 rfl (by decide) rfl ?_
        refine r_aload_n 3 dX7_readRule_94 rfl rfl ?_
        refine r_dup dX7_readRule_95 rfl ?_
        refine r_getf (ci := 8) (kf := 6) (T := TX7) rfl in_X7 (by decide) wF_X7_48 dX7_readRule_96 q27 rfl ?_
        refine r_iconst (v := (nI 1)) dX7_readRule_99 rfl ?_
        refine r_iaddN dX7_readRule_100 ?_
        refine r_putf (ci := 8) (kf := 6) (T := TX7) rfl in_X7 tyX7_ok nmX7 (by decide) wF_X7_48 rfl (tyX7_ok 6 (by decide)) dX7_readRule_101 q27 (Nat.le_of_ble_eq_true rfl) rfl rfl ?_
        show Blk g M_X7_readRule post 104 [(3, .int (nI (f42 (f39 o34)))), (2, .int (nI 0)), (1, .int (nI v13)), (0, .ref x0)] [] (xup h24 x0 (xo 8 [.int (nI o28), .ref o29, .int (nI o30), .ref o31, .ref o32, .int (nI o33), .int (nI (o34 + 1)), .ref o35, .ref o36])) n25 0 0
        refine r_aload_n 3 dX7_readRule_104 rfl rfl ?_
        refine r_aload_n 3 dX7_readRule_105 rfl rfl ?_
        refine r_getf (ci := 8) (kf := 6) (T := TX7) rfl in_X7 (by decide) wF_X7_48 dX7_readRule_106 (xup_s _ _ _) rfl ?_
        refine r_callV (M2 := M_X7_numberAt) (ci := 8) (n := 1) (As := [.int (nI (o34 + 1))]) rfl (wl5 wM_X7_92 wi_X7_numberAt wS_X7_numberAt wI_StateShares_Rules wc_X7_numberAt) (by decide +kernel) (by decide) rfl rfl (Nat.le_of_ble_eq_true rfl) dX7_readRule_109 (xup_s _ _ _) (by decide) (by decide) (Ct.imp V (fun r h43 n44 V => ?_))
        obtain ⟨v45, rfl, V⟩ := V
        show Blk g M_X7_readRule post 112 [(3, .int (nI (f42 (f39 o34)))), (2, .int (nI 0)), (1, .int (nI v13)), (0, .ref x0)] [.int v45] h43 n44 0 0
        refine r_istore (L' := [(4, .int v45), (3, .int (nI (f42 (f39 o34)))), (2, .int (nI 0)), (1, .int (nI v13)), (0, .ref x0)]) dX7_readRule_112 (by decide) rfl ?_
        refine r_iload 0 dX7_readRule_114 rfl ?_
        refine r_iconst (v := (-1)) dX7_readRule_116 rfl ?_
        refine r_icmp_ne (tgt := 122) dX7_readRule_117 (by decide) (fun c => ?_) (fun c => ?_)
        · have V := V.1 c
          refine r_aload_n 4 dX7_readRule_122 rfl rfl ?_
          refine r_dup dX7_readRule_123 rfl ?_
          obtain ⟨o47, o48, o49, o50, o51, o52, o53, o54, o55, q46, V⟩ := V
          refine r_getf (ci := 8) (kf := 6) (T := TX7) rfl in_X7 (by decide) wF_X7_48 dX7_readRule_124 q46 rfl ?_
          refine r_iconst (v := (nI 1)) dX7_readRule_127 rfl ?_
          refine r_iaddN dX7_readRule_128 ?_
          refine r_putf (ci := 8) (kf := 6) (T := TX7) rfl in_X7 tyX7_ok nmX7 (by decide) wF_X7_48 rfl (tyX7_ok 6 (by decide)) dX7_readRule_129 q46 (Nat.le_of_ble_eq_true rfl) rfl rfl ?_
          show Blk g M_X7_readRule post 132 [(4, .int v45), (3, .int (nI (f42 (f39 o34)))), (2, .int (nI 0)), (1, .int (nI v13)), (0, .ref x0)] [] (xup h43 x0 (xo 8 [.int (nI o47), .ref o48, .int (nI o49), .ref o50, .ref o51, .int (nI o52), .int (nI (o53 + 1)), .ref o54, .ref o55])) n44 0 0
          refine r_aload_n 4 dX7_readRule_132 rfl rfl ?_
          refine r_aload_n 4 dX7_readRule_133 rfl rfl ?_
          refine r_getf (ci := 8) (kf := 6) (T := TX7) rfl in_X7 (by decide) wF_X7_48 dX7_readRule_134 (xup_s _ _ _) rfl ?_
          refine r_ldcS (i := 8) (q := ("StateShares$Rules", 99, ":")) rfl rfl dX7_readRule_137 ?_
          refine r_callV (M2 := M_X7_wordIs) (ci := 8) (n := 2) (As := [.int (nI (o53 + 1)), .ref (gS g 8)]) rfl (wl5 wM_X7_81 wi_X7_wordIs wS_X7_wordIs wI_StateShares_Rules wc_X7_wordIs) (by decide +kernel) (by decide) rfl rfl (Nat.le_of_ble_eq_true rfl) dX7_readRule_139 (xup_s _ _ _) (by decide) (by decide) (Ct.imp V (fun r h56 n57 V => ?_))
          obtain ⟨v58, rfl, V⟩ := V
          show Blk g M_X7_readRule post 142 [(4, .int v45), (3, .int (nI (f42 (f39 o34)))), (2, .int (nI 0)), (1, .int (nI v13)), (0, .ref x0)] [.int (nI v58)] h56 n57 0 0
          obtain ⟨c, V⟩ := V
          refine r_if_neN (tgt := 147) dX7_readRule_142 (by decide) c (fun c => ?_) (fun c => ?_)
          · have V := V.1 c
            refine r_aload_n 4 dX7_readRule_147 rfl rfl ?_
            refine r_dup dX7_readRule_148 rfl ?_
            obtain ⟨o60, o61, o62, o63, o64, o65, o66, o67, o68, q59, V⟩ := V
            refine r_getf (ci := 8) (kf := 6) (T := TX7) rfl in_X7 (by decide) wF_X7_48 dX7_readRule_149 q59 rfl ?_
            refine r_iconst (v := (nI 1)) dX7_readRule_152 rfl ?_
            refine r_iaddN dX7_readRule_153 ?_
            refine r_putf (ci := 8) (kf := 6) (T := TX7) rfl in_X7 tyX7_ok nmX7 (by decide) wF_X7_48 rfl (tyX7_ok 6 (by decide)) dX7_readRule_154 q59 (Nat.le_of_ble_eq_true rfl) rfl rfl ?_
            show Blk g M_X7_readRule post 157 [(4, .int v45), (3, .int (nI (f42 (f39 o34)))), (2, .int (nI 0)), (1, .int (nI v13)), (0, .ref x0)] [] (xup h56 x0 (xo 8 [.int (nI o60), .ref o61, .int (nI o62), .ref o63, .ref o64, .int (nI o65), .int (nI (o66 + 1)), .ref o67, .ref o68])) n57 0 0
            refine r_aload_n 4 dX7_readRule_157 rfl rfl ?_
            refine r_iload_n 3 dX7_readRule_158 rfl rfl ?_
            refine r_iload_n 2 dX7_readRule_159 rfl rfl ?_
            refine r_iload_n 1 dX7_readRule_160 rfl rfl ?_
            refine r_iload 0 dX7_readRule_161 rfl ?_
            refine r_callV (M2 := M_X7_readValue) (ci := 8) (n := 4) (As := [.int (nI v13), .int (nI 0), .int (nI (f42 (f39 o34))), .int v45]) rfl (wl5 wM_X7_88 wi_X7_readValue wS_X7_readValue wI_StateShares_Rules wc_X7_readValue) (by decide +kernel) (by decide) rfl rfl (Nat.le_of_ble_eq_true rfl) dX7_readRule_163 (xup_s _ _ _) (by decide) (by decide) (Ct.imp V (fun r h69 n70 V => ?_))
            obtain ⟨v71, rfl, V⟩ := V
            show Blk g M_X7_readRule post 166 [(4, .int v45), (3, .int (nI (f42 (f39 o34)))), (2, .int (nI 0)), (1, .int (nI v13)), (0, .ref x0)] [.int (nI v71)] h69 n70 0 0
            obtain ⟨c, V⟩ := V
            exact r_zret (ty := .boolean) dX7_readRule_166 rfl (n_bool c) (by decide) (by decide) V
          · have V := V.2 c
            refine r_iconst (v := (nI 0)) dX7_readRule_145 rfl ?_
            exact r_zret (ty := .boolean) dX7_readRule_146 rfl rfl (by decide) (by decide) V
        · have V := V.2 c
          refine r_iconst (v := (nI 0)) dX7_readRule_120 rfl ?_
          exact r_zret (ty := .boolean) dX7_readRule_121 rfl rfl (by decide) (by decide) V
      · have V := V.2 c
        refine r_iconst (v := (nI 0)) dX7_readRule_77 rfl ?_
        exact r_zret (ty := .boolean) dX7_readRule_78 rfl rfl (by decide) (by decide) V
    · have V := V.2 c
      refine r_aload_n 2 dX7_readRule_40 rfl rfl ?_
      refine r_aload_n 2 dX7_readRule_41 rfl rfl ?_
      refine r_getf (ci := 8) (kf := 6) (T := TX7) rfl in_X7 (by decide) wF_X7_48 dX7_readRule_42 (xup_s _ _ _) rfl ?_
      refine r_callV (M2 := M_X7_numberAt) (ci := 8) (n := 1) (As := [.int (nI (o21 + 1))]) rfl (wl5 wM_X7_92 wi_X7_numberAt wS_X7_numberAt wI_StateShares_Rules wc_X7_numberAt) (by decide +kernel) (by decide) rfl rfl (Nat.le_of_ble_eq_true rfl) dX7_readRule_45 (xup_s _ _ _) (by decide) (by decide) (Ct.imp V (fun r h72 n73 V => ?_))
      obtain ⟨v74, rfl, V⟩ := V
      show Blk g M_X7_readRule post 48 [(2, .int (nI 0)), (1, .int (nI v13)), (0, .ref x0)] [.int v74] h72 n73 0 0
      refine r_istore_n (L' := [(2, .int v74), (1, .int (nI v13)), (0, .ref x0)]) dX7_readRule_48 rfl (by decide) rfl ?_
      refine r_iload_n 0 dX7_readRule_49 rfl rfl ?_
      refine r_iconst (v := (-1)) dX7_readRule_50 rfl ?_
      refine r_icmp_ne (tgt := 56) dX7_readRule_51 (by decide) (fun c => ?_) (fun c => ?_)
      · have V := V.1 c
        refine r_aload_n 2 dX7_readRule_56 rfl rfl ?_
        refine r_dup dX7_readRule_57 rfl ?_
        obtain ⟨o76, o77, o78, o79, o80, o81, o82, o83, o84, q75, V⟩ := V
        refine r_getf (ci := 8) (kf := 6) (T := TX7) rfl in_X7 (by decide) wF_X7_48 dX7_readRule_58 q75 rfl ?_
        refine r_iconst (v := (nI 1)) dX7_readRule_61 rfl ?_
        refine r_iaddN dX7_readRule_62 ?_
        refine r_putf (ci := 8) (kf := 6) (T := TX7) rfl in_X7 tyX7_ok nmX7 (by decide) wF_X7_48 rfl (tyX7_ok 6 (by decide)) dX7_readRule_63 q75 (Nat.le_of_ble_eq_true rfl) rfl rfl ?_
        show Blk g M_X7_readRule post 66 [(2, .int v74), (1, .int (nI v13)), (0, .ref x0)] [] (xup h72 x0 (xo 8 [.int (nI o76), .ref o77, .int (nI o78), .ref o79, .ref o80, .int (nI o81), .int (nI (o82 + 1)), .ref o83, .ref o84])) n73 0 0
        refine r_aload_n 2 dX7_readRule_66 rfl rfl ?_
        refine r_aload_n 2 dX7_readRule_67 rfl rfl ?_
        refine r_getf (ci := 8) (kf := 6) (T := TX7) rfl in_X7 (by decide) wF_X7_48 dX7_readRule_68 (xup_s _ _ _) rfl ?_
        refine r_callV (M2 := M_X7_isComparison) (ci := 8) (n := 1) (As := [.int (nI (o82 + 1))]) rfl (wl5 wM_X7_95 wi_X7_isComparison wS_X7_isComparison wI_StateShares_Rules wc_X7_isComparison) (by decide +kernel) (by decide) rfl rfl (Nat.le_of_ble_eq_true rfl) dX7_readRule_71 (xup_s _ _ _) (by decide) (by decide) (Ct.imp V (fun r h85 n86 V => ?_))
        obtain ⟨v87, rfl, V⟩ := V
        show Blk g M_X7_readRule post 74 [(2, .int v74), (1, .int (nI v13)), (0, .ref x0)] [.int (nI v87)] h85 n86 0 0
        obtain ⟨c, V⟩ := V
        refine r_if_neN (tgt := 79) dX7_readRule_74 (by decide) c (fun c => ?_) (fun c => ?_)
        · have V := V.1 c
          refine r_aload_n 2 dX7_readRule_79 rfl rfl ?_
          obtain ⟨o89, o90, o91, o92, o93, o94, o95, o96, o97, q88, V⟩ := V
          refine r_getf (ci := 8) (kf := 1) (T := TX7) rfl in_X7 (by decide) wF_X7_13 dX7_readRule_80 q88 rfl ?_
          refine r_aload_n 2 dX7_readRule_83 rfl rfl ?_
          refine r_getf (ci := 8) (kf := 3) (T := TX7) rfl in_X7 (by decide) wF_X7_17 dX7_readRule_84 q88 rfl ?_
          refine r_aload_n 2 dX7_readRule_87 rfl rfl ?_
          refine r_getf (ci := 8) (kf := 6) (T := TX7) rfl in_X7 (by decide) wF_X7_48 dX7_readRule_88 q88 rfl ?_
          obtain ⟨N99, f100, q98, V⟩ := V
          obtain ⟨c, cN, V⟩ := V
          refine r_iald dX7_readRule_91 q98 rfl c cN ?_
          show Blk g M_X7_readRule post 92 [(2, .int v74), (1, .int (nI v13)), (0, .ref x0)] [.int (nI (f100 o95)), .ref o90] h85 n86 0 0
          obtain ⟨N102, f103, q101, V⟩ := V
          obtain ⟨c, cN, V⟩ := V
          refine r_cald dX7_readRule_92 q101 rfl c cN ?_
          show Blk g M_X7_readRule post 93 [(2, .int v74), (1, .int (nI v13)), (0, .ref x0)] [.int (nI (f103 (f100 o95)))] h85 n86 0 0
          refine r_istore_n (L' := [(3, .int (nI (f103 (f100 o95)))), (2, .int v74), (1, .int (nI v13)), (0, .ref x0)]) dX7_readRule_93 rfl (by decide) rfl ?_
          refine r_aload_n 3 dX7_readRule_94 rfl rfl ?_
          refine r_dup dX7_readRule_95 rfl ?_
          refine r_getf (ci := 8) (kf := 6) (T := TX7) rfl in_X7 (by decide) wF_X7_48 dX7_readRule_96 q88 rfl ?_
          refine r_iconst (v := (nI 1)) dX7_readRule_99 rfl ?_
          refine r_iaddN dX7_readRule_100 ?_
          refine r_putf (ci := 8) (kf := 6) (T := TX7) rfl in_X7 tyX7_ok nmX7 (by decide) wF_X7_48 rfl (tyX7_ok 6 (by decide)) dX7_readRule_101 q88 (Nat.le_of_ble_eq_true rfl) rfl rfl ?_
          show Blk g M_X7_readRule post 104 [(3, .int (nI (f103 (f100 o95)))), (2, .int v74), (1, .int (nI v13)), (0, .ref x0)] [] (xup h85 x0 (xo 8 [.int (nI o89), .ref o90, .int (nI o91), .ref o92, .ref o93, .int (nI o94), .int (nI (o95 + 1)), .ref o96, .ref o97])) n86 0 0
          refine r_aload_n 3 dX7_readRule_104 rfl rfl ?_
          refine r_aload_n 3 dX7_readRule_105 rfl rfl ?_
          refine r_getf (ci := 8) (kf := 6) (T := TX7) rfl in_X7 (by decide) wF_X7_48 dX7_readRule_106 (xup_s _ _ _) rfl ?_
          refine r_callV (M2 := M_X7_numberAt) (ci := 8) (n := 1) (As := [.int (nI (o95 + 1))]) rfl (wl5 wM_X7_92 wi_X7_numberAt wS_X7_numberAt wI_StateShares_Rules wc_X7_numberAt) (by decide +kernel) (by decide) rfl rfl (Nat.le_of_ble_eq_true rfl) dX7_readRule_109 (xup_s _ _ _) (by decide) (by decide) (Ct.imp V (fun r h104 n105 V => ?_))
          obtain ⟨v106, rfl, V⟩ := V
          show Blk g M_X7_readRule post 112 [(3, .int (nI (f103 (f100 o95)))), (2, .int v74), (1, .int (nI v13)), (0, .ref x0)] [.int v106] h104 n105 0 0
          refine r_istore (L' := [(4, .int v106), (3, .int (nI (f103 (f100 o95)))), (2, .int v74), (1, .int (nI v13)), (0, .ref x0)]) dX7_readRule_112 (by decide) rfl ?_
          refine r_iload 0 dX7_readRule_114 rfl ?_
          refine r_iconst (v := (-1)) dX7_readRule_116 rfl ?_
          refine r_icmp_ne (tgt := 122) dX7_readRule_117 (by decide) (fun c => ?_) (fun c => ?_)
          · have V := V.1 c
            refine r_aload_n 4 dX7_readRule_122 rfl rfl ?_
            refine r_dup dX7_readRule_123 rfl ?_
            obtain ⟨o108, o109, o110, o111, o112, o113, o114, o115, o116, q107, V⟩ := V
            refine r_getf (ci := 8) (kf := 6) (T := TX7) rfl in_X7 (by decide) wF_X7_48 dX7_readRule_124 q107 rfl ?_
            refine r_iconst (v := (nI 1)) dX7_readRule_127 rfl ?_
            refine r_iaddN dX7_readRule_128 ?_
            refine r_putf (ci := 8) (kf := 6) (T := TX7) rfl in_X7 tyX7_ok nmX7 (by decide) wF_X7_48 rfl (tyX7_ok 6 (by decide)) dX7_readRule_129 q107 (Nat.le_of_ble_eq_true rfl) rfl rfl ?_
            show Blk g M_X7_readRule post 132 [(4, .int v106), (3, .int (nI (f103 (f100 o95)))), (2, .int v74), (1, .int (nI v13)), (0, .ref x0)] [] (xup h104 x0 (xo 8 [.int (nI o108), .ref o109, .int (nI o110), .ref o111, .ref o112, .int (nI o113), .int (nI (o114 + 1)), .ref o115, .ref o116])) n105 0 0
            refine r_aload_n 4 dX7_readRule_132 rfl rfl ?_
            refine r_aload_n 4 dX7_readRule_133 rfl rfl ?_
            refine r_getf (ci := 8) (kf := 6) (T := TX7) rfl in_X7 (by decide) wF_X7_48 dX7_readRule_134 (xup_s _ _ _) rfl ?_
            refine r_ldcS (i := 8) (q := ("StateShares$Rules", 99, ":")) rfl rfl dX7_readRule_137 ?_
            refine r_callV (M2 := M_X7_wordIs) (ci := 8) (n := 2) (As := [.int (nI (o114 + 1)), .ref (gS g 8)]) rfl (wl5 wM_X7_81 wi_X7_wordIs wS_X7_wordIs wI_StateShares_Rules wc_X7_wordIs) (by decide +kernel) (by decide) rfl rfl (Nat.le_of_ble_eq_true rfl) dX7_readRule_139 (xup_s _ _ _) (by decide) (by decide) (Ct.imp V (fun r h117 n118 V => ?_))
            obtain ⟨v119, rfl, V⟩ := V
            show Blk g M_X7_readRule post 142 [(4, .int v106), (3, .int (nI (f103 (f100 o95)))), (2, .int v74), (1, .int (nI v13)), (0, .ref x0)] [.int (nI v119)] h117 n118 0 0
            obtain ⟨c, V⟩ := V
            refine r_if_neN (tgt := 147) dX7_readRule_142 (by decide) c (fun c => ?_) (fun c => ?_)
            · have V := V.1 c
              refine r_aload_n 4 dX7_readRule_147 rfl rfl ?_
              refine r_dup dX7_readRule_148 rfl ?_
              obtain ⟨o121, o122, o123, o124, o125, o126, o127, o128, o129, q120, V⟩ := V
              refine r_getf (ci := 8) (kf := 6) (T := TX7) rfl in_X7 (by decide) wF_X7_48 dX7_readRule_149 q120 rfl ?_
              refine r_iconst (v := (nI 1)) dX7_readRule_152 rfl ?_
              refine r_iaddN dX7_readRule_153 ?_
              refine r_putf (ci := 8) (kf := 6) (T := TX7) rfl in_X7 tyX7_ok nmX7 (by decide) wF_X7_48 rfl (tyX7_ok 6 (by decide)) dX7_readRule_154 q120 (Nat.le_of_ble_eq_true rfl) rfl rfl ?_
              show Blk g M_X7_readRule post 157 [(4, .int v106), (3, .int (nI (f103 (f100 o95)))), (2, .int v74), (1, .int (nI v13)), (0, .ref x0)] [] (xup h117 x0 (xo 8 [.int (nI o121), .ref o122, .int (nI o123), .ref o124, .ref o125, .int (nI o126), .int (nI (o127 + 1)), .ref o128, .ref o129])) n118 0 0
              refine r_aload_n 4 dX7_readRule_157 rfl rfl ?_
              refine r_iload_n 3 dX7_readRule_158 rfl rfl ?_
              refine r_iload_n 2 dX7_readRule_159 rfl rfl ?_
              refine r_iload_n 1 dX7_readRule_160 rfl rfl ?_
              refine r_iload 0 dX7_readRule_161 rfl ?_
              refine r_callV (M2 := M_X7_readValue) (ci := 8) (n := 4) (As := [.int (nI v13), .int v74, .int (nI (f103 (f100 o95))), .int v106]) rfl (wl5 wM_X7_88 wi_X7_readValue wS_X7_readValue wI_StateShares_Rules wc_X7_readValue) (by decide +kernel) (by decide) rfl rfl (Nat.le_of_ble_eq_true rfl) dX7_readRule_163 (xup_s _ _ _) (by decide) (by decide) (Ct.imp V (fun r h130 n131 V => ?_))
              obtain ⟨v132, rfl, V⟩ := V
              show Blk g M_X7_readRule post 166 [(4, .int v106), (3, .int (nI (f103 (f100 o95)))), (2, .int v74), (1, .int (nI v13)), (0, .ref x0)] [.int (nI v132)] h130 n131 0 0
              obtain ⟨c, V⟩ := V
              exact r_zret (ty := .boolean) dX7_readRule_166 rfl (n_bool c) (by decide) (by decide) V
            · have V := V.2 c
              refine r_iconst (v := (nI 0)) dX7_readRule_145 rfl ?_
              exact r_zret (ty := .boolean) dX7_readRule_146 rfl rfl (by decide) (by decide) V
          · have V := V.2 c
            refine r_iconst (v := (nI 0)) dX7_readRule_120 rfl ?_
            exact r_zret (ty := .boolean) dX7_readRule_121 rfl rfl (by decide) (by decide) V
        · have V := V.2 c
          refine r_iconst (v := (nI 0)) dX7_readRule_77 rfl ?_
          exact r_zret (ty := .boolean) dX7_readRule_78 rfl rfl (by decide) (by decide) V
      · have V := V.2 c
        refine r_iconst (v := (nI 0)) dX7_readRule_54 rfl ?_
        exact r_zret (ty := .boolean) dX7_readRule_55 rfl rfl (by decide) (by decide) V
  · have V := V.2 c
    refine r_aload_n 1 dX7_readRule_13 rfl rfl ?_
    refine r_iconst (v := (nI 0)) dX7_readRule_14 rfl ?_
    refine r_iconst (v := (nI 0)) dX7_readRule_15 rfl ?_
    refine r_bipush (v := (nI 61)) dX7_readRule_16 rfl ?_
    refine r_iconst (v := (nI 0)) dX7_readRule_18 rfl ?_
    obtain ⟨o136, o137, o138, o139, o140, o141, o142, o143, o144, q135, V⟩ := V
    refine r_callV (M2 := M_X7_readValue) (ci := 8) (n := 4) (As := [.int (nI 0), .int (nI 0), .int (nI 61), .int (nI 0)]) rfl (wl5 wM_X7_88 wi_X7_readValue wS_X7_readValue wI_StateShares_Rules wc_X7_readValue) (by decide +kernel) (by decide) rfl rfl (Nat.le_of_ble_eq_true rfl) dX7_readRule_19 q135 (by decide) (by decide) (Ct.imp V (fun r h133 n134 V => ?_))
    obtain ⟨v145, rfl, V⟩ := V
    show Blk g M_X7_readRule post 22 [(1, .int (nI v13)), (0, .ref x0)] [.int (nI v145)] h133 n134 0 0
    obtain ⟨c, V⟩ := V
    exact r_zret (ty := .boolean) dX7_readRule_22 rfl (n_bool c) (by decide) (by decide) V
set_option maxRecDepth 20000 in
theorem v_X7_readValue_0 {g : xG} {post : xPost} {h : xHp} {nx : Nat} {x0 : Nat} {x1 : Nat} {x2 : Nat} {x3 : Nat} {x4 : Nat} (V : (∃ (o2 : Nat) (o3 : Nat) (o4 : Nat) (o5 : Nat) (o6 : Nat) (o7 : Nat) (o8 : Nat) (o9 : Nat) (o10 : Nat), h x0 = some (xo 8 [.int (nI o2), .ref o3, .int (nI o4), .ref o5, .ref o6, .int (nI o7), .int (nI o8), .ref o9, .ref o10]) ∧ (Ct g M_X7_valueAt [.ref x0, .int (nI o8)] h nx (fun r h11 n12 => ∃ v13 : Int32, r = some (.int v13) ∧ ((¬ v13 = (-1) → (∃ (o15 : Nat) (o16 : Nat) (o17 : Nat) (o18 : Nat) (o19 : Nat) (o20 : Nat) (o21 : Nat) (o22 : Nat) (o23 : Nat), h11 x0 = some (xo 8 [.int (nI o15), .ref o16, .int (nI o17), .ref o18, .ref o19, .int (nI o20), .int (nI o21), .ref o22, .ref o23]) ∧ (∃ (o27 : Nat) (o28 : Nat) (o29 : Nat) (o30 : Nat) (o31 : Nat) (o32 : Nat), h11 o23 = some (xo 7 [.ref o27, .ref o28, .ref o29, .ref o30, .ref o31, .int (nI o32)]) ∧ Ct g M_X6_add [.ref o23, .int (nI x1), .int (nI x2), .int (nI x3), .int (nI x4), .int v13] (xup h11 x0 (xo 8 [.int (nI o15), .ref o16, .int (nI o17), .ref o18, .ref o19, .int (nI o20), .int (nI (o21 + 1)), .ref o22, .ref o23])) n12 (fun r h24 n25 => r = none ∧ (post (some (.int (nI 1))) h24 n25))))) ∧ (v13 = (-1) → (post (some (.int (nI 0))) h11 n12))))))) : Blk g M_X7_readValue post 0 [(0, .ref x0), (1, .int (nI x1)), (2, .int (nI x2)), (3, .int (nI x3)), (4, .int (nI x4))] [] h nx 0 0 := by
  refine r_aload_n 0 dX7_readValue_0 rfl rfl ?_
  refine r_aload_n 0 dX7_readValue_1 rfl rfl ?_
  obtain ⟨o2, o3, o4, o5, o6, o7, o8, o9, o10, q1, V⟩ := V
  refine r_getf (ci := 8) (kf := 6) (T := TX7) rfl in_X7 (by decide) wF_X7_48 dX7_readValue_2 q1 rfl ?_
  refine r_callV (M2 := M_X7_valueAt) (ci := 8) (n := 1) (As := [.int (nI o8)]) rfl (wl5 wM_X7_101 wi_X7_valueAt wS_X7_valueAt wI_StateShares_Rules wc_X7_valueAt) (by decide +kernel) (by decide) rfl rfl (Nat.le_of_ble_eq_true rfl) dX7_readValue_5 q1 (by decide) (by decide) (Ct.imp V (fun r h11 n12 V => ?_))
  obtain ⟨v13, rfl, V⟩ := V
  show Blk g M_X7_readValue post 8 [(0, .ref x0), (1, .int (nI x1)), (2, .int (nI x2)), (3, .int (nI x3)), (4, .int (nI x4))] [.int v13] h11 n12 0 0
  refine r_istore (L' := [(5, .int v13), (0, .ref x0), (1, .int (nI x1)), (2, .int (nI x2)), (3, .int (nI x3)), (4, .int (nI x4))]) dX7_readValue_8 (by decide) rfl ?_
  refine r_iload 0 dX7_readValue_10 rfl ?_
  refine r_iconst (v := (-1)) dX7_readValue_12 rfl ?_
  refine r_icmp_ne (tgt := 18) dX7_readValue_13 (by decide) (fun c => ?_) (fun c => ?_)
  · have V := V.1 c
    refine r_aload_n 1 dX7_readValue_18 rfl rfl ?_
    refine r_dup dX7_readValue_19 rfl ?_
    obtain ⟨o15, o16, o17, o18, o19, o20, o21, o22, o23, q14, V⟩ := V
    refine r_getf (ci := 8) (kf := 6) (T := TX7) rfl in_X7 (by decide) wF_X7_48 dX7_readValue_20 q14 rfl ?_
    refine r_iconst (v := (nI 1)) dX7_readValue_23 rfl ?_
    refine r_iaddN dX7_readValue_24 ?_
    refine r_putf (ci := 8) (kf := 6) (T := TX7) rfl in_X7 tyX7_ok nmX7 (by decide) wF_X7_48 rfl (tyX7_ok 6 (by decide)) dX7_readValue_25 q14 (Nat.le_of_ble_eq_true rfl) rfl rfl ?_
    show Blk g M_X7_readValue post 28 [(5, .int v13), (0, .ref x0), (1, .int (nI x1)), (2, .int (nI x2)), (3, .int (nI x3)), (4, .int (nI x4))] [] (xup h11 x0 (xo 8 [.int (nI o15), .ref o16, .int (nI o17), .ref o18, .ref o19, .int (nI o20), .int (nI (o21 + 1)), .ref o22, .ref o23])) n12 0 0
    refine r_aload_n 1 dX7_readValue_28 rfl rfl ?_
    refine r_getf (ci := 8) (kf := 8) (T := TX7) rfl in_X7 (by decide) wF_X7_31 dX7_readValue_29 (xup_s _ _ _) rfl ?_
    refine r_iload_n 2 dX7_readValue_32 rfl rfl ?_
    refine r_iload_n 3 dX7_readValue_33 rfl rfl ?_
    refine r_iload_n 4 dX7_readValue_34 rfl rfl ?_
    refine r_iload 5 dX7_readValue_35 rfl ?_
    refine r_iload 0 dX7_readValue_37 rfl ?_
    obtain ⟨o27, o28, o29, o30, o31, o32, q26, V⟩ := V
    have q33 : (xup h11 x0 (xo 8 [.int (nI o15), .ref o16, .int (nI o17), .ref o18, .ref o19, .int (nI o20), .int (nI (o21 + 1)), .ref o22, .ref o23])) o23 = some (xo 7 [.ref o27, .ref o28, .ref o29, .ref o30, .ref o31, .int (nI o32)]) := (xup_n (x_apart q26 q14 (x_oo (by decide)))).trans q26
    refine r_callV (M2 := M_X6_add) (ci := 7) (n := 5) (As := [.int (nI x1), .int (nI x2), .int (nI x3), .int (nI x4), .int v13]) rfl (wl5 wM_X7_34 wi_X6_add wS_X6_add wI_StateShares_RuleList wc_X6_add) (by decide +kernel) (by decide) rfl rfl (Nat.le_of_ble_eq_true rfl) dX7_readValue_39 q33 (by decide) (by decide) (Ct.imp V (fun r h24 n25 V => ?_))
    obtain ⟨rfl, V⟩ := V
    show Blk g M_X7_readValue post 42 [(5, .int v13), (0, .ref x0), (1, .int (nI x1)), (2, .int (nI x2)), (3, .int (nI x3)), (4, .int (nI x4))] [] h24 n25 0 0
    refine r_iconst (v := (nI 1)) dX7_readValue_42 rfl ?_
    exact r_zret (ty := .boolean) dX7_readValue_43 rfl rfl (by decide) (by decide) V
  · have V := V.2 c
    refine r_iconst (v := (nI 0)) dX7_readValue_16 rfl ?_
    exact r_zret (ty := .boolean) dX7_readValue_17 rfl rfl (by decide) (by decide) V
set_option maxRecDepth 20000 in
theorem v_X7_amountAt_0 {g : xG} {post : xPost} {h : xHp} {nx : Nat} {x0 : Nat} {x1 : Nat} (V : (∃ (o4 : Nat) (o5 : Nat) (o6 : Nat) (o7 : Nat) (o8 : Nat) (o9 : Nat) (o10 : Nat) (o11 : Nat) (o12 : Nat), h x0 = some (xo 8 [.int (nI o4), .ref o5, .int (nI o6), .ref o7, .ref o8, .int (nI o9), .int (nI o10), .ref o11, .ref o12]) ∧ Ct g M_X7_wordIs [.ref x0, .int (nI x1), .ref (gS g 0)] h nx (fun r h1 n2 => ∃ v13 : Nat, r = some (.int (nI v13)) ∧ (v13 < 2 ^ 31 ∧ ((v13 = 0 → (∃ (o17 : Nat) (o18 : Nat) (o19 : Nat) (o20 : Nat) (o21 : Nat) (o22 : Nat) (o23 : Nat) (o24 : Nat) (o25 : Nat), h1 x0 = some (xo 8 [.int (nI o17), .ref o18, .int (nI o19), .ref o20, .ref o21, .int (nI o22), .int (nI o23), .ref o24, .ref o25]) ∧ Ct g M_X7_wordIs [.ref x0, .int (nI x1), .ref (gS g 1)] h1 n2 (fun r h14 n15 => ∃ v26 : Nat, r = some (.int (nI v26)) ∧ (v26 < 2 ^ 31 ∧ ((v26 = 0 → (∃ (o30 : Nat) (o31 : Nat) (o32 : Nat) (o33 : Nat) (o34 : Nat) (o35 : Nat) (o36 : Nat) (o37 : Nat) (o38 : Nat), h14 x0 = some (xo 8 [.int (nI o30), .ref o31, .int (nI o32), .ref o33, .ref o34, .int (nI o35), .int (nI o36), .ref o37, .ref o38]) ∧ Ct g M_X7_wordIs [.ref x0, .int (nI x1), .ref (gS g 2)] h14 n15 (fun r h27 n28 => ∃ v39 : Nat, r = some (.int (nI v39)) ∧ (v39 < 2 ^ 31 ∧ ((v39 = 0 → (∃ (o43 : Nat) (o44 : Nat) (o45 : Nat) (o46 : Nat) (o47 : Nat) (o48 : Nat) (o49 : Nat) (o50 : Nat) (o51 : Nat), h27 x0 = some (xo 8 [.int (nI o43), .ref o44, .int (nI o45), .ref o46, .ref o47, .int (nI o48), .int (nI o49), .ref o50, .ref o51]) ∧ Ct g M_X7_wordIs [.ref x0, .int (nI x1), .ref (gS g 6)] h27 n28 (fun r h40 n41 => ∃ v52 : Nat, r = some (.int (nI v52)) ∧ (v52 < 2 ^ 31 ∧ ((v52 = 0 → (post (some (.int (nI 0))) h40 n41)) ∧ (¬ v52 = 0 → (∃ (o56 : Nat) (o57 : Nat) (o58 : Nat) (o59 : Nat) (o60 : Nat) (o61 : Nat) (o62 : Nat) (o63 : Nat) (o64 : Nat), h40 x0 = some (xo 8 [.int (nI o56), .ref o57, .int (nI o58), .ref o59, .ref o60, .int (nI o61), .int (nI o62), .ref o63, .ref o64]) ∧ Ct g M_X7_isComparison [.ref x0, .int (nI (x1 + 1))] h40 n41 (fun r h53 n54 => ∃ v65 : Nat, r = some (.int (nI v65)) ∧ (v65 < 2 ^ 31 ∧ ((v65 = 0 → (post (some (.int (nI 0))) h53 n54)) ∧ (¬ v65 = 0 → (post (some (.int (nI 3))) h53 n54)))))))))))) ∧ (¬ v39 = 0 → (∃ (o69 : Nat) (o70 : Nat) (o71 : Nat) (o72 : Nat) (o73 : Nat) (o74 : Nat) (o75 : Nat) (o76 : Nat) (o77 : Nat), h27 x0 = some (xo 8 [.int (nI o69), .ref o70, .int (nI o71), .ref o72, .ref o73, .int (nI o74), .int (nI o75), .ref o76, .ref o77]) ∧ Ct g M_X7_isComparison [.ref x0, .int (nI (x1 + 1))] h27 n28 (fun r h66 n67 => ∃ v78 : Nat, r = some (.int (nI v78)) ∧ (v78 < 2 ^ 31 ∧ ((v78 = 0 → (∃ (o82 : Nat) (o83 : Nat) (o84 : Nat) (o85 : Nat) (o86 : Nat) (o87 : Nat) (o88 : Nat) (o89 : Nat) (o90 : Nat), h66 x0 = some (xo 8 [.int (nI o82), .ref o83, .int (nI o84), .ref o85, .ref o86, .int (nI o87), .int (nI o88), .ref o89, .ref o90]) ∧ Ct g M_X7_wordIs [.ref x0, .int (nI x1), .ref (gS g 6)] h66 n67 (fun r h79 n80 => ∃ v91 : Nat, r = some (.int (nI v91)) ∧ (v91 < 2 ^ 31 ∧ ((v91 = 0 → (post (some (.int (nI 0))) h79 n80)) ∧ (¬ v91 = 0 → (∃ (o95 : Nat) (o96 : Nat) (o97 : Nat) (o98 : Nat) (o99 : Nat) (o100 : Nat) (o101 : Nat) (o102 : Nat) (o103 : Nat), h79 x0 = some (xo 8 [.int (nI o95), .ref o96, .int (nI o97), .ref o98, .ref o99, .int (nI o100), .int (nI o101), .ref o102, .ref o103]) ∧ Ct g M_X7_isComparison [.ref x0, .int (nI (x1 + 1))] h79 n80 (fun r h92 n93 => ∃ v104 : Nat, r = some (.int (nI v104)) ∧ (v104 < 2 ^ 31 ∧ ((v104 = 0 → (post (some (.int (nI 0))) h92 n93)) ∧ (¬ v104 = 0 → (post (some (.int (nI 3))) h92 n93)))))))))))) ∧ (¬ v78 = 0 → (post (some (.int (nI 2))) h66 n67)))))))))))) ∧ (¬ v26 = 0 → (post (some (.int (nI 4))) h14 n15))))))) ∧ (¬ v13 = 0 → (post (some (.int (nI 1))) h1 n2))))))) : Blk g M_X7_amountAt post 0 [(0, .ref x0), (1, .int (nI x1))] [] h nx 0 0 := by
  refine r_aload_n 0 dX7_amountAt_0 rfl rfl ?_
  refine r_iload_n 1 dX7_amountAt_1 rfl rfl ?_
  refine r_ldcS (i := 0) (q := ("StateShares$Rules", 104, "n")) rfl rfl dX7_amountAt_2 ?_
  obtain ⟨o4, o5, o6, o7, o8, o9, o10, o11, o12, q3, V⟩ := V
  refine r_callV (M2 := M_X7_wordIs) (ci := 8) (n := 2) (As := [.int (nI x1), .ref (gS g 0)]) rfl (wl5 wM_X7_81 wi_X7_wordIs wS_X7_wordIs wI_StateShares_Rules wc_X7_wordIs) (by decide +kernel) (by decide) rfl rfl (Nat.le_of_ble_eq_true rfl) dX7_amountAt_4 q3 (by decide) (by decide) (Ct.imp V (fun r h1 n2 V => ?_))
  obtain ⟨v13, rfl, V⟩ := V
  show Blk g M_X7_amountAt post 7 [(0, .ref x0), (1, .int (nI x1))] [.int (nI v13)] h1 n2 0 0
  obtain ⟨c, V⟩ := V
  refine r_if_eqN (tgt := 12) dX7_amountAt_7 (by decide) c (fun c => ?_) (fun c => ?_)
  · have V := V.1 c
    refine r_aload_n 0 dX7_amountAt_12 rfl rfl ?_
    refine r_iload_n 1 dX7_amountAt_13 rfl rfl ?_
    refine r_ldcS (i := 1) (q := ("StateShares$Rules", 105, "#")) rfl rfl dX7_amountAt_14 ?_
    obtain ⟨o17, o18, o19, o20, o21, o22, o23, o24, o25, q16, V⟩ := V
    refine r_callV (M2 := M_X7_wordIs) (ci := 8) (n := 2) (As := [.int (nI x1), .ref (gS g 1)]) rfl (wl5 wM_X7_81 wi_X7_wordIs wS_X7_wordIs wI_StateShares_Rules wc_X7_wordIs) (by decide +kernel) (by decide) rfl rfl (Nat.le_of_ble_eq_true rfl) dX7_amountAt_16 q16 (by decide) (by decide) (Ct.imp V (fun r h14 n15 V => ?_))
    obtain ⟨v26, rfl, V⟩ := V
    show Blk g M_X7_amountAt post 19 [(0, .ref x0), (1, .int (nI x1))] [.int (nI v26)] h14 n15 0 0
    obtain ⟨c, V⟩ := V
    refine r_if_eqN (tgt := 24) dX7_amountAt_19 (by decide) c (fun c => ?_) (fun c => ?_)
    · have V := V.1 c
      refine r_aload_n 0 dX7_amountAt_24 rfl rfl ?_
      refine r_iload_n 1 dX7_amountAt_25 rfl rfl ?_
      refine r_ldcS (i := 2) (q := ("StateShares$Rules", 107, "max")) rfl rfl dX7_amountAt_26 ?_
      obtain ⟨o30, o31, o32, o33, o34, o35, o36, o37, o38, q29, V⟩ := V
      refine r_callV (M2 := M_X7_wordIs) (ci := 8) (n := 2) (As := [.int (nI x1), .ref (gS g 2)]) rfl (wl5 wM_X7_81 wi_X7_wordIs wS_X7_wordIs wI_StateShares_Rules wc_X7_wordIs) (by decide +kernel) (by decide) rfl rfl (Nat.le_of_ble_eq_true rfl) dX7_amountAt_28 q29 (by decide) (by decide) (Ct.imp V (fun r h27 n28 V => ?_))
      obtain ⟨v39, rfl, V⟩ := V
      show Blk g M_X7_amountAt post 31 [(0, .ref x0), (1, .int (nI x1))] [.int (nI v39)] h27 n28 0 0
      obtain ⟨c, V⟩ := V
      refine r_if_eqN (tgt := 46) dX7_amountAt_31 (by decide) c (fun c => ?_) (fun c => ?_)
      · have V := V.1 c
        refine r_aload_n 0 dX7_amountAt_46 rfl rfl ?_
        refine r_iload_n 1 dX7_amountAt_47 rfl rfl ?_
        refine r_ldcS (i := 6) (q := ("StateShares$Rules", 109, "min")) rfl rfl dX7_amountAt_48 ?_
        obtain ⟨o43, o44, o45, o46, o47, o48, o49, o50, o51, q42, V⟩ := V
        refine r_callV (M2 := M_X7_wordIs) (ci := 8) (n := 2) (As := [.int (nI x1), .ref (gS g 6)]) rfl (wl5 wM_X7_81 wi_X7_wordIs wS_X7_wordIs wI_StateShares_Rules wc_X7_wordIs) (by decide +kernel) (by decide) rfl rfl (Nat.le_of_ble_eq_true rfl) dX7_amountAt_50 q42 (by decide) (by decide) (Ct.imp V (fun r h40 n41 V => ?_))
        obtain ⟨v52, rfl, V⟩ := V
        show Blk g M_X7_amountAt post 53 [(0, .ref x0), (1, .int (nI x1))] [.int (nI v52)] h40 n41 0 0
        obtain ⟨c, V⟩ := V
        refine r_if_eqN (tgt := 68) dX7_amountAt_53 (by decide) c (fun c => ?_) (fun c => ?_)
        · have V := V.1 c
          refine r_iconst (v := (nI 0)) dX7_amountAt_68 rfl ?_
          exact r_iret dX7_amountAt_69 rfl (by decide) (by decide) V
        · have V := V.2 c
          refine r_aload_n 0 dX7_amountAt_56 rfl rfl ?_
          refine r_iload_n 1 dX7_amountAt_57 rfl rfl ?_
          refine r_iconst (v := (nI 1)) dX7_amountAt_58 rfl ?_
          refine r_iaddN dX7_amountAt_59 ?_
          obtain ⟨o56, o57, o58, o59, o60, o61, o62, o63, o64, q55, V⟩ := V
          refine r_callV (M2 := M_X7_isComparison) (ci := 8) (n := 1) (As := [.int (nI (x1 + 1))]) rfl (wl5 wM_X7_95 wi_X7_isComparison wS_X7_isComparison wI_StateShares_Rules wc_X7_isComparison) (by decide +kernel) (by decide) rfl rfl (Nat.le_of_ble_eq_true rfl) dX7_amountAt_60 q55 (by decide) (by decide) (Ct.imp V (fun r h53 n54 V => ?_))
          obtain ⟨v65, rfl, V⟩ := V
          show Blk g M_X7_amountAt post 63 [(0, .ref x0), (1, .int (nI x1))] [.int (nI v65)] h53 n54 0 0
          obtain ⟨c, V⟩ := V
          refine r_if_eqN (tgt := 68) dX7_amountAt_63 (by decide) c (fun c => ?_) (fun c => ?_)
          · have V := V.1 c
            refine r_iconst (v := (nI 0)) dX7_amountAt_68 rfl ?_
            exact r_iret dX7_amountAt_69 rfl (by decide) (by decide) V
          · have V := V.2 c
            refine r_iconst (v := (nI 3)) dX7_amountAt_66 rfl ?_
            exact r_iret dX7_amountAt_67 rfl (by decide) (by decide) V
      · have V := V.2 c
        refine r_aload_n 0 dX7_amountAt_34 rfl rfl ?_
        refine r_iload_n 1 dX7_amountAt_35 rfl rfl ?_
        refine r_iconst (v := (nI 1)) dX7_amountAt_36 rfl ?_
        refine r_iaddN dX7_amountAt_37 ?_
        obtain ⟨o69, o70, o71, o72, o73, o74, o75, o76, o77, q68, V⟩ := V
        refine r_callV (M2 := M_X7_isComparison) (ci := 8) (n := 1) (As := [.int (nI (x1 + 1))]) rfl (wl5 wM_X7_95 wi_X7_isComparison wS_X7_isComparison wI_StateShares_Rules wc_X7_isComparison) (by decide +kernel) (by decide) rfl rfl (Nat.le_of_ble_eq_true rfl) dX7_amountAt_38 q68 (by decide) (by decide) (Ct.imp V (fun r h66 n67 V => ?_))
        obtain ⟨v78, rfl, V⟩ := V
        show Blk g M_X7_amountAt post 41 [(0, .ref x0), (1, .int (nI x1))] [.int (nI v78)] h66 n67 0 0
        obtain ⟨c, V⟩ := V
        refine r_if_eqN (tgt := 46) dX7_amountAt_41 (by decide) c (fun c => ?_) (fun c => ?_)
        · have V := V.1 c
          refine r_aload_n 0 dX7_amountAt_46 rfl rfl ?_
          refine r_iload_n 1 dX7_amountAt_47 rfl rfl ?_
          refine r_ldcS (i := 6) (q := ("StateShares$Rules", 109, "min")) rfl rfl dX7_amountAt_48 ?_
          obtain ⟨o82, o83, o84, o85, o86, o87, o88, o89, o90, q81, V⟩ := V
          refine r_callV (M2 := M_X7_wordIs) (ci := 8) (n := 2) (As := [.int (nI x1), .ref (gS g 6)]) rfl (wl5 wM_X7_81 wi_X7_wordIs wS_X7_wordIs wI_StateShares_Rules wc_X7_wordIs) (by decide +kernel) (by decide) rfl rfl (Nat.le_of_ble_eq_true rfl) dX7_amountAt_50 q81 (by decide) (by decide) (Ct.imp V (fun r h79 n80 V => ?_))
          obtain ⟨v91, rfl, V⟩ := V
          show Blk g M_X7_amountAt post 53 [(0, .ref x0), (1, .int (nI x1))] [.int (nI v91)] h79 n80 0 0
          obtain ⟨c, V⟩ := V
          refine r_if_eqN (tgt := 68) dX7_amountAt_53 (by decide) c (fun c => ?_) (fun c => ?_)
          · have V := V.1 c
            refine r_iconst (v := (nI 0)) dX7_amountAt_68 rfl ?_
            exact r_iret dX7_amountAt_69 rfl (by decide) (by decide) V
          · have V := V.2 c
            refine r_aload_n 0 dX7_amountAt_56 rfl rfl ?_
            refine r_iload_n 1 dX7_amountAt_57 rfl rfl ?_
            refine r_iconst (v := (nI 1)) dX7_amountAt_58 rfl ?_
            refine r_iaddN dX7_amountAt_59 ?_
            obtain ⟨o95, o96, o97, o98, o99, o100, o101, o102, o103, q94, V⟩ := V
            refine r_callV (M2 := M_X7_isComparison) (ci := 8) (n := 1) (As := [.int (nI (x1 + 1))]) rfl (wl5 wM_X7_95 wi_X7_isComparison wS_X7_isComparison wI_StateShares_Rules wc_X7_isComparison) (by decide +kernel) (by decide) rfl rfl (Nat.le_of_ble_eq_true rfl) dX7_amountAt_60 q94 (by decide) (by decide) (Ct.imp V (fun r h92 n93 V => ?_))
            obtain ⟨v104, rfl, V⟩ := V
            show Blk g M_X7_amountAt post 63 [(0, .ref x0), (1, .int (nI x1))] [.int (nI v104)] h92 n93 0 0
            obtain ⟨c, V⟩ := V
            refine r_if_eqN (tgt := 68) dX7_amountAt_63 (by decide) c (fun c => ?_) (fun c => ?_)
            · have V := V.1 c
              refine r_iconst (v := (nI 0)) dX7_amountAt_68 rfl ?_
              exact r_iret dX7_amountAt_69 rfl (by decide) (by decide) V
            · have V := V.2 c
              refine r_iconst (v := (nI 3)) dX7_amountAt_66 rfl ?_
              exact r_iret dX7_amountAt_67 rfl (by decide) (by decide) V
        · have V := V.2 c
          refine r_iconst (v := (nI 2)) dX7_amountAt_44 rfl ?_
          exact r_iret dX7_amountAt_45 rfl (by decide) (by decide) V
    · have V := V.2 c
      refine r_iconst (v := (nI 4)) dX7_amountAt_22 rfl ?_
      exact r_iret dX7_amountAt_23 rfl (by decide) (by decide) V
  · have V := V.2 c
    refine r_iconst (v := (nI 1)) dX7_amountAt_10 rfl ?_
    exact r_iret dX7_amountAt_11 rfl (by decide) (by decide) V
set_option maxRecDepth 20000 in
theorem v_X7_valueAt_0 {g : xG} {post : xPost} {h : xHp} {nx : Nat} {x0 : Nat} {x1 : Nat} (V : (∃ (o4 : Nat) (o5 : Nat) (o6 : Nat) (o7 : Nat) (o8 : Nat) (o9 : Nat) (o10 : Nat) (o11 : Nat) (o12 : Nat), h x0 = some (xo 8 [.int (nI o4), .ref o5, .int (nI o6), .ref o7, .ref o8, .int (nI o9), .int (nI o10), .ref o11, .ref o12]) ∧ Ct g M_X7_wordIs [.ref x0, .int (nI x1), .ref (gS g 2)] h nx (fun r h1 n2 => ∃ v13 : Nat, r = some (.int (nI v13)) ∧ (v13 < 2 ^ 31 ∧ ((v13 = 0 → (∃ (o17 : Nat) (o18 : Nat) (o19 : Nat) (o20 : Nat) (o21 : Nat) (o22 : Nat) (o23 : Nat) (o24 : Nat) (o25 : Nat), h1 x0 = some (xo 8 [.int (nI o17), .ref o18, .int (nI o19), .ref o20, .ref o21, .int (nI o22), .int (nI o23), .ref o24, .ref o25]) ∧ Ct g M_X7_wordIs [.ref x0, .int (nI x1), .ref (gS g 6)] h1 n2 (fun r h14 n15 => ∃ v26 : Nat, r = some (.int (nI v26)) ∧ (v26 < 2 ^ 31 ∧ ((v26 = 0 → (∃ (o30 : Nat) (o31 : Nat) (o32 : Nat) (o33 : Nat) (o34 : Nat) (o35 : Nat) (o36 : Nat) (o37 : Nat) (o38 : Nat), h14 x0 = some (xo 8 [.int (nI o30), .ref o31, .int (nI o32), .ref o33, .ref o34, .int (nI o35), .int (nI o36), .ref o37, .ref o38]) ∧ Ct g M_X7_wordIs [.ref x0, .int (nI x1), .ref (gS g 7)] h14 n15 (fun r h27 n28 => ∃ v39 : Nat, r = some (.int (nI v39)) ∧ (v39 < 2 ^ 31 ∧ ((v39 = 0 → (∃ (o43 : Nat) (o44 : Nat) (o45 : Nat) (o46 : Nat) (o47 : Nat) (o48 : Nat) (o49 : Nat) (o50 : Nat) (o51 : Nat), h27 x0 = some (xo 8 [.int (nI o43), .ref o44, .int (nI o45), .ref o46, .ref o47, .int (nI o48), .int (nI o49), .ref o50, .ref o51]) ∧ Ct g M_X7_numberAt [.ref x0, .int (nI x1)] h27 n28 (fun r h40 n41 => ∃ v52 : Int32, r = some (.int v52) ∧ (∃ (o54 : Nat) (o55 : Nat) (o56 : Nat) (o57 : Nat) (o58 : Nat) (o59 : Nat) (o60 : Nat) (o61 : Nat) (o62 : Nat), h40 x0 = some (xo 8 [.int (nI o54), .ref o55, .int (nI o56), .ref o57, .ref o58, .int (nI o59), .int (nI o60), .ref o61, .ref o62]) ∧ (((nI o54) ≤ v52 → (post (some (.int (-1))) h40 n41)) ∧ (¬ (nI o54) ≤ v52 → (post (some (.int v52)) h40 n41))))))) ∧ (¬ v39 = 0 → (post (some (.int (nI 1002))) h27 n28))))))) ∧ (¬ v26 = 0 → (post (some (.int (nI 1001))) h14 n15))))))) ∧ (¬ v13 = 0 → (post (some (.int (nI 1000))) h1 n2))))))) : Blk g M_X7_valueAt post 0 [(0, .ref x0), (1, .int (nI x1))] [] h nx 0 0 := by
  refine r_aload_n 0 dX7_valueAt_0 rfl rfl ?_
  refine r_iload_n 1 dX7_valueAt_1 rfl rfl ?_
  refine r_ldcS (i := 2) (q := ("StateShares$Rules", 107, "max")) rfl rfl dX7_valueAt_2 ?_
  obtain ⟨o4, o5, o6, o7, o8, o9, o10, o11, o12, q3, V⟩ := V
  refine r_callV (M2 := M_X7_wordIs) (ci := 8) (n := 2) (As := [.int (nI x1), .ref (gS g 2)]) rfl (wl5 wM_X7_81 wi_X7_wordIs wS_X7_wordIs wI_StateShares_Rules wc_X7_wordIs) (by decide +kernel) (by decide) rfl rfl (Nat.le_of_ble_eq_true rfl) dX7_valueAt_4 q3 (by decide) (by decide) (Ct.imp V (fun r h1 n2 V => ?_))
  obtain ⟨v13, rfl, V⟩ := V
  show Blk g M_X7_valueAt post 7 [(0, .ref x0), (1, .int (nI x1))] [.int (nI v13)] h1 n2 0 0
  obtain ⟨c, V⟩ := V
  refine r_if_eqN (tgt := 14) dX7_valueAt_7 (by decide) c (fun c => ?_) (fun c => ?_)
  · have V := V.1 c
    refine r_aload_n 0 dX7_valueAt_14 rfl rfl ?_
    refine r_iload_n 1 dX7_valueAt_15 rfl rfl ?_
    refine r_ldcS (i := 6) (q := ("StateShares$Rules", 109, "min")) rfl rfl dX7_valueAt_16 ?_
    obtain ⟨o17, o18, o19, o20, o21, o22, o23, o24, o25, q16, V⟩ := V
    refine r_callV (M2 := M_X7_wordIs) (ci := 8) (n := 2) (As := [.int (nI x1), .ref (gS g 6)]) rfl (wl5 wM_X7_81 wi_X7_wordIs wS_X7_wordIs wI_StateShares_Rules wc_X7_wordIs) (by decide +kernel) (by decide) rfl rfl (Nat.le_of_ble_eq_true rfl) dX7_valueAt_18 q16 (by decide) (by decide) (Ct.imp V (fun r h14 n15 V => ?_))
    obtain ⟨v26, rfl, V⟩ := V
    show Blk g M_X7_valueAt post 21 [(0, .ref x0), (1, .int (nI x1))] [.int (nI v26)] h14 n15 0 0
    obtain ⟨c, V⟩ := V
    refine r_if_eqN (tgt := 28) dX7_valueAt_21 (by decide) c (fun c => ?_) (fun c => ?_)
    · have V := V.1 c
      refine r_aload_n 0 dX7_valueAt_28 rfl rfl ?_
      refine r_iload_n 1 dX7_valueAt_29 rfl rfl ?_
      refine r_ldcS (i := 7) (q := ("StateShares$Rules", 111, "mid")) rfl rfl dX7_valueAt_30 ?_
      obtain ⟨o30, o31, o32, o33, o34, o35, o36, o37, o38, q29, V⟩ := V
      refine r_callV (M2 := M_X7_wordIs) (ci := 8) (n := 2) (As := [.int (nI x1), .ref (gS g 7)]) rfl (wl5 wM_X7_81 wi_X7_wordIs wS_X7_wordIs wI_StateShares_Rules wc_X7_wordIs) (by decide +kernel) (by decide) rfl rfl (Nat.le_of_ble_eq_true rfl) dX7_valueAt_32 q29 (by decide) (by decide) (Ct.imp V (fun r h27 n28 V => ?_))
      obtain ⟨v39, rfl, V⟩ := V
      show Blk g M_X7_valueAt post 35 [(0, .ref x0), (1, .int (nI x1))] [.int (nI v39)] h27 n28 0 0
      obtain ⟨c, V⟩ := V
      refine r_if_eqN (tgt := 42) dX7_valueAt_35 (by decide) c (fun c => ?_) (fun c => ?_)
      · have V := V.1 c
        refine r_aload_n 0 dX7_valueAt_42 rfl rfl ?_
        refine r_iload_n 1 dX7_valueAt_43 rfl rfl ?_
        obtain ⟨o43, o44, o45, o46, o47, o48, o49, o50, o51, q42, V⟩ := V
        refine r_callV (M2 := M_X7_numberAt) (ci := 8) (n := 1) (As := [.int (nI x1)]) rfl (wl5 wM_X7_92 wi_X7_numberAt wS_X7_numberAt wI_StateShares_Rules wc_X7_numberAt) (by decide +kernel) (by decide) rfl rfl (Nat.le_of_ble_eq_true rfl) dX7_valueAt_44 q42 (by decide) (by decide) (Ct.imp V (fun r h40 n41 V => ?_))
        obtain ⟨v52, rfl, V⟩ := V
        show Blk g M_X7_valueAt post 47 [(0, .ref x0), (1, .int (nI x1))] [.int v52] h40 n41 0 0
        refine r_istore_n (L' := [(2, .int v52), (0, .ref x0), (1, .int (nI x1))]) dX7_valueAt_47 rfl (by decide) rfl ?_
        refine r_iload_n 0 dX7_valueAt_48 rfl rfl ?_
        refine r_aload_n 1 dX7_valueAt_49 rfl rfl ?_
        obtain ⟨o54, o55, o56, o57, o58, o59, o60, o61, o62, q53, V⟩ := V
        refine r_getf (ci := 8) (kf := 0) (T := TX7) rfl in_X7 (by decide) wF_X7_7 dX7_valueAt_50 q53 rfl ?_
        refine r_icmp_ge (tgt := 60) dX7_valueAt_53 (by decide) (fun c => ?_) (fun c => ?_)
        · have V := V.1 c
          refine r_iconst (v := (-1)) dX7_valueAt_60 rfl ?_
          exact r_iret dX7_valueAt_61 rfl (by decide) (by decide) V
        · have V := V.2 c
          refine r_iload_n 0 dX7_valueAt_56 rfl rfl ?_
          refine r_goto (tgt := 61) dX7_valueAt_57 (by decide) ?_
          exact r_iret dX7_valueAt_61 rfl (by decide) (by decide) V
      · have V := V.2 c
        refine r_sipush (v := (nI 1002)) dX7_valueAt_38 rfl ?_
        exact r_iret dX7_valueAt_41 rfl (by decide) (by decide) V
    · have V := V.2 c
      refine r_sipush (v := (nI 1001)) dX7_valueAt_24 rfl ?_
      exact r_iret dX7_valueAt_27 rfl (by decide) (by decide) V
  · have V := V.2 c
    refine r_sipush (v := (nI 1000)) dX7_valueAt_10 rfl ?_
    exact r_iret dX7_valueAt_13 rfl (by decide) (by decide) V
set_option maxRecDepth 20000 in
theorem v_X7_isComparison_0 {g : xG} {post : xPost} {h : xHp} {nx : Nat} {x0 : Nat} {x1 : Nat} (V : (∃ (o4 : Nat) (o5 : Nat) (o6 : Nat) (o7 : Nat) (o8 : Nat) (o9 : Nat) (o10 : Nat) (o11 : Nat) (o12 : Nat), h x0 = some (xo 8 [.int (nI o4), .ref o5, .int (nI o6), .ref o7, .ref o8, .int (nI o9), .int (nI o10), .ref o11, .ref o12]) ∧ Ct g M_X7_wordIs [.ref x0, .int (nI x1), .ref (gS g 3)] h nx (fun r h1 n2 => ∃ v13 : Nat, r = some (.int (nI v13)) ∧ (v13 < 2 ^ 31 ∧ ((¬ v13 = 0 → (post (some (.int (nI 1))) h1 n2)) ∧ (v13 = 0 → (∃ (o17 : Nat) (o18 : Nat) (o19 : Nat) (o20 : Nat) (o21 : Nat) (o22 : Nat) (o23 : Nat) (o24 : Nat) (o25 : Nat), h1 x0 = some (xo 8 [.int (nI o17), .ref o18, .int (nI o19), .ref o20, .ref o21, .int (nI o22), .int (nI o23), .ref o24, .ref o25]) ∧ Ct g M_X7_wordIs [.ref x0, .int (nI x1), .ref (gS g 4)] h1 n2 (fun r h14 n15 => ∃ v26 : Nat, r = some (.int (nI v26)) ∧ (v26 < 2 ^ 31 ∧ ((¬ v26 = 0 → (post (some (.int (nI 1))) h14 n15)) ∧ (v26 = 0 → (∃ (o30 : Nat) (o31 : Nat) (o32 : Nat) (o33 : Nat) (o34 : Nat) (o35 : Nat) (o36 : Nat) (o37 : Nat) (o38 : Nat), h14 x0 = some (xo 8 [.int (nI o30), .ref o31, .int (nI o32), .ref o33, .ref o34, .int (nI o35), .int (nI o36), .ref o37, .ref o38]) ∧ Ct g M_X7_wordIs [.ref x0, .int (nI x1), .ref (gS g 5)] h14 n15 (fun r h27 n28 => ∃ v39 : Nat, r = some (.int (nI v39)) ∧ (v39 < 2 ^ 31 ∧ ((v39 = 0 → (post (some (.int (nI 0))) h27 n28)) ∧ (¬ v39 = 0 → (post (some (.int (nI 1))) h27 n28))))))))))))))))) : Blk g M_X7_isComparison post 0 [(0, .ref x0), (1, .int (nI x1))] [] h nx 0 0 := by
  refine r_aload_n 0 dX7_isComparison_0 rfl rfl ?_
  refine r_iload_n 1 dX7_isComparison_1 rfl rfl ?_
  refine r_ldcS (i := 3) (q := ("StateShares$Rules", 113, "<")) rfl rfl dX7_isComparison_2 ?_
  obtain ⟨o4, o5, o6, o7, o8, o9, o10, o11, o12, q3, V⟩ := V
  refine r_callV (M2 := M_X7_wordIs) (ci := 8) (n := 2) (As := [.int (nI x1), .ref (gS g 3)]) rfl (wl5 wM_X7_81 wi_X7_wordIs wS_X7_wordIs wI_StateShares_Rules wc_X7_wordIs) (by decide +kernel) (by decide) rfl rfl (Nat.le_of_ble_eq_true rfl) dX7_isComparison_4 q3 (by decide) (by decide) (Ct.imp V (fun r h1 n2 V => ?_))
  obtain ⟨v13, rfl, V⟩ := V
  show Blk g M_X7_isComparison post 7 [(0, .ref x0), (1, .int (nI x1))] [.int (nI v13)] h1 n2 0 0
  obtain ⟨c, V⟩ := V
  refine r_if_neN (tgt := 30) dX7_isComparison_7 (by decide) c (fun c => ?_) (fun c => ?_)
  · have V := V.1 c
    refine r_iconst (v := (nI 1)) dX7_isComparison_30 rfl ?_
    refine r_goto (tgt := 35) dX7_isComparison_31 (by decide) ?_
    exact r_zret (ty := .boolean) dX7_isComparison_35 rfl rfl (by decide) (by decide) V
  · have V := V.2 c
    refine r_aload_n 0 dX7_isComparison_10 rfl rfl ?_
    refine r_iload_n 1 dX7_isComparison_11 rfl rfl ?_
    refine r_ldcS (i := 4) (q := ("StateShares$Rules", 115, "=")) rfl rfl dX7_isComparison_12 ?_
    obtain ⟨o17, o18, o19, o20, o21, o22, o23, o24, o25, q16, V⟩ := V
    refine r_callV (M2 := M_X7_wordIs) (ci := 8) (n := 2) (As := [.int (nI x1), .ref (gS g 4)]) rfl (wl5 wM_X7_81 wi_X7_wordIs wS_X7_wordIs wI_StateShares_Rules wc_X7_wordIs) (by decide +kernel) (by decide) rfl rfl (Nat.le_of_ble_eq_true rfl) dX7_isComparison_14 q16 (by decide) (by decide) (Ct.imp V (fun r h14 n15 V => ?_))
    obtain ⟨v26, rfl, V⟩ := V
    show Blk g M_X7_isComparison post 17 [(0, .ref x0), (1, .int (nI x1))] [.int (nI v26)] h14 n15 0 0
    obtain ⟨c, V⟩ := V
    refine r_if_neN (tgt := 30) dX7_isComparison_17 (by decide) c (fun c => ?_) (fun c => ?_)
    · have V := V.1 c
      refine r_iconst (v := (nI 1)) dX7_isComparison_30 rfl ?_
      refine r_goto (tgt := 35) dX7_isComparison_31 (by decide) ?_
      exact r_zret (ty := .boolean) dX7_isComparison_35 rfl rfl (by decide) (by decide) V
    · have V := V.2 c
      refine r_aload_n 0 dX7_isComparison_20 rfl rfl ?_
      refine r_iload_n 1 dX7_isComparison_21 rfl rfl ?_
      refine r_ldcS (i := 5) (q := ("StateShares$Rules", 117, ">")) rfl rfl dX7_isComparison_22 ?_
      obtain ⟨o30, o31, o32, o33, o34, o35, o36, o37, o38, q29, V⟩ := V
      refine r_callV (M2 := M_X7_wordIs) (ci := 8) (n := 2) (As := [.int (nI x1), .ref (gS g 5)]) rfl (wl5 wM_X7_81 wi_X7_wordIs wS_X7_wordIs wI_StateShares_Rules wc_X7_wordIs) (by decide +kernel) (by decide) rfl rfl (Nat.le_of_ble_eq_true rfl) dX7_isComparison_24 q29 (by decide) (by decide) (Ct.imp V (fun r h27 n28 V => ?_))
      obtain ⟨v39, rfl, V⟩ := V
      show Blk g M_X7_isComparison post 27 [(0, .ref x0), (1, .int (nI x1))] [.int (nI v39)] h27 n28 0 0
      obtain ⟨c, V⟩ := V
      refine r_if_eqN (tgt := 34) dX7_isComparison_27 (by decide) c (fun c => ?_) (fun c => ?_)
      · have V := V.1 c
        refine r_iconst (v := (nI 0)) dX7_isComparison_34 rfl ?_
        exact r_zret (ty := .boolean) dX7_isComparison_35 rfl rfl (by decide) (by decide) V
      · have V := V.2 c
        refine r_iconst (v := (nI 1)) dX7_isComparison_30 rfl ?_
        refine r_goto (tgt := 35) dX7_isComparison_31 (by decide) ?_
        exact r_zret (ty := .boolean) dX7_isComparison_35 rfl rfl (by decide) (by decide) V
set_option maxRecDepth 20000 in
theorem v_X7_numberAt_0 {g : xG} {post : xPost} {h : xHp} {nx : Nat} {x0 : Nat} {x1 : Nat} (V : (x1 < 2 ^ 31 ∧ (∃ (o2 : Nat) (o3 : Nat) (o4 : Nat) (o5 : Nat) (o6 : Nat) (o7 : Nat) (o8 : Nat) (o9 : Nat) (o10 : Nat), h x0 = some (xo 8 [.int (nI o2), .ref o3, .int (nI o4), .ref o5, .ref o6, .int (nI o7), .int (nI o8), .ref o9, .ref o10]) ∧ ((x1 < 2 ^ 31 ∧ o7 < 2 ^ 31) ∧ ((o7 ≤ x1 → (post (some (.int (-1))) h nx)) ∧ (x1 < o7 → (∃ (N12 : Nat) (f13 : Nat → Nat), h o6 = some (xna N12 f13) ∧ x1 < N12 ∧ N12 < 2 ^ 31 ∧ (∃ (N15 : Nat) (f16 : Nat → Nat), h o5 = some (xna N15 f16) ∧ x1 < N15 ∧ N15 < 2 ^ 31 ∧ ((f16 x1) ≤ (f13 x1) ∧ ((((f13 x1) - (f16 x1)) < 2 ^ 31 ∧ 3 < 2 ^ 31) ∧ ((3 < ((f13 x1) - (f16 x1)) → (post (some (.int (-1))) h nx)) ∧ (((f13 x1) - (f16 x1)) ≤ 3 → (x1 < N15 ∧ N15 < 2 ^ 31 ∧ (∃ (N18 : Nat) (f19 : Nat → Nat), h o3 = some (xnc N18 f19) ∧ (f16 x1) < N18 ∧ N18 < 2 ^ 31 ∧ (Ct g M_X7_isDigit [.int (nI (f19 (f16 x1)))] h nx (fun r h20 n21 => ∃ v22 : Nat, r = some (.int (nI v22)) ∧ (v22 < 2 ^ 31 ∧ ((¬ v22 = 0 → (∃ (o24 : Nat) (o25 : Nat) (o26 : Nat) (o27 : Nat) (o28 : Nat) (o29 : Nat) (o30 : Nat) (o31 : Nat) (o32 : Nat), h20 x0 = some (xo 8 [.int (nI o24), .ref o25, .int (nI o26), .ref o27, .ref o28, .int (nI o29), .int (nI o30), .ref o31, .ref o32]) ∧ (∃ (N34 : Nat) (f35 : Nat → Nat), h20 o27 = some (xna N34 f35) ∧ x1 < N34 ∧ N34 < 2 ^ 31 ∧ Blk g M_X7_numberAt post 57 [(0, .ref x0), (1, .int (nI x1)), (2, .int (nI 0)), (3, .int (nI (f35 x1)))] [] h20 n21 0 0))) ∧ (v22 = 0 → (post (some (.int (-1))) h20 n21)))))))))))))))))))) : Blk g M_X7_numberAt post 0 [(0, .ref x0), (1, .int (nI x1))] [] h nx 0 0 := by
  refine r_iload_n 1 dX7_numberAt_0 rfl rfl ?_
  obtain ⟨c, V⟩ := V
  refine r_if_ltN (tgt := 46) dX7_numberAt_1 (by decide) c ?_
  refine r_iload_n 1 dX7_numberAt_4 rfl rfl ?_
  refine r_aload_n 0 dX7_numberAt_5 rfl rfl ?_
  obtain ⟨o2, o3, o4, o5, o6, o7, o8, o9, o10, q1, V⟩ := V
  refine r_getf (ci := 8) (kf := 5) (T := TX7) rfl in_X7 (by decide) wF_X7_62 dX7_numberAt_6 q1 rfl ?_
  obtain ⟨c, V⟩ := V
  refine r_icmp_geN (tgt := 46) dX7_numberAt_9 (by decide) c (fun c => ?_) (fun c => ?_)
  · have V := V.1 c
    refine r_iconst (v := (-1)) dX7_numberAt_46 rfl ?_
    exact r_iret dX7_numberAt_47 rfl (by decide) (by decide) V
  · have V := V.2 c
    refine r_aload_n 0 dX7_numberAt_12 rfl rfl ?_
    refine r_getf (ci := 8) (kf := 4) (T := TX7) rfl in_X7 (by decide) wF_X7_21 dX7_numberAt_13 q1 rfl ?_
    refine r_iload_n 1 dX7_numberAt_16 rfl rfl ?_
    obtain ⟨N12, f13, q11, V⟩ := V
    obtain ⟨c, cN, V⟩ := V
    refine r_iald dX7_numberAt_17 q11 rfl c cN ?_
    show Blk g M_X7_numberAt post 18 [(0, .ref x0), (1, .int (nI x1))] [.int (nI (f13 x1))] h nx 0 0
    refine r_aload_n 0 dX7_numberAt_18 rfl rfl ?_
    refine r_getf (ci := 8) (kf := 3) (T := TX7) rfl in_X7 (by decide) wF_X7_17 dX7_numberAt_19 q1 rfl ?_
    refine r_iload_n 1 dX7_numberAt_22 rfl rfl ?_
    obtain ⟨N15, f16, q14, V⟩ := V
    obtain ⟨c, cN, V⟩ := V
    refine r_iald dX7_numberAt_23 q14 rfl c cN ?_
    show Blk g M_X7_numberAt post 24 [(0, .ref x0), (1, .int (nI x1))] [.int (nI (f16 x1)), .int (nI (f13 x1))] h nx 0 0
    obtain ⟨c, V⟩ := V
    refine r_isubN dX7_numberAt_24 c ?_
    refine r_iconst (v := (nI 3)) dX7_numberAt_25 rfl ?_
    obtain ⟨c, V⟩ := V
    refine r_icmp_gtN (tgt := 46) dX7_numberAt_26 (by decide) c (fun c => ?_) (fun c => ?_)
    · have V := V.1 c
      refine r_iconst (v := (-1)) dX7_numberAt_46 rfl ?_
      exact r_iret dX7_numberAt_47 rfl (by decide) (by decide) V
    · have V := V.2 c
      refine r_aload_n 0 dX7_numberAt_29 rfl rfl ?_
      refine r_getf (ci := 8) (kf := 1) (T := TX7) rfl in_X7 (by decide) wF_X7_13 dX7_numberAt_30 q1 rfl ?_
      refine r_aload_n 0 dX7_numberAt_33 rfl rfl ?_
      refine r_getf (ci := 8) (kf := 3) (T := TX7) rfl in_X7 (by decide) wF_X7_17 dX7_numberAt_34 q1 rfl ?_
      refine r_iload_n 1 dX7_numberAt_37 rfl rfl ?_
      obtain ⟨c, cN, V⟩ := V
      refine r_iald dX7_numberAt_38 q14 rfl c cN ?_
      show Blk g M_X7_numberAt post 39 [(0, .ref x0), (1, .int (nI x1))] [.int (nI (f16 x1)), .ref o3] h nx 0 0
      obtain ⟨N18, f19, q17, V⟩ := V
      obtain ⟨c, cN, V⟩ := V
      refine r_cald dX7_numberAt_39 q17 rfl c cN ?_
      show Blk g M_X7_numberAt post 40 [(0, .ref x0), (1, .int (nI x1))] [.int (nI (f19 (f16 x1)))] h nx 0 0
      refine r_callS (M2 := M_X7_isDigit) (n := 1) (As := [.int (nI (f19 (f16 x1)))]) (wl4 wM_X7_73 ws_X7_isDigit wI_StateShares_Rules wc_X7_isDigit) (by decide +kernel) (by decide) rfl rfl (Nat.le_of_ble_eq_true rfl) dX7_numberAt_40 (by decide) (by decide) (Ct.imp V (fun r h20 n21 V => ?_))
      obtain ⟨v22, rfl, V⟩ := V
      show Blk g M_X7_numberAt post 43 [(0, .ref x0), (1, .int (nI x1))] [.int (nI v22)] h20 n21 0 0
      obtain ⟨c, V⟩ := V
      refine r_if_neN (tgt := 48) dX7_numberAt_43 (by decide) c (fun c => ?_) (fun c => ?_)
      · have V := V.1 c
        refine r_iconst (v := (nI 0)) dX7_numberAt_48 rfl ?_
        refine r_istore_n (L' := [(2, .int (nI 0)), (0, .ref x0), (1, .int (nI x1))]) dX7_numberAt_49 rfl (by decide) rfl ?_
        refine r_aload_n 1 dX7_numberAt_50 rfl rfl ?_
        obtain ⟨o24, o25, o26, o27, o28, o29, o30, o31, o32, q23, V⟩ := V
        refine r_getf (ci := 8) (kf := 3) (T := TX7) rfl in_X7 (by decide) wF_X7_17 dX7_numberAt_51 q23 rfl ?_
        refine r_iload_n 2 dX7_numberAt_54 rfl rfl ?_
        obtain ⟨N34, f35, q33, V⟩ := V
        obtain ⟨c, cN, V⟩ := V
        refine r_iald dX7_numberAt_55 q33 rfl c cN ?_
        show Blk g M_X7_numberAt post 56 [(2, .int (nI 0)), (0, .ref x0), (1, .int (nI x1))] [.int (nI (f35 x1))] h20 n21 0 0
        refine r_istore_n (L' := [(3, .int (nI (f35 x1))), (2, .int (nI 0)), (0, .ref x0), (1, .int (nI x1))]) dX7_numberAt_56 rfl (by decide) rfl ?_
        exact Blk.sub [2, 3, 1, 0] rfl V
      · have V := V.2 c
        refine r_iconst (v := (-1)) dX7_numberAt_46 rfl ?_
        exact r_iret dX7_numberAt_47 rfl (by decide) (by decide) V
set_option maxRecDepth 20000 in
theorem v_X7_numberAt_57 {g : xG} {post : xPost} {h : xHp} {nx : Nat} {x0 : Nat} {x1 : Nat} {x2 : Nat} {x3 : Nat} (V : (∃ (o2 : Nat) (o3 : Nat) (o4 : Nat) (o5 : Nat) (o6 : Nat) (o7 : Nat) (o8 : Nat) (o9 : Nat) (o10 : Nat), h x0 = some (xo 8 [.int (nI o2), .ref o3, .int (nI o4), .ref o5, .ref o6, .int (nI o7), .int (nI o8), .ref o9, .ref o10]) ∧ (∃ (N12 : Nat) (f13 : Nat → Nat), h o6 = some (xna N12 f13) ∧ x1 < N12 ∧ N12 < 2 ^ 31 ∧ ((x3 < 2 ^ 31 ∧ (f13 x1) < 2 ^ 31) ∧ (((f13 x1) ≤ x3 → (post (some (.int (nI x2))) h nx)) ∧ (x3 < (f13 x1) → (∃ (N15 : Nat) (f16 : Nat → Nat), h o3 = some (xnc N15 f16) ∧ x3 < N15 ∧ N15 < 2 ^ 31 ∧ (48 ≤ (f16 x3) ∧ Blk g M_X7_numberAt post 57 [(0, .ref x0), (1, .int (nI x1)), (2, .int (nI ((x2 * 10) + ((f16 x3) - 48)))), (3, .int (nI (x3 + 1)))] [] h nx 0 0)))))))) : Blk g M_X7_numberAt post 57 [(0, .ref x0), (1, .int (nI x1)), (2, .int (nI x2)), (3, .int (nI x3))] [] h nx 0 0 := by
  refine r_iload_n 3 dX7_numberAt_57 rfl rfl ?_
  refine r_aload_n 0 dX7_numberAt_58 rfl rfl ?_
  obtain ⟨o2, o3, o4, o5, o6, o7, o8, o9, o10, q1, V⟩ := V
  refine r_getf (ci := 8) (kf := 4) (T := TX7) rfl in_X7 (by decide) wF_X7_21 dX7_numberAt_59 q1 rfl ?_
  refine r_iload_n 1 dX7_numberAt_62 rfl rfl ?_
  obtain ⟨N12, f13, q11, V⟩ := V
  obtain ⟨c, cN, V⟩ := V
  refine r_iald dX7_numberAt_63 q11 rfl c cN ?_
  show Blk g M_X7_numberAt post 64 [(0, .ref x0), (1, .int (nI x1)), (2, .int (nI x2)), (3, .int (nI x3))] [.int (nI (f13 x1)), .int (nI x3)] h nx 0 0
  obtain ⟨c, V⟩ := V
  refine r_icmp_geN (tgt := 88) dX7_numberAt_64 (by decide) c (fun c => ?_) (fun c => ?_)
  · have V := V.1 c
    refine r_iload_n 2 dX7_numberAt_88 rfl rfl ?_
    exact r_iret dX7_numberAt_89 rfl (by decide) (by decide) V
  · have V := V.2 c
    refine r_iload_n 2 dX7_numberAt_67 rfl rfl ?_
    refine r_bipush (v := (nI 10)) dX7_numberAt_68 rfl ?_
    refine r_imulN dX7_numberAt_70 ?_
    refine r_aload_n 0 dX7_numberAt_71 rfl rfl ?_
    refine r_getf (ci := 8) (kf := 1) (T := TX7) rfl in_X7 (by decide) wF_X7_13 dX7_numberAt_72 q1 rfl ?_
    refine r_iload_n 3 dX7_numberAt_75 rfl rfl ?_
    obtain ⟨N15, f16, q14, V⟩ := V
    obtain ⟨c, cN, V⟩ := V
    refine r_cald dX7_numberAt_76 q14 rfl c cN ?_
    show Blk g M_X7_numberAt post 77 [(0, .ref x0), (1, .int (nI x1)), (2, .int (nI x2)), (3, .int (nI x3))] [.int (nI (f16 x3)), .int (nI (x2 * 10))] h nx 0 0
    refine r_bipush (v := (nI 48)) dX7_numberAt_77 rfl ?_
    obtain ⟨c, V⟩ := V
    refine r_isubN dX7_numberAt_79 c ?_
    refine r_iaddN dX7_numberAt_80 ?_
    refine r_istore_n (L' := [(2, .int (nI ((x2 * 10) + ((f16 x3) - 48)))), (0, .ref x0), (1, .int (nI x1)), (3, .int (nI x3))]) dX7_numberAt_81 rfl (by decide) rfl ?_
    refine r_iincN 3 (b := 1) (L' := [(3, .int (nI (x3 + 1))), (2, .int (nI ((x2 * 10) + ((f16 x3) - 48)))), (0, .ref x0), (1, .int (nI x1))]) dX7_numberAt_82 rfl rfl (by decide) rfl ?_
    refine r_goto (tgt := 57) dX7_numberAt_85 (by decide) ?_
    exact Blk.sub [2, 3, 1, 0] rfl V
