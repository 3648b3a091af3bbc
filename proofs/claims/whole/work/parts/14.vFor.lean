set_option maxRecDepth 20000 in
theorem wM_X1_3 : Cond.methodLink "StateShares$Forecast" 3 (objectInit) ∈ lw_gd := lw_in 179 (by decide +kernel) rfl
set_option maxRecDepth 20000 in
theorem wF_X1_9 : Cond.fieldLink "StateShares$Forecast" 9 "StateShares$Forecast" "n" "I" ∈ lw_gd := lw_in 242 (by decide +kernel) rfl
set_option maxRecDepth 20000 in
theorem wF_X1_15 : Cond.fieldLink "StateShares$Forecast" 15 "StateShares$Forecast" "moves" "LStateShares$Moves;" ∈ lw_gd := lw_in 243 (by decide +kernel) rfl
set_option maxRecDepth 20000 in
theorem wF_X1_19 : Cond.fieldLink "StateShares$Forecast" 19 "StateShares$Forecast" "worksTold" "LStateShares$Transfers;" ∈ lw_gd := lw_in 244 (by decide +kernel) rfl
set_option maxRecDepth 20000 in
theorem wF_X1_23 : Cond.fieldLink "StateShares$Forecast" 23 "StateShares$Forecast" "eventsTold" "LStateShares$Transfers;" ∈ lw_gd := lw_in 245 (by decide +kernel) rfl
set_option maxRecDepth 20000 in
theorem wF_X1_26 : Cond.fieldLink "StateShares$Forecast" 26 "StateShares$Forecast" "firstAboves" "[I" ∈ lw_gd := lw_in 246 (by decide +kernel) rfl
set_option maxRecDepth 20000 in
theorem wF_X1_30 : Cond.fieldLink "StateShares$Forecast" 30 "StateShares$Forecast" "firstBelows" "[I" ∈ lw_gd := lw_in 247 (by decide +kernel) rfl
set_option maxRecDepth 20000 in
theorem wC_X1_33 : Cond.classLink "StateShares$Forecast" 33 "StateShares$Row" ∈ lw_gd := lw_in 180 (by decide +kernel) rfl
set_option maxRecDepth 20000 in
theorem wF_X1_35 : Cond.fieldLink "StateShares$Forecast" 35 "StateShares$Forecast" "rows" "[LStateShares$Row;" ∈ lw_gd := lw_in 248 (by decide +kernel) rfl
set_option maxRecDepth 20000 in
theorem wC_X1_42 : Cond.classLink "StateShares$Forecast" 42 "StateShares$Fraction" ∈ lw_gd := lw_in 214 (by decide +kernel) rfl
set_option maxRecDepth 20000 in
theorem wF_X1_44 : Cond.fieldLink "StateShares$Forecast" 44 "StateShares$Forecast" "kept" "[LStateShares$Fraction;" ∈ lw_gd := lw_in 249 (by decide +kernel) rfl
set_option maxRecDepth 20000 in
theorem wN_StateShares_Row : Cond.instantiable "StateShares$Row" 3 ∈ lw_gd := lw_in 182 (by decide +kernel) rfl
set_option maxRecDepth 20000 in
theorem wM_X1_39 : Cond.methodLink "StateShares$Forecast" 39 (yX5_init) ∈ lw_gd := lw_in 183 (by decide +kernel) rfl
set_option maxRecDepth 20000 in
theorem wi_X5_init : Cond.instanceMethod (yX5_init) ∈ lw_gd := lw_in 184 (by decide +kernel) rfl
set_option maxRecDepth 20000 in
theorem wc_X5_init : Cond.code yX5_init cX5_init 4 none ∈ lw_gd := lw_in 185 (by decide +kernel) rfl
set_option maxRecDepth 20000 in
theorem wC_X1_51 : Cond.classLink "StateShares$Forecast" 51 "StateShares$Big" ∈ lw_gd := lw_in 230 (by decide +kernel) rfl
set_option maxRecDepth 20000 in
theorem wF_X1_53 : Cond.fieldLink "StateShares$Forecast" 53 "StateShares$Forecast" "moved" "[LStateShares$Big;" ∈ lw_gd := lw_in 250 (by decide +kernel) rfl
set_option maxRecDepth 20000 in
theorem wN_StateShares_Fraction : Cond.instantiable "StateShares$Fraction" 2 ∈ lw_gd := lw_in 216 (by decide +kernel) rfl
set_option maxRecDepth 20000 in
theorem wM_X1_48 : Cond.methodLink "StateShares$Forecast" 48 (yX2_init) ∈ lw_gd := lw_in 217 (by decide +kernel) rfl
set_option maxRecDepth 20000 in
theorem wi_X2_init : Cond.instanceMethod (yX2_init) ∈ lw_gd := lw_in 218 (by decide +kernel) rfl
set_option maxRecDepth 20000 in
theorem wc_X2_init : Cond.code yX2_init cX2_init 2 none ∈ lw_gd := lw_in 219 (by decide +kernel) rfl
set_option maxRecDepth 20000 in
theorem wF_X1_58 : Cond.fieldLink "StateShares$Forecast" 58 "StateShares$Forecast" "scratch" "LStateShares$Fraction;" ∈ lw_gd := lw_in 251 (by decide +kernel) rfl
set_option maxRecDepth 20000 in
theorem wF_X1_62 : Cond.fieldLink "StateShares$Forecast" 62 "StateShares$Forecast" "worths" "[I" ∈ lw_gd := lw_in 253 (by decide +kernel) rfl
set_option maxRecDepth 20000 in
theorem wF_X1_65 : Cond.fieldLink "StateShares$Forecast" 65 "StateShares$Forecast" "worthSum" "LStateShares$Fraction;" ∈ lw_gd := lw_in 254 (by decide +kernel) rfl
set_option maxRecDepth 20000 in
theorem wM_X1_57 : Cond.methodLink "StateShares$Forecast" 57 (yX0_init) ∈ lw_gd := lw_in 231 (by decide +kernel) rfl
set_option maxRecDepth 20000 in
theorem wF_X1_68 : Cond.fieldLink "StateShares$Forecast" 68 "StateShares$Forecast" "tooLong" "LStateShares$Big;" ∈ lw_gd := lw_in 252 (by decide +kernel) rfl
set_option maxRecDepth 20000 in
theorem wM_X1_72 : Cond.methodLink "StateShares$Forecast" 72 (yX0_set) ∈ lw_gd := lw_in 232 (by decide +kernel) rfl
set_option maxRecDepth 20000 in
theorem wF_X1_80 : Cond.fieldLink "StateShares$Forecast" 80 "StateShares$Forecast" "cut" "I" ∈ lw_gd := lw_in 257 (by decide +kernel) rfl
set_option maxRecDepth 20000 in
theorem wF_X1_83 : Cond.fieldLink "StateShares$Forecast" 83 "StateShares$Forecast" "worthYear" "I" ∈ lw_gd := lw_in 258 (by decide +kernel) rfl
set_option maxRecDepth 20000 in
theorem wK_X1_76 : Cond.constant "StateShares$Forecast" 76 (1048576) ∈ lw_gd := lw_in 237 (by decide +kernel) rfl
set_option maxRecDepth 20000 in
theorem wM_X1_77 : Cond.methodLink "StateShares$Forecast" 77 (yX0_multiply) ∈ lw_gd := lw_in 238 (by decide +kernel) rfl
set_option maxRecDepth 20000 in
theorem wF_X1_86 : Cond.fieldLink "StateShares$Forecast" 86 "StateShares$Forecast" "firstTold" "Z" ∈ lw_gd := lw_in 255 (by decide +kernel) rfl
set_option maxRecDepth 20000 in
theorem wM_X1_90 : Cond.methodLink "StateShares$Forecast" 90 (yX1_forget) ∈ lw_gd := lw_in 526 (by decide +kernel) rfl
set_option maxRecDepth 20000 in
theorem wi_X1_forget : Cond.instanceMethod (yX1_forget) ∈ lw_gd := lw_in 527 (by decide +kernel) rfl
set_option maxRecDepth 20000 in
theorem wS_X1_forget : Cond.selects "StateShares$Forecast" (yX1_forget) (yX1_forget) ∈ lw_gd := lw_in 528 (by decide +kernel) rfl
set_option maxRecDepth 20000 in
theorem wI_StateShares_Forecast : Cond.initialized "StateShares$Forecast" ∈ lw_gd := lw_in 8 (by decide +kernel) rfl
set_option maxRecDepth 20000 in
theorem wc_X1_forget : Cond.code yX1_forget cX1_forget 2 none ∈ lw_gd := lw_in 529 (by decide +kernel) rfl
set_option maxRecDepth 20000 in
theorem wF_X1_93 : Cond.fieldLink "StateShares$Forecast" 93 "StateShares$Forecast" "known" "I" ∈ lw_gd := lw_in 256 (by decide +kernel) rfl
set_option maxRecDepth 20000 in
theorem wM_X1_96 : Cond.methodLink "StateShares$Forecast" 96 (Lib.Math.min.name) ∈ lw_gd := lw_in 530 (by decide +kernel) rfl
set_option maxRecDepth 20000 in
theorem wM_X1_102 : Cond.methodLink "StateShares$Forecast" 102 (yX1_foretell) ∈ lw_gd := lw_in 606 (by decide +kernel) rfl
set_option maxRecDepth 20000 in
theorem wi_X1_foretell : Cond.instanceMethod (yX1_foretell) ∈ lw_gd := lw_in 608 (by decide +kernel) rfl
set_option maxRecDepth 20000 in
theorem wS_X1_foretell : Cond.selects "StateShares$Forecast" (yX1_foretell) (yX1_foretell) ∈ lw_gd := lw_inS (q := ((yX1_foretell), 18)) 24 (by decide +kernel)
set_option maxRecDepth 20000 in
theorem wc_X1_foretell : Cond.code yX1_foretell cX1_foretell 3 none ∈ lw_gd := lw_in 609 (by decide +kernel) rfl
set_option maxRecDepth 20000 in
theorem wM_X1_109 : Cond.methodLink "StateShares$Forecast" 109 (yX5_copy) ∈ lw_gd := lw_in 625 (by decide +kernel) rfl
set_option maxRecDepth 20000 in
theorem wi_X5_copy : Cond.instanceMethod (yX5_copy) ∈ lw_gd := lw_in 626 (by decide +kernel) rfl
set_option maxRecDepth 20000 in
theorem wS_X5_copy : Cond.selects "StateShares$Row" (yX5_copy) (yX5_copy) ∈ lw_gd := lw_in 627 (by decide +kernel) rfl
set_option maxRecDepth 20000 in
theorem wc_X5_copy : Cond.code yX5_copy cX5_copy 3 none ∈ lw_gd := lw_in 628 (by decide +kernel) rfl
set_option maxRecDepth 20000 in
theorem wM_X1_113 : Cond.methodLink "StateShares$Forecast" 113 (yX8_applyTo) ∈ lw_gd := lw_in 638 (by decide +kernel) rfl
set_option maxRecDepth 20000 in
theorem wi_X8_applyTo : Cond.instanceMethod (yX8_applyTo) ∈ lw_gd := lw_in 639 (by decide +kernel) rfl
set_option maxRecDepth 20000 in
theorem wS_X8_applyTo : Cond.selects "StateShares$Transfers" (yX8_applyTo) (yX8_applyTo) ∈ lw_gd := lw_in 640 (by decide +kernel) rfl
set_option maxRecDepth 20000 in
theorem wI_StateShares_Transfers : Cond.initialized "StateShares$Transfers" ∈ lw_gd := lw_in 7 (by decide +kernel) rfl
set_option maxRecDepth 20000 in
theorem wc_X8_applyTo : Cond.code yX8_applyTo cX8_applyTo 5 none ∈ lw_gd := lw_in 641 (by decide +kernel) rfl
set_option maxRecDepth 20000 in
theorem wM_X1_119 : Cond.methodLink "StateShares$Forecast" 119 (yX5_move) ∈ lw_gd := lw_in 655 (by decide +kernel) rfl
set_option maxRecDepth 20000 in
theorem wi_X5_move : Cond.instanceMethod (yX5_move) ∈ lw_gd := lw_in 656 (by decide +kernel) rfl
set_option maxRecDepth 20000 in
theorem wS_X5_move : Cond.selects "StateShares$Row" (yX5_move) (yX5_move) ∈ lw_gd := lw_in 657 (by decide +kernel) rfl
set_option maxRecDepth 20000 in
theorem wc_X5_move : Cond.code yX5_move cX5_move 9 none ∈ lw_gd := lw_in 658 (by decide +kernel) rfl
set_option maxRecDepth 20000 in
theorem wM_X1_123 : Cond.methodLink "StateShares$Forecast" 123 (yX5_shorten) ∈ lw_gd := lw_in 672 (by decide +kernel) rfl
set_option maxRecDepth 20000 in
theorem wi_X5_shorten : Cond.instanceMethod (yX5_shorten) ∈ lw_gd := lw_in 673 (by decide +kernel) rfl
set_option maxRecDepth 20000 in
theorem wS_X5_shorten : Cond.selects "StateShares$Row" (yX5_shorten) (yX5_shorten) ∈ lw_gd := lw_in 674 (by decide +kernel) rfl
set_option maxRecDepth 20000 in
theorem wc_X5_shorten : Cond.code yX5_shorten cX5_shorten 3 none ∈ lw_gd := lw_in 675 (by decide +kernel) rfl
set_option maxRecDepth 20000 in
theorem wM_X1_126 : Cond.methodLink "StateShares$Forecast" 126 (yX1_keep) ∈ lw_gd := lw_in 692 (by decide +kernel) rfl
set_option maxRecDepth 20000 in
theorem wi_X1_keep : Cond.instanceMethod (yX1_keep) ∈ lw_gd := lw_in 694 (by decide +kernel) rfl
set_option maxRecDepth 20000 in
theorem wS_X1_keep : Cond.selects "StateShares$Forecast" (yX1_keep) (yX1_keep) ∈ lw_gd := lw_inS (q := ((yX1_keep), 18)) 28 (by decide +kernel)
set_option maxRecDepth 20000 in
theorem wc_X1_keep : Cond.code yX1_keep cX1_keep 3 (some .boolean) ∈ lw_gd := lw_in 695 (by decide +kernel) rfl
set_option maxRecDepth 20000 in
theorem wM_X1_105 : Cond.methodLink "StateShares$Forecast" 105 (yX5_begin) ∈ lw_gd := lw_in 610 (by decide +kernel) rfl
set_option maxRecDepth 20000 in
theorem wi_X5_begin : Cond.instanceMethod (yX5_begin) ∈ lw_gd := lw_in 611 (by decide +kernel) rfl
set_option maxRecDepth 20000 in
theorem wS_X5_begin : Cond.selects "StateShares$Row" (yX5_begin) (yX5_begin) ∈ lw_gd := lw_in 612 (by decide +kernel) rfl
set_option maxRecDepth 20000 in
theorem wc_X5_begin : Cond.code yX5_begin cX5_begin 6 none ∈ lw_gd := lw_in 613 (by decide +kernel) rfl
set_option maxRecDepth 20000 in
theorem wM_X1_130 : Cond.methodLink "StateShares$Forecast" 130 (yX5_has) ∈ lw_gd := lw_in 696 (by decide +kernel) rfl
set_option maxRecDepth 20000 in
theorem wM_X1_134 : Cond.methodLink "StateShares$Forecast" 134 (yX2_setLowest) ∈ lw_gd := lw_in 700 (by decide +kernel) rfl
set_option maxRecDepth 20000 in
theorem wi_X2_setLowest : Cond.instanceMethod (yX2_setLowest) ∈ lw_gd := lw_in 701 (by decide +kernel) rfl
set_option maxRecDepth 20000 in
theorem wS_X2_setLowest : Cond.selects "StateShares$Fraction" (yX2_setLowest) (yX2_setLowest) ∈ lw_gd := lw_in 702 (by decide +kernel) rfl
set_option maxRecDepth 20000 in
theorem wc_X2_setLowest : Cond.code yX2_setLowest cX2_setLowest 5 none ∈ lw_gd := lw_in 703 (by decide +kernel) rfl
set_option maxRecDepth 20000 in
theorem wM_X1_138 : Cond.methodLink "StateShares$Forecast" 138 (yX2_isBelow) ∈ lw_gd := lw_in 718 (by decide +kernel) rfl
set_option maxRecDepth 20000 in
theorem wi_X2_isBelow : Cond.instanceMethod (yX2_isBelow) ∈ lw_gd := lw_in 719 (by decide +kernel) rfl
set_option maxRecDepth 20000 in
theorem wS_X2_isBelow : Cond.selects "StateShares$Fraction" (yX2_isBelow) (yX2_isBelow) ∈ lw_gd := lw_in 720 (by decide +kernel) rfl
set_option maxRecDepth 20000 in
theorem wc_X2_isBelow : Cond.code yX2_isBelow cX2_isBelow 2 (some .boolean) ∈ lw_gd := lw_in 721 (by decide +kernel) rfl
set_option maxRecDepth 20000 in
theorem wM_X1_142 : Cond.methodLink "StateShares$Forecast" 142 (yX2_copy) ∈ lw_gd := lw_in 730 (by decide +kernel) rfl
set_option maxRecDepth 20000 in
theorem wi_X2_copy : Cond.instanceMethod (yX2_copy) ∈ lw_gd := lw_in 731 (by decide +kernel) rfl
set_option maxRecDepth 20000 in
theorem wS_X2_copy : Cond.selects "StateShares$Fraction" (yX2_copy) (yX2_copy) ∈ lw_gd := lw_in 732 (by decide +kernel) rfl
set_option maxRecDepth 20000 in
theorem wc_X2_copy : Cond.code yX2_copy cX2_copy 2 none ∈ lw_gd := lw_in 733 (by decide +kernel) rfl
set_option maxRecDepth 20000 in
theorem wM_X1_145 : Cond.methodLink "StateShares$Forecast" 145 (yX2_digits) ∈ lw_gd := lw_in 823 (by decide +kernel) rfl
set_option maxRecDepth 20000 in
theorem wi_X2_digits : Cond.instanceMethod (yX2_digits) ∈ lw_gd := lw_in 824 (by decide +kernel) rfl
set_option maxRecDepth 20000 in
theorem wS_X2_digits : Cond.selects "StateShares$Fraction" (yX2_digits) (yX2_digits) ∈ lw_gd := lw_in 825 (by decide +kernel) rfl
set_option maxRecDepth 20000 in
theorem wc_X2_digits : Cond.code yX2_digits cX2_digits 2 (some .long) ∈ lw_gd := lw_in 826 (by decide +kernel) rfl
set_option maxRecDepth 20000 in
theorem wM_X1_149 : Cond.methodLink "StateShares$Forecast" 149 (yX2_setTail) ∈ lw_gd := lw_in 738 (by decide +kernel) rfl
set_option maxRecDepth 20000 in
theorem wi_X2_setTail : Cond.instanceMethod (yX2_setTail) ∈ lw_gd := lw_in 739 (by decide +kernel) rfl
set_option maxRecDepth 20000 in
theorem wS_X2_setTail : Cond.selects "StateShares$Fraction" (yX2_setTail) (yX2_setTail) ∈ lw_gd := lw_in 740 (by decide +kernel) rfl
set_option maxRecDepth 20000 in
theorem wc_X2_setTail : Cond.code yX2_setTail cX2_setTail 4 none ∈ lw_gd := lw_in 741 (by decide +kernel) rfl
set_option maxRecDepth 20000 in
theorem wM_X1_152 : Cond.methodLink "StateShares$Forecast" 152 (yX2_compareParts) ∈ lw_gd := lw_in 748 (by decide +kernel) rfl
set_option maxRecDepth 20000 in
theorem wM_X1_156 : Cond.methodLink "StateShares$Forecast" 156 (yX2_multiplyParts) ∈ lw_gd := lw_in 870 (by decide +kernel) rfl
set_option maxRecDepth 20000 in
theorem wi_X2_multiplyParts : Cond.instanceMethod (yX2_multiplyParts) ∈ lw_gd := lw_in 871 (by decide +kernel) rfl
set_option maxRecDepth 20000 in
theorem wS_X2_multiplyParts : Cond.selects "StateShares$Fraction" (yX2_multiplyParts) (yX2_multiplyParts) ∈ lw_gd := lw_in 872 (by decide +kernel) rfl
set_option maxRecDepth 20000 in
theorem wc_X2_multiplyParts : Cond.code yX2_multiplyParts cX2_multiplyParts 3 none ∈ lw_gd := lw_in 873 (by decide +kernel) rfl
set_option maxRecDepth 20000 in
theorem wF_X1_163 : Cond.fieldLink "StateShares$Forecast" 163 "StateShares$Forecast" "worthSign" "I" ∈ lw_gd := lw_in 259 (by decide +kernel) rfl
set_option maxRecDepth 20000 in
theorem wM_X1_159 : Cond.methodLink "StateShares$Forecast" 159 (yX2_setDifference) ∈ lw_gd := lw_in 806 (by decide +kernel) rfl
set_option maxRecDepth 20000 in
theorem wi_X2_setDifference : Cond.instanceMethod (yX2_setDifference) ∈ lw_gd := lw_in 807 (by decide +kernel) rfl
set_option maxRecDepth 20000 in
theorem wS_X2_setDifference : Cond.selects "StateShares$Fraction" (yX2_setDifference) (yX2_setDifference) ∈ lw_gd := lw_in 808 (by decide +kernel) rfl
set_option maxRecDepth 20000 in
theorem wc_X2_setDifference : Cond.code yX2_setDifference cX2_setDifference 5 (some .int) ∈ lw_gd := lw_in 809 (by decide +kernel) rfl
set_option maxRecDepth 20000 in
theorem wM_X1_166 : Cond.methodLink "StateShares$Forecast" 166 (yX2_upper) ∈ lw_gd := lw_in 819 (by decide +kernel) rfl
set_option maxRecDepth 20000 in
theorem wi_X2_upper : Cond.instanceMethod (yX2_upper) ∈ lw_gd := lw_in 820 (by decide +kernel) rfl
set_option maxRecDepth 20000 in
theorem wS_X2_upper : Cond.selects "StateShares$Fraction" (yX2_upper) (yX2_upper) ∈ lw_gd := lw_in 821 (by decide +kernel) rfl
set_option maxRecDepth 20000 in
theorem wc_X2_upper : Cond.code yX2_upper cX2_upper 1 (some (.object "StateShares$Big")) ∈ lw_gd := lw_in 822 (by decide +kernel) rfl
abbrev M_X1_begin : xM := (yX1_begin, cX1_begin, 4, none, { frames := 2, cells := 0, slots := 0, locals := 44 })
abbrev M_X1_foretell : xM := (yX1_foretell, cX1_foretell, 3, none, { frames := 4, cells := 0, slots := 0, locals := 103 })
abbrev M_X1_forget : xM := (yX1_forget, cX1_forget, 2, none, { frames := 1, cells := 0, slots := 0, locals := 23 })
abbrev M_X1_init : xM := (yX1_init, cX1_init, 6, none, { frames := 3, cells := 600, slots := 30000, locals := 67 })
abbrev M_X1_isOneTogether : xM := (yX1_isOneTogether, cX1_isOneTogether, 2, (some .boolean), { frames := 3, cells := 0, slots := 0, locals := 75 })
abbrev M_X1_keep : xM := (yX1_keep, cX1_keep, 3, (some .boolean), { frames := 3, cells := 0, slots := 0, locals := 71 })
abbrev M_X1_reaches : xM := (yX1_reaches, cX1_reaches, 5, (some .boolean), { frames := 3, cells := 0, slots := 0, locals := 75 })
abbrev M_X1_setWorth : xM := (yX1_setWorth, cX1_setWorth, 3, none, { frames := 0, cells := 0, slots := 0, locals := 0 })
abbrev M_X1_stands : xM := (yX1_stands, cX1_stands, 3, (some .boolean), { frames := 5, cells := 0, slots := 0, locals := 125 })
abbrev M_X1_stateDigits : xM := (yX1_stateDigits, cX1_stateDigits, 4, (some .long), { frames := 3, cells := 0, slots := 0, locals := 63 })
abbrev M_X1_worthDigits : xM := (yX1_worthDigits, cX1_worthDigits, 3, (some .long), { frames := 4, cells := 0, slots := 0, locals := 87 })
theorem dX1_init_0 : decode cX1_init 0 = .ok (.aload_n 0, 1) := by decide +kernel
theorem dX1_init_1 : decode cX1_init 1 = .ok (.invokespecial 3, 3) := by decide +kernel
theorem dX1_init_4 : decode cX1_init 4 = .ok (.aload_n 0, 1) := by decide +kernel
theorem dX1_init_5 : decode cX1_init 5 = .ok (.iload_n 1, 1) := by decide +kernel
theorem dX1_init_6 : decode cX1_init 6 = .ok (.putfield 9, 3) := by decide +kernel
theorem dX1_init_9 : decode cX1_init 9 = .ok (.aload_n 0, 1) := by decide +kernel
theorem dX1_init_10 : decode cX1_init 10 = .ok (.aload_n 2, 1) := by decide +kernel
theorem dX1_init_11 : decode cX1_init 11 = .ok (.putfield 15, 3) := by decide +kernel
theorem dX1_init_14 : decode cX1_init 14 = .ok (.aload_n 0, 1) := by decide +kernel
theorem dX1_init_15 : decode cX1_init 15 = .ok (.aload_n 3, 1) := by decide +kernel
theorem dX1_init_16 : decode cX1_init 16 = .ok (.putfield 19, 3) := by decide +kernel
theorem dX1_init_19 : decode cX1_init 19 = .ok (.aload_n 0, 1) := by decide +kernel
theorem dX1_init_20 : decode cX1_init 20 = .ok (.aload 4, 2) := by decide +kernel
theorem dX1_init_22 : decode cX1_init 22 = .ok (.putfield 23, 3) := by decide +kernel
theorem dX1_init_25 : decode cX1_init 25 = .ok (.aload_n 0, 1) := by decide +kernel
theorem dX1_init_26 : decode cX1_init 26 = .ok (.bipush 6, 2) := by decide +kernel
theorem dX1_init_28 : decode cX1_init 28 = .ok (.newarray .int, 2) := by decide +kernel
theorem dX1_init_30 : decode cX1_init 30 = .ok (.putfield 26, 3) := by decide +kernel
theorem dX1_init_33 : decode cX1_init 33 = .ok (.aload_n 0, 1) := by decide +kernel
theorem dX1_init_34 : decode cX1_init 34 = .ok (.bipush 6, 2) := by decide +kernel
theorem dX1_init_36 : decode cX1_init 36 = .ok (.newarray .int, 2) := by decide +kernel
theorem dX1_init_38 : decode cX1_init 38 = .ok (.putfield 30, 3) := by decide +kernel
theorem dX1_init_41 : decode cX1_init 41 = .ok (.aload_n 0, 1) := by decide +kernel
theorem dX1_init_42 : decode cX1_init 42 = .ok (.getfield 26, 3) := by decide +kernel
theorem dX1_init_45 : decode cX1_init 45 = .ok (.iconst 0, 1) := by decide +kernel
theorem dX1_init_46 : decode cX1_init 46 = .ok (.iconst 1, 1) := by decide +kernel
theorem dX1_init_47 : decode cX1_init 47 = .ok (.iastore, 1) := by decide +kernel
theorem dX1_init_48 : decode cX1_init 48 = .ok (.aload_n 0, 1) := by decide +kernel
theorem dX1_init_49 : decode cX1_init 49 = .ok (.bipush 12, 2) := by decide +kernel
theorem dX1_init_51 : decode cX1_init 51 = .ok (.anewarray 33, 3) := by decide +kernel
theorem dX1_init_54 : decode cX1_init 54 = .ok (.putfield 35, 3) := by decide +kernel
theorem dX1_init_57 : decode cX1_init 57 = .ok (.iconst 0, 1) := by decide +kernel
theorem dX1_init_58 : decode cX1_init 58 = .ok (.istore 5, 2) := by decide +kernel
theorem dX1_init_60 : decode cX1_init 60 = .ok (.iload 5, 2) := by decide +kernel
theorem dX1_init_62 : decode cX1_init 62 = .ok (.bipush 12, 2) := by decide +kernel
theorem dX1_init_64 : decode cX1_init 64 = .ok (.if_icmp .ge 26, 3) := by decide +kernel
theorem dX1_init_67 : decode cX1_init 67 = .ok (.aload_n 0, 1) := by decide +kernel
theorem dX1_init_68 : decode cX1_init 68 = .ok (.getfield 35, 3) := by decide +kernel
theorem dX1_init_71 : decode cX1_init 71 = .ok (.iload 5, 2) := by decide +kernel
theorem dX1_init_73 : decode cX1_init 73 = .ok (.new 33, 3) := by decide +kernel
theorem dX1_init_76 : decode cX1_init 76 = .ok (.dup, 1) := by decide +kernel
theorem dX1_init_77 : decode cX1_init 77 = .ok (.iload_n 1, 1) := by decide +kernel
theorem dX1_init_78 : decode cX1_init 78 = .ok (.bipush 112, 2) := by decide +kernel
theorem dX1_init_80 : decode cX1_init 80 = .ok (.invokespecial 39, 3) := by decide +kernel
theorem dX1_init_83 : decode cX1_init 83 = .ok (.aastore, 1) := by decide +kernel
theorem dX1_init_84 : decode cX1_init 84 = .ok (.iinc 5 1, 3) := by decide +kernel
theorem dX1_init_87 : decode cX1_init 87 = .ok (.goto (-27), 3) := by decide +kernel
theorem dX1_init_90 : decode cX1_init 90 = .ok (.aload_n 0, 1) := by decide +kernel
theorem dX1_init_91 : decode cX1_init 91 = .ok (.bipush 72, 2) := by decide +kernel
theorem dX1_init_93 : decode cX1_init 93 = .ok (.anewarray 42, 3) := by decide +kernel
theorem dX1_init_96 : decode cX1_init 96 = .ok (.putfield 44, 3) := by decide +kernel
theorem dX1_init_99 : decode cX1_init 99 = .ok (.iconst 0, 1) := by decide +kernel
theorem dX1_init_100 : decode cX1_init 100 = .ok (.istore 5, 2) := by decide +kernel
theorem dX1_init_102 : decode cX1_init 102 = .ok (.iload 5, 2) := by decide +kernel
theorem dX1_init_104 : decode cX1_init 104 = .ok (.aload_n 0, 1) := by decide +kernel
theorem dX1_init_105 : decode cX1_init 105 = .ok (.getfield 44, 3) := by decide +kernel
theorem dX1_init_108 : decode cX1_init 108 = .ok (.arraylength, 1) := by decide +kernel
theorem dX1_init_109 : decode cX1_init 109 = .ok (.if_icmp .ge 25, 3) := by decide +kernel
theorem dX1_init_112 : decode cX1_init 112 = .ok (.aload_n 0, 1) := by decide +kernel
theorem dX1_init_113 : decode cX1_init 113 = .ok (.getfield 44, 3) := by decide +kernel
theorem dX1_init_116 : decode cX1_init 116 = .ok (.iload 5, 2) := by decide +kernel
theorem dX1_init_118 : decode cX1_init 118 = .ok (.new 42, 3) := by decide +kernel
theorem dX1_init_121 : decode cX1_init 121 = .ok (.dup, 1) := by decide +kernel
theorem dX1_init_122 : decode cX1_init 122 = .ok (.bipush 21, 2) := by decide +kernel
theorem dX1_init_124 : decode cX1_init 124 = .ok (.invokespecial 48, 3) := by decide +kernel
theorem dX1_init_127 : decode cX1_init 127 = .ok (.aastore, 1) := by decide +kernel
theorem dX1_init_128 : decode cX1_init 128 = .ok (.iinc 5 1, 3) := by decide +kernel
theorem dX1_init_131 : decode cX1_init 131 = .ok (.goto (-29), 3) := by decide +kernel
theorem dX1_init_134 : decode cX1_init 134 = .ok (.aload_n 0, 1) := by decide +kernel
theorem dX1_init_135 : decode cX1_init 135 = .ok (.bipush 6, 2) := by decide +kernel
theorem dX1_init_137 : decode cX1_init 137 = .ok (.anewarray 51, 3) := by decide +kernel
theorem dX1_init_140 : decode cX1_init 140 = .ok (.putfield 53, 3) := by decide +kernel
theorem dX1_init_143 : decode cX1_init 143 = .ok (.iconst 0, 1) := by decide +kernel
theorem dX1_init_144 : decode cX1_init 144 = .ok (.istore 5, 2) := by decide +kernel
theorem dX1_init_146 : decode cX1_init 146 = .ok (.iload 5, 2) := by decide +kernel
theorem dX1_init_148 : decode cX1_init 148 = .ok (.bipush 6, 2) := by decide +kernel
theorem dX1_init_150 : decode cX1_init 150 = .ok (.if_icmp .ge 33, 3) := by decide +kernel
theorem dX1_init_153 : decode cX1_init 153 = .ok (.aload_n 0, 1) := by decide +kernel
theorem dX1_init_154 : decode cX1_init 154 = .ok (.getfield 30, 3) := by decide +kernel
theorem dX1_init_157 : decode cX1_init 157 = .ok (.iload 5, 2) := by decide +kernel
theorem dX1_init_159 : decode cX1_init 159 = .ok (.iconst 1, 1) := by decide +kernel
theorem dX1_init_160 : decode cX1_init 160 = .ok (.iastore, 1) := by decide +kernel
theorem dX1_init_161 : decode cX1_init 161 = .ok (.aload_n 0, 1) := by decide +kernel
theorem dX1_init_162 : decode cX1_init 162 = .ok (.getfield 53, 3) := by decide +kernel
theorem dX1_init_165 : decode cX1_init 165 = .ok (.iload 5, 2) := by decide +kernel
theorem dX1_init_167 : decode cX1_init 167 = .ok (.new 51, 3) := by decide +kernel
theorem dX1_init_170 : decode cX1_init 170 = .ok (.dup, 1) := by decide +kernel
theorem dX1_init_171 : decode cX1_init 171 = .ok (.bipush 112, 2) := by decide +kernel
theorem dX1_init_173 : decode cX1_init 173 = .ok (.invokespecial 57, 3) := by decide +kernel
theorem dX1_init_176 : decode cX1_init 176 = .ok (.aastore, 1) := by decide +kernel
theorem dX1_init_177 : decode cX1_init 177 = .ok (.iinc 5 1, 3) := by decide +kernel
theorem dX1_init_180 : decode cX1_init 180 = .ok (.goto (-34), 3) := by decide +kernel
theorem dX1_init_183 : decode cX1_init 183 = .ok (.aload_n 0, 1) := by decide +kernel
theorem dX1_init_184 : decode cX1_init 184 = .ok (.new 42, 3) := by decide +kernel
theorem dX1_init_187 : decode cX1_init 187 = .ok (.dup, 1) := by decide +kernel
theorem dX1_init_188 : decode cX1_init 188 = .ok (.bipush 112, 2) := by decide +kernel
theorem dX1_init_190 : decode cX1_init 190 = .ok (.invokespecial 48, 3) := by decide +kernel
theorem dX1_init_193 : decode cX1_init 193 = .ok (.putfield 58, 3) := by decide +kernel
theorem dX1_init_196 : decode cX1_init 196 = .ok (.aload_n 0, 1) := by decide +kernel
theorem dX1_init_197 : decode cX1_init 197 = .ok (.bipush 6, 2) := by decide +kernel
theorem dX1_init_199 : decode cX1_init 199 = .ok (.newarray .int, 2) := by decide +kernel
theorem dX1_init_201 : decode cX1_init 201 = .ok (.putfield 62, 3) := by decide +kernel
theorem dX1_init_204 : decode cX1_init 204 = .ok (.aload_n 0, 1) := by decide +kernel
theorem dX1_init_205 : decode cX1_init 205 = .ok (.new 42, 3) := by decide +kernel
theorem dX1_init_208 : decode cX1_init 208 = .ok (.dup, 1) := by decide +kernel
theorem dX1_init_209 : decode cX1_init 209 = .ok (.bipush 112, 2) := by decide +kernel
theorem dX1_init_211 : decode cX1_init 211 = .ok (.invokespecial 48, 3) := by decide +kernel
theorem dX1_init_214 : decode cX1_init 214 = .ok (.putfield 65, 3) := by decide +kernel
theorem dX1_init_217 : decode cX1_init 217 = .ok (.aload_n 0, 1) := by decide +kernel
theorem dX1_init_218 : decode cX1_init 218 = .ok (.new 51, 3) := by decide +kernel
theorem dX1_init_221 : decode cX1_init 221 = .ok (.dup, 1) := by decide +kernel
theorem dX1_init_222 : decode cX1_init 222 = .ok (.bipush 21, 2) := by decide +kernel
theorem dX1_init_224 : decode cX1_init 224 = .ok (.invokespecial 57, 3) := by decide +kernel
theorem dX1_init_227 : decode cX1_init 227 = .ok (.putfield 68, 3) := by decide +kernel
theorem dX1_init_230 : decode cX1_init 230 = .ok (.aload_n 0, 1) := by decide +kernel
theorem dX1_init_231 : decode cX1_init 231 = .ok (.getfield 68, 3) := by decide +kernel
theorem dX1_init_234 : decode cX1_init 234 = .ok (.lconst 1, 1) := by decide +kernel
theorem dX1_init_235 : decode cX1_init 235 = .ok (.invokevirtual 72, 3) := by decide +kernel
theorem dX1_init_238 : decode cX1_init 238 = .ok (.iconst 0, 1) := by decide +kernel
theorem dX1_init_239 : decode cX1_init 239 = .ok (.istore 5, 2) := by decide +kernel
theorem dX1_init_241 : decode cX1_init 241 = .ok (.iload 5, 2) := by decide +kernel
theorem dX1_init_243 : decode cX1_init 243 = .ok (.sipush 600, 3) := by decide +kernel
theorem dX1_init_246 : decode cX1_init 246 = .ok (.if_icmp .ge 18, 3) := by decide +kernel
theorem dX1_init_249 : decode cX1_init 249 = .ok (.aload_n 0, 1) := by decide +kernel
theorem dX1_init_250 : decode cX1_init 250 = .ok (.getfield 68, 3) := by decide +kernel
theorem dX1_init_253 : decode cX1_init 253 = .ok (.ldc 76, 2) := by decide +kernel
theorem dX1_init_255 : decode cX1_init 255 = .ok (.invokevirtual 77, 3) := by decide +kernel
theorem dX1_init_258 : decode cX1_init 258 = .ok (.iinc 5 20, 3) := by decide +kernel
theorem dX1_init_261 : decode cX1_init 261 = .ok (.goto (-20), 3) := by decide +kernel
theorem dX1_init_264 : decode cX1_init 264 = .ok (.aload_n 0, 1) := by decide +kernel
theorem dX1_init_265 : decode cX1_init 265 = .ok (.bipush 12, 2) := by decide +kernel
theorem dX1_init_267 : decode cX1_init 267 = .ok (.putfield 80, 3) := by decide +kernel
theorem dX1_init_270 : decode cX1_init 270 = .ok (.aload_n 0, 1) := by decide +kernel
theorem dX1_init_271 : decode cX1_init 271 = .ok (.iconst (-1), 1) := by decide +kernel
theorem dX1_init_272 : decode cX1_init 272 = .ok (.putfield 83, 3) := by decide +kernel
theorem dX1_init_275 : decode cX1_init 275 = .ok (.return_, 1) := by decide +kernel
theorem dX1_begin_0 : decode cX1_begin 0 = .ok (.aload_n 0, 1) := by decide +kernel
theorem dX1_begin_1 : decode cX1_begin 1 = .ok (.getfield 86, 3) := by decide +kernel
theorem dX1_begin_4 : decode cX1_begin 4 = .ok (.ifCond .ne 15, 3) := by decide +kernel
theorem dX1_begin_7 : decode cX1_begin 7 = .ok (.aload_n 0, 1) := by decide +kernel
theorem dX1_begin_8 : decode cX1_begin 8 = .ok (.iconst 1, 1) := by decide +kernel
theorem dX1_begin_9 : decode cX1_begin 9 = .ok (.putfield 86, 3) := by decide +kernel
theorem dX1_begin_12 : decode cX1_begin 12 = .ok (.aload_n 0, 1) := by decide +kernel
theorem dX1_begin_13 : decode cX1_begin 13 = .ok (.getfield 26, 3) := by decide +kernel
theorem dX1_begin_16 : decode cX1_begin 16 = .ok (.iconst 0, 1) := by decide +kernel
theorem dX1_begin_17 : decode cX1_begin 17 = .ok (.iconst 0, 1) := by decide +kernel
theorem dX1_begin_18 : decode cX1_begin 18 = .ok (.iastore, 1) := by decide +kernel
theorem dX1_begin_19 : decode cX1_begin 19 = .ok (.aload_n 0, 1) := by decide +kernel
theorem dX1_begin_20 : decode cX1_begin 20 = .ok (.getfield 26, 3) := by decide +kernel
theorem dX1_begin_23 : decode cX1_begin 23 = .ok (.iload_n 1, 1) := by decide +kernel
theorem dX1_begin_24 : decode cX1_begin 24 = .ok (.iload_n 2, 1) := by decide +kernel
theorem dX1_begin_25 : decode cX1_begin 25 = .ok (.iastore, 1) := by decide +kernel
theorem dX1_begin_26 : decode cX1_begin 26 = .ok (.aload_n 0, 1) := by decide +kernel
theorem dX1_begin_27 : decode cX1_begin 27 = .ok (.getfield 30, 3) := by decide +kernel
theorem dX1_begin_30 : decode cX1_begin 30 = .ok (.iload_n 1, 1) := by decide +kernel
theorem dX1_begin_31 : decode cX1_begin 31 = .ok (.iload_n 3, 1) := by decide +kernel
theorem dX1_begin_32 : decode cX1_begin 32 = .ok (.iastore, 1) := by decide +kernel
theorem dX1_begin_33 : decode cX1_begin 33 = .ok (.aload_n 0, 1) := by decide +kernel
theorem dX1_begin_34 : decode cX1_begin 34 = .ok (.iconst 0, 1) := by decide +kernel
theorem dX1_begin_35 : decode cX1_begin 35 = .ok (.invokevirtual 90, 3) := by decide +kernel
theorem dX1_begin_38 : decode cX1_begin 38 = .ok (.return_, 1) := by decide +kernel
theorem dX1_forget_0 : decode cX1_forget 0 = .ok (.aload_n 0, 1) := by decide +kernel
theorem dX1_forget_1 : decode cX1_forget 1 = .ok (.aload_n 0, 1) := by decide +kernel
theorem dX1_forget_2 : decode cX1_forget 2 = .ok (.getfield 93, 3) := by decide +kernel
theorem dX1_forget_5 : decode cX1_forget 5 = .ok (.iload_n 1, 1) := by decide +kernel
theorem dX1_forget_6 : decode cX1_forget 6 = .ok (.invokestatic 96, 3) := by decide +kernel
theorem dX1_forget_9 : decode cX1_forget 9 = .ok (.putfield 93, 3) := by decide +kernel
theorem dX1_forget_12 : decode cX1_forget 12 = .ok (.iload_n 1, 1) := by decide +kernel
theorem dX1_forget_13 : decode cX1_forget 13 = .ok (.aload_n 0, 1) := by decide +kernel
theorem dX1_forget_14 : decode cX1_forget 14 = .ok (.getfield 80, 3) := by decide +kernel
theorem dX1_forget_17 : decode cX1_forget 17 = .ok (.if_icmp .gt 9, 3) := by decide +kernel
theorem dX1_forget_20 : decode cX1_forget 20 = .ok (.aload_n 0, 1) := by decide +kernel
theorem dX1_forget_21 : decode cX1_forget 21 = .ok (.bipush 12, 2) := by decide +kernel
theorem dX1_forget_23 : decode cX1_forget 23 = .ok (.putfield 80, 3) := by decide +kernel
theorem dX1_forget_26 : decode cX1_forget 26 = .ok (.aload_n 0, 1) := by decide +kernel
theorem dX1_forget_27 : decode cX1_forget 27 = .ok (.iconst (-1), 1) := by decide +kernel
theorem dX1_forget_28 : decode cX1_forget 28 = .ok (.putfield 83, 3) := by decide +kernel
theorem dX1_forget_31 : decode cX1_forget 31 = .ok (.return_, 1) := by decide +kernel
theorem dX1_stands_0 : decode cX1_stands 0 = .ok (.aload_n 0, 1) := by decide +kernel
theorem dX1_stands_1 : decode cX1_stands 1 = .ok (.getfield 93, 3) := by decide +kernel
theorem dX1_stands_4 : decode cX1_stands 4 = .ok (.istore_n 2, 1) := by decide +kernel
theorem dX1_stands_5 : decode cX1_stands 5 = .ok (.iload_n 2, 1) := by decide +kernel
theorem dX1_stands_6 : decode cX1_stands 6 = .ok (.iload_n 1, 1) := by decide +kernel
theorem dX1_stands_7 : decode cX1_stands 7 = .ok (.if_icmp .gt 22, 3) := by decide +kernel
theorem dX1_stands_10 : decode cX1_stands 10 = .ok (.iload_n 2, 1) := by decide +kernel
theorem dX1_stands_11 : decode cX1_stands 11 = .ok (.aload_n 0, 1) := by decide +kernel
theorem dX1_stands_12 : decode cX1_stands 12 = .ok (.getfield 80, 3) := by decide +kernel
theorem dX1_stands_15 : decode cX1_stands 15 = .ok (.if_icmp .ge 14, 3) := by decide +kernel
theorem dX1_stands_18 : decode cX1_stands 18 = .ok (.aload_n 0, 1) := by decide +kernel
theorem dX1_stands_19 : decode cX1_stands 19 = .ok (.iload_n 2, 1) := by decide +kernel
theorem dX1_stands_20 : decode cX1_stands 20 = .ok (.invokevirtual 102, 3) := by decide +kernel
theorem dX1_stands_23 : decode cX1_stands 23 = .ok (.iinc 2 1, 3) := by decide +kernel
theorem dX1_stands_26 : decode cX1_stands 26 = .ok (.goto (-21), 3) := by decide +kernel
theorem dX1_stands_29 : decode cX1_stands 29 = .ok (.iload_n 1, 1) := by decide +kernel
theorem dX1_stands_30 : decode cX1_stands 30 = .ok (.aload_n 0, 1) := by decide +kernel
theorem dX1_stands_31 : decode cX1_stands 31 = .ok (.getfield 93, 3) := by decide +kernel
theorem dX1_stands_34 : decode cX1_stands 34 = .ok (.if_icmp .ge 7, 3) := by decide +kernel
theorem dX1_stands_37 : decode cX1_stands 37 = .ok (.iconst 1, 1) := by decide +kernel
theorem dX1_stands_38 : decode cX1_stands 38 = .ok (.goto 4, 3) := by decide +kernel
theorem dX1_stands_41 : decode cX1_stands 41 = .ok (.iconst 0, 1) := by decide +kernel
theorem dX1_stands_42 : decode cX1_stands 42 = .ok (.ireturn, 1) := by decide +kernel
theorem dX1_foretell_0 : decode cX1_foretell 0 = .ok (.aload_n 0, 1) := by decide +kernel
theorem dX1_foretell_1 : decode cX1_foretell 1 = .ok (.getfield 35, 3) := by decide +kernel
theorem dX1_foretell_4 : decode cX1_foretell 4 = .ok (.iload_n 1, 1) := by decide +kernel
theorem dX1_foretell_5 : decode cX1_foretell 5 = .ok (.aaload, 1) := by decide +kernel
theorem dX1_foretell_6 : decode cX1_foretell 6 = .ok (.astore_n 2, 1) := by decide +kernel
theorem dX1_foretell_7 : decode cX1_foretell 7 = .ok (.iload_n 1, 1) := by decide +kernel
theorem dX1_foretell_8 : decode cX1_foretell 8 = .ok (.ifCond .ne 18, 3) := by decide +kernel
theorem dX1_foretell_11 : decode cX1_foretell 11 = .ok (.aload_n 2, 1) := by decide +kernel
theorem dX1_foretell_12 : decode cX1_foretell 12 = .ok (.aload_n 0, 1) := by decide +kernel
theorem dX1_foretell_13 : decode cX1_foretell 13 = .ok (.getfield 26, 3) := by decide +kernel
theorem dX1_foretell_16 : decode cX1_foretell 16 = .ok (.aload_n 0, 1) := by decide +kernel
theorem dX1_foretell_17 : decode cX1_foretell 17 = .ok (.getfield 30, 3) := by decide +kernel
theorem dX1_foretell_20 : decode cX1_foretell 20 = .ok (.invokevirtual 105, 3) := by decide +kernel
theorem dX1_foretell_23 : decode cX1_foretell 23 = .ok (.goto 49, 3) := by decide +kernel
theorem dX1_foretell_26 : decode cX1_foretell 26 = .ok (.aload_n 2, 1) := by decide +kernel
theorem dX1_foretell_27 : decode cX1_foretell 27 = .ok (.aload_n 0, 1) := by decide +kernel
theorem dX1_foretell_28 : decode cX1_foretell 28 = .ok (.getfield 35, 3) := by decide +kernel
theorem dX1_foretell_31 : decode cX1_foretell 31 = .ok (.iload_n 1, 1) := by decide +kernel
theorem dX1_foretell_32 : decode cX1_foretell 32 = .ok (.iconst 1, 1) := by decide +kernel
theorem dX1_foretell_33 : decode cX1_foretell 33 = .ok (.isub, 1) := by decide +kernel
theorem dX1_foretell_34 : decode cX1_foretell 34 = .ok (.aaload, 1) := by decide +kernel
theorem dX1_foretell_35 : decode cX1_foretell 35 = .ok (.invokevirtual 109, 3) := by decide +kernel
theorem dX1_foretell_38 : decode cX1_foretell 38 = .ok (.aload_n 0, 1) := by decide +kernel
theorem dX1_foretell_39 : decode cX1_foretell 39 = .ok (.getfield 19, 3) := by decide +kernel
theorem dX1_foretell_42 : decode cX1_foretell 42 = .ok (.aload_n 2, 1) := by decide +kernel
theorem dX1_foretell_43 : decode cX1_foretell 43 = .ok (.iload_n 1, 1) := by decide +kernel
theorem dX1_foretell_44 : decode cX1_foretell 44 = .ok (.iconst 1, 1) := by decide +kernel
theorem dX1_foretell_45 : decode cX1_foretell 45 = .ok (.isub, 1) := by decide +kernel
theorem dX1_foretell_46 : decode cX1_foretell 46 = .ok (.invokevirtual 113, 3) := by decide +kernel
theorem dX1_foretell_49 : decode cX1_foretell 49 = .ok (.aload_n 2, 1) := by decide +kernel
theorem dX1_foretell_50 : decode cX1_foretell 50 = .ok (.aload_n 0, 1) := by decide +kernel
theorem dX1_foretell_51 : decode cX1_foretell 51 = .ok (.getfield 15, 3) := by decide +kernel
theorem dX1_foretell_54 : decode cX1_foretell 54 = .ok (.aload_n 0, 1) := by decide +kernel
theorem dX1_foretell_55 : decode cX1_foretell 55 = .ok (.getfield 53, 3) := by decide +kernel
theorem dX1_foretell_58 : decode cX1_foretell 58 = .ok (.invokevirtual 119, 3) := by decide +kernel
theorem dX1_foretell_61 : decode cX1_foretell 61 = .ok (.aload_n 0, 1) := by decide +kernel
theorem dX1_foretell_62 : decode cX1_foretell 62 = .ok (.getfield 23, 3) := by decide +kernel
theorem dX1_foretell_65 : decode cX1_foretell 65 = .ok (.aload_n 2, 1) := by decide +kernel
theorem dX1_foretell_66 : decode cX1_foretell 66 = .ok (.iload_n 1, 1) := by decide +kernel
theorem dX1_foretell_67 : decode cX1_foretell 67 = .ok (.iconst 1, 1) := by decide +kernel
theorem dX1_foretell_68 : decode cX1_foretell 68 = .ok (.isub, 1) := by decide +kernel
theorem dX1_foretell_69 : decode cX1_foretell 69 = .ok (.invokevirtual 113, 3) := by decide +kernel
theorem dX1_foretell_72 : decode cX1_foretell 72 = .ok (.aload_n 2, 1) := by decide +kernel
theorem dX1_foretell_73 : decode cX1_foretell 73 = .ok (.invokevirtual 123, 3) := by decide +kernel
theorem dX1_foretell_76 : decode cX1_foretell 76 = .ok (.aload_n 0, 1) := by decide +kernel
theorem dX1_foretell_77 : decode cX1_foretell 77 = .ok (.iload_n 1, 1) := by decide +kernel
theorem dX1_foretell_78 : decode cX1_foretell 78 = .ok (.invokevirtual 126, 3) := by decide +kernel
theorem dX1_foretell_81 : decode cX1_foretell 81 = .ok (.ifCond .eq 13, 3) := by decide +kernel
theorem dX1_foretell_84 : decode cX1_foretell 84 = .ok (.aload_n 0, 1) := by decide +kernel
theorem dX1_foretell_85 : decode cX1_foretell 85 = .ok (.iload_n 1, 1) := by decide +kernel
theorem dX1_foretell_86 : decode cX1_foretell 86 = .ok (.iconst 1, 1) := by decide +kernel
theorem dX1_foretell_87 : decode cX1_foretell 87 = .ok (.iadd, 1) := by decide +kernel
theorem dX1_foretell_88 : decode cX1_foretell 88 = .ok (.putfield 93, 3) := by decide +kernel
theorem dX1_foretell_91 : decode cX1_foretell 91 = .ok (.goto 8, 3) := by decide +kernel
theorem dX1_foretell_94 : decode cX1_foretell 94 = .ok (.aload_n 0, 1) := by decide +kernel
theorem dX1_foretell_95 : decode cX1_foretell 95 = .ok (.iload_n 1, 1) := by decide +kernel
theorem dX1_foretell_96 : decode cX1_foretell 96 = .ok (.putfield 80, 3) := by decide +kernel
theorem dX1_foretell_99 : decode cX1_foretell 99 = .ok (.return_, 1) := by decide +kernel
theorem dX1_keep_0 : decode cX1_keep 0 = .ok (.iconst 0, 1) := by decide +kernel
theorem dX1_keep_1 : decode cX1_keep 1 = .ok (.istore_n 2, 1) := by decide +kernel
theorem dX1_keep_2 : decode cX1_keep 2 = .ok (.iload_n 2, 1) := by decide +kernel
theorem dX1_keep_3 : decode cX1_keep 3 = .ok (.aload_n 0, 1) := by decide +kernel
theorem dX1_keep_4 : decode cX1_keep 4 = .ok (.getfield 9, 3) := by decide +kernel
theorem dX1_keep_7 : decode cX1_keep 7 = .ok (.if_icmp .ge 66, 3) := by decide +kernel
theorem dX1_keep_10 : decode cX1_keep 10 = .ok (.aload_n 0, 1) := by decide +kernel
theorem dX1_keep_11 : decode cX1_keep 11 = .ok (.getfield 58, 3) := by decide +kernel
theorem dX1_keep_14 : decode cX1_keep 14 = .ok (.aload_n 0, 1) := by decide +kernel
theorem dX1_keep_15 : decode cX1_keep 15 = .ok (.getfield 35, 3) := by decide +kernel
theorem dX1_keep_18 : decode cX1_keep 18 = .ok (.iload_n 1, 1) := by decide +kernel
theorem dX1_keep_19 : decode cX1_keep 19 = .ok (.aaload, 1) := by decide +kernel
theorem dX1_keep_20 : decode cX1_keep 20 = .ok (.iload_n 2, 1) := by decide +kernel
theorem dX1_keep_21 : decode cX1_keep 21 = .ok (.invokevirtual 130, 3) := by decide +kernel
theorem dX1_keep_24 : decode cX1_keep 24 = .ok (.aload_n 0, 1) := by decide +kernel
theorem dX1_keep_25 : decode cX1_keep 25 = .ok (.getfield 35, 3) := by decide +kernel
theorem dX1_keep_28 : decode cX1_keep 28 = .ok (.iload_n 1, 1) := by decide +kernel
theorem dX1_keep_29 : decode cX1_keep 29 = .ok (.aaload, 1) := by decide +kernel
theorem dX1_keep_30 : decode cX1_keep 30 = .ok (.invokevirtual 134, 3) := by decide +kernel
theorem dX1_keep_33 : decode cX1_keep 33 = .ok (.aload_n 0, 1) := by decide +kernel
theorem dX1_keep_34 : decode cX1_keep 34 = .ok (.getfield 58, 3) := by decide +kernel
theorem dX1_keep_37 : decode cX1_keep 37 = .ok (.aload_n 0, 1) := by decide +kernel
theorem dX1_keep_38 : decode cX1_keep 38 = .ok (.getfield 68, 3) := by decide +kernel
theorem dX1_keep_41 : decode cX1_keep 41 = .ok (.invokevirtual 138, 3) := by decide +kernel
theorem dX1_keep_44 : decode cX1_keep 44 = .ok (.ifCond .ne 5, 3) := by decide +kernel
theorem dX1_keep_47 : decode cX1_keep 47 = .ok (.iconst 0, 1) := by decide +kernel
theorem dX1_keep_48 : decode cX1_keep 48 = .ok (.ireturn, 1) := by decide +kernel
theorem dX1_keep_49 : decode cX1_keep 49 = .ok (.aload_n 0, 1) := by decide +kernel
theorem dX1_keep_50 : decode cX1_keep 50 = .ok (.getfield 44, 3) := by decide +kernel
theorem dX1_keep_53 : decode cX1_keep 53 = .ok (.iload_n 1, 1) := by decide +kernel
theorem dX1_keep_54 : decode cX1_keep 54 = .ok (.bipush 6, 2) := by decide +kernel
theorem dX1_keep_56 : decode cX1_keep 56 = .ok (.imul, 1) := by decide +kernel
theorem dX1_keep_57 : decode cX1_keep 57 = .ok (.iload_n 2, 1) := by decide +kernel
theorem dX1_keep_58 : decode cX1_keep 58 = .ok (.iadd, 1) := by decide +kernel
theorem dX1_keep_59 : decode cX1_keep 59 = .ok (.aaload, 1) := by decide +kernel
theorem dX1_keep_60 : decode cX1_keep 60 = .ok (.aload_n 0, 1) := by decide +kernel
theorem dX1_keep_61 : decode cX1_keep 61 = .ok (.getfield 58, 3) := by decide +kernel
theorem dX1_keep_64 : decode cX1_keep 64 = .ok (.invokevirtual 142, 3) := by decide +kernel
theorem dX1_keep_67 : decode cX1_keep 67 = .ok (.iinc 2 1, 3) := by decide +kernel
theorem dX1_keep_70 : decode cX1_keep 70 = .ok (.goto (-68), 3) := by decide +kernel
theorem dX1_keep_73 : decode cX1_keep 73 = .ok (.iconst 1, 1) := by decide +kernel
theorem dX1_keep_74 : decode cX1_keep 74 = .ok (.ireturn, 1) := by decide +kernel
theorem dX1_stateDigits_0 : decode cX1_stateDigits 0 = .ok (.aload_n 0, 1) := by decide +kernel
theorem dX1_stateDigits_1 : decode cX1_stateDigits 1 = .ok (.getfield 44, 3) := by decide +kernel
theorem dX1_stateDigits_4 : decode cX1_stateDigits 4 = .ok (.iload_n 2, 1) := by decide +kernel
theorem dX1_stateDigits_5 : decode cX1_stateDigits 5 = .ok (.bipush 6, 2) := by decide +kernel
theorem dX1_stateDigits_7 : decode cX1_stateDigits 7 = .ok (.imul, 1) := by decide +kernel
theorem dX1_stateDigits_8 : decode cX1_stateDigits 8 = .ok (.iload_n 1, 1) := by decide +kernel
theorem dX1_stateDigits_9 : decode cX1_stateDigits 9 = .ok (.iadd, 1) := by decide +kernel
theorem dX1_stateDigits_10 : decode cX1_stateDigits 10 = .ok (.aaload, 1) := by decide +kernel
theorem dX1_stateDigits_11 : decode cX1_stateDigits 11 = .ok (.iload_n 3, 1) := by decide +kernel
theorem dX1_stateDigits_12 : decode cX1_stateDigits 12 = .ok (.invokevirtual 145, 3) := by decide +kernel
theorem dX1_stateDigits_15 : decode cX1_stateDigits 15 = .ok (.lreturn, 1) := by decide +kernel
theorem dX1_isOneTogether_0 : decode cX1_isOneTogether 0 = .ok (.aload_n 0, 1) := by decide +kernel
theorem dX1_isOneTogether_1 : decode cX1_isOneTogether 1 = .ok (.getfield 58, 3) := by decide +kernel
theorem dX1_isOneTogether_4 : decode cX1_isOneTogether 4 = .ok (.aload_n 0, 1) := by decide +kernel
theorem dX1_isOneTogether_5 : decode cX1_isOneTogether 5 = .ok (.getfield 35, 3) := by decide +kernel
theorem dX1_isOneTogether_8 : decode cX1_isOneTogether 8 = .ok (.iload_n 1, 1) := by decide +kernel
theorem dX1_isOneTogether_9 : decode cX1_isOneTogether 9 = .ok (.aaload, 1) := by decide +kernel
theorem dX1_isOneTogether_10 : decode cX1_isOneTogether 10 = .ok (.iconst 0, 1) := by decide +kernel
theorem dX1_isOneTogether_11 : decode cX1_isOneTogether 11 = .ok (.invokevirtual 149, 3) := by decide +kernel
theorem dX1_isOneTogether_14 : decode cX1_isOneTogether 14 = .ok (.aload_n 0, 1) := by decide +kernel
theorem dX1_isOneTogether_15 : decode cX1_isOneTogether 15 = .ok (.getfield 58, 3) := by decide +kernel
theorem dX1_isOneTogether_18 : decode cX1_isOneTogether 18 = .ok (.invokevirtual 152, 3) := by decide +kernel
theorem dX1_isOneTogether_21 : decode cX1_isOneTogether 21 = .ok (.ifCond .ne 7, 3) := by decide +kernel
theorem dX1_isOneTogether_24 : decode cX1_isOneTogether 24 = .ok (.iconst 1, 1) := by decide +kernel
theorem dX1_isOneTogether_25 : decode cX1_isOneTogether 25 = .ok (.goto 4, 3) := by decide +kernel
theorem dX1_isOneTogether_28 : decode cX1_isOneTogether 28 = .ok (.iconst 0, 1) := by decide +kernel
theorem dX1_isOneTogether_29 : decode cX1_isOneTogether 29 = .ok (.ireturn, 1) := by decide +kernel
theorem dX1_reaches_0 : decode cX1_reaches 0 = .ok (.aload_n 0, 1) := by decide +kernel
theorem dX1_reaches_1 : decode cX1_reaches 1 = .ok (.getfield 58, 3) := by decide +kernel
theorem dX1_reaches_4 : decode cX1_reaches 4 = .ok (.aload_n 0, 1) := by decide +kernel
theorem dX1_reaches_5 : decode cX1_reaches 5 = .ok (.getfield 35, 3) := by decide +kernel
theorem dX1_reaches_8 : decode cX1_reaches 8 = .ok (.iload_n 1, 1) := by decide +kernel
theorem dX1_reaches_9 : decode cX1_reaches 9 = .ok (.aaload, 1) := by decide +kernel
theorem dX1_reaches_10 : decode cX1_reaches 10 = .ok (.iload_n 2, 1) := by decide +kernel
theorem dX1_reaches_11 : decode cX1_reaches 11 = .ok (.invokevirtual 149, 3) := by decide +kernel
theorem dX1_reaches_14 : decode cX1_reaches 14 = .ok (.aload_n 0, 1) := by decide +kernel
theorem dX1_reaches_15 : decode cX1_reaches 15 = .ok (.getfield 58, 3) := by decide +kernel
theorem dX1_reaches_18 : decode cX1_reaches 18 = .ok (.iload 4, 2) := by decide +kernel
theorem dX1_reaches_20 : decode cX1_reaches 20 = .ok (.iload_n 3, 1) := by decide +kernel
theorem dX1_reaches_21 : decode cX1_reaches 21 = .ok (.invokevirtual 156, 3) := by decide +kernel
theorem dX1_reaches_24 : decode cX1_reaches 24 = .ok (.aload_n 0, 1) := by decide +kernel
theorem dX1_reaches_25 : decode cX1_reaches 25 = .ok (.getfield 58, 3) := by decide +kernel
theorem dX1_reaches_28 : decode cX1_reaches 28 = .ok (.invokevirtual 152, 3) := by decide +kernel
theorem dX1_reaches_31 : decode cX1_reaches 31 = .ok (.ifCond .lt 7, 3) := by decide +kernel
theorem dX1_reaches_34 : decode cX1_reaches 34 = .ok (.iconst 1, 1) := by decide +kernel
theorem dX1_reaches_35 : decode cX1_reaches 35 = .ok (.goto 4, 3) := by decide +kernel
theorem dX1_reaches_38 : decode cX1_reaches 38 = .ok (.iconst 0, 1) := by decide +kernel
theorem dX1_reaches_39 : decode cX1_reaches 39 = .ok (.ireturn, 1) := by decide +kernel
theorem dX1_setWorth_0 : decode cX1_setWorth 0 = .ok (.aload_n 0, 1) := by decide +kernel
theorem dX1_setWorth_1 : decode cX1_setWorth 1 = .ok (.getfield 62, 3) := by decide +kernel
theorem dX1_setWorth_4 : decode cX1_setWorth 4 = .ok (.iload_n 1, 1) := by decide +kernel
theorem dX1_setWorth_5 : decode cX1_setWorth 5 = .ok (.iload_n 2, 1) := by decide +kernel
theorem dX1_setWorth_6 : decode cX1_setWorth 6 = .ok (.iastore, 1) := by decide +kernel
theorem dX1_setWorth_7 : decode cX1_setWorth 7 = .ok (.aload_n 0, 1) := by decide +kernel
theorem dX1_setWorth_8 : decode cX1_setWorth 8 = .ok (.iconst (-1), 1) := by decide +kernel
theorem dX1_setWorth_9 : decode cX1_setWorth 9 = .ok (.putfield 83, 3) := by decide +kernel
theorem dX1_setWorth_12 : decode cX1_setWorth 12 = .ok (.return_, 1) := by decide +kernel
theorem dX1_worthDigits_0 : decode cX1_worthDigits 0 = .ok (.aload_n 0, 1) := by decide +kernel
theorem dX1_worthDigits_1 : decode cX1_worthDigits 1 = .ok (.getfield 83, 3) := by decide +kernel
theorem dX1_worthDigits_4 : decode cX1_worthDigits 4 = .ok (.iload_n 1, 1) := by decide +kernel
theorem dX1_worthDigits_5 : decode cX1_worthDigits 5 = .ok (.if_icmp .eq 49, 3) := by decide +kernel
theorem dX1_worthDigits_8 : decode cX1_worthDigits 8 = .ok (.aload_n 0, 1) := by decide +kernel
theorem dX1_worthDigits_9 : decode cX1_worthDigits 9 = .ok (.aload_n 0, 1) := by decide +kernel
theorem dX1_worthDigits_10 : decode cX1_worthDigits 10 = .ok (.getfield 58, 3) := by decide +kernel
theorem dX1_worthDigits_13 : decode cX1_worthDigits 13 = .ok (.aload_n 0, 1) := by decide +kernel
theorem dX1_worthDigits_14 : decode cX1_worthDigits 14 = .ok (.getfield 35, 3) := by decide +kernel
theorem dX1_worthDigits_17 : decode cX1_worthDigits 17 = .ok (.iload_n 1, 1) := by decide +kernel
theorem dX1_worthDigits_18 : decode cX1_worthDigits 18 = .ok (.aaload, 1) := by decide +kernel
theorem dX1_worthDigits_19 : decode cX1_worthDigits 19 = .ok (.aload_n 0, 1) := by decide +kernel
theorem dX1_worthDigits_20 : decode cX1_worthDigits 20 = .ok (.getfield 62, 3) := by decide +kernel
theorem dX1_worthDigits_23 : decode cX1_worthDigits 23 = .ok (.invokevirtual 159, 3) := by decide +kernel
theorem dX1_worthDigits_26 : decode cX1_worthDigits 26 = .ok (.putfield 163, 3) := by decide +kernel
theorem dX1_worthDigits_29 : decode cX1_worthDigits 29 = .ok (.aload_n 0, 1) := by decide +kernel
theorem dX1_worthDigits_30 : decode cX1_worthDigits 30 = .ok (.getfield 65, 3) := by decide +kernel
theorem dX1_worthDigits_33 : decode cX1_worthDigits 33 = .ok (.aload_n 0, 1) := by decide +kernel
theorem dX1_worthDigits_34 : decode cX1_worthDigits 34 = .ok (.getfield 58, 3) := by decide +kernel
theorem dX1_worthDigits_37 : decode cX1_worthDigits 37 = .ok (.invokevirtual 166, 3) := by decide +kernel
theorem dX1_worthDigits_40 : decode cX1_worthDigits 40 = .ok (.aload_n 0, 1) := by decide +kernel
theorem dX1_worthDigits_41 : decode cX1_worthDigits 41 = .ok (.getfield 35, 3) := by decide +kernel
theorem dX1_worthDigits_44 : decode cX1_worthDigits 44 = .ok (.iload_n 1, 1) := by decide +kernel
theorem dX1_worthDigits_45 : decode cX1_worthDigits 45 = .ok (.aaload, 1) := by decide +kernel
theorem dX1_worthDigits_46 : decode cX1_worthDigits 46 = .ok (.invokevirtual 134, 3) := by decide +kernel
theorem dX1_worthDigits_49 : decode cX1_worthDigits 49 = .ok (.aload_n 0, 1) := by decide +kernel
theorem dX1_worthDigits_50 : decode cX1_worthDigits 50 = .ok (.iload_n 1, 1) := by decide +kernel
theorem dX1_worthDigits_51 : decode cX1_worthDigits 51 = .ok (.putfield 83, 3) := by decide +kernel
theorem dX1_worthDigits_54 : decode cX1_worthDigits 54 = .ok (.iload_n 2, 1) := by decide +kernel
theorem dX1_worthDigits_55 : decode cX1_worthDigits 55 = .ok (.iconst (-1), 1) := by decide +kernel
theorem dX1_worthDigits_56 : decode cX1_worthDigits 56 = .ok (.if_icmp .ne 11, 3) := by decide +kernel
theorem dX1_worthDigits_59 : decode cX1_worthDigits 59 = .ok (.aload_n 0, 1) := by decide +kernel
theorem dX1_worthDigits_60 : decode cX1_worthDigits 60 = .ok (.getfield 163, 3) := by decide +kernel
theorem dX1_worthDigits_63 : decode cX1_worthDigits 63 = .ok (.i2l, 1) := by decide +kernel
theorem dX1_worthDigits_64 : decode cX1_worthDigits 64 = .ok (.goto 11, 3) := by decide +kernel
theorem dX1_worthDigits_67 : decode cX1_worthDigits 67 = .ok (.aload_n 0, 1) := by decide +kernel
theorem dX1_worthDigits_68 : decode cX1_worthDigits 68 = .ok (.getfield 65, 3) := by decide +kernel
theorem dX1_worthDigits_71 : decode cX1_worthDigits 71 = .ok (.iload_n 2, 1) := by decide +kernel
theorem dX1_worthDigits_72 : decode cX1_worthDigits 72 = .ok (.invokevirtual 145, 3) := by decide +kernel
theorem dX1_worthDigits_75 : decode cX1_worthDigits 75 = .ok (.lreturn, 1) := by decide +kernel
set_option maxRecDepth 20000 in
theorem v_X1_init_0 {g : xG} {post : xPost} {h : xHp} {nx : Nat} {x0 : Nat} {x1 : Nat} {x2 : Nat} {x3 : Nat} {x4 : Nat} (V : (h x0 = some (xo 2 [.int (nI 0), .null, .null, .null, .null, .null, .null, .null, .null, .null, .null, .null, .null, .int (nI 0), .int (nI 0), .int (nI 0), .int (nI 0), .int (nI 0)]) ∧ (x0 ≠ nx ∧ (x0 ≠ (nx + 1) ∧ (nx ≠ (nx + 1) ∧ 0 < 6 ∧ 6 < 2 ^ 31 ∧ (x0 ≠ ((nx + 1) + 1) ∧ Blk g M_X1_init post 60 [(0, .ref x0), (1, .int (nI x1)), (5, .int (nI 0))] [] (xup (xup (xup (xup (xup (xup (xup (xup h x0 (xo 2 [.int (nI x1), .ref x2, .ref x3, .ref x4, .null, .null, .null, .null, .null, .null, .null, .null, .null, .int (nI 0), .int (nI 0), .int (nI 0), .int (nI 0), .int (nI 0)])) nx (xna 6 (fun _ => 0))) x0 (xo 2 [.int (nI x1), .ref x2, .ref x3, .ref x4, .ref nx, .null, .null, .null, .null, .null, .null, .null, .null, .int (nI 0), .int (nI 0), .int (nI 0), .int (nI 0), .int (nI 0)])) (nx + 1) (xna 6 (fun _ => 0))) x0 (xo 2 [.int (nI x1), .ref x2, .ref x3, .ref x4, .ref nx, .ref (nx + 1), .null, .null, .null, .null, .null, .null, .null, .int (nI 0), .int (nI 0), .int (nI 0), .int (nI 0), .int (nI 0)])) nx (xna 6 (va_up (fun _ => 0) 0 1))) ((nx + 1) + 1) (xra 6 12 (fun _ => none))) x0 (xo 2 [.int (nI x1), .ref x2, .ref x3, .ref x4, .ref nx, .ref (nx + 1), .ref ((nx + 1) + 1), .null, .null, .null, .null, .null, .null, .int (nI 0), .int (nI 0), .int (nI 0), .int (nI 0), .int (nI 0)])) (((nx + 1) + 1) + 1) 3 24)))))) : Blk g M_X1_init post 0 [(0, .ref x0), (1, .int (nI x1)), (2, .ref x2), (3, .ref x3), (4, .ref x4)] [] h nx 0 0 := by
  refine r_aload_n 0 dX1_init_0 rfl rfl ?_
  refine r_oinit wM_X1_3 wi_java_lang_Object__init____V wc_java_lang_Object__init____V dX1_init_1 (by decide) (Nat.le_of_ble_eq_true rfl) ?_
  refine r_aload_n 0 dX1_init_4 rfl rfl ?_
  refine r_iload_n 1 dX1_init_5 rfl rfl ?_
  obtain ⟨q1, V⟩ := V
  refine r_putF (ci := 2) (kf := 0) (T := TX1) rfl in_X1 tyX1_ok nmX1 (by decide) wF_X1_9 rfl rfl rfl (tyX1_ok 0 (by decide)) dX1_init_6 q1 (Nat.le_of_ble_eq_true rfl) rfl rfl ?_
  show Blk g M_X1_init post 9 [(0, .ref x0), (1, .int (nI x1)), (2, .ref x2), (3, .ref x3), (4, .ref x4)] [] (xup h x0 (xo 2 [.int (nI x1), .null, .null, .null, .null, .null, .null, .null, .null, .null, .null, .null, .null, .int (nI 0), .int (nI 0), .int (nI 0), .int (nI 0), .int (nI 0)])) nx 0 0
  refine r_aload_n 0 dX1_init_9 rfl rfl ?_
  refine r_aload_n 2 dX1_init_10 rfl rfl ?_
  refine r_putF (ci := 2) (kf := 1) (T := TX1) rfl in_X1 tyX1_ok nmX1 (by decide) wF_X1_15 rfl rfl rfl (tyX1_ok 1 (by decide)) dX1_init_11 (xup_s _ _ _) (Nat.le_of_ble_eq_true rfl) rfl rfl ?_
  show Blk g M_X1_init post 14 [(0, .ref x0), (1, .int (nI x1)), (2, .ref x2), (3, .ref x3), (4, .ref x4)] [] (xup (xup h x0 (xo 2 [.int (nI x1), .null, .null, .null, .null, .null, .null, .null, .null, .null, .null, .null, .null, .int (nI 0), .int (nI 0), .int (nI 0), .int (nI 0), .int (nI 0)])) x0 (xo 2 [.int (nI x1), .ref x2, .null, .null, .null, .null, .null, .null, .null, .null, .null, .null, .null, .int (nI 0), .int (nI 0), .int (nI 0), .int (nI 0), .int (nI 0)])) nx 0 0
  rw [xup_up]
  show Blk g M_X1_init post 14 [(0, .ref x0), (1, .int (nI x1)), (2, .ref x2), (3, .ref x3), (4, .ref x4)] [] (xup h x0 (xo 2 [.int (nI x1), .ref x2, .null, .null, .null, .null, .null, .null, .null, .null, .null, .null, .null, .int (nI 0), .int (nI 0), .int (nI 0), .int (nI 0), .int (nI 0)])) nx 0 0
  refine r_aload_n 0 dX1_init_14 rfl rfl ?_
  refine r_aload_n 3 dX1_init_15 rfl rfl ?_
  refine r_putF (ci := 2) (kf := 2) (T := TX1) rfl in_X1 tyX1_ok nmX1 (by decide) wF_X1_19 rfl rfl rfl (tyX1_ok 2 (by decide)) dX1_init_16 (xup_s _ _ _) (Nat.le_of_ble_eq_true rfl) rfl rfl ?_
  show Blk g M_X1_init post 19 [(0, .ref x0), (1, .int (nI x1)), (2, .ref x2), (3, .ref x3), (4, .ref x4)] [] (xup (xup h x0 (xo 2 [.int (nI x1), .ref x2, .null, .null, .null, .null, .null, .null, .null, .null, .null, .null, .null, .int (nI 0), .int (nI 0), .int (nI 0), .int (nI 0), .int (nI 0)])) x0 (xo 2 [.int (nI x1), .ref x2, .ref x3, .null, .null, .null, .null, .null, .null, .null, .null, .null, .null, .int (nI 0), .int (nI 0), .int (nI 0), .int (nI 0), .int (nI 0)])) nx 0 0
  rw [xup_up]
  show Blk g M_X1_init post 19 [(0, .ref x0), (1, .int (nI x1)), (2, .ref x2), (3, .ref x3), (4, .ref x4)] [] (xup h x0 (xo 2 [.int (nI x1), .ref x2, .ref x3, .null, .null, .null, .null, .null, .null, .null, .null, .null, .null, .int (nI 0), .int (nI 0), .int (nI 0), .int (nI 0), .int (nI 0)])) nx 0 0
  refine r_aload_n 0 dX1_init_19 rfl rfl ?_
  refine r_aload 4 dX1_init_20 rfl ?_
  refine r_putF (ci := 2) (kf := 3) (T := TX1) rfl in_X1 tyX1_ok nmX1 (by decide) wF_X1_23 rfl rfl rfl (tyX1_ok 3 (by decide)) dX1_init_22 (xup_s _ _ _) (Nat.le_of_ble_eq_true rfl) rfl rfl ?_
  show Blk g M_X1_init post 25 [(0, .ref x0), (1, .int (nI x1)), (2, .ref x2), (3, .ref x3), (4, .ref x4)] [] (xup (xup h x0 (xo 2 [.int (nI x1), .ref x2, .ref x3, .null, .null, .null, .null, .null, .null, .null, .null, .null, .null, .int (nI 0), .int (nI 0), .int (nI 0), .int (nI 0), .int (nI 0)])) x0 (xo 2 [.int (nI x1), .ref x2, .ref x3, .ref x4, .null, .null, .null, .null, .null, .null, .null, .null, .null, .int (nI 0), .int (nI 0), .int (nI 0), .int (nI 0), .int (nI 0)])) nx 0 0
  rw [xup_up]
  show Blk g M_X1_init post 25 [(0, .ref x0), (1, .int (nI x1)), (2, .ref x2), (3, .ref x3), (4, .ref x4)] [] (xup h x0 (xo 2 [.int (nI x1), .ref x2, .ref x3, .ref x4, .null, .null, .null, .null, .null, .null, .null, .null, .null, .int (nI 0), .int (nI 0), .int (nI 0), .int (nI 0), .int (nI 0)])) nx 0 0
  refine r_aload_n 0 dX1_init_25 rfl rfl ?_
  refine r_bipush (v := (nI 6)) dX1_init_26 rfl ?_
  refine r_newi wA_int dX1_init_28 rfl (by decide) (by decide) (by decide) ?_
  show Blk g M_X1_init post 30 [(0, .ref x0), (1, .int (nI x1)), (2, .ref x2), (3, .ref x3), (4, .ref x4)] [.ref nx, .ref x0] (xup (xup h x0 (xo 2 [.int (nI x1), .ref x2, .ref x3, .ref x4, .null, .null, .null, .null, .null, .null, .null, .null, .null, .int (nI 0), .int (nI 0), .int (nI 0), .int (nI 0), .int (nI 0)])) nx (xna 6 (fun _ => 0))) (nx + 1) 1 6
  obtain ⟨n2, V⟩ := V
  have q3 : (xup (xup h x0 (xo 2 [.int (nI x1), .ref x2, .ref x3, .ref x4, .null, .null, .null, .null, .null, .null, .null, .null, .null, .int (nI 0), .int (nI 0), .int (nI 0), .int (nI 0), .int (nI 0)])) nx (xna 6 (fun _ => 0))) x0 = some (xo 2 [.int (nI x1), .ref x2, .ref x3, .ref x4, .null, .null, .null, .null, .null, .null, .null, .null, .null, .int (nI 0), .int (nI 0), .int (nI 0), .int (nI 0), .int (nI 0)]) := (xup_n n2).trans (xup_s _ _ _)
  refine r_putF (ci := 2) (kf := 4) (T := TX1) rfl in_X1 tyX1_ok nmX1 (by decide) wF_X1_26 rfl rfl rfl (tyX1_ok 4 (by decide)) dX1_init_30 q3 (Nat.le_of_ble_eq_true rfl) rfl rfl ?_
  show Blk g M_X1_init post 33 [(0, .ref x0), (1, .int (nI x1)), (2, .ref x2), (3, .ref x3), (4, .ref x4)] [] (xup (xup (xup h x0 (xo 2 [.int (nI x1), .ref x2, .ref x3, .ref x4, .null, .null, .null, .null, .null, .null, .null, .null, .null, .int (nI 0), .int (nI 0), .int (nI 0), .int (nI 0), .int (nI 0)])) nx (xna 6 (fun _ => 0))) x0 (xo 2 [.int (nI x1), .ref x2, .ref x3, .ref x4, .ref nx, .null, .null, .null, .null, .null, .null, .null, .null, .int (nI 0), .int (nI 0), .int (nI 0), .int (nI 0), .int (nI 0)])) (nx + 1) 1 6
  refine r_aload_n 0 dX1_init_33 rfl rfl ?_
  refine r_bipush (v := (nI 6)) dX1_init_34 rfl ?_
  refine r_newi wA_int dX1_init_36 rfl (by decide) (by decide) (by decide) ?_
  show Blk g M_X1_init post 38 [(0, .ref x0), (1, .int (nI x1)), (2, .ref x2), (3, .ref x3), (4, .ref x4)] [.ref (nx + 1), .ref x0] (xup (xup (xup (xup h x0 (xo 2 [.int (nI x1), .ref x2, .ref x3, .ref x4, .null, .null, .null, .null, .null, .null, .null, .null, .null, .int (nI 0), .int (nI 0), .int (nI 0), .int (nI 0), .int (nI 0)])) nx (xna 6 (fun _ => 0))) x0 (xo 2 [.int (nI x1), .ref x2, .ref x3, .ref x4, .ref nx, .null, .null, .null, .null, .null, .null, .null, .null, .int (nI 0), .int (nI 0), .int (nI 0), .int (nI 0), .int (nI 0)])) (nx + 1) (xna 6 (fun _ => 0))) ((nx + 1) + 1) 2 12
  obtain ⟨n4, V⟩ := V
  have q5 : (xup (xup (xup (xup h x0 (xo 2 [.int (nI x1), .ref x2, .ref x3, .ref x4, .null, .null, .null, .null, .null, .null, .null, .null, .null, .int (nI 0), .int (nI 0), .int (nI 0), .int (nI 0), .int (nI 0)])) nx (xna 6 (fun _ => 0))) x0 (xo 2 [.int (nI x1), .ref x2, .ref x3, .ref x4, .ref nx, .null, .null, .null, .null, .null, .null, .null, .null, .int (nI 0), .int (nI 0), .int (nI 0), .int (nI 0), .int (nI 0)])) (nx + 1) (xna 6 (fun _ => 0))) x0 = some (xo 2 [.int (nI x1), .ref x2, .ref x3, .ref x4, .ref nx, .null, .null, .null, .null, .null, .null, .null, .null, .int (nI 0), .int (nI 0), .int (nI 0), .int (nI 0), .int (nI 0)]) := (xup_n n4).trans (xup_s _ _ _)
  refine r_putF (ci := 2) (kf := 5) (T := TX1) rfl in_X1 tyX1_ok nmX1 (by decide) wF_X1_30 rfl rfl rfl (tyX1_ok 5 (by decide)) dX1_init_38 q5 (Nat.le_of_ble_eq_true rfl) rfl rfl ?_
  show Blk g M_X1_init post 41 [(0, .ref x0), (1, .int (nI x1)), (2, .ref x2), (3, .ref x3), (4, .ref x4)] [] (xup (xup (xup (xup (xup h x0 (xo 2 [.int (nI x1), .ref x2, .ref x3, .ref x4, .null, .null, .null, .null, .null, .null, .null, .null, .null, .int (nI 0), .int (nI 0), .int (nI 0), .int (nI 0), .int (nI 0)])) nx (xna 6 (fun _ => 0))) x0 (xo 2 [.int (nI x1), .ref x2, .ref x3, .ref x4, .ref nx, .null, .null, .null, .null, .null, .null, .null, .null, .int (nI 0), .int (nI 0), .int (nI 0), .int (nI 0), .int (nI 0)])) (nx + 1) (xna 6 (fun _ => 0))) x0 (xo 2 [.int (nI x1), .ref x2, .ref x3, .ref x4, .ref nx, .ref (nx + 1), .null, .null, .null, .null, .null, .null, .null, .int (nI 0), .int (nI 0), .int (nI 0), .int (nI 0), .int (nI 0)])) ((nx + 1) + 1) 2 12
  refine r_aload_n 0 dX1_init_41 rfl rfl ?_
  refine r_getf (ci := 2) (kf := 4) (T := TX1) rfl in_X1 (by decide) wF_X1_26 dX1_init_42 (xup_s _ _ _) rfl ?_
  refine r_iconst (v := (nI 0)) dX1_init_45 rfl ?_
  refine r_iconst (v := (nI 1)) dX1_init_46 rfl ?_
  have q6 : (xup (xup (xup h x0 (xo 2 [.int (nI x1), .ref x2, .ref x3, .ref x4, .null, .null, .null, .null, .null, .null, .null, .null, .null, .int (nI 0), .int (nI 0), .int (nI 0), .int (nI 0), .int (nI 0)])) nx (xna 6 (fun _ => 0))) x0 (xo 2 [.int (nI x1), .ref x2, .ref x3, .ref x4, .ref nx, .null, .null, .null, .null, .null, .null, .null, .null, .int (nI 0), .int (nI 0), .int (nI 0), .int (nI 0), .int (nI 0)])) nx = some (xna 6 (fun _ => 0)) := (xup_n (x_apart (xup_s _ _ _) q3 x_ao)).trans (xup_s _ _ _)
  obtain ⟨n7, V⟩ := V
  have q8 : (xup (xup (xup (xup h x0 (xo 2 [.int (nI x1), .ref x2, .ref x3, .ref x4, .null, .null, .null, .null, .null, .null, .null, .null, .null, .int (nI 0), .int (nI 0), .int (nI 0), .int (nI 0), .int (nI 0)])) nx (xna 6 (fun _ => 0))) x0 (xo 2 [.int (nI x1), .ref x2, .ref x3, .ref x4, .ref nx, .null, .null, .null, .null, .null, .null, .null, .null, .int (nI 0), .int (nI 0), .int (nI 0), .int (nI 0), .int (nI 0)])) (nx + 1) (xna 6 (fun _ => 0))) nx = some (xna 6 (fun _ => 0)) := (xup_n n7).trans q6
  have q9 : (xup (xup (xup (xup (xup h x0 (xo 2 [.int (nI x1), .ref x2, .ref x3, .ref x4, .null, .null, .null, .null, .null, .null, .null, .null, .null, .int (nI 0), .int (nI 0), .int (nI 0), .int (nI 0), .int (nI 0)])) nx (xna 6 (fun _ => 0))) x0 (xo 2 [.int (nI x1), .ref x2, .ref x3, .ref x4, .ref nx, .null, .null, .null, .null, .null, .null, .null, .null, .int (nI 0), .int (nI 0), .int (nI 0), .int (nI 0), .int (nI 0)])) (nx + 1) (xna 6 (fun _ => 0))) x0 (xo 2 [.int (nI x1), .ref x2, .ref x3, .ref x4, .ref nx, .ref (nx + 1), .null, .null, .null, .null, .null, .null, .null, .int (nI 0), .int (nI 0), .int (nI 0), .int (nI 0), .int (nI 0)])) nx = some (xna 6 (fun _ => 0)) := (xup_n (x_apart q8 q5 x_ao)).trans q8
  obtain ⟨c, cN, V⟩ := V
  refine r_iastN dX1_init_47 q9 c cN ?_
  show Blk g M_X1_init post 48 [(0, .ref x0), (1, .int (nI x1)), (2, .ref x2), (3, .ref x3), (4, .ref x4)] [] (xup (xup (xup (xup (xup (xup h x0 (xo 2 [.int (nI x1), .ref x2, .ref x3, .ref x4, .null, .null, .null, .null, .null, .null, .null, .null, .null, .int (nI 0), .int (nI 0), .int (nI 0), .int (nI 0), .int (nI 0)])) nx (xna 6 (fun _ => 0))) x0 (xo 2 [.int (nI x1), .ref x2, .ref x3, .ref x4, .ref nx, .null, .null, .null, .null, .null, .null, .null, .null, .int (nI 0), .int (nI 0), .int (nI 0), .int (nI 0), .int (nI 0)])) (nx + 1) (xna 6 (fun _ => 0))) x0 (xo 2 [.int (nI x1), .ref x2, .ref x3, .ref x4, .ref nx, .ref (nx + 1), .null, .null, .null, .null, .null, .null, .null, .int (nI 0), .int (nI 0), .int (nI 0), .int (nI 0), .int (nI 0)])) nx (xna 6 (va_up (fun _ => 0) 0 1))) ((nx + 1) + 1) 2 12
  refine r_aload_n 0 dX1_init_48 rfl rfl ?_
  refine r_bipush (v := (nI 12)) dX1_init_49 rfl ?_
  refine r_anew (kd := 6) (C0 := RX5) (fun _ => rfl) (fun _ q => q.2.1.2.2) wC_X1_33 dX1_init_51 rfl (by decide) (by decide) (by decide) ?_
  show Blk g M_X1_init post 54 [(0, .ref x0), (1, .int (nI x1)), (2, .ref x2), (3, .ref x3), (4, .ref x4)] [.ref ((nx + 1) + 1), .ref x0] (xup (xup (xup (xup (xup (xup (xup h x0 (xo 2 [.int (nI x1), .ref x2, .ref x3, .ref x4, .null, .null, .null, .null, .null, .null, .null, .null, .null, .int (nI 0), .int (nI 0), .int (nI 0), .int (nI 0), .int (nI 0)])) nx (xna 6 (fun _ => 0))) x0 (xo 2 [.int (nI x1), .ref x2, .ref x3, .ref x4, .ref nx, .null, .null, .null, .null, .null, .null, .null, .null, .int (nI 0), .int (nI 0), .int (nI 0), .int (nI 0), .int (nI 0)])) (nx + 1) (xna 6 (fun _ => 0))) x0 (xo 2 [.int (nI x1), .ref x2, .ref x3, .ref x4, .ref nx, .ref (nx + 1), .null, .null, .null, .null, .null, .null, .null, .int (nI 0), .int (nI 0), .int (nI 0), .int (nI 0), .int (nI 0)])) nx (xna 6 (va_up (fun _ => 0) 0 1))) ((nx + 1) + 1) (xra 6 12 (fun _ => none))) (((nx + 1) + 1) + 1) 3 24
  have q10 : (xup (xup (xup (xup (xup (xup h x0 (xo 2 [.int (nI x1), .ref x2, .ref x3, .ref x4, .null, .null, .null, .null, .null, .null, .null, .null, .null, .int (nI 0), .int (nI 0), .int (nI 0), .int (nI 0), .int (nI 0)])) nx (xna 6 (fun _ => 0))) x0 (xo 2 [.int (nI x1), .ref x2, .ref x3, .ref x4, .ref nx, .null, .null, .null, .null, .null, .null, .null, .null, .int (nI 0), .int (nI 0), .int (nI 0), .int (nI 0), .int (nI 0)])) (nx + 1) (xna 6 (fun _ => 0))) x0 (xo 2 [.int (nI x1), .ref x2, .ref x3, .ref x4, .ref nx, .ref (nx + 1), .null, .null, .null, .null, .null, .null, .null, .int (nI 0), .int (nI 0), .int (nI 0), .int (nI 0), .int (nI 0)])) nx (xna 6 (va_up (fun _ => 0) 0 1))) x0 = some (xo 2 [.int (nI x1), .ref x2, .ref x3, .ref x4, .ref nx, .ref (nx + 1), .null, .null, .null, .null, .null, .null, .null, .int (nI 0), .int (nI 0), .int (nI 0), .int (nI 0), .int (nI 0)]) := (xup_n (x_apart (xup_s _ _ _) q9 x_oa)).trans (xup_s _ _ _)
  obtain ⟨n11, V⟩ := V
  have q12 : (xup (xup (xup (xup (xup (xup (xup h x0 (xo 2 [.int (nI x1), .ref x2, .ref x3, .ref x4, .null, .null, .null, .null, .null, .null, .null, .null, .null, .int (nI 0), .int (nI 0), .int (nI 0), .int (nI 0), .int (nI 0)])) nx (xna 6 (fun _ => 0))) x0 (xo 2 [.int (nI x1), .ref x2, .ref x3, .ref x4, .ref nx, .null, .null, .null, .null, .null, .null, .null, .null, .int (nI 0), .int (nI 0), .int (nI 0), .int (nI 0), .int (nI 0)])) (nx + 1) (xna 6 (fun _ => 0))) x0 (xo 2 [.int (nI x1), .ref x2, .ref x3, .ref x4, .ref nx, .ref (nx + 1), .null, .null, .null, .null, .null, .null, .null, .int (nI 0), .int (nI 0), .int (nI 0), .int (nI 0), .int (nI 0)])) nx (xna 6 (va_up (fun _ => 0) 0 1))) ((nx + 1) + 1) (xra 6 12 (fun _ => none))) x0 = some (xo 2 [.int (nI x1), .ref x2, .ref x3, .ref x4, .ref nx, .ref (nx + 1), .null, .null, .null, .null, .null, .null, .null, .int (nI 0), .int (nI 0), .int (nI 0), .int (nI 0), .int (nI 0)]) := (xup_n n11).trans q10
  refine r_putF (ci := 2) (kf := 6) (T := TX1) rfl in_X1 tyX1_ok nmX1 (by decide) wF_X1_35 rfl rfl rfl (tyX1_ok 6 (by decide)) dX1_init_54 q12 (Nat.le_of_ble_eq_true rfl) rfl rfl ?_
  show Blk g M_X1_init post 57 [(0, .ref x0), (1, .int (nI x1)), (2, .ref x2), (3, .ref x3), (4, .ref x4)] [] (xup (xup (xup (xup (xup (xup (xup (xup h x0 (xo 2 [.int (nI x1), .ref x2, .ref x3, .ref x4, .null, .null, .null, .null, .null, .null, .null, .null, .null, .int (nI 0), .int (nI 0), .int (nI 0), .int (nI 0), .int (nI 0)])) nx (xna 6 (fun _ => 0))) x0 (xo 2 [.int (nI x1), .ref x2, .ref x3, .ref x4, .ref nx, .null, .null, .null, .null, .null, .null, .null, .null, .int (nI 0), .int (nI 0), .int (nI 0), .int (nI 0), .int (nI 0)])) (nx + 1) (xna 6 (fun _ => 0))) x0 (xo 2 [.int (nI x1), .ref x2, .ref x3, .ref x4, .ref nx, .ref (nx + 1), .null, .null, .null, .null, .null, .null, .null, .int (nI 0), .int (nI 0), .int (nI 0), .int (nI 0), .int (nI 0)])) nx (xna 6 (va_up (fun _ => 0) 0 1))) ((nx + 1) + 1) (xra 6 12 (fun _ => none))) x0 (xo 2 [.int (nI x1), .ref x2, .ref x3, .ref x4, .ref nx, .ref (nx + 1), .ref ((nx + 1) + 1), .null, .null, .null, .null, .null, .null, .int (nI 0), .int (nI 0), .int (nI 0), .int (nI 0), .int (nI 0)])) (((nx + 1) + 1) + 1) 3 24
  refine r_iconst (v := (nI 0)) dX1_init_57 rfl ?_
  refine r_istore (L' := [(5, .int (nI 0)), (0, .ref x0), (1, .int (nI x1)), (2, .ref x2), (3, .ref x3), (4, .ref x4)]) dX1_init_58 (by decide) rfl ?_
  exact Blk.sub [1, 2, 0] rfl V
set_option maxRecDepth 20000 in
theorem v_X1_init_60 {g : xG} {post : xPost} {h : xHp} {nx : Nat} {cu su : Nat} {x0 : Nat} {x1 : Nat} {x5 : Nat} (V : ((x5 < 2 ^ 31 ∧ 12 < 2 ^ 31) ∧ ((12 ≤ x5 → (72 ≤ 1000000 ∧ cu + 1 ≤ 600 ∧ su + 72 ≤ 30000 ∧ (∃ (o2 : Nat) (o3 : Nat) (o4 : Nat) (o5 : Nat) (o6 : Nat) (o7 : Nat) (o8 : Nat), h x0 = some (xo 2 [.int (nI o2), .ref o3, .ref o4, .ref o5, .ref o6, .ref o7, .ref o8, .null, .null, .null, .null, .null, .null, .int (nI 0), .int (nI 0), .int (nI 0), .int (nI 0), .int (nI 0)]) ∧ x0 ≠ nx ∧ Blk g M_X1_init post 102 [(0, .ref x0), (5, .int (nI 0))] [] (xup (xup h nx (xra 5 72 (fun _ => none))) x0 (xo 2 [.int (nI o2), .ref o3, .ref o4, .ref o5, .ref o6, .ref o7, .ref o8, .ref nx, .null, .null, .null, .null, .null, .int (nI 0), .int (nI 0), .int (nI 0), .int (nI 0), .int (nI 0)])) (nx + 1) (cu + 1) (su + 72)))) ∧ (x5 < 12 → (∃ (o12 : Nat) (o13 : Nat) (o14 : Nat) (o15 : Nat) (o16 : Nat) (o17 : Nat) (o18 : Nat), h x0 = some (xo 2 [.int (nI o12), .ref o13, .ref o14, .ref o15, .ref o16, .ref o17, .ref o18, .null, .null, .null, .null, .null, .null, .int (nI 0), .int (nI 0), .int (nI 0), .int (nI 0), .int (nI 0)]) ∧ (cu + 1 ≤ 600 ∧ su + 3 ≤ 30000 ∧ ((cu + 1) + 16 ≤ 600 ∧ (su + 3) + 972 ≤ 30000 ∧ Ct g M_X5_init [.ref nx, .int (nI x1), .int (nI 112)] (xup h nx (xo 6 [.null, .null, .null])) (nx + 1) (fun r h19 n20 => r = none ∧ (∃ (N22 : Nat) (f23 : Nat → Option Nat), h19 o18 = some (xra 6 N22 f23) ∧ ∃ (o25 : Nat) (o26 : Nat) (o27 : Nat), h19 nx = some (xo 6 [.ref o25, .ref o26, .ref o27]) ∧ x5 < N22 ∧ N22 < 2 ^ 31 ∧ Blk g M_X1_init post 60 [(0, .ref x0), (1, .int (nI x1)), (5, .int (nI (x5 + 1)))] [] (xup h19 o18 (xra 6 N22 (va_up f23 x5 (some nx)))) n20 ((cu + 1) + 16) ((su + 3) + 972)))))))))) : Blk g M_X1_init post 60 [(0, .ref x0), (1, .int (nI x1)), (5, .int (nI x5))] [] h nx cu su := by
  refine r_iload 2 dX1_init_60 rfl ?_
  refine r_bipush (v := (nI 12)) dX1_init_62 rfl ?_
  obtain ⟨c, V⟩ := V
  refine r_icmp_geN (tgt := 90) dX1_init_64 (by decide) c (fun c => ?_) (fun c => ?_)
  · have V := V.1 c
    refine r_aload_n 0 dX1_init_90 rfl rfl ?_
    refine r_bipush (v := (nI 72)) dX1_init_91 rfl ?_
    obtain ⟨c, c3, c4, V⟩ := V
    refine r_anew (kd := 5) (C0 := RX2) (fun _ => rfl) (fun _ q => q.2.1.2.1) wC_X1_42 dX1_init_93 rfl c c3 c4 ?_
    show Blk g M_X1_init post 96 [(0, .ref x0), (1, .int (nI x1)), (5, .int (nI x5))] [.ref nx, .ref x0] (xup h nx (xra 5 72 (fun _ => none))) (nx + 1) (cu + 1) (su + 72)
    obtain ⟨o2, o3, o4, o5, o6, o7, o8, q1, V⟩ := V
    obtain ⟨n9, V⟩ := V
    have q10 : (xup h nx (xra 5 72 (fun _ => none))) x0 = some (xo 2 [.int (nI o2), .ref o3, .ref o4, .ref o5, .ref o6, .ref o7, .ref o8, .null, .null, .null, .null, .null, .null, .int (nI 0), .int (nI 0), .int (nI 0), .int (nI 0), .int (nI 0)]) := (xup_n n9).trans q1
    refine r_putF (ci := 2) (kf := 7) (T := TX1) rfl in_X1 tyX1_ok nmX1 (by decide) wF_X1_44 rfl rfl rfl (tyX1_ok 7 (by decide)) dX1_init_96 q10 (Nat.le_of_ble_eq_true rfl) rfl rfl ?_
    show Blk g M_X1_init post 99 [(0, .ref x0), (1, .int (nI x1)), (5, .int (nI x5))] [] (xup (xup h nx (xra 5 72 (fun _ => none))) x0 (xo 2 [.int (nI o2), .ref o3, .ref o4, .ref o5, .ref o6, .ref o7, .ref o8, .ref nx, .null, .null, .null, .null, .null, .int (nI 0), .int (nI 0), .int (nI 0), .int (nI 0), .int (nI 0)])) (nx + 1) (cu + 1) (su + 72)
    refine r_iconst (v := (nI 0)) dX1_init_99 rfl ?_
    refine r_istore (L' := [(5, .int (nI 0)), (0, .ref x0), (1, .int (nI x1))]) dX1_init_100 (by decide) rfl ?_
    exact Blk.sub [1, 0] rfl V
  · have V := V.2 c
    refine r_aload_n 0 dX1_init_67 rfl rfl ?_
    obtain ⟨o12, o13, o14, o15, o16, o17, o18, q11, V⟩ := V
    refine r_getf (ci := 2) (kf := 6) (T := TX1) rfl in_X1 (by decide) wF_X1_35 dX1_init_68 q11 rfl ?_
    refine r_iload 2 dX1_init_71 rfl ?_
    obtain ⟨a3, a4, V⟩ := V
    refine r_new (ci := 6) (N := 3) (fs := [.null, .null, .null]) (T := TX5) rfl in_X5 tyX5_ok wC_X1_33 wN_StateShares_Row wI_StateShares_Row dX1_init_73 df_X5 a3 a4 ?_
    show Blk g M_X1_init post 76 [(0, .ref x0), (1, .int (nI x1)), (5, .int (nI x5))] [.ref nx, .int (nI x5), .ref o18] (xup h nx (xo 6 [.null, .null, .null])) (nx + 1) (cu + 1) (su + 3)
    refine r_dup dX1_init_76 rfl ?_
    refine r_iload_n 1 dX1_init_77 rfl rfl ?_
    refine r_bipush (v := (nI 112)) dX1_init_78 rfl ?_
    obtain ⟨a3, a4, V⟩ := V
    refine r_callI (M2 := M_X5_init) (n := 2) (As := [.int (nI x1), .int (nI 112)]) (wl4 wM_X1_39 wi_X5_init wI_StateShares_Row wc_X5_init) rfl rfl (by decide +kernel) (by decide) rfl rfl (Nat.le_of_ble_eq_true rfl) dX1_init_80 a3 a4 (Ct.imp V (fun r h19 n20 V => ?_))
    obtain ⟨rfl, V⟩ := V
    show Blk g M_X1_init post 83 [(0, .ref x0), (1, .int (nI x1)), (5, .int (nI x5))] [.ref nx, .int (nI x5), .ref o18] h19 n20 ((cu + 1) + 16) ((su + 3) + 972)
    obtain ⟨N22, f23, q21, V⟩ := V
    obtain ⟨o25, o26, o27, q24, V⟩ := V
    obtain ⟨c, cN, V⟩ := V
    refine r_aast (kd := 6) (ci := 6) (r := (RX5, TX5, 3)) (fun _ => rfl) rfl dX1_init_83 q21 q24 rfl c cN ?_
    show Blk g M_X1_init post 84 [(0, .ref x0), (1, .int (nI x1)), (5, .int (nI x5))] [] (xup h19 o18 (xra 6 N22 (va_up f23 x5 (some nx)))) n20 ((cu + 1) + 16) ((su + 3) + 972)
    refine r_iincN 2 (b := 1) (L' := [(5, .int (nI (x5 + 1))), (0, .ref x0), (1, .int (nI x1))]) dX1_init_84 rfl rfl (by decide) rfl ?_
    refine r_goto (tgt := 60) dX1_init_87 (by decide) ?_
    exact Blk.sub [1, 2, 0] rfl V
set_option maxRecDepth 20000 in
theorem v_X1_init_102 {g : xG} {post : xPost} {h : xHp} {nx : Nat} {cu su : Nat} {x0 : Nat} {x5 : Nat} (V : (∃ (o2 : Nat) (o3 : Nat) (o4 : Nat) (o5 : Nat) (o6 : Nat) (o7 : Nat) (o8 : Nat) (o9 : Nat), h x0 = some (xo 2 [.int (nI o2), .ref o3, .ref o4, .ref o5, .ref o6, .ref o7, .ref o8, .ref o9, .null, .null, .null, .null, .null, .int (nI 0), .int (nI 0), .int (nI 0), .int (nI 0), .int (nI 0)]) ∧ (∃ (N11 : Nat) (f12 : Nat → Option Nat), h o9 = some (xra 5 N11 f12) ∧ ((x5 < 2 ^ 31 ∧ N11 < 2 ^ 31) ∧ ((N11 ≤ x5 → (6 ≤ 1000000 ∧ cu + 1 ≤ 600 ∧ su + 6 ≤ 30000 ∧ (x0 ≠ nx ∧ Blk g M_X1_init post 146 [(0, .ref x0), (5, .int (nI 0))] [] (xup (xup h nx (xra 4 6 (fun _ => none))) x0 (xo 2 [.int (nI o2), .ref o3, .ref o4, .ref o5, .ref o6, .ref o7, .ref o8, .ref o9, .ref nx, .null, .null, .null, .null, .int (nI 0), .int (nI 0), .int (nI 0), .int (nI 0), .int (nI 0)])) (nx + 1) (cu + 1) (su + 6)))) ∧ (x5 < N11 → (cu + 1 ≤ 600 ∧ su + 2 ≤ 30000 ∧ ((cu + 1) + 4 ≤ 600 ∧ (su + 2) + 228 ≤ 30000 ∧ Ct g M_X2_init [.ref nx, .int (nI 21)] (xup h nx (xo 3 [.null, .null])) (nx + 1) (fun r h15 n16 => r = none ∧ (∃ (N18 : Nat) (f19 : Nat → Option Nat), h15 o9 = some (xra 5 N18 f19) ∧ ∃ (o21 : Nat) (o22 : Nat), h15 nx = some (xo 3 [.ref o21, .ref o22]) ∧ x5 < N18 ∧ N18 < 2 ^ 31 ∧ Blk g M_X1_init post 102 [(0, .ref x0), (5, .int (nI (x5 + 1)))] [] (xup h15 o9 (xra 5 N18 (va_up f19 x5 (some nx)))) n16 ((cu + 1) + 4) ((su + 2) + 228))))))))))) : Blk g M_X1_init post 102 [(0, .ref x0), (5, .int (nI x5))] [] h nx cu su := by
  refine r_iload 1 dX1_init_102 rfl ?_
  refine r_aload_n 0 dX1_init_104 rfl rfl ?_
  obtain ⟨o2, o3, o4, o5, o6, o7, o8, o9, q1, V⟩ := V
  refine r_getf (ci := 2) (kf := 7) (T := TX1) rfl in_X1 (by decide) wF_X1_44 dX1_init_105 q1 rfl ?_
  obtain ⟨N11, f12, q10, V⟩ := V
  refine r_alen (kd := 5) (by decide) dX1_init_108 q10 ?_
  obtain ⟨c, V⟩ := V
  refine r_icmp_geN (tgt := 134) dX1_init_109 (by decide) c (fun c => ?_) (fun c => ?_)
  · have V := V.1 c
    refine r_aload_n 0 dX1_init_134 rfl rfl ?_
    refine r_bipush (v := (nI 6)) dX1_init_135 rfl ?_
    obtain ⟨c, c3, c4, V⟩ := V
    refine r_anew (kd := 4) (C0 := RX0) (fun _ => rfl) (fun _ q => q.2.1.1) wC_X1_51 dX1_init_137 rfl c c3 c4 ?_
    show Blk g M_X1_init post 140 [(0, .ref x0), (5, .int (nI x5))] [.ref nx, .ref x0] (xup h nx (xra 4 6 (fun _ => none))) (nx + 1) (cu + 1) (su + 6)
    obtain ⟨n13, V⟩ := V
    have q14 : (xup h nx (xra 4 6 (fun _ => none))) x0 = some (xo 2 [.int (nI o2), .ref o3, .ref o4, .ref o5, .ref o6, .ref o7, .ref o8, .ref o9, .null, .null, .null, .null, .null, .int (nI 0), .int (nI 0), .int (nI 0), .int (nI 0), .int (nI 0)]) := (xup_n n13).trans q1
    refine r_putF (ci := 2) (kf := 8) (T := TX1) rfl in_X1 tyX1_ok nmX1 (by decide) wF_X1_53 rfl rfl rfl (tyX1_ok 8 (by decide)) dX1_init_140 q14 (Nat.le_of_ble_eq_true rfl) rfl rfl ?_
    show Blk g M_X1_init post 143 [(0, .ref x0), (5, .int (nI x5))] [] (xup (xup h nx (xra 4 6 (fun _ => none))) x0 (xo 2 [.int (nI o2), .ref o3, .ref o4, .ref o5, .ref o6, .ref o7, .ref o8, .ref o9, .ref nx, .null, .null, .null, .null, .int (nI 0), .int (nI 0), .int (nI 0), .int (nI 0), .int (nI 0)])) (nx + 1) (cu + 1) (su + 6)
    refine r_iconst (v := (nI 0)) dX1_init_143 rfl ?_
    refine r_istore (L' := [(5, .int (nI 0)), (0, .ref x0)]) dX1_init_144 (by decide) rfl ?_
    exact Blk.sub [1, 0] rfl V
  · have V := V.2 c
    refine r_aload_n 0 dX1_init_112 rfl rfl ?_
    refine r_getf (ci := 2) (kf := 7) (T := TX1) rfl in_X1 (by decide) wF_X1_44 dX1_init_113 q1 rfl ?_
    refine r_iload 1 dX1_init_116 rfl ?_
    obtain ⟨a3, a4, V⟩ := V
    refine r_new (ci := 3) (N := 2) (fs := [.null, .null]) (T := TX2) rfl in_X2 tyX2_ok wC_X1_42 wN_StateShares_Fraction wI_StateShares_Fraction dX1_init_118 df_X2 a3 a4 ?_
    show Blk g M_X1_init post 121 [(0, .ref x0), (5, .int (nI x5))] [.ref nx, .int (nI x5), .ref o9] (xup h nx (xo 3 [.null, .null])) (nx + 1) (cu + 1) (su + 2)
    refine r_dup dX1_init_121 rfl ?_
    refine r_bipush (v := (nI 21)) dX1_init_122 rfl ?_
    obtain ⟨a3, a4, V⟩ := V
    refine r_callI (M2 := M_X2_init) (n := 1) (As := [.int (nI 21)]) (wl4 wM_X1_48 wi_X2_init wI_StateShares_Fraction wc_X2_init) rfl rfl (by decide +kernel) (by decide) rfl rfl (Nat.le_of_ble_eq_true rfl) dX1_init_124 a3 a4 (Ct.imp V (fun r h15 n16 V => ?_))
    obtain ⟨rfl, V⟩ := V
    show Blk g M_X1_init post 127 [(0, .ref x0), (5, .int (nI x5))] [.ref nx, .int (nI x5), .ref o9] h15 n16 ((cu + 1) + 4) ((su + 2) + 228)
    obtain ⟨N18, f19, q17, V⟩ := V
    obtain ⟨o21, o22, q20, V⟩ := V
    obtain ⟨c, cN, V⟩ := V
    refine r_aast (kd := 5) (ci := 3) (r := (RX2, TX2, 2)) (fun _ => rfl) rfl dX1_init_127 q17 q20 rfl c cN ?_
    show Blk g M_X1_init post 128 [(0, .ref x0), (5, .int (nI x5))] [] (xup h15 o9 (xra 5 N18 (va_up f19 x5 (some nx)))) n16 ((cu + 1) + 4) ((su + 2) + 228)
    refine r_iincN 1 (b := 1) (L' := [(5, .int (nI (x5 + 1))), (0, .ref x0)]) dX1_init_128 rfl rfl (by decide) rfl ?_
    refine r_goto (tgt := 102) dX1_init_131 (by decide) ?_
    exact Blk.sub [1, 0] rfl V
set_option maxRecDepth 20000 in
theorem v_X1_init_146 {g : xG} {post : xPost} {h : xHp} {nx : Nat} {cu su : Nat} {x0 : Nat} {x5 : Nat} (V : ((x5 < 2 ^ 31 ∧ 6 < 2 ^ 31) ∧ ((6 ≤ x5 → (cu + 1 ≤ 600 ∧ su + 2 ≤ 30000 ∧ ((cu + 1) + 4 ≤ 600 ∧ (su + 2) + 228 ≤ 30000 ∧ Ct g M_X2_init [.ref nx, .int (nI 112)] (xup h nx (xo 3 [.null, .null])) (nx + 1) (fun r h1 n2 => r = none ∧ (∃ (o4 : Nat) (o5 : Nat) (o6 : Nat) (o7 : Nat) (o8 : Nat) (o9 : Nat) (o10 : Nat) (o11 : Nat) (o12 : Nat), h1 x0 = some (xo 2 [.int (nI o4), .ref o5, .ref o6, .ref o7, .ref o8, .ref o9, .ref o10, .ref o11, .ref o12, .null, .null, .null, .null, .int (nI 0), .int (nI 0), .int (nI 0), .int (nI 0), .int (nI 0)]) ∧ (6 ≤ 1000000 ∧ ((cu + 1) + 4) + 1 ≤ 600 ∧ ((su + 2) + 228) + 6 ≤ 30000 ∧ (x0 ≠ n2 ∧ ((((cu + 1) + 4) + 1) + 1 ≤ 600 ∧ (((su + 2) + 228) + 6) + 2 ≤ 30000 ∧ (((((cu + 1) + 4) + 1) + 1) + 4 ≤ 600 ∧ ((((su + 2) + 228) + 6) + 2) + 228 ≤ 30000 ∧ Ct g M_X2_init [.ref (n2 + 1), .int (nI 112)] (xup (xup (xup (xup h1 x0 (xo 2 [.int (nI o4), .ref o5, .ref o6, .ref o7, .ref o8, .ref o9, .ref o10, .ref o11, .ref o12, .ref nx, .null, .null, .null, .int (nI 0), .int (nI 0), .int (nI 0), .int (nI 0), .int (nI 0)])) n2 (xia 6 (fun _ => nI 0))) x0 (xo 2 [.int (nI o4), .ref o5, .ref o6, .ref o7, .ref o8, .ref o9, .ref o10, .ref o11, .ref o12, .ref nx, .null, .ref n2, .null, .int (nI 0), .int (nI 0), .int (nI 0), .int (nI 0), .int (nI 0)])) (n2 + 1) (xo 3 [.null, .null])) ((n2 + 1) + 1) (fun r h15 n16 => r = none ∧ (∃ (o18 : Nat) (o19 : Nat) (o20 : Nat) (o21 : Nat) (o22 : Nat) (o23 : Nat) (o24 : Nat) (o25 : Nat) (o26 : Nat) (o27 : Nat) (o28 : Nat), h15 x0 = some (xo 2 [.int (nI o18), .ref o19, .ref o20, .ref o21, .ref o22, .ref o23, .ref o24, .ref o25, .ref o26, .ref o27, .null, .ref o28, .null, .int (nI 0), .int (nI 0), .int (nI 0), .int (nI 0), .int (nI 0)]) ∧ ((((((cu + 1) + 4) + 1) + 1) + 4) + 1 ≤ 600 ∧ (((((su + 2) + 228) + 6) + 2) + 228) + 2 ≤ 30000 ∧ (((((((cu + 1) + 4) + 1) + 1) + 4) + 1) + 1 ≤ 600 ∧ ((((((su + 2) + 228) + 6) + 2) + 228) + 2) + 112 ≤ 30000 ∧ Ct g M_X0_init [.ref n16, .int (nI 21)] (xup (xup h15 x0 (xo 2 [.int (nI o18), .ref o19, .ref o20, .ref o21, .ref o22, .ref o23, .ref o24, .ref o25, .ref o26, .ref o27, .null, .ref o28, .ref (n2 + 1), .int (nI 0), .int (nI 0), .int (nI 0), .int (nI 0), .int (nI 0)])) n16 (xo 1 [.null, .int (nI 0)])) (n16 + 1) (fun r h29 n30 => r = none ∧ (∃ (o32 : Nat) (o33 : Nat) (o34 : Nat) (o35 : Nat) (o36 : Nat) (o37 : Nat) (o38 : Nat) (o39 : Nat) (o40 : Nat) (o41 : Nat) (o42 : Nat) (o43 : Nat), h29 x0 = some (xo 2 [.int (nI o32), .ref o33, .ref o34, .ref o35, .ref o36, .ref o37, .ref o38, .ref o39, .ref o40, .ref o41, .null, .ref o42, .ref o43, .int (nI 0), .int (nI 0), .int (nI 0), .int (nI 0), .int (nI 0)]) ∧ ((((((((cu + 1) + 4) + 1) + 1) + 4) + 1) + 1) + 0 ≤ 600 ∧ (((((((su + 2) + 228) + 6) + 2) + 228) + 2) + 112) + 0 ≤ 30000 ∧ ∃ (o47 : Nat) (o48 : Nat), h29 n16 = some (xo 1 [.ref o47, .int (nI o48)]) ∧ Ct g M_X0_set [.ref n16, .long (lN 1)] (xup h29 x0 (xo 2 [.int (nI o32), .ref o33, .ref o34, .ref o35, .ref o36, .ref o37, .ref o38, .ref o39, .ref o40, .ref o41, .ref n16, .ref o42, .ref o43, .int (nI 0), .int (nI 0), .int (nI 0), .int (nI 0), .int (nI 0)])) n30 (fun r h44 n45 => r = none ∧ Blk g M_X1_init post 241 [(0, .ref x0), (5, .int (nI 0))] [] h44 n45 (((((((cu + 1) + 4) + 1) + 1) + 4) + 1) + 1) (((((((su + 2) + 228) + 6) + 2) + 228) + 2) + 112)))))))))))))))))) ∧ (x5 < 6 → (∃ (o51 : Nat) (o52 : Nat) (o53 : Nat) (o54 : Nat) (o55 : Nat) (o56 : Nat) (o57 : Nat) (o58 : Nat) (o59 : Nat), h x0 = some (xo 2 [.int (nI o51), .ref o52, .ref o53, .ref o54, .ref o55, .ref o56, .ref o57, .ref o58, .ref o59, .null, .null, .null, .null, .int (nI 0), .int (nI 0), .int (nI 0), .int (nI 0), .int (nI 0)]) ∧ (∃ (N61 : Nat) (f62 : Nat → Nat), h o56 = some (xna N61 f62) ∧ x5 < N61 ∧ N61 < 2 ^ 31 ∧ (cu + 1 ≤ 600 ∧ su + 2 ≤ 30000 ∧ ((cu + 1) + 1 ≤ 600 ∧ (su + 2) + 112 ≤ 30000 ∧ Ct g M_X0_init [.ref nx, .int (nI 112)] (xup (xup h o56 (xna N61 (va_up f62 x5 1))) nx (xo 1 [.null, .int (nI 0)])) (nx + 1) (fun r h64 n65 => r = none ∧ (∃ (N67 : Nat) (f68 : Nat → Option Nat), h64 o59 = some (xra 4 N67 f68) ∧ ∃ (o70 : Nat) (o71 : Nat), h64 nx = some (xo 1 [.ref o70, .int (nI o71)]) ∧ x5 < N67 ∧ N67 < 2 ^ 31 ∧ Blk g M_X1_init post 146 [(0, .ref x0), (5, .int (nI (x5 + 1)))] [] (xup h64 o59 (xra 4 N67 (va_up f68 x5 (some nx)))) n65 ((cu + 1) + 1) ((su + 2) + 112))))))))))) : Blk g M_X1_init post 146 [(0, .ref x0), (5, .int (nI x5))] [] h nx cu su := by
  refine r_iload 1 dX1_init_146 rfl ?_
  refine r_bipush (v := (nI 6)) dX1_init_148 rfl ?_
  obtain ⟨c, V⟩ := V
  refine r_icmp_geN (tgt := 183) dX1_init_150 (by decide) c (fun c => ?_) (fun c => ?_)
  · have V := V.1 c
    refine r_aload_n 0 dX1_init_183 rfl rfl ?_
    obtain ⟨a3, a4, V⟩ := V
    refine r_new (ci := 3) (N := 2) (fs := [.null, .null]) (T := TX2) rfl in_X2 tyX2_ok wC_X1_42 wN_StateShares_Fraction wI_StateShares_Fraction dX1_init_184 df_X2 a3 a4 ?_
    show Blk g M_X1_init post 187 [(0, .ref x0), (5, .int (nI x5))] [.ref nx, .ref x0] (xup h nx (xo 3 [.null, .null])) (nx + 1) (cu + 1) (su + 2)
    refine r_dup dX1_init_187 rfl ?_
    refine r_bipush (v := (nI 112)) dX1_init_188 rfl ?_
    obtain ⟨a3, a4, V⟩ := V
    refine r_callI (M2 := M_X2_init) (n := 1) (As := [.int (nI 112)]) (wl4 wM_X1_48 wi_X2_init wI_StateShares_Fraction wc_X2_init) rfl rfl (by decide +kernel) (by decide) rfl rfl (Nat.le_of_ble_eq_true rfl) dX1_init_190 a3 a4 (Ct.imp V (fun r h1 n2 V => ?_))
    obtain ⟨rfl, V⟩ := V
    show Blk g M_X1_init post 193 [(0, .ref x0), (5, .int (nI x5))] [.ref nx, .ref x0] h1 n2 ((cu + 1) + 4) ((su + 2) + 228)
    obtain ⟨o4, o5, o6, o7, o8, o9, o10, o11, o12, q3, V⟩ := V
    refine r_putF (ci := 2) (kf := 9) (T := TX1) rfl in_X1 tyX1_ok nmX1 (by decide) wF_X1_58 rfl rfl rfl (tyX1_ok 9 (by decide)) dX1_init_193 q3 (Nat.le_of_ble_eq_true rfl) rfl rfl ?_
    show Blk g M_X1_init post 196 [(0, .ref x0), (5, .int (nI x5))] [] (xup h1 x0 (xo 2 [.int (nI o4), .ref o5, .ref o6, .ref o7, .ref o8, .ref o9, .ref o10, .ref o11, .ref o12, .ref nx, .null, .null, .null, .int (nI 0), .int (nI 0), .int (nI 0), .int (nI 0), .int (nI 0)])) n2 ((cu + 1) + 4) ((su + 2) + 228)
    refine r_aload_n 0 dX1_init_196 rfl rfl ?_
    refine r_bipush (v := (nI 6)) dX1_init_197 rfl ?_
    obtain ⟨c, c3, c4, V⟩ := V
    refine r_newi wA_int dX1_init_199 rfl c c3 c4 ?_
    show Blk g M_X1_init post 201 [(0, .ref x0), (5, .int (nI x5))] [.ref n2, .ref x0] (xup (xup h1 x0 (xo 2 [.int (nI o4), .ref o5, .ref o6, .ref o7, .ref o8, .ref o9, .ref o10, .ref o11, .ref o12, .ref nx, .null, .null, .null, .int (nI 0), .int (nI 0), .int (nI 0), .int (nI 0), .int (nI 0)])) n2 (xia 6 (fun _ => nI 0))) (n2 + 1) (((cu + 1) + 4) + 1) (((su + 2) + 228) + 6)
    obtain ⟨n13, V⟩ := V
    have q14 : (xup (xup h1 x0 (xo 2 [.int (nI o4), .ref o5, .ref o6, .ref o7, .ref o8, .ref o9, .ref o10, .ref o11, .ref o12, .ref nx, .null, .null, .null, .int (nI 0), .int (nI 0), .int (nI 0), .int (nI 0), .int (nI 0)])) n2 (xia 6 (fun _ => nI 0))) x0 = some (xo 2 [.int (nI o4), .ref o5, .ref o6, .ref o7, .ref o8, .ref o9, .ref o10, .ref o11, .ref o12, .ref nx, .null, .null, .null, .int (nI 0), .int (nI 0), .int (nI 0), .int (nI 0), .int (nI 0)]) := (xup_n n13).trans (xup_s _ _ _)
    refine r_putF (ci := 2) (kf := 11) (T := TX1) rfl in_X1 tyX1_ok nmX1 (by decide) wF_X1_62 rfl rfl rfl (tyX1_ok 11 (by decide)) dX1_init_201 q14 (Nat.le_of_ble_eq_true rfl) rfl rfl ?_
    show Blk g M_X1_init post 204 [(0, .ref x0), (5, .int (nI x5))] [] (xup (xup (xup h1 x0 (xo 2 [.int (nI o4), .ref o5, .ref o6, .ref o7, .ref o8, .ref o9, .ref o10, .ref o11, .ref o12, .ref nx, .null, .null, .null, .int (nI 0), .int (nI 0), .int (nI 0), .int (nI 0), .int (nI 0)])) n2 (xia 6 (fun _ => nI 0))) x0 (xo 2 [.int (nI o4), .ref o5, .ref o6, .ref o7, .ref o8, .ref o9, .ref o10, .ref o11, .ref o12, .ref nx, .null, .ref n2, .null, .int (nI 0), .int (nI 0), .int (nI 0), .int (nI 0), .int (nI 0)])) (n2 + 1) (((cu + 1) + 4) + 1) (((su + 2) + 228) + 6)
    refine r_aload_n 0 dX1_init_204 rfl rfl ?_
    obtain ⟨a3, a4, V⟩ := V
    refine r_new (ci := 3) (N := 2) (fs := [.null, .null]) (T := TX2) rfl in_X2 tyX2_ok wC_X1_42 wN_StateShares_Fraction wI_StateShares_Fraction dX1_init_205 df_X2 a3 a4 ?_
    show Blk g M_X1_init post 208 [(0, .ref x0), (5, .int (nI x5))] [.ref (n2 + 1), .ref x0] (xup (xup (xup (xup h1 x0 (xo 2 [.int (nI o4), .ref o5, .ref o6, .ref o7, .ref o8, .ref o9, .ref o10, .ref o11, .ref o12, .ref nx, .null, .null, .null, .int (nI 0), .int (nI 0), .int (nI 0), .int (nI 0), .int (nI 0)])) n2 (xia 6 (fun _ => nI 0))) x0 (xo 2 [.int (nI o4), .ref o5, .ref o6, .ref o7, .ref o8, .ref o9, .ref o10, .ref o11, .ref o12, .ref nx, .null, .ref n2, .null, .int (nI 0), .int (nI 0), .int (nI 0), .int (nI 0), .int (nI 0)])) (n2 + 1) (xo 3 [.null, .null])) ((n2 + 1) + 1) ((((cu + 1) + 4) + 1) + 1) ((((su + 2) + 228) + 6) + 2)
    refine r_dup dX1_init_208 rfl ?_
    refine r_bipush (v := (nI 112)) dX1_init_209 rfl ?_
    obtain ⟨a3, a4, V⟩ := V
    refine r_callI (M2 := M_X2_init) (n := 1) (As := [.int (nI 112)]) (wl4 wM_X1_48 wi_X2_init wI_StateShares_Fraction wc_X2_init) rfl rfl (by decide +kernel) (by decide) rfl rfl (Nat.le_of_ble_eq_true rfl) dX1_init_211 a3 a4 (Ct.imp V (fun r h15 n16 V => ?_))
    obtain ⟨rfl, V⟩ := V
    show Blk g M_X1_init post 214 [(0, .ref x0), (5, .int (nI x5))] [.ref (n2 + 1), .ref x0] h15 n16 (((((cu + 1) + 4) + 1) + 1) + 4) (((((su + 2) + 228) + 6) + 2) + 228)
    obtain ⟨o18, o19, o20, o21, o22, o23, o24, o25, o26, o27, o28, q17, V⟩ := V
    refine r_putF (ci := 2) (kf := 12) (T := TX1) rfl in_X1 tyX1_ok nmX1 (by decide) wF_X1_65 rfl rfl rfl (tyX1_ok 12 (by decide)) dX1_init_214 q17 (Nat.le_of_ble_eq_true rfl) rfl rfl ?_
    show Blk g M_X1_init post 217 [(0, .ref x0), (5, .int (nI x5))] [] (xup h15 x0 (xo 2 [.int (nI o18), .ref o19, .ref o20, .ref o21, .ref o22, .ref o23, .ref o24, .ref o25, .ref o26, .ref o27, .null, .ref o28, .ref (n2 + 1), .int (nI 0), .int (nI 0), .int (nI 0), .int (nI 0), .int (nI 0)])) n16 (((((cu + 1) + 4) + 1) + 1) + 4) (((((su + 2) + 228) + 6) + 2) + 228)
    refine r_aload_n 0 dX1_init_217 rfl rfl ?_
    obtain ⟨a3, a4, V⟩ := V
    refine r_new (ci := 1) (N := 2) (fs := [.null, .int (nI 0)]) (T := TX0) rfl in_X0 tyX0_ok wC_X1_51 wN_StateShares_Big wI_StateShares_Big dX1_init_218 df_X0 a3 a4 ?_
    show Blk g M_X1_init post 221 [(0, .ref x0), (5, .int (nI x5))] [.ref n16, .ref x0] (xup (xup h15 x0 (xo 2 [.int (nI o18), .ref o19, .ref o20, .ref o21, .ref o22, .ref o23, .ref o24, .ref o25, .ref o26, .ref o27, .null, .ref o28, .ref (n2 + 1), .int (nI 0), .int (nI 0), .int (nI 0), .int (nI 0), .int (nI 0)])) n16 (xo 1 [.null, .int (nI 0)])) (n16 + 1) ((((((cu + 1) + 4) + 1) + 1) + 4) + 1) ((((((su + 2) + 228) + 6) + 2) + 228) + 2)
    refine r_dup dX1_init_221 rfl ?_
    refine r_bipush (v := (nI 21)) dX1_init_222 rfl ?_
    obtain ⟨a3, a4, V⟩ := V
    refine r_callI (M2 := M_X0_init) (n := 1) (As := [.int (nI 21)]) (wl4 wM_X1_57 wi_X0_init wI_StateShares_Big wc_X0_init) rfl rfl (by decide +kernel) (by decide) rfl rfl (Nat.le_of_ble_eq_true rfl) dX1_init_224 a3 a4 (Ct.imp V (fun r h29 n30 V => ?_))
    obtain ⟨rfl, V⟩ := V
    show Blk g M_X1_init post 227 [(0, .ref x0), (5, .int (nI x5))] [.ref n16, .ref x0] h29 n30 (((((((cu + 1) + 4) + 1) + 1) + 4) + 1) + 1) (((((((su + 2) + 228) + 6) + 2) + 228) + 2) + 112)
    obtain ⟨o32, o33, o34, o35, o36, o37, o38, o39, o40, o41, o42, o43, q31, V⟩ := V
    refine r_putF (ci := 2) (kf := 10) (T := TX1) rfl in_X1 tyX1_ok nmX1 (by decide) wF_X1_68 rfl rfl rfl (tyX1_ok 10 (by decide)) dX1_init_227 q31 (Nat.le_of_ble_eq_true rfl) rfl rfl ?_
    show Blk g M_X1_init post 230 [(0, .ref x0), (5, .int (nI x5))] [] (xup h29 x0 (xo 2 [.int (nI o32), .ref o33, .ref o34, .ref o35, .ref o36, .ref o37, .ref o38, .ref o39, .ref o40, .ref o41, .ref n16, .ref o42, .ref o43, .int (nI 0), .int (nI 0), .int (nI 0), .int (nI 0), .int (nI 0)])) n30 (((((((cu + 1) + 4) + 1) + 1) + 4) + 1) + 1) (((((((su + 2) + 228) + 6) + 2) + 228) + 2) + 112)
    refine r_aload_n 0 dX1_init_230 rfl rfl ?_
    refine r_getf (ci := 2) (kf := 10) (T := TX1) rfl in_X1 (by decide) wF_X1_68 dX1_init_231 (xup_s _ _ _) rfl ?_
    refine r_lconst (v := (lN 1)) dX1_init_234 rfl ?_
    obtain ⟨a3, a4, V⟩ := V
    obtain ⟨o47, o48, q46, V⟩ := V
    have q49 : (xup h29 x0 (xo 2 [.int (nI o32), .ref o33, .ref o34, .ref o35, .ref o36, .ref o37, .ref o38, .ref o39, .ref o40, .ref o41, .ref n16, .ref o42, .ref o43, .int (nI 0), .int (nI 0), .int (nI 0), .int (nI 0), .int (nI 0)])) n16 = some (xo 1 [.ref o47, .int (nI o48)]) := (xup_n (x_apart q46 q31 (x_oo (by decide)))).trans q46
    refine r_callV (M2 := M_X0_set) (ci := 1) (n := 1) (As := [.long (lN 1)]) rfl (wl5 wM_X1_72 wi_X0_set wS_X0_set wI_StateShares_Big wc_X0_set) (by decide +kernel) (by decide) rfl rfl (Nat.le_of_ble_eq_true rfl) dX1_init_235 q49 a3 a4 (Ct.imp V (fun r h44 n45 V => ?_))
    obtain ⟨rfl, V⟩ := V
    show Blk g M_X1_init post 238 [(0, .ref x0), (5, .int (nI x5))] [] h44 n45 (((((((cu + 1) + 4) + 1) + 1) + 4) + 1) + 1) (((((((su + 2) + 228) + 6) + 2) + 228) + 2) + 112)
    refine r_iconst (v := (nI 0)) dX1_init_238 rfl ?_
    refine r_istore (L' := [(5, .int (nI 0)), (0, .ref x0)]) dX1_init_239 (by decide) rfl ?_
    exact Blk.sub [1, 0] rfl V
  · have V := V.2 c
    refine r_aload_n 0 dX1_init_153 rfl rfl ?_
    obtain ⟨o51, o52, o53, o54, o55, o56, o57, o58, o59, q50, V⟩ := V
    refine r_getf (ci := 2) (kf := 5) (T := TX1) rfl in_X1 (by decide) wF_X1_30 dX1_init_154 q50 rfl ?_
    refine r_iload 1 dX1_init_157 rfl ?_
    refine r_iconst (v := (nI 1)) dX1_init_159 rfl ?_
    obtain ⟨N61, f62, q60, V⟩ := V
    obtain ⟨c, cN, V⟩ := V
    refine r_iastN dX1_init_160 q60 c cN ?_
    show Blk g M_X1_init post 161 [(0, .ref x0), (5, .int (nI x5))] [] (xup h o56 (xna N61 (va_up f62 x5 1))) nx cu su
    refine r_aload_n 0 dX1_init_161 rfl rfl ?_
    have q63 : (xup h o56 (xna N61 (va_up f62 x5 1))) x0 = some (xo 2 [.int (nI o51), .ref o52, .ref o53, .ref o54, .ref o55, .ref o56, .ref o57, .ref o58, .ref o59, .null, .null, .null, .null, .int (nI 0), .int (nI 0), .int (nI 0), .int (nI 0), .int (nI 0)]) := (xup_n (x_apart q50 q60 x_oa)).trans q50
    refine r_getf (ci := 2) (kf := 8) (T := TX1) rfl in_X1 (by decide) wF_X1_53 dX1_init_162 q63 rfl ?_
    refine r_iload 1 dX1_init_165 rfl ?_
    obtain ⟨a3, a4, V⟩ := V
    refine r_new (ci := 1) (N := 2) (fs := [.null, .int (nI 0)]) (T := TX0) rfl in_X0 tyX0_ok wC_X1_51 wN_StateShares_Big wI_StateShares_Big dX1_init_167 df_X0 a3 a4 ?_
    show Blk g M_X1_init post 170 [(0, .ref x0), (5, .int (nI x5))] [.ref nx, .int (nI x5), .ref o59] (xup (xup h o56 (xna N61 (va_up f62 x5 1))) nx (xo 1 [.null, .int (nI 0)])) (nx + 1) (cu + 1) (su + 2)
    refine r_dup dX1_init_170 rfl ?_
    refine r_bipush (v := (nI 112)) dX1_init_171 rfl ?_
    obtain ⟨a3, a4, V⟩ := V
    refine r_callI (M2 := M_X0_init) (n := 1) (As := [.int (nI 112)]) (wl4 wM_X1_57 wi_X0_init wI_StateShares_Big wc_X0_init) rfl rfl (by decide +kernel) (by decide) rfl rfl (Nat.le_of_ble_eq_true rfl) dX1_init_173 a3 a4 (Ct.imp V (fun r h64 n65 V => ?_))
    obtain ⟨rfl, V⟩ := V
    show Blk g M_X1_init post 176 [(0, .ref x0), (5, .int (nI x5))] [.ref nx, .int (nI x5), .ref o59] h64 n65 ((cu + 1) + 1) ((su + 2) + 112)
    obtain ⟨N67, f68, q66, V⟩ := V
    obtain ⟨o70, o71, q69, V⟩ := V
    obtain ⟨c, cN, V⟩ := V
    refine r_aast (kd := 4) (ci := 1) (r := (RX0, TX0, 2)) (fun _ => rfl) rfl dX1_init_176 q66 q69 rfl c cN ?_
    show Blk g M_X1_init post 177 [(0, .ref x0), (5, .int (nI x5))] [] (xup h64 o59 (xra 4 N67 (va_up f68 x5 (some nx)))) n65 ((cu + 1) + 1) ((su + 2) + 112)
    refine r_iincN 1 (b := 1) (L' := [(5, .int (nI (x5 + 1))), (0, .ref x0)]) dX1_init_177 rfl rfl (by decide) rfl ?_
    refine r_goto (tgt := 146) dX1_init_180 (by decide) ?_
    exact Blk.sub [1, 0] rfl V
set_option maxRecDepth 20000 in
theorem v_X1_init_241 {g : xG} {post : xPost} {h : xHp} {nx : Nat} {cu su : Nat} {x0 : Nat} {x5 : Nat} (V : ((x5 < 2 ^ 31 ∧ 600 < 2 ^ 31) ∧ ((600 ≤ x5 → (∃ (o2 : Nat) (o3 : Nat) (o4 : Nat) (o5 : Nat) (o6 : Nat) (o7 : Nat) (o8 : Nat) (o9 : Nat) (o10 : Nat) (o11 : Nat) (o12 : Nat) (o13 : Nat) (o14 : Nat), h x0 = some (xo 2 [.int (nI o2), .ref o3, .ref o4, .ref o5, .ref o6, .ref o7, .ref o8, .ref o9, .ref o10, .ref o11, .ref o12, .ref o13, .ref o14, .int (nI 0), .int (nI 0), .int (nI 0), .int (nI 0), .int (nI 0)]) ∧ (cu ≤ 600 ∧ su ≤ 30000 ∧ post none (xup h x0 (xo 2 [.int (nI o2), .ref o3, .ref o4, .ref o5, .ref o6, .ref o7, .ref o8, .ref o9, .ref o10, .ref o11, .ref o12, .ref o13, .ref o14, .int (nI 0), .int (nI 0), .int (nI 12), .int (-1), .int (nI 0)])) nx))) ∧ (x5 < 600 → (∃ (o16 : Nat) (o17 : Nat) (o18 : Nat) (o19 : Nat) (o20 : Nat) (o21 : Nat) (o22 : Nat) (o23 : Nat) (o24 : Nat) (o25 : Nat) (o26 : Nat) (o27 : Nat) (o28 : Nat), h x0 = some (xo 2 [.int (nI o16), .ref o17, .ref o18, .ref o19, .ref o20, .ref o21, .ref o22, .ref o23, .ref o24, .ref o25, .ref o26, .ref o27, .ref o28, .int (nI 0), .int (nI 0), .int (nI 0), .int (nI 0), .int (nI 0)]) ∧ (cu + 0 ≤ 600 ∧ su + 0 ≤ 30000 ∧ ∃ (o32 : Nat) (o33 : Nat), h o26 = some (xo 1 [.ref o32, .int (nI o33)]) ∧ Ct g M_X0_multiply [.ref o26, .int (nI 1048576)] h nx (fun r h29 n30 => r = none ∧ Blk g M_X1_init post 241 [(0, .ref x0), (5, .int (nI (x5 + 20)))] [] h29 n30 cu su))))))) : Blk g M_X1_init post 241 [(0, .ref x0), (5, .int (nI x5))] [] h nx cu su := by
  refine r_iload 1 dX1_init_241 rfl ?_
  refine r_sipush (v := (nI 600)) dX1_init_243 rfl ?_
  obtain ⟨c, V⟩ := V
  refine r_icmp_geN (tgt := 264) dX1_init_246 (by decide) c (fun c => ?_) (fun c => ?_)
  · have V := V.1 c
    refine r_aload_n 0 dX1_init_264 rfl rfl ?_
    refine r_bipush (v := (nI 12)) dX1_init_265 rfl ?_
    obtain ⟨o2, o3, o4, o5, o6, o7, o8, o9, o10, o11, o12, o13, o14, q1, V⟩ := V
    refine r_putf (ci := 2) (kf := 15) (T := TX1) rfl in_X1 tyX1_ok nmX1 (by decide) wF_X1_80 rfl (tyX1_ok 15 (by decide)) dX1_init_267 q1 (Nat.le_of_ble_eq_true rfl) rfl rfl ?_
    show Blk g M_X1_init post 270 [(0, .ref x0), (5, .int (nI x5))] [] (xup h x0 (xo 2 [.int (nI o2), .ref o3, .ref o4, .ref o5, .ref o6, .ref o7, .ref o8, .ref o9, .ref o10, .ref o11, .ref o12, .ref o13, .ref o14, .int (nI 0), .int (nI 0), .int (nI 12), .int (nI 0), .int (nI 0)])) nx cu su
    refine r_aload_n 0 dX1_init_270 rfl rfl ?_
    refine r_iconst (v := (-1)) dX1_init_271 rfl ?_
    refine r_putf (ci := 2) (kf := 16) (T := TX1) rfl in_X1 tyX1_ok nmX1 (by decide) wF_X1_83 rfl (tyX1_ok 16 (by decide)) dX1_init_272 (xup_s _ _ _) (Nat.le_of_ble_eq_true rfl) rfl rfl ?_
    show Blk g M_X1_init post 275 [(0, .ref x0), (5, .int (nI x5))] [] (xup (xup h x0 (xo 2 [.int (nI o2), .ref o3, .ref o4, .ref o5, .ref o6, .ref o7, .ref o8, .ref o9, .ref o10, .ref o11, .ref o12, .ref o13, .ref o14, .int (nI 0), .int (nI 0), .int (nI 12), .int (nI 0), .int (nI 0)])) x0 (xo 2 [.int (nI o2), .ref o3, .ref o4, .ref o5, .ref o6, .ref o7, .ref o8, .ref o9, .ref o10, .ref o11, .ref o12, .ref o13, .ref o14, .int (nI 0), .int (nI 0), .int (nI 12), .int (-1), .int (nI 0)])) nx cu su
    rw [xup_up]
    show Blk g M_X1_init post 275 [(0, .ref x0), (5, .int (nI x5))] [] (xup h x0 (xo 2 [.int (nI o2), .ref o3, .ref o4, .ref o5, .ref o6, .ref o7, .ref o8, .ref o9, .ref o10, .ref o11, .ref o12, .ref o13, .ref o14, .int (nI 0), .int (nI 0), .int (nI 12), .int (-1), .int (nI 0)])) nx cu su
    obtain ⟨c1, c2, V⟩ := V
    exact r_vret dX1_init_275 rfl c1 c2 V
  · have V := V.2 c
    refine r_aload_n 0 dX1_init_249 rfl rfl ?_
    obtain ⟨o16, o17, o18, o19, o20, o21, o22, o23, o24, o25, o26, o27, o28, q15, V⟩ := V
    refine r_getf (ci := 2) (kf := 10) (T := TX1) rfl in_X1 (by decide) wF_X1_68 dX1_init_250 q15 rfl ?_
    refine r_ldc (v := (nI 1048576)) wK_X1_76 dX1_init_253 ?_
    obtain ⟨a3, a4, V⟩ := V
    obtain ⟨o32, o33, q31, V⟩ := V
    refine r_callV (M2 := M_X0_multiply) (ci := 1) (n := 1) (As := [.int (nI 1048576)]) rfl (wl5 wM_X1_77 wi_X0_multiply wS_X0_multiply wI_StateShares_Big wc_X0_multiply) (by decide +kernel) (by decide) rfl rfl (Nat.le_of_ble_eq_true rfl) dX1_init_255 q31 a3 a4 (Ct.imp V (fun r h29 n30 V => ?_))
    obtain ⟨rfl, V⟩ := V
    show Blk g M_X1_init post 258 [(0, .ref x0), (5, .int (nI x5))] [] h29 n30 cu su
    refine r_iincN 1 (b := 20) (L' := [(5, .int (nI (x5 + 20))), (0, .ref x0)]) dX1_init_258 rfl rfl (by decide) rfl ?_
    refine r_goto (tgt := 241) dX1_init_261 (by decide) ?_
    exact Blk.sub [1, 0] rfl V
set_option maxRecDepth 20000 in
theorem v_X1_begin_0 {g : xG} {post : xPost} {h : xHp} {nx : Nat} {x0 : Nat} {x1 : Nat} {x2 : Nat} {x3 : Nat} (V : (∃ (o2 : Nat) (o3 : Nat) (o4 : Nat) (o5 : Nat) (o6 : Nat) (o7 : Nat) (o8 : Nat) (o9 : Nat) (o10 : Nat) (o11 : Nat) (o12 : Nat) (o13 : Nat) (o14 : Nat) (o15 : Nat) (o16 : Nat) (o17 : Nat) (o18 : Int32) (o19 : Int32), h x0 = some (xo 2 [.int (nI o2), .ref o3, .ref o4, .ref o5, .ref o6, .ref o7, .ref o8, .ref o9, .ref o10, .ref o11, .ref o12, .ref o13, .ref o14, .int (nI o15), .int (nI o16), .int (nI o17), .int o18, .int o19]) ∧ (o15 < 2 ^ 31 ∧ ((¬ o15 = 0 → (∃ (N21 : Nat) (f22 : Nat → Nat), h o6 = some (xna N21 f22) ∧ x1 < N21 ∧ N21 < 2 ^ 31 ∧ (∃ (N25 : Nat) (f26 : Nat → Nat), h o7 = some (xna N25 f26) ∧ o7 ≠ o6 ∧ x1 < N25 ∧ N25 < 2 ^ 31 ∧ (Ct g M_X1_forget [.ref x0, .int (nI 0)] (xup (xup h o6 (xna N21 (va_up f22 x1 x2))) o7 (xna N25 (va_up f26 x1 x3))) nx (fun r h29 n30 => r = none ∧ (post none h29 n30)))))) ∧ (o15 = 0 → (∃ (N33 : Nat) (f34 : Nat → Nat), h o6 = some (xna N33 f34) ∧ 0 < N33 ∧ N33 < 2 ^ 31 ∧ (x1 < N33 ∧ N33 < 2 ^ 31 ∧ (∃ (N39 : Nat) (f40 : Nat → Nat), h o7 = some (xna N39 f40) ∧ o7 ≠ o6 ∧ x1 < N39 ∧ N39 < 2 ^ 31 ∧ (Ct g M_X1_forget [.ref x0, .int (nI 0)] (xup (xup (xup h x0 (xo 2 [.int (nI o2), .ref o3, .ref o4, .ref o5, .ref o6, .ref o7, .ref o8, .ref o9, .ref o10, .ref o11, .ref o12, .ref o13, .ref o14, .int (nI 1), .int (nI o16), .int (nI o17), .int o18, .int o19])) o6 (xna N33 (va_up (va_up f34 0 0) x1 x2))) o7 (xna N39 (va_up f40 x1 x3))) nx (fun r h44 n45 => r = none ∧ (post none h44 n45))))))))))) : Blk g M_X1_begin post 0 [(0, .ref x0), (1, .int (nI x1)), (2, .int (nI x2)), (3, .int (nI x3))] [] h nx 0 0 := by
  refine r_aload_n 0 dX1_begin_0 rfl rfl ?_
  obtain ⟨o2, o3, o4, o5, o6, o7, o8, o9, o10, o11, o12, o13, o14, o15, o16, o17, o18, o19, q1, V⟩ := V
  refine r_getf (ci := 2) (kf := 13) (T := TX1) rfl in_X1 (by decide) wF_X1_86 dX1_begin_1 q1 rfl ?_
  obtain ⟨c, V⟩ := V
  refine r_if_neN (tgt := 19) dX1_begin_4 (by decide) c (fun c => ?_) (fun c => ?_)
  · have V := V.1 c
    refine r_aload_n 0 dX1_begin_19 rfl rfl ?_
    refine r_getf (ci := 2) (kf := 4) (T := TX1) rfl in_X1 (by decide) wF_X1_26 dX1_begin_20 q1 rfl ?_
    refine r_iload_n 1 dX1_begin_23 rfl rfl ?_
    refine r_iload_n 2 dX1_begin_24 rfl rfl ?_
    obtain ⟨N21, f22, q20, V⟩ := V
    obtain ⟨c, cN, V⟩ := V
    refine r_iastN dX1_begin_25 q20 c cN ?_
    show Blk g M_X1_begin post 26 [(0, .ref x0), (1, .int (nI x1)), (2, .int (nI x2)), (3, .int (nI x3))] [] (xup h o6 (xna N21 (va_up f22 x1 x2))) nx 0 0
    refine r_aload_n 0 dX1_begin_26 rfl rfl ?_
    have q23 : (xup h o6 (xna N21 (va_up f22 x1 x2))) x0 = some (xo 2 [.int (nI o2), .ref o3, .ref o4, .ref o5, .ref o6, .ref o7, .ref o8, .ref o9, .ref o10, .ref o11, .ref o12, .ref o13, .ref o14, .int (nI o15), .int (nI o16), .int (nI o17), .int o18, .int o19]) := (xup_n (x_apart q1 q20 x_oa)).trans q1
    refine r_getf (ci := 2) (kf := 5) (T := TX1) rfl in_X1 (by decide) wF_X1_30 dX1_begin_27 q23 rfl ?_
    refine r_iload_n 1 dX1_begin_30 rfl rfl ?_
    refine r_iload_n 3 dX1_begin_31 rfl rfl ?_
    obtain ⟨N25, f26, q24, V⟩ := V
    obtain ⟨n27, V⟩ := V
    have q28 : (xup h o6 (xna N21 (va_up f22 x1 x2))) o7 = some (xna N25 f26) := (xup_n n27).trans q24
    obtain ⟨c, cN, V⟩ := V
    refine r_iastN dX1_begin_32 q28 c cN ?_
    show Blk g M_X1_begin post 33 [(0, .ref x0), (1, .int (nI x1)), (2, .int (nI x2)), (3, .int (nI x3))] [] (xup (xup h o6 (xna N21 (va_up f22 x1 x2))) o7 (xna N25 (va_up f26 x1 x3))) nx 0 0
    refine r_aload_n 0 dX1_begin_33 rfl rfl ?_
    refine r_iconst (v := (nI 0)) dX1_begin_34 rfl ?_
    have q31 : (xup (xup h o6 (xna N21 (va_up f22 x1 x2))) o7 (xna N25 (va_up f26 x1 x3))) x0 = some (xo 2 [.int (nI o2), .ref o3, .ref o4, .ref o5, .ref o6, .ref o7, .ref o8, .ref o9, .ref o10, .ref o11, .ref o12, .ref o13, .ref o14, .int (nI o15), .int (nI o16), .int (nI o17), .int o18, .int o19]) := (xup_n (x_apart q23 q28 x_oa)).trans q23
    refine r_callV (M2 := M_X1_forget) (ci := 2) (n := 1) (As := [.int (nI 0)]) rfl (wl5 wM_X1_90 wi_X1_forget wS_X1_forget wI_StateShares_Forecast wc_X1_forget) (by decide +kernel) (by decide) rfl rfl (Nat.le_of_ble_eq_true rfl) dX1_begin_35 q31 (by decide) (by decide) (Ct.imp V (fun r h29 n30 V => ?_))
    obtain ⟨rfl, V⟩ := V
    show Blk g M_X1_begin post 38 [(0, .ref x0), (1, .int (nI x1)), (2, .int (nI x2)), (3, .int (nI x3))] [] h29 n30 0 0
    exact r_vret dX1_begin_38 rfl (by decide) (by decide) V
  · have V := V.2 c
    refine r_aload_n 0 dX1_begin_7 rfl rfl ?_
    refine r_iconst (v := (nI 1)) dX1_begin_8 rfl ?_
    refine r_putf (ci := 2) (kf := 13) (T := TX1) rfl in_X1 tyX1_ok nmX1 (by decide) wF_X1_86 rfl (tyX1_ok 13 (by decide)) dX1_begin_9 q1 (Nat.le_of_ble_eq_true rfl) rfl rfl ?_
    show Blk g M_X1_begin post 12 [(0, .ref x0), (1, .int (nI x1)), (2, .int (nI x2)), (3, .int (nI x3))] [] (xup h x0 (xo 2 [.int (nI o2), .ref o3, .ref o4, .ref o5, .ref o6, .ref o7, .ref o8, .ref o9, .ref o10, .ref o11, .ref o12, .ref o13, .ref o14, .int (nI 1), .int (nI o16), .int (nI o17), .int o18, .int o19])) nx 0 0
    refine r_aload_n 0 dX1_begin_12 rfl rfl ?_
    refine r_getf (ci := 2) (kf := 4) (T := TX1) rfl in_X1 (by decide) wF_X1_26 dX1_begin_13 (xup_s _ _ _) rfl ?_
    refine r_iconst (v := (nI 0)) dX1_begin_16 rfl ?_
    refine r_iconst (v := (nI 0)) dX1_begin_17 rfl ?_
    obtain ⟨N33, f34, q32, V⟩ := V
    have q35 : (xup h x0 (xo 2 [.int (nI o2), .ref o3, .ref o4, .ref o5, .ref o6, .ref o7, .ref o8, .ref o9, .ref o10, .ref o11, .ref o12, .ref o13, .ref o14, .int (nI 1), .int (nI o16), .int (nI o17), .int o18, .int o19])) o6 = some (xna N33 f34) := (xup_n (x_apart q32 q1 x_ao)).trans q32
    obtain ⟨c, cN, V⟩ := V
    refine r_iastN dX1_begin_18 q35 c cN ?_
    show Blk g M_X1_begin post 19 [(0, .ref x0), (1, .int (nI x1)), (2, .int (nI x2)), (3, .int (nI x3))] [] (xup (xup h x0 (xo 2 [.int (nI o2), .ref o3, .ref o4, .ref o5, .ref o6, .ref o7, .ref o8, .ref o9, .ref o10, .ref o11, .ref o12, .ref o13, .ref o14, .int (nI 1), .int (nI o16), .int (nI o17), .int o18, .int o19])) o6 (xna N33 (va_up f34 0 0))) nx 0 0
    refine r_aload_n 0 dX1_begin_19 rfl rfl ?_
    have q36 : (xup (xup h x0 (xo 2 [.int (nI o2), .ref o3, .ref o4, .ref o5, .ref o6, .ref o7, .ref o8, .ref o9, .ref o10, .ref o11, .ref o12, .ref o13, .ref o14, .int (nI 1), .int (nI o16), .int (nI o17), .int o18, .int o19])) o6 (xna N33 (va_up f34 0 0))) x0 = some (xo 2 [.int (nI o2), .ref o3, .ref o4, .ref o5, .ref o6, .ref o7, .ref o8, .ref o9, .ref o10, .ref o11, .ref o12, .ref o13, .ref o14, .int (nI 1), .int (nI o16), .int (nI o17), .int o18, .int o19]) := (xup_n (x_apart (xup_s _ _ _) q35 x_oa)).trans (xup_s _ _ _)
    refine r_getf (ci := 2) (kf := 4) (T := TX1) rfl in_X1 (by decide) wF_X1_26 dX1_begin_20 q36 rfl ?_
    refine r_iload_n 1 dX1_begin_23 rfl rfl ?_
    refine r_iload_n 2 dX1_begin_24 rfl rfl ?_
    obtain ⟨c, cN, V⟩ := V
    refine r_iastN dX1_begin_25 (xup_s _ _ _) c cN ?_
    show Blk g M_X1_begin post 26 [(0, .ref x0), (1, .int (nI x1)), (2, .int (nI x2)), (3, .int (nI x3))] [] (xup (xup (xup h x0 (xo 2 [.int (nI o2), .ref o3, .ref o4, .ref o5, .ref o6, .ref o7, .ref o8, .ref o9, .ref o10, .ref o11, .ref o12, .ref o13, .ref o14, .int (nI 1), .int (nI o16), .int (nI o17), .int o18, .int o19])) o6 (xna N33 (va_up f34 0 0))) o6 (xna N33 (va_up (va_up f34 0 0) x1 x2))) nx 0 0
    rw [xup_up]
    show Blk g M_X1_begin post 26 [(0, .ref x0), (1, .int (nI x1)), (2, .int (nI x2)), (3, .int (nI x3))] [] (xup (xup h x0 (xo 2 [.int (nI o2), .ref o3, .ref o4, .ref o5, .ref o6, .ref o7, .ref o8, .ref o9, .ref o10, .ref o11, .ref o12, .ref o13, .ref o14, .int (nI 1), .int (nI o16), .int (nI o17), .int o18, .int o19])) o6 (xna N33 (va_up (va_up f34 0 0) x1 x2))) nx 0 0
    refine r_aload_n 0 dX1_begin_26 rfl rfl ?_
    have q37 : (xup (xup h x0 (xo 2 [.int (nI o2), .ref o3, .ref o4, .ref o5, .ref o6, .ref o7, .ref o8, .ref o9, .ref o10, .ref o11, .ref o12, .ref o13, .ref o14, .int (nI 1), .int (nI o16), .int (nI o17), .int o18, .int o19])) o6 (xna N33 (va_up (va_up f34 0 0) x1 x2))) x0 = some (xo 2 [.int (nI o2), .ref o3, .ref o4, .ref o5, .ref o6, .ref o7, .ref o8, .ref o9, .ref o10, .ref o11, .ref o12, .ref o13, .ref o14, .int (nI 1), .int (nI o16), .int (nI o17), .int o18, .int o19]) := (xup_n (x_apart (xup_s _ _ _) q35 x_oa)).trans (xup_s _ _ _)
    refine r_getf (ci := 2) (kf := 5) (T := TX1) rfl in_X1 (by decide) wF_X1_30 dX1_begin_27 q37 rfl ?_
    refine r_iload_n 1 dX1_begin_30 rfl rfl ?_
    refine r_iload_n 3 dX1_begin_31 rfl rfl ?_
    obtain ⟨N39, f40, q38, V⟩ := V
    have q41 : (xup h x0 (xo 2 [.int (nI o2), .ref o3, .ref o4, .ref o5, .ref o6, .ref o7, .ref o8, .ref o9, .ref o10, .ref o11, .ref o12, .ref o13, .ref o14, .int (nI 1), .int (nI o16), .int (nI o17), .int o18, .int o19])) o7 = some (xna N39 f40) := (xup_n (x_apart q38 q1 x_ao)).trans q38
    obtain ⟨n42, V⟩ := V
    have q43 : (xup (xup h x0 (xo 2 [.int (nI o2), .ref o3, .ref o4, .ref o5, .ref o6, .ref o7, .ref o8, .ref o9, .ref o10, .ref o11, .ref o12, .ref o13, .ref o14, .int (nI 1), .int (nI o16), .int (nI o17), .int o18, .int o19])) o6 (xna N33 (va_up (va_up f34 0 0) x1 x2))) o7 = some (xna N39 f40) := (xup_n n42).trans q41
    obtain ⟨c, cN, V⟩ := V
    refine r_iastN dX1_begin_32 q43 c cN ?_
    show Blk g M_X1_begin post 33 [(0, .ref x0), (1, .int (nI x1)), (2, .int (nI x2)), (3, .int (nI x3))] [] (xup (xup (xup h x0 (xo 2 [.int (nI o2), .ref o3, .ref o4, .ref o5, .ref o6, .ref o7, .ref o8, .ref o9, .ref o10, .ref o11, .ref o12, .ref o13, .ref o14, .int (nI 1), .int (nI o16), .int (nI o17), .int o18, .int o19])) o6 (xna N33 (va_up (va_up f34 0 0) x1 x2))) o7 (xna N39 (va_up f40 x1 x3))) nx 0 0
    refine r_aload_n 0 dX1_begin_33 rfl rfl ?_
    refine r_iconst (v := (nI 0)) dX1_begin_34 rfl ?_
    have q46 : (xup (xup (xup h x0 (xo 2 [.int (nI o2), .ref o3, .ref o4, .ref o5, .ref o6, .ref o7, .ref o8, .ref o9, .ref o10, .ref o11, .ref o12, .ref o13, .ref o14, .int (nI 1), .int (nI o16), .int (nI o17), .int o18, .int o19])) o6 (xna N33 (va_up (va_up f34 0 0) x1 x2))) o7 (xna N39 (va_up f40 x1 x3))) x0 = some (xo 2 [.int (nI o2), .ref o3, .ref o4, .ref o5, .ref o6, .ref o7, .ref o8, .ref o9, .ref o10, .ref o11, .ref o12, .ref o13, .ref o14, .int (nI 1), .int (nI o16), .int (nI o17), .int o18, .int o19]) := (xup_n (x_apart q37 q43 x_oa)).trans q37
    refine r_callV (M2 := M_X1_forget) (ci := 2) (n := 1) (As := [.int (nI 0)]) rfl (wl5 wM_X1_90 wi_X1_forget wS_X1_forget wI_StateShares_Forecast wc_X1_forget) (by decide +kernel) (by decide) rfl rfl (Nat.le_of_ble_eq_true rfl) dX1_begin_35 q46 (by decide) (by decide) (Ct.imp V (fun r h44 n45 V => ?_))
    obtain ⟨rfl, V⟩ := V
    show Blk g M_X1_begin post 38 [(0, .ref x0), (1, .int (nI x1)), (2, .int (nI x2)), (3, .int (nI x3))] [] h44 n45 0 0
    exact r_vret dX1_begin_38 rfl (by decide) (by decide) V
set_option maxRecDepth 20000 in
theorem v_X1_forget_0 {g : xG} {post : xPost} {h : xHp} {nx : Nat} {x0 : Nat} {x1 : Nat} (V : (∃ (o2 : Nat) (o3 : Nat) (o4 : Nat) (o5 : Nat) (o6 : Nat) (o7 : Nat) (o8 : Nat) (o9 : Nat) (o10 : Nat) (o11 : Nat) (o12 : Nat) (o13 : Nat) (o14 : Nat) (o15 : Nat) (o16 : Nat) (o17 : Nat) (o18 : Int32) (o19 : Int32), h x0 = some (xo 2 [.int (nI o2), .ref o3, .ref o4, .ref o5, .ref o6, .ref o7, .ref o8, .ref o9, .ref o10, .ref o11, .ref o12, .ref o13, .ref o14, .int (nI o15), .int (nI o16), .int (nI o17), .int o18, .int o19]) ∧ ((o16 < 2 ^ 31 ∧ x1 < 2 ^ 31) ∧ ((x1 < 2 ^ 31 ∧ o17 < 2 ^ 31) ∧ ((o17 < x1 → (post none (xup h x0 (xo 2 [.int (nI o2), .ref o3, .ref o4, .ref o5, .ref o6, .ref o7, .ref o8, .ref o9, .ref o10, .ref o11, .ref o12, .ref o13, .ref o14, .int (nI o15), .int (nI (min o16 x1)), .int (nI o17), .int (-1), .int o19])) nx)) ∧ (x1 ≤ o17 → (post none (xup h x0 (xo 2 [.int (nI o2), .ref o3, .ref o4, .ref o5, .ref o6, .ref o7, .ref o8, .ref o9, .ref o10, .ref o11, .ref o12, .ref o13, .ref o14, .int (nI o15), .int (nI (min o16 x1)), .int (nI 12), .int (-1), .int o19])) nx))))))) : Blk g M_X1_forget post 0 [(0, .ref x0), (1, .int (nI x1))] [] h nx 0 0 := by
  refine r_aload_n 0 dX1_forget_0 rfl rfl ?_
  refine r_aload_n 0 dX1_forget_1 rfl rfl ?_
  obtain ⟨o2, o3, o4, o5, o6, o7, o8, o9, o10, o11, o12, o13, o14, o15, o16, o17, o18, o19, q1, V⟩ := V
  refine r_getf (ci := 2) (kf := 14) (T := TX1) rfl in_X1 (by decide) wF_X1_93 dX1_forget_2 q1 rfl ?_
  refine r_iload_n 1 dX1_forget_5 rfl rfl ?_
  refine r_mmin wM_X1_96 ws_J9_min_7cf53 wI_java_lang_Math wc_J9_min_7cf53 dX1_forget_6 (by decide) (Nat.le_of_ble_eq_true rfl) (by decide) (by decide) ?_
  obtain ⟨c, V⟩ := V
  rw [n_min c.1 c.2]
  show Blk g M_X1_forget post 9 [(0, .ref x0), (1, .int (nI x1))] [.int (nI (min o16 x1)), .ref x0] h nx 0 0
  refine r_putf (ci := 2) (kf := 14) (T := TX1) rfl in_X1 tyX1_ok nmX1 (by decide) wF_X1_93 rfl (tyX1_ok 14 (by decide)) dX1_forget_9 q1 (Nat.le_of_ble_eq_true rfl) rfl rfl ?_
  show Blk g M_X1_forget post 12 [(0, .ref x0), (1, .int (nI x1))] [] (xup h x0 (xo 2 [.int (nI o2), .ref o3, .ref o4, .ref o5, .ref o6, .ref o7, .ref o8, .ref o9, .ref o10, .ref o11, .ref o12, .ref o13, .ref o14, .int (nI o15), .int (nI (min o16 x1)), .int (nI o17), .int o18, .int o19])) nx 0 0
  refine r_iload_n 1 dX1_forget_12 rfl rfl ?_
  refine r_aload_n 0 dX1_forget_13 rfl rfl ?_
  refine r_getf (ci := 2) (kf := 15) (T := TX1) rfl in_X1 (by decide) wF_X1_80 dX1_forget_14 (xup_s _ _ _) rfl ?_
  obtain ⟨c, V⟩ := V
  refine r_icmp_gtN (tgt := 26) dX1_forget_17 (by decide) c (fun c => ?_) (fun c => ?_)
  · have V := V.1 c
    refine r_aload_n 0 dX1_forget_26 rfl rfl ?_
    refine r_iconst (v := (-1)) dX1_forget_27 rfl ?_
    refine r_putf (ci := 2) (kf := 16) (T := TX1) rfl in_X1 tyX1_ok nmX1 (by decide) wF_X1_83 rfl (tyX1_ok 16 (by decide)) dX1_forget_28 (xup_s _ _ _) (Nat.le_of_ble_eq_true rfl) rfl rfl ?_
    show Blk g M_X1_forget post 31 [(0, .ref x0), (1, .int (nI x1))] [] (xup (xup h x0 (xo 2 [.int (nI o2), .ref o3, .ref o4, .ref o5, .ref o6, .ref o7, .ref o8, .ref o9, .ref o10, .ref o11, .ref o12, .ref o13, .ref o14, .int (nI o15), .int (nI (min o16 x1)), .int (nI o17), .int o18, .int o19])) x0 (xo 2 [.int (nI o2), .ref o3, .ref o4, .ref o5, .ref o6, .ref o7, .ref o8, .ref o9, .ref o10, .ref o11, .ref o12, .ref o13, .ref o14, .int (nI o15), .int (nI (min o16 x1)), .int (nI o17), .int (-1), .int o19])) nx 0 0
    rw [xup_up]
    show Blk g M_X1_forget post 31 [(0, .ref x0), (1, .int (nI x1))] [] (xup h x0 (xo 2 [.int (nI o2), .ref o3, .ref o4, .ref o5, .ref o6, .ref o7, .ref o8, .ref o9, .ref o10, .ref o11, .ref o12, .ref o13, .ref o14, .int (nI o15), .int (nI (min o16 x1)), .int (nI o17), .int (-1), .int o19])) nx 0 0
    exact r_vret dX1_forget_31 rfl (by decide) (by decide) V
  · have V := V.2 c
    refine r_aload_n 0 dX1_forget_20 rfl rfl ?_
    refine r_bipush (v := (nI 12)) dX1_forget_21 rfl ?_
    refine r_putf (ci := 2) (kf := 15) (T := TX1) rfl in_X1 tyX1_ok nmX1 (by decide) wF_X1_80 rfl (tyX1_ok 15 (by decide)) dX1_forget_23 (xup_s _ _ _) (Nat.le_of_ble_eq_true rfl) rfl rfl ?_
    show Blk g M_X1_forget post 26 [(0, .ref x0), (1, .int (nI x1))] [] (xup (xup h x0 (xo 2 [.int (nI o2), .ref o3, .ref o4, .ref o5, .ref o6, .ref o7, .ref o8, .ref o9, .ref o10, .ref o11, .ref o12, .ref o13, .ref o14, .int (nI o15), .int (nI (min o16 x1)), .int (nI o17), .int o18, .int o19])) x0 (xo 2 [.int (nI o2), .ref o3, .ref o4, .ref o5, .ref o6, .ref o7, .ref o8, .ref o9, .ref o10, .ref o11, .ref o12, .ref o13, .ref o14, .int (nI o15), .int (nI (min o16 x1)), .int (nI 12), .int o18, .int o19])) nx 0 0
    rw [xup_up]
    show Blk g M_X1_forget post 26 [(0, .ref x0), (1, .int (nI x1))] [] (xup h x0 (xo 2 [.int (nI o2), .ref o3, .ref o4, .ref o5, .ref o6, .ref o7, .ref o8, .ref o9, .ref o10, .ref o11, .ref o12, .ref o13, .ref o14, .int (nI o15), .int (nI (min o16 x1)), .int (nI 12), .int o18, .int o19])) nx 0 0
    refine r_aload_n 0 dX1_forget_26 rfl rfl ?_
    refine r_iconst (v := (-1)) dX1_forget_27 rfl ?_
    refine r_putf (ci := 2) (kf := 16) (T := TX1) rfl in_X1 tyX1_ok nmX1 (by decide) wF_X1_83 rfl (tyX1_ok 16 (by decide)) dX1_forget_28 (xup_s _ _ _) (Nat.le_of_ble_eq_true rfl) rfl rfl ?_
    show Blk g M_X1_forget post 31 [(0, .ref x0), (1, .int (nI x1))] [] (xup (xup h x0 (xo 2 [.int (nI o2), .ref o3, .ref o4, .ref o5, .ref o6, .ref o7, .ref o8, .ref o9, .ref o10, .ref o11, .ref o12, .ref o13, .ref o14, .int (nI o15), .int (nI (min o16 x1)), .int (nI 12), .int o18, .int o19])) x0 (xo 2 [.int (nI o2), .ref o3, .ref o4, .ref o5, .ref o6, .ref o7, .ref o8, .ref o9, .ref o10, .ref o11, .ref o12, .ref o13, .ref o14, .int (nI o15), .int (nI (min o16 x1)), .int (nI 12), .int (-1), .int o19])) nx 0 0
    rw [xup_up]
    show Blk g M_X1_forget post 31 [(0, .ref x0), (1, .int (nI x1))] [] (xup h x0 (xo 2 [.int (nI o2), .ref o3, .ref o4, .ref o5, .ref o6, .ref o7, .ref o8, .ref o9, .ref o10, .ref o11, .ref o12, .ref o13, .ref o14, .int (nI o15), .int (nI (min o16 x1)), .int (nI 12), .int (-1), .int o19])) nx 0 0
    exact r_vret dX1_forget_31 rfl (by decide) (by decide) V
set_option maxRecDepth 20000 in
theorem v_X1_stands_0 {g : xG} {post : xPost} {h : xHp} {nx : Nat} {x0 : Nat} {x1 : Nat} (V : (∃ (o2 : Nat) (o3 : Nat) (o4 : Nat) (o5 : Nat) (o6 : Nat) (o7 : Nat) (o8 : Nat) (o9 : Nat) (o10 : Nat) (o11 : Nat) (o12 : Nat) (o13 : Nat) (o14 : Nat) (o15 : Nat) (o16 : Nat) (o17 : Nat) (o18 : Int32) (o19 : Int32), h x0 = some (xo 2 [.int (nI o2), .ref o3, .ref o4, .ref o5, .ref o6, .ref o7, .ref o8, .ref o9, .ref o10, .ref o11, .ref o12, .ref o13, .ref o14, .int (nI o15), .int (nI o16), .int (nI o17), .int o18, .int o19]) ∧ Blk g M_X1_stands post 5 [(0, .ref x0), (1, .int (nI x1)), (2, .int (nI o16))] [] h nx 0 0)) : Blk g M_X1_stands post 0 [(0, .ref x0), (1, .int (nI x1))] [] h nx 0 0 := by
  refine r_aload_n 0 dX1_stands_0 rfl rfl ?_
  obtain ⟨o2, o3, o4, o5, o6, o7, o8, o9, o10, o11, o12, o13, o14, o15, o16, o17, o18, o19, q1, V⟩ := V
  refine r_getf (ci := 2) (kf := 14) (T := TX1) rfl in_X1 (by decide) wF_X1_93 dX1_stands_1 q1 rfl ?_
  refine r_istore_n (L' := [(2, .int (nI o16)), (0, .ref x0), (1, .int (nI x1))]) dX1_stands_4 rfl (by decide) rfl ?_
  exact Blk.sub [1, 2, 0] rfl V
set_option maxRecDepth 20000 in
theorem v_X1_stands_5 {g : xG} {post : xPost} {h : xHp} {nx : Nat} {x0 : Nat} {x1 : Nat} {x2 : Nat} (V : ((x2 < 2 ^ 31 ∧ x1 < 2 ^ 31) ∧ ((x1 < x2 → (∃ (o2 : Nat) (o3 : Nat) (o4 : Nat) (o5 : Nat) (o6 : Nat) (o7 : Nat) (o8 : Nat) (o9 : Nat) (o10 : Nat) (o11 : Nat) (o12 : Nat) (o13 : Nat) (o14 : Nat) (o15 : Nat) (o16 : Nat) (o17 : Nat) (o18 : Int32) (o19 : Int32), h x0 = some (xo 2 [.int (nI o2), .ref o3, .ref o4, .ref o5, .ref o6, .ref o7, .ref o8, .ref o9, .ref o10, .ref o11, .ref o12, .ref o13, .ref o14, .int (nI o15), .int (nI o16), .int (nI o17), .int o18, .int o19]) ∧ ((x1 < 2 ^ 31 ∧ o16 < 2 ^ 31) ∧ ((o16 ≤ x1 → (post (some (.int (nI 0))) h nx)) ∧ (x1 < o16 → (post (some (.int (nI 1))) h nx)))))) ∧ (x2 ≤ x1 → (∃ (o21 : Nat) (o22 : Nat) (o23 : Nat) (o24 : Nat) (o25 : Nat) (o26 : Nat) (o27 : Nat) (o28 : Nat) (o29 : Nat) (o30 : Nat) (o31 : Nat) (o32 : Nat) (o33 : Nat) (o34 : Nat) (o35 : Nat) (o36 : Nat) (o37 : Int32) (o38 : Int32), h x0 = some (xo 2 [.int (nI o21), .ref o22, .ref o23, .ref o24, .ref o25, .ref o26, .ref o27, .ref o28, .ref o29, .ref o30, .ref o31, .ref o32, .ref o33, .int (nI o34), .int (nI o35), .int (nI o36), .int o37, .int o38]) ∧ ((x2 < 2 ^ 31 ∧ o36 < 2 ^ 31) ∧ ((o36 ≤ x2 → ((x1 < 2 ^ 31 ∧ o35 < 2 ^ 31) ∧ ((o35 ≤ x1 → (post (some (.int (nI 0))) h nx)) ∧ (x1 < o35 → (post (some (.int (nI 1))) h nx))))) ∧ (x2 < o36 → (Ct g M_X1_foretell [.ref x0, .int (nI x2)] h nx (fun r h39 n40 => r = none ∧ Blk g M_X1_stands post 5 [(0, .ref x0), (1, .int (nI x1)), (2, .int (nI (x2 + 1)))] [] h39 n40 0 0)))))))))) : Blk g M_X1_stands post 5 [(0, .ref x0), (1, .int (nI x1)), (2, .int (nI x2))] [] h nx 0 0 := by
  refine r_iload_n 2 dX1_stands_5 rfl rfl ?_
  refine r_iload_n 1 dX1_stands_6 rfl rfl ?_
  obtain ⟨c, V⟩ := V
  refine r_icmp_gtN (tgt := 29) dX1_stands_7 (by decide) c (fun c => ?_) (fun c => ?_)
  · have V := V.1 c
    refine r_iload_n 1 dX1_stands_29 rfl rfl ?_
    refine r_aload_n 0 dX1_stands_30 rfl rfl ?_
    obtain ⟨o2, o3, o4, o5, o6, o7, o8, o9, o10, o11, o12, o13, o14, o15, o16, o17, o18, o19, q1, V⟩ := V
    refine r_getf (ci := 2) (kf := 14) (T := TX1) rfl in_X1 (by decide) wF_X1_93 dX1_stands_31 q1 rfl ?_
    obtain ⟨c, V⟩ := V
    refine r_icmp_geN (tgt := 41) dX1_stands_34 (by decide) c (fun c => ?_) (fun c => ?_)
    · have V := V.1 c
      refine r_iconst (v := (nI 0)) dX1_stands_41 rfl ?_
      exact r_zret (ty := .boolean) dX1_stands_42 rfl rfl (by decide) (by decide) V
    · have V := V.2 c
      refine r_iconst (v := (nI 1)) dX1_stands_37 rfl ?_
      refine r_goto (tgt := 42) dX1_stands_38 (by decide) ?_
      exact r_zret (ty := .boolean) dX1_stands_42 rfl rfl (by decide) (by decide) V
  · have V := V.2 c
    refine r_iload_n 2 dX1_stands_10 rfl rfl ?_
    refine r_aload_n 0 dX1_stands_11 rfl rfl ?_
    obtain ⟨o21, o22, o23, o24, o25, o26, o27, o28, o29, o30, o31, o32, o33, o34, o35, o36, o37, o38, q20, V⟩ := V
    refine r_getf (ci := 2) (kf := 15) (T := TX1) rfl in_X1 (by decide) wF_X1_80 dX1_stands_12 q20 rfl ?_
    obtain ⟨c, V⟩ := V
    refine r_icmp_geN (tgt := 29) dX1_stands_15 (by decide) c (fun c => ?_) (fun c => ?_)
    · have V := V.1 c
      refine r_iload_n 1 dX1_stands_29 rfl rfl ?_
      refine r_aload_n 0 dX1_stands_30 rfl rfl ?_
      refine r_getf (ci := 2) (kf := 14) (T := TX1) rfl in_X1 (by decide) wF_X1_93 dX1_stands_31 q20 rfl ?_
      obtain ⟨c, V⟩ := V
      refine r_icmp_geN (tgt := 41) dX1_stands_34 (by decide) c (fun c => ?_) (fun c => ?_)
      · have V := V.1 c
        refine r_iconst (v := (nI 0)) dX1_stands_41 rfl ?_
        exact r_zret (ty := .boolean) dX1_stands_42 rfl rfl (by decide) (by decide) V
      · have V := V.2 c
        refine r_iconst (v := (nI 1)) dX1_stands_37 rfl ?_
        refine r_goto (tgt := 42) dX1_stands_38 (by decide) ?_
        exact r_zret (ty := .boolean) dX1_stands_42 rfl rfl (by decide) (by decide) V
    · have V := V.2 c
      refine r_aload_n 0 dX1_stands_18 rfl rfl ?_
      refine r_iload_n 2 dX1_stands_19 rfl rfl ?_
      refine r_callV (M2 := M_X1_foretell) (ci := 2) (n := 1) (As := [.int (nI x2)]) rfl (wl5 wM_X1_102 wi_X1_foretell wS_X1_foretell wI_StateShares_Forecast wc_X1_foretell) (by decide +kernel) (by decide) rfl rfl (Nat.le_of_ble_eq_true rfl) dX1_stands_20 q20 (by decide) (by decide) (Ct.imp V (fun r h39 n40 V => ?_))
      obtain ⟨rfl, V⟩ := V
      show Blk g M_X1_stands post 23 [(0, .ref x0), (1, .int (nI x1)), (2, .int (nI x2))] [] h39 n40 0 0
      refine r_iincN 2 (b := 1) (L' := [(2, .int (nI (x2 + 1))), (0, .ref x0), (1, .int (nI x1))]) dX1_stands_23 rfl rfl (by decide) rfl ?_
      refine r_goto (tgt := 5) dX1_stands_26 (by decide) ?_
      exact Blk.sub [1, 2, 0] rfl V
set_option maxRecDepth 20000 in
theorem v_X1_foretell_0 {g : xG} {post : xPost} {h : xHp} {nx : Nat} {x0 : Nat} {x1 : Nat} (V : (∃ (o2 : Nat) (o3 : Nat) (o4 : Nat) (o5 : Nat) (o6 : Nat) (o7 : Nat) (o8 : Nat) (o9 : Nat) (o10 : Nat) (o11 : Nat) (o12 : Nat) (o13 : Nat) (o14 : Nat) (o15 : Nat) (o16 : Nat) (o17 : Nat) (o18 : Int32) (o19 : Int32), h x0 = some (xo 2 [.int (nI o2), .ref o3, .ref o4, .ref o5, .ref o6, .ref o7, .ref o8, .ref o9, .ref o10, .ref o11, .ref o12, .ref o13, .ref o14, .int (nI o15), .int (nI o16), .int (nI o17), .int o18, .int o19]) ∧ (∃ (N21 : Nat) (f22 : Nat → Option Nat), h o8 = some (xra 6 N21 f22) ∧ ∃ b23 : Nat, x1 < N21 ∧ N21 < 2 ^ 31 ∧ f22 x1 = some b23 ∧ (x1 < 2 ^ 31 ∧ ((¬ x1 = 0 → (1 ≤ x1 ∧ (∃ b24 : Nat, (x1 - 1) < N21 ∧ N21 < 2 ^ 31 ∧ f22 (x1 - 1) = some b24 ∧ (∃ (o28 : Nat) (o29 : Nat) (o30 : Nat), h b23 = some (xo 6 [.ref o28, .ref o29, .ref o30]) ∧ Ct g M_X5_copy [.ref b23, .ref b24] h nx (fun r h25 n26 => r = none ∧ (∃ (o32 : Nat) (o33 : Nat) (o34 : Nat) (o35 : Nat) (o36 : Nat) (o37 : Nat) (o38 : Nat) (o39 : Nat) (o40 : Nat) (o41 : Nat) (o42 : Nat) (o43 : Nat) (o44 : Nat) (o45 : Nat) (o46 : Nat) (o47 : Nat) (o48 : Int32) (o49 : Int32), h25 x0 = some (xo 2 [.int (nI o32), .ref o33, .ref o34, .ref o35, .ref o36, .ref o37, .ref o38, .ref o39, .ref o40, .ref o41, .ref o42, .ref o43, .ref o44, .int (nI o45), .int (nI o46), .int (nI o47), .int o48, .int o49]) ∧ (1 ≤ x1 ∧ (∃ (o53 : Nat) (o54 : Nat) (o55 : Nat) (o56 : Nat) (o57 : Nat), h25 o34 = some (xo 9 [.ref o53, .ref o54, .ref o55, .ref o56, .ref o57]) ∧ Ct g M_X8_applyTo [.ref o34, .ref b23, .int (nI (x1 - 1))] h25 n26 (fun r h50 n51 => r = none ∧ (∃ (o59 : Nat) (o60 : Nat) (o61 : Nat) (o62 : Nat) (o63 : Nat) (o64 : Nat) (o65 : Nat) (o66 : Nat) (o67 : Nat) (o68 : Nat) (o69 : Nat) (o70 : Nat) (o71 : Nat) (o72 : Nat) (o73 : Nat) (o74 : Nat) (o75 : Int32) (o76 : Int32), h50 x0 = some (xo 2 [.int (nI o59), .ref o60, .ref o61, .ref o62, .ref o63, .ref o64, .ref o65, .ref o66, .ref o67, .ref o68, .ref o69, .ref o70, .ref o71, .int (nI o72), .int (nI o73), .int (nI o74), .int o75, .int o76]) ∧ (∃ (o80 : Nat) (o81 : Nat) (o82 : Nat), h50 b23 = some (xo 6 [.ref o80, .ref o81, .ref o82]) ∧ Ct g M_X5_move [.ref b23, .ref o60, .ref o67] h50 n51 (fun r h77 n78 => r = none ∧ (∃ (o84 : Nat) (o85 : Nat) (o86 : Nat) (o87 : Nat) (o88 : Nat) (o89 : Nat) (o90 : Nat) (o91 : Nat) (o92 : Nat) (o93 : Nat) (o94 : Nat) (o95 : Nat) (o96 : Nat) (o97 : Nat) (o98 : Nat) (o99 : Nat) (o100 : Int32) (o101 : Int32), h77 x0 = some (xo 2 [.int (nI o84), .ref o85, .ref o86, .ref o87, .ref o88, .ref o89, .ref o90, .ref o91, .ref o92, .ref o93, .ref o94, .ref o95, .ref o96, .int (nI o97), .int (nI o98), .int (nI o99), .int o100, .int o101]) ∧ (1 ≤ x1 ∧ (∃ (o105 : Nat) (o106 : Nat) (o107 : Nat) (o108 : Nat) (o109 : Nat), h77 o87 = some (xo 9 [.ref o105, .ref o106, .ref o107, .ref o108, .ref o109]) ∧ Ct g M_X8_applyTo [.ref o87, .ref b23, .int (nI (x1 - 1))] h77 n78 (fun r h102 n103 => r = none ∧ (∃ (o113 : Nat) (o114 : Nat) (o115 : Nat), h102 b23 = some (xo 6 [.ref o113, .ref o114, .ref o115]) ∧ Ct g M_X5_shorten [.ref b23] h102 n103 (fun r h110 n111 => r = none ∧ (∃ (o119 : Nat) (o120 : Nat) (o121 : Nat) (o122 : Nat) (o123 : Nat) (o124 : Nat) (o125 : Nat) (o126 : Nat) (o127 : Nat) (o128 : Nat) (o129 : Nat) (o130 : Nat) (o131 : Nat) (o132 : Nat) (o133 : Nat) (o134 : Nat) (o135 : Int32) (o136 : Int32), h110 x0 = some (xo 2 [.int (nI o119), .ref o120, .ref o121, .ref o122, .ref o123, .ref o124, .ref o125, .ref o126, .ref o127, .ref o128, .ref o129, .ref o130, .ref o131, .int (nI o132), .int (nI o133), .int (nI o134), .int o135, .int o136]) ∧ Ct g M_X1_keep [.ref x0, .int (nI x1)] h110 n111 (fun r h116 n117 => ∃ v137 : Nat, r = some (.int (nI v137)) ∧ (v137 < 2 ^ 31 ∧ ((v137 = 0 → (∃ (o139 : Nat) (o140 : Nat) (o141 : Nat) (o142 : Nat) (o143 : Nat) (o144 : Nat) (o145 : Nat) (o146 : Nat) (o147 : Nat) (o148 : Nat) (o149 : Nat) (o150 : Nat) (o151 : Nat) (o152 : Nat) (o153 : Nat) (o154 : Nat) (o155 : Int32) (o156 : Int32), h116 x0 = some (xo 2 [.int (nI o139), .ref o140, .ref o141, .ref o142, .ref o143, .ref o144, .ref o145, .ref o146, .ref o147, .ref o148, .ref o149, .ref o150, .ref o151, .int (nI o152), .int (nI o153), .int (nI o154), .int o155, .int o156]) ∧ (post none (xup h116 x0 (xo 2 [.int (nI o139), .ref o140, .ref o141, .ref o142, .ref o143, .ref o144, .ref o145, .ref o146, .ref o147, .ref o148, .ref o149, .ref o150, .ref o151, .int (nI o152), .int (nI o153), .int (nI x1), .int o155, .int o156])) n117))) ∧ (¬ v137 = 0 → (∃ (o158 : Nat) (o159 : Nat) (o160 : Nat) (o161 : Nat) (o162 : Nat) (o163 : Nat) (o164 : Nat) (o165 : Nat) (o166 : Nat) (o167 : Nat) (o168 : Nat) (o169 : Nat) (o170 : Nat) (o171 : Nat) (o172 : Nat) (o173 : Nat) (o174 : Int32) (o175 : Int32), h116 x0 = some (xo 2 [.int (nI o158), .ref o159, .ref o160, .ref o161, .ref o162, .ref o163, .ref o164, .ref o165, .ref o166, .ref o167, .ref o168, .ref o169, .ref o170, .int (nI o171), .int (nI o172), .int (nI o173), .int o174, .int o175]) ∧ (post none (xup h116 x0 (xo 2 [.int (nI o158), .ref o159, .ref o160, .ref o161, .ref o162, .ref o163, .ref o164, .ref o165, .ref o166, .ref o167, .ref o168, .ref o169, .ref o170, .int (nI o171), .int (nI (x1 + 1)), .int (nI o173), .int o174, .int o175])) n117))))))))))))))))))))))))) ∧ (x1 = 0 → (∃ (o179 : Nat) (o180 : Nat) (o181 : Nat), h b23 = some (xo 6 [.ref o179, .ref o180, .ref o181]) ∧ Ct g M_X5_begin [.ref b23, .ref o6, .ref o7] h nx (fun r h176 n177 => r = none ∧ (∃ (o185 : Nat) (o186 : Nat) (o187 : Nat), h176 b23 = some (xo 6 [.ref o185, .ref o186, .ref o187]) ∧ Ct g M_X5_shorten [.ref b23] h176 n177 (fun r h182 n183 => r = none ∧ (∃ (o191 : Nat) (o192 : Nat) (o193 : Nat) (o194 : Nat) (o195 : Nat) (o196 : Nat) (o197 : Nat) (o198 : Nat) (o199 : Nat) (o200 : Nat) (o201 : Nat) (o202 : Nat) (o203 : Nat) (o204 : Nat) (o205 : Nat) (o206 : Nat) (o207 : Int32) (o208 : Int32), h182 x0 = some (xo 2 [.int (nI o191), .ref o192, .ref o193, .ref o194, .ref o195, .ref o196, .ref o197, .ref o198, .ref o199, .ref o200, .ref o201, .ref o202, .ref o203, .int (nI o204), .int (nI o205), .int (nI o206), .int o207, .int o208]) ∧ Ct g M_X1_keep [.ref x0, .int (nI x1)] h182 n183 (fun r h188 n189 => ∃ v209 : Nat, r = some (.int (nI v209)) ∧ (v209 < 2 ^ 31 ∧ ((v209 = 0 → (∃ (o211 : Nat) (o212 : Nat) (o213 : Nat) (o214 : Nat) (o215 : Nat) (o216 : Nat) (o217 : Nat) (o218 : Nat) (o219 : Nat) (o220 : Nat) (o221 : Nat) (o222 : Nat) (o223 : Nat) (o224 : Nat) (o225 : Nat) (o226 : Nat) (o227 : Int32) (o228 : Int32), h188 x0 = some (xo 2 [.int (nI o211), .ref o212, .ref o213, .ref o214, .ref o215, .ref o216, .ref o217, .ref o218, .ref o219, .ref o220, .ref o221, .ref o222, .ref o223, .int (nI o224), .int (nI o225), .int (nI o226), .int o227, .int o228]) ∧ (post none (xup h188 x0 (xo 2 [.int (nI o211), .ref o212, .ref o213, .ref o214, .ref o215, .ref o216, .ref o217, .ref o218, .ref o219, .ref o220, .ref o221, .ref o222, .ref o223, .int (nI o224), .int (nI o225), .int (nI x1), .int o227, .int o228])) n189))) ∧ (¬ v209 = 0 → (∃ (o230 : Nat) (o231 : Nat) (o232 : Nat) (o233 : Nat) (o234 : Nat) (o235 : Nat) (o236 : Nat) (o237 : Nat) (o238 : Nat) (o239 : Nat) (o240 : Nat) (o241 : Nat) (o242 : Nat) (o243 : Nat) (o244 : Nat) (o245 : Nat) (o246 : Int32) (o247 : Int32), h188 x0 = some (xo 2 [.int (nI o230), .ref o231, .ref o232, .ref o233, .ref o234, .ref o235, .ref o236, .ref o237, .ref o238, .ref o239, .ref o240, .ref o241, .ref o242, .int (nI o243), .int (nI o244), .int (nI o245), .int o246, .int o247]) ∧ (post none (xup h188 x0 (xo 2 [.int (nI o230), .ref o231, .ref o232, .ref o233, .ref o234, .ref o235, .ref o236, .ref o237, .ref o238, .ref o239, .ref o240, .ref o241, .ref o242, .int (nI o243), .int (nI (x1 + 1)), .int (nI o245), .int o246, .int o247])) n189))))))))))))))))) : Blk g M_X1_foretell post 0 [(0, .ref x0), (1, .int (nI x1))] [] h nx 0 0 := by
  refine r_aload_n 0 dX1_foretell_0 rfl rfl ?_
  obtain ⟨o2, o3, o4, o5, o6, o7, o8, o9, o10, o11, o12, o13, o14, o15, o16, o17, o18, o19, q1, V⟩ := V
  refine r_getf (ci := 2) (kf := 6) (T := TX1) rfl in_X1 (by decide) wF_X1_35 dX1_foretell_1 q1 rfl ?_
  refine r_iload_n 1 dX1_foretell_4 rfl rfl ?_
  obtain ⟨N21, f22, q20, V⟩ := V
  obtain ⟨b23, c, cN, cb, V⟩ := V
  refine r_aald (kd := 6) (C0 := RX5) (fun _ => rfl) dX1_foretell_5 q20 rfl c cN cb ?_
  refine r_astore_n (L' := [(2, .ref b23), (0, .ref x0), (1, .int (nI x1))]) dX1_foretell_6 rfl (by decide) rfl ?_
  refine r_iload_n 2 dX1_foretell_7 rfl rfl ?_
  obtain ⟨c, V⟩ := V
  refine r_if_neN (tgt := 26) dX1_foretell_8 (by decide) c (fun c => ?_) (fun c => ?_)
  · have V := V.1 c
    refine r_aload_n 0 dX1_foretell_26 rfl rfl ?_
    refine r_aload_n 1 dX1_foretell_27 rfl rfl ?_
    refine r_getf (ci := 2) (kf := 6) (T := TX1) rfl in_X1 (by decide) wF_X1_35 dX1_foretell_28 q1 rfl ?_
    refine r_iload_n 2 dX1_foretell_31 rfl rfl ?_
    refine r_iconst (v := (nI 1)) dX1_foretell_32 rfl ?_
    obtain ⟨c, V⟩ := V
    refine r_isubN dX1_foretell_33 c ?_
    obtain ⟨b24, c, cN, cb, V⟩ := V
    refine r_aald (kd := 6) (C0 := RX5) (fun _ => rfl) dX1_foretell_34 q20 rfl c cN cb ?_
    obtain ⟨o28, o29, o30, q27, V⟩ := V
    refine r_callV (M2 := M_X5_copy) (ci := 6) (n := 1) (As := [.ref b24]) rfl (wl5 wM_X1_109 wi_X5_copy wS_X5_copy wI_StateShares_Row wc_X5_copy) (by decide +kernel) (by decide) rfl rfl (Nat.le_of_ble_eq_true rfl) dX1_foretell_35 q27 (by decide) (by decide) (Ct.imp V (fun r h25 n26 V => ?_))
    obtain ⟨rfl, V⟩ := V
    show Blk g M_X1_foretell post 38 [(2, .ref b23), (0, .ref x0), (1, .int (nI x1))] [] h25 n26 0 0
    refine r_aload_n 1 dX1_foretell_38 rfl rfl ?_
    obtain ⟨o32, o33, o34, o35, o36, o37, o38, o39, o40, o41, o42, o43, o44, o45, o46, o47, o48, o49, q31, V⟩ := V
    refine r_getf (ci := 2) (kf := 2) (T := TX1) rfl in_X1 (by decide) wF_X1_19 dX1_foretell_39 q31 rfl ?_
    refine r_aload_n 0 dX1_foretell_42 rfl rfl ?_
    refine r_iload_n 2 dX1_foretell_43 rfl rfl ?_
    refine r_iconst (v := (nI 1)) dX1_foretell_44 rfl ?_
    obtain ⟨c, V⟩ := V
    refine r_isubN dX1_foretell_45 c ?_
    obtain ⟨o53, o54, o55, o56, o57, q52, V⟩ := V
    refine r_callV (M2 := M_X8_applyTo) (ci := 9) (n := 2) (As := [.ref b23, .int (nI (x1 - 1))]) rfl (wl5 wM_X1_113 wi_X8_applyTo wS_X8_applyTo wI_StateShares_Transfers wc_X8_applyTo) (by decide +kernel) (by decide) rfl rfl (Nat.le_of_ble_eq_true rfl) dX1_foretell_46 q52 (by decide) (by decide) (Ct.imp V (fun r h50 n51 V => ?_))
    obtain ⟨rfl, V⟩ := V
    show Blk g M_X1_foretell post 49 [(2, .ref b23), (0, .ref x0), (1, .int (nI x1))] [] h50 n51 0 0
    refine r_aload_n 0 dX1_foretell_49 rfl rfl ?_
    refine r_aload_n 1 dX1_foretell_50 rfl rfl ?_
    obtain ⟨o59, o60, o61, o62, o63, o64, o65, o66, o67, o68, o69, o70, o71, o72, o73, o74, o75, o76, q58, V⟩ := V
    refine r_getf (ci := 2) (kf := 1) (T := TX1) rfl in_X1 (by decide) wF_X1_15 dX1_foretell_51 q58 rfl ?_
    refine r_aload_n 1 dX1_foretell_54 rfl rfl ?_
    refine r_getf (ci := 2) (kf := 8) (T := TX1) rfl in_X1 (by decide) wF_X1_53 dX1_foretell_55 q58 rfl ?_
    obtain ⟨o80, o81, o82, q79, V⟩ := V
    refine r_callV (M2 := M_X5_move) (ci := 6) (n := 2) (As := [.ref o60, .ref o67]) rfl (wl5 wM_X1_119 wi_X5_move wS_X5_move wI_StateShares_Row wc_X5_move) (by decide +kernel) (by decide) rfl rfl (Nat.le_of_ble_eq_true rfl) dX1_foretell_58 q79 (by decide) (by decide) (Ct.imp V (fun r h77 n78 V => ?_))
    obtain ⟨rfl, V⟩ := V
    show Blk g M_X1_foretell post 61 [(2, .ref b23), (0, .ref x0), (1, .int (nI x1))] [] h77 n78 0 0
    refine r_aload_n 1 dX1_foretell_61 rfl rfl ?_
    obtain ⟨o84, o85, o86, o87, o88, o89, o90, o91, o92, o93, o94, o95, o96, o97, o98, o99, o100, o101, q83, V⟩ := V
    refine r_getf (ci := 2) (kf := 3) (T := TX1) rfl in_X1 (by decide) wF_X1_23 dX1_foretell_62 q83 rfl ?_
    refine r_aload_n 0 dX1_foretell_65 rfl rfl ?_
    refine r_iload_n 2 dX1_foretell_66 rfl rfl ?_
    refine r_iconst (v := (nI 1)) dX1_foretell_67 rfl ?_
    obtain ⟨c, V⟩ := V
    refine r_isubN dX1_foretell_68 c ?_
    obtain ⟨o105, o106, o107, o108, o109, q104, V⟩ := V
    refine r_callV (M2 := M_X8_applyTo) (ci := 9) (n := 2) (As := [.ref b23, .int (nI (x1 - 1))]) rfl (wl5 wM_X1_113 wi_X8_applyTo wS_X8_applyTo wI_StateShares_Transfers wc_X8_applyTo) (by decide +kernel) (by decide) rfl rfl (Nat.le_of_ble_eq_true rfl) dX1_foretell_69 q104 (by decide) (by decide) (Ct.imp V (fun r h102 n103 V => ?_))
    obtain ⟨rfl, V⟩ := V
    show Blk g M_X1_foretell post 72 [(2, .ref b23), (0, .ref x0), (1, .int (nI x1))] [] h102 n103 0 0
    refine r_aload_n 0 dX1_foretell_72 rfl rfl ?_
    obtain ⟨o113, o114, o115, q112, V⟩ := V
    refine r_callV (M2 := M_X5_shorten) (ci := 6) (n := 0) (As := []) rfl (wl5 wM_X1_123 wi_X5_shorten wS_X5_shorten wI_StateShares_Row wc_X5_shorten) (by decide +kernel) (by decide) rfl rfl (Nat.le_of_ble_eq_true rfl) dX1_foretell_73 q112 (by decide) (by decide) (Ct.imp V (fun r h110 n111 V => ?_))
    obtain ⟨rfl, V⟩ := V
    show Blk g M_X1_foretell post 76 [(2, .ref b23), (0, .ref x0), (1, .int (nI x1))] [] h110 n111 0 0
    refine r_aload_n 1 dX1_foretell_76 rfl rfl ?_
    refine r_iload_n 2 dX1_foretell_77 rfl rfl ?_
    obtain ⟨o119, o120, o121, o122, o123, o124, o125, o126, o127, o128, o129, o130, o131, o132, o133, o134, o135, o136, q118, V⟩ := V
    refine r_callV (M2 := M_X1_keep) (ci := 2) (n := 1) (As := [.int (nI x1)]) rfl (wl5 wM_X1_126 wi_X1_keep wS_X1_keep wI_StateShares_Forecast wc_X1_keep) (by decide +kernel) (by decide) rfl rfl (Nat.le_of_ble_eq_true rfl) dX1_foretell_78 q118 (by decide) (by decide) (Ct.imp V (fun r h116 n117 V => ?_))
    obtain ⟨v137, rfl, V⟩ := V
    show Blk g M_X1_foretell post 81 [(2, .ref b23), (0, .ref x0), (1, .int (nI x1))] [.int (nI v137)] h116 n117 0 0
    obtain ⟨c, V⟩ := V
    refine r_if_eqN (tgt := 94) dX1_foretell_81 (by decide) c (fun c => ?_) (fun c => ?_)
    · have V := V.1 c
      refine r_aload_n 1 dX1_foretell_94 rfl rfl ?_
      refine r_iload_n 2 dX1_foretell_95 rfl rfl ?_
      obtain ⟨o139, o140, o141, o142, o143, o144, o145, o146, o147, o148, o149, o150, o151, o152, o153, o154, o155, o156, q138, V⟩ := V
      refine r_putf (ci := 2) (kf := 15) (T := TX1) rfl in_X1 tyX1_ok nmX1 (by decide) wF_X1_80 rfl (tyX1_ok 15 (by decide)) dX1_foretell_96 q138 (Nat.le_of_ble_eq_true rfl) rfl rfl ?_
      show Blk g M_X1_foretell post 99 [(2, .ref b23), (0, .ref x0), (1, .int (nI x1))] [] (xup h116 x0 (xo 2 [.int (nI o139), .ref o140, .ref o141, .ref o142, .ref o143, .ref o144, .ref o145, .ref o146, .ref o147, .ref o148, .ref o149, .ref o150, .ref o151, .int (nI o152), .int (nI o153), .int (nI x1), .int o155, .int o156])) n117 0 0
      exact r_vret dX1_foretell_99 rfl (by decide) (by decide) V
    · have V := V.2 c
      refine r_aload_n 1 dX1_foretell_84 rfl rfl ?_
      refine r_iload_n 2 dX1_foretell_85 rfl rfl ?_
      refine r_iconst (v := (nI 1)) dX1_foretell_86 rfl ?_
      refine r_iaddN dX1_foretell_87 ?_
      obtain ⟨o158, o159, o160, o161, o162, o163, o164, o165, o166, o167, o168, o169, o170, o171, o172, o173, o174, o175, q157, V⟩ := V
      refine r_putf (ci := 2) (kf := 14) (T := TX1) rfl in_X1 tyX1_ok nmX1 (by decide) wF_X1_93 rfl (tyX1_ok 14 (by decide)) dX1_foretell_88 q157 (Nat.le_of_ble_eq_true rfl) rfl rfl ?_
      show Blk g M_X1_foretell post 91 [(2, .ref b23), (0, .ref x0), (1, .int (nI x1))] [] (xup h116 x0 (xo 2 [.int (nI o158), .ref o159, .ref o160, .ref o161, .ref o162, .ref o163, .ref o164, .ref o165, .ref o166, .ref o167, .ref o168, .ref o169, .ref o170, .int (nI o171), .int (nI (x1 + 1)), .int (nI o173), .int o174, .int o175])) n117 0 0
      refine r_goto (tgt := 99) dX1_foretell_91 (by decide) ?_
      exact r_vret dX1_foretell_99 rfl (by decide) (by decide) V
  · have V := V.2 c
    refine r_aload_n 0 dX1_foretell_11 rfl rfl ?_
    refine r_aload_n 1 dX1_foretell_12 rfl rfl ?_
    refine r_getf (ci := 2) (kf := 4) (T := TX1) rfl in_X1 (by decide) wF_X1_26 dX1_foretell_13 q1 rfl ?_
    refine r_aload_n 1 dX1_foretell_16 rfl rfl ?_
    refine r_getf (ci := 2) (kf := 5) (T := TX1) rfl in_X1 (by decide) wF_X1_30 dX1_foretell_17 q1 rfl ?_
    obtain ⟨o179, o180, o181, q178, V⟩ := V
    refine r_callV (M2 := M_X5_begin) (ci := 6) (n := 2) (As := [.ref o6, .ref o7]) rfl (wl5 wM_X1_105 wi_X5_begin wS_X5_begin wI_StateShares_Row wc_X5_begin) (by decide +kernel) (by decide) rfl rfl (Nat.le_of_ble_eq_true rfl) dX1_foretell_20 q178 (by decide) (by decide) (Ct.imp V (fun r h176 n177 V => ?_))
    obtain ⟨rfl, V⟩ := V
    show Blk g M_X1_foretell post 23 [(2, .ref b23), (0, .ref x0), (1, .int (nI x1))] [] h176 n177 0 0
    refine r_goto (tgt := 72) dX1_foretell_23 (by decide) ?_
    refine r_aload_n 0 dX1_foretell_72 rfl rfl ?_
    obtain ⟨o185, o186, o187, q184, V⟩ := V
    refine r_callV (M2 := M_X5_shorten) (ci := 6) (n := 0) (As := []) rfl (wl5 wM_X1_123 wi_X5_shorten wS_X5_shorten wI_StateShares_Row wc_X5_shorten) (by decide +kernel) (by decide) rfl rfl (Nat.le_of_ble_eq_true rfl) dX1_foretell_73 q184 (by decide) (by decide) (Ct.imp V (fun r h182 n183 V => ?_))
    obtain ⟨rfl, V⟩ := V
    show Blk g M_X1_foretell post 76 [(2, .ref b23), (0, .ref x0), (1, .int (nI x1))] [] h182 n183 0 0
    refine r_aload_n 1 dX1_foretell_76 rfl rfl ?_
    refine r_iload_n 2 dX1_foretell_77 rfl rfl ?_
    obtain ⟨o191, o192, o193, o194, o195, o196, o197, o198, o199, o200, o201, o202, o203, o204, o205, o206, o207, o208, q190, V⟩ := V
    refine r_callV (M2 := M_X1_keep) (ci := 2) (n := 1) (As := [.int (nI x1)]) rfl (wl5 wM_X1_126 wi_X1_keep wS_X1_keep wI_StateShares_Forecast wc_X1_keep) (by decide +kernel) (by decide) rfl rfl (Nat.le_of_ble_eq_true rfl) dX1_foretell_78 q190 (by decide) (by decide) (Ct.imp V (fun r h188 n189 V => ?_))
    obtain ⟨v209, rfl, V⟩ := V
    show Blk g M_X1_foretell post 81 [(2, .ref b23), (0, .ref x0), (1, .int (nI x1))] [.int (nI v209)] h188 n189 0 0
    obtain ⟨c, V⟩ := V
    refine r_if_eqN (tgt := 94) dX1_foretell_81 (by decide) c (fun c => ?_) (fun c => ?_)
    · have V := V.1 c
      refine r_aload_n 1 dX1_foretell_94 rfl rfl ?_
      refine r_iload_n 2 dX1_foretell_95 rfl rfl ?_
      obtain ⟨o211, o212, o213, o214, o215, o216, o217, o218, o219, o220, o221, o222, o223, o224, o225, o226, o227, o228, q210, V⟩ := V
      refine r_putf (ci := 2) (kf := 15) (T := TX1) rfl in_X1 tyX1_ok nmX1 (by decide) wF_X1_80 rfl (tyX1_ok 15 (by decide)) dX1_foretell_96 q210 (Nat.le_of_ble_eq_true rfl) rfl rfl ?_
      show Blk g M_X1_foretell post 99 [(2, .ref b23), (0, .ref x0), (1, .int (nI x1))] [] (xup h188 x0 (xo 2 [.int (nI o211), .ref o212, .ref o213, .ref o214, .ref o215, .ref o216, .ref o217, .ref o218, .ref o219, .ref o220, .ref o221, .ref o222, .ref o223, .int (nI o224), .int (nI o225), .int (nI x1), .int o227, .int o228])) n189 0 0
      exact r_vret dX1_foretell_99 rfl (by decide) (by decide) V
    · have V := V.2 c
      refine r_aload_n 1 dX1_foretell_84 rfl rfl ?_
      refine r_iload_n 2 dX1_foretell_85 rfl rfl ?_
      refine r_iconst (v := (nI 1)) dX1_foretell_86 rfl ?_
      refine r_iaddN dX1_foretell_87 ?_
      obtain ⟨o230, o231, o232, o233, o234, o235, o236, o237, o238, o239, o240, o241, o242, o243, o244, o245, o246, o247, q229, V⟩ := V
      refine r_putf (ci := 2) (kf := 14) (T := TX1) rfl in_X1 tyX1_ok nmX1 (by decide) wF_X1_93 rfl (tyX1_ok 14 (by decide)) dX1_foretell_88 q229 (Nat.le_of_ble_eq_true rfl) rfl rfl ?_
      show Blk g M_X1_foretell post 91 [(2, .ref b23), (0, .ref x0), (1, .int (nI x1))] [] (xup h188 x0 (xo 2 [.int (nI o230), .ref o231, .ref o232, .ref o233, .ref o234, .ref o235, .ref o236, .ref o237, .ref o238, .ref o239, .ref o240, .ref o241, .ref o242, .int (nI o243), .int (nI (x1 + 1)), .int (nI o245), .int o246, .int o247])) n189 0 0
      refine r_goto (tgt := 99) dX1_foretell_91 (by decide) ?_
      exact r_vret dX1_foretell_99 rfl (by decide) (by decide) V
set_option maxRecDepth 20000 in
theorem v_X1_keep_0 {g : xG} {post : xPost} {h : xHp} {nx : Nat} {x0 : Nat} {x1 : Nat} (V : Blk g M_X1_keep post 2 [(0, .ref x0), (1, .int (nI x1)), (2, .int (nI 0))] [] h nx 0 0) : Blk g M_X1_keep post 0 [(0, .ref x0), (1, .int (nI x1))] [] h nx 0 0 := by
  refine r_iconst (v := (nI 0)) dX1_keep_0 rfl ?_
  refine r_istore_n (L' := [(2, .int (nI 0)), (0, .ref x0), (1, .int (nI x1))]) dX1_keep_1 rfl (by decide) rfl ?_
  exact Blk.sub [1, 2, 0] rfl V
set_option maxRecDepth 20000 in
theorem v_X1_keep_2 {g : xG} {post : xPost} {h : xHp} {nx : Nat} {x0 : Nat} {x1 : Nat} {x2 : Nat} (V : (∃ (o2 : Nat) (o3 : Nat) (o4 : Nat) (o5 : Nat) (o6 : Nat) (o7 : Nat) (o8 : Nat) (o9 : Nat) (o10 : Nat) (o11 : Nat) (o12 : Nat) (o13 : Nat) (o14 : Nat) (o15 : Nat) (o16 : Nat) (o17 : Nat) (o18 : Int32) (o19 : Int32), h x0 = some (xo 2 [.int (nI o2), .ref o3, .ref o4, .ref o5, .ref o6, .ref o7, .ref o8, .ref o9, .ref o10, .ref o11, .ref o12, .ref o13, .ref o14, .int (nI o15), .int (nI o16), .int (nI o17), .int o18, .int o19]) ∧ ((x2 < 2 ^ 31 ∧ o2 < 2 ^ 31) ∧ ((o2 ≤ x2 → (post (some (.int (nI 1))) h nx)) ∧ (x2 < o2 → (∃ (N21 : Nat) (f22 : Nat → Option Nat), h o8 = some (xra 6 N21 f22) ∧ ∃ b23 : Nat, x1 < N21 ∧ N21 < 2 ^ 31 ∧ f22 x1 = some b23 ∧ (∃ (o27 : Nat) (o28 : Nat) (o29 : Nat), h b23 = some (xo 6 [.ref o27, .ref o28, .ref o29]) ∧ Ct g M_X5_has [.ref b23, .int (nI x2)] h nx (fun r h24 n25 => ∃ v30 : Nat, r = some (.ref v30) ∧ (∃ (o32 : Nat) (o33 : Nat) (o34 : Nat) (o35 : Nat) (o36 : Nat) (o37 : Nat) (o38 : Nat) (o39 : Nat) (o40 : Nat) (o41 : Nat) (o42 : Nat) (o43 : Nat) (o44 : Nat) (o45 : Nat) (o46 : Nat) (o47 : Nat) (o48 : Int32) (o49 : Int32), h24 x0 = some (xo 2 [.int (nI o32), .ref o33, .ref o34, .ref o35, .ref o36, .ref o37, .ref o38, .ref o39, .ref o40, .ref o41, .ref o42, .ref o43, .ref o44, .int (nI o45), .int (nI o46), .int (nI o47), .int o48, .int o49]) ∧ (∃ (N51 : Nat) (f52 : Nat → Option Nat), h24 o38 = some (xra 6 N51 f52) ∧ ∃ b53 : Nat, x1 < N51 ∧ N51 < 2 ^ 31 ∧ f52 x1 = some b53 ∧ (∃ (o57 : Nat) (o58 : Nat), h24 o11 = some (xo 3 [.ref o57, .ref o58]) ∧ Ct g M_X2_setLowest [.ref o11, .ref v30, .ref b53] h24 n25 (fun r h54 n55 => r = none ∧ (∃ (o60 : Nat) (o61 : Nat) (o62 : Nat) (o63 : Nat) (o64 : Nat) (o65 : Nat) (o66 : Nat) (o67 : Nat) (o68 : Nat) (o69 : Nat) (o70 : Nat) (o71 : Nat) (o72 : Nat) (o73 : Nat) (o74 : Nat) (o75 : Nat) (o76 : Int32) (o77 : Int32), h54 x0 = some (xo 2 [.int (nI o60), .ref o61, .ref o62, .ref o63, .ref o64, .ref o65, .ref o66, .ref o67, .ref o68, .ref o69, .ref o70, .ref o71, .ref o72, .int (nI o73), .int (nI o74), .int (nI o75), .int o76, .int o77]) ∧ (∃ (o81 : Nat) (o82 : Nat), h54 o69 = some (xo 3 [.ref o81, .ref o82]) ∧ Ct g M_X2_isBelow [.ref o69, .ref o70] h54 n55 (fun r h78 n79 => ∃ v83 : Nat, r = some (.int (nI v83)) ∧ (v83 < 2 ^ 31 ∧ ((¬ v83 = 0 → (∃ (o85 : Nat) (o86 : Nat) (o87 : Nat) (o88 : Nat) (o89 : Nat) (o90 : Nat) (o91 : Nat) (o92 : Nat) (o93 : Nat) (o94 : Nat) (o95 : Nat) (o96 : Nat) (o97 : Nat) (o98 : Nat) (o99 : Nat) (o100 : Nat) (o101 : Int32) (o102 : Int32), h78 x0 = some (xo 2 [.int (nI o85), .ref o86, .ref o87, .ref o88, .ref o89, .ref o90, .ref o91, .ref o92, .ref o93, .ref o94, .ref o95, .ref o96, .ref o97, .int (nI o98), .int (nI o99), .int (nI o100), .int o101, .int o102]) ∧ (∃ (N104 : Nat) (f105 : Nat → Option Nat), h78 o92 = some (xra 5 N104 f105) ∧ ∃ b106 : Nat, ((x1 * 6) + x2) < N104 ∧ N104 < 2 ^ 31 ∧ f105 ((x1 * 6) + x2) = some b106 ∧ (∃ (o110 : Nat) (o111 : Nat), h78 b106 = some (xo 3 [.ref o110, .ref o111]) ∧ Ct g M_X2_copy [.ref b106, .ref o94] h78 n79 (fun r h107 n108 => r = none ∧ Blk g M_X1_keep post 2 [(0, .ref x0), (1, .int (nI x1)), (2, .int (nI (x2 + 1)))] [] h107 n108 0 0))))) ∧ (v83 = 0 → (post (some (.int (nI 0))) h78 n79))))))))))))))))))) : Blk g M_X1_keep post 2 [(0, .ref x0), (1, .int (nI x1)), (2, .int (nI x2))] [] h nx 0 0 := by
  refine r_iload_n 2 dX1_keep_2 rfl rfl ?_
  refine r_aload_n 0 dX1_keep_3 rfl rfl ?_
  obtain ⟨o2, o3, o4, o5, o6, o7, o8, o9, o10, o11, o12, o13, o14, o15, o16, o17, o18, o19, q1, V⟩ := V
  refine r_getf (ci := 2) (kf := 0) (T := TX1) rfl in_X1 (by decide) wF_X1_9 dX1_keep_4 q1 rfl ?_
  obtain ⟨c, V⟩ := V
  refine r_icmp_geN (tgt := 73) dX1_keep_7 (by decide) c (fun c => ?_) (fun c => ?_)
  · have V := V.1 c
    refine r_iconst (v := (nI 1)) dX1_keep_73 rfl ?_
    exact r_zret (ty := .boolean) dX1_keep_74 rfl rfl (by decide) (by decide) V
  · have V := V.2 c
    refine r_aload_n 0 dX1_keep_10 rfl rfl ?_
    refine r_getf (ci := 2) (kf := 9) (T := TX1) rfl in_X1 (by decide) wF_X1_58 dX1_keep_11 q1 rfl ?_
    refine r_aload_n 0 dX1_keep_14 rfl rfl ?_
    refine r_getf (ci := 2) (kf := 6) (T := TX1) rfl in_X1 (by decide) wF_X1_35 dX1_keep_15 q1 rfl ?_
    refine r_iload_n 1 dX1_keep_18 rfl rfl ?_
    obtain ⟨N21, f22, q20, V⟩ := V
    obtain ⟨b23, c, cN, cb, V⟩ := V
    refine r_aald (kd := 6) (C0 := RX5) (fun _ => rfl) dX1_keep_19 q20 rfl c cN cb ?_
    refine r_iload_n 2 dX1_keep_20 rfl rfl ?_
    obtain ⟨o27, o28, o29, q26, V⟩ := V
    refine r_callV (M2 := M_X5_has) (ci := 6) (n := 1) (As := [.int (nI x2)]) rfl (wl5 wM_X1_130 wi_X5_has wS_X5_has wI_StateShares_Row wc_X5_has) (by decide +kernel) (by decide) rfl rfl (Nat.le_of_ble_eq_true rfl) dX1_keep_21 q26 (by decide) (by decide) (Ct.imp V (fun r h24 n25 V => ?_))
    obtain ⟨v30, rfl, V⟩ := V
    show Blk g M_X1_keep post 24 [(0, .ref x0), (1, .int (nI x1)), (2, .int (nI x2))] [.ref v30, .ref o11] h24 n25 0 0
    refine r_aload_n 0 dX1_keep_24 rfl rfl ?_
    obtain ⟨o32, o33, o34, o35, o36, o37, o38, o39, o40, o41, o42, o43, o44, o45, o46, o47, o48, o49, q31, V⟩ := V
    refine r_getf (ci := 2) (kf := 6) (T := TX1) rfl in_X1 (by decide) wF_X1_35 dX1_keep_25 q31 rfl ?_
    refine r_iload_n 1 dX1_keep_28 rfl rfl ?_
    obtain ⟨N51, f52, q50, V⟩ := V
    obtain ⟨b53, c, cN, cb, V⟩ := V
    refine r_aald (kd := 6) (C0 := RX5) (fun _ => rfl) dX1_keep_29 q50 rfl c cN cb ?_
    obtain ⟨o57, o58, q56, V⟩ := V
    refine r_callV (M2 := M_X2_setLowest) (ci := 3) (n := 2) (As := [.ref v30, .ref b53]) rfl (wl5 wM_X1_134 wi_X2_setLowest wS_X2_setLowest wI_StateShares_Fraction wc_X2_setLowest) (by decide +kernel) (by decide) rfl rfl (Nat.le_of_ble_eq_true rfl) dX1_keep_30 q56 (by decide) (by decide) (Ct.imp V (fun r h54 n55 V => ?_))
    obtain ⟨rfl, V⟩ := V
    show Blk g M_X1_keep post 33 [(0, .ref x0), (1, .int (nI x1)), (2, .int (nI x2))] [] h54 n55 0 0
    refine r_aload_n 0 dX1_keep_33 rfl rfl ?_
    obtain ⟨o60, o61, o62, o63, o64, o65, o66, o67, o68, o69, o70, o71, o72, o73, o74, o75, o76, o77, q59, V⟩ := V
    refine r_getf (ci := 2) (kf := 9) (T := TX1) rfl in_X1 (by decide) wF_X1_58 dX1_keep_34 q59 rfl ?_
    refine r_aload_n 0 dX1_keep_37 rfl rfl ?_
    refine r_getf (ci := 2) (kf := 10) (T := TX1) rfl in_X1 (by decide) wF_X1_68 dX1_keep_38 q59 rfl ?_
    obtain ⟨o81, o82, q80, V⟩ := V
    refine r_callV (M2 := M_X2_isBelow) (ci := 3) (n := 1) (As := [.ref o70]) rfl (wl5 wM_X1_138 wi_X2_isBelow wS_X2_isBelow wI_StateShares_Fraction wc_X2_isBelow) (by decide +kernel) (by decide) rfl rfl (Nat.le_of_ble_eq_true rfl) dX1_keep_41 q80 (by decide) (by decide) (Ct.imp V (fun r h78 n79 V => ?_))
    obtain ⟨v83, rfl, V⟩ := V
    show Blk g M_X1_keep post 44 [(0, .ref x0), (1, .int (nI x1)), (2, .int (nI x2))] [.int (nI v83)] h78 n79 0 0
    obtain ⟨c, V⟩ := V
    refine r_if_neN (tgt := 49) dX1_keep_44 (by decide) c (fun c => ?_) (fun c => ?_)
    · have V := V.1 c
      refine r_aload_n 0 dX1_keep_49 rfl rfl ?_
      obtain ⟨o85, o86, o87, o88, o89, o90, o91, o92, o93, o94, o95, o96, o97, o98, o99, o100, o101, o102, q84, V⟩ := V
      refine r_getf (ci := 2) (kf := 7) (T := TX1) rfl in_X1 (by decide) wF_X1_44 dX1_keep_50 q84 rfl ?_
      refine r_iload_n 1 dX1_keep_53 rfl rfl ?_
      refine r_bipush (v := (nI 6)) dX1_keep_54 rfl ?_
      refine r_imulN dX1_keep_56 ?_
      refine r_iload_n 2 dX1_keep_57 rfl rfl ?_
      refine r_iaddN dX1_keep_58 ?_
      obtain ⟨N104, f105, q103, V⟩ := V
      obtain ⟨b106, c, cN, cb, V⟩ := V
      refine r_aald (kd := 5) (C0 := RX2) (fun _ => rfl) dX1_keep_59 q103 rfl c cN cb ?_
      refine r_aload_n 0 dX1_keep_60 rfl rfl ?_
      refine r_getf (ci := 2) (kf := 9) (T := TX1) rfl in_X1 (by decide) wF_X1_58 dX1_keep_61 q84 rfl ?_
      obtain ⟨o110, o111, q109, V⟩ := V
      refine r_callV (M2 := M_X2_copy) (ci := 3) (n := 1) (As := [.ref o94]) rfl (wl5 wM_X1_142 wi_X2_copy wS_X2_copy wI_StateShares_Fraction wc_X2_copy) (by decide +kernel) (by decide) rfl rfl (Nat.le_of_ble_eq_true rfl) dX1_keep_64 q109 (by decide) (by decide) (Ct.imp V (fun r h107 n108 V => ?_))
      obtain ⟨rfl, V⟩ := V
      show Blk g M_X1_keep post 67 [(0, .ref x0), (1, .int (nI x1)), (2, .int (nI x2))] [] h107 n108 0 0
      refine r_iincN 2 (b := 1) (L' := [(2, .int (nI (x2 + 1))), (0, .ref x0), (1, .int (nI x1))]) dX1_keep_67 rfl rfl (by decide) rfl ?_
      refine r_goto (tgt := 2) dX1_keep_70 (by decide) ?_
      exact Blk.sub [1, 2, 0] rfl V
    · have V := V.2 c
      refine r_iconst (v := (nI 0)) dX1_keep_47 rfl ?_
      exact r_zret (ty := .boolean) dX1_keep_48 rfl rfl (by decide) (by decide) V
set_option maxRecDepth 20000 in
theorem v_X1_stateDigits_0 {g : xG} {post : xPost} {h : xHp} {nx : Nat} {x0 : Nat} {x1 : Nat} {x2 : Nat} {x3 : Int32} (V : (∃ (o2 : Nat) (o3 : Nat) (o4 : Nat) (o5 : Nat) (o6 : Nat) (o7 : Nat) (o8 : Nat) (o9 : Nat) (o10 : Nat) (o11 : Nat) (o12 : Nat) (o13 : Nat) (o14 : Nat) (o15 : Nat) (o16 : Nat) (o17 : Nat) (o18 : Int32) (o19 : Int32), h x0 = some (xo 2 [.int (nI o2), .ref o3, .ref o4, .ref o5, .ref o6, .ref o7, .ref o8, .ref o9, .ref o10, .ref o11, .ref o12, .ref o13, .ref o14, .int (nI o15), .int (nI o16), .int (nI o17), .int o18, .int o19]) ∧ (∃ (N21 : Nat) (f22 : Nat → Option Nat), h o9 = some (xra 5 N21 f22) ∧ ∃ b23 : Nat, ((x2 * 6) + x1) < N21 ∧ N21 < 2 ^ 31 ∧ f22 ((x2 * 6) + x1) = some b23 ∧ (∃ (o27 : Nat) (o28 : Nat), h b23 = some (xo 3 [.ref o27, .ref o28]) ∧ Ct g M_X2_digits [.ref b23, .int x3] h nx (fun r h24 n25 => ∃ v29 : Nat, r = some (.long (lN v29)) ∧ (post (some (.long (lN v29))) h24 n25)))))) : Blk g M_X1_stateDigits post 0 [(0, .ref x0), (1, .int (nI x1)), (2, .int (nI x2)), (3, .int x3)] [] h nx 0 0 := by
  refine r_aload_n 0 dX1_stateDigits_0 rfl rfl ?_
  obtain ⟨o2, o3, o4, o5, o6, o7, o8, o9, o10, o11, o12, o13, o14, o15, o16, o17, o18, o19, q1, V⟩ := V
  refine r_getf (ci := 2) (kf := 7) (T := TX1) rfl in_X1 (by decide) wF_X1_44 dX1_stateDigits_1 q1 rfl ?_
  refine r_iload_n 2 dX1_stateDigits_4 rfl rfl ?_
  refine r_bipush (v := (nI 6)) dX1_stateDigits_5 rfl ?_
  refine r_imulN dX1_stateDigits_7 ?_
  refine r_iload_n 1 dX1_stateDigits_8 rfl rfl ?_
  refine r_iaddN dX1_stateDigits_9 ?_
  obtain ⟨N21, f22, q20, V⟩ := V
  obtain ⟨b23, c, cN, cb, V⟩ := V
  refine r_aald (kd := 5) (C0 := RX2) (fun _ => rfl) dX1_stateDigits_10 q20 rfl c cN cb ?_
  refine r_iload_n 3 dX1_stateDigits_11 rfl rfl ?_
  obtain ⟨o27, o28, q26, V⟩ := V
  refine r_callV (M2 := M_X2_digits) (ci := 3) (n := 1) (As := [.int x3]) rfl (wl5 wM_X1_145 wi_X2_digits wS_X2_digits wI_StateShares_Fraction wc_X2_digits) (by decide +kernel) (by decide) rfl rfl (Nat.le_of_ble_eq_true rfl) dX1_stateDigits_12 q26 (by decide) (by decide) (Ct.imp V (fun r h24 n25 V => ?_))
  obtain ⟨v29, rfl, V⟩ := V
  show Blk g M_X1_stateDigits post 15 [(0, .ref x0), (1, .int (nI x1)), (2, .int (nI x2)), (3, .int x3)] [.long (lN v29)] h24 n25 0 0
  exact r_lret dX1_stateDigits_15 rfl (by decide) (by decide) V
set_option maxRecDepth 20000 in
theorem v_X1_isOneTogether_0 {g : xG} {post : xPost} {h : xHp} {nx : Nat} {x0 : Nat} {x1 : Nat} (V : (∃ (o2 : Nat) (o3 : Nat) (o4 : Nat) (o5 : Nat) (o6 : Nat) (o7 : Nat) (o8 : Nat) (o9 : Nat) (o10 : Nat) (o11 : Nat) (o12 : Nat) (o13 : Nat) (o14 : Nat) (o15 : Nat) (o16 : Nat) (o17 : Nat) (o18 : Int32) (o19 : Int32), h x0 = some (xo 2 [.int (nI o2), .ref o3, .ref o4, .ref o5, .ref o6, .ref o7, .ref o8, .ref o9, .ref o10, .ref o11, .ref o12, .ref o13, .ref o14, .int (nI o15), .int (nI o16), .int (nI o17), .int o18, .int o19]) ∧ (∃ (N21 : Nat) (f22 : Nat → Option Nat), h o8 = some (xra 6 N21 f22) ∧ ∃ b23 : Nat, x1 < N21 ∧ N21 < 2 ^ 31 ∧ f22 x1 = some b23 ∧ (∃ (o27 : Nat) (o28 : Nat), h o11 = some (xo 3 [.ref o27, .ref o28]) ∧ Ct g M_X2_setTail [.ref o11, .ref b23, .int (nI 0)] h nx (fun r h24 n25 => r = none ∧ (∃ (o30 : Nat) (o31 : Nat) (o32 : Nat) (o33 : Nat) (o34 : Nat) (o35 : Nat) (o36 : Nat) (o37 : Nat) (o38 : Nat) (o39 : Nat) (o40 : Nat) (o41 : Nat) (o42 : Nat) (o43 : Nat) (o44 : Nat) (o45 : Nat) (o46 : Int32) (o47 : Int32), h24 x0 = some (xo 2 [.int (nI o30), .ref o31, .ref o32, .ref o33, .ref o34, .ref o35, .ref o36, .ref o37, .ref o38, .ref o39, .ref o40, .ref o41, .ref o42, .int (nI o43), .int (nI o44), .int (nI o45), .int o46, .int o47]) ∧ (∃ (o51 : Nat) (o52 : Nat), h24 o39 = some (xo 3 [.ref o51, .ref o52]) ∧ Ct g M_X2_compareParts [.ref o39] h24 n25 (fun r h48 n49 => ∃ v53 : Int32, r = some (.int v53) ∧ ((¬ v53 = 0 → (post (some (.int (nI 0))) h48 n49)) ∧ (v53 = 0 → (post (some (.int (nI 1))) h48 n49))))))))))) : Blk g M_X1_isOneTogether post 0 [(0, .ref x0), (1, .int (nI x1))] [] h nx 0 0 := by
  refine r_aload_n 0 dX1_isOneTogether_0 rfl rfl ?_
  obtain ⟨o2, o3, o4, o5, o6, o7, o8, o9, o10, o11, o12, o13, o14, o15, o16, o17, o18, o19, q1, V⟩ := V
  refine r_getf (ci := 2) (kf := 9) (T := TX1) rfl in_X1 (by decide) wF_X1_58 dX1_isOneTogether_1 q1 rfl ?_
  refine r_aload_n 0 dX1_isOneTogether_4 rfl rfl ?_
  refine r_getf (ci := 2) (kf := 6) (T := TX1) rfl in_X1 (by decide) wF_X1_35 dX1_isOneTogether_5 q1 rfl ?_
  refine r_iload_n 1 dX1_isOneTogether_8 rfl rfl ?_
  obtain ⟨N21, f22, q20, V⟩ := V
  obtain ⟨b23, c, cN, cb, V⟩ := V
  refine r_aald (kd := 6) (C0 := RX5) (fun _ => rfl) dX1_isOneTogether_9 q20 rfl c cN cb ?_
  refine r_iconst (v := (nI 0)) dX1_isOneTogether_10 rfl ?_
  obtain ⟨o27, o28, q26, V⟩ := V
  refine r_callV (M2 := M_X2_setTail) (ci := 3) (n := 2) (As := [.ref b23, .int (nI 0)]) rfl (wl5 wM_X1_149 wi_X2_setTail wS_X2_setTail wI_StateShares_Fraction wc_X2_setTail) (by decide +kernel) (by decide) rfl rfl (Nat.le_of_ble_eq_true rfl) dX1_isOneTogether_11 q26 (by decide) (by decide) (Ct.imp V (fun r h24 n25 V => ?_))
  obtain ⟨rfl, V⟩ := V
  show Blk g M_X1_isOneTogether post 14 [(0, .ref x0), (1, .int (nI x1))] [] h24 n25 0 0
  refine r_aload_n 0 dX1_isOneTogether_14 rfl rfl ?_
  obtain ⟨o30, o31, o32, o33, o34, o35, o36, o37, o38, o39, o40, o41, o42, o43, o44, o45, o46, o47, q29, V⟩ := V
  refine r_getf (ci := 2) (kf := 9) (T := TX1) rfl in_X1 (by decide) wF_X1_58 dX1_isOneTogether_15 q29 rfl ?_
  obtain ⟨o51, o52, q50, V⟩ := V
  refine r_callV (M2 := M_X2_compareParts) (ci := 3) (n := 0) (As := []) rfl (wl5 wM_X1_152 wi_X2_compareParts wS_X2_compareParts wI_StateShares_Fraction wc_X2_compareParts) (by decide +kernel) (by decide) rfl rfl (Nat.le_of_ble_eq_true rfl) dX1_isOneTogether_18 q50 (by decide) (by decide) (Ct.imp V (fun r h48 n49 V => ?_))
  obtain ⟨v53, rfl, V⟩ := V
  show Blk g M_X1_isOneTogether post 21 [(0, .ref x0), (1, .int (nI x1))] [.int v53] h48 n49 0 0
  refine r_if_ne (tgt := 28) dX1_isOneTogether_21 (by decide) (fun c => ?_) (fun c => ?_)
  · have V := V.1 c
    refine r_iconst (v := (nI 0)) dX1_isOneTogether_28 rfl ?_
    exact r_zret (ty := .boolean) dX1_isOneTogether_29 rfl rfl (by decide) (by decide) V
  · have V := V.2 c
    refine r_iconst (v := (nI 1)) dX1_isOneTogether_24 rfl ?_
    refine r_goto (tgt := 29) dX1_isOneTogether_25 (by decide) ?_
    exact r_zret (ty := .boolean) dX1_isOneTogether_29 rfl rfl (by decide) (by decide) V
set_option maxRecDepth 20000 in
theorem v_X1_reaches_0 {g : xG} {post : xPost} {h : xHp} {nx : Nat} {x0 : Nat} {x1 : Nat} {x2 : Nat} {x3 : Nat} {x4 : Nat} (V : (∃ (o2 : Nat) (o3 : Nat) (o4 : Nat) (o5 : Nat) (o6 : Nat) (o7 : Nat) (o8 : Nat) (o9 : Nat) (o10 : Nat) (o11 : Nat) (o12 : Nat) (o13 : Nat) (o14 : Nat) (o15 : Nat) (o16 : Nat) (o17 : Nat) (o18 : Int32) (o19 : Int32), h x0 = some (xo 2 [.int (nI o2), .ref o3, .ref o4, .ref o5, .ref o6, .ref o7, .ref o8, .ref o9, .ref o10, .ref o11, .ref o12, .ref o13, .ref o14, .int (nI o15), .int (nI o16), .int (nI o17), .int o18, .int o19]) ∧ (∃ (N21 : Nat) (f22 : Nat → Option Nat), h o8 = some (xra 6 N21 f22) ∧ ∃ b23 : Nat, x1 < N21 ∧ N21 < 2 ^ 31 ∧ f22 x1 = some b23 ∧ (∃ (o27 : Nat) (o28 : Nat), h o11 = some (xo 3 [.ref o27, .ref o28]) ∧ Ct g M_X2_setTail [.ref o11, .ref b23, .int (nI x2)] h nx (fun r h24 n25 => r = none ∧ (∃ (o30 : Nat) (o31 : Nat) (o32 : Nat) (o33 : Nat) (o34 : Nat) (o35 : Nat) (o36 : Nat) (o37 : Nat) (o38 : Nat) (o39 : Nat) (o40 : Nat) (o41 : Nat) (o42 : Nat) (o43 : Nat) (o44 : Nat) (o45 : Nat) (o46 : Int32) (o47 : Int32), h24 x0 = some (xo 2 [.int (nI o30), .ref o31, .ref o32, .ref o33, .ref o34, .ref o35, .ref o36, .ref o37, .ref o38, .ref o39, .ref o40, .ref o41, .ref o42, .int (nI o43), .int (nI o44), .int (nI o45), .int o46, .int o47]) ∧ (∃ (o51 : Nat) (o52 : Nat), h24 o39 = some (xo 3 [.ref o51, .ref o52]) ∧ Ct g M_X2_multiplyParts [.ref o39, .int (nI x4), .int (nI x3)] h24 n25 (fun r h48 n49 => r = none ∧ (∃ (o54 : Nat) (o55 : Nat) (o56 : Nat) (o57 : Nat) (o58 : Nat) (o59 : Nat) (o60 : Nat) (o61 : Nat) (o62 : Nat) (o63 : Nat) (o64 : Nat) (o65 : Nat) (o66 : Nat) (o67 : Nat) (o68 : Nat) (o69 : Nat) (o70 : Int32) (o71 : Int32), h48 x0 = some (xo 2 [.int (nI o54), .ref o55, .ref o56, .ref o57, .ref o58, .ref o59, .ref o60, .ref o61, .ref o62, .ref o63, .ref o64, .ref o65, .ref o66, .int (nI o67), .int (nI o68), .int (nI o69), .int o70, .int o71]) ∧ (∃ (o75 : Nat) (o76 : Nat), h48 o63 = some (xo 3 [.ref o75, .ref o76]) ∧ Ct g M_X2_compareParts [.ref o63] h48 n49 (fun r h72 n73 => ∃ v77 : Int32, r = some (.int v77) ∧ ((v77 < 0 → (post (some (.int (nI 0))) h72 n73)) ∧ (¬ v77 < 0 → (post (some (.int (nI 1))) h72 n73)))))))))))))) : Blk g M_X1_reaches post 0 [(0, .ref x0), (1, .int (nI x1)), (2, .int (nI x2)), (3, .int (nI x3)), (4, .int (nI x4))] [] h nx 0 0 := by
  refine r_aload_n 0 dX1_reaches_0 rfl rfl ?_
  obtain ⟨o2, o3, o4, o5, o6, o7, o8, o9, o10, o11, o12, o13, o14, o15, o16, o17, o18, o19, q1, V⟩ := V
  refine r_getf (ci := 2) (kf := 9) (T := TX1) rfl in_X1 (by decide) wF_X1_58 dX1_reaches_1 q1 rfl ?_
  refine r_aload_n 0 dX1_reaches_4 rfl rfl ?_
  refine r_getf (ci := 2) (kf := 6) (T := TX1) rfl in_X1 (by decide) wF_X1_35 dX1_reaches_5 q1 rfl ?_
  refine r_iload_n 1 dX1_reaches_8 rfl rfl ?_
  obtain ⟨N21, f22, q20, V⟩ := V
  obtain ⟨b23, c, cN, cb, V⟩ := V
  refine r_aald (kd := 6) (C0 := RX5) (fun _ => rfl) dX1_reaches_9 q20 rfl c cN cb ?_
  refine r_iload_n 2 dX1_reaches_10 rfl rfl ?_
  obtain ⟨o27, o28, q26, V⟩ := V
  refine r_callV (M2 := M_X2_setTail) (ci := 3) (n := 2) (As := [.ref b23, .int (nI x2)]) rfl (wl5 wM_X1_149 wi_X2_setTail wS_X2_setTail wI_StateShares_Fraction wc_X2_setTail) (by decide +kernel) (by decide) rfl rfl (Nat.le_of_ble_eq_true rfl) dX1_reaches_11 q26 (by decide) (by decide) (Ct.imp V (fun r h24 n25 V => ?_))
  obtain ⟨rfl, V⟩ := V
  show Blk g M_X1_reaches post 14 [(0, .ref x0), (1, .int (nI x1)), (2, .int (nI x2)), (3, .int (nI x3)), (4, .int (nI x4))] [] h24 n25 0 0
  refine r_aload_n 0 dX1_reaches_14 rfl rfl ?_
  obtain ⟨o30, o31, o32, o33, o34, o35, o36, o37, o38, o39, o40, o41, o42, o43, o44, o45, o46, o47, q29, V⟩ := V
  refine r_getf (ci := 2) (kf := 9) (T := TX1) rfl in_X1 (by decide) wF_X1_58 dX1_reaches_15 q29 rfl ?_
  refine r_iload 4 dX1_reaches_18 rfl ?_
  refine r_iload_n 3 dX1_reaches_20 rfl rfl ?_
  obtain ⟨o51, o52, q50, V⟩ := V
  refine r_callV (M2 := M_X2_multiplyParts) (ci := 3) (n := 2) (As := [.int (nI x4), .int (nI x3)]) rfl (wl5 wM_X1_156 wi_X2_multiplyParts wS_X2_multiplyParts wI_StateShares_Fraction wc_X2_multiplyParts) (by decide +kernel) (by decide) rfl rfl (Nat.le_of_ble_eq_true rfl) dX1_reaches_21 q50 (by decide) (by decide) (Ct.imp V (fun r h48 n49 V => ?_))
  obtain ⟨rfl, V⟩ := V
  show Blk g M_X1_reaches post 24 [(0, .ref x0), (1, .int (nI x1)), (2, .int (nI x2)), (3, .int (nI x3)), (4, .int (nI x4))] [] h48 n49 0 0
  refine r_aload_n 0 dX1_reaches_24 rfl rfl ?_
  obtain ⟨o54, o55, o56, o57, o58, o59, o60, o61, o62, o63, o64, o65, o66, o67, o68, o69, o70, o71, q53, V⟩ := V
  refine r_getf (ci := 2) (kf := 9) (T := TX1) rfl in_X1 (by decide) wF_X1_58 dX1_reaches_25 q53 rfl ?_
  obtain ⟨o75, o76, q74, V⟩ := V
  refine r_callV (M2 := M_X2_compareParts) (ci := 3) (n := 0) (As := []) rfl (wl5 wM_X1_152 wi_X2_compareParts wS_X2_compareParts wI_StateShares_Fraction wc_X2_compareParts) (by decide +kernel) (by decide) rfl rfl (Nat.le_of_ble_eq_true rfl) dX1_reaches_28 q74 (by decide) (by decide) (Ct.imp V (fun r h72 n73 V => ?_))
  obtain ⟨v77, rfl, V⟩ := V
  show Blk g M_X1_reaches post 31 [(0, .ref x0), (1, .int (nI x1)), (2, .int (nI x2)), (3, .int (nI x3)), (4, .int (nI x4))] [.int v77] h72 n73 0 0
  refine r_if_lt (tgt := 38) dX1_reaches_31 (by decide) (fun c => ?_) (fun c => ?_)
  · have V := V.1 c
    refine r_iconst (v := (nI 0)) dX1_reaches_38 rfl ?_
    exact r_zret (ty := .boolean) dX1_reaches_39 rfl rfl (by decide) (by decide) V
  · have V := V.2 c
    refine r_iconst (v := (nI 1)) dX1_reaches_34 rfl ?_
    refine r_goto (tgt := 39) dX1_reaches_35 (by decide) ?_
    exact r_zret (ty := .boolean) dX1_reaches_39 rfl rfl (by decide) (by decide) V
set_option maxRecDepth 20000 in
theorem v_X1_setWorth_0 {g : xG} {post : xPost} {h : xHp} {nx : Nat} {x0 : Nat} {x1 : Nat} {x2 : Int32} (V : (∃ (o2 : Nat) (o3 : Nat) (o4 : Nat) (o5 : Nat) (o6 : Nat) (o7 : Nat) (o8 : Nat) (o9 : Nat) (o10 : Nat) (o11 : Nat) (o12 : Nat) (o13 : Nat) (o14 : Nat) (o15 : Nat) (o16 : Nat) (o17 : Nat) (o18 : Int32) (o19 : Int32), h x0 = some (xo 2 [.int (nI o2), .ref o3, .ref o4, .ref o5, .ref o6, .ref o7, .ref o8, .ref o9, .ref o10, .ref o11, .ref o12, .ref o13, .ref o14, .int (nI o15), .int (nI o16), .int (nI o17), .int o18, .int o19]) ∧ (∃ (N21 : Nat) (f22 : Nat → Int32), h o13 = some (xia N21 f22) ∧ x1 < N21 ∧ N21 < 2 ^ 31 ∧ (post none (xup (xup h o13 (xia N21 (va_up f22 x1 x2))) x0 (xo 2 [.int (nI o2), .ref o3, .ref o4, .ref o5, .ref o6, .ref o7, .ref o8, .ref o9, .ref o10, .ref o11, .ref o12, .ref o13, .ref o14, .int (nI o15), .int (nI o16), .int (nI o17), .int (-1), .int o19])) nx)))) : Blk g M_X1_setWorth post 0 [(0, .ref x0), (1, .int (nI x1)), (2, .int x2)] [] h nx 0 0 := by
  refine r_aload_n 0 dX1_setWorth_0 rfl rfl ?_
  obtain ⟨o2, o3, o4, o5, o6, o7, o8, o9, o10, o11, o12, o13, o14, o15, o16, o17, o18, o19, q1, V⟩ := V
  refine r_getf (ci := 2) (kf := 11) (T := TX1) rfl in_X1 (by decide) wF_X1_62 dX1_setWorth_1 q1 rfl ?_
  refine r_iload_n 1 dX1_setWorth_4 rfl rfl ?_
  refine r_iload_n 2 dX1_setWorth_5 rfl rfl ?_
  obtain ⟨N21, f22, q20, V⟩ := V
  obtain ⟨c, cN, V⟩ := V
  refine r_iast dX1_setWorth_6 q20 rfl c cN ?_
  show Blk g M_X1_setWorth post 7 [(0, .ref x0), (1, .int (nI x1)), (2, .int x2)] [] (xup h o13 (xia N21 (va_up f22 x1 x2))) nx 0 0
  refine r_aload_n 0 dX1_setWorth_7 rfl rfl ?_
  refine r_iconst (v := (-1)) dX1_setWorth_8 rfl ?_
  have q23 : (xup h o13 (xia N21 (va_up f22 x1 x2))) x0 = some (xo 2 [.int (nI o2), .ref o3, .ref o4, .ref o5, .ref o6, .ref o7, .ref o8, .ref o9, .ref o10, .ref o11, .ref o12, .ref o13, .ref o14, .int (nI o15), .int (nI o16), .int (nI o17), .int o18, .int o19]) := (xup_n (x_apart q1 q20 x_oa)).trans q1
  refine r_putf (ci := 2) (kf := 16) (T := TX1) rfl in_X1 tyX1_ok nmX1 (by decide) wF_X1_83 rfl (tyX1_ok 16 (by decide)) dX1_setWorth_9 q23 (Nat.le_of_ble_eq_true rfl) rfl rfl ?_
  show Blk g M_X1_setWorth post 12 [(0, .ref x0), (1, .int (nI x1)), (2, .int x2)] [] (xup (xup h o13 (xia N21 (va_up f22 x1 x2))) x0 (xo 2 [.int (nI o2), .ref o3, .ref o4, .ref o5, .ref o6, .ref o7, .ref o8, .ref o9, .ref o10, .ref o11, .ref o12, .ref o13, .ref o14, .int (nI o15), .int (nI o16), .int (nI o17), .int (-1), .int o19])) nx 0 0
  exact r_vret dX1_setWorth_12 rfl (by decide) (by decide) V
set_option maxRecDepth 20000 in
theorem v_X1_worthDigits_0 {g : xG} {post : xPost} {h : xHp} {nx : Nat} {x0 : Nat} {x1 : Nat} {x2 : Int32} (V : (∃ (o2 : Nat) (o3 : Nat) (o4 : Nat) (o5 : Nat) (o6 : Nat) (o7 : Nat) (o8 : Nat) (o9 : Nat) (o10 : Nat) (o11 : Nat) (o12 : Nat) (o13 : Nat) (o14 : Nat) (o15 : Nat) (o16 : Nat) (o17 : Nat) (o18 : Int32) (o19 : Int32), h x0 = some (xo 2 [.int (nI o2), .ref o3, .ref o4, .ref o5, .ref o6, .ref o7, .ref o8, .ref o9, .ref o10, .ref o11, .ref o12, .ref o13, .ref o14, .int (nI o15), .int (nI o16), .int (nI o17), .int o18, .int o19]) ∧ ((o18 = (nI x1) → ((¬ x2 = (-1) → (∃ (o23 : Nat) (o24 : Nat), h o14 = some (xo 3 [.ref o23, .ref o24]) ∧ Ct g M_X2_digits [.ref o14, .int x2] h nx (fun r h20 n21 => ∃ v25 : Nat, r = some (.long (lN v25)) ∧ (post (some (.long (lN v25))) h20 n21)))) ∧ (x2 = (-1) → (post (some (.long (o19.toInt64))) h nx)))) ∧ (¬ o18 = (nI x1) → (∃ (N27 : Nat) (f28 : Nat → Option Nat), h o8 = some (xra 6 N27 f28) ∧ ∃ b29 : Nat, x1 < N27 ∧ N27 < 2 ^ 31 ∧ f28 x1 = some b29 ∧ (∃ (o33 : Nat) (o34 : Nat), h o11 = some (xo 3 [.ref o33, .ref o34]) ∧ Ct g M_X2_setDifference [.ref o11, .ref b29, .ref o13] h nx (fun r h30 n31 => ∃ v35 : Int32, r = some (.int v35) ∧ (∃ (o37 : Nat) (o38 : Nat) (o39 : Nat) (o40 : Nat) (o41 : Nat) (o42 : Nat) (o43 : Nat) (o44 : Nat) (o45 : Nat) (o46 : Nat) (o47 : Nat) (o48 : Nat) (o49 : Nat) (o50 : Nat) (o51 : Nat) (o52 : Nat) (o53 : Int32) (o54 : Int32), h30 x0 = some (xo 2 [.int (nI o37), .ref o38, .ref o39, .ref o40, .ref o41, .ref o42, .ref o43, .ref o44, .ref o45, .ref o46, .ref o47, .ref o48, .ref o49, .int (nI o50), .int (nI o51), .int (nI o52), .int o53, .int o54]) ∧ (∃ (o58 : Nat) (o59 : Nat), h30 o46 = some (xo 3 [.ref o58, .ref o59]) ∧ Ct g M_X2_upper [.ref o46] (xup h30 x0 (xo 2 [.int (nI o37), .ref o38, .ref o39, .ref o40, .ref o41, .ref o42, .ref o43, .ref o44, .ref o45, .ref o46, .ref o47, .ref o48, .ref o49, .int (nI o50), .int (nI o51), .int (nI o52), .int o53, .int v35])) n31 (fun r h55 n56 => ∃ v61 : Nat, r = some (.ref v61) ∧ (∃ (o63 : Nat) (o64 : Nat) (o65 : Nat) (o66 : Nat) (o67 : Nat) (o68 : Nat) (o69 : Nat) (o70 : Nat) (o71 : Nat) (o72 : Nat) (o73 : Nat) (o74 : Nat) (o75 : Nat) (o76 : Nat) (o77 : Nat) (o78 : Nat) (o79 : Int32) (o80 : Int32), h55 x0 = some (xo 2 [.int (nI o63), .ref o64, .ref o65, .ref o66, .ref o67, .ref o68, .ref o69, .ref o70, .ref o71, .ref o72, .ref o73, .ref o74, .ref o75, .int (nI o76), .int (nI o77), .int (nI o78), .int o79, .int o80]) ∧ (∃ (N82 : Nat) (f83 : Nat → Option Nat), h55 o69 = some (xra 6 N82 f83) ∧ ∃ b84 : Nat, x1 < N82 ∧ N82 < 2 ^ 31 ∧ f83 x1 = some b84 ∧ (∃ (o88 : Nat) (o89 : Nat), h55 o49 = some (xo 3 [.ref o88, .ref o89]) ∧ Ct g M_X2_setLowest [.ref o49, .ref v61, .ref b84] h55 n56 (fun r h85 n86 => r = none ∧ (∃ (o91 : Nat) (o92 : Nat) (o93 : Nat) (o94 : Nat) (o95 : Nat) (o96 : Nat) (o97 : Nat) (o98 : Nat) (o99 : Nat) (o100 : Nat) (o101 : Nat) (o102 : Nat) (o103 : Nat) (o104 : Nat) (o105 : Nat) (o106 : Nat) (o107 : Int32) (o108 : Int32), h85 x0 = some (xo 2 [.int (nI o91), .ref o92, .ref o93, .ref o94, .ref o95, .ref o96, .ref o97, .ref o98, .ref o99, .ref o100, .ref o101, .ref o102, .ref o103, .int (nI o104), .int (nI o105), .int (nI o106), .int o107, .int o108]) ∧ ((¬ x2 = (-1) → (∃ (o112 : Nat) (o113 : Nat), h85 o103 = some (xo 3 [.ref o112, .ref o113]) ∧ Ct g M_X2_digits [.ref o103, .int x2] (xup h85 x0 (xo 2 [.int (nI o91), .ref o92, .ref o93, .ref o94, .ref o95, .ref o96, .ref o97, .ref o98, .ref o99, .ref o100, .ref o101, .ref o102, .ref o103, .int (nI o104), .int (nI o105), .int (nI o106), .int (nI x1), .int o108])) n86 (fun r h109 n110 => ∃ v115 : Nat, r = some (.long (lN v115)) ∧ (post (some (.long (lN v115))) h109 n110)))) ∧ (x2 = (-1) → (post (some (.long (o108.toInt64))) (xup h85 x0 (xo 2 [.int (nI o91), .ref o92, .ref o93, .ref o94, .ref o95, .ref o96, .ref o97, .ref o98, .ref o99, .ref o100, .ref o101, .ref o102, .ref o103, .int (nI o104), .int (nI o105), .int (nI o106), .int (nI x1), .int o108])) n86)))))))))))))))))) : Blk g M_X1_worthDigits post 0 [(0, .ref x0), (1, .int (nI x1)), (2, .int x2)] [] h nx 0 0 := by
  refine r_aload_n 0 dX1_worthDigits_0 rfl rfl ?_
  obtain ⟨o2, o3, o4, o5, o6, o7, o8, o9, o10, o11, o12, o13, o14, o15, o16, o17, o18, o19, q1, V⟩ := V
  refine r_getf (ci := 2) (kf := 16) (T := TX1) rfl in_X1 (by decide) wF_X1_83 dX1_worthDigits_1 q1 rfl ?_
  refine r_iload_n 1 dX1_worthDigits_4 rfl rfl ?_
  refine r_icmp_eq (tgt := 54) dX1_worthDigits_5 (by decide) (fun c => ?_) (fun c => ?_)
  · have V := V.1 c
    refine r_iload_n 2 dX1_worthDigits_54 rfl rfl ?_
    refine r_iconst (v := (-1)) dX1_worthDigits_55 rfl ?_
    refine r_icmp_ne (tgt := 67) dX1_worthDigits_56 (by decide) (fun c => ?_) (fun c => ?_)
    · have V := V.1 c
      refine r_aload_n 0 dX1_worthDigits_67 rfl rfl ?_
      refine r_getf (ci := 2) (kf := 12) (T := TX1) rfl in_X1 (by decide) wF_X1_65 dX1_worthDigits_68 q1 rfl ?_
      refine r_iload_n 2 dX1_worthDigits_71 rfl rfl ?_
      obtain ⟨o23, o24, q22, V⟩ := V
      refine r_callV (M2 := M_X2_digits) (ci := 3) (n := 1) (As := [.int x2]) rfl (wl5 wM_X1_145 wi_X2_digits wS_X2_digits wI_StateShares_Fraction wc_X2_digits) (by decide +kernel) (by decide) rfl rfl (Nat.le_of_ble_eq_true rfl) dX1_worthDigits_72 q22 (by decide) (by decide) (Ct.imp V (fun r h20 n21 V => ?_))
      obtain ⟨v25, rfl, V⟩ := V
      show Blk g M_X1_worthDigits post 75 [(0, .ref x0), (1, .int (nI x1)), (2, .int x2)] [.long (lN v25)] h20 n21 0 0
      exact r_lret dX1_worthDigits_75 rfl (by decide) (by decide) V
    · have V := V.2 c
      refine r_aload_n 0 dX1_worthDigits_59 rfl rfl ?_
      refine r_getf (ci := 2) (kf := 17) (T := TX1) rfl in_X1 (by decide) wF_X1_163 dX1_worthDigits_60 q1 rfl ?_
      refine r_i2l dX1_worthDigits_63 ?_
      refine r_goto (tgt := 75) dX1_worthDigits_64 (by decide) ?_
      exact r_lret dX1_worthDigits_75 rfl (by decide) (by decide) V
  · have V := V.2 c
    refine r_aload_n 0 dX1_worthDigits_8 rfl rfl ?_
    refine r_aload_n 0 dX1_worthDigits_9 rfl rfl ?_
    refine r_getf (ci := 2) (kf := 9) (T := TX1) rfl in_X1 (by decide) wF_X1_58 dX1_worthDigits_10 q1 rfl ?_
    refine r_aload_n 0 dX1_worthDigits_13 rfl rfl ?_
    refine r_getf (ci := 2) (kf := 6) (T := TX1) rfl in_X1 (by decide) wF_X1_35 dX1_worthDigits_14 q1 rfl ?_
    refine r_iload_n 1 dX1_worthDigits_17 rfl rfl ?_
    obtain ⟨N27, f28, q26, V⟩ := V
    obtain ⟨b29, c, cN, cb, V⟩ := V
    refine r_aald (kd := 6) (C0 := RX5) (fun _ => rfl) dX1_worthDigits_18 q26 rfl c cN cb ?_
    refine r_aload_n 0 dX1_worthDigits_19 rfl rfl ?_
    refine r_getf (ci := 2) (kf := 11) (T := TX1) rfl in_X1 (by decide) wF_X1_62 dX1_worthDigits_20 q1 rfl ?_
    obtain ⟨o33, o34, q32, V⟩ := V
    refine r_callV (M2 := M_X2_setDifference) (ci := 3) (n := 2) (As := [.ref b29, .ref o13]) rfl (wl5 wM_X1_159 wi_X2_setDifference wS_X2_setDifference wI_StateShares_Fraction wc_X2_setDifference) (by decide +kernel) (by decide) rfl rfl (Nat.le_of_ble_eq_true rfl) dX1_worthDigits_23 q32 (by decide) (by decide) (Ct.imp V (fun r h30 n31 V => ?_))
    obtain ⟨v35, rfl, V⟩ := V
    show Blk g M_X1_worthDigits post 26 [(0, .ref x0), (1, .int (nI x1)), (2, .int x2)] [.int v35, .ref x0] h30 n31 0 0
    obtain ⟨o37, o38, o39, o40, o41, o42, o43, o44, o45, o46, o47, o48, o49, o50, o51, o52, o53, o54, q36, V⟩ := V
    refine r_putf (ci := 2) (kf := 17) (T := TX1) rfl in_X1 tyX1_ok nmX1 (by decide) wF_X1_163 rfl (tyX1_ok 17 (by decide)) dX1_worthDigits_26 q36 (Nat.le_of_ble_eq_true rfl) rfl rfl ?_
    show Blk g M_X1_worthDigits post 29 [(0, .ref x0), (1, .int (nI x1)), (2, .int x2)] [] (xup h30 x0 (xo 2 [.int (nI o37), .ref o38, .ref o39, .ref o40, .ref o41, .ref o42, .ref o43, .ref o44, .ref o45, .ref o46, .ref o47, .ref o48, .ref o49, .int (nI o50), .int (nI o51), .int (nI o52), .int o53, .int v35])) n31 0 0
    refine r_aload_n 0 dX1_worthDigits_29 rfl rfl ?_
    refine r_getf (ci := 2) (kf := 12) (T := TX1) rfl in_X1 (by decide) wF_X1_65 dX1_worthDigits_30 (xup_s _ _ _) rfl ?_
    refine r_aload_n 0 dX1_worthDigits_33 rfl rfl ?_
    refine r_getf (ci := 2) (kf := 9) (T := TX1) rfl in_X1 (by decide) wF_X1_58 dX1_worthDigits_34 (xup_s _ _ _) rfl ?_
    obtain ⟨o58, o59, q57, V⟩ := V
    have q60 : (xup h30 x0 (xo 2 [.int (nI o37), .ref o38, .ref o39, .ref o40, .ref o41, .ref o42, .ref o43, .ref o44, .ref o45, .ref o46, .ref o47, .ref o48, .ref o49, .int (nI o50), .int (nI o51), .int (nI o52), .int o53, .int v35])) o46 = some (xo 3 [.ref o58, .ref o59]) := (xup_n (x_apart q57 q36 (x_oo (by decide)))).trans q57
    refine r_callV (M2 := M_X2_upper) (ci := 3) (n := 0) (As := []) rfl (wl5 wM_X1_166 wi_X2_upper wS_X2_upper wI_StateShares_Fraction wc_X2_upper) (by decide +kernel) (by decide) rfl rfl (Nat.le_of_ble_eq_true rfl) dX1_worthDigits_37 q60 (by decide) (by decide) (Ct.imp V (fun r h55 n56 V => ?_))
    obtain ⟨v61, rfl, V⟩ := V
    show Blk g M_X1_worthDigits post 40 [(0, .ref x0), (1, .int (nI x1)), (2, .int x2)] [.ref v61, .ref o49] h55 n56 0 0
    refine r_aload_n 0 dX1_worthDigits_40 rfl rfl ?_
    obtain ⟨o63, o64, o65, o66, o67, o68, o69, o70, o71, o72, o73, o74, o75, o76, o77, o78, o79, o80, q62, V⟩ := V
    refine r_getf (ci := 2) (kf := 6) (T := TX1) rfl in_X1 (by decide) wF_X1_35 dX1_worthDigits_41 q62 rfl ?_
    refine r_iload_n 1 dX1_worthDigits_44 rfl rfl ?_
    obtain ⟨N82, f83, q81, V⟩ := V
    obtain ⟨b84, c, cN, cb, V⟩ := V
    refine r_aald (kd := 6) (C0 := RX5) (fun _ => rfl) dX1_worthDigits_45 q81 rfl c cN cb ?_
    obtain ⟨o88, o89, q87, V⟩ := V
    refine r_callV (M2 := M_X2_setLowest) (ci := 3) (n := 2) (As := [.ref v61, .ref b84]) rfl (wl5 wM_X1_134 wi_X2_setLowest wS_X2_setLowest wI_StateShares_Fraction wc_X2_setLowest) (by decide +kernel) (by decide) rfl rfl (Nat.le_of_ble_eq_true rfl) dX1_worthDigits_46 q87 (by decide) (by decide) (Ct.imp V (fun r h85 n86 V => ?_))
    obtain ⟨rfl, V⟩ := V
    show Blk g M_X1_worthDigits post 49 [(0, .ref x0), (1, .int (nI x1)), (2, .int x2)] [] h85 n86 0 0
    refine r_aload_n 0 dX1_worthDigits_49 rfl rfl ?_
    refine r_iload_n 1 dX1_worthDigits_50 rfl rfl ?_
    obtain ⟨o91, o92, o93, o94, o95, o96, o97, o98, o99, o100, o101, o102, o103, o104, o105, o106, o107, o108, q90, V⟩ := V
    refine r_putf (ci := 2) (kf := 16) (T := TX1) rfl in_X1 tyX1_ok nmX1 (by decide) wF_X1_83 rfl (tyX1_ok 16 (by decide)) dX1_worthDigits_51 q90 (Nat.le_of_ble_eq_true rfl) rfl rfl ?_
    show Blk g M_X1_worthDigits post 54 [(0, .ref x0), (1, .int (nI x1)), (2, .int x2)] [] (xup h85 x0 (xo 2 [.int (nI o91), .ref o92, .ref o93, .ref o94, .ref o95, .ref o96, .ref o97, .ref o98, .ref o99, .ref o100, .ref o101, .ref o102, .ref o103, .int (nI o104), .int (nI o105), .int (nI o106), .int (nI x1), .int o108])) n86 0 0
    refine r_iload_n 2 dX1_worthDigits_54 rfl rfl ?_
    refine r_iconst (v := (-1)) dX1_worthDigits_55 rfl ?_
    refine r_icmp_ne (tgt := 67) dX1_worthDigits_56 (by decide) (fun c => ?_) (fun c => ?_)
    · have V := V.1 c
      refine r_aload_n 0 dX1_worthDigits_67 rfl rfl ?_
      refine r_getf (ci := 2) (kf := 12) (T := TX1) rfl in_X1 (by decide) wF_X1_65 dX1_worthDigits_68 (xup_s _ _ _) rfl ?_
      refine r_iload_n 2 dX1_worthDigits_71 rfl rfl ?_
      obtain ⟨o112, o113, q111, V⟩ := V
      have q114 : (xup h85 x0 (xo 2 [.int (nI o91), .ref o92, .ref o93, .ref o94, .ref o95, .ref o96, .ref o97, .ref o98, .ref o99, .ref o100, .ref o101, .ref o102, .ref o103, .int (nI o104), .int (nI o105), .int (nI o106), .int (nI x1), .int o108])) o103 = some (xo 3 [.ref o112, .ref o113]) := (xup_n (x_apart q111 q90 (x_oo (by decide)))).trans q111
      refine r_callV (M2 := M_X2_digits) (ci := 3) (n := 1) (As := [.int x2]) rfl (wl5 wM_X1_145 wi_X2_digits wS_X2_digits wI_StateShares_Fraction wc_X2_digits) (by decide +kernel) (by decide) rfl rfl (Nat.le_of_ble_eq_true rfl) dX1_worthDigits_72 q114 (by decide) (by decide) (Ct.imp V (fun r h109 n110 V => ?_))
      obtain ⟨v115, rfl, V⟩ := V
      show Blk g M_X1_worthDigits post 75 [(0, .ref x0), (1, .int (nI x1)), (2, .int x2)] [.long (lN v115)] h109 n110 0 0
      exact r_lret dX1_worthDigits_75 rfl (by decide) (by decide) V
    · have V := V.2 c
      refine r_aload_n 0 dX1_worthDigits_59 rfl rfl ?_
      refine r_getf (ci := 2) (kf := 17) (T := TX1) rfl in_X1 (by decide) wF_X1_163 dX1_worthDigits_60 (xup_s _ _ _) rfl ?_
      refine r_i2l dX1_worthDigits_63 ?_
      refine r_goto (tgt := 75) dX1_worthDigits_64 (by decide) ?_
      exact r_lret dX1_worthDigits_75 rfl (by decide) (by decide) V
