set_option maxRecDepth 20000 in
theorem wM_X9_231 : Cond.methodLink "StateShares" 231 (Lib.MathLoose.abs_long.x) ∈ lw_gd := lw_in 546 (by decide +kernel) rfl
set_option maxRecDepth 20000 in
theorem ws_J9_abs_067f4 : Cond.static (Lib.MathLoose.abs_long.x) ∈ lw_gd := lw_in 547 (by decide +kernel) rfl
set_option maxRecDepth 20000 in
theorem wc_J9_abs_067f4 : Cond.code Lib.MathLoose.abs_long.x Lib.MathLoose.abs_long.code 2 (some .long) ∈ lw_gd := lw_in 548 (by decide +kernel) rfl
set_option maxRecDepth 20000 in
theorem wM_X9_235 : Cond.methodLink "StateShares" 235 (yX9_commonDivisor) ∈ lw_gd := lw_in 549 (by decide +kernel) rfl
set_option maxRecDepth 20000 in
theorem ws_X9_commonDivisor : Cond.static (yX9_commonDivisor) ∈ lw_gd := lw_in 550 (by decide +kernel) rfl
set_option maxRecDepth 20000 in
theorem wI_StateShares : Cond.initialized "StateShares" ∈ lw_gd := lw_in 1 (by decide +kernel) rfl
set_option maxRecDepth 20000 in
theorem wc_X9_commonDivisor : Cond.code yX9_commonDivisor cX9_commonDivisor 11 (some .long) ∈ lw_gd := lw_in 551 (by decide +kernel) rfl
set_option maxRecDepth 20000 in
theorem wM_X9_239 : Cond.methodLink "StateShares" 239 (Lib.MathLoose.max_long.x) ∈ lw_gd := lw_in 552 (by decide +kernel) rfl
set_option maxRecDepth 20000 in
theorem ws_J9_max_f86c9 : Cond.static (Lib.MathLoose.max_long.x) ∈ lw_gd := lw_in 553 (by decide +kernel) rfl
set_option maxRecDepth 20000 in
theorem wc_J9_max_f86c9 : Cond.code Lib.MathLoose.max_long.x Lib.MathLoose.max_long.code 4 (some .long) ∈ lw_gd := lw_in 554 (by decide +kernel) rfl
set_option maxRecDepth 20000 in
theorem wM_X5_1 : Cond.methodLink "StateShares$Row" 1 (objectInit) ∈ lw_gd := lw_in 186 (by decide +kernel) rfl
set_option maxRecDepth 20000 in
theorem wC_X5_7 : Cond.classLink "StateShares$Row" 7 "StateShares$Big" ∈ lw_gd := lw_in 187 (by decide +kernel) rfl
set_option maxRecDepth 20000 in
theorem wF_X5_9 : Cond.fieldLink "StateShares$Row" 9 "StateShares$Row" "parts" "[LStateShares$Big;" ∈ lw_gd := lw_in 204 (by decide +kernel) rfl
set_option maxRecDepth 20000 in
theorem wN_StateShares_Big : Cond.instantiable "StateShares$Big" 2 ∈ lw_gd := lw_in 189 (by decide +kernel) rfl
set_option maxRecDepth 20000 in
theorem wM_X5_15 : Cond.methodLink "StateShares$Row" 15 (yX0_init) ∈ lw_gd := lw_in 190 (by decide +kernel) rfl
set_option maxRecDepth 20000 in
theorem wi_X0_init : Cond.instanceMethod (yX0_init) ∈ lw_gd := lw_in 191 (by decide +kernel) rfl
set_option maxRecDepth 20000 in
theorem wc_X0_init : Cond.code yX0_init cX0_init 2 none ∈ lw_gd := lw_in 192 (by decide +kernel) rfl
set_option maxRecDepth 20000 in
theorem wF_X5_18 : Cond.fieldLink "StateShares$Row" 18 "StateShares$Row" "whole" "LStateShares$Big;" ∈ lw_gd := lw_in 205 (by decide +kernel) rfl
set_option maxRecDepth 20000 in
theorem wF_X5_28 : Cond.fieldLink "StateShares$Row" 28 "StateShares$Row" "powers" "[I" ∈ lw_gd := lw_in 206 (by decide +kernel) rfl
set_option maxRecDepth 20000 in
theorem wM_X5_35 : Cond.methodLink "StateShares$Row" 35 (arraycopyName) ∈ lw_gd := lw_in 637 (by decide +kernel) rfl
set_option maxRecDepth 20000 in
theorem wM_X5_31 : Cond.methodLink "StateShares$Row" 31 (yX0_copy) ∈ lw_gd := lw_in 629 (by decide +kernel) rfl
set_option maxRecDepth 20000 in
theorem wi_X0_copy : Cond.instanceMethod (yX0_copy) ∈ lw_gd := lw_in 630 (by decide +kernel) rfl
set_option maxRecDepth 20000 in
theorem wS_X0_copy : Cond.selects "StateShares$Big" (yX0_copy) (yX0_copy) ∈ lw_gd := lw_in 631 (by decide +kernel) rfl
set_option maxRecDepth 20000 in
theorem wc_X0_copy : Cond.code yX0_copy cX0_copy 2 none ∈ lw_gd := lw_in 632 (by decide +kernel) rfl
set_option maxRecDepth 20000 in
theorem wM_X5_41 : Cond.methodLink "StateShares$Row" 41 (yX5_commonMultiple) ∈ lw_gd := lw_in 614 (by decide +kernel) rfl
set_option maxRecDepth 20000 in
theorem ws_X5_commonMultiple : Cond.static (yX5_commonMultiple) ∈ lw_gd := lw_in 615 (by decide +kernel) rfl
set_option maxRecDepth 20000 in
theorem wI_StateShares_Row : Cond.initialized "StateShares$Row" ∈ lw_gd := lw_in 9 (by decide +kernel) rfl
set_option maxRecDepth 20000 in
theorem wc_X5_commonMultiple : Cond.code yX5_commonMultiple cX5_commonMultiple 3 (some .long) ∈ lw_gd := lw_in 616 (by decide +kernel) rfl
set_option maxRecDepth 20000 in
theorem wM_X5_45 : Cond.methodLink "StateShares$Row" 45 (Lib.Math.max.name) ∈ lw_gd := lw_in 619 (by decide +kernel) rfl
set_option maxRecDepth 20000 in
theorem wM_X5_51 : Cond.methodLink "StateShares$Row" 51 (yX0_set) ∈ lw_gd := lw_in 620 (by decide +kernel) rfl
set_option maxRecDepth 20000 in
theorem wi_X0_set : Cond.instanceMethod (yX0_set) ∈ lw_gd := lw_in 233 (by decide +kernel) rfl
set_option maxRecDepth 20000 in
theorem wS_X0_set : Cond.selects "StateShares$Big" (yX0_set) (yX0_set) ∈ lw_gd := lw_in 234 (by decide +kernel) rfl
set_option maxRecDepth 20000 in
theorem wc_X0_set : Cond.code yX0_set cX0_set 5 none ∈ lw_gd := lw_in 235 (by decide +kernel) rfl
set_option maxRecDepth 20000 in
theorem wM_X5_55 : Cond.methodLink "StateShares$Row" 55 (yX5_growWhole) ∈ lw_gd := lw_in 621 (by decide +kernel) rfl
set_option maxRecDepth 20000 in
theorem wi_X5_growWhole : Cond.instanceMethod (yX5_growWhole) ∈ lw_gd := lw_in 623 (by decide +kernel) rfl
set_option maxRecDepth 20000 in
theorem wS_X5_growWhole : Cond.selects "StateShares$Row" (yX5_growWhole) (yX5_growWhole) ∈ lw_gd := lw_inS (q := ((yX5_growWhole), 3)) 25 (by decide +kernel)
set_option maxRecDepth 20000 in
theorem wc_X5_growWhole : Cond.code yX5_growWhole cX5_growWhole 8 none ∈ lw_gd := lw_in 624 (by decide +kernel) rfl
set_option maxRecDepth 20000 in
theorem wM_X5_62 : Cond.methodLink "StateShares$Row" 62 (Lib.MathLoose.max_long.x) ∈ lw_gd := lw_in 618 (by decide +kernel) rfl
set_option maxRecDepth 20000 in
theorem wM_X5_64 : Cond.methodLink "StateShares$Row" 64 (yX0_isZero) ∈ lw_gd := lw_in 646 (by decide +kernel) rfl
set_option maxRecDepth 20000 in
theorem wi_X0_isZero : Cond.instanceMethod (yX0_isZero) ∈ lw_gd := lw_in 647 (by decide +kernel) rfl
set_option maxRecDepth 20000 in
theorem wS_X0_isZero : Cond.selects "StateShares$Big" (yX0_isZero) (yX0_isZero) ∈ lw_gd := lw_in 648 (by decide +kernel) rfl
set_option maxRecDepth 20000 in
theorem wc_X0_isZero : Cond.code yX0_isZero cX0_isZero 1 (some .boolean) ∈ lw_gd := lw_in 649 (by decide +kernel) rfl
set_option maxRecDepth 20000 in
theorem wM_X5_71 : Cond.methodLink "StateShares$Row" 71 (yX0_addProduct) ∈ lw_gd := lw_in 651 (by decide +kernel) rfl
set_option maxRecDepth 20000 in
theorem wM_X5_68 : Cond.methodLink "StateShares$Row" 68 (yX0_multiply) ∈ lw_gd := lw_in 650 (by decide +kernel) rfl
set_option maxRecDepth 20000 in
theorem wi_X0_multiply : Cond.instanceMethod (yX0_multiply) ∈ lw_gd := lw_in 239 (by decide +kernel) rfl
set_option maxRecDepth 20000 in
theorem wS_X0_multiply : Cond.selects "StateShares$Big" (yX0_multiply) (yX0_multiply) ∈ lw_gd := lw_in 240 (by decide +kernel) rfl
set_option maxRecDepth 20000 in
theorem wc_X0_multiply : Cond.code yX0_multiply cX0_multiply 7 none ∈ lw_gd := lw_in 241 (by decide +kernel) rfl
set_option maxRecDepth 20000 in
theorem wM_X5_75 : Cond.methodLink "StateShares$Row" 75 (yX4_bottom) ∈ lw_gd := lw_in 659 (by decide +kernel) rfl
set_option maxRecDepth 20000 in
theorem wi_X4_bottom : Cond.instanceMethod (yX4_bottom) ∈ lw_gd := lw_in 660 (by decide +kernel) rfl
set_option maxRecDepth 20000 in
theorem wS_X4_bottom : Cond.selects "StateShares$Moves" (yX4_bottom) (yX4_bottom) ∈ lw_gd := lw_in 661 (by decide +kernel) rfl
set_option maxRecDepth 20000 in
theorem wI_StateShares_Moves : Cond.initialized "StateShares$Moves" ∈ lw_gd := lw_in 6 (by decide +kernel) rfl
set_option maxRecDepth 20000 in
theorem wc_X4_bottom : Cond.code yX4_bottom cX4_bottom 2 (some .int) ∈ lw_gd := lw_in 662 (by decide +kernel) rfl
set_option maxRecDepth 20000 in
theorem wM_X5_81 : Cond.methodLink "StateShares$Row" 81 (yX4_top) ∈ lw_gd := lw_in 663 (by decide +kernel) rfl
set_option maxRecDepth 20000 in
theorem wi_X4_top : Cond.instanceMethod (yX4_top) ∈ lw_gd := lw_in 664 (by decide +kernel) rfl
set_option maxRecDepth 20000 in
theorem wS_X4_top : Cond.selects "StateShares$Moves" (yX4_top) (yX4_top) ∈ lw_gd := lw_in 665 (by decide +kernel) rfl
set_option maxRecDepth 20000 in
theorem wc_X4_top : Cond.code yX4_top cX4_top 3 (some .int) ∈ lw_gd := lw_in 666 (by decide +kernel) rfl
set_option maxRecDepth 20000 in
theorem wM_X5_84 : Cond.methodLink "StateShares$Row" 84 (yX0_addLongProduct) ∈ lw_gd := lw_in 667 (by decide +kernel) rfl
set_option maxRecDepth 20000 in
theorem wi_X0_addLongProduct : Cond.instanceMethod (yX0_addLongProduct) ∈ lw_gd := lw_in 668 (by decide +kernel) rfl
set_option maxRecDepth 20000 in
theorem wS_X0_addLongProduct : Cond.selects "StateShares$Big" (yX0_addLongProduct) (yX0_addLongProduct) ∈ lw_gd := lw_in 669 (by decide +kernel) rfl
set_option maxRecDepth 20000 in
theorem wc_X0_addLongProduct : Cond.code yX0_addLongProduct cX0_addLongProduct 4 none ∈ lw_gd := lw_in 670 (by decide +kernel) rfl
set_option maxRecDepth 20000 in
theorem wM_X5_88 : Cond.methodLink "StateShares$Row" 88 (yX5_allDivide) ∈ lw_gd := lw_in 676 (by decide +kernel) rfl
set_option maxRecDepth 20000 in
theorem wi_X5_allDivide : Cond.instanceMethod (yX5_allDivide) ∈ lw_gd := lw_in 678 (by decide +kernel) rfl
set_option maxRecDepth 20000 in
theorem wS_X5_allDivide : Cond.selects "StateShares$Row" (yX5_allDivide) (yX5_allDivide) ∈ lw_gd := lw_inS (q := ((yX5_allDivide), 3)) 26 (by decide +kernel)
set_option maxRecDepth 20000 in
theorem wc_X5_allDivide : Cond.code yX5_allDivide cX5_allDivide 3 (some .boolean) ∈ lw_gd := lw_in 679 (by decide +kernel) rfl
set_option maxRecDepth 20000 in
theorem wM_X5_92 : Cond.methodLink "StateShares$Row" 92 (yX5_divideAll) ∈ lw_gd := lw_in 684 (by decide +kernel) rfl
set_option maxRecDepth 20000 in
theorem wi_X5_divideAll : Cond.instanceMethod (yX5_divideAll) ∈ lw_gd := lw_in 686 (by decide +kernel) rfl
set_option maxRecDepth 20000 in
theorem wS_X5_divideAll : Cond.selects "StateShares$Row" (yX5_divideAll) (yX5_divideAll) ∈ lw_gd := lw_inS (q := ((yX5_divideAll), 3)) 27 (by decide +kernel)
set_option maxRecDepth 20000 in
theorem wc_X5_divideAll : Cond.code yX5_divideAll cX5_divideAll 3 none ∈ lw_gd := lw_in 687 (by decide +kernel) rfl
set_option maxRecDepth 20000 in
theorem wM_X5_95 : Cond.methodLink "StateShares$Row" 95 (yX0_remainder) ∈ lw_gd := lw_in 680 (by decide +kernel) rfl
set_option maxRecDepth 20000 in
theorem wi_X0_remainder : Cond.instanceMethod (yX0_remainder) ∈ lw_gd := lw_in 681 (by decide +kernel) rfl
set_option maxRecDepth 20000 in
theorem wS_X0_remainder : Cond.selects "StateShares$Big" (yX0_remainder) (yX0_remainder) ∈ lw_gd := lw_in 682 (by decide +kernel) rfl
set_option maxRecDepth 20000 in
theorem wc_X0_remainder : Cond.code yX0_remainder cX0_remainder 5 (some .int) ∈ lw_gd := lw_in 683 (by decide +kernel) rfl
set_option maxRecDepth 20000 in
theorem wM_X5_98 : Cond.methodLink "StateShares$Row" 98 (yX0_divide) ∈ lw_gd := lw_in 688 (by decide +kernel) rfl
set_option maxRecDepth 20000 in
theorem wi_X0_divide : Cond.instanceMethod (yX0_divide) ∈ lw_gd := lw_in 689 (by decide +kernel) rfl
set_option maxRecDepth 20000 in
theorem wS_X0_divide : Cond.selects "StateShares$Big" (yX0_divide) (yX0_divide) ∈ lw_gd := lw_in 690 (by decide +kernel) rfl
set_option maxRecDepth 20000 in
theorem wc_X0_divide : Cond.code yX0_divide cX0_divide 7 none ∈ lw_gd := lw_in 691 (by decide +kernel) rfl
set_option maxRecDepth 20000 in
theorem wM_X2_1 : Cond.methodLink "StateShares$Fraction" 1 (objectInit) ∈ lw_gd := lw_in 220 (by decide +kernel) rfl
set_option maxRecDepth 20000 in
theorem wC_X2_7 : Cond.classLink "StateShares$Fraction" 7 "StateShares$Big" ∈ lw_gd := lw_in 221 (by decide +kernel) rfl
set_option maxRecDepth 20000 in
theorem wM_X2_9 : Cond.methodLink "StateShares$Fraction" 9 (yX0_init) ∈ lw_gd := lw_in 222 (by decide +kernel) rfl
set_option maxRecDepth 20000 in
theorem wF_X2_12 : Cond.fieldLink "StateShares$Fraction" 12 "StateShares$Fraction" "upper" "LStateShares$Big;" ∈ lw_gd := lw_in 223 (by decide +kernel) rfl
set_option maxRecDepth 20000 in
theorem wF_X2_18 : Cond.fieldLink "StateShares$Fraction" 18 "StateShares$Fraction" "lower" "LStateShares$Big;" ∈ lw_gd := lw_in 224 (by decide +kernel) rfl
set_option maxRecDepth 20000 in
theorem wM_X2_21 : Cond.methodLink "StateShares$Fraction" 21 (yX0_copy) ∈ lw_gd := lw_in 704 (by decide +kernel) rfl
set_option maxRecDepth 20000 in
theorem wM_X2_25 : Cond.methodLink "StateShares$Fraction" 25 (yX0_isZero) ∈ lw_gd := lw_in 705 (by decide +kernel) rfl
set_option maxRecDepth 20000 in
theorem wM_X2_33 : Cond.methodLink "StateShares$Fraction" 33 (yX5_whole) ∈ lw_gd := lw_in 707 (by decide +kernel) rfl
set_option maxRecDepth 20000 in
theorem wi_X5_whole : Cond.instanceMethod (yX5_whole) ∈ lw_gd := lw_in 708 (by decide +kernel) rfl
set_option maxRecDepth 20000 in
theorem wS_X5_whole : Cond.selects "StateShares$Row" (yX5_whole) (yX5_whole) ∈ lw_gd := lw_in 709 (by decide +kernel) rfl
set_option maxRecDepth 20000 in
theorem wc_X5_whole : Cond.code yX5_whole cX5_whole 1 (some (.object "StateShares$Big")) ∈ lw_gd := lw_in 710 (by decide +kernel) rfl
set_option maxRecDepth 20000 in
theorem wM_X2_29 : Cond.methodLink "StateShares$Fraction" 29 (yX0_set) ∈ lw_gd := lw_in 706 (by decide +kernel) rfl
set_option maxRecDepth 20000 in
theorem wM_X2_45 : Cond.methodLink "StateShares$Fraction" 45 (yX5_power) ∈ lw_gd := lw_in 712 (by decide +kernel) rfl
set_option maxRecDepth 20000 in
theorem wi_X5_power : Cond.instanceMethod (yX5_power) ∈ lw_gd := lw_in 713 (by decide +kernel) rfl
set_option maxRecDepth 20000 in
theorem wS_X5_power : Cond.selects "StateShares$Row" (yX5_power) (yX5_power) ∈ lw_gd := lw_in 714 (by decide +kernel) rfl
set_option maxRecDepth 20000 in
theorem wc_X5_power : Cond.code yX5_power cX5_power 2 (some .int) ∈ lw_gd := lw_in 715 (by decide +kernel) rfl
set_option maxRecDepth 20000 in
theorem wM_X2_49 : Cond.methodLink "StateShares$Fraction" 49 (yX0_remainder) ∈ lw_gd := lw_in 716 (by decide +kernel) rfl
set_option maxRecDepth 20000 in
theorem wM_X2_52 : Cond.methodLink "StateShares$Fraction" 52 (yX0_divide) ∈ lw_gd := lw_in 717 (by decide +kernel) rfl
set_option maxRecDepth 20000 in
theorem wM_X2_55 : Cond.methodLink "StateShares$Fraction" 55 (yX5_states) ∈ lw_gd := lw_in 742 (by decide +kernel) rfl
set_option maxRecDepth 20000 in
theorem wi_X5_states : Cond.instanceMethod (yX5_states) ∈ lw_gd := lw_in 743 (by decide +kernel) rfl
set_option maxRecDepth 20000 in
theorem wS_X5_states : Cond.selects "StateShares$Row" (yX5_states) (yX5_states) ∈ lw_gd := lw_in 744 (by decide +kernel) rfl
set_option maxRecDepth 20000 in
theorem wc_X5_states : Cond.code yX5_states cX5_states 1 (some .int) ∈ lw_gd := lw_in 745 (by decide +kernel) rfl
set_option maxRecDepth 20000 in
theorem wM_X2_59 : Cond.methodLink "StateShares$Fraction" 59 (yX5_has) ∈ lw_gd := lw_in 746 (by decide +kernel) rfl
set_option maxRecDepth 20000 in
theorem wi_X5_has : Cond.instanceMethod (yX5_has) ∈ lw_gd := lw_in 697 (by decide +kernel) rfl
set_option maxRecDepth 20000 in
theorem wS_X5_has : Cond.selects "StateShares$Row" (yX5_has) (yX5_has) ∈ lw_gd := lw_in 698 (by decide +kernel) rfl
set_option maxRecDepth 20000 in
theorem wc_X5_has : Cond.code yX5_has cX5_has 2 (some (.object "StateShares$Big")) ∈ lw_gd := lw_in 699 (by decide +kernel) rfl
set_option maxRecDepth 20000 in
theorem wM_X2_63 : Cond.methodLink "StateShares$Fraction" 63 (yX0_addProduct) ∈ lw_gd := lw_in 747 (by decide +kernel) rfl
set_option maxRecDepth 20000 in
theorem wM_X2_72 : Cond.methodLink "StateShares$Fraction" 72 (yX2_compareParts) ∈ lw_gd := lw_in 813 (by decide +kernel) rfl
set_option maxRecDepth 20000 in
theorem wi_X2_compareParts : Cond.instanceMethod (yX2_compareParts) ∈ lw_gd := lw_in 749 (by decide +kernel) rfl
set_option maxRecDepth 20000 in
theorem wS_X2_compareParts : Cond.selects "StateShares$Fraction" (yX2_compareParts) (yX2_compareParts) ∈ lw_gd := lw_in 750 (by decide +kernel) rfl
set_option maxRecDepth 20000 in
theorem wI_StateShares_Fraction : Cond.initialized "StateShares$Fraction" ∈ lw_gd := lw_in 11 (by decide +kernel) rfl
set_option maxRecDepth 20000 in
theorem wc_X2_compareParts : Cond.code yX2_compareParts cX2_compareParts 1 (some .int) ∈ lw_gd := lw_in 751 (by decide +kernel) rfl
set_option maxRecDepth 20000 in
theorem wM_X2_75 : Cond.methodLink "StateShares$Fraction" 75 (yX0_subtract) ∈ lw_gd := lw_in 814 (by decide +kernel) rfl
set_option maxRecDepth 20000 in
theorem wi_X0_subtract : Cond.instanceMethod (yX0_subtract) ∈ lw_gd := lw_in 815 (by decide +kernel) rfl
set_option maxRecDepth 20000 in
theorem wS_X0_subtract : Cond.selects "StateShares$Big" (yX0_subtract) (yX0_subtract) ∈ lw_gd := lw_in 816 (by decide +kernel) rfl
set_option maxRecDepth 20000 in
theorem wc_X0_subtract : Cond.code yX0_subtract cX0_subtract 5 none ∈ lw_gd := lw_in 817 (by decide +kernel) rfl
set_option maxRecDepth 20000 in
theorem wM_X2_67 : Cond.methodLink "StateShares$Fraction" 67 (Lib.Math.abs.name) ∈ lw_gd := lw_in 810 (by decide +kernel) rfl
set_option maxRecDepth 20000 in
theorem ws_J9_abs_0f7a4 : Cond.static (Lib.Math.abs.name) ∈ lw_gd := lw_in 811 (by decide +kernel) rfl
set_option maxRecDepth 20000 in
theorem wc_J9_abs_0f7a4 : Cond.code Lib.Math.abs.name Lib.Math.abs.code 1 (some .int) ∈ lw_gd := lw_in 812 (by decide +kernel) rfl
set_option maxRecDepth 20000 in
theorem wM_X2_78 : Cond.methodLink "StateShares$Fraction" 78 (yX0_multiply) ∈ lw_gd := lw_in 874 (by decide +kernel) rfl
set_option maxRecDepth 20000 in
theorem wM_X2_81 : Cond.methodLink "StateShares$Fraction" 81 (yX0_compareWith) ∈ lw_gd := lw_in 722 (by decide +kernel) rfl
set_option maxRecDepth 20000 in
theorem wi_X0_compareWith : Cond.instanceMethod (yX0_compareWith) ∈ lw_gd := lw_in 723 (by decide +kernel) rfl
set_option maxRecDepth 20000 in
theorem wS_X0_compareWith : Cond.selects "StateShares$Big" (yX0_compareWith) (yX0_compareWith) ∈ lw_gd := lw_in 724 (by decide +kernel) rfl
set_option maxRecDepth 20000 in
theorem wc_X0_compareWith : Cond.code yX0_compareWith cX0_compareWith 3 (some .int) ∈ lw_gd := lw_in 725 (by decide +kernel) rfl
set_option maxRecDepth 20000 in
theorem wM_X2_85 : Cond.methodLink "StateShares$Fraction" 85 (yX0_eighteenDigits) ∈ lw_gd := lw_in 827 (by decide +kernel) rfl
set_option maxRecDepth 20000 in
theorem wi_X0_eighteenDigits : Cond.instanceMethod (yX0_eighteenDigits) ∈ lw_gd := lw_in 828 (by decide +kernel) rfl
set_option maxRecDepth 20000 in
theorem wS_X0_eighteenDigits : Cond.selects "StateShares$Big" (yX0_eighteenDigits) (yX0_eighteenDigits) ∈ lw_gd := lw_in 829 (by decide +kernel) rfl
set_option maxRecDepth 20000 in
theorem wc_X0_eighteenDigits : Cond.code yX0_eighteenDigits cX0_eighteenDigits 2 (some .long) ∈ lw_gd := lw_in 830 (by decide +kernel) rfl
set_option maxRecDepth 20000 in
theorem wM_X8_3 : Cond.methodLink "StateShares$Transfers" 3 (objectInit) ∈ lw_gd := lw_in 157 (by decide +kernel) rfl
set_option maxRecDepth 20000 in
theorem wF_X8_9 : Cond.fieldLink "StateShares$Transfers" 9 "StateShares$Transfers" "told" "[I" ∈ lw_gd := lw_in 158 (by decide +kernel) rfl
set_option maxRecDepth 20000 in
theorem wF_X8_15 : Cond.fieldLink "StateShares$Transfers" 15 "StateShares$Transfers" "froms" "[I" ∈ lw_gd := lw_in 159 (by decide +kernel) rfl
set_option maxRecDepth 20000 in
theorem wF_X8_18 : Cond.fieldLink "StateShares$Transfers" 18 "StateShares$Transfers" "tos" "[I" ∈ lw_gd := lw_in 160 (by decide +kernel) rfl
set_option maxRecDepth 20000 in
theorem wF_X8_21 : Cond.fieldLink "StateShares$Transfers" 21 "StateShares$Transfers" "aboves" "[I" ∈ lw_gd := lw_in 161 (by decide +kernel) rfl
set_option maxRecDepth 20000 in
theorem wF_X8_24 : Cond.fieldLink "StateShares$Transfers" 24 "StateShares$Transfers" "belows" "[I" ∈ lw_gd := lw_in 162 (by decide +kernel) rfl
set_option maxRecDepth 20000 in
theorem ws_X9_smallPart : Cond.static (yX9_smallPart) ∈ lw_gd := lw_in 544 (by decide +kernel) rfl
set_option maxRecDepth 20000 in
theorem wc_X9_smallPart : Cond.code yX9_smallPart cX9_smallPart 7 (some .long) ∈ lw_gd := lw_in 545 (by decide +kernel) rfl
set_option maxRecDepth 20000 in
theorem wM_X8_31 : Cond.methodLink "StateShares$Transfers" 31 (yX5_transfer) ∈ lw_gd := lw_in 642 (by decide +kernel) rfl
set_option maxRecDepth 20000 in
theorem wi_X5_transfer : Cond.instanceMethod (yX5_transfer) ∈ lw_gd := lw_in 643 (by decide +kernel) rfl
set_option maxRecDepth 20000 in
theorem wS_X5_transfer : Cond.selects "StateShares$Row" (yX5_transfer) (yX5_transfer) ∈ lw_gd := lw_in 644 (by decide +kernel) rfl
set_option maxRecDepth 20000 in
theorem wc_X5_transfer : Cond.code yX5_transfer cX5_transfer 6 none ∈ lw_gd := lw_in 645 (by decide +kernel) rfl
abbrev M_X2_compareParts : xM := (yX2_compareParts, cX2_compareParts, 1, (some .int), { frames := 2, cells := 0, slots := 0, locals := 43 })
abbrev M_X2_copy : xM := (yX2_copy, cX2_copy, 2, none, { frames := 2, cells := 0, slots := 0, locals := 47 })
abbrev M_X2_digits : xM := (yX2_digits, cX2_digits, 2, (some .long), { frames := 2, cells := 0, slots := 0, locals := 42 })
abbrev M_X2_init : xM := (yX2_init, cX2_init, 2, none, { frames := 2, cells := 4, slots := 228, locals := 44 })
abbrev M_X2_isBelow : xM := (yX2_isBelow, cX2_isBelow, 2, (some .boolean), { frames := 2, cells := 0, slots := 0, locals := 43 })
abbrev M_X2_multiplyParts : xM := (yX2_multiplyParts, cX2_multiplyParts, 3, none, { frames := 1, cells := 0, slots := 0, locals := 26 })
abbrev M_X2_setDifference : xM := (yX2_setDifference, cX2_setDifference, 5, (some .int), { frames := 3, cells := 0, slots := 0, locals := 63 })
abbrev M_X2_setLowest : xM := (yX2_setLowest, cX2_setLowest, 5, none, { frames := 2, cells := 0, slots := 0, locals := 47 })
abbrev M_X2_setTail : xM := (yX2_setTail, cX2_setTail, 4, none, { frames := 2, cells := 0, slots := 0, locals := 52 })
abbrev M_X2_upper : xM := (yX2_upper, cX2_upper, 1, (some (.object "StateShares$Big")), { frames := 0, cells := 0, slots := 0, locals := 0 })
abbrev M_X4_bottom : xM := (yX4_bottom, cX4_bottom, 2, (some .int), { frames := 0, cells := 0, slots := 0, locals := 0 })
abbrev M_X4_top : xM := (yX4_top, cX4_top, 3, (some .int), { frames := 0, cells := 0, slots := 0, locals := 0 })
abbrev M_X5_allDivide : xM := (yX5_allDivide, cX5_allDivide, 3, (some .boolean), { frames := 1, cells := 0, slots := 0, locals := 24 })
abbrev M_X5_begin : xM := (yX5_begin, cX5_begin, 6, none, { frames := 2, cells := 0, slots := 0, locals := 52 })
abbrev M_X5_commonMultiple : xM := (yX5_commonMultiple, cX5_commonMultiple, 3, (some .long), { frames := 1, cells := 0, slots := 0, locals := 30 })
abbrev M_X5_copy : xM := (yX5_copy, cX5_copy, 3, none, { frames := 2, cells := 0, slots := 0, locals := 47 })
abbrev M_X5_divideAll : xM := (yX5_divideAll, cX5_divideAll, 3, none, { frames := 1, cells := 0, slots := 0, locals := 26 })
abbrev M_X5_growWhole : xM := (yX5_growWhole, cX5_growWhole, 8, none, { frames := 1, cells := 0, slots := 0, locals := 23 })
abbrev M_X5_has : xM := (yX5_has, cX5_has, 2, (some (.object "StateShares$Big")), { frames := 0, cells := 0, slots := 0, locals := 0 })
abbrev M_X5_init : xM := (yX5_init, cX5_init, 4, none, { frames := 2, cells := 16, slots := 972, locals := 44 })
abbrev M_X5_move : xM := (yX5_move, cX5_move, 9, none, { frames := 3, cells := 0, slots := 0, locals := 75 })
abbrev M_X5_power : xM := (yX5_power, cX5_power, 2, (some .int), { frames := 0, cells := 0, slots := 0, locals := 0 })
abbrev M_X5_shorten : xM := (yX5_shorten, cX5_shorten, 3, none, { frames := 2, cells := 0, slots := 0, locals := 48 })
abbrev M_X5_states : xM := (yX5_states, cX5_states, 1, (some .int), { frames := 0, cells := 0, slots := 0, locals := 0 })
abbrev M_X5_transfer : xM := (yX5_transfer, cX5_transfer, 6, none, { frames := 2, cells := 0, slots := 0, locals := 52 })
abbrev M_X5_whole : xM := (yX5_whole, cX5_whole, 1, (some (.object "StateShares$Big")), { frames := 0, cells := 0, slots := 0, locals := 0 })
abbrev M_X8_add : xM := (yX8_add, cX8_add, 7, (some .boolean), { frames := 2, cells := 0, slots := 0, locals := 56 })
abbrev M_X8_applyTo : xM := (yX8_applyTo, cX8_applyTo, 5, none, { frames := 3, cells := 0, slots := 0, locals := 77 })
abbrev M_X8_init : xM := (yX8_init, cX8_init, 1, none, { frames := 1, cells := 5, slots := 588, locals := 20 })
abbrev M_X9_commonDivisor : xM := (yX9_commonDivisor, cX9_commonDivisor, 11, (some .long), { frames := 0, cells := 0, slots := 0, locals := 0 })
abbrev M_X9_smallPart : xM := (yX9_smallPart, cX9_smallPart, 7, (some .long), { frames := 1, cells := 0, slots := 0, locals := 30 })
theorem dX9_commonDivisor_0 : decode cX9_commonDivisor 0 = .ok (.lload_n 0, 1) := by decide +kernel
theorem dX9_commonDivisor_1 : decode cX9_commonDivisor 1 = .ok (.lstore 4, 2) := by decide +kernel
theorem dX9_commonDivisor_3 : decode cX9_commonDivisor 3 = .ok (.lload_n 2, 1) := by decide +kernel
theorem dX9_commonDivisor_4 : decode cX9_commonDivisor 4 = .ok (.lstore 6, 2) := by decide +kernel
theorem dX9_commonDivisor_6 : decode cX9_commonDivisor 6 = .ok (.iconst 0, 1) := by decide +kernel
theorem dX9_commonDivisor_7 : decode cX9_commonDivisor 7 = .ok (.istore 8, 2) := by decide +kernel
theorem dX9_commonDivisor_9 : decode cX9_commonDivisor 9 = .ok (.iload 8, 2) := by decide +kernel
theorem dX9_commonDivisor_11 : decode cX9_commonDivisor 11 = .ok (.bipush 100, 2) := by decide +kernel
theorem dX9_commonDivisor_13 : decode cX9_commonDivisor 13 = .ok (.if_icmp .ge 31, 3) := by decide +kernel
theorem dX9_commonDivisor_16 : decode cX9_commonDivisor 16 = .ok (.lload 6, 2) := by decide +kernel
theorem dX9_commonDivisor_18 : decode cX9_commonDivisor 18 = .ok (.lconst 0, 1) := by decide +kernel
theorem dX9_commonDivisor_19 : decode cX9_commonDivisor 19 = .ok (.lcmp, 1) := by decide +kernel
theorem dX9_commonDivisor_20 : decode cX9_commonDivisor 20 = .ok (.ifCond .le 24, 3) := by decide +kernel
theorem dX9_commonDivisor_23 : decode cX9_commonDivisor 23 = .ok (.lload 4, 2) := by decide +kernel
theorem dX9_commonDivisor_25 : decode cX9_commonDivisor 25 = .ok (.lload 6, 2) := by decide +kernel
theorem dX9_commonDivisor_27 : decode cX9_commonDivisor 27 = .ok (.lrem, 1) := by decide +kernel
theorem dX9_commonDivisor_28 : decode cX9_commonDivisor 28 = .ok (.lstore 9, 2) := by decide +kernel
theorem dX9_commonDivisor_30 : decode cX9_commonDivisor 30 = .ok (.lload 6, 2) := by decide +kernel
theorem dX9_commonDivisor_32 : decode cX9_commonDivisor 32 = .ok (.lstore 4, 2) := by decide +kernel
theorem dX9_commonDivisor_34 : decode cX9_commonDivisor 34 = .ok (.lload 9, 2) := by decide +kernel
theorem dX9_commonDivisor_36 : decode cX9_commonDivisor 36 = .ok (.lstore 6, 2) := by decide +kernel
theorem dX9_commonDivisor_38 : decode cX9_commonDivisor 38 = .ok (.iinc 8 1, 3) := by decide +kernel
theorem dX9_commonDivisor_41 : decode cX9_commonDivisor 41 = .ok (.goto (-32), 3) := by decide +kernel
theorem dX9_commonDivisor_44 : decode cX9_commonDivisor 44 = .ok (.lload 4, 2) := by decide +kernel
theorem dX9_commonDivisor_46 : decode cX9_commonDivisor 46 = .ok (.lreturn, 1) := by decide +kernel
theorem dX9_smallPart_0 : decode cX9_smallPart 0 = .ok (.lconst 1, 1) := by decide +kernel
theorem dX9_smallPart_1 : decode cX9_smallPart 1 = .ok (.lload_n 0, 1) := by decide +kernel
theorem dX9_smallPart_2 : decode cX9_smallPart 2 = .ok (.invokestatic 231, 3) := by decide +kernel
theorem dX9_smallPart_5 : decode cX9_smallPart 5 = .ok (.lload_n 2, 1) := by decide +kernel
theorem dX9_smallPart_6 : decode cX9_smallPart 6 = .ok (.invokestatic 235, 3) := by decide +kernel
theorem dX9_smallPart_9 : decode cX9_smallPart 9 = .ok (.invokestatic 239, 3) := by decide +kernel
theorem dX9_smallPart_12 : decode cX9_smallPart 12 = .ok (.lstore 5, 2) := by decide +kernel
theorem dX9_smallPart_14 : decode cX9_smallPart 14 = .ok (.iload 4, 2) := by decide +kernel
theorem dX9_smallPart_16 : decode cX9_smallPart 16 = .ok (.ifCond .ne 8, 3) := by decide +kernel
theorem dX9_smallPart_19 : decode cX9_smallPart 19 = .ok (.lload_n 0, 1) := by decide +kernel
theorem dX9_smallPart_20 : decode cX9_smallPart 20 = .ok (.lload 5, 2) := by decide +kernel
theorem dX9_smallPart_22 : decode cX9_smallPart 22 = .ok (.ldiv, 1) := by decide +kernel
theorem dX9_smallPart_23 : decode cX9_smallPart 23 = .ok (.lreturn, 1) := by decide +kernel
theorem dX9_smallPart_24 : decode cX9_smallPart 24 = .ok (.iload 4, 2) := by decide +kernel
theorem dX9_smallPart_26 : decode cX9_smallPart 26 = .ok (.iconst 1, 1) := by decide +kernel
theorem dX9_smallPart_27 : decode cX9_smallPart 27 = .ok (.if_icmp .ne 10, 3) := by decide +kernel
theorem dX9_smallPart_30 : decode cX9_smallPart 30 = .ok (.lload_n 2, 1) := by decide +kernel
theorem dX9_smallPart_31 : decode cX9_smallPart 31 = .ok (.lload 5, 2) := by decide +kernel
theorem dX9_smallPart_33 : decode cX9_smallPart 33 = .ok (.ldiv, 1) := by decide +kernel
theorem dX9_smallPart_34 : decode cX9_smallPart 34 = .ok (.goto 4, 3) := by decide +kernel
theorem dX9_smallPart_37 : decode cX9_smallPart 37 = .ok (.lconst 0, 1) := by decide +kernel
theorem dX9_smallPart_38 : decode cX9_smallPart 38 = .ok (.lreturn, 1) := by decide +kernel
theorem dX5_init_0 : decode cX5_init 0 = .ok (.aload_n 0, 1) := by decide +kernel
theorem dX5_init_1 : decode cX5_init 1 = .ok (.invokespecial 1, 3) := by decide +kernel
theorem dX5_init_4 : decode cX5_init 4 = .ok (.aload_n 0, 1) := by decide +kernel
theorem dX5_init_5 : decode cX5_init 5 = .ok (.iload_n 1, 1) := by decide +kernel
theorem dX5_init_6 : decode cX5_init 6 = .ok (.anewarray 7, 3) := by decide +kernel
theorem dX5_init_9 : decode cX5_init 9 = .ok (.putfield 9, 3) := by decide +kernel
theorem dX5_init_12 : decode cX5_init 12 = .ok (.iconst 0, 1) := by decide +kernel
theorem dX5_init_13 : decode cX5_init 13 = .ok (.istore_n 3, 1) := by decide +kernel
theorem dX5_init_14 : decode cX5_init 14 = .ok (.iload_n 3, 1) := by decide +kernel
theorem dX5_init_15 : decode cX5_init 15 = .ok (.iload_n 1, 1) := by decide +kernel
theorem dX5_init_16 : decode cX5_init 16 = .ok (.if_icmp .ge 23, 3) := by decide +kernel
theorem dX5_init_19 : decode cX5_init 19 = .ok (.aload_n 0, 1) := by decide +kernel
theorem dX5_init_20 : decode cX5_init 20 = .ok (.getfield 9, 3) := by decide +kernel
theorem dX5_init_23 : decode cX5_init 23 = .ok (.iload_n 3, 1) := by decide +kernel
theorem dX5_init_24 : decode cX5_init 24 = .ok (.new 7, 3) := by decide +kernel
theorem dX5_init_27 : decode cX5_init 27 = .ok (.dup, 1) := by decide +kernel
theorem dX5_init_28 : decode cX5_init 28 = .ok (.iload_n 2, 1) := by decide +kernel
theorem dX5_init_29 : decode cX5_init 29 = .ok (.invokespecial 15, 3) := by decide +kernel
theorem dX5_init_32 : decode cX5_init 32 = .ok (.aastore, 1) := by decide +kernel
theorem dX5_init_33 : decode cX5_init 33 = .ok (.iinc 3 1, 3) := by decide +kernel
theorem dX5_init_36 : decode cX5_init 36 = .ok (.goto (-22), 3) := by decide +kernel
theorem dX5_init_39 : decode cX5_init 39 = .ok (.aload_n 0, 1) := by decide +kernel
theorem dX5_init_40 : decode cX5_init 40 = .ok (.new 7, 3) := by decide +kernel
theorem dX5_init_43 : decode cX5_init 43 = .ok (.dup, 1) := by decide +kernel
theorem dX5_init_44 : decode cX5_init 44 = .ok (.iload_n 2, 1) := by decide +kernel
theorem dX5_init_45 : decode cX5_init 45 = .ok (.invokespecial 15, 3) := by decide +kernel
theorem dX5_init_48 : decode cX5_init 48 = .ok (.putfield 18, 3) := by decide +kernel
theorem dX5_init_51 : decode cX5_init 51 = .ok (.aload_n 0, 1) := by decide +kernel
theorem dX5_init_52 : decode cX5_init 52 = .ok (.getstatic 22, 3) := by decide +kernel
theorem dX5_init_55 : decode cX5_init 55 = .ok (.arraylength, 1) := by decide +kernel
theorem dX5_init_56 : decode cX5_init 56 = .ok (.newarray .int, 2) := by decide +kernel
theorem dX5_init_58 : decode cX5_init 58 = .ok (.putfield 28, 3) := by decide +kernel
theorem dX5_init_61 : decode cX5_init 61 = .ok (.return_, 1) := by decide +kernel
theorem dX5_states_0 : decode cX5_states 0 = .ok (.aload_n 0, 1) := by decide +kernel
theorem dX5_states_1 : decode cX5_states 1 = .ok (.getfield 9, 3) := by decide +kernel
theorem dX5_states_4 : decode cX5_states 4 = .ok (.arraylength, 1) := by decide +kernel
theorem dX5_states_5 : decode cX5_states 5 = .ok (.ireturn, 1) := by decide +kernel
theorem dX5_has_0 : decode cX5_has 0 = .ok (.aload_n 0, 1) := by decide +kernel
theorem dX5_has_1 : decode cX5_has 1 = .ok (.getfield 9, 3) := by decide +kernel
theorem dX5_has_4 : decode cX5_has 4 = .ok (.iload_n 1, 1) := by decide +kernel
theorem dX5_has_5 : decode cX5_has 5 = .ok (.aaload, 1) := by decide +kernel
theorem dX5_has_6 : decode cX5_has 6 = .ok (.areturn, 1) := by decide +kernel
theorem dX5_whole_0 : decode cX5_whole 0 = .ok (.aload_n 0, 1) := by decide +kernel
theorem dX5_whole_1 : decode cX5_whole 1 = .ok (.getfield 18, 3) := by decide +kernel
theorem dX5_whole_4 : decode cX5_whole 4 = .ok (.areturn, 1) := by decide +kernel
theorem dX5_power_0 : decode cX5_power 0 = .ok (.aload_n 0, 1) := by decide +kernel
theorem dX5_power_1 : decode cX5_power 1 = .ok (.getfield 28, 3) := by decide +kernel
theorem dX5_power_4 : decode cX5_power 4 = .ok (.iload_n 1, 1) := by decide +kernel
theorem dX5_power_5 : decode cX5_power 5 = .ok (.iaload, 1) := by decide +kernel
theorem dX5_power_6 : decode cX5_power 6 = .ok (.ireturn, 1) := by decide +kernel
theorem dX5_copy_0 : decode cX5_copy 0 = .ok (.iconst 0, 1) := by decide +kernel
theorem dX5_copy_1 : decode cX5_copy 1 = .ok (.istore_n 2, 1) := by decide +kernel
theorem dX5_copy_2 : decode cX5_copy 2 = .ok (.iload_n 2, 1) := by decide +kernel
theorem dX5_copy_3 : decode cX5_copy 3 = .ok (.aload_n 0, 1) := by decide +kernel
theorem dX5_copy_4 : decode cX5_copy 4 = .ok (.getfield 9, 3) := by decide +kernel
theorem dX5_copy_7 : decode cX5_copy 7 = .ok (.arraylength, 1) := by decide +kernel
theorem dX5_copy_8 : decode cX5_copy 8 = .ok (.if_icmp .ge 24, 3) := by decide +kernel
theorem dX5_copy_11 : decode cX5_copy 11 = .ok (.aload_n 0, 1) := by decide +kernel
theorem dX5_copy_12 : decode cX5_copy 12 = .ok (.getfield 9, 3) := by decide +kernel
theorem dX5_copy_15 : decode cX5_copy 15 = .ok (.iload_n 2, 1) := by decide +kernel
theorem dX5_copy_16 : decode cX5_copy 16 = .ok (.aaload, 1) := by decide +kernel
theorem dX5_copy_17 : decode cX5_copy 17 = .ok (.aload_n 1, 1) := by decide +kernel
theorem dX5_copy_18 : decode cX5_copy 18 = .ok (.getfield 9, 3) := by decide +kernel
theorem dX5_copy_21 : decode cX5_copy 21 = .ok (.iload_n 2, 1) := by decide +kernel
theorem dX5_copy_22 : decode cX5_copy 22 = .ok (.aaload, 1) := by decide +kernel
theorem dX5_copy_23 : decode cX5_copy 23 = .ok (.invokevirtual 31, 3) := by decide +kernel
theorem dX5_copy_26 : decode cX5_copy 26 = .ok (.iinc 2 1, 3) := by decide +kernel
theorem dX5_copy_29 : decode cX5_copy 29 = .ok (.goto (-27), 3) := by decide +kernel
theorem dX5_copy_32 : decode cX5_copy 32 = .ok (.aload_n 1, 1) := by decide +kernel
theorem dX5_copy_33 : decode cX5_copy 33 = .ok (.getfield 28, 3) := by decide +kernel
theorem dX5_copy_36 : decode cX5_copy 36 = .ok (.iconst 0, 1) := by decide +kernel
theorem dX5_copy_37 : decode cX5_copy 37 = .ok (.aload_n 0, 1) := by decide +kernel
theorem dX5_copy_38 : decode cX5_copy 38 = .ok (.getfield 28, 3) := by decide +kernel
theorem dX5_copy_41 : decode cX5_copy 41 = .ok (.iconst 0, 1) := by decide +kernel
theorem dX5_copy_42 : decode cX5_copy 42 = .ok (.aload_n 0, 1) := by decide +kernel
theorem dX5_copy_43 : decode cX5_copy 43 = .ok (.getfield 28, 3) := by decide +kernel
theorem dX5_copy_46 : decode cX5_copy 46 = .ok (.arraylength, 1) := by decide +kernel
theorem dX5_copy_47 : decode cX5_copy 47 = .ok (.invokestatic 35, 3) := by decide +kernel
theorem dX5_copy_50 : decode cX5_copy 50 = .ok (.return_, 1) := by decide +kernel
theorem dX5_begin_0 : decode cX5_begin 0 = .ok (.lconst 1, 1) := by decide +kernel
theorem dX5_begin_1 : decode cX5_begin 1 = .ok (.lstore_n 3, 1) := by decide +kernel
theorem dX5_begin_2 : decode cX5_begin 2 = .ok (.iconst 0, 1) := by decide +kernel
theorem dX5_begin_3 : decode cX5_begin 3 = .ok (.istore 5, 2) := by decide +kernel
theorem dX5_begin_5 : decode cX5_begin 5 = .ok (.iload 5, 2) := by decide +kernel
theorem dX5_begin_7 : decode cX5_begin 7 = .ok (.aload_n 0, 1) := by decide +kernel
theorem dX5_begin_8 : decode cX5_begin 8 = .ok (.getfield 9, 3) := by decide +kernel
theorem dX5_begin_11 : decode cX5_begin 11 = .ok (.arraylength, 1) := by decide +kernel
theorem dX5_begin_12 : decode cX5_begin 12 = .ok (.if_icmp .ge 18, 3) := by decide +kernel
theorem dX5_begin_15 : decode cX5_begin 15 = .ok (.lload_n 3, 1) := by decide +kernel
theorem dX5_begin_16 : decode cX5_begin 16 = .ok (.aload_n 2, 1) := by decide +kernel
theorem dX5_begin_17 : decode cX5_begin 17 = .ok (.iload 5, 2) := by decide +kernel
theorem dX5_begin_19 : decode cX5_begin 19 = .ok (.iaload, 1) := by decide +kernel
theorem dX5_begin_20 : decode cX5_begin 20 = .ok (.invokestatic 41, 3) := by decide +kernel
theorem dX5_begin_23 : decode cX5_begin 23 = .ok (.lstore_n 3, 1) := by decide +kernel
theorem dX5_begin_24 : decode cX5_begin 24 = .ok (.iinc 5 1, 3) := by decide +kernel
theorem dX5_begin_27 : decode cX5_begin 27 = .ok (.goto (-22), 3) := by decide +kernel
theorem dX5_begin_30 : decode cX5_begin 30 = .ok (.iconst 0, 1) := by decide +kernel
theorem dX5_begin_31 : decode cX5_begin 31 = .ok (.istore 5, 2) := by decide +kernel
theorem dX5_begin_33 : decode cX5_begin 33 = .ok (.iload 5, 2) := by decide +kernel
theorem dX5_begin_35 : decode cX5_begin 35 = .ok (.aload_n 0, 1) := by decide +kernel
theorem dX5_begin_36 : decode cX5_begin 36 = .ok (.getfield 9, 3) := by decide +kernel
theorem dX5_begin_39 : decode cX5_begin 39 = .ok (.arraylength, 1) := by decide +kernel
theorem dX5_begin_40 : decode cX5_begin 40 = .ok (.if_icmp .ge 36, 3) := by decide +kernel
theorem dX5_begin_43 : decode cX5_begin 43 = .ok (.aload_n 0, 1) := by decide +kernel
theorem dX5_begin_44 : decode cX5_begin 44 = .ok (.getfield 9, 3) := by decide +kernel
theorem dX5_begin_47 : decode cX5_begin 47 = .ok (.iload 5, 2) := by decide +kernel
theorem dX5_begin_49 : decode cX5_begin 49 = .ok (.aaload, 1) := by decide +kernel
theorem dX5_begin_50 : decode cX5_begin 50 = .ok (.lload_n 3, 1) := by decide +kernel
theorem dX5_begin_51 : decode cX5_begin 51 = .ok (.iconst 1, 1) := by decide +kernel
theorem dX5_begin_52 : decode cX5_begin 52 = .ok (.aload_n 2, 1) := by decide +kernel
theorem dX5_begin_53 : decode cX5_begin 53 = .ok (.iload 5, 2) := by decide +kernel
theorem dX5_begin_55 : decode cX5_begin 55 = .ok (.iaload, 1) := by decide +kernel
theorem dX5_begin_56 : decode cX5_begin 56 = .ok (.invokestatic 45, 3) := by decide +kernel
theorem dX5_begin_59 : decode cX5_begin 59 = .ok (.i2l, 1) := by decide +kernel
theorem dX5_begin_60 : decode cX5_begin 60 = .ok (.ldiv, 1) := by decide +kernel
theorem dX5_begin_61 : decode cX5_begin 61 = .ok (.aload_n 1, 1) := by decide +kernel
theorem dX5_begin_62 : decode cX5_begin 62 = .ok (.iload 5, 2) := by decide +kernel
theorem dX5_begin_64 : decode cX5_begin 64 = .ok (.iaload, 1) := by decide +kernel
theorem dX5_begin_65 : decode cX5_begin 65 = .ok (.i2l, 1) := by decide +kernel
theorem dX5_begin_66 : decode cX5_begin 66 = .ok (.lmul, 1) := by decide +kernel
theorem dX5_begin_67 : decode cX5_begin 67 = .ok (.invokevirtual 51, 3) := by decide +kernel
theorem dX5_begin_70 : decode cX5_begin 70 = .ok (.iinc 5 1, 3) := by decide +kernel
theorem dX5_begin_73 : decode cX5_begin 73 = .ok (.goto (-40), 3) := by decide +kernel
theorem dX5_begin_76 : decode cX5_begin 76 = .ok (.iconst 0, 1) := by decide +kernel
theorem dX5_begin_77 : decode cX5_begin 77 = .ok (.istore 5, 2) := by decide +kernel
theorem dX5_begin_79 : decode cX5_begin 79 = .ok (.iload 5, 2) := by decide +kernel
theorem dX5_begin_81 : decode cX5_begin 81 = .ok (.aload_n 0, 1) := by decide +kernel
theorem dX5_begin_82 : decode cX5_begin 82 = .ok (.getfield 28, 3) := by decide +kernel
theorem dX5_begin_85 : decode cX5_begin 85 = .ok (.arraylength, 1) := by decide +kernel
theorem dX5_begin_86 : decode cX5_begin 86 = .ok (.if_icmp .ge 17, 3) := by decide +kernel
theorem dX5_begin_89 : decode cX5_begin 89 = .ok (.aload_n 0, 1) := by decide +kernel
theorem dX5_begin_90 : decode cX5_begin 90 = .ok (.getfield 28, 3) := by decide +kernel
theorem dX5_begin_93 : decode cX5_begin 93 = .ok (.iload 5, 2) := by decide +kernel
theorem dX5_begin_95 : decode cX5_begin 95 = .ok (.iconst 0, 1) := by decide +kernel
theorem dX5_begin_96 : decode cX5_begin 96 = .ok (.iastore, 1) := by decide +kernel
theorem dX5_begin_97 : decode cX5_begin 97 = .ok (.iinc 5 1, 3) := by decide +kernel
theorem dX5_begin_100 : decode cX5_begin 100 = .ok (.goto (-21), 3) := by decide +kernel
theorem dX5_begin_103 : decode cX5_begin 103 = .ok (.aload_n 0, 1) := by decide +kernel
theorem dX5_begin_104 : decode cX5_begin 104 = .ok (.lload_n 3, 1) := by decide +kernel
theorem dX5_begin_105 : decode cX5_begin 105 = .ok (.invokevirtual 55, 3) := by decide +kernel
theorem dX5_begin_108 : decode cX5_begin 108 = .ok (.return_, 1) := by decide +kernel
theorem dX5_commonMultiple_0 : decode cX5_commonMultiple 0 = .ok (.lload_n 0, 1) := by decide +kernel
theorem dX5_commonMultiple_1 : decode cX5_commonMultiple 1 = .ok (.lconst 1, 1) := by decide +kernel
theorem dX5_commonMultiple_2 : decode cX5_commonMultiple 2 = .ok (.lload_n 0, 1) := by decide +kernel
theorem dX5_commonMultiple_3 : decode cX5_commonMultiple 3 = .ok (.iload_n 2, 1) := by decide +kernel
theorem dX5_commonMultiple_4 : decode cX5_commonMultiple 4 = .ok (.i2l, 1) := by decide +kernel
theorem dX5_commonMultiple_5 : decode cX5_commonMultiple 5 = .ok (.invokestatic 58, 3) := by decide +kernel
theorem dX5_commonMultiple_8 : decode cX5_commonMultiple 8 = .ok (.invokestatic 62, 3) := by decide +kernel
theorem dX5_commonMultiple_11 : decode cX5_commonMultiple 11 = .ok (.ldiv, 1) := by decide +kernel
theorem dX5_commonMultiple_12 : decode cX5_commonMultiple 12 = .ok (.iload_n 2, 1) := by decide +kernel
theorem dX5_commonMultiple_13 : decode cX5_commonMultiple 13 = .ok (.i2l, 1) := by decide +kernel
theorem dX5_commonMultiple_14 : decode cX5_commonMultiple 14 = .ok (.lmul, 1) := by decide +kernel
theorem dX5_commonMultiple_15 : decode cX5_commonMultiple 15 = .ok (.lreturn, 1) := by decide +kernel
theorem dX5_growWhole_0 : decode cX5_growWhole 0 = .ok (.lload_n 1, 1) := by decide +kernel
theorem dX5_growWhole_1 : decode cX5_growWhole 1 = .ok (.lstore_n 3, 1) := by decide +kernel
theorem dX5_growWhole_2 : decode cX5_growWhole 2 = .ok (.iconst 0, 1) := by decide +kernel
theorem dX5_growWhole_3 : decode cX5_growWhole 3 = .ok (.istore 5, 2) := by decide +kernel
theorem dX5_growWhole_5 : decode cX5_growWhole 5 = .ok (.iload 5, 2) := by decide +kernel
theorem dX5_growWhole_7 : decode cX5_growWhole 7 = .ok (.aload_n 0, 1) := by decide +kernel
theorem dX5_growWhole_8 : decode cX5_growWhole 8 = .ok (.getfield 28, 3) := by decide +kernel
theorem dX5_growWhole_11 : decode cX5_growWhole 11 = .ok (.arraylength, 1) := by decide +kernel
theorem dX5_growWhole_12 : decode cX5_growWhole 12 = .ok (.if_icmp .ge 70, 3) := by decide +kernel
theorem dX5_growWhole_15 : decode cX5_growWhole 15 = .ok (.lload_n 3, 1) := by decide +kernel
theorem dX5_growWhole_16 : decode cX5_growWhole 16 = .ok (.lconst 1, 1) := by decide +kernel
theorem dX5_growWhole_17 : decode cX5_growWhole 17 = .ok (.lcmp, 1) := by decide +kernel
theorem dX5_growWhole_18 : decode cX5_growWhole 18 = .ok (.ifCond .le 64, 3) := by decide +kernel
theorem dX5_growWhole_21 : decode cX5_growWhole 21 = .ok (.iconst 2, 1) := by decide +kernel
theorem dX5_growWhole_22 : decode cX5_growWhole 22 = .ok (.getstatic 22, 3) := by decide +kernel
theorem dX5_growWhole_25 : decode cX5_growWhole 25 = .ok (.iload 5, 2) := by decide +kernel
theorem dX5_growWhole_27 : decode cX5_growWhole 27 = .ok (.iaload, 1) := by decide +kernel
theorem dX5_growWhole_28 : decode cX5_growWhole 28 = .ok (.invokestatic 45, 3) := by decide +kernel
theorem dX5_growWhole_31 : decode cX5_growWhole 31 = .ok (.istore 6, 2) := by decide +kernel
theorem dX5_growWhole_33 : decode cX5_growWhole 33 = .ok (.iconst 0, 1) := by decide +kernel
theorem dX5_growWhole_34 : decode cX5_growWhole 34 = .ok (.istore 7, 2) := by decide +kernel
theorem dX5_growWhole_36 : decode cX5_growWhole 36 = .ok (.iload 7, 2) := by decide +kernel
theorem dX5_growWhole_38 : decode cX5_growWhole 38 = .ok (.bipush 63, 2) := by decide +kernel
theorem dX5_growWhole_40 : decode cX5_growWhole 40 = .ok (.if_icmp .ge 36, 3) := by decide +kernel
theorem dX5_growWhole_43 : decode cX5_growWhole 43 = .ok (.lload_n 3, 1) := by decide +kernel
theorem dX5_growWhole_44 : decode cX5_growWhole 44 = .ok (.iload 6, 2) := by decide +kernel
theorem dX5_growWhole_46 : decode cX5_growWhole 46 = .ok (.i2l, 1) := by decide +kernel
theorem dX5_growWhole_47 : decode cX5_growWhole 47 = .ok (.lrem, 1) := by decide +kernel
theorem dX5_growWhole_48 : decode cX5_growWhole 48 = .ok (.lconst 0, 1) := by decide +kernel
theorem dX5_growWhole_49 : decode cX5_growWhole 49 = .ok (.lcmp, 1) := by decide +kernel
theorem dX5_growWhole_50 : decode cX5_growWhole 50 = .ok (.ifCond .ne 26, 3) := by decide +kernel
theorem dX5_growWhole_53 : decode cX5_growWhole 53 = .ok (.lload_n 3, 1) := by decide +kernel
theorem dX5_growWhole_54 : decode cX5_growWhole 54 = .ok (.iload 6, 2) := by decide +kernel
theorem dX5_growWhole_56 : decode cX5_growWhole 56 = .ok (.i2l, 1) := by decide +kernel
theorem dX5_growWhole_57 : decode cX5_growWhole 57 = .ok (.ldiv, 1) := by decide +kernel
theorem dX5_growWhole_58 : decode cX5_growWhole 58 = .ok (.lstore_n 3, 1) := by decide +kernel
theorem dX5_growWhole_59 : decode cX5_growWhole 59 = .ok (.aload_n 0, 1) := by decide +kernel
theorem dX5_growWhole_60 : decode cX5_growWhole 60 = .ok (.getfield 28, 3) := by decide +kernel
theorem dX5_growWhole_63 : decode cX5_growWhole 63 = .ok (.iload 5, 2) := by decide +kernel
theorem dX5_growWhole_65 : decode cX5_growWhole 65 = .ok (.dup2, 1) := by decide +kernel
theorem dX5_growWhole_66 : decode cX5_growWhole 66 = .ok (.iaload, 1) := by decide +kernel
theorem dX5_growWhole_67 : decode cX5_growWhole 67 = .ok (.iconst 1, 1) := by decide +kernel
theorem dX5_growWhole_68 : decode cX5_growWhole 68 = .ok (.iadd, 1) := by decide +kernel
theorem dX5_growWhole_69 : decode cX5_growWhole 69 = .ok (.iastore, 1) := by decide +kernel
theorem dX5_growWhole_70 : decode cX5_growWhole 70 = .ok (.iinc 7 1, 3) := by decide +kernel
theorem dX5_growWhole_73 : decode cX5_growWhole 73 = .ok (.goto (-37), 3) := by decide +kernel
theorem dX5_growWhole_76 : decode cX5_growWhole 76 = .ok (.iinc 5 1, 3) := by decide +kernel
theorem dX5_growWhole_79 : decode cX5_growWhole 79 = .ok (.goto (-74), 3) := by decide +kernel
theorem dX5_growWhole_82 : decode cX5_growWhole 82 = .ok (.return_, 1) := by decide +kernel
theorem dX5_transfer_0 : decode cX5_transfer 0 = .ok (.iload_n 3, 1) := by decide +kernel
theorem dX5_transfer_1 : decode cX5_transfer 1 = .ok (.ifCond .eq 15, 3) := by decide +kernel
theorem dX5_transfer_4 : decode cX5_transfer 4 = .ok (.aload_n 0, 1) := by decide +kernel
theorem dX5_transfer_5 : decode cX5_transfer 5 = .ok (.getfield 9, 3) := by decide +kernel
theorem dX5_transfer_8 : decode cX5_transfer 8 = .ok (.iload_n 1, 1) := by decide +kernel
theorem dX5_transfer_9 : decode cX5_transfer 9 = .ok (.aaload, 1) := by decide +kernel
theorem dX5_transfer_10 : decode cX5_transfer 10 = .ok (.invokevirtual 64, 3) := by decide +kernel
theorem dX5_transfer_13 : decode cX5_transfer 13 = .ok (.ifCond .eq 4, 3) := by decide +kernel
theorem dX5_transfer_16 : decode cX5_transfer 16 = .ok (.return_, 1) := by decide +kernel
theorem dX5_transfer_17 : decode cX5_transfer 17 = .ok (.iconst 0, 1) := by decide +kernel
theorem dX5_transfer_18 : decode cX5_transfer 18 = .ok (.istore 5, 2) := by decide +kernel
theorem dX5_transfer_20 : decode cX5_transfer 20 = .ok (.iload 5, 2) := by decide +kernel
theorem dX5_transfer_22 : decode cX5_transfer 22 = .ok (.aload_n 0, 1) := by decide +kernel
theorem dX5_transfer_23 : decode cX5_transfer 23 = .ok (.getfield 9, 3) := by decide +kernel
theorem dX5_transfer_26 : decode cX5_transfer 26 = .ok (.arraylength, 1) := by decide +kernel
theorem dX5_transfer_27 : decode cX5_transfer 27 = .ok (.if_icmp .ge 27, 3) := by decide +kernel
theorem dX5_transfer_30 : decode cX5_transfer 30 = .ok (.iload 5, 2) := by decide +kernel
theorem dX5_transfer_32 : decode cX5_transfer 32 = .ok (.iload_n 1, 1) := by decide +kernel
theorem dX5_transfer_33 : decode cX5_transfer 33 = .ok (.if_icmp .eq 15, 3) := by decide +kernel
theorem dX5_transfer_36 : decode cX5_transfer 36 = .ok (.aload_n 0, 1) := by decide +kernel
theorem dX5_transfer_37 : decode cX5_transfer 37 = .ok (.getfield 9, 3) := by decide +kernel
theorem dX5_transfer_40 : decode cX5_transfer 40 = .ok (.iload 5, 2) := by decide +kernel
theorem dX5_transfer_42 : decode cX5_transfer 42 = .ok (.aaload, 1) := by decide +kernel
theorem dX5_transfer_43 : decode cX5_transfer 43 = .ok (.iload 4, 2) := by decide +kernel
theorem dX5_transfer_45 : decode cX5_transfer 45 = .ok (.invokevirtual 68, 3) := by decide +kernel
theorem dX5_transfer_48 : decode cX5_transfer 48 = .ok (.iinc 5 1, 3) := by decide +kernel
theorem dX5_transfer_51 : decode cX5_transfer 51 = .ok (.goto (-31), 3) := by decide +kernel
theorem dX5_transfer_54 : decode cX5_transfer 54 = .ok (.aload_n 0, 1) := by decide +kernel
theorem dX5_transfer_55 : decode cX5_transfer 55 = .ok (.getfield 9, 3) := by decide +kernel
theorem dX5_transfer_58 : decode cX5_transfer 58 = .ok (.iload_n 2, 1) := by decide +kernel
theorem dX5_transfer_59 : decode cX5_transfer 59 = .ok (.aaload, 1) := by decide +kernel
theorem dX5_transfer_60 : decode cX5_transfer 60 = .ok (.aload_n 0, 1) := by decide +kernel
theorem dX5_transfer_61 : decode cX5_transfer 61 = .ok (.getfield 9, 3) := by decide +kernel
theorem dX5_transfer_64 : decode cX5_transfer 64 = .ok (.iload_n 1, 1) := by decide +kernel
theorem dX5_transfer_65 : decode cX5_transfer 65 = .ok (.aaload, 1) := by decide +kernel
theorem dX5_transfer_66 : decode cX5_transfer 66 = .ok (.iload_n 3, 1) := by decide +kernel
theorem dX5_transfer_67 : decode cX5_transfer 67 = .ok (.iconst 0, 1) := by decide +kernel
theorem dX5_transfer_68 : decode cX5_transfer 68 = .ok (.invokevirtual 71, 3) := by decide +kernel
theorem dX5_transfer_71 : decode cX5_transfer 71 = .ok (.aload_n 0, 1) := by decide +kernel
theorem dX5_transfer_72 : decode cX5_transfer 72 = .ok (.getfield 9, 3) := by decide +kernel
theorem dX5_transfer_75 : decode cX5_transfer 75 = .ok (.iload_n 1, 1) := by decide +kernel
theorem dX5_transfer_76 : decode cX5_transfer 76 = .ok (.aaload, 1) := by decide +kernel
theorem dX5_transfer_77 : decode cX5_transfer 77 = .ok (.iload 4, 2) := by decide +kernel
theorem dX5_transfer_79 : decode cX5_transfer 79 = .ok (.iload_n 3, 1) := by decide +kernel
theorem dX5_transfer_80 : decode cX5_transfer 80 = .ok (.isub, 1) := by decide +kernel
theorem dX5_transfer_81 : decode cX5_transfer 81 = .ok (.invokevirtual 68, 3) := by decide +kernel
theorem dX5_transfer_84 : decode cX5_transfer 84 = .ok (.aload_n 0, 1) := by decide +kernel
theorem dX5_transfer_85 : decode cX5_transfer 85 = .ok (.iload 4, 2) := by decide +kernel
theorem dX5_transfer_87 : decode cX5_transfer 87 = .ok (.i2l, 1) := by decide +kernel
theorem dX5_transfer_88 : decode cX5_transfer 88 = .ok (.invokevirtual 55, 3) := by decide +kernel
theorem dX5_transfer_91 : decode cX5_transfer 91 = .ok (.return_, 1) := by decide +kernel
theorem dX5_move_0 : decode cX5_move 0 = .ok (.lconst 1, 1) := by decide +kernel
theorem dX5_move_1 : decode cX5_move 1 = .ok (.lstore_n 3, 1) := by decide +kernel
theorem dX5_move_2 : decode cX5_move 2 = .ok (.iconst 0, 1) := by decide +kernel
theorem dX5_move_3 : decode cX5_move 3 = .ok (.istore 5, 2) := by decide +kernel
theorem dX5_move_5 : decode cX5_move 5 = .ok (.iload 5, 2) := by decide +kernel
theorem dX5_move_7 : decode cX5_move 7 = .ok (.aload_n 0, 1) := by decide +kernel
theorem dX5_move_8 : decode cX5_move 8 = .ok (.getfield 9, 3) := by decide +kernel
theorem dX5_move_11 : decode cX5_move 11 = .ok (.arraylength, 1) := by decide +kernel
theorem dX5_move_12 : decode cX5_move 12 = .ok (.if_icmp .ge 41, 3) := by decide +kernel
theorem dX5_move_15 : decode cX5_move 15 = .ok (.aload_n 2, 1) := by decide +kernel
theorem dX5_move_16 : decode cX5_move 16 = .ok (.iload 5, 2) := by decide +kernel
theorem dX5_move_18 : decode cX5_move 18 = .ok (.aaload, 1) := by decide +kernel
theorem dX5_move_19 : decode cX5_move 19 = .ok (.lconst 0, 1) := by decide +kernel
theorem dX5_move_20 : decode cX5_move 20 = .ok (.invokevirtual 51, 3) := by decide +kernel
theorem dX5_move_23 : decode cX5_move 23 = .ok (.aload_n 0, 1) := by decide +kernel
theorem dX5_move_24 : decode cX5_move 24 = .ok (.getfield 9, 3) := by decide +kernel
theorem dX5_move_27 : decode cX5_move 27 = .ok (.iload 5, 2) := by decide +kernel
theorem dX5_move_29 : decode cX5_move 29 = .ok (.aaload, 1) := by decide +kernel
theorem dX5_move_30 : decode cX5_move 30 = .ok (.invokevirtual 64, 3) := by decide +kernel
theorem dX5_move_33 : decode cX5_move 33 = .ok (.ifCond .ne 14, 3) := by decide +kernel
theorem dX5_move_36 : decode cX5_move 36 = .ok (.lload_n 3, 1) := by decide +kernel
theorem dX5_move_37 : decode cX5_move 37 = .ok (.aload_n 1, 1) := by decide +kernel
theorem dX5_move_38 : decode cX5_move 38 = .ok (.iload 5, 2) := by decide +kernel
theorem dX5_move_40 : decode cX5_move 40 = .ok (.invokevirtual 75, 3) := by decide +kernel
theorem dX5_move_43 : decode cX5_move 43 = .ok (.invokestatic 41, 3) := by decide +kernel
theorem dX5_move_46 : decode cX5_move 46 = .ok (.lstore_n 3, 1) := by decide +kernel
theorem dX5_move_47 : decode cX5_move 47 = .ok (.iinc 5 1, 3) := by decide +kernel
theorem dX5_move_50 : decode cX5_move 50 = .ok (.goto (-45), 3) := by decide +kernel
theorem dX5_move_53 : decode cX5_move 53 = .ok (.iconst 0, 1) := by decide +kernel
theorem dX5_move_54 : decode cX5_move 54 = .ok (.istore 5, 2) := by decide +kernel
theorem dX5_move_56 : decode cX5_move 56 = .ok (.iload 5, 2) := by decide +kernel
theorem dX5_move_58 : decode cX5_move 58 = .ok (.aload_n 0, 1) := by decide +kernel
theorem dX5_move_59 : decode cX5_move 59 = .ok (.getfield 9, 3) := by decide +kernel
theorem dX5_move_62 : decode cX5_move 62 = .ok (.arraylength, 1) := by decide +kernel
theorem dX5_move_63 : decode cX5_move 63 = .ok (.if_icmp .ge 82, 3) := by decide +kernel
theorem dX5_move_66 : decode cX5_move 66 = .ok (.lload_n 3, 1) := by decide +kernel
theorem dX5_move_67 : decode cX5_move 67 = .ok (.iconst 1, 1) := by decide +kernel
theorem dX5_move_68 : decode cX5_move 68 = .ok (.aload_n 1, 1) := by decide +kernel
theorem dX5_move_69 : decode cX5_move 69 = .ok (.iload 5, 2) := by decide +kernel
theorem dX5_move_71 : decode cX5_move 71 = .ok (.invokevirtual 75, 3) := by decide +kernel
theorem dX5_move_74 : decode cX5_move 74 = .ok (.invokestatic 45, 3) := by decide +kernel
theorem dX5_move_77 : decode cX5_move 77 = .ok (.i2l, 1) := by decide +kernel
theorem dX5_move_78 : decode cX5_move 78 = .ok (.ldiv, 1) := by decide +kernel
theorem dX5_move_79 : decode cX5_move 79 = .ok (.lstore 6, 2) := by decide +kernel
theorem dX5_move_81 : decode cX5_move 81 = .ok (.iconst 0, 1) := by decide +kernel
theorem dX5_move_82 : decode cX5_move 82 = .ok (.istore 8, 2) := by decide +kernel
theorem dX5_move_84 : decode cX5_move 84 = .ok (.iload 8, 2) := by decide +kernel
theorem dX5_move_86 : decode cX5_move 86 = .ok (.aload_n 0, 1) := by decide +kernel
theorem dX5_move_87 : decode cX5_move 87 = .ok (.getfield 9, 3) := by decide +kernel
theorem dX5_move_90 : decode cX5_move 90 = .ok (.arraylength, 1) := by decide +kernel
theorem dX5_move_91 : decode cX5_move 91 = .ok (.if_icmp .ge 48, 3) := by decide +kernel
theorem dX5_move_94 : decode cX5_move 94 = .ok (.aload_n 0, 1) := by decide +kernel
theorem dX5_move_95 : decode cX5_move 95 = .ok (.getfield 9, 3) := by decide +kernel
theorem dX5_move_98 : decode cX5_move 98 = .ok (.iload 5, 2) := by decide +kernel
theorem dX5_move_100 : decode cX5_move 100 = .ok (.aaload, 1) := by decide +kernel
theorem dX5_move_101 : decode cX5_move 101 = .ok (.invokevirtual 64, 3) := by decide +kernel
theorem dX5_move_104 : decode cX5_move 104 = .ok (.ifCond .ne 35, 3) := by decide +kernel
theorem dX5_move_107 : decode cX5_move 107 = .ok (.aload_n 2, 1) := by decide +kernel
theorem dX5_move_108 : decode cX5_move 108 = .ok (.iload 8, 2) := by decide +kernel
theorem dX5_move_110 : decode cX5_move 110 = .ok (.aaload, 1) := by decide +kernel
theorem dX5_move_111 : decode cX5_move 111 = .ok (.aload_n 0, 1) := by decide +kernel
theorem dX5_move_112 : decode cX5_move 112 = .ok (.getfield 9, 3) := by decide +kernel
theorem dX5_move_115 : decode cX5_move 115 = .ok (.iload 5, 2) := by decide +kernel
theorem dX5_move_117 : decode cX5_move 117 = .ok (.aaload, 1) := by decide +kernel
theorem dX5_move_118 : decode cX5_move 118 = .ok (.lload 6, 2) := by decide +kernel
theorem dX5_move_120 : decode cX5_move 120 = .ok (.aload_n 1, 1) := by decide +kernel
theorem dX5_move_121 : decode cX5_move 121 = .ok (.iload 5, 2) := by decide +kernel
theorem dX5_move_123 : decode cX5_move 123 = .ok (.iload 8, 2) := by decide +kernel
theorem dX5_move_125 : decode cX5_move 125 = .ok (.invokevirtual 81, 3) := by decide +kernel
theorem dX5_move_128 : decode cX5_move 128 = .ok (.i2l, 1) := by decide +kernel
theorem dX5_move_129 : decode cX5_move 129 = .ok (.lmul, 1) := by decide +kernel
theorem dX5_move_130 : decode cX5_move 130 = .ok (.invokevirtual 84, 3) := by decide +kernel
theorem dX5_move_133 : decode cX5_move 133 = .ok (.iinc 8 1, 3) := by decide +kernel
theorem dX5_move_136 : decode cX5_move 136 = .ok (.goto (-52), 3) := by decide +kernel
theorem dX5_move_139 : decode cX5_move 139 = .ok (.iinc 5 1, 3) := by decide +kernel
theorem dX5_move_142 : decode cX5_move 142 = .ok (.goto (-86), 3) := by decide +kernel
theorem dX5_move_145 : decode cX5_move 145 = .ok (.iconst 0, 1) := by decide +kernel
theorem dX5_move_146 : decode cX5_move 146 = .ok (.istore 5, 2) := by decide +kernel
theorem dX5_move_148 : decode cX5_move 148 = .ok (.iload 5, 2) := by decide +kernel
theorem dX5_move_150 : decode cX5_move 150 = .ok (.aload_n 0, 1) := by decide +kernel
theorem dX5_move_151 : decode cX5_move 151 = .ok (.getfield 9, 3) := by decide +kernel
theorem dX5_move_154 : decode cX5_move 154 = .ok (.arraylength, 1) := by decide +kernel
theorem dX5_move_155 : decode cX5_move 155 = .ok (.if_icmp .ge 23, 3) := by decide +kernel
theorem dX5_move_158 : decode cX5_move 158 = .ok (.aload_n 0, 1) := by decide +kernel
theorem dX5_move_159 : decode cX5_move 159 = .ok (.getfield 9, 3) := by decide +kernel
theorem dX5_move_162 : decode cX5_move 162 = .ok (.iload 5, 2) := by decide +kernel
theorem dX5_move_164 : decode cX5_move 164 = .ok (.aaload, 1) := by decide +kernel
theorem dX5_move_165 : decode cX5_move 165 = .ok (.aload_n 2, 1) := by decide +kernel
theorem dX5_move_166 : decode cX5_move 166 = .ok (.iload 5, 2) := by decide +kernel
theorem dX5_move_168 : decode cX5_move 168 = .ok (.aaload, 1) := by decide +kernel
theorem dX5_move_169 : decode cX5_move 169 = .ok (.invokevirtual 31, 3) := by decide +kernel
theorem dX5_move_172 : decode cX5_move 172 = .ok (.iinc 5 1, 3) := by decide +kernel
theorem dX5_move_175 : decode cX5_move 175 = .ok (.goto (-27), 3) := by decide +kernel
theorem dX5_move_178 : decode cX5_move 178 = .ok (.aload_n 0, 1) := by decide +kernel
theorem dX5_move_179 : decode cX5_move 179 = .ok (.lload_n 3, 1) := by decide +kernel
theorem dX5_move_180 : decode cX5_move 180 = .ok (.invokevirtual 55, 3) := by decide +kernel
theorem dX5_move_183 : decode cX5_move 183 = .ok (.return_, 1) := by decide +kernel
theorem dX5_shorten_0 : decode cX5_shorten 0 = .ok (.aload_n 0, 1) := by decide +kernel
theorem dX5_shorten_1 : decode cX5_shorten 1 = .ok (.getfield 18, 3) := by decide +kernel
theorem dX5_shorten_4 : decode cX5_shorten 4 = .ok (.lconst 1, 1) := by decide +kernel
theorem dX5_shorten_5 : decode cX5_shorten 5 = .ok (.invokevirtual 51, 3) := by decide +kernel
theorem dX5_shorten_8 : decode cX5_shorten 8 = .ok (.iconst 0, 1) := by decide +kernel
theorem dX5_shorten_9 : decode cX5_shorten 9 = .ok (.istore_n 1, 1) := by decide +kernel
theorem dX5_shorten_10 : decode cX5_shorten 10 = .ok (.iload_n 1, 1) := by decide +kernel
theorem dX5_shorten_11 : decode cX5_shorten 11 = .ok (.aload_n 0, 1) := by decide +kernel
theorem dX5_shorten_12 : decode cX5_shorten 12 = .ok (.getfield 28, 3) := by decide +kernel
theorem dX5_shorten_15 : decode cX5_shorten 15 = .ok (.arraylength, 1) := by decide +kernel
theorem dX5_shorten_16 : decode cX5_shorten 16 = .ok (.if_icmp .ge 87, 3) := by decide +kernel
theorem dX5_shorten_19 : decode cX5_shorten 19 = .ok (.aload_n 0, 1) := by decide +kernel
theorem dX5_shorten_20 : decode cX5_shorten 20 = .ok (.getfield 28, 3) := by decide +kernel
theorem dX5_shorten_23 : decode cX5_shorten 23 = .ok (.iload_n 1, 1) := by decide +kernel
theorem dX5_shorten_24 : decode cX5_shorten 24 = .ok (.iaload, 1) := by decide +kernel
theorem dX5_shorten_25 : decode cX5_shorten 25 = .ok (.istore_n 2, 1) := by decide +kernel
theorem dX5_shorten_26 : decode cX5_shorten 26 = .ok (.iload_n 2, 1) := by decide +kernel
theorem dX5_shorten_27 : decode cX5_shorten 27 = .ok (.ifCond .le 40, 3) := by decide +kernel
theorem dX5_shorten_30 : decode cX5_shorten 30 = .ok (.aload_n 0, 1) := by decide +kernel
theorem dX5_shorten_31 : decode cX5_shorten 31 = .ok (.getstatic 22, 3) := by decide +kernel
theorem dX5_shorten_34 : decode cX5_shorten 34 = .ok (.iload_n 1, 1) := by decide +kernel
theorem dX5_shorten_35 : decode cX5_shorten 35 = .ok (.iaload, 1) := by decide +kernel
theorem dX5_shorten_36 : decode cX5_shorten 36 = .ok (.invokevirtual 88, 3) := by decide +kernel
theorem dX5_shorten_39 : decode cX5_shorten 39 = .ok (.ifCond .eq 28, 3) := by decide +kernel
theorem dX5_shorten_42 : decode cX5_shorten 42 = .ok (.aload_n 0, 1) := by decide +kernel
theorem dX5_shorten_43 : decode cX5_shorten 43 = .ok (.getstatic 22, 3) := by decide +kernel
theorem dX5_shorten_46 : decode cX5_shorten 46 = .ok (.iload_n 1, 1) := by decide +kernel
theorem dX5_shorten_47 : decode cX5_shorten 47 = .ok (.iaload, 1) := by decide +kernel
theorem dX5_shorten_48 : decode cX5_shorten 48 = .ok (.invokevirtual 92, 3) := by decide +kernel
theorem dX5_shorten_51 : decode cX5_shorten 51 = .ok (.aload_n 0, 1) := by decide +kernel
theorem dX5_shorten_52 : decode cX5_shorten 52 = .ok (.getfield 28, 3) := by decide +kernel
theorem dX5_shorten_55 : decode cX5_shorten 55 = .ok (.iload_n 1, 1) := by decide +kernel
theorem dX5_shorten_56 : decode cX5_shorten 56 = .ok (.dup2, 1) := by decide +kernel
theorem dX5_shorten_57 : decode cX5_shorten 57 = .ok (.iaload, 1) := by decide +kernel
theorem dX5_shorten_58 : decode cX5_shorten 58 = .ok (.iconst 1, 1) := by decide +kernel
theorem dX5_shorten_59 : decode cX5_shorten 59 = .ok (.isub, 1) := by decide +kernel
theorem dX5_shorten_60 : decode cX5_shorten 60 = .ok (.iastore, 1) := by decide +kernel
theorem dX5_shorten_61 : decode cX5_shorten 61 = .ok (.iinc 2 (-1), 3) := by decide +kernel
theorem dX5_shorten_64 : decode cX5_shorten 64 = .ok (.goto (-38), 3) := by decide +kernel
theorem dX5_shorten_67 : decode cX5_shorten 67 = .ok (.iconst 0, 1) := by decide +kernel
theorem dX5_shorten_68 : decode cX5_shorten 68 = .ok (.istore_n 2, 1) := by decide +kernel
theorem dX5_shorten_69 : decode cX5_shorten 69 = .ok (.iload_n 2, 1) := by decide +kernel
theorem dX5_shorten_70 : decode cX5_shorten 70 = .ok (.aload_n 0, 1) := by decide +kernel
theorem dX5_shorten_71 : decode cX5_shorten 71 = .ok (.getfield 28, 3) := by decide +kernel
theorem dX5_shorten_74 : decode cX5_shorten 74 = .ok (.iload_n 1, 1) := by decide +kernel
theorem dX5_shorten_75 : decode cX5_shorten 75 = .ok (.iaload, 1) := by decide +kernel
theorem dX5_shorten_76 : decode cX5_shorten 76 = .ok (.if_icmp .ge 21, 3) := by decide +kernel
theorem dX5_shorten_79 : decode cX5_shorten 79 = .ok (.aload_n 0, 1) := by decide +kernel
theorem dX5_shorten_80 : decode cX5_shorten 80 = .ok (.getfield 18, 3) := by decide +kernel
theorem dX5_shorten_83 : decode cX5_shorten 83 = .ok (.getstatic 22, 3) := by decide +kernel
theorem dX5_shorten_86 : decode cX5_shorten 86 = .ok (.iload_n 1, 1) := by decide +kernel
theorem dX5_shorten_87 : decode cX5_shorten 87 = .ok (.iaload, 1) := by decide +kernel
theorem dX5_shorten_88 : decode cX5_shorten 88 = .ok (.invokevirtual 68, 3) := by decide +kernel
theorem dX5_shorten_91 : decode cX5_shorten 91 = .ok (.iinc 2 1, 3) := by decide +kernel
theorem dX5_shorten_94 : decode cX5_shorten 94 = .ok (.goto (-25), 3) := by decide +kernel
theorem dX5_shorten_97 : decode cX5_shorten 97 = .ok (.iinc 1 1, 3) := by decide +kernel
theorem dX5_shorten_100 : decode cX5_shorten 100 = .ok (.goto (-90), 3) := by decide +kernel
theorem dX5_shorten_103 : decode cX5_shorten 103 = .ok (.return_, 1) := by decide +kernel
theorem dX5_allDivide_0 : decode cX5_allDivide 0 = .ok (.iconst 0, 1) := by decide +kernel
theorem dX5_allDivide_1 : decode cX5_allDivide 1 = .ok (.istore_n 2, 1) := by decide +kernel
theorem dX5_allDivide_2 : decode cX5_allDivide 2 = .ok (.iload_n 2, 1) := by decide +kernel
theorem dX5_allDivide_3 : decode cX5_allDivide 3 = .ok (.aload_n 0, 1) := by decide +kernel
theorem dX5_allDivide_4 : decode cX5_allDivide 4 = .ok (.getfield 9, 3) := by decide +kernel
theorem dX5_allDivide_7 : decode cX5_allDivide 7 = .ok (.arraylength, 1) := by decide +kernel
theorem dX5_allDivide_8 : decode cX5_allDivide 8 = .ok (.if_icmp .ge 24, 3) := by decide +kernel
theorem dX5_allDivide_11 : decode cX5_allDivide 11 = .ok (.aload_n 0, 1) := by decide +kernel
theorem dX5_allDivide_12 : decode cX5_allDivide 12 = .ok (.getfield 9, 3) := by decide +kernel
theorem dX5_allDivide_15 : decode cX5_allDivide 15 = .ok (.iload_n 2, 1) := by decide +kernel
theorem dX5_allDivide_16 : decode cX5_allDivide 16 = .ok (.aaload, 1) := by decide +kernel
theorem dX5_allDivide_17 : decode cX5_allDivide 17 = .ok (.iload_n 1, 1) := by decide +kernel
theorem dX5_allDivide_18 : decode cX5_allDivide 18 = .ok (.invokevirtual 95, 3) := by decide +kernel
theorem dX5_allDivide_21 : decode cX5_allDivide 21 = .ok (.ifCond .eq 5, 3) := by decide +kernel
theorem dX5_allDivide_24 : decode cX5_allDivide 24 = .ok (.iconst 0, 1) := by decide +kernel
theorem dX5_allDivide_25 : decode cX5_allDivide 25 = .ok (.ireturn, 1) := by decide +kernel
theorem dX5_allDivide_26 : decode cX5_allDivide 26 = .ok (.iinc 2 1, 3) := by decide +kernel
theorem dX5_allDivide_29 : decode cX5_allDivide 29 = .ok (.goto (-27), 3) := by decide +kernel
theorem dX5_allDivide_32 : decode cX5_allDivide 32 = .ok (.iconst 1, 1) := by decide +kernel
theorem dX5_allDivide_33 : decode cX5_allDivide 33 = .ok (.ireturn, 1) := by decide +kernel
theorem dX5_divideAll_0 : decode cX5_divideAll 0 = .ok (.iconst 0, 1) := by decide +kernel
theorem dX5_divideAll_1 : decode cX5_divideAll 1 = .ok (.istore_n 2, 1) := by decide +kernel
theorem dX5_divideAll_2 : decode cX5_divideAll 2 = .ok (.iload_n 2, 1) := by decide +kernel
theorem dX5_divideAll_3 : decode cX5_divideAll 3 = .ok (.aload_n 0, 1) := by decide +kernel
theorem dX5_divideAll_4 : decode cX5_divideAll 4 = .ok (.getfield 9, 3) := by decide +kernel
theorem dX5_divideAll_7 : decode cX5_divideAll 7 = .ok (.arraylength, 1) := by decide +kernel
theorem dX5_divideAll_8 : decode cX5_divideAll 8 = .ok (.if_icmp .ge 19, 3) := by decide +kernel
theorem dX5_divideAll_11 : decode cX5_divideAll 11 = .ok (.aload_n 0, 1) := by decide +kernel
theorem dX5_divideAll_12 : decode cX5_divideAll 12 = .ok (.getfield 9, 3) := by decide +kernel
theorem dX5_divideAll_15 : decode cX5_divideAll 15 = .ok (.iload_n 2, 1) := by decide +kernel
theorem dX5_divideAll_16 : decode cX5_divideAll 16 = .ok (.aaload, 1) := by decide +kernel
theorem dX5_divideAll_17 : decode cX5_divideAll 17 = .ok (.iload_n 1, 1) := by decide +kernel
theorem dX5_divideAll_18 : decode cX5_divideAll 18 = .ok (.invokevirtual 98, 3) := by decide +kernel
theorem dX5_divideAll_21 : decode cX5_divideAll 21 = .ok (.iinc 2 1, 3) := by decide +kernel
theorem dX5_divideAll_24 : decode cX5_divideAll 24 = .ok (.goto (-22), 3) := by decide +kernel
theorem dX5_divideAll_27 : decode cX5_divideAll 27 = .ok (.return_, 1) := by decide +kernel
theorem dX2_init_0 : decode cX2_init 0 = .ok (.aload_n 0, 1) := by decide +kernel
theorem dX2_init_1 : decode cX2_init 1 = .ok (.invokespecial 1, 3) := by decide +kernel
theorem dX2_init_4 : decode cX2_init 4 = .ok (.aload_n 0, 1) := by decide +kernel
theorem dX2_init_5 : decode cX2_init 5 = .ok (.new 7, 3) := by decide +kernel
theorem dX2_init_8 : decode cX2_init 8 = .ok (.dup, 1) := by decide +kernel
theorem dX2_init_9 : decode cX2_init 9 = .ok (.iload_n 1, 1) := by decide +kernel
theorem dX2_init_10 : decode cX2_init 10 = .ok (.invokespecial 9, 3) := by decide +kernel
theorem dX2_init_13 : decode cX2_init 13 = .ok (.putfield 12, 3) := by decide +kernel
theorem dX2_init_16 : decode cX2_init 16 = .ok (.aload_n 0, 1) := by decide +kernel
theorem dX2_init_17 : decode cX2_init 17 = .ok (.new 7, 3) := by decide +kernel
theorem dX2_init_20 : decode cX2_init 20 = .ok (.dup, 1) := by decide +kernel
theorem dX2_init_21 : decode cX2_init 21 = .ok (.iload_n 1, 1) := by decide +kernel
theorem dX2_init_22 : decode cX2_init 22 = .ok (.invokespecial 9, 3) := by decide +kernel
theorem dX2_init_25 : decode cX2_init 25 = .ok (.putfield 18, 3) := by decide +kernel
theorem dX2_init_28 : decode cX2_init 28 = .ok (.return_, 1) := by decide +kernel
theorem dX2_upper_0 : decode cX2_upper 0 = .ok (.aload_n 0, 1) := by decide +kernel
theorem dX2_upper_1 : decode cX2_upper 1 = .ok (.getfield 12, 3) := by decide +kernel
theorem dX2_upper_4 : decode cX2_upper 4 = .ok (.areturn, 1) := by decide +kernel
theorem dX2_copy_0 : decode cX2_copy 0 = .ok (.aload_n 0, 1) := by decide +kernel
theorem dX2_copy_1 : decode cX2_copy 1 = .ok (.getfield 12, 3) := by decide +kernel
theorem dX2_copy_4 : decode cX2_copy 4 = .ok (.aload_n 1, 1) := by decide +kernel
theorem dX2_copy_5 : decode cX2_copy 5 = .ok (.getfield 12, 3) := by decide +kernel
theorem dX2_copy_8 : decode cX2_copy 8 = .ok (.invokevirtual 21, 3) := by decide +kernel
theorem dX2_copy_11 : decode cX2_copy 11 = .ok (.aload_n 0, 1) := by decide +kernel
theorem dX2_copy_12 : decode cX2_copy 12 = .ok (.getfield 18, 3) := by decide +kernel
theorem dX2_copy_15 : decode cX2_copy 15 = .ok (.aload_n 1, 1) := by decide +kernel
theorem dX2_copy_16 : decode cX2_copy 16 = .ok (.getfield 18, 3) := by decide +kernel
theorem dX2_copy_19 : decode cX2_copy 19 = .ok (.invokevirtual 21, 3) := by decide +kernel
theorem dX2_copy_22 : decode cX2_copy 22 = .ok (.return_, 1) := by decide +kernel
theorem dX2_setLowest_0 : decode cX2_setLowest 0 = .ok (.aload_n 0, 1) := by decide +kernel
theorem dX2_setLowest_1 : decode cX2_setLowest 1 = .ok (.getfield 12, 3) := by decide +kernel
theorem dX2_setLowest_4 : decode cX2_setLowest 4 = .ok (.aload_n 1, 1) := by decide +kernel
theorem dX2_setLowest_5 : decode cX2_setLowest 5 = .ok (.invokevirtual 21, 3) := by decide +kernel
theorem dX2_setLowest_8 : decode cX2_setLowest 8 = .ok (.aload_n 0, 1) := by decide +kernel
theorem dX2_setLowest_9 : decode cX2_setLowest 9 = .ok (.getfield 12, 3) := by decide +kernel
theorem dX2_setLowest_12 : decode cX2_setLowest 12 = .ok (.invokevirtual 25, 3) := by decide +kernel
theorem dX2_setLowest_15 : decode cX2_setLowest 15 = .ok (.ifCond .eq 12, 3) := by decide +kernel
theorem dX2_setLowest_18 : decode cX2_setLowest 18 = .ok (.aload_n 0, 1) := by decide +kernel
theorem dX2_setLowest_19 : decode cX2_setLowest 19 = .ok (.getfield 18, 3) := by decide +kernel
theorem dX2_setLowest_22 : decode cX2_setLowest 22 = .ok (.lconst 1, 1) := by decide +kernel
theorem dX2_setLowest_23 : decode cX2_setLowest 23 = .ok (.invokevirtual 29, 3) := by decide +kernel
theorem dX2_setLowest_26 : decode cX2_setLowest 26 = .ok (.return_, 1) := by decide +kernel
theorem dX2_setLowest_27 : decode cX2_setLowest 27 = .ok (.aload_n 0, 1) := by decide +kernel
theorem dX2_setLowest_28 : decode cX2_setLowest 28 = .ok (.getfield 18, 3) := by decide +kernel
theorem dX2_setLowest_31 : decode cX2_setLowest 31 = .ok (.aload_n 2, 1) := by decide +kernel
theorem dX2_setLowest_32 : decode cX2_setLowest 32 = .ok (.invokevirtual 33, 3) := by decide +kernel
theorem dX2_setLowest_35 : decode cX2_setLowest 35 = .ok (.invokevirtual 21, 3) := by decide +kernel
theorem dX2_setLowest_38 : decode cX2_setLowest 38 = .ok (.iconst 0, 1) := by decide +kernel
theorem dX2_setLowest_39 : decode cX2_setLowest 39 = .ok (.istore_n 3, 1) := by decide +kernel
theorem dX2_setLowest_40 : decode cX2_setLowest 40 = .ok (.iload_n 3, 1) := by decide +kernel
theorem dX2_setLowest_41 : decode cX2_setLowest 41 = .ok (.getstatic 39, 3) := by decide +kernel
theorem dX2_setLowest_44 : decode cX2_setLowest 44 = .ok (.arraylength, 1) := by decide +kernel
theorem dX2_setLowest_45 : decode cX2_setLowest 45 = .ok (.if_icmp .ge 66, 3) := by decide +kernel
theorem dX2_setLowest_48 : decode cX2_setLowest 48 = .ok (.aload_n 2, 1) := by decide +kernel
theorem dX2_setLowest_49 : decode cX2_setLowest 49 = .ok (.iload_n 3, 1) := by decide +kernel
theorem dX2_setLowest_50 : decode cX2_setLowest 50 = .ok (.invokevirtual 45, 3) := by decide +kernel
theorem dX2_setLowest_53 : decode cX2_setLowest 53 = .ok (.istore 4, 2) := by decide +kernel
theorem dX2_setLowest_55 : decode cX2_setLowest 55 = .ok (.iload 4, 2) := by decide +kernel
theorem dX2_setLowest_57 : decode cX2_setLowest 57 = .ok (.ifCond .le 48, 3) := by decide +kernel
theorem dX2_setLowest_60 : decode cX2_setLowest 60 = .ok (.aload_n 0, 1) := by decide +kernel
theorem dX2_setLowest_61 : decode cX2_setLowest 61 = .ok (.getfield 12, 3) := by decide +kernel
theorem dX2_setLowest_64 : decode cX2_setLowest 64 = .ok (.getstatic 39, 3) := by decide +kernel
theorem dX2_setLowest_67 : decode cX2_setLowest 67 = .ok (.iload_n 3, 1) := by decide +kernel
theorem dX2_setLowest_68 : decode cX2_setLowest 68 = .ok (.iaload, 1) := by decide +kernel
theorem dX2_setLowest_69 : decode cX2_setLowest 69 = .ok (.invokevirtual 49, 3) := by decide +kernel
theorem dX2_setLowest_72 : decode cX2_setLowest 72 = .ok (.ifCond .ne 33, 3) := by decide +kernel
theorem dX2_setLowest_75 : decode cX2_setLowest 75 = .ok (.aload_n 0, 1) := by decide +kernel
theorem dX2_setLowest_76 : decode cX2_setLowest 76 = .ok (.getfield 12, 3) := by decide +kernel
theorem dX2_setLowest_79 : decode cX2_setLowest 79 = .ok (.getstatic 39, 3) := by decide +kernel
theorem dX2_setLowest_82 : decode cX2_setLowest 82 = .ok (.iload_n 3, 1) := by decide +kernel
theorem dX2_setLowest_83 : decode cX2_setLowest 83 = .ok (.iaload, 1) := by decide +kernel
theorem dX2_setLowest_84 : decode cX2_setLowest 84 = .ok (.invokevirtual 52, 3) := by decide +kernel
theorem dX2_setLowest_87 : decode cX2_setLowest 87 = .ok (.aload_n 0, 1) := by decide +kernel
theorem dX2_setLowest_88 : decode cX2_setLowest 88 = .ok (.getfield 18, 3) := by decide +kernel
theorem dX2_setLowest_91 : decode cX2_setLowest 91 = .ok (.getstatic 39, 3) := by decide +kernel
theorem dX2_setLowest_94 : decode cX2_setLowest 94 = .ok (.iload_n 3, 1) := by decide +kernel
theorem dX2_setLowest_95 : decode cX2_setLowest 95 = .ok (.iaload, 1) := by decide +kernel
theorem dX2_setLowest_96 : decode cX2_setLowest 96 = .ok (.invokevirtual 52, 3) := by decide +kernel
theorem dX2_setLowest_99 : decode cX2_setLowest 99 = .ok (.iinc 4 (-1), 3) := by decide +kernel
theorem dX2_setLowest_102 : decode cX2_setLowest 102 = .ok (.goto (-47), 3) := by decide +kernel
theorem dX2_setLowest_105 : decode cX2_setLowest 105 = .ok (.iinc 3 1, 3) := by decide +kernel
theorem dX2_setLowest_108 : decode cX2_setLowest 108 = .ok (.goto (-68), 3) := by decide +kernel
theorem dX2_setLowest_111 : decode cX2_setLowest 111 = .ok (.return_, 1) := by decide +kernel
theorem dX2_setTail_0 : decode cX2_setTail 0 = .ok (.aload_n 0, 1) := by decide +kernel
theorem dX2_setTail_1 : decode cX2_setTail 1 = .ok (.getfield 12, 3) := by decide +kernel
theorem dX2_setTail_4 : decode cX2_setTail 4 = .ok (.lconst 0, 1) := by decide +kernel
theorem dX2_setTail_5 : decode cX2_setTail 5 = .ok (.invokevirtual 29, 3) := by decide +kernel
theorem dX2_setTail_8 : decode cX2_setTail 8 = .ok (.iload_n 2, 1) := by decide +kernel
theorem dX2_setTail_9 : decode cX2_setTail 9 = .ok (.istore_n 3, 1) := by decide +kernel
theorem dX2_setTail_10 : decode cX2_setTail 10 = .ok (.iload_n 3, 1) := by decide +kernel
theorem dX2_setTail_11 : decode cX2_setTail 11 = .ok (.aload_n 1, 1) := by decide +kernel
theorem dX2_setTail_12 : decode cX2_setTail 12 = .ok (.invokevirtual 55, 3) := by decide +kernel
theorem dX2_setTail_15 : decode cX2_setTail 15 = .ok (.if_icmp .ge 23, 3) := by decide +kernel
theorem dX2_setTail_18 : decode cX2_setTail 18 = .ok (.aload_n 0, 1) := by decide +kernel
theorem dX2_setTail_19 : decode cX2_setTail 19 = .ok (.getfield 12, 3) := by decide +kernel
theorem dX2_setTail_22 : decode cX2_setTail 22 = .ok (.aload_n 1, 1) := by decide +kernel
theorem dX2_setTail_23 : decode cX2_setTail 23 = .ok (.iload_n 3, 1) := by decide +kernel
theorem dX2_setTail_24 : decode cX2_setTail 24 = .ok (.invokevirtual 59, 3) := by decide +kernel
theorem dX2_setTail_27 : decode cX2_setTail 27 = .ok (.iconst 1, 1) := by decide +kernel
theorem dX2_setTail_28 : decode cX2_setTail 28 = .ok (.iconst 0, 1) := by decide +kernel
theorem dX2_setTail_29 : decode cX2_setTail 29 = .ok (.invokevirtual 63, 3) := by decide +kernel
theorem dX2_setTail_32 : decode cX2_setTail 32 = .ok (.iinc 3 1, 3) := by decide +kernel
theorem dX2_setTail_35 : decode cX2_setTail 35 = .ok (.goto (-25), 3) := by decide +kernel
theorem dX2_setTail_38 : decode cX2_setTail 38 = .ok (.aload_n 0, 1) := by decide +kernel
theorem dX2_setTail_39 : decode cX2_setTail 39 = .ok (.getfield 18, 3) := by decide +kernel
theorem dX2_setTail_42 : decode cX2_setTail 42 = .ok (.aload_n 1, 1) := by decide +kernel
theorem dX2_setTail_43 : decode cX2_setTail 43 = .ok (.invokevirtual 33, 3) := by decide +kernel
theorem dX2_setTail_46 : decode cX2_setTail 46 = .ok (.invokevirtual 21, 3) := by decide +kernel
theorem dX2_setTail_49 : decode cX2_setTail 49 = .ok (.return_, 1) := by decide +kernel
theorem dX2_setDifference_0 : decode cX2_setDifference 0 = .ok (.aload_n 0, 1) := by decide +kernel
theorem dX2_setDifference_1 : decode cX2_setDifference 1 = .ok (.getfield 12, 3) := by decide +kernel
theorem dX2_setDifference_4 : decode cX2_setDifference 4 = .ok (.lconst 0, 1) := by decide +kernel
theorem dX2_setDifference_5 : decode cX2_setDifference 5 = .ok (.invokevirtual 29, 3) := by decide +kernel
theorem dX2_setDifference_8 : decode cX2_setDifference 8 = .ok (.aload_n 0, 1) := by decide +kernel
theorem dX2_setDifference_9 : decode cX2_setDifference 9 = .ok (.getfield 18, 3) := by decide +kernel
theorem dX2_setDifference_12 : decode cX2_setDifference 12 = .ok (.lconst 0, 1) := by decide +kernel
theorem dX2_setDifference_13 : decode cX2_setDifference 13 = .ok (.invokevirtual 29, 3) := by decide +kernel
theorem dX2_setDifference_16 : decode cX2_setDifference 16 = .ok (.iconst 0, 1) := by decide +kernel
theorem dX2_setDifference_17 : decode cX2_setDifference 17 = .ok (.istore_n 3, 1) := by decide +kernel
theorem dX2_setDifference_18 : decode cX2_setDifference 18 = .ok (.iload_n 3, 1) := by decide +kernel
theorem dX2_setDifference_19 : decode cX2_setDifference 19 = .ok (.aload_n 1, 1) := by decide +kernel
theorem dX2_setDifference_20 : decode cX2_setDifference 20 = .ok (.invokevirtual 55, 3) := by decide +kernel
theorem dX2_setDifference_23 : decode cX2_setDifference 23 = .ok (.if_icmp .ge 45, 3) := by decide +kernel
theorem dX2_setDifference_26 : decode cX2_setDifference 26 = .ok (.aload_n 2, 1) := by decide +kernel
theorem dX2_setDifference_27 : decode cX2_setDifference 27 = .ok (.iload_n 3, 1) := by decide +kernel
theorem dX2_setDifference_28 : decode cX2_setDifference 28 = .ok (.iaload, 1) := by decide +kernel
theorem dX2_setDifference_29 : decode cX2_setDifference 29 = .ok (.ifCond .ge 10, 3) := by decide +kernel
theorem dX2_setDifference_32 : decode cX2_setDifference 32 = .ok (.aload_n 0, 1) := by decide +kernel
theorem dX2_setDifference_33 : decode cX2_setDifference 33 = .ok (.getfield 18, 3) := by decide +kernel
theorem dX2_setDifference_36 : decode cX2_setDifference 36 = .ok (.goto 7, 3) := by decide +kernel
theorem dX2_setDifference_39 : decode cX2_setDifference 39 = .ok (.aload_n 0, 1) := by decide +kernel
theorem dX2_setDifference_40 : decode cX2_setDifference 40 = .ok (.getfield 12, 3) := by decide +kernel
theorem dX2_setDifference_43 : decode cX2_setDifference 43 = .ok (.astore 4, 2) := by decide +kernel
theorem dX2_setDifference_45 : decode cX2_setDifference 45 = .ok (.aload 4, 2) := by decide +kernel
theorem dX2_setDifference_47 : decode cX2_setDifference 47 = .ok (.aload_n 1, 1) := by decide +kernel
theorem dX2_setDifference_48 : decode cX2_setDifference 48 = .ok (.iload_n 3, 1) := by decide +kernel
theorem dX2_setDifference_49 : decode cX2_setDifference 49 = .ok (.invokevirtual 59, 3) := by decide +kernel
theorem dX2_setDifference_52 : decode cX2_setDifference 52 = .ok (.aload_n 2, 1) := by decide +kernel
theorem dX2_setDifference_53 : decode cX2_setDifference 53 = .ok (.iload_n 3, 1) := by decide +kernel
theorem dX2_setDifference_54 : decode cX2_setDifference 54 = .ok (.iaload, 1) := by decide +kernel
theorem dX2_setDifference_55 : decode cX2_setDifference 55 = .ok (.invokestatic 67, 3) := by decide +kernel
theorem dX2_setDifference_58 : decode cX2_setDifference 58 = .ok (.iconst 0, 1) := by decide +kernel
theorem dX2_setDifference_59 : decode cX2_setDifference 59 = .ok (.invokevirtual 63, 3) := by decide +kernel
theorem dX2_setDifference_62 : decode cX2_setDifference 62 = .ok (.iinc 3 1, 3) := by decide +kernel
theorem dX2_setDifference_65 : decode cX2_setDifference 65 = .ok (.goto (-47), 3) := by decide +kernel
theorem dX2_setDifference_68 : decode cX2_setDifference 68 = .ok (.aload_n 0, 1) := by decide +kernel
theorem dX2_setDifference_69 : decode cX2_setDifference 69 = .ok (.invokevirtual 72, 3) := by decide +kernel
theorem dX2_setDifference_72 : decode cX2_setDifference 72 = .ok (.istore_n 3, 1) := by decide +kernel
theorem dX2_setDifference_73 : decode cX2_setDifference 73 = .ok (.iload_n 3, 1) := by decide +kernel
theorem dX2_setDifference_74 : decode cX2_setDifference 74 = .ok (.ifCond .ge 28, 3) := by decide +kernel
theorem dX2_setDifference_77 : decode cX2_setDifference 77 = .ok (.aload_n 0, 1) := by decide +kernel
theorem dX2_setDifference_78 : decode cX2_setDifference 78 = .ok (.getfield 18, 3) := by decide +kernel
theorem dX2_setDifference_81 : decode cX2_setDifference 81 = .ok (.aload_n 0, 1) := by decide +kernel
theorem dX2_setDifference_82 : decode cX2_setDifference 82 = .ok (.getfield 12, 3) := by decide +kernel
theorem dX2_setDifference_85 : decode cX2_setDifference 85 = .ok (.invokevirtual 75, 3) := by decide +kernel
theorem dX2_setDifference_88 : decode cX2_setDifference 88 = .ok (.aload_n 0, 1) := by decide +kernel
theorem dX2_setDifference_89 : decode cX2_setDifference 89 = .ok (.getfield 12, 3) := by decide +kernel
theorem dX2_setDifference_92 : decode cX2_setDifference 92 = .ok (.aload_n 0, 1) := by decide +kernel
theorem dX2_setDifference_93 : decode cX2_setDifference 93 = .ok (.getfield 18, 3) := by decide +kernel
theorem dX2_setDifference_96 : decode cX2_setDifference 96 = .ok (.invokevirtual 21, 3) := by decide +kernel
theorem dX2_setDifference_99 : decode cX2_setDifference 99 = .ok (.goto 14, 3) := by decide +kernel
theorem dX2_setDifference_102 : decode cX2_setDifference 102 = .ok (.aload_n 0, 1) := by decide +kernel
theorem dX2_setDifference_103 : decode cX2_setDifference 103 = .ok (.getfield 12, 3) := by decide +kernel
theorem dX2_setDifference_106 : decode cX2_setDifference 106 = .ok (.aload_n 0, 1) := by decide +kernel
theorem dX2_setDifference_107 : decode cX2_setDifference 107 = .ok (.getfield 18, 3) := by decide +kernel
theorem dX2_setDifference_110 : decode cX2_setDifference 110 = .ok (.invokevirtual 75, 3) := by decide +kernel
theorem dX2_setDifference_113 : decode cX2_setDifference 113 = .ok (.iload_n 3, 1) := by decide +kernel
theorem dX2_setDifference_114 : decode cX2_setDifference 114 = .ok (.ireturn, 1) := by decide +kernel
theorem dX2_multiplyParts_0 : decode cX2_multiplyParts 0 = .ok (.aload_n 0, 1) := by decide +kernel
theorem dX2_multiplyParts_1 : decode cX2_multiplyParts 1 = .ok (.getfield 12, 3) := by decide +kernel
theorem dX2_multiplyParts_4 : decode cX2_multiplyParts 4 = .ok (.iload_n 1, 1) := by decide +kernel
theorem dX2_multiplyParts_5 : decode cX2_multiplyParts 5 = .ok (.invokevirtual 78, 3) := by decide +kernel
theorem dX2_multiplyParts_8 : decode cX2_multiplyParts 8 = .ok (.aload_n 0, 1) := by decide +kernel
theorem dX2_multiplyParts_9 : decode cX2_multiplyParts 9 = .ok (.getfield 18, 3) := by decide +kernel
theorem dX2_multiplyParts_12 : decode cX2_multiplyParts 12 = .ok (.iload_n 2, 1) := by decide +kernel
theorem dX2_multiplyParts_13 : decode cX2_multiplyParts 13 = .ok (.invokevirtual 78, 3) := by decide +kernel
theorem dX2_multiplyParts_16 : decode cX2_multiplyParts 16 = .ok (.return_, 1) := by decide +kernel
theorem dX2_compareParts_0 : decode cX2_compareParts 0 = .ok (.aload_n 0, 1) := by decide +kernel
theorem dX2_compareParts_1 : decode cX2_compareParts 1 = .ok (.getfield 12, 3) := by decide +kernel
theorem dX2_compareParts_4 : decode cX2_compareParts 4 = .ok (.aload_n 0, 1) := by decide +kernel
theorem dX2_compareParts_5 : decode cX2_compareParts 5 = .ok (.getfield 18, 3) := by decide +kernel
theorem dX2_compareParts_8 : decode cX2_compareParts 8 = .ok (.invokevirtual 81, 3) := by decide +kernel
theorem dX2_compareParts_11 : decode cX2_compareParts 11 = .ok (.ireturn, 1) := by decide +kernel
theorem dX2_isBelow_0 : decode cX2_isBelow 0 = .ok (.aload_n 0, 1) := by decide +kernel
theorem dX2_isBelow_1 : decode cX2_isBelow 1 = .ok (.getfield 12, 3) := by decide +kernel
theorem dX2_isBelow_4 : decode cX2_isBelow 4 = .ok (.aload_n 1, 1) := by decide +kernel
theorem dX2_isBelow_5 : decode cX2_isBelow 5 = .ok (.invokevirtual 81, 3) := by decide +kernel
theorem dX2_isBelow_8 : decode cX2_isBelow 8 = .ok (.ifCond .ge 18, 3) := by decide +kernel
theorem dX2_isBelow_11 : decode cX2_isBelow 11 = .ok (.aload_n 0, 1) := by decide +kernel
theorem dX2_isBelow_12 : decode cX2_isBelow 12 = .ok (.getfield 18, 3) := by decide +kernel
theorem dX2_isBelow_15 : decode cX2_isBelow 15 = .ok (.aload_n 1, 1) := by decide +kernel
theorem dX2_isBelow_16 : decode cX2_isBelow 16 = .ok (.invokevirtual 81, 3) := by decide +kernel
theorem dX2_isBelow_19 : decode cX2_isBelow 19 = .ok (.ifCond .ge 7, 3) := by decide +kernel
theorem dX2_isBelow_22 : decode cX2_isBelow 22 = .ok (.iconst 1, 1) := by decide +kernel
theorem dX2_isBelow_23 : decode cX2_isBelow 23 = .ok (.goto 4, 3) := by decide +kernel
theorem dX2_isBelow_26 : decode cX2_isBelow 26 = .ok (.iconst 0, 1) := by decide +kernel
theorem dX2_isBelow_27 : decode cX2_isBelow 27 = .ok (.ireturn, 1) := by decide +kernel
theorem dX2_digits_0 : decode cX2_digits 0 = .ok (.iload_n 1, 1) := by decide +kernel
theorem dX2_digits_1 : decode cX2_digits 1 = .ok (.ifCond .ge 5, 3) := by decide +kernel
theorem dX2_digits_4 : decode cX2_digits 4 = .ok (.lconst 0, 1) := by decide +kernel
theorem dX2_digits_5 : decode cX2_digits 5 = .ok (.lreturn, 1) := by decide +kernel
theorem dX2_digits_6 : decode cX2_digits 6 = .ok (.iload_n 1, 1) := by decide +kernel
theorem dX2_digits_7 : decode cX2_digits 7 = .ok (.iconst 1, 1) := by decide +kernel
theorem dX2_digits_8 : decode cX2_digits 8 = .ok (.iand, 1) := by decide +kernel
theorem dX2_digits_9 : decode cX2_digits 9 = .ok (.ifCond .ne 16, 3) := by decide +kernel
theorem dX2_digits_12 : decode cX2_digits 12 = .ok (.aload_n 0, 1) := by decide +kernel
theorem dX2_digits_13 : decode cX2_digits 13 = .ok (.getfield 12, 3) := by decide +kernel
theorem dX2_digits_16 : decode cX2_digits 16 = .ok (.iload_n 1, 1) := by decide +kernel
theorem dX2_digits_17 : decode cX2_digits 17 = .ok (.iconst 1, 1) := by decide +kernel
theorem dX2_digits_18 : decode cX2_digits 18 = .ok (.ishr, 1) := by decide +kernel
theorem dX2_digits_19 : decode cX2_digits 19 = .ok (.invokevirtual 85, 3) := by decide +kernel
theorem dX2_digits_22 : decode cX2_digits 22 = .ok (.goto 13, 3) := by decide +kernel
theorem dX2_digits_25 : decode cX2_digits 25 = .ok (.aload_n 0, 1) := by decide +kernel
theorem dX2_digits_26 : decode cX2_digits 26 = .ok (.getfield 18, 3) := by decide +kernel
theorem dX2_digits_29 : decode cX2_digits 29 = .ok (.iload_n 1, 1) := by decide +kernel
theorem dX2_digits_30 : decode cX2_digits 30 = .ok (.iconst 1, 1) := by decide +kernel
theorem dX2_digits_31 : decode cX2_digits 31 = .ok (.ishr, 1) := by decide +kernel
theorem dX2_digits_32 : decode cX2_digits 32 = .ok (.invokevirtual 85, 3) := by decide +kernel
theorem dX2_digits_35 : decode cX2_digits 35 = .ok (.lreturn, 1) := by decide +kernel
theorem dX8_init_0 : decode cX8_init 0 = .ok (.aload_n 0, 1) := by decide +kernel
theorem dX8_init_1 : decode cX8_init 1 = .ok (.invokespecial 3, 3) := by decide +kernel
theorem dX8_init_4 : decode cX8_init 4 = .ok (.aload_n 0, 1) := by decide +kernel
theorem dX8_init_5 : decode cX8_init 5 = .ok (.bipush 12, 2) := by decide +kernel
theorem dX8_init_7 : decode cX8_init 7 = .ok (.newarray .int, 2) := by decide +kernel
theorem dX8_init_9 : decode cX8_init 9 = .ok (.putfield 9, 3) := by decide +kernel
theorem dX8_init_12 : decode cX8_init 12 = .ok (.aload_n 0, 1) := by decide +kernel
theorem dX8_init_13 : decode cX8_init 13 = .ok (.sipush 144, 3) := by decide +kernel
theorem dX8_init_16 : decode cX8_init 16 = .ok (.newarray .int, 2) := by decide +kernel
theorem dX8_init_18 : decode cX8_init 18 = .ok (.putfield 15, 3) := by decide +kernel
theorem dX8_init_21 : decode cX8_init 21 = .ok (.aload_n 0, 1) := by decide +kernel
theorem dX8_init_22 : decode cX8_init 22 = .ok (.sipush 144, 3) := by decide +kernel
theorem dX8_init_25 : decode cX8_init 25 = .ok (.newarray .int, 2) := by decide +kernel
theorem dX8_init_27 : decode cX8_init 27 = .ok (.putfield 18, 3) := by decide +kernel
theorem dX8_init_30 : decode cX8_init 30 = .ok (.aload_n 0, 1) := by decide +kernel
theorem dX8_init_31 : decode cX8_init 31 = .ok (.sipush 144, 3) := by decide +kernel
theorem dX8_init_34 : decode cX8_init 34 = .ok (.newarray .int, 2) := by decide +kernel
theorem dX8_init_36 : decode cX8_init 36 = .ok (.putfield 21, 3) := by decide +kernel
theorem dX8_init_39 : decode cX8_init 39 = .ok (.aload_n 0, 1) := by decide +kernel
theorem dX8_init_40 : decode cX8_init 40 = .ok (.sipush 144, 3) := by decide +kernel
theorem dX8_init_43 : decode cX8_init 43 = .ok (.newarray .int, 2) := by decide +kernel
theorem dX8_init_45 : decode cX8_init 45 = .ok (.putfield 24, 3) := by decide +kernel
theorem dX8_init_48 : decode cX8_init 48 = .ok (.return_, 1) := by decide +kernel
theorem dX8_add_0 : decode cX8_add 0 = .ok (.aload_n 0, 1) := by decide +kernel
theorem dX8_add_1 : decode cX8_add 1 = .ok (.getfield 9, 3) := by decide +kernel
theorem dX8_add_4 : decode cX8_add 4 = .ok (.iload_n 1, 1) := by decide +kernel
theorem dX8_add_5 : decode cX8_add 5 = .ok (.iaload, 1) := by decide +kernel
theorem dX8_add_6 : decode cX8_add 6 = .ok (.bipush 12, 2) := by decide +kernel
theorem dX8_add_8 : decode cX8_add 8 = .ok (.if_icmp .lt 5, 3) := by decide +kernel
theorem dX8_add_11 : decode cX8_add 11 = .ok (.iconst 0, 1) := by decide +kernel
theorem dX8_add_12 : decode cX8_add 12 = .ok (.ireturn, 1) := by decide +kernel
theorem dX8_add_13 : decode cX8_add 13 = .ok (.iload_n 1, 1) := by decide +kernel
theorem dX8_add_14 : decode cX8_add 14 = .ok (.bipush 12, 2) := by decide +kernel
theorem dX8_add_16 : decode cX8_add 16 = .ok (.imul, 1) := by decide +kernel
theorem dX8_add_17 : decode cX8_add 17 = .ok (.aload_n 0, 1) := by decide +kernel
theorem dX8_add_18 : decode cX8_add 18 = .ok (.getfield 9, 3) := by decide +kernel
theorem dX8_add_21 : decode cX8_add 21 = .ok (.iload_n 1, 1) := by decide +kernel
theorem dX8_add_22 : decode cX8_add 22 = .ok (.iaload, 1) := by decide +kernel
theorem dX8_add_23 : decode cX8_add 23 = .ok (.iadd, 1) := by decide +kernel
theorem dX8_add_24 : decode cX8_add 24 = .ok (.istore 6, 2) := by decide +kernel
theorem dX8_add_26 : decode cX8_add 26 = .ok (.aload_n 0, 1) := by decide +kernel
theorem dX8_add_27 : decode cX8_add 27 = .ok (.getfield 15, 3) := by decide +kernel
theorem dX8_add_30 : decode cX8_add 30 = .ok (.iload 6, 2) := by decide +kernel
theorem dX8_add_32 : decode cX8_add 32 = .ok (.iload_n 2, 1) := by decide +kernel
theorem dX8_add_33 : decode cX8_add 33 = .ok (.iastore, 1) := by decide +kernel
theorem dX8_add_34 : decode cX8_add 34 = .ok (.aload_n 0, 1) := by decide +kernel
theorem dX8_add_35 : decode cX8_add 35 = .ok (.getfield 18, 3) := by decide +kernel
theorem dX8_add_38 : decode cX8_add 38 = .ok (.iload 6, 2) := by decide +kernel
theorem dX8_add_40 : decode cX8_add 40 = .ok (.iload_n 3, 1) := by decide +kernel
theorem dX8_add_41 : decode cX8_add 41 = .ok (.iastore, 1) := by decide +kernel
theorem dX8_add_42 : decode cX8_add 42 = .ok (.aload_n 0, 1) := by decide +kernel
theorem dX8_add_43 : decode cX8_add 43 = .ok (.getfield 21, 3) := by decide +kernel
theorem dX8_add_46 : decode cX8_add 46 = .ok (.iload 6, 2) := by decide +kernel
theorem dX8_add_48 : decode cX8_add 48 = .ok (.iload 4, 2) := by decide +kernel
theorem dX8_add_50 : decode cX8_add 50 = .ok (.i2l, 1) := by decide +kernel
theorem dX8_add_51 : decode cX8_add 51 = .ok (.iload 5, 2) := by decide +kernel
theorem dX8_add_53 : decode cX8_add 53 = .ok (.i2l, 1) := by decide +kernel
theorem dX8_add_54 : decode cX8_add 54 = .ok (.iconst 0, 1) := by decide +kernel
theorem dX8_add_55 : decode cX8_add 55 = .ok (.invokestatic 27, 3) := by decide +kernel
theorem dX8_add_58 : decode cX8_add 58 = .ok (.l2i, 1) := by decide +kernel
theorem dX8_add_59 : decode cX8_add 59 = .ok (.iastore, 1) := by decide +kernel
theorem dX8_add_60 : decode cX8_add 60 = .ok (.aload_n 0, 1) := by decide +kernel
theorem dX8_add_61 : decode cX8_add 61 = .ok (.getfield 24, 3) := by decide +kernel
theorem dX8_add_64 : decode cX8_add 64 = .ok (.iload 6, 2) := by decide +kernel
theorem dX8_add_66 : decode cX8_add 66 = .ok (.iload 4, 2) := by decide +kernel
theorem dX8_add_68 : decode cX8_add 68 = .ok (.i2l, 1) := by decide +kernel
theorem dX8_add_69 : decode cX8_add 69 = .ok (.iload 5, 2) := by decide +kernel
theorem dX8_add_71 : decode cX8_add 71 = .ok (.i2l, 1) := by decide +kernel
theorem dX8_add_72 : decode cX8_add 72 = .ok (.iconst 1, 1) := by decide +kernel
theorem dX8_add_73 : decode cX8_add 73 = .ok (.invokestatic 27, 3) := by decide +kernel
theorem dX8_add_76 : decode cX8_add 76 = .ok (.l2i, 1) := by decide +kernel
theorem dX8_add_77 : decode cX8_add 77 = .ok (.iastore, 1) := by decide +kernel
theorem dX8_add_78 : decode cX8_add 78 = .ok (.aload_n 0, 1) := by decide +kernel
theorem dX8_add_79 : decode cX8_add 79 = .ok (.getfield 9, 3) := by decide +kernel
theorem dX8_add_82 : decode cX8_add 82 = .ok (.iload_n 1, 1) := by decide +kernel
theorem dX8_add_83 : decode cX8_add 83 = .ok (.dup2, 1) := by decide +kernel
theorem dX8_add_84 : decode cX8_add 84 = .ok (.iaload, 1) := by decide +kernel
theorem dX8_add_85 : decode cX8_add 85 = .ok (.iconst 1, 1) := by decide +kernel
theorem dX8_add_86 : decode cX8_add 86 = .ok (.iadd, 1) := by decide +kernel
theorem dX8_add_87 : decode cX8_add 87 = .ok (.iastore, 1) := by decide +kernel
theorem dX8_add_88 : decode cX8_add 88 = .ok (.iconst 1, 1) := by decide +kernel
theorem dX8_add_89 : decode cX8_add 89 = .ok (.ireturn, 1) := by decide +kernel
theorem dX8_applyTo_0 : decode cX8_applyTo 0 = .ok (.iconst 0, 1) := by decide +kernel
theorem dX8_applyTo_1 : decode cX8_applyTo 1 = .ok (.istore_n 3, 1) := by decide +kernel
theorem dX8_applyTo_2 : decode cX8_applyTo 2 = .ok (.iload_n 3, 1) := by decide +kernel
theorem dX8_applyTo_3 : decode cX8_applyTo 3 = .ok (.aload_n 0, 1) := by decide +kernel
theorem dX8_applyTo_4 : decode cX8_applyTo 4 = .ok (.getfield 9, 3) := by decide +kernel
theorem dX8_applyTo_7 : decode cX8_applyTo 7 = .ok (.iload_n 2, 1) := by decide +kernel
theorem dX8_applyTo_8 : decode cX8_applyTo 8 = .ok (.iaload, 1) := by decide +kernel
theorem dX8_applyTo_9 : decode cX8_applyTo 9 = .ok (.if_icmp .ge 49, 3) := by decide +kernel
theorem dX8_applyTo_12 : decode cX8_applyTo 12 = .ok (.iload_n 2, 1) := by decide +kernel
theorem dX8_applyTo_13 : decode cX8_applyTo 13 = .ok (.bipush 12, 2) := by decide +kernel
theorem dX8_applyTo_15 : decode cX8_applyTo 15 = .ok (.imul, 1) := by decide +kernel
theorem dX8_applyTo_16 : decode cX8_applyTo 16 = .ok (.iload_n 3, 1) := by decide +kernel
theorem dX8_applyTo_17 : decode cX8_applyTo 17 = .ok (.iadd, 1) := by decide +kernel
theorem dX8_applyTo_18 : decode cX8_applyTo 18 = .ok (.istore 4, 2) := by decide +kernel
theorem dX8_applyTo_20 : decode cX8_applyTo 20 = .ok (.aload_n 1, 1) := by decide +kernel
theorem dX8_applyTo_21 : decode cX8_applyTo 21 = .ok (.aload_n 0, 1) := by decide +kernel
theorem dX8_applyTo_22 : decode cX8_applyTo 22 = .ok (.getfield 15, 3) := by decide +kernel
theorem dX8_applyTo_25 : decode cX8_applyTo 25 = .ok (.iload 4, 2) := by decide +kernel
theorem dX8_applyTo_27 : decode cX8_applyTo 27 = .ok (.iaload, 1) := by decide +kernel
theorem dX8_applyTo_28 : decode cX8_applyTo 28 = .ok (.aload_n 0, 1) := by decide +kernel
theorem dX8_applyTo_29 : decode cX8_applyTo 29 = .ok (.getfield 18, 3) := by decide +kernel
theorem dX8_applyTo_32 : decode cX8_applyTo 32 = .ok (.iload 4, 2) := by decide +kernel
theorem dX8_applyTo_34 : decode cX8_applyTo 34 = .ok (.iaload, 1) := by decide +kernel
theorem dX8_applyTo_35 : decode cX8_applyTo 35 = .ok (.aload_n 0, 1) := by decide +kernel
theorem dX8_applyTo_36 : decode cX8_applyTo 36 = .ok (.getfield 21, 3) := by decide +kernel
theorem dX8_applyTo_39 : decode cX8_applyTo 39 = .ok (.iload 4, 2) := by decide +kernel
theorem dX8_applyTo_41 : decode cX8_applyTo 41 = .ok (.iaload, 1) := by decide +kernel
theorem dX8_applyTo_42 : decode cX8_applyTo 42 = .ok (.aload_n 0, 1) := by decide +kernel
theorem dX8_applyTo_43 : decode cX8_applyTo 43 = .ok (.getfield 24, 3) := by decide +kernel
theorem dX8_applyTo_46 : decode cX8_applyTo 46 = .ok (.iload 4, 2) := by decide +kernel
theorem dX8_applyTo_48 : decode cX8_applyTo 48 = .ok (.iaload, 1) := by decide +kernel
theorem dX8_applyTo_49 : decode cX8_applyTo 49 = .ok (.invokevirtual 31, 3) := by decide +kernel
theorem dX8_applyTo_52 : decode cX8_applyTo 52 = .ok (.iinc 3 1, 3) := by decide +kernel
theorem dX8_applyTo_55 : decode cX8_applyTo 55 = .ok (.goto (-53), 3) := by decide +kernel
theorem dX8_applyTo_58 : decode cX8_applyTo 58 = .ok (.return_, 1) := by decide +kernel
set_option maxRecDepth 20000 in
theorem v_X9_commonDivisor_0 {g : xG} {post : xPost} {h : xHp} {nx : Nat} {x0 : Nat} {x2 : Nat} (V : Blk g M_X9_commonDivisor post 9 [(4, .long (lN x0)), (6, .long (lN x2)), (8, .int (nI 0))] [] h nx 0 0) : Blk g M_X9_commonDivisor post 0 [(0, .long (lN x0)), (2, .long (lN x2))] [] h nx 0 0 := by
  refine r_lload_n 0 dX9_commonDivisor_0 rfl rfl ?_
  refine r_lstore (L' := [(4, .long (lN x0)), (0, .long (lN x0)), (2, .long (lN x2))]) dX9_commonDivisor_1 (by decide) rfl ?_
  refine r_lload_n 2 dX9_commonDivisor_3 rfl rfl ?_
  refine r_lstore (L' := [(6, .long (lN x2)), (4, .long (lN x0)), (0, .long (lN x0)), (2, .long (lN x2))]) dX9_commonDivisor_4 (by decide) rfl ?_
  refine r_iconst (v := (nI 0)) dX9_commonDivisor_6 rfl ?_
  refine r_istore (L' := [(8, .int (nI 0)), (6, .long (lN x2)), (4, .long (lN x0)), (0, .long (lN x0)), (2, .long (lN x2))]) dX9_commonDivisor_7 (by decide) rfl ?_
  exact Blk.sub [2, 1, 0] rfl V
set_option maxRecDepth 20000 in
theorem v_X9_commonDivisor_9 {g : xG} {post : xPost} {h : xHp} {nx : Nat} {x4 : Nat} {x6 : Nat} {x8 : Nat} (V : ((x8 < 2 ^ 31 ∧ 100 < 2 ^ 31) ∧ ((100 ≤ x8 → (post (some (.long (lN x4))) h nx)) ∧ (x8 < 100 → ((x6 < 2 ^ 63 ∧ 0 < 2 ^ 63) ∧ ((x6 ≤ 0 → (post (some (.long (lN x4))) h nx)) ∧ (0 < x6 → ((x4 < 2 ^ 63 ∧ 0 < x6 ∧ x6 < 2 ^ 63) ∧ Blk g M_X9_commonDivisor post 9 [(4, .long (lN x6)), (6, .long (lN (x4 % x6))), (8, .int (nI (x8 + 1)))] [] h nx 0 0)))))))) : Blk g M_X9_commonDivisor post 9 [(4, .long (lN x4)), (6, .long (lN x6)), (8, .int (nI x8))] [] h nx 0 0 := by
  refine r_iload 2 dX9_commonDivisor_9 rfl ?_
  refine r_bipush (v := (nI 100)) dX9_commonDivisor_11 rfl ?_
  obtain ⟨c, V⟩ := V
  refine r_icmp_geN (tgt := 44) dX9_commonDivisor_13 (by decide) c (fun c => ?_) (fun c => ?_)
  · have V := V.1 c
    refine r_lload 0 dX9_commonDivisor_44 rfl ?_
    exact r_lret dX9_commonDivisor_46 rfl (by decide) (by decide) V
  · have V := V.2 c
    refine r_lload 1 dX9_commonDivisor_16 rfl ?_
    refine r_lconst (v := (lN 0)) dX9_commonDivisor_18 rfl ?_
    obtain ⟨c, V⟩ := V
    refine r_lif_le (tgt := 44) dX9_commonDivisor_19 dX9_commonDivisor_20 (by decide) c (fun c => ?_) (fun c => ?_)
    · have V := V.1 c
      refine r_lload 0 dX9_commonDivisor_44 rfl ?_
      exact r_lret dX9_commonDivisor_46 rfl (by decide) (by decide) V
    · have V := V.2 c
      refine r_lload 0 dX9_commonDivisor_23 rfl ?_
      refine r_lload 1 dX9_commonDivisor_25 rfl ?_
      obtain ⟨c, V⟩ := V
      refine r_lremN dX9_commonDivisor_27 c ?_
      refine r_lstore (L' := [(9, .long (lN (x4 % x6))), (4, .long (lN x4)), (6, .long (lN x6)), (8, .int (nI x8))]) dX9_commonDivisor_28 (by decide) rfl ?_
      refine r_lload 2 dX9_commonDivisor_30 rfl ?_
      refine r_lstore (L' := [(4, .long (lN x6)), (9, .long (lN (x4 % x6))), (6, .long (lN x6)), (8, .int (nI x8))]) dX9_commonDivisor_32 (by decide) rfl ?_
      refine r_lload 1 dX9_commonDivisor_34 rfl ?_
      refine r_lstore (L' := [(6, .long (lN (x4 % x6))), (4, .long (lN x6)), (9, .long (lN (x4 % x6))), (8, .int (nI x8))]) dX9_commonDivisor_36 (by decide) rfl ?_
      refine r_iincN 3 (b := 1) (L' := [(8, .int (nI (x8 + 1))), (6, .long (lN (x4 % x6))), (4, .long (lN x6)), (9, .long (lN (x4 % x6)))]) dX9_commonDivisor_38 rfl rfl (by decide) rfl ?_
      refine r_goto (tgt := 9) dX9_commonDivisor_41 (by decide) ?_
      exact Blk.sub [2, 1, 0] rfl V
set_option maxRecDepth 20000 in
theorem v_X9_smallPart_0 {g : xG} {post : xPost} {h : xHp} {nx : Nat} {x0 : Int64} {x2 : Nat} {x4 : Int32} (V : (Ct g M_X9_commonDivisor [.long (if 0 < x0 then x0 else -x0), .long (lN x2)] h nx (fun r h1 n2 => ∃ v3 : Nat, r = some (.long (lN v3)) ∧ ((1 < 2 ^ 63 ∧ v3 < 2 ^ 63) ∧ ((¬ x4 = 0 → ((¬ x4 = (nI 1) → (post (some (.long (lN 0))) h1 n2)) ∧ (x4 = (nI 1) → ((x2 < 2 ^ 63 ∧ 0 < (max 1 v3) ∧ (max 1 v3) < 2 ^ 63) ∧ (post (some (.long (lN (x2 / (max 1 v3))))) h1 n2))))) ∧ (x4 = 0 → (¬ (lN (max 1 v3)) = 0 ∧ (post (some (.long (x0 / (lN (max 1 v3))))) h1 n2)))))))) : Blk g M_X9_smallPart post 0 [(0, .long x0), (2, .long (lN x2)), (4, .int x4)] [] h nx 0 0 := by
  refine r_lconst (v := (lN 1)) dX9_smallPart_0 rfl ?_
  refine r_lload_n 0 dX9_smallPart_1 rfl rfl ?_
  refine r_mabsl wM_X9_231 ws_J9_abs_067f4 wI_java_lang_Math wc_J9_abs_067f4 dX9_smallPart_2 (by decide) (Nat.le_of_ble_eq_true rfl) (by decide) (by decide) ?_
  refine r_lload_n 1 dX9_smallPart_5 rfl rfl ?_
  refine r_callS (M2 := M_X9_commonDivisor) (n := 2) (As := [.long (if 0 < x0 then x0 else -x0), .long (lN x2)]) (wl4 wM_X9_235 ws_X9_commonDivisor wI_StateShares wc_X9_commonDivisor) (by decide +kernel) (by decide) rfl rfl (Nat.le_of_ble_eq_true rfl) dX9_smallPart_6 (by decide) (by decide) (Ct.imp V (fun r h1 n2 V => ?_))
  obtain ⟨v3, rfl, V⟩ := V
  show Blk g M_X9_smallPart post 9 [(0, .long x0), (2, .long (lN x2)), (4, .int x4)] [.long (lN v3), .long (lN 1)] h1 n2 0 0
  refine r_mmaxl wM_X9_239 ws_J9_max_f86c9 wI_java_lang_Math wc_J9_max_f86c9 dX9_smallPart_9 (by decide) (Nat.le_of_ble_eq_true rfl) (by decide) (by decide) ?_
  obtain ⟨c, V⟩ := V
  rw [n_maxl c.1 c.2]
  show Blk g M_X9_smallPart post 12 [(0, .long x0), (2, .long (lN x2)), (4, .int x4)] [.long (lN (max 1 v3))] h1 n2 0 0
  refine r_lstore (L' := [(5, .long (lN (max 1 v3))), (0, .long x0), (2, .long (lN x2)), (4, .int x4)]) dX9_smallPart_12 (by decide) rfl ?_
  refine r_iload 3 dX9_smallPart_14 rfl ?_
  refine r_if_ne (tgt := 24) dX9_smallPart_16 (by decide) (fun c => ?_) (fun c => ?_)
  · have V := V.1 c
    refine r_iload 3 dX9_smallPart_24 rfl ?_
    refine r_iconst (v := (nI 1)) dX9_smallPart_26 rfl ?_
    refine r_icmp_ne (tgt := 37) dX9_smallPart_27 (by decide) (fun c => ?_) (fun c => ?_)
    · have V := V.1 c
      refine r_lconst (v := (lN 0)) dX9_smallPart_37 rfl ?_
      exact r_lret dX9_smallPart_38 rfl (by decide) (by decide) V
    · have V := V.2 c
      refine r_lload_n 2 dX9_smallPart_30 rfl rfl ?_
      refine r_lload 0 dX9_smallPart_31 rfl ?_
      obtain ⟨c, V⟩ := V
      refine r_ldivN dX9_smallPart_33 c ?_
      refine r_goto (tgt := 38) dX9_smallPart_34 (by decide) ?_
      exact r_lret dX9_smallPart_38 rfl (by decide) (by decide) V
  · have V := V.2 c
    refine r_lload_n 1 dX9_smallPart_19 rfl rfl ?_
    refine r_lload 0 dX9_smallPart_20 rfl ?_
    obtain ⟨c, V⟩ := V
    refine r_ldiv dX9_smallPart_22 c ?_
    exact r_lret dX9_smallPart_23 rfl (by decide) (by decide) V
set_option maxRecDepth 20000 in
theorem v_X5_init_0 {g : xG} {post : xPost} {h : xHp} {nx : Nat} {x0 : Nat} {x1 : Nat} {x2 : Nat} (V : (x1 ≤ 1000000 ∧ 0 + 1 ≤ 16 ∧ 0 + x1 ≤ 972 ∧ (h x0 = some (xo 6 [.null, .null, .null]) ∧ x0 ≠ nx ∧ Blk g M_X5_init post 14 [(0, .ref x0), (1, .int (nI x1)), (2, .int (nI x2)), (3, .int (nI 0))] [] (xup (xup h nx (xra 4 x1 (fun _ => none))) x0 (xo 6 [.ref nx, .null, .null])) (nx + 1) 1 (0 + x1)))) : Blk g M_X5_init post 0 [(0, .ref x0), (1, .int (nI x1)), (2, .int (nI x2))] [] h nx 0 0 := by
  refine r_aload_n 0 dX5_init_0 rfl rfl ?_
  refine r_oinit wM_X5_1 wi_java_lang_Object__init____V wc_java_lang_Object__init____V dX5_init_1 (by decide) (Nat.le_of_ble_eq_true rfl) ?_
  refine r_aload_n 0 dX5_init_4 rfl rfl ?_
  refine r_iload_n 1 dX5_init_5 rfl rfl ?_
  obtain ⟨c, c3, c4, V⟩ := V
  refine r_anew (kd := 4) (C0 := RX0) (fun _ => rfl) (fun _ q => q.2.1.1) wC_X5_7 dX5_init_6 rfl c c3 c4 ?_
  show Blk g M_X5_init post 9 [(0, .ref x0), (1, .int (nI x1)), (2, .int (nI x2))] [.ref nx, .ref x0] (xup h nx (xra 4 x1 (fun _ => none))) (nx + 1) 1 (0 + x1)
  obtain ⟨q1, V⟩ := V
  obtain ⟨n2, V⟩ := V
  have q3 : (xup h nx (xra 4 x1 (fun _ => none))) x0 = some (xo 6 [.null, .null, .null]) := (xup_n n2).trans q1
  refine r_putF (ci := 6) (kf := 0) (T := TX5) rfl in_X5 tyX5_ok nmX5 (by decide) wF_X5_9 rfl rfl rfl (tyX5_ok 0 (by decide)) dX5_init_9 q3 (Nat.le_of_ble_eq_true rfl) rfl rfl ?_
  show Blk g M_X5_init post 12 [(0, .ref x0), (1, .int (nI x1)), (2, .int (nI x2))] [] (xup (xup h nx (xra 4 x1 (fun _ => none))) x0 (xo 6 [.ref nx, .null, .null])) (nx + 1) 1 (0 + x1)
  refine r_iconst (v := (nI 0)) dX5_init_12 rfl ?_
  refine r_istore_n (L' := [(3, .int (nI 0)), (0, .ref x0), (1, .int (nI x1)), (2, .int (nI x2))]) dX5_init_13 rfl (by decide) rfl ?_
  exact Blk.sub [1, 2, 3, 0] rfl V
set_option maxRecDepth 20000 in
theorem v_X5_init_14 {g : xG} {post : xPost} {h : xHp} {nx : Nat} {cu su : Nat} {x0 : Nat} {x1 : Nat} {x2 : Nat} {x3 : Nat} (V : ((x3 < 2 ^ 31 ∧ x1 < 2 ^ 31) ∧ ((x1 ≤ x3 → (cu + 1 ≤ 16 ∧ su + 2 ≤ 972 ∧ ((cu + 1) + 1 ≤ 16 ∧ (su + 2) + 112 ≤ 972 ∧ Ct g M_X0_init [.ref nx, .int (nI x2)] (xup h nx (xo 1 [.null, .int (nI 0)])) (nx + 1) (fun r h1 n2 => r = none ∧ (∃ (o4 : Nat), h1 x0 = some (xo 6 [.ref o4, .null, .null]) ∧ (168 ≤ 1000000 ∧ ((cu + 1) + 1) + 1 ≤ 16 ∧ ((su + 2) + 112) + 168 ≤ 972 ∧ (x0 ≠ n2 ∧ ((((cu + 1) + 1) + 1) ≤ 16 ∧ (((su + 2) + 112) + 168) ≤ 972 ∧ post none (xup (xup (xup h1 x0 (xo 6 [.ref o4, .ref nx, .null])) n2 (xna 168 (fun _ => 0))) x0 (xo 6 [.ref o4, .ref nx, .ref n2])) (n2 + 1))))))))) ∧ (x3 < x1 → (∃ (o8 : Nat), h x0 = some (xo 6 [.ref o8, .null, .null]) ∧ (cu + 1 ≤ 16 ∧ su + 2 ≤ 972 ∧ ((cu + 1) + 1 ≤ 16 ∧ (su + 2) + 112 ≤ 972 ∧ Ct g M_X0_init [.ref nx, .int (nI x2)] (xup h nx (xo 1 [.null, .int (nI 0)])) (nx + 1) (fun r h9 n10 => r = none ∧ (∃ (N12 : Nat) (f13 : Nat → Option Nat), h9 o8 = some (xra 4 N12 f13) ∧ ∃ (o15 : Nat) (o16 : Nat), h9 nx = some (xo 1 [.ref o15, .int (nI o16)]) ∧ x3 < N12 ∧ N12 < 2 ^ 31 ∧ Blk g M_X5_init post 14 [(0, .ref x0), (1, .int (nI x1)), (2, .int (nI x2)), (3, .int (nI (x3 + 1)))] [] (xup h9 o8 (xra 4 N12 (va_up f13 x3 (some nx)))) n10 ((cu + 1) + 1) ((su + 2) + 112)))))))))) : Blk g M_X5_init post 14 [(0, .ref x0), (1, .int (nI x1)), (2, .int (nI x2)), (3, .int (nI x3))] [] h nx cu su := by
  refine r_iload_n 3 dX5_init_14 rfl rfl ?_
  refine r_iload_n 1 dX5_init_15 rfl rfl ?_
  obtain ⟨c, V⟩ := V
  refine r_icmp_geN (tgt := 39) dX5_init_16 (by decide) c (fun c => ?_) (fun c => ?_)
  · have V := V.1 c
    refine r_aload_n 0 dX5_init_39 rfl rfl ?_
    obtain ⟨a3, a4, V⟩ := V
    refine r_new (ci := 1) (N := 2) (fs := [.null, .int (nI 0)]) (T := TX0) rfl in_X0 tyX0_ok wC_X5_7 wN_StateShares_Big wI_StateShares_Big dX5_init_40 df_X0 a3 a4 ?_
    show Blk g M_X5_init post 43 [(0, .ref x0), (1, .int (nI x1)), (2, .int (nI x2)), (3, .int (nI x3))] [.ref nx, .ref x0] (xup h nx (xo 1 [.null, .int (nI 0)])) (nx + 1) (cu + 1) (su + 2)
    refine r_dup dX5_init_43 rfl ?_
    refine r_iload_n 2 dX5_init_44 rfl rfl ?_
    obtain ⟨a3, a4, V⟩ := V
    refine r_callI (M2 := M_X0_init) (n := 1) (As := [.int (nI x2)]) (wl4 wM_X5_15 wi_X0_init wI_StateShares_Big wc_X0_init) rfl rfl (by decide +kernel) (by decide) rfl rfl (Nat.le_of_ble_eq_true rfl) dX5_init_45 a3 a4 (Ct.imp V (fun r h1 n2 V => ?_))
    obtain ⟨rfl, V⟩ := V
    show Blk g M_X5_init post 48 [(0, .ref x0), (1, .int (nI x1)), (2, .int (nI x2)), (3, .int (nI x3))] [.ref nx, .ref x0] h1 n2 ((cu + 1) + 1) ((su + 2) + 112)
    obtain ⟨o4, q3, V⟩ := V
    refine r_putF (ci := 6) (kf := 1) (T := TX5) rfl in_X5 tyX5_ok nmX5 (by decide) wF_X5_18 rfl rfl rfl (tyX5_ok 1 (by decide)) dX5_init_48 q3 (Nat.le_of_ble_eq_true rfl) rfl rfl ?_
    show Blk g M_X5_init post 51 [(0, .ref x0), (1, .int (nI x1)), (2, .int (nI x2)), (3, .int (nI x3))] [] (xup h1 x0 (xo 6 [.ref o4, .ref nx, .null])) n2 ((cu + 1) + 1) ((su + 2) + 112)
    refine r_aload_n 0 dX5_init_51 rfl rfl ?_
    refine r_gsP5 rfl dX5_init_52 ?_
    refine r_alenP dX5_init_55 ?_
    obtain ⟨c, c3, c4, V⟩ := V
    refine r_newi wA_int dX5_init_56 rfl c c3 c4 ?_
    show Blk g M_X5_init post 58 [(0, .ref x0), (1, .int (nI x1)), (2, .int (nI x2)), (3, .int (nI x3))] [.ref n2, .ref x0] (xup (xup h1 x0 (xo 6 [.ref o4, .ref nx, .null])) n2 (xna 168 (fun _ => 0))) (n2 + 1) (((cu + 1) + 1) + 1) (((su + 2) + 112) + 168)
    obtain ⟨n5, V⟩ := V
    have q6 : (xup (xup h1 x0 (xo 6 [.ref o4, .ref nx, .null])) n2 (xna 168 (fun _ => 0))) x0 = some (xo 6 [.ref o4, .ref nx, .null]) := (xup_n n5).trans (xup_s _ _ _)
    refine r_putF (ci := 6) (kf := 2) (T := TX5) rfl in_X5 tyX5_ok nmX5 (by decide) wF_X5_28 rfl rfl rfl (tyX5_ok 2 (by decide)) dX5_init_58 q6 (Nat.le_of_ble_eq_true rfl) rfl rfl ?_
    show Blk g M_X5_init post 61 [(0, .ref x0), (1, .int (nI x1)), (2, .int (nI x2)), (3, .int (nI x3))] [] (xup (xup (xup h1 x0 (xo 6 [.ref o4, .ref nx, .null])) n2 (xna 168 (fun _ => 0))) x0 (xo 6 [.ref o4, .ref nx, .ref n2])) (n2 + 1) (((cu + 1) + 1) + 1) (((su + 2) + 112) + 168)
    obtain ⟨c1, c2, V⟩ := V
    exact r_vret dX5_init_61 rfl c1 c2 V
  · have V := V.2 c
    refine r_aload_n 0 dX5_init_19 rfl rfl ?_
    obtain ⟨o8, q7, V⟩ := V
    refine r_getf (ci := 6) (kf := 0) (T := TX5) rfl in_X5 (by decide) wF_X5_9 dX5_init_20 q7 rfl ?_
    refine r_iload_n 3 dX5_init_23 rfl rfl ?_
    obtain ⟨a3, a4, V⟩ := V
    refine r_new (ci := 1) (N := 2) (fs := [.null, .int (nI 0)]) (T := TX0) rfl in_X0 tyX0_ok wC_X5_7 wN_StateShares_Big wI_StateShares_Big dX5_init_24 df_X0 a3 a4 ?_
    show Blk g M_X5_init post 27 [(0, .ref x0), (1, .int (nI x1)), (2, .int (nI x2)), (3, .int (nI x3))] [.ref nx, .int (nI x3), .ref o8] (xup h nx (xo 1 [.null, .int (nI 0)])) (nx + 1) (cu + 1) (su + 2)
    refine r_dup dX5_init_27 rfl ?_
    refine r_iload_n 2 dX5_init_28 rfl rfl ?_
    obtain ⟨a3, a4, V⟩ := V
    refine r_callI (M2 := M_X0_init) (n := 1) (As := [.int (nI x2)]) (wl4 wM_X5_15 wi_X0_init wI_StateShares_Big wc_X0_init) rfl rfl (by decide +kernel) (by decide) rfl rfl (Nat.le_of_ble_eq_true rfl) dX5_init_29 a3 a4 (Ct.imp V (fun r h9 n10 V => ?_))
    obtain ⟨rfl, V⟩ := V
    show Blk g M_X5_init post 32 [(0, .ref x0), (1, .int (nI x1)), (2, .int (nI x2)), (3, .int (nI x3))] [.ref nx, .int (nI x3), .ref o8] h9 n10 ((cu + 1) + 1) ((su + 2) + 112)
    obtain ⟨N12, f13, q11, V⟩ := V
    obtain ⟨o15, o16, q14, V⟩ := V
    obtain ⟨c, cN, V⟩ := V
    refine r_aast (kd := 4) (ci := 1) (r := (RX0, TX0, 2)) (fun _ => rfl) rfl dX5_init_32 q11 q14 rfl c cN ?_
    show Blk g M_X5_init post 33 [(0, .ref x0), (1, .int (nI x1)), (2, .int (nI x2)), (3, .int (nI x3))] [] (xup h9 o8 (xra 4 N12 (va_up f13 x3 (some nx)))) n10 ((cu + 1) + 1) ((su + 2) + 112)
    refine r_iincN 3 (b := 1) (L' := [(3, .int (nI (x3 + 1))), (0, .ref x0), (1, .int (nI x1)), (2, .int (nI x2))]) dX5_init_33 rfl rfl (by decide) rfl ?_
    refine r_goto (tgt := 14) dX5_init_36 (by decide) ?_
    exact Blk.sub [1, 2, 3, 0] rfl V
set_option maxRecDepth 20000 in
theorem v_X5_states_0 {g : xG} {post : xPost} {h : xHp} {nx : Nat} {x0 : Nat} (V : (∃ (o2 : Nat) (o3 : Nat) (o4 : Nat), h x0 = some (xo 6 [.ref o2, .ref o3, .ref o4]) ∧ (∃ (N6 : Nat) (f7 : Nat → Option Nat), h o2 = some (xra 4 N6 f7) ∧ (post (some (.int (nI N6))) h nx)))) : Blk g M_X5_states post 0 [(0, .ref x0)] [] h nx 0 0 := by
  refine r_aload_n 0 dX5_states_0 rfl rfl ?_
  obtain ⟨o2, o3, o4, q1, V⟩ := V
  refine r_getf (ci := 6) (kf := 0) (T := TX5) rfl in_X5 (by decide) wF_X5_9 dX5_states_1 q1 rfl ?_
  obtain ⟨N6, f7, q5, V⟩ := V
  refine r_alen (kd := 4) (by decide) dX5_states_4 q5 ?_
  exact r_iret dX5_states_5 rfl (by decide) (by decide) V
set_option maxRecDepth 20000 in
theorem v_X5_has_0 {g : xG} {post : xPost} {h : xHp} {nx : Nat} {x0 : Nat} {x1 : Nat} (V : (∃ (o2 : Nat) (o3 : Nat) (o4 : Nat), h x0 = some (xo 6 [.ref o2, .ref o3, .ref o4]) ∧ (∃ (N6 : Nat) (f7 : Nat → Option Nat), h o2 = some (xra 4 N6 f7) ∧ ∃ b8 : Nat, x1 < N6 ∧ N6 < 2 ^ 31 ∧ f7 x1 = some b8 ∧ (post (some (.ref b8)) h nx)))) : Blk g M_X5_has post 0 [(0, .ref x0), (1, .int (nI x1))] [] h nx 0 0 := by
  refine r_aload_n 0 dX5_has_0 rfl rfl ?_
  obtain ⟨o2, o3, o4, q1, V⟩ := V
  refine r_getf (ci := 6) (kf := 0) (T := TX5) rfl in_X5 (by decide) wF_X5_9 dX5_has_1 q1 rfl ?_
  refine r_iload_n 1 dX5_has_4 rfl rfl ?_
  obtain ⟨N6, f7, q5, V⟩ := V
  obtain ⟨b8, c, cN, cb, V⟩ := V
  refine r_aald (kd := 4) (C0 := RX0) (fun _ => rfl) dX5_has_5 q5 rfl c cN cb ?_
  exact r_aret dX5_has_6 rfl (by decide) (by decide) V
set_option maxRecDepth 20000 in
theorem v_X5_whole_0 {g : xG} {post : xPost} {h : xHp} {nx : Nat} {x0 : Nat} (V : (∃ (o2 : Nat) (o3 : Nat) (o4 : Nat), h x0 = some (xo 6 [.ref o2, .ref o3, .ref o4]) ∧ (post (some (.ref o3)) h nx))) : Blk g M_X5_whole post 0 [(0, .ref x0)] [] h nx 0 0 := by
  refine r_aload_n 0 dX5_whole_0 rfl rfl ?_
  obtain ⟨o2, o3, o4, q1, V⟩ := V
  refine r_getf (ci := 6) (kf := 1) (T := TX5) rfl in_X5 (by decide) wF_X5_18 dX5_whole_1 q1 rfl ?_
  exact r_aret dX5_whole_4 rfl (by decide) (by decide) V
set_option maxRecDepth 20000 in
theorem v_X5_power_0 {g : xG} {post : xPost} {h : xHp} {nx : Nat} {x0 : Nat} {x1 : Nat} (V : (∃ (o2 : Nat) (o3 : Nat) (o4 : Nat), h x0 = some (xo 6 [.ref o2, .ref o3, .ref o4]) ∧ (∃ (N6 : Nat) (f7 : Nat → Nat), h o4 = some (xna N6 f7) ∧ x1 < N6 ∧ N6 < 2 ^ 31 ∧ (post (some (.int (nI (f7 x1)))) h nx)))) : Blk g M_X5_power post 0 [(0, .ref x0), (1, .int (nI x1))] [] h nx 0 0 := by
  refine r_aload_n 0 dX5_power_0 rfl rfl ?_
  obtain ⟨o2, o3, o4, q1, V⟩ := V
  refine r_getf (ci := 6) (kf := 2) (T := TX5) rfl in_X5 (by decide) wF_X5_28 dX5_power_1 q1 rfl ?_
  refine r_iload_n 1 dX5_power_4 rfl rfl ?_
  obtain ⟨N6, f7, q5, V⟩ := V
  obtain ⟨c, cN, V⟩ := V
  refine r_iald dX5_power_5 q5 rfl c cN ?_
  show Blk g M_X5_power post 6 [(0, .ref x0), (1, .int (nI x1))] [.int (nI (f7 x1))] h nx 0 0
  exact r_iret dX5_power_6 rfl (by decide) (by decide) V
set_option maxRecDepth 20000 in
theorem v_X5_copy_0 {g : xG} {post : xPost} {h : xHp} {nx : Nat} {x0 : Nat} {x1 : Nat} (V : Blk g M_X5_copy post 2 [(0, .ref x0), (1, .ref x1), (2, .int (nI 0))] [] h nx 0 0) : Blk g M_X5_copy post 0 [(0, .ref x0), (1, .ref x1)] [] h nx 0 0 := by
  refine r_iconst (v := (nI 0)) dX5_copy_0 rfl ?_
  refine r_istore_n (L' := [(2, .int (nI 0)), (0, .ref x0), (1, .ref x1)]) dX5_copy_1 rfl (by decide) rfl ?_
  exact Blk.sub [1, 2, 0] rfl V
set_option maxRecDepth 20000 in
theorem v_X5_copy_2 {g : xG} {post : xPost} {h : xHp} {nx : Nat} {x0 : Nat} {x1 : Nat} {x2 : Nat} (V : (∃ (o2 : Nat) (o3 : Nat) (o4 : Nat), h x0 = some (xo 6 [.ref o2, .ref o3, .ref o4]) ∧ (∃ (N6 : Nat) (f7 : Nat → Option Nat), h o2 = some (xra 4 N6 f7) ∧ ((x2 < 2 ^ 31 ∧ N6 < 2 ^ 31) ∧ ((N6 ≤ x2 → (∃ (o9 : Nat) (o10 : Nat) (o11 : Nat), h x1 = some (xo 6 [.ref o9, .ref o10, .ref o11]) ∧ (∃ (N13 : Nat) (f14 : Nat → Nat), h o4 = some (xna N13 f14) ∧ (∃ (N16 : Nat) (f17 : Nat → Nat), h o11 = some (xna N16 f17) ∧ (0 + N13 ≤ N16 ∧ 0 + N13 ≤ N13 ∧ N16 < 2 ^ 31 ∧ N13 < 2 ^ 31) ∧ (post none (xup h o4 (xna N13 (va_cpy f17 f14 0 0 N13))) nx))))) ∧ (x2 < N6 → (∃ b18 : Nat, x2 < N6 ∧ N6 < 2 ^ 31 ∧ f7 x2 = some b18 ∧ (∃ (o20 : Nat) (o21 : Nat) (o22 : Nat), h x1 = some (xo 6 [.ref o20, .ref o21, .ref o22]) ∧ (∃ (N24 : Nat) (f25 : Nat → Option Nat), h o20 = some (xra 4 N24 f25) ∧ ∃ b26 : Nat, x2 < N24 ∧ N24 < 2 ^ 31 ∧ f25 x2 = some b26 ∧ (∃ (o30 : Nat) (o31 : Nat), h b18 = some (xo 1 [.ref o30, .int (nI o31)]) ∧ Ct g M_X0_copy [.ref b18, .ref b26] h nx (fun r h27 n28 => r = none ∧ Blk g M_X5_copy post 2 [(0, .ref x0), (1, .ref x1), (2, .int (nI (x2 + 1)))] [] h27 n28 0 0))))))))))) : Blk g M_X5_copy post 2 [(0, .ref x0), (1, .ref x1), (2, .int (nI x2))] [] h nx 0 0 := by
  refine r_iload_n 2 dX5_copy_2 rfl rfl ?_
  refine r_aload_n 0 dX5_copy_3 rfl rfl ?_
  obtain ⟨o2, o3, o4, q1, V⟩ := V
  refine r_getf (ci := 6) (kf := 0) (T := TX5) rfl in_X5 (by decide) wF_X5_9 dX5_copy_4 q1 rfl ?_
  obtain ⟨N6, f7, q5, V⟩ := V
  refine r_alen (kd := 4) (by decide) dX5_copy_7 q5 ?_
  obtain ⟨c, V⟩ := V
  refine r_icmp_geN (tgt := 32) dX5_copy_8 (by decide) c (fun c => ?_) (fun c => ?_)
  · have V := V.1 c
    refine r_aload_n 1 dX5_copy_32 rfl rfl ?_
    obtain ⟨o9, o10, o11, q8, V⟩ := V
    refine r_getf (ci := 6) (kf := 2) (T := TX5) rfl in_X5 (by decide) wF_X5_28 dX5_copy_33 q8 rfl ?_
    refine r_iconst (v := (nI 0)) dX5_copy_36 rfl ?_
    refine r_aload_n 0 dX5_copy_37 rfl rfl ?_
    refine r_getf (ci := 6) (kf := 2) (T := TX5) rfl in_X5 (by decide) wF_X5_28 dX5_copy_38 q1 rfl ?_
    refine r_iconst (v := (nI 0)) dX5_copy_41 rfl ?_
    refine r_aload_n 0 dX5_copy_42 rfl rfl ?_
    refine r_getf (ci := 6) (kf := 2) (T := TX5) rfl in_X5 (by decide) wF_X5_28 dX5_copy_43 q1 rfl ?_
    obtain ⟨N13, f14, q12, V⟩ := V
    refine r_alen (kd := 0) (by decide) dX5_copy_46 q12 ?_
    obtain ⟨N16, f17, q15, V⟩ := V
    obtain ⟨c, V⟩ := V
    refine r_copyN wM_X5_35 wn_java_lang_System_arraycopy__Ljava_lang_Object_ILjava_lang_Object_II_V ws_java_lang_System_arraycopy__Ljava_lang_Object_ILjava_lang_Object_II_V wI_java_lang_System dX5_copy_47 (by decide) (Nat.le_of_ble_eq_true rfl) q15 q12 c ?_
    show Blk g M_X5_copy post 50 [(0, .ref x0), (1, .ref x1), (2, .int (nI x2))] [] (xup h o4 (xna N13 (va_cpy f17 f14 0 0 N13))) nx 0 0
    exact r_vret dX5_copy_50 rfl (by decide) (by decide) V
  · have V := V.2 c
    refine r_aload_n 0 dX5_copy_11 rfl rfl ?_
    refine r_getf (ci := 6) (kf := 0) (T := TX5) rfl in_X5 (by decide) wF_X5_9 dX5_copy_12 q1 rfl ?_
    refine r_iload_n 2 dX5_copy_15 rfl rfl ?_
    obtain ⟨b18, c, cN, cb, V⟩ := V
    refine r_aald (kd := 4) (C0 := RX0) (fun _ => rfl) dX5_copy_16 q5 rfl c cN cb ?_
    refine r_aload_n 1 dX5_copy_17 rfl rfl ?_
    obtain ⟨o20, o21, o22, q19, V⟩ := V
    refine r_getf (ci := 6) (kf := 0) (T := TX5) rfl in_X5 (by decide) wF_X5_9 dX5_copy_18 q19 rfl ?_
    refine r_iload_n 2 dX5_copy_21 rfl rfl ?_
    obtain ⟨N24, f25, q23, V⟩ := V
    obtain ⟨b26, c, cN, cb, V⟩ := V
    refine r_aald (kd := 4) (C0 := RX0) (fun _ => rfl) dX5_copy_22 q23 rfl c cN cb ?_
    obtain ⟨o30, o31, q29, V⟩ := V
    refine r_callV (M2 := M_X0_copy) (ci := 1) (n := 1) (As := [.ref b26]) rfl (wl5 wM_X5_31 wi_X0_copy wS_X0_copy wI_StateShares_Big wc_X0_copy) (by decide +kernel) (by decide) rfl rfl (Nat.le_of_ble_eq_true rfl) dX5_copy_23 q29 (by decide) (by decide) (Ct.imp V (fun r h27 n28 V => ?_))
    obtain ⟨rfl, V⟩ := V
    show Blk g M_X5_copy post 26 [(0, .ref x0), (1, .ref x1), (2, .int (nI x2))] [] h27 n28 0 0
    refine r_iincN 2 (b := 1) (L' := [(2, .int (nI (x2 + 1))), (0, .ref x0), (1, .ref x1)]) dX5_copy_26 rfl rfl (by decide) rfl ?_
    refine r_goto (tgt := 2) dX5_copy_29 (by decide) ?_
    exact Blk.sub [1, 2, 0] rfl V
set_option maxRecDepth 20000 in
theorem v_X5_begin_0 {g : xG} {post : xPost} {h : xHp} {nx : Nat} {x0 : Nat} {x1 : Nat} {x2 : Nat} (V : Blk g M_X5_begin post 5 [(0, .ref x0), (1, .ref x1), (2, .ref x2), (3, .long (lN 1)), (5, .int (nI 0))] [] h nx 0 0) : Blk g M_X5_begin post 0 [(0, .ref x0), (1, .ref x1), (2, .ref x2)] [] h nx 0 0 := by
  refine r_lconst (v := (lN 1)) dX5_begin_0 rfl ?_
  refine r_lstore_n (L' := [(3, .long (lN 1)), (0, .ref x0), (1, .ref x1), (2, .ref x2)]) dX5_begin_1 rfl (by decide) rfl ?_
  refine r_iconst (v := (nI 0)) dX5_begin_2 rfl ?_
  refine r_istore (L' := [(5, .int (nI 0)), (3, .long (lN 1)), (0, .ref x0), (1, .ref x1), (2, .ref x2)]) dX5_begin_3 (by decide) rfl ?_
  exact Blk.sub [2, 3, 4, 1, 0] rfl V
set_option maxRecDepth 20000 in
theorem v_X5_begin_5 {g : xG} {post : xPost} {h : xHp} {nx : Nat} {x0 : Nat} {x1 : Nat} {x2 : Nat} {x3 : Nat} {x5 : Nat} (V : (∃ (o2 : Nat) (o3 : Nat) (o4 : Nat), h x0 = some (xo 6 [.ref o2, .ref o3, .ref o4]) ∧ (∃ (N6 : Nat) (f7 : Nat → Option Nat), h o2 = some (xra 4 N6 f7) ∧ ((x5 < 2 ^ 31 ∧ N6 < 2 ^ 31) ∧ ((N6 ≤ x5 → Blk g M_X5_begin post 33 [(0, .ref x0), (1, .ref x1), (2, .ref x2), (3, .long (lN x3)), (5, .int (nI 0))] [] h nx 0 0) ∧ (x5 < N6 → (∃ (N9 : Nat) (f10 : Nat → Nat), h x2 = some (xna N9 f10) ∧ x5 < N9 ∧ N9 < 2 ^ 31 ∧ (Ct g M_X5_commonMultiple [.long (lN x3), .int (nI (f10 x5))] h nx (fun r h11 n12 => ∃ v13 : Nat, r = some (.long (lN v13)) ∧ Blk g M_X5_begin post 5 [(0, .ref x0), (1, .ref x1), (2, .ref x2), (3, .long (lN v13)), (5, .int (nI (x5 + 1)))] [] h11 n12 0 0))))))))) : Blk g M_X5_begin post 5 [(0, .ref x0), (1, .ref x1), (2, .ref x2), (3, .long (lN x3)), (5, .int (nI x5))] [] h nx 0 0 := by
  refine r_iload 4 dX5_begin_5 rfl ?_
  refine r_aload_n 0 dX5_begin_7 rfl rfl ?_
  obtain ⟨o2, o3, o4, q1, V⟩ := V
  refine r_getf (ci := 6) (kf := 0) (T := TX5) rfl in_X5 (by decide) wF_X5_9 dX5_begin_8 q1 rfl ?_
  obtain ⟨N6, f7, q5, V⟩ := V
  refine r_alen (kd := 4) (by decide) dX5_begin_11 q5 ?_
  obtain ⟨c, V⟩ := V
  refine r_icmp_geN (tgt := 30) dX5_begin_12 (by decide) c (fun c => ?_) (fun c => ?_)
  · have V := V.1 c
    refine r_iconst (v := (nI 0)) dX5_begin_30 rfl ?_
    refine r_istore (L' := [(5, .int (nI 0)), (0, .ref x0), (1, .ref x1), (2, .ref x2), (3, .long (lN x3))]) dX5_begin_31 (by decide) rfl ?_
    exact Blk.sub [1, 2, 3, 4, 0] rfl V
  · have V := V.2 c
    refine r_lload_n 3 dX5_begin_15 rfl rfl ?_
    refine r_aload_n 2 dX5_begin_16 rfl rfl ?_
    refine r_iload 4 dX5_begin_17 rfl ?_
    obtain ⟨N9, f10, q8, V⟩ := V
    obtain ⟨c, cN, V⟩ := V
    refine r_iald dX5_begin_19 q8 rfl c cN ?_
    show Blk g M_X5_begin post 20 [(0, .ref x0), (1, .ref x1), (2, .ref x2), (3, .long (lN x3)), (5, .int (nI x5))] [.int (nI (f10 x5)), .long (lN x3)] h nx 0 0
    refine r_callS (M2 := M_X5_commonMultiple) (n := 2) (As := [.long (lN x3), .int (nI (f10 x5))]) (wl4 wM_X5_41 ws_X5_commonMultiple wI_StateShares_Row wc_X5_commonMultiple) (by decide +kernel) (by decide) rfl rfl (Nat.le_of_ble_eq_true rfl) dX5_begin_20 (by decide) (by decide) (Ct.imp V (fun r h11 n12 V => ?_))
    obtain ⟨v13, rfl, V⟩ := V
    show Blk g M_X5_begin post 23 [(0, .ref x0), (1, .ref x1), (2, .ref x2), (3, .long (lN x3)), (5, .int (nI x5))] [.long (lN v13)] h11 n12 0 0
    refine r_lstore_n (L' := [(3, .long (lN v13)), (0, .ref x0), (1, .ref x1), (2, .ref x2), (5, .int (nI x5))]) dX5_begin_23 rfl (by decide) rfl ?_
    refine r_iincN 4 (b := 1) (L' := [(5, .int (nI (x5 + 1))), (3, .long (lN v13)), (0, .ref x0), (1, .ref x1), (2, .ref x2)]) dX5_begin_24 rfl rfl (by decide) rfl ?_
    refine r_goto (tgt := 5) dX5_begin_27 (by decide) ?_
    exact Blk.sub [2, 3, 4, 1, 0] rfl V
set_option maxRecDepth 20000 in
theorem v_X5_begin_33 {g : xG} {post : xPost} {h : xHp} {nx : Nat} {x0 : Nat} {x1 : Nat} {x2 : Nat} {x3 : Nat} {x5 : Nat} (V : (∃ (o2 : Nat) (o3 : Nat) (o4 : Nat), h x0 = some (xo 6 [.ref o2, .ref o3, .ref o4]) ∧ (∃ (N6 : Nat) (f7 : Nat → Option Nat), h o2 = some (xra 4 N6 f7) ∧ ((x5 < 2 ^ 31 ∧ N6 < 2 ^ 31) ∧ ((N6 ≤ x5 → Blk g M_X5_begin post 79 [(0, .ref x0), (3, .long (lN x3)), (5, .int (nI 0))] [] h nx 0 0) ∧ (x5 < N6 → (∃ b8 : Nat, x5 < N6 ∧ N6 < 2 ^ 31 ∧ f7 x5 = some b8 ∧ (∃ (N10 : Nat) (f11 : Nat → Nat), h x2 = some (xna N10 f11) ∧ x5 < N10 ∧ N10 < 2 ^ 31 ∧ ((1 < 2 ^ 31 ∧ (f11 x5) < 2 ^ 31) ∧ ((max 1 (f11 x5)) < 2 ^ 31 ∧ ((x3 < 2 ^ 63 ∧ 0 < (max 1 (f11 x5)) ∧ (max 1 (f11 x5)) < 2 ^ 63) ∧ (∃ (N13 : Nat) (f14 : Nat → Nat), h x1 = some (xna N13 f14) ∧ x5 < N13 ∧ N13 < 2 ^ 31 ∧ ((f14 x5) < 2 ^ 31 ∧ (∃ (o18 : Nat) (o19 : Nat), h b8 = some (xo 1 [.ref o18, .int (nI o19)]) ∧ Ct g M_X0_set [.ref b8, .long (lN ((x3 / (max 1 (f11 x5))) * (f14 x5)))] h nx (fun r h15 n16 => r = none ∧ Blk g M_X5_begin post 33 [(0, .ref x0), (1, .ref x1), (2, .ref x2), (3, .long (lN x3)), (5, .int (nI (x5 + 1)))] [] h15 n16 0 0))))))))))))))) : Blk g M_X5_begin post 33 [(0, .ref x0), (1, .ref x1), (2, .ref x2), (3, .long (lN x3)), (5, .int (nI x5))] [] h nx 0 0 := by
  refine r_iload 4 dX5_begin_33 rfl ?_
  refine r_aload_n 0 dX5_begin_35 rfl rfl ?_
  obtain ⟨o2, o3, o4, q1, V⟩ := V
  refine r_getf (ci := 6) (kf := 0) (T := TX5) rfl in_X5 (by decide) wF_X5_9 dX5_begin_36 q1 rfl ?_
  obtain ⟨N6, f7, q5, V⟩ := V
  refine r_alen (kd := 4) (by decide) dX5_begin_39 q5 ?_
  obtain ⟨c, V⟩ := V
  refine r_icmp_geN (tgt := 76) dX5_begin_40 (by decide) c (fun c => ?_) (fun c => ?_)
  · have V := V.1 c
    refine r_iconst (v := (nI 0)) dX5_begin_76 rfl ?_
    refine r_istore (L' := [(5, .int (nI 0)), (0, .ref x0), (1, .ref x1), (2, .ref x2), (3, .long (lN x3))]) dX5_begin_77 (by decide) rfl ?_
    exact Blk.sub [1, 4, 0] rfl V
  · have V := V.2 c
    refine r_aload_n 0 dX5_begin_43 rfl rfl ?_
    refine r_getf (ci := 6) (kf := 0) (T := TX5) rfl in_X5 (by decide) wF_X5_9 dX5_begin_44 q1 rfl ?_
    refine r_iload 4 dX5_begin_47 rfl ?_
    obtain ⟨b8, c, cN, cb, V⟩ := V
    refine r_aald (kd := 4) (C0 := RX0) (fun _ => rfl) dX5_begin_49 q5 rfl c cN cb ?_
    refine r_lload_n 3 dX5_begin_50 rfl rfl ?_
    refine r_iconst (v := (nI 1)) dX5_begin_51 rfl ?_
    refine r_aload_n 2 dX5_begin_52 rfl rfl ?_
    refine r_iload 4 dX5_begin_53 rfl ?_
    obtain ⟨N10, f11, q9, V⟩ := V
    obtain ⟨c, cN, V⟩ := V
    refine r_iald dX5_begin_55 q9 rfl c cN ?_
    show Blk g M_X5_begin post 56 [(0, .ref x0), (1, .ref x1), (2, .ref x2), (3, .long (lN x3)), (5, .int (nI x5))] [.int (nI (f11 x5)), .int (nI 1), .long (lN x3), .ref b8] h nx 0 0
    refine r_mmax wM_X5_45 ws_J9_max_7cf53 wI_java_lang_Math wc_J9_max_7cf53 dX5_begin_56 (by decide) (Nat.le_of_ble_eq_true rfl) (by decide) (by decide) ?_
    obtain ⟨c, V⟩ := V
    rw [n_max c.1 c.2]
    show Blk g M_X5_begin post 59 [(0, .ref x0), (1, .ref x1), (2, .ref x2), (3, .long (lN x3)), (5, .int (nI x5))] [.int (nI (max 1 (f11 x5))), .long (lN x3), .ref b8] h nx 0 0
    obtain ⟨c, V⟩ := V
    refine r_i2lN dX5_begin_59 c ?_
    obtain ⟨c, V⟩ := V
    refine r_ldivN dX5_begin_60 c ?_
    refine r_aload_n 1 dX5_begin_61 rfl rfl ?_
    refine r_iload 4 dX5_begin_62 rfl ?_
    obtain ⟨N13, f14, q12, V⟩ := V
    obtain ⟨c, cN, V⟩ := V
    refine r_iald dX5_begin_64 q12 rfl c cN ?_
    show Blk g M_X5_begin post 65 [(0, .ref x0), (1, .ref x1), (2, .ref x2), (3, .long (lN x3)), (5, .int (nI x5))] [.int (nI (f14 x5)), .long (lN (x3 / (max 1 (f11 x5)))), .ref b8] h nx 0 0
    obtain ⟨c, V⟩ := V
    refine r_i2lN dX5_begin_65 c ?_
    refine r_lmulN dX5_begin_66 ?_
    obtain ⟨o18, o19, q17, V⟩ := V
    refine r_callV (M2 := M_X0_set) (ci := 1) (n := 1) (As := [.long (lN ((x3 / (max 1 (f11 x5))) * (f14 x5)))]) rfl (wl5 wM_X5_51 wi_X0_set wS_X0_set wI_StateShares_Big wc_X0_set) (by decide +kernel) (by decide) rfl rfl (Nat.le_of_ble_eq_true rfl) dX5_begin_67 q17 (by decide) (by decide) (Ct.imp V (fun r h15 n16 V => ?_))
    obtain ⟨rfl, V⟩ := V
    show Blk g M_X5_begin post 70 [(0, .ref x0), (1, .ref x1), (2, .ref x2), (3, .long (lN x3)), (5, .int (nI x5))] [] h15 n16 0 0
    refine r_iincN 4 (b := 1) (L' := [(5, .int (nI (x5 + 1))), (0, .ref x0), (1, .ref x1), (2, .ref x2), (3, .long (lN x3))]) dX5_begin_70 rfl rfl (by decide) rfl ?_
    refine r_goto (tgt := 33) dX5_begin_73 (by decide) ?_
    exact Blk.sub [1, 2, 3, 4, 0] rfl V
set_option maxRecDepth 20000 in
theorem v_X5_begin_79 {g : xG} {post : xPost} {h : xHp} {nx : Nat} {x0 : Nat} {x3 : Nat} {x5 : Nat} (V : (∃ (o2 : Nat) (o3 : Nat) (o4 : Nat), h x0 = some (xo 6 [.ref o2, .ref o3, .ref o4]) ∧ (∃ (N6 : Nat) (f7 : Nat → Nat), h o4 = some (xna N6 f7) ∧ ((x5 < 2 ^ 31 ∧ N6 < 2 ^ 31) ∧ ((N6 ≤ x5 → (Ct g M_X5_growWhole [.ref x0, .long (lN x3)] h nx (fun r h8 n9 => r = none ∧ (post none h8 n9)))) ∧ (x5 < N6 → (x5 < N6 ∧ N6 < 2 ^ 31 ∧ Blk g M_X5_begin post 79 [(0, .ref x0), (3, .long (lN x3)), (5, .int (nI (x5 + 1)))] [] (xup h o4 (xna N6 (va_up f7 x5 0))) nx 0 0))))))) : Blk g M_X5_begin post 79 [(0, .ref x0), (3, .long (lN x3)), (5, .int (nI x5))] [] h nx 0 0 := by
  refine r_iload 2 dX5_begin_79 rfl ?_
  refine r_aload_n 0 dX5_begin_81 rfl rfl ?_
  obtain ⟨o2, o3, o4, q1, V⟩ := V
  refine r_getf (ci := 6) (kf := 2) (T := TX5) rfl in_X5 (by decide) wF_X5_28 dX5_begin_82 q1 rfl ?_
  obtain ⟨N6, f7, q5, V⟩ := V
  refine r_alen (kd := 0) (by decide) dX5_begin_85 q5 ?_
  obtain ⟨c, V⟩ := V
  refine r_icmp_geN (tgt := 103) dX5_begin_86 (by decide) c (fun c => ?_) (fun c => ?_)
  · have V := V.1 c
    refine r_aload_n 0 dX5_begin_103 rfl rfl ?_
    refine r_lload_n 1 dX5_begin_104 rfl rfl ?_
    refine r_callV (M2 := M_X5_growWhole) (ci := 6) (n := 1) (As := [.long (lN x3)]) rfl (wl5 wM_X5_55 wi_X5_growWhole wS_X5_growWhole wI_StateShares_Row wc_X5_growWhole) (by decide +kernel) (by decide) rfl rfl (Nat.le_of_ble_eq_true rfl) dX5_begin_105 q1 (by decide) (by decide) (Ct.imp V (fun r h8 n9 V => ?_))
    obtain ⟨rfl, V⟩ := V
    show Blk g M_X5_begin post 108 [(0, .ref x0), (3, .long (lN x3)), (5, .int (nI x5))] [] h8 n9 0 0
    exact r_vret dX5_begin_108 rfl (by decide) (by decide) V
  · have V := V.2 c
    refine r_aload_n 0 dX5_begin_89 rfl rfl ?_
    refine r_getf (ci := 6) (kf := 2) (T := TX5) rfl in_X5 (by decide) wF_X5_28 dX5_begin_90 q1 rfl ?_
    refine r_iload 2 dX5_begin_93 rfl ?_
    refine r_iconst (v := (nI 0)) dX5_begin_95 rfl ?_
    obtain ⟨c, cN, V⟩ := V
    refine r_iastN dX5_begin_96 q5 c cN ?_
    show Blk g M_X5_begin post 97 [(0, .ref x0), (3, .long (lN x3)), (5, .int (nI x5))] [] (xup h o4 (xna N6 (va_up f7 x5 0))) nx 0 0
    refine r_iincN 2 (b := 1) (L' := [(5, .int (nI (x5 + 1))), (0, .ref x0), (3, .long (lN x3))]) dX5_begin_97 rfl rfl (by decide) rfl ?_
    refine r_goto (tgt := 79) dX5_begin_100 (by decide) ?_
    exact Blk.sub [1, 2, 0] rfl V
set_option maxRecDepth 20000 in
theorem v_X5_commonMultiple_0 {g : xG} {post : xPost} {h : xHp} {nx : Nat} {x0 : Nat} {x2 : Nat} (V : (x2 < 2 ^ 31 ∧ (Ct g M_X9_commonDivisor [.long (lN x0), .long (lN x2)] h nx (fun r h1 n2 => ∃ v3 : Nat, r = some (.long (lN v3)) ∧ ((1 < 2 ^ 63 ∧ v3 < 2 ^ 63) ∧ ((x0 < 2 ^ 63 ∧ 0 < (max 1 v3) ∧ (max 1 v3) < 2 ^ 63) ∧ (x2 < 2 ^ 31 ∧ (post (some (.long (lN ((x0 / (max 1 v3)) * x2)))) h1 n2)))))))) : Blk g M_X5_commonMultiple post 0 [(0, .long (lN x0)), (2, .int (nI x2))] [] h nx 0 0 := by
  refine r_lload_n 0 dX5_commonMultiple_0 rfl rfl ?_
  refine r_lconst (v := (lN 1)) dX5_commonMultiple_1 rfl ?_
  refine r_lload_n 0 dX5_commonMultiple_2 rfl rfl ?_
  refine r_iload_n 1 dX5_commonMultiple_3 rfl rfl ?_
  obtain ⟨c, V⟩ := V
  refine r_i2lN dX5_commonMultiple_4 c ?_
  refine r_callSN (M2 := M_X9_commonDivisor) (n := 2) (As := [.long (lN x0), .long (lN x2)]) (fun _ q => q.2.2.1.2.2.2) (wl3 ws_X9_commonDivisor wI_StateShares wc_X9_commonDivisor) (by decide +kernel) (by decide) rfl rfl (Nat.le_of_ble_eq_true rfl) dX5_commonMultiple_5 (by decide) (by decide) (Ct.imp V (fun r h1 n2 V => ?_))
  obtain ⟨v3, rfl, V⟩ := V
  show Blk g M_X5_commonMultiple post 8 [(0, .long (lN x0)), (2, .int (nI x2))] [.long (lN v3), .long (lN 1), .long (lN x0)] h1 n2 0 0
  refine r_mmaxl wM_X5_62 ws_J9_max_f86c9 wI_java_lang_Math wc_J9_max_f86c9 dX5_commonMultiple_8 (by decide) (Nat.le_of_ble_eq_true rfl) (by decide) (by decide) ?_
  obtain ⟨c, V⟩ := V
  rw [n_maxl c.1 c.2]
  show Blk g M_X5_commonMultiple post 11 [(0, .long (lN x0)), (2, .int (nI x2))] [.long (lN (max 1 v3)), .long (lN x0)] h1 n2 0 0
  obtain ⟨c, V⟩ := V
  refine r_ldivN dX5_commonMultiple_11 c ?_
  refine r_iload_n 1 dX5_commonMultiple_12 rfl rfl ?_
  obtain ⟨c, V⟩ := V
  refine r_i2lN dX5_commonMultiple_13 c ?_
  refine r_lmulN dX5_commonMultiple_14 ?_
  exact r_lret dX5_commonMultiple_15 rfl (by decide) (by decide) V
set_option maxRecDepth 20000 in
theorem v_X5_growWhole_0 {g : xG} {post : xPost} {h : xHp} {nx : Nat} {x0 : Nat} {x1 : Nat} (V : Blk g M_X5_growWhole post 5 [(0, .ref x0), (3, .long (lN x1)), (5, .int (nI 0))] [] h nx 0 0) : Blk g M_X5_growWhole post 0 [(0, .ref x0), (1, .long (lN x1))] [] h nx 0 0 := by
  refine r_lload_n 1 dX5_growWhole_0 rfl rfl ?_
  refine r_lstore_n (L' := [(3, .long (lN x1)), (0, .ref x0), (1, .long (lN x1))]) dX5_growWhole_1 rfl (by decide) rfl ?_
  refine r_iconst (v := (nI 0)) dX5_growWhole_2 rfl ?_
  refine r_istore (L' := [(5, .int (nI 0)), (3, .long (lN x1)), (0, .ref x0), (1, .long (lN x1))]) dX5_growWhole_3 (by decide) rfl ?_
  exact Blk.sub [2, 1, 0] rfl V
set_option maxRecDepth 20000 in
theorem v_X5_growWhole_5 {g : xG} {post : xPost} {h : xHp} {nx : Nat} {x0 : Nat} {x3 : Nat} {x5 : Nat} (V : (∃ (o2 : Nat) (o3 : Nat) (o4 : Nat), h x0 = some (xo 6 [.ref o2, .ref o3, .ref o4]) ∧ (∃ (N6 : Nat) (f7 : Nat → Nat), h o4 = some (xna N6 f7) ∧ ((x5 < 2 ^ 31 ∧ N6 < 2 ^ 31) ∧ ((N6 ≤ x5 → (post none h nx)) ∧ (x5 < N6 → ((x3 < 2 ^ 63 ∧ 1 < 2 ^ 63) ∧ ((x3 ≤ 1 → (post none h nx)) ∧ (1 < x3 → (x5 < 168 ∧ ((2 < 2 ^ 31 ∧ (xpr x5) < 2 ^ 31) ∧ Blk g M_X5_growWhole post 36 [(0, .ref x0), (3, .long (lN x3)), (5, .int (nI x5)), (6, .int (nI (max 2 (xpr x5)))), (7, .int (nI 0))] [] h nx 0 0))))))))))) : Blk g M_X5_growWhole post 5 [(0, .ref x0), (3, .long (lN x3)), (5, .int (nI x5))] [] h nx 0 0 := by
  refine r_iload 2 dX5_growWhole_5 rfl ?_
  refine r_aload_n 0 dX5_growWhole_7 rfl rfl ?_
  obtain ⟨o2, o3, o4, q1, V⟩ := V
  refine r_getf (ci := 6) (kf := 2) (T := TX5) rfl in_X5 (by decide) wF_X5_28 dX5_growWhole_8 q1 rfl ?_
  obtain ⟨N6, f7, q5, V⟩ := V
  refine r_alen (kd := 0) (by decide) dX5_growWhole_11 q5 ?_
  obtain ⟨c, V⟩ := V
  refine r_icmp_geN (tgt := 82) dX5_growWhole_12 (by decide) c (fun c => ?_) (fun c => ?_)
  · have V := V.1 c
    exact r_vret dX5_growWhole_82 rfl (by decide) (by decide) V
  · have V := V.2 c
    refine r_lload_n 1 dX5_growWhole_15 rfl rfl ?_
    refine r_lconst (v := (lN 1)) dX5_growWhole_16 rfl ?_
    obtain ⟨c, V⟩ := V
    refine r_lif_le (tgt := 82) dX5_growWhole_17 dX5_growWhole_18 (by decide) c (fun c => ?_) (fun c => ?_)
    · have V := V.1 c
      exact r_vret dX5_growWhole_82 rfl (by decide) (by decide) V
    · have V := V.2 c
      refine r_iconst (v := (nI 2)) dX5_growWhole_21 rfl ?_
      refine r_gsP5 rfl dX5_growWhole_22 ?_
      refine r_iload 2 dX5_growWhole_25 rfl ?_
      obtain ⟨c, V⟩ := V
      refine r_ialdP dX5_growWhole_27 rfl c ?_
      refine r_mmax wM_X5_45 ws_J9_max_7cf53 wI_java_lang_Math wc_J9_max_7cf53 dX5_growWhole_28 (by decide) (Nat.le_of_ble_eq_true rfl) (by decide) (by decide) ?_
      obtain ⟨c, V⟩ := V
      rw [n_max c.1 c.2]
      show Blk g M_X5_growWhole post 31 [(0, .ref x0), (3, .long (lN x3)), (5, .int (nI x5))] [.int (nI (max 2 (xpr x5)))] h nx 0 0
      refine r_istore (L' := [(6, .int (nI (max 2 (xpr x5)))), (0, .ref x0), (3, .long (lN x3)), (5, .int (nI x5))]) dX5_growWhole_31 (by decide) rfl ?_
      refine r_iconst (v := (nI 0)) dX5_growWhole_33 rfl ?_
      refine r_istore (L' := [(7, .int (nI 0)), (6, .int (nI (max 2 (xpr x5)))), (0, .ref x0), (3, .long (lN x3)), (5, .int (nI x5))]) dX5_growWhole_34 (by decide) rfl ?_
      exact Blk.sub [2, 3, 4, 1, 0] rfl V
set_option maxRecDepth 20000 in
theorem v_X5_growWhole_36 {g : xG} {post : xPost} {h : xHp} {nx : Nat} {x0 : Nat} {x3 : Nat} {x5 : Nat} {x6 : Nat} {x7 : Nat} (V : ((x7 < 2 ^ 31 ∧ 63 < 2 ^ 31) ∧ ((63 ≤ x7 → Blk g M_X5_growWhole post 5 [(0, .ref x0), (3, .long (lN x3)), (5, .int (nI (x5 + 1)))] [] h nx 0 0) ∧ (x7 < 63 → (x6 < 2 ^ 31 ∧ ((x3 < 2 ^ 63 ∧ 0 < x6 ∧ x6 < 2 ^ 63) ∧ (((x3 % x6) < 2 ^ 63 ∧ 0 < 2 ^ 63) ∧ ((¬ (x3 % x6) = 0 → Blk g M_X5_growWhole post 5 [(0, .ref x0), (3, .long (lN x3)), (5, .int (nI (x5 + 1)))] [] h nx 0 0) ∧ ((x3 % x6) = 0 → (x6 < 2 ^ 31 ∧ ((x3 < 2 ^ 63 ∧ 0 < x6 ∧ x6 < 2 ^ 63) ∧ (∃ (o2 : Nat) (o3 : Nat) (o4 : Nat), h x0 = some (xo 6 [.ref o2, .ref o3, .ref o4]) ∧ (∃ (N6 : Nat) (f7 : Nat → Nat), h o4 = some (xna N6 f7) ∧ x5 < N6 ∧ N6 < 2 ^ 31 ∧ (x5 < N6 ∧ N6 < 2 ^ 31 ∧ Blk g M_X5_growWhole post 36 [(0, .ref x0), (3, .long (lN (x3 / x6))), (5, .int (nI x5)), (6, .int (nI x6)), (7, .int (nI (x7 + 1)))] [] (xup h o4 (xna N6 (va_up f7 x5 ((f7 x5) + 1)))) nx 0 0)))))))))))))) : Blk g M_X5_growWhole post 36 [(0, .ref x0), (3, .long (lN x3)), (5, .int (nI x5)), (6, .int (nI x6)), (7, .int (nI x7))] [] h nx 0 0 := by
  refine r_iload 4 dX5_growWhole_36 rfl ?_
  refine r_bipush (v := (nI 63)) dX5_growWhole_38 rfl ?_
  obtain ⟨c, V⟩ := V
  refine r_icmp_geN (tgt := 76) dX5_growWhole_40 (by decide) c (fun c => ?_) (fun c => ?_)
  · have V := V.1 c
    refine r_iincN 2 (b := 1) (L' := [(5, .int (nI (x5 + 1))), (0, .ref x0), (3, .long (lN x3)), (6, .int (nI x6)), (7, .int (nI x7))]) dX5_growWhole_76 rfl rfl (by decide) rfl ?_
    refine r_goto (tgt := 5) dX5_growWhole_79 (by decide) ?_
    exact Blk.sub [1, 2, 0] rfl V
  · have V := V.2 c
    refine r_lload_n 1 dX5_growWhole_43 rfl rfl ?_
    refine r_iload 3 dX5_growWhole_44 rfl ?_
    obtain ⟨c, V⟩ := V
    refine r_i2lN dX5_growWhole_46 c ?_
    obtain ⟨c, V⟩ := V
    refine r_lremN dX5_growWhole_47 c ?_
    refine r_lconst (v := (lN 0)) dX5_growWhole_48 rfl ?_
    obtain ⟨c, V⟩ := V
    refine r_lif_ne (tgt := 76) dX5_growWhole_49 dX5_growWhole_50 (by decide) c (fun c => ?_) (fun c => ?_)
    · have V := V.1 c
      refine r_iincN 2 (b := 1) (L' := [(5, .int (nI (x5 + 1))), (0, .ref x0), (3, .long (lN x3)), (6, .int (nI x6)), (7, .int (nI x7))]) dX5_growWhole_76 rfl rfl (by decide) rfl ?_
      refine r_goto (tgt := 5) dX5_growWhole_79 (by decide) ?_
      exact Blk.sub [1, 2, 0] rfl V
    · have V := V.2 c
      refine r_lload_n 1 dX5_growWhole_53 rfl rfl ?_
      refine r_iload 3 dX5_growWhole_54 rfl ?_
      obtain ⟨c, V⟩ := V
      refine r_i2lN dX5_growWhole_56 c ?_
      obtain ⟨c, V⟩ := V
      refine r_ldivN dX5_growWhole_57 c ?_
      refine r_lstore_n (L' := [(3, .long (lN (x3 / x6))), (0, .ref x0), (5, .int (nI x5)), (6, .int (nI x6)), (7, .int (nI x7))]) dX5_growWhole_58 rfl (by decide) rfl ?_
      refine r_aload_n 1 dX5_growWhole_59 rfl rfl ?_
      obtain ⟨o2, o3, o4, q1, V⟩ := V
      refine r_getf (ci := 6) (kf := 2) (T := TX5) rfl in_X5 (by decide) wF_X5_28 dX5_growWhole_60 q1 rfl ?_
      refine r_iload 2 dX5_growWhole_63 rfl ?_
      refine r_dup2_11 dX5_growWhole_65 rfl rfl ?_
      obtain ⟨N6, f7, q5, V⟩ := V
      obtain ⟨c, cN, V⟩ := V
      refine r_iald dX5_growWhole_66 q5 rfl c cN ?_
      show Blk g M_X5_growWhole post 67 [(3, .long (lN (x3 / x6))), (0, .ref x0), (5, .int (nI x5)), (6, .int (nI x6)), (7, .int (nI x7))] [.int (nI (f7 x5)), .int (nI x5), .ref o4] h nx 0 0
      refine r_iconst (v := (nI 1)) dX5_growWhole_67 rfl ?_
      refine r_iaddN dX5_growWhole_68 ?_
      obtain ⟨c, cN, V⟩ := V
      refine r_iastN dX5_growWhole_69 q5 c cN ?_
      show Blk g M_X5_growWhole post 70 [(3, .long (lN (x3 / x6))), (0, .ref x0), (5, .int (nI x5)), (6, .int (nI x6)), (7, .int (nI x7))] [] (xup h o4 (xna N6 (va_up f7 x5 ((f7 x5) + 1)))) nx 0 0
      refine r_iincN 4 (b := 1) (L' := [(7, .int (nI (x7 + 1))), (3, .long (lN (x3 / x6))), (0, .ref x0), (5, .int (nI x5)), (6, .int (nI x6))]) dX5_growWhole_70 rfl rfl (by decide) rfl ?_
      refine r_goto (tgt := 36) dX5_growWhole_73 (by decide) ?_
      exact Blk.sub [2, 1, 3, 4, 0] rfl V
set_option maxRecDepth 20000 in
theorem v_X5_transfer_0 {g : xG} {post : xPost} {h : xHp} {nx : Nat} {x0 : Nat} {x1 : Nat} {x2 : Nat} {x3 : Nat} {x4 : Nat} (V : (x3 < 2 ^ 31 ∧ ((x3 = 0 → (post none h nx)) ∧ (¬ x3 = 0 → (∃ (o2 : Nat) (o3 : Nat) (o4 : Nat), h x0 = some (xo 6 [.ref o2, .ref o3, .ref o4]) ∧ (∃ (N6 : Nat) (f7 : Nat → Option Nat), h o2 = some (xra 4 N6 f7) ∧ ∃ b8 : Nat, x1 < N6 ∧ N6 < 2 ^ 31 ∧ f7 x1 = some b8 ∧ (∃ (o12 : Nat) (o13 : Nat), h b8 = some (xo 1 [.ref o12, .int (nI o13)]) ∧ Ct g M_X0_isZero [.ref b8] h nx (fun r h9 n10 => ∃ v14 : Nat, r = some (.int (nI v14)) ∧ (v14 < 2 ^ 31 ∧ ((v14 = 0 → Blk g M_X5_transfer post 20 [(0, .ref x0), (1, .int (nI x1)), (2, .int (nI x2)), (3, .int (nI x3)), (4, .int (nI x4)), (5, .int (nI 0))] [] h9 n10 0 0) ∧ (¬ v14 = 0 → (post none h9 n10)))))))))))) : Blk g M_X5_transfer post 0 [(0, .ref x0), (1, .int (nI x1)), (2, .int (nI x2)), (3, .int (nI x3)), (4, .int (nI x4))] [] h nx 0 0 := by
  refine r_iload_n 3 dX5_transfer_0 rfl rfl ?_
  obtain ⟨c, V⟩ := V
  refine r_if_eqN (tgt := 16) dX5_transfer_1 (by decide) c (fun c => ?_) (fun c => ?_)
  · have V := V.1 c
    exact r_vret dX5_transfer_16 rfl (by decide) (by decide) V
  · have V := V.2 c
    refine r_aload_n 0 dX5_transfer_4 rfl rfl ?_
    obtain ⟨o2, o3, o4, q1, V⟩ := V
    refine r_getf (ci := 6) (kf := 0) (T := TX5) rfl in_X5 (by decide) wF_X5_9 dX5_transfer_5 q1 rfl ?_
    refine r_iload_n 1 dX5_transfer_8 rfl rfl ?_
    obtain ⟨N6, f7, q5, V⟩ := V
    obtain ⟨b8, c, cN, cb, V⟩ := V
    refine r_aald (kd := 4) (C0 := RX0) (fun _ => rfl) dX5_transfer_9 q5 rfl c cN cb ?_
    obtain ⟨o12, o13, q11, V⟩ := V
    refine r_callV (M2 := M_X0_isZero) (ci := 1) (n := 0) (As := []) rfl (wl5 wM_X5_64 wi_X0_isZero wS_X0_isZero wI_StateShares_Big wc_X0_isZero) (by decide +kernel) (by decide) rfl rfl (Nat.le_of_ble_eq_true rfl) dX5_transfer_10 q11 (by decide) (by decide) (Ct.imp V (fun r h9 n10 V => ?_))
    obtain ⟨v14, rfl, V⟩ := V
    show Blk g M_X5_transfer post 13 [(0, .ref x0), (1, .int (nI x1)), (2, .int (nI x2)), (3, .int (nI x3)), (4, .int (nI x4))] [.int (nI v14)] h9 n10 0 0
    obtain ⟨c, V⟩ := V
    refine r_if_eqN (tgt := 17) dX5_transfer_13 (by decide) c (fun c => ?_) (fun c => ?_)
    · have V := V.1 c
      refine r_iconst (v := (nI 0)) dX5_transfer_17 rfl ?_
      refine r_istore (L' := [(5, .int (nI 0)), (0, .ref x0), (1, .int (nI x1)), (2, .int (nI x2)), (3, .int (nI x3)), (4, .int (nI x4))]) dX5_transfer_18 (by decide) rfl ?_
      exact Blk.sub [1, 2, 3, 4, 5, 0] rfl V
    · have V := V.2 c
      exact r_vret dX5_transfer_16 rfl (by decide) (by decide) V
set_option maxRecDepth 20000 in
theorem v_X5_transfer_20 {g : xG} {post : xPost} {h : xHp} {nx : Nat} {x0 : Nat} {x1 : Nat} {x2 : Nat} {x3 : Nat} {x4 : Nat} {x5 : Nat} (V : (∃ (o2 : Nat) (o3 : Nat) (o4 : Nat), h x0 = some (xo 6 [.ref o2, .ref o3, .ref o4]) ∧ (∃ (N6 : Nat) (f7 : Nat → Option Nat), h o2 = some (xra 4 N6 f7) ∧ ((x5 < 2 ^ 31 ∧ N6 < 2 ^ 31) ∧ ((N6 ≤ x5 → (∃ b8 : Nat, x2 < N6 ∧ N6 < 2 ^ 31 ∧ f7 x2 = some b8 ∧ (∃ b9 : Nat, x1 < N6 ∧ N6 < 2 ^ 31 ∧ f7 x1 = some b9 ∧ (∃ (o13 : Nat) (o14 : Nat), h b8 = some (xo 1 [.ref o13, .int (nI o14)]) ∧ Ct g M_X0_addProduct [.ref b8, .ref b9, .int (nI x3), .int (nI 0)] h nx (fun r h10 n11 => r = none ∧ (∃ (o16 : Nat) (o17 : Nat) (o18 : Nat), h10 x0 = some (xo 6 [.ref o16, .ref o17, .ref o18]) ∧ (∃ (N20 : Nat) (f21 : Nat → Option Nat), h10 o16 = some (xra 4 N20 f21) ∧ ∃ b22 : Nat, x1 < N20 ∧ N20 < 2 ^ 31 ∧ f21 x1 = some b22 ∧ (x3 ≤ x4 ∧ (∃ (o26 : Nat) (o27 : Nat), h10 b22 = some (xo 1 [.ref o26, .int (nI o27)]) ∧ Ct g M_X0_multiply [.ref b22, .int (nI (x4 - x3))] h10 n11 (fun r h23 n24 => r = none ∧ (x4 < 2 ^ 31 ∧ (∃ (o31 : Nat) (o32 : Nat) (o33 : Nat), h23 x0 = some (xo 6 [.ref o31, .ref o32, .ref o33]) ∧ Ct g M_X5_growWhole [.ref x0, .long (lN x4)] h23 n24 (fun r h28 n29 => r = none ∧ (post none h28 n29)))))))))))))) ∧ (x5 < N6 → ((x5 < 2 ^ 31 ∧ x1 < 2 ^ 31) ∧ ((x5 = x1 → Blk g M_X5_transfer post 20 [(0, .ref x0), (1, .int (nI x1)), (2, .int (nI x2)), (3, .int (nI x3)), (4, .int (nI x4)), (5, .int (nI (x5 + 1)))] [] h nx 0 0) ∧ (¬ x5 = x1 → (∃ b34 : Nat, x5 < N6 ∧ N6 < 2 ^ 31 ∧ f7 x5 = some b34 ∧ (∃ (o38 : Nat) (o39 : Nat), h b34 = some (xo 1 [.ref o38, .int (nI o39)]) ∧ Ct g M_X0_multiply [.ref b34, .int (nI x4)] h nx (fun r h35 n36 => r = none ∧ Blk g M_X5_transfer post 20 [(0, .ref x0), (1, .int (nI x1)), (2, .int (nI x2)), (3, .int (nI x3)), (4, .int (nI x4)), (5, .int (nI (x5 + 1)))] [] h35 n36 0 0)))))))))))) : Blk g M_X5_transfer post 20 [(0, .ref x0), (1, .int (nI x1)), (2, .int (nI x2)), (3, .int (nI x3)), (4, .int (nI x4)), (5, .int (nI x5))] [] h nx 0 0 := by
  refine r_iload 5 dX5_transfer_20 rfl ?_
  refine r_aload_n 0 dX5_transfer_22 rfl rfl ?_
  obtain ⟨o2, o3, o4, q1, V⟩ := V
  refine r_getf (ci := 6) (kf := 0) (T := TX5) rfl in_X5 (by decide) wF_X5_9 dX5_transfer_23 q1 rfl ?_
  obtain ⟨N6, f7, q5, V⟩ := V
  refine r_alen (kd := 4) (by decide) dX5_transfer_26 q5 ?_
  obtain ⟨c, V⟩ := V
  refine r_icmp_geN (tgt := 54) dX5_transfer_27 (by decide) c (fun c => ?_) (fun c => ?_)
  · have V := V.1 c
    refine r_aload_n 0 dX5_transfer_54 rfl rfl ?_
    refine r_getf (ci := 6) (kf := 0) (T := TX5) rfl in_X5 (by decide) wF_X5_9 dX5_transfer_55 q1 rfl ?_
    refine r_iload_n 2 dX5_transfer_58 rfl rfl ?_
    obtain ⟨b8, c, cN, cb, V⟩ := V
    refine r_aald (kd := 4) (C0 := RX0) (fun _ => rfl) dX5_transfer_59 q5 rfl c cN cb ?_
    refine r_aload_n 0 dX5_transfer_60 rfl rfl ?_
    refine r_getf (ci := 6) (kf := 0) (T := TX5) rfl in_X5 (by decide) wF_X5_9 dX5_transfer_61 q1 rfl ?_
    refine r_iload_n 1 dX5_transfer_64 rfl rfl ?_
    obtain ⟨b9, c, cN, cb, V⟩ := V
    refine r_aald (kd := 4) (C0 := RX0) (fun _ => rfl) dX5_transfer_65 q5 rfl c cN cb ?_
    refine r_iload_n 3 dX5_transfer_66 rfl rfl ?_
    refine r_iconst (v := (nI 0)) dX5_transfer_67 rfl ?_
    obtain ⟨o13, o14, q12, V⟩ := V
    refine r_callV (M2 := M_X0_addProduct) (ci := 1) (n := 3) (As := [.ref b9, .int (nI x3), .int (nI 0)]) rfl (wl5 wM_X5_71 wi_X0_addProduct wS_X0_addProduct wI_StateShares_Big wc_X0_addProduct) (by decide +kernel) (by decide) rfl rfl (Nat.le_of_ble_eq_true rfl) dX5_transfer_68 q12 (by decide) (by decide) (Ct.imp V (fun r h10 n11 V => ?_))
    obtain ⟨rfl, V⟩ := V
    show Blk g M_X5_transfer post 71 [(0, .ref x0), (1, .int (nI x1)), (2, .int (nI x2)), (3, .int (nI x3)), (4, .int (nI x4)), (5, .int (nI x5))] [] h10 n11 0 0
    refine r_aload_n 0 dX5_transfer_71 rfl rfl ?_
    obtain ⟨o16, o17, o18, q15, V⟩ := V
    refine r_getf (ci := 6) (kf := 0) (T := TX5) rfl in_X5 (by decide) wF_X5_9 dX5_transfer_72 q15 rfl ?_
    refine r_iload_n 1 dX5_transfer_75 rfl rfl ?_
    obtain ⟨N20, f21, q19, V⟩ := V
    obtain ⟨b22, c, cN, cb, V⟩ := V
    refine r_aald (kd := 4) (C0 := RX0) (fun _ => rfl) dX5_transfer_76 q19 rfl c cN cb ?_
    refine r_iload 4 dX5_transfer_77 rfl ?_
    refine r_iload_n 3 dX5_transfer_79 rfl rfl ?_
    obtain ⟨c, V⟩ := V
    refine r_isubN dX5_transfer_80 c ?_
    obtain ⟨o26, o27, q25, V⟩ := V
    refine r_callV (M2 := M_X0_multiply) (ci := 1) (n := 1) (As := [.int (nI (x4 - x3))]) rfl (wl5 wM_X5_68 wi_X0_multiply wS_X0_multiply wI_StateShares_Big wc_X0_multiply) (by decide +kernel) (by decide) rfl rfl (Nat.le_of_ble_eq_true rfl) dX5_transfer_81 q25 (by decide) (by decide) (Ct.imp V (fun r h23 n24 V => ?_))
    obtain ⟨rfl, V⟩ := V
    show Blk g M_X5_transfer post 84 [(0, .ref x0), (1, .int (nI x1)), (2, .int (nI x2)), (3, .int (nI x3)), (4, .int (nI x4)), (5, .int (nI x5))] [] h23 n24 0 0
    refine r_aload_n 0 dX5_transfer_84 rfl rfl ?_
    refine r_iload 4 dX5_transfer_85 rfl ?_
    obtain ⟨c, V⟩ := V
    refine r_i2lN dX5_transfer_87 c ?_
    obtain ⟨o31, o32, o33, q30, V⟩ := V
    refine r_callV (M2 := M_X5_growWhole) (ci := 6) (n := 1) (As := [.long (lN x4)]) rfl (wl5 wM_X5_55 wi_X5_growWhole wS_X5_growWhole wI_StateShares_Row wc_X5_growWhole) (by decide +kernel) (by decide) rfl rfl (Nat.le_of_ble_eq_true rfl) dX5_transfer_88 q30 (by decide) (by decide) (Ct.imp V (fun r h28 n29 V => ?_))
    obtain ⟨rfl, V⟩ := V
    show Blk g M_X5_transfer post 91 [(0, .ref x0), (1, .int (nI x1)), (2, .int (nI x2)), (3, .int (nI x3)), (4, .int (nI x4)), (5, .int (nI x5))] [] h28 n29 0 0
    exact r_vret dX5_transfer_91 rfl (by decide) (by decide) V
  · have V := V.2 c
    refine r_iload 5 dX5_transfer_30 rfl ?_
    refine r_iload_n 1 dX5_transfer_32 rfl rfl ?_
    obtain ⟨c, V⟩ := V
    refine r_icmp_eqN (tgt := 48) dX5_transfer_33 (by decide) c (fun c => ?_) (fun c => ?_)
    · have V := V.1 c
      refine r_iincN 5 (b := 1) (L' := [(5, .int (nI (x5 + 1))), (0, .ref x0), (1, .int (nI x1)), (2, .int (nI x2)), (3, .int (nI x3)), (4, .int (nI x4))]) dX5_transfer_48 rfl rfl (by decide) rfl ?_
      refine r_goto (tgt := 20) dX5_transfer_51 (by decide) ?_
      exact Blk.sub [1, 2, 3, 4, 5, 0] rfl V
    · have V := V.2 c
      refine r_aload_n 0 dX5_transfer_36 rfl rfl ?_
      refine r_getf (ci := 6) (kf := 0) (T := TX5) rfl in_X5 (by decide) wF_X5_9 dX5_transfer_37 q1 rfl ?_
      refine r_iload 5 dX5_transfer_40 rfl ?_
      obtain ⟨b34, c, cN, cb, V⟩ := V
      refine r_aald (kd := 4) (C0 := RX0) (fun _ => rfl) dX5_transfer_42 q5 rfl c cN cb ?_
      refine r_iload 4 dX5_transfer_43 rfl ?_
      obtain ⟨o38, o39, q37, V⟩ := V
      refine r_callV (M2 := M_X0_multiply) (ci := 1) (n := 1) (As := [.int (nI x4)]) rfl (wl5 wM_X5_68 wi_X0_multiply wS_X0_multiply wI_StateShares_Big wc_X0_multiply) (by decide +kernel) (by decide) rfl rfl (Nat.le_of_ble_eq_true rfl) dX5_transfer_45 q37 (by decide) (by decide) (Ct.imp V (fun r h35 n36 V => ?_))
      obtain ⟨rfl, V⟩ := V
      show Blk g M_X5_transfer post 48 [(0, .ref x0), (1, .int (nI x1)), (2, .int (nI x2)), (3, .int (nI x3)), (4, .int (nI x4)), (5, .int (nI x5))] [] h35 n36 0 0
      refine r_iincN 5 (b := 1) (L' := [(5, .int (nI (x5 + 1))), (0, .ref x0), (1, .int (nI x1)), (2, .int (nI x2)), (3, .int (nI x3)), (4, .int (nI x4))]) dX5_transfer_48 rfl rfl (by decide) rfl ?_
      refine r_goto (tgt := 20) dX5_transfer_51 (by decide) ?_
      exact Blk.sub [1, 2, 3, 4, 5, 0] rfl V
set_option maxRecDepth 20000 in
theorem v_X5_move_0 {g : xG} {post : xPost} {h : xHp} {nx : Nat} {x0 : Nat} {x1 : Nat} {x2 : Nat} (V : Blk g M_X5_move post 5 [(0, .ref x0), (1, .ref x1), (2, .ref x2), (3, .long (lN 1)), (5, .int (nI 0))] [] h nx 0 0) : Blk g M_X5_move post 0 [(0, .ref x0), (1, .ref x1), (2, .ref x2)] [] h nx 0 0 := by
  refine r_lconst (v := (lN 1)) dX5_move_0 rfl ?_
  refine r_lstore_n (L' := [(3, .long (lN 1)), (0, .ref x0), (1, .ref x1), (2, .ref x2)]) dX5_move_1 rfl (by decide) rfl ?_
  refine r_iconst (v := (nI 0)) dX5_move_2 rfl ?_
  refine r_istore (L' := [(5, .int (nI 0)), (3, .long (lN 1)), (0, .ref x0), (1, .ref x1), (2, .ref x2)]) dX5_move_3 (by decide) rfl ?_
  exact Blk.sub [2, 3, 4, 1, 0] rfl V
set_option maxRecDepth 20000 in
theorem v_X5_move_5 {g : xG} {post : xPost} {h : xHp} {nx : Nat} {x0 : Nat} {x1 : Nat} {x2 : Nat} {x3 : Nat} {x5 : Nat} (V : (∃ (o2 : Nat) (o3 : Nat) (o4 : Nat), h x0 = some (xo 6 [.ref o2, .ref o3, .ref o4]) ∧ (∃ (N6 : Nat) (f7 : Nat → Option Nat), h o2 = some (xra 4 N6 f7) ∧ ((x5 < 2 ^ 31 ∧ N6 < 2 ^ 31) ∧ ((N6 ≤ x5 → Blk g M_X5_move post 56 [(0, .ref x0), (1, .ref x1), (2, .ref x2), (3, .long (lN x3)), (5, .int (nI 0))] [] h nx 0 0) ∧ (x5 < N6 → (∃ (N9 : Nat) (f10 : Nat → Option Nat), h x2 = some (xra 4 N9 f10) ∧ ∃ b11 : Nat, x5 < N9 ∧ N9 < 2 ^ 31 ∧ f10 x5 = some b11 ∧ (∃ (o15 : Nat) (o16 : Nat), h b11 = some (xo 1 [.ref o15, .int (nI o16)]) ∧ Ct g M_X0_set [.ref b11, .long (lN 0)] h nx (fun r h12 n13 => r = none ∧ (∃ (o18 : Nat) (o19 : Nat) (o20 : Nat), h12 x0 = some (xo 6 [.ref o18, .ref o19, .ref o20]) ∧ (∃ (N22 : Nat) (f23 : Nat → Option Nat), h12 o18 = some (xra 4 N22 f23) ∧ ∃ b24 : Nat, x5 < N22 ∧ N22 < 2 ^ 31 ∧ f23 x5 = some b24 ∧ (∃ (o28 : Nat) (o29 : Nat), h12 b24 = some (xo 1 [.ref o28, .int (nI o29)]) ∧ Ct g M_X0_isZero [.ref b24] h12 n13 (fun r h25 n26 => ∃ v30 : Nat, r = some (.int (nI v30)) ∧ (v30 < 2 ^ 31 ∧ ((¬ v30 = 0 → Blk g M_X5_move post 5 [(0, .ref x0), (1, .ref x1), (2, .ref x2), (3, .long (lN x3)), (5, .int (nI (x5 + 1)))] [] h25 n26 0 0) ∧ (v30 = 0 → (∃ (o34 : Nat) (o35 : Nat) (o36 : Nat) (o37 : Nat) (o38 : Nat) (o39 : Nat) (o40 : Nat) (o41 : Nat), h25 x1 = some (xo 5 [.int (nI o34), .ref o35, .ref o36, .ref o37, .ref o38, .ref o39, .int (nI o40), .int (nI o41)]) ∧ Ct g M_X4_bottom [.ref x1, .int (nI x5)] h25 n26 (fun r h31 n32 => ∃ v42 : Nat, r = some (.int (nI v42)) ∧ (Ct g M_X5_commonMultiple [.long (lN x3), .int (nI v42)] h31 n32 (fun r h43 n44 => ∃ v45 : Nat, r = some (.long (lN v45)) ∧ Blk g M_X5_move post 5 [(0, .ref x0), (1, .ref x1), (2, .ref x2), (3, .long (lN v45)), (5, .int (nI (x5 + 1)))] [] h43 n44 0 0)))))))))))))))))))) : Blk g M_X5_move post 5 [(0, .ref x0), (1, .ref x1), (2, .ref x2), (3, .long (lN x3)), (5, .int (nI x5))] [] h nx 0 0 := by
  refine r_iload 4 dX5_move_5 rfl ?_
  refine r_aload_n 0 dX5_move_7 rfl rfl ?_
  obtain ⟨o2, o3, o4, q1, V⟩ := V
  refine r_getf (ci := 6) (kf := 0) (T := TX5) rfl in_X5 (by decide) wF_X5_9 dX5_move_8 q1 rfl ?_
  obtain ⟨N6, f7, q5, V⟩ := V
  refine r_alen (kd := 4) (by decide) dX5_move_11 q5 ?_
  obtain ⟨c, V⟩ := V
  refine r_icmp_geN (tgt := 53) dX5_move_12 (by decide) c (fun c => ?_) (fun c => ?_)
  · have V := V.1 c
    refine r_iconst (v := (nI 0)) dX5_move_53 rfl ?_
    refine r_istore (L' := [(5, .int (nI 0)), (0, .ref x0), (1, .ref x1), (2, .ref x2), (3, .long (lN x3))]) dX5_move_54 (by decide) rfl ?_
    exact Blk.sub [1, 2, 3, 4, 0] rfl V
  · have V := V.2 c
    refine r_aload_n 2 dX5_move_15 rfl rfl ?_
    refine r_iload 4 dX5_move_16 rfl ?_
    obtain ⟨N9, f10, q8, V⟩ := V
    obtain ⟨b11, c, cN, cb, V⟩ := V
    refine r_aald (kd := 4) (C0 := RX0) (fun _ => rfl) dX5_move_18 q8 rfl c cN cb ?_
    refine r_lconst (v := (lN 0)) dX5_move_19 rfl ?_
    obtain ⟨o15, o16, q14, V⟩ := V
    refine r_callV (M2 := M_X0_set) (ci := 1) (n := 1) (As := [.long (lN 0)]) rfl (wl5 wM_X5_51 wi_X0_set wS_X0_set wI_StateShares_Big wc_X0_set) (by decide +kernel) (by decide) rfl rfl (Nat.le_of_ble_eq_true rfl) dX5_move_20 q14 (by decide) (by decide) (Ct.imp V (fun r h12 n13 V => ?_))
    obtain ⟨rfl, V⟩ := V
    show Blk g M_X5_move post 23 [(0, .ref x0), (1, .ref x1), (2, .ref x2), (3, .long (lN x3)), (5, .int (nI x5))] [] h12 n13 0 0
    refine r_aload_n 0 dX5_move_23 rfl rfl ?_
    obtain ⟨o18, o19, o20, q17, V⟩ := V
    refine r_getf (ci := 6) (kf := 0) (T := TX5) rfl in_X5 (by decide) wF_X5_9 dX5_move_24 q17 rfl ?_
    refine r_iload 4 dX5_move_27 rfl ?_
    obtain ⟨N22, f23, q21, V⟩ := V
    obtain ⟨b24, c, cN, cb, V⟩ := V
    refine r_aald (kd := 4) (C0 := RX0) (fun _ => rfl) dX5_move_29 q21 rfl c cN cb ?_
    obtain ⟨o28, o29, q27, V⟩ := V
    refine r_callV (M2 := M_X0_isZero) (ci := 1) (n := 0) (As := []) rfl (wl5 wM_X5_64 wi_X0_isZero wS_X0_isZero wI_StateShares_Big wc_X0_isZero) (by decide +kernel) (by decide) rfl rfl (Nat.le_of_ble_eq_true rfl) dX5_move_30 q27 (by decide) (by decide) (Ct.imp V (fun r h25 n26 V => ?_))
    obtain ⟨v30, rfl, V⟩ := V
    show Blk g M_X5_move post 33 [(0, .ref x0), (1, .ref x1), (2, .ref x2), (3, .long (lN x3)), (5, .int (nI x5))] [.int (nI v30)] h25 n26 0 0
    obtain ⟨c, V⟩ := V
    refine r_if_neN (tgt := 47) dX5_move_33 (by decide) c (fun c => ?_) (fun c => ?_)
    · have V := V.1 c
      refine r_iincN 4 (b := 1) (L' := [(5, .int (nI (x5 + 1))), (0, .ref x0), (1, .ref x1), (2, .ref x2), (3, .long (lN x3))]) dX5_move_47 rfl rfl (by decide) rfl ?_
      refine r_goto (tgt := 5) dX5_move_50 (by decide) ?_
      exact Blk.sub [1, 2, 3, 4, 0] rfl V
    · have V := V.2 c
      refine r_lload_n 3 dX5_move_36 rfl rfl ?_
      refine r_aload_n 1 dX5_move_37 rfl rfl ?_
      refine r_iload 4 dX5_move_38 rfl ?_
      obtain ⟨o34, o35, o36, o37, o38, o39, o40, o41, q33, V⟩ := V
      refine r_callV (M2 := M_X4_bottom) (ci := 5) (n := 1) (As := [.int (nI x5)]) rfl (wl5 wM_X5_75 wi_X4_bottom wS_X4_bottom wI_StateShares_Moves wc_X4_bottom) (by decide +kernel) (by decide) rfl rfl (Nat.le_of_ble_eq_true rfl) dX5_move_40 q33 (by decide) (by decide) (Ct.imp V (fun r h31 n32 V => ?_))
      obtain ⟨v42, rfl, V⟩ := V
      show Blk g M_X5_move post 43 [(0, .ref x0), (1, .ref x1), (2, .ref x2), (3, .long (lN x3)), (5, .int (nI x5))] [.int (nI v42), .long (lN x3)] h31 n32 0 0
      refine r_callS (M2 := M_X5_commonMultiple) (n := 2) (As := [.long (lN x3), .int (nI v42)]) (wl4 wM_X5_41 ws_X5_commonMultiple wI_StateShares_Row wc_X5_commonMultiple) (by decide +kernel) (by decide) rfl rfl (Nat.le_of_ble_eq_true rfl) dX5_move_43 (by decide) (by decide) (Ct.imp V (fun r h43 n44 V => ?_))
      obtain ⟨v45, rfl, V⟩ := V
      show Blk g M_X5_move post 46 [(0, .ref x0), (1, .ref x1), (2, .ref x2), (3, .long (lN x3)), (5, .int (nI x5))] [.long (lN v45)] h43 n44 0 0
      refine r_lstore_n (L' := [(3, .long (lN v45)), (0, .ref x0), (1, .ref x1), (2, .ref x2), (5, .int (nI x5))]) dX5_move_46 rfl (by decide) rfl ?_
      refine r_iincN 4 (b := 1) (L' := [(5, .int (nI (x5 + 1))), (3, .long (lN v45)), (0, .ref x0), (1, .ref x1), (2, .ref x2)]) dX5_move_47 rfl rfl (by decide) rfl ?_
      refine r_goto (tgt := 5) dX5_move_50 (by decide) ?_
      exact Blk.sub [2, 3, 4, 1, 0] rfl V
set_option maxRecDepth 20000 in
theorem v_X5_move_56 {g : xG} {post : xPost} {h : xHp} {nx : Nat} {x0 : Nat} {x1 : Nat} {x2 : Nat} {x3 : Nat} {x5 : Nat} (V : (∃ (o2 : Nat) (o3 : Nat) (o4 : Nat), h x0 = some (xo 6 [.ref o2, .ref o3, .ref o4]) ∧ (∃ (N6 : Nat) (f7 : Nat → Option Nat), h o2 = some (xra 4 N6 f7) ∧ ((x5 < 2 ^ 31 ∧ N6 < 2 ^ 31) ∧ ((N6 ≤ x5 → Blk g M_X5_move post 148 [(0, .ref x0), (2, .ref x2), (3, .long (lN x3)), (5, .int (nI 0))] [] h nx 0 0) ∧ (x5 < N6 → (∃ (o11 : Nat) (o12 : Nat) (o13 : Nat) (o14 : Nat) (o15 : Nat) (o16 : Nat) (o17 : Nat) (o18 : Nat), h x1 = some (xo 5 [.int (nI o11), .ref o12, .ref o13, .ref o14, .ref o15, .ref o16, .int (nI o17), .int (nI o18)]) ∧ Ct g M_X4_bottom [.ref x1, .int (nI x5)] h nx (fun r h8 n9 => ∃ v19 : Nat, r = some (.int (nI v19)) ∧ ((1 < 2 ^ 31 ∧ v19 < 2 ^ 31) ∧ ((max 1 v19) < 2 ^ 31 ∧ ((x3 < 2 ^ 63 ∧ 0 < (max 1 v19) ∧ (max 1 v19) < 2 ^ 63) ∧ Blk g M_X5_move post 84 [(0, .ref x0), (1, .ref x1), (2, .ref x2), (3, .long (lN x3)), (5, .int (nI x5)), (6, .long (lN (x3 / (max 1 v19)))), (8, .int (nI 0))] [] h8 n9 0 0))))))))))) : Blk g M_X5_move post 56 [(0, .ref x0), (1, .ref x1), (2, .ref x2), (3, .long (lN x3)), (5, .int (nI x5))] [] h nx 0 0 := by
  refine r_iload 4 dX5_move_56 rfl ?_
  refine r_aload_n 0 dX5_move_58 rfl rfl ?_
  obtain ⟨o2, o3, o4, q1, V⟩ := V
  refine r_getf (ci := 6) (kf := 0) (T := TX5) rfl in_X5 (by decide) wF_X5_9 dX5_move_59 q1 rfl ?_
  obtain ⟨N6, f7, q5, V⟩ := V
  refine r_alen (kd := 4) (by decide) dX5_move_62 q5 ?_
  obtain ⟨c, V⟩ := V
  refine r_icmp_geN (tgt := 145) dX5_move_63 (by decide) c (fun c => ?_) (fun c => ?_)
  · have V := V.1 c
    refine r_iconst (v := (nI 0)) dX5_move_145 rfl ?_
    refine r_istore (L' := [(5, .int (nI 0)), (0, .ref x0), (1, .ref x1), (2, .ref x2), (3, .long (lN x3))]) dX5_move_146 (by decide) rfl ?_
    exact Blk.sub [1, 3, 4, 0] rfl V
  · have V := V.2 c
    refine r_lload_n 3 dX5_move_66 rfl rfl ?_
    refine r_iconst (v := (nI 1)) dX5_move_67 rfl ?_
    refine r_aload_n 1 dX5_move_68 rfl rfl ?_
    refine r_iload 4 dX5_move_69 rfl ?_
    obtain ⟨o11, o12, o13, o14, o15, o16, o17, o18, q10, V⟩ := V
    refine r_callV (M2 := M_X4_bottom) (ci := 5) (n := 1) (As := [.int (nI x5)]) rfl (wl5 wM_X5_75 wi_X4_bottom wS_X4_bottom wI_StateShares_Moves wc_X4_bottom) (by decide +kernel) (by decide) rfl rfl (Nat.le_of_ble_eq_true rfl) dX5_move_71 q10 (by decide) (by decide) (Ct.imp V (fun r h8 n9 V => ?_))
    obtain ⟨v19, rfl, V⟩ := V
    show Blk g M_X5_move post 74 [(0, .ref x0), (1, .ref x1), (2, .ref x2), (3, .long (lN x3)), (5, .int (nI x5))] [.int (nI v19), .int (nI 1), .long (lN x3)] h8 n9 0 0
    refine r_mmax wM_X5_45 ws_J9_max_7cf53 wI_java_lang_Math wc_J9_max_7cf53 dX5_move_74 (by decide) (Nat.le_of_ble_eq_true rfl) (by decide) (by decide) ?_
    obtain ⟨c, V⟩ := V
    rw [n_max c.1 c.2]
    show Blk g M_X5_move post 77 [(0, .ref x0), (1, .ref x1), (2, .ref x2), (3, .long (lN x3)), (5, .int (nI x5))] [.int (nI (max 1 v19)), .long (lN x3)] h8 n9 0 0
    obtain ⟨c, V⟩ := V
    refine r_i2lN dX5_move_77 c ?_
    obtain ⟨c, V⟩ := V
    refine r_ldivN dX5_move_78 c ?_
    refine r_lstore (L' := [(6, .long (lN (x3 / (max 1 v19)))), (0, .ref x0), (1, .ref x1), (2, .ref x2), (3, .long (lN x3)), (5, .int (nI x5))]) dX5_move_79 (by decide) rfl ?_
    refine r_iconst (v := (nI 0)) dX5_move_81 rfl ?_
    refine r_istore (L' := [(8, .int (nI 0)), (6, .long (lN (x3 / (max 1 v19)))), (0, .ref x0), (1, .ref x1), (2, .ref x2), (3, .long (lN x3)), (5, .int (nI x5))]) dX5_move_82 (by decide) rfl ?_
    exact Blk.sub [2, 3, 4, 5, 6, 1, 0] rfl V
set_option maxRecDepth 20000 in
theorem v_X5_move_84 {g : xG} {post : xPost} {h : xHp} {nx : Nat} {x0 : Nat} {x1 : Nat} {x2 : Nat} {x3 : Nat} {x5 : Nat} {x6 : Nat} {x8 : Nat} (V : (∃ (o2 : Nat) (o3 : Nat) (o4 : Nat), h x0 = some (xo 6 [.ref o2, .ref o3, .ref o4]) ∧ (∃ (N6 : Nat) (f7 : Nat → Option Nat), h o2 = some (xra 4 N6 f7) ∧ ((x8 < 2 ^ 31 ∧ N6 < 2 ^ 31) ∧ ((N6 ≤ x8 → Blk g M_X5_move post 56 [(0, .ref x0), (1, .ref x1), (2, .ref x2), (3, .long (lN x3)), (5, .int (nI (x5 + 1)))] [] h nx 0 0) ∧ (x8 < N6 → (∃ b8 : Nat, x5 < N6 ∧ N6 < 2 ^ 31 ∧ f7 x5 = some b8 ∧ (∃ (o12 : Nat) (o13 : Nat), h b8 = some (xo 1 [.ref o12, .int (nI o13)]) ∧ Ct g M_X0_isZero [.ref b8] h nx (fun r h9 n10 => ∃ v14 : Nat, r = some (.int (nI v14)) ∧ (v14 < 2 ^ 31 ∧ ((¬ v14 = 0 → Blk g M_X5_move post 56 [(0, .ref x0), (1, .ref x1), (2, .ref x2), (3, .long (lN x3)), (5, .int (nI (x5 + 1)))] [] h9 n10 0 0) ∧ (v14 = 0 → (∃ (N16 : Nat) (f17 : Nat → Option Nat), h9 x2 = some (xra 4 N16 f17) ∧ ∃ b18 : Nat, x8 < N16 ∧ N16 < 2 ^ 31 ∧ f17 x8 = some b18 ∧ (∃ (o20 : Nat) (o21 : Nat) (o22 : Nat), h9 x0 = some (xo 6 [.ref o20, .ref o21, .ref o22]) ∧ (∃ (N24 : Nat) (f25 : Nat → Option Nat), h9 o20 = some (xra 4 N24 f25) ∧ ∃ b26 : Nat, x5 < N24 ∧ N24 < 2 ^ 31 ∧ f25 x5 = some b26 ∧ (∃ (o30 : Nat) (o31 : Nat) (o32 : Nat) (o33 : Nat) (o34 : Nat) (o35 : Nat) (o36 : Nat) (o37 : Nat), h9 x1 = some (xo 5 [.int (nI o30), .ref o31, .ref o32, .ref o33, .ref o34, .ref o35, .int (nI o36), .int (nI o37)]) ∧ Ct g M_X4_top [.ref x1, .int (nI x5), .int (nI x8)] h9 n10 (fun r h27 n28 => ∃ v38 : Nat, r = some (.int (nI v38)) ∧ (v38 < 2 ^ 31 ∧ (∃ (o42 : Nat) (o43 : Nat), h27 b18 = some (xo 1 [.ref o42, .int (nI o43)]) ∧ Ct g M_X0_addLongProduct [.ref b18, .ref b26, .long (lN (x6 * v38))] h27 n28 (fun r h39 n40 => r = none ∧ Blk g M_X5_move post 84 [(0, .ref x0), (1, .ref x1), (2, .ref x2), (3, .long (lN x3)), (5, .int (nI x5)), (6, .long (lN x6)), (8, .int (nI (x8 + 1)))] [] h39 n40 0 0)))))))))))))))))))) : Blk g M_X5_move post 84 [(0, .ref x0), (1, .ref x1), (2, .ref x2), (3, .long (lN x3)), (5, .int (nI x5)), (6, .long (lN x6)), (8, .int (nI x8))] [] h nx 0 0 := by
  refine r_iload 6 dX5_move_84 rfl ?_
  refine r_aload_n 0 dX5_move_86 rfl rfl ?_
  obtain ⟨o2, o3, o4, q1, V⟩ := V
  refine r_getf (ci := 6) (kf := 0) (T := TX5) rfl in_X5 (by decide) wF_X5_9 dX5_move_87 q1 rfl ?_
  obtain ⟨N6, f7, q5, V⟩ := V
  refine r_alen (kd := 4) (by decide) dX5_move_90 q5 ?_
  obtain ⟨c, V⟩ := V
  refine r_icmp_geN (tgt := 139) dX5_move_91 (by decide) c (fun c => ?_) (fun c => ?_)
  · have V := V.1 c
    refine r_iincN 4 (b := 1) (L' := [(5, .int (nI (x5 + 1))), (0, .ref x0), (1, .ref x1), (2, .ref x2), (3, .long (lN x3)), (6, .long (lN x6)), (8, .int (nI x8))]) dX5_move_139 rfl rfl (by decide) rfl ?_
    refine r_goto (tgt := 56) dX5_move_142 (by decide) ?_
    exact Blk.sub [1, 2, 3, 4, 0] rfl V
  · have V := V.2 c
    refine r_aload_n 0 dX5_move_94 rfl rfl ?_
    refine r_getf (ci := 6) (kf := 0) (T := TX5) rfl in_X5 (by decide) wF_X5_9 dX5_move_95 q1 rfl ?_
    refine r_iload 4 dX5_move_98 rfl ?_
    obtain ⟨b8, c, cN, cb, V⟩ := V
    refine r_aald (kd := 4) (C0 := RX0) (fun _ => rfl) dX5_move_100 q5 rfl c cN cb ?_
    obtain ⟨o12, o13, q11, V⟩ := V
    refine r_callV (M2 := M_X0_isZero) (ci := 1) (n := 0) (As := []) rfl (wl5 wM_X5_64 wi_X0_isZero wS_X0_isZero wI_StateShares_Big wc_X0_isZero) (by decide +kernel) (by decide) rfl rfl (Nat.le_of_ble_eq_true rfl) dX5_move_101 q11 (by decide) (by decide) (Ct.imp V (fun r h9 n10 V => ?_))
    obtain ⟨v14, rfl, V⟩ := V
    show Blk g M_X5_move post 104 [(0, .ref x0), (1, .ref x1), (2, .ref x2), (3, .long (lN x3)), (5, .int (nI x5)), (6, .long (lN x6)), (8, .int (nI x8))] [.int (nI v14)] h9 n10 0 0
    obtain ⟨c, V⟩ := V
    refine r_if_neN (tgt := 139) dX5_move_104 (by decide) c (fun c => ?_) (fun c => ?_)
    · have V := V.1 c
      refine r_iincN 4 (b := 1) (L' := [(5, .int (nI (x5 + 1))), (0, .ref x0), (1, .ref x1), (2, .ref x2), (3, .long (lN x3)), (6, .long (lN x6)), (8, .int (nI x8))]) dX5_move_139 rfl rfl (by decide) rfl ?_
      refine r_goto (tgt := 56) dX5_move_142 (by decide) ?_
      exact Blk.sub [1, 2, 3, 4, 0] rfl V
    · have V := V.2 c
      refine r_aload_n 2 dX5_move_107 rfl rfl ?_
      refine r_iload 6 dX5_move_108 rfl ?_
      obtain ⟨N16, f17, q15, V⟩ := V
      obtain ⟨b18, c, cN, cb, V⟩ := V
      refine r_aald (kd := 4) (C0 := RX0) (fun _ => rfl) dX5_move_110 q15 rfl c cN cb ?_
      refine r_aload_n 0 dX5_move_111 rfl rfl ?_
      obtain ⟨o20, o21, o22, q19, V⟩ := V
      refine r_getf (ci := 6) (kf := 0) (T := TX5) rfl in_X5 (by decide) wF_X5_9 dX5_move_112 q19 rfl ?_
      refine r_iload 4 dX5_move_115 rfl ?_
      obtain ⟨N24, f25, q23, V⟩ := V
      obtain ⟨b26, c, cN, cb, V⟩ := V
      refine r_aald (kd := 4) (C0 := RX0) (fun _ => rfl) dX5_move_117 q23 rfl c cN cb ?_
      refine r_lload 5 dX5_move_118 rfl ?_
      refine r_aload_n 1 dX5_move_120 rfl rfl ?_
      refine r_iload 4 dX5_move_121 rfl ?_
      refine r_iload 6 dX5_move_123 rfl ?_
      obtain ⟨o30, o31, o32, o33, o34, o35, o36, o37, q29, V⟩ := V
      refine r_callV (M2 := M_X4_top) (ci := 5) (n := 2) (As := [.int (nI x5), .int (nI x8)]) rfl (wl5 wM_X5_81 wi_X4_top wS_X4_top wI_StateShares_Moves wc_X4_top) (by decide +kernel) (by decide) rfl rfl (Nat.le_of_ble_eq_true rfl) dX5_move_125 q29 (by decide) (by decide) (Ct.imp V (fun r h27 n28 V => ?_))
      obtain ⟨v38, rfl, V⟩ := V
      show Blk g M_X5_move post 128 [(0, .ref x0), (1, .ref x1), (2, .ref x2), (3, .long (lN x3)), (5, .int (nI x5)), (6, .long (lN x6)), (8, .int (nI x8))] [.int (nI v38), .long (lN x6), .ref b26, .ref b18] h27 n28 0 0
      obtain ⟨c, V⟩ := V
      refine r_i2lN dX5_move_128 c ?_
      refine r_lmulN dX5_move_129 ?_
      obtain ⟨o42, o43, q41, V⟩ := V
      refine r_callV (M2 := M_X0_addLongProduct) (ci := 1) (n := 2) (As := [.ref b26, .long (lN (x6 * v38))]) rfl (wl5 wM_X5_84 wi_X0_addLongProduct wS_X0_addLongProduct wI_StateShares_Big wc_X0_addLongProduct) (by decide +kernel) (by decide) rfl rfl (Nat.le_of_ble_eq_true rfl) dX5_move_130 q41 (by decide) (by decide) (Ct.imp V (fun r h39 n40 V => ?_))
      obtain ⟨rfl, V⟩ := V
      show Blk g M_X5_move post 133 [(0, .ref x0), (1, .ref x1), (2, .ref x2), (3, .long (lN x3)), (5, .int (nI x5)), (6, .long (lN x6)), (8, .int (nI x8))] [] h39 n40 0 0
      refine r_iincN 6 (b := 1) (L' := [(8, .int (nI (x8 + 1))), (0, .ref x0), (1, .ref x1), (2, .ref x2), (3, .long (lN x3)), (5, .int (nI x5)), (6, .long (lN x6))]) dX5_move_133 rfl rfl (by decide) rfl ?_
      refine r_goto (tgt := 84) dX5_move_136 (by decide) ?_
      exact Blk.sub [1, 2, 3, 4, 5, 6, 0] rfl V
set_option maxRecDepth 20000 in
theorem v_X5_move_148 {g : xG} {post : xPost} {h : xHp} {nx : Nat} {x0 : Nat} {x2 : Nat} {x3 : Nat} {x5 : Nat} (V : (∃ (o2 : Nat) (o3 : Nat) (o4 : Nat), h x0 = some (xo 6 [.ref o2, .ref o3, .ref o4]) ∧ (∃ (N6 : Nat) (f7 : Nat → Option Nat), h o2 = some (xra 4 N6 f7) ∧ ((x5 < 2 ^ 31 ∧ N6 < 2 ^ 31) ∧ ((N6 ≤ x5 → (Ct g M_X5_growWhole [.ref x0, .long (lN x3)] h nx (fun r h8 n9 => r = none ∧ (post none h8 n9)))) ∧ (x5 < N6 → (∃ b10 : Nat, x5 < N6 ∧ N6 < 2 ^ 31 ∧ f7 x5 = some b10 ∧ (∃ (N12 : Nat) (f13 : Nat → Option Nat), h x2 = some (xra 4 N12 f13) ∧ ∃ b14 : Nat, x5 < N12 ∧ N12 < 2 ^ 31 ∧ f13 x5 = some b14 ∧ (∃ (o18 : Nat) (o19 : Nat), h b10 = some (xo 1 [.ref o18, .int (nI o19)]) ∧ Ct g M_X0_copy [.ref b10, .ref b14] h nx (fun r h15 n16 => r = none ∧ Blk g M_X5_move post 148 [(0, .ref x0), (2, .ref x2), (3, .long (lN x3)), (5, .int (nI (x5 + 1)))] [] h15 n16 0 0)))))))))) : Blk g M_X5_move post 148 [(0, .ref x0), (2, .ref x2), (3, .long (lN x3)), (5, .int (nI x5))] [] h nx 0 0 := by
  refine r_iload 3 dX5_move_148 rfl ?_
  refine r_aload_n 0 dX5_move_150 rfl rfl ?_
  obtain ⟨o2, o3, o4, q1, V⟩ := V
  refine r_getf (ci := 6) (kf := 0) (T := TX5) rfl in_X5 (by decide) wF_X5_9 dX5_move_151 q1 rfl ?_
  obtain ⟨N6, f7, q5, V⟩ := V
  refine r_alen (kd := 4) (by decide) dX5_move_154 q5 ?_
  obtain ⟨c, V⟩ := V
  refine r_icmp_geN (tgt := 178) dX5_move_155 (by decide) c (fun c => ?_) (fun c => ?_)
  · have V := V.1 c
    refine r_aload_n 0 dX5_move_178 rfl rfl ?_
    refine r_lload_n 2 dX5_move_179 rfl rfl ?_
    refine r_callV (M2 := M_X5_growWhole) (ci := 6) (n := 1) (As := [.long (lN x3)]) rfl (wl5 wM_X5_55 wi_X5_growWhole wS_X5_growWhole wI_StateShares_Row wc_X5_growWhole) (by decide +kernel) (by decide) rfl rfl (Nat.le_of_ble_eq_true rfl) dX5_move_180 q1 (by decide) (by decide) (Ct.imp V (fun r h8 n9 V => ?_))
    obtain ⟨rfl, V⟩ := V
    show Blk g M_X5_move post 183 [(0, .ref x0), (2, .ref x2), (3, .long (lN x3)), (5, .int (nI x5))] [] h8 n9 0 0
    exact r_vret dX5_move_183 rfl (by decide) (by decide) V
  · have V := V.2 c
    refine r_aload_n 0 dX5_move_158 rfl rfl ?_
    refine r_getf (ci := 6) (kf := 0) (T := TX5) rfl in_X5 (by decide) wF_X5_9 dX5_move_159 q1 rfl ?_
    refine r_iload 3 dX5_move_162 rfl ?_
    obtain ⟨b10, c, cN, cb, V⟩ := V
    refine r_aald (kd := 4) (C0 := RX0) (fun _ => rfl) dX5_move_164 q5 rfl c cN cb ?_
    refine r_aload_n 1 dX5_move_165 rfl rfl ?_
    refine r_iload 3 dX5_move_166 rfl ?_
    obtain ⟨N12, f13, q11, V⟩ := V
    obtain ⟨b14, c, cN, cb, V⟩ := V
    refine r_aald (kd := 4) (C0 := RX0) (fun _ => rfl) dX5_move_168 q11 rfl c cN cb ?_
    obtain ⟨o18, o19, q17, V⟩ := V
    refine r_callV (M2 := M_X0_copy) (ci := 1) (n := 1) (As := [.ref b14]) rfl (wl5 wM_X5_31 wi_X0_copy wS_X0_copy wI_StateShares_Big wc_X0_copy) (by decide +kernel) (by decide) rfl rfl (Nat.le_of_ble_eq_true rfl) dX5_move_169 q17 (by decide) (by decide) (Ct.imp V (fun r h15 n16 V => ?_))
    obtain ⟨rfl, V⟩ := V
    show Blk g M_X5_move post 172 [(0, .ref x0), (2, .ref x2), (3, .long (lN x3)), (5, .int (nI x5))] [] h15 n16 0 0
    refine r_iincN 3 (b := 1) (L' := [(5, .int (nI (x5 + 1))), (0, .ref x0), (2, .ref x2), (3, .long (lN x3))]) dX5_move_172 rfl rfl (by decide) rfl ?_
    refine r_goto (tgt := 148) dX5_move_175 (by decide) ?_
    exact Blk.sub [1, 2, 3, 0] rfl V
set_option maxRecDepth 20000 in
theorem v_X5_shorten_0 {g : xG} {post : xPost} {h : xHp} {nx : Nat} {x0 : Nat} (V : (∃ (o2 : Nat) (o3 : Nat) (o4 : Nat), h x0 = some (xo 6 [.ref o2, .ref o3, .ref o4]) ∧ (∃ (o8 : Nat) (o9 : Nat), h o3 = some (xo 1 [.ref o8, .int (nI o9)]) ∧ Ct g M_X0_set [.ref o3, .long (lN 1)] h nx (fun r h5 n6 => r = none ∧ Blk g M_X5_shorten post 10 [(0, .ref x0), (1, .int (nI 0))] [] h5 n6 0 0)))) : Blk g M_X5_shorten post 0 [(0, .ref x0)] [] h nx 0 0 := by
  refine r_aload_n 0 dX5_shorten_0 rfl rfl ?_
  obtain ⟨o2, o3, o4, q1, V⟩ := V
  refine r_getf (ci := 6) (kf := 1) (T := TX5) rfl in_X5 (by decide) wF_X5_18 dX5_shorten_1 q1 rfl ?_
  refine r_lconst (v := (lN 1)) dX5_shorten_4 rfl ?_
  obtain ⟨o8, o9, q7, V⟩ := V
  refine r_callV (M2 := M_X0_set) (ci := 1) (n := 1) (As := [.long (lN 1)]) rfl (wl5 wM_X5_51 wi_X0_set wS_X0_set wI_StateShares_Big wc_X0_set) (by decide +kernel) (by decide) rfl rfl (Nat.le_of_ble_eq_true rfl) dX5_shorten_5 q7 (by decide) (by decide) (Ct.imp V (fun r h5 n6 V => ?_))
  obtain ⟨rfl, V⟩ := V
  show Blk g M_X5_shorten post 8 [(0, .ref x0)] [] h5 n6 0 0
  refine r_iconst (v := (nI 0)) dX5_shorten_8 rfl ?_
  refine r_istore_n (L' := [(1, .int (nI 0)), (0, .ref x0)]) dX5_shorten_9 rfl (by decide) rfl ?_
  exact Blk.sub [1, 0] rfl V
set_option maxRecDepth 20000 in
theorem v_X5_shorten_10 {g : xG} {post : xPost} {h : xHp} {nx : Nat} {x0 : Nat} {x1 : Nat} (V : (∃ (o2 : Nat) (o3 : Nat) (o4 : Nat), h x0 = some (xo 6 [.ref o2, .ref o3, .ref o4]) ∧ (∃ (N6 : Nat) (f7 : Nat → Nat), h o4 = some (xna N6 f7) ∧ ((x1 < 2 ^ 31 ∧ N6 < 2 ^ 31) ∧ ((N6 ≤ x1 → (post none h nx)) ∧ (x1 < N6 → (x1 < N6 ∧ N6 < 2 ^ 31 ∧ Blk g M_X5_shorten post 26 [(0, .ref x0), (1, .int (nI x1)), (2, .int (nI (f7 x1)))] [] h nx 0 0))))))) : Blk g M_X5_shorten post 10 [(0, .ref x0), (1, .int (nI x1))] [] h nx 0 0 := by
  refine r_iload_n 1 dX5_shorten_10 rfl rfl ?_
  refine r_aload_n 0 dX5_shorten_11 rfl rfl ?_
  obtain ⟨o2, o3, o4, q1, V⟩ := V
  refine r_getf (ci := 6) (kf := 2) (T := TX5) rfl in_X5 (by decide) wF_X5_28 dX5_shorten_12 q1 rfl ?_
  obtain ⟨N6, f7, q5, V⟩ := V
  refine r_alen (kd := 0) (by decide) dX5_shorten_15 q5 ?_
  obtain ⟨c, V⟩ := V
  refine r_icmp_geN (tgt := 103) dX5_shorten_16 (by decide) c (fun c => ?_) (fun c => ?_)
  · have V := V.1 c
    exact r_vret dX5_shorten_103 rfl (by decide) (by decide) V
  · have V := V.2 c
    refine r_aload_n 0 dX5_shorten_19 rfl rfl ?_
    refine r_getf (ci := 6) (kf := 2) (T := TX5) rfl in_X5 (by decide) wF_X5_28 dX5_shorten_20 q1 rfl ?_
    refine r_iload_n 1 dX5_shorten_23 rfl rfl ?_
    obtain ⟨c, cN, V⟩ := V
    refine r_iald dX5_shorten_24 q5 rfl c cN ?_
    show Blk g M_X5_shorten post 25 [(0, .ref x0), (1, .int (nI x1))] [.int (nI (f7 x1))] h nx 0 0
    refine r_istore_n (L' := [(2, .int (nI (f7 x1))), (0, .ref x0), (1, .int (nI x1))]) dX5_shorten_25 rfl (by decide) rfl ?_
    exact Blk.sub [1, 2, 0] rfl V
set_option maxRecDepth 20000 in
theorem v_X5_shorten_26 {g : xG} {post : xPost} {h : xHp} {nx : Nat} {x0 : Nat} {x1 : Nat} {x2 : Nat} (V : (x2 < 2 ^ 31 ∧ ((x2 = 0 → Blk g M_X5_shorten post 69 [(0, .ref x0), (1, .int (nI x1)), (2, .int (nI 0))] [] h nx 0 0) ∧ (0 < x2 → (x1 < 168 ∧ (∃ (o4 : Nat) (o5 : Nat) (o6 : Nat), h x0 = some (xo 6 [.ref o4, .ref o5, .ref o6]) ∧ Ct g M_X5_allDivide [.ref x0, .int (nI (xpr x1))] h nx (fun r h1 n2 => ∃ v7 : Nat, r = some (.int (nI v7)) ∧ (v7 < 2 ^ 31 ∧ ((v7 = 0 → Blk g M_X5_shorten post 69 [(0, .ref x0), (1, .int (nI x1)), (2, .int (nI 0))] [] h1 n2 0 0) ∧ (¬ v7 = 0 → (x1 < 168 ∧ (∃ (o11 : Nat) (o12 : Nat) (o13 : Nat), h1 x0 = some (xo 6 [.ref o11, .ref o12, .ref o13]) ∧ Ct g M_X5_divideAll [.ref x0, .int (nI (xpr x1))] h1 n2 (fun r h8 n9 => r = none ∧ (∃ (o15 : Nat) (o16 : Nat) (o17 : Nat), h8 x0 = some (xo 6 [.ref o15, .ref o16, .ref o17]) ∧ (∃ (N19 : Nat) (f20 : Nat → Nat), h8 o17 = some (xna N19 f20) ∧ x1 < N19 ∧ N19 < 2 ^ 31 ∧ (1 ≤ (f20 x1) ∧ (x1 < N19 ∧ N19 < 2 ^ 31 ∧ (1 ≤ x2 ∧ Blk g M_X5_shorten post 26 [(0, .ref x0), (1, .int (nI x1)), (2, .int (nI (x2 - 1)))] [] (xup h8 o17 (xna N19 (va_up f20 x1 ((f20 x1) - 1)))) n9 0 0)))))))))))))))))) : Blk g M_X5_shorten post 26 [(0, .ref x0), (1, .int (nI x1)), (2, .int (nI x2))] [] h nx 0 0 := by
  refine r_iload_n 2 dX5_shorten_26 rfl rfl ?_
  obtain ⟨c, V⟩ := V
  refine r_if_leN (tgt := 67) dX5_shorten_27 (by decide) c (fun c => ?_) (fun c => ?_)
  · have V := V.1 c
    refine r_iconst (v := (nI 0)) dX5_shorten_67 rfl ?_
    refine r_istore_n (L' := [(2, .int (nI 0)), (0, .ref x0), (1, .int (nI x1))]) dX5_shorten_68 rfl (by decide) rfl ?_
    exact Blk.sub [1, 2, 0] rfl V
  · have V := V.2 c
    refine r_aload_n 0 dX5_shorten_30 rfl rfl ?_
    refine r_gsP5 rfl dX5_shorten_31 ?_
    refine r_iload_n 1 dX5_shorten_34 rfl rfl ?_
    obtain ⟨c, V⟩ := V
    refine r_ialdP dX5_shorten_35 rfl c ?_
    obtain ⟨o4, o5, o6, q3, V⟩ := V
    refine r_callV (M2 := M_X5_allDivide) (ci := 6) (n := 1) (As := [.int (nI (xpr x1))]) rfl (wl5 wM_X5_88 wi_X5_allDivide wS_X5_allDivide wI_StateShares_Row wc_X5_allDivide) (by decide +kernel) (by decide) rfl rfl (Nat.le_of_ble_eq_true rfl) dX5_shorten_36 q3 (by decide) (by decide) (Ct.imp V (fun r h1 n2 V => ?_))
    obtain ⟨v7, rfl, V⟩ := V
    show Blk g M_X5_shorten post 39 [(0, .ref x0), (1, .int (nI x1)), (2, .int (nI x2))] [.int (nI v7)] h1 n2 0 0
    obtain ⟨c, V⟩ := V
    refine r_if_eqN (tgt := 67) dX5_shorten_39 (by decide) c (fun c => ?_) (fun c => ?_)
    · have V := V.1 c
      refine r_iconst (v := (nI 0)) dX5_shorten_67 rfl ?_
      refine r_istore_n (L' := [(2, .int (nI 0)), (0, .ref x0), (1, .int (nI x1))]) dX5_shorten_68 rfl (by decide) rfl ?_
      exact Blk.sub [1, 2, 0] rfl V
    · have V := V.2 c
      refine r_aload_n 0 dX5_shorten_42 rfl rfl ?_
      refine r_gsP5 rfl dX5_shorten_43 ?_
      refine r_iload_n 1 dX5_shorten_46 rfl rfl ?_
      obtain ⟨c, V⟩ := V
      refine r_ialdP dX5_shorten_47 rfl c ?_
      obtain ⟨o11, o12, o13, q10, V⟩ := V
      refine r_callV (M2 := M_X5_divideAll) (ci := 6) (n := 1) (As := [.int (nI (xpr x1))]) rfl (wl5 wM_X5_92 wi_X5_divideAll wS_X5_divideAll wI_StateShares_Row wc_X5_divideAll) (by decide +kernel) (by decide) rfl rfl (Nat.le_of_ble_eq_true rfl) dX5_shorten_48 q10 (by decide) (by decide) (Ct.imp V (fun r h8 n9 V => ?_))
      obtain ⟨rfl, V⟩ := V
      show Blk g M_X5_shorten post 51 [(0, .ref x0), (1, .int (nI x1)), (2, .int (nI x2))] [] h8 n9 0 0
      refine r_aload_n 0 dX5_shorten_51 rfl rfl ?_
      obtain ⟨o15, o16, o17, q14, V⟩ := V
      refine r_getf (ci := 6) (kf := 2) (T := TX5) rfl in_X5 (by decide) wF_X5_28 dX5_shorten_52 q14 rfl ?_
      refine r_iload_n 1 dX5_shorten_55 rfl rfl ?_
      refine r_dup2_11 dX5_shorten_56 rfl rfl ?_
      obtain ⟨N19, f20, q18, V⟩ := V
      obtain ⟨c, cN, V⟩ := V
      refine r_iald dX5_shorten_57 q18 rfl c cN ?_
      show Blk g M_X5_shorten post 58 [(0, .ref x0), (1, .int (nI x1)), (2, .int (nI x2))] [.int (nI (f20 x1)), .int (nI x1), .ref o17] h8 n9 0 0
      refine r_iconst (v := (nI 1)) dX5_shorten_58 rfl ?_
      obtain ⟨c, V⟩ := V
      refine r_isubN dX5_shorten_59 c ?_
      obtain ⟨c, cN, V⟩ := V
      refine r_iastN dX5_shorten_60 q18 c cN ?_
      show Blk g M_X5_shorten post 61 [(0, .ref x0), (1, .int (nI x1)), (2, .int (nI x2))] [] (xup h8 o17 (xna N19 (va_up f20 x1 ((f20 x1) - 1)))) n9 0 0
      obtain ⟨c, V⟩ := V
      refine r_idecN 2 (L' := [(2, .int (nI (x2 - 1))), (0, .ref x0), (1, .int (nI x1))]) dX5_shorten_61 rfl c (by decide) rfl ?_
      refine r_goto (tgt := 26) dX5_shorten_64 (by decide) ?_
      exact Blk.sub [1, 2, 0] rfl V
set_option maxRecDepth 20000 in
theorem v_X5_shorten_69 {g : xG} {post : xPost} {h : xHp} {nx : Nat} {x0 : Nat} {x1 : Nat} {x2 : Nat} (V : (∃ (o2 : Nat) (o3 : Nat) (o4 : Nat), h x0 = some (xo 6 [.ref o2, .ref o3, .ref o4]) ∧ (∃ (N6 : Nat) (f7 : Nat → Nat), h o4 = some (xna N6 f7) ∧ x1 < N6 ∧ N6 < 2 ^ 31 ∧ ((x2 < 2 ^ 31 ∧ (f7 x1) < 2 ^ 31) ∧ (((f7 x1) ≤ x2 → Blk g M_X5_shorten post 10 [(0, .ref x0), (1, .int (nI (x1 + 1)))] [] h nx 0 0) ∧ (x2 < (f7 x1) → (x1 < 168 ∧ (∃ (o11 : Nat) (o12 : Nat), h o3 = some (xo 1 [.ref o11, .int (nI o12)]) ∧ Ct g M_X0_multiply [.ref o3, .int (nI (xpr x1))] h nx (fun r h8 n9 => r = none ∧ Blk g M_X5_shorten post 69 [(0, .ref x0), (1, .int (nI x1)), (2, .int (nI (x2 + 1)))] [] h8 n9 0 0))))))))) : Blk g M_X5_shorten post 69 [(0, .ref x0), (1, .int (nI x1)), (2, .int (nI x2))] [] h nx 0 0 := by
  refine r_iload_n 2 dX5_shorten_69 rfl rfl ?_
  refine r_aload_n 0 dX5_shorten_70 rfl rfl ?_
  obtain ⟨o2, o3, o4, q1, V⟩ := V
  refine r_getf (ci := 6) (kf := 2) (T := TX5) rfl in_X5 (by decide) wF_X5_28 dX5_shorten_71 q1 rfl ?_
  refine r_iload_n 1 dX5_shorten_74 rfl rfl ?_
  obtain ⟨N6, f7, q5, V⟩ := V
  obtain ⟨c, cN, V⟩ := V
  refine r_iald dX5_shorten_75 q5 rfl c cN ?_
  show Blk g M_X5_shorten post 76 [(0, .ref x0), (1, .int (nI x1)), (2, .int (nI x2))] [.int (nI (f7 x1)), .int (nI x2)] h nx 0 0
  obtain ⟨c, V⟩ := V
  refine r_icmp_geN (tgt := 97) dX5_shorten_76 (by decide) c (fun c => ?_) (fun c => ?_)
  · have V := V.1 c
    refine r_iincN 1 (b := 1) (L' := [(1, .int (nI (x1 + 1))), (0, .ref x0), (2, .int (nI x2))]) dX5_shorten_97 rfl rfl (by decide) rfl ?_
    refine r_goto (tgt := 10) dX5_shorten_100 (by decide) ?_
    exact Blk.sub [1, 0] rfl V
  · have V := V.2 c
    refine r_aload_n 0 dX5_shorten_79 rfl rfl ?_
    refine r_getf (ci := 6) (kf := 1) (T := TX5) rfl in_X5 (by decide) wF_X5_18 dX5_shorten_80 q1 rfl ?_
    refine r_gsP5 rfl dX5_shorten_83 ?_
    refine r_iload_n 1 dX5_shorten_86 rfl rfl ?_
    obtain ⟨c, V⟩ := V
    refine r_ialdP dX5_shorten_87 rfl c ?_
    obtain ⟨o11, o12, q10, V⟩ := V
    refine r_callV (M2 := M_X0_multiply) (ci := 1) (n := 1) (As := [.int (nI (xpr x1))]) rfl (wl5 wM_X5_68 wi_X0_multiply wS_X0_multiply wI_StateShares_Big wc_X0_multiply) (by decide +kernel) (by decide) rfl rfl (Nat.le_of_ble_eq_true rfl) dX5_shorten_88 q10 (by decide) (by decide) (Ct.imp V (fun r h8 n9 V => ?_))
    obtain ⟨rfl, V⟩ := V
    show Blk g M_X5_shorten post 91 [(0, .ref x0), (1, .int (nI x1)), (2, .int (nI x2))] [] h8 n9 0 0
    refine r_iincN 2 (b := 1) (L' := [(2, .int (nI (x2 + 1))), (0, .ref x0), (1, .int (nI x1))]) dX5_shorten_91 rfl rfl (by decide) rfl ?_
    refine r_goto (tgt := 69) dX5_shorten_94 (by decide) ?_
    exact Blk.sub [1, 2, 0] rfl V
set_option maxRecDepth 20000 in
theorem v_X5_allDivide_0 {g : xG} {post : xPost} {h : xHp} {nx : Nat} {x0 : Nat} {x1 : Nat} (V : Blk g M_X5_allDivide post 2 [(0, .ref x0), (1, .int (nI x1)), (2, .int (nI 0))] [] h nx 0 0) : Blk g M_X5_allDivide post 0 [(0, .ref x0), (1, .int (nI x1))] [] h nx 0 0 := by
  refine r_iconst (v := (nI 0)) dX5_allDivide_0 rfl ?_
  refine r_istore_n (L' := [(2, .int (nI 0)), (0, .ref x0), (1, .int (nI x1))]) dX5_allDivide_1 rfl (by decide) rfl ?_
  exact Blk.sub [1, 2, 0] rfl V
set_option maxRecDepth 20000 in
theorem v_X5_allDivide_2 {g : xG} {post : xPost} {h : xHp} {nx : Nat} {x0 : Nat} {x1 : Nat} {x2 : Nat} (V : (∃ (o2 : Nat) (o3 : Nat) (o4 : Nat), h x0 = some (xo 6 [.ref o2, .ref o3, .ref o4]) ∧ (∃ (N6 : Nat) (f7 : Nat → Option Nat), h o2 = some (xra 4 N6 f7) ∧ ((x2 < 2 ^ 31 ∧ N6 < 2 ^ 31) ∧ ((N6 ≤ x2 → (post (some (.int (nI 1))) h nx)) ∧ (x2 < N6 → (∃ b8 : Nat, x2 < N6 ∧ N6 < 2 ^ 31 ∧ f7 x2 = some b8 ∧ (∃ (o12 : Nat) (o13 : Nat), h b8 = some (xo 1 [.ref o12, .int (nI o13)]) ∧ Ct g M_X0_remainder [.ref b8, .int (nI x1)] h nx (fun r h9 n10 => ∃ v14 : Nat, r = some (.int (nI v14)) ∧ (v14 < 2 ^ 31 ∧ ((v14 = 0 → Blk g M_X5_allDivide post 2 [(0, .ref x0), (1, .int (nI x1)), (2, .int (nI (x2 + 1)))] [] h9 n10 0 0) ∧ (¬ v14 = 0 → (post (some (.int (nI 0))) h9 n10))))))))))))) : Blk g M_X5_allDivide post 2 [(0, .ref x0), (1, .int (nI x1)), (2, .int (nI x2))] [] h nx 0 0 := by
  refine r_iload_n 2 dX5_allDivide_2 rfl rfl ?_
  refine r_aload_n 0 dX5_allDivide_3 rfl rfl ?_
  obtain ⟨o2, o3, o4, q1, V⟩ := V
  refine r_getf (ci := 6) (kf := 0) (T := TX5) rfl in_X5 (by decide) wF_X5_9 dX5_allDivide_4 q1 rfl ?_
  obtain ⟨N6, f7, q5, V⟩ := V
  refine r_alen (kd := 4) (by decide) dX5_allDivide_7 q5 ?_
  obtain ⟨c, V⟩ := V
  refine r_icmp_geN (tgt := 32) dX5_allDivide_8 (by decide) c (fun c => ?_) (fun c => ?_)
  · have V := V.1 c
    refine r_iconst (v := (nI 1)) dX5_allDivide_32 rfl ?_
    exact r_zret (ty := .boolean) dX5_allDivide_33 rfl rfl (by decide) (by decide) V
  · have V := V.2 c
    refine r_aload_n 0 dX5_allDivide_11 rfl rfl ?_
    refine r_getf (ci := 6) (kf := 0) (T := TX5) rfl in_X5 (by decide) wF_X5_9 dX5_allDivide_12 q1 rfl ?_
    refine r_iload_n 2 dX5_allDivide_15 rfl rfl ?_
    obtain ⟨b8, c, cN, cb, V⟩ := V
    refine r_aald (kd := 4) (C0 := RX0) (fun _ => rfl) dX5_allDivide_16 q5 rfl c cN cb ?_
    refine r_iload_n 1 dX5_allDivide_17 rfl rfl ?_
    obtain ⟨o12, o13, q11, V⟩ := V
    refine r_callV (M2 := M_X0_remainder) (ci := 1) (n := 1) (As := [.int (nI x1)]) rfl (wl5 wM_X5_95 wi_X0_remainder wS_X0_remainder wI_StateShares_Big wc_X0_remainder) (by decide +kernel) (by decide) rfl rfl (Nat.le_of_ble_eq_true rfl) dX5_allDivide_18 q11 (by decide) (by decide) (Ct.imp V (fun r h9 n10 V => ?_))
    obtain ⟨v14, rfl, V⟩ := V
    show Blk g M_X5_allDivide post 21 [(0, .ref x0), (1, .int (nI x1)), (2, .int (nI x2))] [.int (nI v14)] h9 n10 0 0
    obtain ⟨c, V⟩ := V
    refine r_if_eqN (tgt := 26) dX5_allDivide_21 (by decide) c (fun c => ?_) (fun c => ?_)
    · have V := V.1 c
      refine r_iincN 2 (b := 1) (L' := [(2, .int (nI (x2 + 1))), (0, .ref x0), (1, .int (nI x1))]) dX5_allDivide_26 rfl rfl (by decide) rfl ?_
      refine r_goto (tgt := 2) dX5_allDivide_29 (by decide) ?_
      exact Blk.sub [1, 2, 0] rfl V
    · have V := V.2 c
      refine r_iconst (v := (nI 0)) dX5_allDivide_24 rfl ?_
      exact r_zret (ty := .boolean) dX5_allDivide_25 rfl rfl (by decide) (by decide) V
set_option maxRecDepth 20000 in
theorem v_X5_divideAll_0 {g : xG} {post : xPost} {h : xHp} {nx : Nat} {x0 : Nat} {x1 : Nat} (V : Blk g M_X5_divideAll post 2 [(0, .ref x0), (1, .int (nI x1)), (2, .int (nI 0))] [] h nx 0 0) : Blk g M_X5_divideAll post 0 [(0, .ref x0), (1, .int (nI x1))] [] h nx 0 0 := by
  refine r_iconst (v := (nI 0)) dX5_divideAll_0 rfl ?_
  refine r_istore_n (L' := [(2, .int (nI 0)), (0, .ref x0), (1, .int (nI x1))]) dX5_divideAll_1 rfl (by decide) rfl ?_
  exact Blk.sub [1, 2, 0] rfl V
set_option maxRecDepth 20000 in
theorem v_X5_divideAll_2 {g : xG} {post : xPost} {h : xHp} {nx : Nat} {x0 : Nat} {x1 : Nat} {x2 : Nat} (V : (∃ (o2 : Nat) (o3 : Nat) (o4 : Nat), h x0 = some (xo 6 [.ref o2, .ref o3, .ref o4]) ∧ (∃ (N6 : Nat) (f7 : Nat → Option Nat), h o2 = some (xra 4 N6 f7) ∧ ((x2 < 2 ^ 31 ∧ N6 < 2 ^ 31) ∧ ((N6 ≤ x2 → (post none h nx)) ∧ (x2 < N6 → (∃ b8 : Nat, x2 < N6 ∧ N6 < 2 ^ 31 ∧ f7 x2 = some b8 ∧ (∃ (o12 : Nat) (o13 : Nat), h b8 = some (xo 1 [.ref o12, .int (nI o13)]) ∧ Ct g M_X0_divide [.ref b8, .int (nI x1)] h nx (fun r h9 n10 => r = none ∧ Blk g M_X5_divideAll post 2 [(0, .ref x0), (1, .int (nI x1)), (2, .int (nI (x2 + 1)))] [] h9 n10 0 0))))))))) : Blk g M_X5_divideAll post 2 [(0, .ref x0), (1, .int (nI x1)), (2, .int (nI x2))] [] h nx 0 0 := by
  refine r_iload_n 2 dX5_divideAll_2 rfl rfl ?_
  refine r_aload_n 0 dX5_divideAll_3 rfl rfl ?_
  obtain ⟨o2, o3, o4, q1, V⟩ := V
  refine r_getf (ci := 6) (kf := 0) (T := TX5) rfl in_X5 (by decide) wF_X5_9 dX5_divideAll_4 q1 rfl ?_
  obtain ⟨N6, f7, q5, V⟩ := V
  refine r_alen (kd := 4) (by decide) dX5_divideAll_7 q5 ?_
  obtain ⟨c, V⟩ := V
  refine r_icmp_geN (tgt := 27) dX5_divideAll_8 (by decide) c (fun c => ?_) (fun c => ?_)
  · have V := V.1 c
    exact r_vret dX5_divideAll_27 rfl (by decide) (by decide) V
  · have V := V.2 c
    refine r_aload_n 0 dX5_divideAll_11 rfl rfl ?_
    refine r_getf (ci := 6) (kf := 0) (T := TX5) rfl in_X5 (by decide) wF_X5_9 dX5_divideAll_12 q1 rfl ?_
    refine r_iload_n 2 dX5_divideAll_15 rfl rfl ?_
    obtain ⟨b8, c, cN, cb, V⟩ := V
    refine r_aald (kd := 4) (C0 := RX0) (fun _ => rfl) dX5_divideAll_16 q5 rfl c cN cb ?_
    refine r_iload_n 1 dX5_divideAll_17 rfl rfl ?_
    obtain ⟨o12, o13, q11, V⟩ := V
    refine r_callV (M2 := M_X0_divide) (ci := 1) (n := 1) (As := [.int (nI x1)]) rfl (wl5 wM_X5_98 wi_X0_divide wS_X0_divide wI_StateShares_Big wc_X0_divide) (by decide +kernel) (by decide) rfl rfl (Nat.le_of_ble_eq_true rfl) dX5_divideAll_18 q11 (by decide) (by decide) (Ct.imp V (fun r h9 n10 V => ?_))
    obtain ⟨rfl, V⟩ := V
    show Blk g M_X5_divideAll post 21 [(0, .ref x0), (1, .int (nI x1)), (2, .int (nI x2))] [] h9 n10 0 0
    refine r_iincN 2 (b := 1) (L' := [(2, .int (nI (x2 + 1))), (0, .ref x0), (1, .int (nI x1))]) dX5_divideAll_21 rfl rfl (by decide) rfl ?_
    refine r_goto (tgt := 2) dX5_divideAll_24 (by decide) ?_
    exact Blk.sub [1, 2, 0] rfl V
set_option maxRecDepth 20000 in
theorem v_X2_init_0 {g : xG} {post : xPost} {h : xHp} {nx : Nat} {x0 : Nat} {x1 : Nat} (V : (Ct g M_X0_init [.ref nx, .int (nI x1)] (xup h nx (xo 1 [.null, .int (nI 0)])) (nx + 1) (fun r h1 n2 => r = none ∧ (h1 x0 = some (xo 3 [.null, .null]) ∧ (Ct g M_X0_init [.ref n2, .int (nI x1)] (xup (xup h1 x0 (xo 3 [.ref nx, .null])) n2 (xo 1 [.null, .int (nI 0)])) (n2 + 1) (fun r h4 n5 => r = none ∧ (∃ (o7 : Nat), h4 x0 = some (xo 3 [.ref o7, .null]) ∧ (post none (xup h4 x0 (xo 3 [.ref o7, .ref n2])) n5)))))))) : Blk g M_X2_init post 0 [(0, .ref x0), (1, .int (nI x1))] [] h nx 0 0 := by
  refine r_aload_n 0 dX2_init_0 rfl rfl ?_
  refine r_oinit wM_X2_1 wi_java_lang_Object__init____V wc_java_lang_Object__init____V dX2_init_1 (by decide) (Nat.le_of_ble_eq_true rfl) ?_
  refine r_aload_n 0 dX2_init_4 rfl rfl ?_
  refine r_new (ci := 1) (N := 2) (fs := [.null, .int (nI 0)]) (T := TX0) rfl in_X0 tyX0_ok wC_X2_7 wN_StateShares_Big wI_StateShares_Big dX2_init_5 df_X0 (by decide) (by decide) ?_
  show Blk g M_X2_init post 8 [(0, .ref x0), (1, .int (nI x1))] [.ref nx, .ref x0] (xup h nx (xo 1 [.null, .int (nI 0)])) (nx + 1) 1 2
  refine r_dup dX2_init_8 rfl ?_
  refine r_iload_n 1 dX2_init_9 rfl rfl ?_
  refine r_callI (M2 := M_X0_init) (n := 1) (As := [.int (nI x1)]) (wl4 wM_X2_9 wi_X0_init wI_StateShares_Big wc_X0_init) rfl rfl (by decide +kernel) (by decide) rfl rfl (Nat.le_of_ble_eq_true rfl) dX2_init_10 (by decide) (by decide) (Ct.imp V (fun r h1 n2 V => ?_))
  obtain ⟨rfl, V⟩ := V
  show Blk g M_X2_init post 13 [(0, .ref x0), (1, .int (nI x1))] [.ref nx, .ref x0] h1 n2 2 114
  obtain ⟨q3, V⟩ := V
  refine r_putF (ci := 3) (kf := 0) (T := TX2) rfl in_X2 tyX2_ok nmX2 (by decide) wF_X2_12 rfl rfl rfl (tyX2_ok 0 (by decide)) dX2_init_13 q3 (Nat.le_of_ble_eq_true rfl) rfl rfl ?_
  show Blk g M_X2_init post 16 [(0, .ref x0), (1, .int (nI x1))] [] (xup h1 x0 (xo 3 [.ref nx, .null])) n2 2 114
  refine r_aload_n 0 dX2_init_16 rfl rfl ?_
  refine r_new (ci := 1) (N := 2) (fs := [.null, .int (nI 0)]) (T := TX0) rfl in_X0 tyX0_ok wC_X2_7 wN_StateShares_Big wI_StateShares_Big dX2_init_17 df_X0 (by decide) (by decide) ?_
  show Blk g M_X2_init post 20 [(0, .ref x0), (1, .int (nI x1))] [.ref n2, .ref x0] (xup (xup h1 x0 (xo 3 [.ref nx, .null])) n2 (xo 1 [.null, .int (nI 0)])) (n2 + 1) 3 116
  refine r_dup dX2_init_20 rfl ?_
  refine r_iload_n 1 dX2_init_21 rfl rfl ?_
  refine r_callI (M2 := M_X0_init) (n := 1) (As := [.int (nI x1)]) (wl4 wM_X2_9 wi_X0_init wI_StateShares_Big wc_X0_init) rfl rfl (by decide +kernel) (by decide) rfl rfl (Nat.le_of_ble_eq_true rfl) dX2_init_22 (by decide) (by decide) (Ct.imp V (fun r h4 n5 V => ?_))
  obtain ⟨rfl, V⟩ := V
  show Blk g M_X2_init post 25 [(0, .ref x0), (1, .int (nI x1))] [.ref n2, .ref x0] h4 n5 4 228
  obtain ⟨o7, q6, V⟩ := V
  refine r_putF (ci := 3) (kf := 1) (T := TX2) rfl in_X2 tyX2_ok nmX2 (by decide) wF_X2_18 rfl rfl rfl (tyX2_ok 1 (by decide)) dX2_init_25 q6 (Nat.le_of_ble_eq_true rfl) rfl rfl ?_
  show Blk g M_X2_init post 28 [(0, .ref x0), (1, .int (nI x1))] [] (xup h4 x0 (xo 3 [.ref o7, .ref n2])) n5 4 228
  exact r_vret dX2_init_28 rfl (by decide) (by decide) V
set_option maxRecDepth 20000 in
theorem v_X2_upper_0 {g : xG} {post : xPost} {h : xHp} {nx : Nat} {x0 : Nat} (V : (∃ (o2 : Nat) (o3 : Nat), h x0 = some (xo 3 [.ref o2, .ref o3]) ∧ (post (some (.ref o2)) h nx))) : Blk g M_X2_upper post 0 [(0, .ref x0)] [] h nx 0 0 := by
  refine r_aload_n 0 dX2_upper_0 rfl rfl ?_
  obtain ⟨o2, o3, q1, V⟩ := V
  refine r_getf (ci := 3) (kf := 0) (T := TX2) rfl in_X2 (by decide) wF_X2_12 dX2_upper_1 q1 rfl ?_
  exact r_aret dX2_upper_4 rfl (by decide) (by decide) V
set_option maxRecDepth 20000 in
theorem v_X2_copy_0 {g : xG} {post : xPost} {h : xHp} {nx : Nat} {x0 : Nat} {x1 : Nat} (V : (∃ (o2 : Nat) (o3 : Nat), h x0 = some (xo 3 [.ref o2, .ref o3]) ∧ (∃ (o5 : Nat) (o6 : Nat), h x1 = some (xo 3 [.ref o5, .ref o6]) ∧ (∃ (o10 : Nat) (o11 : Nat), h o2 = some (xo 1 [.ref o10, .int (nI o11)]) ∧ Ct g M_X0_copy [.ref o2, .ref o5] h nx (fun r h7 n8 => r = none ∧ (∃ (o13 : Nat) (o14 : Nat), h7 x0 = some (xo 3 [.ref o13, .ref o14]) ∧ (∃ (o16 : Nat) (o17 : Nat), h7 x1 = some (xo 3 [.ref o16, .ref o17]) ∧ (∃ (o21 : Nat) (o22 : Nat), h7 o14 = some (xo 1 [.ref o21, .int (nI o22)]) ∧ Ct g M_X0_copy [.ref o14, .ref o17] h7 n8 (fun r h18 n19 => r = none ∧ (post none h18 n19)))))))))) : Blk g M_X2_copy post 0 [(0, .ref x0), (1, .ref x1)] [] h nx 0 0 := by
  refine r_aload_n 0 dX2_copy_0 rfl rfl ?_
  obtain ⟨o2, o3, q1, V⟩ := V
  refine r_getf (ci := 3) (kf := 0) (T := TX2) rfl in_X2 (by decide) wF_X2_12 dX2_copy_1 q1 rfl ?_
  refine r_aload_n 1 dX2_copy_4 rfl rfl ?_
  obtain ⟨o5, o6, q4, V⟩ := V
  refine r_getf (ci := 3) (kf := 0) (T := TX2) rfl in_X2 (by decide) wF_X2_12 dX2_copy_5 q4 rfl ?_
  obtain ⟨o10, o11, q9, V⟩ := V
  refine r_callV (M2 := M_X0_copy) (ci := 1) (n := 1) (As := [.ref o5]) rfl (wl5 wM_X2_21 wi_X0_copy wS_X0_copy wI_StateShares_Big wc_X0_copy) (by decide +kernel) (by decide) rfl rfl (Nat.le_of_ble_eq_true rfl) dX2_copy_8 q9 (by decide) (by decide) (Ct.imp V (fun r h7 n8 V => ?_))
  obtain ⟨rfl, V⟩ := V
  show Blk g M_X2_copy post 11 [(0, .ref x0), (1, .ref x1)] [] h7 n8 0 0
  refine r_aload_n 0 dX2_copy_11 rfl rfl ?_
  obtain ⟨o13, o14, q12, V⟩ := V
  refine r_getf (ci := 3) (kf := 1) (T := TX2) rfl in_X2 (by decide) wF_X2_18 dX2_copy_12 q12 rfl ?_
  refine r_aload_n 1 dX2_copy_15 rfl rfl ?_
  obtain ⟨o16, o17, q15, V⟩ := V
  refine r_getf (ci := 3) (kf := 1) (T := TX2) rfl in_X2 (by decide) wF_X2_18 dX2_copy_16 q15 rfl ?_
  obtain ⟨o21, o22, q20, V⟩ := V
  refine r_callV (M2 := M_X0_copy) (ci := 1) (n := 1) (As := [.ref o17]) rfl (wl5 wM_X2_21 wi_X0_copy wS_X0_copy wI_StateShares_Big wc_X0_copy) (by decide +kernel) (by decide) rfl rfl (Nat.le_of_ble_eq_true rfl) dX2_copy_19 q20 (by decide) (by decide) (Ct.imp V (fun r h18 n19 V => ?_))
  obtain ⟨rfl, V⟩ := V
  show Blk g M_X2_copy post 22 [(0, .ref x0), (1, .ref x1)] [] h18 n19 0 0
  exact r_vret dX2_copy_22 rfl (by decide) (by decide) V
set_option maxRecDepth 20000 in
theorem v_X2_setLowest_0 {g : xG} {post : xPost} {h : xHp} {nx : Nat} {x0 : Nat} {x1 : Nat} {x2 : Nat} (V : (∃ (o2 : Nat) (o3 : Nat), h x0 = some (xo 3 [.ref o2, .ref o3]) ∧ (∃ (o7 : Nat) (o8 : Nat), h o2 = some (xo 1 [.ref o7, .int (nI o8)]) ∧ Ct g M_X0_copy [.ref o2, .ref x1] h nx (fun r h4 n5 => r = none ∧ (∃ (o10 : Nat) (o11 : Nat), h4 x0 = some (xo 3 [.ref o10, .ref o11]) ∧ (∃ (o15 : Nat) (o16 : Nat), h4 o10 = some (xo 1 [.ref o15, .int (nI o16)]) ∧ Ct g M_X0_isZero [.ref o10] h4 n5 (fun r h12 n13 => ∃ v17 : Nat, r = some (.int (nI v17)) ∧ (v17 < 2 ^ 31 ∧ ((v17 = 0 → (∃ (o19 : Nat) (o20 : Nat), h12 x0 = some (xo 3 [.ref o19, .ref o20]) ∧ (∃ (o24 : Nat) (o25 : Nat) (o26 : Nat), h12 x2 = some (xo 6 [.ref o24, .ref o25, .ref o26]) ∧ Ct g M_X5_whole [.ref x2] h12 n13 (fun r h21 n22 => ∃ v27 : Nat, r = some (.ref v27) ∧ (∃ (o31 : Nat) (o32 : Nat), h21 o20 = some (xo 1 [.ref o31, .int (nI o32)]) ∧ Ct g M_X0_copy [.ref o20, .ref v27] h21 n22 (fun r h28 n29 => r = none ∧ Blk g M_X2_setLowest post 40 [(0, .ref x0), (2, .ref x2), (3, .int (nI 0))] [] h28 n29 0 0)))))) ∧ (¬ v17 = 0 → (∃ (o34 : Nat) (o35 : Nat), h12 x0 = some (xo 3 [.ref o34, .ref o35]) ∧ (∃ (o39 : Nat) (o40 : Nat), h12 o35 = some (xo 1 [.ref o39, .int (nI o40)]) ∧ Ct g M_X0_set [.ref o35, .long (lN 1)] h12 n13 (fun r h36 n37 => r = none ∧ (post none h36 n37)))))))))))))) : Blk g M_X2_setLowest post 0 [(0, .ref x0), (1, .ref x1), (2, .ref x2)] [] h nx 0 0 := by
  refine r_aload_n 0 dX2_setLowest_0 rfl rfl ?_
  obtain ⟨o2, o3, q1, V⟩ := V
  refine r_getf (ci := 3) (kf := 0) (T := TX2) rfl in_X2 (by decide) wF_X2_12 dX2_setLowest_1 q1 rfl ?_
  refine r_aload_n 1 dX2_setLowest_4 rfl rfl ?_
  obtain ⟨o7, o8, q6, V⟩ := V
  refine r_callV (M2 := M_X0_copy) (ci := 1) (n := 1) (As := [.ref x1]) rfl (wl5 wM_X2_21 wi_X0_copy wS_X0_copy wI_StateShares_Big wc_X0_copy) (by decide +kernel) (by decide) rfl rfl (Nat.le_of_ble_eq_true rfl) dX2_setLowest_5 q6 (by decide) (by decide) (Ct.imp V (fun r h4 n5 V => ?_))
  obtain ⟨rfl, V⟩ := V
  show Blk g M_X2_setLowest post 8 [(0, .ref x0), (1, .ref x1), (2, .ref x2)] [] h4 n5 0 0
  refine r_aload_n 0 dX2_setLowest_8 rfl rfl ?_
  obtain ⟨o10, o11, q9, V⟩ := V
  refine r_getf (ci := 3) (kf := 0) (T := TX2) rfl in_X2 (by decide) wF_X2_12 dX2_setLowest_9 q9 rfl ?_
  obtain ⟨o15, o16, q14, V⟩ := V
  refine r_callV (M2 := M_X0_isZero) (ci := 1) (n := 0) (As := []) rfl (wl5 wM_X2_25 wi_X0_isZero wS_X0_isZero wI_StateShares_Big wc_X0_isZero) (by decide +kernel) (by decide) rfl rfl (Nat.le_of_ble_eq_true rfl) dX2_setLowest_12 q14 (by decide) (by decide) (Ct.imp V (fun r h12 n13 V => ?_))
  obtain ⟨v17, rfl, V⟩ := V
  show Blk g M_X2_setLowest post 15 [(0, .ref x0), (1, .ref x1), (2, .ref x2)] [.int (nI v17)] h12 n13 0 0
  obtain ⟨c, V⟩ := V
  refine r_if_eqN (tgt := 27) dX2_setLowest_15 (by decide) c (fun c => ?_) (fun c => ?_)
  · have V := V.1 c
    refine r_aload_n 0 dX2_setLowest_27 rfl rfl ?_
    obtain ⟨o19, o20, q18, V⟩ := V
    refine r_getf (ci := 3) (kf := 1) (T := TX2) rfl in_X2 (by decide) wF_X2_18 dX2_setLowest_28 q18 rfl ?_
    refine r_aload_n 2 dX2_setLowest_31 rfl rfl ?_
    obtain ⟨o24, o25, o26, q23, V⟩ := V
    refine r_callV (M2 := M_X5_whole) (ci := 6) (n := 0) (As := []) rfl (wl5 wM_X2_33 wi_X5_whole wS_X5_whole wI_StateShares_Row wc_X5_whole) (by decide +kernel) (by decide) rfl rfl (Nat.le_of_ble_eq_true rfl) dX2_setLowest_32 q23 (by decide) (by decide) (Ct.imp V (fun r h21 n22 V => ?_))
    obtain ⟨v27, rfl, V⟩ := V
    show Blk g M_X2_setLowest post 35 [(0, .ref x0), (1, .ref x1), (2, .ref x2)] [.ref v27, .ref o20] h21 n22 0 0
    obtain ⟨o31, o32, q30, V⟩ := V
    refine r_callV (M2 := M_X0_copy) (ci := 1) (n := 1) (As := [.ref v27]) rfl (wl5 wM_X2_21 wi_X0_copy wS_X0_copy wI_StateShares_Big wc_X0_copy) (by decide +kernel) (by decide) rfl rfl (Nat.le_of_ble_eq_true rfl) dX2_setLowest_35 q30 (by decide) (by decide) (Ct.imp V (fun r h28 n29 V => ?_))
    obtain ⟨rfl, V⟩ := V
    show Blk g M_X2_setLowest post 38 [(0, .ref x0), (1, .ref x1), (2, .ref x2)] [] h28 n29 0 0
    refine r_iconst (v := (nI 0)) dX2_setLowest_38 rfl ?_
    refine r_istore_n (L' := [(3, .int (nI 0)), (0, .ref x0), (1, .ref x1), (2, .ref x2)]) dX2_setLowest_39 rfl (by decide) rfl ?_
    exact Blk.sub [1, 3, 0] rfl V
  · have V := V.2 c
    refine r_aload_n 0 dX2_setLowest_18 rfl rfl ?_
    obtain ⟨o34, o35, q33, V⟩ := V
    refine r_getf (ci := 3) (kf := 1) (T := TX2) rfl in_X2 (by decide) wF_X2_18 dX2_setLowest_19 q33 rfl ?_
    refine r_lconst (v := (lN 1)) dX2_setLowest_22 rfl ?_
    obtain ⟨o39, o40, q38, V⟩ := V
    refine r_callV (M2 := M_X0_set) (ci := 1) (n := 1) (As := [.long (lN 1)]) rfl (wl5 wM_X2_29 wi_X0_set wS_X0_set wI_StateShares_Big wc_X0_set) (by decide +kernel) (by decide) rfl rfl (Nat.le_of_ble_eq_true rfl) dX2_setLowest_23 q38 (by decide) (by decide) (Ct.imp V (fun r h36 n37 V => ?_))
    obtain ⟨rfl, V⟩ := V
    show Blk g M_X2_setLowest post 26 [(0, .ref x0), (1, .ref x1), (2, .ref x2)] [] h36 n37 0 0
    exact r_vret dX2_setLowest_26 rfl (by decide) (by decide) V
set_option maxRecDepth 20000 in
theorem v_X2_setLowest_40 {g : xG} {post : xPost} {h : xHp} {nx : Nat} {x0 : Nat} {x2 : Nat} {x3 : Nat} (V : ((x3 < 2 ^ 31 ∧ 168 < 2 ^ 31) ∧ ((168 ≤ x3 → (post none h nx)) ∧ (x3 < 168 → (∃ (o4 : Nat) (o5 : Nat) (o6 : Nat), h x2 = some (xo 6 [.ref o4, .ref o5, .ref o6]) ∧ Ct g M_X5_power [.ref x2, .int (nI x3)] h nx (fun r h1 n2 => ∃ v7 : Nat, r = some (.int (nI v7)) ∧ Blk g M_X2_setLowest post 55 [(0, .ref x0), (2, .ref x2), (3, .int (nI x3)), (4, .int (nI v7))] [] h1 n2 0 0)))))) : Blk g M_X2_setLowest post 40 [(0, .ref x0), (2, .ref x2), (3, .int (nI x3))] [] h nx 0 0 := by
  refine r_iload_n 2 dX2_setLowest_40 rfl rfl ?_
  refine r_gsP2 rfl dX2_setLowest_41 ?_
  refine r_alenP dX2_setLowest_44 ?_
  obtain ⟨c, V⟩ := V
  refine r_icmp_geN (tgt := 111) dX2_setLowest_45 (by decide) c (fun c => ?_) (fun c => ?_)
  · have V := V.1 c
    exact r_vret dX2_setLowest_111 rfl (by decide) (by decide) V
  · have V := V.2 c
    refine r_aload_n 1 dX2_setLowest_48 rfl rfl ?_
    refine r_iload_n 2 dX2_setLowest_49 rfl rfl ?_
    obtain ⟨o4, o5, o6, q3, V⟩ := V
    refine r_callV (M2 := M_X5_power) (ci := 6) (n := 1) (As := [.int (nI x3)]) rfl (wl5 wM_X2_45 wi_X5_power wS_X5_power wI_StateShares_Row wc_X5_power) (by decide +kernel) (by decide) rfl rfl (Nat.le_of_ble_eq_true rfl) dX2_setLowest_50 q3 (by decide) (by decide) (Ct.imp V (fun r h1 n2 V => ?_))
    obtain ⟨v7, rfl, V⟩ := V
    show Blk g M_X2_setLowest post 53 [(0, .ref x0), (2, .ref x2), (3, .int (nI x3))] [.int (nI v7)] h1 n2 0 0
    refine r_istore (L' := [(4, .int (nI v7)), (0, .ref x0), (2, .ref x2), (3, .int (nI x3))]) dX2_setLowest_53 (by decide) rfl ?_
    exact Blk.sub [1, 2, 3, 0] rfl V
set_option maxRecDepth 20000 in
theorem v_X2_setLowest_55 {g : xG} {post : xPost} {h : xHp} {nx : Nat} {x0 : Nat} {x2 : Nat} {x3 : Nat} {x4 : Nat} (V : (x4 < 2 ^ 31 ∧ ((x4 = 0 → Blk g M_X2_setLowest post 40 [(0, .ref x0), (2, .ref x2), (3, .int (nI (x3 + 1)))] [] h nx 0 0) ∧ (0 < x4 → (∃ (o2 : Nat) (o3 : Nat), h x0 = some (xo 3 [.ref o2, .ref o3]) ∧ (x3 < 168 ∧ (∃ (o7 : Nat) (o8 : Nat), h o2 = some (xo 1 [.ref o7, .int (nI o8)]) ∧ Ct g M_X0_remainder [.ref o2, .int (nI (xpr x3))] h nx (fun r h4 n5 => ∃ v9 : Nat, r = some (.int (nI v9)) ∧ (v9 < 2 ^ 31 ∧ ((¬ v9 = 0 → Blk g M_X2_setLowest post 40 [(0, .ref x0), (2, .ref x2), (3, .int (nI (x3 + 1)))] [] h4 n5 0 0) ∧ (v9 = 0 → (∃ (o11 : Nat) (o12 : Nat), h4 x0 = some (xo 3 [.ref o11, .ref o12]) ∧ (x3 < 168 ∧ (∃ (o16 : Nat) (o17 : Nat), h4 o11 = some (xo 1 [.ref o16, .int (nI o17)]) ∧ Ct g M_X0_divide [.ref o11, .int (nI (xpr x3))] h4 n5 (fun r h13 n14 => r = none ∧ (∃ (o19 : Nat) (o20 : Nat), h13 x0 = some (xo 3 [.ref o19, .ref o20]) ∧ (x3 < 168 ∧ (∃ (o24 : Nat) (o25 : Nat), h13 o20 = some (xo 1 [.ref o24, .int (nI o25)]) ∧ Ct g M_X0_divide [.ref o20, .int (nI (xpr x3))] h13 n14 (fun r h21 n22 => r = none ∧ (1 ≤ x4 ∧ Blk g M_X2_setLowest post 55 [(0, .ref x0), (2, .ref x2), (3, .int (nI x3)), (4, .int (nI (x4 - 1)))] [] h21 n22 0 0)))))))))))))))))))) : Blk g M_X2_setLowest post 55 [(0, .ref x0), (2, .ref x2), (3, .int (nI x3)), (4, .int (nI x4))] [] h nx 0 0 := by
  refine r_iload 3 dX2_setLowest_55 rfl ?_
  obtain ⟨c, V⟩ := V
  refine r_if_leN (tgt := 105) dX2_setLowest_57 (by decide) c (fun c => ?_) (fun c => ?_)
  · have V := V.1 c
    refine r_iincN 2 (b := 1) (L' := [(3, .int (nI (x3 + 1))), (0, .ref x0), (2, .ref x2), (4, .int (nI x4))]) dX2_setLowest_105 rfl rfl (by decide) rfl ?_
    refine r_goto (tgt := 40) dX2_setLowest_108 (by decide) ?_
    exact Blk.sub [1, 2, 0] rfl V
  · have V := V.2 c
    refine r_aload_n 0 dX2_setLowest_60 rfl rfl ?_
    obtain ⟨o2, o3, q1, V⟩ := V
    refine r_getf (ci := 3) (kf := 0) (T := TX2) rfl in_X2 (by decide) wF_X2_12 dX2_setLowest_61 q1 rfl ?_
    refine r_gsP2 rfl dX2_setLowest_64 ?_
    refine r_iload_n 2 dX2_setLowest_67 rfl rfl ?_
    obtain ⟨c, V⟩ := V
    refine r_ialdP dX2_setLowest_68 rfl c ?_
    obtain ⟨o7, o8, q6, V⟩ := V
    refine r_callV (M2 := M_X0_remainder) (ci := 1) (n := 1) (As := [.int (nI (xpr x3))]) rfl (wl5 wM_X2_49 wi_X0_remainder wS_X0_remainder wI_StateShares_Big wc_X0_remainder) (by decide +kernel) (by decide) rfl rfl (Nat.le_of_ble_eq_true rfl) dX2_setLowest_69 q6 (by decide) (by decide) (Ct.imp V (fun r h4 n5 V => ?_))
    obtain ⟨v9, rfl, V⟩ := V
    show Blk g M_X2_setLowest post 72 [(0, .ref x0), (2, .ref x2), (3, .int (nI x3)), (4, .int (nI x4))] [.int (nI v9)] h4 n5 0 0
    obtain ⟨c, V⟩ := V
    refine r_if_neN (tgt := 105) dX2_setLowest_72 (by decide) c (fun c => ?_) (fun c => ?_)
    · have V := V.1 c
      refine r_iincN 2 (b := 1) (L' := [(3, .int (nI (x3 + 1))), (0, .ref x0), (2, .ref x2), (4, .int (nI x4))]) dX2_setLowest_105 rfl rfl (by decide) rfl ?_
      refine r_goto (tgt := 40) dX2_setLowest_108 (by decide) ?_
      exact Blk.sub [1, 2, 0] rfl V
    · have V := V.2 c
      refine r_aload_n 0 dX2_setLowest_75 rfl rfl ?_
      obtain ⟨o11, o12, q10, V⟩ := V
      refine r_getf (ci := 3) (kf := 0) (T := TX2) rfl in_X2 (by decide) wF_X2_12 dX2_setLowest_76 q10 rfl ?_
      refine r_gsP2 rfl dX2_setLowest_79 ?_
      refine r_iload_n 2 dX2_setLowest_82 rfl rfl ?_
      obtain ⟨c, V⟩ := V
      refine r_ialdP dX2_setLowest_83 rfl c ?_
      obtain ⟨o16, o17, q15, V⟩ := V
      refine r_callV (M2 := M_X0_divide) (ci := 1) (n := 1) (As := [.int (nI (xpr x3))]) rfl (wl5 wM_X2_52 wi_X0_divide wS_X0_divide wI_StateShares_Big wc_X0_divide) (by decide +kernel) (by decide) rfl rfl (Nat.le_of_ble_eq_true rfl) dX2_setLowest_84 q15 (by decide) (by decide) (Ct.imp V (fun r h13 n14 V => ?_))
      obtain ⟨rfl, V⟩ := V
      show Blk g M_X2_setLowest post 87 [(0, .ref x0), (2, .ref x2), (3, .int (nI x3)), (4, .int (nI x4))] [] h13 n14 0 0
      refine r_aload_n 0 dX2_setLowest_87 rfl rfl ?_
      obtain ⟨o19, o20, q18, V⟩ := V
      refine r_getf (ci := 3) (kf := 1) (T := TX2) rfl in_X2 (by decide) wF_X2_18 dX2_setLowest_88 q18 rfl ?_
      refine r_gsP2 rfl dX2_setLowest_91 ?_
      refine r_iload_n 2 dX2_setLowest_94 rfl rfl ?_
      obtain ⟨c, V⟩ := V
      refine r_ialdP dX2_setLowest_95 rfl c ?_
      obtain ⟨o24, o25, q23, V⟩ := V
      refine r_callV (M2 := M_X0_divide) (ci := 1) (n := 1) (As := [.int (nI (xpr x3))]) rfl (wl5 wM_X2_52 wi_X0_divide wS_X0_divide wI_StateShares_Big wc_X0_divide) (by decide +kernel) (by decide) rfl rfl (Nat.le_of_ble_eq_true rfl) dX2_setLowest_96 q23 (by decide) (by decide) (Ct.imp V (fun r h21 n22 V => ?_))
      obtain ⟨rfl, V⟩ := V
      show Blk g M_X2_setLowest post 99 [(0, .ref x0), (2, .ref x2), (3, .int (nI x3)), (4, .int (nI x4))] [] h21 n22 0 0
      obtain ⟨c, V⟩ := V
      refine r_idecN 3 (L' := [(4, .int (nI (x4 - 1))), (0, .ref x0), (2, .ref x2), (3, .int (nI x3))]) dX2_setLowest_99 rfl c (by decide) rfl ?_
      refine r_goto (tgt := 55) dX2_setLowest_102 (by decide) ?_
      exact Blk.sub [1, 2, 3, 0] rfl V
set_option maxRecDepth 20000 in
theorem v_X2_setTail_0 {g : xG} {post : xPost} {h : xHp} {nx : Nat} {x0 : Nat} {x1 : Nat} {x2 : Nat} (V : (∃ (o2 : Nat) (o3 : Nat), h x0 = some (xo 3 [.ref o2, .ref o3]) ∧ (∃ (o7 : Nat) (o8 : Nat), h o2 = some (xo 1 [.ref o7, .int (nI o8)]) ∧ Ct g M_X0_set [.ref o2, .long (lN 0)] h nx (fun r h4 n5 => r = none ∧ Blk g M_X2_setTail post 10 [(0, .ref x0), (1, .ref x1), (3, .int (nI x2))] [] h4 n5 0 0)))) : Blk g M_X2_setTail post 0 [(0, .ref x0), (1, .ref x1), (2, .int (nI x2))] [] h nx 0 0 := by
  refine r_aload_n 0 dX2_setTail_0 rfl rfl ?_
  obtain ⟨o2, o3, q1, V⟩ := V
  refine r_getf (ci := 3) (kf := 0) (T := TX2) rfl in_X2 (by decide) wF_X2_12 dX2_setTail_1 q1 rfl ?_
  refine r_lconst (v := (lN 0)) dX2_setTail_4 rfl ?_
  obtain ⟨o7, o8, q6, V⟩ := V
  refine r_callV (M2 := M_X0_set) (ci := 1) (n := 1) (As := [.long (lN 0)]) rfl (wl5 wM_X2_29 wi_X0_set wS_X0_set wI_StateShares_Big wc_X0_set) (by decide +kernel) (by decide) rfl rfl (Nat.le_of_ble_eq_true rfl) dX2_setTail_5 q6 (by decide) (by decide) (Ct.imp V (fun r h4 n5 V => ?_))
  obtain ⟨rfl, V⟩ := V
  show Blk g M_X2_setTail post 8 [(0, .ref x0), (1, .ref x1), (2, .int (nI x2))] [] h4 n5 0 0
  refine r_iload_n 2 dX2_setTail_8 rfl rfl ?_
  refine r_istore_n (L' := [(3, .int (nI x2)), (0, .ref x0), (1, .ref x1), (2, .int (nI x2))]) dX2_setTail_9 rfl (by decide) rfl ?_
  exact Blk.sub [1, 2, 0] rfl V
set_option maxRecDepth 20000 in
theorem v_X2_setTail_10 {g : xG} {post : xPost} {h : xHp} {nx : Nat} {x0 : Nat} {x1 : Nat} {x3 : Nat} (V : (∃ (o4 : Nat) (o5 : Nat) (o6 : Nat), h x1 = some (xo 6 [.ref o4, .ref o5, .ref o6]) ∧ Ct g M_X5_states [.ref x1] h nx (fun r h1 n2 => ∃ v7 : Nat, r = some (.int (nI v7)) ∧ ((x3 < 2 ^ 31 ∧ v7 < 2 ^ 31) ∧ ((v7 ≤ x3 → (∃ (o9 : Nat) (o10 : Nat), h1 x0 = some (xo 3 [.ref o9, .ref o10]) ∧ (∃ (o14 : Nat) (o15 : Nat) (o16 : Nat), h1 x1 = some (xo 6 [.ref o14, .ref o15, .ref o16]) ∧ Ct g M_X5_whole [.ref x1] h1 n2 (fun r h11 n12 => ∃ v17 : Nat, r = some (.ref v17) ∧ (∃ (o21 : Nat) (o22 : Nat), h11 o10 = some (xo 1 [.ref o21, .int (nI o22)]) ∧ Ct g M_X0_copy [.ref o10, .ref v17] h11 n12 (fun r h18 n19 => r = none ∧ (post none h18 n19))))))) ∧ (x3 < v7 → (∃ (o24 : Nat) (o25 : Nat), h1 x0 = some (xo 3 [.ref o24, .ref o25]) ∧ (∃ (o29 : Nat) (o30 : Nat) (o31 : Nat), h1 x1 = some (xo 6 [.ref o29, .ref o30, .ref o31]) ∧ Ct g M_X5_has [.ref x1, .int (nI x3)] h1 n2 (fun r h26 n27 => ∃ v32 : Nat, r = some (.ref v32) ∧ (∃ (o36 : Nat) (o37 : Nat), h26 o24 = some (xo 1 [.ref o36, .int (nI o37)]) ∧ Ct g M_X0_addProduct [.ref o24, .ref v32, .int (nI 1), .int (nI 0)] h26 n27 (fun r h33 n34 => r = none ∧ Blk g M_X2_setTail post 10 [(0, .ref x0), (1, .ref x1), (3, .int (nI (x3 + 1)))] [] h33 n34 0 0))))))))))) : Blk g M_X2_setTail post 10 [(0, .ref x0), (1, .ref x1), (3, .int (nI x3))] [] h nx 0 0 := by
  refine r_iload_n 2 dX2_setTail_10 rfl rfl ?_
  refine r_aload_n 1 dX2_setTail_11 rfl rfl ?_
  obtain ⟨o4, o5, o6, q3, V⟩ := V
  refine r_callV (M2 := M_X5_states) (ci := 6) (n := 0) (As := []) rfl (wl5 wM_X2_55 wi_X5_states wS_X5_states wI_StateShares_Row wc_X5_states) (by decide +kernel) (by decide) rfl rfl (Nat.le_of_ble_eq_true rfl) dX2_setTail_12 q3 (by decide) (by decide) (Ct.imp V (fun r h1 n2 V => ?_))
  obtain ⟨v7, rfl, V⟩ := V
  show Blk g M_X2_setTail post 15 [(0, .ref x0), (1, .ref x1), (3, .int (nI x3))] [.int (nI v7), .int (nI x3)] h1 n2 0 0
  obtain ⟨c, V⟩ := V
  refine r_icmp_geN (tgt := 38) dX2_setTail_15 (by decide) c (fun c => ?_) (fun c => ?_)
  · have V := V.1 c
    refine r_aload_n 0 dX2_setTail_38 rfl rfl ?_
    obtain ⟨o9, o10, q8, V⟩ := V
    refine r_getf (ci := 3) (kf := 1) (T := TX2) rfl in_X2 (by decide) wF_X2_18 dX2_setTail_39 q8 rfl ?_
    refine r_aload_n 1 dX2_setTail_42 rfl rfl ?_
    obtain ⟨o14, o15, o16, q13, V⟩ := V
    refine r_callV (M2 := M_X5_whole) (ci := 6) (n := 0) (As := []) rfl (wl5 wM_X2_33 wi_X5_whole wS_X5_whole wI_StateShares_Row wc_X5_whole) (by decide +kernel) (by decide) rfl rfl (Nat.le_of_ble_eq_true rfl) dX2_setTail_43 q13 (by decide) (by decide) (Ct.imp V (fun r h11 n12 V => ?_))
    obtain ⟨v17, rfl, V⟩ := V
    show Blk g M_X2_setTail post 46 [(0, .ref x0), (1, .ref x1), (3, .int (nI x3))] [.ref v17, .ref o10] h11 n12 0 0
    obtain ⟨o21, o22, q20, V⟩ := V
    refine r_callV (M2 := M_X0_copy) (ci := 1) (n := 1) (As := [.ref v17]) rfl (wl5 wM_X2_21 wi_X0_copy wS_X0_copy wI_StateShares_Big wc_X0_copy) (by decide +kernel) (by decide) rfl rfl (Nat.le_of_ble_eq_true rfl) dX2_setTail_46 q20 (by decide) (by decide) (Ct.imp V (fun r h18 n19 V => ?_))
    obtain ⟨rfl, V⟩ := V
    show Blk g M_X2_setTail post 49 [(0, .ref x0), (1, .ref x1), (3, .int (nI x3))] [] h18 n19 0 0
    exact r_vret dX2_setTail_49 rfl (by decide) (by decide) V
  · have V := V.2 c
    refine r_aload_n 0 dX2_setTail_18 rfl rfl ?_
    obtain ⟨o24, o25, q23, V⟩ := V
    refine r_getf (ci := 3) (kf := 0) (T := TX2) rfl in_X2 (by decide) wF_X2_12 dX2_setTail_19 q23 rfl ?_
    refine r_aload_n 1 dX2_setTail_22 rfl rfl ?_
    refine r_iload_n 2 dX2_setTail_23 rfl rfl ?_
    obtain ⟨o29, o30, o31, q28, V⟩ := V
    refine r_callV (M2 := M_X5_has) (ci := 6) (n := 1) (As := [.int (nI x3)]) rfl (wl5 wM_X2_59 wi_X5_has wS_X5_has wI_StateShares_Row wc_X5_has) (by decide +kernel) (by decide) rfl rfl (Nat.le_of_ble_eq_true rfl) dX2_setTail_24 q28 (by decide) (by decide) (Ct.imp V (fun r h26 n27 V => ?_))
    obtain ⟨v32, rfl, V⟩ := V
    show Blk g M_X2_setTail post 27 [(0, .ref x0), (1, .ref x1), (3, .int (nI x3))] [.ref v32, .ref o24] h26 n27 0 0
    refine r_iconst (v := (nI 1)) dX2_setTail_27 rfl ?_
    refine r_iconst (v := (nI 0)) dX2_setTail_28 rfl ?_
    obtain ⟨o36, o37, q35, V⟩ := V
    refine r_callV (M2 := M_X0_addProduct) (ci := 1) (n := 3) (As := [.ref v32, .int (nI 1), .int (nI 0)]) rfl (wl5 wM_X2_63 wi_X0_addProduct wS_X0_addProduct wI_StateShares_Big wc_X0_addProduct) (by decide +kernel) (by decide) rfl rfl (Nat.le_of_ble_eq_true rfl) dX2_setTail_29 q35 (by decide) (by decide) (Ct.imp V (fun r h33 n34 V => ?_))
    obtain ⟨rfl, V⟩ := V
    show Blk g M_X2_setTail post 32 [(0, .ref x0), (1, .ref x1), (3, .int (nI x3))] [] h33 n34 0 0
    refine r_iincN 2 (b := 1) (L' := [(3, .int (nI (x3 + 1))), (0, .ref x0), (1, .ref x1)]) dX2_setTail_32 rfl rfl (by decide) rfl ?_
    refine r_goto (tgt := 10) dX2_setTail_35 (by decide) ?_
    exact Blk.sub [1, 2, 0] rfl V
set_option maxRecDepth 20000 in
theorem v_X2_setDifference_0 {g : xG} {post : xPost} {h : xHp} {nx : Nat} {x0 : Nat} {x1 : Nat} {x2 : Nat} (V : (∃ (o2 : Nat) (o3 : Nat), h x0 = some (xo 3 [.ref o2, .ref o3]) ∧ (∃ (o7 : Nat) (o8 : Nat), h o2 = some (xo 1 [.ref o7, .int (nI o8)]) ∧ Ct g M_X0_set [.ref o2, .long (lN 0)] h nx (fun r h4 n5 => r = none ∧ (∃ (o10 : Nat) (o11 : Nat), h4 x0 = some (xo 3 [.ref o10, .ref o11]) ∧ (∃ (o15 : Nat) (o16 : Nat), h4 o11 = some (xo 1 [.ref o15, .int (nI o16)]) ∧ Ct g M_X0_set [.ref o11, .long (lN 0)] h4 n5 (fun r h12 n13 => r = none ∧ Blk g M_X2_setDifference post 18 [(0, .ref x0), (1, .ref x1), (2, .ref x2), (3, .int (nI 0))] [] h12 n13 0 0))))))) : Blk g M_X2_setDifference post 0 [(0, .ref x0), (1, .ref x1), (2, .ref x2)] [] h nx 0 0 := by
  refine r_aload_n 0 dX2_setDifference_0 rfl rfl ?_
  obtain ⟨o2, o3, q1, V⟩ := V
  refine r_getf (ci := 3) (kf := 0) (T := TX2) rfl in_X2 (by decide) wF_X2_12 dX2_setDifference_1 q1 rfl ?_
  refine r_lconst (v := (lN 0)) dX2_setDifference_4 rfl ?_
  obtain ⟨o7, o8, q6, V⟩ := V
  refine r_callV (M2 := M_X0_set) (ci := 1) (n := 1) (As := [.long (lN 0)]) rfl (wl5 wM_X2_29 wi_X0_set wS_X0_set wI_StateShares_Big wc_X0_set) (by decide +kernel) (by decide) rfl rfl (Nat.le_of_ble_eq_true rfl) dX2_setDifference_5 q6 (by decide) (by decide) (Ct.imp V (fun r h4 n5 V => ?_))
  obtain ⟨rfl, V⟩ := V
  show Blk g M_X2_setDifference post 8 [(0, .ref x0), (1, .ref x1), (2, .ref x2)] [] h4 n5 0 0
  refine r_aload_n 0 dX2_setDifference_8 rfl rfl ?_
  obtain ⟨o10, o11, q9, V⟩ := V
  refine r_getf (ci := 3) (kf := 1) (T := TX2) rfl in_X2 (by decide) wF_X2_18 dX2_setDifference_9 q9 rfl ?_
  refine r_lconst (v := (lN 0)) dX2_setDifference_12 rfl ?_
  obtain ⟨o15, o16, q14, V⟩ := V
  refine r_callV (M2 := M_X0_set) (ci := 1) (n := 1) (As := [.long (lN 0)]) rfl (wl5 wM_X2_29 wi_X0_set wS_X0_set wI_StateShares_Big wc_X0_set) (by decide +kernel) (by decide) rfl rfl (Nat.le_of_ble_eq_true rfl) dX2_setDifference_13 q14 (by decide) (by decide) (Ct.imp V (fun r h12 n13 V => ?_))
  obtain ⟨rfl, V⟩ := V
  show Blk g M_X2_setDifference post 16 [(0, .ref x0), (1, .ref x1), (2, .ref x2)] [] h12 n13 0 0
  refine r_iconst (v := (nI 0)) dX2_setDifference_16 rfl ?_
  refine r_istore_n (L' := [(3, .int (nI 0)), (0, .ref x0), (1, .ref x1), (2, .ref x2)]) dX2_setDifference_17 rfl (by decide) rfl ?_
  exact Blk.sub [1, 2, 3, 0] rfl V
set_option maxRecDepth 20000 in
theorem v_X2_setDifference_18 {g : xG} {post : xPost} {h : xHp} {nx : Nat} {x0 : Nat} {x1 : Nat} {x2 : Nat} {x3 : Nat} (V : (∃ (o4 : Nat) (o5 : Nat) (o6 : Nat), h x1 = some (xo 6 [.ref o4, .ref o5, .ref o6]) ∧ Ct g M_X5_states [.ref x1] h nx (fun r h1 n2 => ∃ v7 : Nat, r = some (.int (nI v7)) ∧ ((x3 < 2 ^ 31 ∧ v7 < 2 ^ 31) ∧ ((v7 ≤ x3 → (∃ (o11 : Nat) (o12 : Nat), h1 x0 = some (xo 3 [.ref o11, .ref o12]) ∧ Ct g M_X2_compareParts [.ref x0] h1 n2 (fun r h8 n9 => ∃ v13 : Int32, r = some (.int v13) ∧ ((0 ≤ v13 → (∃ (o15 : Nat) (o16 : Nat), h8 x0 = some (xo 3 [.ref o15, .ref o16]) ∧ (∃ (o20 : Nat) (o21 : Nat), h8 o15 = some (xo 1 [.ref o20, .int (nI o21)]) ∧ Ct g M_X0_subtract [.ref o15, .ref o16] h8 n9 (fun r h17 n18 => r = none ∧ (post (some (.int v13)) h17 n18))))) ∧ (¬ 0 ≤ v13 → (∃ (o23 : Nat) (o24 : Nat), h8 x0 = some (xo 3 [.ref o23, .ref o24]) ∧ (∃ (o28 : Nat) (o29 : Nat), h8 o24 = some (xo 1 [.ref o28, .int (nI o29)]) ∧ Ct g M_X0_subtract [.ref o24, .ref o23] h8 n9 (fun r h25 n26 => r = none ∧ (∃ (o31 : Nat) (o32 : Nat), h25 x0 = some (xo 3 [.ref o31, .ref o32]) ∧ (∃ (o36 : Nat) (o37 : Nat), h25 o31 = some (xo 1 [.ref o36, .int (nI o37)]) ∧ Ct g M_X0_copy [.ref o31, .ref o32] h25 n26 (fun r h33 n34 => r = none ∧ (post (some (.int v13)) h33 n34)))))))))))) ∧ (x3 < v7 → (∃ (N39 : Nat) (f40 : Nat → Int32), h1 x2 = some (xia N39 f40) ∧ x3 < N39 ∧ N39 < 2 ^ 31 ∧ ((0 ≤ (f40 x3) → (∃ (o42 : Nat) (o43 : Nat), h1 x0 = some (xo 3 [.ref o42, .ref o43]) ∧ (∃ (o47 : Nat) (o48 : Nat) (o49 : Nat), h1 x1 = some (xo 6 [.ref o47, .ref o48, .ref o49]) ∧ Ct g M_X5_has [.ref x1, .int (nI x3)] h1 n2 (fun r h44 n45 => ∃ v50 : Nat, r = some (.ref v50) ∧ (∃ (N52 : Nat) (f53 : Nat → Int32), h44 x2 = some (xia N52 f53) ∧ x3 < N52 ∧ N52 < 2 ^ 31 ∧ (∃ (o57 : Nat) (o58 : Nat), h44 o42 = some (xo 1 [.ref o57, .int (nI o58)]) ∧ Ct g M_X0_addProduct [.ref o42, .ref v50, .int (if 0 ≤ (f53 x3) then (f53 x3) else 0 - (f53 x3)), .int (nI 0)] h44 n45 (fun r h54 n55 => r = none ∧ Blk g M_X2_setDifference post 18 [(0, .ref x0), (1, .ref x1), (2, .ref x2), (3, .int (nI (x3 + 1)))] [] h54 n55 0 0))))))) ∧ (¬ 0 ≤ (f40 x3) → (∃ (o60 : Nat) (o61 : Nat), h1 x0 = some (xo 3 [.ref o60, .ref o61]) ∧ (∃ (o65 : Nat) (o66 : Nat) (o67 : Nat), h1 x1 = some (xo 6 [.ref o65, .ref o66, .ref o67]) ∧ Ct g M_X5_has [.ref x1, .int (nI x3)] h1 n2 (fun r h62 n63 => ∃ v68 : Nat, r = some (.ref v68) ∧ (∃ (N70 : Nat) (f71 : Nat → Int32), h62 x2 = some (xia N70 f71) ∧ x3 < N70 ∧ N70 < 2 ^ 31 ∧ (∃ (o75 : Nat) (o76 : Nat), h62 o61 = some (xo 1 [.ref o75, .int (nI o76)]) ∧ Ct g M_X0_addProduct [.ref o61, .ref v68, .int (if 0 ≤ (f71 x3) then (f71 x3) else 0 - (f71 x3)), .int (nI 0)] h62 n63 (fun r h72 n73 => r = none ∧ Blk g M_X2_setDifference post 18 [(0, .ref x0), (1, .ref x1), (2, .ref x2), (3, .int (nI (x3 + 1)))] [] h72 n73 0 0))))))))))))))) : Blk g M_X2_setDifference post 18 [(0, .ref x0), (1, .ref x1), (2, .ref x2), (3, .int (nI x3))] [] h nx 0 0 := by
  refine r_iload_n 3 dX2_setDifference_18 rfl rfl ?_
  refine r_aload_n 1 dX2_setDifference_19 rfl rfl ?_
  obtain ⟨o4, o5, o6, q3, V⟩ := V
  refine r_callV (M2 := M_X5_states) (ci := 6) (n := 0) (As := []) rfl (wl5 wM_X2_55 wi_X5_states wS_X5_states wI_StateShares_Row wc_X5_states) (by decide +kernel) (by decide) rfl rfl (Nat.le_of_ble_eq_true rfl) dX2_setDifference_20 q3 (by decide) (by decide) (Ct.imp V (fun r h1 n2 V => ?_))
  obtain ⟨v7, rfl, V⟩ := V
  show Blk g M_X2_setDifference post 23 [(0, .ref x0), (1, .ref x1), (2, .ref x2), (3, .int (nI x3))] [.int (nI v7), .int (nI x3)] h1 n2 0 0
  obtain ⟨c, V⟩ := V
  refine r_icmp_geN (tgt := 68) dX2_setDifference_23 (by decide) c (fun c => ?_) (fun c => ?_)
  · have V := V.1 c
    refine r_aload_n 0 dX2_setDifference_68 rfl rfl ?_
    obtain ⟨o11, o12, q10, V⟩ := V
    refine r_callV (M2 := M_X2_compareParts) (ci := 3) (n := 0) (As := []) rfl (wl5 wM_X2_72 wi_X2_compareParts wS_X2_compareParts wI_StateShares_Fraction wc_X2_compareParts) (by decide +kernel) (by decide) rfl rfl (Nat.le_of_ble_eq_true rfl) dX2_setDifference_69 q10 (by decide) (by decide) (Ct.imp V (fun r h8 n9 V => ?_))
    obtain ⟨v13, rfl, V⟩ := V
    show Blk g M_X2_setDifference post 72 [(0, .ref x0), (1, .ref x1), (2, .ref x2), (3, .int (nI x3))] [.int v13] h8 n9 0 0
    refine r_istore_n (L' := [(3, .int v13), (0, .ref x0), (1, .ref x1), (2, .ref x2)]) dX2_setDifference_72 rfl (by decide) rfl ?_
    refine r_iload_n 0 dX2_setDifference_73 rfl rfl ?_
    refine r_if_ge (tgt := 102) dX2_setDifference_74 (by decide) (fun c => ?_) (fun c => ?_)
    · have V := V.1 c
      refine r_aload_n 1 dX2_setDifference_102 rfl rfl ?_
      obtain ⟨o15, o16, q14, V⟩ := V
      refine r_getf (ci := 3) (kf := 0) (T := TX2) rfl in_X2 (by decide) wF_X2_12 dX2_setDifference_103 q14 rfl ?_
      refine r_aload_n 1 dX2_setDifference_106 rfl rfl ?_
      refine r_getf (ci := 3) (kf := 1) (T := TX2) rfl in_X2 (by decide) wF_X2_18 dX2_setDifference_107 q14 rfl ?_
      obtain ⟨o20, o21, q19, V⟩ := V
      refine r_callV (M2 := M_X0_subtract) (ci := 1) (n := 1) (As := [.ref o16]) rfl (wl5 wM_X2_75 wi_X0_subtract wS_X0_subtract wI_StateShares_Big wc_X0_subtract) (by decide +kernel) (by decide) rfl rfl (Nat.le_of_ble_eq_true rfl) dX2_setDifference_110 q19 (by decide) (by decide) (Ct.imp V (fun r h17 n18 V => ?_))
      obtain ⟨rfl, V⟩ := V
      show Blk g M_X2_setDifference post 113 [(3, .int v13), (0, .ref x0), (1, .ref x1), (2, .ref x2)] [] h17 n18 0 0
      refine r_iload_n 0 dX2_setDifference_113 rfl rfl ?_
      exact r_iret dX2_setDifference_114 rfl (by decide) (by decide) V
    · have V := V.2 c
      refine r_aload_n 1 dX2_setDifference_77 rfl rfl ?_
      obtain ⟨o23, o24, q22, V⟩ := V
      refine r_getf (ci := 3) (kf := 1) (T := TX2) rfl in_X2 (by decide) wF_X2_18 dX2_setDifference_78 q22 rfl ?_
      refine r_aload_n 1 dX2_setDifference_81 rfl rfl ?_
      refine r_getf (ci := 3) (kf := 0) (T := TX2) rfl in_X2 (by decide) wF_X2_12 dX2_setDifference_82 q22 rfl ?_
      obtain ⟨o28, o29, q27, V⟩ := V
      refine r_callV (M2 := M_X0_subtract) (ci := 1) (n := 1) (As := [.ref o23]) rfl (wl5 wM_X2_75 wi_X0_subtract wS_X0_subtract wI_StateShares_Big wc_X0_subtract) (by decide +kernel) (by decide) rfl rfl (Nat.le_of_ble_eq_true rfl) dX2_setDifference_85 q27 (by decide) (by decide) (Ct.imp V (fun r h25 n26 V => ?_))
      obtain ⟨rfl, V⟩ := V
      show Blk g M_X2_setDifference post 88 [(3, .int v13), (0, .ref x0), (1, .ref x1), (2, .ref x2)] [] h25 n26 0 0
      refine r_aload_n 1 dX2_setDifference_88 rfl rfl ?_
      obtain ⟨o31, o32, q30, V⟩ := V
      refine r_getf (ci := 3) (kf := 0) (T := TX2) rfl in_X2 (by decide) wF_X2_12 dX2_setDifference_89 q30 rfl ?_
      refine r_aload_n 1 dX2_setDifference_92 rfl rfl ?_
      refine r_getf (ci := 3) (kf := 1) (T := TX2) rfl in_X2 (by decide) wF_X2_18 dX2_setDifference_93 q30 rfl ?_
      obtain ⟨o36, o37, q35, V⟩ := V
      refine r_callV (M2 := M_X0_copy) (ci := 1) (n := 1) (As := [.ref o32]) rfl (wl5 wM_X2_21 wi_X0_copy wS_X0_copy wI_StateShares_Big wc_X0_copy) (by decide +kernel) (by decide) rfl rfl (Nat.le_of_ble_eq_true rfl) dX2_setDifference_96 q35 (by decide) (by decide) (Ct.imp V (fun r h33 n34 V => ?_))
      obtain ⟨rfl, V⟩ := V
      show Blk g M_X2_setDifference post 99 [(3, .int v13), (0, .ref x0), (1, .ref x1), (2, .ref x2)] [] h33 n34 0 0
      refine r_goto (tgt := 113) dX2_setDifference_99 (by decide) ?_
      refine r_iload_n 0 dX2_setDifference_113 rfl rfl ?_
      exact r_iret dX2_setDifference_114 rfl (by decide) (by decide) V
  · have V := V.2 c
    refine r_aload_n 2 dX2_setDifference_26 rfl rfl ?_
    refine r_iload_n 3 dX2_setDifference_27 rfl rfl ?_
    obtain ⟨N39, f40, q38, V⟩ := V
    obtain ⟨c, cN, V⟩ := V
    refine r_iald dX2_setDifference_28 q38 rfl c cN ?_
    show Blk g M_X2_setDifference post 29 [(0, .ref x0), (1, .ref x1), (2, .ref x2), (3, .int (nI x3))] [.int (f40 x3)] h1 n2 0 0
    refine r_if_ge (tgt := 39) dX2_setDifference_29 (by decide) (fun c => ?_) (fun c => ?_)
    · have V := V.1 c
      refine r_aload_n 0 dX2_setDifference_39 rfl rfl ?_
      obtain ⟨o42, o43, q41, V⟩ := V
      refine r_getf (ci := 3) (kf := 0) (T := TX2) rfl in_X2 (by decide) wF_X2_12 dX2_setDifference_40 q41 rfl ?_
      refine r_astore (L' := [(4, .ref o42), (0, .ref x0), (1, .ref x1), (2, .ref x2), (3, .int (nI x3))]) dX2_setDifference_43 (by decide) rfl ?_
      refine r_aload 0 dX2_setDifference_45 rfl ?_
      refine r_aload_n 2 dX2_setDifference_47 rfl rfl ?_
      refine r_iload_n 4 dX2_setDifference_48 rfl rfl ?_
      obtain ⟨o47, o48, o49, q46, V⟩ := V
      refine r_callV (M2 := M_X5_has) (ci := 6) (n := 1) (As := [.int (nI x3)]) rfl (wl5 wM_X2_59 wi_X5_has wS_X5_has wI_StateShares_Row wc_X5_has) (by decide +kernel) (by decide) rfl rfl (Nat.le_of_ble_eq_true rfl) dX2_setDifference_49 q46 (by decide) (by decide) (Ct.imp V (fun r h44 n45 V => ?_))
      obtain ⟨v50, rfl, V⟩ := V
      show Blk g M_X2_setDifference post 52 [(4, .ref o42), (0, .ref x0), (1, .ref x1), (2, .ref x2), (3, .int (nI x3))] [.ref v50, .ref o42] h44 n45 0 0
      refine r_aload_n 3 dX2_setDifference_52 rfl rfl ?_
      refine r_iload_n 4 dX2_setDifference_53 rfl rfl ?_
      obtain ⟨N52, f53, q51, V⟩ := V
      obtain ⟨c, cN, V⟩ := V
      refine r_iald dX2_setDifference_54 q51 rfl c cN ?_
      show Blk g M_X2_setDifference post 55 [(4, .ref o42), (0, .ref x0), (1, .ref x1), (2, .ref x2), (3, .int (nI x3))] [.int (f53 x3), .ref v50, .ref o42] h44 n45 0 0
      refine r_mabs wM_X2_67 ws_J9_abs_0f7a4 wI_java_lang_Math wc_J9_abs_0f7a4 dX2_setDifference_55 (by decide) (Nat.le_of_ble_eq_true rfl) (by decide) (by decide) ?_
      refine r_iconst (v := (nI 0)) dX2_setDifference_58 rfl ?_
      obtain ⟨o57, o58, q56, V⟩ := V
      refine r_callV (M2 := M_X0_addProduct) (ci := 1) (n := 3) (As := [.ref v50, .int (if 0 ≤ (f53 x3) then (f53 x3) else 0 - (f53 x3)), .int (nI 0)]) rfl (wl5 wM_X2_63 wi_X0_addProduct wS_X0_addProduct wI_StateShares_Big wc_X0_addProduct) (by decide +kernel) (by decide) rfl rfl (Nat.le_of_ble_eq_true rfl) dX2_setDifference_59 q56 (by decide) (by decide) (Ct.imp V (fun r h54 n55 V => ?_))
      obtain ⟨rfl, V⟩ := V
      show Blk g M_X2_setDifference post 62 [(4, .ref o42), (0, .ref x0), (1, .ref x1), (2, .ref x2), (3, .int (nI x3))] [] h54 n55 0 0
      refine r_iincN 4 (b := 1) (L' := [(3, .int (nI (x3 + 1))), (4, .ref o42), (0, .ref x0), (1, .ref x1), (2, .ref x2)]) dX2_setDifference_62 rfl rfl (by decide) rfl ?_
      refine r_goto (tgt := 18) dX2_setDifference_65 (by decide) ?_
      exact Blk.sub [2, 3, 4, 0] rfl V
    · have V := V.2 c
      refine r_aload_n 0 dX2_setDifference_32 rfl rfl ?_
      obtain ⟨o60, o61, q59, V⟩ := V
      refine r_getf (ci := 3) (kf := 1) (T := TX2) rfl in_X2 (by decide) wF_X2_18 dX2_setDifference_33 q59 rfl ?_
      refine r_goto (tgt := 43) dX2_setDifference_36 (by decide) ?_
      refine r_astore (L' := [(4, .ref o61), (0, .ref x0), (1, .ref x1), (2, .ref x2), (3, .int (nI x3))]) dX2_setDifference_43 (by decide) rfl ?_
      refine r_aload 0 dX2_setDifference_45 rfl ?_
      refine r_aload_n 2 dX2_setDifference_47 rfl rfl ?_
      refine r_iload_n 4 dX2_setDifference_48 rfl rfl ?_
      obtain ⟨o65, o66, o67, q64, V⟩ := V
      refine r_callV (M2 := M_X5_has) (ci := 6) (n := 1) (As := [.int (nI x3)]) rfl (wl5 wM_X2_59 wi_X5_has wS_X5_has wI_StateShares_Row wc_X5_has) (by decide +kernel) (by decide) rfl rfl (Nat.le_of_ble_eq_true rfl) dX2_setDifference_49 q64 (by decide) (by decide) (Ct.imp V (fun r h62 n63 V => ?_))
      obtain ⟨v68, rfl, V⟩ := V
      show Blk g M_X2_setDifference post 52 [(4, .ref o61), (0, .ref x0), (1, .ref x1), (2, .ref x2), (3, .int (nI x3))] [.ref v68, .ref o61] h62 n63 0 0
      refine r_aload_n 3 dX2_setDifference_52 rfl rfl ?_
      refine r_iload_n 4 dX2_setDifference_53 rfl rfl ?_
      obtain ⟨N70, f71, q69, V⟩ := V
      obtain ⟨c, cN, V⟩ := V
      refine r_iald dX2_setDifference_54 q69 rfl c cN ?_
      show Blk g M_X2_setDifference post 55 [(4, .ref o61), (0, .ref x0), (1, .ref x1), (2, .ref x2), (3, .int (nI x3))] [.int (f71 x3), .ref v68, .ref o61] h62 n63 0 0
      refine r_mabs wM_X2_67 ws_J9_abs_0f7a4 wI_java_lang_Math wc_J9_abs_0f7a4 dX2_setDifference_55 (by decide) (Nat.le_of_ble_eq_true rfl) (by decide) (by decide) ?_
      refine r_iconst (v := (nI 0)) dX2_setDifference_58 rfl ?_
      obtain ⟨o75, o76, q74, V⟩ := V
      refine r_callV (M2 := M_X0_addProduct) (ci := 1) (n := 3) (As := [.ref v68, .int (if 0 ≤ (f71 x3) then (f71 x3) else 0 - (f71 x3)), .int (nI 0)]) rfl (wl5 wM_X2_63 wi_X0_addProduct wS_X0_addProduct wI_StateShares_Big wc_X0_addProduct) (by decide +kernel) (by decide) rfl rfl (Nat.le_of_ble_eq_true rfl) dX2_setDifference_59 q74 (by decide) (by decide) (Ct.imp V (fun r h72 n73 V => ?_))
      obtain ⟨rfl, V⟩ := V
      show Blk g M_X2_setDifference post 62 [(4, .ref o61), (0, .ref x0), (1, .ref x1), (2, .ref x2), (3, .int (nI x3))] [] h72 n73 0 0
      refine r_iincN 4 (b := 1) (L' := [(3, .int (nI (x3 + 1))), (4, .ref o61), (0, .ref x0), (1, .ref x1), (2, .ref x2)]) dX2_setDifference_62 rfl rfl (by decide) rfl ?_
      refine r_goto (tgt := 18) dX2_setDifference_65 (by decide) ?_
      exact Blk.sub [2, 3, 4, 0] rfl V
set_option maxRecDepth 20000 in
theorem v_X2_multiplyParts_0 {g : xG} {post : xPost} {h : xHp} {nx : Nat} {x0 : Nat} {x1 : Nat} {x2 : Nat} (V : (∃ (o2 : Nat) (o3 : Nat), h x0 = some (xo 3 [.ref o2, .ref o3]) ∧ (∃ (o7 : Nat) (o8 : Nat), h o2 = some (xo 1 [.ref o7, .int (nI o8)]) ∧ Ct g M_X0_multiply [.ref o2, .int (nI x1)] h nx (fun r h4 n5 => r = none ∧ (∃ (o10 : Nat) (o11 : Nat), h4 x0 = some (xo 3 [.ref o10, .ref o11]) ∧ (∃ (o15 : Nat) (o16 : Nat), h4 o11 = some (xo 1 [.ref o15, .int (nI o16)]) ∧ Ct g M_X0_multiply [.ref o11, .int (nI x2)] h4 n5 (fun r h12 n13 => r = none ∧ (post none h12 n13)))))))) : Blk g M_X2_multiplyParts post 0 [(0, .ref x0), (1, .int (nI x1)), (2, .int (nI x2))] [] h nx 0 0 := by
  refine r_aload_n 0 dX2_multiplyParts_0 rfl rfl ?_
  obtain ⟨o2, o3, q1, V⟩ := V
  refine r_getf (ci := 3) (kf := 0) (T := TX2) rfl in_X2 (by decide) wF_X2_12 dX2_multiplyParts_1 q1 rfl ?_
  refine r_iload_n 1 dX2_multiplyParts_4 rfl rfl ?_
  obtain ⟨o7, o8, q6, V⟩ := V
  refine r_callV (M2 := M_X0_multiply) (ci := 1) (n := 1) (As := [.int (nI x1)]) rfl (wl5 wM_X2_78 wi_X0_multiply wS_X0_multiply wI_StateShares_Big wc_X0_multiply) (by decide +kernel) (by decide) rfl rfl (Nat.le_of_ble_eq_true rfl) dX2_multiplyParts_5 q6 (by decide) (by decide) (Ct.imp V (fun r h4 n5 V => ?_))
  obtain ⟨rfl, V⟩ := V
  show Blk g M_X2_multiplyParts post 8 [(0, .ref x0), (1, .int (nI x1)), (2, .int (nI x2))] [] h4 n5 0 0
  refine r_aload_n 0 dX2_multiplyParts_8 rfl rfl ?_
  obtain ⟨o10, o11, q9, V⟩ := V
  refine r_getf (ci := 3) (kf := 1) (T := TX2) rfl in_X2 (by decide) wF_X2_18 dX2_multiplyParts_9 q9 rfl ?_
  refine r_iload_n 2 dX2_multiplyParts_12 rfl rfl ?_
  obtain ⟨o15, o16, q14, V⟩ := V
  refine r_callV (M2 := M_X0_multiply) (ci := 1) (n := 1) (As := [.int (nI x2)]) rfl (wl5 wM_X2_78 wi_X0_multiply wS_X0_multiply wI_StateShares_Big wc_X0_multiply) (by decide +kernel) (by decide) rfl rfl (Nat.le_of_ble_eq_true rfl) dX2_multiplyParts_13 q14 (by decide) (by decide) (Ct.imp V (fun r h12 n13 V => ?_))
  obtain ⟨rfl, V⟩ := V
  show Blk g M_X2_multiplyParts post 16 [(0, .ref x0), (1, .int (nI x1)), (2, .int (nI x2))] [] h12 n13 0 0
  exact r_vret dX2_multiplyParts_16 rfl (by decide) (by decide) V
set_option maxRecDepth 20000 in
theorem v_X2_compareParts_0 {g : xG} {post : xPost} {h : xHp} {nx : Nat} {x0 : Nat} (V : (∃ (o2 : Nat) (o3 : Nat), h x0 = some (xo 3 [.ref o2, .ref o3]) ∧ (∃ (o7 : Nat) (o8 : Nat), h o2 = some (xo 1 [.ref o7, .int (nI o8)]) ∧ Ct g M_X0_compareWith [.ref o2, .ref o3] h nx (fun r h4 n5 => ∃ v9 : Int32, r = some (.int v9) ∧ (post (some (.int v9)) h4 n5))))) : Blk g M_X2_compareParts post 0 [(0, .ref x0)] [] h nx 0 0 := by
  refine r_aload_n 0 dX2_compareParts_0 rfl rfl ?_
  obtain ⟨o2, o3, q1, V⟩ := V
  refine r_getf (ci := 3) (kf := 0) (T := TX2) rfl in_X2 (by decide) wF_X2_12 dX2_compareParts_1 q1 rfl ?_
  refine r_aload_n 0 dX2_compareParts_4 rfl rfl ?_
  refine r_getf (ci := 3) (kf := 1) (T := TX2) rfl in_X2 (by decide) wF_X2_18 dX2_compareParts_5 q1 rfl ?_
  obtain ⟨o7, o8, q6, V⟩ := V
  refine r_callV (M2 := M_X0_compareWith) (ci := 1) (n := 1) (As := [.ref o3]) rfl (wl5 wM_X2_81 wi_X0_compareWith wS_X0_compareWith wI_StateShares_Big wc_X0_compareWith) (by decide +kernel) (by decide) rfl rfl (Nat.le_of_ble_eq_true rfl) dX2_compareParts_8 q6 (by decide) (by decide) (Ct.imp V (fun r h4 n5 V => ?_))
  obtain ⟨v9, rfl, V⟩ := V
  show Blk g M_X2_compareParts post 11 [(0, .ref x0)] [.int v9] h4 n5 0 0
  exact r_iret dX2_compareParts_11 rfl (by decide) (by decide) V
set_option maxRecDepth 20000 in
theorem v_X2_isBelow_0 {g : xG} {post : xPost} {h : xHp} {nx : Nat} {x0 : Nat} {x1 : Nat} (V : (∃ (o2 : Nat) (o3 : Nat), h x0 = some (xo 3 [.ref o2, .ref o3]) ∧ (∃ (o7 : Nat) (o8 : Nat), h o2 = some (xo 1 [.ref o7, .int (nI o8)]) ∧ Ct g M_X0_compareWith [.ref o2, .ref x1] h nx (fun r h4 n5 => ∃ v9 : Int32, r = some (.int v9) ∧ ((0 ≤ v9 → (post (some (.int (nI 0))) h4 n5)) ∧ (¬ 0 ≤ v9 → (∃ (o11 : Nat) (o12 : Nat), h4 x0 = some (xo 3 [.ref o11, .ref o12]) ∧ (∃ (o16 : Nat) (o17 : Nat), h4 o12 = some (xo 1 [.ref o16, .int (nI o17)]) ∧ Ct g M_X0_compareWith [.ref o12, .ref x1] h4 n5 (fun r h13 n14 => ∃ v18 : Int32, r = some (.int v18) ∧ ((0 ≤ v18 → (post (some (.int (nI 0))) h13 n14)) ∧ (¬ 0 ≤ v18 → (post (some (.int (nI 1))) h13 n14)))))))))))) : Blk g M_X2_isBelow post 0 [(0, .ref x0), (1, .ref x1)] [] h nx 0 0 := by
  refine r_aload_n 0 dX2_isBelow_0 rfl rfl ?_
  obtain ⟨o2, o3, q1, V⟩ := V
  refine r_getf (ci := 3) (kf := 0) (T := TX2) rfl in_X2 (by decide) wF_X2_12 dX2_isBelow_1 q1 rfl ?_
  refine r_aload_n 1 dX2_isBelow_4 rfl rfl ?_
  obtain ⟨o7, o8, q6, V⟩ := V
  refine r_callV (M2 := M_X0_compareWith) (ci := 1) (n := 1) (As := [.ref x1]) rfl (wl5 wM_X2_81 wi_X0_compareWith wS_X0_compareWith wI_StateShares_Big wc_X0_compareWith) (by decide +kernel) (by decide) rfl rfl (Nat.le_of_ble_eq_true rfl) dX2_isBelow_5 q6 (by decide) (by decide) (Ct.imp V (fun r h4 n5 V => ?_))
  obtain ⟨v9, rfl, V⟩ := V
  show Blk g M_X2_isBelow post 8 [(0, .ref x0), (1, .ref x1)] [.int v9] h4 n5 0 0
  refine r_if_ge (tgt := 26) dX2_isBelow_8 (by decide) (fun c => ?_) (fun c => ?_)
  · have V := V.1 c
    refine r_iconst (v := (nI 0)) dX2_isBelow_26 rfl ?_
    exact r_zret (ty := .boolean) dX2_isBelow_27 rfl rfl (by decide) (by decide) V
  · have V := V.2 c
    refine r_aload_n 0 dX2_isBelow_11 rfl rfl ?_
    obtain ⟨o11, o12, q10, V⟩ := V
    refine r_getf (ci := 3) (kf := 1) (T := TX2) rfl in_X2 (by decide) wF_X2_18 dX2_isBelow_12 q10 rfl ?_
    refine r_aload_n 1 dX2_isBelow_15 rfl rfl ?_
    obtain ⟨o16, o17, q15, V⟩ := V
    refine r_callV (M2 := M_X0_compareWith) (ci := 1) (n := 1) (As := [.ref x1]) rfl (wl5 wM_X2_81 wi_X0_compareWith wS_X0_compareWith wI_StateShares_Big wc_X0_compareWith) (by decide +kernel) (by decide) rfl rfl (Nat.le_of_ble_eq_true rfl) dX2_isBelow_16 q15 (by decide) (by decide) (Ct.imp V (fun r h13 n14 V => ?_))
    obtain ⟨v18, rfl, V⟩ := V
    show Blk g M_X2_isBelow post 19 [(0, .ref x0), (1, .ref x1)] [.int v18] h13 n14 0 0
    refine r_if_ge (tgt := 26) dX2_isBelow_19 (by decide) (fun c => ?_) (fun c => ?_)
    · have V := V.1 c
      refine r_iconst (v := (nI 0)) dX2_isBelow_26 rfl ?_
      exact r_zret (ty := .boolean) dX2_isBelow_27 rfl rfl (by decide) (by decide) V
    · have V := V.2 c
      refine r_iconst (v := (nI 1)) dX2_isBelow_22 rfl ?_
      refine r_goto (tgt := 27) dX2_isBelow_23 (by decide) ?_
      exact r_zret (ty := .boolean) dX2_isBelow_27 rfl rfl (by decide) (by decide) V
set_option maxRecDepth 20000 in
theorem v_X2_digits_0 {g : xG} {post : xPost} {h : xHp} {nx : Nat} {x0 : Nat} {x1 : Int32} (V : ((0 ≤ x1 → ((¬ (x1 &&& (nI 1)) = 0 → (∃ (o2 : Nat) (o3 : Nat), h x0 = some (xo 3 [.ref o2, .ref o3]) ∧ (∃ (o7 : Nat) (o8 : Nat), h o3 = some (xo 1 [.ref o7, .int (nI o8)]) ∧ Ct g M_X0_eighteenDigits [.ref o3, .int (x1 >>> ((nI 1) &&& 31))] h nx (fun r h4 n5 => ∃ v9 : Nat, r = some (.long (lN v9)) ∧ (post (some (.long (lN v9))) h4 n5))))) ∧ ((x1 &&& (nI 1)) = 0 → (∃ (o11 : Nat) (o12 : Nat), h x0 = some (xo 3 [.ref o11, .ref o12]) ∧ (∃ (o16 : Nat) (o17 : Nat), h o11 = some (xo 1 [.ref o16, .int (nI o17)]) ∧ Ct g M_X0_eighteenDigits [.ref o11, .int (x1 >>> ((nI 1) &&& 31))] h nx (fun r h13 n14 => ∃ v18 : Nat, r = some (.long (lN v18)) ∧ (post (some (.long (lN v18))) h13 n14))))))) ∧ (¬ 0 ≤ x1 → (post (some (.long (lN 0))) h nx)))) : Blk g M_X2_digits post 0 [(0, .ref x0), (1, .int x1)] [] h nx 0 0 := by
  refine r_iload_n 1 dX2_digits_0 rfl rfl ?_
  refine r_if_ge (tgt := 6) dX2_digits_1 (by decide) (fun c => ?_) (fun c => ?_)
  · have V := V.1 c
    refine r_iload_n 1 dX2_digits_6 rfl rfl ?_
    refine r_iconst (v := (nI 1)) dX2_digits_7 rfl ?_
    refine r_iand dX2_digits_8 ?_
    refine r_if_ne (tgt := 25) dX2_digits_9 (by decide) (fun c => ?_) (fun c => ?_)
    · have V := V.1 c
      refine r_aload_n 0 dX2_digits_25 rfl rfl ?_
      obtain ⟨o2, o3, q1, V⟩ := V
      refine r_getf (ci := 3) (kf := 1) (T := TX2) rfl in_X2 (by decide) wF_X2_18 dX2_digits_26 q1 rfl ?_
      refine r_iload_n 1 dX2_digits_29 rfl rfl ?_
      refine r_iconst (v := (nI 1)) dX2_digits_30 rfl ?_
      refine r_ishr dX2_digits_31 ?_
      obtain ⟨o7, o8, q6, V⟩ := V
      refine r_callV (M2 := M_X0_eighteenDigits) (ci := 1) (n := 1) (As := [.int (x1 >>> ((nI 1) &&& 31))]) rfl (wl5 wM_X2_85 wi_X0_eighteenDigits wS_X0_eighteenDigits wI_StateShares_Big wc_X0_eighteenDigits) (by decide +kernel) (by decide) rfl rfl (Nat.le_of_ble_eq_true rfl) dX2_digits_32 q6 (by decide) (by decide) (Ct.imp V (fun r h4 n5 V => ?_))
      obtain ⟨v9, rfl, V⟩ := V
      show Blk g M_X2_digits post 35 [(0, .ref x0), (1, .int x1)] [.long (lN v9)] h4 n5 0 0
      exact r_lret dX2_digits_35 rfl (by decide) (by decide) V
    · have V := V.2 c
      refine r_aload_n 0 dX2_digits_12 rfl rfl ?_
      obtain ⟨o11, o12, q10, V⟩ := V
      refine r_getf (ci := 3) (kf := 0) (T := TX2) rfl in_X2 (by decide) wF_X2_12 dX2_digits_13 q10 rfl ?_
      refine r_iload_n 1 dX2_digits_16 rfl rfl ?_
      refine r_iconst (v := (nI 1)) dX2_digits_17 rfl ?_
      refine r_ishr dX2_digits_18 ?_
      obtain ⟨o16, o17, q15, V⟩ := V
      refine r_callV (M2 := M_X0_eighteenDigits) (ci := 1) (n := 1) (As := [.int (x1 >>> ((nI 1) &&& 31))]) rfl (wl5 wM_X2_85 wi_X0_eighteenDigits wS_X0_eighteenDigits wI_StateShares_Big wc_X0_eighteenDigits) (by decide +kernel) (by decide) rfl rfl (Nat.le_of_ble_eq_true rfl) dX2_digits_19 q15 (by decide) (by decide) (Ct.imp V (fun r h13 n14 V => ?_))
      obtain ⟨v18, rfl, V⟩ := V
      show Blk g M_X2_digits post 22 [(0, .ref x0), (1, .int x1)] [.long (lN v18)] h13 n14 0 0
      refine r_goto (tgt := 35) dX2_digits_22 (by decide) ?_
      exact r_lret dX2_digits_35 rfl (by decide) (by decide) V
  · have V := V.2 c
    refine r_lconst (v := (lN 0)) dX2_digits_4 rfl ?_
    exact r_lret dX2_digits_5 rfl (by decide) (by decide) V
set_option maxRecDepth 20000 in
theorem v_X8_init_0 {g : xG} {post : xPost} {h : xHp} {nx : Nat} {x0 : Nat} (V : (h x0 = some (xo 9 [.null, .null, .null, .null, .null]) ∧ x0 ≠ nx ∧ (x0 ≠ (nx + 1) ∧ (x0 ≠ ((nx + 1) + 1) ∧ (x0 ≠ (((nx + 1) + 1) + 1) ∧ (x0 ≠ ((((nx + 1) + 1) + 1) + 1) ∧ (post none (xup (xup (xup (xup (xup (xup (xup (xup (xup (xup h nx (xna 12 (fun _ => 0))) x0 (xo 9 [.ref nx, .null, .null, .null, .null])) (nx + 1) (xna 144 (fun _ => 0))) x0 (xo 9 [.ref nx, .ref (nx + 1), .null, .null, .null])) ((nx + 1) + 1) (xna 144 (fun _ => 0))) x0 (xo 9 [.ref nx, .ref (nx + 1), .ref ((nx + 1) + 1), .null, .null])) (((nx + 1) + 1) + 1) (xna 144 (fun _ => 0))) x0 (xo 9 [.ref nx, .ref (nx + 1), .ref ((nx + 1) + 1), .ref (((nx + 1) + 1) + 1), .null])) ((((nx + 1) + 1) + 1) + 1) (xna 144 (fun _ => 0))) x0 (xo 9 [.ref nx, .ref (nx + 1), .ref ((nx + 1) + 1), .ref (((nx + 1) + 1) + 1), .ref ((((nx + 1) + 1) + 1) + 1)])) (((((nx + 1) + 1) + 1) + 1) + 1)))))))) : Blk g M_X8_init post 0 [(0, .ref x0)] [] h nx 0 0 := by
  refine r_aload_n 0 dX8_init_0 rfl rfl ?_
  refine r_oinit wM_X8_3 wi_java_lang_Object__init____V wc_java_lang_Object__init____V dX8_init_1 (by decide) (Nat.le_of_ble_eq_true rfl) ?_
  refine r_aload_n 0 dX8_init_4 rfl rfl ?_
  refine r_bipush (v := (nI 12)) dX8_init_5 rfl ?_
  refine r_newi wA_int dX8_init_7 rfl (by decide) (by decide) (by decide) ?_
  show Blk g M_X8_init post 9 [(0, .ref x0)] [.ref nx, .ref x0] (xup h nx (xna 12 (fun _ => 0))) (nx + 1) 1 12
  obtain ⟨q1, V⟩ := V
  obtain ⟨n2, V⟩ := V
  have q3 : (xup h nx (xna 12 (fun _ => 0))) x0 = some (xo 9 [.null, .null, .null, .null, .null]) := (xup_n n2).trans q1
  refine r_putF (ci := 9) (kf := 0) (T := TX8) rfl in_X8 tyX8_ok nmX8 (by decide) wF_X8_9 rfl rfl rfl (tyX8_ok 0 (by decide)) dX8_init_9 q3 (Nat.le_of_ble_eq_true rfl) rfl rfl ?_
  show Blk g M_X8_init post 12 [(0, .ref x0)] [] (xup (xup h nx (xna 12 (fun _ => 0))) x0 (xo 9 [.ref nx, .null, .null, .null, .null])) (nx + 1) 1 12
  refine r_aload_n 0 dX8_init_12 rfl rfl ?_
  refine r_sipush (v := (nI 144)) dX8_init_13 rfl ?_
  refine r_newi wA_int dX8_init_16 rfl (by decide) (by decide) (by decide) ?_
  show Blk g M_X8_init post 18 [(0, .ref x0)] [.ref (nx + 1), .ref x0] (xup (xup (xup h nx (xna 12 (fun _ => 0))) x0 (xo 9 [.ref nx, .null, .null, .null, .null])) (nx + 1) (xna 144 (fun _ => 0))) ((nx + 1) + 1) 2 156
  obtain ⟨n4, V⟩ := V
  have q5 : (xup (xup (xup h nx (xna 12 (fun _ => 0))) x0 (xo 9 [.ref nx, .null, .null, .null, .null])) (nx + 1) (xna 144 (fun _ => 0))) x0 = some (xo 9 [.ref nx, .null, .null, .null, .null]) := (xup_n n4).trans (xup_s _ _ _)
  refine r_putF (ci := 9) (kf := 1) (T := TX8) rfl in_X8 tyX8_ok nmX8 (by decide) wF_X8_15 rfl rfl rfl (tyX8_ok 1 (by decide)) dX8_init_18 q5 (Nat.le_of_ble_eq_true rfl) rfl rfl ?_
  show Blk g M_X8_init post 21 [(0, .ref x0)] [] (xup (xup (xup (xup h nx (xna 12 (fun _ => 0))) x0 (xo 9 [.ref nx, .null, .null, .null, .null])) (nx + 1) (xna 144 (fun _ => 0))) x0 (xo 9 [.ref nx, .ref (nx + 1), .null, .null, .null])) ((nx + 1) + 1) 2 156
  refine r_aload_n 0 dX8_init_21 rfl rfl ?_
  refine r_sipush (v := (nI 144)) dX8_init_22 rfl ?_
  refine r_newi wA_int dX8_init_25 rfl (by decide) (by decide) (by decide) ?_
  show Blk g M_X8_init post 27 [(0, .ref x0)] [.ref ((nx + 1) + 1), .ref x0] (xup (xup (xup (xup (xup h nx (xna 12 (fun _ => 0))) x0 (xo 9 [.ref nx, .null, .null, .null, .null])) (nx + 1) (xna 144 (fun _ => 0))) x0 (xo 9 [.ref nx, .ref (nx + 1), .null, .null, .null])) ((nx + 1) + 1) (xna 144 (fun _ => 0))) (((nx + 1) + 1) + 1) 3 300
  obtain ⟨n6, V⟩ := V
  have q7 : (xup (xup (xup (xup (xup h nx (xna 12 (fun _ => 0))) x0 (xo 9 [.ref nx, .null, .null, .null, .null])) (nx + 1) (xna 144 (fun _ => 0))) x0 (xo 9 [.ref nx, .ref (nx + 1), .null, .null, .null])) ((nx + 1) + 1) (xna 144 (fun _ => 0))) x0 = some (xo 9 [.ref nx, .ref (nx + 1), .null, .null, .null]) := (xup_n n6).trans (xup_s _ _ _)
  refine r_putF (ci := 9) (kf := 2) (T := TX8) rfl in_X8 tyX8_ok nmX8 (by decide) wF_X8_18 rfl rfl rfl (tyX8_ok 2 (by decide)) dX8_init_27 q7 (Nat.le_of_ble_eq_true rfl) rfl rfl ?_
  show Blk g M_X8_init post 30 [(0, .ref x0)] [] (xup (xup (xup (xup (xup (xup h nx (xna 12 (fun _ => 0))) x0 (xo 9 [.ref nx, .null, .null, .null, .null])) (nx + 1) (xna 144 (fun _ => 0))) x0 (xo 9 [.ref nx, .ref (nx + 1), .null, .null, .null])) ((nx + 1) + 1) (xna 144 (fun _ => 0))) x0 (xo 9 [.ref nx, .ref (nx + 1), .ref ((nx + 1) + 1), .null, .null])) (((nx + 1) + 1) + 1) 3 300
  refine r_aload_n 0 dX8_init_30 rfl rfl ?_
  refine r_sipush (v := (nI 144)) dX8_init_31 rfl ?_
  refine r_newi wA_int dX8_init_34 rfl (by decide) (by decide) (by decide) ?_
  show Blk g M_X8_init post 36 [(0, .ref x0)] [.ref (((nx + 1) + 1) + 1), .ref x0] (xup (xup (xup (xup (xup (xup (xup h nx (xna 12 (fun _ => 0))) x0 (xo 9 [.ref nx, .null, .null, .null, .null])) (nx + 1) (xna 144 (fun _ => 0))) x0 (xo 9 [.ref nx, .ref (nx + 1), .null, .null, .null])) ((nx + 1) + 1) (xna 144 (fun _ => 0))) x0 (xo 9 [.ref nx, .ref (nx + 1), .ref ((nx + 1) + 1), .null, .null])) (((nx + 1) + 1) + 1) (xna 144 (fun _ => 0))) ((((nx + 1) + 1) + 1) + 1) 4 444
  obtain ⟨n8, V⟩ := V
  have q9 : (xup (xup (xup (xup (xup (xup (xup h nx (xna 12 (fun _ => 0))) x0 (xo 9 [.ref nx, .null, .null, .null, .null])) (nx + 1) (xna 144 (fun _ => 0))) x0 (xo 9 [.ref nx, .ref (nx + 1), .null, .null, .null])) ((nx + 1) + 1) (xna 144 (fun _ => 0))) x0 (xo 9 [.ref nx, .ref (nx + 1), .ref ((nx + 1) + 1), .null, .null])) (((nx + 1) + 1) + 1) (xna 144 (fun _ => 0))) x0 = some (xo 9 [.ref nx, .ref (nx + 1), .ref ((nx + 1) + 1), .null, .null]) := (xup_n n8).trans (xup_s _ _ _)
  refine r_putF (ci := 9) (kf := 3) (T := TX8) rfl in_X8 tyX8_ok nmX8 (by decide) wF_X8_21 rfl rfl rfl (tyX8_ok 3 (by decide)) dX8_init_36 q9 (Nat.le_of_ble_eq_true rfl) rfl rfl ?_
  show Blk g M_X8_init post 39 [(0, .ref x0)] [] (xup (xup (xup (xup (xup (xup (xup (xup h nx (xna 12 (fun _ => 0))) x0 (xo 9 [.ref nx, .null, .null, .null, .null])) (nx + 1) (xna 144 (fun _ => 0))) x0 (xo 9 [.ref nx, .ref (nx + 1), .null, .null, .null])) ((nx + 1) + 1) (xna 144 (fun _ => 0))) x0 (xo 9 [.ref nx, .ref (nx + 1), .ref ((nx + 1) + 1), .null, .null])) (((nx + 1) + 1) + 1) (xna 144 (fun _ => 0))) x0 (xo 9 [.ref nx, .ref (nx + 1), .ref ((nx + 1) + 1), .ref (((nx + 1) + 1) + 1), .null])) ((((nx + 1) + 1) + 1) + 1) 4 444
  refine r_aload_n 0 dX8_init_39 rfl rfl ?_
  refine r_sipush (v := (nI 144)) dX8_init_40 rfl ?_
  refine r_newi wA_int dX8_init_43 rfl (by decide) (by decide) (by decide) ?_
  show Blk g M_X8_init post 45 [(0, .ref x0)] [.ref ((((nx + 1) + 1) + 1) + 1), .ref x0] (xup (xup (xup (xup (xup (xup (xup (xup (xup h nx (xna 12 (fun _ => 0))) x0 (xo 9 [.ref nx, .null, .null, .null, .null])) (nx + 1) (xna 144 (fun _ => 0))) x0 (xo 9 [.ref nx, .ref (nx + 1), .null, .null, .null])) ((nx + 1) + 1) (xna 144 (fun _ => 0))) x0 (xo 9 [.ref nx, .ref (nx + 1), .ref ((nx + 1) + 1), .null, .null])) (((nx + 1) + 1) + 1) (xna 144 (fun _ => 0))) x0 (xo 9 [.ref nx, .ref (nx + 1), .ref ((nx + 1) + 1), .ref (((nx + 1) + 1) + 1), .null])) ((((nx + 1) + 1) + 1) + 1) (xna 144 (fun _ => 0))) (((((nx + 1) + 1) + 1) + 1) + 1) 5 588
  obtain ⟨n10, V⟩ := V
  have q11 : (xup (xup (xup (xup (xup (xup (xup (xup (xup h nx (xna 12 (fun _ => 0))) x0 (xo 9 [.ref nx, .null, .null, .null, .null])) (nx + 1) (xna 144 (fun _ => 0))) x0 (xo 9 [.ref nx, .ref (nx + 1), .null, .null, .null])) ((nx + 1) + 1) (xna 144 (fun _ => 0))) x0 (xo 9 [.ref nx, .ref (nx + 1), .ref ((nx + 1) + 1), .null, .null])) (((nx + 1) + 1) + 1) (xna 144 (fun _ => 0))) x0 (xo 9 [.ref nx, .ref (nx + 1), .ref ((nx + 1) + 1), .ref (((nx + 1) + 1) + 1), .null])) ((((nx + 1) + 1) + 1) + 1) (xna 144 (fun _ => 0))) x0 = some (xo 9 [.ref nx, .ref (nx + 1), .ref ((nx + 1) + 1), .ref (((nx + 1) + 1) + 1), .null]) := (xup_n n10).trans (xup_s _ _ _)
  refine r_putF (ci := 9) (kf := 4) (T := TX8) rfl in_X8 tyX8_ok nmX8 (by decide) wF_X8_24 rfl rfl rfl (tyX8_ok 4 (by decide)) dX8_init_45 q11 (Nat.le_of_ble_eq_true rfl) rfl rfl ?_
  show Blk g M_X8_init post 48 [(0, .ref x0)] [] (xup (xup (xup (xup (xup (xup (xup (xup (xup (xup h nx (xna 12 (fun _ => 0))) x0 (xo 9 [.ref nx, .null, .null, .null, .null])) (nx + 1) (xna 144 (fun _ => 0))) x0 (xo 9 [.ref nx, .ref (nx + 1), .null, .null, .null])) ((nx + 1) + 1) (xna 144 (fun _ => 0))) x0 (xo 9 [.ref nx, .ref (nx + 1), .ref ((nx + 1) + 1), .null, .null])) (((nx + 1) + 1) + 1) (xna 144 (fun _ => 0))) x0 (xo 9 [.ref nx, .ref (nx + 1), .ref ((nx + 1) + 1), .ref (((nx + 1) + 1) + 1), .null])) ((((nx + 1) + 1) + 1) + 1) (xna 144 (fun _ => 0))) x0 (xo 9 [.ref nx, .ref (nx + 1), .ref ((nx + 1) + 1), .ref (((nx + 1) + 1) + 1), .ref ((((nx + 1) + 1) + 1) + 1)])) (((((nx + 1) + 1) + 1) + 1) + 1) 5 588
  exact r_vret dX8_init_48 rfl (by decide) (by decide) V
set_option maxRecDepth 20000 in
theorem v_X8_add_0 {g : xG} {post : xPost} {h : xHp} {nx : Nat} {x0 : Nat} {x1 : Nat} {x2 : Nat} {x3 : Nat} {x4 : Nat} {x5 : Nat} (V : (∃ (o2 : Nat) (o3 : Nat) (o4 : Nat) (o5 : Nat) (o6 : Nat), h x0 = some (xo 9 [.ref o2, .ref o3, .ref o4, .ref o5, .ref o6]) ∧ (∃ (N8 : Nat) (f9 : Nat → Nat), h o2 = some (xna N8 f9) ∧ x1 < N8 ∧ N8 < 2 ^ 31 ∧ (((f9 x1) < 2 ^ 31 ∧ 12 < 2 ^ 31) ∧ (((f9 x1) < 12 → (x1 < N8 ∧ N8 < 2 ^ 31 ∧ (∃ (N11 : Nat) (f12 : Nat → Nat), h o3 = some (xna N11 f12) ∧ ((x1 * 12) + (f9 x1)) < N11 ∧ N11 < 2 ^ 31 ∧ (∃ (N15 : Nat) (f16 : Nat → Nat), h o4 = some (xna N15 f16) ∧ o4 ≠ o3 ∧ ((x1 * 12) + (f9 x1)) < N15 ∧ N15 < 2 ^ 31 ∧ (x4 < 2 ^ 31 ∧ (x5 < 2 ^ 31 ∧ (Ct g M_X9_smallPart [.long (lN x4), .long (lN x5), .int (nI 0)] (xup (xup h o3 (xna N11 (va_up f12 ((x1 * 12) + (f9 x1)) x2))) o4 (xna N15 (va_up f16 ((x1 * 12) + (f9 x1)) x3))) nx (fun r h20 n21 => ∃ v22 : Int64, r = some (.long v22) ∧ (∃ (N24 : Nat) (f25 : Nat → Nat), h20 o5 = some (xna N24 f25) ∧ ∃ z26 : Nat, (v22.toInt32) = nI z26 ∧ ((x1 * 12) + (f9 x1)) < N24 ∧ N24 < 2 ^ 31 ∧ (∃ (o29 : Nat) (o30 : Nat) (o31 : Nat) (o32 : Nat) (o33 : Nat), h20 x0 = some (xo 9 [.ref o29, .ref o30, .ref o31, .ref o32, .ref o33]) ∧ (x4 < 2 ^ 31 ∧ (x5 < 2 ^ 31 ∧ (Ct g M_X9_smallPart [.long (lN x4), .long (lN x5), .int (nI 1)] (xup h20 o5 (xna N24 (va_up f25 ((x1 * 12) + (f9 x1)) z26))) n21 (fun r h35 n36 => ∃ v37 : Int64, r = some (.long v37) ∧ (∃ (N39 : Nat) (f40 : Nat → Nat), h35 o33 = some (xna N39 f40) ∧ ∃ z41 : Nat, (v37.toInt32) = nI z41 ∧ ((x1 * 12) + (f9 x1)) < N39 ∧ N39 < 2 ^ 31 ∧ (∃ (o44 : Nat) (o45 : Nat) (o46 : Nat) (o47 : Nat) (o48 : Nat), h35 x0 = some (xo 9 [.ref o44, .ref o45, .ref o46, .ref o47, .ref o48]) ∧ (∃ (N51 : Nat) (f52 : Nat → Nat), h35 o44 = some (xna N51 f52) ∧ o44 ≠ o33 ∧ x1 < N51 ∧ N51 < 2 ^ 31 ∧ (x1 < N51 ∧ N51 < 2 ^ 31 ∧ (post (some (.int (nI 1))) (xup (xup h35 o33 (xna N39 (va_up f40 ((x1 * 12) + (f9 x1)) z41))) o44 (xna N51 (va_up f52 x1 ((f52 x1) + 1)))) n36))))))))))))))))))) ∧ (12 ≤ (f9 x1) → (post (some (.int (nI 0))) h nx))))))) : Blk g M_X8_add post 0 [(0, .ref x0), (1, .int (nI x1)), (2, .int (nI x2)), (3, .int (nI x3)), (4, .int (nI x4)), (5, .int (nI x5))] [] h nx 0 0 := by
  refine r_aload_n 0 dX8_add_0 rfl rfl ?_
  obtain ⟨o2, o3, o4, o5, o6, q1, V⟩ := V
  refine r_getf (ci := 9) (kf := 0) (T := TX8) rfl in_X8 (by decide) wF_X8_9 dX8_add_1 q1 rfl ?_
  refine r_iload_n 1 dX8_add_4 rfl rfl ?_
  obtain ⟨N8, f9, q7, V⟩ := V
  obtain ⟨c, cN, V⟩ := V
  refine r_iald dX8_add_5 q7 rfl c cN ?_
  show Blk g M_X8_add post 6 [(0, .ref x0), (1, .int (nI x1)), (2, .int (nI x2)), (3, .int (nI x3)), (4, .int (nI x4)), (5, .int (nI x5))] [.int (nI (f9 x1))] h nx 0 0
  refine r_bipush (v := (nI 12)) dX8_add_6 rfl ?_
  obtain ⟨c, V⟩ := V
  refine r_icmp_ltN (tgt := 13) dX8_add_8 (by decide) c (fun c => ?_) (fun c => ?_)
  · have V := V.1 c
    refine r_iload_n 1 dX8_add_13 rfl rfl ?_
    refine r_bipush (v := (nI 12)) dX8_add_14 rfl ?_
    refine r_imulN dX8_add_16 ?_
    refine r_aload_n 0 dX8_add_17 rfl rfl ?_
    refine r_getf (ci := 9) (kf := 0) (T := TX8) rfl in_X8 (by decide) wF_X8_9 dX8_add_18 q1 rfl ?_
    refine r_iload_n 1 dX8_add_21 rfl rfl ?_
    obtain ⟨c, cN, V⟩ := V
    refine r_iald dX8_add_22 q7 rfl c cN ?_
    show Blk g M_X8_add post 23 [(0, .ref x0), (1, .int (nI x1)), (2, .int (nI x2)), (3, .int (nI x3)), (4, .int (nI x4)), (5, .int (nI x5))] [.int (nI (f9 x1)), .int (nI (x1 * 12))] h nx 0 0
    refine r_iaddN dX8_add_23 ?_
    refine r_istore (L' := [(6, .int (nI ((x1 * 12) + (f9 x1)))), (0, .ref x0), (1, .int (nI x1)), (2, .int (nI x2)), (3, .int (nI x3)), (4, .int (nI x4)), (5, .int (nI x5))]) dX8_add_24 (by decide) rfl ?_
    refine r_aload_n 1 dX8_add_26 rfl rfl ?_
    refine r_getf (ci := 9) (kf := 1) (T := TX8) rfl in_X8 (by decide) wF_X8_15 dX8_add_27 q1 rfl ?_
    refine r_iload 0 dX8_add_30 rfl ?_
    refine r_iload_n 3 dX8_add_32 rfl rfl ?_
    obtain ⟨N11, f12, q10, V⟩ := V
    obtain ⟨c, cN, V⟩ := V
    refine r_iastN dX8_add_33 q10 c cN ?_
    show Blk g M_X8_add post 34 [(6, .int (nI ((x1 * 12) + (f9 x1)))), (0, .ref x0), (1, .int (nI x1)), (2, .int (nI x2)), (3, .int (nI x3)), (4, .int (nI x4)), (5, .int (nI x5))] [] (xup h o3 (xna N11 (va_up f12 ((x1 * 12) + (f9 x1)) x2))) nx 0 0
    refine r_aload_n 1 dX8_add_34 rfl rfl ?_
    have q13 : (xup h o3 (xna N11 (va_up f12 ((x1 * 12) + (f9 x1)) x2))) x0 = some (xo 9 [.ref o2, .ref o3, .ref o4, .ref o5, .ref o6]) := (xup_n (x_apart q1 q10 x_oa)).trans q1
    refine r_getf (ci := 9) (kf := 2) (T := TX8) rfl in_X8 (by decide) wF_X8_18 dX8_add_35 q13 rfl ?_
    refine r_iload 0 dX8_add_38 rfl ?_
    refine r_iload_n 4 dX8_add_40 rfl rfl ?_
    obtain ⟨N15, f16, q14, V⟩ := V
    obtain ⟨n17, V⟩ := V
    have q18 : (xup h o3 (xna N11 (va_up f12 ((x1 * 12) + (f9 x1)) x2))) o4 = some (xna N15 f16) := (xup_n n17).trans q14
    obtain ⟨c, cN, V⟩ := V
    refine r_iastN dX8_add_41 q18 c cN ?_
    show Blk g M_X8_add post 42 [(6, .int (nI ((x1 * 12) + (f9 x1)))), (0, .ref x0), (1, .int (nI x1)), (2, .int (nI x2)), (3, .int (nI x3)), (4, .int (nI x4)), (5, .int (nI x5))] [] (xup (xup h o3 (xna N11 (va_up f12 ((x1 * 12) + (f9 x1)) x2))) o4 (xna N15 (va_up f16 ((x1 * 12) + (f9 x1)) x3))) nx 0 0
    refine r_aload_n 1 dX8_add_42 rfl rfl ?_
    have q19 : (xup (xup h o3 (xna N11 (va_up f12 ((x1 * 12) + (f9 x1)) x2))) o4 (xna N15 (va_up f16 ((x1 * 12) + (f9 x1)) x3))) x0 = some (xo 9 [.ref o2, .ref o3, .ref o4, .ref o5, .ref o6]) := (xup_n (x_apart q13 q18 x_oa)).trans q13
    refine r_getf (ci := 9) (kf := 3) (T := TX8) rfl in_X8 (by decide) wF_X8_21 dX8_add_43 q19 rfl ?_
    refine r_iload 0 dX8_add_46 rfl ?_
    refine r_iload 5 dX8_add_48 rfl ?_
    obtain ⟨c, V⟩ := V
    refine r_i2lN dX8_add_50 c ?_
    refine r_iload 6 dX8_add_51 rfl ?_
    obtain ⟨c, V⟩ := V
    refine r_i2lN dX8_add_53 c ?_
    refine r_iconst (v := (nI 0)) dX8_add_54 rfl ?_
    refine r_callSN (M2 := M_X9_smallPart) (n := 3) (As := [.long (lN x4), .long (lN x5), .int (nI 0)]) (fun _ q => q.2.2.1.2.2.1) (wl3 ws_X9_smallPart wI_StateShares wc_X9_smallPart) (by decide +kernel) (by decide) rfl rfl (Nat.le_of_ble_eq_true rfl) dX8_add_55 (by decide) (by decide) (Ct.imp V (fun r h20 n21 V => ?_))
    obtain ⟨v22, rfl, V⟩ := V
    show Blk g M_X8_add post 58 [(6, .int (nI ((x1 * 12) + (f9 x1)))), (0, .ref x0), (1, .int (nI x1)), (2, .int (nI x2)), (3, .int (nI x3)), (4, .int (nI x4)), (5, .int (nI x5))] [.long v22, .int (nI ((x1 * 12) + (f9 x1))), .ref o5] h20 n21 0 0
    refine r_l2i dX8_add_58 ?_
    obtain ⟨N24, f25, q23, V⟩ := V
    obtain ⟨z26, e27, V⟩ := V
    refine Blk.to (st' := [.int (nI z26), .int (nI ((x1 * 12) + (f9 x1))), .ref o5]) ?_ ⟨rfl, by rw [e27], rfl⟩
    obtain ⟨c, cN, V⟩ := V
    refine r_iastN dX8_add_59 q23 c cN ?_
    show Blk g M_X8_add post 60 [(6, .int (nI ((x1 * 12) + (f9 x1)))), (0, .ref x0), (1, .int (nI x1)), (2, .int (nI x2)), (3, .int (nI x3)), (4, .int (nI x4)), (5, .int (nI x5))] [] (xup h20 o5 (xna N24 (va_up f25 ((x1 * 12) + (f9 x1)) z26))) n21 0 0
    refine r_aload_n 1 dX8_add_60 rfl rfl ?_
    obtain ⟨o29, o30, o31, o32, o33, q28, V⟩ := V
    have q34 : (xup h20 o5 (xna N24 (va_up f25 ((x1 * 12) + (f9 x1)) z26))) x0 = some (xo 9 [.ref o29, .ref o30, .ref o31, .ref o32, .ref o33]) := (xup_n (x_apart q28 q23 x_oa)).trans q28
    refine r_getf (ci := 9) (kf := 4) (T := TX8) rfl in_X8 (by decide) wF_X8_24 dX8_add_61 q34 rfl ?_
    refine r_iload 0 dX8_add_64 rfl ?_
    refine r_iload 5 dX8_add_66 rfl ?_
    obtain ⟨c, V⟩ := V
    refine r_i2lN dX8_add_68 c ?_
    refine r_iload 6 dX8_add_69 rfl ?_
    obtain ⟨c, V⟩ := V
    refine r_i2lN dX8_add_71 c ?_
    refine r_iconst (v := (nI 1)) dX8_add_72 rfl ?_
    refine r_callSN (M2 := M_X9_smallPart) (n := 3) (As := [.long (lN x4), .long (lN x5), .int (nI 1)]) (fun _ q => q.2.2.1.2.2.1) (wl3 ws_X9_smallPart wI_StateShares wc_X9_smallPart) (by decide +kernel) (by decide) rfl rfl (Nat.le_of_ble_eq_true rfl) dX8_add_73 (by decide) (by decide) (Ct.imp V (fun r h35 n36 V => ?_))
    obtain ⟨v37, rfl, V⟩ := V
    show Blk g M_X8_add post 76 [(6, .int (nI ((x1 * 12) + (f9 x1)))), (0, .ref x0), (1, .int (nI x1)), (2, .int (nI x2)), (3, .int (nI x3)), (4, .int (nI x4)), (5, .int (nI x5))] [.long v37, .int (nI ((x1 * 12) + (f9 x1))), .ref o33] h35 n36 0 0
    refine r_l2i dX8_add_76 ?_
    obtain ⟨N39, f40, q38, V⟩ := V
    obtain ⟨z41, e42, V⟩ := V
    refine Blk.to (st' := [.int (nI z41), .int (nI ((x1 * 12) + (f9 x1))), .ref o33]) ?_ ⟨rfl, by rw [e42], rfl⟩
    obtain ⟨c, cN, V⟩ := V
    refine r_iastN dX8_add_77 q38 c cN ?_
    show Blk g M_X8_add post 78 [(6, .int (nI ((x1 * 12) + (f9 x1)))), (0, .ref x0), (1, .int (nI x1)), (2, .int (nI x2)), (3, .int (nI x3)), (4, .int (nI x4)), (5, .int (nI x5))] [] (xup h35 o33 (xna N39 (va_up f40 ((x1 * 12) + (f9 x1)) z41))) n36 0 0
    refine r_aload_n 1 dX8_add_78 rfl rfl ?_
    obtain ⟨o44, o45, o46, o47, o48, q43, V⟩ := V
    have q49 : (xup h35 o33 (xna N39 (va_up f40 ((x1 * 12) + (f9 x1)) z41))) x0 = some (xo 9 [.ref o44, .ref o45, .ref o46, .ref o47, .ref o48]) := (xup_n (x_apart q43 q38 x_oa)).trans q43
    refine r_getf (ci := 9) (kf := 0) (T := TX8) rfl in_X8 (by decide) wF_X8_9 dX8_add_79 q49 rfl ?_
    refine r_iload_n 2 dX8_add_82 rfl rfl ?_
    refine r_dup2_11 dX8_add_83 rfl rfl ?_
    obtain ⟨N51, f52, q50, V⟩ := V
    obtain ⟨n53, V⟩ := V
    have q54 : (xup h35 o33 (xna N39 (va_up f40 ((x1 * 12) + (f9 x1)) z41))) o44 = some (xna N51 f52) := (xup_n n53).trans q50
    obtain ⟨c, cN, V⟩ := V
    refine r_iald dX8_add_84 q54 rfl c cN ?_
    show Blk g M_X8_add post 85 [(6, .int (nI ((x1 * 12) + (f9 x1)))), (0, .ref x0), (1, .int (nI x1)), (2, .int (nI x2)), (3, .int (nI x3)), (4, .int (nI x4)), (5, .int (nI x5))] [.int (nI (f52 x1)), .int (nI x1), .ref o44] (xup h35 o33 (xna N39 (va_up f40 ((x1 * 12) + (f9 x1)) z41))) n36 0 0
    refine r_iconst (v := (nI 1)) dX8_add_85 rfl ?_
    refine r_iaddN dX8_add_86 ?_
    obtain ⟨c, cN, V⟩ := V
    refine r_iastN dX8_add_87 q54 c cN ?_
    show Blk g M_X8_add post 88 [(6, .int (nI ((x1 * 12) + (f9 x1)))), (0, .ref x0), (1, .int (nI x1)), (2, .int (nI x2)), (3, .int (nI x3)), (4, .int (nI x4)), (5, .int (nI x5))] [] (xup (xup h35 o33 (xna N39 (va_up f40 ((x1 * 12) + (f9 x1)) z41))) o44 (xna N51 (va_up f52 x1 ((f52 x1) + 1)))) n36 0 0
    refine r_iconst (v := (nI 1)) dX8_add_88 rfl ?_
    exact r_zret (ty := .boolean) dX8_add_89 rfl rfl (by decide) (by decide) V
  · have V := V.2 c
    refine r_iconst (v := (nI 0)) dX8_add_11 rfl ?_
    exact r_zret (ty := .boolean) dX8_add_12 rfl rfl (by decide) (by decide) V
set_option maxRecDepth 20000 in
theorem v_X8_applyTo_0 {g : xG} {post : xPost} {h : xHp} {nx : Nat} {x0 : Nat} {x1 : Nat} {x2 : Nat} (V : Blk g M_X8_applyTo post 2 [(0, .ref x0), (1, .ref x1), (2, .int (nI x2)), (3, .int (nI 0))] [] h nx 0 0) : Blk g M_X8_applyTo post 0 [(0, .ref x0), (1, .ref x1), (2, .int (nI x2))] [] h nx 0 0 := by
  refine r_iconst (v := (nI 0)) dX8_applyTo_0 rfl ?_
  refine r_istore_n (L' := [(3, .int (nI 0)), (0, .ref x0), (1, .ref x1), (2, .int (nI x2))]) dX8_applyTo_1 rfl (by decide) rfl ?_
  exact Blk.sub [1, 2, 3, 0] rfl V
set_option maxRecDepth 20000 in
theorem v_X8_applyTo_2 {g : xG} {post : xPost} {h : xHp} {nx : Nat} {x0 : Nat} {x1 : Nat} {x2 : Nat} {x3 : Nat} (V : (∃ (o2 : Nat) (o3 : Nat) (o4 : Nat) (o5 : Nat) (o6 : Nat), h x0 = some (xo 9 [.ref o2, .ref o3, .ref o4, .ref o5, .ref o6]) ∧ (∃ (N8 : Nat) (f9 : Nat → Nat), h o2 = some (xna N8 f9) ∧ x2 < N8 ∧ N8 < 2 ^ 31 ∧ ((x3 < 2 ^ 31 ∧ (f9 x2) < 2 ^ 31) ∧ (((f9 x2) ≤ x3 → (post none h nx)) ∧ (x3 < (f9 x2) → (∃ (N11 : Nat) (f12 : Nat → Nat), h o3 = some (xna N11 f12) ∧ ((x2 * 12) + x3) < N11 ∧ N11 < 2 ^ 31 ∧ (∃ (N14 : Nat) (f15 : Nat → Nat), h o4 = some (xna N14 f15) ∧ ((x2 * 12) + x3) < N14 ∧ N14 < 2 ^ 31 ∧ (∃ (N17 : Nat) (f18 : Nat → Nat), h o5 = some (xna N17 f18) ∧ ((x2 * 12) + x3) < N17 ∧ N17 < 2 ^ 31 ∧ (∃ (N20 : Nat) (f21 : Nat → Nat), h o6 = some (xna N20 f21) ∧ ((x2 * 12) + x3) < N20 ∧ N20 < 2 ^ 31 ∧ (∃ (o25 : Nat) (o26 : Nat) (o27 : Nat), h x1 = some (xo 6 [.ref o25, .ref o26, .ref o27]) ∧ Ct g M_X5_transfer [.ref x1, .int (nI (f12 ((x2 * 12) + x3))), .int (nI (f15 ((x2 * 12) + x3))), .int (nI (f18 ((x2 * 12) + x3))), .int (nI (f21 ((x2 * 12) + x3)))] h nx (fun r h22 n23 => r = none ∧ Blk g M_X8_applyTo post 2 [(0, .ref x0), (1, .ref x1), (2, .int (nI x2)), (3, .int (nI (x3 + 1)))] [] h22 n23 0 0)))))))))))) : Blk g M_X8_applyTo post 2 [(0, .ref x0), (1, .ref x1), (2, .int (nI x2)), (3, .int (nI x3))] [] h nx 0 0 := by
  refine r_iload_n 3 dX8_applyTo_2 rfl rfl ?_
  refine r_aload_n 0 dX8_applyTo_3 rfl rfl ?_
  obtain ⟨o2, o3, o4, o5, o6, q1, V⟩ := V
  refine r_getf (ci := 9) (kf := 0) (T := TX8) rfl in_X8 (by decide) wF_X8_9 dX8_applyTo_4 q1 rfl ?_
  refine r_iload_n 2 dX8_applyTo_7 rfl rfl ?_
  obtain ⟨N8, f9, q7, V⟩ := V
  obtain ⟨c, cN, V⟩ := V
  refine r_iald dX8_applyTo_8 q7 rfl c cN ?_
  show Blk g M_X8_applyTo post 9 [(0, .ref x0), (1, .ref x1), (2, .int (nI x2)), (3, .int (nI x3))] [.int (nI (f9 x2)), .int (nI x3)] h nx 0 0
  obtain ⟨c, V⟩ := V
  refine r_icmp_geN (tgt := 58) dX8_applyTo_9 (by decide) c (fun c => ?_) (fun c => ?_)
  · have V := V.1 c
    exact r_vret dX8_applyTo_58 rfl (by decide) (by decide) V
  · have V := V.2 c
    refine r_iload_n 2 dX8_applyTo_12 rfl rfl ?_
    refine r_bipush (v := (nI 12)) dX8_applyTo_13 rfl ?_
    refine r_imulN dX8_applyTo_15 ?_
    refine r_iload_n 3 dX8_applyTo_16 rfl rfl ?_
    refine r_iaddN dX8_applyTo_17 ?_
    refine r_istore (L' := [(4, .int (nI ((x2 * 12) + x3))), (0, .ref x0), (1, .ref x1), (2, .int (nI x2)), (3, .int (nI x3))]) dX8_applyTo_18 (by decide) rfl ?_
    refine r_aload_n 2 dX8_applyTo_20 rfl rfl ?_
    refine r_aload_n 1 dX8_applyTo_21 rfl rfl ?_
    refine r_getf (ci := 9) (kf := 1) (T := TX8) rfl in_X8 (by decide) wF_X8_15 dX8_applyTo_22 q1 rfl ?_
    refine r_iload 0 dX8_applyTo_25 rfl ?_
    obtain ⟨N11, f12, q10, V⟩ := V
    obtain ⟨c, cN, V⟩ := V
    refine r_iald dX8_applyTo_27 q10 rfl c cN ?_
    show Blk g M_X8_applyTo post 28 [(4, .int (nI ((x2 * 12) + x3))), (0, .ref x0), (1, .ref x1), (2, .int (nI x2)), (3, .int (nI x3))] [.int (nI (f12 ((x2 * 12) + x3))), .ref x1] h nx 0 0
    refine r_aload_n 1 dX8_applyTo_28 rfl rfl ?_
    refine r_getf (ci := 9) (kf := 2) (T := TX8) rfl in_X8 (by decide) wF_X8_18 dX8_applyTo_29 q1 rfl ?_
    refine r_iload 0 dX8_applyTo_32 rfl ?_
    obtain ⟨N14, f15, q13, V⟩ := V
    obtain ⟨c, cN, V⟩ := V
    refine r_iald dX8_applyTo_34 q13 rfl c cN ?_
    show Blk g M_X8_applyTo post 35 [(4, .int (nI ((x2 * 12) + x3))), (0, .ref x0), (1, .ref x1), (2, .int (nI x2)), (3, .int (nI x3))] [.int (nI (f15 ((x2 * 12) + x3))), .int (nI (f12 ((x2 * 12) + x3))), .ref x1] h nx 0 0
    refine r_aload_n 1 dX8_applyTo_35 rfl rfl ?_
    refine r_getf (ci := 9) (kf := 3) (T := TX8) rfl in_X8 (by decide) wF_X8_21 dX8_applyTo_36 q1 rfl ?_
    refine r_iload 0 dX8_applyTo_39 rfl ?_
    obtain ⟨N17, f18, q16, V⟩ := V
    obtain ⟨c, cN, V⟩ := V
    refine r_iald dX8_applyTo_41 q16 rfl c cN ?_
    show Blk g M_X8_applyTo post 42 [(4, .int (nI ((x2 * 12) + x3))), (0, .ref x0), (1, .ref x1), (2, .int (nI x2)), (3, .int (nI x3))] [.int (nI (f18 ((x2 * 12) + x3))), .int (nI (f15 ((x2 * 12) + x3))), .int (nI (f12 ((x2 * 12) + x3))), .ref x1] h nx 0 0
    refine r_aload_n 1 dX8_applyTo_42 rfl rfl ?_
    refine r_getf (ci := 9) (kf := 4) (T := TX8) rfl in_X8 (by decide) wF_X8_24 dX8_applyTo_43 q1 rfl ?_
    refine r_iload 0 dX8_applyTo_46 rfl ?_
    obtain ⟨N20, f21, q19, V⟩ := V
    obtain ⟨c, cN, V⟩ := V
    refine r_iald dX8_applyTo_48 q19 rfl c cN ?_
    show Blk g M_X8_applyTo post 49 [(4, .int (nI ((x2 * 12) + x3))), (0, .ref x0), (1, .ref x1), (2, .int (nI x2)), (3, .int (nI x3))] [.int (nI (f21 ((x2 * 12) + x3))), .int (nI (f18 ((x2 * 12) + x3))), .int (nI (f15 ((x2 * 12) + x3))), .int (nI (f12 ((x2 * 12) + x3))), .ref x1] h nx 0 0
    obtain ⟨o25, o26, o27, q24, V⟩ := V
    refine r_callV (M2 := M_X5_transfer) (ci := 6) (n := 4) (As := [.int (nI (f12 ((x2 * 12) + x3))), .int (nI (f15 ((x2 * 12) + x3))), .int (nI (f18 ((x2 * 12) + x3))), .int (nI (f21 ((x2 * 12) + x3)))]) rfl (wl5 wM_X8_31 wi_X5_transfer wS_X5_transfer wI_StateShares_Row wc_X5_transfer) (by decide +kernel) (by decide) rfl rfl (Nat.le_of_ble_eq_true rfl) dX8_applyTo_49 q24 (by decide) (by decide) (Ct.imp V (fun r h22 n23 V => ?_))
    obtain ⟨rfl, V⟩ := V
    show Blk g M_X8_applyTo post 52 [(4, .int (nI ((x2 * 12) + x3))), (0, .ref x0), (1, .ref x1), (2, .int (nI x2)), (3, .int (nI x3))] [] h22 n23 0 0
    refine r_iincN 4 (b := 1) (L' := [(3, .int (nI (x3 + 1))), (4, .int (nI ((x2 * 12) + x3))), (0, .ref x0), (1, .ref x1), (2, .int (nI x2))]) dX8_applyTo_52 rfl rfl (by decide) rfl ?_
    refine r_goto (tgt := 2) dX8_applyTo_55 (by decide) ?_
    exact Blk.sub [2, 3, 4, 0] rfl V
